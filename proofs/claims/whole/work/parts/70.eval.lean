/-! ===== rules: what both sides make of codes and signs ===== -/
theorem n210 : (210 : Int32) = nI 210 := rfl
/-- a pile of truths, the top first -/
def StC : List Bool → (Nat → Int32) → Prop
  | [], _ => True
  | b :: s, st => st s.length = b01 b ∧ StC s st
theorem StC_upd {v : Int32} {k : Nat} : ∀ {s : List Bool} {st : Nat → Int32}, s.length ≤ k → StC s st → StC s (upd st k v)
  | [], _, _, _ => trivial
  | b :: s, st, h, q => by
    have h2 : s.length + 1 ≤ k := h
    exact ⟨by rw [upd_n (by omega)]; exact q.1, StC_upd (by omega) q.2⟩
theorem f6_push_s {n : Nat} (hn : n < 210) (st : Nat → Int32) (v : Int32) : f6_push (nI n) st v = some (nI (n + 1), upd st n v) := by
  unfold f6_push
  rw [if_neg (nge n210 hn (by omega)), gdi hn (by omega), nI_clamp (by omega), nI_1]
theorem f6_pop_s {n : Nat} (hn : n < 210) (st : Nat → Int32) : f6_pop (nI (n + 1)) st = some (st n, nI n) := by
  unfold f6_pop
  rw [if_neg (nI_nle (by omega) (by omega)), nI_pred, gdi hn (by omega), nI_clamp (by omega)]
theorem ob_val {x n : Nat} (hx : x < 1006) (hn : n < 210) (a : Int32) (fa st : Nat → Int32) : f6_obey a (nI n) fa st (nI x) = some (a, nI (n + 1), upd st n (valI fa x)) := by
  unfold f6_obey valI
  by_cases h : x < 1000
  · rw [if_neg (show ¬ (1000 : Int32) ≤ nI x from nI_ge (b := 1000) h (by omega)), if_pos h, f6_push_s hn, bn2E]
  · rw [if_pos (show (1000 : Int32) ≤ nI x from nI_le (a := 1000) (by omega) (by omega)), if_neg (show ¬ (2000 : Int32) ≤ nI x from nI_ge (b := 2000) (by omega) (by omega)), if_neg h, show nI x - 1000 = nI (x - 1000) from pk_sub (b := 1000) (by omega)]
    simp only [jnE]
    rw [if_neg (show ¬ (6 : Int32) ≤ nI (x - 1000) from nI_ge (b := 6) (by omega) (by omega)), gdi (by omega) (by omega), nI_clamp (by omega), f6_push_s hn, bn2E]
theorem b01_ite {p : Prop} [Decidable p] : b01 (decide p) = if p then 1 else 0 := by
  by_cases h : p
  · rw [decide_eq_true h, if_pos h]; rfl
  · rw [decide_eq_false h, if_neg h]; rfl
theorem f6_compare_s {t n : Nat} (ht : t < 3) (hn : n + 1 < 210) (st : Nat → Int32) : f6_compare (nI (n + 2)) st (nI (2000 + t)) = some (nI (n + 1), upd st n (b01 (cmpI t (st n) (st (n + 1))))) := by
  have e1 : ¬ (1 : Int32) = 0 := by decide
  have hp : ∀ v, f6_push (nI n) st v = some (nI (n + 1), upd st n v) := fun v => f6_push_s (by omega) st v
  unfold f6_compare cmpI
  rw [f6_pop_s (n := n + 1) hn, bn2E, f6_pop_s (by omega), bn2E]
  simp only [jnE, hp, bn2E, b01_ite]
  rcases (by omega : t = 0 ∨ t = 1 ∨ t = 2) with rfl | rfl | rfl
  · rw [if_pos (show nI (2000 + 0) = 2000 from rfl), if_pos rfl]
    by_cases h : st n < st (n + 1)
    · rw [if_neg (fun q => Int32.not_le.mpr h q), if_neg e1, decide_eq_true h]; rfl
    · rw [if_pos (Int32.not_lt.mp h), if_pos trivial, decide_eq_false h]; rfl
  · rw [if_neg (show ¬ nI (2000 + 1) = 2000 by decide), if_pos (show nI (2000 + 1) = 2001 from rfl), if_neg (show ¬ (1 : Nat) = 0 by decide), if_pos (show (1 : Nat) = 1 from rfl)]
    by_cases h : st n = st (n + 1)
    · rw [if_pos h, if_neg e1, decide_eq_true h]; rfl
    · rw [if_neg h, if_pos trivial, decide_eq_false h]; rfl
  · rw [if_neg (show ¬ nI (2000 + 2) = 2000 by decide), if_neg (show ¬ nI (2000 + 2) = 2001 by decide), if_neg (show ¬ (2 : Nat) = 0 by decide), if_neg (show ¬ (2 : Nat) = 1 by decide)]
    by_cases h : st (n + 1) < st n
    · rw [if_neg (fun q => Int32.not_le.mpr h q), if_neg e1, decide_eq_true h]; rfl
    · rw [if_pos (Int32.not_lt.mp h), if_pos trivial, decide_eq_false h]; rfl
theorem ob_cmp {t n : Nat} (ht : t < 3) (hn : n + 1 < 210) (a : Int32) (fa st : Nat → Int32) : f6_obey a (nI (n + 2)) fa st (nI (2000 + t)) = some (a, nI (n + 1), upd st n (b01 (cmpI t (st n) (st (n + 1))))) := by
  unfold f6_obey
  rw [if_pos (show (1000 : Int32) ≤ nI (2000 + t) from nI_le (a := 1000) (by omega) (by omega)), if_pos (show (2000 : Int32) ≤ nI (2000 + t) from nI_le (a := 2000) (by omega) (by omega)), if_neg (show ¬ (2003 : Int32) ≤ nI (2000 + t) from nI_ge (b := 2003) (by omega) (by omega)), f6_compare_s ht hn, bn2E]
theorem ob_not {n : Nat} (hn : n < 210) (a : Int32) (fa st : Nat → Int32) (b : Bool) (hb : st n = b01 b) : f6_obey a (nI (n + 1)) fa st (nI 2003) = some (a, nI (n + 1), upd st n (b01 (!b))) := by
  unfold f6_obey
  rw [if_pos (by decide), if_pos (by decide), if_pos (by decide), if_pos (show nI 2003 = 2003 from rfl), f6_pop_s hn, bn2E, f6_push_s hn, bn2E, hb]
  cases b <;> rfl
theorem ob_and {n : Nat} (hn : n + 1 < 210) (a : Int32) (fa st : Nat → Int32) (x y : Bool) (hx : st n = b01 x) (hy : st (n + 1) = b01 y) : f6_obey a (nI (n + 2)) fa st (nI 2004) = some (a, nI (n + 1), upd st n (b01 (x && y))) := by
  unfold f6_obey
  rw [if_pos (by decide), if_pos (by decide), if_pos (by decide), if_neg (show ¬ nI 2004 = 2003 by decide), if_pos (show nI 2004 = 2004 from rfl), f6_pop_s (n := n + 1) hn, bn2E, f6_pop_s (by omega), bn2E, f6_push_s (by omega), bn2E, hx, hy]
  cases x <;> cases y <;> rfl
theorem ob_or {n : Nat} (hn : n + 1 < 210) (a : Int32) (fa st : Nat → Int32) (x y : Bool) (hx : st n = b01 x) (hy : st (n + 1) = b01 y) : f6_obey a (nI (n + 2)) fa st (nI 2005) = some (a, nI (n + 1), upd st n (b01 (x || y))) := by
  unfold f6_obey
  rw [if_pos (by decide), if_pos (by decide), if_pos (by decide), if_neg (show ¬ nI 2005 = 2003 by decide), if_neg (show ¬ nI 2005 = 2004 by decide), if_pos (show nI 2005 = 2005 from rfl), f6_pop_s (n := n + 1) hn, bn2E, f6_pop_s (by omega), bn2E, f6_push_s (by omega), bn2E, hx, hy]
  cases x <;> cases y <;> rfl
/-- codes one after the other -/
def foO (fa : Nat → Int32) : List Nat → Int32 × Int32 × (Nat → Int32) → Option (Int32 × Int32 × (Nat → Int32))
  | [], s => some s
  | c :: l, s => Option.bind (f6_obey s.1 s.2.1 fa s.2.2 (nI c)) (foO fa l)
theorem foO_app (fa : Nat → Int32) : ∀ (l m : List Nat) s, foO fa (l ++ m) s = Option.bind (foO fa l s) (foO fa m)
  | [], m, s => rfl
  | c :: l, m, s => by
    rw [List.cons_append, foO, foO]
    cases f6_obey s.1 s.2.1 fa s.2.2 (nI c) with
    | none => rfl
    | some q => exact foO_app fa l m q
theorem cC_lt {i : It} (h : i.1 < 3) : cC i = [i.2.1, i.2.2, 2000 + i.1] := if_pos h
theorem cC_ge {i : It} (h : ¬ i.1 < 3) : cC i = [2000 + i.1] := if_neg h
/-- items of a condition, for the class -/
theorem it_run (fa : Nat → Int32) (a : Int32) : ∀ (l : List It) (s s' : List Bool) (st : Nat → Int32), (∀ i ∈ l, okI i) → evs fa l s = some s' → StC s st → s.length + (l.flatMap cC).length ≤ 209 → ∃ st', foO fa (l.flatMap cC) (a, nI s.length, st) = some (a, nI s'.length, st') ∧ StC s' st'
  | [], s, s', st, _, he, hst, _ => by
    rw [evs] at he
    cases he
    exact ⟨st, rfl, hst⟩
  | i :: l, s, s', st, hok, he, hst, hlen => by
    obtain ⟨h6, hx, hy⟩ := hok i (List.mem_cons_self)
    have hok2 : ∀ j ∈ l, okI j := fun j hj => hok j (List.mem_cons_of_mem _ hj)
    rw [List.flatMap_cons, List.length_append] at hlen
    rw [evs] at he
    rw [List.flatMap_cons, foO_app]
    by_cases h3 : i.1 < 3
    · rw [cC_lt h3] at hlen ⊢
      simp only [List.length_cons, List.length_nil] at hlen
      have hv : ev1 fa i s = some (cmpI i.1 (valI fa i.2.1) (valI fa i.2.2) :: s) := if_pos h3
      rw [hv] at he
      have g1 := ob_val hx (show s.length < 210 by omega) a fa st
      have g2 := ob_val hy (show s.length + 1 < 210 by omega) a fa (upd st s.length (valI fa i.2.1))
      have g3 := ob_cmp h3 (show s.length + 1 < 210 by omega) a fa (upd (upd st s.length (valI fa i.2.1)) (s.length + 1) (valI fa i.2.2))
      rw [upd_s, upd_n (show s.length ≠ s.length + 1 by omega), upd_s] at g3
      have e : foO fa [i.2.1, i.2.2, 2000 + i.1] (a, nI s.length, st) = some (a, nI (s.length + 1), upd (upd (upd st s.length (valI fa i.2.1)) (s.length + 1) (valI fa i.2.2)) s.length (b01 (cmpI i.1 (valI fa i.2.1) (valI fa i.2.2)))) := by
        rw [foO, g1, Option.bind_some, foO, g2, Option.bind_some, foO, g3, Option.bind_some, foO]
      rw [e, Option.bind_some]
      exact it_run fa a l (cmpI i.1 (valI fa i.2.1) (valI fa i.2.2) :: s) s' _ hok2 he ⟨upd_s, StC_upd (Nat.le_refl _) (StC_upd (by omega) (StC_upd (Nat.le_refl _) hst))⟩ (by rw [List.length_cons]; omega)
    · rw [cC_ge h3] at hlen ⊢
      simp only [List.length_cons, List.length_nil] at hlen
      by_cases h4 : i.1 = 3
      · unfold ev1 at he
        rw [if_neg h3, if_pos h4] at he
        cases s with
        | nil =>
          have he2 : (none : Option (List Bool)) = some s' := he
          cases he2
        | cons b s =>
          have g := ob_not (n := s.length) (by rw [List.length_cons] at hlen; omega) a fa st b hst.1
          have e : foO fa [2000 + i.1] (a, nI (b :: s).length, st) = some (a, nI (s.length + 1), upd st s.length (b01 (!b))) := by
            rw [h4, foO, List.length_cons]
            show Option.bind (f6_obey a (nI (s.length + 1)) fa st (nI 2003)) _ = _
            rw [g, Option.bind_some, foO]
          rw [e, Option.bind_some]
          exact it_run fa a l ((!b) :: s) s' _ hok2 he ⟨upd_s, StC_upd (Nat.le_refl _) hst.2⟩ (by rw [List.length_cons] at hlen ⊢; omega)
      · unfold ev1 at he
        rw [if_neg h3, if_neg h4] at he
        cases s with
        | nil =>
          have he2 : (none : Option (List Bool)) = some s' := he
          cases he2
        | cons b s =>
          cases s with
          | nil =>
            have he2 : (none : Option (List Bool)) = some s' := he
            cases he2
          | cons x s =>
            have hl2 : s.length + 1 < 210 := by rw [List.length_cons, List.length_cons] at hlen; omega
            have e : foO fa [2000 + i.1] (a, nI (b :: x :: s).length, st) = some (a, nI (s.length + 1), upd st s.length (b01 (if i.1 = 4 then x && b else x || b))) := by
              by_cases h5 : i.1 = 4
              · rw [h5, if_pos rfl, foO, List.length_cons, List.length_cons]
                show Option.bind (f6_obey a (nI (s.length + 2)) fa st (nI 2004)) _ = _
                rw [ob_and hl2 a fa st x b hst.2.1 hst.1, Option.bind_some, foO]
              · have h6 : i.1 = 5 := by omega
                rw [h6, if_neg (by decide), foO, List.length_cons, List.length_cons]
                show Option.bind (f6_obey a (nI (s.length + 2)) fa st (nI 2005)) _ = _
                rw [ob_or hl2 a fa st x b hst.2.1 hst.1, Option.bind_some, foO]
            rw [e, Option.bind_some]
            exact it_run fa a l ((if i.1 = 4 then x && b else x || b) :: s) s' _ hok2 he ⟨upd_s, StC_upd (Nat.le_refl _) hst.2.2⟩ (by rw [List.length_cons, List.length_cons] at hlen; rw [List.length_cons]; omega)
/-- a clause holds -/
def hoC (f : Nat → Int32) (c : Cl) : Bool := c.2.1.isEmpty || decide (evs f c.2.1 [] = some [true])
/-- what the clauses say, behind a -/
def sayC (f : Nat → Int32) : List Cl → Bool → Bool
  | [], a => a
  | c :: L, a => sayC f L (if hoC f c = true then c.1 else a)
theorem cl_run (fa : Nat → Int32) (c : Cl) (hc : okC c) (a : Bool) (st : Nat → Int32) (hlen : (codC c).length ≤ 209) : ∃ st', foO fa (codC c) (b01 a, 0, st) = some (b01 (if hoC fa c = true then c.1 else a), 0, st') := by
  obtain ⟨k1, k2, k3, k4⟩ := hc
  unfold codC at hlen ⊢
  rw [foO_app]
  by_cases he : c.2.1 = []
  · have h1 : hoC fa c = true := by unfold hoC; rw [he]; rfl
    refine ⟨st, ?_⟩
    rw [he, if_pos rfl, h1, if_pos rfl]
    show Option.bind (some (b01 a, 0, st)) _ = _
    rw [Option.bind_some, foO]
    cases c.1 with
    | true =>
      show Option.bind (f6_obey (b01 a) 0 fa st (nI 2011)) _ = _
      unfold f6_obey
      simp only [jnE]
      rw [if_pos (by decide), if_pos (by decide), if_pos (by decide), if_neg (by decide), if_neg (by decide), if_neg (by decide), if_neg (by decide), if_pos (by decide), if_pos (by decide)]
      rfl
    | false =>
      show Option.bind (f6_obey (b01 a) 0 fa st (nI 2010)) _ = _
      unfold f6_obey
      simp only [jnE]
      rw [if_pos (by decide), if_pos (by decide), if_pos (by decide), if_neg (by decide), if_neg (by decide), if_neg (by decide), if_pos (by decide), if_neg (by decide)]
      rfl
  · obtain ⟨b, hb, -⟩ := k4 he fa
    rw [List.length_append] at hlen
    obtain ⟨st', h1, h2⟩ := it_run fa (b01 a) c.2.1 [] [b] st k2 hb trivial (by simp only [List.length_nil, List.length_cons] at hlen ⊢; omega)
    have h3 : hoC fa c = b := by
      unfold hoC
      rw [hb]
      cases hq : c.2.1 with
      | nil => exact absurd hq he
      | cons _ _ => cases b <;> rfl
    refine ⟨st', ?_⟩
    rw [h3, if_neg he]
    rw [show (foO fa (c.2.1.flatMap cC) (b01 a, 0, st)) = some (b01 a, nI 1, st') from h1, Option.bind_some, foO]
    have hp : f6_pop (nI (0 + 1)) st' = some (b01 b, nI 0) := by rw [f6_pop_s (by omega), show st' 0 = b01 b from h2.1]
    cases c.1 with
    | true =>
      show Option.bind (f6_obey (b01 a) (nI (0 + 1)) fa st' (nI 2013)) _ = _
      unfold f6_obey
      simp only [jnE]
      rw [if_pos (by decide), if_pos (by decide), if_pos (by decide), if_neg (by decide), if_neg (by decide), if_neg (by decide), if_neg (by decide), if_neg (by decide), hp, bn2E]
      cases b with
      | true => rw [if_pos (by decide), if_pos (by decide)]; rfl
      | false => rw [if_neg (by decide)]; rfl
    | false =>
      show Option.bind (f6_obey (b01 a) (nI (0 + 1)) fa st' (nI 2012)) _ = _
      unfold f6_obey
      simp only [jnE]
      rw [if_pos (by decide), if_pos (by decide), if_pos (by decide), if_neg (by decide), if_neg (by decide), if_neg (by decide), if_neg (by decide), if_neg (by decide), hp, bn2E]
      cases b with
      | true => rw [if_pos (by decide), if_neg (by decide)]; rfl
      | false => rw [if_neg (by decide)]; rfl
theorem cls_run (fa : Nat → Int32) : ∀ (L : List Cl) (a : Bool) (st : Nat → Int32), (∀ c ∈ L, okC c) → (L.flatMap codC).length ≤ 209 → ∃ st', foO fa (L.flatMap codC) (b01 a, 0, st) = some (b01 (sayC fa L a), 0, st')
  | [], a, st, _, _ => ⟨st, rfl⟩
  | c :: L, a, st, hok, hlen => by
    rw [List.flatMap_cons, List.length_append] at hlen
    obtain ⟨st1, h1⟩ := cl_run fa c (hok c List.mem_cons_self) a st (by omega)
    obtain ⟨st2, h2⟩ := cls_run fa L (if hoC fa c = true then c.1 else a) st1 (fun d hd => hok d (List.mem_cons_of_mem _ hd)) (by omega)
    refine ⟨st2, ?_⟩
    rw [List.flatMap_cons, foO_app, h1, Option.bind_some, h2, sayC]
/-- the class's loop over its codes -/
theorem ask_run {n : Nat} (hn : n ≤ 209) (fa codes : Nat → Int32) (K : Int32 → Int32 → Int32 → (Nat → Int32) → Option (Int32 × Int32 × Int32 × (Nat → Int32))) : ∀ (l : List Nat) (i fu : Nat) (s : Int32 × Int32 × (Nat → Int32)), (∀ k, k < l.length → codes (i + k) = nI (l.getD k 0)) → i + l.length = n → l.length < fu → f6_ask_L12 (nI n) fa codes fu (nI i) s.1 s.2.1 s.2.2 K = Option.bind (foO fa l s) fun t => K (nI n) t.1 t.2.1 t.2.2
  | [], i, fu, s, _, h2, h3 => by
    obtain ⟨f, rfl⟩ : ∃ f, fu = f + 1 := ⟨fu - 1, by omega⟩
    have e : i = n := h2
    subst e
    simp only [f6_ask_L12]
    rw [if_pos (nI_le (Nat.le_refl _) (by omega)), foO, Option.bind_some]
  | c :: l, i, fu, s, h1, h2, h3 => by
    obtain ⟨f, rfl⟩ : ∃ f, fu = f + 1 := ⟨fu - 1, by omega⟩
    have hl : (c :: l).length = l.length + 1 := rfl
    have hc : codes i = nI c := h1 0 (by omega)
    simp only [f6_ask_L12]
    rw [if_neg (nI_ge (by omega) (by omega)), if_neg (nge n210 (show i < 210 by omega) (by omega)), gdi (by omega) (by omega), nI_clamp (by omega), hc, nI_1, foO]
    cases hq : f6_obey s.1 s.2.1 fa s.2.2 (nI c) with
    | none => rfl
    | some q =>
      rw [Option.bind_some, show bn3 (some q) (fun c8 c9 c10 => f6_ask_L12 (nI n) fa codes f (nI (i + 1)) c8 c9 c10 K) = f6_ask_L12 (nI n) fa codes f (nI (i + 1)) q.1 q.2.1 q.2.2 K from bn3E q.1 q.2.1 q.2.2 _]
      exact ask_run hn fa codes K l (i + 1) f q (fun k hk => by
        have := h1 (k + 1) (by omega)
        rw [show i + (k + 1) = i + 1 + k by omega] at this
        exact this) (by omega) (by omega)
theorem f6_ask_s {L : List Cl} {cnt : Int32} {codes : Nat → Int32} (hok : ∀ c ∈ L, okC c) (h1 : (L.flatMap codC).length ≤ 209) (h2 : cnt = nI (L.flatMap codC).length) (h3 : ∀ i, i < (L.flatMap codC).length → codes i = nI ((L.flatMap codC).getD i 0)) (fa : Nat → Int32) (a0 h0 : Int32) (st : Nat → Int32) : ∃ c3 c4, f6_ask a0 cnt h0 fa codes st = some (b01 (sayC fa L false), b01 (sayC fa L false), c3, c4) := by
  obtain ⟨st', hst⟩ := cls_run fa L false st hok h1
  refine ⟨0, st', ?_⟩
  simp only [f6_ask, jnE]
  have hr := ask_run h1 fa codes (fun (_ : Int32) c2 c3 c4 => gd (bz c2) (some (c2, c2, c3, c4))) (L.flatMap codC) 0 FU (0, 0, st) (fun k hk => by rw [Nat.zero_add]; exact h3 k hk) (by omega) (FU_lt (by omega))
  rw [show foO fa (L.flatMap codC) (0, 0, st) = some (b01 (sayC fa L false), 0, st') from hst, Option.bind_some] at hr
  rw [h2, n0]
  refine (show _ = _ from hr).trans ?_
  rw [b01_bz, gd_t]
  rfl
