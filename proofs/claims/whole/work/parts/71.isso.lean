/-! ===== rules: the reference ===== -/
theorem vM_lt {x : Nat} (h : x < 1006) : vM x < 20006 := by unfold vM; split <;> omega
theorem vM_p {x : Nat} (h : x < 1000) : nI (vM x) < 20000 := by
  unfold vM; rw [if_pos h]; exact nI_lt (b := 20000) (by omega) (by omega)
theorem vM_q {x : Nat} (h : ¬ x < 1000) (hx : x < 1006) : ¬ nI (vM x) < 20000 := by
  unfold vM; rw [if_neg h]; exact nI_nlt (b := 20000) (by omega) (by omega)
theorem vM_vp {x : Nat} (h : x < 1000) (fa : Nat → Int32) : nI (vM x) = valI fa x := by
  unfold vM valI; rw [if_pos h, if_pos h]
theorem vM_vq {x : Nat} (h : ¬ x < 1000) (hx : x < 1006) : nI (vM x) - 20000 = nI (x - 1000) := by
  unfold vM; rw [if_neg h]
  exact (pk_sub (b := 20000) (by omega)).trans (by rw [show 20000 + (x - 1000) - 20000 = x - 1000 by omega])
theorem vM_vr {x : Nat} (h : ¬ x < 1000) (fa : Nat → Int32) : fa (x - 1000) = valI fa x := by
  unfold valI; rw [if_neg h]
theorem nb0 : vp_nar .boolean (0 : Int32) = 0 := rfl
theorem nb1 : vp_nar .boolean (1 : Int32) = 1 := rfl
theorem so_fin1 {R : Type} (a b : Int32) (h : True) (F : Int32 → R) : (if b ≤ a then F 0 else F 1) = F (b01 (decide (a < b))) := by
  by_cases h : a < b
  · rw [if_neg (fun q => Int32.not_le.mpr h q), decide_eq_true h]; rfl
  · rw [if_pos (Int32.not_lt.mp h), decide_eq_false h]; rfl
theorem so_fin2 {R : Type} (a b : Int32) (h : True) (F : Int32 → R) : (if a = b then F 1 else F 0) = F (b01 (decide (a = b))) := by
  by_cases h : a = b
  · rw [if_pos h, decide_eq_true h]; rfl
  · rw [if_neg h, decide_eq_false h]; rfl
theorem so_cmp {sg fa pile : Nat → Int32} {t x y n k to fu : Nat} (ht : t < 3) (hx : x < 1006) (hy : y < 1006) (hn : n < 100) (hk : k + 2 < to) (hto : to ≤ 200) (h0 : sg k = nI (vM x)) (h1 : sg (k + 1) = nI (60 + t)) (h2 : sg (k + 2) = nI (vM y)) (K : Int32 → Int32 → (Nat → Int32) → Option (Int32 × (Nat → Int32))) : f9_isSo_L6 sg fa (nI to) (fu + 1) (nI n) (nI k) pile K = f9_isSo_L6 sg fa (nI to) fu (nI (n + 1)) (nI (k + 3)) (upd pile n (b01 (cmpI t (valI fa x) (valI fa y)))) K := by
  have hv := vM_lt hx
  have hne : ∀ m, 40000 ≤ m → m < 2 ^ 31 → ¬ nI (vM x) = nI m := fun m hm hm2 e => absurd (nI_inj (by omega) hm2 e) (by omega)
  simp only [f9_isSo_L6]
  rw [if_neg (nI_ge (by omega) (by omega)), gdi (show k < 200 by omega) (by omega), jnE, nI_clamp (show k < 2 ^ 31 by omega), h0, if_neg (show ¬ nI (vM x) = 40002 from hne 40002 (by omega) (by omega)), jnE, if_neg (show ¬ nI (vM x) = 40000 from hne 40000 (by omega) (by omega)), if_neg (show ¬ nI (vM x) = 40001 from hne 40001 (by omega) (by omega)), jnE]
  by_cases hx2 : x < 1000
  all_goals first
    | rw [if_pos (vM_p hx2), vM_vp hx2 fa]
    | rw [if_neg (vM_q hx2 hx), vM_vq hx2 hx, gdi (show x - 1000 < 6 by omega) (by omega), nI_clamp (show x - 1000 < 2 ^ 31 by omega), vM_vr hx2 fa]
  all_goals dsimp only
  all_goals rw [show nI k + 2 = nI (k + 2) from nI_add k 2, gdi (show k + 2 < 200 by omega) (by omega), jnE, nI_clamp (show k + 2 < 2 ^ 31 by omega), h2, gdi (show k + 2 < 200 by omega) (by omega), gdi (show k + 2 < 200 by omega) (by omega)]
  all_goals by_cases hy2 : y < 1000
  all_goals first
    | rw [if_pos (vM_p hy2), vM_vp hy2 fa]
    | rw [if_neg (vM_q hy2 hy), vM_vq hy2 hy, gdi (show y - 1000 < 6 by omega) (by omega), nI_clamp (show y - 1000 < 2 ^ 31 by omega), vM_vr hy2 fa]
  all_goals dsimp only
  all_goals rw [nI_1 k, gdi (show k + 1 < 200 by omega) (by omega), jnE, nI_clamp (show k + 1 < 2 ^ 31 by omega), h1, gdi (show k + 1 < 200 by omega) (by omega)]
  all_goals dsimp only
  all_goals rw [gdi hn (by omega), gdi hn (by omega), nb0, nb1, nI_1 n, nI_1 (k + 2), nI_clamp (show n < 2 ^ 31 by omega)]
  all_goals unfold cmpI
  all_goals rcases (by omega : t = 0 ∨ t = 1 ∨ t = 2) with rfl | rfl | rfl
  all_goals first
    | rw [if_pos (show nI (60 + 0) = 60 from rfl), if_pos (show (0 : Nat) = 0 from rfl)]
    | rw [if_neg (show ¬ nI (60 + 1) = 60 by decide), if_pos (show nI (60 + 1) = 61 from rfl), if_neg (show ¬ (1 : Nat) = 0 by decide), if_pos (show (1 : Nat) = 1 from rfl)]
    | rw [if_neg (show ¬ nI (60 + 2) = 60 by decide), if_neg (show ¬ nI (60 + 2) = 61 by decide), if_neg (show ¬ (2 : Nat) = 0 by decide), if_neg (show ¬ (2 : Nat) = 1 by decide)]
  all_goals first
    | exact so_fin1 _ _ trivial (fun v => f9_isSo_L6 sg fa (nI to) fu (nI (n + 1)) (nI (k + 3)) (upd pile n v) K)
    | exact so_fin2 _ _ trivial (fun v => f9_isSo_L6 sg fa (nI to) fu (nI (n + 1)) (nI (k + 3)) (upd pile n v) K)
theorem so_not {sg fa pile : Nat → Int32} {n k to fu : Nat} (hn : n < 100) (hk : k < to) (hto : to ≤ 200) (h0 : sg k = nI 40002) (b : Bool) (hb : pile n = b01 b) (K : Int32 → Int32 → (Nat → Int32) → Option (Int32 × (Nat → Int32))) : f9_isSo_L6 sg fa (nI to) (fu + 1) (nI (n + 1)) (nI k) pile K = f9_isSo_L6 sg fa (nI to) fu (nI (n + 1)) (nI (k + 1)) (upd pile n (b01 (!b))) K := by
  simp only [f9_isSo_L6]
  rw [if_neg (nI_ge (by omega) (by omega)), gdi (show k < 200 by omega) (by omega), jnE, nI_clamp (show k < 2 ^ 31 by omega), h0, if_pos (show nI 40002 = 40002 from rfl), nI_pred, gdi hn (by omega), jnE]
  dsimp only
  rw [gdi hn (by omega), gdi hn (by omega), nI_clamp (show n < 2 ^ 31 by omega), hb, nb0, nb1, nI_1 k]
  cases b with
  | true => rw [if_neg (by decide)]; rfl
  | false => rw [if_pos (by decide)]; rfl
theorem so_and {sg fa pile : Nat → Int32} {n k to fu : Nat} (hn : n + 1 < 100) (hk : k < to) (hto : to ≤ 200) (h0 : sg k = nI 40000) (x y : Bool) (hx : pile n = b01 x) (hy : pile (n + 1) = b01 y) (K : Int32 → Int32 → (Nat → Int32) → Option (Int32 × (Nat → Int32))) : f9_isSo_L6 sg fa (nI to) (fu + 1) (nI (n + 2)) (nI k) pile K = f9_isSo_L6 sg fa (nI to) fu (nI (n + 1)) (nI (k + 1)) (upd pile n (b01 (x && y))) K := by
  simp only [f9_isSo_L6]
  rw [if_neg (nI_ge (by omega) (by omega)), gdi (show k < 200 by omega) (by omega), jnE, nI_clamp (show k < 2 ^ 31 by omega), h0, if_neg (show ¬ nI 40000 = 40002 by decide), jnE, if_pos (show nI 40000 = 40000 from rfl), jnE, if_pos (show nI 40000 = 40000 from rfl)]
  dsimp only
  rw [show nI (n + 2) + -1 = nI (n + 1) from pk_m1 (n + 1), nI_pred, gdi (show n < 100 by omega) (by omega), nI_clamp (show n < 2 ^ 31 by omega), nI_clamp (show n + 1 < 2 ^ 31 by omega), hx, hy]
  simp only [jnE]
  rw [gdi (show n + 1 < 100 by omega) (by omega), gdi (show n < 100 by omega) (by omega), gdi (show n < 100 by omega) (by omega), nb0, nb1, nI_1 k]
  cases x <;> cases y <;> rfl
theorem so_or {sg fa pile : Nat → Int32} {n k to fu : Nat} (hn : n + 1 < 100) (hk : k < to) (hto : to ≤ 200) (h0 : sg k = nI 40001) (x y : Bool) (hx : pile n = b01 x) (hy : pile (n + 1) = b01 y) (K : Int32 → Int32 → (Nat → Int32) → Option (Int32 × (Nat → Int32))) : f9_isSo_L6 sg fa (nI to) (fu + 1) (nI (n + 2)) (nI k) pile K = f9_isSo_L6 sg fa (nI to) fu (nI (n + 1)) (nI (k + 1)) (upd pile n (b01 (x || y))) K := by
  simp only [f9_isSo_L6]
  rw [if_neg (nI_ge (by omega) (by omega)), gdi (show k < 200 by omega) (by omega), jnE, nI_clamp (show k < 2 ^ 31 by omega), h0, if_neg (show ¬ nI 40001 = 40002 by decide), jnE, if_neg (show ¬ nI 40001 = 40000 by decide), if_pos (show nI 40001 = 40001 from rfl), jnE, if_neg (show ¬ nI 40001 = 40000 by decide)]
  dsimp only
  rw [show nI (n + 2) + -1 = nI (n + 1) from pk_m1 (n + 1), nI_pred, gdi (show n < 100 by omega) (by omega), nI_clamp (show n < 2 ^ 31 by omega), nI_clamp (show n + 1 < 2 ^ 31 by omega), hx, hy]
  simp only [jnE]
  rw [gdi (show n + 1 < 100 by omega) (by omega), gdi (show n < 100 by omega) (by omega), gdi (show n < 100 by omega) (by omega), nb0, nb1, nI_1 k]
  cases x <;> cases y <;> rfl
theorem gDl {l m : List Nat} {i : Nat} (h : i < l.length) : (l ++ m).getD i 0 = l.getD i 0 := by
  rw [List.getD_eq_getElem?_getD, List.getD_eq_getElem?_getD, List.getElem?_append_left h]
theorem gDr {l m : List Nat} {i : Nat} (k : Nat) (h : i = l.length + k) : (l ++ m).getD i 0 = m.getD k 0 := by
  rw [List.getD_eq_getElem?_getD, List.getD_eq_getElem?_getD, List.getElem?_append_right (by omega), show i - l.length = k by omega]
theorem cM_lt {i : It} (h : i.1 < 3) : cM i = [vM i.2.1, 60 + i.1, vM i.2.2] := if_pos h
/-- items of a condition, for the reference -/
theorem so_run (sg fa : Nat → Int32) (to : Nat) (hto : to ≤ 200) (K : Int32 → Int32 → (Nat → Int32) → Option (Int32 × (Nat → Int32))) : ∀ (l : List It) (s s' : List Bool) (pile : Nat → Int32) (k fu : Nat), (∀ i ∈ l, okI i) → evs fa l s = some s' → StC s pile → (∀ j, j < (l.flatMap cM).length → sg (k + j) = nI ((l.flatMap cM).getD j 0)) → k + (l.flatMap cM).length ≤ to → 3 * s.length + (l.flatMap cM).length ≤ 200 → l.length ≤ fu → ∃ pile', f9_isSo_L6 sg fa (nI to) fu (nI s.length) (nI k) pile K = f9_isSo_L6 sg fa (nI to) (fu - l.length) (nI s'.length) (nI (k + (l.flatMap cM).length)) pile' K ∧ StC s' pile'
  | [], s, s', pile, k, fu, _, he, hst, _, _, _, _ => by
    rw [evs] at he
    cases he
    exact ⟨pile, rfl, hst⟩
  | i :: l, s, s', pile, k, fu, hok, he, hst, hsg, hk, h3l, hfu => by
    obtain ⟨h6, hx, hy⟩ := hok i (List.mem_cons_self)
    have hok2 : ∀ j ∈ l, okI j := fun j hj => hok j (List.mem_cons_of_mem _ hj)
    obtain ⟨f, rfl⟩ : ∃ f, fu = f + 1 := ⟨fu - 1, by rw [List.length_cons] at hfu; omega⟩
    have hfl : l.length ≤ f := by rw [List.length_cons] at hfu; omega
    have hfs : f + 1 - (i :: l).length = f - l.length := by rw [List.length_cons]; omega
    rw [hfs]
    rw [List.flatMap_cons] at hsg hk h3l ⊢
    rw [List.length_append] at hsg hk h3l ⊢
    rw [evs] at he
    by_cases h3 : i.1 < 3
    · have hc : (cM i).length = 3 := by rw [cM_lt h3]; rfl
      have q0 : sg k = nI (vM i.2.1) := by
        have := hsg 0 (by omega)
        rw [gDl (by omega), cM_lt h3, Nat.add_zero] at this
        exact this
      have q1 : sg (k + 1) = nI (60 + i.1) := by
        have := hsg 1 (by omega)
        rw [gDl (by omega), cM_lt h3] at this
        exact this
      have q2 : sg (k + 2) = nI (vM i.2.2) := by
        have := hsg 2 (by omega)
        rw [gDl (by omega), cM_lt h3] at this
        exact this
      have hv : ev1 fa i s = some (cmpI i.1 (valI fa i.2.1) (valI fa i.2.2) :: s) := if_pos h3
      rw [hv] at he
      rw [so_cmp h3 hx hy (show s.length < 100 by omega) (show k + 2 < to by omega) hto q0 q1 q2 K]
      obtain ⟨p', g1, g2⟩ := so_run sg fa to hto K l (cmpI i.1 (valI fa i.2.1) (valI fa i.2.2) :: s) s' (upd pile s.length (b01 (cmpI i.1 (valI fa i.2.1) (valI fa i.2.2)))) (k + 3) f hok2 he ⟨upd_s, StC_upd (Nat.le_refl _) hst⟩ (fun j hj => by
        have := hsg (3 + j) (by omega)
        rw [gDr j (by omega), show k + (3 + j) = k + 3 + j by omega] at this
        exact this) (by omega) (by rw [List.length_cons]; omega) hfl
      refine ⟨p', ?_, g2⟩
      rw [hc, show k + (3 + (l.flatMap cM).length) = k + 3 + (l.flatMap cM).length by omega]
      exact g1
    · have hc : (cM i).length = 1 := by unfold cM; rw [if_neg h3]; split; rfl; split <;> rfl
      have hq : sg k = nI ((cM i).getD 0 0) := by
        have := hsg 0 (by omega)
        rw [gDl (by omega), Nat.add_zero] at this
        exact this
      have hrest : ∀ j, j < (l.flatMap cM).length → sg (k + 1 + j) = nI ((l.flatMap cM).getD j 0) := fun j hj => by
        have := hsg (1 + j) (by omega)
        rw [gDr j (by omega), show k + (1 + j) = k + 1 + j by omega] at this
        exact this
      rw [hc, show k + (1 + (l.flatMap cM).length) = k + 1 + (l.flatMap cM).length by omega]
      by_cases h4 : i.1 = 3
      · have hq2 : sg k = nI 40002 := by
          rw [hq]; unfold cM; rw [if_neg h3, if_pos h4]; rfl
        unfold ev1 at he
        rw [if_neg h3, if_pos h4] at he
        cases s with
        | nil =>
          have he2 : (none : Option (List Bool)) = some s' := he
          cases he2
        | cons b s =>
          rw [List.length_cons] at h3l
          rw [List.length_cons, so_not (show s.length < 100 by omega) (show k < to by omega) hto hq2 b hst.1 K]
          exact so_run sg fa to hto K l ((!b) :: s) s' _ (k + 1) f hok2 he ⟨upd_s, StC_upd (Nat.le_refl _) hst.2⟩ hrest (by omega) (by rw [List.length_cons]; omega) hfl
      · unfold ev1 at he
        rw [if_neg h3, if_neg h4] at he
        cases s with
        | nil =>
          have he2 : (none : Option (List Bool)) = some s' := he
          cases he2
        | cons b s =>
          cases s with
          | nil =>
            have he2 : (none : Option (List Bool)) = some s' := he
            cases he2
          | cons x s =>
            rw [List.length_cons, List.length_cons] at h3l
            rw [List.length_cons, List.length_cons]
            have hstep : f9_isSo_L6 sg fa (nI to) (f + 1) (nI (s.length + 1 + 1)) (nI k) pile K = f9_isSo_L6 sg fa (nI to) f (nI (s.length + 1)) (nI (k + 1)) (upd pile s.length (b01 (if i.1 = 4 then x && b else x || b))) K := by
              by_cases h5 : i.1 = 4
              · have hq2 : sg k = nI 40000 := by
                  rw [hq]; unfold cM; rw [if_neg h3, if_neg h4, if_pos h5]; rfl
                rw [if_pos h5]
                exact so_and (show s.length + 1 < 100 by omega) (show k < to by omega) hto hq2 x b hst.2.1 hst.1 K
              · have hq2 : sg k = nI 40001 := by
                  rw [hq]; unfold cM; rw [if_neg h3, if_neg h4, if_neg h5]; rfl
                rw [if_neg h5]
                exact so_or (show s.length + 1 < 100 by omega) (show k < to by omega) hto hq2 x b hst.2.1 hst.1 K
            rw [hstep]
            exact so_run sg fa to hto K l ((if i.1 = 4 then x && b else x || b) :: s) s' _ (k + 1) f hok2 he ⟨upd_s, StC_upd (Nat.le_refl _) hst.2.2⟩ hrest (by omega) (by rw [List.length_cons]; omega) hfl
theorem flen (l : List It) : l.length ≤ (l.flatMap cM).length := by
  induction l with
  | nil => exact Nat.le_refl _
  | cons i l ih =>
    rw [List.flatMap_cons, List.length_append, List.length_cons]
    have : 1 ≤ (cM i).length := by
      unfold cM
      split
      · exact Nat.le_add_left 1 2
      · split
        · exact Nat.le_refl _
        · split <;> exact Nat.le_refl _
    omega
theorem f9_isSo_s {c : Cl} (hc : okC c) (sg fa pile : Nat → Int32) {A : Nat} (hA : A + (sgM c).length ≤ 200) (hsg : ∀ j, j < (sgM c).length → sg (A + j) = nI ((sgM c).getD j 0)) : ∃ p, f9_isSo sg fa pile (nI A) (nI (A + (sgM c).length)) = some (b01 (hoC fa c), p) := by
  obtain ⟨k1, k2, k3, k4⟩ := hc
  simp only [f9_isSo, jnE]
  by_cases he : c.2.1 = []
  · have he2 : c.2.2 = [] := k1.mp he
    have h1 : hoC fa c = true := by unfold hoC; rw [he]; rfl
    have hl : sgM c = [] := by unfold sgM; rw [he2]; rfl
    refine ⟨pile, ?_⟩
    rw [hl, h1, List.length_nil, Nat.add_zero]
    refine lupA (fun fu i (x : Int32 × (Nat → Int32)) => f9_isSo_L6 sg fa (nI A) fu x.1 i x.2 _) A A (fun _ => (0, pile)) (fun fu i h1 h2 => absurd h2 (by omega)) (fun fu => ?_) (s0 := (0, pile)) rfl (Nat.le_refl _) (FU_lt (by rw [hl] at hA; omega))
    simp only [f9_isSo_L6]
    rw [if_pos (nI_le (Nat.le_refl _) (by omega)), if_pos trivial]; rfl
  · obtain ⟨b, hb, hb2⟩ := k4 he fa
    have h3 : hoC fa c = b := by
      unfold hoC
      rw [hb]
      cases hq : c.2.1 with
      | nil => exact absurd hq he
      | cons _ _ => cases b <;> rfl
    have hfl := flen c.2.2
    have hsl : (sgM c).length = (c.2.2.flatMap cM).length := rfl
    have key : ∀ K, ∃ pile', f9_isSo_L6 sg fa (nI (A + (sgM c).length)) FU 0 (nI A) pile K = f9_isSo_L6 sg fa (nI (A + (sgM c).length)) (FU - c.2.2.length) (nI 1) (nI (A + (sgM c).length)) pile' K ∧ StC [b] pile' := fun K => so_run sg fa (A + (sgM c).length) hA K c.2.2 [] [b] pile A FU k3 hb2 trivial hsg (Nat.le_refl _) (by rw [List.length_nil]; omega) (by have : (200 : Nat) < FU := FU_lt (by omega); omega)
    obtain ⟨p, hp, hp2⟩ := key (fun x1 _ c3 => if x1 = 0 then some (1, c3) else gd (ix 0 100) (if c3 (0 : Int32).toNatClampNeg = 0 then some (0, c3) else some (1, c3)))
    refine ⟨p, ?_⟩
    have e0 : FU - c.2.2.length = (1999 - c.2.2.length) + 1 := by
      have : FU = 2000 := rfl
      omega
    rw [hp, e0, f9_isSo_L6, if_pos (nI_le (Nat.le_refl _) (by omega)), if_neg (show ¬ nI 1 = 0 by decide), show ix (0 : Int32) 100 = true from by decide, gd_t, show (0 : Int32).toNatClampNeg = 0 from by decide, show p 0 = b01 b from hp2.1, h3]
    cases b <;> rfl
