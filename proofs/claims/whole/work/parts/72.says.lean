/-! ===== says, right ===== -/
theorem ev1_congr {f g : Nat → Int32} (h : ∀ k, k < 6 → f k = g k) {i : It} (hi : okI i) (s : List Bool) : ev1 f i s = ev1 g i s := by
  have hv : ∀ x, x < 1006 → valI f x = valI g x := by
    intro x hx
    unfold valI
    by_cases q : x < 1000
    · rw [if_pos q, if_pos q]
    · rw [if_neg q, if_neg q, h _ (by omega)]
  unfold ev1
  rw [hv _ hi.2.1, hv _ hi.2.2]
theorem evs_congr {f g : Nat → Int32} (h : ∀ k, k < 6 → f k = g k) (l : List It) : ∀ (s : List Bool), (∀ i ∈ l, okI i) → evs f l s = evs g l s := by
  induction l with
  | nil => exact fun _ _ => rfl
  | cons i l ih =>
    intro s hok
    rw [evs, evs, ev1_congr h (hok i List.mem_cons_self)]
    congr 1
    funext t
    exact ih t (fun j hj => hok j (List.mem_cons_of_mem _ hj))
theorem hoC_congr {f g : Nat → Int32} (h : ∀ k, k < 6 → f k = g k) {c : Cl} (hc : okC c) : hoC f c = hoC g c := by
  unfold hoC
  rw [evs_congr h c.2.1 [] hc.2.1]
theorem sayC_congr {f g : Nat → Int32} (h : ∀ k, k < 6 → f k = g k) : ∀ (L : List Cl) (a : Bool), (∀ c ∈ L, okC c) → sayC f L a = sayC g L a
  | [], _, _ => rfl
  | c :: L, a, hok => by
    rw [sayC, sayC, hoC_congr h (hok c List.mem_cons_self)]
    exact sayC_congr h L _ (fun d hd => hok d (List.mem_cons_of_mem _ hd))
theorem sayC_snoc (f : Nat → Int32) (c : Cl) : ∀ (L : List Cl) (a : Bool), sayC f (L ++ [c]) a = if hoC f c = true then c.1 else sayC f L a
  | [], a => rfl
  | d :: L, a => by
    rw [List.cons_append, sayC, sayC]
    exact sayC_snoc f c L _
theorem upd6 (f : Nat → Int32) (v0 v1 v2 v3 v4 v5 : Int32) : ∀ k, k < 6 → upd (upd (upd (upd (upd (upd f 0 v0) 1 v1) 2 v2) 3 v3) 4 v4) 5 v5 k = ([v0, v1, v2, v3, v4, v5] : List Int32).getD k 0 := by
  intro k hk
  rcases (by omega : k = 0 ∨ k = 1 ∨ k = 2 ∨ k = 3 ∨ k = 4 ∨ k = 5) with rfl | rfl | rfl | rfl | rfl | rfl <;> rfl
theorem tn0 : (0 : Int32).toNatClampNeg = 0 := by decide
theorem tn1 : (1 : Int32).toNatClampNeg = 1 := by decide
theorem tn2 : (2 : Int32).toNatClampNeg = 2 := by decide
theorem tn3 : (3 : Int32).toNatClampNeg = 3 := by decide
theorem tn4 : (4 : Int32).toNatClampNeg = 4 := by decide
theorem tn5 : (5 : Int32).toNatClampNeg = 5 := by decide
theorem ix6 : ix (0 : Int32) 6 = true ∧ ix (1 : Int32) 6 = true ∧ ix (2 : Int32) 6 = true ∧ ix (3 : Int32) 6 = true ∧ ix (4 : Int32) 6 = true ∧ ix (5 : Int32) 6 = true := by decide
section SY
variable {P C : Nat} {siz law hom hub one fac sea fou byc msiz mtow mhub mone mcla mlaw : Nat → Int32}
/-- the facts of a claim that rules read -/
def fcS (P C : Nat) (hub one fac sea law : Nat → Int32) (c : Nat) : Nat → Int32 := fun k => ([fac (c * 5 + 4), fac (c * 5 + 1), cnt (fun k => ¬ sea (c * 4 + k) = -9) 4, nI (pcN (tiN P C hub one fac sea law c)), fac (c * 5 + 3), fac (c * 5)] : List Int32).getD k 0
theorem f8_asks_s (B : RBx P C siz law hom hub one fac sea fou byc msiz mtow mhub mone mcla mlaw) {L : List Cl} {cn : Int32} {codes : Nat → Int32} (hok : ∀ c ∈ L, okC c) (h1 : (L.flatMap codC).length ≤ 209) (h2 : cn = nI (L.flatMap codC).length) (h3 : ∀ i, i < (L.flatMap codC).length → codes i = nI ((L.flatMap codC).getD i 0)) {c : Nat} (hc : c < C) (a0 h0 : Int32) (st rf : Nat → Int32) : ∃ c3 c4 c5 c6, f8_asks (nI C) (nI P) a0 cn h0 fac hub law one codes st sea rf (nI c) = some (b01 (sayC (fcS P C hub one fac sea law c) L false), c3, c4, c5, c6) := by
  have hC := B.2.1
  have w0 : f0_fact (nI C) fac (nI c) 0 = some (fac (c * 5)) := f0_fact_s hC hc (w := 0) (by omega)
  have w1 : f0_fact (nI C) fac (nI c) 1 = some (fac (c * 5 + 1)) := f0_fact_s hC hc (w := 1) (by omega)
  have w3 : f0_fact (nI C) fac (nI c) 3 = some (fac (c * 5 + 3)) := f0_fact_s hC hc (w := 3) (by omega)
  have w4 : f0_fact (nI C) fac (nI c) 4 = some (fac (c * 5 + 4)) := f0_fact_s hC hc (w := 4) (by omega)
  have ht := bmN_lt (fun o => tiB P hub one fac sea law c o = true) C
  have ht2 := p512 hC ht
  obtain ⟨i0, i1, i2, i3, i4, i5⟩ := ix6
  unfold f8_asks
  rw [w4, Option.bind_some, i0, gd_t, w1, Option.bind_some, i1, gd_t, f0_seated_s hC hc, Option.bind_some, i2, gd_t, f7_tiedWith_s B hc, Option.bind_some, bmB_N _ _ (by omega), bc_s ht2, Option.bind_some, i3, gd_t, w3, Option.bind_some, i4, gd_t, w0, Option.bind_some, i5, gd_t, tn0, tn1, tn2, tn3, tn4, tn5]
  have hF := upd6 rf (fac (c * 5 + 4)) (fac (c * 5 + 1)) (cnt (fun k => ¬ sea (c * 4 + k) = -9) 4) (nI (pcN (bmN (fun o => tiB P hub one fac sea law c o = true) C))) (fac (c * 5 + 3)) (fac (c * 5))
  generalize upd (upd (upd (upd (upd (upd rf 0 (fac (c * 5 + 4))) 1 (fac (c * 5 + 1))) 2 (cnt (fun k => ¬ sea (c * 4 + k) = -9) 4)) 3 (nI (pcN (bmN (fun o => tiB P hub one fac sea law c o = true) C)))) 4 (fac (c * 5 + 3))) 5 (fac (c * 5)) = FA at *
  obtain ⟨c3, c4, ha⟩ := f6_ask_s hok h1 h2 h3 FA a0 h0 st
  rw [sayC_congr (f := FA) (g := fcS P C hub one fac sea law c) (fun k hk => hF k hk) L false hok] at ha
  refine ⟨b01 (sayC (fcS P C hub one fac sea law c) L false), c3, c4, FA, ?_⟩
  rw [ha, bn4E, b01_bz, gd_t]
theorem says_loop {L : List Cl} (hok : ∀ c ∈ L, okC c) (h8 : L.length ≤ 8) {clause sg : Nat → Int32} (hs200 : (L.flatMap sgM).length ≤ 200) (hsg : ∀ i, i < (L.flatMap sgM).length → sg i = nI ((L.flatMap sgM).getD i 0)) (hcl : ∀ j, j < L.length → clause (3 * j) = (bif (L.getD j (false, [], [])).1 then 1 else 0) ∧ clause (3 * j + 1) = nI ((L.take j).flatMap sgM).length ∧ clause (3 * j + 2) = nI ((L.take (j + 1)).flatMap sgM).length) {FR f0 : Nat → Int32} {v1 v3 v5 v8 v10 v12 : Int32} (hF : upd (upd (upd (upd (upd (upd f0 (0 : Int32).toNatClampNeg v1) (1 : Int32).toNatClampNeg v3) (2 : Int32).toNatClampNeg v5) (3 : Int32).toNatClampNeg v8) (4 : Int32).toNatClampNeg v10) (5 : Int32).toNatClampNeg v12 = FR) (pile : Nat → Int32) (R : Int32 → (Nat → Int32) → Option (Int32 × (Nat → Int32) × (Nat → Int32))) : ∃ p, f9_saysOf_L77 (nI L.length) clause f0 sg v1 v3 v5 v8 v10 v12 FU 0 0 pile (fun x14 _ c16 => R x14 c16) = R (b01 (sayC FR L false)) p := by
  rw [n0]
  refine lupR (fun fu i (x : Int32 × (Nat → Int32)) => f9_saysOf_L77 (nI L.length) clause f0 sg v1 v3 v5 v8 v10 v12 fu x.1 i x.2 (fun x14 _ c16 => R x14 c16)) L.length 0 (fun k x => x.1 = b01 (sayC FR (L.take k) false)) (fun o => ∃ p, o = R (b01 (sayC FR L false)) p) (fun fu k x h0 hk hI hgo => ?_) (fun fu x hI => ?_) (s0 := (nI 0, pile)) rfl (Nat.zero_le _) (FU_lt (by omega))
  · have hg : L.getD k (false, [], []) = L[k] := by rw [List.getD_eq_getElem?_getD, List.getElem?_eq_getElem hk]; rfl
    have htk : L.take (k + 1) = L.take k ++ [L[k]] := List.take_succ_eq_append_getElem hk
    have hsp : L.flatMap sgM = (L.take k).flatMap sgM ++ (sgM L[k] ++ (L.drop (k + 1)).flatMap sgM) := by
      rw [← List.flatMap_cons, ← List.drop_eq_getElem_cons hk, ← List.flatMap_append, List.take_append_drop]
    have hA1 : ((L.take (k + 1)).flatMap sgM).length = ((L.take k).flatMap sgM).length + (sgM L[k]).length := by
      rw [htk, List.flatMap_append, List.length_append, List.flatMap_cons, List.flatMap_nil, List.append_nil]
    have hlen : (L.flatMap sgM).length = ((L.take k).flatMap sgM).length + ((sgM L[k]).length + ((L.drop (k + 1)).flatMap sgM).length) := by rw [hsp, List.length_append, List.length_append]
    obtain ⟨q0, q1, q2⟩ := hcl k hk
    rw [hg] at q0
    rw [hA1] at q2
    have hok1 := hok L[k] (List.getElem_mem hk)
    obtain ⟨p, hp⟩ := f9_isSo_s hok1 sg FR x.2 (A := ((L.take k).flatMap sgM).length) (by omega) (fun j hj => by
      rw [hsg _ (by omega), hsp, gDr j rfl, gDl hj])
    simp only [f9_saysOf_L77, jnE]
    rw [if_neg (nI_ge hk (by omega)), show (3 : Int32) * nI k = nI (3 * k) from by rw [n3, pk_mul], nI_1 (3 * k), show nI (3 * k) + 2 = nI (3 * k + 2) from by rw [n2, nI_add], gdi (by omega) (by omega), gdi (by omega) (by omega), nI_clamp (show 3 * k + 1 < 2 ^ 31 by omega), nI_clamp (show 3 * k + 2 < 2 ^ 31 by omega), hF, q1, q2, hp, bn2E, gdi (show 3 * k < 24 by omega) (by omega), nI_clamp (show 3 * k < 2 ^ 31 by omega), q0, nI_1 k]
    cases hh : hoC FR L[k] with
    | true =>
      rw [if_neg (show ¬ b01 true = 0 by decide)]
      refine hgo (_, p) ?_
      show (bif L[k].1 then (1 : Int32) else 0) = _
      rw [htk, sayC_snoc, hh, if_pos rfl]
      rfl
    | false =>
      rw [if_pos (show b01 false = 0 from rfl)]
      refine hgo (_, p) ?_
      show x.1 = _
      rw [htk, sayC_snoc, hh, if_neg (by decide), hI]
  · simp only [f9_saysOf_L77]
    rw [if_pos (nI_le (Nat.le_refl _) (by omega)), hI, List.take_length]
    exact ⟨x.2, rfl⟩
theorem f9_saysOf_s (B : RBx P C siz law hom hub one fac sea fou byc msiz mtow mhub mone mcla mlaw) {L : List Cl} (hok : ∀ c ∈ L, okC c) (h8 : L.length ≤ 8) {clause sg : Nat → Int32} (hs200 : (L.flatMap sgM).length ≤ 200) (hsg : ∀ i, i < (L.flatMap sgM).length → sg i = nI ((L.flatMap sgM).getD i 0)) (hcl : ∀ j, j < L.length → clause (3 * j) = (bif (L.getD j (false, [], [])).1 then 1 else 0) ∧ clause (3 * j + 1) = nI ((L.take j).flatMap sgM).length ∧ clause (3 * j + 2) = nI ((L.take (j + 1)).flatMap sgM).length) {c : Nat} (hc : c < C) (f0 pile : Nat → Int32) : ∃ f1 p1, f9_saysOf (nI C) (nI L.length) (nI P) mcla clause f0 mhub mlaw mone pile sg (nI c) = some (b01 (sayC (fcS P C hub one fac sea law c) L false), f1, p1) := by
  have hC := B.2.1
  have w0 : f9_its mcla (nI c) 0 = some (fac (c * 5)) := f9_its_f B hc (w := 0) (by omega)
  have w1 : f9_its mcla (nI c) 1 = some (fac (c * 5 + 1)) := f9_its_f B hc (w := 1) (by omega)
  have w3 : f9_its mcla (nI c) 3 = some (fac (c * 5 + 3)) := f9_its_f B hc (w := 3) (by omega)
  have w4 : f9_its mcla (nI c) 4 = some (fac (c * 5 + 4)) := f9_its_f B hc (w := 4) (by omega)
  have ht := bmN_lt (fun o => tiB P hub one fac sea law c o = true) C
  have ht2 := p512 hC ht
  obtain ⟨i0, i1, i2, i3, i4, i5⟩ := ix6
  unfold f9_saysOf
  rw [w4, Option.bind_some, i0, gd_t, w1, Option.bind_some, i1, gd_t, f9_peopleIn_s B hc, Option.bind_some, i2, gd_t, f9_tiedTo_s B hc, Option.bind_some, bmB_N _ _ (by omega), on_s ht2, Option.bind_some, i3, gd_t, w3, Option.bind_some, i4, gd_t, w0, Option.bind_some, i5, gd_t, jnE]
  generalize hFR : upd (upd (upd (upd (upd (upd f0 (0 : Int32).toNatClampNeg (fac (c * 5 + 4))) (1 : Int32).toNatClampNeg (fac (c * 5 + 1))) (2 : Int32).toNatClampNeg (cnt (fun k => ¬ sea (c * 4 + k) = -9) 4)) (3 : Int32).toNatClampNeg (nI (pcN (bmN (fun o => tiB P hub one fac sea law c o = true) C)))) (4 : Int32).toNatClampNeg (fac (c * 5 + 3))) (5 : Int32).toNatClampNeg (fac (c * 5)) = FR
  obtain ⟨p, hp⟩ := says_loop hok h8 hs200 hsg hcl hFR pile (fun x14 c16 => some (x14, FR, c16))
  refine ⟨FR, p, ?_⟩
  rw [← sayC_congr (f := FR) (g := fcS P C hub one fac sea law c) (fun k hk => ?_) L false hok]
  · exact hp
  · rw [← hFR, tn0, tn1, tn2, tn3, tn4, tn5]
    exact upd6 f0 (fac (c * 5 + 4)) (fac (c * 5 + 1)) (cnt (fun k => ¬ sea (c * 4 + k) = -9) 4) (nI (pcN (bmN (fun o => tiB P hub one fac sea law c o = true) C))) (fac (c * 5 + 3)) (fac (c * 5)) k hk
end SY
theorem op_says : Op_says Rl := by
  intro r g u h p1 hR
  have hR0 := hR
  obtain ⟨⟨P, C, e0, e30, e1, e31, ez, B⟩, hM, ⟨L, h8, hok, hcls, hmcls, hc209, hcnt, hcodes, hs200, hsg, hcl⟩, hK, hT, hW, hH, hS, hP⟩ := hR
  have hC := B.2.1
  rw [e0, e30, e1, e31]
  by_cases h1 : inN p1 C
  · obtain ⟨c, hc, rfl⟩ := inN_of (by omega) h1
    obtain ⟨c3, c4, c5, c6, F8⟩ := f8_asks_s B hok hc209 hcnt hcodes hc (r 5) (r 4) (g 13) (g 51)
    obtain ⟨f1, p, F9⟩ := f9_saysOf_s B hok h8 hs200 hsg hcl hc (g 63) (g 66)
    refine ⟨b01 (sayC (fcS P C (g 5) (g 6) (g 7) (g 8) (g 3) c) L false), c3, c4, c5, c6, f1, p, ?_, ?_, hR0⟩
    · unfold f8_says
      rw [f0_isClaim_s (by omega), Option.bind_some, gI, if_pos h1, F8, bn5E, b01_0]
      cases sayC (fcS P C (g 5) (g 6) (g 7) (g 8) (g 3) c) L false <;> rfl
    · unfold f9_says
      rw [f9_isClaim_s (by omega), Option.bind_some, gI, if_pos h1, hmcls, F9, bn3E]
  · refine ⟨-1, r 5, r 4, g 13, g 51, g 63, g 66, ?_, ?_, hR0⟩
    · unfold f8_says
      rw [f0_isClaim_s (by omega), Option.bind_some, gI, if_neg h1]
    · unfold f9_says
      rw [f9_isClaim_s (by omega), Option.bind_some, gI, if_neg h1]
/-- which sort a found claim is -/
def soN (say : Nat → Bool) (fou : Nat → Int32) (c : Nat) : Nat := (if say c = true then 0 else 2) + (if fou c = 1 then 0 else 1)
theorem so_tt {say : Nat → Bool} {fou : Nat → Int32} {c : Nat} (h : say c = true) (hv : fou c = 1) : 0 = soN say fou c := by unfold soN; rw [if_pos h, if_pos hv]
theorem so_tf {say : Nat → Bool} {fou : Nat → Int32} {c : Nat} (h : say c = true) (hv : ¬ fou c = 1) : 1 = soN say fou c := by unfold soN; rw [if_pos h, if_neg hv]
theorem so_ft {say : Nat → Bool} {fou : Nat → Int32} {c : Nat} (h : say c = false) (hv : fou c = 1) : 2 = soN say fou c := by unfold soN; rw [if_neg (by rw [h]; decide), if_pos hv]
theorem so_ff {say : Nat → Bool} {fou : Nat → Int32} {c : Nat} (h : say c = false) (hv : ¬ fou c = 1) : 3 = soN say fou c := by unfold soN; rw [if_neg (by rw [h]; decide), if_neg hv]
def rgN (say : Nat → Bool) (fou : Nat → Int32) (w : Nat) : Nat → Nat := cntN (fun c => ¬ fou c = -9 ∧ soN say fou c = w)
theorem op_right : Op_right Rl := by
  intro r g u h p1 hR
  have hR0 := hR
  obtain ⟨⟨P, C, e0, e30, e1, e31, ez, B⟩, hM, ⟨L, h8, hok, hcls, hmcls, hc209, hcnt, hcodes, hs200, hsg, hcl⟩, hK, hT, hW, hH, hS, hP⟩ := hR
  have hC := B.2.1
  rw [e0, e30, e1, e31]
  by_cases h1 : inN p1 4
  · obtain ⟨w, hw, rfl⟩ := inN_of (by omega) h1
    have H8 : ∃ a1 a2 a3 a4, f8_right_L15 (nI C) (nI P) (r 2) (g 7) (g 9) (g 5) (g 3) (g 6) (g 12) (g 8) (nI w) FU 0 0 (r 5) (r 4) (g 13) (g 51) (fun x1 _ c3 c4 c5 c6 => some (x1, c3, c4, c5, c6)) = some (nI (rgN (fun c => sayC (fcS P C (g 5) (g 6) (g 7) (g 8) (g 3) c) L false) (g 9) w C), a1, a2, a3, a4) := by
      rw [n0]
      refine lupR (fun fu i (x : Int32 × Int32 × Int32 × (Nat → Int32) × (Nat → Int32)) => f8_right_L15 (nI C) (nI P) (r 2) (g 7) (g 9) (g 5) (g 3) (g 6) (g 12) (g 8) (nI w) fu x.1 i x.2.1 x.2.2.1 x.2.2.2.1 x.2.2.2.2 (fun x1 _ c3 c4 c5 c6 => some (x1, c3, c4, c5, c6))) C 0 (fun k x => x.1 = nI (rgN (fun c => sayC (fcS P C (g 5) (g 6) (g 7) (g 8) (g 3) c) L false) (g 9) w k)) (fun o => ∃ a1 a2 a3 a4, o = some (nI (rgN (fun c => sayC (fcS P C (g 5) (g 6) (g 7) (g 8) (g 3) c) L false) (g 9) w C), a1, a2, a3, a4)) (fun fu c x h0 hc hI hgo => ?_) (fun fu x hI => ?_) (s0 := (nI 0, r 5, r 4, g 13, g 51)) rfl (Nat.zero_le _) (FU_lt (by omega))
      · obtain ⟨c3, c4, c5, c6, F8⟩ := f8_asks_s B hok hc209 hcnt hcodes hc x.2.1 x.2.2.1 x.2.2.2.1 x.2.2.2.2
        have hrg : rgN (fun c => sayC (fcS P C (g 5) (g 6) (g 7) (g 8) (g 3) c) L false) (g 9) w (c + 1) = if ¬ g 9 c = -9 ∧ soN (fun c => sayC (fcS P C (g 5) (g 6) (g 7) (g 8) (g 3) c) L false) (g 9) c = w then rgN (fun c => sayC (fcS P C (g 5) (g 6) (g 7) (g 8) (g 3) c) L false) (g 9) w c + 1 else rgN (fun c => sayC (fcS P C (g 5) (g 6) (g 7) (g 8) (g 3) c) L false) (g 9) w c := rfl
        simp only [f8_right_L15, jnE]
        rw [if_neg (nI_ge hc (by omega)), gdi (by omega) (by omega), nI_clamp (by omega), F8, bn5E, gdi (by omega) (by omega), gdi (by omega) (by omega), nI_1]
        by_cases hf : g 9 c = -9
        · rw [if_pos hf]
          refine hgo x ?_
          rw [hrg, if_neg (fun q => q.1 hf)]
          exact hI
        · rw [if_neg hf]
          have key : ∀ m : Nat, m < 4 → m = soN (fun c => sayC (fcS P C (g 5) (g 6) (g 7) (g 8) (g 3) c) L false) (g 9) c → ∃ a1 a2 a3 a4, (if nI m = nI w then f8_right_L15 (nI C) (nI P) (r 2) (g 7) (g 9) (g 5) (g 3) (g 6) (g 12) (g 8) (nI w) fu (x.1 + 1) (nI (c + 1)) c3 c4 c5 c6 (fun x1 _ c3 c4 c5 c6 => some (x1, c3, c4, c5, c6)) else f8_right_L15 (nI C) (nI P) (r 2) (g 7) (g 9) (g 5) (g 3) (g 6) (g 12) (g 8) (nI w) fu x.1 (nI (c + 1)) c3 c4 c5 c6 (fun x1 _ c3 c4 c5 c6 => some (x1, c3, c4, c5, c6))) = some (nI (rgN (fun c => sayC (fcS P C (g 5) (g 6) (g 7) (g 8) (g 3) c) L false) (g 9) w C), a1, a2, a3, a4) := by
            intro m hm em
            by_cases q : m = w
            · rw [if_pos (by rw [q])]
              refine hgo (x.1 + 1, c3, c4, c5, c6) ?_
              rw [hrg, if_pos ⟨hf, em.symm.trans q⟩, ← nI_1]
              exact congrArg (· + 1) hI
            · rw [if_neg (fun z => q (nI_inj (by omega) (by omega) z))]
              refine hgo (x.1, c3, c4, c5, c6) ?_
              rw [hrg, if_neg (fun z => q (em.trans z.2))]
              exact hI
          rw [b01_0]
          cases hs : sayC (fcS P C (g 5) (g 6) (g 7) (g 8) (g 3) c) L false with
          | true =>
            by_cases hv : g 9 c = 1
            · simp only [if_pos hv]
              exact key 0 (by omega) (so_tt hs hv)
            · simp only [if_neg hv]
              exact key 1 (by omega) (so_tf hs hv)
          | false =>
            by_cases hv : g 9 c = 1
            · simp only [if_pos hv]
              exact key 2 (by omega) (so_ft hs hv)
            · simp only [if_neg hv]
              exact key 3 (by omega) (so_ff hs hv)
      · simp only [f8_right_L15]
        rw [if_pos (nI_le (Nat.le_refl _) (by omega)), hI]
        exact ⟨_, _, _, _, rfl⟩
    have H9 : ∃ b1 b2, f9_right_L15 (nI C) (nI L.length) (nI P) (g 57) (g 60) (g 55) (g 58) (g 56) (g 61) (nI w) FU 0 0 (g 63) (g 66) (fun x2 _ c4 c5 => some (x2, c4, c5)) = some (nI (rgN (fun c => sayC (fcS P C (g 5) (g 6) (g 7) (g 8) (g 3) c) L false) (g 9) w C), b1, b2) := by
      rw [n0]
      refine lupR (fun fu i (x : Int32 × (Nat → Int32) × (Nat → Int32)) => f9_right_L15 (nI C) (nI L.length) (nI P) (g 57) (g 60) (g 55) (g 58) (g 56) (g 61) (nI w) fu x.1 i x.2.1 x.2.2 (fun x2 _ c4 c5 => some (x2, c4, c5))) C 0 (fun k x => x.1 = nI (rgN (fun c => sayC (fcS P C (g 5) (g 6) (g 7) (g 8) (g 3) c) L false) (g 9) w k)) (fun o => ∃ b1 b2, o = some (nI (rgN (fun c => sayC (fcS P C (g 5) (g 6) (g 7) (g 8) (g 3) c) L false) (g 9) w C), b1, b2)) (fun fu c x h0 hc hI hgo => ?_) (fun fu x hI => ?_) (s0 := (nI 0, g 63, g 66)) rfl (Nat.zero_le _) (FU_lt (by omega))
      · obtain ⟨f1, p, F9⟩ := f9_saysOf_s B hok h8 hs200 hsg hcl hc x.2.1 x.2.2
        have w9 : f9_its (g 57) (nI c) 9 = some (g 57 (11 * c + 9)) := f9_its_s (c := c) (w := 9) (by omega) (by omega)
        have hrg : rgN (fun c => sayC (fcS P C (g 5) (g 6) (g 7) (g 8) (g 3) c) L false) (g 9) w (c + 1) = if ¬ g 9 c = -9 ∧ soN (fun c => sayC (fcS P C (g 5) (g 6) (g 7) (g 8) (g 3) c) L false) (g 9) c = w then rgN (fun c => sayC (fcS P C (g 5) (g 6) (g 7) (g 8) (g 3) c) L false) (g 9) w c + 1 else rgN (fun c => sayC (fcS P C (g 5) (g 6) (g 7) (g 8) (g 3) c) L false) (g 9) w c := rfl
        simp only [f9_right_L15, jnE]
        rw [if_neg (nI_ge hc (by omega)), w9, Option.bind_some, F9, bn3E, Option.bind_some, nI_1]
        have key : ∀ m : Nat, m < 4 → ¬ g 9 c = -9 → m = soN (fun c => sayC (fcS P C (g 5) (g 6) (g 7) (g 8) (g 3) c) L false) (g 9) c → ∃ b1 b2, (if nI m = nI w then f9_right_L15 (nI C) (nI L.length) (nI P) (g 57) (g 60) (g 55) (g 58) (g 56) (g 61) (nI w) fu (x.1 + 1) (nI (c + 1)) f1 p (fun x2 _ c4 c5 => some (x2, c4, c5)) else f9_right_L15 (nI C) (nI L.length) (nI P) (g 57) (g 60) (g 55) (g 58) (g 56) (g 61) (nI w) fu (x.1 + 0) (nI (c + 1)) f1 p (fun x2 _ c4 c5 => some (x2, c4, c5))) = some (nI (rgN (fun c => sayC (fcS P C (g 5) (g 6) (g 7) (g 8) (g 3) c) L false) (g 9) w C), b1, b2) := by
          intro m hm hf em
          by_cases q : m = w
          · rw [if_pos (by rw [q])]
            refine hgo (x.1 + 1, f1, p) ?_
            rw [hrg, if_pos ⟨hf, em.symm.trans q⟩, ← nI_1]
            exact congrArg (· + 1) hI
          · rw [if_neg (fun z => q (nI_inj (by omega) (by omega) z)), Int32.add_zero]
            refine hgo (x.1, f1, p) ?_
            rw [hrg, if_neg (fun z => q (em.trans z.2))]
            exact hI
        rcases B.2.2.2.2.2.2.2.2.2.2.2.1 c hc with ⟨a, b⟩ | ⟨a, b⟩ | ⟨a, b⟩
        · rw [b, if_pos rfl, if_neg (fun z => nI_ne1 (by omega) z.symm), Int32.add_zero]
          refine hgo x ?_
          rw [hrg, if_neg (fun q => q.1 a)]
          exact hI
        · rw [b, if_neg (by decide)]
          cases hs : sayC (fcS P C (g 5) (g 6) (g 7) (g 8) (g 3) c) L false with
          | true => exact key 1 (by omega) (by rw [a]; decide) (so_tf hs (by rw [a]; decide))
          | false => exact key 3 (by omega) (by rw [a]; decide) (so_ff hs (by rw [a]; decide))
        · rw [b, if_neg (by decide)]
          cases hs : sayC (fcS P C (g 5) (g 6) (g 7) (g 8) (g 3) c) L false with
          | true => exact key 0 (by omega) (by rw [a]; decide) (so_tt hs a)
          | false => exact key 2 (by omega) (by rw [a]; decide) (so_ft hs a)
      · simp only [f9_right_L15]
        rw [if_pos (nI_le (Nat.le_refl _) (by omega)), hI]
        exact ⟨_, _, rfl⟩
    obtain ⟨a1, a2, a3, a4, H8⟩ := H8
    obtain ⟨b1, b2, H9⟩ := H9
    refine ⟨nI (rgN (fun c => sayC (fcS P C (g 5) (g 6) (g 7) (g 8) (g 3) c) L false) (g 9) w C), a1, a2, a3, a4, b1, b2, ?_, ?_, hR0⟩
    · unfold f8_right
      rw [n3, gC (by omega), if_pos h1, jnE]
      exact H8
    · unfold f9_right
      rw [fk3, Option.bind_some, gI, if_pos h1, hmcls, jnE]
      exact H9
  · refine ⟨-1, r 5, r 4, g 13, g 51, g 63, g 66, ?_, ?_, hR0⟩
    · unfold f8_right
      rw [n3, gC (by omega), if_neg h1]
    · unfold f9_right
      rw [fk3, Option.bind_some, gI, if_neg h1]
