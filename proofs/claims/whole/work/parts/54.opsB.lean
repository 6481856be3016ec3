/-! ===== op_keep, op_again ===== -/
theorem pack_sg (s sz tw hb on cl lw cu sg k : Nat → Int32) {i : Nat} (h : i < 200) : pack s sz tw hb on cl lw cu sg k (168 + i) = sg i := by
  unfold pack
  rw [lay_i h]
theorem pack_cu (s sz tw hb on cl lw cu sg k : Nat → Int32) {i : Nat} (h : i < 24) : pack s sz tw hb on cl lw cu sg k (144 + i) = cu i := by
  unfold pack
  rw [lay_o (by omega), lay_i h]
theorem pack_lw (s sz tw hb on cl lw cu sg k : Nat → Int32) {i : Nat} (h : i < 7) : pack s sz tw hb on cl lw cu sg k (137 + i) = lw i := by
  unfold pack
  rw [lay_o (by omega), lay_o (by omega), lay_i h]
theorem pack_cl (s sz tw hb on cl lw cu sg k : Nat → Int32) {i : Nat} (h : i < 99) : pack s sz tw hb on cl lw cu sg k (38 + i) = cl i := by
  unfold pack
  rw [lay_o (by omega), lay_o (by omega), lay_o (by omega), lay_i h]
theorem pack_on (s sz tw hb on cl lw cu sg k : Nat → Int32) {i : Nat} (h : i < 10) : pack s sz tw hb on cl lw cu sg k (28 + i) = on i := by
  unfold pack
  rw [lay_o (by omega), lay_o (by omega), lay_o (by omega), lay_o (by omega), lay_i h]
theorem pack_hb (s sz tw hb on cl lw cu sg k : Nat → Int32) {i : Nat} (h : i < 10) : pack s sz tw hb on cl lw cu sg k (18 + i) = hb i := by
  unfold pack
  rw [lay_o (by omega), lay_o (by omega), lay_o (by omega), lay_o (by omega), lay_o (by omega), lay_i h]
theorem pack_tw (s sz tw hb on cl lw cu sg k : Nat → Int32) {i : Nat} (h : i < 10) : pack s sz tw hb on cl lw cu sg k (8 + i) = tw i := by
  unfold pack
  rw [lay_o (by omega), lay_o (by omega), lay_o (by omega), lay_o (by omega), lay_o (by omega), lay_o (by omega), lay_i h]
theorem pack_sz (s sz tw hb on cl lw cu sg k : Nat → Int32) {i : Nat} (h : i < 4) : pack s sz tw hb on cl lw cu sg k (4 + i) = sz i := by
  unfold pack
  rw [lay_o (by omega), lay_o (by omega), lay_o (by omega), lay_o (by omega), lay_o (by omega), lay_o (by omega), lay_o (by omega), lay_i h]
theorem pack_s (s sz tw hb on cl lw cu sg k : Nat → Int32) {i : Nat} (h : i < 4) : pack s sz tw hb on cl lw cu sg k (0 + i) = s i := by
  unfold pack
  rw [lay_o (by omega), lay_o (by omega), lay_o (by omega), lay_o (by omega), lay_o (by omega), lay_o (by omega), lay_o (by omega), lay_o (by omega), lay_i h]
theorem jnB {α β : Type} (k : α) (f : α → β) : jn k f = f k := by unfold jn; exact Eq.refl _
theorem nar_b {x : Int32} (h : x = 0 ∨ x = 1) : vp_nar .boolean x = x := by rcases h with rfl | rfl <;> rfl
theorem cpy_0 (f g : Nat → Int32) : va_cpy f g 0 0 0 = g := by
  funext k; unfold va_cpy
  exact if_neg (by omega)
theorem cpy_S (f g : Nat → Int32) (i : Nat) : upd (va_cpy f g 0 0 i) i (f i) = va_cpy f g 0 0 (i + 1) := by
  funext k
  by_cases e : k = i
  · rw [updS e, e, cpy_e f g (i + 1) i (by omega)]
  · rw [upd_n e]; unfold va_cpy
    simp only [show (0 ≤ k ∧ k < 0 + (i + 1)) ↔ (0 ≤ k ∧ k < 0 + i) by omega]
theorem hubs_s (hub thub : Nat → Int32) (hh : ∀ i, i < 10 → hub i = 0 ∨ hub i = 1) (K) : f0_copyFrom_L122 hub FU (0 : Int32) thub K = K (nI 10) (va_cpy hub thub 0 0 10) := by
  refine lup0 (fun fu i s => f0_copyFrom_L122 hub fu i s K) 10 (fun i => va_cpy hub thub 0 0 i) (fun fu i hi => ?_) (fun fu => ?_) (cpy_0 _ _) (FU_lt (by omega))
  · simp only [f0_copyFrom_L122]
    rw [if_neg (show ¬ (10 : Int32) ≤ nI i from nI_ge (b := 10) (by omega) (by omega)), gdi (by omega) (by omega), gdi (by omega) (by omega), nI_clamp (by omega), nI_1, nar_b (hh i hi), cpy_S]
  · simp only [f0_copyFrom_L122]
    rw [if_pos (show (10 : Int32) ≤ nI 10 by decide)]
theorem byc_s (byc tbyc : Nat → Int32) (hh : ∀ i, i < 9 → byc i = 0 ∨ byc i = 1) (K) : f0_copyFrom_L148 byc FU (0 : Int32) tbyc K = K (nI 9) (va_cpy byc tbyc 0 0 9) := by
  refine lup0 (fun fu i s => f0_copyFrom_L148 byc fu i s K) 9 (fun i => va_cpy byc tbyc 0 0 i) (fun fu i hi => ?_) (fun fu => ?_) (cpy_0 _ _) (FU_lt (by omega))
  · simp only [f0_copyFrom_L148]
    rw [if_neg (show ¬ (9 : Int32) ≤ nI i from nI_ge (b := 9) (by omega) (by omega)), gdi (by omega) (by omega), gdi (by omega) (by omega), nI_clamp (by omega), nI_1, nar_b (hh i hi), cpy_S]
  · simp only [f0_copyFrom_L148]
    rw [if_pos (show (9 : Int32) ≤ nI 9 by decide)]
theorem copyFrom_s (cl pe rcl z tcl tpe trcl trc tz : Int32) (byc fac fou hom hub law one cod sea siz tbyc tfac tfou thom thub tlaw tone tcod tsea tsiz : Nat → Int32) {n : Nat} (hn : n ≤ 209) (hh : ∀ i, i < 10 → hub i = 0 ∨ hub i = 1) (hb : ∀ i, i < 9 → byc i = 0 ∨ byc i = 1) : f0_copyFrom cl pe rcl (nI n) z tcl tpe trcl trc tz byc fac fou hom hub law one cod sea siz tbyc tfac tfou thom thub tlaw tone tcod tsea tsiz = some (cl, pe, rcl, nI n, z, va_cpy byc tbyc 0 0 9, va_cpy fac tfac 0 0 45, va_cpy fou tfou 0 0 9, va_cpy hom thom 0 0 10, va_cpy hub thub 0 0 10, va_cpy law tlaw 0 0 7, va_cpy one tone 0 0 10, (fun j => if j < n then cod j else tcod j), va_cpy sea tsea 0 0 36, va_cpy siz tsiz 0 0 4) := by
  unfold f0_copyFrom
  rw [jnB]
  try dsimp only
  rw [hubs_s _ _ hh]
  try dsimp only
  rw [jnB]
  try dsimp only
  rw [byc_s _ _ hb]
  try dsimp only
  rw [f6_copyFrom_s _ _ _ _ _ hn]
  rfl
theorem op_keep : Op_keep Rl := by
  intro r g u h hR
  obtain ⟨⟨P, C, e0, e30, e1, e31, ez, B⟩, hM, hRR, hK, hT, hW, hH, hS, hP⟩ := hR
  obtain ⟨n, hn, en⟩ := RR_n hRR
  have B0 := B
  obtain ⟨b1, b2, b3, b4, b5, b6, b7, b8, b9, b10, b11, b12, b13, b14⟩ := B0
  have F8 := copyFrom_s (r 1) (r 0) (r 3) (r 6) (r 8) (r 7) (r 10) (r 9) (r 13) (g 10) (g 7) (g 9) (g 4) (g 5) (g 3) (g 6) (g 12) (g 8) (g 2) (g 23) (g 20) (g 22) (g 17) (g 18) (g 16) (g 19) (g 25) (g 21) (g 15) hn b7 b14
  have F9 := moveAll_k (r 32) (r 31) (r 52) (r 30) (r 33) (g 57) (g 60) (g 55) (g 81) (g 58) (g 56) (g 61) (g 82) (g 53) (g 54)
  rw [← en] at F8
  refine ⟨1, 1, r 1, r 0, r 3, r 2, r 6, va_cpy (g 10) (g 23) 0 0 9, va_cpy (g 7) (g 20) 0 0 45, va_cpy (g 9) (g 22) 0 0 9, va_cpy (g 4) (g 17) 0 0 10, va_cpy (g 5) (g 18) 0 0 10, va_cpy (g 3) (g 16) 0 0 7, va_cpy (g 6) (g 19) 0 0 10, (fun j => if j < n then g 12 j else g 25 j), va_cpy (g 8) (g 21) 0 0 36, va_cpy (g 2) (g 15) 0 0 4, 1, nI 368, g 57, g 60, g 55, pack (sg4 (r 30) (r 31) (r 32) (r 33) (g 82)) (g 53) (g 54) (g 55) (g 56) (g 57) (g 58) (g 60) (g 61) (g 81), g 58, g 56, g 61, sg4 (r 30) (r 31) (r 32) (r 33) (g 82), g 53, g 54, ?_, ?_, ⟨P, C, e0, e30, e1, e31, ez, B⟩, hM, hRR, ⟨rfl, Or.inr ⟨rfl, ⟨P, C, e0, ?_, e1, ?_, ?_, ?_⟩, ?_⟩⟩, hT, hW, hH, hS, hP⟩
  · unfold f8_keep
    rw [F8]; rfl
  · unfold f9_keep
    rw [F9]; rfl
  · exact (pack_s (sg4 (r 30) (r 31) (r 32) (r 33) (g 82)) (g 53) (g 54) (g 55) (g 56) (g 57) (g 58) (g 60) (g 61) (g 81) (i := 0) (by omega)).trans e30
  · exact (pack_s (sg4 (r 30) (r 31) (r 32) (r 33) (g 82)) (g 53) (g 54) (g 55) (g 56) (g 57) (g 58) (g 60) (g 61) (g 81) (i := 1) (by omega)).trans e31
  · exact (pack_s (sg4 (r 30) (r 31) (r 32) (r 33) (g 82)) (g 53) (g 54) (g 55) (g 56) (g 57) (g 58) (g 60) (g 61) (g 81) (i := 3) (by omega)).trans ez
  · exact RBx_c B (fun i hi => cpy_e _ _ _ _ hi) (fun i hi => cpy_e _ _ _ _ hi) (fun i hi => cpy_e _ _ _ _ hi) (fun i hi => cpy_e _ _ _ _ hi) (fun i hi => cpy_e _ _ _ _ hi) (fun i hi => cpy_e _ _ _ _ hi) (fun i hi => cpy_e _ _ _ _ hi) (fun i hi => cpy_e _ _ _ _ hi) (fun i hi => cpy_e _ _ _ _ hi) (fun i hi => pack_sz _ _ _ _ _ _ _ _ _ _ hi) (fun i hi => pack_tw _ _ _ _ _ _ _ _ _ _ hi) (fun i hi => pack_hb _ _ _ _ _ _ _ _ _ _ hi) (fun i hi => pack_on _ _ _ _ _ _ _ _ _ _ hi) (fun i hi => pack_cl _ _ _ _ _ _ _ _ _ _ hi) (fun i hi => pack_lw _ _ _ _ _ _ _ _ _ _ hi)
  · have e2 : pack (sg4 (r 30) (r 31) (r 32) (r 33) (g 82)) (g 53) (g 54) (g 55) (g 56) (g 57) (g 58) (g 60) (g 61) (g 81) 2 = r 32 := pack_s (sg4 (r 30) (r 31) (r 32) (r 33) (g 82)) (g 53) (g 54) (g 55) (g 56) (g 57) (g 58) (g 60) (g 61) (g 81) (i := 2) (by omega)
    show RR (r 2) (r 3) _ (pack (sg4 (r 30) (r 31) (r 32) (r 33) (g 82)) (g 53) (g 54) (g 55) (g 56) (g 57) (g 58) (g 60) (g 61) (g 81) 2) _ _
    rw [e2]
    refine RR_c hRR (fun n' hn' en' i hi => ?_) (fun i hi => pack_cu _ _ _ _ _ _ _ _ _ _ hi) (fun i hi => pack_sg _ _ _ _ _ _ _ _ _ _ hi)
    have : n' = n := nI_inj (by omega) (by omega) (en'.symm.trans en)
    subst this
    exact if_pos hi
theorem op_again : Op_again Rl := by
  intro r g u h hR
  have hR0 := hR
  obtain ⟨hB, hM, hRR, ⟨ea, hK⟩, hT, hW, hH, hS, hP⟩ := hR
  rcases hK with e | ⟨e, ⟨P, C, e0, e30, e1, e31, ez, B⟩, hQ⟩
  · refine ⟨-3, _, _, _, _, _, _, _, _, _, _, _, _, _, _, _, _, _, r 52, _, _, _, _, _, _, _, _, _, g 82, _, _, ?_, ?_, hR0⟩
    · unfold f8_again
      rw [if_pos e]
    · unfold f9_again
      rw [if_pos (ea.trans e)]
  · obtain ⟨n, hn, en⟩ := RR_n hQ
    have B0 := B
    obtain ⟨b1, b2, b3, b4, b5, b6, b7, b8, b9, b10, b11, b12, b13, b14⟩ := B0
    have F8 := copyFrom_s (r 8) (r 7) (r 10) (r 13) (r 1) (r 0) (r 3) (r 2) (r 6) (g 23) (g 20) (g 22) (g 17) (g 18) (g 16) (g 19) (g 25) (g 21) (g 15) (g 10) (g 7) (g 9) (g 4) (g 5) (g 3) (g 6) (g 12) (g 8) (g 2) hn b7 b14
    have F9 := moveAll_a (r 32) (r 31) (r 52) (r 30) (r 33) (g 57) (g 60) (g 55) (g 81) (g 58) (g 56) (g 61) (g 82) (g 53) (g 54)
    rw [← en] at F8
    have v : g 81 1 = r 8 := e31.trans e1.symm
    refine ⟨r 8, r 8, r 7, r 10, r 9, r 13, va_cpy (g 23) (g 10) 0 0 9, va_cpy (g 20) (g 7) 0 0 45, va_cpy (g 22) (g 9) 0 0 9, va_cpy (g 17) (g 4) 0 0 10, va_cpy (g 18) (g 5) 0 0 10, va_cpy (g 16) (g 3) 0 0 7, va_cpy (g 19) (g 6) 0 0 10, (fun j => if j < n then g 25 j else g 12 j), va_cpy (g 21) (g 8) 0 0 36, va_cpy (g 15) (g 2) 0 0 4, g 81 1, g 81 2, nI 368, g 81 0, g 81 3, fet 38 99 (g 81) (g 57), fet 144 24 (g 81) (g 60), fet 18 10 (g 81) (g 55), g 81, fet 137 7 (g 81) (g 58), fet 28 10 (g 81) (g 56), fet 168 200 (g 81) (g 61), fet 0 4 (g 81) (sg4 (r 30) (r 31) (r 32) (r 33) (g 82)), fet 4 4 (g 81) (g 53), fet 8 10 (g 81) (g 54), ?_, ?_, ⟨P, C, e0, e30, e1, e31, ez, ?_⟩, hM, ?_, ⟨ea, Or.inr ⟨e, ⟨P, C, e0, e30, e1, e31, ez, B⟩, hQ⟩⟩, hT, hW, hH, hS, hP⟩
    · unfold f8_again
      rw [if_neg (by rw [e]; decide), F8]; rfl
    · unfold f9_again
      have i0 : ix (0 : Int32) 4 = true := by decide
      have i1 : ix (1 : Int32) 4 = true := by decide
      have i2 : ix (2 : Int32) 4 = true := by decide
      have i3 : ix (3 : Int32) 4 = true := by decide
      rw [if_neg (by rw [ea, e]; decide), F9, i0, i1, i2, i3, ← v]
      rfl
    · exact RBx_c B (fun i hi => cpy_e _ _ _ _ hi) (fun i hi => cpy_e _ _ _ _ hi) (fun i hi => cpy_e _ _ _ _ hi) (fun i hi => cpy_e _ _ _ _ hi) (fun i hi => cpy_e _ _ _ _ hi) (fun i hi => cpy_e _ _ _ _ hi) (fun i hi => cpy_e _ _ _ _ hi) (fun i hi => cpy_e _ _ _ _ hi) (fun i hi => cpy_e _ _ _ _ hi) (fun i hi => fet_i hi) (fun i hi => fet_i hi) (fun i hi => fet_i hi) (fun i hi => fet_i hi) (fun i hi => fet_i hi) (fun i hi => fet_i hi)
    · refine RR_c hQ (fun n' hn' en' i hi => ?_) (fun i hi => fet_i hi) (fun i hi => fet_i hi)
      have : n' = n := nI_inj (by omega) (by omega) (en'.symm.trans en)
      subst this
      exact if_pos hi
