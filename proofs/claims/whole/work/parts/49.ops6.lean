/-! ===== feed, sheets ===== -/
theorem m1n {R : Type} {n : Nat} (hn : n < 2 ^ 30) (x : Int32) (A D : R) : (if x < -1 then A else if x < nI n then D else A) = if x = -1 ∨ inN x n then D else A := by
  have e : (¬ x < (-1 : Int32) ∧ x < nI n) ↔ (x = -1 ∨ inN x n) := by
    rw [ltN (by omega), Int32.lt_iff_toInt_lt, ← Int32.toInt_inj, show (-1 : Int32).toInt = -1 by decide]; unfold inN; omega
  by_cases h : x = -1 ∨ inN x n
  · rw [if_pos h, if_neg (e.mpr h).1, if_pos (e.mpr h).2]
  · rw [if_neg h]
    by_cases a : x < -1
    · rw [if_pos a]
    · rw [if_neg a, if_neg (fun q => h (e.mp ⟨a, q⟩))]
theorem f9_in_m1 {n : Nat} (hn : n < 2 ^ 30) (x : Int32) : f9_in x (-1) (nI n) = some (b2 (x = -1 ∨ inN x (n + 1))) := by
  rw [f9_in_s]
  have e : ((-1 : Int32) ≤ x ∧ x ≤ nI n) ↔ (x = -1 ∨ inN x (n + 1)) := by
    rw [Int32.le_iff_toInt_le, leN' (by omega), ← Int32.toInt_inj, show (-1 : Int32).toInt = -1 by decide]; unfold inN; omega
  unfold b2
  by_cases h : x = -1 ∨ inN x (n + 1)
  · rw [if_pos h, if_pos (e.mpr h)]
  · rw [if_neg h, if_neg (fun q => h (e.mp q))]
theorem updLS {f : Nat → Int64} {k j : Nat} {x : Int64} (h : j = k) : vp_updL f k x j = x := if_pos h
theorem updLn {f : Nat → Int64} {k j : Nat} {x : Int64} (h : j ≠ k) : vp_updL f k x j = f j := if_neg h
theorem op_sheet : Op_sheet Rl := by
  intro r g u h p1 p2 p3 hR
  have hR0 := hR
  obtain ⟨hB, hM, hRR, hK, hT, hW, hH, hS, hP⟩ := hR
  have bad : ∀ v : Int32, f8_sheet (g 45) (g 44) (h 46) p1 p2 p3 = some (v, g 45, g 44, h 46) → f9_sheet (g 75) (g 74) (h 76) p1 p2 p3 = some (v, g 75, g 74, h 76) → ∃ v a1 a2 a3 b1 b2 b3, f8_sheet (g 45) (g 44) (h 46) p1 p2 p3 = some (v, a1, a2, a3) ∧ f9_sheet (g 75) (g 74) (h 76) p1 p2 p3 = some (v, b1, b2, b3) ∧ Rl r (lkp (lkp g [(45, a1), (44, a2)]) [(75, b1), (74, b2)]) u (lkp (lkp h [(46, a3)]) [(76, b3)]) :=
    fun v e8 e9 => ⟨v, _, _, _, _, _, _, e8, e9, hR0⟩
  have E8 : f8_sheet (g 45) (g 44) (h 46) p1 p2 p3 = if inN p1 4 ∧ (p2 = -1 ∨ inN p2 4) then (if p2 = (-1) then Option.bind (f1_drop (g 44) p1) fun c7 => some (1, g 45, c7, h 46) else if p3 ≤ 40 then if 0 ≤ p3 then bn3 (f1_lay (g 45) (g 44) (h 46) p1 p2 p3) fun c2 c3 c4 => some (1, c2, c3, c4) else some (-14, g 45, g 44, h 46) else some (-1, g 45, g 44, h 46)) else some (-1, g 45, g 44, h 46) := by
    unfold f8_sheet
    rw [f1_isSheet_s, Option.bind_some, gI, show (4 : Int32) = nI 4 from rfl, m1n (by omega), gM]
  have w9 : ∀ (m : Nat → Int64) (s : Nat) (hs : s < 4) (K : Int32 → (Nat → Int64) → Option (Int32 × (Nat → Int32) × (Nat → Int32) × (Nat → Int64))), f9_sheet_L64 (nI s) FU 0 m K = K (nI 40) (fun j => if 40 * s ≤ j ∧ j < 40 * s + 40 then 0 else m j) := by
    intro m s hs K
    refine lup0 (fun fu i t => f9_sheet_L64 (nI s) fu i t K) 40 (fun i j => if 40 * s ≤ j ∧ j < 40 * s + i then 0 else m j) (fun fu i hi => ?_) (fun fu => ?_) (funext fun j => if_neg (by omega)) (FU_lt (by omega))
    · simp only [f9_sheet_L64]
      simp (disch := omega) only [n2, n3, n4, n5, n6, n7, n8, n9, n10, n11, n12, n13, n14, n15, n16, n20, n24, n32, n50, n60, n64, n80, n81, n90, n100, n128, n256, n30, n36, n40, n99, n200, n512, pk_mul, nI_add, nI_1, nI_a0, gdi, nI_clamp, ltT, ltF, leT, leF, lt0F, le0T, eqT, eqF, eq0F, nI_sub, h10, and_true, true_and, and_false, false_and, and_self, not_true, not_false_eq_true, Option.bind_some, jn, ↓reduceIte]
      congr 1; funext j
      by_cases e : j = 40 * s + i
      · rw [updLS e, if_pos (by omega)]
      · rw [updLn e]; simp only [show (40 * s ≤ j ∧ j < 40 * s + (i + 1)) ↔ (40 * s ≤ j ∧ j < 40 * s + i) by omega]
    · simp only [f9_sheet_L64]
      simp (disch := omega) only [n2, n3, n4, n5, n6, n7, n8, n9, n10, n11, n12, n13, n14, n15, n16, n20, n24, n32, n50, n60, n64, n80, n81, n90, n100, n128, n256, n30, n36, n40, n99, n200, n512, pk_mul, nI_add, nI_1, nI_a0, gdi, nI_clamp, ltT, ltF, leT, leF, lt0F, le0T, eqT, eqF, eq0F, nI_sub, h10, and_true, true_and, and_false, false_and, and_self, not_true, not_false_eq_true, Option.bind_some, jn, ↓reduceIte]
  have w8 : ∀ (m : Nat → Int64) (s : Nat) (hs : s < 4) (K : Int32 → (Nat → Int64) → Option ((Nat → Int32) × (Nat → Int32) × (Nat → Int64))), f1_lay_L25 (nI s) FU 0 m K = K (nI 40) (fun j => if s * 40 ≤ j ∧ j < s * 40 + 40 then 0 else m j) := by
    intro m s hs K
    refine lup0 (fun fu i t => f1_lay_L25 (nI s) fu i t K) 40 (fun i j => if s * 40 ≤ j ∧ j < s * 40 + i then 0 else m j) (fun fu i hi => ?_) (fun fu => ?_) (funext fun j => if_neg (by omega)) (FU_lt (by omega))
    · simp only [f1_lay_L25]
      simp (disch := omega) only [n2, n3, n4, n5, n6, n7, n8, n9, n10, n11, n12, n13, n14, n15, n16, n20, n24, n32, n50, n60, n64, n80, n81, n90, n100, n128, n256, n30, n36, n40, n99, n200, n512, pk_mul, nI_add, nI_1, nI_a0, gdi, nI_clamp, ltT, ltF, leT, leF, lt0F, le0T, eqT, eqF, eq0F, nI_sub, h10, and_true, true_and, and_false, false_and, and_self, not_true, not_false_eq_true, Option.bind_some, jn, ↓reduceIte]
      congr 1; funext j
      by_cases e : j = s * 40 + i
      · rw [updLS e, if_pos (by omega)]
      · rw [updLn e]; simp only [show (s * 40 ≤ j ∧ j < s * 40 + (i + 1)) ↔ (s * 40 ≤ j ∧ j < s * 40 + i) by omega]
    · simp only [f1_lay_L25]
      simp (disch := omega) only [n2, n3, n4, n5, n6, n7, n8, n9, n10, n11, n12, n13, n14, n15, n16, n20, n24, n32, n50, n60, n64, n80, n81, n90, n100, n128, n256, n30, n36, n40, n99, n200, n512, pk_mul, nI_add, nI_1, nI_a0, gdi, nI_clamp, ltT, ltF, leT, leF, lt0F, le0T, eqT, eqF, eq0F, nI_sub, h10, and_true, true_and, and_false, false_and, and_self, not_true, not_false_eq_true, Option.bind_some, jn, ↓reduceIte]
  by_cases h1 : inN p1 4 ∧ (p2 = -1 ∨ inN p2 4)
  · obtain ⟨s, hs, rfl⟩ := inN_of (by omega) h1.1
    rw [if_pos h1] at E8
    have E9 : f9_sheet (g 75) (g 74) (h 76) (nI s) p2 p3 = if p2 = -1 then some (1, upd (g 75) s 0, upd (g 74) s p2, fun j => if 40 * s ≤ j ∧ j < 40 * s + 40 then 0 else h 76 j) else if p3 ≤ 40 then if 0 ≤ p3 then some (1, upd (g 75) s p3, upd (g 74) s p2, fun j => if 40 * s ≤ j ∧ j < 40 * s + 40 then 0 else h 76 j) else some (-14, g 75, g 74, h 76) else some (-1, g 75, g 74, h 76) := by
      unfold f9_sheet
      rw [f9_isShelf_s, Option.bind_some, gI, if_pos h1.1, show (3 : Int32) = nI 3 from rfl, f9_in_m1 (by omega), Option.bind_some, b2_t h1.2, if_neg (by decide)]
      simp only [jn]
      rw [w9 _ _ hs, w9 _ _ hs, gdi hs (by omega), gdi hs (by omega), gdi hs (by omega), nI_clamp (by omega)]
      rcases h1.2 with rfl | h2
      · rw [if_pos (by decide), if_pos (by decide), if_pos rfl, if_neg (by decide)]
      · obtain ⟨t, ht, rfl⟩ := inN_of (by omega) h2
        rw [if_neg (nI_ne1 (by omega)), if_neg (nI_pos (by omega)), if_neg (nI_pos (by omega)), if_pos (nI_pos' (by omega))]
    rcases h1.2 with rfl | h2
    · rw [if_pos rfl] at E8 E9
      refine ⟨1, g 45, upd (g 44) s (-1), h 46, _, _, _, ?_, E9, hB, hM, hRR, hK, hT, hW, fun i hi => ?_, hS, hP⟩
      · rw [E8]
        unfold f1_drop
        rw [f1_isSheet_s, Option.bind_some, gI, if_pos h1.1]
        simp (disch := omega) only [n2, n3, n4, n5, n6, n7, n8, n9, n10, n11, n12, n13, n14, n15, n16, n20, n24, n32, n50, n60, n64, n80, n81, n90, n100, n128, n256, n30, n36, n40, n99, n200, n512, pk_mul, nI_add, nI_1, nI_a0, gdi, nI_clamp, ltT, ltF, leT, leF, lt0F, le0T, eqT, eqF, eq0F, nI_sub, h10, and_true, true_and, and_false, false_and, and_self, not_true, not_false_eq_true, Option.bind_some, jn, ↓reduceIte]
      · show upd (g 74) s (-1) i = upd (g 44) s (-1) i ∧ (upd (g 44) s (-1) i = -1 ∨ ∃ t n : Nat, t < 4 ∧ n ≤ 40 ∧ upd (g 44) s (-1) i = nI t ∧ g 45 i = nI n ∧ upd (g 75) s 0 i = nI n ∧ ∀ j, j < 40 → (if 40 * s ≤ 40 * i + j ∧ 40 * i + j < 40 * s + 40 then 0 else h 76 (40 * i + j)) = h 46 (i * 40 + j))
        by_cases e : i = s
        · rw [updS e, updS e]; exact ⟨rfl, Or.inl rfl⟩
        · rw [upd_n e, upd_n e, upd_n e]
          obtain ⟨a, b | ⟨t, n, ht, hn, b1, b2, b3, b4⟩⟩ := hH i hi
          · exact ⟨a, Or.inl b⟩
          · refine ⟨a, Or.inr ⟨t, n, ht, hn, b1, b2, b3, fun j hj => ?_⟩⟩
            rw [if_neg (by omega)]; exact b4 j hj
    · obtain ⟨t, ht, rfl⟩ := inN_of (by omega) h2
      rw [if_neg (nI_ne1 (by omega))] at E8 E9
      by_cases h3 : p3 ≤ 40
      · rw [if_pos h3] at E8 E9
        by_cases h4 : 0 ≤ p3
        · rw [if_pos h4] at E8 E9
          have hn : inN p3 41 := by
            have a := (leN' (n := 40) (by omega) p3).mp h3
            rw [Int32.le_iff_toInt_le, z0] at h4
            exact ⟨h4, by omega⟩
          obtain ⟨n, hn, rfl⟩ := inN_of (by omega) hn
          refine ⟨1, upd (g 45) s (nI n), upd (g 44) s (nI t), fun j => if s * 40 ≤ j ∧ j < s * 40 + 40 then 0 else h 46 j, _, _, _, ?_, E9, hB, hM, hRR, hK, hT, hW, fun i hi => ?_, hS, hP⟩
          · rw [E8]
            unfold f1_lay
            simp only [jn]
            rw [f1_isSheet_s, Option.bind_some, gI, if_pos h1.1, w8 _ _ hs]
            simp (disch := omega) only [n2, n3, n4, n5, n6, n7, n8, n9, n10, n11, n12, n13, n14, n15, n16, n20, n24, n32, n50, n60, n64, n80, n81, n90, n100, n128, n256, n30, n36, n40, n99, n200, n512, pk_mul, nI_add, nI_1, nI_a0, gdi, nI_clamp, ltT, ltF, leT, leF, lt0F, le0T, eqT, eqF, eq0F, nI_sub, h10, and_true, true_and, and_false, false_and, and_self, not_true, not_false_eq_true, Option.bind_some, jn, ↓reduceIte]
            rfl
          · show upd (g 74) s (nI t) i = upd (g 44) s (nI t) i ∧ (upd (g 44) s (nI t) i = -1 ∨ ∃ t' n' : Nat, t' < 4 ∧ n' ≤ 40 ∧ upd (g 44) s (nI t) i = nI t' ∧ upd (g 45) s (nI n) i = nI n' ∧ upd (g 75) s (nI n) i = nI n' ∧ ∀ j, j < 40 → (if 40 * s ≤ 40 * i + j ∧ 40 * i + j < 40 * s + 40 then 0 else h 76 (40 * i + j)) = (if s * 40 ≤ i * 40 + j ∧ i * 40 + j < s * 40 + 40 then 0 else h 46 (i * 40 + j)))
            by_cases e : i = s
            · rw [updS e, updS e, updS e, updS e]
              refine ⟨rfl, Or.inr ⟨t, n, ht, by omega, rfl, rfl, rfl, fun j hj => ?_⟩⟩
              rw [if_pos (by omega), if_pos (by omega)]
            · rw [upd_n e, upd_n e, upd_n e, upd_n e]
              obtain ⟨a, b | ⟨t, n, ht, hn, b1, b2, b3, b4⟩⟩ := hH i hi
              · exact ⟨a, Or.inl b⟩
              · refine ⟨a, Or.inr ⟨t, n, ht, hn, b1, b2, b3, fun j hj => ?_⟩⟩
                rw [if_neg (by omega), if_neg (by omega)]; exact b4 j hj
        · rw [if_neg h4] at E8 E9; exact bad _ E8 E9
      · rw [if_neg h3] at E8 E9; exact bad _ E8 E9
  · rw [if_neg h1] at E8
    refine bad _ E8 ?_
    unfold f9_sheet
    rw [f9_isShelf_s, Option.bind_some, gI, show (3 : Int32) = nI 3 from rfl, f9_in_m1 (by omega), Option.bind_some]
    by_cases h2 : inN p1 4
    · rw [if_pos h2, b2_f (fun q => h1 ⟨h2, q⟩), if_pos rfl]
    · rw [if_neg h2]
theorem f1_isMissing_s (sor : Nat → Int32) {s : Nat} (hs : s < 4) : f1_isMissing sor (nI s) = some (b2 (sor s = -1)) := by
  unfold f1_isMissing b2
  rw [f1_isSheet_s, Option.bind_some, gI, if_pos (inN_nI hs (by omega))]
  simp (disch := omega) only [n2, n3, n4, n5, n6, n7, n8, n9, n10, n11, n12, n13, n14, n15, n16, n20, n24, n32, n50, n60, n64, n80, n81, n90, n100, n128, n256, n30, n36, n40, n99, n200, n512, pk_mul, nI_add, nI_1, nI_a0, gdi, nI_clamp, ltT, ltF, leT, leF, lt0F, le0T, eqT, eqF, eq0F, nI_sub, h10, and_true, true_and, and_false, false_and, and_self, not_true, not_false_eq_true, Option.bind_some, jn, ↓reduceIte]
  split <;> rfl
theorem f1_isInside_s (len sor : Nat → Int32) {s n : Nat} (hs : s < 4) (h : ¬ sor s = -1) (hn : n ≤ 40) (e : len s = nI n) (y : Int32) : f1_isInside len sor (nI s) y = some (b2 (inN y n)) := by
  unfold f1_isInside
  rw [f1_isMissing_s _ hs, Option.bind_some, b2_f h, if_pos rfl]
  simp (disch := omega) only [n2, n3, n4, n5, n6, n7, n8, n9, n10, n11, n12, n13, n14, n15, n16, n20, n24, n32, n50, n60, n64, n80, n81, n90, n100, n128, n256, n30, n36, n40, n99, n200, n512, pk_mul, nI_add, nI_1, nI_a0, gdi, nI_clamp, ltT, ltF, leT, leF, lt0F, le0T, eqT, eqF, eq0F, nI_sub, h10, and_true, true_and, and_false, false_and, and_self, not_true, not_false_eq_true, Option.bind_some, jn, ↓reduceIte, e]
  by_cases hy : inN y n
  · obtain ⟨j, hj, rfl⟩ := inN_of (by omega) hy
    rw [b2_t hy]; simp (disch := omega) only [n2, n3, n4, n5, n6, n7, n8, n9, n10, n11, n12, n13, n14, n15, n16, n20, n24, n32, n50, n60, n64, n80, n81, n90, n100, n128, n256, n30, n36, n40, n99, n200, n512, pk_mul, nI_add, nI_1, nI_a0, gdi, nI_clamp, ltT, ltF, leT, leF, lt0F, le0T, eqT, eqF, eq0F, nI_sub, h10, and_true, true_and, and_false, false_and, and_self, not_true, not_false_eq_true, Option.bind_some, jn, ↓reduceIte]
  · rw [b2_f hy]
    rcases nI_cases y with hv | ⟨k, hk, rfl⟩
    · rw [if_pos hv]
    · have : n ≤ k := Nat.le_of_not_lt (fun q => hy (inN_nI q (by omega)))
      simp (disch := omega) only [n2, n3, n4, n5, n6, n7, n8, n9, n10, n11, n12, n13, n14, n15, n16, n20, n24, n32, n50, n60, n64, n80, n81, n90, n100, n128, n256, n30, n36, n40, n99, n200, n512, pk_mul, nI_add, nI_1, nI_a0, gdi, nI_clamp, ltT, ltF, leT, leF, lt0F, le0T, eqT, eqF, eq0F, nI_sub, h10, and_true, true_and, and_false, false_and, and_self, not_true, not_false_eq_true, Option.bind_some, jn, ↓reduceIte]
theorem op_put : Op_put Rl := by
  intro r g u h p1 p2 p3 hR
  have hR0 := hR
  obtain ⟨hB, hM, hRR, hK, hT, hW, hH, hS, hP⟩ := hR
  have bad : ∀ v : Int32, f8_put (g 45) (g 44) (h 46) p1 p2 p3 = some (v, h 46) → f9_put (g 75) (g 74) (h 76) p1 p2 p3 = some (v, h 76) → ∃ v a1 b1, f8_put (g 45) (g 44) (h 46) p1 p2 p3 = some (v, a1) ∧ f9_put (g 75) (g 74) (h 76) p1 p2 p3 = some (v, b1) ∧ Rl r g u (lkp (lkp h [(46, a1)]) [(76, b1)]) :=
    fun v e8 e9 => ⟨v, _, _, e8, e9, hR0⟩
  by_cases h1 : inN p1 4
  · obtain ⟨s, hs, rfl⟩ := inN_of (by omega) h1
    obtain ⟨em, ec⟩ := hH s hs
    by_cases hm : g 44 s = -1
    · refine bad (-11) ?_ ?_
      · unfold f8_put
        rw [f1_isSheet_s, Option.bind_some, gI, if_pos h1, f1_isMissing_s _ hs, Option.bind_some, b2_t hm, if_neg (by decide)]
      · unfold f9_put
        rw [f9_isShelf_s, Option.bind_some, gI, if_pos h1]
        simp (disch := omega) only [n2, n3, n4, n5, n6, n7, n8, n9, n10, n11, n12, n13, n14, n15, n16, n20, n24, n32, n50, n60, n64, n80, n81, n90, n100, n128, n256, n30, n36, n40, n99, n200, n512, pk_mul, nI_add, nI_1, nI_a0, gdi, nI_clamp, ltT, ltF, leT, leF, lt0F, le0T, eqT, eqF, eq0F, nI_sub, h10, and_true, true_and, and_false, false_and, and_self, not_true, not_false_eq_true, Option.bind_some, jn, ↓reduceIte, em, hm]
        rw [if_neg (by decide)]
    · obtain ⟨t, n, ht, hn, et, en, emn, he⟩ := ec.resolve_left hm
      by_cases h2 : inN p2 n
      · obtain ⟨j, hj, rfl⟩ := inN_of (by omega) h2
        refine ⟨1, vp_updL (h 46) (s * 40 + j) (if g 44 s = 0 then p3.toInt8.toInt32 else if g 44 s = 1 then p3.toInt16.toInt32 else p3).toInt64, vp_updL (h 76) (40 * s + j) (if g 44 s = 0 then p3.toInt8.toInt32 else if g 44 s = 1 then p3.toInt16.toInt32 else p3).toInt64, ?_, ?_, hB, hM, hRR, hK, hT, hW, fun i hi => ?_, hS, hP⟩
        · unfold f8_put
          rw [f1_isSheet_s, Option.bind_some, gI, if_pos h1, f1_isMissing_s _ hs, Option.bind_some, b2_f hm, if_pos rfl, f1_isInside_s _ _ hs hm hn en, Option.bind_some, b2_t h2, if_neg (by decide)]
          unfold f1_write
          rw [f1_isInside_s _ _ hs hm hn en, Option.bind_some, b2_t h2, if_neg (by decide)]
          simp (disch := omega) only [n2, n3, n4, n5, n6, n7, n8, n9, n10, n11, n12, n13, n14, n15, n16, n20, n24, n32, n50, n60, n64, n80, n81, n90, n100, n128, n256, n30, n36, n40, n99, n200, n512, pk_mul, nI_add, nI_1, nI_a0, gdi, nI_clamp, ltT, ltF, leT, leF, lt0F, le0T, eqT, eqF, eq0F, nI_sub, h10, and_true, true_and, and_false, false_and, and_self, not_true, not_false_eq_true, Option.bind_some, jn, ↓reduceIte]
          by_cases a : g 44 s = 0
          · rw [if_pos a, if_pos a]; rfl
          · rw [if_neg a, if_neg a]
            by_cases b : g 44 s = 1
            · rw [if_pos b, if_pos b]; rfl
            · rw [if_neg b, if_neg b]; rfl
        · unfold f9_put
          rw [f9_isShelf_s, Option.bind_some, gI, if_pos h1]
          simp (disch := omega) only [n2, n3, n4, n5, n6, n7, n8, n9, n10, n11, n12, n13, n14, n15, n16, n20, n24, n32, n50, n60, n64, n80, n81, n90, n100, n128, n256, n30, n36, n40, n99, n200, n512, pk_mul, nI_add, nI_1, nI_a0, gdi, nI_clamp, ltT, ltF, leT, leF, lt0F, le0T, eqT, eqF, eq0F, nI_sub, h10, and_true, true_and, and_false, false_and, and_self, not_true, not_false_eq_true, Option.bind_some, jn, ↓reduceIte, em]
          rw [if_pos (by rw [et]; exact nI_pos' (by omega)), emn, f9_in_n (by omega), Option.bind_some, bI_t h2, if_neg (by decide)]
          by_cases a : g 44 s = 0
          · rw [if_pos a, if_pos a]
          · rw [if_neg a, if_neg a]
            by_cases b : g 44 s = 1
            · rw [if_pos b, if_pos b]
            · rw [if_neg b, if_neg b]
        · obtain ⟨a, b | ⟨t', n', ht', hn', b1, b2, b3, b4⟩⟩ := hH i hi
          · exact ⟨a, Or.inl b⟩
          · refine ⟨a, Or.inr ⟨t', n', ht', hn', b1, b2, b3, fun k hk => ?_⟩⟩
            show vp_updL (h 76) (40 * s + j) _ (40 * i + k) = vp_updL (h 46) (s * 40 + j) _ (i * 40 + k)
            by_cases e : 40 * i + k = 40 * s + j
            · rw [updLS e, updLS (by omega)]
            · rw [updLn e, updLn (by omega)]; exact b4 k hk
      · refine bad (-12) ?_ ?_
        · unfold f8_put
          rw [f1_isSheet_s, Option.bind_some, gI, if_pos h1, f1_isMissing_s _ hs, Option.bind_some, b2_f hm, if_pos rfl, f1_isInside_s _ _ hs hm hn en, Option.bind_some, b2_f h2, if_pos rfl]
        · unfold f9_put
          rw [f9_isShelf_s, Option.bind_some, gI, if_pos h1]
          simp (disch := omega) only [n2, n3, n4, n5, n6, n7, n8, n9, n10, n11, n12, n13, n14, n15, n16, n20, n24, n32, n50, n60, n64, n80, n81, n90, n100, n128, n256, n30, n36, n40, n99, n200, n512, pk_mul, nI_add, nI_1, nI_a0, gdi, nI_clamp, ltT, ltF, leT, leF, lt0F, le0T, eqT, eqF, eq0F, nI_sub, h10, and_true, true_and, and_false, false_and, and_self, not_true, not_false_eq_true, Option.bind_some, jn, ↓reduceIte, em, et, emn]
          rw [f9_in_n (by omega), Option.bind_some, bI_f h2, if_pos rfl]
  · refine bad (-1) ?_ ?_
    · unfold f8_put
      rw [f1_isSheet_s, Option.bind_some, gI, if_neg h1]
    · unfold f9_put
      rw [f9_isShelf_s, Option.bind_some, gI, if_neg h1]
theorem op_item : Op_item Rl := by
  intro r g u h p1 p2 p3 hR
  have hR0 := hR
  obtain ⟨hB, hM, hRR, hK, hT, hW, hH, hS, hP⟩ := hR
  by_cases h1 : inN p1 4 ∧ inN p2 4
  · obtain ⟨s, hs, rfl⟩ := inN_of (by omega) h1.1
    obtain ⟨em, ec⟩ := hH s hs
    by_cases hm : g 44 s = -1
    · refine ⟨-11, ?_, ?_, hR0⟩
      · unfold f8_item
        rw [f1_isSheet_s, Option.bind_some, gI, if_pos h1.1, show (4 : Int32) = nI 4 from rfl, gE (by omega), if_pos h1.2, f1_isMissing_s _ hs, Option.bind_some, b2_t hm, if_neg (by decide)]
      · unfold f9_item f9_lacksSort
        rw [f9_isShelf_s, Option.bind_some, gI, if_pos h1.1, fk3, Option.bind_some, gI, if_pos h1.2]
        simp (disch := omega) only [n2, n3, n4, n5, n6, n7, n8, n9, n10, n11, n12, n13, n14, n15, n16, n20, n24, n32, n50, n60, n64, n80, n81, n90, n100, n128, n256, n30, n36, n40, n99, n200, n512, pk_mul, nI_add, nI_1, nI_a0, gdi, nI_clamp, ltT, ltF, leT, leF, lt0F, le0T, eqT, eqF, eq0F, nI_sub, h10, and_true, true_and, and_false, false_and, and_self, not_true, not_false_eq_true, Option.bind_some, jn, ↓reduceIte, em, hm]
        rfl
    · obtain ⟨t, n, ht, hn, et, en, emn, he⟩ := ec.resolve_left hm
      by_cases h3 : g 44 s = p2
      · by_cases h2 : inN p3 n
        · obtain ⟨j, hj, rfl⟩ := inN_of (by omega) h2
          refine ⟨(h 46 (s * 40 + j)).toInt32, ?_, ?_, hR0⟩
          · unfold f8_item f1_read
            rw [f1_isSheet_s, Option.bind_some, gI, if_pos h1.1, show (4 : Int32) = nI 4 from rfl, gE (by omega), if_pos h1.2, f1_isMissing_s _ hs, Option.bind_some, b2_f hm, if_pos rfl, gdi hs (by omega), nI_clamp (by omega), if_pos h3, f1_isInside_s _ _ hs hm hn en, Option.bind_some, b2_t h2, if_neg (by decide), Option.bind_some, if_neg (by decide)]
            simp (disch := omega) only [n2, n3, n4, n5, n6, n7, n8, n9, n10, n11, n12, n13, n14, n15, n16, n20, n24, n32, n50, n60, n64, n80, n81, n90, n100, n128, n256, n30, n36, n40, n99, n200, n512, pk_mul, nI_add, nI_1, nI_a0, gdi, nI_clamp, ltT, ltF, leT, leF, lt0F, le0T, eqT, eqF, eq0F, nI_sub, h10, and_true, true_and, and_false, false_and, and_self, not_true, not_false_eq_true, Option.bind_some, jn, ↓reduceIte]
          · unfold f9_item f9_lacksSort
            rw [f9_isShelf_s, Option.bind_some, gI, if_pos h1.1, fk3, Option.bind_some, gI, if_pos h1.2, gdi hs (by omega), gdi hs (by omega), nI_clamp (by omega), em, if_pos (by rw [et]; exact nI_pos' (by omega)), if_pos h3, Option.bind_some, if_pos rfl, gdi hs (by omega), emn, f9_in_n (by omega), Option.bind_some, bI_t h2, if_neg (by decide)]
            simp (disch := omega) only [n2, n3, n4, n5, n6, n7, n8, n9, n10, n11, n12, n13, n14, n15, n16, n20, n24, n32, n50, n60, n64, n80, n81, n90, n100, n128, n256, n30, n36, n40, n99, n200, n512, pk_mul, nI_add, nI_1, nI_a0, gdi, nI_clamp, ltT, ltF, leT, leF, lt0F, le0T, eqT, eqF, eq0F, nI_sub, h10, and_true, true_and, and_false, false_and, and_self, not_true, not_false_eq_true, Option.bind_some, jn, ↓reduceIte]
            rw [he j (by omega)]
        · refine ⟨-12, ?_, ?_, hR0⟩
          · unfold f8_item
            rw [f1_isSheet_s, Option.bind_some, gI, if_pos h1.1, show (4 : Int32) = nI 4 from rfl, gE (by omega), if_pos h1.2, f1_isMissing_s _ hs, Option.bind_some, b2_f hm, if_pos rfl, f1_isInside_s _ _ hs hm hn en, Option.bind_some, b2_f h2, if_pos rfl, gdi hs (by omega), nI_clamp (by omega), if_pos h3]
          · unfold f9_item f9_lacksSort
            rw [f9_isShelf_s, Option.bind_some, gI, if_pos h1.1, fk3, Option.bind_some, gI, if_pos h1.2, gdi hs (by omega), gdi hs (by omega), nI_clamp (by omega), em, if_pos (by rw [et]; exact nI_pos' (by omega)), if_pos h3, Option.bind_some, if_pos rfl, gdi hs (by omega), emn, f9_in_n (by omega), Option.bind_some, bI_f h2, if_pos rfl]
      · refine ⟨-13, ?_, ?_, hR0⟩
        · unfold f8_item
          rw [f1_isSheet_s, Option.bind_some, gI, if_pos h1.1, show (4 : Int32) = nI 4 from rfl, gE (by omega), if_pos h1.2, f1_isMissing_s _ hs, Option.bind_some, b2_f hm, if_pos rfl, gdi hs (by omega), nI_clamp (by omega), if_neg h3]
        · unfold f9_item f9_lacksSort
          rw [f9_isShelf_s, Option.bind_some, gI, if_pos h1.1, fk3, Option.bind_some, gI, if_pos h1.2, gdi hs (by omega), gdi hs (by omega), nI_clamp (by omega), em, if_pos (by rw [et]; exact nI_pos' (by omega)), if_neg h3, Option.bind_some, if_neg (by decide)]
  · refine ⟨-1, ?_, ?_, hR0⟩
    · unfold f8_item
      rw [f1_isSheet_s, Option.bind_some, gI, show (4 : Int32) = nI 4 from rfl, gE (by omega), gM, if_neg h1]
    · unfold f9_item
      rw [f9_isShelf_s, Option.bind_some, gI, fk3, Option.bind_some, gI, gM, if_neg h1]
