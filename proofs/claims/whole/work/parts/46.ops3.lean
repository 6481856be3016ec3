/-! ===== simple calls ===== -/
theorem fk3 (x : Int32) : f9_in x 0 3 = some (bI x 4) := f9_in_k (n := 3) (by decide) x
theorem fk5 (x : Int32) : f9_in x 0 5 = some (bI x 6) := f9_in_k (n := 5) (by decide) x
theorem fk6 (x : Int32) : f9_in x 0 6 = some (bI x 7) := f9_in_k (n := 6) (by decide) x
theorem fk4 (x : Int32) : f9_in x 0 4 = some (bI x 5) := f9_in_k (n := 4) (by decide) x
theorem fk9 (x : Int32) : f9_in x 0 9 = some (bI x 10) := f9_in_k (n := 9) (by decide) x
theorem fk99 (x : Int32) : f9_in x 0 99 = some (bI x 100) := f9_in_k (n := 99) (by decide) x
theorem fk2 (x : Int32) : f9_in x 0 2 = some (bI x 3) := f9_in_k (n := 2) (by decide) x
theorem nin {x : Int32} {n k : Nat} (h : ¬ inN x n) (hk : k < n) (hn : n < 2 ^ 31 := by omega) : ¬ x = nI k := fun e => h (by rw [e]; exact inN_nI hk hn)
theorem b01_0 (b : Bool) {R : Type} (X Y : R) : (if b01 b = 0 then X else Y) = bif b then Y else X := by cases b <;> rfl
theorem op_personOf : Op_personOf Rl := by
  intro r g u h p1 p2 hR
  have hR0 := hR
  obtain ⟨⟨P, C, e0, e30, e1, e31, ez, B⟩, hM, hRR, hK, hT, hW, hH, hS, hP⟩ := hR
  have hP10 := B.1
  have hC9 := B.2.1
  rw [e0, e30, e1, e31]
  by_cases h1 : inN p1 P
  · obtain ⟨p, hp, rfl⟩ := inN_of (by omega) h1
    obtain ⟨mp, a, ha, ea⟩ := B.2.2.2.2.2.2.2.1 p hp
    have ema := mp.trans ea
    obtain ⟨mt, -⟩ := B.2.2.2.2.1 p hp
    have w : f8_personOf (nI C) (nI P) (g 4) (g 5) (g 6) (g 8) (nI p) p2 = some (if p2 = 0 then g 4 p else if p2 = 1 then nI a else if p2 = 2 then b01 (hubD P (g 6) (g 5) (nI a)) else if p2 = 3 then cnt (fun c => inD P (g 6) (g 8) c (nI a) = true) C else -1) := by
      unfold f8_personOf
      rw [f0_isPerson_s (by omega), Option.bind_some, gI, if_pos h1]
      by_cases q0 : p2 = 0
      · simp (disch := omega) only [n2, n3, n4, n5, n6, n7, n8, n9, n10, n11, n12, n13, n14, n15, n16, n20, n24, n32, n50, n60, n64, n80, n81, n90, n100, n128, n256, n30, n36, n40, n99, n200, n512, pk_mul, nI_add, nI_1, nI_a0, gdi, nI_clamp, ltT, ltF, leT, leF, lt0F, le0T, eqT, eqF, eq0F, nI_sub, h10, and_true, true_and, and_false, false_and, and_self, not_true, not_false_eq_true, Option.bind_some, jn, ↓reduceIte, q0]
      by_cases q1 : p2 = 1
      · simp (disch := omega) only [n2, n3, n4, n5, n6, n7, n8, n9, n10, n11, n12, n13, n14, n15, n16, n20, n24, n32, n50, n60, n64, n80, n81, n90, n100, n128, n256, n30, n36, n40, n99, n200, n512, pk_mul, nI_add, nI_1, nI_a0, gdi, nI_clamp, ltT, ltF, leT, leF, lt0F, le0T, eqT, eqF, eq0F, nI_sub, h10, and_true, true_and, and_false, false_and, and_self, not_true, not_false_eq_true, Option.bind_some, jn, ↓reduceIte, q0, q1, ea]
      by_cases q2 : p2 = 2
      · rw [if_neg q0, if_neg q1, if_neg q0, if_neg q1, if_pos q2, if_pos q2]
        simp (disch := omega) only [n2, n3, n4, n5, n6, n7, n8, n9, n10, n11, n12, n13, n14, n15, n16, n20, n24, n32, n50, n60, n64, n80, n81, n90, n100, n128, n256, n30, n36, n40, n99, n200, n512, pk_mul, nI_add, nI_1, nI_a0, gdi, nI_clamp, ltT, ltF, leT, leF, lt0F, le0T, eqT, eqF, eq0F, nI_sub, h10, and_true, true_and, and_false, false_and, and_self, not_true, not_false_eq_true, Option.bind_some, jn, ↓reduceIte, ea]
        rw [f0_isHub_s B, Option.bind_some, b01_0]
        cases hubD P (g 6) (g 5) (nI a) <;> rfl
      by_cases q3 : p2 = 3
      · rw [if_neg q0, if_neg q1, if_neg q2, if_neg q0, if_neg q1, if_neg q2, if_pos q3, if_pos q3]
        simp (disch := omega) only [n2, n3, n4, n5, n6, n7, n8, n9, n10, n11, n12, n13, n14, n15, n16, n20, n24, n32, n50, n60, n64, n80, n81, n90, n100, n128, n256, n30, n36, n40, n99, n200, n512, pk_mul, nI_add, nI_1, nI_a0, gdi, nI_clamp, ltT, ltF, leT, leF, lt0F, le0T, eqT, eqF, eq0F, nI_sub, h10, and_true, true_and, and_false, false_and, and_self, not_true, not_false_eq_true, Option.bind_some, jn, ↓reduceIte, ea]
        rw [f0_claimsWith_s hC9 hP10, Option.bind_some]
      · rw [if_neg q0, if_neg q1, if_neg q2, if_neg q3, if_neg q0, if_neg q1, if_neg q2, if_neg q3]
        simp (disch := omega) only [n2, n3, n4, n5, n6, n7, n8, n9, n10, n11, n12, n13, n14, n15, n16, n20, n24, n32, n50, n60, n64, n80, n81, n90, n100, n128, n256, n30, n36, n40, n99, n200, n512, pk_mul, nI_add, nI_1, nI_a0, gdi, nI_clamp, ltT, ltF, leT, leF, lt0F, le0T, eqT, eqF, eq0F, nI_sub, h10, and_true, true_and, and_false, false_and, and_self, not_true, not_false_eq_true, Option.bind_some, jn, ↓reduceIte]
    refine ⟨_, w, ?_, hR0⟩
    unfold f9_personOf
    rw [f9_isPerson_s (by omega), Option.bind_some, gI, if_pos h1, fk3, Option.bind_some, gI]
    by_cases h2 : inN p2 4
    · rw [if_pos h2]
      by_cases q0 : p2 = 0
      · simp (disch := omega) only [n2, n3, n4, n5, n6, n7, n8, n9, n10, n11, n12, n13, n14, n15, n16, n20, n24, n32, n50, n60, n64, n80, n81, n90, n100, n128, n256, n30, n36, n40, n99, n200, n512, pk_mul, nI_add, nI_1, nI_a0, gdi, nI_clamp, ltT, ltF, leT, leF, lt0F, le0T, eqT, eqF, eq0F, nI_sub, h10, and_true, true_and, and_false, false_and, and_self, not_true, not_false_eq_true, Option.bind_some, jn, ↓reduceIte, q0, mt]
      by_cases q1 : p2 = 1
      · simp (disch := omega) only [n2, n3, n4, n5, n6, n7, n8, n9, n10, n11, n12, n13, n14, n15, n16, n20, n24, n32, n50, n60, n64, n80, n81, n90, n100, n128, n256, n30, n36, n40, n99, n200, n512, pk_mul, nI_add, nI_1, nI_a0, gdi, nI_clamp, ltT, ltF, leT, leF, lt0F, le0T, eqT, eqF, eq0F, nI_sub, h10, and_true, true_and, and_false, false_and, and_self, not_true, not_false_eq_true, Option.bind_some, jn, ↓reduceIte, q0, q1, ema]
      by_cases q2 : p2 = 2
      · rw [if_neg q0, if_neg q1, if_neg q0, if_neg q1, if_pos q2, if_pos q2]
        simp (disch := omega) only [n2, n3, n4, n5, n6, n7, n8, n9, n10, n11, n12, n13, n14, n15, n16, n20, n24, n32, n50, n60, n64, n80, n81, n90, n100, n128, n256, n30, n36, n40, n99, n200, n512, pk_mul, nI_add, nI_1, nI_a0, gdi, nI_clamp, ltT, ltF, leT, leF, lt0F, le0T, eqT, eqF, eq0F, nI_sub, h10, and_true, true_and, and_false, false_and, and_self, not_true, not_false_eq_true, Option.bind_some, jn, ↓reduceIte, ema]
        rw [f9_isHubOne_s B, Option.bind_some, b01_0]
        cases hubD P (g 6) (g 5) (nI a) <;> rfl
      have q3 : p2 = 3 := by
        obtain ⟨k, hk, rfl⟩ := inN_of (by omega) h2
        have : k = 0 ∨ k = 1 ∨ k = 2 ∨ k = 3 := by omega
        rcases this with rfl | rfl | rfl | rfl
        · exact absurd rfl q0
        · exact absurd rfl q1
        · exact absurd rfl q2
        · rfl
      rw [if_neg q0, if_neg q1, if_neg q2, if_neg q0, if_neg q1, if_neg q2, if_pos q3]
      simp (disch := omega) only [n2, n3, n4, n5, n6, n7, n8, n9, n10, n11, n12, n13, n14, n15, n16, n20, n24, n32, n50, n60, n64, n80, n81, n90, n100, n128, n256, n30, n36, n40, n99, n200, n512, pk_mul, nI_add, nI_1, nI_a0, gdi, nI_clamp, ltT, ltF, leT, leF, lt0F, le0T, eqT, eqF, eq0F, nI_sub, h10, and_true, true_and, and_false, false_and, and_self, not_true, not_false_eq_true, Option.bind_some, jn, ↓reduceIte, ema]
      rw [f9_claimsOf_s B (by omega), Option.bind_some]
    · rw [if_neg h2, if_neg (show ¬ p2 = 0 from nin (k := 0) h2 (by omega)), if_neg (show ¬ p2 = 1 from nin (k := 1) h2 (by omega)), if_neg (show ¬ p2 = 2 from nin (k := 2) h2 (by omega)), if_neg (show ¬ p2 = 3 from nin (k := 3) h2 (by omega))]
  · refine ⟨-1, ?_, ?_, hR0⟩
    · unfold f8_personOf
      rw [f0_isPerson_s (by omega), Option.bind_some, gI, if_neg h1]
    · unfold f9_personOf
      rw [f9_isPerson_s (by omega), Option.bind_some, gI, if_neg h1]
theorem op_seed : Op_seed Rl := by
  intro r g u h p1 hR
  obtain ⟨⟨P, C, e0, e30, e1, e31, ez, B⟩, hM, hRR, hK, hT, hW, hH, hS, hP⟩ := hR
  exact ⟨r 6, p1, p1, rfl, by unfold f9_seed; rw [ez], ⟨P, C, e0, e30, e1, e31, rfl, B⟩, hM, hRR, hK, hT, hW, hH, hS, hP⟩
theorem op_trace : Op_trace Rl := by
  intro r g u h p1 hR
  have hR0 := hR
  obtain ⟨-, -, -, -, -, -, -, -, n, hn, e1, e2, hb⟩ := hR
  rw [e1, e2]
  refine ⟨if inN p1 n then g 50 p1.toNatClampNeg else -3, ?_, ?_, hR0⟩
  · unfold f8_trace
    rw [gE (by omega)]
    by_cases h1 : inN p1 n
    · rw [if_pos h1, if_pos h1]
      obtain ⟨k, hk, rfl⟩ := inN_of (by omega) h1
      simp (disch := omega) only [n2, n3, n4, n5, n6, n7, n8, n9, n10, n11, n12, n13, n14, n15, n16, n20, n24, n32, n50, n60, n64, n80, n81, n90, n100, n128, n256, n30, n36, n40, n99, n200, n512, pk_mul, nI_add, nI_1, nI_a0, gdi, nI_clamp, ltT, ltF, leT, leF, lt0F, le0T, eqT, eqF, eq0F, nI_sub, h10, and_true, true_and, and_false, false_and, and_self, not_true, not_false_eq_true, Option.bind_some, jn, ↓reduceIte]
    · rw [if_neg h1, if_neg h1]
  · unfold f9_trace
    rw [f9_in_n (by omega), Option.bind_some, gI]
    by_cases h1 : inN p1 n
    · rw [if_pos h1, if_pos h1]
      obtain ⟨k, hk, rfl⟩ := inN_of (by omega) h1
      simp (disch := omega) only [n2, n3, n4, n5, n6, n7, n8, n9, n10, n11, n12, n13, n14, n15, n16, n20, n24, n32, n50, n60, n64, n80, n81, n90, n100, n128, n256, n30, n36, n40, n99, n200, n512, pk_mul, nI_add, nI_1, nI_a0, gdi, nI_clamp, ltT, ltF, leT, leF, lt0F, le0T, eqT, eqF, eq0F, nI_sub, h10, and_true, true_and, and_false, false_and, and_self, not_true, not_false_eq_true, Option.bind_some, jn, ↓reduceIte, hb k hk]
    · rw [if_neg h1, if_neg h1]
theorem f5_holds_s {n : Nat} (hn : n < 2 ^ 30) (x y : Int32) : f5_holds (nI n) x y = some (b2 (inN x n ∧ inN y 3)) := by
  unfold f5_holds
  rw [show (3 : Int32) = nI 3 from rfl, gA (by omega), gA (by omega), gM]
  unfold b2; split <;> rfl
theorem f9_isRow_s {n : Nat} (hn : n < 2 ^ 30) (x y : Int32) : f9_isRow (nI n) x y = some (b2 (inN x n ∧ inN y 3)) := by
  unfold f9_isRow
  rw [f9_in_n hn, fk2, Option.bind_some, Option.bind_some, gI, gI, gM]
  unfold b2; split <;> rfl
theorem op_row : Op_row Rl := by
  intro r g u h p1 p2 hR
  have hR0 := hR
  obtain ⟨-, -, -, -, -, ⟨n, hn, e1, e2, hb⟩, -⟩ := hR
  rw [e1, e2]
  by_cases h1 : inN p1 n ∧ inN p2 3
  · obtain ⟨a, ha, rfl⟩ := inN_of (by omega) h1.1
    obtain ⟨k, hk, rfl⟩ := inN_of (by omega) h1.2
    refine ⟨g 40 (a * 3 + k), ?_, ?_, hR0⟩
    · unfold f8_row f5_entry
      rw [f5_holds_s (by omega), Option.bind_some, Option.bind_some, b2_t h1, if_neg (by decide), if_neg (by decide)]
      simp (disch := omega) only [n2, n3, n4, n5, n6, n7, n8, n9, n10, n11, n12, n13, n14, n15, n16, n20, n24, n32, n50, n60, n64, n80, n81, n90, n100, n128, n256, n30, n36, n40, n99, n200, n512, pk_mul, nI_add, nI_1, nI_a0, gdi, nI_clamp, ltT, ltF, leT, leF, lt0F, le0T, eqT, eqF, eq0F, nI_sub, h10, and_true, true_and, and_false, false_and, and_self, not_true, not_false_eq_true, Option.bind_some, jn, ↓reduceIte]
    · unfold f9_row
      rw [f9_isRow_s (by omega), Option.bind_some, b2_t h1, if_neg (by decide)]
      simp (disch := omega) only [n2, n3, n4, n5, n6, n7, n8, n9, n10, n11, n12, n13, n14, n15, n16, n20, n24, n32, n50, n60, n64, n80, n81, n90, n100, n128, n256, n30, n36, n40, n99, n200, n512, pk_mul, nI_add, nI_1, nI_a0, gdi, nI_clamp, ltT, ltF, leT, leF, lt0F, le0T, eqT, eqF, eq0F, nI_sub, h10, and_true, true_and, and_false, false_and, and_self, not_true, not_false_eq_true, Option.bind_some, jn, ↓reduceIte]
      rw [hb _ (by omega), Nat.mul_comm]
  · refine ⟨-9, ?_, ?_, hR0⟩
    · unfold f8_row
      rw [f5_holds_s (by omega), Option.bind_some, b2_f h1, if_pos rfl]
    · unfold f9_row
      rw [f9_isRow_s (by omega), Option.bind_some, b2_f h1, if_pos rfl]
theorem op_alterRow : Op_alterRow Rl := by
  intro r g u h p1 p2 p3 hR
  have hR0 := hR
  obtain ⟨hB, hM, hRR, hK, hT, ⟨n, hn, e1, e2, hb⟩, hH, hS, hP⟩ := hR
  rw [e1, e2]
  by_cases h1 : inN p1 n ∧ inN p2 3
  · obtain ⟨a, ha, rfl⟩ := inN_of (by omega) h1.1
    obtain ⟨k, hk, rfl⟩ := inN_of (by omega) h1.2
    refine ⟨g 40 (a * 3 + k), upd (g 40) (a * 3 + k) p3, upd (g 72) (3 * a + k) p3, ?_, ?_, hB, hM, hRR, hK, hT, ⟨n, hn, e1, e2, fun i hi => ?_⟩, hH, hS, hP⟩
    · unfold f8_alterRow f5_entry
      rw [f5_holds_s (by omega), Option.bind_some, Option.bind_some, b2_t h1, if_neg (by decide), if_neg (by decide)]
      simp (disch := omega) only [n2, n3, n4, n5, n6, n7, n8, n9, n10, n11, n12, n13, n14, n15, n16, n20, n24, n32, n50, n60, n64, n80, n81, n90, n100, n128, n256, n30, n36, n40, n99, n200, n512, pk_mul, nI_add, nI_1, nI_a0, gdi, nI_clamp, ltT, ltF, leT, leF, lt0F, le0T, eqT, eqF, eq0F, nI_sub, h10, and_true, true_and, and_false, false_and, and_self, not_true, not_false_eq_true, Option.bind_some, jn, ↓reduceIte]
    · unfold f9_alterRow
      rw [f9_isRow_s (by omega), Option.bind_some, b2_t h1, if_neg (by decide)]
      simp (disch := omega) only [n2, n3, n4, n5, n6, n7, n8, n9, n10, n11, n12, n13, n14, n15, n16, n20, n24, n32, n50, n60, n64, n80, n81, n90, n100, n128, n256, n30, n36, n40, n99, n200, n512, pk_mul, nI_add, nI_1, nI_a0, gdi, nI_clamp, ltT, ltF, leT, leF, lt0F, le0T, eqT, eqF, eq0F, nI_sub, h10, and_true, true_and, and_false, false_and, and_self, not_true, not_false_eq_true, Option.bind_some, jn, ↓reduceIte]
      rw [hb _ (by omega), Nat.mul_comm]
    · show upd (g 72) (3 * a + k) p3 i = upd (g 40) (a * 3 + k) p3 i
      by_cases e : i = 3 * a + k
      · rw [updS e, updS (by omega)]
      · rw [upd_n e, upd_n (by omega)]; exact hb i hi
  · refine ⟨-9, _, _, ?_, ?_, hR0⟩
    · unfold f8_alterRow
      rw [f5_holds_s (by omega), Option.bind_some, b2_f h1, if_pos rfl]
    · unfold f9_alterRow
      rw [f9_isRow_s (by omega), Option.bind_some, b2_f h1, if_pos rfl]
theorem f0_countOnes_s {P : Nat} (hP : P ≤ 10) (one : Nat → Int32) : f0_countOnes (nI P) one = some (cnt (fun p => one p = nI p) P) := by
  unfold f0_countOnes
  show f0_countOnes_L4 _ _ FU 0 0 _ = _
  refine lup0 (fun fu i s => f0_countOnes_L4 (nI P) one fu s i _) P (fun i => cnt (fun p => one p = nI p) i) (fun fu i hi => ?_) (fun fu => ?_) rfl (FU_lt (by omega))
  · simp only [f0_countOnes_L4, jn]
    simp (disch := omega) only [n2, n3, n4, n5, n6, n7, n8, n9, n10, n11, n12, n13, n14, n15, n16, n20, n24, n32, n50, n60, n64, n80, n81, n90, n100, n128, n256, n30, n36, n40, n99, n200, n512, pk_mul, nI_add, nI_1, nI_a0, gdi, nI_clamp, ltT, ltF, leT, leF, lt0F, le0T, eqT, eqF, eq0F, nI_sub, h10, and_true, true_and, and_false, false_and, and_self, not_true, not_false_eq_true, Option.bind_some, jn, ↓reduceIte, cnt]
    split <;> rfl
  · simp only [f0_countOnes_L4]
    simp (disch := omega) only [n2, n3, n4, n5, n6, n7, n8, n9, n10, n11, n12, n13, n14, n15, n16, n20, n24, n32, n50, n60, n64, n80, n81, n90, n100, n128, n256, n30, n36, n40, n99, n200, n512, pk_mul, nI_add, nI_1, nI_a0, gdi, nI_clamp, ltT, ltF, leT, leF, lt0F, le0T, eqT, eqF, eq0F, nI_sub, h10, and_true, true_and, and_false, false_and, and_self, not_true, not_false_eq_true, Option.bind_some, jn, ↓reduceIte]
theorem f9_many3_s {P : Nat} (hP : P ≤ 10) (one : Nat → Int32) : f9_many_L65 (nI P) one FU 0 0 (fun x5 _ => some x5) = some (cnt (fun p => one p = nI p) P) := by
  refine lup0 (fun fu i s => f9_many_L65 (nI P) one fu s i _) P (fun i => cnt (fun p => one p = nI p) i) (fun fu i hi => ?_) (fun fu => ?_) rfl (FU_lt (by omega))
  · simp only [f9_many_L65, jn]
    simp (disch := omega) only [n2, n3, n4, n5, n6, n7, n8, n9, n10, n11, n12, n13, n14, n15, n16, n20, n24, n32, n50, n60, n64, n80, n81, n90, n100, n128, n256, n30, n36, n40, n99, n200, n512, pk_mul, nI_add, nI_1, nI_a0, gdi, nI_clamp, ltT, ltF, leT, leF, lt0F, le0T, eqT, eqF, eq0F, nI_sub, h10, and_true, true_and, and_false, false_and, and_self, not_true, not_false_eq_true, Option.bind_some, jn, ↓reduceIte, cnt]
    split <;> simp only [Int32.add_zero]
  · simp only [f9_many_L65]
    simp (disch := omega) only [n2, n3, n4, n5, n6, n7, n8, n9, n10, n11, n12, n13, n14, n15, n16, n20, n24, n32, n50, n60, n64, n80, n81, n90, n100, n128, n256, n30, n36, n40, n99, n200, n512, pk_mul, nI_add, nI_1, nI_a0, gdi, nI_clamp, ltT, ltF, leT, leF, lt0F, le0T, eqT, eqF, eq0F, nI_sub, h10, and_true, true_and, and_false, false_and, and_self, not_true, not_false_eq_true, Option.bind_some, jn, ↓reduceIte]
theorem op_many : Op_many Rl := by
  intro r g u h p1 hR
  have hR0 := hR
  obtain ⟨⟨P, C, e0, e30, e1, e31, ez, B⟩, hM, ⟨L, hL8, hL, ec, emc, -⟩, hK, ⟨tn, htn, et, emt, -⟩, ⟨rn, hrn, er, emr, -⟩, hH, hS, ⟨bn, hbn, eb, emb, -⟩⟩ := hR
  have w := f0_countOnes_s B.1 (g 6)
  have w2 := f9_many3_s B.1 (g 56)
  have w3 := f0_countFound_s (fou := g 9) B.2.1
  have w4 := f9_foundMany_s B
  have wc : cnt (fun p => g 56 p = nI p) P = cnt (fun p => g 6 p = nI p) P := cnt_congr _ _ P (fun i hi => by rw [(B.2.2.2.2.2.2.2.1 i hi).1])
  rw [e0, e30, e1, e31, ec, emc, et, emt, er, emr, eb, emb]
  refine ⟨if p1 = 0 then nI P else if p1 = 1 then nI C else if p1 = 2 then nI L.length else if p1 = 3 then cnt (fun p => g 6 p = nI p) P else if p1 = 4 then cnt (fun c => ¬ g 9 c = -9) C else if p1 = 5 then nI rn else if p1 = 6 then nI tn else if p1 = 7 then nI bn else -1, ?_, ?_, hR0⟩
  · unfold f8_many
    rw [w, w3, Option.bind_some, Option.bind_some]
    repeat' split
    all_goals rfl
  · unfold f9_many
    simp only [jn]
    rw [w2, w4, Option.bind_some, wc]
    repeat' split
    all_goals rfl
