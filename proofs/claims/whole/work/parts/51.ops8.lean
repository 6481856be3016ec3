/-! ===== shelves ===== -/
theorem RSupd {hel num mhel mnum msze : Nat → Int32} (hS : RS hel num mhel mnum msze) {s : Nat} (a b c d e : Int32) (hn : (a = -1 ∧ c = -1) ∨ (∃ n : Nat, n < 9 ∧ a = 0 ∧ c = 0 ∧ b = nI n ∧ d = nI n) ∨ ∃ t n : Nat, t < 4 ∧ n ≤ 40 ∧ a = nI (10 + t) ∧ c = 1 ∧ d = nI t ∧ b = nI n ∧ e = nI n) : RS (upd hel s a) (upd num s b) (upd mhel s c) (upd mnum s d) (upd msze s e) := by
  intro i hi
  by_cases q : i = s
  · rw [updS q, updS q, updS q, updS q, updS q]; exact hn
  · rw [upd_n q, upd_n q, upd_n q, upd_n q, upd_n q]; exact hS i hi
theorem RSupd1 {hel num mhel mnum msze : Nat → Int32} (hS : RS hel num mhel mnum msze) {s : Nat} (d e : Int32) : RS (upd hel s (-1)) num (upd mhel s (-1)) (upd mnum s d) (upd msze s e) := by
  intro i hi
  by_cases q : i = s
  · rw [updS q, updS q, updS q, updS q]; exact Or.inl ⟨rfl, rfl⟩
  · rw [upd_n q, upd_n q, upd_n q, upd_n q]; exact hS i hi
theorem op_shelf : Op_shelf Rl := by
  intro r g u h p1 p2 p3 hR
  have hR0 := hR
  obtain ⟨⟨P, C, e0, e30, e1, e31, ez, B⟩, hM, hRR, hK, hT, hW, hH, hS, hP⟩ := hR
  have hC9 := B.2.1
  have bad : f8_shelf (r 1) (g 47) (g 45) (g 48) (g 44) p1 p2 p3 = some (-1, g 47, g 48) → f9_shelf (r 31) (g 77) (g 78) (g 79) (g 75) (g 74) p1 p2 p3 = some (-1, g 77, g 78, g 79) → ∃ v a1 a2 b1 b2 b3, f8_shelf (r 1) (g 47) (g 45) (g 48) (g 44) p1 p2 p3 = some (v, a1, a2) ∧ f9_shelf (r 31) (g 77) (g 78) (g 79) (g 75) (g 74) p1 p2 p3 = some (v, b1, b2, b3) ∧ Rl r (lkp (lkp g [(47, a1), (48, a2)]) [(77, b1), (78, b2), (79, b3)]) u h :=
    fun e8 e9 => ⟨_, _, _, _, _, _, e8, e9, hR0⟩
  rw [e1, e31] at bad ⊢
  by_cases h1 : inN p1 4
  · obtain ⟨s, hs, rfl⟩ := inN_of (by omega) h1
    by_cases h2 : inN p2 3
    · obtain ⟨k, hk, rfl⟩ := inN_of (by omega) h2
      have : k = 0 ∨ k = 1 ∨ k = 2 := by omega
      rcases this with rfl | rfl | rfl
      · by_cases h3 : inN p3 C
        · obtain ⟨c, hc, rfl⟩ := inN_of (by omega) h3
          refine ⟨1, _, _, _, _, _, ?_, ?_, ⟨P, C, e0, e30, e1, e31, ez, B⟩, hM, hRR, hK, hT, hW, hH, RSupd hS (s := s) 0 (nI c) 0 (nI c) 0 (Or.inr (Or.inl ⟨c, by omega, rfl, rfl, rfl, rfl⟩)), hP⟩
          · unfold f8_shelf; simp only [jn]; rw [f1_isShelf_s, Option.bind_some, gI, if_pos h1, show (2 : Int32) = nI 2 from rfl, gC (by omega), if_pos h2, f0_isClaim_s (by omega), Option.bind_some, gI, f1_isSheet_s, Option.bind_some, gI]
            rw [if_pos h3]
            unfold f1_holdClaim
            rw [f1_isShelf_s, Option.bind_some, gI, if_pos h1]
            simp (disch := omega) only [n2, n3, n4, n5, n6, n7, n8, n9, n10, n11, n12, n13, n14, n15, n16, n20, n24, n32, n50, n60, n64, n80, n81, n90, n100, n128, n256, n30, n36, n40, n99, n200, n512, pk_mul, nI_add, nI_1, nI_a0, gdi, nI_clamp, ltT, ltF, leT, leF, lt0F, le0T, eqT, eqF, eq0F, nI_sub, h10, and_true, true_and, and_false, false_and, and_self, not_true, not_false_eq_true, Option.bind_some, jn, ↓reduceIte]
            rfl
          · unfold f9_shelf f9_isHeld; simp only [jn]; rw [f9_isShelf_s, Option.bind_some, gI, if_pos h1, f9_isClaim_s (by omega), Option.bind_some, f9_isShelf_s, Option.bind_some, bI_bz, bI_bz, gd_t, gd_t]
            rw [bI_t h3]
            simp (disch := omega) only [n2, n3, n4, n5, n6, n7, n8, n9, n10, n11, n12, n13, n14, n15, n16, n20, n24, n32, n50, n60, n64, n80, n81, n90, n100, n128, n256, n30, n36, n40, n99, n200, n512, pk_mul, nI_add, nI_1, nI_a0, gdi, nI_clamp, ltT, ltF, leT, leF, lt0F, le0T, eqT, eqF, eq0F, nI_sub, h10, and_true, true_and, and_false, false_and, and_self, not_true, not_false_eq_true, Option.bind_some, jn, ↓reduceIte]
            rfl
        · refine bad ?_ ?_
          · unfold f8_shelf; simp only [jn]; rw [f1_isShelf_s, Option.bind_some, gI, if_pos h1, show (2 : Int32) = nI 2 from rfl, gC (by omega), if_pos h2, f0_isClaim_s (by omega), Option.bind_some, gI, f1_isSheet_s, Option.bind_some, gI]
            rw [if_neg h3]; rfl
          · unfold f9_shelf f9_isHeld; simp only [jn]; rw [f9_isShelf_s, Option.bind_some, gI, if_pos h1, f9_isClaim_s (by omega), Option.bind_some, f9_isShelf_s, Option.bind_some, bI_bz, bI_bz, gd_t, gd_t]
            rw [bI_f h3]; rfl
      · by_cases h3 : inN p3 4
        · obtain ⟨t, ht, rfl⟩ := inN_of (by omega) h3
          obtain ⟨em, ec⟩ := hH t ht
          by_cases hm : g 44 t = -1
          · refine ⟨1, upd (g 47) s (-1), upd (g 48) s (g 45 t), upd (g 77) s (-1), upd (g 78) s (-1), upd (g 79) s (g 75 t), ?_, ?_, ⟨P, C, e0, e30, e1, e31, ez, B⟩, hM, hRR, hK, hT, hW, hH, ?_, hP⟩
            · unfold f8_shelf; simp only [jn]; rw [f1_isShelf_s, Option.bind_some, gI, if_pos h1, show (2 : Int32) = nI 2 from rfl, gC (by omega), if_pos h2, f0_isClaim_s (by omega), Option.bind_some, gI, f1_isSheet_s, Option.bind_some, gI]
              unfold f1_holdRow
              simp only [jn]
              rw [if_pos h3, f1_isShelf_s, Option.bind_some, gI, if_pos h1, f1_isSheet_s, Option.bind_some, gI, if_pos h3, f1_isMissing_s _ ht, Option.bind_some, b2_t hm]
              simp (disch := omega) only [n2, n3, n4, n5, n6, n7, n8, n9, n10, n11, n12, n13, n14, n15, n16, n20, n24, n32, n50, n60, n64, n80, n81, n90, n100, n128, n256, n30, n36, n40, n99, n200, n512, pk_mul, nI_add, nI_1, nI_a0, gdi, nI_clamp, ltT, ltF, leT, leF, lt0F, le0T, eqT, eqF, eq0F, nI_sub, h10, and_true, true_and, and_false, false_and, and_self, not_true, not_false_eq_true, Option.bind_some, jn, ↓reduceIte]
              rfl
            · unfold f9_shelf f9_isHeld; simp only [jn]; rw [f9_isShelf_s, Option.bind_some, gI, if_pos h1, f9_isClaim_s (by omega), Option.bind_some, f9_isShelf_s, Option.bind_some, bI_bz, bI_bz, gd_t, gd_t]
              rw [bI_t h3]
              simp (disch := omega) only [n2, n3, n4, n5, n6, n7, n8, n9, n10, n11, n12, n13, n14, n15, n16, n20, n24, n32, n50, n60, n64, n80, n81, n90, n100, n128, n256, n30, n36, n40, n99, n200, n512, pk_mul, nI_add, nI_1, nI_a0, gdi, nI_clamp, ltT, ltF, leT, leF, lt0F, le0T, eqT, eqF, eq0F, nI_sub, h10, and_true, true_and, and_false, false_and, and_self, not_true, not_false_eq_true, Option.bind_some, jn, ↓reduceIte, em, hm]
              rfl
            · exact RSupd hS (s := s) (-1) (g 45 t) (-1) (-1) (g 75 t) (Or.inl ⟨rfl, rfl⟩)
          · obtain ⟨q, n, hq, hn, et, en, emn, he⟩ := ec.resolve_left hm
            refine ⟨1, upd (g 47) s (nI (10 + q)), upd (g 48) s (nI n), upd (g 77) s 1, upd (g 78) s (nI q), upd (g 79) s (nI n), ?_, ?_, ⟨P, C, e0, e30, e1, e31, ez, B⟩, hM, hRR, hK, hT, hW, hH, ?_, hP⟩
            · unfold f8_shelf; simp only [jn]; rw [f1_isShelf_s, Option.bind_some, gI, if_pos h1, show (2 : Int32) = nI 2 from rfl, gC (by omega), if_pos h2, f0_isClaim_s (by omega), Option.bind_some, gI, f1_isSheet_s, Option.bind_some, gI]
              unfold f1_holdRow
              simp only [jn]
              rw [if_pos h3, f1_isShelf_s, Option.bind_some, gI, if_pos h1, f1_isSheet_s, Option.bind_some, gI, if_pos h3, f1_isMissing_s _ ht, Option.bind_some, b2_f hm]
              simp (disch := omega) only [n2, n3, n4, n5, n6, n7, n8, n9, n10, n11, n12, n13, n14, n15, n16, n20, n24, n32, n50, n60, n64, n80, n81, n90, n100, n128, n256, n30, n36, n40, n99, n200, n512, pk_mul, nI_add, nI_1, nI_a0, gdi, nI_clamp, ltT, ltF, leT, leF, lt0F, le0T, eqT, eqF, eq0F, nI_sub, h10, and_true, true_and, and_false, false_and, and_self, not_true, not_false_eq_true, Option.bind_some, jn, ↓reduceIte, et, en]
              rfl
            · unfold f9_shelf f9_isHeld; simp only [jn]; rw [f9_isShelf_s, Option.bind_some, gI, if_pos h1, f9_isClaim_s (by omega), Option.bind_some, f9_isShelf_s, Option.bind_some, bI_bz, bI_bz, gd_t, gd_t]
              rw [bI_t h3]
              simp (disch := omega) only [n2, n3, n4, n5, n6, n7, n8, n9, n10, n11, n12, n13, n14, n15, n16, n20, n24, n32, n50, n60, n64, n80, n81, n90, n100, n128, n256, n30, n36, n40, n99, n200, n512, pk_mul, nI_add, nI_1, nI_a0, gdi, nI_clamp, ltT, ltF, leT, leF, lt0F, le0T, eqT, eqF, eq0F, nI_sub, h10, and_true, true_and, and_false, false_and, and_self, not_true, not_false_eq_true, Option.bind_some, jn, ↓reduceIte, em, et, emn]
              rfl
            · exact RSupd hS (s := s) (nI (10 + q)) (nI n) 1 (nI q) (nI n) (Or.inr (Or.inr ⟨q, n, hq, hn, rfl, rfl, rfl, rfl, rfl⟩))
        · refine bad ?_ ?_
          · unfold f8_shelf; simp only [jn]; rw [f1_isShelf_s, Option.bind_some, gI, if_pos h1, show (2 : Int32) = nI 2 from rfl, gC (by omega), if_pos h2, f0_isClaim_s (by omega), Option.bind_some, gI, f1_isSheet_s, Option.bind_some, gI]
            rw [if_neg h3]; rfl
          · unfold f9_shelf f9_isHeld; simp only [jn]; rw [f9_isShelf_s, Option.bind_some, gI, if_pos h1, f9_isClaim_s (by omega), Option.bind_some, f9_isShelf_s, Option.bind_some, bI_bz, bI_bz, gd_t, gd_t]
            rw [bI_f h3]; rfl
      · refine ⟨1, upd (g 47) s (-1), g 48, upd (g 77) s (-1), upd (g 78) s p3, upd (g 79) s 0, ?_, ?_, ⟨P, C, e0, e30, e1, e31, ez, B⟩, hM, hRR, hK, hT, hW, hH, RSupd1 hS _ _, hP⟩
        · unfold f8_shelf; simp only [jn]; rw [f1_isShelf_s, Option.bind_some, gI, if_pos h1, show (2 : Int32) = nI 2 from rfl, gC (by omega), if_pos h2, f0_isClaim_s (by omega), Option.bind_some, gI, f1_isSheet_s, Option.bind_some, gI]
          unfold f1_holdNothing
          rw [f1_isShelf_s, Option.bind_some, gI, if_pos h1]
          simp (disch := omega) only [n2, n3, n4, n5, n6, n7, n8, n9, n10, n11, n12, n13, n14, n15, n16, n20, n24, n32, n50, n60, n64, n80, n81, n90, n100, n128, n256, n30, n36, n40, n99, n200, n512, pk_mul, nI_add, nI_1, nI_a0, gdi, nI_clamp, ltT, ltF, leT, leF, lt0F, le0T, eqT, eqF, eq0F, nI_sub, h10, and_true, true_and, and_false, false_and, and_self, not_true, not_false_eq_true, Option.bind_some, jn, ↓reduceIte]
          rfl
        · unfold f9_shelf f9_isHeld; simp only [jn]; rw [f9_isShelf_s, Option.bind_some, gI, if_pos h1, f9_isClaim_s (by omega), Option.bind_some, f9_isShelf_s, Option.bind_some, bI_bz, bI_bz, gd_t, gd_t]
          simp (disch := omega) only [n2, n3, n4, n5, n6, n7, n8, n9, n10, n11, n12, n13, n14, n15, n16, n20, n24, n32, n50, n60, n64, n80, n81, n90, n100, n128, n256, n30, n36, n40, n99, n200, n512, pk_mul, nI_add, nI_1, nI_a0, gdi, nI_clamp, ltT, ltF, leT, leF, lt0F, le0T, eqT, eqF, eq0F, nI_sub, h10, and_true, true_and, and_false, false_and, and_self, not_true, not_false_eq_true, Option.bind_some, jn, ↓reduceIte]
          rfl
    · refine bad ?_ ?_
      · unfold f8_shelf
        rw [f1_isShelf_s, Option.bind_some, gI, if_pos h1, show (2 : Int32) = nI 2 from rfl, gC (by omega), if_neg h2]
      · unfold f9_shelf f9_isHeld
        rw [f9_isShelf_s, Option.bind_some, gI, if_pos h1, if_neg (show ¬ p2 = 0 from nin (k := 0) h2 (by omega)), if_neg (show ¬ p2 = 1 from nin (k := 1) h2 (by omega)), if_neg (show ¬ p2 = 2 from nin (k := 2) h2 (by omega)), Option.bind_some, if_pos rfl]
  · refine bad ?_ ?_
    · unfold f8_shelf
      rw [f1_isShelf_s, Option.bind_some, gI, if_neg h1]
    · unfold f9_shelf
      rw [f9_isShelf_s, Option.bind_some, gI, if_neg h1]
theorem isUnder_eq : ∀ v, v < 6 → ∀ k, k < 6 → f8_isUnder (nI v) (nI k) = f9_isUnder (nI v) (nI k) := by decide +kernel
theorem isUnder_v : ∀ v, v < 6 → ∀ k, k < 6 → f9_isUnder (nI v) (nI k) = some 0 ∨ f9_isUnder (nI v) (nI k) = some 1 := by decide +kernel
theorem op_taken : Op_taken Rl := by
  intro r g u h p1 p2 hR
  have hR0 := hR
  obtain ⟨⟨P, C, e0, e30, e1, e31, ez, B⟩, hM, hRR, hK, hT, hW, hH, hS, hP⟩ := hR
  have hC9 := B.2.1
  rw [e1, e31]
  by_cases h1 : inN p1 4
  · obtain ⟨s, hs, rfl⟩ := inN_of (by omega) h1
    by_cases h2 : inN p2 14
    · obtain ⟨k, hk, rfl⟩ := inN_of (by omega) h2
      -- what the shelf holds
      have H8 : ∀ v7 : Int32, f1_heldOn (g 47) (g 48) (nI s) (nI C) = some v7 → k < 6 ∨ 10 ≤ k → f8_taken (nI C) (g 7) (g 47) (g 48) (nI s) (nI k) = if v7 = -1 then some (-11) else if v7 = 0 then (if k < 6 then Option.bind (f0_fact (nI C) (g 7) (g 48 s) 0) fun v14 => Option.bind (f8_isUnder v14 (nI k)) fun v15 => if v15 = 0 then some (-13) else some (g 48 s) else some (-13)) else if v7 = nI k then some (g 48 s) else some (-13) := by
        intro v7 e7 hv
        unfold f8_taken
        simp only [jn]
        rw [f1_isShelf_s, e7]
        simp only [Option.bind_some, gI, if_pos h1]
        rcases hv with hv | hv
        · simp (disch := omega) only [n2, n3, n4, n5, n6, n7, n8, n9, n10, n11, n12, n13, n14, n15, n16, n20, n24, n32, n50, n60, n64, n80, n81, n90, n100, n128, n256, n30, n36, n40, n99, n200, n512, pk_mul, nI_add, nI_1, nI_a0, gdi, nI_clamp, ltT, ltF, leT, leF, lt0F, le0T, eqT, eqF, eq0F, nI_sub, h10, and_true, true_and, and_false, false_and, and_self, not_true, not_false_eq_true, Option.bind_some, jn, ↓reduceIte, if_pos hv]
        · simp (disch := omega) only [n2, n3, n4, n5, n6, n7, n8, n9, n10, n11, n12, n13, n14, n15, n16, n20, n24, n32, n50, n60, n64, n80, n81, n90, n100, n128, n256, n30, n36, n40, n99, n200, n512, pk_mul, nI_add, nI_1, nI_a0, gdi, nI_clamp, ltT, ltF, leT, leF, lt0F, le0T, eqT, eqF, eq0F, nI_sub, h10, and_true, true_and, and_false, false_and, and_self, not_true, not_false_eq_true, Option.bind_some, jn, ↓reduceIte, if_neg (show ¬ k < 6 by omega)]
      have H9 : ∀ v4 : Int32, f9_kindOn (nI C) (g 57) (g 77) (g 78) (nI s) = some v4 → k < 6 ∨ 10 ≤ k → f9_taken (nI C) (g 57) (g 77) (g 78) (g 79) (nI s) (nI k) = if 0 ≤ v4 then (if v4 = 9 then (if nI k = 10 + g 78 s then some (g 79 s) else some (-13)) else if 10 ≤ nI k then some (-13) else Option.bind (f9_isUnder v4 (nI k)) fun v5 => if v5 = 0 then some (-13) else some (g 78 s)) else some (-11) := by
        intro v4 e4 hv
        unfold f9_taken
        simp only [jn]
        rw [f9_isShelf_s, Option.bind_some, gI, if_pos h1, e4, Option.bind_some, fk5, Option.bind_some, f9_in_s, gI, Option.bind_some]
        rcases hv with hv | hv
        · rw [if_pos (inN_nI hv (by omega)), gdi hs (by omega), gdi hs (by omega), gdi hs (by omega), nI_clamp (by omega)]
        · rw [if_neg (fun q => absurd (inN_of (by omega) q) (fun ⟨j, hj, e⟩ => absurd (nI_inj (by omega) (by omega) e) (by omega))), if_pos (show (10 : Int32) ≤ nI k ∧ nI k ≤ 13 from ⟨nI_le (a := 10) hv (by omega), nI_le (b := 13) (by omega) (by omega)⟩), if_neg (by decide), gdi hs (by omega), gdi hs (by omega), gdi hs (by omega), nI_clamp (by omega)]
      by_cases hv : k < 6 ∨ 10 ≤ k
      · rcases hS s hs with ⟨a, b⟩ | ⟨n, hn, a, b, c, d⟩ | ⟨t, n, ht, hn, a, b, c, d, e⟩
        · refine ⟨-11, (H8 (-1) ?_ hv).trans rfl, (H9 (-1) ?_ hv).trans rfl, hR0⟩
          · unfold f1_heldOn
            rw [f1_isShelf_s, Option.bind_some, gI, if_pos h1]
            simp (disch := omega) only [n2, n3, n4, n5, n6, n7, n8, n9, n10, n11, n12, n13, n14, n15, n16, n20, n24, n32, n50, n60, n64, n80, n81, n90, n100, n128, n256, n30, n36, n40, n99, n200, n512, pk_mul, nI_add, nI_1, nI_a0, gdi, nI_clamp, ltT, ltF, leT, leF, lt0F, le0T, eqT, eqF, eq0F, nI_sub, h10, and_true, true_and, and_false, false_and, and_self, not_true, not_false_eq_true, Option.bind_some, jn, ↓reduceIte, a]
            rfl
          · unfold f9_kindOn
            simp (disch := omega) only [n2, n3, n4, n5, n6, n7, n8, n9, n10, n11, n12, n13, n14, n15, n16, n20, n24, n32, n50, n60, n64, n80, n81, n90, n100, n128, n256, n30, n36, n40, n99, n200, n512, pk_mul, nI_add, nI_1, nI_a0, gdi, nI_clamp, ltT, ltF, leT, leF, lt0F, le0T, eqT, eqF, eq0F, nI_sub, h10, and_true, true_and, and_false, false_and, and_self, not_true, not_false_eq_true, Option.bind_some, jn, ↓reduceIte, b]
            rfl
        · by_cases hc : n < C
          · obtain ⟨v, hv6, ev⟩ := (B.2.2.2.2.2.2.2.2.2.1 n hc).1
            have mv := (B.2.2.2.2.2.2.2.2.1 n 0 hc (by omega)).1
            have G8 := H8 0 (by
              unfold f1_heldOn
              rw [f1_isShelf_s, Option.bind_some, gI, if_pos h1]
              simp (disch := omega) only [n2, n3, n4, n5, n6, n7, n8, n9, n10, n11, n12, n13, n14, n15, n16, n20, n24, n32, n50, n60, n64, n80, n81, n90, n100, n128, n256, n30, n36, n40, n99, n200, n512, pk_mul, nI_add, nI_1, nI_a0, gdi, nI_clamp, ltT, ltF, leT, leF, lt0F, le0T, eqT, eqF, eq0F, nI_sub, h10, and_true, true_and, and_false, false_and, and_self, not_true, not_false_eq_true, Option.bind_some, jn, ↓reduceIte, a, c]) hv
            have G9 := H9 (nI v) (by
              unfold f9_kindOn
              simp (disch := omega) only [n2, n3, n4, n5, n6, n7, n8, n9, n10, n11, n12, n13, n14, n15, n16, n20, n24, n32, n50, n60, n64, n80, n81, n90, n100, n128, n256, n30, n36, n40, n99, n200, n512, pk_mul, nI_add, nI_1, nI_a0, gdi, nI_clamp, ltT, ltF, leT, leF, lt0F, le0T, eqT, eqF, eq0F, nI_sub, h10, and_true, true_and, and_false, false_and, and_self, not_true, not_false_eq_true, Option.bind_some, jn, ↓reduceIte, b, d]
              rw [f9_isClaim_s (by omega), Option.bind_some, gI, if_pos (inN_nI hc (by omega)), show (0 : Int32) = nI 0 from rfl, f9_its_s (by omega) (by omega), Option.bind_some, mv, Nat.add_zero, ev]) hv
            rw [if_neg (by decide), if_pos rfl, c] at G8
            rw [if_pos (nI_pos' (by omega)), if_neg (show ¬ nI v = 9 from fun q => absurd (nI_inj (a := v) (b := 9) (by omega) (by omega) q) (by omega)), d] at G9
            by_cases h6 : k < 6
            · rw [if_pos h6, show (0 : Int32) = nI 0 from rfl, f0_fact_s hC9 hc (by omega), Option.bind_some, Nat.add_zero, ev, isUnder_eq v hv6 k h6] at G8
              rw [if_neg (show ¬ 10 ≤ nI k from nI_ge (b := 10) (by omega) (by omega))] at G9
              rcases isUnder_v v hv6 k h6 with w | w
              · rw [w] at G8 G9
                exact ⟨-13, G8, G9, hR0⟩
              · rw [w] at G8 G9
                exact ⟨nI n, G8, G9, hR0⟩
            · rw [if_neg h6] at G8
              rw [if_pos (show 10 ≤ nI k from nI_le (a := 10) (by omega) (by omega))] at G9
              exact ⟨-13, G8, G9, hR0⟩
          · refine ⟨-11, (H8 (-1) ?_ hv).trans rfl, (H9 (-1) ?_ hv).trans rfl, hR0⟩
            · unfold f1_heldOn
              rw [f1_isShelf_s, Option.bind_some, gI, if_pos h1]
              simp (disch := omega) only [n2, n3, n4, n5, n6, n7, n8, n9, n10, n11, n12, n13, n14, n15, n16, n20, n24, n32, n50, n60, n64, n80, n81, n90, n100, n128, n256, n30, n36, n40, n99, n200, n512, pk_mul, nI_add, nI_1, nI_a0, gdi, nI_clamp, ltT, ltF, leT, leF, lt0F, le0T, eqT, eqF, eq0F, nI_sub, h10, and_true, true_and, and_false, false_and, and_self, not_true, not_false_eq_true, Option.bind_some, jn, ↓reduceIte, a, c]
            · unfold f9_kindOn
              simp (disch := omega) only [n2, n3, n4, n5, n6, n7, n8, n9, n10, n11, n12, n13, n14, n15, n16, n20, n24, n32, n50, n60, n64, n80, n81, n90, n100, n128, n256, n30, n36, n40, n99, n200, n512, pk_mul, nI_add, nI_1, nI_a0, gdi, nI_clamp, ltT, ltF, leT, leF, lt0F, le0T, eqT, eqF, eq0F, nI_sub, h10, and_true, true_and, and_false, false_and, and_self, not_true, not_false_eq_true, Option.bind_some, jn, ↓reduceIte, b, d]
              rw [f9_isClaim_s (by omega), Option.bind_some, gI, if_neg]
              intro q
              obtain ⟨j, hj, e⟩ := inN_of (by omega) q
              exact absurd (nI_inj (by omega) (by omega) e) (by omega)
        · have G8 := H8 (nI (10 + t)) (by
            unfold f1_heldOn
            rw [f1_isShelf_s, Option.bind_some, gI, if_pos h1]
            simp (disch := omega) only [n2, n3, n4, n5, n6, n7, n8, n9, n10, n11, n12, n13, n14, n15, n16, n20, n24, n32, n50, n60, n64, n80, n81, n90, n100, n128, n256, n30, n36, n40, n99, n200, n512, pk_mul, nI_add, nI_1, nI_a0, gdi, nI_clamp, ltT, ltF, leT, leF, lt0F, le0T, eqT, eqF, eq0F, nI_sub, h10, and_true, true_and, and_false, false_and, and_self, not_true, not_false_eq_true, Option.bind_some, jn, ↓reduceIte, a]) hv
          have G9 := H9 9 (by
            unfold f9_kindOn
            simp (disch := omega) only [n2, n3, n4, n5, n6, n7, n8, n9, n10, n11, n12, n13, n14, n15, n16, n20, n24, n32, n50, n60, n64, n80, n81, n90, n100, n128, n256, n30, n36, n40, n99, n200, n512, pk_mul, nI_add, nI_1, nI_a0, gdi, nI_clamp, ltT, ltF, leT, leF, lt0F, le0T, eqT, eqF, eq0F, nI_sub, h10, and_true, true_and, and_false, false_and, and_self, not_true, not_false_eq_true, Option.bind_some, jn, ↓reduceIte, b]
            rfl) hv
          rw [if_neg (nI_ne1 (by omega)), if_neg (nI_ne0 (by omega) (by omega)), d] at G8
          rw [if_pos (by decide), if_pos rfl, c, e, show (10 : Int32) + nI t = nI (10 + t) from nI_add 10 t] at G9
          by_cases q : 10 + t = k
          · rw [if_pos (by rw [q])] at G8 G9
            exact ⟨nI n, G8, G9, hR0⟩
          · rw [if_neg (fun w => q (nI_inj (by omega) (by omega) w))] at G8
            rw [if_neg (fun w => q (nI_inj (by omega) (by omega) w).symm)] at G9
            exact ⟨-13, G8, G9, hR0⟩
      · refine ⟨-1, ?_, ?_, hR0⟩
        · unfold f8_taken
          simp only [jn]
          simp (disch := omega) only [n2, n3, n4, n5, n6, n7, n8, n9, n10, n11, n12, n13, n14, n15, n16, n20, n24, n32, n50, n60, n64, n80, n81, n90, n100, n128, n256, n30, n36, n40, n99, n200, n512, pk_mul, nI_add, nI_1, nI_a0, gdi, nI_clamp, ltT, ltF, leT, leF, lt0F, le0T, eqT, eqF, eq0F, nI_sub, h10, and_true, true_and, and_false, false_and, and_self, not_true, not_false_eq_true, Option.bind_some, jn, ↓reduceIte]
          rw [f1_isShelf_s, Option.bind_some, gI, if_pos h1]
        · unfold f9_taken
          simp only [jn]
          rw [f9_isShelf_s, Option.bind_some, gI, if_pos h1, fk5, Option.bind_some, f9_in_s, gI, Option.bind_some, if_neg (fun q => absurd (inN_of (by omega) q) (fun ⟨j, hj, e⟩ => absurd (nI_inj (by omega) (by omega) e) (by omega))), if_neg (show ¬ ((10 : Int32) ≤ nI k ∧ nI k ≤ 13) from fun q => absurd q.1 (nI_ge (b := 10) (by omega) (by omega))), if_pos rfl]
    · refine ⟨-1, ?_, ?_, hR0⟩
      · unfold f8_taken
        simp only [jn]
        rw [f1_isShelf_s]
        simp only [Option.bind_some, gI, if_pos h1]
        simp (disch := omega) only [n2, n3, n4, n5, n6, n7, n8, n9, n10, n11, n12, n13, n14, n15, n16, n20, n24, n32, n50, n60, n64, n80, n81, n90, n100, n128, n256, n30, n36, n40, n99, n200, n512, pk_mul, nI_add, nI_1, nI_a0, gdi, nI_clamp, ltT, ltF, leT, leF, lt0F, le0T, eqT, eqF, eq0F, nI_sub, h10, and_true, true_and, and_false, false_and, and_self, not_true, not_false_eq_true, Option.bind_some, jn, ↓reduceIte]
        rcases nI_cases p2 with hv | ⟨k, hk, rfl⟩
        · have : p2 < nI 10 := by rw [ltN (by omega)]; rw [lt0] at hv; omega
          rw [if_pos hv, if_pos this]
        · have : 14 ≤ k := Nat.le_of_not_lt (fun q => h2 (inN_nI q (by omega)))
          simp (disch := omega) only [n2, n3, n4, n5, n6, n7, n8, n9, n10, n11, n12, n13, n14, n15, n16, n20, n24, n32, n50, n60, n64, n80, n81, n90, n100, n128, n256, n30, n36, n40, n99, n200, n512, pk_mul, nI_add, nI_1, nI_a0, gdi, nI_clamp, ltT, ltF, leT, leF, lt0F, le0T, eqT, eqF, eq0F, nI_sub, h10, and_true, true_and, and_false, false_and, and_self, not_true, not_false_eq_true, Option.bind_some, jn, ↓reduceIte]
      · unfold f9_taken
        simp only [jn]
        rw [f9_isShelf_s, Option.bind_some, gI, if_pos h1, fk5, Option.bind_some, f9_in_s, gI, Option.bind_some, if_neg (fun q => h2 ⟨q.1, by have := q.2; omega⟩)]
        have q0 : ¬ ((10 : Int32) ≤ p2 ∧ p2 ≤ 13) := by
          intro q
          have q1 := (leN (n := 10) (by omega) p2).mp q.1
          have q2 := (leN' (n := 13) (by omega) p2).mp q.2
          exact h2 ⟨by omega, by omega⟩
        rw [if_neg q0, if_pos rfl]
  · refine ⟨-1, ?_, ?_, hR0⟩
    · unfold f8_taken
      simp only [jn]
      rw [f1_isShelf_s]
      simp only [Option.bind_some, gI, if_neg h1, ite_self]
    · unfold f9_taken
      rw [f9_isShelf_s, Option.bind_some, gI, if_neg h1]
