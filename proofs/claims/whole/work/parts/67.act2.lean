/-! ===== act (written by gen67.py) ===== -/
theorem acA (a n x : Int32) (b t : Nat → Int32) : ∀ v, v < 6 → ∀ k, k < 4 → ∃ β, f3_bodyOf (nI v) (nI k) = some β ∧ AR (f3_run 10 a 0 (nI v) n 0 b β x 0) (rfA (nI k) (nI v) n a x t) := by
  intro v hv k hk
  rcases (by omega : v = 0 ∨ v = 1 ∨ v = 2 ∨ v = 3 ∨ v = 4 ∨ v = 5) with rfl | rfl | rfl | rfl | rfl | rfl
  · rcases (by omega : k = 0 ∨ k = 1 ∨ k = 2 ∨ k = 3) with rfl | rfl | rfl | rfl
    · exact ⟨10, bo_0_0, ac_0_0 a n x b t⟩
    · exact ⟨11, bo_0_1, ac_0_1 a n x b t⟩
    · exact ⟨12, bo_0_2, ac_0_2 a n x b t⟩
    · exact ⟨13, bo_0_3, ac_0_3 a n x b t⟩
  · rcases (by omega : k = 0 ∨ k = 1 ∨ k = 2 ∨ k = 3) with rfl | rfl | rfl | rfl
    · exact ⟨10, bo_1_0, ac_1_0 a n x b t⟩
    · exact ⟨20, bo_1_1, ac_1_1 a n x b t⟩
    · exact ⟨12, bo_1_2, ac_1_2 a n x b t⟩
    · exact ⟨13, bo_1_3, ac_1_3 a n x b t⟩
  · rcases (by omega : k = 0 ∨ k = 1 ∨ k = 2 ∨ k = 3) with rfl | rfl | rfl | rfl
    · exact ⟨30, bo_2_0, ac_2_0 a n x b t⟩
    · exact ⟨11, bo_2_1, ac_2_1 a n x b t⟩
    · exact ⟨12, bo_2_2, ac_2_2 a n x b t⟩
    · exact ⟨31, bo_2_3, ac_2_3 a n x b t⟩
  · rcases (by omega : k = 0 ∨ k = 1 ∨ k = 2 ∨ k = 3) with rfl | rfl | rfl | rfl
    · exact ⟨40, bo_3_0, ac_3_0 a n x b t⟩
    · exact ⟨41, bo_3_1, ac_3_1 a n x b t⟩
    · exact ⟨12, bo_3_2, ac_3_2 a n x b t⟩
    · exact ⟨13, bo_3_3, ac_3_3 a n x b t⟩
  · rcases (by omega : k = 0 ∨ k = 1 ∨ k = 2 ∨ k = 3) with rfl | rfl | rfl | rfl
    · exact ⟨51, bo_4_0, ac_4_0 a n x b t⟩
    · exact ⟨11, bo_4_1, ac_4_1 a n x b t⟩
    · exact ⟨50, bo_4_2, ac_4_2 a n x b t⟩
    · exact ⟨31, bo_4_3, ac_4_3 a n x b t⟩
  · rcases (by omega : k = 0 ∨ k = 1 ∨ k = 2 ∨ k = 3) with rfl | rfl | rfl | rfl
    · exact ⟨10, bo_5_0, ac_5_0 a n x b t⟩
    · exact ⟨11, bo_5_1, ac_5_1 a n x b t⟩
    · exact ⟨61, bo_5_2, ac_5_2 a n x b t⟩
    · exact ⟨60, bo_5_3, ac_5_3 a n x b t⟩
theorem rf_fin {R : Type} (k : Nat) (hk : k < 4) (K N a x : Int32) (t : Nat → Int32) (F : Int32 → Int32 → Int32 → (Nat → Int32) → Option R) : (if nI k = 0 then bn3 (f9_hitsIt 0 K N t x) fun v c s => F v c 0 s else if nI k = 1 then bn3 (f9_paysIt 0 K N a t x) fun v c s => F v c 0 s else if nI k = 2 then bn4 (f9_sharesIt 0 0 K N a t x) fun v c p s => F v c p s else bn4 (f9_tellsIt 0 0 K N a t x) fun v c p s => F v c p s) = bn4 (rfA (nI k) K N a x t) F := by
  unfold rfA
  rw [nI_0]
  by_cases h0 : nI k = 0
  · rw [if_pos h0, if_pos h0]
    cases f9_hitsIt 0 K N t x with
    | none => rfl
    | some q => rfl
  · rw [if_neg h0, if_neg h0]
    by_cases h1 : nI k = 1
    · rw [if_pos h1, if_pos h1]
      cases f9_paysIt 0 K N a t x with
      | none => rfl
      | some q => rfl
    · rw [if_neg h1, if_neg h1]
      by_cases h2 : nI k = 2
      · rw [if_pos h2, if_pos h2]
      · rw [if_neg h2, if_neg h2]
theorem bn7E {T0 T1 T2 T3 T4 T5 T6 γ : Type} (x0 : T0) (x1 : T1) (x2 : T2) (x3 : T3) (x4 : T4) (x5 : T5) (x6 : T6) (k : T0 → T1 → T2 → T3 → T4 → T5 → T6 → Option γ) : bn7 (some (x0, x1, x2, x3, x4, x5, x6)) k = k x0 x1 x2 x3 x4 x5 x6 := by unfold bn7; exact bsE _ _
theorem op_act : Op_act Rl := by
  intro r g u h p1 p2 p3 hR
  obtain ⟨⟨P, C, e0, e30, e1, e31, ez, B⟩, hM, hRR, hK, hT, hW, hH, hS, hP⟩ := hR
  have hC9 := B.2.1
  rw [e1, e31]
  have none8 : ∀ v7, f1_heldOn (g 47) (g 48) p1 (nI C) = some v7 → ¬ v7 = 0 → f8_act (nI C) (r 28) (r 25) (r 26) (r 27) (r 29) (g 7) (g 47) (g 48) (g 50) p1 p2 p3 = some (0, r 28, 0, r 26, r 27, r 29, g 50) := by
    intro v7 e7 h7
    unfold f8_act
    rw [f1_isShelf_s, Option.bind_some, gI, n4, gE (by omega), e7, Option.bind_some, if_neg h7]
    by_cases h1 : inN p1 4
    · rw [if_pos h1]
      by_cases h2 : inN p2 4
      · rw [if_pos h2]
      · rw [if_neg h2]
    · rw [if_neg h1]
  have none9 : ∀ v4, f9_kindOn (nI C) (g 57) (g 77) (g 78) p1 = some v4 → ¬ inN v4 6 → f9_act (r 49) (nI C) (r 50) (r 46) (r 47) (r 48) (g 57) (g 77) (g 78) (g 80) p1 p2 p3 = some (0, 0, r 50, r 46, r 47, r 48, g 80) := by
    intro v4 e4 h4
    unfold f9_act
    rw [f9_isShelf_s, Option.bind_some, jnE, e4, Option.bind_some, fk3]
    simp only [bsE, gI]
    rw [fk5, fk5]
    simp only [bsE, gI]
    rw [if_neg h4, if_neg (inN_m1 6), ite_self, ite_self]
  have out8 : ¬ inN p1 4 → f8_act (nI C) (r 28) (r 25) (r 26) (r 27) (r 29) (g 7) (g 47) (g 48) (g 50) p1 p2 p3 = some (0, r 28, 0, r 26, r 27, r 29, g 50) := by
    intro h1
    unfold f8_act
    rw [f1_isShelf_s, Option.bind_some, gI, if_neg h1]
  have out9 : ¬ inN p1 4 → f9_act (r 49) (nI C) (r 50) (r 46) (r 47) (r 48) (g 57) (g 77) (g 78) (g 80) p1 p2 p3 = some (0, 0, r 50, r 46, r 47, r 48, g 80) := by
    intro h1
    unfold f9_act
    rw [f9_isShelf_s, Option.bind_some, jnE, gI, if_neg h1]
    dsimp only
    rw [fk3, Option.bind_some, gI, fk5, Option.bind_some, gI, if_neg (inN_m1 6), ite_self]
  have zero : ∀ (o8 o9 : Option (Int32 × Int32 × Int32 × Int32 × Int32 × Int32 × (Nat → Int32))), o8 = some (0, r 28, 0, r 26, r 27, r 29, g 50) → o9 = some (0, 0, r 50, r 46, r 47, r 48, g 80) → ∃ (v : Int32) (a1 : Int32) (a2 : Int32) (a3 : Int32) (a4 : Int32) (a5 : Int32) (a6 : (Nat → Int32)) (b1 : Int32) (b2 : Int32) (b3 : Int32) (b4 : Int32) (b5 : Int32) (b6 : (Nat → Int32)), o8 = some (v, a1, a2, a3, a4, a5, a6) ∧ o9 = some (v, b1, b2, b3, b4, b5, b6) ∧ Rl (lkp (lkp r [(28, a1), (25, a2), (26, a3), (27, a4), (29, a5)]) [(49, b1), (50, b2), (46, b3), (47, b4), (48, b5)]) (lkp (lkp g [(50, a6)]) [(80, b6)]) u h := by
    intro o8 o9 h8 h9
    refine ⟨0, r 28, 0, r 26, r 27, r 29, g 50, 0, r 50, r 46, r 47, r 48, g 80, h8, h9, ⟨P, C, e0, e30, e1, e31, ez, B⟩, hM, hRR, hK, hT, hW, hH, hS, ⟨0, by omega, rfl, rfl, fun i hi => absurd hi (by omega)⟩⟩
  by_cases h1 : inN p1 4
  · obtain ⟨s, hs, rfl⟩ := inN_of (by omega) h1
    rcases hS s hs with ⟨a, b⟩ | ⟨n, hn, a, b, c, d⟩ | ⟨t, n, ht, hn, a, b, c, d, e⟩
    · refine zero _ _ (none8 (-1) ?_ (by decide)) (none9 (-1) ?_ (inN_m1 6))
      · unfold f1_heldOn
        rw [f1_isShelf_s, Option.bind_some, gI, if_pos h1]
        simp (disch := omega) only [n2, n3, n4, n5, n6, n7, n8, n9, n10, n11, n12, n13, n14, n15, n16, n20, n24, n32, n50, n60, n64, n80, n81, n90, n100, n128, n256, n30, n36, n40, n99, n200, n512, pk_mul, nI_add, nI_1, nI_a0, gdi, nI_clamp, ltT, ltF, leT, leF, lt0F, le0T, eqT, eqF, eq0F, nI_sub, h10, and_true, true_and, and_false, false_and, and_self, not_true, not_false_eq_true, Option.bind_some, jn, ↓reduceIte, a]
        rfl
      · unfold f9_kindOn
        simp (disch := omega) only [n2, n3, n4, n5, n6, n7, n8, n9, n10, n11, n12, n13, n14, n15, n16, n20, n24, n32, n50, n60, n64, n80, n81, n90, n100, n128, n256, n30, n36, n40, n99, n200, n512, pk_mul, nI_add, nI_1, nI_a0, gdi, nI_clamp, ltT, ltF, leT, leF, lt0F, le0T, eqT, eqF, eq0F, nI_sub, h10, and_true, true_and, and_false, false_and, and_self, not_true, not_false_eq_true, Option.bind_some, jn, ↓reduceIte, b]
        rfl
    · by_cases hc : n < C
      · obtain ⟨v, hv6, ev⟩ := (B.2.2.2.2.2.2.2.2.2.1 n hc).1
        have mv := (B.2.2.2.2.2.2.2.2.1 n 0 hc (by omega)).1
        have m4 := (B.2.2.2.2.2.2.2.2.1 n 4 hc (by omega)).1
        have G8 : f1_heldOn (g 47) (g 48) (nI s) (nI C) = some 0 := by
          unfold f1_heldOn
          rw [f1_isShelf_s, Option.bind_some, gI, if_pos h1]
          simp (disch := omega) only [n2, n3, n4, n5, n6, n7, n8, n9, n10, n11, n12, n13, n14, n15, n16, n20, n24, n32, n50, n60, n64, n80, n81, n90, n100, n128, n256, n30, n36, n40, n99, n200, n512, pk_mul, nI_add, nI_1, nI_a0, gdi, nI_clamp, ltT, ltF, leT, leF, lt0F, le0T, eqT, eqF, eq0F, nI_sub, h10, and_true, true_and, and_false, false_and, and_self, not_true, not_false_eq_true, Option.bind_some, jn, ↓reduceIte, a, c]
        have G9 : f9_kindOn (nI C) (g 57) (g 77) (g 78) (nI s) = some (nI v) := by
          unfold f9_kindOn
          simp (disch := omega) only [n2, n3, n4, n5, n6, n7, n8, n9, n10, n11, n12, n13, n14, n15, n16, n20, n24, n32, n50, n60, n64, n80, n81, n90, n100, n128, n256, n30, n36, n40, n99, n200, n512, pk_mul, nI_add, nI_1, nI_a0, gdi, nI_clamp, ltT, ltF, leT, leF, lt0F, le0T, eqT, eqF, eq0F, nI_sub, h10, and_true, true_and, and_false, false_and, and_self, not_true, not_false_eq_true, Option.bind_some, jn, ↓reduceIte, b, d]
          rw [f9_isClaim_s (by omega), Option.bind_some, gI, if_pos (inN_nI hc (by omega)), show (0 : Int32) = nI 0 from rfl, f9_its_s (by omega) (by omega), Option.bind_some, mv, Nat.add_zero, ev]
        by_cases h2 : inN p2 4
        · obtain ⟨k, hk, rfl⟩ := inN_of (by omega) h2
          have w0 : f0_fact (nI C) (g 7) (nI n) 0 = some (nI v) := by
            have := f0_fact_s (fac := g 7) hC9 hc (w := 0) (by omega)
            rw [Nat.add_zero, ev] at this
            exact this
          have w4 : f0_fact (nI C) (g 7) (nI n) 4 = some (g 7 (n * 5 + 4)) := f0_fact_s hC9 hc (w := 4) (by omega)
          have v4 : f9_its (g 57) (nI n) 4 = some (g 7 (n * 5 + 4)) := f9_its_f B hc (w := 4) (by omega)
          obtain ⟨β, hβ, v8, v9, p, cc, b1, b2, q8, q9, hvv, hp01, hcc, hbb⟩ := acA (g 7 (n * 5 + 4)) (nI n) p3 (g 50) (g 80) v hv6 k hk
          refine ⟨if p = 0 then v8 else -15, g 7 (n * 5 + 4), nI cc, nI v, nI n, p, b1, nI cc, p, nI v, nI n, g 7 (n * 5 + 4), b2, ?_, ?_, ⟨P, C, e0, e30, e1, e31, ez, B⟩, hM, hRR, hK, hT, hW, hH, hS, ⟨cc, hcc, rfl, rfl, hbb⟩⟩
          · unfold f8_act f3_perform
            rw [f1_isShelf_s, Option.bind_some, gI, if_pos h1, n4, gE (by omega), if_pos h2, G8, Option.bind_some, if_pos rfl, ← n4, gdi hs (by omega), nI_clamp (by omega), c, w0, Option.bind_some, w4, Option.bind_some, hβ, Option.bind_some, q8, bn4E]
            rcases hp01 with e | e
            · rw [e, if_pos rfl, bn7E, if_pos rfl]
            · rw [e, if_neg (by decide), bn7E, if_neg (by decide)]
          · unfold f9_act
            rw [f9_isShelf_s, Option.bind_some, jnE, gI, if_pos h1, G9, Option.bind_some]
            dsimp only
            rw [fk3, Option.bind_some, gI, if_pos h2, fk5, Option.bind_some, gI, if_pos (inN_nI hv6 (by omega)), gdi hs (by omega), nI_clamp (by omega), d, v4, Option.bind_some]
            simp only [jnE]
            have hf := rf_fin k hk (nI v) (nI n) (g 7 (n * 5 + 4)) p3 (g 80) (fun s9 c10 c11 c12 => if c11 = 0 then some (s9, c10, c11, nI v, nI n, g 7 (n * 5 + 4), c12) else some (-15, c10, c11, nI v, nI n, g 7 (n * 5 + 4), c12))
            rw [q9, bn4E] at hf
            have hq : (if p = 0 then some (v9, nI cc, p, nI v, nI n, g 7 (n * 5 + 4), b2) else some (-15, nI cc, p, nI v, nI n, g 7 (n * 5 + 4), b2)) = some (if p = 0 then v8 else -15, nI cc, p, nI v, nI n, g 7 (n * 5 + 4), b2) := by
              rcases hp01 with e | e
              · rw [if_pos e, if_pos e, hvv e]
              · rw [if_neg (by rw [e]; decide), if_neg (by rw [e]; decide)]
            rw [← hq, ← hf]
            rfl
        · refine zero _ _ ?_ ?_
          · unfold f8_act
            rw [f1_isShelf_s, Option.bind_some, gI, if_pos h1, n4, gE (by omega), if_neg h2]
          · unfold f9_act
            rw [f9_isShelf_s, Option.bind_some, jnE, gI, if_pos h1, G9, Option.bind_some]
            dsimp only
            rw [fk3, Option.bind_some, gI, if_neg h2]
      · refine zero _ _ (none8 (-1) ?_ (by decide)) (none9 (-1) ?_ (inN_m1 6))
        · unfold f1_heldOn
          rw [f1_isShelf_s, Option.bind_some, gI, if_pos h1]
          simp (disch := omega) only [n2, n3, n4, n5, n6, n7, n8, n9, n10, n11, n12, n13, n14, n15, n16, n20, n24, n32, n50, n60, n64, n80, n81, n90, n100, n128, n256, n30, n36, n40, n99, n200, n512, pk_mul, nI_add, nI_1, nI_a0, gdi, nI_clamp, ltT, ltF, leT, leF, lt0F, le0T, eqT, eqF, eq0F, nI_sub, h10, and_true, true_and, and_false, false_and, and_self, not_true, not_false_eq_true, Option.bind_some, jn, ↓reduceIte, a, c]
        · unfold f9_kindOn
          simp (disch := omega) only [n2, n3, n4, n5, n6, n7, n8, n9, n10, n11, n12, n13, n14, n15, n16, n20, n24, n32, n50, n60, n64, n80, n81, n90, n100, n128, n256, n30, n36, n40, n99, n200, n512, pk_mul, nI_add, nI_1, nI_a0, gdi, nI_clamp, ltT, ltF, leT, leF, lt0F, le0T, eqT, eqF, eq0F, nI_sub, h10, and_true, true_and, and_false, false_and, and_self, not_true, not_false_eq_true, Option.bind_some, jn, ↓reduceIte, b, d]
          rw [f9_isClaim_s (by omega), Option.bind_some, gI, if_neg]
          intro q
          obtain ⟨j, hj, e⟩ := inN_of (by omega) q
          exact absurd (nI_inj (by omega) (by omega) e) (by omega)
    · refine zero _ _ (none8 (nI (10 + t)) ?_ (nI_ne0 (by omega) (by omega))) (none9 9 ?_ (by decide))
      · unfold f1_heldOn
        rw [f1_isShelf_s, Option.bind_some, gI, if_pos h1]
        simp (disch := omega) only [n2, n3, n4, n5, n6, n7, n8, n9, n10, n11, n12, n13, n14, n15, n16, n20, n24, n32, n50, n60, n64, n80, n81, n90, n100, n128, n256, n30, n36, n40, n99, n200, n512, pk_mul, nI_add, nI_1, nI_a0, gdi, nI_clamp, ltT, ltF, leT, leF, lt0F, le0T, eqT, eqF, eq0F, nI_sub, h10, and_true, true_and, and_false, false_and, and_self, not_true, not_false_eq_true, Option.bind_some, jn, ↓reduceIte, a]
      · unfold f9_kindOn
        simp (disch := omega) only [n2, n3, n4, n5, n6, n7, n8, n9, n10, n11, n12, n13, n14, n15, n16, n20, n24, n32, n50, n60, n64, n80, n81, n90, n100, n128, n256, n30, n36, n40, n99, n200, n512, pk_mul, nI_add, nI_1, nI_a0, gdi, nI_clamp, ltT, ltF, leT, leF, lt0F, le0T, eqT, eqF, eq0F, nI_sub, h10, and_true, true_and, and_false, false_and, and_self, not_true, not_false_eq_true, Option.bind_some, jn, ↓reduceIte, b]
        rfl
  · exact zero _ _ (out8 h1) (out9 h1)
