/-! ===== claim, claimOf, seat, set, found ===== -/
theorem f9_orNobody_n {k : Nat} (h : k < 2 ^ 31) : f9_orNobody (nI k) = some (nI k) := by unfold f9_orNobody; simp (disch := omega) only [n2, n3, n4, n5, n6, n7, n8, n9, n10, n11, n12, n13, n14, n15, n16, n20, n24, n32, n50, n60, n64, n80, n81, n90, n100, n128, n256, n30, n36, n40, n99, n200, n512, pk_mul, nI_add, nI_1, nI_a0, gdi, nI_clamp, ltT, ltF, leT, leF, lt0F, le0T, eqT, eqF, eq0F, nI_sub, h10, and_true, true_and, and_false, false_and, and_self, not_true, not_false_eq_true, Option.bind_some, jn, ↓reduceIte]
theorem f9_orNobody_m : f9_orNobody (-1) = some (-9) := rfl
theorem four (w : Nat) (h : w < 4) : w = 0 ∨ w = 1 ∨ w = 2 ∨ w = 3 := by omega
theorem op_claim : Op_claim Rl := by
  intro r g u h p1 p2 p3 p4 p5 hR
  have hR0 := hR
  obtain ⟨⟨P, C, e0, e30, e1, e31, ez, B⟩, hM, hRR, hK, hT, hW, hH, hS, hP⟩ := hR
  have hC9 := B.2.1
  have E8 : ∀ X, f8_claim (r 1) (g 10) (g 7) (g 9) (g 8) p1 p2 p3 p4 p5 = X ↔ (if (((inN p1 6 ∧ inN p2 100) ∧ inN p3 4) ∧ inN p4 10) ∧ inN p5 100 then (if nI C < 9 then bn6 (f0_addClaim (nI C) (g 10) (g 7) (g 9) (g 8) p1 p2 p3 p4 p5) fun v2 c3 c4 c5 c6 c7 => some (v2, c3, c4, c5, c6, c7) else some (-2, nI C, g 10, g 7, g 9, g 8)) else some (-1, nI C, g 10, g 7, g 9, g 8)) = X := by
    intro X
    unfold f8_claim
    rw [f8_isTown_s, Option.bind_some, show (6 : Int32) = nI 6 from rfl, show (99 : Int32) = nI 99 from rfl, show (9 : Int32) = nI 9 from rfl, gA (by omega), gB (by omega), gI, gB (by omega), gC (by omega), gM, gM, gM, gM, e1]
  by_cases h1 : (((inN p1 6 ∧ inN p2 100) ∧ inN p3 4) ∧ inN p4 10) ∧ inN p5 100
  · rcases Nat.lt_or_ge C 9 with hC | hC
    · obtain ⟨v1, hv1, rfl⟩ := inN_of (by omega) h1.1.1.1.1
      obtain ⟨v2, hv2, rfl⟩ := inN_of (by omega) h1.1.1.1.2
      obtain ⟨v3, hv3, rfl⟩ := inN_of (by omega) h1.1.1.2
      obtain ⟨v4, hv4, rfl⟩ := inN_of (by omega) h1.1.2
      obtain ⟨v5, hv5, rfl⟩ := inN_of (by omega) h1.2
      refine ⟨nI C, nI (C + 1), upd (g 10) C 0, upd (upd (upd (upd (upd (g 7) (C * 5) (nI v1)) (C * 5 + 1) (nI v2)) (C * 5 + 2) (nI v3)) (C * 5 + 3) (nI v4)) (C * 5 + 4) (nI v5), upd (g 9) C (-9), (fun j => if C * 4 ≤ j ∧ j < C * 4 + 4 then -9 else g 8 j), nI (C + 1), upd (upd (fun j => if 11 * C + 5 ≤ j ∧ j < 11 * C + 5 + 4 then -1 else upd (upd (upd (upd (upd (g 57) (11 * C) (nI v1)) (11 * C + 1) (nI v2)) (11 * C + 2) (nI v3)) (11 * C + 3) (nI v4)) (11 * C + 4) (nI v5) j) (11 * C + 9) 0) (11 * C + 10) 0, ?_, ?_, ?_⟩
      · rw [E8, if_pos h1, if_pos (nlt n9 hC (by omega))]
        unfold f0_addClaim
        simp (disch := omega) only [n2, n3, n4, n5, n6, n7, n8, n9, n10, n11, n12, n13, n14, n15, n16, n20, n24, n32, n50, n60, n64, n80, n81, n90, n100, n128, n256, n30, n36, n40, n99, n200, n512, pk_mul, nI_add, nI_1, nI_a0, gdi, nI_clamp, ltT, ltF, leT, leF, lt0F, le0T, eqT, eqF, eq0F, nI_sub, h10, and_true, true_and, and_false, false_and, and_self, not_true, not_false_eq_true, Option.bind_some, jn, ↓reduceIte]
        have w : ∀ (K : Int32 → (Nat → Int32) → Option (Int32 × Int32 × (Nat → Int32) × (Nat → Int32) × (Nat → Int32) × (Nat → Int32))), f0_addClaim_L75 (nI C) FU 0 (g 8) K = K (nI 4) (fun j => if C * 4 ≤ j ∧ j < C * 4 + 4 then -9 else g 8 j) := by
          intro K
          refine lup0 (fun fu i s => f0_addClaim_L75 (nI C) fu i s K) 4 (fun i j => if C * 4 ≤ j ∧ j < C * 4 + i then -9 else g 8 j) (fun fu i hi => ?_) (fun fu => ?_) (funext fun j => if_neg (by omega)) (FU_lt (by omega))
          · simp only [f0_addClaim_L75]
            simp (disch := omega) only [n2, n3, n4, n5, n6, n7, n8, n9, n10, n11, n12, n13, n14, n15, n16, n20, n24, n32, n50, n60, n64, n80, n81, n90, n100, n128, n256, n30, n36, n40, n99, n200, n512, pk_mul, nI_add, nI_1, nI_a0, gdi, nI_clamp, ltT, ltF, leT, leF, lt0F, le0T, eqT, eqF, eq0F, nI_sub, h10, and_true, true_and, and_false, false_and, and_self, not_true, not_false_eq_true, Option.bind_some, jn, ↓reduceIte]
            congr 1; funext j
            by_cases e : j = C * 4 + i
            · rw [updS e, if_pos (by omega)]
            · rw [upd_n e]; simp only [show (C * 4 ≤ j ∧ j < C * 4 + (i + 1)) ↔ (C * 4 ≤ j ∧ j < C * 4 + i) by omega]
          · simp only [f0_addClaim_L75]
            simp (disch := omega) only [n2, n3, n4, n5, n6, n7, n8, n9, n10, n11, n12, n13, n14, n15, n16, n20, n24, n32, n50, n60, n64, n80, n81, n90, n100, n128, n256, n30, n36, n40, n99, n200, n512, pk_mul, nI_add, nI_1, nI_a0, gdi, nI_clamp, ltT, ltF, leT, leF, lt0F, le0T, eqT, eqF, eq0F, nI_sub, h10, and_true, true_and, and_false, false_and, and_self, not_true, not_false_eq_true, Option.bind_some, jn, ↓reduceIte]
        rw [w]; rfl
      · unfold f9_claim; rw [fk5, fk99, fk3, fk9, fk99, Option.bind_some, Option.bind_some, Option.bind_some, Option.bind_some, Option.bind_some, gI, gI, gI, gI, gI, gM, gM, gM, gM, e31, if_pos h1]
        simp (disch := omega) only [n2, n3, n4, n5, n6, n7, n8, n9, n10, n11, n12, n13, n14, n15, n16, n20, n24, n32, n50, n60, n64, n80, n81, n90, n100, n128, n256, n30, n36, n40, n99, n200, n512, pk_mul, nI_add, nI_1, nI_a0, gdi, nI_clamp, ltT, ltF, leT, leF, lt0F, le0T, eqT, eqF, eq0F, nI_sub, h10, and_true, true_and, and_false, false_and, and_self, not_true, not_false_eq_true, Option.bind_some, jn, ↓reduceIte]
        have w : ∀ (m : Nat → Int32) (K : Int32 → (Nat → Int32) → Option (Int32 × Int32 × (Nat → Int32))), f9_claim_L126 (nI C) FU 0 m K = K (nI 4) (fun j => if 11 * C + 5 ≤ j ∧ j < 11 * C + 5 + 4 then -1 else m j) := by
          intro m K
          refine lup0 (fun fu i s => f9_claim_L126 (nI C) fu i s K) 4 (fun i j => if 11 * C + 5 ≤ j ∧ j < 11 * C + 5 + i then -1 else m j) (fun fu i hi => ?_) (fun fu => ?_) (funext fun j => if_neg (by omega)) (FU_lt (by omega))
          · simp only [f9_claim_L126]
            simp (disch := omega) only [n2, n3, n4, n5, n6, n7, n8, n9, n10, n11, n12, n13, n14, n15, n16, n20, n24, n32, n50, n60, n64, n80, n81, n90, n100, n128, n256, n30, n36, n40, n99, n200, n512, pk_mul, nI_add, nI_1, nI_a0, gdi, nI_clamp, ltT, ltF, leT, leF, lt0F, le0T, eqT, eqF, eq0F, nI_sub, h10, and_true, true_and, and_false, false_and, and_self, not_true, not_false_eq_true, Option.bind_some, jn, ↓reduceIte]
            congr 1; funext j
            by_cases e : j = 11 * C + 5 + i
            · rw [updS e, if_pos (by omega)]
            · rw [upd_n e]; simp only [show (11 * C + 5 ≤ j ∧ j < 11 * C + 5 + (i + 1)) ↔ (11 * C + 5 ≤ j ∧ j < 11 * C + 5 + i) by omega]
          · simp only [f9_claim_L126]
            simp (disch := omega) only [n2, n3, n4, n5, n6, n7, n8, n9, n10, n11, n12, n13, n14, n15, n16, n20, n24, n32, n50, n60, n64, n80, n81, n90, n100, n128, n256, n30, n36, n40, n99, n200, n512, pk_mul, nI_add, nI_1, nI_a0, gdi, nI_clamp, ltT, ltF, leT, leF, lt0F, le0T, eqT, eqF, eq0F, nI_sub, h10, and_true, true_and, and_false, false_and, and_self, not_true, not_false_eq_true, Option.bind_some, jn, ↓reduceIte]
        rw [w, nI_pred]
      · refine ⟨⟨P, C + 1, e0, e30, rfl, rfl, ez, B.1, by omega, B.2.2.1, B.2.2.2.1, B.2.2.2.2.1, B.2.2.2.2.2.1, B.2.2.2.2.2.2.1, B.2.2.2.2.2.2.2.1, fun c w hc hw => ?_, fun c hc => ?_, fun c k hc hk => ?_, fun c hc => ?_, fun c hc => ?_, fun c hc => ?_⟩, hM, hRR, hK, hT, hW, hH, hS, hP⟩
        · show (upd (upd (fun j => if 11 * C + 5 ≤ j ∧ j < 11 * C + 5 + 4 then -1 else upd (upd (upd (upd (upd (g 57) (11 * C) (nI v1)) (11 * C + 1) (nI v2)) (11 * C + 2) (nI v3)) (11 * C + 3) (nI v4)) (11 * C + 4) (nI v5) j) (11 * C + 9) 0) (11 * C + 10) 0) (11 * c + w) = upd (upd (upd (upd (upd (g 7) (C * 5) (nI v1)) (C * 5 + 1) (nI v2)) (C * 5 + 2) (nI v3)) (C * 5 + 3) (nI v4)) (C * 5 + 4) (nI v5) (c * 5 + w) ∧ ∃ v : Nat, v ≤ 99 ∧ upd (upd (upd (upd (upd (g 7) (C * 5) (nI v1)) (C * 5 + 1) (nI v2)) (C * 5 + 2) (nI v3)) (C * 5 + 3) (nI v4)) (C * 5 + 4) (nI v5) (c * 5 + w) = nI v
          rw [upd_n (by omega), upd_n (by omega), if_neg (by omega)]
          by_cases e : c = C
          · subst e
            have : w = 0 ∨ w = 1 ∨ w = 2 ∨ w = 3 ∨ w = 4 := by omega
            rcases this with rfl | rfl | rfl | rfl | rfl
            all_goals simp (disch := omega) only [updS, upd_n]
            · exact ⟨trivial, v1, by omega, rfl⟩
            · exact ⟨trivial, v2, by omega, rfl⟩
            · exact ⟨trivial, v3, by omega, rfl⟩
            · exact ⟨trivial, v4, by omega, rfl⟩
            · exact ⟨trivial, v5, by omega, rfl⟩
          · simp (disch := omega) only [upd_n]
            exact B.2.2.2.2.2.2.2.2.1 c w (by omega) hw
        · show (∃ v : Nat, v < 6 ∧ upd (upd (upd (upd (upd (g 7) (C * 5) (nI v1)) (C * 5 + 1) (nI v2)) (C * 5 + 2) (nI v3)) (C * 5 + 3) (nI v4)) (C * 5 + 4) (nI v5) (c * 5) = nI v) ∧ ∃ v : Nat, v < 4 ∧ upd (upd (upd (upd (upd (g 7) (C * 5) (nI v1)) (C * 5 + 1) (nI v2)) (C * 5 + 2) (nI v3)) (C * 5 + 3) (nI v4)) (C * 5 + 4) (nI v5) (c * 5 + 2) = nI v
          by_cases e : c = C
          · subst e
            simp (disch := omega) only [updS, upd_n]
            exact ⟨⟨v1, by omega, rfl⟩, v3, by omega, rfl⟩
          · simp (disch := omega) only [upd_n]
            exact B.2.2.2.2.2.2.2.2.2.1 c (by omega)
        · show ((if C * 4 ≤ c * 4 + k ∧ c * 4 + k < C * 4 + 4 then -9 else g 8 (c * 4 + k)) = -9 ∧ (upd (upd (fun j => if 11 * C + 5 ≤ j ∧ j < 11 * C + 5 + 4 then -1 else upd (upd (upd (upd (upd (g 57) (11 * C) (nI v1)) (11 * C + 1) (nI v2)) (11 * C + 2) (nI v3)) (11 * C + 3) (nI v4)) (11 * C + 4) (nI v5) j) (11 * C + 9) 0) (11 * C + 10) 0) (11 * c + (5 + k)) = -1) ∨ ∃ p : Nat, p < P ∧ (if C * 4 ≤ c * 4 + k ∧ c * 4 + k < C * 4 + 4 then -9 else g 8 (c * 4 + k)) = nI p ∧ (upd (upd (fun j => if 11 * C + 5 ≤ j ∧ j < 11 * C + 5 + 4 then -1 else upd (upd (upd (upd (upd (g 57) (11 * C) (nI v1)) (11 * C + 1) (nI v2)) (11 * C + 2) (nI v3)) (11 * C + 3) (nI v4)) (11 * C + 4) (nI v5) j) (11 * C + 9) 0) (11 * C + 10) 0) (11 * c + (5 + k)) = nI p
          rw [upd_n (by omega), upd_n (by omega)]
          by_cases e : c = C
          · subst e
            rw [if_pos (by omega), if_pos (by omega)]
            exact Or.inl ⟨rfl, rfl⟩
          · rw [if_neg (by omega), if_neg (by omega)]
            simp (disch := omega) only [upd_n]
            exact B.2.2.2.2.2.2.2.2.2.2.1 c k (by omega) hk
        · show (upd (g 9) C (-9) c = -9 ∧ (upd (upd (fun j => if 11 * C + 5 ≤ j ∧ j < 11 * C + 5 + 4 then -1 else upd (upd (upd (upd (upd (g 57) (11 * C) (nI v1)) (11 * C + 1) (nI v2)) (11 * C + 2) (nI v3)) (11 * C + 3) (nI v4)) (11 * C + 4) (nI v5) j) (11 * C + 9) 0) (11 * C + 10) 0) (11 * c + 9) = 0) ∨ (upd (g 9) C (-9) c = 0 ∧ (upd (upd (fun j => if 11 * C + 5 ≤ j ∧ j < 11 * C + 5 + 4 then -1 else upd (upd (upd (upd (upd (g 57) (11 * C) (nI v1)) (11 * C + 1) (nI v2)) (11 * C + 2) (nI v3)) (11 * C + 3) (nI v4)) (11 * C + 4) (nI v5) j) (11 * C + 9) 0) (11 * C + 10) 0) (11 * c + 9) = 1) ∨ (upd (g 9) C (-9) c = 1 ∧ (upd (upd (fun j => if 11 * C + 5 ≤ j ∧ j < 11 * C + 5 + 4 then -1 else upd (upd (upd (upd (upd (g 57) (11 * C) (nI v1)) (11 * C + 1) (nI v2)) (11 * C + 2) (nI v3)) (11 * C + 3) (nI v4)) (11 * C + 4) (nI v5) j) (11 * C + 9) 0) (11 * C + 10) 0) (11 * c + 9) = 2)
          by_cases e : c = C
          · subst e
            rw [updS (f := g 9) rfl, upd_n (by omega), updS rfl]
            exact Or.inl ⟨rfl, rfl⟩
          · rw [upd_n (f := g 9) e, upd_n (by omega), upd_n (by omega), if_neg (by omega)]
            simp (disch := omega) only [upd_n]
            exact B.2.2.2.2.2.2.2.2.2.2.2.1 c (by omega)
        · show (upd (upd (fun j => if 11 * C + 5 ≤ j ∧ j < 11 * C + 5 + 4 then -1 else upd (upd (upd (upd (upd (g 57) (11 * C) (nI v1)) (11 * C + 1) (nI v2)) (11 * C + 2) (nI v3)) (11 * C + 3) (nI v4)) (11 * C + 4) (nI v5) j) (11 * C + 9) 0) (11 * C + 10) 0) (11 * c + 10) = upd (g 10) C 0 c
          by_cases e : c = C
          · subst e
            rw [updS rfl, updS rfl]
          · rw [upd_n (by omega), upd_n (by omega), upd_n e, if_neg (by omega)]
            simp (disch := omega) only [upd_n]
            exact B.2.2.2.2.2.2.2.2.2.2.2.2.1 c (by omega)
        · show upd (g 10) C 0 c = 0 ∨ upd (g 10) C 0 c = 1
          by_cases e : c = C
          · rw [updS e]; exact Or.inl rfl
          · rw [upd_n e]; exact B.2.2.2.2.2.2.2.2.2.2.2.2.2 c (by omega)
    · have e9 : C = 9 := by omega
      subst e9
      refine ⟨-2, _, _, _, _, _, _, _, ?_, ?_, hR0⟩
      · rw [E8, if_pos h1, if_neg (by decide), ← e1]
      · unfold f9_claim; rw [fk5, fk99, fk3, fk9, fk99, Option.bind_some, Option.bind_some, Option.bind_some, Option.bind_some, Option.bind_some, gI, gI, gI, gI, gI, gM, gM, gM, gM, e31, if_pos h1, if_pos (show nI 9 = 9 from rfl), ← e31]
  · refine ⟨-1, _, _, _, _, _, _, _, ?_, ?_, hR0⟩
    · rw [E8, if_neg h1, ← e1]
    · unfold f9_claim; rw [fk5, fk99, fk3, fk9, fk99, Option.bind_some, Option.bind_some, Option.bind_some, Option.bind_some, Option.bind_some, gI, gI, gI, gI, gI, gM, gM, gM, gM, e31, if_neg h1, ← e31]
