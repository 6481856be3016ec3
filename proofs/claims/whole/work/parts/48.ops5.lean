/-! ===== claimOf, seat, set, found ===== -/
theorem op_claimOf : Op_claimOf Rl := by
  intro r g u h p1 p2 hR
  have hR0 := hR
  obtain ⟨⟨P, C, e0, e30, e1, e31, ez, B⟩, hM, hRR, hK, hT, hW, hH, hS, hP⟩ := hR
  have hC9 := B.2.1
  rw [e1, e31]
  by_cases h1 : inN p1 C
  · obtain ⟨c, hc, rfl⟩ := inN_of (by omega) h1
    have hc9 : c < 9 := by omega
    by_cases h2 : inN p2 14
    · obtain ⟨w, hw, rfl⟩ := inN_of (by omega) h2
      rcases Nat.lt_or_ge w 5 with h5 | h5
      · refine ⟨g 7 (c * 5 + w), ?_, ?_, hR0⟩
        · unfold f8_claimOf
          rw [f0_isClaim_s (by omega), Option.bind_some, gI, if_pos h1]
          simp (disch := omega) only [n2, n3, n4, n5, n6, n7, n8, n9, n10, n11, n12, n13, n14, n15, n16, n20, n24, n32, n50, n60, n64, n80, n81, n90, n100, n128, n256, n30, n36, n40, n99, n200, n512, pk_mul, nI_add, nI_1, nI_a0, gdi, nI_clamp, ltT, ltF, leT, leF, lt0F, le0T, eqT, eqF, eq0F, nI_sub, h10, and_true, true_and, and_false, false_and, and_self, not_true, not_false_eq_true, Option.bind_some, jn, ↓reduceIte]
          rw [f0_fact_s hC9 hc h5, Option.bind_some]
        · unfold f9_claimOf
          rw [f9_isClaim_s (by omega), Option.bind_some, gI, if_pos h1, fk4, bI_t (inN_nI h5 (by omega))]
          simp (disch := omega) only [n2, n3, n4, n5, n6, n7, n8, n9, n10, n11, n12, n13, n14, n15, n16, n20, n24, n32, n50, n60, n64, n80, n81, n90, n100, n128, n256, n30, n36, n40, n99, n200, n512, pk_mul, nI_add, nI_1, nI_a0, gdi, nI_clamp, ltT, ltF, leT, leF, lt0F, le0T, eqT, eqF, eq0F, nI_sub, h10, and_true, true_and, and_false, false_and, and_self, not_true, not_false_eq_true, Option.bind_some, jn, ↓reduceIte]
          rw [f9_its_s hc9 (by omega), Option.bind_some, (B.2.2.2.2.2.2.2.2.1 c w hc h5).1]
      · rcases Nat.lt_or_ge w 10 with h6 | h6
        · refine ⟨-1, ?_, ?_, hR0⟩
          · unfold f8_claimOf
            rw [f0_isClaim_s (by omega), Option.bind_some, gI, if_pos h1]
            simp (disch := omega) only [n2, n3, n4, n5, n6, n7, n8, n9, n10, n11, n12, n13, n14, n15, n16, n20, n24, n32, n50, n60, n64, n80, n81, n90, n100, n128, n256, n30, n36, n40, n99, n200, n512, pk_mul, nI_add, nI_1, nI_a0, gdi, nI_clamp, ltT, ltF, leT, leF, lt0F, le0T, eqT, eqF, eq0F, nI_sub, h10, and_true, true_and, and_false, false_and, and_self, not_true, not_false_eq_true, Option.bind_some, jn, ↓reduceIte]
          · unfold f9_claimOf
            rw [f9_isClaim_s (by omega), Option.bind_some, gI, if_pos h1, fk4, bI_f (fun q => absurd (inN_of (by omega) q) (fun ⟨k, hk, e⟩ => absurd (nI_inj (by omega) (by omega) e) (by omega))), f9_in_s]
            simp (disch := omega) only [n2, n3, n4, n5, n6, n7, n8, n9, n10, n11, n12, n13, n14, n15, n16, n20, n24, n32, n50, n60, n64, n80, n81, n90, n100, n128, n256, n30, n36, n40, n99, n200, n512, pk_mul, nI_add, nI_1, nI_a0, gdi, nI_clamp, ltT, ltF, leT, leF, lt0F, le0T, eqT, eqF, eq0F, nI_sub, h10, and_true, true_and, and_false, false_and, and_self, not_true, not_false_eq_true, Option.bind_some, jn, ↓reduceIte]
        · refine ⟨g 8 (c * 4 + (w - 10)), ?_, ?_, hR0⟩
          · unfold f8_claimOf
            rw [f0_isClaim_s (by omega), Option.bind_some, gI, if_pos h1]
            simp (disch := omega) only [n2, n3, n4, n5, n6, n7, n8, n9, n10, n11, n12, n13, n14, n15, n16, n20, n24, n32, n50, n60, n64, n80, n81, n90, n100, n128, n256, n30, n36, n40, n99, n200, n512, pk_mul, nI_add, nI_1, nI_a0, gdi, nI_clamp, ltT, ltF, leT, leF, lt0F, le0T, eqT, eqF, eq0F, nI_sub, h10, and_true, true_and, and_false, false_and, and_self, not_true, not_false_eq_true, Option.bind_some, jn, ↓reduceIte]
            rw [f0_sitter_s hC9 hc (by omega), Option.bind_some]
          · unfold f9_claimOf
            rw [f9_isClaim_s (by omega), Option.bind_some, gI, if_pos h1, fk4, bI_f (fun q => absurd (inN_of (by omega) q) (fun ⟨k, hk, e⟩ => absurd (nI_inj (by omega) (by omega) e) (by omega))), f9_in_s]
            simp (disch := omega) only [n2, n3, n4, n5, n6, n7, n8, n9, n10, n11, n12, n13, n14, n15, n16, n20, n24, n32, n50, n60, n64, n80, n81, n90, n100, n128, n256, n30, n36, n40, n99, n200, n512, pk_mul, nI_add, nI_1, nI_a0, gdi, nI_clamp, ltT, ltF, leT, leF, lt0F, le0T, eqT, eqF, eq0F, nI_sub, h10, and_true, true_and, and_false, false_and, and_self, not_true, not_false_eq_true, Option.bind_some, jn, ↓reduceIte]
            rw [show 5 + w - 10 = 5 + (w - 10) by omega, f9_its_s hc9 (by omega), Option.bind_some]
            rcases B.2.2.2.2.2.2.2.2.2.2.1 c (w - 10) hc (by omega) with ⟨a, b⟩ | ⟨p, hp, a, b⟩
            · rw [a, b]; rfl
            · have := B.1
              rw [a, b, f9_orNobody_n (by omega), Option.bind_some]
    · refine ⟨-1, ?_, ?_, hR0⟩
      · unfold f8_claimOf
        rw [f0_isClaim_s (by omega), Option.bind_some, gI, if_pos h1]
        have a1 : (if p2 < 10 then some (-1 : Int32) else if p2 < 14 then Option.bind (f0_sitter (nI C) (g 8) (nI c) (p2 - 10)) fun v3 => some v3 else some (-1)) = some (-1) := by
          rcases nI_cases p2 with hv | ⟨k, hk, rfl⟩
          · have : p2 < nI 10 := by rw [ltN (by omega)]; rw [lt0] at hv; omega
            rw [if_pos (show p2 < 10 from this)]
          · have : 14 ≤ k := Nat.le_of_not_lt (fun q => h2 (inN_nI q (by omega)))
            rw [if_neg (nnl n10 (by omega) hk), if_neg (nnl (show (14 : Int32) = nI 14 from rfl) this hk)]
        simp only [jn]
        rw [a1]
        by_cases h0 : p2 < 0
        · rw [if_pos h0]
        · rw [if_neg h0, if_pos]
          rcases nI_cases p2 with hv | ⟨k, hk, rfl⟩
          · exact absurd hv h0
          · have : 14 ≤ k := Nat.le_of_not_lt (fun q => h2 (inN_nI q (by omega)))
            exact nle n5 (by omega) hk
      · unfold f9_claimOf
        simp only [jn]
        rw [f9_isClaim_s (by omega), Option.bind_some, gI, if_pos h1, fk4, bI_f (fun q => h2 ⟨q.1, by have := q.2; omega⟩), f9_in_s, Option.bind_some, Option.bind_some]
        have a2 : ¬ ((10 : Int32) ≤ p2 ∧ p2 ≤ 13) := by
          intro q
          have q1 := (leN (n := 10) (by omega) p2).mp q.1
          have q2 := (leN' (n := 13) (by omega) p2).mp q.2
          exact h2 ⟨by omega, by omega⟩
        rw [if_neg a2, if_pos rfl, if_pos rfl]
  · refine ⟨-1, ?_, ?_, hR0⟩
    · unfold f8_claimOf
      rw [f0_isClaim_s (by omega), Option.bind_some, gI, if_neg h1]
    · unfold f9_claimOf
      rw [f9_isClaim_s (by omega), Option.bind_some, gI, if_neg h1]
theorem bm4_m : ∀ a b c d : Bool, (bm4 a b c d &&& ((1 <<< (nI 0 &&& 31)) ^^^ (-1)) = 0 ↔ (b || c || d) = false) ∧ (bm4 a b c d &&& ((1 <<< (nI 1 &&& 31)) ^^^ (-1)) = 0 ↔ (a || c || d) = false) ∧ (bm4 a b c d &&& ((1 <<< (nI 2 &&& 31)) ^^^ (-1)) = 0 ↔ (a || b || d) = false) ∧ (bm4 a b c d &&& ((1 <<< (nI 3 &&& 31)) ^^^ (-1)) = 0 ↔ (a || b || c) = false) := by decide
theorem bmB_m (p : Nat → Prop) [DecidablePred p] {k : Nat} (hk : k < 4) : bmB p 4 &&& ((1 <<< (nI k &&& 31)) ^^^ (-1)) = 0 ↔ exN (fun j => ¬ nI j = nI k ∧ p j) 4 = false := by
  rw [bmB_4, exN_4]
  have w := bm4_m (decide (p 0)) (decide (p 1)) (decide (p 2)) (decide (p 3))
  rcases four k hk with rfl | rfl | rfl | rfl
  · rw [w.1]; simp (disch := omega) only [n2, n3, n4, n5, n6, n7, n8, n9, n10, n11, n12, n13, n14, n15, n16, n20, n24, n32, n50, n60, n64, n80, n81, n90, n100, n128, n256, n30, n36, n40, n99, n200, n512, pk_mul, nI_add, nI_1, nI_a0, gdi, nI_clamp, ltT, ltF, leT, leF, lt0F, le0T, eqT, eqF, eq0F, nI_sub, h10, and_true, true_and, and_false, false_and, and_self, not_true, not_false_eq_true, Option.bind_some, jn, ↓reduceIte]; simp
  · rw [w.2.1]; simp (disch := omega) only [n2, n3, n4, n5, n6, n7, n8, n9, n10, n11, n12, n13, n14, n15, n16, n20, n24, n32, n50, n60, n64, n80, n81, n90, n100, n128, n256, n30, n36, n40, n99, n200, n512, pk_mul, nI_add, nI_1, nI_a0, gdi, nI_clamp, ltT, ltF, leT, leF, lt0F, le0T, eqT, eqF, eq0F, nI_sub, h10, and_true, true_and, and_false, false_and, and_self, not_true, not_false_eq_true, Option.bind_some, jn, ↓reduceIte]; simp
  · rw [w.2.2.1]; simp (disch := omega) only [n2, n3, n4, n5, n6, n7, n8, n9, n10, n11, n12, n13, n14, n15, n16, n20, n24, n32, n50, n60, n64, n80, n81, n90, n100, n128, n256, n30, n36, n40, n99, n200, n512, pk_mul, nI_add, nI_1, nI_a0, gdi, nI_clamp, ltT, ltF, leT, leF, lt0F, le0T, eqT, eqF, eq0F, nI_sub, h10, and_true, true_and, and_false, false_and, and_self, not_true, not_false_eq_true, Option.bind_some, jn, ↓reduceIte]; simp
  · rw [w.2.2.2]; simp (disch := omega) only [n2, n3, n4, n5, n6, n7, n8, n9, n10, n11, n12, n13, n14, n15, n16, n20, n24, n32, n50, n60, n64, n80, n81, n90, n100, n128, n256, n30, n36, n40, n99, n200, n512, pk_mul, nI_add, nI_1, nI_a0, gdi, nI_clamp, ltT, ltF, leT, leF, lt0F, le0T, eqT, eqF, eq0F, nI_sub, h10, and_true, true_and, and_false, false_and, and_self, not_true, not_false_eq_true, Option.bind_some, jn, ↓reduceIte]; simp
theorem op_seat : Op_seat Rl := by
  intro r g u h p1 p2 p3 hR
  have hR0 := hR
  obtain ⟨⟨P, C, e0, e30, e1, e31, ez, B⟩, hM, hRR, hK, hT, hW, hH, hS, hP⟩ := hR
  have hP10 := B.1
  have hC9 := B.2.1
  rw [e0, e30, e1, e31]
  by_cases h1 : inN p1 C ∧ inN p2 4
  · obtain ⟨c, hc, rfl⟩ := inN_of (by omega) h1.1
    obtain ⟨k, hk, rfl⟩ := inN_of (by omega) h1.2
    have hc9 : c < 9 := by omega
    have S8 := f0_sitter_s (sea := g 8) hC9 hc hk
    have S9 : (Option.bind (f9_its (g 57) (nI c) (nI (5 + k))) fun v5 => f9_orNobody v5) = some (g 8 (c * 4 + k)) := by
      rw [f9_its_s hc9 (by omega), Option.bind_some]
      rcases B.2.2.2.2.2.2.2.2.2.2.1 c k hc hk with ⟨a, b⟩ | ⟨p, hp, a, b⟩
      · rw [a, b]; rfl
      · rw [a, b, f9_orNobody_n (by omega)]
    have T9 : ∀ q : Int32, (Option.bind (f9_its (g 57) (nI c) (nI (5 + k))) fun v5 => Option.bind (f9_orNobody v5) fun v7 => some (v7, upd (g 57) (11 * c + 5 + k) q)) = some (g 8 (c * 4 + k), upd (g 57) (11 * c + 5 + k) q) := by
      intro q
      cases hx : f9_its (g 57) (nI c) (nI (5 + k)) with
      | none => rw [hx] at S9; cases S9
      | some v => rw [hx, Option.bind_some] at S9; rw [Option.bind_some, S9, Option.bind_some]
    -- the new state
    have RR2 : ∀ s q : Int32, (s = -9 ∧ q = -1) ∨ (∃ p : Nat, p < P ∧ s = nI p ∧ q = nI p) → Rl r (lkp (lkp g [(8, upd (g 8) (c * 4 + k) s)]) [(57, upd (g 57) (11 * c + 5 + k) q)]) u h := by
      intro s q hsq
      refine ⟨⟨P, C, e0, e30, e1, e31, ez, B.1, B.2.1, B.2.2.1, B.2.2.2.1, B.2.2.2.2.1, B.2.2.2.2.2.1, B.2.2.2.2.2.2.1, B.2.2.2.2.2.2.2.1, fun c' w hc' hw => ?_, B.2.2.2.2.2.2.2.2.2.1, fun c' k' hc' hk' => ?_, fun c' hc' => ?_, fun c' hc' => ?_, B.2.2.2.2.2.2.2.2.2.2.2.2.2⟩, hM, hRR, hK, hT, hW, hH, hS, hP⟩
      · show upd (g 57) (11 * c + 5 + k) q (11 * c' + w) = g 7 (c' * 5 + w) ∧ _
        rw [upd_n (by omega)]; exact B.2.2.2.2.2.2.2.2.1 c' w hc' hw
      · show (upd (g 8) (c * 4 + k) s (c' * 4 + k') = -9 ∧ upd (g 57) (11 * c + 5 + k) q (11 * c' + (5 + k')) = -1) ∨ ∃ p : Nat, p < P ∧ upd (g 8) (c * 4 + k) s (c' * 4 + k') = nI p ∧ upd (g 57) (11 * c + 5 + k) q (11 * c' + (5 + k')) = nI p
        by_cases e : c' = c ∧ k' = k
        · obtain ⟨rfl, rfl⟩ := e
          rw [updS rfl, updS (by omega)]; exact hsq
        · rw [upd_n (by omega), upd_n (by omega)]; exact B.2.2.2.2.2.2.2.2.2.2.1 c' k' hc' hk'
      · show (g 9 c' = -9 ∧ upd (g 57) (11 * c + 5 + k) q (11 * c' + 9) = 0) ∨ (g 9 c' = 0 ∧ upd (g 57) (11 * c + 5 + k) q (11 * c' + 9) = 1) ∨ (g 9 c' = 1 ∧ upd (g 57) (11 * c + 5 + k) q (11 * c' + 9) = 2)
        rw [upd_n (by omega)]; exact B.2.2.2.2.2.2.2.2.2.2.2.1 c' hc'
      · show upd (g 57) (11 * c + 5 + k) q (11 * c' + 10) = g 10 c'
        rw [upd_n (by omega)]; exact B.2.2.2.2.2.2.2.2.2.2.2.2.1 c' hc'
    by_cases h3 : p3 = -1
    · subst h3
      refine ⟨g 8 (c * 4 + k), upd (g 8) (c * 4 + k) (-9), upd (g 57) (11 * c + 5 + k) (-1), ?_, ?_, RR2 _ _ (Or.inl ⟨rfl, rfl⟩)⟩
      · unfold f8_seat
        rw [f0_isClaim_s (by omega), Option.bind_some, gI, if_pos h1.1]
        simp (disch := omega) only [n2, n3, n4, n5, n6, n7, n8, n9, n10, n11, n12, n13, n14, n15, n16, n20, n24, n32, n50, n60, n64, n80, n81, n90, n100, n128, n256, n30, n36, n40, n99, n200, n512, pk_mul, nI_add, nI_1, nI_a0, gdi, nI_clamp, ltT, ltF, leT, leF, lt0F, le0T, eqT, eqF, eq0F, nI_sub, h10, and_true, true_and, and_false, false_and, and_self, not_true, not_false_eq_true, Option.bind_some, jn, ↓reduceIte]
        rw [S8]
        simp (disch := omega) only [n2, n3, n4, n5, n6, n7, n8, n9, n10, n11, n12, n13, n14, n15, n16, n20, n24, n32, n50, n60, n64, n80, n81, n90, n100, n128, n256, n30, n36, n40, n99, n200, n512, pk_mul, nI_add, nI_1, nI_a0, gdi, nI_clamp, ltT, ltF, leT, leF, lt0F, le0T, eqT, eqF, eq0F, nI_sub, h10, and_true, true_and, and_false, false_and, and_self, not_true, not_false_eq_true, Option.bind_some, jn, ↓reduceIte]
      · unfold f9_seat
        rw [f9_isClaim_s (by omega), fk3, Option.bind_some, Option.bind_some, gI, gI, if_pos h1.1, if_pos h1.2]
        simp (disch := omega) only [n2, n3, n4, n5, n6, n7, n8, n9, n10, n11, n12, n13, n14, n15, n16, n20, n24, n32, n50, n60, n64, n80, n81, n90, n100, n128, n256, n30, n36, n40, n99, n200, n512, pk_mul, nI_add, nI_1, nI_a0, gdi, nI_clamp, ltT, ltF, leT, leF, lt0F, le0T, eqT, eqF, eq0F, nI_sub, h10, and_true, true_and, and_false, false_and, and_self, not_true, not_false_eq_true, Option.bind_some, jn, ↓reduceIte]
        rw [T9, if_pos (by decide)]
    · by_cases h4 : inN p3 P
      · obtain ⟨p, hp, rfl⟩ := inN_of (by omega) h4
        obtain ⟨mp, a, ha, ea⟩ := B.2.2.2.2.2.2.2.1 p hp
        have F8 : f8_seat (nI C) (nI P) (g 6) (g 8) (nI c) (nI k) (nI p) = bif elsD P (g 6) (g 8) c (nI k) (nI a) then some (-4, g 8) else some (g 8 (c * 4 + k), upd (g 8) (c * 4 + k) (nI p)) := by
          unfold f8_seat
          simp only [jn]
          rw [f0_isClaim_s (by omega), Option.bind_some, gI, if_pos h1.1, f0_isPerson_s (by omega), Option.bind_some, gI, if_pos h4, S8]
          simp (disch := omega) only [n2, n3, n4, n5, n6, n7, n8, n9, n10, n11, n12, n13, n14, n15, n16, n20, n24, n32, n50, n60, n64, n80, n81, n90, n100, n128, n256, n30, n36, n40, n99, n200, n512, pk_mul, nI_add, nI_1, nI_a0, gdi, nI_clamp, ltT, ltF, leT, leF, lt0F, le0T, eqT, eqF, eq0F, nI_sub, h10, and_true, true_and, and_false, false_and, and_self, not_true, not_false_eq_true, Option.bind_some, jn, ↓reduceIte, if_neg h3, ea]
          rw [f0_isElsewhere_s hC9 hP10 hc, Option.bind_some, b01_0]
        have F9 : f9_seat (nI C) (nI P) (g 57) (g 56) (nI c) (nI k) (nI p) = bif elsD P (g 6) (g 8) c (nI k) (nI a) then some (-4, g 57) else some (g 8 (c * 4 + k), upd (g 57) (11 * c + 5 + k) (nI p)) := by
          unfold f9_seat
          simp only [jn]
          rw [f9_isClaim_s (by omega), fk3, Option.bind_some, Option.bind_some, gI, gI, if_pos h1.1, if_pos h1.2, f9_isPerson_s (by omega), Option.bind_some, gI, if_pos h4]
          simp (disch := omega) only [n2, n3, n4, n5, n6, n7, n8, n9, n10, n11, n12, n13, n14, n15, n16, n20, n24, n32, n50, n60, n64, n80, n81, n90, n100, n128, n256, n30, n36, n40, n99, n200, n512, pk_mul, nI_add, nI_1, nI_a0, gdi, nI_clamp, ltT, ltF, leT, leF, lt0F, le0T, eqT, eqF, eq0F, nI_sub, h10, and_true, true_and, and_false, false_and, and_self, not_true, not_false_eq_true, Option.bind_some, jn, ↓reduceIte, if_neg h3, mp, ea]
          rw [T9, f9_placesOf_s B hc (by omega), Option.bind_some]
          have w := bmB_m (fun j => oneV P (g 6) (g 8) c j = nI a) hk
          unfold elsD
          cases hx : exN (fun j => ¬ nI j = nI k ∧ oneV P (g 6) (g 8) c j = nI a) 4 with
          | true => rw [if_neg (fun q => absurd (w.mp q) (by rw [hx]; decide))]; rfl
          | false => rw [if_pos (w.mpr hx)]; rfl
        cases hx : elsD P (g 6) (g 8) c (nI k) (nI a) with
        | true =>
          rw [hx] at F8 F9
          exact ⟨-4, _, _, F8, F9, hR0⟩
        | false =>
          rw [hx] at F8 F9
          exact ⟨_, _, _, F8, F9, RR2 _ _ (Or.inr ⟨p, hp, rfl, rfl⟩)⟩
      · refine ⟨-1, _, _, ?_, ?_, hR0⟩
        · unfold f8_seat
          simp only [jn]
          rw [f0_isClaim_s (by omega), Option.bind_some, gI, if_pos h1.1, f0_isPerson_s (by omega), Option.bind_some, gI, if_neg h4]
          simp (disch := omega) only [n2, n3, n4, n5, n6, n7, n8, n9, n10, n11, n12, n13, n14, n15, n16, n20, n24, n32, n50, n60, n64, n80, n81, n90, n100, n128, n256, n30, n36, n40, n99, n200, n512, pk_mul, nI_add, nI_1, nI_a0, gdi, nI_clamp, ltT, ltF, leT, leF, lt0F, le0T, eqT, eqF, eq0F, nI_sub, h10, and_true, true_and, and_false, false_and, and_self, not_true, not_false_eq_true, Option.bind_some, jn, ↓reduceIte, if_neg h3]
        · unfold f9_seat
          simp only [jn]
          rw [f9_isClaim_s (by omega), fk3, Option.bind_some, Option.bind_some, gI, gI, if_pos h1.1, if_pos h1.2, f9_isPerson_s (by omega), Option.bind_some, gI, if_neg h4]
          rw [if_neg h3]
  · refine ⟨-1, _, _, ?_, ?_, hR0⟩
    · unfold f8_seat
      rw [f0_isClaim_s (by omega), Option.bind_some, gI, show (4 : Int32) = nI 4 from rfl, gE (by omega), gM, if_neg h1]
    · unfold f9_seat
      rw [f9_isClaim_s (by omega), fk3, Option.bind_some, Option.bind_some, gI, gI, gM, if_neg h1]
theorem lawMost_v {j : Nat} (h : j < 7) : ∃ v : Nat, v ≤ 30 ∧ lawMost j = nI v := by
  have : j = 0 ∨ j = 1 ∨ j = 2 ∨ j = 3 ∨ j = 4 ∨ j = 5 ∨ j = 6 := by omega
  rcases this with rfl | rfl | rfl | rfl | rfl | rfl | rfl
  · exact ⟨9, by omega, rfl⟩
  · exact ⟨9, by omega, rfl⟩
  · exact ⟨9, by omega, rfl⟩
  · exact ⟨9, by omega, rfl⟩
  · exact ⟨20, by omega, rfl⟩
  · exact ⟨30, by omega, rfl⟩
  · exact ⟨20, by omega, rfl⟩
theorem op_set : Op_set Rl := by
  intro r g u h p1 p2 hR
  have hR0 := hR
  obtain ⟨⟨P, C, e0, e30, e1, e31, ez, B⟩, hM, hRR, hK, hT, hW, hH, hS, hP⟩ := hR
  by_cases h1 : inN p1 7
  · obtain ⟨j, hj, rfl⟩ := inN_of (by omega) h1
    obtain ⟨m, hm, em⟩ := lawMost_v hj
    have F8 : f8_set (g 3) (nI j) p2 = if inN p2 (m + 1) then some (g 3 j, upd (g 3) j p2) else some (-1, g 3) := by
      unfold f8_set
      rw [show (7 : Int32) = nI 7 from rfl, gA (by omega), if_pos h1]
      simp (disch := omega) only [n2, n3, n4, n5, n6, n7, n8, n9, n10, n11, n12, n13, n14, n15, n16, n20, n24, n32, n50, n60, n64, n80, n81, n90, n100, n128, n256, n30, n36, n40, n99, n200, n512, pk_mul, nI_add, nI_1, nI_a0, gdi, nI_clamp, ltT, ltF, leT, leF, lt0F, le0T, eqT, eqF, eq0F, nI_sub, h10, and_true, true_and, and_false, false_and, and_self, not_true, not_false_eq_true, Option.bind_some, jn, ↓reduceIte, em]
      rw [gC (by omega)]
    have F9 : f9_set (g 58) (g 59) (nI j) p2 = if inN p2 (m + 1) then some (g 58 j, upd (g 58) j p2) else some (-1, g 58) := by
      unfold f9_set
      simp only [jn]
      rw [fk6, Option.bind_some, gI, if_pos h1, Option.bind_some, gI, if_pos h1]
      simp (disch := omega) only [n2, n3, n4, n5, n6, n7, n8, n9, n10, n11, n12, n13, n14, n15, n16, n20, n24, n32, n50, n60, n64, n80, n81, n90, n100, n128, n256, n30, n36, n40, n99, n200, n512, pk_mul, nI_add, nI_1, nI_a0, gdi, nI_clamp, ltT, ltF, leT, leF, lt0F, le0T, eqT, eqF, eq0F, nI_sub, h10, and_true, true_and, and_false, false_and, and_self, not_true, not_false_eq_true, Option.bind_some, jn, ↓reduceIte, hM j hj, em]
      rw [f9_in_k (by omega), Option.bind_some, gI]
    by_cases h2 : inN p2 (m + 1)
    · rw [if_pos h2] at F8 F9
      obtain ⟨k, hk, rfl⟩ := inN_of (by omega) h2
      rw [(B.2.2.2.1 j hj).1] at F9
      refine ⟨_, _, _, F8, F9, ⟨P, C, e0, e30, e1, e31, ez, B.1, B.2.1, B.2.2.1, fun i hi => ?_, B.2.2.2.2⟩, hM, hRR, hK, hT, hW, hH, hS, hP⟩
      · show upd (g 58) j (nI k) i = upd (g 3) j (nI k) i ∧ ∃ v : Nat, v ≤ 30 ∧ upd (g 3) j (nI k) i = nI v
        by_cases e : i = j
        · rw [updS e, updS e]; exact ⟨rfl, k, by omega, rfl⟩
        · rw [upd_n e, upd_n e]; exact B.2.2.2.1 i hi
    · rw [if_neg h2] at F8 F9
      exact ⟨-1, _, _, F8, F9, hR0⟩
  · refine ⟨-1, _, _, ?_, ?_, hR0⟩
    · unfold f8_set
      rw [show (7 : Int32) = nI 7 from rfl, gA (by omega), if_neg h1]
    · unfold f9_set
      simp only [jn]
      rw [fk6, Option.bind_some, gI, if_neg h1]
theorem f9_in_m11 (x : Int32) : f9_in x (-1) 1 = some (b2 (x = -1 ∨ x = 0 ∨ x = 1)) := by
  rw [f9_in_s]
  have e : ((-1 : Int32) ≤ x ∧ x ≤ 1) ↔ (x = -1 ∨ x = 0 ∨ x = 1) := by
    rw [Int32.le_iff_toInt_le, Int32.le_iff_toInt_le, ← Int32.toInt_inj, ← Int32.toInt_inj, ← Int32.toInt_inj, show (-1 : Int32).toInt = -1 by decide, show (1 : Int32).toInt = 1 by decide, z0]; omega
  unfold b2
  by_cases h : x = -1 ∨ x = 0 ∨ x = 1
  · rw [if_pos h, if_pos (e.mpr h)]
  · rw [if_neg h, if_neg (fun q => h (e.mp q))]
theorem m11 {R : Type} (x : Int32) (A D : R) : (if x < -1 then A else if x ≤ 1 then D else A) = if x = -1 ∨ x = 0 ∨ x = 1 then D else A := by
  have e : (¬ x < (-1 : Int32) ∧ x ≤ 1) ↔ (x = -1 ∨ x = 0 ∨ x = 1) := by
    rw [Int32.lt_iff_toInt_lt, Int32.le_iff_toInt_le, ← Int32.toInt_inj, ← Int32.toInt_inj, ← Int32.toInt_inj, show (-1 : Int32).toInt = -1 by decide, show (1 : Int32).toInt = 1 by decide, z0]; omega
  by_cases h : x = -1 ∨ x = 0 ∨ x = 1
  · rw [if_pos h, if_neg (e.mpr h).1, if_pos (e.mpr h).2]
  · rw [if_neg h]
    by_cases a : x < -1
    · rw [if_pos a]
    · rw [if_neg a, if_neg (fun q => h (e.mp ⟨a, q⟩))]
theorem op_found : Op_found Rl := by
  intro r g u h p1 p2 p3 hR h3
  have hR0 := hR
  obtain ⟨⟨P, C, e0, e30, e1, e31, ez, B⟩, hM, hRR, hK, hT, hW, hH, hS, hP⟩ := hR
  have hC9 := B.2.1
  rw [e1, e31]
  by_cases h1 : inN p1 C
  · obtain ⟨c, hc, rfl⟩ := inN_of (by omega) h1
    by_cases h2 : p2 = -1 ∨ p2 = 0 ∨ p2 = 1
    · have ev : vp_nar .boolean p3 = p3 := by rcases h3 with rfl | rfl <;> rfl
      have F8 : f8_found (nI C) (g 10) (g 9) (nI c) p2 p3 = some (g 9 c, upd (g 10) c p3, upd (g 9) c (if p2 = -1 then -9 else p2)) := by
        unfold f8_found
        rw [f0_isClaim_s (by omega), Option.bind_some, gI, if_pos h1, m11, if_pos h2]
        simp (disch := omega) only [n2, n3, n4, n5, n6, n7, n8, n9, n10, n11, n12, n13, n14, n15, n16, n20, n24, n32, n50, n60, n64, n80, n81, n90, n100, n128, n256, n30, n36, n40, n99, n200, n512, pk_mul, nI_add, nI_1, nI_a0, gdi, nI_clamp, ltT, ltF, leT, leF, lt0F, le0T, eqT, eqF, eq0F, nI_sub, h10, and_true, true_and, and_false, false_and, and_self, not_true, not_false_eq_true, Option.bind_some, jn, ↓reduceIte, ev]
        split <;> rfl
      have F9 : f9_found (nI C) (g 57) (nI c) p2 p3 = some (g 9 c, upd (upd (g 57) (11 * c + 9) (p2 + 1)) (11 * c + 10) p3) := by
        unfold f9_found
        simp only [jn]
        rw [f9_isClaim_s (by omega), Option.bind_some, gI, if_pos h1, f9_in_m11, b2_t h2]
        simp (disch := omega) only [n2, n3, n4, n5, n6, n7, n8, n9, n10, n11, n12, n13, n14, n15, n16, n20, n24, n32, n50, n60, n64, n80, n81, n90, n100, n128, n256, n30, n36, n40, n99, n200, n512, pk_mul, nI_add, nI_1, nI_a0, gdi, nI_clamp, ltT, ltF, leT, leF, lt0F, le0T, eqT, eqF, eq0F, nI_sub, h10, and_true, true_and, and_false, false_and, and_self, not_true, not_false_eq_true, Option.bind_some, jn, ↓reduceIte]
        have w : f9_its (g 57) (nI c) (nI 9) = some (g 57 (11 * c + 9)) := f9_its_s (by omega) (by omega)
        rw [w, Option.bind_some]
        have e3 : ∀ X : Int32 → Option (Int32 × (Nat → Int32)), (if p3 = 0 then X 0 else X 1) = X p3 := by
          intro X; rcases h3 with rfl | rfl <;> rfl
        rw [e3 (fun s6 => if g 57 (11 * c + 9) = 0 then some (-nI 9, upd (upd (g 57) (11 * c + 9) (p2 + 1)) (11 * c + 10) s6) else some (g 57 (11 * c + 9) - 1, upd (upd (g 57) (11 * c + 9) (p2 + 1)) (11 * c + 10) s6))]
        rcases B.2.2.2.2.2.2.2.2.2.2.2.1 c hc with ⟨a, b⟩ | ⟨a, b⟩ | ⟨a, b⟩
        · rw [a, b, if_pos rfl]; rfl
        · rw [a, b, if_neg (by decide)]; rfl
        · rw [a, b, if_neg (by decide)]; rfl
      refine ⟨_, _, _, _, F8, F9, ⟨P, C, e0, e30, e1, e31, ez, B.1, B.2.1, B.2.2.1, B.2.2.2.1, B.2.2.2.2.1, B.2.2.2.2.2.1, B.2.2.2.2.2.2.1, B.2.2.2.2.2.2.2.1, fun c' w hc' hw => ?_, B.2.2.2.2.2.2.2.2.2.1, fun c' k hc' hk => ?_, fun c' hc' => ?_, fun c' hc' => ?_, fun c' hc' => ?_⟩, hM, hRR, hK, hT, hW, hH, hS, hP⟩
      · show upd (upd (g 57) (11 * c + 9) (p2 + 1)) (11 * c + 10) p3 (11 * c' + w) = g 7 (c' * 5 + w) ∧ _
        rw [upd_n (by omega), upd_n (by omega)]; exact B.2.2.2.2.2.2.2.2.1 c' w hc' hw
      · show (g 8 (c' * 4 + k) = -9 ∧ upd (upd (g 57) (11 * c + 9) (p2 + 1)) (11 * c + 10) p3 (11 * c' + (5 + k)) = -1) ∨ ∃ p : Nat, p < P ∧ g 8 (c' * 4 + k) = nI p ∧ upd (upd (g 57) (11 * c + 9) (p2 + 1)) (11 * c + 10) p3 (11 * c' + (5 + k)) = nI p
        rw [upd_n (by omega), upd_n (by omega)]; exact B.2.2.2.2.2.2.2.2.2.2.1 c' k hc' hk
      · show (upd (g 9) c (if p2 = -1 then -9 else p2) c' = -9 ∧ upd (upd (g 57) (11 * c + 9) (p2 + 1)) (11 * c + 10) p3 (11 * c' + 9) = 0) ∨ (upd (g 9) c (if p2 = -1 then -9 else p2) c' = 0 ∧ upd (upd (g 57) (11 * c + 9) (p2 + 1)) (11 * c + 10) p3 (11 * c' + 9) = 1) ∨ (upd (g 9) c (if p2 = -1 then -9 else p2) c' = 1 ∧ upd (upd (g 57) (11 * c + 9) (p2 + 1)) (11 * c + 10) p3 (11 * c' + 9) = 2)
        by_cases e : c' = c
        · subst e
          rw [updS (f := g 9) rfl, upd_n (by omega), updS rfl]
          rcases h2 with rfl | rfl | rfl
          · exact Or.inl ⟨rfl, rfl⟩
          · exact Or.inr (Or.inl ⟨rfl, rfl⟩)
          · exact Or.inr (Or.inr ⟨rfl, rfl⟩)
        · rw [upd_n (f := g 9) e, upd_n (by omega), upd_n (by omega)]
          exact B.2.2.2.2.2.2.2.2.2.2.2.1 c' hc'
      · show upd (upd (g 57) (11 * c + 9) (p2 + 1)) (11 * c + 10) p3 (11 * c' + 10) = upd (g 10) c p3 c'
        by_cases e : c' = c
        · rw [updS (by omega), updS e]
        · rw [upd_n (by omega), upd_n (by omega), upd_n e]
          exact B.2.2.2.2.2.2.2.2.2.2.2.2.1 c' hc'
      · show upd (g 10) c p3 c' = 0 ∨ upd (g 10) c p3 c' = 1
        by_cases e : c' = c
        · rw [updS e]; exact h3
        · rw [upd_n e]; exact B.2.2.2.2.2.2.2.2.2.2.2.2.2 c' hc'
    · refine ⟨-1, _, _, _, ?_, ?_, hR0⟩
      · unfold f8_found
        rw [f0_isClaim_s (by omega), Option.bind_some, gI, if_pos h1, m11, if_neg h2]
      · unfold f9_found
        rw [f9_isClaim_s (by omega), Option.bind_some, gI, if_pos h1, f9_in_m11, b2_f h2, Option.bind_some, if_pos rfl]
  · refine ⟨-1, _, _, _, ?_, ?_, hR0⟩
    · unfold f8_found
      rw [f0_isClaim_s (by omega), Option.bind_some, gI, if_neg h1]
    · unfold f9_found
      rw [f9_isClaim_s (by omega), Option.bind_some, gI, if_neg h1]
