/-! ===== gates and a rewriting set ===== -/
theorem gdi {R : Type} {k n : Nat} {x : Option R} (h : k < n) (hn : n < 2 ^ 31) : gd (ix (nI k) n) x = x := by rw [ixn h hn, gd_t]
theorem ltT {a b : Nat} (h : a < b) (hb : b < 2 ^ 31) : (nI a < nI b) = True := eq_true (nI_lt h hb)
theorem ltF {a b : Nat} (h : b ≤ a) (hb : a < 2 ^ 31) : (nI a < nI b) = False := eq_false (nI_nlt h hb)
theorem leT {a b : Nat} (h : a ≤ b) (hb : b < 2 ^ 31) : (nI a ≤ nI b) = True := eq_true (nI_le h hb)
theorem leF {a b : Nat} (h : b < a) (hb : a < 2 ^ 31) : (nI a ≤ nI b) = False := eq_false (nI_ge h hb)
theorem lt0F {a : Nat} (h : a < 2 ^ 31) : (nI a < 0) = False := eq_false (nI_pos h)
theorem le0T {a : Nat} (h : a < 2 ^ 31) : (0 ≤ nI a) = True := eq_true (nI_pos' h)
theorem eqT {a b : Nat} (h : a = b) : (nI a = nI b) = True := eq_true (by rw [h])
theorem eqF {a b : Nat} (h : a ≠ b) (ha : a < 2 ^ 31) (hb : b < 2 ^ 31) : (nI a = nI b) = False := eq_false (fun e => h (nI_inj ha hb e))
theorem eq0F {a : Nat} (h : 0 < a) (ha : a < 2 ^ 31) : (nI a = 0) = False := eq_false (nI_ne0 h ha)
theorem n12 : (12 : Int32) = nI 12 := rfl
theorem n14 : (14 : Int32) = nI 14 := rfl
theorem n15 : (15 : Int32) = nI 15 := rfl
theorem n16 : (16 : Int32) = nI 16 := rfl
theorem n20 : (20 : Int32) = nI 20 := rfl
theorem n32 : (32 : Int32) = nI 32 := rfl
theorem n50 : (50 : Int32) = nI 50 := rfl
theorem n60 : (60 : Int32) = nI 60 := rfl
theorem n64 : (64 : Int32) = nI 64 := rfl
theorem n80 : (80 : Int32) = nI 80 := rfl
theorem n81 : (81 : Int32) = nI 81 := rfl
theorem n90 : (90 : Int32) = nI 90 := rfl
theorem n100 : (100 : Int32) = nI 100 := rfl
theorem n128 : (128 : Int32) = nI 128 := rfl
theorem n256 : (256 : Int32) = nI 256 := rfl
theorem nI_sub {a b : Nat} (h : b ≤ a) : nI a - nI b = nI (a - b) := pk_sub h
theorem h10 : ((1 : Int32) = 0) = False := eq_false (by decide)
theorem updS {f : Nat → Int32} {k j : Nat} {x : Int32} (h : j = k) : upd f k x j = x := if_pos h
theorem nI_a0 (a : Nat) : nI a + 0 = nI a := Int32.add_zero _
theorem gQ {R : Type} {x : Int32} {n : Nat} {q : Prop} [Decidable q] {A B : R} (h : inN x n ↔ ¬ x < 0 ∧ q) : (if x < 0 then A else if q then B else A) = if inN x n then B else A := by
  by_cases h0 : x < 0
  · rw [if_pos h0, if_neg (fun e => (h.mp e).1 h0)]
  · rw [if_neg h0]
    by_cases h1 : q
    · rw [if_pos h1, if_pos (h.mpr ⟨h0, h1⟩)]
    · rw [if_neg h1, if_neg (fun e => h1 (h.mp e).2)]
theorem gN {R : Type} {q : Prop} [Decidable q] {A B : R} : (if q then A else B) = if ¬ q then B else A := by by_cases h : q <;> simp [h]
theorem gA {R : Type} {n : Nat} (hn : n < 2 ^ 31) {x : Int32} {A B : R} : (if x < 0 then A else if nI n ≤ x then A else B) = if inN x n then B else A := by
  rw [gN (q := nI n ≤ x)]; exact gQ (inN_iff hn)
theorem gB {R : Type} {n : Nat} (hn : n < 2 ^ 30) {x : Int32} {A B : R} : (if x < 0 then A else if nI n < x then A else B) = if inN x (n + 1) then B else A := by
  rw [gN (q := nI n < x)]; refine gQ ?_; rw [lt0, ltN' (by omega)]; omega
theorem gC {R : Type} {n : Nat} (hn : n < 2 ^ 30) {x : Int32} {A B : R} : (if x < 0 then A else if x ≤ nI n then B else A) = if inN x (n + 1) then B else A := by
  refine gQ ?_; rw [lt0, leN' (by omega)]; omega
theorem gE {R : Type} {n : Nat} (hn : n < 2 ^ 30) {x : Int32} {A B : R} : (if x < 0 then A else if x < nI n then B else A) = if inN x n then B else A := by
  refine gQ ?_; rw [lt0, ltN (by omega)]; omega
theorem gI {R : Type} {n : Nat} {x : Int32} {A B : R} : (if bI x n = 0 then A else B) = if inN x n then B else A := by
  by_cases h : inN x n
  · rw [bI_t h, if_neg (by decide), if_pos h]
  · rw [bI_f h, if_pos rfl, if_neg h]
theorem gM {R : Type} {a b : Prop} [Decidable a] [Decidable b] {X Y : R} : (if a then (if b then X else Y) else Y) = if a ∧ b then X else Y := by
  by_cases ha : a <;> by_cases hb : b <;> simp [ha, hb]
theorem op_person : Op_person Rl := by
  intro r g u h p1 p2 hR h2
  have hR0 := hR
  obtain ⟨⟨P, C, e0, e30, e1, e31, ez, B⟩, hM, hRR, hK, hT, hW, hH, hS, hP⟩ := hR
  by_cases h1 : inN p1 4
  · obtain ⟨t, ht, rfl⟩ := inN_of (by omega) h1
    have hP10 := B.1
    by_cases hp : P < 10
    · have ev : vp_nar .boolean p2 = p2 := by rcases h2 with rfl | rfl <;> rfl
      refine ⟨nI P, nI (P + 1), upd (g 4) P (nI t), upd (g 5) P p2, upd (g 6) P (nI P), nI (P + 1), upd (g 55) P p2, upd (g 56) P (nI P), upd (g 54) P (nI t), ?_, ?_, ?_⟩
      · unfold f8_person f0_addPerson
        rw [f8_isTown_s, Option.bind_some, gI, if_pos h1, e0]
        simp (disch := omega) only [n2, n3, n4, n5, n6, n7, n8, n9, n10, n11, n12, n13, n14, n15, n16, n20, n24, n32, n50, n60, n64, n80, n81, n90, n100, n128, n256, n30, n36, n40, n99, n200, n512, pk_mul, nI_add, nI_1, nI_a0, gdi, nI_clamp, ltT, ltF, leT, leF, lt0F, le0T, eqT, eqF, eq0F, nI_sub, h10, and_true, true_and, and_false, false_and, and_self, not_true, not_false_eq_true, Option.bind_some, jn, ↓reduceIte]
        rw [ev]; rfl
      · unfold f9_person
        rw [show f9_in (nI t) 0 3 = some (bI (nI t) 4) from f9_in_k (n := 3) (by decide) _, Option.bind_some, gI, if_pos h1, e30]
        simp (disch := omega) only [n2, n3, n4, n5, n6, n7, n8, n9, n10, n11, n12, n13, n14, n15, n16, n20, n24, n32, n50, n60, n64, n80, n81, n90, n100, n128, n256, n30, n36, n40, n99, n200, n512, pk_mul, nI_add, nI_1, nI_a0, gdi, nI_clamp, ltT, ltF, leT, leF, lt0F, le0T, eqT, eqF, eq0F, nI_sub, h10, and_true, true_and, and_false, false_and, and_self, not_true, not_false_eq_true, Option.bind_some, jn, ↓reduceIte]
        rcases h2 with rfl | rfl
        · rw [if_pos rfl, nI_pred]
        · rw [if_neg (by decide), nI_pred]
      · refine ⟨⟨P + 1, C, rfl, rfl, e1, e31, ez, by omega, B.2.1, B.2.2.1, B.2.2.2.1, fun j hj => ?_, fun j hj => ?_, fun j hj => ?_, fun j hj => ?_, B.2.2.2.2.2.2.2.2.1, B.2.2.2.2.2.2.2.2.2.1, fun c k hc hk => ?_, B.2.2.2.2.2.2.2.2.2.2.2⟩, hM, hRR, hK, hT, hW, hH, hS, hP⟩
        · show upd (g 54) P (nI t) j = upd (g 4) P (nI t) j ∧ ∃ s' : Nat, s' < 4 ∧ upd (g 4) P (nI t) j = nI s'
          by_cases e : j = P
          · subst e; rw [upd_s, upd_s]; exact ⟨rfl, t, ht, rfl⟩
          · rw [upd_n e, upd_n e]; exact B.2.2.2.2.1 j (by omega)
        · show upd (g 55) P p2 j = upd (g 5) P p2 j
          by_cases e : j = P
          · subst e; rw [upd_s, upd_s]
          · rw [upd_n e, upd_n e]; exact B.2.2.2.2.2.1 j (by omega)
        · show upd (g 5) P p2 j = 0 ∨ upd (g 5) P p2 j = 1
          by_cases e : j = P
          · subst e; rw [upd_s]; exact h2
          · rw [upd_n e]; exact B.2.2.2.2.2.2.1 j hj
        · show upd (g 56) P (nI P) j = upd (g 6) P (nI P) j ∧ ∃ q : Nat, q < P + 1 ∧ upd (g 6) P (nI P) j = nI q
          by_cases e : j = P
          · subst e; rw [upd_s, upd_s]; exact ⟨rfl, _, by omega, rfl⟩
          · rw [upd_n e, upd_n e]
            obtain ⟨a, q, hq, hb⟩ := B.2.2.2.2.2.2.2.1 j (by omega)
            exact ⟨a, q, by omega, hb⟩
        · rcases B.2.2.2.2.2.2.2.2.2.2.1 c k hc hk with q | ⟨p, hp, q⟩
          · exact Or.inl q
          · exact Or.inr ⟨p, by omega, q⟩
    · refine ⟨-2, _, _, _, _, _, _, _, _, ?_, ?_, hR0⟩
      · unfold f8_person
        rw [f8_isTown_s, Option.bind_some, gI, if_pos h1, e0, show P = 10 by omega, if_neg (by decide)]
      · unfold f9_person
        rw [show f9_in (nI t) 0 3 = some (bI (nI t) 4) from f9_in_k (n := 3) (by decide) _, Option.bind_some, gI, if_pos h1, e30, show P = 10 by omega]; simp (disch := omega) only [n2, n3, n4, n5, n6, n7, n8, n9, n10, n11, n12, n13, n14, n15, n16, n20, n24, n32, n50, n60, n64, n80, n81, n90, n100, n128, n256, n30, n36, n40, n99, n200, n512, pk_mul, nI_add, nI_1, nI_a0, gdi, nI_clamp, ltT, ltF, leT, leF, lt0F, le0T, eqT, eqF, eq0F, nI_sub, h10, and_true, true_and, and_false, false_and, and_self, not_true, not_false_eq_true, Option.bind_some, jn, ↓reduceIte]
  · refine ⟨-1, _, _, _, _, _, _, _, _, ?_, ?_, hR0⟩
    · unfold f8_person
      rw [f8_isTown_s, Option.bind_some, gI, if_neg h1]
    · unfold f9_person
      rw [show f9_in p1 0 3 = some (bI p1 4) from f9_in_k (n := 3) (by decide) _, Option.bind_some, gI, if_neg h1]
theorem f0_joinOnes_s {P : Nat} (hP : P ≤ 10) (one : Nat → Int32) {a b : Nat} (ha : a < 10) (hb : b < 10) : f0_joinOnes (nI P) one (nI a) (nI b) = some (if a = b then (0, one) else (1, fun j => if j < P ∧ one j = nI (max a b) then nI (min a b) else one j)) := by
  unfold f0_joinOnes
  by_cases e : a = b
  · rw [if_pos (by rw [e]), if_pos e]
  · rw [if_neg (fun q => e (nI_inj (by omega) (by omega) q)), if_neg e]
    show f0_joinOnes_L23 _ _ _ FU 0 one _ = _
    have e1 : (if nI a < nI b then nI b else nI a) = nI (max a b) := by
      by_cases h : a < b
      · simp (disch := omega) only [n2, n3, n4, n5, n6, n7, n8, n9, n10, n11, n12, n13, n14, n15, n16, n20, n24, n32, n50, n60, n64, n80, n81, n90, n100, n128, n256, n30, n36, n40, n99, n200, n512, pk_mul, nI_add, nI_1, nI_a0, gdi, nI_clamp, ltT, ltF, leT, leF, lt0F, le0T, eqT, eqF, eq0F, nI_sub, h10, and_true, true_and, and_false, false_and, and_self, not_true, not_false_eq_true, Option.bind_some, jn, ↓reduceIte]
      · simp (disch := omega) only [n2, n3, n4, n5, n6, n7, n8, n9, n10, n11, n12, n13, n14, n15, n16, n20, n24, n32, n50, n60, n64, n80, n81, n90, n100, n128, n256, n30, n36, n40, n99, n200, n512, pk_mul, nI_add, nI_1, nI_a0, gdi, nI_clamp, ltT, ltF, leT, leF, lt0F, le0T, eqT, eqF, eq0F, nI_sub, h10, and_true, true_and, and_false, false_and, and_self, not_true, not_false_eq_true, Option.bind_some, jn, ↓reduceIte]
    have e2 : (if nI b < nI a then nI b else nI a) = nI (min a b) := by
      by_cases h : b < a
      · simp (disch := omega) only [n2, n3, n4, n5, n6, n7, n8, n9, n10, n11, n12, n13, n14, n15, n16, n20, n24, n32, n50, n60, n64, n80, n81, n90, n100, n128, n256, n30, n36, n40, n99, n200, n512, pk_mul, nI_add, nI_1, nI_a0, gdi, nI_clamp, ltT, ltF, leT, leF, lt0F, le0T, eqT, eqF, eq0F, nI_sub, h10, and_true, true_and, and_false, false_and, and_self, not_true, not_false_eq_true, Option.bind_some, jn, ↓reduceIte]
      · simp (disch := omega) only [n2, n3, n4, n5, n6, n7, n8, n9, n10, n11, n12, n13, n14, n15, n16, n20, n24, n32, n50, n60, n64, n80, n81, n90, n100, n128, n256, n30, n36, n40, n99, n200, n512, pk_mul, nI_add, nI_1, nI_a0, gdi, nI_clamp, ltT, ltF, leT, leF, lt0F, le0T, eqT, eqF, eq0F, nI_sub, h10, and_true, true_and, and_false, false_and, and_self, not_true, not_false_eq_true, Option.bind_some, jn, ↓reduceIte]
    refine lup0 (fun fu i s => f0_joinOnes_L23 (nI P) (nI a) (nI b) fu i s _) P (fun i j => if j < i ∧ one j = nI (max a b) then nI (min a b) else one j) (fun fu i hi => ?_) (fun fu => ?_) (funext fun j => if_neg (by omega)) (FU_lt (by omega))
    · simp only [f0_joinOnes_L23, jn, e1, e2]
      simp (disch := omega) only [n2, n3, n4, n5, n6, n7, n8, n9, n10, n11, n12, n13, n14, n15, n16, n20, n24, n32, n50, n60, n64, n80, n81, n90, n100, n128, n256, n30, n36, n40, n99, n200, n512, pk_mul, nI_add, nI_1, nI_a0, gdi, nI_clamp, ltT, ltF, leT, leF, lt0F, le0T, eqT, eqF, eq0F, nI_sub, h10, and_true, true_and, and_false, false_and, and_self, not_true, not_false_eq_true, Option.bind_some, jn, ↓reduceIte]
      rw [if_neg (show ¬ (i < i ∧ one i = nI (max a b)) by omega)]
      by_cases h : one i = nI (max a b)
      · rw [if_pos h]; congr 1; funext j
        by_cases ej : j = i
        · subst ej; rw [upd_s, if_pos ⟨by omega, h⟩]
        · rw [upd_n ej]; simp only [show (j < i + 1) ↔ (j < i) by omega]
      · rw [if_neg h]; congr 1; funext j
        by_cases ej : j = i
        · subst ej; rw [if_neg (by omega), if_neg (fun q => h q.2)]
        · simp only [show (j < i + 1) ↔ (j < i) by omega]
    · simp only [f0_joinOnes_L23]
      simp (disch := omega) only [n2, n3, n4, n5, n6, n7, n8, n9, n10, n11, n12, n13, n14, n15, n16, n20, n24, n32, n50, n60, n64, n80, n81, n90, n100, n128, n256, n30, n36, n40, n99, n200, n512, pk_mul, nI_add, nI_1, nI_a0, gdi, nI_clamp, ltT, ltF, leT, leF, lt0F, le0T, eqT, eqF, eq0F, nI_sub, h10, and_true, true_and, and_false, false_and, and_self, not_true, not_false_eq_true, Option.bind_some, jn, ↓reduceIte]
theorem f9_join_s {P : Nat} (hP : P ≤ 10) (one : Nat → Int32) {a b p1 p2 : Nat} (hp1 : p1 < P) (hp2 : p2 < P) (e1 : one p1 = nI a) (e2 : one p2 = nI b) (ha : a < 10) (hb : b < 10) : f9_join (nI P) one (nI p1) (nI p2) = some (if a = b then (0, one) else (1, fun j => if j < P ∧ one j = nI (max a b) then nI (min a b) else one j)) := by
  unfold f9_join
  rw [f9_isPerson_s (by omega), f9_isPerson_s (by omega), Option.bind_some, Option.bind_some, gI, gI, if_pos (inN_nI hp1 (by omega)), if_pos (inN_nI hp2 (by omega))]
  simp (disch := omega) only [n2, n3, n4, n5, n6, n7, n8, n9, n10, n11, n12, n13, n14, n15, n16, n20, n24, n32, n50, n60, n64, n80, n81, n90, n100, n128, n256, n30, n36, n40, n99, n200, n512, pk_mul, nI_add, nI_1, nI_a0, gdi, nI_clamp, ltT, ltF, leT, leF, lt0F, le0T, eqT, eqF, eq0F, nI_sub, h10, and_true, true_and, and_false, false_and, and_self, not_true, not_false_eq_true, Option.bind_some, jn, ↓reduceIte, e1, e2]
  by_cases e : a = b
  · rw [if_pos (by rw [e]), if_pos e]
  · rw [if_neg (fun q => e (nI_inj (by omega) (by omega) q)), if_neg e]
    have e3 : ∀ (j : Int32) (K : Int32 → Option (Int32 × (Nat → Int32))), (if j = nI a then (if nI b ≤ nI a then K (nI b) else K (nI a)) else if j = nI b then (if nI b ≤ nI a then K (nI b) else K (nI a)) else K j) = K (if j = nI (max a b) then nI (min a b) else j) := by
      intro j K
      rcases Nat.lt_or_ge a b with h | h
      · rw [Nat.max_eq_right (by omega), Nat.min_eq_left (by omega), if_neg (nI_ge h (by omega))]
        by_cases h1 : j = nI a
        · rw [if_pos h1, h1]; simp (disch := omega) only [n2, n3, n4, n5, n6, n7, n8, n9, n10, n11, n12, n13, n14, n15, n16, n20, n24, n32, n50, n60, n64, n80, n81, n90, n100, n128, n256, n30, n36, n40, n99, n200, n512, pk_mul, nI_add, nI_1, nI_a0, gdi, nI_clamp, ltT, ltF, leT, leF, lt0F, le0T, eqT, eqF, eq0F, nI_sub, h10, and_true, true_and, and_false, false_and, and_self, not_true, not_false_eq_true, Option.bind_some, jn, ↓reduceIte]
        · rw [if_neg h1]; by_cases h2 : j = nI b <;> simp only [h2, if_true, if_false]
      · rw [Nat.max_eq_left (by omega), Nat.min_eq_right (by omega), if_pos (nI_le h (by omega))]
        by_cases h1 : j = nI a
        · rw [if_pos h1, if_pos h1]
        · rw [if_neg h1, if_neg h1]; by_cases h2 : j = nI b <;> simp only [h2, if_true, if_false]
    refine lup0 (fun fu i s => f9_join_L44 (nI P) one (nI p1) (nI p2) fu i s _) P (fun i j => if j < i ∧ one j = nI (max a b) then nI (min a b) else one j) (fun fu i hi => ?_) (fun fu => ?_) (funext fun j => if_neg (by omega)) (FU_lt (by omega))
    · simp only [f9_join_L44, jn]
      simp (disch := omega) only [n2, n3, n4, n5, n6, n7, n8, n9, n10, n11, n12, n13, n14, n15, n16, n20, n24, n32, n50, n60, n64, n80, n81, n90, n100, n128, n256, n30, n36, n40, n99, n200, n512, pk_mul, nI_add, nI_1, nI_a0, gdi, nI_clamp, ltT, ltF, leT, leF, lt0F, le0T, eqT, eqF, eq0F, nI_sub, h10, and_true, true_and, and_false, false_and, and_self, not_true, not_false_eq_true, Option.bind_some, jn, ↓reduceIte, e1, e2]
      rw [if_neg (show ¬ (i < i ∧ one i = nI (max a b)) by omega)]
      rw [e3 (one i) (fun s => f9_join_L44 (nI P) one (nI p1) (nI p2) fu (nI (i + 1)) (upd (fun j => if j < i ∧ one j = nI (max a b) then nI (min a b) else one j) i s) fun x5 c6 => some (1, c6))]
      congr 1; funext j
      by_cases ej : j = i
      · subst ej; rw [upd_s]; by_cases h : one j = nI (max a b)
        · rw [if_pos h, if_pos ⟨by omega, h⟩]
        · rw [if_neg h, if_neg (fun q => h q.2)]
      · rw [upd_n ej]; simp only [show (j < i + 1) ↔ (j < i) by omega]
    · simp only [f9_join_L44]
      simp (disch := omega) only [n2, n3, n4, n5, n6, n7, n8, n9, n10, n11, n12, n13, n14, n15, n16, n20, n24, n32, n50, n60, n64, n80, n81, n90, n100, n128, n256, n30, n36, n40, n99, n200, n512, pk_mul, nI_add, nI_1, nI_a0, gdi, nI_clamp, ltT, ltF, leT, leF, lt0F, le0T, eqT, eqF, eq0F, nI_sub, h10, and_true, true_and, and_false, false_and, and_self, not_true, not_false_eq_true, Option.bind_some, jn, ↓reduceIte]
theorem op_join : Op_join Rl := by
  intro r g u h p1 p2 hR
  have hR0 := hR
  obtain ⟨⟨P, C, e0, e30, e1, e31, ez, B⟩, hM, hRR, hK, hT, hW, hH, hS, hP⟩ := hR
  have hP10 := B.1
  by_cases h12 : inN p1 P ∧ inN p2 P
  · obtain ⟨p, hp, rfl⟩ := inN_of (by omega) h12.1
    obtain ⟨q, hq, rfl⟩ := inN_of (by omega) h12.2
    obtain ⟨mp, a, ha, ea⟩ := B.2.2.2.2.2.2.2.1 p hp
    obtain ⟨mq, b, hb, eb⟩ := B.2.2.2.2.2.2.2.1 q hq
    have F8 : f8_join (r 0) (g 6) (nI p) (nI q) = some (if a = b then ((0 : Int32), g 6) else (1, fun j => if j < P ∧ g 6 j = nI (max a b) then nI (min a b) else g 6 j)) := by
      unfold f8_join
      rw [e0, f0_isPerson_s (by omega), f0_isPerson_s (by omega), Option.bind_some, Option.bind_some, gI, gI, if_pos h12.1, if_pos h12.2]
      simp (disch := omega) only [n2, n3, n4, n5, n6, n7, n8, n9, n10, n11, n12, n13, n14, n15, n16, n20, n24, n32, n50, n60, n64, n80, n81, n90, n100, n128, n256, n30, n36, n40, n99, n200, n512, pk_mul, nI_add, nI_1, nI_a0, gdi, nI_clamp, ltT, ltF, leT, leF, lt0F, le0T, eqT, eqF, eq0F, nI_sub, h10, and_true, true_and, and_false, false_and, and_self, not_true, not_false_eq_true, Option.bind_some, jn, ↓reduceIte, ea, eb]
      rw [f0_joinOnes_s hP10 _ (by omega) (by omega)]
      by_cases e : a = b
      · rw [if_pos e]; rfl
      · rw [if_neg e]; rfl
    have F9 := f9_join_s hP10 (g 56) hp hq (mp.trans ea) (mq.trans eb) (by omega) (by omega)
    rw [← e30] at F9
    by_cases e : a = b
    · rw [if_pos e] at F8 F9
      exact ⟨_, _, _, F8, F9, hR0⟩
    · rw [if_neg e] at F8 F9
      refine ⟨_, _, _, F8, F9, ⟨P, C, e0, e30, e1, e31, ez, B.1, B.2.1, B.2.2.1, B.2.2.2.1, B.2.2.2.2.1, B.2.2.2.2.2.1, B.2.2.2.2.2.2.1, fun j hj => ?_, B.2.2.2.2.2.2.2.2⟩, hM, hRR, hK, hT, hW, hH, hS, hP⟩
      obtain ⟨mj, c, hc, ec⟩ := B.2.2.2.2.2.2.2.1 j hj
      show (if j < P ∧ g 56 j = nI (max a b) then nI (min a b) else g 56 j) = (if j < P ∧ g 6 j = nI (max a b) then nI (min a b) else g 6 j) ∧ ∃ q : Nat, q < P ∧ (if j < P ∧ g 6 j = nI (max a b) then nI (min a b) else g 6 j) = nI q
      rw [mj]
      refine ⟨rfl, ?_⟩
      split
      · exact ⟨min a b, by omega, rfl⟩
      · exact ⟨c, hc, ec⟩
  · refine ⟨-1, _, _, ?_, ?_, hR0⟩
    · unfold f8_join
      rw [e0, f0_isPerson_s (by omega), f0_isPerson_s (by omega), Option.bind_some, Option.bind_some, gI, gI, gM, if_neg h12]
    · unfold f9_join
      rw [e30, f9_isPerson_s (by omega), f9_isPerson_s (by omega), Option.bind_some, Option.bind_some, gI, gI, gM, if_neg h12]
