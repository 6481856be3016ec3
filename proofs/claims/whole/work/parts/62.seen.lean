/-! ===== seen ===== -/
/-- the last day in a set, among the first n -/
def ldS (fac : Nat → Int32) (s : Nat) : Nat → Int32
  | 0 => 0
  | n + 1 => if s.testBit n = true then (if ldS fac s n < fac (n * 5 + 1) then fac (n * 5 + 1) else ldS fac s n) else ldS fac s n
/-- the first day, over the sets below n -/
def fdS (W : Nat → Nat → Int32) (cost : Int32) (fac : Nat → Int32) (C : Nat) (lv : Int32) : Nat → Int32
  | 0 => -3
  | n + 1 => if 2 ≤ pcN n ∧ lv ≤ scS W cost C n ∧ (fdS W cost fac C lv n < 0 ∨ ldS fac n C < fdS W cost fac C lv n) then ldS fac n C else fdS W cost fac C lv n
section SE
variable {P C : Nat} {siz law hom hub one fac sea fou byc msiz mtow mhub mone mcla mlaw : Nat → Int32}
theorem ldS_nn (B : RBx P C siz law hom hub one fac sea fou byc msiz mtow mhub mone mcla mlaw) (s : Nat) : ∀ n, n ≤ C → ¬ ldS fac s n < 0
  | 0, _ => by rw [ldS]; decide
  | n + 1, hn => by
    have ih := ldS_nn B s n (by omega)
    obtain ⟨v, hv, ev⟩ := (B.2.2.2.2.2.2.2.2.1 n 1 (by omega) (by omega)).2
    rw [ldS]
    by_cases h : s.testBit n = true
    · rw [if_pos h]
      by_cases h2 : ldS fac s n < fac (n * 5 + 1)
      · rw [if_pos h2, ev]; exact nI_pos (by omega)
      · rw [if_neg h2]; exact ih
    · rw [if_neg h]; exact ih
theorem fdS_c (B : RBx P C siz law hom hub one fac sea fou byc msiz mtow mhub mone mcla mlaw) (W : Nat → Nat → Int32) (cost lv : Int32) : ∀ n, fdS W cost fac C lv n = -3 ∨ ¬ fdS W cost fac C lv n < 0
  | 0 => Or.inl rfl
  | n + 1 => by
    rw [fdS]
    split
    · exact Or.inr (ldS_nn B n C (Nat.le_refl _))
    · exact fdS_c B W cost lv n
theorem f7_lastDay_s (hC : C ≤ 9) {s : Nat} (hs : s < 512) : f7_lastDay (nI C) fac (nI s) = some (ldS fac s C) := by
  simp only [f7_lastDay, jnE]
  refine lup0 (fun fu i (x : Int32) => f7_lastDay_L4 (nI C) fac (nI s) fu x i _) C (fun i => ldS fac s i) (fun fu i hi => ?_) (fun fu => ?_) rfl (FU_lt (by omega))
  · have w1 : f0_fact (nI C) fac (nI i) 1 = some (fac (i * 5 + 1)) := f0_fact_s hC hi (w := 1) (by omega)
    simp only [f7_lastDay_L4, jnE]
    rw [if_neg (nI_ge hi (by omega)), bx_t0 (by omega) (by omega), w1, Option.bind_some, nI_1, ldS]
    by_cases h : s.testBit i = true
    · rw [if_pos h, if_pos h]
    · rw [if_neg h, if_neg h]
  · simp only [f7_lastDay_L4]
    rw [if_pos (nI_le (Nat.le_refl _) (by omega))]
theorem f7_firstDay_s (B : RBx P C siz law hom hub one fac sea fou byc msiz mtow mhub mone mcla mlaw) (sc st : Nat → Int32) (lv : Int32) : ∃ c1 c2, f7_firstDay (nI C) (nI P) fac hub law one sea sc st lv = some (fdS (wvS P hub one fac sea law) (law 4) fac C lv (2 ^ C), c1, c2) := by
  have hC := B.2.1
  obtain ⟨c1, c2, hh, hsc, hst⟩ := f7_scoreSets_s B (hLall law) sc st
  refine ⟨c1, c2, ?_⟩
  have hp9 : 2 ^ C ≤ 2 ^ 9 := Nat.pow_le_pow_right (by decide) hC
  unfold f7_firstDay
  rw [hh]
  simp only [bn2E, bsE, jnE]
  have hfc := fdS_c B (wvS P hub one fac sea law) (law 4) lv
  have hln := fun s => ldS_nn B s C (Nat.le_refl _)
  generalize wvS P hub one fac sea law = W at *
  generalize law 4 = cost at *
  have h3 : ∀ n, n ≤ 3 → fdS W cost fac C lv n = -3 := by
    have b0 : pcN 0 = 0 := by decide
    have b1 : pcN 1 = 1 := by decide
    have b2 : pcN 2 = 1 := by decide
    have e1 : fdS W cost fac C lv 1 = -3 := by rw [fdS, if_neg (fun q => by rw [b0] at q; omega)]; rfl
    have e2 : fdS W cost fac C lv 2 = -3 := by rw [fdS, if_neg (fun q => by rw [b1] at q; omega), e1]
    have e3 : fdS W cost fac C lv 3 = -3 := by rw [fdS, if_neg (fun q => by rw [b2] at q; omega), e2]
    intro n hn
    rcases (by omega : n = 0 ∨ n = 1 ∨ n = 2 ∨ n = 3) with rfl | rfl | rfl | rfl
    · rfl
    · exact e1
    · exact e2
    · exact e3
  by_cases hlo : 2 ^ C ≤ 3
  · rw [h3 _ hlo]
    rw [n3]
    refine lupA (fun fu i (x : Int32) => f7_firstDay_L12 (nI C) fac lv c1 fu x i _) 3 3 (fun _ => -nI 3) (fun fu i h1 h2 => absurd h2 (by omega)) (fun fu => ?_) rfl (Nat.le_refl _) (FU_lt (by omega))
    simp only [f7_firstDay_L12]
    rw [bx_all hC, Option.bind_some, if_pos (show nI (2 ^ C - 1) < nI 3 from nI_lt (b := 3) (by have := Nat.two_pow_pos C; omega) (by omega))]
  · rw [n3]
    refine lupA (fun fu i (x : Int32) => f7_firstDay_L12 (nI C) fac lv c1 fu x i _) (2 ^ C) 3 (fun i => fdS W cost fac C lv i) (fun fu i hi3 hi => ?_) (fun fu => ?_) (h3 3 (by omega)) (by omega) (FU_lt (by omega))
    · have k1 := pcN_le i
      simp only [f7_firstDay_L12, jnE]
      rw [bx_all hC, Option.bind_some, if_neg (nI_nlt (by omega) (by omega)), bc_s (by omega), Option.bind_some, f7_scoreOf_s _ (by omega), Option.bind_some, f7_lastDay_s hC (by omega), Option.bind_some, hsc i hi, nI_1, fdS]
      by_cases q1 : pcN i < 2
      · rw [if_pos (show nI (pcN i) < 2 from nI_lt (b := 2) q1 (by omega)), if_neg (by omega)]
      · rw [if_neg (show ¬ nI (pcN i) < 2 from nI_nlt (b := 2) (by omega) (by omega))]
        by_cases q2 : lv ≤ scS W cost C i
        · rw [if_pos q2]
          rcases hfc i with h | h
          · rw [h, if_pos rfl, if_pos ⟨by omega, q2, Or.inl (by decide)⟩]
          · rw [if_neg (fun e => h (by rw [e]; decide))]
            by_cases q4 : fdS W cost fac C lv i ≤ ldS fac i C
            · rw [if_pos q4, if_neg]
              rintro ⟨-, -, q | q⟩
              · exact h q
              · exact Int32.not_le.mpr q q4
            · rw [if_neg q4, if_pos ⟨by omega, q2, Or.inr (Int32.not_le.mp q4)⟩]
        · rw [if_neg q2, if_neg (fun q => q2 q.2.1)]
    · simp only [f7_firstDay_L12]
      rw [bx_all hC, Option.bind_some, if_pos (nI_lt (by omega) (by omega))]
theorem f9_seen_s (B : RBx P C siz law hom hub one fac sea fou byc msiz mtow mhub mone mcla mlaw) {st : Nat → Int32} {W : Nat → Nat → Int32} {cost : Int32} (h4 : mlaw 4 = cost) (hW : ∀ a b, a < b → b < C → st (9 * a + b) = W a b) (lv : Int32) : f9_seen_L24 (nI C) mcla mlaw lv st FU (-3) 0 (fun x3 _ => some (x3, st)) = some (fdS W cost fac C lv (2 ^ C), st) := by
  have hC := B.2.1
  have hp9 : 2 ^ C ≤ 2 ^ 9 := Nat.pow_le_pow_right (by decide) hC
  have hln := fun s => ldS_nn B s C (Nat.le_refl _)
  refine lup0 (fun fu i (x : Int32) => f9_seen_L24 (nI C) mcla mlaw lv st fu x i _) (2 ^ C) (fun i => fdS W cost fac C lv i) (fun fu i hi => ?_) (fun fu => ?_) rfl (FU_lt (by omega))
  · have k1 := pcN_le i
    simp only [f9_seen_L24, jnE]
    rw [bx_pow (by omega), if_neg (nI_ge hi (by omega)), nI_1]
    refine lup0 (fun fu j (x : Int32) => f9_seen_L40 (nI C) mcla (nI i) fu x j _) C (fun j => ldS fac i j) (fun fu j hj => ?_) (fun fu => ?_) rfl (FU_lt (by omega))
    · have w1 : f9_its mcla (nI j) 1 = some (fac (j * 5 + 1)) := f9_its_f B hj (w := 1) (by omega)
      simp only [f9_seen_L40, jnE]
      rw [if_neg (nI_ge hj (by omega)), bx_t1 (by omega) (by omega), w1, Option.bind_some, Option.bind_some, nI_1, ldS]
      by_cases h : i.testBit j = true
      · rw [if_pos h, if_pos h]
        by_cases h2 : fac (j * 5 + 1) ≤ ldS fac i j
        · rw [if_pos h2, if_neg (fun q => Int32.not_le.mpr q h2)]
        · rw [if_neg h2, if_pos (Int32.not_le.mp h2)]
      · rw [if_neg h, if_neg h]
    · have e1 : ¬ (1 : Int32) = 0 := by decide
      simp only [f9_seen_L40]
      rw [if_pos (nI_le (Nat.le_refl _) (by omega)), on_s (by omega), Option.bind_some, f9_scoreOf_s hC h4 hW hi, Option.bind_some, fdS, if_pos trivial, if_neg e1]
      by_cases q1 : pcN i < 2
      · rw [if_pos (show nI (pcN i) ≤ 1 from nI_le (b := 1) (by omega) (by omega)), if_neg (by omega)]
      · rw [if_neg (show ¬ nI (pcN i) ≤ 1 from nI_ge (a := 1) (by omega) (by omega))]
        by_cases q2 : lv ≤ scS W cost C i
        · rw [if_neg (show ¬ scS W cost C i < lv from fun q => Int32.not_le.mpr q q2)]
          by_cases q3 : fdS W cost fac C lv i < 0
          · rw [if_pos q3, if_pos ⟨by omega, q2, Or.inl q3⟩]
          · rw [if_neg q3]
            by_cases q4 : fdS W cost fac C lv i ≤ ldS fac i C
            · rw [if_pos q4, if_neg]
              rintro ⟨-, -, q | q⟩
              · exact q3 q
              · exact Int32.not_le.mpr q q4
            · rw [if_neg q4, if_pos ⟨by omega, q2, Or.inr (Int32.not_le.mp q4)⟩]
        · rw [if_pos (Int32.not_le.mp q2), ite_self, ite_self, if_neg (fun q => q2 q.2.1)]
  · simp only [f9_seen_L24]
    rw [bx_pow (by omega), if_pos (nI_le (Nat.le_refl _) (by omega))]
end SE
theorem op_seen : Op_seen Rl := by
  intro r g u h p1 hR
  have hR0 := hR
  obtain ⟨⟨P, C, e0, e30, e1, e31, ez, B⟩, hM, hRR, hK, hT, hW, hH, hS, hP⟩ := hR
  have hC := B.2.1
  rw [e0, e30, e1, e31]
  have m1000 : (-1000 : Int32).toInt = -1000 := by decide
  have p1000 : (1000 : Int32).toInt = 1000 := by decide
  by_cases h1 : -1000 ≤ p1.toInt ∧ p1.toInt ≤ 1000
  · have q1 : ¬ p1 < -1000 := by rw [Int32.lt_iff_toInt_lt, m1000]; omega
    have q2 : p1 ≤ 1000 := by rw [Int32.le_iff_toInt_le, p1000]; omega
    obtain ⟨c1, c2, hh⟩ := f7_firstDay_s B (g 29) (g 28) p1
    obtain ⟨b1, hb, hbt⟩ := f9_findStrengths_s B (L := g 3) (fun s hs => (B.2.2.2.1 s (by omega)).1) (g 68)
    refine ⟨fdS (wvS P (g 5) (g 6) (g 7) (g 8) (g 3)) (g 3 4) (g 7) C p1 (2 ^ C), c1, c2, b1, ?_, ?_, hR0⟩
    · unfold f8_seen
      rw [if_neg q1, if_pos q2, hh]; rfl
    · unfold f9_seen
      rw [f9_in_s, Option.bind_some, show (if -1000 ≤ p1 ∧ p1 ≤ 1000 then (1 : Int32) else 0) = 1 from if_pos ⟨by rw [Int32.le_iff_toInt_le, m1000]; omega, q2⟩, if_neg (by decide), hb, Option.bind_some]
      simp only [jnE]
      exact f9_seen_s B ((B.2.2.2.1 4 (by omega)).1) hbt p1
  · refine ⟨-1, g 29, g 28, g 68, ?_, ?_, hR0⟩
    · unfold f8_seen
      by_cases q1 : p1 < -1000
      · rw [if_pos q1]
      · rw [if_neg q1, if_neg]
        intro q2
        rw [Int32.lt_iff_toInt_lt, m1000] at q1
        rw [Int32.le_iff_toInt_le, p1000] at q2
        omega
    · unfold f9_seen
      have hn : ¬ (-1000 ≤ p1 ∧ p1 ≤ 1000) := by
        rintro ⟨q1, q2⟩
        rw [Int32.le_iff_toInt_le, m1000] at q1
        rw [Int32.le_iff_toInt_le, p1000] at q2
        omega
      rw [f9_in_s, Option.bind_some, show (if -1000 ≤ p1 ∧ p1 ≤ 1000 then (1 : Int32) else 0) = 0 from if_neg hn, if_pos rfl]
