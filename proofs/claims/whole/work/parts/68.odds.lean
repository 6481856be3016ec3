/-! ===== common divisors ===== -/
theorem l0 : (0 : Int64) = lN 0 := rfl
theorem lc0 {n : Nat} (h : n < 2 ^ 63) {R : Type} (X Y : R) : (if lg_cmp (lN n) 0 = 0 then X else Y) = if n = 0 then X else Y := by
  by_cases e : n = 0
  · rw [if_pos e, if_pos ((lg_cmp_eq _ _).mpr (by rw [e]; rfl))]
  · rw [if_neg e, if_neg]
    intro q
    have := (lg_cmp_eq _ _).mp q
    rw [l0, pk_lEQ h (by decide)] at this
    exact e this
theorem nzN {n : Nat} (h : n < 2 ^ 63) (h0 : 0 < n) : nzl (lN n) = true := by
  refine decide_eq_true (fun q => ?_)
  rw [l0, pk_lEQ h (by decide)] at q
  omega
theorem mod2 {x y m : Nat} (h : y < 2 ^ (m + 1)) (h1 : 0 < x % y) (h2 : x % y < y) : y % (x % y) < 2 ^ m := by
  generalize x % y = z at *
  have a := Nat.div_add_mod y z
  have b : 1 ≤ y / z := Nat.div_pos (by omega) h1
  have c : z ≤ z * (y / z) := Nat.le_mul_of_pos_right z b
  have d := Nat.mod_lt y h1
  have e : 2 ^ (m + 1) = 2 * 2 ^ m := by rw [Nat.pow_succ, Nat.mul_comm]
  omega
theorem gcd_st {x y : Nat} (h : 0 < y) : Nat.gcd x y = Nat.gcd y (x % y) := by
  rw [Nat.gcd_comm x y, Nat.gcd_rec y x, Nat.gcd_comm]
theorem cd_zero {f c x : Nat} (hc : c < 200) : f2_commonDivisor_L9 (f + 1) (lN x) (lN 0) (nI c) (fun x1 _ _ => some x1) = some (lN x) := by
  simp only [f2_commonDivisor_L9]
  rw [lc0 (by decide), if_pos rfl, ite_self]
theorem cd_step {f c x y : Nat} (hc : c < 200) (hx : x < 2 ^ 63) (hy : y < 2 ^ 63) (h0 : 0 < y) : f2_commonDivisor_L9 (f + 1) (lN x) (lN y) (nI c) (fun x1 _ _ => some x1) = f2_commonDivisor_L9 f (lN y) (lN (x % y)) (nI (c + 1)) (fun x1 _ _ => some x1) := by
  simp only [f2_commonDivisor_L9]
  rw [if_neg (nge n200 hc (by omega)), lc0 hy, if_neg (by omega), nzN hy h0, gd_t, pk_lRem hx h0 hy, nI_1]
theorem cd_main : ∀ m x y c fu, y < 2 ^ m → x < 2 ^ 63 → y < 2 ^ 63 → c + 2 * m < 200 → 2 * m < fu → f2_commonDivisor_L9 fu (lN x) (lN y) (nI c) (fun x1 _ _ => some x1) = some (lN (Nat.gcd x y)) := by
  intro m
  induction m with
  | zero =>
    intro x y c fu h1 hx hy hc hf
    obtain ⟨f, rfl⟩ : ∃ f, fu = f + 1 := ⟨fu - 1, by omega⟩
    have e : y = 0 := by
      have : (2 : Nat) ^ 0 = 1 := rfl
      omega
    subst e
    rw [cd_zero (by omega), Nat.gcd_zero_right]
  | succ m ih =>
    intro x y c fu h1 hx hy hc hf
    obtain ⟨f, rfl⟩ : ∃ f, fu = f + 1 + 1 := ⟨fu - 2, by omega⟩
    rcases Nat.eq_zero_or_pos y with e | h0
    · subst e
      rw [cd_zero (by omega), Nat.gcd_zero_right]
    · have hz := Nat.mod_lt x h0
      rw [cd_step (by omega) hx hy h0, gcd_st h0]
      rcases Nat.eq_zero_or_pos (x % y) with e | hz0
      · rw [e, cd_zero (by omega), Nat.gcd_zero_right]
      · rw [cd_step (by omega) hy (by omega) hz0, gcd_st hz0]
        have hw := Nat.mod_lt y hz0
        exact ih _ _ _ _ (mod2 h1 hz0 hz) (by omega) (by omega) (by omega) (by omega)
theorem lw_zero {R : Type} {f x : Nat} (K : Int64 → Int64 → Option (Int64 × Int64)) : f9_lowest_L6 (f + 1) (lN x) (lN 0) K = K (lN x) (lN 0) := by
  simp only [f9_lowest_L6]
  rw [lc0 (by decide), if_pos rfl]
theorem lw_step {f x y : Nat} (hx : x < 2 ^ 63) (hy : y < 2 ^ 63) (h0 : 0 < y) (K : Int64 → Int64 → Option (Int64 × Int64)) : f9_lowest_L6 (f + 1) (lN x) (lN y) K = f9_lowest_L6 f (lN y) (lN (x % y)) K := by
  simp only [f9_lowest_L6]
  rw [lc0 hy, if_neg (by omega), nzN hy h0, gd_t, pk_lRem hx h0 hy]
theorem lw_main (K : Int64 → Int64 → Option (Int64 × Int64)) : ∀ m x y fu, y < 2 ^ m → x < 2 ^ 63 → y < 2 ^ 63 → 2 * m < fu → f9_lowest_L6 fu (lN x) (lN y) K = K (lN (Nat.gcd x y)) (lN 0) := by
  intro m
  induction m with
  | zero =>
    intro x y fu h1 hx hy hf
    obtain ⟨f, rfl⟩ : ∃ f, fu = f + 1 := ⟨fu - 1, by omega⟩
    have e : y = 0 := by
      have : (2 : Nat) ^ 0 = 1 := rfl
      omega
    subst e
    rw [lw_zero (R := Nat), Nat.gcd_zero_right]
  | succ m ih =>
    intro x y fu h1 hx hy hf
    obtain ⟨f, rfl⟩ : ∃ f, fu = f + 1 + 1 := ⟨fu - 2, by omega⟩
    rcases Nat.eq_zero_or_pos y with e | h0
    · subst e
      rw [lw_zero (R := Nat), Nat.gcd_zero_right]
    · have hz := Nat.mod_lt x h0
      rw [lw_step hx hy h0, gcd_st h0]
      rcases Nat.eq_zero_or_pos (x % y) with e | hz0
      · rw [e, lw_zero (R := Nat), Nat.gcd_zero_right]
      · rw [lw_step hy (by omega) hz0, gcd_st hz0]
        have hw := Nat.mod_lt y hz0
        exact ih _ _ _ (mod2 h1 hz0 hz) (by omega) (by omega) (by omega)
/-- both sides part a fraction alike -/
theorem f2_part_s {A D : Nat} (hA : A < 2 ^ 63) (hD : D < 2 ^ 63) (h0 : 0 < D) (p : Int32) : f2_part (lN A) (lN D) p = some (if p = 0 then lN (A / Nat.gcd A D) else lN (D / Nat.gcd A D)) := by
  have hg : 0 < Nat.gcd A D := Nat.gcd_pos_of_pos_right A h0
  have hgl : Nat.gcd A D < 2 ^ 63 := Nat.lt_of_le_of_lt (Nat.gcd_le_right A h0) hD
  have hc : f2_commonDivisor (lN A) (lN D) = some (lN (Nat.gcd A D)) := by
    simp only [f2_commonDivisor, jnE]
    rw [n0]
    exact cd_main 63 A D 0 FU hD hA hD (by omega) (FU_lt (by omega))
  unfold f2_part
  rw [hc, Option.bind_some, lc0 hgl, if_neg (by omega)]
  simp only [jnE]
  rw [nzN hgl hg, gd_t, gd_t, pk_lDiv hA hg hgl, pk_lDiv hD hg hgl]
  by_cases h : p = 0
  · rw [if_pos h, if_pos h]
  · rw [if_neg h, if_neg h]
theorem f9_lowest_s {A D : Nat} (hA : A < 2 ^ 63) (hD : D < 2 ^ 63) (h0 : 0 < D) (ab be : Int64) : f9_lowest ab be (lN A) (lN D) = some (lN (A / Nat.gcd A D), lN (D / Nat.gcd A D)) := by
  have hg : 0 < Nat.gcd A D := Nat.gcd_pos_of_pos_right A h0
  have hgl : Nat.gcd A D < 2 ^ 63 := Nat.lt_of_le_of_lt (Nat.gcd_le_right A h0) hD
  simp only [f9_lowest, jnE]
  rw [lw_main _ 63 A D FU hD hA hD (FU_lt (by omega)), nzN hgl hg, gd_t, gd_t, pk_lDiv hA hg hgl, pk_lDiv hD hg hgl]
/-! ===== rate ===== -/
section RA
variable {P C : Nat} {siz law hom hub one fac sea fou byc msiz mtow mhub mone mcla mlaw : Nat → Int32}
def loN (fou byc : Nat → Int32) : Nat → Nat := cntN (fun c => ¬ fou c = -9 ∧ ¬ byc c = 0)
def ofN (fou byc : Nat → Int32) : Nat → Nat := cntN (fun c => (¬ fou c = -9 ∧ ¬ byc c = 0) ∧ fou c = 1)
theorem f8_rate_in (hC : C ≤ 9) (K : Int32 → Int32 → Int32 → Option Int32) : f8_rate_L18 (nI C) byc fou FU 0 0 0 K = K (nI (loN fou byc C)) (nI (ofN fou byc C)) (nI C) := by
  refine lup0 (fun fu i (x : Int32 × Int32) => f8_rate_L18 (nI C) byc fou fu x.1 x.2 i K) C (fun i => (nI (loN fou byc i), nI (ofN fou byc i))) (fun fu i hi => ?_) (fun fu => ?_) (s0 := (0, 0)) rfl (FU_lt (by omega))
  · simp only [f8_rate_L18, jnE]
    rw [if_neg (nI_ge hi (by omega)), gdi (by omega) (by omega), gdi (by omega) (by omega), gdi (by omega) (by omega), nI_clamp (by omega), nI_1, nI_1, nI_1]
    unfold loN ofN
    rw [cntN, cntN]
    by_cases h1 : fou i = -9
    · rw [if_pos h1, if_neg (fun q => q.1 h1), if_neg (fun q => q.1.1 h1)]
    · rw [if_neg h1]
      by_cases h2 : byc i = 0
      · rw [if_pos h2, if_neg (fun q => q.2 h2), if_neg (fun q => q.1.2 h2)]
      · rw [if_neg h2, if_pos (show ¬ fou i = -9 ∧ ¬ byc i = 0 from ⟨h1, h2⟩)]
        by_cases h3 : fou i = 1
        · rw [if_pos h3, if_pos (show (¬ fou i = -9 ∧ ¬ byc i = 0) ∧ fou i = 1 from ⟨⟨h1, h2⟩, h3⟩)]
        · rw [if_neg h3, if_neg (fun q => h3 q.2)]
  · simp only [f8_rate_L18]
    rw [if_pos (nI_le (Nat.le_refl _) (by omega))]
theorem f9_rate_in (B : RBx P C siz law hom hub one fac sea fou byc msiz mtow mhub mone mcla mlaw) (K : Int32 → Int32 → Int32 → Option (Int32 × Int64 × Int64)) : f9_rate_L16 (nI C) mcla FU 0 0 0 K = K (nI (loN fou byc C)) (nI (ofN fou byc C)) (nI C) := by
  have hC := B.2.1
  refine lup0 (fun fu i (x : Int32 × Int32) => f9_rate_L16 (nI C) mcla fu x.1 x.2 i K) C (fun i => (nI (loN fou byc i), nI (ofN fou byc i))) (fun fu i hi => ?_) (fun fu => ?_) (s0 := (0, 0)) rfl (FU_lt (by omega))
  · have w9 : f9_its mcla (nI i) 9 = some (mcla (11 * i + 9)) := f9_its_s (c := i) (w := 9) (by omega) (by omega)
    have w10 : f9_its mcla (nI i) 10 = some (mcla (11 * i + 10)) := f9_its_s (c := i) (w := 10) (by omega) (by omega)
    have hb := B.2.2.2.2.2.2.2.2.2.2.2.2.1 i hi
    have hb01 := B.2.2.2.2.2.2.2.2.2.2.2.2.2 i (by omega)
    have e1 : ¬ (1 : Int32) = 0 := by decide
    simp only [f9_rate_L16, jnE]
    rw [if_neg (nI_ge hi (by omega)), w9, w10, hb]
    simp only [bsE]
    unfold loN ofN
    rw [cntN, cntN, nI_1]
    rcases B.2.2.2.2.2.2.2.2.2.2.2.1 i hi with ⟨a, b⟩ | ⟨a, b⟩ | ⟨a, b⟩
    · rw [a, b, if_pos (by decide), if_pos trivial, if_pos trivial, if_neg (fun q => q.1 rfl), if_neg (fun q => q.1.1 rfl), Int32.add_zero, Int32.add_zero]
    · rw [a, b, if_neg (by decide)]
      rcases hb01 with e | e
      · rw [e, if_neg (by decide), if_pos trivial, if_pos trivial, if_neg (fun q => q.2 rfl), if_neg (fun q => q.1.2 rfl), Int32.add_zero, Int32.add_zero]
      · rw [e, if_pos rfl, if_neg e1, if_neg e1, if_neg (by decide), if_pos ⟨by decide, by decide⟩, if_neg (fun q => absurd q.2 (by decide)), Int32.add_zero, nI_1]
    · rw [a, b, if_neg (by decide)]
      rcases hb01 with e | e
      · rw [e, if_neg (by decide), if_pos trivial, if_pos trivial, if_neg (fun q => q.2 rfl), if_neg (fun q => q.1.2 rfl), Int32.add_zero, Int32.add_zero]
      · rw [e, if_pos rfl, if_neg e1, if_neg e1, if_pos (by decide), if_pos ⟨by decide, by decide⟩, if_pos ⟨⟨by decide, by decide⟩, rfl⟩, nI_1, nI_1]
  · simp only [f9_rate_L16]
    rw [if_pos (nI_le (Nat.le_refl _) (by omega))]
end RA
theorem op_rate : Op_rate Rl := by
  intro r g u h p1 hR
  have hR0 := hR
  obtain ⟨⟨P, C, e0, e30, e1, e31, ez, B⟩, hM, hRR, hK, hT, hW, hH, hS, hP⟩ := hR
  have hC := B.2.1
  rw [e1, e31]
  by_cases h1 : inN p1 2
  · have hl : loN (g 9) (g 10) C ≤ C := cntN_le _ C
    have ho : ofN (g 9) (g 10) C ≤ C := cntN_le _ C
    by_cases h2 : loN (g 9) (g 10) C = 0
    · refine ⟨-3, u 1, u 2, ?_, ?_, hR0⟩
      · unfold f8_rate
        rw [gS, if_pos h1]
        simp only [jnE]
        rw [f8_rate_in hC, h2, if_pos (show nI 0 = 0 from rfl)]
      · unfold f9_rate
        rw [f9_isSide_s, Option.bind_some, gI, if_pos h1]
        simp only [jnE]
        rw [f9_rate_in B, h2, if_pos (show nI 0 = 0 from rfl)]
    · have hn : ¬ nI (loN (g 9) (g 10) C) = 0 := nI_ne0 (by omega) (by omega)
      have p9 := f2_part_s (A := ofN (g 9) (g 10) C) (D := loN (g 9) (g 10) C) (by omega) (by omega) (by omega) p1
      have q9 := f9_lowest_s (A := ofN (g 9) (g 10) C) (D := loN (g 9) (g 10) C) (by omega) (by omega) (by omega) (u 1) (u 2)
      refine ⟨(if p1 = 0 then lN (ofN (g 9) (g 10) C / Nat.gcd (ofN (g 9) (g 10) C) (loN (g 9) (g 10) C)) else lN (loN (g 9) (g 10) C / Nat.gcd (ofN (g 9) (g 10) C) (loN (g 9) (g 10) C))).toInt32, lN (ofN (g 9) (g 10) C / Nat.gcd (ofN (g 9) (g 10) C) (loN (g 9) (g 10) C)), lN (loN (g 9) (g 10) C / Nat.gcd (ofN (g 9) (g 10) C) (loN (g 9) (g 10) C)), ?_, ?_, hR0⟩
      · unfold f8_rate
        rw [gS, if_pos h1]
        simp only [jnE]
        rw [f8_rate_in hC, if_neg hn, nI_l (by omega), nI_l (by omega), p9, Option.bind_some]
      · unfold f9_rate
        rw [f9_isSide_s, Option.bind_some, gI, if_pos h1]
        simp only [jnE]
        rw [f9_rate_in B, if_neg hn, nI_l (by omega), nI_l (by omega), q9, bn2E]
        by_cases h3 : p1 = 0
        · rw [if_pos h3, if_pos h3]
        · rw [if_neg h3, if_neg h3]
  · refine ⟨-1, u 1, u 2, ?_, ?_, hR0⟩
    · unfold f8_rate
      rw [gS, if_neg h1]
    · unfold f9_rate
      rw [f9_isSide_s, Option.bind_some, gI, if_neg h1]
