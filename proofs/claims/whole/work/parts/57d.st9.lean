section ST
variable {P C : Nat} {siz law hom hub one fac sea fou byc msiz mtow mhub mone mcla mlaw : Nat → Int32}
theorem f9_its_f (B : RBx P C siz law hom hub one fac sea fou byc msiz mtow mhub mone mcla mlaw) {c w : Nat} (hc : c < C) (hw : w < 5) : f9_its mcla (nI c) (nI w) = some (fac (c * 5 + w)) := by
  have hC := B.2.1
  rw [f9_its_s (by omega) (by omega), (B.2.2.2.2.2.2.2.2.1 c w hc hw).1]
theorem f9_st_in (B : RBx P C siz law hom hub one fac sea fou byc msiz mtow mhub mone mcla mlaw) {L mlw : Nat → Int32} (hM : ∀ s, s < 4 → mlw s = L s) {x y i : Nat} (hx : x < C) (hy : y < C) (hi : i < 4) (x1 : Int32) (K : Int32 → Int32 → Option Int32) : f9_strengthOf_L38 (nI P) mcla mhub mlw mone (nI x) (nI y) (nI i) FU x1 0 K = K (x1 + smI (fun j => plS P hub one sea L x y i j) 4) (nI 4) := by
  have hP := B.1
  have hC := B.2.1
  refine lup0 (fun fu j (s : Int32) => f9_strengthOf_L38 (nI P) mcla mhub mlw mone (nI x) (nI y) (nI i) fu s j K) 4 (fun j => x1 + smI (fun j => plS P hub one sea L x y i j) j) (fun fu j hj => ?_) (fun fu => ?_) (Int32.add_zero _) (FU_lt (by omega))
  · simp only [f9_strengthOf_L38, jnE]
    rw [if_neg (nge n4 hj (by omega)), f9_oneIn_s B hx hi, Option.bind_some, f9_oneIn_s B hy hj, Option.bind_some, f9_isHubOne_s B, Option.bind_some, nI_1, ← smI_acc]
    have e0 : ¬ (1 : Int32) = 0 := by decide
    rcases oneV_c B hx hi with ⟨h1, -, -⟩ | ⟨p, q, hp, hq, -, -, -, h4⟩
    · have m1 : oneM P one sea x i = -1 := by unfold oneM; rw [h1, if_pos rfl]
      have m2 : plS P hub one sea L x y i j = 0 := if_pos h1
      rw [m1, m2, if_pos (by decide), if_pos trivial, Int32.add_zero]
    · have m1 : oneM P one sea x i = nI q := by unfold oneM; rw [h4, if_neg (nI_ne9 (by omega))]
      rw [m1, if_neg (nI_pos (by omega))]
      by_cases h2 : oneV P one sea y j = nI q
      · have m2 : plS P hub one sea L x y i j = if hubD P one hub (nI q) = true then 0 else L (sgn i j) := by
          unfold plS; rw [h4, h2, if_neg (nI_ne9 (by omega)), if_pos rfl]
        rw [m2, if_pos ((oneM_eq B hy hj (by omega)).mpr h2).symm, if_neg e0]
        cases hubD P one hub (nI q) with
        | true => rw [if_neg (show ¬ b01 true = 0 by decide), if_pos rfl, Int32.add_zero]
        | false =>
          rw [if_pos (show b01 false = 0 from rfl), if_neg (show ¬ false = true by decide)]
          unfold sgn
          have q0 : mlw (0 : Int32).toNatClampNeg = L 0 := hM 0 (by omega)
          have q1 : mlw (1 : Int32).toNatClampNeg = L 1 := hM 1 (by omega)
          have q2 : mlw (2 : Int32).toNatClampNeg = L 2 := hM 2 (by omega)
          have i0 : ix (0 : Int32) 7 = true := by decide
          have i1 : ix (1 : Int32) 7 = true := by decide
          have i2 : ix (2 : Int32) 7 = true := by decide
          rw [q0, q1, q2, i0, i1, i2, gd_t, gd_t, gd_t]
          by_cases e : i = j
          · rw [if_pos (by rw [e]), if_pos e]
          · rw [if_neg (fun q => e (nI_inj (by omega) (by omega) q)), if_neg e, nI_add]
            by_cases e1 : i + j = 1
            · rw [if_pos (by rw [e1]; rfl), if_pos e1]
            · rw [if_neg (show ¬ nI (i + j) = 1 from fun q => e1 (nI_inj (b := 1) (by omega) (by omega) q)), if_neg e1]
      · have m2 : plS P hub one sea L x y i j = 0 := by
          unfold plS; rw [h4, if_neg (nI_ne9 (by omega)), if_neg (fun q => h2 q.symm)]
        rw [m2, if_neg (fun q => h2 ((oneM_eq B hy hj (by omega)).mp q.symm)), if_pos trivial, Int32.add_zero]
  · simp only [f9_strengthOf_L38]
    rw [if_pos (nle n4 (Nat.le_refl _) (by omega))]
theorem f9_st_out {fu : Nat} (hf : 4 < fu) (B : RBx P C siz law hom hub one fac sea fou byc msiz mtow mhub mone mcla mlaw) {L mlw : Nat → Int32} (hM : ∀ s, s < 4 → mlw s = L s) {x y : Nat} (hx : x < C) (hy : y < C) (K : Int32 → Int32 → Option Int32) : f9_strengthOf_L29 (nI P) mcla mhub mlw mone (nI x) (nI y) fu 0 0 K = K (smI (fun i => smI (fun j => plS P hub one sea L x y i j) 4) 4) (nI 4) := by
  refine lup0 (fun fu i (s : Int32) => f9_strengthOf_L29 (nI P) mcla mhub mlw mone (nI x) (nI y) fu s i K) 4 (fun i => smI (fun i => smI (fun j => plS P hub one sea L x y i j) 4) i) (fun fu i hi => ?_) (fun fu => ?_) rfl hf
  · simp only [f9_strengthOf_L29, jnE]
    rw [if_neg (nge n4 hi (by omega)), nI_1, f9_st_in B hM hx hy hi, gSt (fun i => smI (fun j => plS P hub one sea L x y i j) 4) i]
  · simp only [f9_strengthOf_L29]
    rw [if_pos (nle n4 (Nat.le_refl _) (by omega))]
theorem f9_strengthOf_s (B : RBx P C siz law hom hub one fac sea fou byc msiz mtow mhub mone mcla mlaw) {L mlw : Nat → Int32} (hM : ∀ s, s < 4 → mlw s = L s) {a b : Nat} (ha : a < C) (hb : b < C) : f9_strengthOf (nI P) mcla mhub mlw mone (nI a) (nI b) = some (strS P hub one fac sea L a b) := by
  have hP := B.1
  have hC := B.2.1
  have q3 : mlw (3 : Int32).toNatClampNeg = L 3 := hM 3 (by omega)
  have i3 : ix (3 : Int32) 7 = true := by decide
  have w3 : ∀ x, x < C → f9_its mcla (nI x) 3 = some (fac (x * 5 + 3)) := fun x hx => f9_its_f B hx (w := 3) (by omega)
  have hfu : 4 < FU := FU_lt (by omega)
  unfold strS strD f9_strengthOf
  generalize FU = fu at hfu ⊢
  simp only [jnE]
  rcases Nat.lt_or_ge a b with h | h
  · rw [if_neg (nI_ge h (by omega)), if_neg (nI_ge h (by omega)), Nat.min_eq_left (by omega), Nat.max_eq_right (by omega), f9_st_out hfu B hM ha hb]
    simp only [w3 a ha, w3 b hb, q3, i3, gd_t, Option.bind_some, f9_weighs_s B ha, f9_weighs_s B hb]
    by_cases h1 : fac (a * 5 + 3) = 0
    · rw [if_pos h1, if_neg (fun q => q.1 h1)]
    · rw [if_neg h1]
      by_cases h2 : fac (a * 5 + 3) = fac (b * 5 + 3)
      · rw [if_pos h2, if_pos ⟨h1, h2⟩]
      · rw [if_neg h2, if_neg (fun q => h2 q.2)]
  · rw [if_pos (nI_le h (by omega)), if_pos (nI_le h (by omega)), Nat.min_eq_right (by omega), Nat.max_eq_left (by omega), f9_st_out hfu B hM hb ha]
    simp only [w3 a ha, w3 b hb, q3, i3, gd_t, Option.bind_some, f9_weighs_s B ha, f9_weighs_s B hb]
    by_cases h1 : fac (b * 5 + 3) = 0
    · rw [if_pos h1, if_neg (fun q => q.1 h1)]
    · rw [if_neg h1]
      by_cases h2 : fac (b * 5 + 3) = fac (a * 5 + 3)
      · rw [if_pos h2, if_pos ⟨h1, h2⟩]
      · rw [if_neg h2, if_neg (fun q => h2 q.2)]
end ST
