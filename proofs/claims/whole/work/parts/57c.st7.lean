section ST
variable {P C : Nat} {siz law hom hub one fac sea fou byc msiz mtow mhub mone mcla mlaw : Nat → Int32}
theorem gSt (G : Nat → Int32) (n : Nat) : smI G (n + 1) = smI G n + G n := rfl
theorem smI_acc {f : Nat → Int32} {x : Int32} {n : Nat} : x + smI f n + f n = x + smI f (n + 1) := by rw [smI, Int32.add_assoc]
theorem f7_st_in (B : RBx P C siz law hom hub one fac sea fou byc msiz mtow mhub mone mcla mlaw) {L : Nat → Int32} {off : Int32} (hL : ∀ s, s < 4 → L s = if nI s = off then 0 else law s) {a b x y i : Nat} (hx : x < C) (hy : y < C) (hi : i < 4) (e1 : (if nI b < nI a then nI b else nI a) = nI x) (e2 : (if nI a < nI b then nI b else nI a) = nI y) (x1 : Int32) (K : Int32 → Int32 → Option Int32) : f7_strength_L29 (nI C) (nI P) hub law one sea (nI a) (nI b) off (nI i) FU x1 0 K = K (x1 + smI (fun j => plS P hub one sea L x y i j) 4) (nI 4) := by
  refine lup0 (fun fu j (s : Int32) => f7_strength_L29 (nI C) (nI P) hub law one sea (nI a) (nI b) off (nI i) fu s j K) 4 (fun j => x1 + smI (fun j => plS P hub one sea L x y i j) j) (fun fu j hj => ?_) (fun fu => ?_) (Int32.add_zero _) (FU_lt (by omega))
  · simp only [f7_strength_L29]
    rw [if_neg (nge n4 hj (by omega)), e1, e2, f7_placeSign_s B hL hx hy hi hj, Option.bind_some, smI_acc (f := fun j => plS P hub one sea L x y i j), nI_1]
  · simp only [f7_strength_L29]
    rw [if_pos (nle n4 (Nat.le_refl _) (by omega))]
theorem f7_st_out {fu : Nat} (hf : 4 < fu) (B : RBx P C siz law hom hub one fac sea fou byc msiz mtow mhub mone mcla mlaw) {L : Nat → Int32} {off : Int32} (hL : ∀ s, s < 4 → L s = if nI s = off then 0 else law s) {a b x y : Nat} (hx : x < C) (hy : y < C) (e1 : (if nI b < nI a then nI b else nI a) = nI x) (e2 : (if nI a < nI b then nI b else nI a) = nI y) (K : Int32 → Int32 → Option Int32) : f7_strength_L20 (nI C) (nI P) hub law one sea (nI a) (nI b) off fu 0 0 K = K (smI (fun i => smI (fun j => plS P hub one sea L x y i j) 4) 4) (nI 4) := by
  refine lup0 (fun fu i (s : Int32) => f7_strength_L20 (nI C) (nI P) hub law one sea (nI a) (nI b) off fu s i K) 4 (fun i => smI (fun i => smI (fun j => plS P hub one sea L x y i j) 4) i) (fun fu i hi => ?_) (fun fu => ?_) rfl hf
  · simp only [f7_strength_L20, jnE]
    rw [if_neg (nge n4 hi (by omega)), nI_1, f7_st_in B hL hx hy hi e1 e2, gSt (fun i => smI (fun j => plS P hub one sea L x y i j) 4) i]
  · simp only [f7_strength_L20]
    rw [if_pos (nle n4 (Nat.le_refl _) (by omega))]
theorem f7_strength_s (B : RBx P C siz law hom hub one fac sea fou byc msiz mtow mhub mone mcla mlaw) {L : Nat → Int32} {off : Int32} (hL : ∀ s, s < 4 → L s = if nI s = off then 0 else law s) {a b : Nat} (ha : a < C) (hb : b < C) : f7_strength (nI C) (nI P) fac hub law one sea (nI a) (nI b) off = some (strS P hub one fac sea L a b) := by
  have hP := B.1
  have hC := B.2.1
  have hx : min a b < C := by omega
  have hy : max a b < C := by omega
  have e1 := minI (show a < 2 ^ 31 by omega) (show b < 2 ^ 31 by omega)
  have e2 := maxI (show a < 2 ^ 31 by omega) (show b < 2 ^ 31 by omega)
  have hfu : 4 < FU := FU_lt (by omega)
  unfold strS f7_strength
  generalize FU = fu at hfu ⊢
  rw [e1, e2]
  simp only [jnE]
  generalize min a b = x at *
  generalize max a b = y at *
  rw [f7_st_out hfu B hL hx hy e1 e2]
  have w0 : f0_fact (nI C) fac (nI x) 0 = some (fac (x * 5)) := f0_fact_s hC hx (w := 0) (by omega)
  have w3 : f0_fact (nI C) fac (nI x) 3 = some (fac (x * 5 + 3)) := f0_fact_s hC hx (w := 3) (by omega)
  have w4 : f0_fact (nI C) fac (nI x) 4 = some (fac (x * 5 + 4)) := f0_fact_s hC hx (w := 4) (by omega)
  have v0 : f0_fact (nI C) fac (nI y) 0 = some (fac (y * 5)) := f0_fact_s hC hy (w := 0) (by omega)
  have v3 : f0_fact (nI C) fac (nI y) 3 = some (fac (y * 5 + 3)) := f0_fact_s hC hy (w := 3) (by omega)
  have v4 : f0_fact (nI C) fac (nI y) 4 = some (fac (y * 5 + 4)) := f0_fact_s hC hy (w := 4) (by omega)
  have q3 : f7_sign law 3 off = some (L 3) := f7_sign_s hL (s := 3) (by omega)
  simp only [w0, w3, w4, v0, v3, v4, q3, Option.bind_some, f7_weigh_s]
  unfold strD
  by_cases h1 : fac (x * 5 + 3) = 0
  · rw [if_pos h1, if_neg (fun q => q.1 h1), Int32.add_zero]
  · rw [if_neg h1]
    by_cases h2 : fac (x * 5 + 3) = fac (y * 5 + 3)
    · rw [if_pos h2, if_pos ⟨h1, h2⟩]
    · rw [if_neg h2, if_neg (fun q => h2 q.2), Int32.add_zero]
end ST
