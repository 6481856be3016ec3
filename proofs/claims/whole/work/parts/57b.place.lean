section ST
variable {P C : Nat} {siz law hom hub one fac sea fou byc msiz mtow mhub mone mcla mlaw : Nat → Int32}
theorem f9_weighs_s (B : RBx P C siz law hom hub one fac sea fou byc msiz mtow mhub mone mcla mlaw) {c : Nat} (hc : c < C) (v : Int32) : f9_weighs mcla (nI c) v = some (wgh (fac (c * 5)) v (fac (c * 5 + 4))) := by
  have hC := B.2.1
  have w0 : f9_its mcla (nI c) 0 = some (fac (c * 5)) := by
    have h := f9_its_s (mc := mcla) (c := c) (w := 0) (by omega) (by omega)
    rw [(B.2.2.2.2.2.2.2.2.1 c 0 hc (by omega)).1] at h
    exact h
  have w4 : f9_its mcla (nI c) 4 = some (fac (c * 5 + 4)) := by
    have h := f9_its_s (mc := mcla) (c := c) (w := 4) (by omega) (by omega)
    rw [(B.2.2.2.2.2.2.2.2.1 c 4 hc (by omega)).1] at h
    exact h
  unfold f9_weighs wgh
  simp only [jn]
  rw [w0, w4]
  simp only [Option.bind_some, ite_some]
  by_cases hv : v ≤ 0
  · simp only [if_pos hv]
  · simp only [if_neg hv]
/-- the sign that places i and j call for -/
def sgn (i j : Nat) : Nat := if i = j then 0 else if i + j = 1 then 1 else 2
/-- what places i of a, j of b give -/
def plS (P : Nat) (hub one sea L : Nat → Int32) (a b i j : Nat) : Int32 := if oneV P one sea a i = -9 then 0 else if oneV P one sea a i = oneV P one sea b j then (if hubD P one hub (oneV P one sea a i) = true then 0 else L (sgn i j)) else 0
/-- the strength of two claims, the lesser first -/
def strD (P : Nat) (hub one fac sea L : Nat → Int32) (a b : Nat) : Int32 :=
  wgh (fac (b * 5)) (wgh (fac (a * 5)) (smI (fun i => smI (fun j => plS P hub one sea L a b i j) 4) 4 + (if ¬ fac (a * 5 + 3) = 0 ∧ fac (a * 5 + 3) = fac (b * 5 + 3) then L 3 else 0)) (fac (a * 5 + 4))) (fac (b * 5 + 4))
def strS (P : Nat) (hub one fac sea L : Nat → Int32) (a b : Nat) : Int32 := strD P hub one fac sea L (min a b) (max a b)
theorem strS_comm (P : Nat) (hub one fac sea L : Nat → Int32) (a b : Nat) : strS P hub one fac sea L a b = strS P hub one fac sea L b a := by unfold strS; rw [Nat.min_comm, Nat.max_comm]
theorem minI {a b : Nat} (ha : a < 2 ^ 31) (hb : b < 2 ^ 31) : (if nI b < nI a then nI b else nI a) = nI (min a b) := by
  by_cases h : b < a
  · rw [if_pos (nI_lt h ha), Nat.min_eq_right (by omega)]
  · rw [if_neg (nI_nlt (by omega) hb), Nat.min_eq_left (by omega)]
theorem maxI {a b : Nat} (ha : a < 2 ^ 31) (hb : b < 2 ^ 31) : (if nI a < nI b then nI b else nI a) = nI (max a b) := by
  by_cases h : a < b
  · rw [if_pos (nI_lt h hb), Nat.max_eq_right (by omega)]
  · rw [if_neg (nI_nlt (by omega) ha), Nat.max_eq_left (by omega)]
theorem f7_sign_s {L : Nat → Int32} {off : Int32} (hL : ∀ s, s < 4 → L s = if nI s = off then 0 else law s) {s : Nat} (hs : s < 4) : f7_sign law (nI s) off = some (L s) := by
  unfold f7_sign
  rw [hL s hs, f0_law_s (by omega), Option.bind_some, ite_some]
theorem f7_placeSign_s (B : RBx P C siz law hom hub one fac sea fou byc msiz mtow mhub mone mcla mlaw) {L : Nat → Int32} {off : Int32} (hL : ∀ s, s < 4 → L s = if nI s = off then 0 else law s) {a b i j : Nat} (ha : a < C) (hb : b < C) (hi : i < 4) (hj : j < 4) : f7_placeSign (nI C) (nI P) hub law one sea (nI a) (nI i) (nI b) (nI j) off = some (plS P hub one sea L a b i j) := by
  have hP := B.1
  have hC := B.2.1
  unfold f7_placeSign plS
  rw [f0_oneAt_s hC hP ha hi, Option.bind_some, f0_oneAt_s hC hP hb hj, Option.bind_some, f0_isHub_s B, Option.bind_some]
  by_cases h1 : oneV P one sea a i = -9
  · rw [if_pos h1, if_pos h1]
  rw [if_neg h1, if_neg h1]
  by_cases h2 : oneV P one sea a i = oneV P one sea b j
  · rw [if_pos h2, if_pos h2]
    cases hubD P one hub (oneV P one sea a i) with
    | true => rw [if_neg (by decide), if_pos rfl]
    | false =>
      rw [if_pos (show b01 false = 0 from rfl), if_neg (show ¬ false = true by decide)]
      simp only [jn, sgn]
      have q0 : ((f7_sign law 0 off).bind fun v => some v) = some (L 0) := by rw [show f7_sign law 0 off = some (L 0) from f7_sign_s hL (s := 0) (by omega)]; rfl
      have q1 : ((f7_sign law 1 off).bind fun v => some v) = some (L 1) := by rw [show f7_sign law 1 off = some (L 1) from f7_sign_s hL (s := 1) (by omega)]; rfl
      have q2 : ((f7_sign law 2 off).bind fun v => some v) = some (L 2) := by rw [show f7_sign law 2 off = some (L 2) from f7_sign_s hL (s := 2) (by omega)]; rfl
      by_cases e : i = j
      · rw [if_pos (by rw [e]), if_pos e]
        exact q0
      · rw [if_neg (fun q => e (nI_inj (by omega) (by omega) q)), if_neg e, nI_add]
        by_cases e1 : i + j = 1
        · rw [if_pos (by rw [e1]; rfl), if_pos e1]
          exact q1
        · rw [if_neg (show ¬ nI (i + j) = 1 from fun q => e1 (nI_inj (b := 1) (by omega) (by omega) q)), if_neg e1]
          exact q2
  · rw [if_neg h2, if_neg h2]
end ST
