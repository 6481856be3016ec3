/-! ===== pure part: what both sides read of people and claims ===== -/
abbrev inN (x : Int32) (n : Nat) : Prop := 0 ≤ x.toInt ∧ x.toInt < n
theorem inN_of {x : Int32} {n : Nat} (hn : n < 2 ^ 31) (h : inN x n) : ∃ k, k < n ∧ x = nI k := ix_of hn (decide_eq_true h)
theorem inN_nI {k n : Nat} (h : k < n) (hn : n < 2 ^ 31) : inN (nI k) n := of_decide_eq_true (ixn h hn)
theorem inN_ix {x : Int32} {n : Nat} (h : inN x n) : ix x n = true := decide_eq_true h
theorem inN_m9 (n : Nat) : ¬ inN (-9) n := fun h => absurd h.1 (by decide)
theorem inN_m1 (n : Nat) : ¬ inN (-1) n := fun h => absurd h.1 (by decide)
theorem z0 : (0 : Int32).toInt = 0 := by decide
theorem nI_m1 {n : Nat} (h : n < 2 ^ 30) : (nI n - 1).toInt = (n : Int) - 1 := pk_sub_toInt (a := n) (b := 1) h (by omega)
theorem lt0 (x : Int32) : x < 0 ↔ x.toInt < 0 := by rw [Int32.lt_iff_toInt_lt, z0]
theorem ltN {n : Nat} (hn : n < 2 ^ 31) (x : Int32) : x < nI n ↔ x.toInt < n := by rw [Int32.lt_iff_toInt_lt, nI_toInt hn]
theorem leN {n : Nat} (hn : n < 2 ^ 31) (x : Int32) : nI n ≤ x ↔ (n : Int) ≤ x.toInt := by rw [Int32.le_iff_toInt_le, nI_toInt hn]
theorem leN' {n : Nat} (hn : n < 2 ^ 31) (x : Int32) : x ≤ nI n ↔ x.toInt ≤ n := by rw [Int32.le_iff_toInt_le, nI_toInt hn]
theorem ltN' {n : Nat} (hn : n < 2 ^ 31) (x : Int32) : nI n < x ↔ (n : Int) < x.toInt := by rw [Int32.lt_iff_toInt_lt, nI_toInt hn]
theorem nlt {a b : Nat} {L : Int32} (e : L = nI b) (h : a < b) (hb : b < 2 ^ 31) : nI a < L := e ▸ nI_lt h hb
theorem nge {a b : Nat} {L : Int32} (e : L = nI b) (h : a < b) (hb : b < 2 ^ 31) : ¬ L ≤ nI a := e ▸ nI_ge h hb
theorem nle {a b : Nat} {L : Int32} (e : L = nI b) (h : b ≤ a) (hb : a < 2 ^ 31) : L ≤ nI a := e ▸ nI_le h hb
theorem nnl {a b : Nat} {L : Int32} (e : L = nI b) (h : b ≤ a) (hb : a < 2 ^ 31) : ¬ nI a < L := e ▸ nI_nlt h hb
/-- two tests, then 1 -/
theorem b2_of {a b : Prop} [Decidable a] [Decidable b] {p : Prop} [Decidable p] (h : p ↔ ¬ a ∧ ¬ b) : (if a then some (0 : Int32) else if b then some (0 : Int32) else some (1 : Int32)) = some (b2 p) := by
  by_cases ha : a
  · rw [if_pos ha, b2_f (fun q => (h.mp q).1 ha)]
  · rw [if_neg ha]
    by_cases hb : b
    · rw [if_pos hb, b2_f (fun q => (h.mp q).2 hb)]
    · rw [if_neg hb, b2_t (h.mpr ⟨ha, hb⟩)]
theorem inN_iff {x : Int32} {n : Nat} (hn : n < 2 ^ 31) : inN x n ↔ ¬ x < 0 ∧ ¬ nI n ≤ x := by
  rw [lt0, leN hn]; unfold inN; omega
theorem decInN (x : Int32) (n : Nat) : inN x n ∨ ¬ inN x n := Decidable.em _
/-- b2 of inN, for both sides -/
def bI (x : Int32) (n : Nat) : Int32 := if 0 ≤ x.toInt ∧ x.toInt < n then 1 else 0
theorem bI_t {x : Int32} {n : Nat} (h : inN x n) : bI x n = 1 := if_pos h
theorem bI_f {x : Int32} {n : Nat} (h : ¬ inN x n) : bI x n = 0 := if_neg h
theorem bI_bz (x : Int32) (n : Nat) : bz (bI x n) = true := by unfold bI; split <;> decide
theorem f0_isPerson_s {n : Nat} (hn : n < 2 ^ 30) (x : Int32) : f0_isPerson (nI n) x = some (bI x n) := by
  unfold f0_isPerson
  exact b2_of (inN_iff (by omega))
theorem f0_isClaim_s {n : Nat} (hn : n < 2 ^ 30) (x : Int32) : f0_isClaim (nI n) x = some (bI x n) := by
  unfold f0_isClaim
  exact b2_of (inN_iff (by omega))
/-- in(v, least, most) -/
theorem f9_in_s (v a b : Int32) : f9_in v a b = some (if a ≤ v ∧ v ≤ b then 1 else 0) := by
  unfold f9_in
  by_cases h1 : v < a
  · rw [if_pos h1, if_neg]
    rintro ⟨h2, -⟩
    rw [Int32.le_iff_toInt_le] at h2; rw [Int32.lt_iff_toInt_lt] at h1; omega
  · rw [if_neg h1]
    by_cases h2 : b < v
    · rw [if_pos h2, if_neg]
      rintro ⟨-, h3⟩
      rw [Int32.le_iff_toInt_le] at h3; rw [Int32.lt_iff_toInt_lt] at h2; omega
    · rw [if_neg h2, if_pos]
      rw [Int32.lt_iff_toInt_lt] at h1 h2
      rw [Int32.le_iff_toInt_le, Int32.le_iff_toInt_le]; omega
theorem f9_in_n {n : Nat} (hn : n < 2 ^ 30) (x : Int32) : f9_in x 0 (nI n - 1) = some (bI x n) := by
  rw [f9_in_s]
  unfold bI
  have e : (0 ≤ x ∧ x ≤ nI n - 1) ↔ (0 ≤ x.toInt ∧ x.toInt < n) := by
    rw [Int32.le_iff_toInt_le, Int32.le_iff_toInt_le, nI_m1 hn, z0]; omega
  by_cases h : 0 ≤ x.toInt ∧ x.toInt < n
  · rw [if_pos h, if_pos (e.mpr h)]
  · rw [if_neg h, if_neg (fun q => h (e.mp q))]
theorem f9_in_k {n : Nat} (hn : n < 2 ^ 30) (x : Int32) : f9_in x 0 (nI n) = some (bI x (n + 1)) := by
  rw [f9_in_s]
  unfold bI
  have e : (0 ≤ x ∧ x ≤ nI n) ↔ (0 ≤ x.toInt ∧ x.toInt < (n + 1 : Nat)) := by
    rw [Int32.le_iff_toInt_le, Int32.le_iff_toInt_le, nI_toInt (by omega), z0]; omega
  by_cases h : 0 ≤ x.toInt ∧ x.toInt < (n + 1 : Nat)
  · rw [if_pos h, if_pos (e.mpr h)]
  · rw [if_neg h, if_neg (fun q => h (e.mp q))]
theorem f9_isPerson_s {n : Nat} (hn : n < 2 ^ 30) (x : Int32) : f9_isPerson (nI n) x = some (bI x n) := by
  unfold f9_isPerson
  rw [f9_in_n hn]
  rw [Option.bind_some]
  rw [bI_bz]; rfl
theorem f9_isClaim_s {n : Nat} (hn : n < 2 ^ 30) (x : Int32) : f9_isClaim (nI n) x = some (bI x n) := by
  unfold f9_isClaim
  rw [f9_in_n hn]
  rw [Option.bind_some]
  rw [bI_bz]; rfl
theorem f9_isSide_s (x : Int32) : f9_isSide x = some (bI x 2) := by
  unfold f9_isSide
  rw [show f9_in x 0 1 = some (bI x 2) from f9_in_k (n := 1) (by decide) x]
  rw [Option.bind_some]
  rw [bI_bz]; rfl
theorem f9_isShelf_s (x : Int32) : f9_isShelf x = some (bI x 4) := by
  unfold f9_isShelf
  rw [show f9_in x 0 3 = some (bI x 4) from f9_in_k (n := 3) (by decide) x]
  rw [Option.bind_some]
  rw [bI_bz]; rfl
theorem f1_isShelf_s (x : Int32) : f1_isShelf x = some (bI x 4) := by
  unfold f1_isShelf
  exact b2_of (inN_iff (n := 4) (by decide))
theorem f1_isSheet_s (x : Int32) : f1_isSheet x = some (bI x 4) := by
  unfold f1_isSheet
  exact b2_of (inN_iff (n := 4) (by decide))
theorem f8_isTown_s (x : Int32) : f8_isTown x = some (bI x 4) := by
  unfold f8_isTown
  exact b2_of (inN_iff (n := 4) (by decide))
/-! indices -/
theorem ix5 {c w : Nat} (hc : c < 9) (hw : w < 5) : nI c * 5 + nI w = nI (c * 5 + w) := by rw [n5, pk_mul, nI_add]
theorem ix4 {c k : Nat} : nI c * 4 + nI k = nI (c * 4 + k) := by rw [n4, pk_mul, nI_add]
theorem ix11 {c w : Nat} : (11 : Int32) * nI c + nI w = nI (11 * c + w) := by rw [n11, pk_mul, nI_add]
section RD
variable {P C : Nat} {one sea fac : Nat → Int32}
/-- who is in a place, as one (-9: nobody) -/
def oneV (P : Nat) (one sea : Nat → Int32) (c k : Nat) : Int32 := if 0 ≤ (sea (c * 4 + k)).toInt ∧ (sea (c * 4 + k)).toInt < P then one (sea (c * 4 + k)).toNatClampNeg else -9
theorem f0_fact_s (hC : C ≤ 9) {c w : Nat} (hc : c < C) (hw : w < 5) : f0_fact (nI C) fac (nI c) (nI w) = some (fac (c * 5 + w)) := by
  unfold f0_fact
  rw [f0_isClaim_s (by omega), bI_t (inN_nI hc (by omega))]
  rw [Option.bind_some]
  rw [if_neg (by decide), if_neg (not_neg (by omega)), if_pos (nlt n5 hw (by omega)), ix5 (by omega) hw, ixn (by omega) (by omega), gd_t, nI_clamp (by omega)]
theorem f0_sitter_s (hC : C ≤ 9) {c k : Nat} (hc : c < C) (hk : k < 4) : f0_sitter (nI C) sea (nI c) (nI k) = some (sea (c * 4 + k)) := by
  unfold f0_sitter
  rw [if_neg (not_neg (by omega)), if_neg (nI_ge hc (by omega)), if_neg (not_neg (by omega)), if_pos (nlt n4 hk (by omega)), ix4, ixn (by omega) (by omega), gd_t, nI_clamp (by omega)]
theorem f0_law_s {law : Nat → Int32} {j : Nat} (hj : j < 7) : f0_law law (nI j) = some (law j) := by
  unfold f0_law
  rw [if_neg (not_neg (by omega)), if_neg (nge n7 hj (by omega)), ixn (by omega) (by omega), gd_t, nI_clamp (by omega)]
theorem f0_oneAt_s (hC : C ≤ 9) (hP : P ≤ 10) {c k : Nat} (hc : c < C) (hk : k < 4) : f0_oneAt (nI C) (nI P) one sea (nI c) (nI k) = some (oneV P one sea c k) := by
  unfold f0_oneAt
  rw [f0_sitter_s hC hc hk]
  rw [Option.bind_some]
  rw [f0_isPerson_s (by omega)]
  rw [Option.bind_some]
  by_cases h : inN (sea (c * 4 + k)) P
  · rw [bI_t h, if_neg (by decide)]
    obtain ⟨q, hq, e⟩ := inN_of (by omega) h
    rw [show oneV P one sea c k = one (sea (c * 4 + k)).toNatClampNeg from if_pos h]
    rw [e, ixn (by omega) (by omega), gd_t]
  · rw [bI_f h, if_pos rfl, show oneV P one sea c k = -9 from if_neg h]
/-- one is in a place of the claim that isn't this one -/
def elsD (P : Nat) (one sea : Nat → Int32) (c : Nat) (pl x : Int32) : Bool := exN (fun k => ¬ nI k = pl ∧ oneV P one sea c k = x) 4
theorem f0_isElsewhere_s (hC : C ≤ 9) (hP : P ≤ 10) {c : Nat} (hc : c < C) (pl x : Int32) : f0_isElsewhere (nI C) (nI P) one sea (nI c) pl x = some (b01 (elsD P one sea c pl x)) := by
  simp only [f0_isElsewhere, jn]
  refine (lupS0 (fun fu i => f0_isElsewhere_L3 (nI C) (nI P) one sea (nI c) pl x fu i (fun _ => some 0)) 4 (fun k => ¬ nI k = pl ∧ oneV P one sea c k = x) (o1 := some 1) (o2 := some 0) (fun fu i hi hp => ?_) (fun fu i hi hp => ?_) (fun fu => ?_) (fu := FU) (by decide)).trans ?_
  · simp only [f0_isElsewhere_L3, jn]
    rw [if_neg (nge n4 hi (by omega)), if_neg hp.1, f0_oneAt_s hC hP hc hi, Option.bind_some, if_pos hp.2]
  · simp only [f0_isElsewhere_L3, jn]
    rw [if_neg (nge n4 hi (by omega)), nI_1]
    by_cases h1 : nI i = pl
    · rw [if_pos h1]
    · rw [if_neg h1, f0_oneAt_s hC hP hc hi, Option.bind_some, if_neg (fun h2 => hp ⟨h1, h2⟩)]
  · simp only [f0_isElsewhere_L3]
    rw [if_pos (nle n4 (Nat.le_refl _) (by omega))]
  · unfold elsD b01
    cases exN (fun k => ¬ nI k = pl ∧ oneV P one sea c k = x) 4 <;> rfl
/-- one is in the claim -/
def inD (P : Nat) (one sea : Nat → Int32) (c : Nat) (x : Int32) : Bool := exN (fun k => oneV P one sea c k = x) 4
theorem f0_isIn_s (hC : C ≤ 9) (hP : P ≤ 10) {c : Nat} (hc : c < C) (x : Int32) : f0_isIn (nI C) (nI P) one sea (nI c) x = some (b01 (inD P one sea c x)) := by
  unfold f0_isIn
  rw [f0_isElsewhere_s hC hP hc, Option.bind_some, b01_bz, gd_t]
  congr 2
  refine exN_congr _ _ 4 (fun k hk => ⟨fun h => h.2, fun h => ⟨fun e => ?_, h⟩⟩)
  have := inN_nI (n := 4) hk (by omega)
  rw [e] at this
  exact inN_m1 4 this
theorem f0_claimsWith_s (hC : C ≤ 9) (hP : P ≤ 10) (x : Int32) : f0_claimsWith (nI C) (nI P) one sea x = some (cnt (fun c => inD P one sea c x = true) C) := by
  simp only [f0_claimsWith, jn]
  refine lup0 (fun fu i (s : Int32) => f0_claimsWith_L4 (nI C) (nI P) one sea x fu s i (fun x1 _ => some x1)) C (fun i => cnt (fun c => inD P one sea c x = true) i) (fun fu i hi => ?_) (fun fu => ?_) rfl (FU_lt (by omega))
  · simp only [f0_claimsWith_L4, jn]
    rw [if_neg (nI_ge hi (by omega)), f0_isIn_s hC hP hi, Option.bind_some, nI_1, cnt]
    cases inD P one sea i x
    · rw [if_pos (show b01 false = 0 from rfl), if_neg (by decide)]
    · rw [if_neg (show ¬ b01 true = 0 by decide), if_pos rfl]
  · simp only [f0_claimsWith_L4]
    rw [if_pos (nI_le (Nat.le_refl _) (by omega))]
theorem f0_seated_s (hC : C ≤ 9) {c : Nat} (hc : c < C) : f0_seated (nI C) sea (nI c) = some (cnt (fun k => ¬ sea (c * 4 + k) = -9) 4) := by
  simp only [f0_seated, jn]
  refine lup0 (fun fu i (s : Int32) => f0_seated_L4 (nI C) sea (nI c) fu s i (fun x1 _ => some x1)) 4 (fun i => cnt (fun k => ¬ sea (c * 4 + k) = -9) i) (fun fu i hi => ?_) (fun fu => ?_) rfl (FU_lt (by omega))
  · simp only [f0_seated_L4, jn]
    rw [if_neg (nge n4 hi (by omega)), f0_sitter_s hC hc hi, Option.bind_some, nI_1, cnt]
    by_cases h : sea (c * 4 + i) = -9
    · rw [if_pos h, if_neg (fun q => q h)]
    · rw [if_neg h, if_pos h]
  · simp only [f0_seated_L4]
    rw [if_pos (nle n4 (Nat.le_refl _) (by omega))]
end RD
