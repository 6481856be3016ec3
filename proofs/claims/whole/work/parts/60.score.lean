/-! ===== scores ===== -/
theorem smI_swap (F : Nat → Nat → Int32) : ∀ m n, smI (fun a => smI (fun b => F a b) n) m = smI (fun b => smI (fun a => F a b) m) n
  | 0, n => by
    rw [smI]
    exact (smI_zero _ n (fun i _ => rfl)).symm
  | m + 1, n => by
    rw [smI, smI_swap F m n]
    have key : ∀ (f g : Nat → Int32) k, smI f k + smI g k = smI (fun i => f i + g i) k := by
      intro f g k
      induction k with
      | zero => rfl
      | succ k ih =>
        rw [smI, smI, smI, ← ih]
        simp only [Int32.add_assoc]
        rw [← Int32.add_assoc (f k), Int32.add_comm (f k), Int32.add_assoc]
    rw [key]
    rfl
theorem smI_cut (G : Nat → Int32) {b : Nat} : ∀ n, b ≤ n → smI (fun a => if a < b then G a else 0) n = smI G b := by
  intro n hn
  obtain ⟨d, rfl⟩ : ∃ d, n = b + d := ⟨n - b, by omega⟩
  clear hn
  induction d with
  | zero => exact smI_congr _ _ b (fun i hi => if_pos hi)
  | succ d ih =>
    show smI (fun a => if a < b then G a else 0) (b + d + 1) = _
    rw [smI, if_neg (by omega), Int32.add_zero, ih]
/-- bonds of a claim with those of a set below it -/
def bdS (W : Nat → Nat → Int32) (c s : Nat) : Int32 := smI (fun o => if s.testBit o = true then W o c else 0) c
/-- the score -/
def scS (W : Nat → Nat → Int32) (cost : Int32) (n s : Nat) : Int32 := smI (fun b => if s.testBit b = true then bdS W b s - cost else 0) n
theorem bdS_congr (W : Nat → Nat → Int32) {c s t : Nat} (h : ∀ i, i < c → s.testBit i = t.testBit i) : bdS W c s = bdS W c t := smI_congr _ _ c (fun i hi => by rw [h i hi])
theorem scS_congr (W : Nat → Nat → Int32) (cost : Int32) {n s t : Nat} (h : ∀ i, i < n → s.testBit i = t.testBit i) : scS W cost n s = scS W cost n t := smI_congr _ _ n (fun i hi => by rw [h i hi, bdS_congr W (fun j hj => h j (by omega))])
theorem scS_new (W : Nat → Nat → Int32) (cost : Int32) {c s : Nat} (hs : s < 2 ^ c) : scS W cost (c + 1) (2 ^ c + s) = scS W cost c s + bdS W c s - cost := by
  show scS W cost c (2 ^ c + s) + (if (2 ^ c + s).testBit c = true then bdS W c (2 ^ c + s) - cost else 0) = _
  have hb : ∀ i, i < c → (2 ^ c + s).testBit i = s.testBit i := fun i hi => Nat.testBit_two_pow_add_gt hi s
  rw [Nat.testBit_two_pow_add_eq, Nat.testBit_lt_two_pow hs, Bool.not_false, if_pos rfl, scS_congr W cost hb, bdS_congr W hb, Int32.sub_eq_add_neg, Int32.sub_eq_add_neg, Int32.add_assoc]
theorem scS_low (W : Nat → Nat → Int32) (cost : Int32) {c s : Nat} (hs : s < 2 ^ c) : scS W cost (c + 1) s = scS W cost c s := by
  show scS W cost c s + (if s.testBit c = true then bdS W c s - cost else 0) = _
  rw [Nat.testBit_lt_two_pow hs, if_neg (by decide), Int32.add_zero]
theorem sc_cost (p : Nat → Prop) [DecidablePred p] (f : Nat → Int32) (cost : Int32) : ∀ n, smI (fun b => if p b then f b - cost else 0) n = (0 - cost * nI (cntN p n)) + smI (fun b => if p b then f b else 0) n
  | 0 => by
    rw [smI, smI, cntN, nI_0, Int32.mul_zero, Int32.sub_zero, Int32.add_zero]
  | n + 1 => by
    rw [smI, smI, cntN, sc_cost p f cost n]
    by_cases h : p n
    · rw [if_pos h, if_pos h, if_pos h, ← nI_1, Int32.mul_add, Int32.mul_one, Int32.sub_eq_add_neg, Int32.sub_eq_add_neg, Int32.sub_eq_add_neg, Int32.neg_add, Int32.sub_eq_add_neg]
      simp only [Int32.add_assoc, Int32.zero_add]
      congr 1
      rw [← Int32.add_assoc, Int32.add_comm]
    · rw [if_neg h, if_neg h, if_neg h, Int32.add_zero, Int32.add_zero]
/-- the reference's sum over pairs -/
theorem sc_pairs (W : Nat → Nat → Int32) (cost : Int32) (C s : Nat) : (0 - cost * nI (cntN (fun i => s.testBit i = true) C)) + smI (fun a => smI (fun b => if a < b then (if s.testBit a = true ∧ s.testBit b = true then W a b else 0) else 0) C) C = scS W cost C s := by
  unfold scS
  rw [sc_cost (fun i => s.testBit i = true) (fun b => bdS W b s), smI_swap]
  congr 1
  refine smI_congr _ _ C (fun b hb => ?_)
  rw [smI_cut (fun a => if s.testBit a = true ∧ s.testBit b = true then W a b else 0) C (by omega)]
  by_cases h : s.testBit b = true
  · rw [if_pos h]
    exact smI_congr _ _ b (fun i _ => by simp only [h, and_true])
  · rw [if_neg h]
    exact smI_zero _ b (fun i _ => by rw [if_neg (fun q => h q.2)])
section SC
variable {P C : Nat} {siz law hom hub one fac sea fou byc msiz mtow mhub mone mcla mlaw : Nat → Int32}
theorem f7_bonds_s (hC : C ≤ 9) {W : Nat → Nat → Int32} {st : Nat → Int32} (hW : ∀ a b, a < C → b < C → st (a * 9 + b) = W a b) {c s : Nat} (hc : c < C) (hs : s < 2 ^ 9) : f7_bonds st (nI c) (nI s) = some (bdS W c s) := by
  simp only [f7_bonds, jnE]
  refine lup0 (fun fu i (x : Int32) => f7_bonds_L5 st (nI c) (nI s) fu x i _) c (fun i => smI (fun o => if s.testBit o = true then W o c else 0) i) (fun fu i hi => ?_) (fun fu => ?_) rfl (FU_lt (by omega))
  · simp only [f7_bonds_L5, jnE]
    rw [if_neg (nI_ge hi (by omega)), bx_t0 (by omega) (by omega), f7_woven_s _ (by omega) (by omega), Option.bind_some, hW i c (by omega) hc, nI_1, smI]
    by_cases h : s.testBit i = true
    · rw [if_pos h, if_pos h]
    · rw [if_neg h, if_neg h, Int32.add_zero]
  · simp only [f7_bonds_L5]
    rw [if_pos (nI_le (Nat.le_refl _) (by omega))]
    rfl
/-- what scoreSets leaves -/
def SVt (C : Nat) (W : Nat → Nat → Int32) (cost : Int32) (o : Option ((Nat → Int32) × (Nat → Int32))) : Prop := ∃ c1 c2, o = some (c1, c2) ∧ (∀ s, s < 2 ^ C → c1 s = scS W cost C s) ∧ ∀ a b, a < C → b < C → c2 (a * 9 + b) = W a b
theorem f7_scoreSets_s (B : RBx P C siz law hom hub one fac sea fou byc msiz mtow mhub mone mcla mlaw) {L : Nat → Int32} {off : Int32} (hL : ∀ s, s < 4 → L s = if nI s = off then 0 else law s) (sc st : Nat → Int32) : SVt C (wvS P hub one fac sea L) (law 4) (f7_scoreSets (nI C) (nI P) fac hub law one sea sc st off) := by
  have hC := B.2.1
  obtain ⟨c1, hw, hW⟩ := f7_weave_s B hL st
  have w4 : f0_law law 4 = some (law 4) := f0_law_s (j := 4) (by omega)
  have i0 : ix (0 : Int32) 512 = true := by decide
  have i1 : (0 : Int32).toNatClampNeg = 0 := by decide
  simp only [f7_scoreSets, jnE]
  rw [hw, Option.bind_some, w4, Option.bind_some, i0, gd_t, i1, n0]
  generalize wvS P hub one fac sea L = W at *
  generalize law 4 = cost at *
  refine lupR (fun fu i (s : Nat → Int32) => f7_scoreSets_L22 (nI C) c1 cost fu i s _) C 0 (fun c sc => ∀ s, s < 2 ^ c → sc s = scS W cost c s) (SVt C W cost) (fun fu c sc h0 hc hI hk => ?_) (fun fu sc hI => ?_) (fun s hs => ?_) (Nat.zero_le _) (FU_lt (by omega))
  · simp only [f7_scoreSets_L22, jnE]
    have hp : 2 ^ c < 2 ^ 9 := Nat.pow_lt_pow_right (by decide) (by omega)
    have hpp : 2 ^ (c + 1) = 2 ^ c + 2 ^ c := by rw [Nat.pow_succ]; omega
    have hp1 : 2 ^ (c + 1) ≤ 2 ^ 9 := Nat.pow_le_pow_right (by decide) (by omega)
    rw [if_neg (nI_ge hc (by omega)), n0]
    refine lupR (fun fu j (s : Nat → Int32) => f7_scoreSets_L34 c1 cost (nI c) fu j s _) (2 ^ c) 0 (fun t sc => (∀ s, s < 2 ^ c → sc s = scS W cost c s) ∧ ∀ s, s < t → sc (2 ^ c + s) = scS W cost (c + 1) (2 ^ c + s)) (SVt C W cost) (fun fu t sc h0 ht hJ hk2 => ?_) (fun fu sc hJ => ?_) ⟨hI, fun s hs => absurd hs (by omega)⟩ (Nat.zero_le _) (FU_lt (by omega))
    · have hor : t ||| 2 ^ c = 2 ^ c + t := by
        have := Nat.two_pow_add_eq_or_of_lt ht 1
        rw [Nat.mul_one] at this
        rw [this, Nat.or_comm]
      simp only [f7_scoreSets_L34]
      rw [bx_pow (by omega), if_neg (nI_ge ht (by omega)), gdi (by omega) (by omega), f7_bonds_s (by omega) hW hc (by omega), Option.bind_some, bx_or, hor, gdi (by omega) (by omega), nI_clamp (by omega), nI_clamp (by omega), nI_1]
      refine hk2 _ ⟨fun s hs => ?_, fun s hs => ?_⟩
      · rw [upd_n (by omega)]; exact hJ.1 s hs
      · by_cases e : s = t
        · subst e
          rw [upd_s, hJ.1 s ht, scS_new W cost ht]
        · rw [upd_n (by omega)]; exact hJ.2 s (by omega)
    · simp only [f7_scoreSets_L34]
      rw [bx_pow (by omega), if_pos (nI_le (Nat.le_refl _) (by omega)), nI_1]
      refine hk _ (fun s hs => ?_)
      rcases Nat.lt_or_ge s (2 ^ c) with h | h
      · rw [hJ.1 s h, scS_low W cost h]
      · have h2 := hJ.2 (s - 2 ^ c) (by omega)
        rw [show 2 ^ c + (s - 2 ^ c) = s by omega] at h2
        exact h2
  · simp only [f7_scoreSets_L22]
    rw [if_pos (nI_le (Nat.le_refl _) (by omega))]
    exact ⟨sc, c1, rfl, hI, hW⟩
  · have : s = 0 := by
      have h1 : (2 : Nat) ^ 0 = 1 := rfl
      omega
    subst this
    rfl
theorem f7_scoreOf_s (sc : Nat → Int32) {s : Nat} (hs : s < 512) : f7_scoreOf sc (nI s) = some (sc s) := by
  unfold f7_scoreOf
  rw [if_neg (not_neg (by omega)), if_neg (nge n512 hs (by omega)), gdi hs (by omega), nI_clamp (by omega)]
/-- the reference's table -/
def MVt (C : Nat) (W : Nat → Nat → Int32) (o : Option (Nat → Int32)) : Prop := ∃ c1, o = some c1 ∧ ∀ a b, a < b → b < C → c1 (9 * a + b) = W a b
theorem ix9r {a b : Nat} : (9 : Int32) * nI a + nI b = nI (9 * a + b) := by rw [n9, pk_mul, nI_add]
theorem f9_findStrengths_s (B : RBx P C siz law hom hub one fac sea fou byc msiz mtow mhub mone mcla mlaw) {L mlw : Nat → Int32} (hM : ∀ s, s < 4 → mlw s = L s) (st : Nat → Int32) : MVt C (wvS P hub one fac sea L) (f9_findStrengths (nI C) (nI P) mcla mhub mlw mone st) := by
  have hC := B.2.1
  simp only [f9_findStrengths, jnE]
  rw [n0]
  refine lupR (fun fu i (s : Nat → Int32) => f9_findStrengths_L2 (nI C) (nI P) mcla mhub mlw mone fu i s _) C 0 (fun i s => ∀ a b, a < b → b < C → a < i → s (9 * a + b) = wvS P hub one fac sea L a b) (MVt C (wvS P hub one fac sea L)) (fun fu i s h0 hi hI hk => ?_) (fun fu s hI => ?_) (fun a b _ _ h => absurd h (by omega)) (Nat.zero_le _) (FU_lt (by omega))
  · simp only [f9_findStrengths_L2, jnE]
    rw [if_neg (nI_ge hi (by omega)), nI_1]
    refine lupR (fun fu j (s : Nat → Int32) => f9_findStrengths_L14 (nI C) (nI P) mcla mhub mlw mone (nI i) fu j s _) C (i + 1) (fun j s => ∀ a b, a < b → b < C → (a < i ∨ (a = i ∧ b < j)) → s (9 * a + b) = wvS P hub one fac sea L a b) (MVt C (wvS P hub one fac sea L)) (fun fu j s h0 hj hJ hk2 => ?_) (fun fu s hJ => ?_) (fun a b ha hb h => hI a b ha hb (by omega)) (by omega) (FU_lt (by omega))
    · simp only [f9_findStrengths_L14]
      rw [if_neg (nI_ge hj (by omega)), f9_strengthOf_s B hM hi hj, Option.bind_some, ix9r, gdi (by omega) (by omega), nI_clamp (by omega), nI_1]
      refine hk2 _ (fun a b ha hb h => ?_)
      by_cases q1 : 9 * a + b = 9 * i + j
      · rw [updS q1, show a = i by omega, show b = j by omega]
        unfold wvS; rw [if_neg (by omega)]
      · rw [upd_n q1]
        exact hJ a b ha hb (by omega)
    · simp only [f9_findStrengths_L14]
      rw [if_pos (nI_le (Nat.le_refl _) (by omega))]
      exact hk _ (fun a b ha hb h => hJ a b ha hb (by omega))
  · simp only [f9_findStrengths_L2]
    rw [if_pos (nI_le (Nat.le_refl _) (by omega))]
    exact ⟨s, rfl, fun a b ha hb => hI a b ha hb (by omega)⟩
theorem f9_scoreOf_s (hC : C ≤ 9) {W : Nat → Nat → Int32} {mlw st : Nat → Int32} {cost : Int32} (h4 : mlw 4 = cost) (hW : ∀ a b, a < b → b < C → st (9 * a + b) = W a b) {s : Nat} (hs : s < 2 ^ C) : f9_scoreOf (nI C) mlw st (nI s) = some (scS W cost C s) := by
  have hs2 := p512 hC hs
  have i4 : ix (4 : Int32) 7 = true := by decide
  have j4 : (4 : Int32).toNatClampNeg = 4 := by decide
  simp only [f9_scoreOf, jnE]
  rw [i4, gd_t, (pc_both s hs2).2, Option.bind_some, j4, h4, ← sc_pairs, pcN_C hC hs]
  refine lup0 (fun fu i (x : Int32) => f9_scoreOf_L16 (nI C) st (nI s) fu x i _) C (fun i => (0 - cost * nI (pcN s)) + smI (fun a => smI (fun b => if a < b then (if s.testBit a = true ∧ s.testBit b = true then W a b else 0) else 0) C) i) (fun fu i hi => ?_) (fun fu => ?_) (Int32.add_zero _) (FU_lt (by omega))
  · simp only [f9_scoreOf_L16, jnE]
    rw [if_neg (nI_ge hi (by omega)), nI_1]
    refine lupA (fun fu j (x : Int32) => f9_scoreOf_L29 (nI C) st (nI s) (nI i) fu x j _) C (i + 1) (fun j => ((0 - cost * nI (pcN s)) + smI (fun a => smI (fun b => if a < b then (if s.testBit a = true ∧ s.testBit b = true then W a b else 0) else 0) C) i) + smI (fun b => if i < b then (if s.testBit i = true ∧ s.testBit b = true then W i b else 0) else 0) j) (fun fu j hij hj => ?_) (fun fu => ?_) (by rw [smI_zero _ _ (fun b hb => if_neg (by omega)), Int32.add_zero]) (by omega) (FU_lt (by omega))
    · simp only [f9_scoreOf_L29, jnE]
      rw [if_neg (nI_ge hj (by omega)), bx_t1 (by omega) (by omega), bx_t1 (by omega) (by omega), ix9r, gdi (by omega) (by omega), nI_clamp (by omega), hW i j (by omega) hj, nI_1, gSt (fun b => if i < b then (if s.testBit i = true ∧ s.testBit b = true then W i b else 0) else 0) j, ← Int32.add_assoc, if_pos (show i < j by omega)]
      by_cases h1 : s.testBit i = true
      · rw [if_pos h1]
        by_cases h2 : s.testBit j = true
        · rw [if_pos h2, if_pos ⟨h1, h2⟩]
        · rw [if_neg h2, if_neg (fun q => h2 q.2)]
      · rw [if_neg h1, if_neg (fun q => h1 q.1)]
    · simp only [f9_scoreOf_L29]
      rw [if_pos (nI_le (Nat.le_refl _) (by omega)), gSt, Int32.add_assoc]
  · simp only [f9_scoreOf_L16]
    rw [if_pos (nI_le (Nat.le_refl _) (by omega))]
end SC
theorem bx_df {C : Nat} (hC : C ≤ 9) (x : Int32) : x &&& (nI (2 ^ C - 1) ^^^ -1) = 0 ↔ inN x (2 ^ C) := by
  have hp9 : 2 ^ C ≤ 2 ^ 9 := Nat.pow_le_pow_right (by decide) hC
  have hp0 := Nat.two_pow_pos C
  have hm : (-1 : Int32).toBitVec = BitVec.allOnes 32 := by decide
  have hx : x &&& (nI (2 ^ C - 1) ^^^ -1) = 0 ↔ ∀ i, i < 32 → C ≤ i → x.toBitVec.getLsbD i = false := by
    rw [← Int32.toBitVec_inj, Int32.toBitVec_and, Int32.toBitVec_xor, hm]
    have hb : ∀ i, (nI (2 ^ C - 1)).toBitVec.getLsbD i = decide (i < C) := by
      intro i
      show (BitVec.ofNat 32 (2 ^ C - 1)).getLsbD i = _
      rw [BitVec.getLsbD_ofNat, Nat.testBit_two_pow_sub_one]
      by_cases h : i < C
      · simp [h, show i < 32 by omega]
      · simp [h]
    constructor
    · intro h i hi hci
      have h2 := congrArg (fun v => BitVec.getLsbD v i) h
      simp only [BitVec.getLsbD_and, BitVec.getLsbD_xor, hb, BitVec.getLsbD_allOnes, hi, decide_eq_false (show ¬ i < C by omega)] at h2
      simpa using h2
    · intro h
      apply BitVec.eq_of_getLsbD_eq
      intro i hi
      rw [BitVec.getLsbD_and, BitVec.getLsbD_xor, hb, BitVec.getLsbD_allOnes]
      by_cases hc : i < C
      · simp [hc, hi]
      · rw [h i hi (by omega)]; simp
  rw [hx]
  constructor
  · intro h
    have hlt : x.toBitVec.toNat < 2 ^ C := by
      refine Nat.lt_pow_two_of_testBit _ (fun i hi => ?_)
      rcases Nat.lt_or_ge i 32 with h2 | h2
      · exact h i h2 hi
      · exact BitVec.getLsbD_of_ge _ _ h2
    have e : x = nI x.toBitVec.toNat := by
      apply Int32.toBitVec_inj.mp
      show x.toBitVec = BitVec.ofNat 32 x.toBitVec.toNat
      rw [BitVec.ofNat_toNat, BitVec.setWidth_eq]
    rw [e]
    exact inN_nI hlt (by omega)
  · intro h
    obtain ⟨k, hk, rfl⟩ := inN_of (by omega) h
    intro i hi hci
    show (BitVec.ofNat 32 k).getLsbD i = false
    rw [BitVec.getLsbD_ofNat, Nat.testBit_lt_two_pow (Nat.lt_of_lt_of_le hk (Nat.pow_le_pow_right (by decide) hci)), Bool.and_false]
theorem op_score : Op_score Rl := by
  intro r g u h p1 hR
  have hR0 := hR
  obtain ⟨⟨P, C, e0, e30, e1, e31, ez, B⟩, hM, hRR, hK, hT, hW, hH, hS, hP⟩ := hR
  have hC := B.2.1
  have hp9 : 2 ^ C ≤ 2 ^ 9 := Nat.pow_le_pow_right (by decide) hC
  have hp0 := Nat.two_pow_pos C
  rw [e0, e30, e1, e31]
  by_cases h1 : inN p1 (2 ^ C)
  · obtain ⟨s, hs, rfl⟩ := inN_of (by omega) h1
    have hs2 := p512 hC hs
    obtain ⟨c1, c2, hh, hsc, hst⟩ := f7_scoreSets_s B (hLall (g 3)) (g 29) (g 28)
    obtain ⟨b1, hb, hbt⟩ := f9_findStrengths_s B (L := g 3) (fun s hs => (B.2.2.2.1 s (by omega)).1) (g 68)
    refine ⟨scS (wvS P (g 5) (g 6) (g 7) (g 8) (g 3)) (g 3 4) C s + 100000, c1, c2, b1, ?_, ?_, hR0⟩
    · unfold f8_score
      rw [bx_all hC, Option.bind_some, if_pos ((bx_df hC _).mpr h1), hh]
      simp only [bn2E, bsE]
      rw [f7_scoreOf_s _ hs2, Option.bind_some, hsc s hs]
    · unfold f9_score f9_isSet
      rw [bx_pow (by omega), n1, pk_sub hp0, show nI (2 ^ C - 1) = nI (2 ^ C) - 1 from (pk_sub hp0).symm, f9_in_n (by omega), Option.bind_some, bI_bz, gd_t, Option.bind_some, gI, if_pos h1, hb, Option.bind_some, f9_scoreOf_s hC ((B.2.2.2.1 4 (by omega)).1) hbt hs, Option.bind_some, Int32.add_comm]
  · refine ⟨-1, g 29, g 28, g 68, ?_, ?_, hR0⟩
    · unfold f8_score
      rw [bx_all hC, Option.bind_some, if_neg (fun q => h1 ((bx_df hC _).mp q))]
    · unfold f9_score f9_isSet
      rw [bx_pow (by omega), n1, pk_sub hp0, show nI (2 ^ C - 1) = nI (2 ^ C) - 1 from (pk_sub hp0).symm, f9_in_n (by omega), Option.bind_some, bI_bz, gd_t, Option.bind_some, gI, if_neg h1]
