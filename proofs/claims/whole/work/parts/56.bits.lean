/-! ===== equations that simp uses with congruences ===== -/
theorem bsE {α β : Type} (a : α) (f : α → Option β) : Option.bind (some a) f = f a := by unfold Option.bind; exact Eq.refl _
theorem bn2E {A B γ : Type} (a : A) (b : B) (k : A → B → Option γ) : bn2 (some (a, b)) k = k a b := by unfold bn2; exact bsE _ _
theorem bn3E {A B C γ : Type} (a : A) (b : B) (c : C) (k : A → B → C → Option γ) : bn3 (some (a, b, c)) k = k a b c := by unfold bn3; exact bsE _ _
theorem bn4E {A B C D γ : Type} (a : A) (b : B) (c : C) (d : D) (k : A → B → C → D → Option γ) : bn4 (some (a, b, c, d)) k = k a b c d := by unfold bn4; exact bsE _ _
theorem bn5E {A B C D E γ : Type} (a : A) (b : B) (c : C) (d : D) (e : E) (k : A → B → C → D → E → Option γ) : bn5 (some (a, b, c, d, e)) k = k a b c d e := by unfold bn5; exact bsE _ _
/-! ===== sets as bits ===== -/
theorem bx_sl : ∀ n, n < 32 → ((nI n &&& 31).toBitVec.smod 32).toNat = n := by decide +kernel
theorem bx_or (a b : Nat) : nI a ||| nI b = nI (a ||| b) := by
  apply Int32.toBitVec_inj.1
  show BitVec.ofNat 32 a ||| BitVec.ofNat 32 b = BitVec.ofNat 32 (a ||| b)
  apply BitVec.eq_of_getLsbD_eq
  intro i hi
  simp [hi]
theorem bx_and (a b : Nat) : nI a &&& nI b = nI (a &&& b) := by
  apply Int32.toBitVec_inj.1
  show BitVec.ofNat 32 a &&& BitVec.ofNat 32 b = BitVec.ofNat 32 (a &&& b)
  apply BitVec.eq_of_getLsbD_eq
  intro i hi
  simp [hi]
theorem bx_pow {k : Nat} (hk : k < 31) : (1 : Int32) <<< (nI k &&& 31) = nI (2 ^ k) := by
  have hp : 2 ^ k < 2 ^ 32 := Nat.pow_lt_pow_right (by decide) (by omega)
  have h := pk_shlN (n := 1) (nI k &&& 31) k (bx_sl k (by omega)) (by omega)
  rw [Nat.one_mul] at h
  exact h
theorem bx_tb {s a : Nat} (hs : s < 2 ^ 31) (ha : a < 32) : (nI s >>> (nI a &&& 31)) &&& 1 = if s.testBit a = true then 1 else 0 := by
  rw [pk_shrN hs _ a (bx_sl a ha), n1, bx_and, Nat.and_one_is_mod, Nat.testBit_eq_decide_div_mod_eq]
  by_cases h : s / 2 ^ a % 2 = 1
  · rw [h, decide_eq_true rfl, if_pos rfl]
  · have h0 : s / 2 ^ a % 2 = 0 := by omega
    rw [h0, decide_eq_false (by decide), if_neg (by decide)]; rfl
theorem bx_t0 {s a : Nat} (hs : s < 2 ^ 31) (ha : a < 32) {R : Type} (X Y : R) : (if (nI s >>> (nI a &&& 31)) &&& 1 = 0 then X else Y) = if s.testBit a = true then Y else X := by
  rw [bx_tb hs ha]
  by_cases h : s.testBit a = true
  · rw [if_pos h, if_pos h, if_neg (by decide)]
  · rw [if_neg h, if_neg h, if_pos rfl]
theorem bx_t1 {s a : Nat} (hs : s < 2 ^ 31) (ha : a < 32) {R : Type} (X Y : R) : (if (nI s >>> (nI a &&& 31)) &&& 1 = 1 then X else Y) = if s.testBit a = true then X else Y := by
  rw [bx_tb hs ha]
  by_cases h : s.testBit a = true
  · rw [if_pos h, if_pos h, if_pos rfl]
  · rw [if_neg h, if_neg h, if_neg (by decide)]
/-- the bits of the first n with p -/
def bmN (p : Nat → Prop) [DecidablePred p] : Nat → Nat
  | 0 => 0
  | n + 1 => bmN p n ||| (if p n then 2 ^ n else 0)
theorem bmN_tb (p : Nat → Prop) [DecidablePred p] : ∀ n i, (bmN p n).testBit i = decide (i < n ∧ p i)
  | 0, i => by
    rw [bmN, Nat.zero_testBit, decide_eq_false (by omega)]
  | n + 1, i => by
    rw [bmN, Nat.testBit_or, bmN_tb p n i]
    by_cases h : p n
    · rw [if_pos h, Nat.testBit_two_pow]
      by_cases e : n = i
      · subst e; rw [decide_eq_false (by omega), decide_eq_true rfl, decide_eq_true ⟨by omega, h⟩]; rfl
      · rw [decide_eq_false e, Bool.or_false]
        exact decide_eq_decide.mpr ⟨fun q => ⟨by omega, q.2⟩, fun q => ⟨by omega, q.2⟩⟩
    · rw [if_neg h, Nat.zero_testBit, Bool.or_false]
      refine decide_eq_decide.mpr ⟨fun q => ⟨by omega, q.2⟩, fun q => ⟨?_, q.2⟩⟩
      rcases Nat.lt_or_ge i n with a | a
      · exact a
      · have e : i = n := by omega
        subst e; exact absurd q.2 h
theorem bmN_lt (p : Nat → Prop) [DecidablePred p] : ∀ n, bmN p n < 2 ^ n
  | 0 => by rw [bmN]; decide
  | n + 1 => by
    rw [bmN]
    refine Nat.or_lt_two_pow ?_ ?_
    · exact Nat.lt_trans (bmN_lt p n) (Nat.pow_lt_pow_right (by decide) (by omega))
    · by_cases h : p n
      · rw [if_pos h]; exact Nat.pow_lt_pow_right (by decide) (by omega)
      · rw [if_neg h]; exact Nat.two_pow_pos _
theorem bmB_N (p : Nat → Prop) [DecidablePred p] : ∀ n, n ≤ 31 → bmB p n = nI (bmN p n)
  | 0, _ => rfl
  | n + 1, hn => by
    rw [bmB, bmN, bmB_N p n (by omega)]
    by_cases h : p n
    · rw [if_pos h, if_pos h, bx_pow (by omega), bx_or]
    · rw [if_neg h, if_neg h]; exact bx_or _ 0
theorem bmB_congr (p q : Nat → Prop) [DecidablePred p] [DecidablePred q] : ∀ n, (∀ i, i < n → (p i ↔ q i)) → bmB p n = bmB q n
  | 0, _ => rfl
  | n + 1, h => by
    rw [bmB, bmB, bmB_congr p q n (fun i hi => h i (by omega))]
    by_cases hp : p n
    · rw [if_pos hp, if_pos ((h n (by omega)).mp hp)]
    · rw [if_neg hp, if_neg (fun hq => hp ((h n (by omega)).mpr hq))]
theorem p512 {C s : Nat} (hC : C ≤ 9) (h : s < 2 ^ C) : s < 512 := Nat.lt_of_lt_of_le h (Nat.pow_le_pow_right (by decide) hC : 2 ^ C ≤ 2 ^ 9)
/-- a set of claims -/
theorem bx_all {C : Nat} (hC : C ≤ 9) : f0_allClaims (nI C) = some (nI (2 ^ C - 1)) := by
  unfold f0_allClaims
  rw [bx_pow (by omega), n1, pk_sub (Nat.two_pow_pos C)]
/-- how many are in a set -/
def pcN (s : Nat) : Nat := cntN (fun i => s.testBit i = true) 9
theorem pc_both : ∀ s, s < 512 → fJ6_bitCount_0f7a4 (nI s) = some (nI (pcN s)) ∧ f9_ones (nI s) = some (nI (pcN s)) := by decide +kernel
theorem pcN_le (s : Nat) : pcN s ≤ 9 := cntN_le _ 9
theorem cntN_congr (p q : Nat → Prop) [DecidablePred p] [DecidablePred q] : ∀ n, (∀ i, i < n → (p i ↔ q i)) → cntN p n = cntN q n
  | 0, _ => rfl
  | n + 1, h => by
    rw [cntN, cntN, cntN_congr p q n (fun i hi => h i (by omega))]
    by_cases hp : p n
    · rw [if_pos hp, if_pos ((h n (by omega)).mp hp)]
    · rw [if_neg hp, if_neg (fun hq => hp ((h n (by omega)).mpr hq))]
theorem cntN_z (p : Nat → Prop) [DecidablePred p] : ∀ n d, (∀ i, n ≤ i → ¬ p i) → cntN p (n + d) = cntN p n
  | _, 0, _ => rfl
  | n, d + 1, h => by
    show cntN p (n + d + 1) = _
    rw [cntN, if_neg (h (n + d) (by omega)), cntN_z p n d h]
theorem tb_high {C s i : Nat} (hs : s < 2 ^ C) (hi : C ≤ i) : ¬ s.testBit i = true := by
  rw [Nat.testBit_lt_two_pow (Nat.lt_of_lt_of_le hs (Nat.pow_le_pow_right (by decide) hi))]
  decide
theorem pcN_C {C s : Nat} (hC : C ≤ 9) (hs : s < 2 ^ C) : cntN (fun i => s.testBit i = true) C = pcN s := by
  have h := cntN_z (fun i => s.testBit i = true) C (9 - C) (fun i hi => tb_high hs hi)
  rw [show C + (9 - C) = 9 by omega] at h
  exact h.symm
