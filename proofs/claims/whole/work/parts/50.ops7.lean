/-! ===== feed ===== -/
def byte8 (p : Int64) (x : Int32) : Int32 := ((p.toUInt64 >>> (((8) * x).toInt64.toUInt64 &&& Int64.toUInt64 63)).toInt64).toInt32 &&& (255)
def byte9 (p : Int64) (x : Int32) : Int32 := ((p >>> (((8) * x).toInt64 &&& 63)) &&& (255 : Int64)).toInt32
theorem eight {P : Nat → Prop} (h0 : P 0) (h1 : P 1) (h2 : P 2) (h3 : P 3) (h4 : P 4) (h5 : P 5) (h6 : P 6) (h7 : P 7) (i : Nat) (hi : i < 8) : P i := by
  have : i = 0 ∨ i = 1 ∨ i = 2 ∨ i = 3 ∨ i = 4 ∨ i = 5 ∨ i = 6 ∨ i = 7 := by omega
  rcases this with rfl | rfl | rfl | rfl | rfl | rfl | rfl | rfl <;> assumption
theorem byteA (p : Int64) (a : UInt64) (b : Int64) (k : Nat) (hk : k < 57) (ha : a.toBitVec.toNat = k) (hb : b.toBitVec.toNat = k) : ((p.toUInt64 >>> a).toInt64).toInt32 &&& 255 = ((p >>> b) &&& (255 : Int64)).toInt32 := by
  apply Int32.toBitVec_inj.mp
  rw [Int32.toBitVec_and, Int64.toBitVec_toInt32, Int64.toBitVec_toInt32, Int64.toBitVec_and, Int64.toBitVec_shiftRight]
  have e1 : ((p.toUInt64 >>> a).toInt64).toBitVec = p.toBitVec >>> k := by
    show (p.toUInt64 >>> a).toBitVec = _
    rw [UInt64.toBitVec_shiftRight]
    show p.toBitVec >>> (a.toBitVec % 64).toNat = _
    rw [BitVec.toNat_umod, ha]
    congr 1
    exact Nat.mod_eq_of_lt (by show k < 64; omega)
  have e2 : (b.toBitVec.smod 64).toNat = k := by
    have : b.toBitVec = BitVec.ofNat 64 k := BitVec.eq_of_toNat_eq (by rw [hb, BitVec.toNat_ofNat, Nat.mod_eq_of_lt (by omega)])
    rw [this]
    revert k
    intro k hk _ _ _ _
    have : ∀ k, k < 57 → ((BitVec.ofNat 64 k).smod 64).toNat = k := by decide +kernel
    exact this k hk
  have f1 : ∀ i, i < 32 → (255#32).getLsbD i = decide (i < 8) := by decide
  have f2 : ∀ i, i < 32 → (255#64).getLsbD i = decide (i < 8) := by decide
  rw [e1, show p.toBitVec.sshiftRight' (b.toBitVec.smod 64) = p.toBitVec.sshiftRight (b.toBitVec.smod 64).toNat from rfl, e2]
  apply BitVec.eq_of_getLsbD_eq
  intro i hi
  rw [BitVec.getLsbD_and, BitVec.getLsbD_signExtend, BitVec.getLsbD_signExtend, BitVec.getLsbD_and, BitVec.getLsbD_ushiftRight, BitVec.getLsbD_sshiftRight]
  rw [show ((255 : Int32).toBitVec).getLsbD i = decide (i < 8) from f1 i hi, show ((255 : Int64).toBitVec).getLsbD i = decide (i < 8) from f2 i hi, if_pos (by omega), if_pos (by omega)]
  by_cases h8 : i < 8
  · rw [if_pos (by omega), show decide (64 ≤ i) = false from decide_eq_false (by omega), Bool.not_false, Bool.true_and, Bool.and_assoc]
  · rw [decide_eq_false h8, Bool.and_false, Bool.and_false, Bool.and_false]
theorem byte_eq (p : Int64) : ∀ i, i < 8 → byte8 p (nI i) = byte9 p (nI i) := by
  refine eight ?_ ?_ ?_ ?_ ?_ ?_ ?_ ?_
  · exact byteA p _ _ 0 (by decide) (by decide) (by decide)
  · exact byteA p _ _ 8 (by decide) (by decide) (by decide)
  · exact byteA p _ _ 16 (by decide) (by decide) (by decide)
  · exact byteA p _ _ 24 (by decide) (by decide) (by decide)
  · exact byteA p _ _ 32 (by decide) (by decide) (by decide)
  · exact byteA p _ _ 40 (by decide) (by decide) (by decide)
  · exact byteA p _ _ 48 (by decide) (by decide) (by decide)
  · exact byteA p _ _ 56 (by decide) (by decide) (by decide)
theorem byte_b (p : Int64) (x : Int32) : ∃ b : Nat, b < 256 ∧ byte8 p x = nI b := pk_andE _ 8 (by decide)
theorem op_feed : Op_feed Rl := by
  intro r g u h p1 p3 hR
  have hR0 := hR
  obtain ⟨hB, hM, hRR, hK, ⟨n, hn, e1, e2, hb⟩, hW, hH, hS, hP⟩ := hR
  have bad : ∀ v : Int32, f8_feed (r 15) (g 33) p1 p3 = some (v, r 15, g 33) → f9_feed (r 34) (g 62) p1 p3 = some (v, r 34, g 62) → ∃ v a1 a2 b1 b2, f8_feed (r 15) (g 33) p1 p3 = some (v, a1, a2) ∧ f9_feed (r 34) (g 62) p1 p3 = some (v, b1, b2) ∧ Rl (lkp (lkp r [(15, a1)]) [(34, b1)]) (lkp (lkp g [(33, a2)]) [(62, b2)]) u h :=
    fun v e8 e9 => ⟨v, _, _, _, _, e8, e9, hR0⟩
  rcases rng p3 1 8 (by omega) (by omega) with ⟨k, hk1, hk2, rfl⟩ | hx
  · by_cases h2 : n + k ≤ 200
    · refine ⟨nI (n + k), nI (n + k), fun j => if n ≤ j ∧ j < n + k then byte8 p1 (nI (j - n)) else g 33 j, nI (n + k), fun j => if n ≤ j ∧ j < n + k then byte9 p1 (nI (j - n)) else g 62 j, ?_, ?_, hB, hM, hRR, hK, ⟨n + k, h2, rfl, rfl, fun i hi => ?_⟩, hW, hH, hS, hP⟩
      · unfold f8_feed
        rw [e1, if_neg (nnl n1 hk1 (by omega)), if_pos (show nI k ≤ 8 from nI_le (b := 8) hk2 (by omega)), nI_add, if_pos (show nI (n + k) ≤ 200 from nI_le (b := 200) h2 (by omega))]
        simp only [jn]
        refine lup0 (fun fu i (s : Int32 × (Nat → Int32)) => f8_feed_L34 p1 (nI k) fu i s.1 s.2 fun _ c2 c3 => some (c2, c2, c3)) k (fun i => (nI (n + i), fun j => if n ≤ j ∧ j < n + i then byte8 p1 (nI (j - n)) else g 33 j)) (s0 := (nI n, g 33)) (fun fu i hi => ?_) (fun fu => ?_) (Prod.ext rfl (funext fun j => if_neg (by omega))) (FU_lt (by omega))
        · simp only [f8_feed_L34]
          rw [if_neg (nI_ge hi (by omega))]
          unfold f4_append
          rw [show (200 : Int32) = nI 200 from rfl, if_neg (nI_ge (by omega) (by omega)), gdi (by omega) (by omega), nI_1, nI_clamp (by omega), nI_1]
          show f8_feed_L34 p1 (nI k) fu (nI (i + 1)) (nI (n + i + 1)) (upd _ (n + i) (byte8 p1 (nI i))) _ = _
          congr 1; funext j
          by_cases e : j = n + i
          · rw [updS e, if_pos (by omega), show j - n = i by omega]
          · rw [upd_n e]; simp only [show (n ≤ j ∧ j < n + (i + 1)) ↔ (n ≤ j ∧ j < n + i) by omega]
        · simp only [f8_feed_L34]
          rw [if_pos (nI_le (Nat.le_refl _) (by omega))]
      · unfold f9_feed
        rw [e2, f9_in_s, Option.bind_some, if_pos (show (1 : Int32) ≤ nI k ∧ nI k ≤ 8 from ⟨nI_le (a := 1) hk1 (by omega), nI_le (b := 8) hk2 (by omega)⟩), if_neg (by decide), nI_add, if_pos (show nI (n + k) ≤ 200 from nI_le (b := 200) h2 (by omega))]
        simp only [jn]
        refine lup0 (fun fu i (s : Int32 × (Nat → Int32)) => f9_feed_L30 p1 (nI k) fu i s.1 s.2 fun _ c3 c4 => some (c3, c3, c4)) k (fun i => (nI (n + i), fun j => if n ≤ j ∧ j < n + i then byte9 p1 (nI (j - n)) else g 62 j)) (s0 := (nI n, g 62)) (fun fu i hi => ?_) (fun fu => ?_) (Prod.ext rfl (funext fun j => if_neg (by omega))) (FU_lt (by omega))
        · simp only [f9_feed_L30]
          rw [if_neg (nI_ge hi (by omega)), gdi (by omega) (by omega), nI_1, nI_clamp (by omega), nI_1]
          show f9_feed_L30 p1 (nI k) fu (nI (i + 1)) (nI (n + i + 1)) (upd _ (n + i) (byte9 p1 (nI i))) _ = _
          congr 1; funext j
          by_cases e : j = n + i
          · rw [updS e, if_pos (by omega), show j - n = i by omega]
          · rw [upd_n e]; simp only [show (n ≤ j ∧ j < n + (i + 1)) ↔ (n ≤ j ∧ j < n + i) by omega]
        · simp only [f9_feed_L30]
          rw [if_pos (nI_le (Nat.le_refl _) (by omega))]
      · show (if n ≤ i ∧ i < n + k then byte9 p1 (nI (i - n)) else g 62 i) = (if n ≤ i ∧ i < n + k then byte8 p1 (nI (i - n)) else g 33 i) ∧ ∃ b : Nat, b < 256 ∧ (if n ≤ i ∧ i < n + k then byte8 p1 (nI (i - n)) else g 33 i) = nI b
        by_cases e : n ≤ i ∧ i < n + k
        · rw [if_pos e, if_pos e]; exact ⟨(byte_eq p1 _ (by omega)).symm, byte_b p1 _⟩
        · rw [if_neg e, if_neg e]; exact hb i (by omega)
    · refine bad (-2) ?_ ?_
      · unfold f8_feed
        rw [e1, if_neg (nnl n1 hk1 (by omega)), if_pos (show nI k ≤ 8 from nI_le (b := 8) hk2 (by omega)), nI_add, if_neg (show ¬ nI (n + k) ≤ 200 from nI_ge (b := n + k) (a := 200) (by omega) (by omega))]
      · unfold f9_feed
        rw [e2, f9_in_s, Option.bind_some, if_pos (show (1 : Int32) ≤ nI k ∧ nI k ≤ 8 from ⟨nI_le (a := 1) hk1 (by omega), nI_le (b := 8) hk2 (by omega)⟩), if_neg (by decide), nI_add, if_neg (show ¬ nI (n + k) ≤ 200 from nI_ge (b := n + k) (a := 200) (by omega) (by omega))]
  · refine bad (-1) ?_ ?_
    · unfold f8_feed
      by_cases hp : p3 < 1
      · rw [if_pos hp]
      · rw [if_neg hp, if_neg]
        intro hq
        refine hx ⟨?_, hq⟩
        rw [Int32.lt_iff_toInt_lt] at hp
        rw [Int32.le_iff_toInt_le]
        have : (nI 1).toInt = (1 : Int32).toInt := rfl
        omega
    · unfold f9_feed
      rw [f9_in_s, Option.bind_some, if_neg (show ¬ ((1 : Int32) ≤ p3 ∧ p3 ≤ 8) from hx), if_pos rfl]
