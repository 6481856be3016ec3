theorem draw_w (y : Int32) : ∃ w : Nat, w < 65536 ∧ (y.toUInt32 >>> ((16 : Int32).toUInt32 &&& Int32.toUInt32 31)).toInt32 = nI w := by
  have a := pk_ushr y 16 16 (by decide)
  have hl := y.toBitVec.isLt
  refine ⟨y.toBitVec.toNat / 2 ^ 16, by omega, ?_⟩
  apply Int32.toBitVec_inj.mp
  apply BitVec.eq_of_toNat_eq
  rw [a, pk_tn (by omega)]
theorem op_draw : Op_draw Rl := by
  intro r g u h hR
  have hR0 := hR
  obtain ⟨⟨P, C, e0, e30, e1, e31, ez, B⟩, hM, hRR, hK, hT, hW, hH, hS, hP⟩ := hR
  have hC := B.2.1
  have hcnt := uN_cnt (g 9) C
  have em : nI C - cnt (fun c => ¬ g 9 c = -9) C = nI (uN (g 9) C 0) := by
    rw [cnt_nI, pk_sub (by omega)]; congr 1; omega
  rcases Nat.eq_zero_or_pos (uN (g 9) C 0) with h0 | h0
  · refine ⟨-3, _, _, ?_, ?_, hR0⟩
    · unfold f8_draw
      rw [e1, f0_countFound_s hC, Option.bind_some, em, h0, if_neg (by decide)]
    · unfold f9_draw
      rw [e31, f9_foundMany_s B, Option.bind_some, em, h0, if_pos (show nI 0 = 0 from rfl)]
  · obtain ⟨zz, hzz⟩ : ∃ zz, r 6 * 1103515245 + 12345 = zz := ⟨_, rfl⟩
    obtain ⟨w, hw, ew⟩ := draw_w zz
    have hm : w % uN (g 9) C 0 < uN (g 9) C 0 := Nat.mod_lt _ h0
    obtain ⟨x, x8, x9⟩ := draw_walk (g 9) (g 57) (r 6) zz hC hzz B.2.2.2.2.2.2.2.2.2.2.2.1 C 0 (w % uN (g 9) C 0) FU (by omega) (FU_lt (by omega)) hm (by omega)
    have hn : nz (nI (uN (g 9) C 0)) = true := decide_eq_true (nI_ne0 h0 (by omega))
    refine ⟨x, zz, zz, ?_, ?_, ⟨P, C, e0, e30, e1, e31, rfl, B⟩, hM, hRR, hK, hT, hW, hH, hS, hP⟩
    · unfold f8_draw
      rw [e1, f0_countFound_s hC, Option.bind_some, em, if_pos (show (0 : Int32) < nI (uN (g 9) C 0) from nI_lt (a := 0) h0 (by omega)), hn, gd_t, jnE, hzz, ew, pk_rem (by omega) h0 (by omega), n0]
      exact x8
    · unfold f9_draw
      rw [e31, ez, f9_foundMany_s B, Option.bind_some, em, if_neg (nI_ne0 h0 (by omega)), hn, gd_t, jnE, hzz, ew, pk_rem (by omega) h0 (by omega), n0]
      exact x9
