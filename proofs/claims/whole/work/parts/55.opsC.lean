/-! ===== draw ===== -/
/-- the unfound claims among i .. i + d - 1 -/
def uN (fou : Nat → Int32) : Nat → Nat → Nat
  | 0, _ => 0
  | d + 1, i => (if fou i = -9 then 1 else 0) + uN fou d (i + 1)
theorem uN_end (fou : Nat → Int32) : ∀ d i, uN fou (d + 1) i = uN fou d i + (if fou (i + d) = -9 then 1 else 0)
  | 0, i => by simp only [uN, Nat.add_zero, Nat.zero_add]
  | d + 1, i => by
    rw [uN, uN_end fou d (i + 1), uN, show i + 1 + d = i + (d + 1) by omega]; omega
theorem uN_cnt (fou : Nat → Int32) : ∀ n, uN fou n 0 + cntN (fun c => ¬ fou c = -9) n = n
  | 0 => rfl
  | n + 1 => by
    have h := uN_cnt fou n
    rw [uN_end, cntN, Nat.zero_add]
    by_cases e : fou n = -9
    · rw [if_pos e, if_neg (fun q => q e)]; omega
    · rw [if_neg e, if_pos e]; omega
theorem draw_walk {C : Nat} (fou mcla : Nat → Int32) (zz z1 : Int32) (hC : C ≤ 9) (hz : ((zz * (1103515245)) + (12345)) = z1) (hf : ∀ c, c < C → (fou c = -9 ∧ mcla (11 * c + 9) = 0) ∨ (fou c = 0 ∧ mcla (11 * c + 9) = 1) ∨ (fou c = 1 ∧ mcla (11 * c + 9) = 2)) :
    ∀ d i j fu : Nat, i + d = C → d < fu → j < uN fou d i → j < 2 ^ 20 → ∃ x : Int32, f8_draw_L59 (nI C) zz fou fu (nI j) (nI i) (fun _ _ => some (-3, z1)) = some (x, z1) ∧ f9_draw_L45 mcla fu (nI j) (nI i) (fun _ x4 => some (x4, z1)) = some (x, z1)
  | 0, i, j, fu, _, _, hj, _ => absurd hj (Nat.not_lt_zero j)
  | d + 1, i, j, 0, _, hfu, _, _ => absurd hfu (Nat.not_lt_zero _)
  | d + 1, i, j, fu + 1, hi, hfu, hj, hj2 => by
    have hic : i < C := by omega
    have w9 : f9_its mcla (nI i) 9 = some (mcla (11 * i + 9)) := f9_its_s (c := i) (w := 9) (by omega) (by omega)
    have key : ∀ j', j' < uN fou d (i + 1) → j' < 2 ^ 20 → _ := fun j' h1 h2 => draw_walk fou mcla zz z1 hC hz hf d (i + 1) j' fu (by omega) (by omega) h1 h2
    simp only [f8_draw_L59, f9_draw_L45, jn]
    rw [if_neg (nI_ge hic (by omega)), gdi (by omega) (by omega), nI_clamp (by omega), w9, Option.bind_some, Option.bind_some, nI_1, hz]
    rw [uN] at hj
    rcases hf i hic with ⟨a, b⟩ | ⟨a, b⟩ | ⟨a, b⟩
    · rw [a, if_pos rfl] at hj
      rw [a, b, if_pos rfl, if_neg (show ¬ (0 : Int32) < 0 by decide), if_pos (show (0 : Int32) ≤ 0 by decide)]
      cases j with
      | zero =>
        exact ⟨nI i, if_pos rfl, if_pos (by decide)⟩
      | succ j' =>
        obtain ⟨x, x8, x9⟩ := key j' (by omega) (by omega)
        refine ⟨x, ?_, ?_⟩
        · rw [if_neg (nI_ne0 (by omega) (by omega))]; rw [show nI (j' + 1) + -1 = nI j' from by rw [← Int32.sub_eq_add_neg, nI_pred]]; exact x8
        · rw [if_neg (nI_nle (by omega) (by omega)), nI_pred]; exact x9
    · rw [a, if_neg (by decide), Nat.zero_add] at hj
      rw [a, b, if_neg (by decide), if_pos (by decide), if_neg (by decide), Int32.sub_zero]
      exact key j hj hj2
    · rw [a, if_neg (by decide), Nat.zero_add] at hj
      rw [a, b, if_neg (by decide), if_pos (by decide), if_neg (by decide), Int32.sub_zero]
      exact key j hj hj2
theorem jnE {α β : Type} (k : α) (f : α → β) : jn k f = f k := by unfold jn; exact Eq.refl _
theorem op_draw : Op_draw Rl := by
  intro r g u h hR
  have hR0 := hR
  obtain ⟨⟨P, C, e0, e30, e1, e31, ez, B⟩, hM, hRR, hK, hT, hW, hH, hS, hP⟩ := hR
  have hC := B.2.1
  have hcnt := uN_cnt (g 9) C
  have em : nI C - cnt (fun c => ¬ g 9 c = -9) C = nI (uN (g 9) C 0) := by
    rw [cnt_nI, pk_sub (by omega)]; congr 1; omega
  rcases Nat.eq_zero_or_pos (uN (g 9) C 0) with h0 | h0
  · refine ⟨-3, _, _, ?_, ?_, hR0⟩
    · unfold f8_draw
      rw [e1, f0_countFound_s hC, Option.bind_some, em, h0, if_neg (by decide)]
    · unfold f9_draw
      rw [e31, f9_foundMany_s B, Option.bind_some, em, h0, if_pos (show nI 0 = 0 from rfl)]
  · have hw : ∃ w : Nat, w < 65536 ∧ (((r 6 * (1103515245)) + (12345)).toUInt32 >>> ((16 : Int32).toUInt32 &&& Int32.toUInt32 31)).toInt32 = nI w := by
      have a := pk_ushr ((r 6 * (1103515245)) + (12345)) 16 16 (by decide)
      refine ⟨((r 6 * (1103515245)) + (12345)).toBitVec.toNat / 2 ^ 16, ?_, ?_⟩
      · have := ((r 6 * (1103515245)) + (12345)).toBitVec.isLt; omega
      · apply Int32.toBitVec_inj.mp
        apply BitVec.eq_of_toNat_eq
        rw [a]
        have := ((r 6 * (1103515245)) + (12345)).toBitVec.isLt
        exact (Nat.mod_eq_of_lt (a := ((r 6 * (1103515245)) + (12345)).toBitVec.toNat / 2 ^ 16) (b := 2 ^ 32) (by omega)).symm
    obtain ⟨w, hw, ew⟩ := hw
    have hm : w % uN (g 9) C 0 < uN (g 9) C 0 := Nat.mod_lt _ h0
    obtain ⟨x, x8, x9⟩ := draw_walk (g 9) (g 57) (r 6) _ hC rfl B.2.2.2.2.2.2.2.2.2.2.2.1 C 0 (w % uN (g 9) C 0) FU (by omega) (FU_lt (by omega)) hm (by omega)
    rw [show nI 0 = (0 : Int32) from rfl] at x8 x9
    have hn : nz (nI (uN (g 9) C 0)) = true := decide_eq_true (nI_ne0 h0 (by omega))
    refine ⟨x, r 6 * 1103515245 + 12345, r 6 * 1103515245 + 12345, ?_, ?_, ⟨P, C, e0, e30, e1, e31, rfl, B⟩, hM, hRR, hK, hT, hW, hH, hS, hP⟩
    · unfold f8_draw
      rw [e1, f0_countFound_s hC, Option.bind_some, em, if_pos (show (0 : Int32) < nI (uN (g 9) C 0) from nI_lt (a := 0) h0 (by omega)), hn, gd_t, jnE, ew, pk_rem (by omega) h0 (by omega)]
      exact x8
    · unfold f9_draw
      rw [e31, ez, f9_foundMany_s B, Option.bind_some, em, if_neg (nI_ne0 h0 (by omega)), hn, gd_t, jnE, ew, pk_rem (by omega) h0 (by omega)]
      exact x9
