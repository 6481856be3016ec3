/-! ===== pure part: the calls, one by one ===== -/
theorem rng (v : Int32) (a b : Nat) (ha : a < 2 ^ 31) (hb : b < 2 ^ 31) : (∃ k, a ≤ k ∧ k ≤ b ∧ v = nI k) ∨ ¬ (nI a ≤ v ∧ v ≤ nI b) := by
  by_cases h : nI a ≤ v ∧ v ≤ nI b
  · rw [leN ha, leN' hb] at h
    have hb0 : 0 ≤ v.toInt ∧ v.toInt < (b + 1 : Nat) := ⟨by omega, by omega⟩
    rcases nI_cases v with hv | ⟨k, hk, rfl⟩
    · rw [lt0] at hv; omega
    · rw [nI_toInt hk] at h
      exact Or.inl ⟨k, by omega, by omega, rfl⟩
  · exact Or.inr h
theorem op_size : Op_size Rl := by
  intro r g u h p1 p2 hR
  have hR0 := hR
  obtain ⟨⟨P, C, e0, e30, e1, e31, ez, B⟩, hM, hRR, hK, hT, hW, hH, hS, hP⟩ := hR
  by_cases h1 : inN p1 4
  · obtain ⟨t, ht, rfl⟩ := inN_of (by omega) h1
    rcases rng p2 10 99 (by omega) (by omega) with ⟨s, hs1, hs2, rfl⟩ | hs
    · refine ⟨g 2 t, upd (g 2) t (nI s), upd (g 53) t (nI s), ?_, ?_, ?_⟩
      · unfold f8_size
        rw [f8_isTown_s, Option.bind_some, bI_t h1, if_neg (by decide), if_neg (nnl n10 hs1 (by omega)), if_pos (show nI s ≤ 99 from nI_le (b := 99) hs2 (by omega)), ixn ht (by omega), gd_t, gd_t, nI_clamp (by omega)]
      · unfold f9_size
        rw [show f9_in (nI t) 0 3 = some (bI (nI t) 4) from f9_in_k (n := 3) (by decide) _, Option.bind_some, bI_t h1, if_neg (by decide), f9_in_s, Option.bind_some, if_pos (show (10 : Int32) ≤ nI s ∧ nI s ≤ 99 from ⟨nI_le (a := 10) hs1 (by omega), nI_le (b := 99) hs2 (by omega)⟩), if_neg (by decide), ixn ht (by omega), gd_t, gd_t, nI_clamp (by omega), (B.2.2.1 t ht).1]
      · refine ⟨⟨P, C, e0, e30, e1, e31, ez, B.1, B.2.1, fun j hj => ?_, B.2.2.2⟩, hM, hRR, hK, hT, hW, hH, hS, hP⟩
        show upd (g 53) t (nI s) j = upd (g 2) t (nI s) j ∧ ∃ s' : Nat, 10 ≤ s' ∧ s' ≤ 99 ∧ upd (g 2) t (nI s) j = nI s'
        by_cases e : j = t
        · subst e; rw [upd_s, upd_s]; exact ⟨rfl, s, hs1, hs2, rfl⟩
        · rw [upd_n e, upd_n e]; exact B.2.2.1 j hj
    · refine ⟨-1, g 2, g 53, ?_, ?_, hR0⟩
      · unfold f8_size
        rw [f8_isTown_s, Option.bind_some, bI_t h1, if_neg (by decide)]
        by_cases hp : p2 < 10
        · rw [if_pos hp]
        · rw [if_neg hp, if_neg]
          intro hq
          refine hs ⟨?_, hq⟩
          rw [Int32.lt_iff_toInt_lt] at hp
          rw [Int32.le_iff_toInt_le]
          have : (nI 10).toInt = (10 : Int32).toInt := rfl
          omega
      · unfold f9_size
        rw [show f9_in (nI t) 0 3 = some (bI (nI t) 4) from f9_in_k (n := 3) (by decide) _, Option.bind_some, bI_t h1, if_neg (by decide), f9_in_s, Option.bind_some, if_neg (show ¬ ((10 : Int32) ≤ p2 ∧ p2 ≤ 99) from hs), if_pos rfl]
  · refine ⟨-1, g 2, g 53, ?_, ?_, hR0⟩
    · unfold f8_size
      rw [f8_isTown_s, Option.bind_some, bI_f h1, if_pos rfl]
    · unfold f9_size
      rw [show f9_in p1 0 3 = some (bI p1 4) from f9_in_k (n := 3) (by decide) _, Option.bind_some, bI_f h1, if_pos rfl]
