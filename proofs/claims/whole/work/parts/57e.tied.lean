theorem hLall (law : Nat → Int32) : ∀ s, s < 4 → law s = if nI s = -1 then 0 else law s := fun s hs => by rw [if_neg (nI_ne1 (by omega))]
theorem op_tie : Op_tie Rl := by
  intro r g u h p1 p2 hR
  have hR0 := hR
  obtain ⟨⟨P, C, e0, e30, e1, e31, ez, B⟩, hM, hRR, hK, hT, hW, hH, hS, hP⟩ := hR
  have hC := B.2.1
  rw [e0, e30, e1, e31]
  by_cases h12 : (inN p1 C ∧ inN p2 C) ∧ ¬ p1 = p2
  · obtain ⟨a, ha, rfl⟩ := inN_of (by omega) h12.1.1
    obtain ⟨b, hb, rfl⟩ := inN_of (by omega) h12.1.2
    refine ⟨strS P (g 5) (g 6) (g 7) (g 8) (g 3) a b, ?_, ?_, hR0⟩
    · unfold f8_tie
      rw [f0_isClaim_s (by omega), Option.bind_some, gI, if_pos h12.1.1, f0_isClaim_s (by omega), Option.bind_some, gI, if_pos h12.1.2, if_neg h12.2, f7_strength_s B (hLall _) ha hb]; rfl
    · unfold f9_tie
      rw [f9_isClaim_s (by omega), Option.bind_some, gI, if_pos h12.1.1, f9_isClaim_s (by omega), Option.bind_some, gI, if_pos h12.1.2, if_neg h12.2, f9_strengthOf_s B (fun s hs => (B.2.2.2.1 s (by omega)).1) ha hb]; rfl
  · refine ⟨-1, ?_, ?_, hR0⟩
    · unfold f8_tie
      rw [f0_isClaim_s (by omega), f0_isClaim_s (by omega), Option.bind_some, Option.bind_some, gI, gI]
      by_cases h1 : inN p1 C
      · rw [if_pos h1]
        by_cases h2 : inN p2 C
        · rw [if_pos h2]
          by_cases h3 : p1 = p2
          · rw [if_pos h3]
          · exact absurd ⟨⟨h1, h2⟩, h3⟩ h12
        · rw [if_neg h2]
      · rw [if_neg h1]
    · unfold f9_tie
      rw [f9_isClaim_s (by omega), f9_isClaim_s (by omega), Option.bind_some, Option.bind_some, gI, gI]
      by_cases h1 : inN p1 C
      · rw [if_pos h1]
        by_cases h2 : inN p2 C
        · rw [if_pos h2]
          by_cases h3 : p1 = p2
          · rw [if_pos h3]
          · exact absurd ⟨⟨h1, h2⟩, h3⟩ h12
        · rw [if_neg h2]
      · rw [if_neg h1]
/-- two claims are tied -/
def tiB (P : Nat) (hub one fac sea L : Nat → Int32) (a b : Nat) : Bool := decide (¬ b = a) && decide (¬ strS P hub one fac sea L a b ≤ 0)
theorem tiB_iff {P : Nat} {hub one fac sea L : Nat → Int32} {a b : Nat} : tiB P hub one fac sea L a b = true ↔ ¬ b = a ∧ ¬ strS P hub one fac sea L a b ≤ 0 := by
  unfold tiB; rw [Bool.and_eq_true, decide_eq_true_iff, decide_eq_true_iff]
theorem tiB_comm (P : Nat) (hub one fac sea L : Nat → Int32) (a b : Nat) : tiB P hub one fac sea L a b = tiB P hub one fac sea L b a := by
  rw [Bool.eq_iff_iff, tiB_iff, tiB_iff, strS_comm P hub one fac sea L b a]
  exact ⟨fun h => ⟨fun e => h.1 e.symm, h.2⟩, fun h => ⟨fun e => h.1 e.symm, h.2⟩⟩
section TI
variable {P C : Nat} {siz law hom hub one fac sea fou byc msiz mtow mhub mone mcla mlaw : Nat → Int32}
theorem f7_tiedWith_s (B : RBx P C siz law hom hub one fac sea fou byc msiz mtow mhub mone mcla mlaw) {c : Nat} (hc : c < C) : f7_tiedWith (nI C) (nI P) fac hub law one sea (nI c) = some (bmB (fun o => tiB P hub one fac sea law c o = true) C) := by
  have hC := B.2.1
  simp only [f7_tiedWith, jnE]
  refine lup0 (fun fu i (s : Int32) => f7_tiedWith_L5 (nI C) (nI P) fac hub law one sea (nI c) fu s i _) C (fun i => bmB (fun o => tiB P hub one fac sea law c o = true) i) (fun fu i hi => ?_) (fun fu => ?_) rfl (FU_lt (by omega))
  · simp only [f7_tiedWith_L5, jnE]
    rw [if_neg (nI_ge hi (by omega)), f7_strength_s B (hLall _) hc hi, Option.bind_some, nI_1, bmB]
    by_cases h1 : i = c
    · rw [if_pos (by rw [h1]), if_neg (fun q => (tiB_iff.mp q).1 h1), Int32.or_zero]
    · rw [if_neg (fun q => h1 (nI_inj (by omega) (by omega) q))]
      by_cases h2 : strS P hub one fac sea law c i ≤ 0
      · rw [if_pos h2, if_neg (fun q => (tiB_iff.mp q).2 h2), Int32.or_zero]
      · rw [if_neg h2, if_pos (tiB_iff.mpr ⟨h1, h2⟩)]
  · simp only [f7_tiedWith_L5]
    rw [if_pos (nI_le (Nat.le_refl _) (by omega))]
theorem f9_tiedTo_s (B : RBx P C siz law hom hub one fac sea fou byc msiz mtow mhub mone mcla mlaw) {c : Nat} (hc : c < C) : f9_tiedTo (nI C) (nI P) mcla mhub mlaw mone (nI c) = some (bmB (fun o => tiB P hub one fac sea law c o = true) C) := by
  have hC := B.2.1
  simp only [f9_tiedTo, jnE]
  refine lup0 (fun fu i (s : Int32) => f9_tiedTo_L4 (nI C) (nI P) mcla mhub mlaw mone (nI c) fu s i _) C (fun i => bmB (fun o => tiB P hub one fac sea law c o = true) i) (fun fu i hi => ?_) (fun fu => ?_) rfl (FU_lt (by omega))
  · simp only [f9_tiedTo_L4, jnE]
    rw [if_neg (nI_ge hi (by omega)), f9_strengthOf_s B (L := law) (fun s hs => (B.2.2.2.1 s (by omega)).1) hi hc, Option.bind_some, nI_1, bmB, strS_comm]
    by_cases h1 : i = c
    · rw [if_pos (by rw [h1]), if_neg (fun q => (tiB_iff.mp q).1 h1)]
    · rw [if_neg (fun q => h1 (nI_inj (by omega) (by omega) q))]
      by_cases h2 : strS P hub one fac sea law c i ≤ 0
      · rw [if_pos h2, if_neg (fun q => (tiB_iff.mp q).2 h2)]
      · rw [if_neg h2, if_pos (tiB_iff.mpr ⟨h1, h2⟩)]
  · simp only [f9_tiedTo_L4]
    rw [if_pos (nI_le (Nat.le_refl _) (by omega))]
end TI
theorem op_tied : Op_tied Rl := by
  intro r g u h p1 hR
  have hR0 := hR
  obtain ⟨⟨P, C, e0, e30, e1, e31, ez, B⟩, hM, hRR, hK, hT, hW, hH, hS, hP⟩ := hR
  have hC := B.2.1
  rw [e0, e30, e1, e31]
  by_cases h1 : inN p1 C
  · obtain ⟨a, ha, rfl⟩ := inN_of (by omega) h1
    refine ⟨bmB (fun o => tiB P (g 5) (g 6) (g 7) (g 8) (g 3) a o = true) C, ?_, ?_, hR0⟩
    · unfold f8_tied
      rw [f0_isClaim_s (by omega), Option.bind_some, gI, if_pos h1, f7_tiedWith_s B ha]; rfl
    · unfold f9_tied
      rw [f9_isClaim_s (by omega), Option.bind_some, gI, if_pos h1, f9_tiedTo_s B ha]; rfl
  · refine ⟨-1, ?_, ?_, hR0⟩
    · unfold f8_tied
      rw [f0_isClaim_s (by omega), Option.bind_some, gI, if_neg h1]
    · unfold f9_tied
      rw [f9_isClaim_s (by omega), Option.bind_some, gI, if_neg h1]
