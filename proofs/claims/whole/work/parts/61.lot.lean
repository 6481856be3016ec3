/-! ===== the lot ===== -/
/-- a later set is better -/
def betB (W : Nat → Nat → Int32) (cost : Int32) (C s t : Nat) : Bool := if scS W cost C s = scS W cost C t then decide (pcN s < pcN t) else decide (¬ scS W cost C s ≤ scS W cost C t)
/-- the best of the sets below n -/
def lotB (W : Nat → Nat → Int32) (cost : Int32) (C : Nat) : Nat → Nat
  | 0 => 3
  | n + 1 => if 4 ≤ n ∧ 2 ≤ pcN n ∧ betB W cost C n (lotB W cost C n) = true then n else lotB W cost C n
theorem lotB_lt (W : Nat → Nat → Int32) (cost : Int32) (C : Nat) : ∀ n, lotB W cost C n < max 4 n
  | 0 => by rw [lotB]; omega
  | n + 1 => by
    have ih := lotB_lt W cost C n
    rw [lotB]
    split <;> omega
theorem lotB_low (W : Nat → Nat → Int32) (cost : Int32) (C : Nat) : ∀ n, n ≤ 4 → lotB W cost C n = 3
  | 0, _ => rfl
  | n + 1, h => by rw [lotB, if_neg (by omega), lotB_low W cost C n (by omega)]
theorem lotB_4 (W : Nat → Nat → Int32) (cost : Int32) (C : Nat) : lotB W cost C 4 = 3 := lotB_low W cost C 4 (Nat.le_refl _)
def lotR (W : Nat → Nat → Int32) (cost : Int32) (C : Nat) : Int32 := if C < 2 then -3 else nI (lotB W cost C (2 ^ C))
def lotV (W : Nat → Nat → Int32) (cost : Int32) (C : Nat) : Int32 := if C < 2 then 0 else scS W cost C (lotB W cost C (2 ^ C))
theorem p4 {C : Nat} (h : 2 ≤ C) : 4 ≤ 2 ^ C := (Nat.pow_le_pow_right (by decide) h : 2 ^ 2 ≤ 2 ^ C)
theorem lot_lt {W : Nat → Nat → Int32} {cost : Int32} {C : Nat} (h : 2 ≤ C) : lotB W cost C (2 ^ C) < 2 ^ C := by
  have h1 := lotB_lt W cost C (2 ^ C)
  have h2 := p4 h
  omega
theorem lotR_lt {W : Nat → Nat → Int32} {cost : Int32} {C : Nat} (h : C < 2) : lotR W cost C = -3 := if_pos h
theorem lotR_ge {W : Nat → Nat → Int32} {cost : Int32} {C : Nat} (h : ¬ C < 2) : lotR W cost C = nI (lotB W cost C (2 ^ C)) := if_neg h
section LO
variable {P C : Nat} {siz law hom hub one fac sea fou byc msiz mtow mhub mone mcla mlaw : Nat → Int32}
theorem bc_s {s : Nat} (hs : s < 512) : fJ6_bitCount_0f7a4 (nI s) = some (nI (pcN s)) := (pc_both s hs).1
theorem on_s {s : Nat} (hs : s < 512) : f9_ones (nI s) = some (nI (pcN s)) := (pc_both s hs).2
theorem f7_isBetterLot_s (hC : C ≤ 9) {W : Nat → Nat → Int32} {cost : Int32} {sc : Nat → Int32} (hsc : ∀ s, s < 2 ^ C → sc s = scS W cost C s) {s t : Nat} (hs : s < 2 ^ C) (ht : t < 2 ^ C) : f7_isBetterLot sc (nI s) (nI t) = some (b01 (betB W cost C s t)) := by
  have hs2 := p512 hC hs
  have ht2 := p512 hC ht
  have k1 := pcN_le s
  have k2 := pcN_le t
  unfold f7_isBetterLot betB
  simp only [f7_scoreOf_s sc hs2, f7_scoreOf_s sc ht2, bc_s hs2, bc_s ht2, bsE, hsc s hs, hsc t ht]
  by_cases h : scS W cost C s = scS W cost C t
  · rw [if_pos h, if_pos h]
    by_cases h2 : pcN s < pcN t
    · rw [if_neg (nI_ge h2 (by omega)), decide_eq_true h2]; rfl
    · rw [if_pos (nI_le (by omega) (by omega)), decide_eq_false h2]; rfl
  · rw [if_neg h, if_neg h]
    by_cases h2 : scS W cost C s ≤ scS W cost C t
    · rw [if_pos h2, decide_eq_false (fun q => q h2)]; rfl
    · rw [if_neg h2, decide_eq_true h2]; rfl
theorem f7_findLot_s (B : RBx P C siz law hom hub one fac sea fou byc msiz mtow mhub mone mcla mlaw) {L : Nat → Int32} {off : Int32} (hL : ∀ s, s < 4 → L s = if nI s = off then 0 else law s) (sc st : Nat → Int32) : ∃ c1 c2, f7_findLot (nI C) (nI P) fac hub law one sea sc st off = some (lotR (wvS P hub one fac sea L) (law 4) C, c1, c2) ∧ (2 ≤ C → (∀ s, s < 2 ^ C → c1 s = scS (wvS P hub one fac sea L) (law 4) C s) ∧ ∀ a b, a < C → b < C → c2 (a * 9 + b) = wvS P hub one fac sea L a b) := by
  have hC := B.2.1
  by_cases h2 : C < 2
  · refine ⟨sc, st, ?_, fun q => absurd q (by omega)⟩
    unfold f7_findLot
    rw [if_neg (show ¬ (2 : Int32) ≤ nI C from nI_ge (b := 2) h2 (by omega)), lotR_lt h2]
  · obtain ⟨c1, c2, hh, hsc, hst⟩ := f7_scoreSets_s B hL sc st
    refine ⟨c1, c2, ?_, fun _ => ⟨hsc, hst⟩⟩
    have h4 := p4 (show 2 ≤ C by omega)
    have hp9 : 2 ^ C ≤ 2 ^ 9 := Nat.pow_le_pow_right (by decide) hC
    unfold f7_findLot
    rw [if_pos (show (2 : Int32) ≤ nI C from nI_le (a := 2) (by omega) (by omega)), hh, lotR_ge h2]
    simp only [bn2E, bsE, jnE]
    generalize wvS P hub one fac sea L = W at *
    generalize law 4 = cost at *
    rw [n4]
    refine lupA (fun fu i (x : Int32) => f7_findLot_L22 (nI C) c1 fu x i _) (2 ^ C) 4 (fun i => nI (lotB W cost C i)) (fun fu i hi4 hi => ?_) (fun fu => ?_) (by rw [lotB_4]; rfl) h4 (FU_lt (by omega))
    · have hb := lotB_lt W cost C i
      have k1 := pcN_le i
      simp only [f7_findLot_L22, jnE]
      rw [bx_all hC, Option.bind_some, if_neg (nI_nlt (by omega) (by omega)), bc_s (by omega), Option.bind_some, f7_isBetterLot_s hC hsc hi (by omega), Option.bind_some, nI_1, lotB]
      by_cases q1 : pcN i < 2
      · rw [if_pos (show nI (pcN i) < 2 from nI_lt (b := 2) q1 (by omega)), if_neg (by omega)]
      · rw [if_neg (show ¬ nI (pcN i) < 2 from nI_nlt (b := 2) (by omega) (by omega))]
        cases q2 : betB W cost C i (lotB W cost C i) with
        | true => rw [if_neg (show ¬ b01 true = 0 by decide), if_pos ⟨hi4, by omega, rfl⟩]
        | false => rw [if_pos (show b01 false = 0 from rfl), if_neg (fun q => by cases q.2.2)]
    · simp only [f7_findLot_L22]
      rw [bx_all hC, Option.bind_some, if_pos (nI_lt (by omega) (by omega))]
theorem f9_findLot_s (B : RBx P C siz law hom hub one fac sea fou byc msiz mtow mhub mone mcla mlaw) {L mlw : Nat → Int32} (hM : ∀ s, s < 4 → mlw s = L s) (h4 : mlw 4 = law 4) (ls : Int32) (st : Nat → Int32) : ∃ c2, f9_findLot (nI C) ls (nI P) mcla mhub mlw mone st = some (lotR (wvS P hub one fac sea L) (law 4) C, lotV (wvS P hub one fac sea L) (law 4) C, c2) ∧ ∀ a b, a < b → b < C → c2 (9 * a + b) = wvS P hub one fac sea L a b := by
  have hC := B.2.1
  obtain ⟨c2, hh, hst⟩ := f9_findStrengths_s B hM st
  refine ⟨c2, ?_, hst⟩
  have hp9 : 2 ^ C ≤ 2 ^ 9 := Nat.pow_le_pow_right (by decide) hC
  unfold f9_findLot
  rw [hh]
  simp only [bsE, jnE]
  generalize wvS P hub one fac sea L = W at *
  generalize law 4 = cost at *
  refine lup0 (fun fu i (x : Int32 × Int32) => f9_findLot_L14 (nI C) mlw c2 fu x.1 i x.2 _) (2 ^ C) (fun i => if i < 4 then ((-3 : Int32), (0 : Int32)) else (nI (lotB W cost C i), scS W cost C (lotB W cost C i))) (fun fu i hi => ?_) (fun fu => ?_) (s0 := ((-3 : Int32), (0 : Int32))) (if_pos (by omega)) (FU_lt (by omega))
  · have hb := lotB_lt W cost C i
    have k1 := pcN_le i
    have e2 : ¬ (1 : Int32) = 0 := by decide
    simp only [f9_findLot_L14, jnE]
    rw [bx_pow (by omega), if_neg (nI_ge hi (by omega)), on_s (by omega), Option.bind_some, f9_scoreOf_s hC h4 hst hi, Option.bind_some, nI_1]
    by_cases q1 : pcN i < 2
    · rw [if_neg (show ¬ (2 : Int32) ≤ nI (pcN i) from nI_ge (b := 2) q1 (by omega))]
      by_cases q3 : i < 4
      · have q5 : i + 1 < 4 := by
          rcases (by omega : i = 3 ∨ i < 3) with rfl | q
          · exact absurd q1 (by decide)
          · omega
        rw [if_pos q3, if_pos q5]
      · rw [if_neg q3, if_neg (by omega), lotB, if_neg (by omega)]
    · rw [if_pos (show (2 : Int32) ≤ nI (pcN i) from nI_le (a := 2) (by omega) (by omega))]
      by_cases q3 : i < 4
      · have e3 : i = 3 := by
          rcases (by omega : i = 0 ∨ i = 1 ∨ i = 2 ∨ i = 3) with rfl | rfl | rfl | rfl
          · exact absurd (by decide) q1
          · exact absurd (by decide) q1
          · exact absurd (by decide) q1
          · rfl
        subst e3
        rw [if_pos (show 3 < 4 by omega), if_neg (show ¬ 3 + 1 < 4 by omega), show lotB W cost C (3 + 1) = 3 from lotB_4 W cost C]
        rw [if_pos (show (-3 : Int32) < 0 by decide), if_neg e2, if_neg e2]
      · have k2 := pcN_le (lotB W cost C i)
        rw [if_neg q3, if_neg (show ¬ i + 1 < 4 by omega), on_s (by omega), Option.bind_some, Option.bind_some, if_neg (nI_pos (by omega)), lotB]
        by_cases c1 : scS W cost C (lotB W cost C i) < scS W cost C i
        · have hbt : betB W cost C i (lotB W cost C i) = true := by
            unfold betB
            rw [if_neg (fun e => by rw [e] at c1; exact Int32.lt_irrefl c1), decide_eq_true (Int32.not_le.mpr c1)]
          rw [if_pos c1, if_neg e2, if_neg e2, if_pos ⟨by omega, by omega, hbt⟩]
        · rw [if_neg c1]
          by_cases c3 : scS W cost C i = scS W cost C (lotB W cost C i)
          · rw [if_pos c3]
            by_cases c4 : pcN i < pcN (lotB W cost C i)
            · have hbt : betB W cost C i (lotB W cost C i) = true := by
                unfold betB
                rw [if_pos c3, decide_eq_true c4]
              rw [if_neg (nI_ge c4 (by omega)), if_neg e2, if_neg e2, if_pos ⟨by omega, by omega, hbt⟩]
            · have hbt : betB W cost C i (lotB W cost C i) = false := by
                unfold betB
                rw [if_pos c3, decide_eq_false c4]
              rw [if_pos (nI_le (by omega) (by omega)), if_pos trivial, if_pos trivial, if_neg (fun q => by rw [hbt] at q; cases q.2.2)]
          · have hbt : betB W cost C i (lotB W cost C i) = false := by
              unfold betB
              rw [if_neg c3, decide_eq_false (fun q => c1 (Int32.not_le.mp q))]
            rw [if_neg c3, if_pos trivial, if_pos trivial, if_neg (fun q => by rw [hbt] at q; cases q.2.2)]
  · simp only [f9_findLot_L14]
    rw [bx_pow (by omega), if_pos (nI_le (Nat.le_refl _) (by omega))]
    by_cases h2 : C < 2
    · have : 2 ^ C < 4 := by
        rcases (by omega : C = 0 ∨ C = 1) with rfl | rfl <;> decide
      rw [if_pos this, lotR_lt h2]
      unfold lotV; rw [if_pos h2]
    · have := p4 (show 2 ≤ C by omega)
      rw [if_neg (by omega), lotR_ge h2]
      unfold lotV; rw [if_neg h2]
end LO
theorem gS {R : Type} {x : Int32} {A B : R} : (if x < 0 then A else if x ≤ 1 then B else A) = if inN x 2 then B else A := gC (n := 1) (by decide)
theorem n100000 : (100000 : Int32) + 0 = 100000 := rfl
theorem op_lot : Op_lot Rl := by
  intro r g u h p1 hR
  have hR0 := hR
  obtain ⟨⟨P, C, e0, e30, e1, e31, ez, B⟩, hM, hRR, hK, hT, hW, hH, hS, hP⟩ := hR
  have hC := B.2.1
  rw [e0, e30, e1, e31]
  by_cases h1 : inN p1 2
  · obtain ⟨c1, c2, hh, hx⟩ := f7_findLot_s B (hLall (g 3)) (g 29) (g 28)
    obtain ⟨b2, hb, hbt⟩ := f9_findLot_s B (L := g 3) (fun s hs => (B.2.2.2.1 s (by omega)).1) ((B.2.2.2.1 4 (by omega)).1) (r 43) (g 68)
    generalize wvS P (g 5) (g 6) (g 7) (g 8) (g 3) = W at *
    generalize g 3 4 = cost at *
    refine ⟨if lotR W cost C < 0 then -3 else if p1 = 0 then lotR W cost C else lotV W cost C + 100000, c1, c2, lotV W cost C, b2, ?_, ?_, hR0⟩
    · unfold f8_lot
      rw [gS, if_pos h1, hh]
      simp only [bn3E, bsE]
      by_cases h2 : C < 2
      · rw [lotR_lt h2, if_neg (by decide), if_pos (by decide)]
      · obtain ⟨hsc, -⟩ := hx (by omega)
        have hl := lot_lt (W := W) (cost := cost) (show 2 ≤ C by omega)
        have hl2 := p512 hC hl
        rw [lotR_ge h2, if_pos (nI_pos' (by omega)), if_neg (nI_pos (by omega)), f7_scoreOf_s _ hl2, Option.bind_some, hsc _ hl]
        unfold lotV
        rw [if_neg h2]
        by_cases h3 : p1 = 0
        · rw [if_pos h3, if_pos h3]
        · rw [if_neg h3, if_neg h3]
    · unfold f9_lot
      rw [f9_isSide_s, Option.bind_some, gI, if_pos h1, hb]
      simp only [bn3E, bsE]
      by_cases h2 : C < 2
      · rw [lotR_lt h2, if_pos (by decide), if_pos (by decide)]
      · have hl := lot_lt (W := W) (cost := cost) (show 2 ≤ C by omega)
        have hl2 := p512 hC hl
        rw [lotR_ge h2, if_neg (nI_pos (by omega)), if_neg (nI_pos (by omega))]
        by_cases h3 : p1 = 0
        · rw [if_pos h3, if_pos h3]
        · rw [if_neg h3, if_neg h3, Int32.add_comm]
  · refine ⟨-1, g 29, g 28, r 43, g 68, ?_, ?_, hR0⟩
    · unfold f8_lot
      rw [gS, if_neg h1]
    · unfold f9_lot
      rw [f9_isSide_s, Option.bind_some, gI, if_neg h1]
/-- laws without a sign -/
def offL (law : Nat → Int32) (s : Nat) : Nat → Int32 := upd law s 0
theorem offL_s (law : Nat → Int32) (k : Nat) (hk : k < 4) : ∀ s, s < 4 → offL law k s = if nI s = nI k then 0 else law s := by
  intro s hs
  unfold offL
  by_cases e : s = k
  · rw [updS e, if_pos (by rw [e])]
  · rw [upd_n e, if_neg (fun q => e (nI_inj (by omega) (by omega) q))]
theorem upd_back {f : Nat → Int32} {k : Nat} : upd (upd f k 0) k (f k) = f := by
  funext j
  by_cases e : j = k
  · subst e; rw [upd_s]
  · rw [upd_n e, upd_n e]
section LW
variable {P C : Nat} {siz law hom hub one fac sea fou byc msiz mtow mhub mone mcla mlaw : Nat → Int32}
theorem f9_lotWithout_s (B : RBx P C siz law hom hub one fac sea fou byc msiz mtow mhub mone mcla mlaw) {k : Nat} (hk : k < 4) (ls : Int32) (st : Nat → Int32) : ∃ c2, f9_lotWithout (nI C) ls (nI P) mcla mhub mlaw mone st (nI k) = some (lotR (wvS P hub one fac sea (offL law k)) (law 4) C, lotV (wvS P hub one fac sea (offL law k)) (law 4) C, mlaw, c2) := by
  obtain ⟨c2, hb, -⟩ := f9_findLot_s B (L := offL law k) (mlw := upd mlaw k 0) (fun s hs => by
    unfold offL
    by_cases e : s = k
    · rw [updS e, updS e]
    · rw [upd_n e, upd_n e, (B.2.2.2.1 s (by omega)).1]) (by rw [upd_n (by omega), (B.2.2.2.1 4 (by omega)).1]) ls st
  refine ⟨c2, ?_⟩
  unfold f9_lotWithout
  rw [gdi (by omega) (by omega), gdi (by omega) (by omega), nI_clamp (by omega), hb]
  simp only [bn3E, bsE]
  rw [gdi (by omega) (by omega), upd_back]
end LW
theorem op_without : Op_without Rl := by
  intro r g u h p1 hR
  have hR0 := hR
  obtain ⟨⟨P, C, e0, e30, e1, e31, ez, B⟩, hM, hRR, hK, hT, hW, hH, hS, hP⟩ := hR
  have hC := B.2.1
  rw [e0, e30, e1, e31]
  by_cases h1 : inN p1 4
  · obtain ⟨k, hk, rfl⟩ := inN_of (by omega) h1
    obtain ⟨c1, c2, hh, -⟩ := f7_findLot_s B (offL_s (g 3) k hk) (g 29) (g 28)
    obtain ⟨b2, hb⟩ := f9_lotWithout_s B hk (r 43) (g 68)
    refine ⟨lotR (wvS P (g 5) (g 6) (g 7) (g 8) (offL (g 3) k)) (g 3 4) C, c1, c2, lotV (wvS P (g 5) (g 6) (g 7) (g 8) (offL (g 3) k)) (g 3 4) C, g 58, b2, ?_, ?_, hR0⟩
    · unfold f8_without
      rw [n4, gE (by omega), if_pos h1, hh]; rfl
    · unfold f9_without
      rw [fk3, Option.bind_some, gI, if_pos h1, hb]; rfl
  · refine ⟨-1, g 29, g 28, r 43, g 58, g 68, ?_, ?_, hR0⟩
    · unfold f8_without
      rw [n4, gE (by omega), if_neg h1]
    · unfold f9_without
      rw [fk3, Option.bind_some, gI, if_neg h1]
/-- what a first question leaves for hold -/
theorem op_hold : Op_hold Rl := by
  intro r g u h hR
  have hR0 := hR
  obtain ⟨⟨P, C, e0, e30, e1, e31, ez, B⟩, hM, hRR, hK, hT, hW, hH, hS, hP⟩ := hR
  have hC := B.2.1
  rw [e0, e30, e1, e31]
  obtain ⟨c1, c2, hh, hx⟩ := f7_findLot_s B (hLall (g 3)) (g 29) (g 28)
  obtain ⟨b2, hb, hbt⟩ := f9_findLot_s B (L := g 3) (fun s hs => (B.2.2.2.1 s (by omega)).1) ((B.2.2.2.1 4 (by omega)).1) (r 43) (g 68)
  by_cases h2 : C < 2
  · refine ⟨-3, c1, c2, lotV (wvS P (g 5) (g 6) (g 7) (g 8) (g 3)) (g 3 4) C, g 58, b2, ?_, ?_, hR0⟩
    · unfold f8_hold
      rw [hh, lotR_lt h2]; rfl
    · unfold f9_hold
      rw [hb, lotR_lt h2]; rfl
  · have hl := lot_lt (W := wvS P (g 5) (g 6) (g 7) (g 8) (g 3)) (cost := g 3 4) (show 2 ≤ C by omega)
    have hl2 := p512 hC hl
    have H8 : ∃ a1 a2, f8_hold_L24 (nI C) (nI P) (g 7) (g 5) (g 3) (g 6) (g 8) (lotR (wvS P (g 5) (g 6) (g 7) (g 8) (g 3)) (g 3 4) C) FU 0 0 c1 c2 (fun x4 _ c6 c7 => some (x4, c6, c7)) = some (bmB (fun k => lotR (wvS P (g 5) (g 6) (g 7) (g 8) (offL (g 3) k)) (g 3 4) C = lotR (wvS P (g 5) (g 6) (g 7) (g 8) (g 3)) (g 3 4) C) 4, a1, a2) := by
      refine lupR (fun fu i (x : Int32 × (Nat → Int32) × (Nat → Int32)) => f8_hold_L24 (nI C) (nI P) (g 7) (g 5) (g 3) (g 6) (g 8) (lotR (wvS P (g 5) (g 6) (g 7) (g 8) (g 3)) (g 3 4) C) fu x.1 i x.2.1 x.2.2 (fun x4 _ c6 c7 => some (x4, c6, c7))) 4 0 (fun i x => x.1 = bmB (fun k => lotR (wvS P (g 5) (g 6) (g 7) (g 8) (offL (g 3) k)) (g 3 4) C = lotR (wvS P (g 5) (g 6) (g 7) (g 8) (g 3)) (g 3 4) C) i) (fun o => ∃ a1 a2, o = some (bmB (fun k => lotR (wvS P (g 5) (g 6) (g 7) (g 8) (offL (g 3) k)) (g 3 4) C = lotR (wvS P (g 5) (g 6) (g 7) (g 8) (g 3)) (g 3 4) C) 4, a1, a2)) (fun fu i s h0 hi hI hk => ?_) (fun fu s hI => ?_) (s0 := (0, c1, c2)) rfl (by omega) (FU_lt (by omega))
      · obtain ⟨d1, d2, hd, -⟩ := f7_findLot_s B (offL_s (g 3) i hi) s.2.1 s.2.2
        simp only [f8_hold_L24, jnE]
        rw [if_neg (nge n4 hi (by omega)), hd]
        simp only [bn3E, bsE]
        rw [nI_1]
        by_cases e : lotR (wvS P (g 5) (g 6) (g 7) (g 8) (offL (g 3) i)) (g 3 4) C = lotR (wvS P (g 5) (g 6) (g 7) (g 8) (g 3)) (g 3 4) C
        · rw [if_pos e]
          refine hk (_, d1, d2) ?_
          show s.1 ||| _ = _
          rw [hI, bmB, if_pos e]
        · rw [if_neg e]
          refine hk (_, d1, d2) ?_
          show s.1 = _
          rw [hI, bmB, if_neg e, Int32.or_zero]
      · simp only [f8_hold_L24]
        rw [if_pos (nle n4 (Nat.le_refl _) (by omega)), hI]
        exact ⟨_, _, rfl⟩
    have H9 : ∃ a1 a2, f9_hold_L16 (nI C) (nI P) (g 57) (g 55) (g 56) (lotR (wvS P (g 5) (g 6) (g 7) (g 8) (g 3)) (g 3 4) C) FU 0 0 (lotV (wvS P (g 5) (g 6) (g 7) (g 8) (g 3)) (g 3 4) C) (g 58) b2 (fun x4 _ c6 c7 c8 => some (x4, c6, c7, c8)) = some (bmB (fun k => lotR (wvS P (g 5) (g 6) (g 7) (g 8) (offL (g 3) k)) (g 3 4) C = lotR (wvS P (g 5) (g 6) (g 7) (g 8) (g 3)) (g 3 4) C) 4, a1, g 58, a2) := by
      refine lupR (fun fu i (x : Int32 × Int32 × (Nat → Int32) × (Nat → Int32)) => f9_hold_L16 (nI C) (nI P) (g 57) (g 55) (g 56) (lotR (wvS P (g 5) (g 6) (g 7) (g 8) (g 3)) (g 3 4) C) fu x.1 i x.2.1 x.2.2.1 x.2.2.2 (fun x4 _ c6 c7 c8 => some (x4, c6, c7, c8))) 4 0 (fun i x => x.1 = bmB (fun k => lotR (wvS P (g 5) (g 6) (g 7) (g 8) (offL (g 3) k)) (g 3 4) C = lotR (wvS P (g 5) (g 6) (g 7) (g 8) (g 3)) (g 3 4) C) i ∧ x.2.2.1 = g 58) (fun o => ∃ a1 a2, o = some (bmB (fun k => lotR (wvS P (g 5) (g 6) (g 7) (g 8) (offL (g 3) k)) (g 3 4) C = lotR (wvS P (g 5) (g 6) (g 7) (g 8) (g 3)) (g 3 4) C) 4, a1, g 58, a2)) (fun fu i s h0 hi hI hk => ?_) (fun fu s hI => ?_) (s0 := (0, lotV (wvS P (g 5) (g 6) (g 7) (g 8) (g 3)) (g 3 4) C, g 58, b2)) ⟨rfl, rfl⟩ (by omega) (FU_lt (by omega))
      · obtain ⟨d2, hd⟩ := f9_lotWithout_s B hi s.2.1 s.2.2.2
        simp only [f9_hold_L16, jnE]
        rw [if_neg (show ¬ (3 : Int32) < nI i from nI_nlt (a := 3) (by omega) (by omega)), hI.2, hd]
        simp only [bn4E, bsE]
        rw [nI_1]
        by_cases e : lotR (wvS P (g 5) (g 6) (g 7) (g 8) (offL (g 3) i)) (g 3 4) C = lotR (wvS P (g 5) (g 6) (g 7) (g 8) (g 3)) (g 3 4) C
        · rw [if_pos e]
          refine hk (_, _, _, d2) ⟨?_, rfl⟩
          show s.1 ||| _ = _
          rw [hI.1, bmB, if_pos e]
        · rw [if_neg e]
          refine hk (_, _, _, d2) ⟨?_, rfl⟩
          show s.1 ||| 0 = _
          rw [hI.1, bmB, if_neg e]
      · simp only [f9_hold_L16]
        rw [if_pos (show (3 : Int32) < nI 4 by decide), hI.1, hI.2]
        exact ⟨_, _, rfl⟩
    obtain ⟨a1, a2, H8⟩ := H8
    obtain ⟨d1, d2, H9⟩ := H9
    refine ⟨bmB (fun k => lotR (wvS P (g 5) (g 6) (g 7) (g 8) (offL (g 3) k)) (g 3 4) C = lotR (wvS P (g 5) (g 6) (g 7) (g 8) (g 3)) (g 3 4) C) 4, a1, a2, d1, g 58, d2, ?_, ?_, hR0⟩
    · unfold f8_hold
      rw [hh]
      simp only [bn3E, bsE, jnE]
      rw [if_pos (by rw [lotR_ge h2]; exact nI_pos' (by omega))]
      exact H8
    · unfold f9_hold
      rw [hb]
      simp only [bn3E, bsE, jnE]
      rw [if_pos (by rw [lotR_ge h2]; exact nI_pos' (by omega))]
      exact H9
