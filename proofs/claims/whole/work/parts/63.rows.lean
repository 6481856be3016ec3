/-! ===== rows of the lot ===== -/
def rwI (W : Nat → Nat → Int32) (t a : Nat) : Nat → List Int32
  | 0 => []
  | b + 1 => rwI W t a b ++ (if a < b ∧ t.testBit a = true ∧ t.testBit b = true ∧ ¬ W a b ≤ 0 then [nI a, nI b, W a b] else [])
def rwA (W : Nat → Nat → Int32) (t C : Nat) : Nat → List Int32
  | 0 => []
  | a + 1 => rwA W t C a ++ rwI W t a C
def trN (C : Nat) : Nat → Nat
  | 0 => 0
  | a + 1 => trN C a + (C - (a + 1))
theorem rwI_len (W : Nat → Nat → Int32) (t a : Nat) : ∀ b, (rwI W t a b).length ≤ 3 * (b - (a + 1))
  | 0 => by rw [rwI, List.length_nil]; omega
  | b + 1 => by
    have ih := rwI_len W t a b
    rw [rwI, List.length_append]
    by_cases h : a < b ∧ t.testBit a = true ∧ t.testBit b = true ∧ ¬ W a b ≤ 0
    · rw [if_pos h]
      have h1 := h.1
      simp only [List.length_cons, List.length_nil]; omega
    · rw [if_neg h]
      simp only [List.length_nil]; omega
theorem rwI_nil (W : Nat → Nat → Int32) (t a : Nat) : ∀ b, b ≤ a + 1 → rwI W t a b = []
  | 0, _ => rfl
  | b + 1, h => by rw [rwI, rwI_nil W t a b (by omega), if_neg (by omega)]; rfl
theorem rwA_len (W : Nat → Nat → Int32) (t C : Nat) : ∀ a, (rwA W t C a).length ≤ 3 * trN C a
  | 0 => by rw [rwA, List.length_nil]; omega
  | a + 1 => by
    have ih := rwA_len W t C a
    have h2 := rwI_len W t a C
    rw [rwA, List.length_append, trN]; omega
theorem tr_ok : ∀ C, C < 10 → ∀ a, a < C → ∀ b, b < C → a < b → trN C a + (b - (a + 1)) + 1 ≤ 36 := by decide +kernel
theorem tr_end : ∀ C, C < 10 → trN C C ≤ 36 := by decide +kernel
/-- a list of rows as count and entries -/
def RwP (l : List Int32) (cnt : Int32) (ent : Nat → Int32) : Prop := ∃ n, l.length = 3 * n ∧ cnt = nI n ∧ ∀ i, i < 3 * n → ent i = l.getD i 0
theorem getD_app {l m : List Int32} {i : Nat} (h : i < l.length) : (l ++ m).getD i 0 = l.getD i 0 := by
  rw [List.getD_eq_getElem?_getD, List.getD_eq_getElem?_getD, List.getElem?_append_left h]
theorem getD_appR {l m : List Int32} {i : Nat} (k : Nat) (h : i = l.length + k) : (l ++ m).getD i 0 = m.getD k 0 := by
  rw [List.getD_eq_getElem?_getD, List.getD_eq_getElem?_getD, List.getElem?_append_right (by omega), show i - l.length = k by omega]
theorem RwP_add {l : List Int32} {n : Nat} {ent : Nat → Int32} (h1 : l.length = 3 * n) (h2 : ∀ i, i < 3 * n → ent i = l.getD i 0) (x y z : Int32) : RwP (l ++ [x, y, z]) (nI (n + 1)) (upd (upd (upd ent (3 * n) x) (3 * n + 1) y) (3 * n + 2) z) := by
  refine ⟨n + 1, by rw [List.length_append, h1]; simp only [List.length_cons, List.length_nil]; omega, rfl, fun i hi => ?_⟩
  rcases Nat.lt_or_ge i (3 * n) with h | h
  · rw [upd_n (by omega), upd_n (by omega), upd_n (by omega), h2 i h, getD_app (by omega)]
  · rcases (by omega : i = 3 * n ∨ i = 3 * n + 1 ∨ i = 3 * n + 2) with rfl | rfl | rfl
    · rw [upd_n (by omega), upd_n (by omega), upd_s, getD_appR 0 (by omega)]; rfl
    · rw [upd_n (by omega), upd_s, getD_appR 1 (by omega)]; rfl
    · rw [upd_s, getD_appR 2 (by omega)]; rfl
theorem f5_append_s {n : Nat} (hn : n < 36) (ent : Nat → Int32) (x y z : Int32) : f5_append (nI n) ent x y z = some (nI (n + 1), upd (upd (upd ent (3 * n) x) (3 * n + 1) y) (3 * n + 2) z) := by
  unfold f5_append
  rw [if_pos (nlt n36 hn (by omega)), show nI n * 3 = nI (3 * n) from by rw [n3, pk_mul, Nat.mul_comm], nI_1 (3 * n), show nI (3 * n) + 2 = nI (3 * n + 2) from by rw [n2, nI_add], gdi (by omega) (by omega), gdi (by omega) (by omega), gdi (by omega) (by omega), nI_clamp (by omega), nI_clamp (by omega), nI_clamp (by omega), nI_1 n]
section RO
variable {P C : Nat} {siz law hom hub one fac sea fou byc msiz mtow mhub mone mcla mlaw : Nat → Int32}
def RwO (l : List Int32) (o : Option (Int32 × (Nat → Int32))) : Prop := ∃ c e, o = some (c, e) ∧ RwP l c e
theorem f5_write_s (hC : C ≤ 9) {W : Nat → Nat → Int32} {st : Nat → Int32} (hW : ∀ a b, a < C → b < C → st (a * 9 + b) = W a b) {t : Nat} (ht : t < 512) (cnt : Int32) (ent : Nat → Int32) : RwO (rwA W t C C) (f5_write (nI C) cnt st ent (nI t)) := by
  simp only [f5_write, jnE]
  rw [n0]
  refine lupR (fun fu i (x : Int32 × (Nat → Int32)) => f5_write_L8 (nI C) st (nI t) fu i x.1 x.2 _) C 0 (fun a x => RwP (rwA W t C a) x.1 x.2) (RwO (rwA W t C C)) (fun fu a x h0 ha hI hk => ?_) (fun fu x hI => ?_) (s0 := (nI 0, ent)) ⟨0, rfl, rfl, fun i hi => absurd hi (by omega)⟩ (Nat.zero_le _) (FU_lt (by omega))
  · simp only [f5_write_L8, jnE]
    rw [if_neg (nI_ge ha (by omega)), nI_1]
    refine lupR (fun fu i (x : Int32 × (Nat → Int32)) => f5_write_L23 (nI C) st (nI t) (nI a) fu i x.1 x.2 _) C (a + 1) (fun b x => RwP (rwA W t C a ++ rwI W t a b) x.1 x.2) (RwO (rwA W t C C)) (fun fu b x hab hb hJ hk2 => ?_) (fun fu x hJ => ?_) (s0 := x) (by rw [rwI_nil W t a (a + 1) (Nat.le_refl _), List.append_nil]; exact hI) (by omega) (FU_lt (by omega))
    · simp only [f5_write_L23, jnE]
      rw [if_neg (nI_ge hb (by omega)), bx_t0 (by omega) (by omega), bx_t0 (by omega) (by omega), f7_woven_s _ (by omega) (by omega), hW a b ha hb, nI_1]
      simp only [bsE]
      have e1 : ¬ (1 : Int32) = 0 := by decide
      by_cases hall : a < b ∧ t.testBit a = true ∧ t.testBit b = true ∧ ¬ W a b ≤ 0
      · obtain ⟨n, hn1, hn2, hn3⟩ := hJ
        have hn36 : n < 36 := by
          have l1 := rwA_len W t C a
          have l2 := rwI_len W t a b
          have l3 := tr_ok C (by omega) a ha b hb hall.1
          rw [List.length_append] at hn1
          omega
        rw [if_pos hall.2.1, if_pos hall.2.2.1, if_neg e1, if_neg hall.2.2.2, hn2, f5_append_s hn36]
        simp only [bn2E, bsE]
        refine hk2 (_, _) ?_
        show RwP (rwA W t C a ++ (rwI W t a b ++ _)) _ _
        rw [if_pos hall, ← List.append_assoc]
        exact RwP_add hn1 hn3 _ _ _
      · have hsame : RwP (rwA W t C a ++ rwI W t a (b + 1)) x.1 x.2 := by
          rw [rwI, if_neg hall, List.append_nil]; exact hJ
        have hgo := hk2 x hsame
        by_cases q1 : t.testBit a = true
        · rw [if_pos q1]
          by_cases q2 : t.testBit b = true
          · rw [if_pos q2, if_neg e1, if_pos (show W a b ≤ 0 from Classical.byContradiction (fun q => hall ⟨by omega, q1, q2, q⟩))]
            exact hgo
          · rw [if_neg q2, if_pos trivial]
            exact hgo
        · rw [if_neg q1, if_pos trivial]
          exact hgo
    · simp only [f5_write_L23]
      rw [if_pos (nI_le (Nat.le_refl _) (by omega))]
      exact hk x hJ
  · simp only [f5_write_L8]
    rw [if_pos (nI_le (Nat.le_refl _) (by omega))]
    exact ⟨_, _, rfl, hI⟩
/-- what findRows answers when there is a lot -/
def RwF (l : List Int32) (ls : Int32) (c3 : Nat → Int32) (o : Option (Int32 × Int32 × Int32 × (Nat → Int32) × (Nat → Int32))) : Prop := ∃ c e, o = some (1, ls, c, e, c3) ∧ RwP l c e
theorem f9_findRows_s (B : RBx P C siz law hom hub one fac sea fou byc msiz mtow mhub mone mcla mlaw) (ls mm : Int32) (mu st : Nat → Int32) : (C < 2 → ∃ c3, f9_findRows (nI C) ls mm (nI P) mcla mhub mlaw mu mone st = some (0, lotV (wvS P hub one fac sea law) (law 4) C, 0, mu, c3)) ∧ (2 ≤ C → ∃ c3, RwF (rwA (wvS P hub one fac sea law) (lotB (wvS P hub one fac sea law) (law 4) C (2 ^ C)) C C) (lotV (wvS P hub one fac sea law) (law 4) C) c3 (f9_findRows (nI C) ls mm (nI P) mcla mhub mlaw mu mone st)) := by
  have hC := B.2.1
  obtain ⟨c3, hb, hbt⟩ := f9_findLot_s B (L := law) (fun s hs => (B.2.2.2.1 s (by omega)).1) ((B.2.2.2.1 4 (by omega)).1) ls st
  generalize wvS P hub one fac sea law = W at *
  generalize law 4 = cost at *
  refine ⟨fun h2 => ⟨c3, ?_⟩, fun h2 => ⟨c3, ?_⟩⟩
  · unfold f9_findRows
    rw [hb, lotR_lt h2]
    simp only [bn3E, bsE, jnE]
    rw [n0]
    refine lupA (fun fu i (x : Int32 × (Nat → Int32)) => f9_findRows_L12 (nI C) (-3) c3 fu i x.1 x.2 _) 0 0 (fun _ => (nI 0, mu)) (fun fu i h1 h2 => absurd h2 (by omega)) (fun fu => ?_) (s0 := (nI 0, mu)) rfl (Nat.le_refl _) (FU_lt (by omega))
    simp only [f9_findRows_L12]
    rw [if_pos (show (-3 : Int32) < nI 0 by decide), if_pos (show (-3 : Int32) < (0 : Int32) by decide), ite_self]
  · have hl := lot_lt (W := W) (cost := cost) h2
    have hl2 := p512 hC hl
    unfold f9_findRows
    rw [hb, lotR_ge (by omega)]
    simp only [bn3E, bsE, jnE]
    generalize lotB W cost C (2 ^ C) = t at *
    generalize lotV W cost C = lv at *
    rw [n0]
    refine lupR (fun fu i (x : Int32 × (Nat → Int32)) => f9_findRows_L12 (nI C) (nI t) c3 fu i x.1 x.2 _) C 0 (fun a x => RwP (rwA W t C a) x.1 x.2) (RwF (rwA W t C C) lv c3) (fun fu a x h0 ha hI hk => ?_) (fun fu x hI => ?_) (s0 := (nI 0, mu)) ⟨0, rfl, rfl, fun i hi => absurd hi (by omega)⟩ (Nat.zero_le _) (FU_lt (by omega))
    · simp only [f9_findRows_L12, jnE]
      rw [if_neg (nI_ge ha (by omega)), if_neg (show ¬ nI t < (0 : Int32) from nI_pos (by omega)), nI_1]
      refine lupR (fun fu i (x : Int32 × (Nat → Int32)) => f9_findRows_L28 (nI C) (nI t) c3 (nI a) fu i x.1 x.2 _) C (a + 1) (fun b x => RwP (rwA W t C a ++ rwI W t a b) x.1 x.2) (RwF (rwA W t C C) lv c3) (fun fu b x hab hb hJ hk2 => ?_) (fun fu x hJ => ?_) (s0 := x) (by rw [rwI_nil W t a (a + 1) (Nat.le_refl _), List.append_nil]; exact hI) (by omega) (FU_lt (by omega))
      · simp only [f9_findRows_L28, jnE]
        rw [if_neg (nI_ge hb (by omega)), bx_t1 (by omega) (by omega), bx_t1 (by omega) (by omega), ix9r, gdi (by omega) (by omega), nI_clamp (by omega), hbt a b (by omega) hb, nI_1 b]
        by_cases hall : a < b ∧ t.testBit a = true ∧ t.testBit b = true ∧ ¬ W a b ≤ 0
        · obtain ⟨n, hn1, hn2, hn3⟩ := hJ
          have hn36 : n < 36 := by
            have l1 := rwA_len W t C a
            have l2 := rwI_len W t a b
            have l3 := tr_ok C (by omega) a ha b hb hall.1
            rw [List.length_append] at hn1
            omega
          rw [if_pos hall.2.1, if_pos hall.2.2.1, if_neg hall.2.2.2, hn2, show (3 : Int32) * nI n = nI (3 * n) from by rw [n3, pk_mul], nI_1 (3 * n), show nI (3 * n) + 2 = nI (3 * n + 2) from by rw [n2, nI_add], gdi (by omega) (by omega), gdi (by omega) (by omega), gdi (by omega) (by omega), gdi (by omega) (by omega), nI_clamp (by omega), nI_clamp (by omega), nI_clamp (by omega), nI_1 n]
          refine hk2 (_, _) ?_
          show RwP (rwA W t C a ++ (rwI W t a b ++ _)) _ _
          rw [if_pos hall, ← List.append_assoc]
          exact RwP_add hn1 hn3 _ _ _
        · have hsame : RwP (rwA W t C a ++ rwI W t a (b + 1)) x.1 x.2 := by
            rw [rwI, if_neg hall, List.append_nil]; exact hJ
          have hgo := hk2 x hsame
          by_cases q1 : t.testBit a = true
          · rw [if_pos q1]
            by_cases q2 : t.testBit b = true
            · rw [if_pos q2, if_pos (show W a b ≤ 0 from Classical.byContradiction (fun q => hall ⟨by omega, q1, q2, q⟩))]
              exact hgo
            · rw [if_neg q2]
              exact hgo
          · rw [if_neg q1]
            exact hgo
      · simp only [f9_findRows_L28]
        rw [if_pos (nI_le (Nat.le_refl _) (by omega))]
        exact hk x hJ
    · simp only [f9_findRows_L12]
      rw [if_pos (nI_le (Nat.le_refl _) (by omega)), if_neg (show ¬ nI t < nI 0 from nI_nlt (by omega) (by omega))]
      exact ⟨_, _, rfl, hI⟩
end RO
theorem prove_copy {n : Nat} (hn : n ≤ 36) (must rows : Nat → Int32) (R : (Nat → Int32) → Option (Int32 × Int32 × Int32 × Int32 × (Nat → Int32) × (Nat → Int32) × (Nat → Int32))) : ∃ c7, f9_prove_L20 (nI n) must FU 0 rows (fun _ c7 => R c7) = R c7 ∧ ∀ i, i < 3 * n → c7 i = must i := by
  rw [n0]
  refine lupR (fun fu i (x : Nat → Int32) => f9_prove_L20 (nI n) must fu i x (fun _ c7 => R c7)) (3 * n) 0 (fun k x => ∀ i, i < k → x i = must i) (fun o => ∃ c7, o = R c7 ∧ ∀ i, i < 3 * n → c7 i = must i) (fun fu k x h0 hk hI hgo => ?_) (fun fu x hI => ?_) (s0 := rows) (fun i hi => absurd hi (by omega)) (Nat.zero_le _) (FU_lt (by omega))
  · simp only [f9_prove_L20]
    rw [show (3 : Int32) * nI n = nI (3 * n) from by rw [n3, pk_mul], if_neg (nI_ge hk (by omega)), gdi (by omega) (by omega), gdi (by omega) (by omega), nI_clamp (by omega), nI_1]
    refine hgo _ (fun i hi => ?_)
    by_cases e : i = k
    · rw [updS e, e]
    · rw [upd_n e]; exact hI i (by omega)
  · simp only [f9_prove_L20]
    rw [show (3 : Int32) * nI n = nI (3 * n) from by rw [n3, pk_mul], if_pos (nI_le (Nat.le_refl _) (by omega))]
    exact ⟨x, rfl, hI⟩
theorem op_prove : Op_prove Rl := by
  intro r g u h hR
  have hR0 := hR
  obtain ⟨⟨P, C, e0, e30, e1, e31, ez, B⟩, hM, hRR, hK, hT, hW, hH, hS, hP⟩ := hR
  have hC := B.2.1
  obtain ⟨c1, c2, hh, hx⟩ := f7_findLot_s B (hLall (g 3)) (g 29) (g 28)
  obtain ⟨r1, r2⟩ := f9_findRows_s B (r 43) (r 45) (g 73) (g 68)
  by_cases h2 : C < 2
  · obtain ⟨c3, hr⟩ := r1 h2
    refine ⟨-3, r 23, g 40, c1, c2, lotV (wvS P (g 5) (g 6) (g 7) (g 8) (g 3)) (g 3 4) C, 0, r 44, g 73, g 72, c3, ?_, ?_, hR0⟩
    · unfold f8_prove
      rw [e0, e1, hh, lotR_lt h2]; rfl
    · unfold f9_prove
      rw [e30, e31, hr]; rfl
  · obtain ⟨c3, mc, me, hr, hmp⟩ := r2 (by omega)
    obtain ⟨-, hst⟩ := hx (by omega)
    have hl := lot_lt (W := wvS P (g 5) (g 6) (g 7) (g 8) (g 3)) (cost := g 3 4) (show 2 ≤ C by omega)
    have hl2 := p512 hC hl
    obtain ⟨cc, ce, hw, hcp⟩ := f5_write_s hC hst hl2 (r 23) (g 40)
    obtain ⟨n, hn1, hn2, hn3⟩ := hcp
    obtain ⟨m, hm1, hm2, hm3⟩ := hmp
    have hlen := rwA_len (wvS P (g 5) (g 6) (g 7) (g 8) (g 3)) (lotB (wvS P (g 5) (g 6) (g 7) (g 8) (g 3)) (g 3 4) C (2 ^ C)) C C
    have htr := tr_end C (by omega)
    have enm : m = n := by omega
    subst enm
    have hn36 : m ≤ 36 := by omega
    obtain ⟨c7, h7, h7i⟩ := prove_copy hn36 me (g 72) (fun c7 => some (mc, lotV (wvS P (g 5) (g 6) (g 7) (g 8) (g 3)) (g 3 4) C, mc, mc, me, c7, c3))
    refine ⟨nI m, cc, ce, c1, c2, lotV (wvS P (g 5) (g 6) (g 7) (g 8) (g 3)) (g 3 4) C, mc, mc, me, c7, c3, ?_, ?_, ⟨P, C, e0, e30, e1, e31, ez, B⟩, hM, hRR, hK, hT, ⟨m, hn36, hn2, hm2, fun i hi => ?_⟩, hH, hS, hP⟩
    · unfold f8_prove
      rw [e0, e1, hh, lotR_ge h2]
      simp only [bn3E, bsE]
      rw [if_pos (nI_pos' (by omega)), hw]
      simp only [bn2E, bsE]
      rw [hn2]
    · unfold f9_prove
      rw [e30, e31, hr]
      simp only [bn5E, bsE, jnE]
      rw [if_neg (by decide)]
      rw [hm2] at h7 ⊢
      exact h7
    · show c7 i = ce i
      rw [h7i i hi, hm3 i hi, hn3 i hi]
/-! ===== judge ===== -/
theorem f5_entry_s {n i k : Nat} (hn : n ≤ 36) (hi : i < n) (hk : k < 3) (e : Nat → Int32) : f5_entry (nI n) e (nI i) (nI k) = some (e (3 * i + k)) := by
  unfold f5_entry
  rw [f5_holds_s (by omega), Option.bind_some, b2_t ⟨inN_nI hi (by omega), inN_nI hk (by omega)⟩, if_neg (by decide), n3, pk_mul, nI_add, gdi (by omega) (by omega), nI_clamp (by omega), Nat.mul_comm]
/-- a row isn't as it must be -/
def badR (n : Nat) (d e : Nat → Int32) (i : Nat) : Bool := if i < n then exN (fun k => ¬ d (3 * i + k) = e (3 * i + k)) 3 else true
theorem f5_hasSame_s {n m i : Nat} (hn : n ≤ 36) (hm : m ≤ 36) (hi : i < n) (d e : Nat → Int32) : f5_hasSame (nI n) (nI m) e d (nI i) = some (b01 (!badR m d e i)) := by
  unfold f5_hasSame badR
  rw [if_neg (nI_pos (by omega))]
  by_cases h : i < m
  · rw [if_neg (nI_ge h (by omega)), if_pos (nI_lt hi (by omega)), if_pos h]
    simp only [jnE]
    refine (lupS0 (fun fu k => f5_hasSame_L24 (nI n) (nI m) e d (nI i) fu k _) 3 (fun k => ¬ d (3 * i + k) = e (3 * i + k)) (o1 := some 0) (o2 := some 1) (fun fu k hk hp => ?_) (fun fu k hk hp => ?_) (fun fu => ?_) (fu := FU) (FU_lt (by omega))).trans ?_
    · simp only [f5_hasSame_L24]
      rw [if_neg (nge n3 hk (by omega)), f5_entry_s hm h hk, Option.bind_some, f5_entry_s hn hi hk, Option.bind_some, if_neg hp]
    · simp only [f5_hasSame_L24]
      rw [if_neg (nge n3 hk (by omega)), f5_entry_s hm h hk, Option.bind_some, f5_entry_s hn hi hk, Option.bind_some, if_pos (Classical.byContradiction hp), nI_1]
    · simp only [f5_hasSame_L24]
      rw [if_pos (nle n3 (Nat.le_refl _) (by omega))]
    · cases exN (fun k => ¬ d (3 * i + k) = e (3 * i + k)) 3 <;> rfl
  · rw [if_pos (nI_le (by omega) (by omega)), if_neg h]; rfl
theorem f9_judge_in {i : Nat} (hi : i < 36) (d e : Nat → Int32) (R0 R1 : Option (Int32 × Int32 × Int32 × (Nat → Int32) × (Nat → Int32))) : f9_judge_L36 e d (nI i) FU 1 0 (fun x _ => if x = 0 then R0 else R1) = bif exN (fun k => ¬ d (3 * i + k) = e (3 * i + k)) 3 then R0 else R1 := by
  have e1 : ¬ (1 : Int32) = 0 := by decide
  have ei : ∀ k, (3 : Int32) * nI i + nI k = nI (3 * i + k) := fun k => by rw [n3, pk_mul, nI_add]
  refine lupS0 (fun fu k => f9_judge_L36 e d (nI i) (fu + 1) 1 k (fun x _ => if x = 0 then R0 else R1)) 3 (fun k => ¬ d (3 * i + k) = e (3 * i + k)) (fun fu k hk hp => ?_) (fun fu k hk hp => ?_) (fun fu => ?_) (fu := 1999) (by omega)
  · simp only [f9_judge_L36, jnE]
    rw [if_neg (nge n3 hk (by omega)), if_neg e1, ei, gdi (by omega) (by omega), gdi (by omega) (by omega), nI_clamp (by omega), if_neg (fun q => hp q.symm)]
    simp only [if_true, ite_self]
  · have hp2 : d (3 * i + k) = e (3 * i + k) := Classical.byContradiction hp
    have h0 : f9_judge_L36 e d (nI i) (fu + 1 + 1) 1 (nI k) (fun x _ => if x = 0 then R0 else R1) = f9_judge_L36 e d (nI i) (fu + 1) 1 (nI (k + 1)) (fun x _ => if x = 0 then R0 else R1) := by
      rw [f9_judge_L36]
      simp only [jnE]
      rw [if_neg (nge n3 hk (by omega)), if_neg e1, ei, gdi (by omega) (by omega), gdi (by omega) (by omega), nI_clamp (by omega), if_pos hp2.symm, nI_1]
    exact h0
  · simp only [f9_judge_L36, jnE]
    rw [if_pos (nle n3 (Nat.le_refl _) (by omega)), if_neg e1]
theorem judge_walk {n m : Nat} (hn : n ≤ 36) (hm : m ≤ 36) {rc rm d md : Nat → Int32} (h1 : ∀ i, i < 3 * n → rm i = rc i) (h2 : ∀ i, i < 3 * m → md i = d i) (A1 A2 M5 : Nat → Int32) (ls : Int32) : ∀ c i fu, i + c = n → c < fu → ∃ v : Int32, f8_judge_L38 (nI n) rc A1 A2 (nI m) d fu (nI i) (fun _ => if nI m ≤ nI n then some ((0 : Int32), nI m, d, A1, A2) else some ((222 : Int32), nI m, d, A1, A2)) = some (v, nI m, d, A1, A2) ∧ f9_judge_L12 (nI n) rm ls (nI m) md M5 fu (nI i) (fun _ => if nI m ≤ nI n then some ((0 : Int32), ls, nI m, md, M5) else some ((222 : Int32), ls, nI m, md, M5)) = some (v, ls, nI m, md, M5) := by
  intro c
  induction c with
  | zero =>
    intro i fu hi hfu
    obtain ⟨f, rfl⟩ : ∃ f, fu = f + 1 := ⟨fu - 1, by omega⟩
    have e : i = n := by omega
    subst e
    simp only [f8_judge_L38, f9_judge_L12, jnE]
    rw [if_pos (nI_le (Nat.le_refl _) (by omega)), if_pos (nI_le (Nat.le_refl _) (by omega))]
    by_cases h : nI m ≤ nI i
    · rw [if_pos h, if_pos h]; exact ⟨0, rfl, rfl⟩
    · rw [if_neg h, if_neg h]; exact ⟨222, rfl, rfl⟩
  | succ c ih =>
    intro i fu hi hfu
    obtain ⟨f, rfl⟩ : ∃ f, fu = f + 1 := ⟨fu - 1, by omega⟩
    obtain ⟨v, v8, v9⟩ := ih (i + 1) f (by omega) (by omega)
    have hin : i < n := by omega
    simp only [f8_judge_L38, f9_judge_L12, jnE]
    rw [if_neg (nI_ge hin (by omega)), if_neg (nI_ge hin (by omega)), f5_hasSame_s hn hm hin, Option.bind_some, nI_1, f9_judge_in (by omega)]
    by_cases h : i < m
    · rw [if_neg (nI_ge h (by omega))]
      have hbad : badR m d rc i = exN (fun k => ¬ md (3 * i + k) = rm (3 * i + k)) 3 := by
        unfold badR
        rw [if_pos h]
        exact exN_congr _ _ 3 (fun k hk => by rw [h1 _ (by omega), h2 _ (by omega)])
      rw [hbad]
      cases exN (fun k => ¬ md (3 * i + k) = rm (3 * i + k)) 3 with
      | true => exact ⟨nI (i + 1), rfl, rfl⟩
      | false =>
        refine ⟨v, ?_, ?_⟩
        · rw [if_neg (show ¬ b01 (!false) = 0 by decide)]; exact v8
        · exact v9
    · have hbad : badR m d rc i = true := if_neg h
      rw [hbad, if_pos (show b01 (!true) = 0 from rfl), if_pos (nI_le (by omega) (by omega))]
      refine ⟨nI (i + 1), rfl, ?_⟩
      rw [n0]
      refine lupA (fun fu k (x : Int32) => f9_judge_L36 rm md (nI i) fu x k _) 0 0 (fun _ => nI 0) (fun fu i h1 h2 => absurd h2 (by omega)) (fun fu => ?_) rfl (Nat.le_refl _) (FU_lt (by omega))
      simp only [f9_judge_L36]
      rw [if_neg (by decide), if_pos (by decide), if_pos (by decide)]
theorem op_judge : Op_judge Rl := by
  intro r g u h hR
  have hR0 := hR
  obtain ⟨⟨P, C, e0, e30, e1, e31, ez, B⟩, hM, hRR, hK, hT, ⟨n, hn, f1, f2, hb⟩, hH, hS, hP⟩ := hR
  have hC := B.2.1
  obtain ⟨c1, c2, hh, hx⟩ := f7_findLot_s B (hLall (g 3)) (g 29) (g 28)
  obtain ⟨r1, r2⟩ := f9_findRows_s B (r 43) (r 45) (g 73) (g 68)
  by_cases h2 : C < 2
  · obtain ⟨c3, hr⟩ := r1 h2
    refine ⟨-3, r 24, g 42, c1, c2, lotV (wvS P (g 5) (g 6) (g 7) (g 8) (g 3)) (g 3 4) C, 0, g 73, c3, ?_, ?_, hR0⟩
    · unfold f8_judge
      rw [e0, e1, hh, lotR_lt h2]; rfl
    · unfold f9_judge
      rw [e30, e31, hr]; rfl
  · obtain ⟨c3, mc, me, hr, hmp⟩ := r2 (by omega)
    obtain ⟨-, hst⟩ := hx (by omega)
    have hl := lot_lt (W := wvS P (g 5) (g 6) (g 7) (g 8) (g 3)) (cost := g 3 4) (show 2 ≤ C by omega)
    have hl2 := p512 hC hl
    obtain ⟨cc, ce, hw, hcp⟩ := f5_write_s hC hst hl2 (r 24) (g 42)
    obtain ⟨k, hn1, hn2, hn3⟩ := hcp
    obtain ⟨m, hm1, hm2, hm3⟩ := hmp
    have hlen := rwA_len (wvS P (g 5) (g 6) (g 7) (g 8) (g 3)) (lotB (wvS P (g 5) (g 6) (g 7) (g 8) (g 3)) (g 3 4) C (2 ^ C)) C C
    have htr := tr_end C (by omega)
    have enm : m = k := by omega
    subst enm
    have hn36 : m ≤ 36 := by omega
    obtain ⟨v, v8, v9⟩ := judge_walk hn hn36 hb (d := ce) (md := me) (fun i hi => by rw [hm3 i hi, hn3 i hi]) c1 c2 c3 (lotV (wvS P (g 5) (g 6) (g 7) (g 8) (g 3)) (g 3 4) C) n 0 FU (by omega) (FU_lt (by omega))
    refine ⟨v, nI m, ce, c1, c2, lotV (wvS P (g 5) (g 6) (g 7) (g 8) (g 3)) (g 3 4) C, nI m, me, c3, ?_, ?_, hR0⟩
    · unfold f8_judge
      rw [e0, e1, hh, lotR_ge h2]
      simp only [bn3E, bsE]
      rw [if_pos (nI_pos' (by omega)), hw]
      simp only [bn2E, bsE, jnE]
      rw [hn2, f1]
      exact v8
    · unfold f9_judge
      rw [e30, e31, hr]
      simp only [bn5E, bsE, jnE]
      rw [if_neg (by decide), hm2, f2]
      exact v9
