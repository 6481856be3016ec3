/-! ===== steps that only grow ===== -/
def itr (g : Nat → Nat) : Nat → Nat → Nat
  | 0, s => s
  | n + 1, s => itr g n (g s)
theorem itr_end (g : Nat → Nat) : ∀ n s, itr g (n + 1) s = g (itr g n s)
  | 0, _ => rfl
  | n + 1, s => itr_end g n (g s)
theorem itr_const {g : Nat → Nat} {s : Nat} (h : g s = s) : ∀ n, itr g n s = s
  | 0 => rfl
  | n + 1 => by rw [itr, h, itr_const h n]
theorem cntN_mono (p q : Nat → Prop) [DecidablePred p] [DecidablePred q] : ∀ n, (∀ i, i < n → p i → q i) → cntN p n ≤ cntN q n
  | 0, _ => Nat.le_refl _
  | n + 1, h => by
    have ih := cntN_mono p q n (fun i hi => h i (by omega))
    rw [cntN, cntN]
    by_cases hp : p n
    · rw [if_pos hp, if_pos (h n (by omega) hp)]; omega
    · rw [if_neg hp]; split <;> omega
theorem cntN_lt (p q : Nat → Prop) [DecidablePred p] [DecidablePred q] : ∀ n, (∀ i, i < n → p i → q i) → (∃ i, i < n ∧ q i ∧ ¬ p i) → cntN p n < cntN q n
  | 0, _, ⟨_, h, _⟩ => absurd h (by omega)
  | n + 1, h, ⟨i, hi, hq, hp⟩ => by
    rw [cntN, cntN]
    by_cases e : i = n
    · subst e
      have ih := cntN_mono p q i (fun j hj => h j (by omega))
      rw [if_neg hp, if_pos hq]; omega
    · have ih := cntN_lt p q n (fun j hj => h j (by omega)) ⟨i, by omega, hq, hp⟩
      by_cases hp2 : p n
      · rw [if_pos hp2, if_pos (h n (by omega) hp2)]; omega
      · rw [if_neg hp2]; split <;> omega
theorem tb_in {N t i : Nat} (ht : t < 2 ^ N) (h : t.testBit i = true) : i < N := by
  rcases Nat.lt_or_ge i N with a | a
  · exact a
  · exact absurd h (tb_high ht a)
theorem tb_diff {s t : Nat} (h : ¬ s = t) : ∃ i, ¬ s.testBit i = t.testBit i := Classical.byContradiction (fun q => h (Nat.eq_of_testBit_eq (fun i => Classical.byContradiction (fun e => q ⟨i, e⟩))))
theorem cnt_grow {N s t : Nat} (h2 : ∀ i, s.testBit i = true → t.testBit i = true) (ht : t < 2 ^ N) (hne : ¬ t = s) : cntN (fun i => s.testBit i = true) N < cntN (fun i => t.testBit i = true) N := by
  obtain ⟨i, hi⟩ := tb_diff hne
  have hb : t.testBit i = true ∧ ¬ s.testBit i = true := by
    cases ha : t.testBit i with
    | true => exact ⟨rfl, fun q => hi (by rw [ha, q])⟩
    | false =>
      rw [ha] at hi
      cases hc : s.testBit i with
      | true => exact absurd (h2 i hc) (by rw [ha]; decide)
      | false => exact absurd hc.symm hi
  exact cntN_lt _ _ N (fun j _ => h2 j) ⟨i, tb_in ht hb.1, hb.1, hb.2⟩
theorem itr_rest (g : Nat → Nat) (N : Nat) (h1 : ∀ s, s < 2 ^ N → g s < 2 ^ N) (h2 : ∀ s i, s.testBit i = true → (g s).testBit i = true) {s : Nat} (hs : s < 2 ^ N) (h0 : 0 < s) : ∀ n, itr g n s < 2 ^ N ∧ (g (itr g n s) = itr g n s ∨ n < cntN (fun i => (itr g n s).testBit i = true) N)
  | 0 => by
    refine ⟨hs, Or.inr ?_⟩
    have h := cnt_grow (s := 0) (t := s) (N := N) (fun i q => by rw [Nat.zero_testBit] at q; cases q) hs (by omega)
    exact Nat.lt_of_le_of_lt (Nat.zero_le _) h
  | n + 1 => by
    obtain ⟨a, b⟩ := itr_rest g N h1 h2 hs h0 n
    rw [itr_end]
    refine ⟨h1 _ a, ?_⟩
    by_cases e : g (itr g n s) = itr g n s
    · exact Or.inl (by rw [e, e])
    · refine Or.inr ?_
      have h := cnt_grow (h2 (itr g n s)) (h1 _ a) e
      rcases b with b | b
      · exact absurd b e
      · omega
theorem itr_fix (g : Nat → Nat) (N : Nat) (h1 : ∀ s, s < 2 ^ N → g s < 2 ^ N) (h2 : ∀ s i, s.testBit i = true → (g s).testBit i = true) {s : Nat} (hs : s < 2 ^ N) (h0 : 0 < s) : g (itr g N s) = itr g N s := by
  rcases (itr_rest g N h1 h2 hs h0 N).2 with h | h
  · exact h
  · have := cntN_le (fun i => (itr g N s).testBit i = true) N
    omega
def orN (f : Nat → Nat) : Nat → Nat
  | 0 => 0
  | n + 1 => orN f n ||| f n
theorem orN_lt (f : Nat → Nat) (N : Nat) : ∀ n, (∀ i, i < n → f i < 2 ^ N) → orN f n < 2 ^ N
  | 0, _ => Nat.two_pow_pos N
  | n + 1, h => by
    rw [orN]
    exact Nat.or_lt_two_pow (orN_lt f N n (fun i hi => h i (by omega))) (h n (by omega))
/-! ===== hang ===== -/
section HA
variable {P C : Nat} {siz law hom hub one fac sea fou byc msiz mtow mhub mone mcla mlaw : Nat → Int32}
theorem f7_woven_s (st : Nat → Int32) {a b : Nat} (ha : a < 9) (hb : b < 9) : f7_woven st (nI a) (nI b) = some (st (a * 9 + b)) := by
  simp only [f7_woven, jnE]
  rw [if_neg (not_neg (by omega)), if_neg (nge n9 ha (by omega)), if_neg (not_neg (by omega)), if_neg (nge n9 hb (by omega)), if_neg (by decide), n9, pk_mul, nI_add, gdi (by omega) (by omega), nI_clamp (by omega)]
/-- what a table holds -/
def WVt (C : Nat) (W : Nat → Nat → Int32) (o : Option (Nat → Int32)) : Prop := ∃ c1, o = some c1 ∧ ∀ a b, a < C → b < C → c1 (a * 9 + b) = W a b
def wvS (P : Nat) (hub one fac sea L : Nat → Int32) (a b : Nat) : Int32 := if a = b then 0 else strS P hub one fac sea L a b
theorem wvS_comm (P : Nat) (hub one fac sea L : Nat → Int32) (a b : Nat) : wvS P hub one fac sea L a b = wvS P hub one fac sea L b a := by
  unfold wvS
  rw [strS_comm]
  by_cases h : a = b
  · rw [if_pos h, if_pos h.symm]
  · rw [if_neg h, if_neg (fun q => h q.symm)]
theorem wvS_ti {P : Nat} {hub one fac sea L : Nat → Int32} {a b : Nat} : ¬ wvS P hub one fac sea L a b ≤ 0 ↔ tiB P hub one fac sea L a b = true := by
  rw [tiB_iff]
  unfold wvS
  by_cases h : a = b
  · rw [if_pos h]
    exact ⟨fun q => absurd (by decide) q, fun q => absurd h.symm q.1⟩
  · rw [if_neg h]
    exact ⟨fun q => ⟨fun e => h e.symm, q⟩, fun q => q.2⟩
theorem ix9 {a b : Nat} : nI a * 9 + nI b = nI (a * 9 + b) := by rw [n9, pk_mul, nI_add]
theorem f7_weave_s (B : RBx P C siz law hom hub one fac sea fou byc msiz mtow mhub mone mcla mlaw) {L : Nat → Int32} {off : Int32} (hL : ∀ s, s < 4 → L s = if nI s = off then 0 else law s) (st : Nat → Int32) : WVt C (wvS P hub one fac sea L) (f7_weave (nI C) (nI P) fac hub law one sea st off) := by
  have hC := B.2.1
  simp only [f7_weave, jnE]
  rw [n0]
  refine lupR (fun fu i (s : Nat → Int32) => f7_weave_L2 (nI C) (nI P) fac hub law one sea off fu i s _) C 0 (fun i s => ∀ a b, a < C → b < C → min a b < i → s (a * 9 + b) = wvS P hub one fac sea L a b) (WVt C (wvS P hub one fac sea L)) (fun fu i s h0 hi hI hk => ?_) (fun fu s hI => ?_) (fun a b _ _ h => absurd h (by omega)) (Nat.zero_le _) (FU_lt (by omega))
  · simp only [f7_weave_L2, jnE]
    rw [if_neg (nI_ge hi (by omega)), ix9, gdi (by omega) (by omega), nI_clamp (by omega), nI_1]
    refine lupR (fun fu j (s : Nat → Int32) => f7_weave_L27 (nI C) (nI P) fac hub law one sea off (nI i) fu j s _) C (i + 1) (fun j s => ∀ a b, a < C → b < C → (min a b < i ∨ (min a b = i ∧ max a b < j)) → s (a * 9 + b) = wvS P hub one fac sea L a b) (WVt C (wvS P hub one fac sea L)) (fun fu j s h0 hj hJ hk2 => ?_) (fun fu s hJ => ?_) (fun a b ha hb h => ?_) (by omega) (FU_lt (by omega))
    · simp only [f7_weave_L27]
      rw [if_neg (nI_ge hj (by omega)), f7_strength_s B hL hi hj, Option.bind_some, ix9, ix9, gdi (by omega) (by omega), gdi (by omega) (by omega), nI_clamp (by omega), nI_clamp (by omega), nI_1]
      refine hk2 _ (fun a b ha hb h => ?_)
      by_cases q2 : a * 9 + b = j * 9 + i
      · rw [updS q2, show a = j by omega, show b = i by omega]
        unfold wvS; rw [if_neg (by omega), strS_comm]
      · by_cases q1 : a * 9 + b = i * 9 + j
        · rw [upd_n q2, updS q1, show a = i by omega, show b = j by omega]
          unfold wvS; rw [if_neg (by omega)]
        · rw [upd_n q2, upd_n q1]
          exact hJ a b ha hb (by omega)
    · simp only [f7_weave_L27]
      rw [if_pos (nI_le (Nat.le_refl _) (by omega))]
      exact hk _ (fun a b ha hb h => hJ a b ha hb (by omega))
    · by_cases q : a * 9 + b = i * 9 + i
      · rw [updS q, show a = i by omega, show b = i by omega]
        unfold wvS; rw [if_pos rfl]
      · rw [upd_n q]
        exact hI a b ha hb (by omega)
  · simp only [f7_weave_L2]
    rw [if_pos (nI_le (Nat.le_refl _) (by omega))]
    exact ⟨s, rfl, fun a b ha hb => hI a b ha hb (by omega)⟩
/-- those tied to a claim, as bits -/
def tiN (P C : Nat) (hub one fac sea L : Nat → Int32) (a : Nat) : Nat := bmN (fun o => tiB P hub one fac sea L a o = true) C
/-- those tied to any of a set -/
def tyN (P C : Nat) (hub one fac sea L : Nat → Int32) (s : Nat) : Nat := orN (fun a => if s.testBit a = true then tiN P C hub one fac sea L a else 0) C
theorem tyN_lt (P C : Nat) (hub one fac sea L : Nat → Int32) (s : Nat) : tyN P C hub one fac sea L s < 2 ^ C := by
  refine orN_lt _ C C (fun i _ => ?_)
  by_cases h : s.testBit i = true
  · rw [if_pos h]; exact bmN_lt _ C
  · rw [if_neg h]; exact Nat.two_pow_pos C
theorem f7_tiedToAny_s (hC : C ≤ 9) {L c1 : Nat → Int32} (hW : ∀ a b, a < C → b < C → c1 (a * 9 + b) = wvS P hub one fac sea L a b) {s : Nat} (hs : s < 2 ^ C) : f7_tiedToAny (nI C) c1 (nI s) = some (nI (tyN P C hub one fac sea L s)) := by
  have hs2 := p512 hC hs
  simp only [f7_tiedToAny, jnE]
  refine lup0 (fun fu i (x : Int32) => f7_tiedToAny_L5 (nI C) c1 (nI s) fu x i _) C (fun i => nI (orN (fun a => if s.testBit a = true then tiN P C hub one fac sea L a else 0) i)) (fun fu i hi => ?_) (fun fu => ?_) rfl (FU_lt (by omega))
  · simp only [f7_tiedToAny_L5, jnE]
    rw [if_neg (nI_ge hi (by omega)), bx_t0 (by omega) (by omega), nI_1]
    by_cases hb : s.testBit i = true
    · rw [if_pos hb]
      refine lup0 (fun fu j (x : Int32) => f7_tiedToAny_L29 (nI C) c1 (nI i) fu x j _) C (fun j => nI (orN (fun a => if s.testBit a = true then tiN P C hub one fac sea L a else 0) i ||| bmN (fun o => tiB P hub one fac sea L i o = true) j)) (fun fu j hj => ?_) (fun fu => ?_) (by rw [bmN, Nat.or_zero]) (FU_lt (by omega))
      · simp only [f7_tiedToAny_L29, jnE]
        rw [if_neg (nI_ge hj (by omega)), f7_woven_s _ (by omega) (by omega), Option.bind_some, hW i j hi hj, nI_1, bmN]
        by_cases ht : tiB P hub one fac sea L i j = true
        · rw [if_neg (wvS_ti.mpr ht), if_pos ht, bx_pow (by omega), bx_or, Nat.or_assoc]
        · have ht2 : wvS P hub one fac sea L i j ≤ 0 := Classical.byContradiction (fun q => ht (wvS_ti.mp q))
          rw [if_pos ht2, if_neg ht, Nat.or_zero]
      · simp only [f7_tiedToAny_L29]
        rw [if_pos (nI_le (Nat.le_refl _) (by omega)), orN, if_pos hb]
        rfl
    · rw [if_neg hb, orN, if_neg hb, Nat.or_zero]
  · simp only [f7_tiedToAny_L5]
    rw [if_pos (nI_le (Nat.le_refl _) (by omega))]
    rfl
/-- a round of hanging -/
def hgN (P C : Nat) (hub one fac sea L : Nat → Int32) (s : Nat) : Nat := s ||| tyN P C hub one fac sea L s
theorem hgN_lt {P C : Nat} {hub one fac sea L : Nat → Int32} (s : Nat) (h : s < 2 ^ C) : hgN P C hub one fac sea L s < 2 ^ C := Nat.or_lt_two_pow h (tyN_lt P C hub one fac sea L s)
theorem hgN_tb {P C : Nat} {hub one fac sea L : Nat → Int32} (s i : Nat) (h : s.testBit i = true) : (hgN P C hub one fac sea L s).testBit i = true := by
  unfold hgN
  rw [Nat.testBit_or, h, Bool.true_or]
theorem f7_hanging_s (B : RBx P C siz law hom hub one fac sea fou byc msiz mtow mhub mone mcla mlaw) (st : Nat → Int32) {c : Nat} (hc : c < C) : ∃ c1, f7_hanging (nI C) (nI P) fac hub law one sea st (nI c) = some (nI (itr (hgN P C hub one fac sea law) C (2 ^ c)), c1) := by
  have hC := B.2.1
  obtain ⟨c1, hw, hW⟩ := f7_weave_s B (hLall law) st
  have hp : 2 ^ c < 2 ^ C := Nat.pow_lt_pow_right (by decide) hc
  refine ⟨c1, ?_⟩
  simp only [f7_hanging, jnE]
  rw [hw, Option.bind_some, bx_pow (by omega)]
  refine lup0 (fun fu i (x : Int32) => f7_hanging_L13 (nI C) c1 fu x i _) C (fun i => nI (itr (hgN P C hub one fac sea law) i (2 ^ c))) (fun fu i hi => ?_) (fun fu => ?_) rfl (FU_lt (by omega))
  · simp only [f7_hanging_L13]
    rw [if_neg (nI_ge hi (by omega)), f7_tiedToAny_s hC hW (itr_rest _ C hgN_lt hgN_tb hp (Nat.two_pow_pos c) i).1, Option.bind_some, bx_or, nI_1, itr_end]
    rfl
  · simp only [f7_hanging_L13]
    rw [if_pos (nI_le (Nat.le_refl _) (by omega))]
theorem hang_step (B : RBx P C siz law hom hub one fac sea fou byc msiz mtow mhub mone mcla mlaw) {f s w : Nat} (hw : w < 512) (hs : s < 2 ^ C) (hne : ¬ s = w) : f9_hang_L16 (nI C) (nI P) mcla mhub mlaw mone (f + 1) (nI w) (nI s) (fun _ x3 => some x3) = f9_hang_L16 (nI C) (nI P) mcla mhub mlaw mone f (nI s) (nI (hgN P C hub one fac sea law s)) (fun _ x3 => some x3) := by
  have hC := B.2.1
  have hs2 := p512 hC hs
  simp only [f9_hang_L16, jnE]
  rw [if_neg (fun q => hne (nI_inj (by omega) (by omega) q))]
  refine lup0 (fun fu j (x : Int32) => f9_hang_L26 (nI C) (nI P) mcla mhub mlaw mone (nI s) fu x j _) C (fun i => nI (s ||| orN (fun a => if s.testBit a = true then tiN P C hub one fac sea law a else 0) i)) (fun fu i hi => ?_) (fun fu => ?_) (by rw [orN, Nat.or_zero]) (FU_lt (by omega))
  · simp only [f9_hang_L26, jnE]
    rw [if_neg (nI_ge hi (by omega)), bx_t1 (by omega) (by omega), f9_tiedTo_s B hi, Option.bind_some, nI_1, orN]
    by_cases hb : s.testBit i = true
    · rw [if_pos hb, if_pos hb, bmB_N _ _ (by omega), bx_or, Nat.or_assoc]; rfl
    · rw [if_neg hb, if_neg hb, n0, bx_or, Nat.or_zero, Nat.or_zero]
  · simp only [f9_hang_L26]
    rw [if_pos (nI_le (Nat.le_refl _) (by omega))]
    rfl
theorem hang_loop (B : RBx P C siz law hom hub one fac sea fou byc msiz mtow mhub mone mcla mlaw) : ∀ (d fu s : Nat), d + 1 < fu → s < 2 ^ C → hgN P C hub one fac sea law (itr (hgN P C hub one fac sea law) d s) = itr (hgN P C hub one fac sea law) d s → f9_hang_L16 (nI C) (nI P) mcla mhub mlaw mone fu (nI s) (nI (hgN P C hub one fac sea law s)) (fun _ x3 => some x3) = some (nI (itr (hgN P C hub one fac sea law) d s)) := by
  intro d
  induction d with
  | zero =>
    intro fu s hfu hs hfix
    obtain ⟨f, rfl⟩ : ∃ f, fu = f + 1 := ⟨fu - 1, by omega⟩
    have e : hgN P C hub one fac sea law s = s := hfix
    simp only [f9_hang_L16]
    rw [e, if_pos rfl]
    rfl
  | succ d ih =>
    intro fu s hfu hs hfix
    have hC := B.2.1
    obtain ⟨f, rfl⟩ : ∃ f, fu = f + 1 := ⟨fu - 1, by omega⟩
    have hs2 := p512 hC hs
    by_cases e : hgN P C hub one fac sea law s = s
    · simp only [f9_hang_L16]
      rw [itr_const e, e, if_pos rfl]
    · rw [hang_step B hs2 (hgN_lt s hs) e]
      exact ih f (hgN P C hub one fac sea law s) (by omega) (hgN_lt s hs) hfix
end HA
theorem op_hang : Op_hang Rl := by
  intro r g u h p1 hR
  have hR0 := hR
  obtain ⟨⟨P, C, e0, e30, e1, e31, ez, B⟩, hM, hRR, hK, hT, hW, hH, hS, hP⟩ := hR
  have hC := B.2.1
  rw [e0, e30, e1, e31]
  by_cases h1 : inN p1 C
  · obtain ⟨c, hc, rfl⟩ := inN_of (by omega) h1
    obtain ⟨c1, hh⟩ := f7_hanging_s B (g 28) hc
    have hp : 2 ^ c < 2 ^ C := Nat.pow_lt_pow_right (by decide) hc
    have hp0 := Nat.two_pow_pos c
    have hp2 := p512 hC hp
    refine ⟨nI (itr (hgN P C (g 5) (g 6) (g 7) (g 8) (g 3)) C (2 ^ c)), c1, ?_, ?_, hR0⟩
    · unfold f8_hang
      rw [f0_isClaim_s (by omega), Option.bind_some, gI, if_pos h1, hh]; rfl
    · unfold f9_hang
      rw [f9_isClaim_s (by omega), Option.bind_some, gI, if_pos h1, bx_pow (by omega)]
      simp only [jnE]
      have h9 := hang_step B (f := 1999) (w := 0) (by omega) hp (by omega)
      have hl := hang_loop B C 1999 (2 ^ c) (by omega) hp (itr_fix _ C hgN_lt hgN_tb hp hp0)
      exact h9.trans hl
  · refine ⟨-1, g 28, ?_, ?_, hR0⟩
    · unfold f8_hang
      rw [f0_isClaim_s (by omega), Option.bind_some, gI, if_neg h1]
    · unfold f9_hang
      rw [f9_isClaim_s (by omega), Option.bind_some, gI, if_neg h1]
