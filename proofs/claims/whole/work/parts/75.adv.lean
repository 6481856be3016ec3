/-! ===== the class cuts, the reference advances ===== -/
theorem f4_addToken_s {k : Nat} (hk : k ≤ 200) (s t : Nat → Int32) (v p : Int32) : f4_addToken (nI k) s t v p = some (nI (k + 1), upd s k p, upd t k v) := by
  unfold f4_addToken
  rw [if_pos (show nI k ≤ 200 from nI_le (b := 200) hk (by omega)), gdi (by omega) (by omega), gdi (by omega) (by omega), nI_clamp (by omega), nI_1]
/-- what cut leaves -/
def CutO (byt : Nat → Nat) (n : Nat) (o : Option (Int32 × (Nat → Int32) × (Nat → Int32))) : Prop := ∃ T s t, T ≤ n ∧ o = some (nI (T + 1), s, t) ∧ (∀ k, k < T → stN byt n k < n) ∧ stN byt n T = n ∧ ∀ k, k ≤ T → s k = nI (stN byt n k) ∧ t k = nI (coN byt n k)
theorem cut_walk {n : Nat} {tp : Nat → Int32} {byt : Nat → Nat} (hn : n ≤ 200) (hb : ∀ i, i < n → tp i = nI (byt i) ∧ byt i < 256) : ∀ c p k fu (s t : Nat → Int32), p ≤ n → n - p ≤ c → c < fu → k ≤ p → skN byt n p = stN byt n k → (∀ j, j < k → stN byt n j < n ∧ s j = nI (stN byt n j) ∧ t j = nI (coN byt n j)) → CutO byt n (f4_cut_L7 (nI n) tp fu (nI p) (nI k) s t (fun _ c2 c3 c4 => bn3 (f4_addToken c2 c3 c4 3004 (nI n)) fun c26 c27 c28 => some (c26, c27, c28))) := by
  have fin : ∀ k fu (s t : Nat → Int32), k ≤ n → 0 < fu → stN byt n k = n → (∀ j, j < k → stN byt n j < n ∧ s j = nI (stN byt n j) ∧ t j = nI (coN byt n j)) → CutO byt n (f4_cut_L7 (nI n) tp fu (nI n) (nI k) s t (fun _ c2 c3 c4 => bn3 (f4_addToken c2 c3 c4 3004 (nI n)) fun c26 c27 c28 => some (c26, c27, c28))) := by
    intro k fu s t hk hfu hst hj
    obtain ⟨f, rfl⟩ : ∃ f, fu = f + 1 := ⟨fu - 1, by omega⟩
    simp only [f4_cut_L7]
    rw [if_pos (nI_le (Nat.le_refl _) (by omega)), f4_addToken_s (by omega), bn3E]
    refine ⟨k, _, _, hk, rfl, fun j h => (hj j h).1, hst, fun j h => ?_⟩
    by_cases e : j = k
    · rw [e, upd_s, upd_s, hst]
      refine ⟨rfl, ?_⟩
      unfold coN
      rw [if_neg (by omega)]; rfl
    · rw [upd_n e, upd_n e]; exact (hj j (by omega)).2
  intro c
  induction c with
  | zero =>
    intro p k fu s t hp hc hfu hk hsk hj
    have e : p = n := by omega
    subst e
    rw [skN_out (by omega)] at hsk
    exact fin k fu s t hk hfu hsk.symm hj
  | succ c ih =>
    intro p k fu s t hp hc hfu hk hsk hj
    by_cases hpn : p = n
    · subst hpn
      rw [skN_out (by omega)] at hsk
      exact fin k fu s t hk (by omega) hsk.symm hj
    · have hpl : p < n := by omega
      obtain ⟨f, rfl⟩ : ∃ f, fu = f + 1 := ⟨fu - 1, by omega⟩
      have hen := enN_bd (byt := byt) hpl
      simp only [f4_cut_L7, jnE]
      rw [if_neg (nI_ge hpl (by omega)), f4_sortAt_s hn hb hpl, Option.bind_some, nI_1, cut_in hn hb (srN_lt (byt p)).1 _ (n - (p + 1)) (p + 1) FU (by omega) (FU_lt (by omega)), f4_byteAt_s hn hb hpl, Option.bind_some]
      have hee : (if srN (byt p) = 3 then p + 1 else ruN byt n (srN (byt p)) (p + 1)) = enN byt n p := rfl
      rw [hee]
      by_cases hbl : byt p = 32
      · rw [if_pos (by rw [hbl]; rfl)]
        have e3 : enN byt n p = p + 1 := by unfold enN; rw [if_pos (by rw [hbl]; rfl)]
        rw [e3]
        rw [skN_in hpl hbl] at hsk
        exact ih (p + 1) k f s t (by omega) (by omega) (by omega) (by omega) hsk hj
      · have h256 := (hb p hpl).2
        rw [if_neg (show ¬ nI (byt p) = 32 from fun z => hbl (nI_inj (b := 32) (by omega) (by omega) z)), f4_tokenOf_s hn hb hpl, Option.bind_some, f4_addToken_s (by omega), bn3E]
        rw [skN_out (fun z => hbl z.2)] at hsk
        have hst : stN byt n k < n := by omega
        have heo : eoN byt n (k + 1) = enN byt n p := by rw [eoN_s hst, ← hsk]
        refine ih (enN byt n p) (k + 1) f _ _ (by omega) (by omega) (by omega) (by omega) (by rw [← heo]; rfl) (fun j h => ?_)
        by_cases e : j = k
        · rw [e, upd_s, upd_s, ← hsk]
          refine ⟨hpl, rfl, ?_⟩
          unfold coN
          rw [if_pos hst, heo, ← hsk]
        · rw [upd_n e, upd_n e]; exact hj j (by omega)
theorem f4_cut_s {n : Nat} {tp : Nat → Int32} {byt : Nat → Nat} (hn : n ≤ 200) (hb : ∀ i, i < n → tp i = nI (byt i) ∧ byt i < 256) (c0 : Int32) (s t : Nat → Int32) : CutO byt n (f4_cut c0 (nI n) s tp t) := by
  unfold f4_cut
  rw [jnE, n0]
  exact cut_walk hn hb n 0 0 FU s t (Nat.zero_le _) (by omega) (FU_lt (by omega)) (Nat.le_refl _) rfl (fun j h => absurd h (by omega))
/-! the reference -/
def wcN (i : Nat) : Nat := ([2011, 2010, 3000, 2005, 2004, 2003, 1000, 1001, 1002, 1003, 1004, 1005] : List Nat).getD i 0
theorem nv_in : ∀ i, i < 12 → nvN i < 2 ^ 40 := by decide
theorem nm_cases (E : Nat) : (∃ k, k < 12 ∧ E = nvN k ∧ nmC E = wcN k) ∨ ((∀ k, k < 12 → ¬ E = nvN k) ∧ nmC E = 3005) := by
  by_cases h : ∃ k, k < 12 ∧ E = nvN k
  · obtain ⟨k, hk, e⟩ := h
    refine Or.inl ⟨k, hk, e, ?_⟩
    subst e
    exact (by decide : ∀ k, k < 12 → nmC (nvN k) = wcN k) k hk
  · refine Or.inr ⟨fun k hk e => h ⟨k, hk, e⟩, ?_⟩
    have w : ∀ k, k < 12 → ¬ E = nvN k := fun k hk e => h ⟨k, hk, e⟩
    unfold nmC
    rw [if_neg (show ¬ E = 1253 from w 0 (by omega)), if_neg (show ¬ E = 11716 from w 1 (by omega)), if_neg (show ¬ E = 249 from w 2 (by omega)), if_neg (show ¬ E = 423 from w 3 (by omega)), if_neg (show ¬ E = 1111 from w 4 (by omega)), if_neg (show ¬ E = 10631 from w 5 (by omega)), if_neg (show ¬ E = 70241 from w 6 (by omega)), if_neg (show ¬ E = 2968 from w 7 (by omega)), if_neg (show ¬ E = 232546955 from w 8 (by omega)), if_neg (show ¬ E = 400375 from w 9 (by omega)), if_neg (show ¬ E = 12531637 from w 10 (by omega)), if_neg (show ¬ E = 223456 from w 11 (by omega))]
theorem wc_inj : ∀ i, i < 12 → ∀ k, k < 12 → wcN i = wcN k → i = k := by decide
theorem wc_3005 : ∀ i, i < 12 → ¬ 3005 = wcN i := by decide
theorem nm_iff {E i : Nat} (hi : i < 12) : nmC E = wcN i ↔ E = nvN i := by
  rcases nm_cases E with ⟨k, hk, e, h⟩ | ⟨h, e⟩
  · constructor
    · intro z
      rw [h] at z
      rw [e, wc_inj k hk i hi z]
    · intro z
      rw [z]
      exact (by decide : ∀ k, k < 12 → nmC (nvN k) = wcN k) i hi
  · rw [e]
    exact ⟨fun z => absurd z (wc_3005 i hi), fun z => absurd z (h i hi)⟩
theorem wc_rng : ∀ k, k < 12 → 1000 ≤ wcN k ∧ ¬ (2000 ≤ wcN k ∧ wcN k < 2003) ∧ ¬ wcN k = 3001 ∧ ¬ wcN k = 3002 ∧ ¬ wcN k = 3003 ∧ ¬ wcN k = 3004 ∧ (1000 ≤ wcN k ∧ wcN k < 1006 ↔ 6 ≤ k) := by decide
theorem nm_rng (E : Nat) : 1000 ≤ nmC E ∧ ¬ (2000 ≤ nmC E ∧ nmC E < 2003) ∧ ¬ nmC E = 3001 ∧ ¬ nmC E = 3002 ∧ ¬ nmC E = 3003 ∧ ¬ nmC E = 3004 := by
  rcases nm_cases E with ⟨k, hk, e, h⟩ | ⟨h, e⟩
  · rw [h]
    have := wc_rng k hk
    exact ⟨this.1, this.2.1, this.2.2.1, this.2.2.2.1, this.2.2.2.2.1, this.2.2.2.2.2.1⟩
  · rw [e]; decide
def mbN (i : Nat) : Nat := ([40, 41, 59, 60, 61, 62] : List Nat).getD i 0
def mcN (i : Nat) : Nat := ([3001, 3002, 3003, 2000, 2001, 2002] : List Nat).getD i 0
/-- a token as the reference has it -/
def TM (c : Nat) (so va : Int32) (wo : Int64) : Prop :=
  (∀ i, i < 12 → f9_isWord so wo (lN (nvN i)) = some (b01 (decide (c = wcN i)))) ∧
  (∀ i, i < 6 → f9_isMark so va (nI (mbN i)) = some (b01 (decide (c = mcN i)))) ∧
  (c < 1000 → so = 2 ∧ va = nI c) ∧ (1000 ≤ c → ¬ (so = 2 ∧ ¬ va < 0)) ∧
  (2000 ≤ c → c < 2003 → va = nI (60 + (c - 2000))) ∧ (so = 0 ↔ c = 3004)
theorem TM_fact {c : Nat} {so va : Int32} {wo : Int64} (h : TM c so va wo) : f9_factHere so wo = some (if 1000 ≤ c ∧ c < 1006 then nI (c - 1000) else -1) := by
  have w := h.1
  unfold f9_factHere
  rw [show (70241 : Int64) = lN (nvN 6) from rfl, show (2968 : Int64) = lN (nvN 7) from rfl, show (232546955 : Int64) = lN (nvN 8) from rfl, show (400375 : Int64) = lN (nvN 9) from rfl, show (12531637 : Int64) = lN (nvN 10) from rfl, show (223456 : Int64) = lN (nvN 11) from rfl]
  rw [w 6 (by omega), w 7 (by omega), w 8 (by omega), w 9 (by omega), w 10 (by omega), w 11 (by omega)]
  simp only [bsE, dec_if]
  rw [show wcN 6 = 1000 from rfl, show wcN 7 = 1001 from rfl, show wcN 8 = 1002 from rfl, show wcN 9 = 1003 from rfl, show wcN 10 = 1004 from rfl, show wcN 11 = 1005 from rfl]
  by_cases h0 : c = 1000
  · rw [if_pos h0, h0]; rfl
  rw [if_neg h0]
  by_cases h1 : c = 1001
  · rw [if_pos h1, h1]; rfl
  rw [if_neg h1]
  by_cases h2 : c = 1002
  · rw [if_pos h2, h2]; rfl
  rw [if_neg h2]
  by_cases h3 : c = 1003
  · rw [if_pos h3, h3]; rfl
  rw [if_neg h3]
  by_cases h4 : c = 1004
  · rw [if_pos h4, h4]; rfl
  rw [if_neg h4]
  by_cases h5 : c = 1005
  · rw [if_pos h5, h5]; rfl
  rw [if_neg h5, if_neg (by omega)]
theorem b01_if {p : Prop} [Decidable p] : (if p then some (1 : Int32) else some 0) = some (b01 (decide p)) := by
  by_cases h : p
  · rw [if_pos h, decide_eq_true h]; rfl
  · rw [if_neg h, decide_eq_false h]; rfl
theorem wo_no {so : Int32} (h : ¬ so = 1) (wo W : Int64) : f9_isWord so wo W = some 0 := if_neg h
theorem mk_no {so : Int32} (h : ¬ so = 3) (va m : Int32) : f9_isMark so va m = some 0 := if_neg h
theorem TM_end : TM 3004 0 (-1) 0 := by
  refine ⟨fun i hi => ?_, fun i hi => ?_, fun h => absurd h (by omega), fun _ => by decide, fun _ h => absurd h (by omega), ⟨fun _ => rfl, fun _ => rfl⟩⟩
  · rw [wo_no (by decide), decide_eq_false (fun z => (wc_rng i hi).2.2.2.2.2.1 z.symm)]; rfl
  · rw [mk_no (by decide), decide_eq_false ((by decide : ∀ i, i < 6 → ¬ 3004 = mcN i) i hi)]; rfl
theorem TM_mark {b : Nat} (hb : b < 256) (h3 : srN b = 3) : TM (mkC b) 3 (nI b) 0 := by
  have hm : ∀ i, i < 6 → (mkC b = mcN i ↔ b = mbN i) := by
    intro i hi
    exact (by decide +kernel : ∀ b, b < 256 → ∀ i, i < 6 → (mkC b = mcN i ↔ b = mbN i)) b hb i hi
  have hr : 1000 ≤ mkC b ∧ (∀ i, i < 12 → ¬ mkC b = wcN i) ∧ ¬ mkC b = 3004 ∧ (2000 ≤ mkC b → mkC b < 2003 → b = 60 + (mkC b - 2000)) := (by decide +kernel : ∀ b, b < 256 → 1000 ≤ mkC b ∧ (∀ i, i < 12 → ¬ mkC b = wcN i) ∧ ¬ mkC b = 3004 ∧ (2000 ≤ mkC b → mkC b < 2003 → b = 60 + (mkC b - 2000))) b hb
  refine ⟨fun i hi => ?_, fun i hi => ?_, fun h => absurd h (by omega), fun _ h => absurd h.1 (by decide), fun h1 h2 => by rw [← hr.2.2.2 h1 h2], ⟨fun h => absurd h (by decide), fun h => absurd h hr.2.2.1⟩⟩
  · rw [wo_no (by decide), decide_eq_false (hr.2.1 i hi)]; rfl
  · have hmb : mbN i < 256 := (by decide : ∀ i, i < 6 → mbN i < 256) i hi
    unfold f9_isMark
    rw [if_pos rfl, b01_if]
    congr 2
    exact decide_eq_decide.mpr ⟨fun z => (hm i hi).mpr (nI_inj (by omega) (by omega) z), fun z => by rw [(hm i hi).mp z]⟩
theorem dgN_lt {f : Nat → Nat} : ∀ k, (∀ j, j < k → 48 ≤ f j ∧ f j ≤ 57) → dgN f k < 10 ^ k
  | 0, _ => by rw [dgN]; decide
  | k + 1, h => by
    have ih := dgN_lt k (fun j hj => h j (by omega))
    have := h k (by omega)
    rw [dgN, Nat.pow_succ]; omega
theorem TM_num {m : Nat} (h : m < 1000) : TM m 2 (nI m) 0 := by
  refine ⟨fun i hi => ?_, fun i hi => ?_, fun _ => ⟨rfl, rfl⟩, fun h2 => absurd h2 (by omega), fun h2 => absurd h2 (by omega), ⟨fun h => absurd h (by decide), fun h => absurd h (by omega)⟩⟩
  · rw [wo_no (by decide), decide_eq_false (fun z => by have := (wc_rng i hi).1; omega)]; rfl
  · rw [mk_no (by decide), decide_eq_false (fun z => by have := (by decide : ∀ i, i < 6 → 1000 ≤ mcN i) i hi; omega)]; rfl
theorem TM_long : TM 3005 2 (-1) 0 := by
  refine ⟨fun i hi => ?_, fun i hi => ?_, fun h => absurd h (by omega), fun _ h => h.2 (by decide), fun _ h => absurd h (by omega), ⟨fun h => absurd h (by decide), fun h => absurd h (by omega)⟩⟩
  · rw [wo_no (by decide), decide_eq_false (wc_3005 i hi)]; rfl
  · rw [mk_no (by decide), decide_eq_false ((by decide : ∀ i, i < 6 → ¬ 3005 = mcN i) i hi)]; rfl
/-- the word of k letters -/
def wdL (f : Nat → Nat) (k : Nat) : Int64 := if k ≤ 8 then lN (eFN f k) else -1
theorem eFN_lt {f : Nat → Nat} : ∀ k, (∀ j, j < k → 97 ≤ f j ∧ f j ≤ 122) → eFN f k < 27 ^ k
  | 0, _ => by rw [eFN]; decide
  | k + 1, h => by
    have ih := eFN_lt k (fun j hj => h j (by omega))
    have := h k (by omega)
    rw [eFN, Nat.pow_succ]; omega
theorem eFN_ge {f : Nat → Nat} : ∀ k, (∀ j, j < k → 97 ≤ f j ∧ f j ≤ 122) → 0 < k → 27 ^ (k - 1) ≤ eFN f k
  | 1, h, _ => by
    have := h 0 (by omega)
    rw [eFN, eFN]
    show 1 ≤ _
    omega
  | k + 2, h, _ => by
    have ih := eFN_ge (k + 1) (fun j hj => h j (by omega)) (by omega)
    have := h (k + 1) (by omega)
    rw [eFN]
    rw [show k + 2 - 1 = (k + 1 - 1) + 1 by omega, Nat.pow_succ]; omega
theorem TM_name {f : Nat → Nat} {k : Nat} {b : Nat} (h : ∀ j, j < k → 97 ≤ f j ∧ f j ≤ 122) (hk : 0 < k) : TM (nmC (eFN f k)) 1 (nI b) (wdL f k) := by
  have hr := nm_rng (eFN f k)
  refine ⟨fun i hi => ?_, fun i hi => ?_, fun z => absurd z (by omega), fun _ z => absurd z.1 (by decide), fun z1 z2 => absurd ⟨z1, z2⟩ hr.2.1, ⟨fun z => absurd z (by decide), fun z => absurd z hr.2.2.2.2.2⟩⟩
  · have hv := nv_in i hi
    unfold f9_isWord wdL
    rw [if_pos rfl]
    by_cases h8 : k ≤ 8
    · have hlt := eFN_lt k h
      have hp : 27 ^ k ≤ 27 ^ 8 := Nat.pow_le_pow_right (by decide) h8
      have hp8 : 27 ^ 8 < 2 ^ 40 := by decide
      rw [if_pos h8, b01_if]
      congr 2
      refine decide_eq_decide.mpr ?_
      rw [lg_cmp_eq, pk_lEQ (by omega) (by omega), nm_iff hi]
    · have hge := eFN_ge k h hk
      have hp : 27 ^ 8 ≤ 27 ^ (k - 1) := Nat.pow_le_pow_right (by decide) (by omega)
      have hp8 : ∀ i, i < 12 → nvN i < 27 ^ 8 := by decide
      rw [if_neg h8, b01_if]
      congr 2
      refine decide_eq_decide.mpr ?_
      rw [lg_cmp_eq, nm_iff hi]
      constructor
      · intro z
        have := congrArg Int64.toInt z
        rw [pk_lT (by omega)] at this
        rw [show (-1 : Int64).toInt = -1 by decide] at this
        omega
      · intro z
        have := hp8 i hi
        omega
  · rw [mk_no (by decide), decide_eq_false]
    · rfl
    · intro z
      have hm : ∀ i, i < 6 → mcN i = 3001 ∨ mcN i = 3002 ∨ mcN i = 3003 ∨ (2000 ≤ mcN i ∧ mcN i < 2003) := by decide
      rcases hm i hi with q | q | q | q
      · exact hr.2.2.1 (z.trans q)
      · exact hr.2.2.2.1 (z.trans q)
      · exact hr.2.2.2.2.1 (z.trans q)
      · rw [← z] at q; exact hr.2.1 q
