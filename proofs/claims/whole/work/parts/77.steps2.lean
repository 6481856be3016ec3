/-! ===== the reference's steps through a condition ===== -/
/-- pending signs, the top first -/
def PdC : List Nat → (Nat → Int32) → Prop
  | [], _ => True
  | x :: P, c => c P.length = nI x ∧ PdC P c
theorem PdC_upd {v : Int32} {k : Nat} : ∀ {P : List Nat} {c : Nat → Int32}, P.length ≤ k → PdC P c → PdC P (upd c k v)
  | [], _, _, _ => trivial
  | x :: P, c, h, q => by
    have h2 : P.length + 1 ≤ k := h
    exact ⟨by rw [upd_n (by omega)]; exact q.1, PdC_upd (by omega) q.2⟩
/-- settle -/
def stlN (x : Nat) : List Nat → List Nat → List Nat × List Nat
  | [], O => (O, [])
  | y :: P, O => if y = x then stlN x P (O ++ [x]) else (O, y :: P)
theorem stlN_len (x : Nat) : ∀ P O, (stlN x P O).1.length + (stlN x P O).2.length = O.length + P.length
  | [], O => rfl
  | y :: P, O => by
    rw [stlN]
    by_cases h : y = x
    · rw [if_pos h, stlN_len x P (O ++ [x]), List.length_append, List.length_cons, List.length_cons, List.length_nil]; omega
    · rw [if_neg h]
theorem stlN_no {x y : Nat} {P O : List Nat} (h : ¬ y = x) : stlN x (y :: P) O = (O, y :: P) := if_neg h
theorem stlN_yes {x : Nat} {P O : List Nat} : stlN x (x :: P) O = stlN x P (O ++ [x]) := if_pos rfl
def OuC (O : List Nat) (c : Nat → Int32) : Prop := ∀ i, i < O.length → c i = nI (O.getD i 0)
theorem OuC_add {O : List Nat} {c : Nat → Int32} {x : Nat} (h : OuC O c) : OuC (O ++ [x]) (upd c O.length (nI x)) := by
  intro i hi
  rw [List.length_append, List.length_cons, List.length_nil] at hi
  by_cases e : i = O.length
  · rw [updS e, gDr 0 (by omega)]; rfl
  · rw [upd_n e, gDl (by omega)]; exact h i (by omega)
theorem f9_isTop_s {P : List Nat} {c : Nat → Int32} (hP : PdC P c) (hl : P.length ≤ 200) (hx : ∀ y ∈ P, y < 2 ^ 31) {x : Nat} (hx2 : x < 2 ^ 31) : f9_isTop (nI P.length) c (nI x) = some (b01 (decide (P.head? = some x))) := by
  cases P with
  | nil => rfl
  | cons y P =>
    unfold f9_isTop
    rw [List.length_cons] at hl ⊢
    rw [if_neg (nI_nle (by omega) (by omega)), nI_pred, gdi (by omega) (by omega), nI_clamp (by omega), hP.1, b01_if]
    congr 2
    refine decide_eq_decide.mpr ⟨fun z => ?_, fun z => ?_⟩
    · rw [List.head?_cons, nI_inj (hx y List.mem_cons_self) hx2 z]
    · rw [List.head?_cons] at z
      rw [Option.some.inj z]
theorem f9_emit_s {k : Nat} (hk : k < 200) (c : Nat → Int32) (v : Int32) : f9_emit (nI k) c v = some (nI (k + 1), upd c k v) := by
  unfold f9_emit
  rw [gdi hk (by omega), nI_clamp (by omega), nI_1]
theorem f9_pend_s {k : Nat} (hk : k < 200) (c : Nat → Int32) (v : Int32) : f9_pend (nI k) c v = some (nI (k + 1), upd c k v) := by
  unfold f9_pend
  rw [gdi hk (by omega), nI_clamp (by omega), nI_1]
theorem settle_w {x : Nat} (hx : x < 2 ^ 31) (c12 : Nat → Int32) (K : Int32 → Int32 → (Nat → Int32) → Option (Int32 × Int32 × (Nat → Int32))) : ∀ (P O : List Nat) (c11 : Nat → Int32) (fu : Nat), P.length < fu → O.length + P.length ≤ 200 → (∀ y ∈ P, y < 2 ^ 31) → PdC P c12 → OuC O c11 → ∃ c, f9_settle_L0 c12 (nI x) fu (nI O.length) (nI P.length) c11 K = K (nI (stlN x P O).1.length) (nI (stlN x P O).2.length) c ∧ OuC (stlN x P O).1 c ∧ PdC (stlN x P O).2 c12
  | [], O, c11, fu, hf, hl, hy, hP, hO => by
    obtain ⟨f, rfl⟩ : ∃ f, fu = f + 1 := ⟨fu - 1, by rw [List.length_nil] at hf; omega⟩
    refine ⟨c11, ?_, hO, trivial⟩
    simp only [f9_settle_L0]
    rw [f9_isTop_s (P := []) trivial (by rw [List.length_nil]; omega) hy hx, Option.bind_some]
    rfl
  | y :: P, O, c11, fu, hf, hl, hy, hP, hO => by
    obtain ⟨f, rfl⟩ : ∃ f, fu = f + 1 := ⟨fu - 1, by rw [List.length_cons] at hf; omega⟩
    rw [List.length_cons] at hf hl
    simp only [f9_settle_L0]
    rw [f9_isTop_s hP (by rw [List.length_cons]; omega) hy hx, Option.bind_some, dec_if, List.head?_cons]
    by_cases h : y = x
    · subst h
      rw [if_pos rfl, f9_emit_s (by omega), bn2E, List.length_cons, nI_pred, stlN_yes]
      have hO2 := OuC_add (x := y) hO
      have ih := settle_w hx c12 K P (O ++ [y]) (upd c11 O.length (nI y)) f (by omega) (by rw [List.length_append, List.length_cons, List.length_nil]; omega) (fun z hz => hy z (List.mem_cons_of_mem _ hz)) hP.2 hO2
      rw [List.length_append, List.length_cons, List.length_nil] at ih
      exact ih
    · rw [if_neg (fun z => h (Option.some.inj z)), stlN_no h]
      exact ⟨c11, rfl, hO, hP⟩
theorem f9_settle_s {x : Nat} (hx : x < 2 ^ 31) {P O : List Nat} {c11 c12 : Nat → Int32} (hl : O.length + P.length ≤ 200) (hy : ∀ y ∈ P, y < 2 ^ 31) (hP : PdC P c12) (hO : OuC O c11) : ∃ c, f9_settle (nI O.length) (nI P.length) c11 c12 (nI x) = some (nI (stlN x P O).1.length, nI (stlN x P O).2.length, c) ∧ OuC (stlN x P O).1 c ∧ PdC (stlN x P O).2 c12 := by
  unfold f9_settle
  rw [jnE]
  exact settle_w hx c12 _ P O c11 FU (FU_lt (by omega)) hl hy hP hO
theorem stlN_mem {x : Nat} {q : Nat → Prop} : ∀ {P O : List Nat}, (∀ y ∈ P, q y) → ∀ y ∈ (stlN x P O).2, q y
  | [], O, h => fun y hy => absurd hy List.not_mem_nil
  | z :: P, O, h => by
    rw [stlN]
    by_cases e : z = x
    · rw [if_pos e]; exact stlN_mem (fun y hy => h y (List.mem_cons_of_mem _ hy))
    · rw [if_neg e]; exact h
abbrev WR : Type := Int32 × Int32 × Int32 × Int32 × Int32 × Int32 × Int32 × Int32 × (Nat → Int32) × (Nat → Int32) × Int64
def KW : Int32 → Int32 → Int32 → Int32 → Int32 → Int32 → Int32 → Int32 → Int32 → Int32 → (Nat → Int32) → (Nat → Int32) → Int64 → Option WR := fun _ _ c3 c4 c5 c6 c7 c8 c9 c10 c11 c12 c13 => some (c3, c4, c5, c6, c7, c8, c9, c10, c11, c12, c13)
/-- the reference stands at a token, with what it has put out and what is pending -/
def RSt (byt : Nat → Nat) (n at' : Nat) (O P : List Nat) (op : Nat) (c3 c4 c6 c7 c8 c9 c10 : Int32) (c11 c12 : Nat → Int32) (c13 : Int64) : Prop :=
  c3 = nI (stN byt n at') ∧ c4 = nI O.length ∧ c6 = nI op ∧ c7 = nI P.length ∧ c9 = nI (eoN byt n (at' + 1)) ∧ TM (coN byt n at') c8 c10 c13 ∧ OuC O c11 ∧ PdC P c12 ∧ (∀ y ∈ P, y < 2 ^ 31) ∧ O.length + P.length ≤ at'
def OKr (byt : Nat → Nat) (n T : Nat) (mt : Nat → Int32) (Q : Option WR → Prop) (w : Int32) (at' : Nat) (O P : List Nat) (op : Nat) : Prop :=
  ∀ fu c3 c4 c6 c7 c8 c9 c10 c11 c12 c13, T + 2 - at' ≤ fu → RSt byt n at' O P op c3 c4 c6 c7 c8 c9 c10 c11 c12 c13 → Q (f9_wantCond_L16 (nI n) mt 10631 1111 423 fu w 1 c3 c4 1 c6 c7 c8 c9 c10 c11 c12 c13 KW)
def FAo (byt : Nat → Nat) (n : Nat) (Q : Option WR → Prop) (e : Nat) : Prop := ∀ c4 c6 c7 c8 c9 c10 c11 c12 c13, Q (some (nI (stN byt n e), c4, 0, c6, c7, c8, c9, c10, c11, c12, c13))
section SQ
variable {n T : Nat} {mt : Nat → Int32} {byt : Nat → Nat} {Q : Option WR → Prop}
theorem w_not : (10631 : Int64) = lN (nvN 5) := rfl
theorem w_and : (1111 : Int64) = lN (nvN 4) := rfl
theorem w_or : (423 : Int64) = lN (nvN 3) := rfl
theorem e10 : ¬ (1 : Int32) = 0 := by decide
/-- good is lost: the loop ends -/
theorem sq_bad {fu : Nat} (hf : 0 < fu) (x1 x2 c3 c4 c6 c7 c8 c9 c10 : Int32) (c11 c12 : Nat → Int32) (c13 : Int64) : f9_wantCond_L16 (nI n) mt 10631 1111 423 fu x1 x2 c3 c4 0 c6 c7 c8 c9 c10 c11 c12 c13 KW = some (c3, c4, 0, c6, c7, c8, c9, c10, c11, c12, c13) := by
  obtain ⟨f, rfl⟩ : ∃ f, fu = f + 1 := ⟨fu - 1, by omega⟩
  rw [f9_wantCond_L16, if_pos rfl]; rfl
theorem sq_not (hn : n ≤ 200) (hb : ∀ i, i < n → mt i = nI (byt i) ∧ byt i < 256) {a op : Nat} {O P : List Nat} (ha : a < T) (hT : T ≤ n) (hc : coN byt n a = 2003) (h : OKr byt n T mt Q 1 (a + 1) O (40002 :: P) op) : OKr byt n T mt Q 1 a O P op := by
  intro fu c3 c4 c6 c7 c8 c9 c10 c11 c12 c13 hfu ⟨r3, r4, r6, r7, r9, rT, rO, rP, ry, rl⟩
  obtain ⟨f, rfl⟩ : ∃ f, fu = f + 1 := ⟨fu - 1, by omega⟩
  obtain ⟨so, va, wo, hadv, hTM⟩ := f9_advance_s hn hb (a + 1) c3 c8 c10 c13
  have hw := rT.1 5 (by omega)
  rw [f9_wantCond_L16, if_neg e10, if_neg e10, jnE, if_neg e10, w_not, hw, bsE, dec_if, if_pos (show coN byt n a = wcN 5 from hc), r7, f9_pend_s (by omega), bn2E, r9, hadv, bn5E]
  refine h f _ _ _ _ _ _ _ _ _ _ (by omega) ⟨rfl, r4, r6, rfl, rfl, hTM, rO, ⟨upd_s, PdC_upd (Nat.le_refl _) rP⟩, fun y hy => ?_, by rw [List.length_cons]; omega⟩
  rcases List.mem_cons.mp hy with e | e
  · rw [e]; omega
  · exact ry y e
theorem sq_open (hn : n ≤ 200) (hb : ∀ i, i < n → mt i = nI (byt i) ∧ byt i < 256) {a op : Nat} {O P : List Nat} (ha : a < T) (hT : T ≤ n) (hc : coN byt n a = 3001) (hop : op < 3) (h : OKr byt n T mt Q 1 (a + 1) O (40003 :: P) (op + 1)) : OKr byt n T mt Q 1 a O P op := by
  intro fu c3 c4 c6 c7 c8 c9 c10 c11 c12 c13 hfu ⟨r3, r4, r6, r7, r9, rT, rO, rP, ry, rl⟩
  obtain ⟨f, rfl⟩ : ∃ f, fu = f + 1 := ⟨fu - 1, by omega⟩
  obtain ⟨so, va, wo, hadv, hTM⟩ := f9_advance_s hn hb (a + 1) c3 c8 c10 c13
  have hw := rT.1 5 (by omega)
  have hm : f9_isMark c8 c10 40 = some (b01 (decide (coN byt n a = mcN 0))) := rT.2.1 0 (by omega)
  rw [f9_wantCond_L16, if_neg e10, if_neg e10, jnE, if_neg e10, w_not, hw, bsE, dec_if, if_neg (show ¬ coN byt n a = wcN 5 from by rw [hc]; decide), jnE, if_neg e10, hm, bsE, dec_if, if_pos (show coN byt n a = mcN 0 from hc), jnE, r6, if_neg (show ¬ (3 : Int32) ≤ nI op from nI_ge (b := 3) hop (by omega))]
  dsimp only
  rw [show bz (1 : Int32) = true from by decide, gd_t, if_neg e10, r7, f9_pend_s (by omega), bn2E, r9, hadv, bn5E, nI_1]
  refine h f _ _ _ _ _ _ _ _ _ _ (by omega) ⟨rfl, r4, rfl, rfl, rfl, hTM, rO, ⟨upd_s, PdC_upd (Nat.le_refl _) rP⟩, fun y hy => ?_, by rw [List.length_cons]; omega⟩
  rcases List.mem_cons.mp hy with e | e
  · rw [e]; omega
  · exact ry y e
theorem sq_open4 {a op : Nat} {O P : List Nat} (ha : a ≤ T) (hc : coN byt n a = 3001) (hop : ¬ op < 3) (hop2 : op < 2 ^ 31) (h : FAo byt n Q a) : OKr byt n T mt Q 1 a O P op := by
  intro fu c3 c4 c6 c7 c8 c9 c10 c11 c12 c13 hfu ⟨r3, r4, r6, r7, r9, rT, rO, rP, ry, rl⟩
  obtain ⟨f, rfl⟩ : ∃ f, fu = f + 1 := ⟨fu - 1, by omega⟩
  have hw := rT.1 5 (by omega)
  have hm : f9_isMark c8 c10 40 = some (b01 (decide (coN byt n a = mcN 0))) := rT.2.1 0 (by omega)
  rw [f9_wantCond_L16, if_neg e10, if_neg e10, jnE, if_neg e10, w_not, hw, bsE, dec_if, if_neg (show ¬ coN byt n a = wcN 5 from by rw [hc]; decide), jnE, if_neg e10, hm, bsE, dec_if, if_pos (show coN byt n a = mcN 0 from hc), jnE, r6, if_pos (show (3 : Int32) ≤ nI op from nI_le (a := 3) (by omega) hop2)]
  dsimp only
  rw [show bz (0 : Int32) = true from by decide, gd_t, if_pos rfl, ← w_not, sq_bad (by omega), r3]
  exact h _ _ _ _ _ _ _ _ _
/-! values and comparisons -/
theorem wv_bad (c3 c4 c8 c9 c10 : Int32) (c11 : Nat → Int32) (c13 : Int64) {c : Nat} (hT : TM c c8 c10 c13) : f9_wantValue c3 c4 0 c8 (nI n) c9 c10 c11 mt c13 = some (c3, c4, 0, c8, c9, c10, c11, c13) := by
  unfold f9_wantValue
  rw [TM_fact hT, Option.bind_some]
  simp only [jnE]
  rw [if_pos trivial, show bz (0 : Int32) = true from by decide, gd_t, if_pos trivial]
theorem wv_no (c3 c4 c8 c9 c10 : Int32) (c11 : Nat → Int32) (c13 : Int64) {c : Nat} (hT : TM c c8 c10 c13) (hc : ¬ c < 1006) : f9_wantValue c3 c4 1 c8 (nI n) c9 c10 c11 mt c13 = some (c3, c4, 0, c8, c9, c10, c11, c13) := by
  have h := hT.2.2.2.1 (by omega)
  unfold f9_wantValue
  rw [TM_fact hT, Option.bind_some, if_neg (by omega)]
  simp only [jnE]
  rw [if_neg e10, if_neg (show ¬ (0 : Int32) ≤ -1 by decide), show bz (0 : Int32) = true from by decide, gd_t, if_pos trivial]
  by_cases h2 : c8 = 2
  · rw [if_pos h2, if_pos (Classical.byContradiction (fun z => h ⟨h2, z⟩))]
  · rw [if_neg h2]
theorem wv_yes (hn : n ≤ 200) (hb : ∀ i, i < n → mt i = nI (byt i) ∧ byt i < 256) {a k : Nat} (hk : k < 200) (c3 c8 c10 : Int32) (c11 : Nat → Int32) (c13 : Int64) (hT : TM (coN byt n a) c8 c10 c13) (hc : coN byt n a < 1006) : ∃ so va wo, f9_wantValue c3 (nI k) 1 c8 (nI n) (nI (eoN byt n (a + 1))) c10 c11 mt c13 = some (nI (stN byt n (a + 1)), nI (k + 1), 1, so, nI (eoN byt n (a + 2)), va, upd c11 k (nI (vM (coN byt n a))), wo) ∧ TM (coN byt n (a + 1)) so va wo := by
  obtain ⟨so, va, wo, hadv, hTM⟩ := f9_advance_s hn hb (a + 1) c3 c8 c10 c13
  refine ⟨so, va, wo, ?_, hTM⟩
  unfold f9_wantValue
  rw [TM_fact hT, Option.bind_some]
  simp only [jnE]
  rw [if_neg e10, show bz (1 : Int32) = true from by decide, gd_t, if_neg e10, f9_emit_s hk, bn2E, f9_emit_s hk, bn2E, hadv, bn5E]
  unfold vM
  by_cases h : coN byt n a < 1000
  · obtain ⟨q1, q2⟩ := hT.2.2.1 h
    rw [if_neg (show ¬ (1000 ≤ coN byt n a ∧ coN byt n a < 1006) by omega), if_neg (show ¬ (0 : Int32) ≤ -1 by decide), if_pos q1, q2, if_neg (nI_pos (by omega)), if_pos (show (-1 : Int32) < 0 by decide), if_pos h]
  · rw [if_pos (show 1000 ≤ coN byt n a ∧ coN byt n a < 1006 by omega), if_pos (nI_pos' (by omega)), if_neg (nI_pos (by omega)), if_neg h, show (20000 : Int32) + nI (coN byt n a - 1000) = nI (20000 + (coN byt n a - 1000)) from nI_add 20000 _, bn5E]
end SQ
