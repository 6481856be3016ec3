/-! ===== the reference reads a clause ===== -/
abbrev RG : Type := Int32 × Int32 × Int32 × Int32 × Int32 × Int32 × Int32 × Int32 × Int32 × Int32 × Int32 × (Nat → Int32) × (Nat → Int32) × (Nat → Int32) × (Nat → Int32) × (Nat → Int32) × Int64
abbrev KG : Type := Int32 → Int32 → Int32 → Int32 → Int32 → Int32 → Int32 → Int32 → Int32 → (Nat → Int32) → (Nat → Int32) → (Nat → Int32) → Int64 → Option RG
def FCl (L : List Cl) (c : Nat → Int32) : Prop := ∀ j, j < L.length → c (3 * j) = (bif (L.getD j (false, [], [])).1 then 1 else 0) ∧ c (3 * j + 1) = nI ((L.take j).flatMap sgM).length ∧ c (3 * j + 2) = nI ((L.take (j + 1)).flatMap sgM).length
theorem gLl {L : List Cl} {x d : Cl} {j : Nat} (h : j < L.length) : (L ++ [x]).getD j d = L.getD j d := by
  rw [List.getD_eq_getElem?_getD, List.getD_eq_getElem?_getD, List.getElem?_append_left h]
theorem gLr {L : List Cl} {x d : Cl} : (L ++ [x]).getD L.length d = x := by
  rw [List.getD_eq_getElem?_getD, List.getElem?_append_right (Nat.le_refl _), Nat.sub_self]; rfl
theorem FCl_add {L : List Cl} {c : Nat → Int32} {x : Cl} (h : FCl L c) : FCl (L ++ [x]) (upd (upd (upd c (3 * L.length) (bif x.1 then 1 else 0)) (3 * L.length + 1) (nI (L.flatMap sgM).length)) (3 * L.length + 2) (nI ((L ++ [x]).flatMap sgM).length)) := by
  intro j hj
  rw [List.length_append, List.length_cons, List.length_nil] at hj
  by_cases e : j = L.length
  · subst e
    rw [gLr]
    refine ⟨by rw [upd_n (by omega), upd_n (by omega), upd_s], ?_, ?_⟩
    · rw [upd_n (by omega), upd_s, List.take_left' rfl]
    · rw [upd_s, List.take_of_length_le (by rw [List.length_append, List.length_cons, List.length_nil]; omega)]
  · have hj2 : j < L.length := by omega
    obtain ⟨h1, h2, h3⟩ := h j hj2
    rw [gLl hj2, List.take_append_of_le_length (by omega), List.take_append_of_le_length (by omega)]
    exact ⟨by rw [upd_n (by omega), upd_n (by omega), upd_n (by omega), h1], by rw [upd_n (by omega), upd_n (by omega), upd_n (by omega), h2], by rw [upd_n (by omega), upd_n (by omega), upd_n (by omega), h3]⟩
section RC
variable {n T : Nat} {mt : Nat → Int32} {byt : Nat → Nat} {K : KG} {Q : Option RG → Prop}
def RTs (byt : Nat → Nat) (n a : Nat) (L : List Cl) (c7 c8 c12 c13 c14 : Int32) (c15 c16 : Nat → Int32) (c18 : Int64) : Prop :=
  c7 = nI (stN byt n a) ∧ c8 = nI (L.flatMap sgM).length ∧ c13 = nI (eoN byt n (a + 1)) ∧ TM (coN byt n a) c12 c14 c18 ∧ OuC (L.flatMap sgM) c15 ∧ FCl L c16 ∧ (L.flatMap sgM).length ≤ a
def TKr (byt : Nat → Nat) (n T : Nat) (mt : Nat → Int32) (K : KG) (Q : Option RG → Prop) (a : Nat) (L : List Cl) : Prop :=
  ∀ fu c7 c8 c10 c11 c12 c13 c14 c15 c16 c17 c18, T + 2 - a ≤ fu → RTs byt n a L c7 c8 c12 c13 c14 c15 c16 c18 → Q (f9_rules_L21 (nI n) mt fu (nI L.length) c7 c8 1 c10 c11 c12 c13 c14 c15 c16 c17 c18 K)
def FO (byt : Nat → Nat) (n : Nat) (K : KG) (Q : Option RG → Prop) (e : Nat) : Prop := ∀ x6 c8 c10 c11 c12 c13 c14 c15 c16 c17 c18, Q (K x6 (nI (stN byt n e)) c8 0 c10 c11 c12 c13 c14 c15 c16 c17 c18)
theorem w_ask : (1253 : Int64) = lN (nvN 0) := rfl
theorem w_pay : (11716 : Int64) = lN (nvN 1) := rfl
theorem w_if : (249 : Int64) = lN (nvN 2) := rfl
theorem rt_end {a : Nat} (he : coN byt n a = 3004) (ha : a ≤ T) {L : List Cl} (h : ∀ c7 c8 c10 c11 c12 c13 c14 c15 c16 c17 c18, RTs byt n a L c7 c8 c12 c13 c14 c15 c16 c18 → Q (K (nI L.length) c7 c8 1 c10 c11 c12 c13 c14 c15 c16 c17 c18)) : TKr byt n T mt K Q a L := by
  intro fu c7 c8 c10 c11 c12 c13 c14 c15 c16 c17 c18 hfu hR
  obtain ⟨f, rfl⟩ : ∃ f, fu = f + 1 := ⟨fu - 1, by omega⟩
  rw [f9_rules_L21, if_neg e10, if_pos (hR.2.2.2.1.2.2.2.2.2.mpr he)]
  exact h _ _ _ _ _ _ _ _ _ _ _ hR
theorem rt_bad {fu : Nat} (hf : 0 < fu) (x6 c7 c8 c10 c11 c12 c13 c14 : Int32) (c15 c16 c17 : Nat → Int32) (c18 : Int64) : f9_rules_L21 (nI n) mt fu x6 c7 c8 0 c10 c11 c12 c13 c14 c15 c16 c17 c18 K = K x6 c7 c8 0 c10 c11 c12 c13 c14 c15 c16 c17 c18 := by
  obtain ⟨f, rfl⟩ : ∃ f, fu = f + 1 := ⟨fu - 1, by omega⟩
  rw [f9_rules_L21, if_pos rfl]
theorem rt_no {a : Nat} (ha : a ≤ T) (hne : ¬ coN byt n a = 3004) {L : List Cl} (hl : L.length ≤ 8) (hv : 8 ≤ L.length ∨ (¬ coN byt n a = 2011 ∧ ¬ coN byt n a = 2010)) (h : FO byt n K Q a) : TKr byt n T mt K Q a L := by
  intro fu c7 c8 c10 c11 c12 c13 c14 c15 c16 c17 c18 hfu ⟨r7, r8, r13, rT, rO, rC, rl⟩
  obtain ⟨f, rfl⟩ : ∃ f, fu = f + 1 := ⟨fu - 1, by omega⟩
  have hf0 : 0 < f := by omega
  have hw0 := rT.1 0 (by omega)
  have hw1 := rT.1 1 (by omega)
  have hso : ¬ c12 = 0 := fun z => hne (rT.2.2.2.2.2.mp z)
  rw [f9_rules_L21, if_neg e10, if_neg hso, w_ask, hw0, bsE, jnE, jnE]
  dsimp only
  by_cases h8 : 8 ≤ L.length
  · rw [if_pos (show (8 : Int32) ≤ nI L.length from nI_le (a := 8) h8 (by omega)), bz0, gd_t, jnE, if_pos rfl]
    dsimp only
    rw [jnE, if_pos rfl]
    dsimp only
    rw [rt_bad hf0, r7]
    exact h _ _ _ _ _ _ _ _ _ _ _
  · obtain ⟨v1, v2⟩ := hv.resolve_left h8
    rw [if_neg (show ¬ (8 : Int32) ≤ nI L.length from nI_ge (b := 8) (by omega) (by omega)), jnE, dec_if, if_neg (show ¬ coN byt n a = wcN 0 from v1), w_pay, hw1, bsE, dec_if, if_neg (show ¬ coN byt n a = wcN 1 from v2), bz0, gd_t, jnE, if_pos rfl]
    dsimp only
    rw [jnE, if_pos rfl]
    dsimp only
    rw [rt_bad hf0, r7]
    exact h _ _ _ _ _ _ _ _ _ _ _
end RC
