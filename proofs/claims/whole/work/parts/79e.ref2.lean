/-! ===== the reference's clause ===== -/
section RD
variable {n T : Nat} {mt : Nat → Int32} {byt : Nat → Nat} {K : KG} {Q : Option RG → Prop}
theorem m3x {l : Nat} : (3 : Int32) * nI l = nI (3 * l) := by rw [n3, pk_mul]
theorem m3x1 {l : Nat} : nI (3 * l) + 1 = nI (3 * l + 1) := nI_1 _
theorem m3x2 {l : Nat} : nI (3 * l) + 2 = nI (3 * l + 2) := by rw [n2, nI_add]
theorem verbE {c : Nat} (hv : c = 2011 ∨ c = 2010) {R : Type} (X Y : R) : (if c = wcN 0 then X else if c = wcN 1 then X else Y) = X := by
  by_cases h : c = 2011
  · rw [if_pos (show c = wcN 0 from h)]
  · rw [if_neg (show ¬ c = wcN 0 from h), if_pos (show c = wcN 1 from hv.resolve_left h)]
theorem mk59 {c : Nat} {c8 c10 : Int32} {c13 : Int64} (h : TM c c8 c10 c13) : f9_isMark c8 c10 59 = some (b01 (decide (c = 3003))) := h.2.1 2 (by omega)
theorem rt_plain_no (hn : n ≤ 200) (hb : ∀ i, i < n → mt i = nI (byt i) ∧ byt i < 256) {a : Nat} (ha : a < T) (hT : T ≤ n) (hv : coN byt n a = 2011 ∨ coN byt n a = 2010) {L : List Cl} (hl : L.length < 8) (h1 : ¬ coN byt n (a + 1) = 3000) (h2 : ¬ coN byt n (a + 1) = 3003) (h : FO byt n K Q (a + 1)) : TKr byt n T mt K Q a L := by
  intro fu c7 c8 c10 c11 c12 c13 c14 c15 c16 c17 c18 hfu ⟨r7, r8, r13, rT, rO, rC, rl⟩
  obtain ⟨f, rfl⟩ : ∃ f, fu = f + 1 := ⟨fu - 1, by omega⟩
  have hne : ¬ coN byt n a = 3004 := by rcases hv with z | z <;> rw [z] <;> decide
  have hf0 : 0 < f := by omega
  have hw0 := rT.1 0 (by omega)
  have hw1 := rT.1 1 (by omega)
  have hso : ¬ c12 = 0 := fun z => hne (rT.2.2.2.2.2.mp z)
  obtain ⟨so1, va1, wo1, hadv1, hT1⟩ := f9_advance_s hn hb (a + 1) c7 c12 c14 c18
  have hif := hT1.1 2 (by omega)
  have hvE : ∀ {R : Type} (X Y : R), (if coN byt n a = wcN 0 then X else if coN byt n a = wcN 1 then X else Y) = X := fun X Y => verbE hv X Y
  rw [f9_rules_L21, if_neg e10, if_neg hso, w_ask, hw0, bsE, jnE, jnE]
  dsimp only
  rw [if_neg (show ¬ (8 : Int32) ≤ nI L.length from nI_ge (b := 8) (by omega) (by omega)), jnE, dec_if, w_pay, hw1, bsE, dec_if, hvE, bz1, gd_t, jnE, if_neg e10, jnE]
  dsimp only
  rw [dec_if]
  by_cases q : coN byt n a = wcN 0
  · rw [if_pos q]
    try dsimp only
    rw [m3x, m3x1, m3x2, gdi (show 3 * L.length < 24 by omega) (by omega), gdi (show 3 * L.length + 1 < 24 by omega) (by omega), r13, hadv1, bn5E, w_if, hif, bsE, jnE, dec_if, if_neg (show ¬ coN byt n (a + 1) = wcN 2 from h1)]
    try dsimp only
    rw [gdi (show 3 * L.length + 2 < 24 by omega) (by omega), jnE, jnE, if_neg e10, mk59 hT1, bsE, dec_if, if_neg h2]
    try dsimp only
    rw [bz0, gd_t, jnE, if_pos rfl]
    try dsimp only
    rw [rt_bad hf0]
    exact h _ _ _ _ _ _ _ _ _ _ _
  · rw [if_neg q]
    try dsimp only
    rw [m3x, m3x1, m3x2, gdi (show 3 * L.length < 24 by omega) (by omega), gdi (show 3 * L.length + 1 < 24 by omega) (by omega), r13, hadv1, bn5E, w_if, hif, bsE, jnE, dec_if, if_neg (show ¬ coN byt n (a + 1) = wcN 2 from h1)]
    try dsimp only
    rw [gdi (show 3 * L.length + 2 < 24 by omega) (by omega), jnE, jnE, if_neg e10, mk59 hT1, bsE, dec_if, if_neg h2]
    try dsimp only
    rw [bz0, gd_t, jnE, if_pos rfl]
    try dsimp only
    rw [rt_bad hf0]
    exact h _ _ _ _ _ _ _ _ _ _ _
theorem tk_use {b : Nat} {M : List Cl} {l : Nat} {fu : Nat} {c7 c8 c10 c11 c12 c13 c14 : Int32} {c15 c16 c17 : Nat → Int32} {c18 : Int64} (h : TKr byt n T mt K Q b M) (hf : T + 2 - b ≤ fu) (hl : M.length = l + 1 → RTs byt n b M c7 c8 c12 c13 c14 c15 c16 c18) (hl2 : M.length = l + 1) : Q (f9_rules_L21 (nI n) mt fu (nI (l + 1)) c7 c8 1 c10 c11 c12 c13 c14 c15 c16 c17 c18 K) := by
  rw [← hl2]
  exact h _ _ _ _ _ _ _ _ _ _ _ _ hf (hl hl2)
theorem sgL {L : List Cl} {x : Cl} : (L ++ [x]).flatMap sgM = L.flatMap sgM ++ x.2.2.flatMap cM := by
  rw [List.flatMap_append, List.flatMap_cons, List.flatMap_nil, List.append_nil]; rfl
theorem wc_use {REST : Int32 → Int32 → Int32 → Int32 → Int32 → Int32 → Int32 → Int32 → (Nat → Int32) → (Nat → Int32) → Int64 → Option RG} {b : Nat} {O : List Nat} (h : OKr byt n T mt (fun o => Q (bn11 o REST)) 1 b O [] 0) (hn : n ≤ 200) (hT : T ≤ n) {op pm c8 c10 : Int32} {c11 c12 : Nat → Int32} {c13 : Int64} (hM : TM (coN byt n b) c8 c10 c13) (hO : OuC O c11) (hl : O.length ≤ b) : Q (bn11 (f9_wantCond (nI (stN byt n b)) (nI O.length) 1 op pm c8 (nI n) (nI (eoN byt n (b + 1))) c10 c11 c12 mt c13 10631 1111 423) REST) := by
  have key := h FU (nI (stN byt n b)) (nI O.length) 0 0 c8 (nI (eoN byt n (b + 1))) c10 c11 c12 c13 (Nat.le_of_lt (FU_lt (by omega))) ⟨rfl, rfl, rfl, rfl, rfl, hM, hO, trivial, fun y hy => absurd hy List.not_mem_nil, by rw [List.length_nil]; omega⟩
  unfold f9_wantCond
  rw [jnE]
  exact key
theorem rt_cond_bad (hn : n ≤ 200) (hb : ∀ i, i < n → mt i = nI (byt i) ∧ byt i < 256) {a : Nat} (ha : a < T) (hT : T ≤ n) (hv : coN byt n a = 2011 ∨ coN byt n a = 2010) {L : List Cl} (hl : L.length < 8) (h1 : coN byt n (a + 1) = 3000) {e : Nat} (hs : ∀ Qw, FAo byt n Qw e → OKr byt n T mt Qw 1 (a + 2) (L.flatMap sgM) [] 0) (h : FO byt n K Q e) : TKr byt n T mt K Q a L := by
  intro fu c7 c8 c10 c11 c12 c13 c14 c15 c16 c17 c18 hfu ⟨r7, r8, r13, rT, rO, rC, rl⟩
  obtain ⟨f, rfl⟩ : ∃ f, fu = f + 1 := ⟨fu - 1, by omega⟩
  have hne : ¬ coN byt n a = 3004 := by rcases hv with z | z <;> rw [z] <;> decide
  have hf0 : 0 < f := by omega
  have hw0 := rT.1 0 (by omega)
  have hw1 := rT.1 1 (by omega)
  have hso : ¬ c12 = 0 := fun z => hne (rT.2.2.2.2.2.mp z)
  obtain ⟨so1, va1, wo1, hadv1, hT1⟩ := f9_advance_s hn hb (a + 1) c7 c12 c14 c18
  obtain ⟨so2, va2, wo2, hadv2, hT2⟩ := f9_advance_s hn hb (a + 2) (nI (stN byt n (a + 1))) so1 va1 wo1
  have hif := hT1.1 2 (by omega)
  have hvE : ∀ {R : Type} (X Y : R), (if coN byt n a = wcN 0 then X else if coN byt n a = wcN 1 then X else Y) = X := fun X Y => verbE hv X Y
  rw [f9_rules_L21, if_neg e10, if_neg hso, w_ask, hw0, bsE, jnE, jnE]
  dsimp only
  rw [if_neg (show ¬ (8 : Int32) ≤ nI L.length from nI_ge (b := 8) (by omega) (by omega)), jnE, dec_if, w_pay, hw1, bsE, dec_if, hvE, bz1, gd_t, jnE, if_neg e10, jnE]
  dsimp only
  rw [dec_if]
  by_cases q : coN byt n a = wcN 0
  · rw [if_pos q]
    try dsimp only
    rw [m3x, m3x1, m3x2, gdi (show 3 * L.length < 24 by omega) (by omega), gdi (show 3 * L.length + 1 < 24 by omega) (by omega), r13, hadv1, bn5E, w_if, hif, bsE, jnE, dec_if, if_pos (show coN byt n (a + 1) = wcN 2 from h1), hadv2, bn5E, r8]
    refine wc_use (hs _ (fun c4 c6 c7 c8 c9 c10 c11 c12 c13 => ?_)) hn hT hT2 rO (by omega)
    try dsimp only
    rw [bn11E, gdi (show 3 * L.length + 2 < 24 by omega) (by omega), jnE, jnE, if_pos rfl]
    try dsimp only
    rw [bz0, gd_t, jnE, if_pos rfl]
    try dsimp only
    rw [rt_bad hf0]
    exact h _ _ _ _ _ _ _ _ _ _ _
  · rw [if_neg q]
    try dsimp only
    rw [m3x, m3x1, m3x2, gdi (show 3 * L.length < 24 by omega) (by omega), gdi (show 3 * L.length + 1 < 24 by omega) (by omega), r13, hadv1, bn5E, w_if, hif, bsE, jnE, dec_if, if_pos (show coN byt n (a + 1) = wcN 2 from h1), hadv2, bn5E, r8]
    refine wc_use (hs _ (fun c4 c6 c7 c8 c9 c10 c11 c12 c13 => ?_)) hn hT hT2 rO (by omega)
    try dsimp only
    rw [bn11E, gdi (show 3 * L.length + 2 < 24 by omega) (by omega), jnE, jnE, if_pos rfl]
    try dsimp only
    rw [bz0, gd_t, jnE, if_pos rfl]
    try dsimp only
    rw [rt_bad hf0]
    exact h _ _ _ _ _ _ _ _ _ _ _
theorem rt_cond_no (hn : n ≤ 200) (hb : ∀ i, i < n → mt i = nI (byt i) ∧ byt i < 256) {a : Nat} (ha : a < T) (hT : T ≤ n) (hv : coN byt n a = 2011 ∨ coN byt n a = 2010) {L : List Cl} (hl : L.length < 8) (h1 : coN byt n (a + 1) = 3000) {l1 l2 : List It} {p : Nat} (hp : a + 2 < p ∧ p ≤ T) (hlen : (L.flatMap sgM ++ l2.flatMap cM).length ≤ p) (hex : exC (coN byt n p)) (hs : ∀ Qw, (∀ O1 P1, stl2 P1 O1 = (L.flatMap sgM ++ l2.flatMap cM, []) → OKr byt n T mt Qw 0 p O1 P1 0) → OKr byt n T mt Qw 1 (a + 2) (L.flatMap sgM) [] 0) (h2 : ¬ coN byt n p = 3003) (h : FO byt n K Q p) : TKr byt n T mt K Q a L := by
  intro fu c7 c8 c10 c11 c12 c13 c14 c15 c16 c17 c18 hfu ⟨r7, r8, r13, rT, rO, rC, rl⟩
  obtain ⟨f, rfl⟩ : ∃ f, fu = f + 1 := ⟨fu - 1, by omega⟩
  have hne : ¬ coN byt n a = 3004 := by rcases hv with z | z <;> rw [z] <;> decide
  have hf0 : 0 < f := by omega
  have hw0 := rT.1 0 (by omega)
  have hw1 := rT.1 1 (by omega)
  have hso : ¬ c12 = 0 := fun z => hne (rT.2.2.2.2.2.mp z)
  obtain ⟨so1, va1, wo1, hadv1, hT1⟩ := f9_advance_s hn hb (a + 1) c7 c12 c14 c18
  obtain ⟨so2, va2, wo2, hadv2, hT2⟩ := f9_advance_s hn hb (a + 2) (nI (stN byt n (a + 1))) so1 va1 wo1
  have hif := hT1.1 2 (by omega)
  have hvE : ∀ {R : Type} (X Y : R), (if coN byt n a = wcN 0 then X else if coN byt n a = wcN 1 then X else Y) = X := fun X Y => verbE hv X Y
  rw [f9_rules_L21, if_neg e10, if_neg hso, w_ask, hw0, bsE, jnE, jnE]
  dsimp only
  rw [if_neg (show ¬ (8 : Int32) ≤ nI L.length from nI_ge (b := 8) (by omega) (by omega)), jnE, dec_if, w_pay, hw1, bsE, dec_if, hvE, bz1, gd_t, jnE, if_neg e10, jnE]
  dsimp only
  rw [dec_if]
  by_cases q : coN byt n a = wcN 0
  · rw [if_pos q]
    try dsimp only
    rw [m3x, m3x1, m3x2, gdi (show 3 * L.length < 24 by omega) (by omega), gdi (show 3 * L.length + 1 < 24 by omega) (by omega), r13, hadv1, bn5E, w_if, hif, bsE, jnE, dec_if, if_pos (show coN byt n (a + 1) = wcN 2 from h1), hadv2, bn5E, r8]
    refine wc_use (hs _ (fun O1 P1 hst => sq_end hp.2 hT hn hex.1 hex.2 hst (fun c3 c4 c6 c7 c8 c9 c10 c11 c12 c13 hR => ?_))) hn hT hT2 rO (by omega)
    obtain ⟨rfl, rfl, rfl, rfl, rfl, hT3, hO3, -, -, -⟩ := hR
    try dsimp only
    rw [bn11E, gdi (show 3 * L.length + 2 < 24 by omega) (by omega), jnE, jnE, if_neg e10, mk59 hT3, bsE, dec_if, if_neg h2]
    try dsimp only
    rw [bz0, gd_t, jnE, if_pos rfl]
    try dsimp only
    rw [rt_bad hf0]
    exact h _ _ _ _ _ _ _ _ _ _ _
  · rw [if_neg q]
    try dsimp only
    rw [m3x, m3x1, m3x2, gdi (show 3 * L.length < 24 by omega) (by omega), gdi (show 3 * L.length + 1 < 24 by omega) (by omega), r13, hadv1, bn5E, w_if, hif, bsE, jnE, dec_if, if_pos (show coN byt n (a + 1) = wcN 2 from h1), hadv2, bn5E, r8]
    refine wc_use (hs _ (fun O1 P1 hst => sq_end hp.2 hT hn hex.1 hex.2 hst (fun c3 c4 c6 c7 c8 c9 c10 c11 c12 c13 hR => ?_))) hn hT hT2 rO (by omega)
    obtain ⟨rfl, rfl, rfl, rfl, rfl, hT3, hO3, -, -, -⟩ := hR
    try dsimp only
    rw [bn11E, gdi (show 3 * L.length + 2 < 24 by omega) (by omega), jnE, jnE, if_neg e10, mk59 hT3, bsE, dec_if, if_neg h2]
    try dsimp only
    rw [bz0, gd_t, jnE, if_pos rfl]
    try dsimp only
    rw [rt_bad hf0]
    exact h _ _ _ _ _ _ _ _ _ _ _
theorem rt_cond_ok (hn : n ≤ 200) (hb : ∀ i, i < n → mt i = nI (byt i) ∧ byt i < 256) {a : Nat} (ha : a < T) (hT : T ≤ n) (hv : coN byt n a = 2011 ∨ coN byt n a = 2010) {L : List Cl} (hl : L.length < 8) (h1 : coN byt n (a + 1) = 3000) {l1 l2 : List It} {p : Nat} (hp : a + 2 < p ∧ p ≤ T) (hlen : (L.flatMap sgM ++ l2.flatMap cM).length ≤ p) (hex : exC (coN byt n p)) (hs : ∀ Qw, (∀ O1 P1, stl2 P1 O1 = (L.flatMap sgM ++ l2.flatMap cM, []) → OKr byt n T mt Qw 0 p O1 P1 0) → OKr byt n T mt Qw 1 (a + 2) (L.flatMap sgM) [] 0) (h2 : coN byt n p = 3003) (h : TKr byt n T mt K Q (p + 1) (L ++ [(decide (coN byt n a = 2011), l1, l2)])) : TKr byt n T mt K Q a L := by
  intro fu c7 c8 c10 c11 c12 c13 c14 c15 c16 c17 c18 hfu ⟨r7, r8, r13, rT, rO, rC, rl⟩
  obtain ⟨f, rfl⟩ : ∃ f, fu = f + 1 := ⟨fu - 1, by omega⟩
  have hne : ¬ coN byt n a = 3004 := by rcases hv with z | z <;> rw [z] <;> decide
  have hf0 : 0 < f := by omega
  have hw0 := rT.1 0 (by omega)
  have hw1 := rT.1 1 (by omega)
  have hso : ¬ c12 = 0 := fun z => hne (rT.2.2.2.2.2.mp z)
  obtain ⟨so1, va1, wo1, hadv1, hT1⟩ := f9_advance_s hn hb (a + 1) c7 c12 c14 c18
  obtain ⟨so2, va2, wo2, hadv2, hT2⟩ := f9_advance_s hn hb (a + 2) (nI (stN byt n (a + 1))) so1 va1 wo1
  have hif := hT1.1 2 (by omega)
  have hvE : ∀ {R : Type} (X Y : R), (if coN byt n a = wcN 0 then X else if coN byt n a = wcN 1 then X else Y) = X := fun X Y => verbE hv X Y
  rw [f9_rules_L21, if_neg e10, if_neg hso, w_ask, hw0, bsE, jnE, jnE]
  dsimp only
  rw [if_neg (show ¬ (8 : Int32) ≤ nI L.length from nI_ge (b := 8) (by omega) (by omega)), jnE, dec_if, w_pay, hw1, bsE, dec_if, hvE, bz1, gd_t, jnE, if_neg e10, jnE]
  dsimp only
  rw [dec_if]
  by_cases q : coN byt n a = wcN 0
  · rw [if_pos q]
    try dsimp only
    rw [m3x, m3x1, m3x2, gdi (show 3 * L.length < 24 by omega) (by omega), gdi (show 3 * L.length + 1 < 24 by omega) (by omega), r13, hadv1, bn5E, w_if, hif, bsE, jnE, dec_if, if_pos (show coN byt n (a + 1) = wcN 2 from h1), hadv2, bn5E, r8]
    refine wc_use (hs _ (fun O1 P1 hst => sq_end hp.2 hT hn hex.1 hex.2 hst (fun c3 c4 c6 c7 c8 c9 c10 c11 c12 c13 hR => ?_))) hn hT hT2 rO (by omega)
    obtain ⟨rfl, rfl, rfl, rfl, rfl, hT3, hO3, -, -, -⟩ := hR
    obtain ⟨so4, va4, wo4, hadv4, hT4⟩ := f9_advance_s hn hb (p + 1) (nI (stN byt n p)) c8 c10 c13
    try dsimp only
    rw [bn11E, gdi (show 3 * L.length + 2 < 24 by omega) (by omega), jnE, jnE, if_neg e10, mk59 hT3, bsE, dec_if, if_pos h2]
    try dsimp only
    rw [bz1, gd_t, jnE, if_neg e10, hadv4, bn5E]
    try dsimp only
    rw [nI_1, nI_clamp (by omega), nI_clamp (by omega), nI_clamp (by omega)]
    refine tk_use h (by omega) (fun _ => ?_) (by rw [List.length_append, List.length_cons, List.length_nil])
    refine ⟨rfl, by rw [sgL], rfl, hT4, by rw [sgL]; exact hO3, ?_, by rw [sgL]; dsimp only; omega⟩
    have := FCl_add (x := (decide (coN byt n a = 2011), l1, l2)) rC
    rw [sgL] at this
    dsimp only at this
    rw [show (bif decide (coN byt n a = 2011) then (1 : Int32) else 0) = 1 by rw [decide_eq_true (show coN byt n a = 2011 from q)]; rfl] at this
    exact this
  · rw [if_neg q]
    try dsimp only
    rw [m3x, m3x1, m3x2, gdi (show 3 * L.length < 24 by omega) (by omega), gdi (show 3 * L.length + 1 < 24 by omega) (by omega), r13, hadv1, bn5E, w_if, hif, bsE, jnE, dec_if, if_pos (show coN byt n (a + 1) = wcN 2 from h1), hadv2, bn5E, r8]
    refine wc_use (hs _ (fun O1 P1 hst => sq_end hp.2 hT hn hex.1 hex.2 hst (fun c3 c4 c6 c7 c8 c9 c10 c11 c12 c13 hR => ?_))) hn hT hT2 rO (by omega)
    obtain ⟨rfl, rfl, rfl, rfl, rfl, hT3, hO3, -, -, -⟩ := hR
    obtain ⟨so4, va4, wo4, hadv4, hT4⟩ := f9_advance_s hn hb (p + 1) (nI (stN byt n p)) c8 c10 c13
    try dsimp only
    rw [bn11E, gdi (show 3 * L.length + 2 < 24 by omega) (by omega), jnE, jnE, if_neg e10, mk59 hT3, bsE, dec_if, if_pos h2]
    try dsimp only
    rw [bz1, gd_t, jnE, if_neg e10, hadv4, bn5E]
    try dsimp only
    rw [nI_1, nI_clamp (by omega), nI_clamp (by omega), nI_clamp (by omega)]
    refine tk_use h (by omega) (fun _ => ?_) (by rw [List.length_append, List.length_cons, List.length_nil])
    refine ⟨rfl, by rw [sgL], rfl, hT4, by rw [sgL]; exact hO3, ?_, by rw [sgL]; dsimp only; omega⟩
    have := FCl_add (x := (decide (coN byt n a = 2011), l1, l2)) rC
    rw [sgL] at this
    dsimp only at this
    rw [show (bif decide (coN byt n a = 2011) then (1 : Int32) else 0) = 0 by rw [decide_eq_false (show ¬ coN byt n a = 2011 from q)]; rfl] at this
    exact this
theorem rt_plain_ok (hn : n ≤ 200) (hb : ∀ i, i < n → mt i = nI (byt i) ∧ byt i < 256) {a : Nat} (ha : a < T) (hT : T ≤ n) (hv : coN byt n a = 2011 ∨ coN byt n a = 2010) {L : List Cl} (hl : L.length < 8) (h2 : coN byt n (a + 1) = 3003) (h : TKr byt n T mt K Q (a + 2) (L ++ [(decide (coN byt n a = 2011), [], [])])) : TKr byt n T mt K Q a L := by
  intro fu c7 c8 c10 c11 c12 c13 c14 c15 c16 c17 c18 hfu ⟨r7, r8, r13, rT, rO, rC, rl⟩
  obtain ⟨f, rfl⟩ : ∃ f, fu = f + 1 := ⟨fu - 1, by omega⟩
  have hne : ¬ coN byt n a = 3004 := by rcases hv with z | z <;> rw [z] <;> decide
  have hf0 : 0 < f := by omega
  have hw0 := rT.1 0 (by omega)
  have hw1 := rT.1 1 (by omega)
  have hso : ¬ c12 = 0 := fun z => hne (rT.2.2.2.2.2.mp z)
  obtain ⟨so1, va1, wo1, hadv1, hT1⟩ := f9_advance_s hn hb (a + 1) c7 c12 c14 c18
  obtain ⟨so2, va2, wo2, hadv2, hT2⟩ := f9_advance_s hn hb (a + 2) (nI (stN byt n (a + 1))) so1 va1 wo1
  have hif := hT1.1 2 (by omega)
  have hvE : ∀ {R : Type} (X Y : R), (if coN byt n a = wcN 0 then X else if coN byt n a = wcN 1 then X else Y) = X := fun X Y => verbE hv X Y
  rw [f9_rules_L21, if_neg e10, if_neg hso, w_ask, hw0, bsE, jnE, jnE]
  dsimp only
  rw [if_neg (show ¬ (8 : Int32) ≤ nI L.length from nI_ge (b := 8) (by omega) (by omega)), jnE, dec_if, w_pay, hw1, bsE, dec_if, hvE, bz1, gd_t, jnE, if_neg e10, jnE]
  dsimp only
  rw [dec_if]
  by_cases q : coN byt n a = wcN 0
  · rw [if_pos q]
    try dsimp only
    rw [m3x, m3x1, m3x2, gdi (show 3 * L.length < 24 by omega) (by omega), gdi (show 3 * L.length + 1 < 24 by omega) (by omega), r13, hadv1, bn5E, w_if, hif, bsE, jnE, dec_if, if_neg (show ¬ coN byt n (a + 1) = wcN 2 by rw [h2]; decide)]
    try dsimp only
    rw [gdi (show 3 * L.length + 2 < 24 by omega) (by omega), jnE, jnE, if_neg e10, mk59 hT1, bsE, dec_if, if_pos h2]
    try dsimp only
    rw [bz1, gd_t, jnE, if_neg e10, hadv2, bn5E]
    try dsimp only
    rw [nI_1, nI_clamp (by omega), nI_clamp (by omega), nI_clamp (by omega)]
    refine tk_use h (by omega) (fun _ => ?_) (by rw [List.length_append, List.length_cons, List.length_nil])
    have e0 : (L ++ [(decide (coN byt n a = 2011), ([] : List It), ([] : List It))]).flatMap sgM = L.flatMap sgM := by rw [sgL]; exact List.append_nil _
    refine ⟨rfl, by rw [e0]; exact r8, rfl, hT2, by rw [e0]; exact rO, ?_, by rw [e0]; omega⟩
    have := FCl_add (x := (decide (coN byt n a = 2011), [], [])) rC
    rw [e0] at this
    dsimp only at this
    rw [show (bif decide (coN byt n a = 2011) then (1 : Int32) else 0) = 1 by rw [decide_eq_true (show coN byt n a = 2011 from q)]; rfl] at this
    rw [r8]
    exact this
  · rw [if_neg q]
    try dsimp only
    rw [m3x, m3x1, m3x2, gdi (show 3 * L.length < 24 by omega) (by omega), gdi (show 3 * L.length + 1 < 24 by omega) (by omega), r13, hadv1, bn5E, w_if, hif, bsE, jnE, dec_if, if_neg (show ¬ coN byt n (a + 1) = wcN 2 by rw [h2]; decide)]
    try dsimp only
    rw [gdi (show 3 * L.length + 2 < 24 by omega) (by omega), jnE, jnE, if_neg e10, mk59 hT1, bsE, dec_if, if_pos h2]
    try dsimp only
    rw [bz1, gd_t, jnE, if_neg e10, hadv2, bn5E]
    try dsimp only
    rw [nI_1, nI_clamp (by omega), nI_clamp (by omega), nI_clamp (by omega)]
    refine tk_use h (by omega) (fun _ => ?_) (by rw [List.length_append, List.length_cons, List.length_nil])
    have e0 : (L ++ [(decide (coN byt n a = 2011), ([] : List It), ([] : List It))]).flatMap sgM = L.flatMap sgM := by rw [sgL]; exact List.append_nil _
    refine ⟨rfl, by rw [e0]; exact r8, rfl, hT2, by rw [e0]; exact rO, ?_, by rw [e0]; omega⟩
    have := FCl_add (x := (decide (coN byt n a = 2011), [], [])) rC
    rw [e0] at this
    dsimp only at this
    rw [show (bif decide (coN byt n a = 2011) then (1 : Int32) else 0) = 0 by rw [decide_eq_false (show ¬ coN byt n a = 2011 from q)]; rfl] at this
    rw [r8]
    exact this
end RD
