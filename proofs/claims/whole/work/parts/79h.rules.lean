/-! ===== rules ===== -/
theorem cp24 {fu : Nat} (hf : 24 < fu) (c16 c109 : Nat → Int32) (K : Int32 → (Nat → Int32) → Option RG) : f9_rules_L224 c16 fu 0 c109 K = K (nI 24) (fun j => if j < 24 then c16 j else c109 j) := by
  refine lup0 (fun fu i s => f9_rules_L224 c16 fu i s K) 24 (fun i j => if j < i then c16 j else c109 j) (fun fu i hi => ?_) (fun fu => ?_) (funext fun j => if_neg (by omega)) hf
  · simp only [f9_rules_L224]
    rw [if_neg (nge n24 hi (by omega)), gdi hi (by omega), gdi hi (by omega), nI_clamp (by omega), nI_1]
    congr 1
    funext j
    by_cases e : j = i
    · rw [updS e, if_pos (by omega), e]
    · rw [upd_n e]
      simp only [show j < i + 1 ↔ j < i by omega]
  · simp only [f9_rules_L224]
    rw [if_pos (show (24 : Int32) ≤ nI 24 from nI_le (a := 24) (Nat.le_refl _) (by omega))]
theorem cpS {fu m : Nat} (hm : m ≤ 200) (hf : m < fu) (c15 c116 : Nat → Int32) (K : Int32 → (Nat → Int32) → Option RG) : f9_rules_L250 (nI m) c15 fu 0 c116 K = K (nI m) (fun j => if j < m then c15 j else c116 j) := by
  refine lup0 (fun fu i s => f9_rules_L250 (nI m) c15 fu i s K) m (fun i j => if j < i then c15 j else c116 j) (fun fu i hi => ?_) (fun fu => ?_) (funext fun j => if_neg (by omega)) hf
  · simp only [f9_rules_L250]
    rw [if_neg (nI_ge hi (by omega)), gdi (show i < 200 by omega) (by omega), gdi (show i < 200 by omega) (by omega), nI_clamp (by omega), nI_1]
    congr 1
    funext j
    by_cases e : j = i
    · rw [updS e, if_pos (by omega), e]
    · rw [upd_n e]
      simp only [show j < i + 1 ↔ j < i by omega]
  · simp only [f9_rules_L250]
    rw [if_pos (nI_le (Nat.le_refl _) (by omega))]
/-- the reference's text begins -/
theorem ref_begin {byt : Nat → Nat} {n T : Nat} {mt : Nat → Int32} (hn : n ≤ 200) (hT : T ≤ n) (hb : ∀ i, i < n → mt i = nI (byt i) ∧ byt i < 256) {K : KG} {Q : Option RG → Prop} (h : TKr byt n T mt K Q 0 []) (be so va op pm : Int32) (wo : Int64) (fr fc pe : Nat → Int32) : Q (bn5 (f9_advance be so (nI n) 0 va mt wo) fun c1 c2 c3 c4 c5 => f9_rules_L21 (nI n) mt FU 0 c1 0 1 op pm c2 c3 c4 fr fc pe c5 K) := by
  obtain ⟨so', va', wo', hadv, hTM⟩ := f9_advance_s hn hb 0 be so va wo
  have hadv' : f9_advance be so (nI n) 0 va mt wo = some (nI (stN byt n 0), so', nI (eoN byt n (0 + 1)), va', wo') := hadv
  rw [hadv', bn5E]
  exact h FU (nI (stN byt n 0)) 0 op pm so' (nI (eoN byt n (0 + 1))) va' fr fc pe wo' (Nat.le_of_lt (FU_lt (by omega))) ⟨rfl, rfl, rfl, hTM, fun i hi => absurd hi (by rw [List.flatMap_nil, List.length_nil]; omega), fun j hj => absurd hj (by rw [List.length_nil]; omega), by rw [List.flatMap_nil, List.length_nil]; omega⟩
theorem ref_ok {byt : Nat → Nat} {n T : Nat} {mt : Nat → Int32} (hn : n ≤ 200) (hT : T ≤ n) (hb : ∀ i, i < n → mt i = nI (byt i) ∧ byt i < 256) {M : List Cl} {p : Nat} (hM8 : M.length ≤ 8) (hMs : (M.flatMap sgM).length ≤ 200) (h : ∀ (K : KG) (Q : Option RG → Prop), (∀ c7 c8 c10 c11 c12 c13 c14 c15 c16 c17 c18, RTs byt n p M c7 c8 c12 c13 c14 c15 c16 c18 → Q (K (nI M.length) c7 c8 1 c10 c11 c12 c13 c14 c15 c16 c17 c18)) → TKr byt n T mt K Q 0 []) (be cl fm gd' op pm so te va : Int32) (wo : Int64) (cs fr fc pe sg : Nat → Int32) :
    ∃ b1 b3 b4 b5 b6 b7 b9 b10 b11 b12 b13 b14 b15 b16, f9_rules be cl fm gd' op pm so (nI n) te va cs fr fc pe sg mt wo = some (nI M.length, b1, nI M.length, b3, b4, b5, b6, b7, 0, b9, b10, b11, b12, b13, b14, b15, b16) ∧ FCl M b11 ∧ OuC (M.flatMap sgM) b15 := by
  unfold f9_rules
  simp only [jnE]
  refine ref_begin (Q := fun o => ∃ b1 b3 b4 b5 b6 b7 b9 b10 b11 b12 b13 b14 b15 b16, o = some (nI M.length, b1, nI M.length, b3, b4, b5, b6, b7, 0, b9, b10, b11, b12, b13, b14, b15, b16) ∧ FCl M b11 ∧ OuC (M.flatMap sgM) b15) hn hT hb (h _ _ (fun c7 c8 c10 c11 c12 c13 c14 c15 c16 c17 c18 hR => ?_)) be so va op pm wo fr fc pe
  obtain ⟨r7, r8, r13, rT, rO, rC, rl⟩ := hR
  try dsimp only
  rw [if_neg e10, cp24 (FU_lt (by omega)), r8, cpS hMs (FU_lt (by omega))]
  refine ⟨_, _, _, _, _, _, _, _, _, _, _, _, _, _, rfl, fun j hj => ?_, fun i hi => ?_⟩
  · dsimp only
    rw [if_pos (show 3 * j < 24 by omega), if_pos (show 3 * j + 1 < 24 by omega), if_pos (show 3 * j + 2 < 24 by omega)]
    exact rC j hj
  · dsimp only
    rw [if_pos hi]
    exact rO i hi
theorem ref_fail {byt : Nat → Nat} {n T e : Nat} {mt : Nat → Int32} (hn : n ≤ 200) (hT : T ≤ n) (hb : ∀ i, i < n → mt i = nI (byt i) ∧ byt i < 256) (h : ∀ (K : KG) (Q : Option RG → Prop), FO byt n K Q e → TKr byt n T mt K Q 0 []) (be cl fm gd' op pm so te va : Int32) (wo : Int64) (cs fr fc pe sg : Nat → Int32) :
    ∃ b1 b3 b4 b5 b6 b7 b9 b10 b12 b13 b14 b16, f9_rules be cl fm gd' op pm so (nI n) te va cs fr fc pe sg mt wo = some (-100 - nI (stN byt n e), b1, cl, b3, b4, b5, b6, b7, 0, b9, b10, cs, b12, b13, b14, sg, b16) := by
  unfold f9_rules
  simp only [jnE]
  refine ref_begin (Q := fun o => ∃ b1 b3 b4 b5 b6 b7 b9 b10 b12 b13 b14 b16, o = some (-100 - nI (stN byt n e), b1, cl, b3, b4, b5, b6, b7, 0, b9, b10, cs, b12, b13, b14, sg, b16)) hn hT hb (h _ _ (fun x6 c8 c10 c11 c12 c13 c14 c15 c16 c17 c18 => ?_)) be so va op pm wo fr fc pe
  try dsimp only
  rw [if_pos rfl]
  exact ⟨_, _, _, _, _, _, _, _, _, _, _, _, rfl⟩
theorem op_rules : Op_rules Rl := by
  intro r g u h hR
  obtain ⟨hB, hM, ⟨L, x1, x2, x3, x4, x5, x6, x7, x8, x9, x10⟩, hK, ⟨n, hn, e1, e2, hby⟩, hW, hH, hS, hP⟩ := hR
  have hbt : ∀ i, i < n → g 33 i = nI (g 33 i).toNatClampNeg ∧ (g 33 i).toNatClampNeg < 256 := fun i hi => by
    obtain ⟨-, b, hb, e⟩ := hby i hi
    rw [e, nI_clamp (by omega)]
    exact ⟨rfl, hb⟩
  have hbm : ∀ i, i < n → g 62 i = nI (g 33 i).toNatClampNeg ∧ (g 33 i).toNatClampNeg < 256 := fun i hi => by
    rw [(hby i hi).1]; exact hbt i hi
  obtain ⟨T, s, t, hT, hcut, hlt, hend, hst⟩ := f4_cut_s hn hbt (r 16) (g 35) (g 34)
  have hCU : CU (fun i => (g 33 i).toNatClampNeg) n T s t := ⟨hn, hT, hlt, hend, hst⟩
  have hT0 : RT (0 : Int32) (0 : Int32) (g 33) (g 62) := ⟨0, by omega, rfl, rfl, fun i hi => absurd hi (by omega)⟩
  have hRR0 : RR (r 2) (r 3) (g 12) (r 32) (g 60) (g 61) := ⟨L, x1, x2, x3, x4, x5, x6, x7, x8, x9, x10⟩
  rcases text_loop hCU hbm 0 T 0 [] FU (g 37) (by omega) (by omega) (FU_lt (by omega)) (by rw [List.length_nil]; omega) (fun c hc => absurd hc List.not_mem_nil) (fun i hi => absurd hi (by rw [List.flatMap_nil, List.length_nil]; omega)) (by rw [List.flatMap_nil, List.length_nil]; omega) (by rw [List.flatMap_nil, List.length_nil]; omega) with ⟨M, p, codes', eM, m1, m2, m3, m4, m5, m6⟩ | ⟨e, d1, d2, d3, d4, d5, d6, d7, m1, eM, m2⟩
  · have eM' : f4_readText_L32 (nI n) (nI (T + 1)) s t FU 0 0 0 0 0 (g 37) (KT n T s t) = some (1, nI p, nI (T + 1), nI M.length, nI (M.flatMap codC).length, 0, codes', s, t) := eM
    obtain ⟨b1, b3, b4, b5, b6, b7, b9, b10, b11, b12, b13, b14, b15, b16, hf9, hF, hO⟩ := ref_ok hn hT hbm m1 (by omega) m6 (r 36) (r 32) (r 40) (r 39) (r 42) (r 41) (r 35) (r 37) (r 38) (u 0) (g 60) (g 64) (g 67) (g 65) (g 61)
    refine ⟨nI M.length, nI M.length, nI (M.flatMap codC).length, nI p, nI (T + 1), nI M.length, nI (M.flatMap codC).length, 0, 0, fun j => if j < (M.flatMap codC).length then codes' j else g 12 j, codes', s, t, b1, nI M.length, b3, b4, b5, b6, b7, 0, b9, b10, b11, b12, b13, b14, b15, b16, ?_, ?_, hB, hM, ⟨M, m1, m2, rfl, rfl, by omega, rfl, fun i hi => ?_, by omega, hO, hF⟩, hK, hT0, hW, hH, hS, hP⟩
    · unfold f8_rules f4_readText
      rw [e1, hcut, bn3E, jnE]
      unfold KT at eM'
      rw [eM', bn9E, if_neg e10, f6_copyFrom_s _ _ _ _ _ (by omega), bn3E]
    · rw [e2]; exact hf9
    · show (if i < (M.flatMap codC).length then codes' i else g 12 i) = _
      rw [if_pos hi]; exact m3 i hi
  · have eM' : f4_readText_L32 (nI n) (nI (T + 1)) s t FU 0 0 0 0 0 (g 37) (KT n T s t) = some (0, d1, d2, d3, d4, nI (stN (fun i => (g 33 i).toNatClampNeg) n e), d5, d6, d7) := eM
    obtain ⟨b1, b3, b4, b5, b6, b7, b9, b10, b12, b13, b14, b16, hf9⟩ := ref_fail hn hT hbm m2 (r 36) (r 32) (r 40) (r 39) (r 42) (r 41) (r 35) (r 37) (r 38) (u 0) (g 60) (g 64) (g 67) (g 65) (g 61)
    refine ⟨-100 - nI (stN (fun i => (g 33 i).toNatClampNeg) n e), r 3, r 2, d1, d2, d3, d4, nI (stN (fun i => (g 33 i).toNatClampNeg) n e), 0, g 12, d5, d6, d7, b1, r 32, b3, b4, b5, b6, b7, 0, b9, b10, g 60, b12, b13, b14, g 61, b16, ?_, ?_, hB, hM, hRR0, hK, hT0, hW, hH, hS, hP⟩
    · unfold f8_rules f4_readText
      rw [e1, hcut, bn3E, jnE]
      unfold KT at eM'
      rw [eM', bn9E, if_pos rfl]
    · rw [e2]; exact hf9
