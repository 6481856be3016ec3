/-! ===== a clause, both sides ===== -/
section CB
variable {byt : Nat → Nat} {n T : Nat} {sts tks mt : Nat → Int32}
theorem if2 {R : Type} (p q : Prop) [Decidable p] [Decidable q] (B F : R) : (if p then B else if q then B else F) = if p ∨ q then B else F := by
  by_cases hp : p
  · rw [if_pos hp, if_pos (Or.inl hp)]
  · rw [if_neg hp]
    by_cases hq : q
    · rw [if_pos hq, if_pos (Or.inr hq)]
    · rw [if_neg hq, if_neg (fun z => z.elim hp hq)]
theorem OuC_ad {O l : List Nat} {c c' : Nat → Int32} (h : OuC O c) (ha : AdC c c' O.length l) : OuC (O ++ l) c' := by
  intro i hi
  rw [List.length_append] at hi
  rcases Nat.lt_or_ge i O.length with q | q
  · rw [ha.1 i q, gDl q]; exact h i q
  · have := ha.2 (i - O.length) (by omega)
    rw [show O.length + (i - O.length) = i by omega] at this
    rw [this, gDr (i - O.length) (by omega)]
theorem cdL {L : List Cl} {x : Cl} : (L ++ [x]).flatMap codC = L.flatMap codC ++ codC x := by
  rw [List.flatMap_append, List.flatMap_cons, List.flatMap_nil, List.append_nil]
theorem cod0 (v : Bool) : codC (v, [], []) = [bif v then 2011 else 2010] := rfl
theorem cod1 {v : Bool} {l1 l2 : List It} (h : l1 ≠ []) : codC (v, l1, l2) = l1.flatMap cC ++ [bif v then 2013 else 2012] := by
  unfold codC
  dsimp only
  rw [if_neg h]
def CLs (byt : Nat → Nat) (n T : Nat) (mt : Nat → Int32) (a : Nat) (L : List Cl) (fault : Int32) (o : Option (Int32 × Int32 × Int32 × Int32 × Int32 × (Nat → Int32))) : Prop :=
  ∃ c p codes', o = some (1, nI p, nI (L.length + 1), nI ((L ++ [c]).flatMap codC).length, fault, codes') ∧ a < p ∧ p ≤ T ∧ okC c ∧ OuC ((L ++ [c]).flatMap codC) codes' ∧ ((L ++ [c]).flatMap codC).length ≤ p ∧ ((L ++ [c]).flatMap sgM).length ≤ p ∧ ∀ K Q, TKr byt n T mt K Q p (L ++ [c]) → TKr byt n T mt K Q a L
def CLf (byt : Nat → Nat) (n T : Nat) (mt : Nat → Int32) (a : Nat) (L : List Cl) (o : Option (Int32 × Int32 × Int32 × Int32 × Int32 × (Nat → Int32))) : Prop :=
  ∃ e d1 d2 d3 d5, e ≤ T ∧ o = some (0, d1, d2, d3, nI (stN byt n e), d5) ∧ ∀ K Q, FO byt n K Q e → TKr byt n T mt K Q a L
theorem clause_s (h : CU byt n T sts tks) (hb : ∀ i, i < n → mt i = nI (byt i) ∧ byt i < 256) {a : Nat} (ha : a ≤ T) {L : List Cl} (hl : L.length < 8) (hne : ¬ coN byt n a = 3004) {codes : Nat → Int32} (hO : OuC (L.flatMap codC) codes) (hlc : (L.flatMap codC).length ≤ a) (hls : (L.flatMap sgM).length ≤ a) (fault : Int32) : CLs byt n T mt a L fault (f4_readClause (nI a) (nI (T + 1)) (nI L.length) (nI (L.flatMap codC).length) fault (nI n) codes sts tks) ∨ CLf byt n T mt a L (f4_readClause (nI a) (nI (T + 1)) (nI L.length) (nI (L.flatMap codC).length) fault (nI n) codes sts tks) := by
  obtain ⟨hn, hT, hlt, -⟩ := id h
  have a1 : a < T := CU_in h ha hne
  have e0 : (nI (coN byt n a) = 2011) = (coN byt n a = 2011) := coEq h a (m := 2011) (by omega)
  have e1 : (nI (coN byt n a) = 2010) = (coN byt n a = 2010) := coEq h a (m := 2010) (by omega)
  have e2 : (nI (coN byt n (a + 1)) = 3000) = (coN byt n (a + 1) = 3000) := coEq h (a + 1) (m := 3000) (by omega)
  unfold f4_readClause
  rw [here_s h ha, Option.bind_some, jnE, if2]
  by_cases hv : coN byt n a = 2011 ∨ coN byt n a = 2010
  · rw [if_pos (by rw [e0, e1]; exact hv), nI_1, here_s h (show a + 1 ≤ T by omega), Option.bind_some, jnE]
    by_cases h1 : coN byt n (a + 1) = 3000
    · have a2 : a + 1 < T := CU_in h (by omega) (by rw [h1]; decide)
      rw [if_pos (by rw [e2]; exact h1)]
      try dsimp only
      rw [jnE, if_neg e10, nI_1]
      rcases (show CT2 byt n T mt stl2 bdC exC (f4_readCond 10 (nI (a + 1 + 1)) (nI (T + 1)) (nI (L.flatMap codC).length) fault (nI n) codes sts tks 0) (a + 2) 0 (L.flatMap codC).length fault codes from rck_s h hb 10 0 (by omega) (by omega) (a + 2) (L.flatMap codC).length fault codes (by omega) (by omega)) with ⟨p, l1, l2, codes', eR, ⟨p1, p2, p3, p4, p5⟩, hA, ⟨i1, i2, i3, i4, i5⟩, hQ⟩ | ⟨e, d1, d2, d3, he, eR, hF⟩
      · have hs : ∀ Qw, (∀ O1 P1, stl2 P1 O1 = (L.flatMap sgM ++ l2.flatMap cM, []) → OKr byt n T mt Qw 0 p O1 P1 0) → OKr byt n T mt Qw 1 (a + 2) (L.flatMap sgM) [] 0 := fun Qw hq => hQ Qw _ [] (fun y hy => absurd hy (by rw [List.head?_nil]; exact fun z => by cases z)) hq
        have hlen : (L.flatMap sgM ++ l2.flatMap cM).length ≤ p := by rw [List.length_append]; omega
        have e3 : (nI (coN byt n p) = 3003) = (coN byt n p = 3003) := coEq h p (m := 3003) (by omega)
        rw [eR, bn5E, if_neg e10]
        try dsimp only
        rw [here_s h p2, Option.bind_some]
        by_cases h2 : coN byt n p = 3003
        · have pT : p < T := CU_in h p2 (by rw [h2]; decide)
          rw [if_pos (by rw [e3]; exact h2), jnE, if_neg e10, jnE]
          try dsimp only
          have hcl : ∀ v : Bool, okC (v, l1, l2) := fun v => ⟨⟨fun z => absurd z i3, fun z => absurd z i4⟩, i1, i2, fun _ f => by obtain ⟨b, hb2⟩ := i5 f; exact ⟨b, hb2 []⟩⟩
          have fin : ∀ w : Nat, w = (bif decide (coN byt n a = 2011) then 2013 else 2012) → CLs byt n T mt a L fault (bn2 (f6_emit (nI ((L.flatMap codC).length + (l1.flatMap cC).length)) codes' (nI w)) fun c19 c20 => some (1, nI p + 1, nI L.length + 1, c19, fault, c20)) := by
            intro w hw
            rw [emit_s (by omega), bn2E, nI_1, nI_1]
            have hA2 := AdC_app hA (AdC_one codes' ((L.flatMap codC).length + (l1.flatMap cC).length) w)
            have hc : codC (decide (coN byt n a = 2011), l1, l2) = l1.flatMap cC ++ [w] := by rw [cod1 i3, hw]
            have hl2 : ((L ++ [(decide (coN byt n a = 2011), l1, l2)]).flatMap codC).length = (L.flatMap codC).length + (l1.flatMap cC).length + 1 := by
              rw [cdL, hc, List.length_append, len1, Nat.add_assoc]
            refine ⟨(decide (coN byt n a = 2011), l1, l2), p + 1, _, by rw [hl2], by omega, by omega, hcl _, ?_, by rw [hl2]; omega, by rw [sgL]; dsimp only; omega, fun K Q hK => rt_cond_ok hn hb a1 hT hv hl h1 ⟨p1, p2⟩ hlen p5 hs h2 hK⟩
            rw [cdL, hc]
            exact OuC_ad hO hA2
          refine Or.inl ?_
          by_cases q : coN byt n a = 2011
          · rw [if_pos (by rw [e0]; exact q)]
            exact fin 2013 (by rw [decide_eq_true q]; rfl)
          · rw [if_neg (by rw [e0]; exact q)]
            exact fin 2012 (by rw [decide_eq_false q]; rfl)
        · rw [if_neg (by rw [e3]; exact h2), refuse_s h p2, bn2E, bz0, gd_t]
          exact Or.inr ⟨p, nI p, nI L.length, nI ((L.flatMap codC).length + (l1.flatMap cC).length), codes', p2, rfl, fun K Q hK => rt_cond_no (l1 := l1) hn hb a1 hT hv hl h1 ⟨p1, p2⟩ hlen p5 hs h2 hK⟩
      · rw [eR, bn5E, if_pos rfl]
        exact Or.inr ⟨e, d1, nI L.length, d2, d3, he, rfl, fun K Q hK => rt_cond_bad hn hb a1 hT hv hl h1 (fun Qw hF2 => hF Qw _ [] (fun y hy => absurd hy (by rw [List.head?_nil]; exact fun z => by cases z)) hF2) hK⟩
    · have e3 : (nI (coN byt n (a + 1)) = 3003) = (coN byt n (a + 1) = 3003) := coEq h (a + 1) (m := 3003) (by omega)
      rw [if_neg (by rw [e2]; exact h1)]
      try dsimp only
      rw [jnE, if_pos rfl]
      try dsimp only
      rw [here_s h (show a + 1 ≤ T by omega), Option.bind_some]
      by_cases h2 : coN byt n (a + 1) = 3003
      · have a2 : a + 1 < T := CU_in h (by omega) (by rw [h2]; decide)
        rw [if_pos (by rw [e3]; exact h2), jnE, if_pos rfl, emit_s (by omega), bn2E]
        try dsimp only
        rw [nI_1, nI_1]
        have hc : codC (decide (coN byt n a = 2011), [], []) = [coN byt n a] := by
          rw [cod0]
          by_cases q : coN byt n a = 2011
          · rw [decide_eq_true q, q]; rfl
          · rw [decide_eq_false q, hv.resolve_left q]; rfl
        have hl2 : ((L ++ [(decide (coN byt n a = 2011), ([] : List It), ([] : List It))]).flatMap codC).length = (L.flatMap codC).length + 1 := by
          rw [cdL, hc, len1]
        refine Or.inl ⟨(decide (coN byt n a = 2011), [], []), a + 1 + 1, _, by rw [hl2], by omega, by omega, ⟨Iff.rfl, fun i hi => absurd hi List.not_mem_nil, fun i hi => absurd hi List.not_mem_nil, fun z => absurd rfl z⟩, ?_, by rw [hl2]; omega, ?_, fun K Q hK => rt_plain_ok hn hb a1 hT hv hl h2 hK⟩
        · rw [cdL, hc]
          exact OuC_add hO
        · rw [sgL, List.length_append]
          show _ + 0 ≤ _
          omega
      · rw [if_neg (by rw [e3]; exact h2), refuse_s h (show a + 1 ≤ T by omega), bn2E, bz0, gd_t]
        exact Or.inr ⟨a + 1, nI (a + 1), nI L.length, nI (L.flatMap codC).length, codes, by omega, rfl, fun K Q hK => rt_plain_no hn hb a1 hT hv hl h1 h2 hK⟩
  · rw [if_neg (by rw [e0, e1]; exact hv), refuse_s h ha, bn2E, bz0, gd_t]
    exact Or.inr ⟨a, nI a, nI L.length, nI (L.flatMap codC).length, codes, ha, rfl, fun K Q hK => rt_no ha hne (by omega) (Or.inr ⟨fun z => hv (Or.inl z), fun z => hv (Or.inr z)⟩) hK⟩
end CB
