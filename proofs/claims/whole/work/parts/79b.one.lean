/-! ===== a comparison, a bracket, one ===== -/
section ON
variable {byt : Nat → Nat} {n T : Nat} {sts tks mt : Nat → Int32}
theorem if3 {R : Type} (p q r : Prop) [Decidable p] [Decidable q] [Decidable r] (B F : R) : (if p then B else if q then B else if r then B else F) = if p ∨ q ∨ r then B else F := by
  by_cases hp : p
  · rw [if_pos hp, if_pos (Or.inl hp)]
  · rw [if_neg hp]
    by_cases hq : q
    · rw [if_pos hq, if_pos (Or.inr (Or.inl hq))]
    · rw [if_neg hq]
      by_cases hr : r
      · rw [if_pos hr, if_pos (Or.inr (Or.inr hr))]
      · rw [if_neg hr, if_neg (fun z => z.elim hp (fun z => z.elim hq hr))]
theorem cmp_cls (h : CU byt n T sts tks) {a cnt : Nat} (ha : a ≤ T) (hcnt : cnt ≤ a) (fault : Int32) (codes : Nat → Int32) :
    (∃ codes', f4_readComparison (nI a) (nI (T + 1)) (nI cnt) fault (nI n) codes sts tks = some (1, nI (a + 3), nI (cnt + 3), fault, codes') ∧ a + 2 < T ∧ coN byt n a < 1006 ∧ 2000 ≤ coN byt n (a + 1) ∧ coN byt n (a + 1) < 2003 ∧ coN byt n (a + 2) < 1006 ∧ AdC codes codes' cnt [coN byt n a, coN byt n (a + 2), coN byt n (a + 1)]) ∨
    (∃ e d1 d2 d3, e ≤ T ∧ f4_readComparison (nI a) (nI (T + 1)) (nI cnt) fault (nI n) codes sts tks = some (0, d1, d2, nI (stN byt n e), d3) ∧ ((e = a ∧ ¬ coN byt n a < 1006) ∨ (e = a + 1 ∧ a + 1 ≤ n ∧ coN byt n a < 1006 ∧ ¬ (2000 ≤ coN byt n (a + 1) ∧ coN byt n (a + 1) < 2003)) ∨ (e = a + 2 ∧ a + 2 ≤ n ∧ coN byt n a < 1006 ∧ (2000 ≤ coN byt n (a + 1) ∧ coN byt n (a + 1) < 2003) ∧ ¬ coN byt n (a + 2) < 1006))) := by
  obtain ⟨hn, hT, hlt, -⟩ := id h
  unfold f4_readComparison
  rw [here_s h ha, Option.bind_some, isVal_s (CU_co h a), Option.bind_some, dec_if]
  by_cases q0 : coN byt n a < 2000
  · have a1 : a < T := CU_in h ha (by omega)
    have v0 := (co_ok (hlt a a1)).2 q0
    rw [if_pos q0, nI_1, here_s h (show a + 1 ≤ T by omega), Option.bind_some, nI_1, jnE, if3]
    have e0 : (nI (coN byt n (a + 1)) = 2000) = (coN byt n (a + 1) = 2000) := coEq h (a + 1) (m := 2000) (by omega)
    have e1 : (nI (coN byt n (a + 1)) = 2001) = (coN byt n (a + 1) = 2001) := coEq h (a + 1) (m := 2001) (by omega)
    have e2 : (nI (coN byt n (a + 1)) = 2002) = (coN byt n (a + 1) = 2002) := coEq h (a + 1) (m := 2002) (by omega)
    by_cases q1 : 2000 ≤ coN byt n (a + 1) ∧ coN byt n (a + 1) < 2003
    · have a2 : a + 1 < T := CU_in h (by omega) (by omega)
      rw [if_pos (by rw [e0, e1, e2]; omega), here_s h (show a + 1 + 1 ≤ T by omega), Option.bind_some, isVal_s (CU_co h (a + 1 + 1)), Option.bind_some, dec_if]
      by_cases q2 : coN byt n (a + 1 + 1) < 2000
      · have a3 : a + 1 + 1 < T := CU_in h (by omega) (by omega)
        have v2 := (co_ok (hlt _ a3)).2 q2
        rw [if_pos q2, emit_s (by omega), bn2E, emit_s (by omega), bn2E, emit_s (by omega), bn2E, nI_1]
        exact Or.inl ⟨_, rfl, a3, v0, q1.1, q1.2, v2, AdC_app (AdC_one codes cnt (coN byt n a)) (AdC_app (AdC_one _ (cnt + 1) (coN byt n (a + 2))) (AdC_one _ (cnt + 1 + 1) (coN byt n (a + 1))))⟩
      · rw [if_neg q2, refuse_s h (show a + 1 + 1 ≤ T by omega), bn2E, bz0, gd_t]
        exact Or.inr ⟨a + 2, nI (a + 1 + 1), nI cnt, codes, by omega, rfl, Or.inr (Or.inr ⟨rfl, by omega, v0, q1, fun z => q2 (show coN byt n (a + 2) < 2000 by omega)⟩)⟩
    · rw [if_neg (by rw [e0, e1, e2]; omega), refuse_s h (show a + 1 ≤ T by omega), bn2E, bz0, gd_t]
      exact Or.inr ⟨a + 1, nI (a + 1), nI cnt, codes, by omega, rfl, Or.inr (Or.inl ⟨rfl, by omega, v0, q1⟩)⟩
  · rw [if_neg q0, refuse_s h ha, bn2E, bz0, gd_t]
    exact Or.inr ⟨a, nI a, nI cnt, codes, ha, rfl, Or.inl ⟨rfl, by omega⟩⟩
theorem cC_mk {t x y : Nat} (h : t < 3) : cC (t, x, y) = [x, y, 2000 + t] := if_pos h
theorem ev1_lt {f : Nat → Int32} {t x y : Nat} {s : List Bool} (h : t < 3) : ev1 f (t, x, y) s = some (cmpI t (valI f x) (valI f y) :: s) := if_pos h
/-- a comparison or a bracket has been read -/
def SUs (byt : Nat → Nat) (n T : Nat) (mt : Nat → Int32) (o : PR) (a op cnt : Nat) (fault : Int32) (codes : Nat → Int32) : Prop :=
  ∃ a' l1 l2 codes', o = some (1, nI a', nI (cnt + (l1.flatMap cC).length), fault, codes') ∧ (a < a' ∧ a' ≤ T ∧ (l1.flatMap cC).length ≤ a' - a ∧ (l2.flatMap cM).length ≤ a' - a) ∧ AdC codes codes' cnt (l1.flatMap cC) ∧ ((∀ i ∈ l1, okI i) ∧ (∀ i ∈ l2, okI i) ∧ l1 ≠ [] ∧ l2 ≠ [] ∧ ∀ f, ∃ b, ∀ s, evs f l1 s = some (b :: s) ∧ evs f l2 s = some (b :: s)) ∧
    ∀ Q O P, OKr byt n T mt Q 0 a' (stlN 40002 P (O ++ l2.flatMap cM)).1 (stlN 40002 P (O ++ l2.flatMap cM)).2 op → OKr byt n T mt Q 1 a O P op
def bdN (_ : Nat) : Prop := False
def SU (byt : Nat → Nat) (n T : Nat) (mt : Nat → Int32) (o : PR) (a op cnt : Nat) (fault : Int32) (codes : Nat → Int32) : Prop := SUs byt n T mt o a op cnt fault codes ∨ CTf byt n T mt bdN o a op
theorem sub_cmp (h : CU byt n T sts tks) (hb : ∀ i, i < n → mt i = nI (byt i) ∧ byt i < 256) {a cnt op : Nat} (ha : a ≤ T) (hcnt : cnt ≤ a) (h3 : ¬ coN byt n a = 2003) (h1 : ¬ coN byt n a = 3001) (fault : Int32) (codes : Nat → Int32) : SU byt n T mt (f4_readComparison (nI a) (nI (T + 1)) (nI cnt) fault (nI n) codes sts tks) a op cnt fault codes := by
  rcases cmp_cls h ha hcnt fault codes with ⟨codes', e, a2, v0, v1, v2, v3, hA⟩ | ⟨e, d1, d2, d3, he, eq, hc⟩
  · refine Or.inl ⟨a + 3, [(coN byt n (a + 1) - 2000, coN byt n a, coN byt n (a + 2))], [(coN byt n (a + 1) - 2000, coN byt n a, coN byt n (a + 2))], codes', ?_⟩
    have hlt : coN byt n (a + 1) - 2000 < 3 := by omega
    have hC : [((coN byt n (a + 1) - 2000, coN byt n a, coN byt n (a + 2)) : It)].flatMap cC = [coN byt n a, coN byt n (a + 2), coN byt n (a + 1)] := by
      rw [List.flatMap_cons, List.flatMap_nil, List.append_nil, cC_mk hlt, show 2000 + (coN byt n (a + 1) - 2000) = coN byt n (a + 1) by omega]
    have hM : [((coN byt n (a + 1) - 2000, coN byt n a, coN byt n (a + 2)) : It)].flatMap cM = [vM (coN byt n a), 60 + (coN byt n (a + 1) - 2000), vM (coN byt n (a + 2))] := by
      rw [List.flatMap_cons, List.flatMap_nil, List.append_nil]
      exact if_pos hlt
    rw [hC, hM]
    have hok : okI ((coN byt n (a + 1) - 2000, coN byt n a, coN byt n (a + 2)) : It) := ⟨show coN byt n (a + 1) - 2000 < 6 by omega, v0, v3⟩
    refine ⟨e, ⟨by omega, by omega, ?_, ?_⟩, hA, ⟨fun i hi => ?_, fun i hi => ?_, List.cons_ne_nil _ _, List.cons_ne_nil _ _, fun f => ⟨cmpI (coN byt n (a + 1) - 2000) (valI f (coN byt n a)) (valI f (coN byt n (a + 2))), fun s => ?_⟩⟩, fun Q O P hq => ?_⟩
    · show 3 ≤ _
      omega
    · show 3 ≤ _
      omega
    · rw [List.mem_singleton.mp hi]; exact hok
    · rw [List.mem_singleton.mp hi]; exact hok
    · have : evs f [((coN byt n (a + 1) - 2000, coN byt n a, coN byt n (a + 2)) : It)] s = some (cmpI (coN byt n (a + 1) - 2000) (valI f (coN byt n a)) (valI f (coN byt n (a + 2))) :: s) := by
        rw [evs, ev1_lt hlt, Option.bind_some, evs]
      exact ⟨this, this⟩
    · refine sq_cmp h.1 hb a2 h.2.1 v0 v1 v2 v3 ?_
      have e3 : ((O ++ [vM (coN byt n a)]) ++ [60 + (coN byt n (a + 1) - 2000)]) ++ [vM (coN byt n (a + 2))] = O ++ [vM (coN byt n a), 60 + (coN byt n (a + 1) - 2000), vM (coN byt n (a + 2))] := by
        rw [List.append_assoc, List.append_assoc]; rfl
      rw [e3]
      exact hq
  · exact Or.inr ⟨e, d1, d2, d3, he, eq, fun Q O P _ hF => sq_cmpF h.1 hb ha h.2.1 h3 h1 hc hF⟩
theorem sub_br (h : CU byt n T sts tks) (hb : ∀ i, i < n → mt i = nI (byt i) ∧ byt i < 256) {rc : Int32 → Int32 → Int32 → Int32 → Int32 → (Nat → Int32) → (Nat → Int32) → (Nat → Int32) → Int32 → PR} {a cnt op : Nat} (hop : op ≤ 3) (hrc : op < 3 → RCk byt n T mt sts tks rc (op + 1)) (ha : a ≤ T) (hcnt : cnt ≤ a) (h1 : coN byt n a = 3001) (fault : Int32) (codes : Nat → Int32) : SU byt n T mt (f4_readBracket rc (nI a) (nI (T + 1)) (nI cnt) fault (nI n) codes sts tks (nI op)) a op cnt fault codes := by
  obtain ⟨hn, hT, hlt, -⟩ := id h
  have a1 : a < T := CU_in h ha (by rw [h1]; decide)
  unfold f4_readBracket
  by_cases q : op < 3
  · rw [if_pos (show nI op < 3 from nI_lt (b := 3) q (by omega)), nI_1, nI_1]
    rcases hrc q (a + 1) cnt fault codes (by omega) (by omega) with ⟨a', l1, l2, codes', e, ⟨p1, p2, p3, p4, p5⟩, hA, hI, hQ⟩ | ⟨e, d1, d2, d3, he, eq, hF⟩
    · rw [e, bn5E, if_neg e10, here_s h p2, Option.bind_some]
      have e2 : (nI (coN byt n a') = 3002) = (coN byt n a' = 3002) := coEq h a' (m := 3002) (by omega)
      by_cases qc : coN byt n a' = 3002
      · have a2 : a' < T := CU_in h p2 (by rw [qc]; decide)
        rw [if_pos (by rw [e2]; exact qc), nI_1]
        refine Or.inl ⟨a' + 1, l1, l2, codes', rfl, ⟨by omega, by omega, by omega, by omega⟩, hA, hI, fun Q O P hq => ?_⟩
        refine sq_open hn hb a1 hT h1 q (hQ Q O (40003 :: P) (fun y hy => ?_) (fun O' P' hst => ?_))
        · rw [← Option.some.inj hy]
          exact fun z => by rcases z with z | z | z <;> exact absurd z (by decide)
        · exact sq_close hn hb a2 hT qc hst hq
      · rw [if_neg (by rw [e2]; exact qc), refuse_s h p2, bn2E, bz0, gd_t]
        refine Or.inr ⟨a', nI a', nI (cnt + (l1.flatMap cC).length), codes', p2, rfl, fun Q O P _ hF => ?_⟩
        refine sq_open hn hb a1 hT h1 q (hQ Q O (40003 :: P) (fun y hy => ?_) (fun O' P' hst => ?_))
        · rw [← Option.some.inj hy]
          exact fun z => by rcases z with z | z | z <;> exact absurd z (by decide)
        · exact sq_closeF p2 hT hn p5.1 p5.2 qc hst hF
    · rw [eq, bn5E, if_pos rfl]
      refine Or.inr ⟨e, d1, d2, d3, he, rfl, fun Q O P _ hF2 => ?_⟩
      refine sq_open hn hb a1 hT h1 q (hF Q O (40003 :: P) (fun y hy => ?_) hF2)
      rw [← Option.some.inj hy]
      exact fun z => by rcases z with z | z | z <;> exact absurd z (by decide)
  · rw [if_neg (show ¬ nI op < 3 from nI_nlt (b := 3) (by omega) (by omega)), refuse_s h ha, bn2E, bz0, gd_t]
    exact Or.inr ⟨a, nI a, nI cnt, codes, ha, rfl, fun Q O P _ hF => sq_open4 ha h1 q (by omega) hF⟩
theorem one_s (h : CU byt n T sts tks) (hb : ∀ i, i < n → mt i = nI (byt i) ∧ byt i < 256) {rc : Int32 → Int32 → Int32 → Int32 → Int32 → (Nat → Int32) → (Nat → Int32) → (Nat → Int32) → Int32 → PR} {a cnt op : Nat} (hop : op ≤ 3) (hrc : op < 3 → RCk byt n T mt sts tks rc (op + 1)) (ha : a ≤ T) (hcnt : cnt ≤ a) (fault : Int32) (codes : Nat → Int32) : CT2 byt n T mt idL bdO exO (f4_readOne rc (nI a) (nI (T + 1)) (nI cnt) fault (nI n) codes sts tks (nI op)) a op cnt fault codes := by
  obtain ⟨hn, hT, hlt, -⟩ := id h
  obtain ⟨k, k1, k2, k3⟩ := nots_ex h (T - a) a (Nat.le_refl _) ha
  unfold f4_readOne
  rw [jnE, cls_nots h k1 k2 k3]
  rw [here_s h k1, Option.bind_some, jnE]
  have e1 : (nI (coN byt n (a + k)) = 3001) = (coN byt n (a + k) = 3001) := coEq h (a + k) (m := 3001) (by omega)
  have fin : ∀ o : PR, SU byt n T mt o (a + k) op cnt fault codes → CT2 byt n T mt idL bdO exO (bn5 o fun s14 c15 c16 c17 c18 => if s14 = (0 : Int32) then gd (bz s14) <| some (s14, c15, c16, c17, c18) else if b01 (decide (k % 2 = 1)) = (0 : Int32) then gd (bz s14) <| some (s14, c15, c16, c17, c18) else bn2 (f6_emit c16 c18 (2003 : Int32)) fun (c21 : Int32) (c22 : (Nat → Int32)) => gd (bz s14) <| some (s14, c15, c21, c17, c22)) a op cnt fault codes := by
    rintro o (⟨a', l1, l2, codes', rfl, ⟨p1, p2, p3, p4⟩, hA, ⟨i1, i2, i3, i4, i5⟩, hQ⟩ | ⟨e, d1, d2, d3, he, rfl, hF⟩)
    · have hr : ∀ Q O P, (∀ y, P.head? = some y → ¬ bdO y) → (∀ O' P', idL P' O' = (O ++ (l2 ++ List.replicate k ((3, 0, 0) : It)).flatMap cM, P) → OKr byt n T mt Q 0 a' O' P' op) → OKr byt n T mt Q 1 a O P op := by
        intro Q O P hbad hq
        refine ref_nots h hb k a P k1 k2 (hQ Q O _ ?_)
        rw [stlN_rep k P (O ++ l2.flatMap cM) hbad]
        refine hq _ _ ?_
        rw [List.flatMap_append, fm_not, ← List.append_assoc]; rfl
      have hm : ((l2 ++ List.replicate k ((3, 0, 0) : It)).flatMap cM).length ≤ a' - a := by
        rw [List.flatMap_append, fm_not, List.length_append, List.length_replicate]; omega
      have hi2 : ∀ i ∈ l2 ++ List.replicate k ((3, 0, 0) : It), okI i := by
        intro i hi
        rcases List.mem_append.mp hi with z | z
        · exact i2 i z
        · rw [List.eq_of_mem_replicate z]; exact ⟨by decide, by decide, by decide⟩
      have hi4 : l2 ++ List.replicate k ((3, 0, 0) : It) ≠ [] := fun z => i4 (List.append_eq_nil_iff.mp z).1
      have hn2 : ∀ f b s, evs f l2 s = some (b :: s) → evs f (l2 ++ List.replicate k ((3, 0, 0) : It)) s = some ((if k % 2 = 1 then !b else b) :: s) := by
        intro f b s z
        rw [evs_app, z, Option.bind_some, evs_nots]
      rw [bn5E, if_neg e10, dec_if]
      by_cases q : k % 2 = 1
      · rw [if_pos q, show (2003 : Int32) = nI 2003 from rfl, emit_s (by omega), bn2E, bz1, gd_t]
        have hC : (l1 ++ [((3, 0, 0) : It)]).flatMap cC = l1.flatMap cC ++ [2003] := by
          rw [List.flatMap_append]; rfl
        refine Or.inl ⟨a', l1 ++ [(3, 0, 0)], l2 ++ List.replicate k (3, 0, 0), _, by rw [hC, len1, ← Nat.add_assoc], ⟨by omega, p2, by rw [hC, len1]; omega, hm, trivial⟩, by rw [hC]; exact AdC_app hA (AdC_one _ _ 2003), ⟨fun i hi => ?_, hi2, fun z => i3 (List.append_eq_nil_iff.mp z).1, hi4, fun f => ?_⟩, hr⟩
        · rcases List.mem_append.mp hi with z | z
          · exact i1 i z
          · rw [List.mem_singleton.mp z]; exact ⟨by decide, by decide, by decide⟩
        · obtain ⟨b, hb2⟩ := i5 f
          refine ⟨!b, fun s => ⟨?_, ?_⟩⟩
          · rw [evs_app, (hb2 s).1, Option.bind_some]; rfl
          · rw [hn2 f b s (hb2 s).2, if_pos q]
      · rw [if_neg q, bz1, gd_t]
        refine Or.inl ⟨a', l1, l2 ++ List.replicate k (3, 0, 0), codes', rfl, ⟨by omega, p2, by omega, hm, trivial⟩, hA, ⟨i1, hi2, i3, hi4, fun f => ?_⟩, hr⟩
        obtain ⟨b, hb2⟩ := i5 f
        refine ⟨b, fun s => ⟨(hb2 s).1, ?_⟩⟩
        rw [hn2 f b s (hb2 s).2, if_neg q]
    · rw [bn5E, if_pos rfl, bz0, gd_t]
      exact Or.inr ⟨e, d1, d2, d3, he, rfl, fun Q O P _ hF2 => ref_nots h hb k a P k1 k2 (hF Q O _ (fun _ _ z => z) hF2)⟩
  by_cases q : coN byt n (a + k) = 3001
  · rw [if_pos (by rw [e1]; exact q)]
    exact fin _ (sub_br h hb hop hrc k1 (by omega) q fault codes)
  · rw [if_neg (by rw [e1]; exact q)]
    exact fin _ (sub_cmp h hb k1 (by omega) k3 q fault codes)
end ON
