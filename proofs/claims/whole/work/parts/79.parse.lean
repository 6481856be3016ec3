/-! ===== the class reads ===== -/
theorem nm_val (E : Nat) : nmC E < 2000 → nmC E < 1006 := by
  rcases nm_cases E with ⟨k, hk, e, h⟩ | ⟨h, e⟩
  · rw [h]
    exact (by decide : ∀ k, k < 12 → wcN k < 2000 → wcN k < 1006) k hk
  · rw [e]; decide
theorem mk_val (b : Nat) : 2000 ≤ mkC b ∧ ¬ mkC b = 3004 := by
  unfold mkC
  repeat' split
  all_goals decide
theorem co_ok {byt : Nat → Nat} {n k : Nat} (h : stN byt n k < n) : ¬ coN byt n k = 3004 ∧ (coN byt n k < 2000 → coN byt n k < 1006) := by
  obtain ⟨b1, b2, b3⟩ := enN_bd (byt := byt) h
  unfold coN
  rw [if_pos h, eoN_s h]
  unfold tkC
  by_cases q1 : srN (byt (stN byt n k)) = 1
  · rw [if_pos q1]
    exact ⟨(nm_rng _).2.2.2.2.2, nm_val _⟩
  · rw [if_neg q1]
    by_cases q2 : srN (byt (stN byt n k)) = 2
    · rw [if_pos q2]
      by_cases h3 : enN byt n (stN byt n k) - stN byt n k ≤ 3
      · rw [if_pos h3]
        have hd : ∀ j, j < enN byt n (stN byt n k) - stN byt n k → 48 ≤ byt (stN byt n k + j) ∧ byt (stN byt n k + j) ≤ 57 := fun j hj => sr2.mp (by rw [b3 (by omega) (stN byt n k + j) (by omega) (by omega), q2])
        have h10 := dgN_lt (f := fun j => byt (stN byt n k + j)) (enN byt n (stN byt n k) - stN byt n k) hd
        have hp10 : 10 ^ (enN byt n (stN byt n k) - stN byt n k) ≤ 10 ^ 3 := Nat.pow_le_pow_right (by decide) h3
        exact ⟨by omega, fun _ => by omega⟩
      · rw [if_neg h3]; exact ⟨by decide, fun h => absurd h (by decide)⟩
    · rw [if_neg q2]
      have := mk_val (byt (stN byt n k))
      exact ⟨this.2, fun h => absurd h (by omega)⟩
/-- what cut has left: T tokens and the end -/
def CU (byt : Nat → Nat) (n T : Nat) (sts tks : Nat → Int32) : Prop := n ≤ 200 ∧ T ≤ n ∧ (∀ k, k < T → stN byt n k < n) ∧ stN byt n T = n ∧ ∀ k, k ≤ T → sts k = nI (stN byt n k) ∧ tks k = nI (coN byt n k)
section PA
variable {byt : Nat → Nat} {n T : Nat} {sts tks mt : Nat → Int32}
theorem CU_end (h : CU byt n T sts tks) : coN byt n T = 3004 := by
  unfold coN
  rw [if_neg (by rw [h.2.2.2.1]; omega)]
theorem CU_in (h : CU byt n T sts tks) {k : Nat} (hk : k ≤ T) (hc : ¬ coN byt n k = 3004) : k < T := by
  rcases Nat.lt_or_ge k T with q | q
  · exact q
  · have e : k = T := by omega
    rw [e] at hc
    exact absurd (CU_end h) hc
theorem CU_co (h : CU byt n T sts tks) (k : Nat) : coN byt n k < 2 ^ 31 := by
  unfold coN
  by_cases q : stN byt n k < n
  · rw [if_pos q]
    have h1 := co_ok q
    unfold coN at h1
    rw [if_pos q] at h1
    unfold tkC at h1 ⊢
    by_cases q1 : srN (byt (stN byt n k)) = 1
    · rw [if_pos q1]
      rcases nm_cases (eFN (fun j => byt (stN byt n k + j)) (eoN byt n (k + 1) - stN byt n k)) with ⟨j, hj, e, h⟩ | ⟨h, e⟩
      · rw [h]; exact (by decide : ∀ j, j < 12 → wcN j < 2 ^ 31) j hj
      · rw [e]; decide
    · rw [if_neg q1] at h1 ⊢
      by_cases q2 : srN (byt (stN byt n k)) = 2
      · rw [if_pos q2] at h1 ⊢
        by_cases h3 : eoN byt n (k + 1) - stN byt n k ≤ 3
        · rw [if_pos h3] at h1 ⊢
          have := h1.2
          rcases Nat.lt_or_ge (dgN (fun j => byt (stN byt n k + j)) (eoN byt n (k + 1) - stN byt n k)) 2000 with z | z
          · have := this z; omega
          · have hd : ∀ j, j < enN byt n (stN byt n k) - stN byt n k → 48 ≤ byt (stN byt n k + j) ∧ byt (stN byt n k + j) ≤ 57 := fun j hj => sr2.mp (by rw [(enN_bd q).2.2 (by omega) (stN byt n k + j) (by omega) (by omega), q2])
            rw [eoN_s q] at h3 ⊢
            have h10 := dgN_lt (f := fun j => byt (stN byt n k + j)) (enN byt n (stN byt n k) - stN byt n k) hd
            have hp10 : 10 ^ (enN byt n (stN byt n k) - stN byt n k) ≤ 10 ^ 3 := Nat.pow_le_pow_right (by decide) h3
            omega
        · rw [if_neg h3]; decide
      · rw [if_neg q2]
        unfold mkC
        repeat' split
        all_goals decide
  · rw [if_neg q]; decide
theorem here_s (h : CU byt n T sts tks) {a : Nat} (ha : a ≤ T) : f4_here (nI a) (nI (T + 1)) tks = some (nI (coN byt n a)) := by
  obtain ⟨hn, hT, hlt, he, hk⟩ := h
  unfold f4_here
  rw [if_neg (nI_pos (by omega)), if_neg (nI_ge (by omega) (by omega)), gdi (show a < 201 by omega) (by omega), nI_clamp (by omega), (hk a ha).2]
theorem refuse_s (h : CU byt n T sts tks) {a : Nat} (ha : a ≤ T) (fa le : Int32) : f4_refuse (nI a) (nI (T + 1)) fa le sts = some (0, nI (stN byt n a)) := by
  obtain ⟨hn, hT, hlt, he, hk⟩ := h
  unfold f4_refuse
  simp only [jnE]
  rw [if_neg (nI_pos (by omega)), if_neg (nI_ge (by omega) (by omega)), gdi (show a < 201 by omega) (by omega), nI_clamp (by omega), (hk a ha).1]
theorem isVal_s {c : Nat} (hc : c < 2 ^ 31) : f4_isValue (nI c) = some (b01 (decide (c < 2000))) := by
  unfold f4_isValue
  rw [if_neg (nI_pos hc)]
  by_cases h : c < 2000
  · rw [if_neg (show ¬ (2000 : Int32) ≤ nI c from nI_ge (b := 2000) h (by omega)), decide_eq_true h]; rfl
  · rw [if_pos (show (2000 : Int32) ≤ nI c from nI_le (a := 2000) (by omega) hc), decide_eq_false h]; rfl
theorem emit_s {c : Nat} (hc : c < 210) (codes : Nat → Int32) (v : Int32) : f6_emit (nI c) codes v = some (nI (c + 1), upd codes c v) := by
  unfold f6_emit
  rw [if_neg (nge n210 hc (by omega)), gdi hc (by omega), nI_clamp (by omega), nI_1]
theorem coEq (h : CU byt n T sts tks) (k : Nat) {m : Nat} (hm : m < 2 ^ 31) : (nI (coN byt n k) = nI m) = (coN byt n k = m) := propext ⟨fun z => nI_inj (CU_co h k) hm z, fun z => by rw [z]⟩
/-- codes added -/
def AdC (codes codes' : Nat → Int32) (cnt : Nat) (l : List Nat) : Prop := (∀ i, i < cnt → codes' i = codes i) ∧ ∀ j, j < l.length → codes' (cnt + j) = nI (l.getD j 0)
theorem AdC_nil (codes : Nat → Int32) (cnt : Nat) : AdC codes codes cnt [] := ⟨fun _ _ => rfl, fun j h => by rw [List.length_nil] at h; exact absurd h (by omega)⟩
theorem AdC_app {c0 c1 c2 : Nat → Int32} {cnt : Nat} {l m : List Nat} (h1 : AdC c0 c1 cnt l) (h2 : AdC c1 c2 (cnt + l.length) m) : AdC c0 c2 cnt (l ++ m) := by
  refine ⟨fun i hi => by rw [h2.1 i (by omega), h1.1 i hi], fun j hj => ?_⟩
  rw [List.length_append] at hj
  rcases Nat.lt_or_ge j l.length with q | q
  · rw [h2.1 (cnt + j) (by omega), h1.2 j q, gDl q]
  · have := h2.2 (j - l.length) (by omega)
    rw [show cnt + l.length + (j - l.length) = cnt + j by omega] at this
    rw [this, gDr (j - l.length) (by omega)]
theorem AdC_one (codes : Nat → Int32) (cnt v : Nat) : AdC codes (upd codes cnt (nI v)) cnt [v] := by
  refine ⟨fun i hi => upd_n (by omega), fun j hj => ?_⟩
  rw [List.length_cons, List.length_nil] at hj
  have e : j = 0 := by omega
  subst e
  rw [Nat.add_zero, upd_s]; rfl
/-- what a reading answers -/
abbrev PR : Type := Option (Int32 × Int32 × Int32 × Int32 × (Nat → Int32))
def CTs (byt : Nat → Nat) (n T : Nat) (mt : Nat → Int32) (nm : List Nat → List Nat → List Nat × List Nat) (bad ex : Nat → Prop) (o : PR) (a op cnt : Nat) (fault : Int32) (codes : Nat → Int32) : Prop :=
  ∃ a' l1 l2 codes', o = some (1, nI a', nI (cnt + (l1.flatMap cC).length), fault, codes') ∧ (a < a' ∧ a' ≤ T ∧ (l1.flatMap cC).length ≤ a' - a ∧ (l2.flatMap cM).length ≤ a' - a ∧ ex (coN byt n a')) ∧ AdC codes codes' cnt (l1.flatMap cC) ∧ ((∀ i ∈ l1, okI i) ∧ (∀ i ∈ l2, okI i) ∧ l1 ≠ [] ∧ l2 ≠ [] ∧ ∀ f, ∃ b, ∀ s, evs f l1 s = some (b :: s) ∧ evs f l2 s = some (b :: s)) ∧
    ∀ Q O P, (∀ y, P.head? = some y → ¬ bad y) → (∀ O' P', nm P' O' = (O ++ l2.flatMap cM, P) → OKr byt n T mt Q 0 a' O' P' op) → OKr byt n T mt Q 1 a O P op
def CTf (byt : Nat → Nat) (n T : Nat) (mt : Nat → Int32) (bad : Nat → Prop) (o : PR) (a op : Nat) : Prop :=
  ∃ e d1 d2 d3, e ≤ T ∧ o = some (0, d1, d2, nI (stN byt n e), d3) ∧ ∀ Q O P, (∀ y, P.head? = some y → ¬ bad y) → FAo byt n Q e → OKr byt n T mt Q 1 a O P op
def CT2 (byt : Nat → Nat) (n T : Nat) (mt : Nat → Int32) (nm : List Nat → List Nat → List Nat × List Nat) (bad ex : Nat → Prop) (o : PR) (a op cnt : Nat) (fault : Int32) (codes : Nat → Int32) : Prop := CTs byt n T mt nm bad ex o a op cnt fault codes ∨ CTf byt n T mt bad o a op
def idL (P O : List Nat) : List Nat × List Nat := (O, P)
def bdO (y : Nat) : Prop := y = 40002
def bdA (y : Nat) : Prop := y = 40002 ∨ y = 40000
def bdC (y : Nat) : Prop := y = 40002 ∨ y = 40000 ∨ y = 40001
def exO (_ : Nat) : Prop := True
def exA (c : Nat) : Prop := ¬ c = 2004
def exC (c : Nat) : Prop := ¬ c = 2004 ∧ ¬ c = 2005
/-- a reading below, for a bracket -/
def RCk (byt : Nat → Nat) (n T : Nat) (mt sts tks : Nat → Int32) (rc : Int32 → Int32 → Int32 → Int32 → Int32 → (Nat → Int32) → (Nat → Int32) → (Nat → Int32) → Int32 → PR) (op : Nat) : Prop := ∀ a cnt fault codes, a ≤ T → cnt ≤ a → CT2 byt n T mt stl2 bdC exC (rc (nI a) (nI (T + 1)) (nI cnt) fault (nI n) codes sts tks (nI op)) a op cnt fault codes
theorem stlN_rep {x : Nat} : ∀ (k : Nat) (P O : List Nat), (∀ y, P.head? = some y → ¬ y = x) → stlN x (List.replicate k x ++ P) O = (O ++ List.replicate k x, P)
  | 0, P, O, h => by
    rw [List.replicate_zero, List.nil_append, List.append_nil]
    cases P with
    | nil => rfl
    | cons y P => exact stlN_no (h y rfl)
  | k + 1, P, O, h => by
    rw [List.replicate_succ, List.cons_append, stlN_yes, stlN_rep k P (O ++ [x]) h, List.append_assoc]
    rfl
theorem fm_not (k : Nat) : (List.replicate k ((3, 0, 0) : It)).flatMap cM = List.replicate k 40002 := by
  induction k with
  | zero => rfl
  | succ k ih => rw [List.replicate_succ, List.flatMap_cons, ih, List.replicate_succ]; rfl
theorem evs_app (f : Nat → Int32) : ∀ (l m : List It) (s : List Bool), evs f (l ++ m) s = Option.bind (evs f l s) (evs f m)
  | [], m, s => rfl
  | i :: l, m, s => by
    rw [List.cons_append, evs, evs]
    cases ev1 f i s with
    | none => rfl
    | some t => exact evs_app f l m t
theorem evs_nots (f : Nat → Int32) : ∀ k b s, evs f (List.replicate k ((3, 0, 0) : It)) (b :: s) = some ((if k % 2 = 1 then !b else b) :: s)
  | 0, b, s => rfl
  | k + 1, b, s => by
    rw [List.replicate_succ, evs]
    show Option.bind (some ((!b) :: s)) _ = _
    rw [Option.bind_some, evs_nots f k (!b) s]
    by_cases h : k % 2 = 1
    · rw [if_pos h, if_neg (by omega), Bool.not_not]
    · rw [if_neg h, if_pos (by omega)]
theorem nots_ex (h : CU byt n T sts tks) : ∀ m a, T - a ≤ m → a ≤ T → ∃ k, a + k ≤ T ∧ (∀ j, j < k → coN byt n (a + j) = 2003) ∧ ¬ coN byt n (a + k) = 2003 := by
  intro m
  induction m with
  | zero =>
    intro a h1 h2
    have e : a = T := by omega
    exact ⟨0, by omega, fun j hj => absurd hj (by omega), by rw [Nat.add_zero, e, CU_end h]; decide⟩
  | succ m ih =>
    intro a h1 h2
    by_cases q : coN byt n a = 2003
    · have haT := CU_in h h2 (by rw [q]; decide)
      obtain ⟨k, k1, k2, k3⟩ := ih (a + 1) (by omega) (by omega)
      refine ⟨k + 1, by omega, fun j hj => ?_, by rw [show a + (k + 1) = a + 1 + k by omega]; exact k3⟩
      cases j with
      | zero => exact q
      | succ j => rw [show a + (j + 1) = a + 1 + j by omega]; exact k2 j (by omega)
    · exact ⟨0, by omega, fun j hj => absurd hj (by omega), q⟩
theorem ref_nots (h : CU byt n T sts tks) (hb : ∀ i, i < n → mt i = nI (byt i) ∧ byt i < 256) {Q : Option WR → Prop} {O : List Nat} {op : Nat} : ∀ k a (P : List Nat), a + k ≤ T → (∀ j, j < k → coN byt n (a + j) = 2003) → OKr byt n T mt Q 1 (a + k) O (List.replicate k 40002 ++ P) op → OKr byt n T mt Q 1 a O P op
  | 0, a, P, _, _, hq => hq
  | k + 1, a, P, h1, h2, hq => by
    have h0 := h2 0 (by omega)
    rw [Nat.add_zero] at h0
    refine sq_not h.1 hb (by omega) h.2.1 h0 (ref_nots h hb k (a + 1) (40002 :: P) (by omega) (fun j hj => ?_) ?_)
    · have := h2 (j + 1) (by omega)
      rw [show a + (j + 1) = a + 1 + j by omega] at this
      exact this
    · rw [show a + 1 + k = a + (k + 1) by omega]
      have e : List.replicate k 40002 ++ 40002 :: P = List.replicate (k + 1) 40002 ++ P := by
        rw [List.replicate_succ', List.append_assoc]; rfl
      rw [e]; exact hq
/-- the class counts the nots -/
theorem cls_nots (h : CU byt n T sts tks) {rc : Int32 → Int32 → Int32 → Int32 → Int32 → (Nat → Int32) → (Nat → Int32) → (Nat → Int32) → Int32 → PR} {a k : Nat} (hk : a + k ≤ T) (h2 : ∀ j, j < k → coN byt n (a + j) = 2003) (h3 : ¬ coN byt n (a + k) = 2003) (R : Int32 → Int32 → PR) : f4_readOne_L4 rc (nI (T + 1)) tks FU 0 0 (nI a) (fun x1 _ c3 => R x1 c3) = R (b01 (decide (k % 2 = 1))) (nI (a + k)) := by
  obtain ⟨hn, hT, -⟩ := id h
  refine lup0 (fun fu i (x : Int32 × Int32) => f4_readOne_L4 rc (nI (T + 1)) tks fu x.1 i x.2 (fun x1 _ c3 => R x1 c3)) k (fun j => (b01 (decide (j % 2 = 1)), nI (a + j))) (fun fu j hj => ?_) (fun fu => ?_) (s0 := (0, nI a)) rfl (FU_lt (by omega))
  · simp only [f4_readOne_L4, jnE]
    rw [if_neg (nge n200 (show j < 200 by omega) (by omega)), here_s h (by omega), Option.bind_some, h2 j hj, if_pos (show nI 2003 = 2003 from rfl), nI_1, nI_1, dec_if]
    by_cases q : j % 2 = 1
    · rw [if_pos q, decide_eq_false (show ¬ (j + 1) % 2 = 1 by omega)]; rfl
    · rw [if_neg q, decide_eq_true (show (j + 1) % 2 = 1 by omega)]; rfl
  · simp only [f4_readOne_L4]
    rw [here_s h hk, Option.bind_some, if_neg (show ¬ nI (coN byt n (a + k)) = 2003 from fun z => h3 (nI_inj (CU_co h _) (b := 2003) (by omega) z)), ite_self]
end PA
