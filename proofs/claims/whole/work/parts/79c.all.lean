/-! ===== and, or: one loop for both; then a condition ===== -/
section JO
variable {byt : Nat → Nat} {n T : Nat} {sts tks mt : Nat → Int32}
def JH (byt : Nat → Nat) (n T : Nat) (mt : Nat → Int32) (nm1 nm2 : List Nat → List Nat → List Nat × List Nat) (bad1 bad2 ex1 ex2 : Nat → Prop) (S w op : Nat) (J : It) (R : Int32 → Int32 → Int32 → (Nat → Int32) → PR) (Lp : Nat → Int32 → Int32 → Int32 → Int32 → (Nat → Int32) → PR) : Prop :=
  (∀ y, bad1 y → bad2 y) ∧
  (¬ bad1 S) ∧
  (∀ P P' O' X, (∀ y, P.head? = some y → ¬ bad2 y) → nm1 P' O' = (X, P) → nm2 P' O' = (X, P)) ∧
  (∀ P P' O' X, (∀ y, P.head? = some y → ¬ bad2 y) → nm1 P' O' = (X, S :: P) → nm2 P' O' = (X ++ [S], P)) ∧
  (∀ Q p O' P' X P, p < T → coN byt n p = w → nm2 P' O' = (X, P) → OKr byt n T mt Q 1 (p + 1) X (S :: P) op → OKr byt n T mt Q 0 p O' P' op) ∧
  (∀ c, ¬ c = w → ex1 c → ex2 c) ∧
  (¬ w = 3004) ∧
  (cC J = [w]) ∧
  (cM J = [S]) ∧
  (okI J) ∧
  (∀ f a b, ∃ c, ∀ s, ev1 f J (b :: a :: s) = some (c :: s)) ∧
  (∀ p c fa co, p ≤ T → c ≤ p → CT2 byt n T mt nm1 bad1 ex1 (R (nI p) (nI c) fa co) p op c fa co) ∧
  (∀ fu (i p c : Nat) fa co, i < 200 → p ≤ T → Lp (fu + 1) (nI i) (nI p) (nI c) fa co = if coN byt n p = w then bn5 (R (nI (p + 1)) (nI c) fa co) (fun v14 c15 c16 c17 c18 => if v14 = 0 then some (0, c15, c16, c17, c18) else bn2 (f6_emit c16 c18 (nI w)) fun c19 c20 => Lp fu (nI (i + 1)) c15 c19 c17 c20) else some (1, nI p, nI c, fa, co))
variable {nm1 nm2 : List Nat → List Nat → List Nat × List Nat} {bad1 bad2 ex1 ex2 : Nat → Prop} {S w op : Nat} {J : It} {R : Int32 → Int32 → Int32 → (Nat → Int32) → PR} {Lp : Nat → Int32 → Int32 → Int32 → Int32 → (Nat → Int32) → PR}
def JV (byt : Nat → Nat) (n T : Nat) (mt : Nat → Int32) (nm2 : List Nat → List Nat → List Nat × List Nat) (bad2 : Nat → Prop) (a op cnt : Nat) (codes : Nat → Int32) (p : Nat) (l1 l2 : List It) (codes' : Nat → Int32) : Prop :=
  (a < p ∧ p ≤ T ∧ (l1.flatMap cC).length ≤ p - a ∧ (l2.flatMap cM).length ≤ p - a) ∧ AdC codes codes' cnt (l1.flatMap cC) ∧ ((∀ i ∈ l1, okI i) ∧ (∀ i ∈ l2, okI i) ∧ l1 ≠ [] ∧ l2 ≠ [] ∧ ∀ f, ∃ b, ∀ s, evs f l1 s = some (b :: s) ∧ evs f l2 s = some (b :: s)) ∧
    ∀ Q O P, (∀ y, P.head? = some y → ¬ bad2 y) → (∀ O' P', nm2 P' O' = (O ++ l2.flatMap cM, P) → OKr byt n T mt Q 0 p O' P' op) → OKr byt n T mt Q 1 a O P op
theorem okJ {l m : List It} {J : It} (h1 : ∀ i ∈ l, okI i) (h2 : ∀ i ∈ m, okI i) (h3 : okI J) : ∀ i ∈ l ++ m ++ [J], okI i := by
  intro i hi
  rcases List.mem_append.mp hi with z | z
  · rcases List.mem_append.mp z with z | z
    · exact h1 i z
    · exact h2 i z
  · rw [List.mem_singleton.mp z]; exact h3
theorem evJ {f : Nat → Int32} {l m : List It} {J : It} {b c d : Bool} {s : List Bool} (h1 : evs f l s = some (b :: s)) (h2 : evs f m (b :: s) = some (c :: b :: s)) (h3 : ev1 f J (c :: b :: s) = some (d :: s)) : evs f (l ++ m ++ [J]) s = some (d :: s) := by
  rw [evs_app, evs_app, h1, Option.bind_some, h2, Option.bind_some, evs, h3, Option.bind_some, evs]
theorem join_loop (h : CU byt n T sts tks) (H : JH byt n T mt nm1 nm2 bad1 bad2 ex1 ex2 S w op J R Lp) {a cnt : Nat} (hcnt : cnt ≤ a) (fault : Int32) (codes : Nat → Int32) : ∀ m p l1 l2 codes' i fu, T - p ≤ m → m < fu → i < p → JV byt n T mt nm2 bad2 a op cnt codes p l1 l2 codes' → ex1 (coN byt n p) → CT2 byt n T mt nm2 bad2 ex2 (Lp fu (nI i) (nI p) (nI (cnt + (l1.flatMap cC).length)) fault codes') a op cnt fault codes := by
  obtain ⟨hn, hT, hlt, -⟩ := id h
  obtain ⟨Hhbad, HhS, Hhbase, Hhjoin, Hhstep, Hhexit, Hhw, HhC, HhM, HhJ, Hhev, HhR, HhL⟩ := id H
  intro m
  induction m with
  | zero =>
    intro p l1 l2 codes' i fu h1 h2 hi ⟨⟨j1, j2, j3, j4⟩, jA, jI, jQ⟩ hex
    obtain ⟨f, rfl⟩ : ∃ f, fu = f + 1 := ⟨fu - 1, by omega⟩
    have eT : p = T := by omega
    have hne : ¬ coN byt n p = w := by rw [eT, CU_end h]; exact fun z => Hhw z.symm
    rw [HhL f i p _ fault codes' (by omega) j2, if_neg hne]
    exact Or.inl ⟨p, l1, l2, codes', rfl, ⟨j1, j2, j3, j4, Hhexit _ hne hex⟩, jA, jI, jQ⟩
  | succ m ih =>
    intro p l1 l2 codes' i fu h1 h2 hi ⟨⟨j1, j2, j3, j4⟩, jA, jI, jQ⟩ hex
    obtain ⟨f, rfl⟩ : ∃ f, fu = f + 1 := ⟨fu - 1, by omega⟩
    rw [HhL f i p _ fault codes' (by omega) j2]
    by_cases q : coN byt n p = w
    · have pT : p < T := CU_in h j2 (by rw [q]; exact Hhw)
      rw [if_pos q]
      rcases HhR (p + 1) (cnt + (l1.flatMap cC).length) fault codes' (by omega) (by omega) with ⟨p', m1, m2, codes2, eR, ⟨k1, k2, k3, k4, k5⟩, kA, kI, kQ⟩ | ⟨e, d1, d2, d3, he, eR, hF⟩
      · rw [eR, bn5E, if_neg e10, emit_s (by omega), bn2E]
        have hC : (l1 ++ m1 ++ [J]).flatMap cC = l1.flatMap cC ++ m1.flatMap cC ++ [w] := by
          rw [List.flatMap_append, List.flatMap_append, List.flatMap_cons, List.flatMap_nil, List.append_nil, HhC]
        have hM : (l2 ++ m2 ++ [J]).flatMap cM = l2.flatMap cM ++ m2.flatMap cM ++ [S] := by
          rw [List.flatMap_append, List.flatMap_append, List.flatMap_cons, List.flatMap_nil, List.append_nil, HhM]
        have lC : ((l1 ++ m1 ++ [J]).flatMap cC).length = (l1.flatMap cC).length + (m1.flatMap cC).length + 1 := by
          rw [hC, len1, List.length_append]
        have lM : ((l2 ++ m2 ++ [J]).flatMap cM).length = (l2.flatMap cM).length + (m2.flatMap cM).length + 1 := by
          rw [hM, len1, List.length_append]
        have hA2 := AdC_app (AdC_app jA kA) (AdC_one codes2 (cnt + (l1.flatMap cC ++ m1.flatMap cC).length) w)
        rw [← hC, List.length_append, ← Nat.add_assoc] at hA2
        have key := ih p' (l1 ++ m1 ++ [J]) (l2 ++ m2 ++ [J]) (upd codes2 (cnt + (l1.flatMap cC).length + (m1.flatMap cC).length) (nI w)) (i + 1) f (by omega) (by omega) (by omega) ⟨⟨by omega, k2, by omega, by omega⟩, hA2, ⟨okJ jI.1 kI.1 HhJ, okJ jI.2.1 kI.2.1 HhJ, fun z => absurd (List.append_eq_nil_iff.mp z).2 (List.cons_ne_nil _ _), fun z => absurd (List.append_eq_nil_iff.mp z).2 (List.cons_ne_nil _ _), fun fa => ?_⟩, fun Q O P hP hq => ?_⟩ k5
        · rw [lC, ← Nat.add_assoc, ← Nat.add_assoc] at key
          exact key
        · obtain ⟨b, hb1⟩ := jI.2.2.2.2 fa
          obtain ⟨c, hb2⟩ := kI.2.2.2.2 fa
          obtain ⟨d, hd⟩ := Hhev fa b c
          exact ⟨d, fun s => ⟨evJ (hb1 s).1 (hb2 _).1 (hd s), evJ (hb1 s).2 (hb2 _).2 (hd s)⟩⟩
        · refine jQ Q O P hP (fun O' P' hst => Hhstep Q p O' P' _ P pT q hst (kQ Q _ _ (fun y hy => ?_) (fun O2 P2 hst2 => hq O2 P2 ?_)))
          · rw [← Option.some.inj hy]; exact HhS
          · rw [Hhjoin P P2 O2 _ hP hst2, hM, List.append_assoc, List.append_assoc, List.append_assoc]
      · rw [eR, bn5E, if_pos rfl]
        refine Or.inr ⟨e, d1, d2, d3, he, rfl, fun Q O P hP hF2 => jQ Q O P hP (fun O' P' hst => Hhstep Q p O' P' _ P pT q hst (hF Q _ _ (fun y hy => ?_) hF2))⟩
        rw [← Option.some.inj hy]; exact HhS
    · rw [if_neg q]
      exact Or.inl ⟨p, l1, l2, codes', rfl, ⟨j1, j2, j3, j4, Hhexit _ q hex⟩, jA, jI, jQ⟩
theorem join_s (h : CU byt n T sts tks) (H : JH byt n T mt nm1 nm2 bad1 bad2 ex1 ex2 S w op J R Lp) {a cnt : Nat} (ha : a ≤ T) (hcnt : cnt ≤ a) (fault : Int32) (codes : Nat → Int32) : CT2 byt n T mt nm2 bad2 ex2 (bn5 (R (nI a) (nI cnt) fault codes) (fun v1 c2 c3 c4 c5 => if v1 = 0 then some (0, c2, c3, c4, c5) else Lp FU 0 c2 c3 c4 c5)) a op cnt fault codes := by
  obtain ⟨hn, hT, hlt, -⟩ := id h
  obtain ⟨Hhbad, HhS, Hhbase, Hhjoin, Hhstep, Hhexit, Hhw, HhC, HhM, HhJ, Hhev, HhR, HhL⟩ := id H
  rcases HhR a cnt fault codes ha hcnt with ⟨p', m1, m2, codes2, eR, ⟨k1, k2, k3, k4, k5⟩, kA, kI, kQ⟩ | ⟨e, d1, d2, d3, he, eR, hF⟩
  · rw [eR, bn5E, if_neg e10]
    exact join_loop h H hcnt fault codes T p' m1 m2 codes2 0 FU (by omega) (FU_lt (by omega)) (by omega) ⟨⟨k1, k2, k3, k4⟩, kA, kI, fun Q O P hP hq => kQ Q O P (fun y hy z => hP y hy (Hhbad y z)) (fun O' P' hst => hq O' P' (Hhbase P P' O' _ hP hst))⟩ k5
  · rw [eR, bn5E, if_pos rfl]
    exact Or.inr ⟨e, d1, d2, d3, he, rfl, fun Q O P hP hF2 => hF Q O P (fun y hy z => hP y hy (Hhbad y z)) hF2⟩
theorem stlN_hd {x : Nat} {P O : List Nat} (h : ∀ y, P.head? = some y → ¬ y = x) : stlN x P O = (O, P) := by
  have := stlN_rep 0 P O h
  rw [List.replicate_zero, List.nil_append, List.append_nil] at this
  exact this
theorem all_s (h : CU byt n T sts tks) (hb : ∀ i, i < n → mt i = nI (byt i) ∧ byt i < 256) {rc : Int32 → Int32 → Int32 → Int32 → Int32 → (Nat → Int32) → (Nat → Int32) → (Nat → Int32) → Int32 → PR} {a cnt op : Nat} (hop : op ≤ 3) (hrc : op < 3 → RCk byt n T mt sts tks rc (op + 1)) (ha : a ≤ T) (hcnt : cnt ≤ a) (fault : Int32) (codes : Nat → Int32) : CT2 byt n T mt (fun P O => stlN 40000 P O) bdA exA (f4_readAll rc (nI a) (nI (T + 1)) (nI cnt) fault (nI n) codes sts tks (nI op)) a op cnt fault codes := by
  have H : JH byt n T mt idL (fun P O => stlN 40000 P O) bdO bdA exO exA 40000 2004 op (4, 0, 0) (fun p c fa co => f4_readOne rc p (nI (T + 1)) c fa (nI n) co sts tks (nI op)) (fun fu x6 c7 c8 c9 c10 => f4_readAll_L12 rc (nI (T + 1)) (nI n) sts tks (nI op) fu x6 c7 c8 c9 c10 (fun x6 c7 c8 c9 c10 => some (1, c7, c8, c9, c10))) := by
    refine ⟨fun y z => Or.inl z, fun z => absurd (show (40000 : Nat) = 40002 from z) (by decide), fun P P' O' X hP hst => ?_, fun P P' O' X hP hst => ?_, fun Q p O' P' X P hp hc hst hq => ?_, fun c h1 h2 => h1, by decide, rfl, rfl, ⟨by decide, by decide, by decide⟩, fun f a b => ⟨a && b, fun s => rfl⟩, fun p c fa co hp hc => one_s h hb hop hrc hp hc fa co, fun fu i p c fa co hi hp => ?_⟩
    · have e1 : O' = X := congrArg Prod.fst hst
      have e2 : P' = P := congrArg Prod.snd hst
      rw [e1, e2]
      exact stlN_hd (fun y hy z => hP y hy (Or.inr z))
    · have e1 : O' = X := congrArg Prod.fst hst
      have e2 : P' = 40000 :: P := congrArg Prod.snd hst
      rw [e1, e2]
      show stlN 40000 (40000 :: P) X = _
      rw [stlN_yes]
      exact stlN_hd (fun y hy z => hP y hy (Or.inr z))
    · have hst' : stlN 40000 P' O' = (X, P) := hst
      refine sq_and h.1 hb hp h.2.1 hc ?_
      rw [hst']
      exact hq
    · have e2 : (nI (coN byt n p) = 2004) = (coN byt n p = 2004) := coEq h p (m := 2004) (by omega)
      dsimp only
      rw [f4_readAll_L12, if_neg (nge n200 hi (by omega)), here_s h hp, Option.bind_some, nI_1, nI_1]
      by_cases q : coN byt n p = 2004
      · rw [if_pos (by rw [e2]; exact q), if_pos q]
        rfl
      · rw [if_neg (by rw [e2]; exact q), if_neg q]
  exact join_s h H ha hcnt fault codes
theorem cond_s (h : CU byt n T sts tks) (hb : ∀ i, i < n → mt i = nI (byt i) ∧ byt i < 256) {rc : Int32 → Int32 → Int32 → Int32 → Int32 → (Nat → Int32) → (Nat → Int32) → (Nat → Int32) → Int32 → PR} {a cnt op : Nat} (hop : op ≤ 3) (hrc : op < 3 → RCk byt n T mt sts tks rc (op + 1)) (ha : a ≤ T) (hcnt : cnt ≤ a) (fault : Int32) (codes : Nat → Int32) : CT2 byt n T mt stl2 bdC exC (f4_readCond_ rc (nI a) (nI (T + 1)) (nI cnt) fault (nI n) codes sts tks (nI op)) a op cnt fault codes := by
  have H : JH byt n T mt (fun P O => stlN 40000 P O) stl2 bdA bdC exA exC 40001 2005 op (5, 0, 0) (fun p c fa co => f4_readAll rc p (nI (T + 1)) c fa (nI n) co sts tks (nI op)) (fun fu x6 c7 c8 c9 c10 => f4_readCond_L12 rc (nI (T + 1)) (nI n) sts tks (nI op) fu x6 c7 c8 c9 c10 (fun x6 c7 c8 c9 c10 => some (1, c7, c8, c9, c10))) := by
    refine ⟨fun y z => z.elim Or.inl (fun z => Or.inr (Or.inl z)), fun z => by rcases z with z | z <;> exact absurd z (by decide), fun P P' O' X hP hst => ?_, fun P P' O' X hP hst => ?_, fun Q p O' P' X P hp hc hst hq => ?_, fun c h1 h2 => ⟨h2, h1⟩, by decide, rfl, rfl, ⟨by decide, by decide, by decide⟩, fun f a b => ⟨a || b, fun s => rfl⟩, fun p c fa co hp hc => all_s h hb hop hrc hp hc fa co, fun fu i p c fa co hi hp => ?_⟩
    · have hst' : stlN 40000 P' O' = (X, P) := hst
      unfold stl2
      rw [hst']
      exact stlN_hd (fun y hy z => hP y hy (Or.inr (Or.inr z)))
    · have hst' : stlN 40000 P' O' = (X, 40001 :: P) := hst
      unfold stl2
      rw [hst']
      show stlN 40001 (40001 :: P) X = _
      rw [stlN_yes]
      exact stlN_hd (fun y hy z => hP y hy (Or.inr (Or.inr z)))
    · have hst' : stlN 40001 (stlN 40000 P' O').2 (stlN 40000 P' O').1 = (X, P) := hst
      refine sq_or h.1 hb hp h.2.1 hc ?_
      rw [hst']
      exact hq
    · have e2 : (nI (coN byt n p) = 2005) = (coN byt n p = 2005) := coEq h p (m := 2005) (by omega)
      dsimp only
      rw [f4_readCond_L12, if_neg (nge n200 hi (by omega)), here_s h hp, Option.bind_some, nI_1, nI_1]
      by_cases q : coN byt n p = 2005
      · rw [if_pos (by rw [e2]; exact q), if_pos q]
        rfl
      · rw [if_neg (by rw [e2]; exact q), if_neg q]
  exact join_s h H ha hcnt fault codes
theorem rck_s (h : CU byt n T sts tks) (hb : ∀ i, i < n → mt i = nI (byt i) ∧ byt i < 256) : ∀ m op, op ≤ 3 → 3 - op < m → RCk byt n T mt sts tks (f4_readCond m) op := by
  intro m
  induction m with
  | zero => intro op h1 h2; exact absurd h2 (by omega)
  | succ m ih =>
    intro op h1 h2 a cnt fault codes ha hcnt
    rw [f4_readCond]
    exact cond_s h hb h1 (fun q => ih (op + 1) (by omega) (by omega)) ha hcnt fault codes
end JO
