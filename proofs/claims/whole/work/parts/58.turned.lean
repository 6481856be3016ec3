/-! ===== loops from an index on ===== -/
theorem lupA {S R : Type} (G : Nat → Int32 → S → Option R) (n i0 : Nat) (acc : Nat → S) {o : Option R} (hs : ∀ fu i, i0 ≤ i → i < n → G (fu + 1) (nI i) (acc i) = G fu (nI (i + 1)) (acc (i + 1))) (hx : ∀ fu, G (fu + 1) (nI n) (acc n) = o) {fu : Nat} {s0 : S} (h0 : acc i0 = s0) (hi : i0 ≤ n) (hf : n < fu) : G fu (nI i0) s0 = o := by
  have key : ∀ c i fu, i0 ≤ i → i + c = n → c < fu → G fu (nI i) (acc i) = o := by
    intro c
    induction c with
    | zero =>
      intro i fu h1 h2 h3
      obtain ⟨f, rfl⟩ : ∃ f, fu = f + 1 := ⟨fu - 1, by omega⟩
      have e : i = n := by omega
      subst e; exact hx f
    | succ c ih =>
      intro i fu h1 h2 h3
      obtain ⟨f, rfl⟩ : ∃ f, fu = f + 1 := ⟨fu - 1, by omega⟩
      rw [hs f i h1 (by omega)]
      exact ih (i + 1) f (by omega) (by omega) (by omega)
  rw [← h0]
  exact key (n - i0) i0 fu (Nat.le_refl _) (by omega) (by omega)
/-- a loop with an invariant -/
theorem lupR {S R : Type} (G : Nat → Int32 → S → Option R) (n i0 : Nat) (I : Nat → S → Prop) (Q : Option R → Prop) (hs : ∀ fu i s, i0 ≤ i → i < n → I i s → (∀ s', I (i + 1) s' → Q (G fu (nI (i + 1)) s')) → Q (G (fu + 1) (nI i) s)) (hx : ∀ fu s, I n s → Q (G (fu + 1) (nI n) s)) {fu : Nat} {s0 : S} (h0 : I i0 s0) (hi : i0 ≤ n) (hf : n < fu) : Q (G fu (nI i0) s0) := by
  have key : ∀ c i fu s, i0 ≤ i → i + c = n → c < fu → I i s → Q (G fu (nI i) s) := by
    intro c
    induction c with
    | zero =>
      intro i fu s h1 h2 h3 h4
      obtain ⟨f, rfl⟩ : ∃ f, fu = f + 1 := ⟨fu - 1, by omega⟩
      have e : i = n := by omega
      subst e; exact hx f s h4
    | succ c ih =>
      intro i fu s h1 h2 h3 h4
      obtain ⟨f, rfl⟩ : ∃ f, fu = f + 1 := ⟨fu - 1, by omega⟩
      exact hs f i s h1 (by omega) h4 (fun s' h5 => ih (i + 1) f s' (by omega) (by omega) (by omega) h5)
  exact key (n - i0) i0 fu s0 (Nat.le_refl _) (by omega) (by omega) h0
theorem cnt_zero (p : Nat → Prop) [DecidablePred p] : ∀ n, (∀ i, i < n → ¬ p i) → cnt p n = 0
  | 0, _ => rfl
  | n + 1, h => by
    rw [cnt, if_neg (h n (by omega)), cnt_zero p n (fun i hi => h i (by omega))]
theorem smI_zero (f : Nat → Int32) : ∀ n, (∀ i, i < n → f i = 0) → smI f n = 0
  | 0, _ => rfl
  | n + 1, h => by
    rw [smI, h n (by omega), smI_zero f n (fun i hi => h i (by omega)), Int32.add_zero]
/-! ===== turned ===== -/
section TU
variable {P C : Nat} {siz law hom hub one fac sea fou byc msiz mtow mhub mone mcla mlaw : Nat → Int32}
/-- one is in front in a, behind in b, or the other way -/
def trn (P : Nat) (one sea : Nat → Int32) (x : Int32) (a b : Nat) : Prop := (oneV P one sea a 0 = x ∧ oneV P one sea b 1 = x) ∨ (oneV P one sea b 0 = x ∧ oneV P one sea a 1 = x)
def trT (P C : Nat) (one sea : Nat → Int32) (x : Int32) (a : Nat) : Int32 := cnt (fun b => a < b ∧ ((oneV P one sea a 0 = x ∧ oneV P one sea b 1 = x) ∨ (oneV P one sea b 0 = x ∧ oneV P one sea a 1 = x))) C
theorem f8_turned_s (B : RBx P C siz law hom hub one fac sea fou byc msiz mtow mhub mone mcla mlaw) {p q : Nat} (hp : p < P) (hq : one p = nI q) : f8_turned (nI C) (nI P) one sea (nI p) = some (smI (trT P C one sea (nI q)) C) := by
  have hP := B.1
  have hC := B.2.1
  unfold f8_turned
  rw [f0_isPerson_s (by omega), Option.bind_some, gI, if_pos (inN_nI hp (by omega)), gdi (by omega) (by omega)]
  simp only [jnE]
  refine lup0 (fun fu i (s : Int32) => f8_turned_L28 (nI C) (nI P) one sea (nI p) fu s i _) C (fun i => smI (trT P C one sea (nI q)) i) (fun fu i hi => ?_) (fun fu => ?_) rfl (FU_lt (by omega))
  · simp only [f8_turned_L28, jnE]
    rw [if_neg (nI_ge hi (by omega)), nI_1]
    refine lupA (fun fu j (s : Int32) => f8_turned_L46 (nI C) (nI P) one sea (nI p) (nI i) fu s j _) C (i + 1) (fun j => smI (trT P C one sea (nI q)) i + cnt (fun b => i < b ∧ ((oneV P one sea i 0 = nI q ∧ oneV P one sea b 1 = nI q) ∨ (oneV P one sea b 0 = nI q ∧ oneV P one sea i 1 = nI q))) j) (fun fu j hij hj => ?_) (fun fu => ?_) (by rw [cnt_zero _ _ (fun b hb => by omega), Int32.add_zero]) (by omega) (FU_lt (by omega))
    · have w0 : f0_oneAt (nI C) (nI P) one sea (nI i) 0 = some (oneV P one sea i 0) := f0_oneAt_s hC hP hi (k := 0) (by omega)
      have w1 : f0_oneAt (nI C) (nI P) one sea (nI i) 1 = some (oneV P one sea i 1) := f0_oneAt_s hC hP hi (k := 1) (by omega)
      have v0 : f0_oneAt (nI C) (nI P) one sea (nI j) 0 = some (oneV P one sea j 0) := f0_oneAt_s hC hP hj (k := 0) (by omega)
      have v1 : f0_oneAt (nI C) (nI P) one sea (nI j) 1 = some (oneV P one sea j 1) := f0_oneAt_s hC hP hj (k := 1) (by omega)
      have c1 : (nI p).toNatClampNeg = p := nI_clamp (by omega)
      have e1 : ¬ (1 : Int32) = 0 := by decide
      simp only [f8_turned_L46, jnE, w0, w1, v0, v1, c1, hq, Option.bind_some, nI_1, cnt]
      rw [if_neg (nI_ge hj (by omega))]
      have hij2 : i < j := by omega
      by_cases a0 : oneV P one sea i 0 = nI q <;> by_cases a1 : oneV P one sea i 1 = nI q <;> by_cases b0 : oneV P one sea j 0 = nI q <;> by_cases b1 : oneV P one sea j 1 = nI q <;> simp only [a0, a1, b0, b1, hij2, e1, if_true, if_false, and_true, and_false, true_and, false_and, or_true, or_false, true_or, false_or, Int32.add_assoc]
    · simp only [f8_turned_L46]
      rw [if_pos (nI_le (Nat.le_refl _) (by omega))]
      rfl
  · simp only [f8_turned_L28]
    rw [if_pos (nI_le (Nat.le_refl _) (by omega))]
theorem f9_turned_s (B : RBx P C siz law hom hub one fac sea fou byc msiz mtow mhub mone mcla mlaw) {p q : Nat} (hp : p < P) (hq : one p = nI q) (hq10 : q < 10) : f9_turned (nI C) (nI P) mcla mone (nI p) = some (smI (trT P C one sea (nI q)) C) := by
  have hP := B.1
  have hC := B.2.1
  have hmq : mone p = nI q := (B.2.2.2.2.2.2.2.1 p hp).1.trans hq
  unfold f9_turned
  rw [f9_isPerson_s (by omega), Option.bind_some, gI, if_pos (inN_nI hp (by omega))]
  simp only [jnE]
  refine lup0 (fun fu i (s : Int32) => f9_turned_L14 (nI C) mcla mone (nI p) fu s i _) C (fun i => smI (trT P C one sea (nI q)) i) (fun fu i hi => ?_) (fun fu => ?_) rfl (FU_lt (by omega))
  · simp only [f9_turned_L14, jnE]
    rw [if_neg (nI_ge hi (by omega)), nI_1]
    refine lupA (fun fu j (s : Int32) => f9_turned_L27 (nI C) mcla mone (nI p) (nI i) fu s j _) C (i + 1) (fun j => smI (trT P C one sea (nI q)) i + cnt (fun b => i < b ∧ ((oneV P one sea i 0 = nI q ∧ oneV P one sea b 1 = nI q) ∨ (oneV P one sea b 0 = nI q ∧ oneV P one sea i 1 = nI q))) j) (fun fu j hij hj => ?_) (fun fu => ?_) (by rw [cnt_zero _ _ (fun b hb => by omega), Int32.add_zero]) (by omega) (FU_lt (by omega))
    · have c1 : (nI p).toNatClampNeg = p := nI_clamp (by omega)
      simp only [f9_turned_L27, jnE, c1, hmq]
      rw [if_neg (nI_ge hj (by omega)), gdi (by omega) (by omega), f9_placesOf_s B hi hq10, Option.bind_some, gdi (by omega) (by omega), f9_placesOf_s B hj hq10, Option.bind_some, nI_1, cnt, bmB_4, bmB_4]
      have hij2 : i < j := by omega
      have m1 := bm4_f (decide (oneV P one sea i 0 = nI q)) (decide (oneV P one sea i 1 = nI q)) (decide (oneV P one sea i 2 = nI q)) (decide (oneV P one sea i 3 = nI q))
      have m2 := bm4_f (decide (oneV P one sea j 0 = nI q)) (decide (oneV P one sea j 1 = nI q)) (decide (oneV P one sea j 2 = nI q)) (decide (oneV P one sea j 3 = nI q))
      rw [decide_eq_true_iff, decide_eq_true_iff] at m1 m2
      simp only [m1.1, m1.2, m2.1, m2.2]
      by_cases a0 : oneV P one sea i 0 = nI q <;> by_cases a1 : oneV P one sea i 1 = nI q <;> by_cases b0 : oneV P one sea j 0 = nI q <;> by_cases b1 : oneV P one sea j 1 = nI q <;> simp only [a0, a1, b0, b1, hij2, if_true, if_false, and_true, and_false, true_and, false_and, or_true, or_false, true_or, false_or, Int32.add_assoc, Int32.add_zero]
    · simp only [f9_turned_L27]
      rw [if_pos (nI_le (Nat.le_refl _) (by omega))]
      rfl
  · simp only [f9_turned_L14]
    rw [if_pos (nI_le (Nat.le_refl _) (by omega))]
end TU
theorem op_turned : Op_turned Rl := by
  intro r g u h p1 hR
  have hR0 := hR
  obtain ⟨⟨P, C, e0, e30, e1, e31, ez, B⟩, hM, hRR, hK, hT, hW, hH, hS, hP⟩ := hR
  have hP10 := B.1
  rw [e0, e30, e1, e31]
  by_cases h1 : inN p1 P
  · obtain ⟨p, hp, rfl⟩ := inN_of (by omega) h1
    obtain ⟨-, q, hq, eq⟩ := B.2.2.2.2.2.2.2.1 p hp
    exact ⟨_, f8_turned_s B hp eq, f9_turned_s B hp eq (by omega), hR0⟩
  · refine ⟨-1, ?_, ?_, hR0⟩
    · unfold f8_turned
      rw [f0_isPerson_s (by omega), Option.bind_some, gI, if_neg h1]
    · unfold f9_turned
      rw [f9_isPerson_s (by omega), Option.bind_some, gI, if_neg h1]
