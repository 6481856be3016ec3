/-! ===== pure part: numbers, loops ===== -/
theorem n0 : (0 : Int32) = nI 0 := rfl
theorem n1 : (1 : Int32) = nI 1 := rfl
theorem n2 : (2 : Int32) = nI 2 := rfl
theorem n3 : (3 : Int32) = nI 3 := rfl
theorem n4 : (4 : Int32) = nI 4 := rfl
theorem n5 : (5 : Int32) = nI 5 := rfl
theorem n6 : (6 : Int32) = nI 6 := rfl
theorem n7 : (7 : Int32) = nI 7 := rfl
theorem n8 : (8 : Int32) = nI 8 := rfl
theorem n9 : (9 : Int32) = nI 9 := rfl
theorem n10 : (10 : Int32) = nI 10 := rfl
theorem n11 : (11 : Int32) = nI 11 := rfl
theorem n13 : (13 : Int32) = nI 13 := rfl
theorem n24 : (24 : Int32) = nI 24 := rfl
theorem n30 : (30 : Int32) = nI 30 := rfl
theorem n36 : (36 : Int32) = nI 36 := rfl
theorem n40 : (40 : Int32) = nI 40 := rfl
theorem n99 : (99 : Int32) = nI 99 := rfl
theorem n200 : (200 : Int32) = nI 200 := rfl
theorem n512 : (512 : Int32) = nI 512 := rfl
theorem ixn {k n : Nat} (h : k < n) (hn : n < 2 ^ 31) : ix (nI k) n = true := by
  unfold ix
  rw [nI_toInt (by omega)]
  exact decide_eq_true ⟨by omega, by omega⟩
theorem ix_of {x : Int32} {n : Nat} (hn : n < 2 ^ 31) (h : ix x n = true) : ∃ k, k < n ∧ x = nI k := vp_in_of (ix_in h) hn
theorem nI_inj {a b : Nat} (ha : a < 2 ^ 31) (hb : b < 2 ^ 31) (h : nI a = nI b) : a = b := (nI_eq ha hb).mp h
/-- any int is below 0, or a number -/
theorem nI_cases (x : Int32) : x < 0 ∨ ∃ k : Nat, k < 2 ^ 31 ∧ x = nI k := by
  by_cases h : x < 0
  · exact Or.inl h
  · exact Or.inr (nI_of h)
/-- in a range 0 .. n-1, or not -/
theorem in_cases (x : Int32) (n : Nat) (hn : n < 2 ^ 31) : (∃ k, k < n ∧ x = nI k) ∨ x < 0 ∨ (¬ x < 0 ∧ nI n ≤ x) := by
  rcases nI_cases x with h | ⟨k, hk, rfl⟩
  · exact Or.inr (Or.inl h)
  · by_cases h : k < n
    · exact Or.inl ⟨k, h, rfl⟩
    · exact Or.inr (Or.inr ⟨nI_pos hk, nI_le (by omega) hk⟩)
theorem not_neg {k : Nat} (hk : k < 2 ^ 31) : ¬ nI k < 0 := nI_pos hk
/-- a counting loop: F fuel index state; acc: the state ahead of each index -/
theorem lup {S R : Type} (F : Nat → Nat → S → Option R) (n : Nat) (acc : Nat → S) (hs : ∀ fu i, i < n → F (fu + 1) i (acc i) = F fu (i + 1) (acc (i + 1))) : ∀ c i fu, i + c = n → c < fu → F fu i (acc i) = F (fu - c) n (acc n) := by
  intro c
  induction c with
  | zero => intro i fu h1 h2; have e : i = n := by omega
            subst e; rfl
  | succ c ih =>
    intro i fu h1 h2
    obtain ⟨f, rfl⟩ : ∃ f, fu = f + 1 := ⟨fu - 1, by omega⟩
    rw [hs f i (by omega), ih (i + 1) f (by omega) (by omega)]
    have e : f + 1 - (c + 1) = f - c := by omega
    rw [e]
/-- the same, with its end -/
theorem lupE {S R : Type} (F : Nat → Nat → S → Option R) (n : Nat) (acc : Nat → S) {o : Option R} (hs : ∀ fu i, i < n → F (fu + 1) i (acc i) = F fu (i + 1) (acc (i + 1))) (hx : ∀ fu, F (fu + 1) n (acc n) = o) {i fu : Nat} (hi : i ≤ n) (hf : n - i < fu) : F fu i (acc i) = o := by
  rw [lup F n acc hs (n - i) i fu (by omega) hf]
  obtain ⟨f, hf2⟩ : ∃ f, fu - (n - i) = f + 1 := ⟨fu - (n - i) - 1, by omega⟩
  rw [hf2]
  exact hx f
/-- some index below n has p -/
def exN (p : Nat → Prop) [DecidablePred p] : Nat → Bool
  | 0 => false
  | n + 1 => exN p n || decide (p n)
theorem exN_iff (p : Nat → Prop) [DecidablePred p] : ∀ n, exN p n = true ↔ ∃ i, i < n ∧ p i
  | 0 => ⟨fun h => (by cases h), fun ⟨_, h, _⟩ => absurd h (by omega)⟩
  | n + 1 => by
    unfold exN
    rw [Bool.or_eq_true, exN_iff p n, decide_eq_true_iff]
    constructor
    · rintro (⟨i, h1, h2⟩ | h)
      · exact ⟨i, by omega, h2⟩
      · exact ⟨n, by omega, h⟩
    · rintro ⟨i, h1, h2⟩
      by_cases e : i = n
      · subst e; exact Or.inr h2
      · exact Or.inl ⟨i, by omega, h2⟩
theorem exN_congr (p q : Nat → Prop) [DecidablePred p] [DecidablePred q] (n : Nat) (h : ∀ i, i < n → (p i ↔ q i)) : exN p n = exN q n := by
  rw [Bool.eq_iff_iff, exN_iff, exN_iff]
  exact ⟨fun ⟨i, a, b⟩ => ⟨i, a, (h i a).mp b⟩, fun ⟨i, a, b⟩ => ⟨i, a, (h i a).mpr b⟩⟩
def b01 (b : Bool) : Int32 := bif b then 1 else 0
theorem b01_bz (b : Bool) : bz (b01 b) = true := by cases b <;> rfl
/-- a search: it stops at the first index with p, or goes on to the end -/
theorem lupS {R : Type} (F : Nat → Nat → Option R) (n : Nat) (p : Nat → Prop) [DecidablePred p] {o1 o2 : Option R} (h1 : ∀ fu i, i < n → p i → F (fu + 1) i = o1) (h2 : ∀ fu i, i < n → ¬ p i → F (fu + 1) i = F fu (i + 1)) (hx : ∀ fu, F (fu + 1) n = o2) {fu : Nat} (hf : n < fu) : F fu 0 = bif exN p n then o1 else o2 := by
  have key : ∀ c i fu, i + c = n → c < fu → (∃ j, j < n ∧ i ≤ j ∧ p j) ∧ F fu i = o1 ∨ (¬ ∃ j, j < n ∧ i ≤ j ∧ p j) ∧ F fu i = o2 := by
    intro c
    induction c with
    | zero =>
      intro i fu hi hf
      obtain ⟨f, rfl⟩ : ∃ f, fu = f + 1 := ⟨fu - 1, by omega⟩
      have e : i = n := by omega
      subst e
      refine Or.inr ⟨?_, hx f⟩
      rintro ⟨j, h1, h2, -⟩
      omega
    | succ c ih =>
      intro i fu hi hf
      obtain ⟨f, rfl⟩ : ∃ f, fu = f + 1 := ⟨fu - 1, by omega⟩
      by_cases hp : p i
      · exact Or.inl ⟨⟨i, by omega, Nat.le_refl _, hp⟩, h1 f i (by omega) hp⟩
      · rw [h2 f i (by omega) hp]
        rcases ih (i + 1) f (by omega) (by omega) with ⟨⟨j, a, b, c⟩, e⟩ | ⟨hn, e⟩
        · exact Or.inl ⟨⟨j, a, by omega, c⟩, e⟩
        · refine Or.inr ⟨?_, e⟩
          rintro ⟨j, a, b, c⟩
          refine hn ⟨j, a, ?_, c⟩
          rcases Nat.lt_or_ge i j with h | h
          · exact h
          · have e : j = i := by omega
            subst e; exact absurd c hp
  rcases key n 0 fu (by omega) hf with ⟨⟨j, a, -, c⟩, e⟩ | ⟨hn, e⟩
  · rw [e, (exN_iff p n).mpr ⟨j, a, c⟩]; rfl
  · rw [e]
    cases hb : exN p n with
    | false => rfl
    | true =>
      obtain ⟨j, a, c⟩ := (exN_iff p n).mp hb
      exact absurd ⟨j, a, Nat.zero_le _, c⟩ hn
/-- the forms that loops from 0 take -/
theorem lup0 {S R : Type} (G : Nat → Int32 → S → Option R) (n : Nat) (acc : Nat → S) {o : Option R} (hs : ∀ fu i, i < n → G (fu + 1) (nI i) (acc i) = G fu (nI (i + 1)) (acc (i + 1))) (hx : ∀ fu, G (fu + 1) (nI n) (acc n) = o) {fu : Nat} {s0 : S} (h0 : acc 0 = s0) (hf : n < fu) : G fu 0 s0 = o := by
  rw [n0, ← h0]
  exact lupE (fun fu i s => G fu (nI i) s) n acc hs hx (Nat.zero_le _) (by omega)
theorem lupS0 {R : Type} (G : Nat → Int32 → Option R) (n : Nat) (p : Nat → Prop) [DecidablePred p] {o1 o2 : Option R} (h1 : ∀ fu i, i < n → p i → G (fu + 1) (nI i) = o1) (h2 : ∀ fu i, i < n → ¬ p i → G (fu + 1) (nI i) = G fu (nI (i + 1))) (hx : ∀ fu, G (fu + 1) (nI n) = o2) {fu : Nat} (hf : n < fu) : G fu 0 = bif exN p n then o1 else o2 := by
  rw [n0]
  exact lupS (fun fu i => G fu (nI i)) n p h1 h2 hx hf
/-- how many of the first n have p, as an int -/
def cnt (p : Nat → Prop) [DecidablePred p] : Nat → Int32
  | 0 => 0
  | n + 1 => if p n then cnt p n + 1 else cnt p n
def cntN (p : Nat → Prop) [DecidablePred p] : Nat → Nat
  | 0 => 0
  | n + 1 => if p n then cntN p n + 1 else cntN p n
theorem cnt_nI (p : Nat → Prop) [DecidablePred p] : ∀ n, cnt p n = nI (cntN p n)
  | 0 => rfl
  | n + 1 => by
    unfold cnt cntN
    rw [cnt_nI p n]
    split
    · exact nI_1 _
    · rfl
theorem cntN_le (p : Nat → Prop) [DecidablePred p] : ∀ n, cntN p n ≤ n
  | 0 => Nat.le_refl _
  | n + 1 => by
    unfold cntN
    have := cntN_le p n
    split <;> omega
theorem cnt_congr (p q : Nat → Prop) [DecidablePred p] [DecidablePred q] : ∀ n, (∀ i, i < n → (p i ↔ q i)) → cnt p n = cnt q n
  | 0, _ => rfl
  | n + 1, h => by
    unfold cnt
    rw [cnt_congr p q n (fun i hi => h i (by omega))]
    by_cases hp : p n
    · rw [if_pos hp, if_pos ((h n (by omega)).mp hp)]
    · rw [if_neg hp, if_neg (fun hq => hp ((h n (by omega)).mpr hq))]
/-- a sum of ints -/
def smI (f : Nat → Int32) : Nat → Int32
  | 0 => 0
  | n + 1 => smI f n + f n
theorem smI_congr (f g : Nat → Int32) : ∀ n, (∀ i, i < n → f i = g i) → smI f n = smI g n
  | 0, _ => rfl
  | n + 1, h => by unfold smI; rw [smI_congr f g n (fun i hi => h i (by omega)), h n (by omega)]
def b2 (p : Prop) [Decidable p] : Int32 := if p then 1 else 0
theorem b2_t {p : Prop} [Decidable p] (h : p) : b2 p = 1 := if_pos h
theorem b2_f {p : Prop} [Decidable p] (h : ¬ p) : b2 p = 0 := if_neg h
theorem b2_0 {p : Prop} [Decidable p] : b2 p = 0 ↔ ¬ p := by unfold b2; split <;> simp_all
theorem b2_bz {p : Prop} [Decidable p] : bz (b2 p) = true := by unfold b2; split <;> decide
theorem FU_lt {n : Nat} (h : n < 2000) : n < FU := h
theorem upd_s {f : Nat → Int32} {k : Nat} {x : Int32} : upd f k x k = x := if_pos rfl
theorem upd_n {f : Nat → Int32} {k j : Nat} {x : Int32} (h : j ≠ k) : upd f k x j = f j := if_neg h
