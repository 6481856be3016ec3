/-! ===== bytes and tokens ===== -/
def srN (b : Nat) : Nat := if 97 ≤ b ∧ b ≤ 122 then 1 else if 48 ≤ b ∧ b ≤ 57 then 2 else 3
def ruE (byt : Nat → Nat) (n s : Nat) : Nat → Nat → Nat
  | 0, q => q
  | f + 1, q => if q < n ∧ srN (byt q) = s then ruE byt n s f (q + 1) else q
def skE (byt : Nat → Nat) (n : Nat) : Nat → Nat → Nat
  | 0, q => q
  | f + 1, q => if q < n ∧ byt q = 32 then skE byt n f (q + 1) else q
/-- where a run of a sort ends -/
def ruN (byt : Nat → Nat) (n s q : Nat) : Nat := ruE byt n s (n - q) q
/-- where blanks end -/
def skN (byt : Nat → Nat) (n q : Nat) : Nat := skE byt n (n - q) q
theorem ruN_in {byt : Nat → Nat} {n s q : Nat} (h : q < n) (hs : srN (byt q) = s) : ruN byt n s q = ruN byt n s (q + 1) := by
  unfold ruN
  rw [show n - q = (n - (q + 1)) + 1 by omega, ruE, if_pos ⟨h, hs⟩]
theorem ruN_out {byt : Nat → Nat} {n s q : Nat} (h : ¬ (q < n ∧ srN (byt q) = s)) : ruN byt n s q = q := by
  unfold ruN
  cases n - q with
  | zero => rfl
  | succ f => rw [ruE, if_neg h]
theorem skN_in {byt : Nat → Nat} {n q : Nat} (h : q < n) (hs : byt q = 32) : skN byt n q = skN byt n (q + 1) := by
  unfold skN
  rw [show n - q = (n - (q + 1)) + 1 by omega, skE, if_pos ⟨h, hs⟩]
theorem skN_out {byt : Nat → Nat} {n q : Nat} (h : ¬ (q < n ∧ byt q = 32)) : skN byt n q = q := by
  unfold skN
  cases n - q with
  | zero => rfl
  | succ f => rw [skE, if_neg h]
theorem ruN_bd {byt : Nat → Nat} {n s : Nat} : ∀ c q, q + c = n → q ≤ ruN byt n s q ∧ ruN byt n s q ≤ n ∧ ∀ k, q ≤ k → k < ruN byt n s q → srN (byt k) = s := by
  intro c
  induction c with
  | zero =>
    intro q h
    rw [ruN_out (by omega)]
    exact ⟨Nat.le_refl _, by omega, fun k h1 h2 => absurd h2 (by omega)⟩
  | succ c ih =>
    intro q h
    by_cases hs : srN (byt q) = s
    · rw [ruN_in (by omega) hs]
      obtain ⟨a, b, d⟩ := ih (q + 1) (by omega)
      refine ⟨by omega, b, fun k h1 h2 => ?_⟩
      by_cases e : k = q
      · rw [e]; exact hs
      · exact d k (by omega) h2
    · rw [ruN_out (fun z => hs z.2)]
      exact ⟨Nat.le_refl _, by omega, fun k h1 h2 => absurd h2 (by omega)⟩
theorem skN_bd {byt : Nat → Nat} {n : Nat} : ∀ c q, q + c = n → q ≤ skN byt n q ∧ skN byt n q ≤ n ∧ (skN byt n q < n → ¬ byt (skN byt n q) = 32) := by
  intro c
  induction c with
  | zero =>
    intro q h
    rw [skN_out (by omega)]
    exact ⟨Nat.le_refl _, by omega, fun h2 => absurd h2 (by omega)⟩
  | succ c ih =>
    intro q h
    by_cases hs : byt q = 32
    · rw [skN_in (by omega) hs]
      obtain ⟨a, b, d⟩ := ih (q + 1) (by omega)
      exact ⟨by omega, b, d⟩
    · rw [skN_out (fun z => hs z.2)]
      exact ⟨Nat.le_refl _, by omega, fun _ => hs⟩
/-- the end of the token at p -/
def enN (byt : Nat → Nat) (n p : Nat) : Nat := if srN (byt p) = 3 then p + 1 else ruN byt n (srN (byt p)) (p + 1)
theorem enN_bd {byt : Nat → Nat} {n p : Nat} (h : p < n) : p < enN byt n p ∧ enN byt n p ≤ n ∧ (¬ srN (byt p) = 3 → ∀ k, p ≤ k → k < enN byt n p → srN (byt k) = srN (byt p)) := by
  unfold enN
  by_cases hs : srN (byt p) = 3
  · rw [if_pos hs]
    exact ⟨by omega, by omega, fun h => absurd hs h⟩
  · rw [if_neg hs]
    obtain ⟨a, b, d⟩ := ruN_bd (byt := byt) (n := n) (s := srN (byt p)) (n - (p + 1)) (p + 1) (by omega)
    refine ⟨by omega, b, fun _ k h1 h2 => ?_⟩
    by_cases e : k = p
    · rw [e]
    · exact d k (by omega) h2
/-- a row of letters as a number -/
def eFN (f : Nat → Nat) : Nat → Nat
  | 0 => 0
  | k + 1 => 27 * eFN f k + (f k - 96)
theorem eFN_eq {f g : Nat → Nat} : ∀ a b, (∀ k, k < a → 97 ≤ f k ∧ f k ≤ 122) → (∀ k, k < b → 97 ≤ g k ∧ g k ≤ 122) → (eFN f a = eFN g b ↔ a = b ∧ ∀ k, k < a → f k = g k)
  | 0, 0, _, _ => ⟨fun _ => ⟨rfl, fun k h => absurd h (by omega)⟩, fun _ => rfl⟩
  | 0, b + 1, _, hg => by
    have h := hg b (by omega)
    rw [eFN, eFN]
    exact ⟨fun q => absurd q (by omega), fun q => absurd q.1 (by omega)⟩
  | a + 1, 0, hf, _ => by
    have h := hf a (by omega)
    rw [eFN, eFN]
    exact ⟨fun q => absurd q (by omega), fun q => absurd q.1 (by omega)⟩
  | a + 1, b + 1, hf, hg => by
    have h1 := hf a (by omega)
    have h2 := hg b (by omega)
    have ih := eFN_eq a b (fun k hk => hf k (by omega)) (fun k hk => hg k (by omega))
    rw [eFN, eFN]
    constructor
    · intro q
      have e1 : eFN f a = eFN g b := by omega
      have e2 : f a = g b := by omega
      obtain ⟨e3, e4⟩ := ih.mp e1
      refine ⟨by omega, fun k hk => ?_⟩
      by_cases e : k = a
      · rw [e, e2, e3]
      · exact e4 k (by omega)
    · rintro ⟨e1, e2⟩
      have e3 : a = b := by omega
      rw [ih.mpr ⟨e3, fun k hk => e2 k (by omega)⟩, e2 a (by omega), e3]
/-- the code of a name -/
def nmC (E : Nat) : Nat := if E = 1253 then 2011 else if E = 11716 then 2010 else if E = 249 then 3000 else if E = 423 then 2005 else if E = 1111 then 2004 else if E = 10631 then 2003 else if E = 70241 then 1000 else if E = 2968 then 1001 else if E = 232546955 then 1002 else if E = 400375 then 1003 else if E = 12531637 then 1004 else if E = 223456 then 1005 else 3005
/-- a row of digits as a number -/
def dgN (f : Nat → Nat) : Nat → Nat
  | 0 => 0
  | k + 1 => 10 * dgN f k + (f k - 48)
def mkC (b : Nat) : Nat := if b = 40 then 3001 else if b = 41 then 3002 else if b = 59 then 3003 else if b = 60 then 2000 else if b = 61 then 2001 else if b = 62 then 2002 else 3005
/-- the code of the token from p to e -/
def tkC (byt : Nat → Nat) (p e : Nat) : Nat := if srN (byt p) = 1 then nmC (eFN (fun k => byt (p + k)) (e - p)) else if srN (byt p) = 2 then (if e - p ≤ 3 then dgN (fun k => byt (p + k)) (e - p) else 3005) else mkC (byt p)
/-- the names' bytes -/
def nbN (i k : Nat) : Nat := ((sByt.getD i []).getD k 0).toNatClampNeg
theorem nb_ok : ∀ i, i < 12 → ∀ k, k < sLen.getD i 0 → 97 ≤ nbN i k ∧ nbN i k ≤ 122 ∧ strCh i (nI k) = nI (nbN i k) := by decide +kernel
theorem nb_len : ∀ i, i < 12 → sLen.getD i 0 ≤ 6 := by decide +kernel
/-- the names' numbers -/
def nvN (i : Nat) : Nat := ([1253, 11716, 249, 423, 1111, 10631, 70241, 2968, 232546955, 400375, 12531637, 223456] : List Nat).getD i 0
theorem nv_ok : ∀ i, i < 12 → eFN (nbN i) (sLen.getD i 0) = nvN i := by decide +kernel
theorem b01_0' (b : Bool) : (b01 b = 0) = (b = false) := by cases b <;> simp [b01]
theorem dec_if {R : Type} (p : Prop) [Decidable p] (X Y : R) : (if b01 (decide p) = 0 then X else Y) = if p then Y else X := by
  by_cases h : p
  · rw [decide_eq_true h, if_neg (by decide), if_pos h]
  · rw [decide_eq_false h, if_pos (show b01 false = 0 from rfl), if_neg h]
section LX
variable {n : Nat} {tp : Nat → Int32} {byt : Nat → Nat}
theorem f4_byteAt_s (hn : n ≤ 200) (hb : ∀ i, i < n → tp i = nI (byt i) ∧ byt i < 256) {p : Nat} (hp : p < n) : f4_byteAt (nI n) tp (nI p) = some (nI (byt p)) := by
  unfold f4_byteAt
  rw [if_neg (nI_pos (by omega)), if_neg (nI_ge hp (by omega)), if_neg (nge n200 (show p < 200 by omega) (by omega)), gdi (by omega) (by omega), nI_clamp (by omega), (hb p hp).1]
theorem f4_sortAt_s (hn : n ≤ 200) (hb : ∀ i, i < n → tp i = nI (byt i) ∧ byt i < 256) {p : Nat} (hp : p < n) : f4_sortAt (nI n) tp (nI p) = some (nI (srN (byt p))) := by
  have h256 := (hb p hp).2
  unfold f4_sortAt srN
  rw [f4_byteAt_s hn hb hp, Option.bind_some]
  simp only [jnE]
  by_cases h1 : byt p < 97
  · rw [if_pos (show nI (byt p) < 97 from nI_lt (b := 97) h1 (by omega)), if_neg (show ¬ (97 ≤ byt p ∧ byt p ≤ 122) by omega)]
    by_cases h2 : byt p < 48
    · rw [if_pos (show nI (byt p) < 48 from nI_lt (b := 48) h2 (by omega)), if_neg (by omega)]; rfl
    · rw [if_neg (show ¬ nI (byt p) < 48 from nI_nlt (b := 48) (by omega) (by omega))]
      by_cases h3 : 57 < byt p
      · rw [if_pos (show (57 : Int32) < nI (byt p) from nI_lt (a := 57) h3 (by omega)), if_neg (by omega)]; rfl
      · rw [if_neg (show ¬ (57 : Int32) < nI (byt p) from nI_nlt (a := 57) (by omega) (by omega)), if_pos (by omega)]; rfl
  · rw [if_neg (show ¬ nI (byt p) < 97 from nI_nlt (b := 97) (by omega) (by omega))]
    by_cases h3 : 122 < byt p
    · rw [if_pos (show (122 : Int32) < nI (byt p) from nI_lt (a := 122) h3 (by omega)), if_neg (show ¬ nI (byt p) < 48 from nI_nlt (b := 48) (by omega) (by omega)), if_pos (show (57 : Int32) < nI (byt p) from nI_lt (a := 57) (by omega) (by omega)), if_neg (show ¬ (97 ≤ byt p ∧ byt p ≤ 122) by omega), if_neg (by omega)]; rfl
    · rw [if_neg (show ¬ (122 : Int32) < nI (byt p) from nI_nlt (a := 122) (by omega) (by omega)), if_pos (show 97 ≤ byt p ∧ byt p ≤ 122 by omega)]; rfl
theorem srN_lt (b : Nat) : srN b < 4 ∧ 0 < srN b := by unfold srN; split; omega; split <;> omega
theorem cut_in (hn : n ≤ 200) (hb : ∀ i, i < n → tp i = nI (byt i) ∧ byt i < 256) {s : Nat} (hs : s < 4) (K : Int32 → Option (Int32 × (Nat → Int32) × (Nat → Int32))) : ∀ c q fu, q + c = n → c < fu → f4_cut_L25 (nI n) tp (nI s) fu (nI q) K = K (nI (if s = 3 then q else ruN byt n s q)) := by
  intro c
  induction c with
  | zero =>
    intro q fu h1 h2
    obtain ⟨f, rfl⟩ : ∃ f, fu = f + 1 := ⟨fu - 1, by omega⟩
    simp only [f4_cut_L25]
    rw [if_pos (nI_le (by omega) (by omega)), ruN_out (by omega), ite_self]
  | succ c ih =>
    intro q fu h1 h2
    obtain ⟨f, rfl⟩ : ∃ f, fu = f + 1 := ⟨fu - 1, by omega⟩
    have hsr := srN_lt (byt q)
    simp only [f4_cut_L25]
    rw [if_neg (nI_ge (by omega) (by omega)), f4_sortAt_s hn hb (show q < n by omega), Option.bind_some, nI_1]
    by_cases h3 : s = 3
    · rw [if_pos (by rw [h3]; rfl), if_pos h3]
    · rw [if_neg (show ¬ nI s = 3 from fun e => h3 (nI_inj (b := 3) (by omega) (by omega) e)), if_neg h3]
      by_cases h4 : srN (byt q) = s
      · rw [if_pos (by rw [h4]), ruN_in (by omega) h4, ih (q + 1) f (by omega) (by omega), if_neg h3]
      · rw [if_neg (fun e => h4 (nI_inj (by omega) (by omega) e)), ruN_out (fun z => h4 z.2)]
theorem f4_isName_s (hn : n ≤ 200) (hb : ∀ i, i < n → tp i = nI (byt i) ∧ byt i < 256) {p e i : Nat} (hp : p < e) (he : e ≤ n) (hl : ∀ k, k < e - p → 97 ≤ byt (p + k) ∧ byt (p + k) ≤ 122) (hi : i < 12) : f4_isName (nI n) tp (nI p) (nI e) i = some (b01 (decide (eFN (fun k => byt (p + k)) (e - p) = nvN i))) := by
  have hL := nb_len i hi
  have hnb := nb_ok i hi
  have hq := eFN_eq (f := fun k => byt (p + k)) (g := nbN i) (e - p) (sLen.getD i 0) hl (fun k hk => ⟨(hnb k hk).1, (hnb k hk).2.1⟩)
  rw [nv_ok i hi] at hq
  unfold f4_isName
  rw [pk_sub (by omega), show strLen i = nI (sLen.getD i 0) from rfl]
  by_cases hlen : e - p = sLen.getD i 0
  · rw [if_pos (by rw [hlen]), jnE]
    refine (lupS0 (fun fu k => f4_isName_L15 (nI n) tp (nI p) i fu k _) (sLen.getD i 0) (fun k => ¬ byt (p + k) = nbN i k) (o1 := some 0) (o2 := some 1) (fun fu k hk hp2 => ?_) (fun fu k hk hp2 => ?_) (fun fu => ?_) (fu := FU) (FU_lt (by omega))).trans ?_
    · have h256 := (hb (p + k) (by omega)).2
      have h122 := (hnb k hk).2.1
      simp only [f4_isName_L15]
      rw [show strLen i = nI (sLen.getD i 0) from rfl, if_neg (nI_ge hk (by omega)), nI_add, f4_byteAt_s hn hb (by omega), Option.bind_some, gdi hk (by omega), (hnb k hk).2.2, if_neg (fun z => hp2 (nI_inj (by omega) (by omega) z))]
    · simp only [f4_isName_L15]
      rw [show strLen i = nI (sLen.getD i 0) from rfl, if_neg (nI_ge hk (by omega)), nI_add, f4_byteAt_s hn hb (by omega), Option.bind_some, gdi hk (by omega), (hnb k hk).2.2, if_pos (by rw [Classical.byContradiction hp2]), nI_1]
    · simp only [f4_isName_L15]
      rw [show strLen i = nI (sLen.getD i 0) from rfl, if_pos (nI_le (Nat.le_refl _) (by omega))]
    · cases hx : exN (fun k => ¬ byt (p + k) = nbN i k) (sLen.getD i 0) with
      | true =>
        obtain ⟨k, h1, h2⟩ := (exN_iff _ _).mp hx
        rw [decide_eq_false (fun z => h2 ((hq.mp z).2 k (by omega)))]; rfl
      | false =>
        rw [decide_eq_true (hq.mpr ⟨hlen, fun k hk => Classical.byContradiction (fun z => by
          have := (exN_iff (fun k => ¬ byt (p + k) = nbN i k) (sLen.getD i 0)).mpr ⟨k, by omega, z⟩
          rw [hx] at this; cases this)⟩)]; rfl
  · rw [if_neg (fun z => hlen (nI_inj (by omega) (by omega) z)), decide_eq_false (fun z => hlen (hq.mp z).1)]; rfl
theorem f4_nameToken_s (hn : n ≤ 200) (hb : ∀ i, i < n → tp i = nI (byt i) ∧ byt i < 256) {p e : Nat} (hp : p < e) (he : e ≤ n) (hl : ∀ k, k < e - p → 97 ≤ byt (p + k) ∧ byt (p + k) ≤ 122) : f4_nameToken (nI n) tp (nI p) (nI e) = some (nI (nmC (eFN (fun k => byt (p + k)) (e - p)))) := by
  have w := fun i (hi : i < 12) => f4_isName_s hn hb hp he hl hi
  unfold f4_nameToken nmC
  rw [w 0 (by omega), w 1 (by omega), w 2 (by omega), w 3 (by omega), w 4 (by omega), w 5 (by omega), w 6 (by omega), w 7 (by omega), w 8 (by omega), w 9 (by omega), w 10 (by omega), w 11 (by omega)]
  generalize eFN (fun k => byt (p + k)) (e - p) = E
  simp only [bsE, dec_if]
  rw [show nvN 0 = 1253 from rfl, show nvN 1 = 11716 from rfl, show nvN 2 = 249 from rfl, show nvN 3 = 423 from rfl, show nvN 4 = 1111 from rfl, show nvN 5 = 10631 from rfl, show nvN 6 = 70241 from rfl, show nvN 7 = 2968 from rfl, show nvN 8 = 232546955 from rfl, show nvN 9 = 400375 from rfl, show nvN 10 = 12531637 from rfl, show nvN 11 = 223456 from rfl]
  by_cases h0 : E = 1253
  · rw [if_pos h0, if_pos h0]; rfl
  rw [if_neg h0, if_neg h0]
  by_cases h1 : E = 11716
  · rw [if_pos h1, if_pos h1]; rfl
  rw [if_neg h1, if_neg h1]
  by_cases h2 : E = 249
  · rw [if_pos h2, if_pos h2]; rfl
  rw [if_neg h2, if_neg h2]
  by_cases h3 : E = 423
  · rw [if_pos h3, if_pos h3]; rfl
  rw [if_neg h3, if_neg h3]
  by_cases h4 : E = 1111
  · rw [if_pos h4, if_pos h4]; rfl
  rw [if_neg h4, if_neg h4]
  by_cases h5 : E = 10631
  · rw [if_pos h5, if_pos h5]; rfl
  rw [if_neg h5, if_neg h5]
  by_cases h6 : E = 70241
  · rw [if_pos h6, if_pos h6]; rfl
  rw [if_neg h6, if_neg h6]
  by_cases h7 : E = 2968
  · rw [if_pos h7, if_pos h7]; rfl
  rw [if_neg h7, if_neg h7]
  by_cases h8 : E = 232546955
  · rw [if_pos h8, if_pos h8]; rfl
  rw [if_neg h8, if_neg h8]
  by_cases h9 : E = 400375
  · rw [if_pos h9, if_pos h9]; rfl
  rw [if_neg h9, if_neg h9]
  by_cases h10 : E = 12531637
  · rw [if_pos h10, if_pos h10]; rfl
  rw [if_neg h10, if_neg h10]
  by_cases h11 : E = 223456
  · rw [if_pos h11, if_pos h11]; rfl
  rw [if_neg h11, if_neg h11]
  rfl
theorem f4_numberToken_s (hn : n ≤ 200) (hb : ∀ i, i < n → tp i = nI (byt i) ∧ byt i < 256) {p e : Nat} (hp : p < e) (he : e ≤ n) (hl : ∀ k, k < e - p → 48 ≤ byt (p + k) ∧ byt (p + k) ≤ 57) : f4_numberToken (nI n) tp (nI p) (nI e) = some (nI (if e - p ≤ 3 then dgN (fun k => byt (p + k)) (e - p) else 3005)) := by
  unfold f4_numberToken
  rw [pk_sub (by omega)]
  by_cases h3 : e - p ≤ 3
  · rw [if_pos (show nI (e - p) ≤ 3 from nI_le (b := 3) h3 (by omega)), if_pos h3, jnE]
    refine lupA (fun fu i (x : Int32) => f4_numberToken_L16 (nI n) tp (nI e) fu x i _) e p (fun i => nI (dgN (fun k => byt (p + k)) (i - p))) (fun fu i h1 h2 => ?_) (fun fu => ?_) (by rw [Nat.sub_self]; rfl) (by omega) (FU_lt (by omega))
    · have hd := hl (i - p) (by omega)
      rw [show p + (i - p) = i by omega] at hd
      simp only [f4_numberToken_L16]
      rw [if_neg (nI_ge h2 (by omega)), f4_byteAt_s hn hb (by omega), Option.bind_some, nI_1, n10, pk_mul, nI_add, show nI (dgN (fun k => byt (p + k)) (i - p) * 10 + byt i) - 48 = nI (dgN (fun k => byt (p + k)) (i - p) * 10 + byt i - 48) from pk_sub (b := 48) (by omega), show i + 1 - p = (i - p) + 1 by omega, dgN]
      congr 2
      rw [show p + (i - p) = i by omega]; omega
    · simp only [f4_numberToken_L16]
      rw [if_pos (nI_le (Nat.le_refl _) (by omega))]
  · rw [if_neg (show ¬ nI (e - p) ≤ 3 from nI_ge (a := 3) (by omega) (by omega)), if_neg h3]; rfl
theorem sr1 {b : Nat} : srN b = 1 ↔ 97 ≤ b ∧ b ≤ 122 := by unfold srN; split; simp_all; split <;> omega
theorem sr2 {b : Nat} : srN b = 2 ↔ 48 ≤ b ∧ b ≤ 57 := by unfold srN; split; omega; split <;> omega
theorem f4_tokenOf_s (hn : n ≤ 200) (hb : ∀ i, i < n → tp i = nI (byt i) ∧ byt i < 256) {p : Nat} (hp : p < n) : f4_tokenOf (nI n) tp (nI (srN (byt p))) (nI p) (nI (enN byt n p)) = some (nI (tkC byt p (enN byt n p))) := by
  obtain ⟨h1, h2, h3⟩ := enN_bd (byt := byt) hp
  have hsr := srN_lt (byt p)
  have h256 := (hb p hp).2
  unfold f4_tokenOf tkC
  by_cases q1 : srN (byt p) = 1
  · rw [if_pos (by rw [q1]; rfl), if_pos q1, f4_nameToken_s hn hb h1 h2 (fun k hk => sr1.mp (by rw [h3 (by omega) (p + k) (by omega) (by omega), q1]))]; rfl
  · rw [if_neg (show ¬ nI (srN (byt p)) = 1 from fun z => q1 (nI_inj (b := 1) (by omega) (by omega) z)), if_neg q1]
    by_cases q2 : srN (byt p) = 2
    · rw [if_pos (by rw [q2]; rfl), if_pos q2, f4_numberToken_s hn hb h1 h2 (fun k hk => sr2.mp (by rw [h3 (by omega) (p + k) (by omega) (by omega), q2]))]; rfl
    · rw [if_neg (show ¬ nI (srN (byt p)) = 2 from fun z => q2 (nI_inj (b := 2) (by omega) (by omega) z)), if_neg q2, f4_byteAt_s hn hb hp, Option.bind_some]
      have hc : ∀ m, m < 256 → ((nI (byt p) = nI m) = (byt p = m)) := fun m hm => propext ⟨fun z => nI_inj (by omega) (by omega) z, fun z => by rw [z]⟩
      unfold mkC
      rw [show (40 : Int32) = nI 40 from rfl, show (41 : Int32) = nI 41 from rfl, show (59 : Int32) = nI 59 from rfl, show (60 : Int32) = nI 60 from rfl, show (61 : Int32) = nI 61 from rfl, show (62 : Int32) = nI 62 from rfl]
      simp only [hc 40 (by omega), hc 41 (by omega), hc 59 (by omega), hc 60 (by omega), hc 61 (by omega), hc 62 (by omega)]
      repeat' split
      all_goals rfl
end LX
/-- where one stands ahead of the k-th token -/
def eoN (byt : Nat → Nat) (n : Nat) : Nat → Nat
  | 0 => 0
  | k + 1 => if skN byt n (eoN byt n k) < n then enN byt n (skN byt n (eoN byt n k)) else n
/-- where the k-th token begins -/
def stN (byt : Nat → Nat) (n k : Nat) : Nat := skN byt n (eoN byt n k)
/-- its code -/
def coN (byt : Nat → Nat) (n k : Nat) : Nat := if stN byt n k < n then tkC byt (stN byt n k) (eoN byt n (k + 1)) else 3004
theorem eoN_le (byt : Nat → Nat) (n : Nat) : ∀ k, eoN byt n k ≤ n
  | 0 => Nat.zero_le _
  | k + 1 => by
    rw [eoN]
    by_cases h : skN byt n (eoN byt n k) < n
    · rw [if_pos h]; exact (enN_bd h).2.1
    · rw [if_neg h]; exact Nat.le_refl _
theorem stN_le (byt : Nat → Nat) (n k : Nat) : stN byt n k ≤ n := (skN_bd (n - eoN byt n k) (eoN byt n k) (by have := eoN_le byt n k; omega)).2.1
theorem eoN_s {byt : Nat → Nat} {n k : Nat} (h : stN byt n k < n) : eoN byt n (k + 1) = enN byt n (stN byt n k) := by
  rw [eoN]; exact if_pos h
theorem stN_end {byt : Nat → Nat} {n k : Nat} (h : ¬ stN byt n k < n) : stN byt n k = n := by
  have := stN_le byt n k; omega
theorem eoN_up {byt : Nat → Nat} {n k : Nat} (h : stN byt n k < n) : eoN byt n k ≤ stN byt n k ∧ stN byt n k < eoN byt n (k + 1) := by
  refine ⟨(skN_bd (n - eoN byt n k) (eoN byt n k) (by have := eoN_le byt n k; omega)).1, ?_⟩
  rw [eoN_s h]
  exact (enN_bd h).1
