/-! ===== steps ===== -/
theorem orN_tb (f : Nat → Nat) : ∀ n i, (orN f n).testBit i = true ↔ ∃ k, k < n ∧ (f k).testBit i = true
  | 0, i => by
    rw [orN, Nat.zero_testBit]
    exact ⟨fun h => (by cases h), fun ⟨k, h, _⟩ => absurd h (by omega)⟩
  | n + 1, i => by
    rw [orN, Nat.testBit_or, Bool.or_eq_true, orN_tb f n i]
    constructor
    · rintro (⟨k, h1, h2⟩ | h)
      · exact ⟨k, by omega, h2⟩
      · exact ⟨n, by omega, h⟩
    · rintro ⟨k, h1, h2⟩
      by_cases e : k = n
      · subst e; exact Or.inr h2
      · exact Or.inl ⟨k, by omega, h2⟩
theorem and_ne {a b : Nat} : ¬ a &&& b = 0 ↔ ∃ i, a.testBit i = true ∧ b.testBit i = true := by
  constructor
  · intro h
    obtain ⟨i, hi⟩ := tb_diff h
    rw [Nat.testBit_and, Nat.zero_testBit] at hi
    refine ⟨i, ?_⟩
    cases ha : a.testBit i <;> cases hb : b.testBit i <;> simp_all
  · rintro ⟨i, h1, h2⟩ h
    have h3 := congrArg (fun v => Nat.testBit v i) h
    simp only [Nat.testBit_and, h1, h2, Nat.zero_testBit] at h3
    cases h3
theorem tb_ext {a b : Nat} (h : ∀ i, a.testBit i = true ↔ b.testBit i = true) : a = b := Nat.eq_of_testBit_eq (fun i => Bool.eq_iff_iff.mpr (h i))
def dfN (s h : Nat) : Nat := bmN (fun i => s.testBit i = true ∧ ¬ h.testBit i = true) 10
theorem bx_df2 {s h : Nat} (hs : s < 2 ^ 10) : nI s &&& (nI h ^^^ -1) = nI (dfN s h) := by
  apply Int32.toBitVec_inj.1
  rw [Int32.toBitVec_and, Int32.toBitVec_xor, show (-1 : Int32).toBitVec = BitVec.allOnes 32 by decide]
  apply BitVec.eq_of_getLsbD_eq
  intro i hi
  rw [BitVec.getLsbD_and, BitVec.getLsbD_xor, BitVec.getLsbD_allOnes]
  show ((BitVec.ofNat 32 s).getLsbD i && ((BitVec.ofNat 32 h).getLsbD i ^^ decide (i < 32))) = (BitVec.ofNat 32 (dfN s h)).getLsbD i
  rw [BitVec.getLsbD_ofNat, BitVec.getLsbD_ofNat, BitVec.getLsbD_ofNat, decide_eq_true hi, dfN, bmN_tb]
  by_cases h1 : s.testBit i = true
  · have := tb_in hs h1
    by_cases h2 : h.testBit i = true
    · simp [h1, h2]
    · simp [h1, h2, this]
  · simp [h1]
theorem dfN_tb {s h i : Nat} (hs : s < 2 ^ 10) : (dfN s h).testBit i = true ↔ s.testBit i = true ∧ ¬ h.testBit i = true := by
  unfold dfN
  rw [bmN_tb, decide_eq_true_iff]
  exact ⟨fun q => q.2, fun q => ⟨tb_in hs q.1, q⟩⟩
section SP
variable {P C : Nat} {siz law hom hub one fac sea fou byc msiz mtow mhub mone mcla mlaw : Nat → Int32}
/-- the ones of a claim, as bits -/
def oiN (P : Nat) (one sea : Nat → Int32) (c : Nat) : Nat := orN (fun k => if oneV P one sea c k = -9 then 0 else 2 ^ (oneV P one sea c k).toNatClampNeg) 4
theorem oiN_ex (B : RBx P C siz law hom hub one fac sea fou byc msiz mtow mhub mone mcla mlaw) {c : Nat} (hc : c < C) (x : Nat) : (oiN P one sea c).testBit x = true ↔ x < P ∧ ∃ k, k < 4 ∧ oneV P one sea c k = nI x := by
  have hP := B.1
  unfold oiN
  rw [orN_tb]
  constructor
  · rintro ⟨k, hk, h⟩
    rcases oneV_c B hc hk with ⟨h1, -⟩ | ⟨p, q, hp, hq, -, -, -, h4⟩
    · rw [h1, if_pos rfl, Nat.zero_testBit] at h; cases h
    · rw [h4, if_neg (nI_ne9 (by omega)), nI_clamp (by omega), Nat.testBit_two_pow, decide_eq_true_iff] at h
      subst h
      exact ⟨hq, k, hk, h4⟩
  · rintro ⟨hx, k, hk, h⟩
    refine ⟨k, hk, ?_⟩
    rw [h, if_neg (nI_ne9 (by omega)), nI_clamp (by omega), Nat.testBit_two_pow, decide_eq_true rfl]
theorem inD_ex {c : Nat} {x : Int32} : inD P one sea c x = true ↔ ∃ k, k < 4 ∧ oneV P one sea c k = x := exN_iff _ 4
theorem oiN_in (B : RBx P C siz law hom hub one fac sea fou byc msiz mtow mhub mone mcla mlaw) {c x : Nat} (hc : c < C) (hx : x < P) : (oiN P one sea c).testBit x = true ↔ inD P one sea c (nI x) = true := by
  rw [oiN_ex B hc, inD_ex]
  exact ⟨fun q => q.2, fun q => ⟨hx, q⟩⟩
theorem oiN_lt (B : RBx P C siz law hom hub one fac sea fou byc msiz mtow mhub mone mcla mlaw) {c : Nat} (hc : c < C) : oiN P one sea c < 2 ^ 10 := by
  have hP := B.1
  refine orN_lt _ 10 4 (fun k hk => ?_)
  rcases oneV_c B hc hk with ⟨h1, -⟩ | ⟨p, q, hp, hq, -, -, -, h4⟩
  · rw [h1, if_pos rfl]; decide
  · rw [h4, if_neg (nI_ne9 (by omega)), nI_clamp (by omega)]
    exact Nat.pow_lt_pow_right (by decide) (by omega)
theorem f9_onesIn_s (B : RBx P C siz law hom hub one fac sea fou byc msiz mtow mhub mone mcla mlaw) {c : Nat} (hc : c < C) : f9_onesIn mcla mone (nI c) = some (nI (oiN P one sea c)) := by
  have hP := B.1
  simp only [f9_onesIn, jnE]
  refine lup0 (fun fu i (s : Int32) => f9_onesIn_L4 mcla mone (nI c) fu s i _) 4 (fun i => nI (orN (fun k => if oneV P one sea c k = -9 then 0 else 2 ^ (oneV P one sea c k).toNatClampNeg) i)) (fun fu i hi => ?_) (fun fu => ?_) rfl (FU_lt (by omega))
  · simp only [f9_onesIn_L4, jnE]
    rw [if_neg (nge n4 hi (by omega)), f9_oneIn_s B hc hi, Option.bind_some, nI_1, orN]
    rcases oneV_c B hc hi with ⟨h1, -⟩ | ⟨p, q, hp, hq, -, -, -, h4⟩
    · have m1 : oneM P one sea c i = -1 := by unfold oneM; rw [h1, if_pos rfl]
      rw [m1, h1, if_pos (by decide), if_pos rfl, n0, bx_or]
    · have m1 : oneM P one sea c i = nI q := by unfold oneM; rw [h4, if_neg (nI_ne9 (by omega))]
      rw [m1, h4, if_neg (nI_pos (by omega)), if_neg (nI_ne9 (by omega)), Option.bind_some, nI_clamp (by omega), bx_pow (by omega), bx_or]
  · simp only [f9_onesIn_L4]
    rw [if_pos (nle n4 (Nat.le_refl _) (by omega))]
    rfl
/-- a step from those of o -/
def stG (P C : Nat) (one sea : Nat → Int32) (o s : Nat) : Nat := s ||| orN (fun c => if oiN P one sea c &&& o = 0 then 0 else oiN P one sea c) C
theorem stG_tb (P C : Nat) (one sea : Nat → Int32) (o s y : Nat) : (stG P C one sea o s).testBit y = true ↔ s.testBit y = true ∨ ∃ c, c < C ∧ (oiN P one sea c).testBit y = true ∧ ∃ x, (oiN P one sea c).testBit x = true ∧ o.testBit x = true := by
  unfold stG
  rw [Nat.testBit_or, Bool.or_eq_true, orN_tb]
  refine or_congr Iff.rfl ⟨?_, ?_⟩
  · rintro ⟨c, hc, h⟩
    by_cases e : oiN P one sea c &&& o = 0
    · rw [if_pos e, Nat.zero_testBit] at h; cases h
    · rw [if_neg e] at h
      exact ⟨c, hc, h, and_ne.mp e⟩
  · rintro ⟨c, hc, h, hx⟩
    exact ⟨c, hc, by rw [if_neg (and_ne.mpr hx)]; exact h⟩
theorem stG_lt (B : RBx P C siz law hom hub one fac sea fou byc msiz mtow mhub mone mcla mlaw) {o s : Nat} (hs : s < 2 ^ 10) : stG P C one sea o s < 2 ^ 10 := by
  refine Nat.or_lt_two_pow hs (orN_lt _ 10 C (fun c hc => ?_))
  by_cases e : oiN P one sea c &&& o = 0
  · rw [if_pos e]; decide
  · rw [if_neg e]; exact oiN_lt B hc
theorem f9_steps_in (B : RBx P C siz law hom hub one fac sea fou byc msiz mtow mhub mone mcla mlaw) {o s : Nat} (ho : o < 2 ^ 10) (hs : s < 2 ^ 10) (K : Int32 → Int32 → Option Int32) : f9_steps_L122 (nI C) mcla mone (nI o) FU (nI s) 0 K = K (nI (stG P C one sea o s)) (nI C) := by
  have hC := B.2.1
  refine lup0 (fun fu i (x : Int32) => f9_steps_L122 (nI C) mcla mone (nI o) fu x i K) C (fun i => nI (s ||| orN (fun c => if oiN P one sea c &&& o = 0 then 0 else oiN P one sea c) i)) (fun fu i hi => ?_) (fun fu => ?_) (by rw [orN, Nat.or_zero]) (FU_lt (by omega))
  · have hlt := oiN_lt B hi
    have hlt2 : oiN P one sea i &&& o < 2 ^ 10 := Nat.lt_of_le_of_lt Nat.and_le_right ho
    simp only [f9_steps_L122, jnE]
    rw [if_neg (nI_ge hi (by omega)), f9_onesIn_s B hi, Option.bind_some, Option.bind_some, nI_1, bx_and, orN]
    by_cases e : oiN P one sea i &&& o = 0
    · rw [if_pos (by rw [e]; rfl), if_pos e, n0, bx_or, Nat.or_zero, Nat.or_zero]
    · rw [if_neg (nI_ne0 (by omega) (by omega)), if_neg e, bx_or, Nat.or_assoc]
  · simp only [f9_steps_L122]
    rw [if_pos (nI_le (Nat.le_refl _) (by omega))]
    rfl
/-- who passes on the way from f -/
def psB (P : Nat) (hub one : Nat → Int32) (f x : Nat) : Bool := decide (x = f) || !hubD P one hub (nI x)
def onN (P : Nat) (hub one : Nat → Int32) (f s : Nat) : Nat := bmN (fun x => s.testBit x = true ∧ psB P hub one f x = true) 10
def gsN (P C : Nat) (hub one sea : Nat → Int32) (f s : Nat) : Nat := stG P C one sea (onN P hub one f s) s
theorem onN_tb {f s x : Nat} (hs : s < 2 ^ 10) : (onN P hub one f s).testBit x = true ↔ s.testBit x = true ∧ psB P hub one f x = true := by
  unfold onN
  rw [bmN_tb, decide_eq_true_iff]
  exact ⟨fun q => q.2, fun q => ⟨tb_in hs q.1, q⟩⟩
theorem gsN_tb {f s : Nat} (hs : s < 2 ^ 10) (y : Nat) : (gsN P C hub one sea f s).testBit y = true ↔ s.testBit y = true ∨ ∃ c, c < C ∧ (oiN P one sea c).testBit y = true ∧ ∃ x, (oiN P one sea c).testBit x = true ∧ s.testBit x = true ∧ psB P hub one f x = true := by
  unfold gsN
  rw [stG_tb]
  refine or_congr Iff.rfl ⟨?_, ?_⟩
  · rintro ⟨c, hc, h, x, h1, h2⟩
    exact ⟨c, hc, h, x, h1, (onN_tb hs).mp h2⟩
  · rintro ⟨c, hc, h, x, h1, h2⟩
    exact ⟨c, hc, h, x, h1, (onN_tb hs).mpr h2⟩
theorem gsN_lt (B : RBx P C siz law hom hub one fac sea fou byc msiz mtow mhub mone mcla mlaw) (f s : Nat) (hs : s < 2 ^ 10) : gsN P C hub one sea f s < 2 ^ 10 := stG_lt B hs
theorem gsN_up (f s i : Nat) (h : s.testBit i = true) : (gsN P C hub one sea f s).testBit i = true := (stG_tb _ _ _ _ _ _ _).mpr (Or.inl h)
/-- whom one reaches by n claims -/
def rcN (P C : Nat) (hub one sea : Nat → Int32) (f n : Nat) : Nat := itr (gsN P C hub one sea f) n (2 ^ f)
theorem rcN_s (f n : Nat) : rcN P C hub one sea f (n + 1) = gsN P C hub one sea f (rcN P C hub one sea f n) := itr_end _ _ _
theorem rcN_lt (B : RBx P C siz law hom hub one fac sea fou byc msiz mtow mhub mone mcla mlaw) {f : Nat} (hf : f < 10) : ∀ n, rcN P C hub one sea f n < 2 ^ 10
  | 0 => Nat.pow_lt_pow_right (by decide) hf
  | n + 1 => by rw [rcN_s]; exact gsN_lt B f _ (rcN_lt B hf n)
theorem rcN_up {f i : Nat} : ∀ d n, (rcN P C hub one sea f n).testBit i = true → (rcN P C hub one sea f (n + d)).testBit i = true
  | 0, _, h => h
  | d + 1, n, h => by
    show (rcN P C hub one sea f (n + d + 1)).testBit i = true
    rw [rcN_s]
    exact gsN_up _ _ _ (rcN_up d n h)
theorem rcN_f (f : Nat) (n : Nat) : (rcN P C hub one sea f n).testBit f = true := by
  have h : (rcN P C hub one sea f 0).testBit f = true := by
    show (2 ^ f).testBit f = true
    rw [Nat.testBit_two_pow, decide_eq_true rfl]
  have := rcN_up n 0 h
  rw [Nat.zero_add] at this
  exact this
theorem rcN_fix (B : RBx P C siz law hom hub one fac sea fou byc msiz mtow mhub mone mcla mlaw) {f : Nat} (hf : f < 10) : rcN P C hub one sea f 11 = rcN P C hub one sea f 10 := by
  rw [rcN_s]
  exact itr_fix _ 10 (fun s hs => gsN_lt B f s hs) (fun s i h => gsN_up f s i h) (Nat.pow_lt_pow_right (by decide) hf) (Nat.two_pow_pos f)
/-- the answer -/
def rsI (S : Nat → Nat) (to : Nat) : Nat → Nat → Int32
  | 0, _ => -3
  | d + 1, n => if (S n).testBit to = true then nI n else rsI S to d (n + 1)
theorem rsI_s (S : Nat → Nat) (to d n : Nat) : rsI S to (d + 1) n = if (S n).testBit to = true then nI n else rsI S to d (n + 1) := rfl
theorem rsI_ext {S : Nat → Nat} {to : Nat} (h : S 11 = S 10) : ∀ d n, n + d = 11 → 0 < n → ¬ (S (n - 1)).testBit to = true → rsI S to (d + 1) n = rsI S to d n
  | 0, n, hn, _, h0 => by
    have e : n = 11 := by omega
    subst e
    rw [rsI_s, if_neg (by rw [h]; exact h0)]
    rfl
  | d + 1, n, hn, hp, h0 => by
    rw [rsI_s, rsI_s S to d n]
    by_cases q : (S n).testBit to = true
    · rw [if_pos q, if_pos q]
    · rw [if_neg q, if_neg q]
      exact rsI_ext h d (n + 1) (by omega) (by omega) q
/-- the hubs, as bits -/
def hbN (P : Nat) (hub one : Nat → Int32) : Nat := bmN (fun x => hubD P one hub (nI x) = true) P
theorem hbN_tb {x : Nat} : (hbN P hub one).testBit x = true ↔ x < P ∧ hubD P one hub (nI x) = true := by
  unfold hbN
  rw [bmN_tb, decide_eq_true_iff]
/-- the reference's sets are these -/
theorem ref_one (B : RBx P C siz law hom hub one fac sea fou byc msiz mtow mhub mone mcla mlaw) {f : Nat} (hf : f < 10) : stG P C one sea (2 ^ f) (2 ^ f) = gsN P C hub one sea f (2 ^ f) := by
  have hlt : 2 ^ f < 2 ^ 10 := Nat.pow_lt_pow_right (by decide) hf
  apply tb_ext
  intro y
  rw [stG_tb, gsN_tb hlt]
  refine or_congr Iff.rfl ⟨?_, ?_⟩
  · rintro ⟨c, hc, h, x, h1, h2⟩
    refine ⟨c, hc, h, x, h1, h2, ?_⟩
    rw [Nat.testBit_two_pow, decide_eq_true_iff] at h2
    unfold psB
    rw [decide_eq_true h2.symm, Bool.true_or]
  · rintro ⟨c, hc, h, x, h1, h2, -⟩
    exact ⟨c, hc, h, x, h1, h2⟩
theorem ref_more (B : RBx P C siz law hom hub one fac sea fou byc msiz mtow mhub mone mcla mlaw) {f : Nat} (hf : f < 10) (n : Nat) : stG P C one sea (dfN (rcN P C hub one sea f (n + 1)) (hbN P hub one)) (rcN P C hub one sea f (n + 1)) = rcN P C hub one sea f (n + 2) := by
  have hlt := rcN_lt B hf (n + 1)
  rw [rcN_s f (n + 1)]
  apply tb_ext
  intro y
  rw [stG_tb, gsN_tb hlt]
  constructor
  · rintro (h | ⟨c, hc, h, x, h1, h2⟩)
    · exact Or.inl h
    · rw [dfN_tb hlt, hbN_tb] at h2
      refine Or.inr ⟨c, hc, h, x, h1, h2.1, ?_⟩
      have hx := ((oiN_ex B hc x).mp h1).1
      unfold psB
      cases hh : hubD P one hub (nI x) with
      | true => exact absurd ⟨hx, hh⟩ h2.2
      | false => rw [Bool.not_false, Bool.or_true]
  · rintro (h | ⟨c, hc, h, x, h1, h2, h3⟩)
    · exact Or.inl h
    · by_cases e : x = f
      · subst e
        left
        have h1' : (rcN P C hub one sea x (0 + 1)).testBit y = true := by
          rw [rcN_s, gsN_tb (rcN_lt B hf 0)]
          exact Or.inr ⟨c, hc, h, x, h1, rcN_f x 0, h3⟩
        have := rcN_up n (0 + 1) h1'
        rw [show 0 + 1 + n = n + 1 by omega] at this
        exact this
      · refine Or.inr ⟨c, hc, h, x, h1, ?_⟩
        rw [dfN_tb hlt, hbN_tb]
        refine ⟨h2, fun q => ?_⟩
        unfold psB at h3
        rw [decide_eq_false e, q.2] at h3
        cases h3
theorem f9_steps_walk (B : RBx P C siz law hom hub one fac sea fou byc msiz mtow mhub mone mcla mlaw) {f to q : Nat} (hf : f < 10) (hq : q < 10) (hto : mone q = nI to) (ht : to < 10) : ∀ d n fu, n + 1 + d = 12 → d < fu → f9_steps_L92 (nI C) mcla mone (nI q) (nI (hbN P hub one)) fu (nI (rcN P C hub one sea f n)) (nI (n + 1)) (fun _ _ => some (-3)) = some (rsI (rcN P C hub one sea f) to d (n + 1)) := by
  intro d
  induction d with
  | zero =>
    intro n fu hn hfu
    obtain ⟨g, rfl⟩ : ∃ g, fu = g + 1 := ⟨fu - 1, by omega⟩
    simp only [f9_steps_L92]
    rw [if_pos (show (12 : Int32) ≤ nI (n + 1) from nI_le (a := 12) (by omega) (by omega))]
    rfl
  | succ d ih =>
    intro n fu hn hfu
    obtain ⟨g, rfl⟩ : ∃ g, fu = g + 1 := ⟨fu - 1, by omega⟩
    have hlt := rcN_lt B hf n
    have hlt2 := rcN_lt B hf (n + 1)
    simp only [f9_steps_L92, jnE]
    rw [if_neg (show ¬ (12 : Int32) ≤ nI (n + 1) from nI_ge (b := 12) (by omega) (by omega)), nI_clamp (by omega), hto, bx_df2 hlt]
    have hstep : (if nI (n + 1) = 1 then f9_steps_L122 (nI C) mcla mone (nI (rcN P C hub one sea f n)) FU (nI (rcN P C hub one sea f n)) 0 fun x20 x21 => if x20 >>> (nI to &&& 31) &&& 1 = 1 then some (nI (n + 1)) else f9_steps_L92 (nI C) mcla mone (nI q) (nI (hbN P hub one)) g x20 (nI (n + 1) + 1) fun _ _ => some (-3) else f9_steps_L122 (nI C) mcla mone (nI (dfN (rcN P C hub one sea f n) (hbN P hub one))) FU (nI (rcN P C hub one sea f n)) 0 fun x20 x21 => if x20 >>> (nI to &&& 31) &&& 1 = 1 then some (nI (n + 1)) else f9_steps_L92 (nI C) mcla mone (nI q) (nI (hbN P hub one)) g x20 (nI (n + 1) + 1) fun _ _ => some (-3)) = (if nI (rcN P C hub one sea f (n + 1)) >>> (nI to &&& 31) &&& 1 = 1 then some (nI (n + 1)) else f9_steps_L92 (nI C) mcla mone (nI q) (nI (hbN P hub one)) g (nI (rcN P C hub one sea f (n + 1))) (nI (n + 1) + 1) fun _ _ => some (-3)) := by
      cases n with
      | zero =>
        rw [if_pos (show nI (0 + 1) = 1 from rfl), f9_steps_in B hlt hlt, show stG P C one sea (rcN P C hub one sea f 0) (rcN P C hub one sea f 0) = rcN P C hub one sea f (0 + 1) from (ref_one B hf).trans (rcN_s f 0).symm]
      | succ n =>
        rw [if_neg (show ¬ nI (n + 1 + 1) = 1 from fun e => absurd (nI_inj (b := 1) (by omega) (by omega) e) (by omega)), f9_steps_in B (show dfN (rcN P C hub one sea f (n + 1)) (hbN P hub one) < 2 ^ 10 from bmN_lt _ 10) hlt, ref_more B hf n]
    rw [hstep, bx_t1 (by omega) (by omega), nI_1, rsI]
    by_cases h : (rcN P C hub one sea f (n + 1)).testBit to = true
    · rw [if_pos h, if_pos h]
    · rw [if_neg h, if_neg h]
      exact ih (n + 1) g (by omega) (by omega)
theorem f9_hubs_s (B : RBx P C siz law hom hub one fac sea fou byc msiz mtow mhub mone mcla mlaw) (K : Int32 → Int32 → Option Int32) : f9_steps_L47 (nI P) mhub mone FU 0 0 K = K (nI (hbN P hub one)) (nI P) := by
  have hP := B.1
  refine lup0 (fun fu i (x : Int32) => f9_steps_L47 (nI P) mhub mone fu x i K) P (fun i => nI (bmN (fun x => hubD P one hub (nI x) = true) i)) (fun fu i hi => ?_) (fun fu => ?_) rfl (FU_lt (by omega))
  · simp only [f9_steps_L47, jnE]
    rw [if_neg (nI_ge hi (by omega)), f9_isHubOne_s B, Option.bind_some, nI_1, bmN]
    cases hubD P one hub (nI i) with
    | true => rw [if_neg (show ¬ b01 true = 0 by decide), if_pos rfl, bx_pow (by omega), bx_or]
    | false => rw [if_pos (show b01 false = 0 from rfl), if_neg (show ¬ false = true by decide), n0, bx_or]
  · simp only [f9_steps_L47]
    rw [if_pos (nI_le (Nat.le_refl _) (by omega))]
    rfl
/-! the class's walk -/
theorem f7_reach_in (B : RBx P C siz law hom hub one fac sea fou byc msiz mtow mhub mone mcla mlaw) {c : Nat} (hc : c < C) (b : Nat → Int32) (v : Int32) (hv : ¬ v = -9) (R : (Nat → Int32) → Option (Nat → Int32)) : ∃ s, f7_reachFrom_L28 (nI C) (nI P) one sea v (nI c) FU 0 b (fun _ c9 => R c9) = R s ∧ ∀ x, x < 10 → s x = if b x = -9 ∧ inD P one sea c (nI x) = true then v else b x := by
  have hP := B.1
  have hC := B.2.1
  rw [n0]
  refine lupR (fun fu i (s : Nat → Int32) => f7_reachFrom_L28 (nI C) (nI P) one sea v (nI c) fu i s (fun _ c9 => R c9)) 4 0 (fun k s => ∀ x, x < 10 → s x = if b x = -9 ∧ exN (fun k => oneV P one sea c k = nI x) k = true then v else b x) (fun o => ∃ s, o = R s ∧ ∀ x, x < 10 → s x = if b x = -9 ∧ inD P one sea c (nI x) = true then v else b x) (fun fu k s h0 hk hI hgo => ?_) (fun fu s hI => ?_) (s0 := b) (fun x hx => by rw [if_neg (fun q => by cases q.2)]) (Nat.zero_le _) (FU_lt (by omega))
  · simp only [f7_reachFrom_L28, jnE]
    rw [if_neg (nge n4 hk (by omega)), f0_oneAt_s hC hP hc hk, Option.bind_some, nI_1]
    rcases oneV_c B hc hk with ⟨h1, -⟩ | ⟨p, q, hp, hq, -, -, -, h4⟩
    · rw [h1, if_pos (by decide)]
      refine hgo s (fun x hx => ?_)
      rw [hI x hx, exN, h1, decide_eq_false (fun e => nI_ne9 (by omega) e.symm), Bool.or_false]
    · rw [h4, if_neg (nI_pos (by omega)), if_neg (nge n10 (show q < 10 by omega) (by omega)), gdi (by omega) (by omega), nI_clamp (by omega), gdi (by omega) (by omega)]
      have hq10 : q < 10 := by omega
      by_cases e9 : s q = -9
      · rw [if_pos e9]
        refine hgo _ (fun x hx => ?_)
        by_cases e : x = q
        · subst e
          have hbx : b x = -9 := by
            have := hI x hx
            rw [e9] at this
            by_cases h : b x = -9 ∧ exN (fun k => oneV P one sea c k = nI x) k = true
            · exact h.1
            · rw [if_neg h] at this; exact this.symm
          rw [upd_s, if_pos ⟨hbx, by rw [exN, h4, decide_eq_true rfl, Bool.or_true]⟩]
        · rw [upd_n e, hI x hx, exN, h4, decide_eq_false (fun e2 => e (nI_inj (by omega) (by omega) e2.symm)), Bool.or_false]
      · rw [if_neg e9]
        refine hgo _ (fun x hx => ?_)
        by_cases e : x = q
        · subst e
          rw [hI x hx, exN, h4, decide_eq_true rfl, Bool.or_true]
          have h9 := hI x hx
          by_cases hb : b x = -9
          · by_cases hx2 : exN (fun k => oneV P one sea c k = nI x) k = true
            · rw [if_pos ⟨hb, hx2⟩, if_pos ⟨hb, rfl⟩]
            · rw [if_neg (fun q => hx2 q.2), hb] at h9; exact absurd h9 e9
          · rw [if_neg (fun q => hb q.1), if_neg (fun q => hb q.1)]
        · rw [hI x hx, exN, h4, decide_eq_false (fun e2 => e (nI_inj (by omega) (by omega) e2.symm)), Bool.or_false]
  · simp only [f7_reachFrom_L28]
    rw [if_pos (nle n4 (Nat.le_refl _) (by omega))]
    exact ⟨s, rfl, hI⟩
theorem rch_step (b v : Int32) (hv : ¬ v = -9) (E I E' : Bool) (hE : E' = (E || I)) : (if (if b = -9 ∧ E = true then v else b) = -9 ∧ I = true then v else (if b = -9 ∧ E = true then v else b)) = if b = -9 ∧ E' = true then v else b := by
  subst hE
  by_cases hb : b = -9 <;> cases E <;> cases I <;> simp [hb, hv]
theorem f7_reachFrom_s (B : RBx P C siz law hom hub one fac sea fou byc msiz mtow mhub mone mcla mlaw) {i : Nat} (b : Nat → Int32) (v : Int32) (hv : ¬ v = -9) : ∃ s, f7_reachFrom (nI C) (nI P) one sea b (nI i) v = some s ∧ ∀ x, x < 10 → s x = if b x = -9 ∧ exN (fun c => inD P one sea c (nI i) = true ∧ inD P one sea c (nI x) = true) C = true then v else b x := by
  have hP := B.1
  have hC := B.2.1
  simp only [f7_reachFrom, jnE]
  rw [n0]
  refine lupR (fun fu k (s : Nat → Int32) => f7_reachFrom_L3 (nI C) (nI P) one sea (nI i) v fu k s _) C 0 (fun n s => ∀ x, x < 10 → s x = if b x = -9 ∧ exN (fun c => inD P one sea c (nI i) = true ∧ inD P one sea c (nI x) = true) n = true then v else b x) (fun o => ∃ s, o = some s ∧ ∀ x, x < 10 → s x = if b x = -9 ∧ exN (fun c => inD P one sea c (nI i) = true ∧ inD P one sea c (nI x) = true) C = true then v else b x) (fun fu c s h0 hc hI hgo => ?_) (fun fu s hI => ?_) (s0 := b) (fun x hx => by rw [if_neg (fun q => by cases q.2)]) (Nat.zero_le _) (FU_lt (by omega))
  · simp only [f7_reachFrom_L3, jnE]
    rw [if_neg (nI_ge hc (by omega)), f0_isIn_s hC hP hc, Option.bind_some, nI_1, b01_0]
    cases hin : inD P one sea c (nI i) with
    | false =>
      refine hgo s (fun x hx => ?_)
      rw [hI x hx, exN, hin, decide_eq_false (fun q => by cases q.1), Bool.or_false]
    | true =>
      obtain ⟨s2, h2, h2x⟩ := f7_reach_in B hc s v hv (fun c9 => f7_reachFrom_L3 (nI C) (nI P) one sea (nI i) v fu (nI (c + 1)) c9 fun x1 c2 => some c2)
      show ∃ s, f7_reachFrom_L28 _ _ _ _ _ _ _ _ _ _ = some s ∧ _
      rw [h2]
      refine hgo s2 (fun x hx => ?_)
      rw [h2x x hx, hI x hx]
      refine rch_step _ _ hv _ _ _ ?_
      rw [exN, hin]
      cases inD P one sea c (nI x) <;> simp
  · simp only [f7_reachFrom_L3]
    rw [if_pos (nI_le (Nat.le_refl _) (by omega))]
    exact ⟨s, rfl, hI⟩
/-- what the class has reached after m claims -/
def RJ (S : Nat → Nat) (m : Nat) (rch : Nat → Int32) : Prop := ∀ x, x < 10 → (rch x = -9 ∧ ¬ (S m).testBit x = true) ∨ ∃ k, k ≤ m ∧ rch x = nI k ∧ (S k).testBit x = true ∧ (k = 0 ∨ ¬ (S (k - 1)).testBit x = true)
/-- one is at the edge, passes, and is with x in a claim -/
def edB (P C : Nat) (hub one sea : Nat → Int32) (f m : Nat) (rch : Nat → Int32) (x o : Nat) : Bool := decide (rch o = nI m) && psB P hub one f o && exN (fun c => inD P one sea c (nI o) = true ∧ inD P one sea c (nI x) = true) C
theorem f7_round (B : RBx P C siz law hom hub one fac sea fou byc msiz mtow mhub mone mcla mlaw) {f m : Nat} (hf : f < 10) (hm : m < 10) (rch : Nat → Int32) (hJ : RJ (rcN P C hub one sea f) m rch) (R : (Nat → Int32) → Option (Int32 × (Nat → Int32))) : ∃ s, f7_stepsBetween_L55 (nI C) (nI P) hub one sea (nI f) (nI (m + 1)) FU 0 rch (fun _ c15 => R c15) = R s ∧ RJ (rcN P C hub one sea f) (m + 1) s := by
  have hP := B.1
  have hC := B.2.1
  have hfin : ∀ s : Nat → Int32, (∀ x, x < 10 → s x = if rch x = -9 ∧ exN (fun o => edB P C hub one sea f m rch x o = true) P = true then nI (m + 1) else rch x) → RJ (rcN P C hub one sea f) (m + 1) s := by
    intro s hs x hx
    rcases hJ x hx with ⟨h1, h2⟩ | ⟨k, hk, h1, h2, h3⟩
    · by_cases hq : exN (fun o => edB P C hub one sea f m rch x o = true) P = true
      · right
        refine ⟨m + 1, Nat.le_refl _, by rw [hs x hx, if_pos ⟨h1, hq⟩], ?_, Or.inr h2⟩
        obtain ⟨o, ho, he⟩ := (exN_iff _ P).mp hq
        unfold edB at he
        rw [Bool.and_eq_true, Bool.and_eq_true, decide_eq_true_iff, exN_iff] at he
        obtain ⟨⟨e1, e2⟩, c, hc, e3, e4⟩ := he
        have hxP : x < P := by
          obtain ⟨k, hk, e⟩ := inD_ex.mp e4
          rcases oneV_c B hc hk with ⟨h9, -⟩ | ⟨p, q, hp, hq, -, -, -, h9⟩
          · rw [h9] at e; exact absurd e.symm (nI_ne9 (by omega))
          · rw [h9] at e
            have := nI_inj (by omega) (by omega) e
            omega
        rw [rcN_s, gsN_tb (rcN_lt B hf m)]
        refine Or.inr ⟨c, hc, (oiN_in B hc hxP).mpr e4, o, (oiN_in B hc ho).mpr e3, ?_, e2⟩
        rcases hJ o (by omega) with ⟨q1, -⟩ | ⟨k, hk, q1, q2, -⟩
        · rw [q1] at e1; exact absurd e1.symm (nI_ne9 (by omega))
        · rw [q1] at e1
          have := nI_inj (by omega) (by omega) e1
          subst this; exact q2
      · left
        refine ⟨by rw [hs x hx, if_neg (fun q => hq q.2), h1], fun h4 => ?_⟩
        rw [rcN_s, gsN_tb (rcN_lt B hf m)] at h4
        rcases h4 with h4 | ⟨c, hc, q1, o, q2, q3, q4⟩
        · exact h2 h4
        · have ho := ((oiN_ex B hc o).mp q2).1
          have hxP := ((oiN_ex B hc x).mp q1).1
          refine hq ((exN_iff _ P).mpr ⟨o, ho, ?_⟩)
          unfold edB
          rw [Bool.and_eq_true, Bool.and_eq_true, decide_eq_true_iff, exN_iff]
          refine ⟨⟨?_, q4⟩, c, hc, (oiN_in B hc ho).mp q2, (oiN_in B hc hxP).mp q1⟩
          rcases hJ o (by omega) with ⟨-, q5⟩ | ⟨k, hk, q5, q6, -⟩
          · exact absurd q3 q5
          · rw [q5]
            by_cases e : k = m
            · rw [e]
            · exfalso
              have h5 : (rcN P C hub one sea f (k + 1)).testBit x = true := by
                rw [rcN_s, gsN_tb (rcN_lt B hf k)]
                exact Or.inr ⟨c, hc, q1, o, q2, q6, q4⟩
              have h6 := rcN_up (m - (k + 1)) (k + 1) h5
              rw [show k + 1 + (m - (k + 1)) = m by omega] at h6
              exact h2 h6
    · right
      exact ⟨k, by omega, by rw [hs x hx, if_neg (fun q => by rw [h1] at q; exact nI_ne9 (by omega) q.1), h1], h2, h3⟩
  rw [n0]
  refine lupR (fun fu i (s : Nat → Int32) => f7_stepsBetween_L55 (nI C) (nI P) hub one sea (nI f) (nI (m + 1)) fu i s (fun _ c15 => R c15)) P 0 (fun n s => ∀ x, x < 10 → s x = if rch x = -9 ∧ exN (fun o => edB P C hub one sea f m rch x o = true) n = true then nI (m + 1) else rch x) (fun o => ∃ s, o = R s ∧ RJ (rcN P C hub one sea f) (m + 1) s) (fun fu i s h0 hi hI hgo => ?_) (fun fu s hI => ?_) (s0 := rch) (fun x hx => by rw [if_neg (fun q => by cases q.2)]) (Nat.zero_le _) (FU_lt (by omega))
  · have hi10 : i < 10 := by omega
    simp only [f7_stepsBetween_L55, jnE]
    rw [if_neg (nI_ge hi (by omega)), gdi hi10 (by omega), gdi hi10 (by omega), nI_clamp (by omega), f0_isHub_s B, Option.bind_some, nI_1, nI_pred]
    have hsi : s i = nI m ↔ rch i = nI m := by
      rw [hI i hi10]
      by_cases h : rch i = -9 ∧ exN (fun o => edB P C hub one sea f m rch i o = true) i = true
      · rw [if_pos h, h.1]
        exact ⟨fun e => absurd (nI_inj (by omega) (by omega) e) (by omega), fun e => absurd e.symm (nI_ne9 (by omega))⟩
      · rw [if_neg h]
    have hb9 : ¬ nI (m + 1) = -9 := nI_ne9 (by omega)
    have skip : (∀ x, edB P C hub one sea f m rch x i = false) → ∃ s', f7_stepsBetween_L55 (nI C) (nI P) hub one sea (nI f) (nI (m + 1)) fu (nI (i + 1)) s (fun _ c15 => R c15) = R s' ∧ RJ (rcN P C hub one sea f) (m + 1) s' := by
      intro hed
      refine hgo s (fun x hx => ?_)
      rw [hI x hx, exN, hed x]
      rw [show decide (false = true) = false from rfl, Bool.or_false]
    by_cases hat : s i = nI m
    · rw [if_pos hat, if_pos hat]
      have hr := hsi.mp hat
      by_cases hps : psB P hub one f i = true
      · obtain ⟨s2, g1, g2⟩ := f7_reachFrom_s B (i := i) s (nI (m + 1)) hb9
        have hgo2 : ∃ s', f7_stepsBetween_L55 (nI C) (nI P) hub one sea (nI f) (nI (m + 1)) fu (nI (i + 1)) s2 (fun _ c15 => R c15) = R s' ∧ RJ (rcN P C hub one sea f) (m + 1) s' := by
          refine hgo s2 (fun x hx => ?_)
          rw [g2 x hx, hI x hx]
          refine rch_step _ _ hb9 _ _ _ ?_
          rw [exN]
          unfold edB
          rw [decide_eq_true hr, hps]
          cases exN (fun c => inD P one sea c (nI i) = true ∧ inD P one sea c (nI x) = true) C <;> simp
        rw [g1, Option.bind_some, if_neg (show ¬ (1 : Int32) = 0 by decide)]
        unfold psB at hps
        by_cases e : i = f
        · rw [if_pos (by rw [e])]; exact hgo2
        · rw [if_neg (fun q => e (nI_inj (by omega) (by omega) q))]
          rw [decide_eq_false e, Bool.false_or] at hps
          cases hh : hubD P one hub (nI i) with
          | true => rw [hh] at hps; cases hps
          | false => rw [if_pos (show b01 false = 0 from rfl)]; exact hgo2
      · have hsk := skip (fun x => by unfold edB; rw [show psB P hub one f i = false from Bool.eq_false_iff.mpr hps]; simp)
        unfold psB at hps
        have e : ¬ i = f := fun e => hps (by rw [decide_eq_true e, Bool.true_or])
        rw [decide_eq_false e, Bool.false_or] at hps
        rw [if_neg (fun q => e (nI_inj (by omega) (by omega) q))]
        cases hh : hubD P one hub (nI i) with
        | true => rw [if_neg (show ¬ b01 true = 0 by decide), if_pos trivial]; exact hsk
        | false => rw [hh] at hps; exact absurd rfl hps
    · have hsk := skip (fun x => by unfold edB; rw [decide_eq_false (fun q => hat (hsi.mpr q))]; simp)
      rw [if_neg hat, if_neg hat, ite_self, ite_self]
      exact hsk
  · simp only [f7_stepsBetween_L55]
    rw [if_pos (nI_le (Nat.le_refl _) (by omega))]
    exact ⟨s, rfl, hfin s hI⟩
theorem f7_walk (B : RBx P C siz law hom hub one fac sea fou byc msiz mtow mhub mone mcla mlaw) {f to : Nat} (hf : f < 10) (ht : to < 10) : ∀ d n fu rch, n + d = 10 → d < fu → RJ (rcN P C hub one sea f) n rch → ¬ (rcN P C hub one sea f n).testBit to = true → ∃ s, f7_stepsBetween_L45 (nI C) (nI P) hub one sea (nI f) (nI to) fu (nI (n + 1)) rch (fun _ c11 => some ((-3 : Int32), c11)) = some (rsI (rcN P C hub one sea f) to d (n + 1), s) := by
  intro d
  induction d with
  | zero =>
    intro n fu rch hn hfu hJ h0
    obtain ⟨g, rfl⟩ : ∃ g, fu = g + 1 := ⟨fu - 1, by omega⟩
    refine ⟨rch, ?_⟩
    simp only [f7_stepsBetween_L45]
    rw [if_pos (show (10 : Int32) < nI (n + 1) from nI_lt (a := 10) (by omega) (by omega))]
    rfl
  | succ d ih =>
    intro n fu rch hn hfu hJ h0
    obtain ⟨g, rfl⟩ : ∃ g, fu = g + 1 := ⟨fu - 1, by omega⟩
    simp only [f7_stepsBetween_L45, jnE]
    rw [if_neg (show ¬ (10 : Int32) < nI (n + 1) from nI_nlt (a := 10) (by omega) (by omega)), nI_1]
    obtain ⟨s, h1, h2⟩ := f7_round B hf (show n < 10 by omega) rch hJ (fun c15 => if nI to < 0 then f7_stepsBetween_L45 (nI C) (nI P) hub one sea (nI f) (nI to) g (nI (n + 1 + 1)) c15 (fun _ c11 => some ((-3 : Int32), c11)) else if 10 ≤ nI to then f7_stepsBetween_L45 (nI C) (nI P) hub one sea (nI f) (nI to) g (nI (n + 1 + 1)) c15 (fun _ c11 => some ((-3 : Int32), c11)) else gd (ix (nI to) 10) (if c15 (nI to).toNatClampNeg = nI (n + 1) then some (nI (n + 1), c15) else f7_stepsBetween_L45 (nI C) (nI P) hub one sea (nI f) (nI to) g (nI (n + 1 + 1)) c15 (fun _ c11 => some ((-3 : Int32), c11))))
    rw [h1, if_neg (nI_pos (by omega)), if_neg (nge n10 ht (by omega)), gdi ht (by omega), nI_clamp (by omega), rsI_s]
    by_cases hq : (rcN P C hub one sea f (n + 1)).testBit to = true
    · refine ⟨s, ?_⟩
      rw [if_pos hq, if_pos]
      rcases h2 to ht with ⟨-, q⟩ | ⟨k, hk, q1, q2, q3⟩
      · exact absurd hq q
      · rw [q1]
        by_cases e : k = n + 1
        · rw [e]
        · exfalso
          have h6 := rcN_up (n - k) k q2
          rw [show k + (n - k) = n by omega] at h6
          exact h0 h6
    · rw [if_neg hq, if_neg]
      · exact ih (n + 1) g s (by omega) (by omega) h2 hq
      · intro e
        rcases h2 to ht with ⟨q, -⟩ | ⟨k, hk, q1, q2, q3⟩
        · rw [q] at e; exact nI_ne9 (by omega) e.symm
        · have h6 := rcN_up (n + 1 - k) k q2
          rw [show k + (n + 1 - k) = n + 1 by omega] at h6
          exact hq h6
theorem f7_start (f : Nat) (hf : f < 10) (rch : Nat → Int32) (R : (Nat → Int32) → Option (Int32 × (Nat → Int32))) : ∃ s, f7_stepsBetween_L10 (nI f) FU 0 rch (fun _ c2 => R c2) = R s ∧ RJ (rcN P C hub one sea f) 0 s := by
  have hfin : ∀ s : Nat → Int32, (∀ x, x < 10 → s x = if x = f then 0 else -9) → RJ (rcN P C hub one sea f) 0 s := by
    intro s hs x hx
    by_cases e : x = f
    · right
      subst e
      exact ⟨0, Nat.le_refl _, by rw [hs x hx, if_pos rfl]; rfl, rcN_f x 0, Or.inl rfl⟩
    · left
      refine ⟨by rw [hs x hx, if_neg e], fun h => ?_⟩
      have h2 : (2 ^ f).testBit x = true := h
      rw [Nat.testBit_two_pow, decide_eq_true_iff] at h2
      exact e h2.symm
  rw [n0]
  refine lupR (fun fu i (s : Nat → Int32) => f7_stepsBetween_L10 (nI f) fu i s (fun _ c2 => R c2)) 10 0 (fun n s => ∀ x, x < n → s x = if x = f then 0 else -9) (fun o => ∃ s, o = R s ∧ RJ (rcN P C hub one sea f) 0 s) (fun fu i s h0 hi hI hgo => ?_) (fun fu s hI => ?_) (s0 := rch) (fun x hx => absurd hx (by omega)) (Nat.zero_le _) (FU_lt (by omega))
  · simp only [f7_stepsBetween_L10, jnE]
    rw [if_neg (nge n10 hi (by omega)), gdi hi (by omega), gdi hi (by omega), nI_clamp (by omega), nI_1]
    have key : ∀ v : Int32, v = (if i = f then 0 else -9) → ∀ x, x < i + 1 → upd s i v x = if x = f then 0 else -9 := by
      intro v hv x hx
      by_cases e : x = i
      · rw [updS e, hv, e]
      · rw [upd_n e]; exact hI x (by omega)
    by_cases e : i = f
    · rw [if_pos (by rw [e])]
      exact hgo _ (key 0 (by rw [if_pos e]))
    · rw [if_neg (fun q => e (nI_inj (by omega) (by omega) q))]
      exact hgo _ (key (-9) (by rw [if_neg e]))
  · simp only [f7_stepsBetween_L10]
    rw [if_pos (nle n10 (Nat.le_refl _) (by omega))]
    exact ⟨s, rfl, hfin s hI⟩
theorem steps_both (B : RBx P C siz law hom hub one fac sea fou byc msiz mtow mhub mone mcla mlaw) {p q : Nat} (hp : p < P) (hq : q < P) (rch : Nat → Int32) : ∃ v a1, f8_steps (nI C) (nI P) hub one sea rch (nI p) (nI q) = some (v, a1) ∧ f9_steps (nI C) (nI P) mcla mhub mone (nI p) (nI q) = some v := by
  have hP := B.1
  have hC := B.2.1
  obtain ⟨mp, f, hf, ef⟩ := B.2.2.2.2.2.2.2.1 p hp
  obtain ⟨mq, t, ht, et⟩ := B.2.2.2.2.2.2.2.1 q hq
  unfold f8_steps f9_steps
  rw [f0_isPerson_s (by omega), f0_isPerson_s (by omega), f9_isPerson_s (by omega), f9_isPerson_s (by omega)]
  simp only [bsE, gI]
  rw [if_pos (inN_nI hp (by omega)), if_pos (inN_nI hq (by omega)), if_pos (inN_nI hp (by omega)), if_pos (inN_nI hq (by omega)), gdi (by omega) (by omega), gdi (by omega) (by omega), gdi (by omega) (by omega), gdi (by omega) (by omega), nI_clamp (by omega), nI_clamp (by omega), mp, mq, ef, et]
  unfold f7_stepsBetween
  by_cases e : f = t
  · subst e
    rw [if_pos rfl, if_pos rfl]
    exact ⟨0, rch, rfl, rfl⟩
  · have hft : ¬ nI f = nI t := fun q => e (nI_inj (by omega) (by omega) q)
    rw [if_neg hft, if_neg hft]
    simp only [jnE]
    obtain ⟨s, h1, h2⟩ := f7_start (P := P) (C := C) (hub := hub) (one := one) (sea := sea) f (by omega) rch (fun c2 => f7_stepsBetween_L45 (nI C) (nI P) hub one sea (nI f) (nI t) FU 1 c2 (fun _ c11 => some ((-3 : Int32), c11)))
    have h0 : ¬ (rcN P C hub one sea f 0).testBit t = true := by
      intro h
      have h2 : (2 ^ f).testBit t = true := h
      rw [Nat.testBit_two_pow, decide_eq_true_iff] at h2
      exact e h2
    obtain ⟨s2, h3⟩ := f7_walk B (show f < 10 by omega) (show t < 10 by omega) 10 0 FU s (by omega) (FU_lt (by omega)) h2 h0
    have h4 := f9_steps_walk B (show f < 10 by omega) (show q < 10 by omega) (mq.trans et) (show t < 10 by omega) 11 0 FU (by omega) (FU_lt (by omega))
    refine ⟨rsI (rcN P C hub one sea f) t 10 1, s2, ?_, ?_⟩
    · rw [h1, n1]
      have h5 : f7_stepsBetween_L45 (nI C) (nI P) hub one sea (nI f) (nI t) FU (nI 1) s (fun _ c11 => some ((-3 : Int32), c11)) = some (rsI (rcN P C hub one sea f) t 10 1, s2) := h3
      rw [h5, bn2E]
    · rw [f9_hubs_s B, bx_pow (by omega), n1]
      have h5 : f9_steps_L92 (nI C) mcla mone (nI q) (nI (hbN P hub one)) FU (nI (2 ^ f)) (nI 1) (fun _ _ => some (-3)) = some (rsI (rcN P C hub one sea f) t 11 1) := h4
      rw [h5, rsI_ext (rcN_fix B (by omega)) 10 1 (by omega) (by omega) h0]
end SP
theorem op_steps : Op_steps Rl := by
  intro r g u h p1 p2 hR
  have hR0 := hR
  obtain ⟨⟨P, C, e0, e30, e1, e31, ez, B⟩, hM, hRR, hK, hT, hW, hH, hS, hP⟩ := hR
  have hP10 := B.1
  rw [e0, e30, e1, e31]
  by_cases h12 : inN p1 P ∧ inN p2 P
  · obtain ⟨p, hp, rfl⟩ := inN_of (by omega) h12.1
    obtain ⟨q, hq, rfl⟩ := inN_of (by omega) h12.2
    obtain ⟨v, a1, h1, h2⟩ := steps_both B hp hq (g 31)
    exact ⟨v, a1, h1, h2, hR0⟩
  · refine ⟨-1, g 31, ?_, ?_, hR0⟩
    · unfold f8_steps
      rw [f0_isPerson_s (by omega), f0_isPerson_s (by omega), Option.bind_some, Option.bind_some, gI, gI, gM, if_neg h12]
    · unfold f9_steps
      rw [f9_isPerson_s (by omega), f9_isPerson_s (by omega), Option.bind_some, Option.bind_some, gI, gI, gM, if_neg h12]
