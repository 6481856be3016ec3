/-! ===== odds ===== -/
/-- how many ways there are to choose -/
def psN : Nat → Nat → Nat
  | _, 0 => 1
  | 0, _ + 1 => 0
  | n + 1, i + 1 => psN n (i + 1) + psN n i
def chN (n : Nat) : Nat → Nat
  | 0 => 1
  | j + 1 => chN n j * (n - j) / (j + 1)
theorem ch_ps : ∀ n, n < 10 → ∀ j, j < n + 1 → chN n j = psN n j ∧ chN n j ≤ 126 := by decide +kernel
theorem psN_z : ∀ n, n < 10 → psN n (n + 1) = 0 := by decide +kernel
/-- the ways with i of k -/
def wyN (b k i : Nat) : Nat := psN k i * 4 ^ i * b ^ (k - i)
theorem wy_bd : ∀ n, n < 10 → ∀ j, j < n + 1 → psN n j * 4 ^ j * 95 ^ (n - j) ≤ 95 ^ 9 := by decide +kernel
theorem wyN_le {b n j : Nat} (hb : b ≤ 95) (hn : n < 10) (hj : j < n + 1) : wyN b n j ≤ 95 ^ 9 :=
  Nat.le_trans (Nat.mul_le_mul_left _ (Nat.pow_le_pow_left hb _)) (wy_bd n hn j hj)
theorem wyN_0 (b k : Nat) : wyN b (k + 1) 0 = wyN b k 0 * b := by
  unfold wyN
  simp only [psN, Nat.pow_zero, Nat.one_mul, Nat.sub_zero, Nat.pow_succ]
theorem wyN_s {b k i : Nat} (hk : k < 10) (hi : i ≤ k) : wyN b (k + 1) (i + 1) = wyN b k (i + 1) * b + wyN b k i * 4 := by
  unfold wyN
  have e1 : k + 1 - (i + 1) = k - i := by omega
  rw [e1, psN, Nat.add_mul, Nat.add_mul]
  have h2 : psN k i * 4 ^ (i + 1) * b ^ (k - i) = psN k i * 4 ^ i * b ^ (k - i) * 4 := by
    rw [Nat.pow_succ, ← Nat.mul_assoc, Nat.mul_right_comm]
  rw [h2]
  congr 1
  by_cases e : i = k
  · subst e
    rw [psN_z i hk, Nat.zero_mul, Nat.zero_mul, Nat.zero_mul, Nat.zero_mul]
  · have e2 : k - i = (k - (i + 1)) + 1 := by omega
    rw [e2, show b ^ (k - (i + 1) + 1) = b ^ (k - (i + 1)) * b from Nat.pow_succ _ _, ← Nat.mul_assoc]
/-- as many or more -/
def smW (b n h : Nat) : Nat → Nat
  | 0 => 0
  | j + 1 => smW b n h j + (if h ≤ j then wyN b n j else 0)
theorem smW_le {b n h : Nat} (hb : b ≤ 95) (hn : n < 10) : ∀ j, j ≤ n + 1 → smW b n h j ≤ j * 95 ^ 9
  | 0, _ => by rw [smW]; omega
  | j + 1, hj => by
    have ih := smW_le (h := h) hb hn j (by omega)
    have hw := wyN_le hb hn (show j < n + 1 by omega)
    rw [smW, Nat.add_mul, Nat.one_mul]
    generalize 95 ^ 9 = M at *
    split <;> omega
theorem smW_z {b n h : Nat} : ∀ j, j ≤ h → smW b n h j = 0
  | 0, _ => rfl
  | j + 1, hj => by rw [smW, smW_z j (by omega), if_neg (by omega)]
theorem f2_power_s (x k : Nat) (hk : k < 100) : f2_power (lN x) (nI k) = some (lN (x ^ k)) := by
  simp only [f2_power, jnE]
  refine lup0 (fun fu i (s : Int64) => f2_power_L5 (lN x) (nI k) fu s i _) k (fun i => lN (x ^ i)) (fun fu i hi => ?_) (fun fu => ?_) rfl (FU_lt (by omega))
  · simp only [f2_power_L5]
    rw [if_neg (nI_ge hi (by omega)), nI_1, lN_mul, ← Nat.pow_succ]
  · simp only [f2_power_L5]
    rw [if_pos (nI_le (Nat.le_refl _) (by omega))]
theorem f2_many_s {n h s : Nat} (hn : n < 10) (hh : h ≤ n) (h1 : 10 ≤ s) (h2 : s ≤ 99) : f2_asManyOrMore (nI n) (nI h) (lN s) = some (lN (smW (s - 4) n h (n + 1))) := by
  simp only [f2_asManyOrMore, jnE]
  refine lup0 (fun fu i (x : Int64 × Int64) => f2_asManyOrMore_L9 (nI n) (nI h) (lN s) fu x.1 x.2 i _) (n + 1) (fun i => (lN (smW (s - 4) n h i), lN (chN n i))) (fun fu i hi => ?_) (fun fu => ?_) (s0 := (0, 1)) rfl (FU_lt (by omega))
  · obtain ⟨c1, c2⟩ := ch_ps n hn i hi
    have hm : chN n i * (n - i) ≤ 126 * 9 := Nat.mul_le_mul c2 (by omega)
    have p4 : f2_power 4 (nI i) = some (lN (4 ^ i)) := f2_power_s 4 i (by omega)
    simp only [f2_asManyOrMore_L9, jnE]
    rw [if_neg (nI_nlt (by omega) (by omega)), pk_sub (by omega), show lN s - 4 = lN (s - 4) from lN_sub (b := 4) (by omega), p4, Option.bind_some, f2_power_s _ _ (by omega), Option.bind_some, nI_1, nI_l (by omega), nI_l (by omega), nzN (by omega) (by omega), gd_t, gd_t, lN_mul, lN_mul, lN_mul, lN_add, pk_lDiv (by omega) (by omega) (by omega), smW, chN]
    by_cases q : h ≤ i
    · rw [if_neg (nI_nlt (by omega) (by omega)), if_pos q]
      unfold wyN
      rw [← c1]
    · rw [if_pos (nI_lt (by omega) (by omega)), if_neg q, Nat.add_zero (smW (s - 4) n h i)]
  · simp only [f2_asManyOrMore_L9]
    rw [if_pos (nI_lt (by omega) (by omega))]
section OD
variable {P C : Nat} {siz law hom hub one fac sea fou byc msiz mtow mhub mone mcla mlaw : Nat → Int32}
def thN (fac : Nat → Int32) (t : Int32) : Nat → Nat := cntN (fun c => fac (c * 5 + 2) = t)
def wiN (P : Nat) (one sea fac : Nat → Int32) (t x : Int32) : Nat → Nat := cntN (fun c => fac (c * 5 + 2) = t ∧ inD P one sea c x = true)
theorem f8_odds_in (hP : P ≤ 10) (hC : C ≤ 9) {p : Nat} (hp : p < P) (K : Int32 → Int32 → Int32 → Option Int64) : f8_odds_L43 (nI C) (nI P) fac hom one sea (nI p) FU 0 0 0 K = K (nI (thN fac (hom p) C)) (nI (wiN P one sea fac (hom p) (one p) C)) (nI C) := by
  refine lup0 (fun fu i (x : Int32 × Int32) => f8_odds_L43 (nI C) (nI P) fac hom one sea (nI p) fu x.1 x.2 i K) C (fun i => (nI (thN fac (hom p) i), nI (wiN P one sea fac (hom p) (one p) i))) (fun fu i hi => ?_) (fun fu => ?_) (s0 := (0, 0)) rfl (FU_lt (by omega))
  · have w2 : f0_fact (nI C) fac (nI i) 2 = some (fac (i * 5 + 2)) := f0_fact_s hC hi (w := 2) (by omega)
    simp only [f8_odds_L43, jnE]
    rw [if_neg (nI_ge hi (by omega)), w2, Option.bind_some, gdi (by omega) (by omega), nI_clamp (by omega), f0_isIn_s hC hP hi, Option.bind_some, nI_1, nI_1, nI_1]
    unfold thN wiN
    rw [cntN, cntN]
    by_cases h1 : fac (i * 5 + 2) = hom p
    · rw [if_pos h1, if_pos h1, b01_0]
      cases hh : inD P one sea i (one p) with
      | true => rw [if_pos (show fac (i * 5 + 2) = hom p ∧ true = true from ⟨h1, rfl⟩)]; rfl
      | false => rw [if_neg (fun q => by cases q.2)]; rfl
    · rw [if_neg h1, if_neg h1, if_neg (fun q => h1 q.1)]
  · simp only [f8_odds_L43]
    rw [if_pos (nI_le (Nat.le_refl _) (by omega))]
theorem f9_odds_in (B : RBx P C siz law hom hub one fac sea fou byc msiz mtow mhub mone mcla mlaw) {p : Nat} (hp : p < P) (K : Int32 → Int32 → Int32 → Option (Int64 × Int64 × Int64 × (Nat → Int64))) : f9_odds_L27 (nI C) mcla mone mtow (nI p) FU 0 0 0 K = K (nI (thN fac (hom p) C)) (nI (wiN P one sea fac (hom p) (one p) C)) (nI C) := by
  have hP := B.1
  have hC := B.2.1
  obtain ⟨mq, q, hq, eq⟩ := B.2.2.2.2.2.2.2.1 p hp
  have mt := (B.2.2.2.2.1 p hp).1
  refine lup0 (fun fu i (x : Int32 × Int32) => f9_odds_L27 (nI C) mcla mone mtow (nI p) fu x.1 x.2 i K) C (fun i => (nI (thN fac (hom p) i), nI (wiN P one sea fac (hom p) (one p) i))) (fun fu i hi => ?_) (fun fu => ?_) (s0 := (0, 0)) rfl (FU_lt (by omega))
  · have w2 : f9_its mcla (nI i) 2 = some (fac (i * 5 + 2)) := f9_its_f B hi (w := 2) (by omega)
    have e1 : ¬ (1 : Int32) = 0 := by decide
    simp only [f9_odds_L27, jnE]
    rw [if_neg (nI_ge hi (by omega)), w2, Option.bind_some, gdi (by omega) (by omega), gdi (by omega) (by omega), nI_clamp (by omega), mt, mq, eq, f9_placesOf_s B hi (by omega), Option.bind_some, nI_1]
    unfold thN wiN
    rw [cntN, cntN]
    by_cases h1 : fac (i * 5 + 2) = hom p
    · rw [if_pos h1, if_pos h1, if_neg e1, if_neg e1, gdi (by omega) (by omega), Option.bind_some]
      cases hb : inD P one sea i (nI q) with
      | false => rw [if_pos ((bmB_0 _).mpr hb), if_neg (fun q => by cases q.2), Int32.add_zero, nI_1]
      | true => rw [if_neg (fun z => by rw [bmB_0] at z; rw [show exN _ 4 = inD P one sea i (nI q) from rfl, hb] at z; cases z), if_pos (show fac (i * 5 + 2) = hom p ∧ true = true from ⟨h1, rfl⟩), nI_1, nI_1]
    · rw [if_neg h1, if_neg h1, if_pos trivial, if_pos trivial, if_neg (fun q => h1 q.1), Int32.add_zero, Int32.add_zero]
  · simp only [f9_odds_L27]
    rw [if_pos (nI_le (Nat.le_refl _) (by omega))]
/-- a loop downwards with an invariant -/
theorem lupD {S R : Type} (G : Nat → Int32 → S → Option R) (n : Nat) (I : Nat → S → Prop) (Q : Option R → Prop) (hs : ∀ fu i s, i < n → I (i + 1) s → (∀ s', I i s' → Q (G fu (nI i) s')) → Q (G (fu + 1) (nI (i + 1)) s)) (hx : ∀ fu s, I 0 s → Q (G (fu + 1) (nI 0) s)) : ∀ c fu s, c ≤ n → c < fu → I c s → Q (G fu (nI c) s) := by
  intro c
  induction c with
  | zero =>
    intro fu s _ h2 h3
    obtain ⟨f, rfl⟩ : ∃ f, fu = f + 1 := ⟨fu - 1, by omega⟩
    exact hx f s h3
  | succ c ih =>
    intro fu s h1 h2 h3
    obtain ⟨f, rfl⟩ : ∃ f, fu = f + 1 := ⟨fu - 1, by omega⟩
    exact hs f c s (by omega) h3 (fun s' h4 => ih f s' (by omega) (by omega) h4)
theorem updLs {f : Nat → Int64} {k j : Nat} {x : Int64} (h : j = k) : vp_updL f k x j = x := by subst h; exact pk_uLs
/-- one more claim: the ways of k + 1 -/
theorem odds_row {k p b : Nat} (hk : k < 9) (hp : p < 10) {sz tw : Nat → Int32} (hb : sz (tw p).toNatClampNeg - 4 = nI b) (hb9 : b ≤ 95) (f : Nat → Int64) (hf : ∀ i, i ≤ k → f i = lN (wyN b k i)) (R : (Nat → Int64) → Option (Int64 × Int64 × Int64 × (Nat → Int64))) : ∃ c, f9_odds_L156 sz tw (nI p) FU (nI (k + 1)) (vp_updL f (k + 1) 0) (fun _ c34 => R c34) = R c ∧ c 0 = lN (wyN b k 0) ∧ ∀ i, i ≤ k → c (i + 1) = lN (wyN b (k + 1) (i + 1)) := by
  refine lupD (fun fu i (s : Nat → Int64) => f9_odds_L156 sz tw (nI p) fu i s (fun _ c34 => R c34)) (k + 1) (fun j s => (∀ i, i ≤ k + 1 → i ≤ j → s i = lN (wyN b k i)) ∧ ∀ i, i ≤ k → j < i + 1 → s (i + 1) = lN (wyN b (k + 1) (i + 1))) (fun o => ∃ c, o = R c ∧ c 0 = lN (wyN b k 0) ∧ ∀ i, i ≤ k → c (i + 1) = lN (wyN b (k + 1) (i + 1))) (fun fu j s hj hI hgo => ?_) (fun fu s hI => ?_) (k + 1) FU _ (Nat.le_refl _) (FU_lt (by omega)) ⟨fun i h1 _ => ?_, fun i h1 h2 => absurd h2 (by omega)⟩
  · simp only [f9_odds_L156]
    rw [if_neg (show ¬ nI (j + 1) ≤ 0 from nI_nle (by omega) (by omega)), gdi (by omega) (by omega), gdi (by omega) (by omega), nI_pred, gdi (by omega) (by omega), nI_clamp (by omega), nI_clamp (by omega), nI_clamp (by omega), hb, nI_l (by omega), hI.1 (j + 1) (by omega) (Nat.le_refl _), hI.1 j (by omega) (by omega), show (4 : Int64) = lN 4 from rfl, lN_mul, lN_mul, lN_add, ← wyN_s (by omega) (by omega), show nI (j + 1) + -1 = nI j from pk_m1 j]
    refine hgo _ ⟨fun i h1 h2 => ?_, fun i h1 h2 => ?_⟩
    · rw [pk_uLn (by omega)]; exact hI.1 i h1 (by omega)
    · by_cases e : i = j
      · rw [updLs (by omega), e]
      · rw [pk_uLn (by omega)]; exact hI.2 i h1 (by omega)
  · simp only [f9_odds_L156]
    rw [if_pos (show nI 0 ≤ 0 by decide)]
    exact ⟨s, rfl, hI.1 0 (by omega) (Nat.le_refl _), fun i h1 => hI.2 i h1 (by omega)⟩
  · by_cases e : i = k + 1
    · rw [updLs e, e]
      unfold wyN
      rw [psN_z k (by omega), Nat.zero_mul, Nat.zero_mul]; rfl
    · rw [pk_uLn e]; exact hf i (by omega)
theorem odds_rows {n p b sv : Nat} (hn : n ≤ 9) (hp : p < 10) {sz tw : Nat → Int32} (hb : sz (tw p).toNatClampNeg - 4 = nI b) (hs : sz (tw p).toNatClampNeg = nI sv) (hs9 : sv ≤ 99) (hb9 : b ≤ 95) (f : Nat → Int64) (R : Int64 → (Nat → Int64) → Option (Int64 × Int64 × Int64 × (Nat → Int64))) : ∃ c, f9_odds_L134 sz tw (nI p) (nI n) FU 1 0 (vp_updL f 0 1) (fun x27 _ c29 => R x27 c29) = R (lN (sv ^ n)) c ∧ ∀ i, i ≤ n → c i = lN (wyN b n i) := by
  rw [n0]
  refine lupR (fun fu i (x : Int64 × (Nat → Int64)) => f9_odds_L134 sz tw (nI p) (nI n) fu x.1 i x.2 (fun x27 _ c29 => R x27 c29)) n 0 (fun k x => x.1 = lN (sv ^ k) ∧ ∀ i, i ≤ k → x.2 i = lN (wyN b k i)) (fun o => ∃ c, o = R (lN (sv ^ n)) c ∧ ∀ i, i ≤ n → c i = lN (wyN b n i)) (fun fu k x h0 hk hI hgo => ?_) (fun fu x hI => ?_) (s0 := (1, vp_updL f 0 1)) ⟨rfl, fun i hi => ?_⟩ (Nat.zero_le _) (FU_lt (by omega))
  · have i0 : ix (0 : Int32) 10 = true := by decide
    have j0 : (0 : Int32).toNatClampNeg = 0 := by decide
    obtain ⟨c, h1, h2, h3⟩ := odds_row (by omega) hp hb hb9 x.2 hI.2 (fun c34 => f9_odds_L134 sz tw (nI p) (nI n) fu (x.1 * lN sv) (nI (k + 1)) (vp_updL c34 0 (c34 0 * lN b)) (fun x27 _ c29 => R x27 c29))
    simp only [f9_odds_L134, jnE]
    rw [if_neg (nI_ge hk (by omega)), nI_1, gdi (by omega) (by omega), nI_clamp (by omega), i0]
    simp only [gd_t, j0]
    rw [nI_clamp (show p < 2 ^ 31 by omega), hb, hs, nI_l (by omega), nI_l (by omega), h1]
    refine hgo (_, _) ⟨?_, fun i hi => ?_⟩
    · show x.1 * lN sv = _
      rw [hI.1, lN_mul, ← Nat.pow_succ]
    · show vp_updL c 0 (c 0 * lN b) i = _
      cases i with
      | zero => rw [updLs rfl, h2, lN_mul, ← wyN_0]
      | succ i => rw [pk_uLn (by omega), h3 i (by omega)]
  · simp only [f9_odds_L134]
    rw [if_pos (nI_le (Nat.le_refl _) (by omega)), hI.1]
    exact ⟨x.2, rfl, hI.2⟩
  · have e : i = 0 := by omega
    subst e
    show vp_updL f 0 1 0 = _
    rw [updLs rfl]
    unfold wyN
    simp only [psN, Nat.pow_zero, Nat.mul_one]; rfl
theorem odds_sum {n h b : Nat} (hn : n ≤ 9) (hh : h ≤ n) (c : Nat → Int64) (hc : ∀ i, i ≤ n → c i = lN (wyN b n i)) (K : Int64 → Int32 → Option (Int64 × Int64 × Int64 × (Nat → Int64))) : f9_odds_L236 (nI n) c FU 0 (nI h) K = K (lN (smW b n h (n + 1))) (nI (n + 1)) := by
  refine lupA (fun fu i (x : Int64) => f9_odds_L236 (nI n) c fu x i K) (n + 1) h (fun i => lN (smW b n h i)) (fun fu i h1 h2 => ?_) (fun fu => ?_) (by rw [smW_z h (Nat.le_refl _)]; rfl) (by omega) (FU_lt (by omega))
  · simp only [f9_odds_L236]
    rw [if_neg (nI_nlt (by omega) (by omega)), gdi (by omega) (by omega), nI_clamp (by omega), nI_1, hc i (by omega), lN_add, smW, if_pos h1]
  · simp only [f9_odds_L236]
    rw [if_pos (nI_lt (by omega) (by omega))]
theorem odds_both (B : RBx P C siz law hom hub one fac sea fou byc msiz mtow mhub mone mcla mlaw) {p : Nat} (hp : p < P) {p2 : Int32} (h2 : inN p2 2) (ab be : Int64) (oft : Nat → Int64) : ∃ v b1 b2 b3, f8_odds (nI C) (nI P) fac hom one sea siz (nI p) p2 = some v ∧ f9_odds (nI C) (nI P) mcla mone msiz mtow ab be oft (nI p) p2 = some (v, b1, b2, b3) := by
  have hP := B.1
  have hC := B.2.1
  obtain ⟨mt, t, ht, et⟩ := B.2.2.2.2.1 p hp
  obtain ⟨ms, sv, hs1, hs2, es⟩ := B.2.2.1 t ht
  have hth : thN fac (hom p) C ≤ C := cntN_le _ C
  have hwi : wiN P one sea fac (hom p) (one p) C ≤ thN fac (hom p) C := cntN_mono _ _ C (fun i _ q => q.1)
  have F8 : f8_odds (nI C) (nI P) fac hom one sea siz (nI p) p2 = some (if p2 = 0 then lN (smW (sv - 4) (thN fac (hom p) C) (wiN P one sea fac (hom p) (one p) C) (thN fac (hom p) C + 1) / Nat.gcd (smW (sv - 4) (thN fac (hom p) C) (wiN P one sea fac (hom p) (one p) C) (thN fac (hom p) C + 1)) (sv ^ thN fac (hom p) C)) else lN (sv ^ thN fac (hom p) C / Nat.gcd (smW (sv - 4) (thN fac (hom p) C) (wiN P one sea fac (hom p) (one p) C) (thN fac (hom p) C + 1)) (sv ^ thN fac (hom p) C))) ∧ ∃ b1 b2 b3, f9_odds (nI C) (nI P) mcla mone msiz mtow ab be oft (nI p) p2 = some (if p2 = 0 then lN (smW (sv - 4) (thN fac (hom p) C) (wiN P one sea fac (hom p) (one p) C) (thN fac (hom p) C + 1) / Nat.gcd (smW (sv - 4) (thN fac (hom p) C) (wiN P one sea fac (hom p) (one p) C) (thN fac (hom p) C + 1)) (sv ^ thN fac (hom p) C)) else lN (sv ^ thN fac (hom p) C / Nat.gcd (smW (sv - 4) (thN fac (hom p) C) (wiN P one sea fac (hom p) (one p) C) (thN fac (hom p) C + 1)) (sv ^ thN fac (hom p) C)), b1, b2, b3) := by
    have hin8 := fun K => f8_odds_in (fac := fac) (hom := hom) (one := one) (sea := sea) hP hC hp K
    have hin9 := fun K => f9_odds_in B hp K
    generalize thN fac (hom p) C = n at *
    generalize wiN P one sea fac (hom p) (one p) C = w at *
    have hA : smW (sv - 4) n w (n + 1) < 2 ^ 63 := by
      have := smW_le (b := sv - 4) (n := n) (h := w) (by omega) (by omega) (n + 1) (Nat.le_refl _)
      have h10 : (n + 1) * 95 ^ 9 ≤ 10 * 95 ^ 9 := Nat.mul_le_mul_right _ (by omega)
      have e : 10 * 95 ^ 9 < 2 ^ 63 := by decide
      exact Nat.lt_of_le_of_lt (Nat.le_trans this h10) e
    have hD : sv ^ n < 2 ^ 63 := by
      have h1 : sv ^ n ≤ 99 ^ n := Nat.pow_le_pow_left hs2 n
      have h3 : 99 ^ n ≤ 99 ^ 9 := Nat.pow_le_pow_right (by decide) (by omega)
      have e : 99 ^ 9 < 2 ^ 63 := by decide
      exact Nat.lt_of_le_of_lt (Nat.le_trans h1 h3) e
    have hD0 : 0 < sv ^ n := Nat.pow_pos (by omega)
    refine ⟨?_, ?_⟩
    · unfold f8_odds
      rw [f0_isPerson_s (by omega), Option.bind_some, gI, if_pos (inN_nI hp (by omega)), gS, if_pos h2, gdi (by omega) (by omega)]
      simp only [jnE]
      rw [hin8, nI_clamp (by omega), et, gdi (by omega) (by omega), nI_clamp (by omega), es, nI_l (by omega), f2_many_s (by omega) hwi hs1 hs2, Option.bind_some, f2_power_s _ _ (by omega), Option.bind_some, f2_part_s hA hD hD0, Option.bind_some]
    · have i0 : ix (0 : Int32) 10 = true := by decide
      have j0 : (0 : Int32).toNatClampNeg = 0 := by decide
      have hsz : msiz (mtow p).toNatClampNeg = nI sv := by rw [mt, et, nI_clamp (by omega), ms, es]
      have hsb : msiz (mtow p).toNatClampNeg - 4 = nI (sv - 4) := by rw [hsz, n4, pk_sub (by omega)]
      obtain ⟨c, h1, h3⟩ := odds_rows (n := n) (p := p) (b := sv - 4) (sv := sv) (sz := msiz) (tw := mtow) (by omega) (by omega) hsb hsz hs2 (by omega) oft (fun x27 c29 => f9_odds_L236 (nI n) c29 FU 0 (nI w) fun x44 _ => bn2 (f9_lowest ab be x44 x27) fun c50 c51 => if p2 = 0 then some (c50, c50, c51, c29) else some (c51, c50, c51, c29))
      refine ⟨lN (smW (sv - 4) n w (n + 1) / Nat.gcd (smW (sv - 4) n w (n + 1)) (sv ^ n)), lN (sv ^ n / Nat.gcd (smW (sv - 4) n w (n + 1)) (sv ^ n)), c, ?_⟩
      unfold f9_odds
      rw [f9_isPerson_s (by omega), Option.bind_some, gI, if_pos (inN_nI hp (by omega)), f9_isSide_s, Option.bind_some, gI, if_pos h2]
      simp only [jnE]
      rw [hin9, gdi (by omega) (by omega), nI_clamp (show p < 2 ^ 31 by omega), mt, et, gdi (by omega) (by omega), i0, gd_t, j0, h1, odds_sum (by omega) hwi c h3, f9_lowest_s hA hD hD0, bn2E]
      by_cases h4 : p2 = 0
      · rw [if_pos h4, if_pos h4]
      · rw [if_neg h4, if_neg h4]
  obtain ⟨F8, b1, b2, b3, F9⟩ := F8
  exact ⟨_, b1, b2, b3, F8, F9⟩
end OD
theorem op_odds : Op_odds Rl := by
  intro r g u h p1 p2 hR
  have hR0 := hR
  obtain ⟨⟨P, C, e0, e30, e1, e31, ez, B⟩, hM, hRR, hK, hT, hW, hH, hS, hP⟩ := hR
  have hP10 := B.1
  rw [e0, e30, e1, e31]
  by_cases h1 : inN p1 P
  · obtain ⟨p, hp, rfl⟩ := inN_of (by omega) h1
    by_cases h2 : inN p2 2
    · obtain ⟨v, b1, b2, b3, F8, F9⟩ := odds_both B hp h2 (u 1) (u 2) (h 69)
      exact ⟨v, b1, b2, b3, F8, F9, hR0⟩
    · refine ⟨-1, u 1, u 2, h 69, ?_, ?_, hR0⟩
      · unfold f8_odds
        rw [f0_isPerson_s (by omega), Option.bind_some, gI, if_pos h1, gS, if_neg h2]
      · unfold f9_odds
        rw [f9_isPerson_s (by omega), Option.bind_some, gI, if_pos h1, f9_isSide_s, Option.bind_some, gI, if_neg h2]
  · refine ⟨-1, u 1, u 2, h 69, ?_, ?_, hR0⟩
    · unfold f8_odds
      rw [f0_isPerson_s (by omega), Option.bind_some, gI, if_neg h1]
    · unfold f9_odds
      rw [f9_isPerson_s (by omega), Option.bind_some, gI, if_neg h1]
