/-! ===== likely, best ===== -/
def lkS (P C : Nat) (hub one fac sea law : Nat → Int32) (c : Nat) : Int32 := smI (fun o => if o = c then 0 else strS P hub one fac sea law c o) C
def lkM (v : Int32) : Int32 := if (9 : Int32) < v then 9 else v
def suS (w : Nat → Int32) (n s : Nat) : Int32 := smI (fun c => if s.testBit c = true then w c else 0) n
theorem suS_congr (w : Nat → Int32) {n s t : Nat} (h : ∀ i, i < n → s.testBit i = t.testBit i) : suS w n s = suS w n t := smI_congr _ _ n (fun i hi => by rw [h i hi])
theorem suS_new (w : Nat → Int32) {c s : Nat} (hs : s < 2 ^ c) : suS w (c + 1) (2 ^ c + s) = suS w c s + w c := by
  show suS w c (2 ^ c + s) + (if (2 ^ c + s).testBit c = true then w c else 0) = _
  rw [Nat.testBit_two_pow_add_eq, Nat.testBit_lt_two_pow hs, Bool.not_false, if_pos rfl, suS_congr w (fun i hi => Nat.testBit_two_pow_add_gt hi s)]
theorem suS_low (w : Nat → Int32) {c s : Nat} (hs : s < 2 ^ c) : suS w (c + 1) s = suS w c s := by
  show suS w c s + (if s.testBit c = true then w c else 0) = _
  rw [Nat.testBit_lt_two_pow hs, if_neg (by decide), Int32.add_zero]
theorem suS_zero (w : Nat → Int32) (n : Nat) : suS w n 0 = 0 := smI_zero _ n (fun i _ => by rw [Nat.zero_testBit]; exact if_neg (by decide))
/-- the set to ask about, among those below n -/
def asB (H V : Nat → Int32) (lim : Int32) : Nat → Nat
  | 0 => 0
  | n + 1 => if 1 ≤ n ∧ ¬ lim < H n ∧ ¬ V n ≤ V (asB H V lim n) then n else asB H V lim n
theorem asB_lt (H V : Nat → Int32) (lim : Int32) : ∀ n, asB H V lim n < max 1 n
  | 0 => by rw [asB]; omega
  | n + 1 => by
    have ih := asB_lt H V lim n
    rw [asB]
    split <;> omega
theorem asB_1 (H V : Nat → Int32) (lim : Int32) : asB H V lim 1 = 0 := by rw [asB, if_neg (by omega)]; rfl
section BE
variable {P C : Nat} {siz law hom hub one fac sea fou byc msiz mtow mhub mone mcla mlaw : Nat → Int32}
theorem f7_likelihood_s (B : RBx P C siz law hom hub one fac sea fou byc msiz mtow mhub mone mcla mlaw) {c : Nat} (hc : c < C) : f7_likelihood (nI C) (nI P) fac hub law one sea (nI c) = some (lkM (lkS P C hub one fac sea law c)) := by
  have hC := B.2.1
  simp only [f7_likelihood, jnE]
  refine lup0 (fun fu i (s : Int32) => f7_likelihood_L5 (nI C) (nI P) fac hub law one sea (nI c) fu s i _) C (fun i => smI (fun o => if o = c then 0 else strS P hub one fac sea law c o) i) (fun fu i hi => ?_) (fun fu => ?_) rfl (FU_lt (by omega))
  · simp only [f7_likelihood_L5, jnE]
    rw [if_neg (nI_ge hi (by omega)), f7_strength_s B (hLall _) hc hi, Option.bind_some, nI_1, smI]
    by_cases h1 : i = c
    · rw [if_pos (by rw [h1]), if_pos h1, Int32.add_zero]
    · rw [if_neg (fun q => h1 (nI_inj (by omega) (by omega) q)), if_neg h1]
  · simp only [f7_likelihood_L5]
    rw [if_pos (nI_le (Nat.le_refl _) (by omega))]
    rfl
theorem f9_likelyOf_s (B : RBx P C siz law hom hub one fac sea fou byc msiz mtow mhub mone mcla mlaw) {c : Nat} (hc : c < C) : f9_likelyOf (nI C) (nI P) mcla mhub mlaw mone (nI c) = some (lkM (lkS P C hub one fac sea law c)) := by
  have hC := B.2.1
  simp only [f9_likelyOf, jnE]
  refine lup0 (fun fu i (s : Int32) => f9_likelyOf_L4 (nI C) (nI P) mcla mhub mlaw mone (nI c) fu s i _) C (fun i => smI (fun o => if o = c then 0 else strS P hub one fac sea law c o) i) (fun fu i hi => ?_) (fun fu => ?_) rfl (FU_lt (by omega))
  · simp only [f9_likelyOf_L4, jnE]
    rw [if_neg (nI_ge hi (by omega)), f9_strengthOf_s B (L := law) (fun s hs => (B.2.2.2.1 s (by omega)).1) hi hc, Option.bind_some, nI_1, smI, strS_comm]
    by_cases h1 : i = c
    · rw [if_pos (by rw [h1]), if_pos h1]
    · rw [if_neg (fun q => h1 (nI_inj (by omega) (by omega) q)), if_neg h1]
  · simp only [f9_likelyOf_L4]
    rw [if_pos (nI_le (Nat.le_refl _) (by omega))]
    show _ = some (lkM (smI (fun o => if o = c then 0 else strS P hub one fac sea law c o) C))
    unfold lkM
    by_cases h : smI (fun o => if o = c then 0 else strS P hub one fac sea law c o) C ≤ 9
    · rw [if_pos h, if_neg (fun q => Int32.not_le.mpr q h)]
    · rw [if_neg h, if_pos (Int32.not_le.mp h)]
def hrS (sea : Nat → Int32) (c : Nat) : Int32 := 1 + cnt (fun k => ¬ sea (c * 4 + k) = -9) 4
def wrS (P C : Nat) (hub one fac sea law : Nat → Int32) (c : Nat) : Int32 := lkM (lkS P C hub one fac sea law c) * fac (c * 5 + 4) - law 6 * (10 - lkM (lkS P C hub one fac sea law c))
def AS (C : Nat) (H V : Nat → Int32) (v : Int32) (o : Option (Int32 × (Nat → Int32) × (Nat → Int32))) : Prop := ∃ c1 c2, o = some (v, c1, c2) ∧ ∀ s, s < 2 ^ C → c2 s = V s
theorem f7_findAsked_s (B : RBx P C siz law hom hub one fac sea fou byc msiz mtow mhub mone mcla mlaw) (ho sc : Nat → Int32) : AS C (suS (hrS sea) C) (suS (wrS P C hub one fac sea law) C) (nI (asB (suS (hrS sea) C) (suS (wrS P C hub one fac sea law) C) (law 5) (2 ^ C))) (f7_findAsked (nI C) (nI P) fac hub law one sea ho sc) := by
  have hC := B.2.1
  have i0 : ix (0 : Int32) 512 = true := by decide
  have i1 : (0 : Int32).toNatClampNeg = 0 := by decide
  have w5 : f0_law law 5 = some (law 5) := f0_law_s (j := 5) (by omega)
  have w6 : f0_law law 6 = some (law 6) := f0_law_s (j := 6) (by omega)
  have hp9 : 2 ^ C ≤ 2 ^ 9 := Nat.pow_le_pow_right (by decide) hC
  simp only [f7_findAsked, jnE]
  rw [i0, gd_t, gd_t, i1, n0]
  refine lupR (fun fu i (x : (Nat → Int32) × (Nat → Int32)) => f7_findAsked_L16 (nI C) (nI P) fac hub law one sea fu i x.1 x.2 _) C 0 (fun c x => (∀ s, s < 2 ^ c → x.1 s = suS (hrS sea) c s) ∧ ∀ s, s < 2 ^ c → x.2 s = suS (wrS P C hub one fac sea law) c s) (AS C (suS (hrS sea) C) (suS (wrS P C hub one fac sea law) C) (nI (asB (suS (hrS sea) C) (suS (wrS P C hub one fac sea law) C) (law 5) (2 ^ C)))) (fun fu c x h0 hc hI hk => ?_) (fun fu x hI => ?_) (s0 := (upd ho 0 (nI 0), upd sc 0 (nI 0))) ⟨fun s hs => ?_, fun s hs => ?_⟩ (Nat.zero_le _) (FU_lt (by omega))
  · have w4 : f0_fact (nI C) fac (nI c) 4 = some (fac (c * 5 + 4)) := f0_fact_s hC hc (w := 4) (by omega)
    have hp : 2 ^ c < 2 ^ 9 := Nat.pow_lt_pow_right (by decide) (by omega)
    have hpp : 2 ^ (c + 1) = 2 ^ c + 2 ^ c := by rw [Nat.pow_succ]; omega
    have hp1 : 2 ^ (c + 1) ≤ 2 ^ 9 := Nat.pow_le_pow_right (by decide) (by omega)
    simp only [f7_findAsked_L16, jnE]
    rw [if_neg (nI_ge hc (by omega)), f7_likelihood_s B hc, Option.bind_some, w4, Option.bind_some, w6, Option.bind_some, f0_seated_s hC hc, Option.bind_some, nI_1, n0]
    refine lupR (fun fu j (x : (Nat → Int32) × (Nat → Int32)) => f7_findAsked_L65 (nI c) (lkM (lkS P C hub one fac sea law c)) (fac (c * 5 + 4)) (law 6) (cnt (fun k => ¬ sea (c * 4 + k) = -9) 4) fu j x.1 x.2 _) (2 ^ c) 0 (fun t x => ((∀ s, s < 2 ^ c → x.1 s = suS (hrS sea) c s) ∧ ∀ s, s < 2 ^ c → x.2 s = suS (wrS P C hub one fac sea law) c s) ∧ (∀ s, s < t → x.1 (2 ^ c + s) = suS (hrS sea) (c + 1) (2 ^ c + s)) ∧ ∀ s, s < t → x.2 (2 ^ c + s) = suS (wrS P C hub one fac sea law) (c + 1) (2 ^ c + s)) (AS C (suS (hrS sea) C) (suS (wrS P C hub one fac sea law) C) (nI (asB (suS (hrS sea) C) (suS (wrS P C hub one fac sea law) C) (law 5) (2 ^ C)))) (fun fu t x h0 ht hJ hk2 => ?_) (fun fu x hJ => ?_) ⟨hI, fun s hs => absurd hs (by omega), fun s hs => absurd hs (by omega)⟩ (Nat.zero_le _) (FU_lt (by omega))
    · have hor : t ||| 2 ^ c = 2 ^ c + t := by
        have := Nat.two_pow_add_eq_or_of_lt ht 1
        rw [Nat.mul_one] at this
        rw [this, Nat.or_comm]
      simp only [f7_findAsked_L65]
      rw [bx_pow (by omega), if_neg (nI_ge ht (by omega)), bx_or, hor, gdi (by omega) (by omega), gdi (by omega) (by omega), gdi (by omega) (by omega), gdi (by omega) (by omega), nI_clamp (by omega), nI_clamp (by omega), nI_1]
      refine hk2 (_, _) ⟨⟨fun s hs => ?_, fun s hs => ?_⟩, fun s hs => ?_, fun s hs => ?_⟩
      · show upd x.1 _ _ s = _
        rw [upd_n (by omega)]; exact hJ.1.1 s hs
      · show upd x.2 _ _ s = _
        rw [upd_n (by omega)]; exact hJ.1.2 s hs
      · show upd x.1 _ _ _ = _
        by_cases e : s = t
        · subst e
          rw [upd_s, hJ.1.1 s ht, suS_new _ ht]; rfl
        · rw [upd_n (by omega)]; exact hJ.2.1 s (by omega)
      · show upd x.2 _ _ _ = _
        by_cases e : s = t
        · subst e
          rw [upd_s, hJ.1.2 s ht, suS_new _ ht]; rfl
        · rw [upd_n (by omega)]; exact hJ.2.2 s (by omega)
    · simp only [f7_findAsked_L65]
      rw [bx_pow (by omega), if_pos (nI_le (Nat.le_refl _) (by omega))]
      refine hk x ⟨fun s hs => ?_, fun s hs => ?_⟩
      · rcases Nat.lt_or_ge s (2 ^ c) with h | h
        · rw [hJ.1.1 s h, suS_low _ h]
        · have h2 := hJ.2.1 (s - 2 ^ c) (by omega)
          rw [show 2 ^ c + (s - 2 ^ c) = s by omega] at h2
          exact h2
      · rcases Nat.lt_or_ge s (2 ^ c) with h | h
        · rw [hJ.1.2 s h, suS_low _ h]
        · have h2 := hJ.2.2 (s - 2 ^ c) (by omega)
          rw [show 2 ^ c + (s - 2 ^ c) = s by omega] at h2
          exact h2
  · have hp0 := Nat.two_pow_pos C
    simp only [f7_findAsked_L16]
    rw [if_pos (nI_le (Nat.le_refl _) (by omega))]
    refine ⟨x.1, x.2, ?_, hI.2⟩
    generalize suS (hrS sea) C = H at *
    generalize suS (wrS P C hub one fac sea law) C = V at *
    rw [n1]
    refine lupA (fun fu i (y : Int32) => f7_findAsked_L131 (nI C) law x.1 x.2 fu y i _) (2 ^ C) 1 (fun i => nI (asB H V (law 5) i)) (fun fu i hi1 hi => ?_) (fun fu => ?_) (by rw [asB_1]) (by omega) (FU_lt (by omega))
    · have hb := asB_lt H V (law 5) i
      simp only [f7_findAsked_L131, jnE]
      rw [bx_all hC, Option.bind_some, if_neg (nI_nlt (by omega) (by omega)), gdi (by omega) (by omega), w5, Option.bind_some, nI_clamp (by omega), f7_scoreOf_s _ (by omega), f7_scoreOf_s _ (by omega), Option.bind_some, Option.bind_some, hI.1 i hi, hI.2 i hi, hI.2 _ (by omega), nI_1, asB]
      by_cases q1 : law 5 < H i
      · rw [if_pos q1, if_neg (fun q => q.2.1 q1)]
      · rw [if_neg q1]
        by_cases q2 : V i ≤ V (asB H V (law 5) i)
        · rw [if_pos q2, if_neg (fun q => q.2.2 q2)]
        · rw [if_neg q2, if_pos ⟨hi1, q1, q2⟩]
    · simp only [f7_findAsked_L131]
      rw [bx_all hC, Option.bind_some, if_pos (nI_lt (by omega) (by omega))]
  · have : s = 0 := by
      have h1 : (2 : Nat) ^ 0 = 1 := rfl
      omega
    subst this
    rfl
  · have : s = 0 := by
      have h1 : (2 : Nat) ^ 0 = 1 := rfl
      omega
    subst this
    rfl
/-- the reference's hours and worths -/
def MB (C : Nat) (H V : Nat → Int32) (lim : Int32) (p1 : Int32) (o : Option (Int32 × (Nat → Int32) × (Nat → Int32))) : Prop := ∃ c1 c2, o = some (if p1 = 0 then nI (asB H V lim (2 ^ C)) else 100000 + V (asB H V lim (2 ^ C)), c1, c2)
theorem f9_best_in (hC : C ≤ 9) {hw ww c3 c4 : Nat → Int32} (h3 : ∀ c, c < C → c3 c = hw c) (h4 : ∀ c, c < C → c4 c = ww c) {s : Nat} (hs : s < 512) (K : Int32 → Int32 → Int32 → Option (Int32 × (Nat → Int32) × (Nat → Int32))) : f9_best_L98 (nI C) c3 c4 (nI s) FU 0 0 0 K = K (suS hw C s) (suS ww C s) (nI C) := by
  refine lup0 (fun fu i (x : Int32 × Int32) => f9_best_L98 (nI C) c3 c4 (nI s) fu x.1 x.2 i K) C (fun i => (suS hw i s, suS ww i s)) (fun fu i hi => ?_) (fun fu => ?_) (s0 := (0, 0)) rfl (FU_lt (by omega))
  · simp only [f9_best_L98, jnE]
    rw [if_neg (nI_ge hi (by omega)), bx_t1 (by omega) (by omega), bx_t1 (by omega) (by omega), bx_t1 (by omega) (by omega), gdi (by omega) (by omega), gdi (by omega) (by omega), gdi (by omega) (by omega), nI_clamp (by omega), h3 i hi, h4 i hi, nI_1, show suS hw (i + 1) s = suS hw i s + (if s.testBit i = true then hw i else 0) from rfl, show suS ww (i + 1) s = suS ww i s + (if s.testBit i = true then ww i else 0) from rfl]
    by_cases h : s.testBit i = true
    · simp only [if_pos h]
    · simp only [if_neg h]
  · simp only [f9_best_L98]
    rw [if_pos (nI_le (Nat.le_refl _) (by omega))]
theorem f9_best_s (B : RBx P C siz law hom hub one fac sea fou byc msiz mtow mhub mone mcla mlaw) (ho wo : Nat → Int32) {p1 : Int32} (h1 : inN p1 2) : MB C (suS (hrS sea) C) (suS (wrS P C hub one fac sea law) C) (law 5) p1 (f9_best (nI C) (nI P) mcla ho mhub mlaw mone wo p1) := by
  have hC := B.2.1
  have hp9 : 2 ^ C ≤ 2 ^ 9 := Nat.pow_le_pow_right (by decide) hC
  have hp0 := Nat.two_pow_pos C
  have i5 : ix (5 : Int32) 7 = true := by decide
  have j5 : (5 : Int32).toNatClampNeg = 5 := by decide
  have i6 : ix (6 : Int32) 7 = true := by decide
  have j6 : (6 : Int32).toNatClampNeg = 6 := by decide
  have l5 : mlaw 5 = law 5 := (B.2.2.2.1 5 (by omega)).1
  have l6 : mlaw 6 = law 6 := (B.2.2.2.1 6 (by omega)).1
  unfold f9_best
  rw [f9_isSide_s, Option.bind_some, gI, if_pos h1, jnE, n0]
  refine lupR (fun fu i (x : (Nat → Int32) × (Nat → Int32)) => f9_best_L11 (nI C) (nI P) mcla mhub mlaw mone fu i x.1 x.2 _) C 0 (fun k x => ∀ c, c < k → x.1 c = hrS sea c ∧ x.2 c = wrS P C hub one fac sea law c) (MB C (suS (hrS sea) C) (suS (wrS P C hub one fac sea law) C) (law 5) p1) (fun fu c x h0 hc hI hk => ?_) (fun fu x hI => ?_) (s0 := (ho, wo)) (fun c hc => absurd hc (by omega)) (Nat.zero_le _) (FU_lt (by omega))
  · have w4 : f9_its mcla (nI c) 4 = some (fac (c * 5 + 4)) := f9_its_f B hc (w := 4) (by omega)
    simp only [f9_best_L11]
    rw [if_neg (nI_ge hc (by omega)), f9_likelyOf_s B hc, Option.bind_some, f9_peopleIn_s B hc, Option.bind_some, gdi (by omega) (by omega), w4, Option.bind_some, i6, gd_t, gdi (by omega) (by omega), j6, l6, nI_clamp (by omega), nI_1]
    refine hk (_, _) (fun k hk1 => ?_)
    show upd x.1 c _ k = _ ∧ upd x.2 c _ k = _
    by_cases e : k = c
    · subst e
      rw [upd_s, upd_s]
      exact ⟨rfl, rfl⟩
    · rw [upd_n e, upd_n e]
      exact hI k (by omega)
  · simp only [f9_best_L11, jnE]
    rw [if_pos (nI_le (Nat.le_refl _) (by omega))]
    refine ⟨x.1, x.2, ?_⟩
    have hin : ∀ s, s < 512 → ∀ K, f9_best_L98 (nI C) x.1 x.2 (nI s) FU 0 0 0 K = K (suS (hrS sea) C s) (suS (wrS P C hub one fac sea law) C s) (nI C) := fun s hs K => f9_best_in hC (fun c hc => (hI c hc).1) (fun c hc => (hI c hc).2) hs K
    have hV0 := suS_zero (wrS P C hub one fac sea law) C
    generalize suS (hrS sea) C = H at *
    generalize suS (wrS P C hub one fac sea law) C = V at *
    rw [n1]
    refine lupA (fun fu i (y : Int32 × Int32) => f9_best_L78 (nI C) mlaw x.1 x.2 fu y.1 y.2 i _) (2 ^ C) 1 (fun i => (nI (asB H V (law 5) i), V (asB H V (law 5) i))) (fun fu i hi1 hi => ?_) (fun fu => ?_) (s0 := (nI 0, nI 0)) (by rw [asB_1, hV0]; rfl) (by omega) (FU_lt (by omega))
    · have hb := asB_lt H V (law 5) i
      simp only [f9_best_L78, jnE]
      rw [bx_pow (by omega), if_neg (nI_ge hi (by omega)), hin i (by omega), i5, gd_t, j5, l5, nI_1, asB]
      by_cases q1 : law 5 < H i
      · rw [if_pos q1, if_neg (fun q => q.2.1 q1)]
      · rw [if_neg q1]
        by_cases q2 : V i ≤ V (asB H V (law 5) i)
        · rw [if_pos q2, if_neg (fun q => q.2.2 q2)]
        · rw [if_neg q2, if_pos ⟨hi1, q1, q2⟩]
    · simp only [f9_best_L78]
      rw [bx_pow (by omega), if_pos (nI_le (Nat.le_refl _) (by omega))]
      by_cases h3 : p1 = 0
      · rw [h3, if_pos (show (0 : Int32) = nI 0 from rfl), if_pos rfl]
      · rw [if_neg (show ¬ p1 = nI 0 from h3), if_neg h3]
end BE
theorem op_likely : Op_likely Rl := by
  intro r g u h p1 hR
  have hR0 := hR
  obtain ⟨⟨P, C, e0, e30, e1, e31, ez, B⟩, hM, hRR, hK, hT, hW, hH, hS, hP⟩ := hR
  have hC := B.2.1
  rw [e0, e30, e1, e31]
  by_cases h1 : inN p1 C
  · obtain ⟨a, ha, rfl⟩ := inN_of (by omega) h1
    refine ⟨lkM (lkS P C (g 5) (g 6) (g 7) (g 8) (g 3) a), ?_, ?_, hR0⟩
    · unfold f8_likely
      rw [f0_isClaim_s (by omega), Option.bind_some, gI, if_pos h1, f7_likelihood_s B ha]; rfl
    · unfold f9_likely
      rw [f9_isClaim_s (by omega), Option.bind_some, gI, if_pos h1, f9_likelyOf_s B ha]; rfl
  · refine ⟨-1, ?_, ?_, hR0⟩
    · unfold f8_likely
      rw [f0_isClaim_s (by omega), Option.bind_some, gI, if_neg h1]
    · unfold f9_likely
      rw [f9_isClaim_s (by omega), Option.bind_some, gI, if_neg h1]
theorem op_best : Op_best Rl := by
  intro r g u h p1 hR
  have hR0 := hR
  obtain ⟨⟨P, C, e0, e30, e1, e31, ez, B⟩, hM, hRR, hK, hT, hW, hH, hS, hP⟩ := hR
  have hC := B.2.1
  rw [e0, e30, e1, e31]
  by_cases h1 : inN p1 2
  · obtain ⟨c1, c2, hh, hsc⟩ := f7_findAsked_s B (g 30) (g 29)
    obtain ⟨b1, b2, hb⟩ := f9_best_s B (g 70) (g 71) h1
    have hlt := asB_lt (suS (hrS (g 8)) C) (suS (wrS P C (g 5) (g 6) (g 7) (g 8) (g 3)) C) (g 3 5) (2 ^ C)
    have hp0 := Nat.two_pow_pos C
    have hlt2 : asB (suS (hrS (g 8)) C) (suS (wrS P C (g 5) (g 6) (g 7) (g 8) (g 3)) C) (g 3 5) (2 ^ C) < 2 ^ C := by omega
    refine ⟨if p1 = 0 then nI (asB (suS (hrS (g 8)) C) (suS (wrS P C (g 5) (g 6) (g 7) (g 8) (g 3)) C) (g 3 5) (2 ^ C)) else 100000 + suS (wrS P C (g 5) (g 6) (g 7) (g 8) (g 3)) C (asB (suS (hrS (g 8)) C) (suS (wrS P C (g 5) (g 6) (g 7) (g 8) (g 3)) C) (g 3 5) (2 ^ C)), c1, c2, b1, b2, ?_, hb, hR0⟩
    unfold f8_best
    rw [gS, if_pos h1, hh, bn3E, f7_scoreOf_s _ (p512 hC hlt2), hsc _ hlt2, Option.bind_some]
    by_cases h3 : p1 = 0
    · rw [if_pos h3, if_pos h3]
    · rw [if_neg h3, if_neg h3, Int32.add_comm]
  · refine ⟨-1, g 30, g 29, g 70, g 71, ?_, ?_, hR0⟩
    · unfold f8_best
      rw [gS, if_neg h1]
    · unfold f9_best
      rw [f9_isSide_s, Option.bind_some, gI, if_neg h1]
