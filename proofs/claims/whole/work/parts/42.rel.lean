/-! ===== pure part: what ties the class's memory to the reference's ===== -/
/-- people, claims, laws -/
def RBx (P C : Nat) (siz law hom hub one fac sea fou byc : Nat → Int32) (msiz mtow mhub mone mcla mlaw : Nat → Int32) : Prop :=
  P ≤ 10 ∧ C ≤ 9 ∧
  (∀ t, t < 4 → msiz t = siz t ∧ ∃ s : Nat, 10 ≤ s ∧ s ≤ 99 ∧ siz t = nI s) ∧
  (∀ j, j < 7 → mlaw j = law j ∧ ∃ v : Nat, v ≤ 30 ∧ law j = nI v) ∧
  (∀ p, p < P → mtow p = hom p ∧ ∃ t : Nat, t < 4 ∧ hom p = nI t) ∧
  (∀ p, p < P → mhub p = hub p) ∧
  (∀ p, p < 10 → hub p = 0 ∨ hub p = 1) ∧
  (∀ p, p < P → mone p = one p ∧ ∃ q : Nat, q < P ∧ one p = nI q) ∧
  (∀ c w, c < C → w < 5 → mcla (11 * c + w) = fac (c * 5 + w) ∧ ∃ v : Nat, v ≤ 99 ∧ fac (c * 5 + w) = nI v) ∧
  (∀ c, c < C → (∃ v : Nat, v < 6 ∧ fac (c * 5) = nI v) ∧ ∃ v : Nat, v < 4 ∧ fac (c * 5 + 2) = nI v) ∧
  (∀ c k, c < C → k < 4 → (sea (c * 4 + k) = -9 ∧ mcla (11 * c + (5 + k)) = -1) ∨ ∃ p : Nat, p < P ∧ sea (c * 4 + k) = nI p ∧ mcla (11 * c + (5 + k)) = nI p) ∧
  (∀ c, c < C → (fou c = -9 ∧ mcla (11 * c + 9) = 0) ∨ (fou c = 0 ∧ mcla (11 * c + 9) = 1) ∨ (fou c = 1 ∧ mcla (11 * c + 9) = 2)) ∧
  (∀ c, c < C → mcla (11 * c + 10) = byc c) ∧
  (∀ c, c < 9 → byc c = 0 ∨ byc c = 1)
section RM
variable {P C : Nat} {siz law hom hub one fac sea fou byc msiz mtow mhub mone mcla mlaw : Nat → Int32}
variable (B : RBx P C siz law hom hub one fac sea fou byc msiz mtow mhub mone mcla mlaw)
theorem f9_its_s {mc : Nat → Int32} {c w : Nat} (hc : c < 9) (hw : w < 11) : f9_its mc (nI c) (nI w) = some (mc (11 * c + w)) := by
  unfold f9_its
  rw [ix11, ixn (by omega) (by omega), gd_t, nI_clamp (by omega)]
/-- who is in a place, for the reference (-1: nobody) -/
def oneM (P : Nat) (one sea : Nat → Int32) (c k : Nat) : Int32 := if oneV P one sea c k = -9 then -1 else oneV P one sea c k
theorem nI_ne9 {q : Nat} (h : q < 100) : ¬ nI q = -9 := fun e => inN_m9 100 (e ▸ inN_nI h (by omega))
theorem nI_ne1 {q : Nat} (h : q < 100) : ¬ nI q = -1 := fun e => inN_m1 100 (e ▸ inN_nI h (by omega))
/-- nobody, or a one -/
theorem oneV_c (B : RBx P C siz law hom hub one fac sea fou byc msiz mtow mhub mone mcla mlaw) {c k : Nat} (hc : c < C) (hk : k < 4) : (oneV P one sea c k = -9 ∧ sea (c * 4 + k) = -9 ∧ mcla (11 * c + (5 + k)) = -1) ∨ ∃ p q : Nat, p < P ∧ q < P ∧ sea (c * 4 + k) = nI p ∧ mcla (11 * c + (5 + k)) = nI p ∧ one p = nI q ∧ oneV P one sea c k = nI q := by
  obtain ⟨hP, hC, -, -, -, -, -, hone, -, -, hsea, -⟩ := B
  rcases hsea c k hc hk with ⟨h1, h2⟩ | ⟨p, hp, h1, h2⟩
  · refine Or.inl ⟨?_, h1, h2⟩
    unfold oneV
    rw [h1]
    exact if_neg (inN_m9 P)
  · obtain ⟨q, hq, e⟩ := (hone p hp).2
    refine Or.inr ⟨p, q, hp, hq, h1, h2, e, ?_⟩
    unfold oneV
    rw [h1, if_pos (inN_nI hp (by omega)), nI_clamp (by omega), e]
theorem f9_oneIn_s (B : RBx P C siz law hom hub one fac sea fou byc msiz mtow mhub mone mcla mlaw) {c k : Nat} (hc : c < C) (hk : k < 4) : f9_oneIn mcla mone (nI c) (nI k) = some (oneM P one sea c k) := by
  have hP := B.1
  have hC := B.2.1
  have hone := B.2.2.2.2.2.2.2.1
  unfold f9_oneIn
  rw [n5, nI_add, f9_its_s (by omega) (by omega), Option.bind_some]
  unfold oneM
  rcases oneV_c B hc hk with ⟨h1, -, h2⟩ | ⟨p, q, hp, hq, -, h2, h3, h4⟩
  · rw [h2, h1, if_neg (by decide), if_pos rfl]
  · rw [h2, h4, if_pos (nI_pos' (by omega)), ixn (by omega) (by omega), gd_t, nI_clamp (by omega), (hone p hp).1, h3, if_neg (nI_ne9 (by omega))]
theorem oneM_eq (B : RBx P C siz law hom hub one fac sea fou byc msiz mtow mhub mone mcla mlaw) {c k x : Nat} (hc : c < C) (hk : k < 4) (hx : x < 10) : oneM P one sea c k = nI x ↔ oneV P one sea c k = nI x := by
  have hP := B.1
  unfold oneM
  rcases oneV_c B hc hk with ⟨h1, -⟩ | ⟨p, q, hp, hq, -, -, -, h4⟩
  · rw [h1, if_pos rfl]
    exact ⟨fun h => absurd h.symm (nI_ne1 (by omega)), fun h => absurd h.symm (nI_ne9 (by omega))⟩
  · rw [h4, if_neg (nI_ne9 (by omega))]
/-- bits of the first n places with p -/
def bmB (p : Nat → Prop) [DecidablePred p] : Nat → Int32
  | 0 => 0
  | n + 1 => bmB p n ||| (if p n then (1 : Int32) <<< (nI n &&& 31) else 0)
theorem f9_placesOf_s (B : RBx P C siz law hom hub one fac sea fou byc msiz mtow mhub mone mcla mlaw) {c x : Nat} (hc : c < C) (hx : x < 10) : f9_placesOf mcla mone (nI c) (nI x) = some (bmB (fun k => oneV P one sea c k = nI x) 4) := by
  simp only [f9_placesOf, jn]
  refine lup0 (fun fu i (s : Int32) => f9_placesOf_L5 mcla mone (nI c) (nI x) fu s i (fun x1 _ => some x1)) 4 (fun i => bmB (fun k => oneV P one sea c k = nI x) i) (fun fu i hi => ?_) (fun fu => ?_) rfl (FU_lt (by omega))
  · simp only [f9_placesOf_L5, jn]
    rw [if_neg (nge n4 hi (by omega)), f9_oneIn_s B hc hi, Option.bind_some, nI_1, bmB]
    by_cases h : oneV P one sea c i = nI x
    · rw [if_pos ((oneM_eq B hc hi hx).mpr h), if_pos h]
    · rw [if_neg (fun q => h ((oneM_eq B hc hi hx).mp q)), if_neg h]
  · simp only [f9_placesOf_L5]
    rw [if_pos (nle n4 (Nat.le_refl _) (by omega))]
/-- the four bits -/
def bm4 (a b c d : Bool) : Int32 := ((((0 : Int32) ||| (bif a then 1 else 0)) ||| (bif b then 2 else 0)) ||| (bif c then 4 else 0)) ||| (bif d then 8 else 0)
theorem bmB_4 (p : Nat → Prop) [DecidablePred p] : bmB p 4 = bm4 (decide (p 0)) (decide (p 1)) (decide (p 2)) (decide (p 3)) := by
  unfold bm4
  simp only [bmB]
  by_cases h0 : p 0 <;> by_cases h1 : p 1 <;> by_cases h2 : p 2 <;> by_cases h3 : p 3 <;> simp only [h0, h1, h2, h3, if_true, if_false, decide_true, decide_false] <;> decide
theorem exN_4 (p : Nat → Prop) [DecidablePred p] : exN p 4 = (decide (p 0) || decide (p 1) || decide (p 2) || decide (p 3)) := by
  simp only [exN, Bool.false_or]
theorem bm4_0 : ∀ a b c d : Bool, bm4 a b c d = 0 ↔ (a || b || c || d) = false := by decide
theorem bm4_f : ∀ a b c d : Bool, (bm4 a b c d &&& 1 = 1 ↔ a = true) ∧ (bm4 a b c d &&& 2 = 2 ↔ b = true) := by decide
theorem bmB_0 (p : Nat → Prop) [DecidablePred p] : bmB p 4 = 0 ↔ exN p 4 = false := by rw [bmB_4, exN_4]; exact bm4_0 _ _ _ _
theorem f9_claimsOf_s (B : RBx P C siz law hom hub one fac sea fou byc msiz mtow mhub mone mcla mlaw) {x : Nat} (hx : x < 10) : f9_claimsOf (nI C) mcla mone (nI x) = some (cnt (fun c => inD P one sea c (nI x) = true) C) := by
  have hC := B.2.1
  simp only [f9_claimsOf, jn]
  refine lup0 (fun fu i (s : Int32) => f9_claimsOf_L4 (nI C) mcla mone (nI x) fu s i (fun x1 _ => some x1)) C (fun i => cnt (fun c => inD P one sea c (nI x) = true) i) (fun fu i hi => ?_) (fun fu => ?_) rfl (FU_lt (by omega))
  · simp only [f9_claimsOf_L4, jn]
    rw [if_neg (nI_ge hi (by omega)), f9_placesOf_s B hi hx, Option.bind_some, nI_1, cnt]
    cases hb : inD P one sea i (nI x) with
    | false => rw [if_pos ((bmB_0 _).mpr hb), if_neg (by decide), Int32.add_zero]
    | true => rw [if_neg (fun q => by rw [bmB_0] at q; rw [show exN _ 4 = inD P one sea i (nI x) from rfl, hb] at q; cases q), if_pos rfl]
  · simp only [f9_claimsOf_L4]
    rw [if_pos (nI_le (Nat.le_refl _) (by omega))]
/-- a one is a hub -/
def hubD (P : Nat) (one hub : Nat → Int32) (x : Int32) : Bool := exN (fun p => one p = x ∧ hub p = 1) P
theorem f0_isHub_s (B : RBx P C siz law hom hub one fac sea fou byc msiz mtow mhub mone mcla mlaw) (x : Int32) : f0_isHub (nI P) hub one x = some (b01 (hubD P one hub x)) := by
  have hP := B.1
  have hh := B.2.2.2.2.2.2.1
  simp only [f0_isHub, jn]
  refine (lupS0 (fun fu i => f0_isHub_L2 (nI P) hub one x fu i (fun _ => some 0)) P (fun p => one p = x ∧ hub p = 1) (o1 := some 1) (o2 := some 0) (fun fu i hi hp => ?_) (fun fu i hi hp => ?_) (fun fu => ?_) (fu := FU) (FU_lt (by omega))).trans ?_
  · simp only [f0_isHub_L2, jn]
    rw [if_neg (nI_ge hi (by omega)), ixn (by omega) (by omega), gd_t, nI_clamp (by omega), if_pos hp.1, gd_t, hp.2, if_neg (by decide)]
  · simp only [f0_isHub_L2, jn]
    rw [if_neg (nI_ge hi (by omega)), ixn (by omega) (by omega), gd_t, nI_clamp (by omega), nI_1]
    by_cases h : one i = x
    · rw [if_pos h, gd_t]
      rcases hh i (by omega) with e | e
      · rw [if_pos e]
      · exact absurd ⟨h, e⟩ hp
    · rw [if_neg h]
  · simp only [f0_isHub_L2]
    rw [if_pos (nI_le (Nat.le_refl _) (by omega))]
  · unfold hubD b01
    cases exN (fun p => one p = x ∧ hub p = 1) P <;> rfl
theorem f9_isHubOne_s (B : RBx P C siz law hom hub one fac sea fou byc msiz mtow mhub mone mcla mlaw) (x : Int32) : f9_isHubOne (nI P) mhub mone x = some (b01 (hubD P one hub x)) := by
  have hP := B.1
  have hm := B.2.2.2.2.2.1
  have ho := B.2.2.2.2.2.2.2.1
  simp only [f9_isHubOne, jn]
  refine (lupS0 (fun fu i => f9_isHubOne_L2 (nI P) mhub mone x fu i (fun _ => some 0)) P (fun p => one p = x ∧ hub p = 1) (o1 := some 1) (o2 := some 0) (fun fu i hi hp => ?_) (fun fu i hi hp => ?_) (fun fu => ?_) (fu := FU) (FU_lt (by omega))).trans ?_
  · simp only [f9_isHubOne_L2, jn]
    rw [if_neg (nI_ge hi (by omega)), ixn (by omega) (by omega), gd_t, nI_clamp (by omega), (ho i hi).1, hm i hi, if_pos hp.1, gd_t, hp.2, if_pos rfl]
  · simp only [f9_isHubOne_L2, jn]
    rw [if_neg (nI_ge hi (by omega)), ixn (by omega) (by omega), gd_t, nI_clamp (by omega), (ho i hi).1, hm i hi, nI_1]
    by_cases h : one i = x
    · rw [if_pos h, gd_t, if_neg (fun e => hp ⟨h, e⟩)]
    · rw [if_neg h]
  · simp only [f9_isHubOne_L2]
    rw [if_pos (nI_le (Nat.le_refl _) (by omega))]
  · unfold hubD b01
    cases exN (fun p => one p = x ∧ hub p = 1) P <;> rfl
theorem f9_peopleIn_s (B : RBx P C siz law hom hub one fac sea fou byc msiz mtow mhub mone mcla mlaw) {c : Nat} (hc : c < C) : f9_peopleIn mcla (nI c) = some (cnt (fun k => ¬ sea (c * 4 + k) = -9) 4) := by
  have hP := B.1
  have hC := B.2.1
  simp only [f9_peopleIn, jn]
  refine lup0 (fun fu i (s : Int32) => f9_peopleIn_L4 mcla (nI c) fu s i (fun x1 _ => some x1)) 4 (fun i => cnt (fun k => ¬ sea (c * 4 + k) = -9) i) (fun fu i hi => ?_) (fun fu => ?_) rfl (FU_lt (by omega))
  · simp only [f9_peopleIn_L4, jn]
    rw [if_neg (nge n4 hi (by omega)), n5, nI_add, f9_its_s (by omega) (by omega), Option.bind_some, nI_1, cnt]
    rcases oneV_c B hc hi with ⟨-, h1, h2⟩ | ⟨p, q, hp, hq, h1, h2, -⟩
    · rw [h1, h2, if_pos (by decide), if_neg (fun q => q rfl), Int32.add_zero]
    · rw [h1, h2, if_neg (not_neg (by omega)), if_pos (nI_ne9 (by omega))]
  · simp only [f9_peopleIn_L4]
    rw [if_pos (nle n4 (Nat.le_refl _) (by omega))]
theorem f0_countFound_s (hC : C ≤ 9) : f0_countFound (nI C) fou = some (cnt (fun c => ¬ fou c = -9) C) := by
  simp only [f0_countFound, jn]
  refine lup0 (fun fu i (s : Int32) => f0_countFound_L4 (nI C) fou fu s i (fun x1 _ => some x1)) C (fun i => cnt (fun c => ¬ fou c = -9) i) (fun fu i hi => ?_) (fun fu => ?_) rfl (FU_lt (by omega))
  · simp only [f0_countFound_L4, jn]
    rw [if_neg (nI_ge hi (by omega)), ixn (by omega) (by omega), gd_t, nI_clamp (by omega), nI_1, cnt]
    by_cases h : fou i = -9
    · rw [if_pos h, if_neg (fun q => q h)]
    · rw [if_neg h, if_pos h]
  · simp only [f0_countFound_L4]
    rw [if_pos (nI_le (Nat.le_refl _) (by omega))]
theorem f9_foundMany_s (B : RBx P C siz law hom hub one fac sea fou byc msiz mtow mhub mone mcla mlaw) : f9_foundMany (nI C) mcla = some (cnt (fun c => ¬ fou c = -9) C) := by
  have hC := B.2.1
  have hf := B.2.2.2.2.2.2.2.2.2.2.2.1
  simp only [f9_foundMany, jn]
  refine lup0 (fun fu i (s : Int32) => f9_foundMany_L4 (nI C) mcla fu s i (fun x1 _ => some x1)) C (fun i => cnt (fun c => ¬ fou c = -9) i) (fun fu i hi => ?_) (fun fu => ?_) rfl (FU_lt (by omega))
  · simp only [f9_foundMany_L4, jn]
    rw [if_neg (nI_ge hi (by omega)), show (9 : Int32) = nI 9 from rfl, f9_its_s (by omega) (by omega), Option.bind_some, nI_1, cnt]
    rcases hf i hi with ⟨h1, h2⟩ | ⟨h1, h2⟩ | ⟨h1, h2⟩
    · rw [h1, h2, if_pos (by decide), if_neg (fun q => q rfl), Int32.add_zero]
    · rw [h1, h2, if_neg (by decide), if_pos (by decide)]
    · rw [h1, h2, if_neg (by decide), if_pos (by decide)]
  · simp only [f9_foundMany_L4]
    rw [if_pos (nI_le (Nat.le_refl _) (by omega))]
end RM
