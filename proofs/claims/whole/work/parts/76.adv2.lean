/-! ===== the reference's advance ===== -/
section AD
variable {n : Nat} {mt : Nat → Int32} {byt : Nat → Nat}
theorem f9_byteAt_s (hn : n ≤ 200) (hb : ∀ i, i < n → mt i = nI (byt i) ∧ byt i < 256) {p : Nat} (hp : p < n) : f9_byteAt (nI n) mt (nI p) = some (nI (byt p)) := by
  unfold f9_byteAt
  rw [if_neg (nI_ge hp (by omega)), gdi (by omega) (by omega), nI_clamp (by omega), (hb p hp).1]
theorem f9_byteAt_e : f9_byteAt (nI n) mt (nI n) = some (-1) := if_pos (Int32.le_refl _)
theorem f9_isLetter_s {b : Nat} (hb : b < 256) : f9_isLetter (nI b) = some (b01 (decide (srN b = 1))) := by
  unfold f9_isLetter
  rw [f9_in_s, Option.bind_some]
  have e : (97 ≤ nI b ∧ nI b ≤ 122) ↔ srN b = 1 := by
    rw [sr1]
    rw [show (97 : Int32) = nI 97 from rfl, show (122 : Int32) = nI 122 from rfl, leN (by omega), leN' (by omega), nI_toInt (by omega)]
    omega
  by_cases h : srN b = 1
  · rw [if_pos (e.mpr h), decide_eq_true h]; rfl
  · rw [if_neg (fun z => h (e.mp z)), decide_eq_false h]; rfl
theorem f9_isDigit_s {b : Nat} (hb : b < 256) : f9_isDigit (nI b) = some (b01 (decide (srN b = 2))) := by
  unfold f9_isDigit
  rw [f9_in_s, Option.bind_some]
  have e : (48 ≤ nI b ∧ nI b ≤ 57) ↔ srN b = 2 := by
    rw [sr2]
    rw [show (48 : Int32) = nI 48 from rfl, show (57 : Int32) = nI 57 from rfl, leN (by omega), leN' (by omega), nI_toInt (by omega)]
    omega
  by_cases h : srN b = 2
  · rw [if_pos (e.mpr h), decide_eq_true h]; rfl
  · rw [if_neg (fun z => h (e.mp z)), decide_eq_false h]; rfl
theorem f9_isLetter_m : f9_isLetter (-1) = some 0 := by decide
theorem f9_isDigit_m : f9_isDigit (-1) = some 0 := by decide
theorem adv_skip (hn : n ≤ 200) (hb : ∀ i, i < n → mt i = nI (byt i) ∧ byt i < 256) (K : Int32 → Option (Int32 × Int32 × Int32 × Int32 × Int64)) : ∀ c q fu, q + c = n → c < fu → f9_advance_L8 (nI n) mt fu (nI q) K = K (nI (skN byt n q)) := by
  intro c
  induction c with
  | zero =>
    intro q fu h1 h2
    obtain ⟨f, rfl⟩ : ∃ f, fu = f + 1 := ⟨fu - 1, by omega⟩
    have e : q = n := by omega
    subst e
    simp only [f9_advance_L8]
    rw [f9_byteAt_e, Option.bind_some, if_neg (by decide), skN_out (by omega)]
  | succ c ih =>
    intro q fu h1 h2
    obtain ⟨f, rfl⟩ : ∃ f, fu = f + 1 := ⟨fu - 1, by omega⟩
    have hq : q < n := by omega
    have h256 := (hb q hq).2
    simp only [f9_advance_L8]
    rw [f9_byteAt_s hn hb hq, Option.bind_some, nI_1]
    by_cases h : byt q = 32
    · rw [if_pos (by rw [h]; rfl), skN_in hq h, ih (q + 1) f (by omega) (by omega)]
    · rw [if_neg (show ¬ nI (byt q) = 32 from fun z => h (nI_inj (b := 32) (by omega) (by omega) z)), skN_out (fun z => h z.2)]
theorem adv_word (hn : n ≤ 200) (hb : ∀ i, i < n → mt i = nI (byt i) ∧ byt i < 256) {p : Nat} (K : Int32 → Int64 → Option (Int32 × Int32 × Int32 × Int32 × Int64)) : ∀ c q fu, q + c = n → c < fu → p ≤ q → (∀ k, p ≤ k → k < q → srN (byt k) = 1) → f9_advance_L126 (nI n) mt (nI p) 1 fu (nI q) (wdL (fun k => byt (p + k)) (q - p)) K = K (nI (ruN byt n 1 q)) (wdL (fun k => byt (p + k)) (ruN byt n 1 q - p)) := by
  intro c
  induction c with
  | zero =>
    intro q fu h1 h2 hp hl
    obtain ⟨f, rfl⟩ : ∃ f, fu = f + 1 := ⟨fu - 1, by omega⟩
    have e : q = n := by omega
    subst e
    simp only [f9_advance_L126]
    rw [if_pos trivial, f9_byteAt_e, Option.bind_some, f9_isLetter_m, Option.bind_some, if_pos rfl, ruN_out (by omega)]
  | succ c ih =>
    intro q fu h1 h2 hp hl
    obtain ⟨f, rfl⟩ : ∃ f, fu = f + 1 := ⟨fu - 1, by omega⟩
    have hq : q < n := by omega
    have h256 := (hb q hq).2
    simp only [f9_advance_L126, jnE]
    rw [if_pos trivial, f9_byteAt_s hn hb hq, Option.bind_some, f9_isLetter_s h256, Option.bind_some, dec_if, nI_1, Option.bind_some]
    by_cases h : srN (byt q) = 1
    · have hlt := sr1.mp h
      rw [if_pos h, ruN_in hq h, pk_sub hp]
      have ihh := ih (q + 1) f (by omega) (by omega) (by omega) (fun k k1 k2 => by
        by_cases e : k = q
        · rw [e]; exact h
        · exact hl k k1 (by omega))
      rw [show q + 1 - p = (q - p) + 1 by omega] at ihh
      refine Eq.trans ?_ ihh
      have hbq : byt (p + (q - p)) = byt q := by rw [show p + (q - p) = q by omega]
      unfold wdL
      by_cases h8 : 8 ≤ q - p
      · rw [if_pos (show (8 : Int32) ≤ nI (q - p) from nI_le (a := 8) h8 (by omega)), if_neg (show ¬ q - p + 1 ≤ 8 by omega)]
      · rw [if_neg (show ¬ (8 : Int32) ≤ nI (q - p) from nI_ge (b := 8) (by omega) (by omega)), if_pos (show q - p + 1 ≤ 8 by omega), if_pos (show q - p ≤ 8 by omega), nI_l (by omega), show (27 : Int64) = lN 27 from rfl, lN_mul, lN_add, show lN (27 * eFN (fun k => byt (p + k)) (q - p) + byt q) - 96 = lN (27 * eFN (fun k => byt (p + k)) (q - p) + byt q - 96) from lN_sub (b := 96) (by omega), eFN, hbq, show 27 * eFN (fun k => byt (p + k)) (q - p) + byt q - 96 = 27 * eFN (fun k => byt (p + k)) (q - p) + (byt q - 96) by omega]
    · rw [if_neg h, ruN_out (fun z => h z.2)]
def vaL (f : Nat → Nat) (k : Nat) : Int32 := if k ≤ 3 then nI (dgN f k) else -1
theorem adv_num (hn : n ≤ 200) (hb : ∀ i, i < n → mt i = nI (byt i) ∧ byt i < 256) {p : Nat} (K : Int32 → Int32 → Option (Int32 × Int32 × Int32 × Int32 × Int64)) : ∀ c q fu, q + c = n → c < fu → p ≤ q → (∀ k, p ≤ k → k < q → srN (byt k) = 2) → f9_advance_L207 (nI n) mt (nI p) 2 fu (nI q) (vaL (fun k => byt (p + k)) (q - p)) K = K (nI (ruN byt n 2 q)) (vaL (fun k => byt (p + k)) (ruN byt n 2 q - p)) := by
  intro c
  induction c with
  | zero =>
    intro q fu h1 h2 hp hl
    obtain ⟨f, rfl⟩ : ∃ f, fu = f + 1 := ⟨fu - 1, by omega⟩
    have e : q = n := by omega
    subst e
    simp only [f9_advance_L207]
    rw [if_pos trivial, f9_byteAt_e, Option.bind_some, f9_isDigit_m, Option.bind_some, if_pos rfl, ruN_out (by omega)]
  | succ c ih =>
    intro q fu h1 h2 hp hl
    obtain ⟨f, rfl⟩ : ∃ f, fu = f + 1 := ⟨fu - 1, by omega⟩
    have hq : q < n := by omega
    have h256 := (hb q hq).2
    simp only [f9_advance_L207, jnE]
    rw [if_pos trivial, f9_byteAt_s hn hb hq, Option.bind_some, f9_isDigit_s h256, Option.bind_some, dec_if, nI_1, Option.bind_some]
    by_cases h : srN (byt q) = 2
    · have hlt := sr2.mp h
      rw [if_pos h, ruN_in hq h, pk_sub hp]
      have ihh := ih (q + 1) f (by omega) (by omega) (by omega) (fun k k1 k2 => by
        by_cases e : k = q
        · rw [e]; exact h
        · exact hl k k1 (by omega))
      rw [show q + 1 - p = (q - p) + 1 by omega] at ihh
      refine Eq.trans ?_ ihh
      have hbq : byt (p + (q - p)) = byt q := by rw [show p + (q - p) = q by omega]
      unfold vaL
      by_cases h8 : 3 ≤ q - p
      · rw [if_pos (show (3 : Int32) ≤ nI (q - p) from nI_le (a := 3) h8 (by omega)), if_neg (show ¬ q - p + 1 ≤ 3 by omega)]
      · rw [if_neg (show ¬ (3 : Int32) ≤ nI (q - p) from nI_ge (b := 3) (by omega) (by omega)), if_pos (show q - p + 1 ≤ 3 by omega), if_pos (show q - p ≤ 3 by omega), n10, pk_mul, nI_add, show nI (10 * dgN (fun k => byt (p + k)) (q - p) + byt q) - 48 = nI (10 * dgN (fun k => byt (p + k)) (q - p) + byt q - 48) from pk_sub (b := 48) (by omega), dgN, hbq, show 10 * dgN (fun k => byt (p + k)) (q - p) + byt q - 48 = 10 * dgN (fun k => byt (p + k)) (q - p) + (byt q - 48) by omega]
    · rw [if_neg h, ruN_out (fun z => h z.2)]
theorem adv_w0 {s : Int32} (hs : ¬ s = 1) {p q : Int32} {w : Int64} (K : Int32 → Int64 → Option (Int32 × Int32 × Int32 × Int32 × Int64)) {fu : Nat} (hf : 0 < fu) : f9_advance_L126 (nI n) mt p s fu q w K = K q w := by
  obtain ⟨f, rfl⟩ : ∃ f, fu = f + 1 := ⟨fu - 1, by omega⟩
  simp only [f9_advance_L126]
  rw [if_neg hs]
theorem adv_v0 {s : Int32} (hs : ¬ s = 2) {p q v : Int32} (K : Int32 → Int32 → Option (Int32 × Int32 × Int32 × Int32 × Int64)) {fu : Nat} (hf : 0 < fu) : f9_advance_L207 (nI n) mt p s fu q v K = K q v := by
  obtain ⟨f, rfl⟩ : ∃ f, fu = f + 1 := ⟨fu - 1, by omega⟩
  simp only [f9_advance_L207]
  rw [if_neg hs]
theorem f9_advance_s (hn : n ≤ 200) (hb : ∀ i, i < n → mt i = nI (byt i) ∧ byt i < 256) (k : Nat) (be so va : Int32) (wo : Int64) : ∃ so' va' wo', f9_advance be so (nI n) (nI (eoN byt n k)) va mt wo = some (nI (stN byt n k), so', nI (eoN byt n (k + 1)), va', wo') ∧ TM (coN byt n k) so' va' wo' := by
  have hF : 0 < FU := FU_lt (by omega)
  have hel := eoN_le byt n k
  have hsl := stN_le byt n k
  unfold f9_advance
  rw [jnE, adv_skip hn hb _ (n - eoN byt n k) (eoN byt n k) FU (by omega) (FU_lt (by omega))]
  have hst : skN byt n (eoN byt n k) = stN byt n k := rfl
  rw [hst]
  by_cases hend : stN byt n k < n
  · obtain ⟨b1, b2, b3⟩ := enN_bd (byt := byt) hend
    have heo := eoN_s hend
    have hco : coN byt n k = tkC byt (stN byt n k) (eoN byt n (k + 1)) := if_pos hend
    have h256 := (hb _ hend).2
    rw [hco, heo]
    generalize stN byt n k = p at *
    have hsr := srN_lt (byt p)
    rw [f9_byteAt_s hn hb hend, Option.bind_some, f9_isLetter_s h256, f9_isDigit_s h256]
    simp only [jnE, bsE]
    rw [if_pos (nI_pos' (by omega)), dec_if, dec_if]
    unfold tkC
    by_cases q1 : srN (byt p) = 1
    · have hen : enN byt n p = ruN byt n 1 p := by unfold enN; rw [if_neg (by omega), q1, ruN_in hend q1]
      have hw := fun K => adv_word hn hb (p := p) K (n - p) p FU (by omega) (FU_lt (by omega)) (Nat.le_refl _) (fun k h1 h2 => absurd h2 (by omega))
      rw [Nat.sub_self, show wdL (fun k => byt (p + k)) 0 = 0 from rfl] at hw
      rw [if_pos q1, if_pos q1, if_neg (by decide), if_neg (by decide), hw, adv_v0 (by decide) _ hF, ← hen]
      exact ⟨_, _, _, rfl, TM_name (fun j hj => sr1.mp (by rw [b3 (by omega) (p + j) (by omega) (by omega), q1])) (by omega)⟩
    · rw [if_neg q1, if_neg q1]
      by_cases q2 : srN (byt p) = 2
      · have hen : enN byt n p = ruN byt n 2 p := by unfold enN; rw [if_neg (by omega), q2, ruN_in hend q2]
        have hw := fun K => adv_num hn hb (p := p) K (n - p) p FU (by omega) (FU_lt (by omega)) (Nat.le_refl _) (fun k h1 h2 => absurd h2 (by omega))
        rw [Nat.sub_self, show vaL (fun k => byt (p + k)) 0 = 0 from rfl] at hw
        rw [if_pos q2, if_pos q2, if_pos (by decide), if_neg (by decide), adv_w0 (by decide) _ hF, hw, ← hen]
        refine ⟨_, _, _, rfl, ?_⟩
        have hd : ∀ j, j < enN byt n p - p → 48 ≤ byt (p + j) ∧ byt (p + j) ≤ 57 := fun j hj => sr2.mp (by rw [b3 (by omega) (p + j) (by omega) (by omega), q2])
        unfold vaL
        by_cases h3 : enN byt n p - p ≤ 3
        · rw [if_pos h3, if_pos h3]
          have h10 := dgN_lt (f := fun k => byt (p + k)) (enN byt n p - p) hd
          have hp10 : 10 ^ (enN byt n p - p) ≤ 10 ^ 3 := Nat.pow_le_pow_right (by decide) h3
          exact TM_num (by omega)
        · rw [if_neg h3, if_neg h3]
          exact TM_long
      · have q3 : srN (byt p) = 3 := by omega
        have hen : enN byt n p = p + 1 := by unfold enN; rw [if_pos q3]
        rw [if_neg q2, if_neg q2, if_neg (by decide), if_pos (by decide), adv_w0 (by decide) _ hF, adv_v0 (by decide) _ hF, nI_1, hen]
        exact ⟨_, _, _, rfl, TM_mark h256 q3⟩
  · have hsn := stN_end hend
    have hco : coN byt n k = 3004 := if_neg hend
    have heo : eoN byt n (k + 1) = n := by rw [eoN]; exact if_neg hend
    rw [hsn, hco, heo, f9_byteAt_e, Option.bind_some]
    simp only [jnE]
    rw [if_neg (by decide), if_neg (by decide), if_neg (by decide), adv_w0 (by decide) _ hF, adv_v0 (by decide) _ hF]
    exact ⟨_, _, _, rfl, TM_end⟩
end AD
