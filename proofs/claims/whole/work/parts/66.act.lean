/-! ===== acts (written by gen66.py) ===== -/
theorem ar_10 {rc : Int32 → Int32 → Int32 → Int32 → Int32 → (Nat → Int32) → Int32 → Int32 → Int32 → Option (Int32 × Int32 × Int32 × (Nat → Int32))} {a k n x : Int32} {b : Nat → Int32} {j d : Nat} (hj : j < 30) (hd : d ≤ 40) : f3_run_ rc a (nI j) k n 0 b 10 x (nI d) = some (x + n, nI (j + 1), 0, upd b j 10) := by
  unfold f3_run_
  rw [if_pos rfl, if_pos (show nI d ≤ 40 from nI_le (b := 40) hd (by omega)), jnE, if_neg (show ¬ (30 : Int32) ≤ nI j from nI_ge (b := 30) hj (by omega)), gdi hj (by omega), nI_clamp (by omega), nI_1, nI_1]
  rfl
theorem ar_11 {rc : Int32 → Int32 → Int32 → Int32 → Int32 → (Nat → Int32) → Int32 → Int32 → Int32 → Option (Int32 × Int32 × Int32 × (Nat → Int32))} {a k n x : Int32} {b : Nat → Int32} {j d : Nat} (hj : j < 30) (hd : d ≤ 40) : f3_run_ rc a (nI j) k n 0 b 11 x (nI d) = Option.bind (f3_bodyOf k 0) fun w => bn4 (rc a (nI (j + 1)) k n 0 (upd b j 11) w x (nI (d + 1))) fun v c1 c2 c3 => some (v * 2, c1, c2, c3) := by
  unfold f3_run_
  rw [if_pos rfl, if_pos (show nI d ≤ 40 from nI_le (b := 40) hd (by omega)), jnE, if_neg (show ¬ (30 : Int32) ≤ nI j from nI_ge (b := 30) hj (by omega)), gdi hj (by omega), nI_clamp (by omega), nI_1, nI_1]
  rfl
theorem ar_12 {rc : Int32 → Int32 → Int32 → Int32 → Int32 → (Nat → Int32) → Int32 → Int32 → Int32 → Option (Int32 × Int32 × Int32 × (Nat → Int32))} {a k n x : Int32} {b : Nat → Int32} {j d : Nat} (hj : j < 30) (hd : d ≤ 40) : f3_run_ rc a (nI j) k n 0 b 12 x (nI d) = bn2 (f3_share a n 0 x) fun v c => some (v, nI (j + 1), c, upd b j 12) := by
  unfold f3_run_
  rw [if_pos rfl, if_pos (show nI d ≤ 40 from nI_le (b := 40) hd (by omega)), jnE, if_neg (show ¬ (30 : Int32) ≤ nI j from nI_ge (b := 30) hj (by omega)), gdi hj (by omega), nI_clamp (by omega), nI_1, nI_1]
  rfl
theorem ar_13 {rc : Int32 → Int32 → Int32 → Int32 → Int32 → (Nat → Int32) → Int32 → Int32 → Int32 → Option (Int32 × Int32 × Int32 × (Nat → Int32))} {a k n x : Int32} {b : Nat → Int32} {j d : Nat} (hj : j < 30) (hd : d ≤ 40) : f3_run_ rc a (nI j) k n 0 b 13 x (nI d) = Option.bind (f3_bodyOf k 1) fun w => bn4 (rc a (nI (j + 1)) k n 0 (upd b j 13) w x (nI (d + 1))) fun v c1 c2 c3 => some (v ^^^ a, c1, c2, c3) := by
  unfold f3_run_
  rw [if_pos rfl, if_pos (show nI d ≤ 40 from nI_le (b := 40) hd (by omega)), jnE, if_neg (show ¬ (30 : Int32) ≤ nI j from nI_ge (b := 30) hj (by omega)), gdi hj (by omega), nI_clamp (by omega), nI_1, nI_1]
  rfl
theorem ar_20 {rc : Int32 → Int32 → Int32 → Int32 → Int32 → (Nat → Int32) → Int32 → Int32 → Int32 → Option (Int32 × Int32 × Int32 × (Nat → Int32))} {a k n x : Int32} {b : Nat → Int32} {j d : Nat} (hj : j < 30) (hd : d ≤ 40) : f3_run_ rc a (nI j) k n 0 b 20 x (nI d) = bn4 (rc a (nI (j + 1)) k n 0 (upd b j 20) 11 x (nI (d + 1))) fun v c1 c2 c3 => some (v - a, c1, c2, c3) := by
  unfold f3_run_
  rw [if_pos rfl, if_pos (show nI d ≤ 40 from nI_le (b := 40) hd (by omega)), jnE, if_neg (show ¬ (30 : Int32) ≤ nI j from nI_ge (b := 30) hj (by omega)), gdi hj (by omega), nI_clamp (by omega), nI_1, nI_1]
  rfl
theorem ar_30 {rc : Int32 → Int32 → Int32 → Int32 → Int32 → (Nat → Int32) → Int32 → Int32 → Int32 → Option (Int32 × Int32 × Int32 × (Nat → Int32))} {a k n x : Int32} {b : Nat → Int32} {j d : Nat} (hj : j < 30) (hd : d ≤ 40) : f3_run_ rc a (nI j) k n 0 b 30 x (nI d) = bn4 (rc a (nI (j + 1)) k n 0 (upd b j 30) 10 x (nI (d + 1))) fun v c1 c2 c3 => some (v * 3, c1, c2, c3) := by
  unfold f3_run_
  rw [if_pos rfl, if_pos (show nI d ≤ 40 from nI_le (b := 40) hd (by omega)), jnE, if_neg (show ¬ (30 : Int32) ≤ nI j from nI_ge (b := 30) hj (by omega)), gdi hj (by omega), nI_clamp (by omega), nI_1, nI_1]
  rfl
theorem ar_31 {rc : Int32 → Int32 → Int32 → Int32 → Int32 → (Nat → Int32) → Int32 → Int32 → Int32 → Option (Int32 × Int32 × Int32 × (Nat → Int32))} {a k n x : Int32} {b : Nat → Int32} {j d : Nat} (hj : j < 30) (hd : d ≤ 40) : f3_run_ rc a (nI j) k n 0 b 31 x (nI d) = bn4 (rc a (nI (j + 1)) k n 0 (upd b j 31) 13 x (nI (d + 1))) fun v c1 c2 c3 => Option.bind (f3_bodyOf k 2) fun w => bn4 (rc a c1 k n c2 c3 w n (nI (d + 1))) fun v2 c4 c5 c6 => some (v + v2, c4, c5, c6) := by
  unfold f3_run_
  rw [if_pos rfl, if_pos (show nI d ≤ 40 from nI_le (b := 40) hd (by omega)), jnE, if_neg (show ¬ (30 : Int32) ≤ nI j from nI_ge (b := 30) hj (by omega)), gdi hj (by omega), nI_clamp (by omega), nI_1, nI_1]
  rfl
theorem ar_40 {rc : Int32 → Int32 → Int32 → Int32 → Int32 → (Nat → Int32) → Int32 → Int32 → Int32 → Option (Int32 × Int32 × Int32 × (Nat → Int32))} {a k n x : Int32} {b : Nat → Int32} {j d : Nat} (hj : j < 30) (hd : d ≤ 40) : f3_run_ rc a (nI j) k n 0 b 40 x (nI d) = bn4 (rc a (nI (j + 1)) k n 0 (upd b j 40) 10 x (nI (d + 1))) fun v c1 c2 c3 => some (0 - v, c1, c2, c3) := by
  unfold f3_run_
  rw [if_pos rfl, if_pos (show nI d ≤ 40 from nI_le (b := 40) hd (by omega)), jnE, if_neg (show ¬ (30 : Int32) ≤ nI j from nI_ge (b := 30) hj (by omega)), gdi hj (by omega), nI_clamp (by omega), nI_1, nI_1]
  rfl
theorem ar_41 {rc : Int32 → Int32 → Int32 → Int32 → Int32 → (Nat → Int32) → Int32 → Int32 → Int32 → Option (Int32 × Int32 × Int32 × (Nat → Int32))} {a k n x : Int32} {b : Nat → Int32} {j d : Nat} (hj : j < 30) (hd : d ≤ 40) : f3_run_ rc a (nI j) k n 0 b 41 x (nI d) = bn4 (rc a (nI (j + 1)) k n 0 (upd b j 41) 20 x (nI (d + 1))) fun v c1 c2 c3 => Option.bind (f3_bodyOf k 0) fun w => bn4 (rc a c1 k n c2 c3 w n (nI (d + 1))) fun v2 c4 c5 c6 => some (v + v2, c4, c5, c6) := by
  unfold f3_run_
  rw [if_pos rfl, if_pos (show nI d ≤ 40 from nI_le (b := 40) hd (by omega)), jnE, if_neg (show ¬ (30 : Int32) ≤ nI j from nI_ge (b := 30) hj (by omega)), gdi hj (by omega), nI_clamp (by omega), nI_1, nI_1]
  rfl
theorem ar_50 {rc : Int32 → Int32 → Int32 → Int32 → Int32 → (Nat → Int32) → Int32 → Int32 → Int32 → Option (Int32 × Int32 × Int32 × (Nat → Int32))} {a k n x : Int32} {b : Nat → Int32} {j d : Nat} (hj : j < 30) (hd : d ≤ 40) : f3_run_ rc a (nI j) k n 0 b 50 x (nI d) = bn4 (rc a (nI (j + 1)) k n 0 (upd b j 50) 12 (x + 2) (nI (d + 1))) fun v c1 c2 c3 => some (v ^^^ 1, c1, c2, c3) := by
  unfold f3_run_
  rw [if_pos rfl, if_pos (show nI d ≤ 40 from nI_le (b := 40) hd (by omega)), jnE, if_neg (show ¬ (30 : Int32) ≤ nI j from nI_ge (b := 30) hj (by omega)), gdi hj (by omega), nI_clamp (by omega), nI_1, nI_1]
  rfl
theorem ar_51 {rc : Int32 → Int32 → Int32 → Int32 → Int32 → (Nat → Int32) → Int32 → Int32 → Int32 → Option (Int32 × Int32 × Int32 × (Nat → Int32))} {a k n x : Int32} {b : Nat → Int32} {j d : Nat} (hj : j < 30) (hd : d ≤ 40) : f3_run_ rc a (nI j) k n 0 b 51 x (nI d) = bn4 (rc a (nI (j + 1)) k n 0 (upd b j 51) 30 x (nI (d + 1))) fun v c1 c2 c3 => some (v - n, c1, c2, c3) := by
  unfold f3_run_
  rw [if_pos rfl, if_pos (show nI d ≤ 40 from nI_le (b := 40) hd (by omega)), jnE, if_neg (show ¬ (30 : Int32) ≤ nI j from nI_ge (b := 30) hj (by omega)), gdi hj (by omega), nI_clamp (by omega), nI_1, nI_1]
  rfl
theorem ar_60 {rc : Int32 → Int32 → Int32 → Int32 → Int32 → (Nat → Int32) → Int32 → Int32 → Int32 → Option (Int32 × Int32 × Int32 × (Nat → Int32))} {a k n x : Int32} {b : Nat → Int32} {j d : Nat} (hj : j < 30) (hd : d ≤ 40) : f3_run_ rc a (nI j) k n 0 b 60 x (nI d) = bn4 (rc a (nI (j + 1)) k n 0 (upd b j 60) 13 x (nI (d + 1))) fun v c1 c2 c3 => some (v * 2, c1, c2, c3) := by
  unfold f3_run_
  rw [if_pos rfl, if_pos (show nI d ≤ 40 from nI_le (b := 40) hd (by omega)), jnE, if_neg (show ¬ (30 : Int32) ≤ nI j from nI_ge (b := 30) hj (by omega)), gdi hj (by omega), nI_clamp (by omega), nI_1, nI_1]
  rfl
theorem ar_61 {rc : Int32 → Int32 → Int32 → Int32 → Int32 → (Nat → Int32) → Int32 → Int32 → Int32 → Option (Int32 × Int32 × Int32 × (Nat → Int32))} {a k n x : Int32} {b : Nat → Int32} {j d : Nat} (hj : j < 30) (hd : d ≤ 40) : f3_run_ rc a (nI j) k n 0 b 61 x (nI d) = bn4 (rc a (nI (j + 1)) k n 0 (upd b j 61) 12 x (nI (d + 1))) fun v c1 c2 c3 => Option.bind (f3_bodyOf k 0) fun w => bn4 (rc a c1 k n c2 c3 w a (nI (d + 1))) fun v2 c4 c5 c6 => some (v + v2, c4, c5, c6) := by
  unfold f3_run_
  rw [if_pos rfl, if_pos (show nI d ≤ 40 from nI_le (b := 40) hd (by omega)), jnE, if_neg (show ¬ (30 : Int32) ≤ nI j from nI_ge (b := 30) hj (by omega)), gdi hj (by omega), nI_clamp (by omega), nI_1, nI_1]
  rfl
theorem ar_P {rc : Int32 → Int32 → Int32 → Int32 → Int32 → (Nat → Int32) → Int32 → Int32 → Int32 → Option (Int32 × Int32 × Int32 × (Nat → Int32))} {a k n x : Int32} {b : Nat → Int32} {j d : Nat} {c y e : Int32} : f3_run_ rc a c k n 1 b y x e = some (0, c, 1, b) := by
  unfold f3_run_
  rw [if_neg (by decide)]
theorem bo_0_0 : f3_bodyOf 0 0 = some 10 := by decide
theorem bo_0_1 : f3_bodyOf 0 1 = some 11 := by decide
theorem bo_0_2 : f3_bodyOf 0 2 = some 12 := by decide
theorem bo_0_3 : f3_bodyOf 0 3 = some 13 := by decide
theorem bo_1_0 : f3_bodyOf 1 0 = some 10 := by decide
theorem bo_1_1 : f3_bodyOf 1 1 = some 20 := by decide
theorem bo_1_2 : f3_bodyOf 1 2 = some 12 := by decide
theorem bo_1_3 : f3_bodyOf 1 3 = some 13 := by decide
theorem bo_2_0 : f3_bodyOf 2 0 = some 30 := by decide
theorem bo_2_1 : f3_bodyOf 2 1 = some 11 := by decide
theorem bo_2_2 : f3_bodyOf 2 2 = some 12 := by decide
theorem bo_2_3 : f3_bodyOf 2 3 = some 31 := by decide
theorem bo_3_0 : f3_bodyOf 3 0 = some 40 := by decide
theorem bo_3_1 : f3_bodyOf 3 1 = some 41 := by decide
theorem bo_3_2 : f3_bodyOf 3 2 = some 12 := by decide
theorem bo_3_3 : f3_bodyOf 3 3 = some 13 := by decide
theorem bo_4_0 : f3_bodyOf 4 0 = some 51 := by decide
theorem bo_4_1 : f3_bodyOf 4 1 = some 11 := by decide
theorem bo_4_2 : f3_bodyOf 4 2 = some 50 := by decide
theorem bo_4_3 : f3_bodyOf 4 3 = some 31 := by decide
theorem bo_5_0 : f3_bodyOf 5 0 = some 10 := by decide
theorem bo_5_1 : f3_bodyOf 5 1 = some 11 := by decide
theorem bo_5_2 : f3_bodyOf 5 2 = some 61 := by decide
theorem bo_5_3 : f3_bodyOf 5 3 = some 60 := by decide
theorem f9_ran_s {j : Nat} (hj : j < 30) (t : Nat → Int32) (v : Int32) : f9_ran (nI j) t v = some (nI (j + 1), upd t j v) := by
  unfold f9_ran
  rw [if_neg (show ¬ (30 : Int32) ≤ nI j from nI_ge (b := 30) hj (by omega)), gdi hj (by omega), nI_clamp (by omega), nI_1]
theorem upd_both {b1 b2 : Nat → Int32} {j : Nat} {v : Int32} (h : ∀ i, i < j → b2 i = b1 i) : ∀ i, i < j + 1 → upd b2 j v i = upd b1 j v i := by
  intro i hi
  by_cases e : i = j
  · rw [updS e, updS e]
  · rw [upd_n e, upd_n e]; exact h i (by omega)
theorem sh_P {a n : Int32} (h : a - n = 0) (y : Int32) : f3_share a n 0 y = some (0, 1) := by
  unfold f3_share
  rw [if_pos h]
theorem sh_N {a n : Int32} (h : ¬ a - n = 0) (y : Int32) : f3_share a n 0 y = some (y / (a - n), 0) := by
  unfold f3_share
  rw [if_neg h, show nz (a - n) = true from decide_eq_true h, gd_t]
theorem ps_P {a n : Int32} (h : a = n) {j : Nat} (hj : j < 30) (t : Nat → Int32) (y : Int32) : f9_plainShares (nI j) 0 n a t y = some (0, nI (j + 1), 1, upd t j 12) := by
  unfold f9_plainShares
  rw [f9_ran_s hj, bn2E, if_pos h]
theorem ps_N {a n : Int32} (h : ¬ a = n) {j : Nat} (hj : j < 30) (t : Nat → Int32) (y : Int32) : f9_plainShares (nI j) 0 n a t y = some (y / (a - n), nI (j + 1), 0, upd t j 12) := by
  have h2 : ¬ a - n = 0 := fun q => h (by rw [← Int32.sub_add_cancel a n, q, Int32.zero_add])
  unfold f9_plainShares
  rw [f9_ran_s hj, bn2E, if_neg h, show nz (a - n) = true from decide_eq_true h2, gd_t]
/-- both sides of an act agree -/
def AR (o8 o9 : Option (Int32 × Int32 × Int32 × (Nat → Int32))) : Prop := ∃ (v8 v9 p : Int32) (c : Nat) (b1 b2 : Nat → Int32), o8 = some (v8, nI c, p, b1) ∧ o9 = some (v9, nI c, p, b2) ∧ (p = 0 → v8 = v9) ∧ (p = 0 ∨ p = 1) ∧ c ≤ 30 ∧ ∀ i, i < c → b2 i = b1 i
/-- the reference's act of a kind -/
def rfA (act k n a x : Int32) (t : Nat → Int32) : Option (Int32 × Int32 × Int32 × (Nat → Int32)) :=
  if act = 0 then bn3 (f9_hitsIt (nI 0) k n t x) fun v c s => some (v, c, 0, s)
  else if act = 1 then bn3 (f9_paysIt (nI 0) k n a t x) fun v c s => some (v, c, 0, s)
  else if act = 2 then f9_sharesIt (nI 0) 0 k n a t x
  else f9_tellsIt (nI 0) 0 k n a t x
theorem lq_0_1 : ((0 : Int32) = 1) = False := eq_false (by decide)
theorem lq_0_2 : ((0 : Int32) = 2) = False := eq_false (by decide)
theorem lq_0_3 : ((0 : Int32) = 3) = False := eq_false (by decide)
theorem lq_0_4 : ((0 : Int32) = 4) = False := eq_false (by decide)
theorem lq_0_5 : ((0 : Int32) = 5) = False := eq_false (by decide)
theorem lq_1_0 : ((1 : Int32) = 0) = False := eq_false (by decide)
theorem lq_1_2 : ((1 : Int32) = 2) = False := eq_false (by decide)
theorem lq_1_3 : ((1 : Int32) = 3) = False := eq_false (by decide)
theorem lq_1_4 : ((1 : Int32) = 4) = False := eq_false (by decide)
theorem lq_1_5 : ((1 : Int32) = 5) = False := eq_false (by decide)
theorem lq_2_0 : ((2 : Int32) = 0) = False := eq_false (by decide)
theorem lq_2_1 : ((2 : Int32) = 1) = False := eq_false (by decide)
theorem lq_2_3 : ((2 : Int32) = 3) = False := eq_false (by decide)
theorem lq_2_4 : ((2 : Int32) = 4) = False := eq_false (by decide)
theorem lq_2_5 : ((2 : Int32) = 5) = False := eq_false (by decide)
theorem lq_3_0 : ((3 : Int32) = 0) = False := eq_false (by decide)
theorem lq_3_1 : ((3 : Int32) = 1) = False := eq_false (by decide)
theorem lq_3_2 : ((3 : Int32) = 2) = False := eq_false (by decide)
theorem lq_3_4 : ((3 : Int32) = 4) = False := eq_false (by decide)
theorem lq_3_5 : ((3 : Int32) = 5) = False := eq_false (by decide)
theorem lq_4_0 : ((4 : Int32) = 0) = False := eq_false (by decide)
theorem lq_4_1 : ((4 : Int32) = 1) = False := eq_false (by decide)
theorem lq_4_2 : ((4 : Int32) = 2) = False := eq_false (by decide)
theorem lq_4_3 : ((4 : Int32) = 3) = False := eq_false (by decide)
theorem lq_4_5 : ((4 : Int32) = 5) = False := eq_false (by decide)
theorem lq_5_0 : ((5 : Int32) = 0) = False := eq_false (by decide)
theorem lq_5_1 : ((5 : Int32) = 1) = False := eq_false (by decide)
theorem lq_5_2 : ((5 : Int32) = 2) = False := eq_false (by decide)
theorem lq_5_3 : ((5 : Int32) = 3) = False := eq_false (by decide)
theorem lq_5_4 : ((5 : Int32) = 4) = False := eq_false (by decide)
theorem ac_0_0 (a n x : Int32) (b t : Nat → Int32) : AR (f3_run 10 a (nI 0) 0 n 0 b 10 x (nI 0)) (rfA 0 0 n a x t) := by
  unfold rfA
  by_cases h : a = n
  · have hs := sh_P (show a - n = 0 from by rw [h]; exact Int32.sub_self _)
    have hp : ∀ j, j < 30 → ∀ (t : Nat → Int32) (y : Int32), f9_plainShares (nI j) 0 n a t y = some (0, nI (j + 1), 1, upd t j 12) := fun j hj t y => ps_P h hj t y
    simp (disch := omega) only [f3_run, ar_10, ar_11, ar_12, ar_13, ar_20, ar_30, ar_31, ar_40, ar_41, ar_50, ar_51, ar_60, ar_61, ar_P, bo_0_0, bo_0_1, bo_0_2, bo_0_3, bo_1_0, bo_1_1, bo_1_2, bo_1_3, bo_2_0, bo_2_1, bo_2_2, bo_2_3, bo_3_0, bo_3_1, bo_3_2, bo_3_3, bo_4_0, bo_4_1, bo_4_2, bo_4_3, bo_5_0, bo_5_1, bo_5_2, bo_5_3, hs, hp, bn2E, bn3E, bn4E, bsE, jnE, f9_ran_s, f9_hitsIt, f9_plainHits, f9_glassHits, f9_plainPays, f9_bumpPays, f9_paysIt, f9_sharesIt, f9_plainTells, f9_tellsIt, ↓reduceIte, eq_self, lq_0_1, lq_0_2, lq_0_3, lq_0_4, lq_0_5, lq_1_0, lq_1_2, lq_1_3, lq_1_4, lq_1_5, lq_2_0, lq_2_1, lq_2_3, lq_2_4, lq_2_5, lq_3_0, lq_3_1, lq_3_2, lq_3_4, lq_3_5, lq_4_0, lq_4_1, lq_4_2, lq_4_3, lq_4_5, lq_5_0, lq_5_1, lq_5_2, lq_5_3, lq_5_4]
    refine ⟨_, _, _, _, _, _, rfl, rfl, ?_, ?_, ?_, ?_⟩
    · first | exact fun _ => rfl | exact fun q => absurd q (by decide)
    · first | exact Or.inl rfl | exact Or.inr rfl
    · omega
    · repeat refine upd_both ?_
      exact fun i hi => absurd hi (by omega)
  · have hs := sh_N (show ¬ a - n = 0 from fun q => h (by rw [← Int32.sub_add_cancel a n, q, Int32.zero_add]))
    have hp : ∀ j, j < 30 → ∀ (t : Nat → Int32) (y : Int32), f9_plainShares (nI j) 0 n a t y = some (y / (a - n), nI (j + 1), 0, upd t j 12) := fun j hj t y => ps_N h hj t y
    simp (disch := omega) only [f3_run, ar_10, ar_11, ar_12, ar_13, ar_20, ar_30, ar_31, ar_40, ar_41, ar_50, ar_51, ar_60, ar_61, ar_P, bo_0_0, bo_0_1, bo_0_2, bo_0_3, bo_1_0, bo_1_1, bo_1_2, bo_1_3, bo_2_0, bo_2_1, bo_2_2, bo_2_3, bo_3_0, bo_3_1, bo_3_2, bo_3_3, bo_4_0, bo_4_1, bo_4_2, bo_4_3, bo_5_0, bo_5_1, bo_5_2, bo_5_3, hs, hp, bn2E, bn3E, bn4E, bsE, jnE, f9_ran_s, f9_hitsIt, f9_plainHits, f9_glassHits, f9_plainPays, f9_bumpPays, f9_paysIt, f9_sharesIt, f9_plainTells, f9_tellsIt, ↓reduceIte, eq_self, lq_0_1, lq_0_2, lq_0_3, lq_0_4, lq_0_5, lq_1_0, lq_1_2, lq_1_3, lq_1_4, lq_1_5, lq_2_0, lq_2_1, lq_2_3, lq_2_4, lq_2_5, lq_3_0, lq_3_1, lq_3_2, lq_3_4, lq_3_5, lq_4_0, lq_4_1, lq_4_2, lq_4_3, lq_4_5, lq_5_0, lq_5_1, lq_5_2, lq_5_3, lq_5_4]
    refine ⟨_, _, _, _, _, _, rfl, rfl, ?_, ?_, ?_, ?_⟩
    · first | exact fun _ => rfl | exact fun q => absurd q (by decide)
    · first | exact Or.inl rfl | exact Or.inr rfl
    · omega
    · repeat refine upd_both ?_
      exact fun i hi => absurd hi (by omega)
theorem ac_0_1 (a n x : Int32) (b t : Nat → Int32) : AR (f3_run 10 a (nI 0) 0 n 0 b 11 x (nI 0)) (rfA 1 0 n a x t) := by
  unfold rfA
  by_cases h : a = n
  · have hs := sh_P (show a - n = 0 from by rw [h]; exact Int32.sub_self _)
    have hp : ∀ j, j < 30 → ∀ (t : Nat → Int32) (y : Int32), f9_plainShares (nI j) 0 n a t y = some (0, nI (j + 1), 1, upd t j 12) := fun j hj t y => ps_P h hj t y
    simp (disch := omega) only [f3_run, ar_10, ar_11, ar_12, ar_13, ar_20, ar_30, ar_31, ar_40, ar_41, ar_50, ar_51, ar_60, ar_61, ar_P, bo_0_0, bo_0_1, bo_0_2, bo_0_3, bo_1_0, bo_1_1, bo_1_2, bo_1_3, bo_2_0, bo_2_1, bo_2_2, bo_2_3, bo_3_0, bo_3_1, bo_3_2, bo_3_3, bo_4_0, bo_4_1, bo_4_2, bo_4_3, bo_5_0, bo_5_1, bo_5_2, bo_5_3, hs, hp, bn2E, bn3E, bn4E, bsE, jnE, f9_ran_s, f9_hitsIt, f9_plainHits, f9_glassHits, f9_plainPays, f9_bumpPays, f9_paysIt, f9_sharesIt, f9_plainTells, f9_tellsIt, ↓reduceIte, eq_self, lq_0_1, lq_0_2, lq_0_3, lq_0_4, lq_0_5, lq_1_0, lq_1_2, lq_1_3, lq_1_4, lq_1_5, lq_2_0, lq_2_1, lq_2_3, lq_2_4, lq_2_5, lq_3_0, lq_3_1, lq_3_2, lq_3_4, lq_3_5, lq_4_0, lq_4_1, lq_4_2, lq_4_3, lq_4_5, lq_5_0, lq_5_1, lq_5_2, lq_5_3, lq_5_4]
    refine ⟨_, _, _, _, _, _, rfl, rfl, ?_, ?_, ?_, ?_⟩
    · first | exact fun _ => rfl | exact fun q => absurd q (by decide)
    · first | exact Or.inl rfl | exact Or.inr rfl
    · omega
    · repeat refine upd_both ?_
      exact fun i hi => absurd hi (by omega)
  · have hs := sh_N (show ¬ a - n = 0 from fun q => h (by rw [← Int32.sub_add_cancel a n, q, Int32.zero_add]))
    have hp : ∀ j, j < 30 → ∀ (t : Nat → Int32) (y : Int32), f9_plainShares (nI j) 0 n a t y = some (y / (a - n), nI (j + 1), 0, upd t j 12) := fun j hj t y => ps_N h hj t y
    simp (disch := omega) only [f3_run, ar_10, ar_11, ar_12, ar_13, ar_20, ar_30, ar_31, ar_40, ar_41, ar_50, ar_51, ar_60, ar_61, ar_P, bo_0_0, bo_0_1, bo_0_2, bo_0_3, bo_1_0, bo_1_1, bo_1_2, bo_1_3, bo_2_0, bo_2_1, bo_2_2, bo_2_3, bo_3_0, bo_3_1, bo_3_2, bo_3_3, bo_4_0, bo_4_1, bo_4_2, bo_4_3, bo_5_0, bo_5_1, bo_5_2, bo_5_3, hs, hp, bn2E, bn3E, bn4E, bsE, jnE, f9_ran_s, f9_hitsIt, f9_plainHits, f9_glassHits, f9_plainPays, f9_bumpPays, f9_paysIt, f9_sharesIt, f9_plainTells, f9_tellsIt, ↓reduceIte, eq_self, lq_0_1, lq_0_2, lq_0_3, lq_0_4, lq_0_5, lq_1_0, lq_1_2, lq_1_3, lq_1_4, lq_1_5, lq_2_0, lq_2_1, lq_2_3, lq_2_4, lq_2_5, lq_3_0, lq_3_1, lq_3_2, lq_3_4, lq_3_5, lq_4_0, lq_4_1, lq_4_2, lq_4_3, lq_4_5, lq_5_0, lq_5_1, lq_5_2, lq_5_3, lq_5_4]
    refine ⟨_, _, _, _, _, _, rfl, rfl, ?_, ?_, ?_, ?_⟩
    · first | exact fun _ => rfl | exact fun q => absurd q (by decide)
    · first | exact Or.inl rfl | exact Or.inr rfl
    · omega
    · repeat refine upd_both ?_
      exact fun i hi => absurd hi (by omega)
theorem ac_0_2 (a n x : Int32) (b t : Nat → Int32) : AR (f3_run 10 a (nI 0) 0 n 0 b 12 x (nI 0)) (rfA 2 0 n a x t) := by
  unfold rfA
  by_cases h : a = n
  · have hs := sh_P (show a - n = 0 from by rw [h]; exact Int32.sub_self _)
    have hp : ∀ j, j < 30 → ∀ (t : Nat → Int32) (y : Int32), f9_plainShares (nI j) 0 n a t y = some (0, nI (j + 1), 1, upd t j 12) := fun j hj t y => ps_P h hj t y
    simp (disch := omega) only [f3_run, ar_10, ar_11, ar_12, ar_13, ar_20, ar_30, ar_31, ar_40, ar_41, ar_50, ar_51, ar_60, ar_61, ar_P, bo_0_0, bo_0_1, bo_0_2, bo_0_3, bo_1_0, bo_1_1, bo_1_2, bo_1_3, bo_2_0, bo_2_1, bo_2_2, bo_2_3, bo_3_0, bo_3_1, bo_3_2, bo_3_3, bo_4_0, bo_4_1, bo_4_2, bo_4_3, bo_5_0, bo_5_1, bo_5_2, bo_5_3, hs, hp, bn2E, bn3E, bn4E, bsE, jnE, f9_ran_s, f9_hitsIt, f9_plainHits, f9_glassHits, f9_plainPays, f9_bumpPays, f9_paysIt, f9_sharesIt, f9_plainTells, f9_tellsIt, ↓reduceIte, eq_self, lq_0_1, lq_0_2, lq_0_3, lq_0_4, lq_0_5, lq_1_0, lq_1_2, lq_1_3, lq_1_4, lq_1_5, lq_2_0, lq_2_1, lq_2_3, lq_2_4, lq_2_5, lq_3_0, lq_3_1, lq_3_2, lq_3_4, lq_3_5, lq_4_0, lq_4_1, lq_4_2, lq_4_3, lq_4_5, lq_5_0, lq_5_1, lq_5_2, lq_5_3, lq_5_4]
    refine ⟨_, _, _, _, _, _, rfl, rfl, ?_, ?_, ?_, ?_⟩
    · first | exact fun _ => rfl | exact fun q => absurd q (by decide)
    · first | exact Or.inl rfl | exact Or.inr rfl
    · omega
    · repeat refine upd_both ?_
      exact fun i hi => absurd hi (by omega)
  · have hs := sh_N (show ¬ a - n = 0 from fun q => h (by rw [← Int32.sub_add_cancel a n, q, Int32.zero_add]))
    have hp : ∀ j, j < 30 → ∀ (t : Nat → Int32) (y : Int32), f9_plainShares (nI j) 0 n a t y = some (y / (a - n), nI (j + 1), 0, upd t j 12) := fun j hj t y => ps_N h hj t y
    simp (disch := omega) only [f3_run, ar_10, ar_11, ar_12, ar_13, ar_20, ar_30, ar_31, ar_40, ar_41, ar_50, ar_51, ar_60, ar_61, ar_P, bo_0_0, bo_0_1, bo_0_2, bo_0_3, bo_1_0, bo_1_1, bo_1_2, bo_1_3, bo_2_0, bo_2_1, bo_2_2, bo_2_3, bo_3_0, bo_3_1, bo_3_2, bo_3_3, bo_4_0, bo_4_1, bo_4_2, bo_4_3, bo_5_0, bo_5_1, bo_5_2, bo_5_3, hs, hp, bn2E, bn3E, bn4E, bsE, jnE, f9_ran_s, f9_hitsIt, f9_plainHits, f9_glassHits, f9_plainPays, f9_bumpPays, f9_paysIt, f9_sharesIt, f9_plainTells, f9_tellsIt, ↓reduceIte, eq_self, lq_0_1, lq_0_2, lq_0_3, lq_0_4, lq_0_5, lq_1_0, lq_1_2, lq_1_3, lq_1_4, lq_1_5, lq_2_0, lq_2_1, lq_2_3, lq_2_4, lq_2_5, lq_3_0, lq_3_1, lq_3_2, lq_3_4, lq_3_5, lq_4_0, lq_4_1, lq_4_2, lq_4_3, lq_4_5, lq_5_0, lq_5_1, lq_5_2, lq_5_3, lq_5_4]
    refine ⟨_, _, _, _, _, _, rfl, rfl, ?_, ?_, ?_, ?_⟩
    · first | exact fun _ => rfl | exact fun q => absurd q (by decide)
    · first | exact Or.inl rfl | exact Or.inr rfl
    · omega
    · repeat refine upd_both ?_
      exact fun i hi => absurd hi (by omega)
theorem ac_0_3 (a n x : Int32) (b t : Nat → Int32) : AR (f3_run 10 a (nI 0) 0 n 0 b 13 x (nI 0)) (rfA 3 0 n a x t) := by
  unfold rfA
  by_cases h : a = n
  · have hs := sh_P (show a - n = 0 from by rw [h]; exact Int32.sub_self _)
    have hp : ∀ j, j < 30 → ∀ (t : Nat → Int32) (y : Int32), f9_plainShares (nI j) 0 n a t y = some (0, nI (j + 1), 1, upd t j 12) := fun j hj t y => ps_P h hj t y
    simp (disch := omega) only [f3_run, ar_10, ar_11, ar_12, ar_13, ar_20, ar_30, ar_31, ar_40, ar_41, ar_50, ar_51, ar_60, ar_61, ar_P, bo_0_0, bo_0_1, bo_0_2, bo_0_3, bo_1_0, bo_1_1, bo_1_2, bo_1_3, bo_2_0, bo_2_1, bo_2_2, bo_2_3, bo_3_0, bo_3_1, bo_3_2, bo_3_3, bo_4_0, bo_4_1, bo_4_2, bo_4_3, bo_5_0, bo_5_1, bo_5_2, bo_5_3, hs, hp, bn2E, bn3E, bn4E, bsE, jnE, f9_ran_s, f9_hitsIt, f9_plainHits, f9_glassHits, f9_plainPays, f9_bumpPays, f9_paysIt, f9_sharesIt, f9_plainTells, f9_tellsIt, ↓reduceIte, eq_self, lq_0_1, lq_0_2, lq_0_3, lq_0_4, lq_0_5, lq_1_0, lq_1_2, lq_1_3, lq_1_4, lq_1_5, lq_2_0, lq_2_1, lq_2_3, lq_2_4, lq_2_5, lq_3_0, lq_3_1, lq_3_2, lq_3_4, lq_3_5, lq_4_0, lq_4_1, lq_4_2, lq_4_3, lq_4_5, lq_5_0, lq_5_1, lq_5_2, lq_5_3, lq_5_4]
    refine ⟨_, _, _, _, _, _, rfl, rfl, ?_, ?_, ?_, ?_⟩
    · first | exact fun _ => rfl | exact fun q => absurd q (by decide)
    · first | exact Or.inl rfl | exact Or.inr rfl
    · omega
    · repeat refine upd_both ?_
      exact fun i hi => absurd hi (by omega)
  · have hs := sh_N (show ¬ a - n = 0 from fun q => h (by rw [← Int32.sub_add_cancel a n, q, Int32.zero_add]))
    have hp : ∀ j, j < 30 → ∀ (t : Nat → Int32) (y : Int32), f9_plainShares (nI j) 0 n a t y = some (y / (a - n), nI (j + 1), 0, upd t j 12) := fun j hj t y => ps_N h hj t y
    simp (disch := omega) only [f3_run, ar_10, ar_11, ar_12, ar_13, ar_20, ar_30, ar_31, ar_40, ar_41, ar_50, ar_51, ar_60, ar_61, ar_P, bo_0_0, bo_0_1, bo_0_2, bo_0_3, bo_1_0, bo_1_1, bo_1_2, bo_1_3, bo_2_0, bo_2_1, bo_2_2, bo_2_3, bo_3_0, bo_3_1, bo_3_2, bo_3_3, bo_4_0, bo_4_1, bo_4_2, bo_4_3, bo_5_0, bo_5_1, bo_5_2, bo_5_3, hs, hp, bn2E, bn3E, bn4E, bsE, jnE, f9_ran_s, f9_hitsIt, f9_plainHits, f9_glassHits, f9_plainPays, f9_bumpPays, f9_paysIt, f9_sharesIt, f9_plainTells, f9_tellsIt, ↓reduceIte, eq_self, lq_0_1, lq_0_2, lq_0_3, lq_0_4, lq_0_5, lq_1_0, lq_1_2, lq_1_3, lq_1_4, lq_1_5, lq_2_0, lq_2_1, lq_2_3, lq_2_4, lq_2_5, lq_3_0, lq_3_1, lq_3_2, lq_3_4, lq_3_5, lq_4_0, lq_4_1, lq_4_2, lq_4_3, lq_4_5, lq_5_0, lq_5_1, lq_5_2, lq_5_3, lq_5_4]
    refine ⟨_, _, _, _, _, _, rfl, rfl, ?_, ?_, ?_, ?_⟩
    · first | exact fun _ => rfl | exact fun q => absurd q (by decide)
    · first | exact Or.inl rfl | exact Or.inr rfl
    · omega
    · repeat refine upd_both ?_
      exact fun i hi => absurd hi (by omega)
theorem ac_1_0 (a n x : Int32) (b t : Nat → Int32) : AR (f3_run 10 a (nI 0) 1 n 0 b 10 x (nI 0)) (rfA 0 1 n a x t) := by
  unfold rfA
  by_cases h : a = n
  · have hs := sh_P (show a - n = 0 from by rw [h]; exact Int32.sub_self _)
    have hp : ∀ j, j < 30 → ∀ (t : Nat → Int32) (y : Int32), f9_plainShares (nI j) 0 n a t y = some (0, nI (j + 1), 1, upd t j 12) := fun j hj t y => ps_P h hj t y
    simp (disch := omega) only [f3_run, ar_10, ar_11, ar_12, ar_13, ar_20, ar_30, ar_31, ar_40, ar_41, ar_50, ar_51, ar_60, ar_61, ar_P, bo_0_0, bo_0_1, bo_0_2, bo_0_3, bo_1_0, bo_1_1, bo_1_2, bo_1_3, bo_2_0, bo_2_1, bo_2_2, bo_2_3, bo_3_0, bo_3_1, bo_3_2, bo_3_3, bo_4_0, bo_4_1, bo_4_2, bo_4_3, bo_5_0, bo_5_1, bo_5_2, bo_5_3, hs, hp, bn2E, bn3E, bn4E, bsE, jnE, f9_ran_s, f9_hitsIt, f9_plainHits, f9_glassHits, f9_plainPays, f9_bumpPays, f9_paysIt, f9_sharesIt, f9_plainTells, f9_tellsIt, ↓reduceIte, eq_self, lq_0_1, lq_0_2, lq_0_3, lq_0_4, lq_0_5, lq_1_0, lq_1_2, lq_1_3, lq_1_4, lq_1_5, lq_2_0, lq_2_1, lq_2_3, lq_2_4, lq_2_5, lq_3_0, lq_3_1, lq_3_2, lq_3_4, lq_3_5, lq_4_0, lq_4_1, lq_4_2, lq_4_3, lq_4_5, lq_5_0, lq_5_1, lq_5_2, lq_5_3, lq_5_4]
    refine ⟨_, _, _, _, _, _, rfl, rfl, ?_, ?_, ?_, ?_⟩
    · first | exact fun _ => rfl | exact fun q => absurd q (by decide)
    · first | exact Or.inl rfl | exact Or.inr rfl
    · omega
    · repeat refine upd_both ?_
      exact fun i hi => absurd hi (by omega)
  · have hs := sh_N (show ¬ a - n = 0 from fun q => h (by rw [← Int32.sub_add_cancel a n, q, Int32.zero_add]))
    have hp : ∀ j, j < 30 → ∀ (t : Nat → Int32) (y : Int32), f9_plainShares (nI j) 0 n a t y = some (y / (a - n), nI (j + 1), 0, upd t j 12) := fun j hj t y => ps_N h hj t y
    simp (disch := omega) only [f3_run, ar_10, ar_11, ar_12, ar_13, ar_20, ar_30, ar_31, ar_40, ar_41, ar_50, ar_51, ar_60, ar_61, ar_P, bo_0_0, bo_0_1, bo_0_2, bo_0_3, bo_1_0, bo_1_1, bo_1_2, bo_1_3, bo_2_0, bo_2_1, bo_2_2, bo_2_3, bo_3_0, bo_3_1, bo_3_2, bo_3_3, bo_4_0, bo_4_1, bo_4_2, bo_4_3, bo_5_0, bo_5_1, bo_5_2, bo_5_3, hs, hp, bn2E, bn3E, bn4E, bsE, jnE, f9_ran_s, f9_hitsIt, f9_plainHits, f9_glassHits, f9_plainPays, f9_bumpPays, f9_paysIt, f9_sharesIt, f9_plainTells, f9_tellsIt, ↓reduceIte, eq_self, lq_0_1, lq_0_2, lq_0_3, lq_0_4, lq_0_5, lq_1_0, lq_1_2, lq_1_3, lq_1_4, lq_1_5, lq_2_0, lq_2_1, lq_2_3, lq_2_4, lq_2_5, lq_3_0, lq_3_1, lq_3_2, lq_3_4, lq_3_5, lq_4_0, lq_4_1, lq_4_2, lq_4_3, lq_4_5, lq_5_0, lq_5_1, lq_5_2, lq_5_3, lq_5_4]
    refine ⟨_, _, _, _, _, _, rfl, rfl, ?_, ?_, ?_, ?_⟩
    · first | exact fun _ => rfl | exact fun q => absurd q (by decide)
    · first | exact Or.inl rfl | exact Or.inr rfl
    · omega
    · repeat refine upd_both ?_
      exact fun i hi => absurd hi (by omega)
theorem ac_1_1 (a n x : Int32) (b t : Nat → Int32) : AR (f3_run 10 a (nI 0) 1 n 0 b 20 x (nI 0)) (rfA 1 1 n a x t) := by
  unfold rfA
  by_cases h : a = n
  · have hs := sh_P (show a - n = 0 from by rw [h]; exact Int32.sub_self _)
    have hp : ∀ j, j < 30 → ∀ (t : Nat → Int32) (y : Int32), f9_plainShares (nI j) 0 n a t y = some (0, nI (j + 1), 1, upd t j 12) := fun j hj t y => ps_P h hj t y
    simp (disch := omega) only [f3_run, ar_10, ar_11, ar_12, ar_13, ar_20, ar_30, ar_31, ar_40, ar_41, ar_50, ar_51, ar_60, ar_61, ar_P, bo_0_0, bo_0_1, bo_0_2, bo_0_3, bo_1_0, bo_1_1, bo_1_2, bo_1_3, bo_2_0, bo_2_1, bo_2_2, bo_2_3, bo_3_0, bo_3_1, bo_3_2, bo_3_3, bo_4_0, bo_4_1, bo_4_2, bo_4_3, bo_5_0, bo_5_1, bo_5_2, bo_5_3, hs, hp, bn2E, bn3E, bn4E, bsE, jnE, f9_ran_s, f9_hitsIt, f9_plainHits, f9_glassHits, f9_plainPays, f9_bumpPays, f9_paysIt, f9_sharesIt, f9_plainTells, f9_tellsIt, ↓reduceIte, eq_self, lq_0_1, lq_0_2, lq_0_3, lq_0_4, lq_0_5, lq_1_0, lq_1_2, lq_1_3, lq_1_4, lq_1_5, lq_2_0, lq_2_1, lq_2_3, lq_2_4, lq_2_5, lq_3_0, lq_3_1, lq_3_2, lq_3_4, lq_3_5, lq_4_0, lq_4_1, lq_4_2, lq_4_3, lq_4_5, lq_5_0, lq_5_1, lq_5_2, lq_5_3, lq_5_4]
    refine ⟨_, _, _, _, _, _, rfl, rfl, ?_, ?_, ?_, ?_⟩
    · first | exact fun _ => rfl | exact fun q => absurd q (by decide)
    · first | exact Or.inl rfl | exact Or.inr rfl
    · omega
    · repeat refine upd_both ?_
      exact fun i hi => absurd hi (by omega)
  · have hs := sh_N (show ¬ a - n = 0 from fun q => h (by rw [← Int32.sub_add_cancel a n, q, Int32.zero_add]))
    have hp : ∀ j, j < 30 → ∀ (t : Nat → Int32) (y : Int32), f9_plainShares (nI j) 0 n a t y = some (y / (a - n), nI (j + 1), 0, upd t j 12) := fun j hj t y => ps_N h hj t y
    simp (disch := omega) only [f3_run, ar_10, ar_11, ar_12, ar_13, ar_20, ar_30, ar_31, ar_40, ar_41, ar_50, ar_51, ar_60, ar_61, ar_P, bo_0_0, bo_0_1, bo_0_2, bo_0_3, bo_1_0, bo_1_1, bo_1_2, bo_1_3, bo_2_0, bo_2_1, bo_2_2, bo_2_3, bo_3_0, bo_3_1, bo_3_2, bo_3_3, bo_4_0, bo_4_1, bo_4_2, bo_4_3, bo_5_0, bo_5_1, bo_5_2, bo_5_3, hs, hp, bn2E, bn3E, bn4E, bsE, jnE, f9_ran_s, f9_hitsIt, f9_plainHits, f9_glassHits, f9_plainPays, f9_bumpPays, f9_paysIt, f9_sharesIt, f9_plainTells, f9_tellsIt, ↓reduceIte, eq_self, lq_0_1, lq_0_2, lq_0_3, lq_0_4, lq_0_5, lq_1_0, lq_1_2, lq_1_3, lq_1_4, lq_1_5, lq_2_0, lq_2_1, lq_2_3, lq_2_4, lq_2_5, lq_3_0, lq_3_1, lq_3_2, lq_3_4, lq_3_5, lq_4_0, lq_4_1, lq_4_2, lq_4_3, lq_4_5, lq_5_0, lq_5_1, lq_5_2, lq_5_3, lq_5_4]
    refine ⟨_, _, _, _, _, _, rfl, rfl, ?_, ?_, ?_, ?_⟩
    · first | exact fun _ => rfl | exact fun q => absurd q (by decide)
    · first | exact Or.inl rfl | exact Or.inr rfl
    · omega
    · repeat refine upd_both ?_
      exact fun i hi => absurd hi (by omega)
theorem ac_1_2 (a n x : Int32) (b t : Nat → Int32) : AR (f3_run 10 a (nI 0) 1 n 0 b 12 x (nI 0)) (rfA 2 1 n a x t) := by
  unfold rfA
  by_cases h : a = n
  · have hs := sh_P (show a - n = 0 from by rw [h]; exact Int32.sub_self _)
    have hp : ∀ j, j < 30 → ∀ (t : Nat → Int32) (y : Int32), f9_plainShares (nI j) 0 n a t y = some (0, nI (j + 1), 1, upd t j 12) := fun j hj t y => ps_P h hj t y
    simp (disch := omega) only [f3_run, ar_10, ar_11, ar_12, ar_13, ar_20, ar_30, ar_31, ar_40, ar_41, ar_50, ar_51, ar_60, ar_61, ar_P, bo_0_0, bo_0_1, bo_0_2, bo_0_3, bo_1_0, bo_1_1, bo_1_2, bo_1_3, bo_2_0, bo_2_1, bo_2_2, bo_2_3, bo_3_0, bo_3_1, bo_3_2, bo_3_3, bo_4_0, bo_4_1, bo_4_2, bo_4_3, bo_5_0, bo_5_1, bo_5_2, bo_5_3, hs, hp, bn2E, bn3E, bn4E, bsE, jnE, f9_ran_s, f9_hitsIt, f9_plainHits, f9_glassHits, f9_plainPays, f9_bumpPays, f9_paysIt, f9_sharesIt, f9_plainTells, f9_tellsIt, ↓reduceIte, eq_self, lq_0_1, lq_0_2, lq_0_3, lq_0_4, lq_0_5, lq_1_0, lq_1_2, lq_1_3, lq_1_4, lq_1_5, lq_2_0, lq_2_1, lq_2_3, lq_2_4, lq_2_5, lq_3_0, lq_3_1, lq_3_2, lq_3_4, lq_3_5, lq_4_0, lq_4_1, lq_4_2, lq_4_3, lq_4_5, lq_5_0, lq_5_1, lq_5_2, lq_5_3, lq_5_4]
    refine ⟨_, _, _, _, _, _, rfl, rfl, ?_, ?_, ?_, ?_⟩
    · first | exact fun _ => rfl | exact fun q => absurd q (by decide)
    · first | exact Or.inl rfl | exact Or.inr rfl
    · omega
    · repeat refine upd_both ?_
      exact fun i hi => absurd hi (by omega)
  · have hs := sh_N (show ¬ a - n = 0 from fun q => h (by rw [← Int32.sub_add_cancel a n, q, Int32.zero_add]))
    have hp : ∀ j, j < 30 → ∀ (t : Nat → Int32) (y : Int32), f9_plainShares (nI j) 0 n a t y = some (y / (a - n), nI (j + 1), 0, upd t j 12) := fun j hj t y => ps_N h hj t y
    simp (disch := omega) only [f3_run, ar_10, ar_11, ar_12, ar_13, ar_20, ar_30, ar_31, ar_40, ar_41, ar_50, ar_51, ar_60, ar_61, ar_P, bo_0_0, bo_0_1, bo_0_2, bo_0_3, bo_1_0, bo_1_1, bo_1_2, bo_1_3, bo_2_0, bo_2_1, bo_2_2, bo_2_3, bo_3_0, bo_3_1, bo_3_2, bo_3_3, bo_4_0, bo_4_1, bo_4_2, bo_4_3, bo_5_0, bo_5_1, bo_5_2, bo_5_3, hs, hp, bn2E, bn3E, bn4E, bsE, jnE, f9_ran_s, f9_hitsIt, f9_plainHits, f9_glassHits, f9_plainPays, f9_bumpPays, f9_paysIt, f9_sharesIt, f9_plainTells, f9_tellsIt, ↓reduceIte, eq_self, lq_0_1, lq_0_2, lq_0_3, lq_0_4, lq_0_5, lq_1_0, lq_1_2, lq_1_3, lq_1_4, lq_1_5, lq_2_0, lq_2_1, lq_2_3, lq_2_4, lq_2_5, lq_3_0, lq_3_1, lq_3_2, lq_3_4, lq_3_5, lq_4_0, lq_4_1, lq_4_2, lq_4_3, lq_4_5, lq_5_0, lq_5_1, lq_5_2, lq_5_3, lq_5_4]
    refine ⟨_, _, _, _, _, _, rfl, rfl, ?_, ?_, ?_, ?_⟩
    · first | exact fun _ => rfl | exact fun q => absurd q (by decide)
    · first | exact Or.inl rfl | exact Or.inr rfl
    · omega
    · repeat refine upd_both ?_
      exact fun i hi => absurd hi (by omega)
theorem ac_1_3 (a n x : Int32) (b t : Nat → Int32) : AR (f3_run 10 a (nI 0) 1 n 0 b 13 x (nI 0)) (rfA 3 1 n a x t) := by
  unfold rfA
  by_cases h : a = n
  · have hs := sh_P (show a - n = 0 from by rw [h]; exact Int32.sub_self _)
    have hp : ∀ j, j < 30 → ∀ (t : Nat → Int32) (y : Int32), f9_plainShares (nI j) 0 n a t y = some (0, nI (j + 1), 1, upd t j 12) := fun j hj t y => ps_P h hj t y
    simp (disch := omega) only [f3_run, ar_10, ar_11, ar_12, ar_13, ar_20, ar_30, ar_31, ar_40, ar_41, ar_50, ar_51, ar_60, ar_61, ar_P, bo_0_0, bo_0_1, bo_0_2, bo_0_3, bo_1_0, bo_1_1, bo_1_2, bo_1_3, bo_2_0, bo_2_1, bo_2_2, bo_2_3, bo_3_0, bo_3_1, bo_3_2, bo_3_3, bo_4_0, bo_4_1, bo_4_2, bo_4_3, bo_5_0, bo_5_1, bo_5_2, bo_5_3, hs, hp, bn2E, bn3E, bn4E, bsE, jnE, f9_ran_s, f9_hitsIt, f9_plainHits, f9_glassHits, f9_plainPays, f9_bumpPays, f9_paysIt, f9_sharesIt, f9_plainTells, f9_tellsIt, ↓reduceIte, eq_self, lq_0_1, lq_0_2, lq_0_3, lq_0_4, lq_0_5, lq_1_0, lq_1_2, lq_1_3, lq_1_4, lq_1_5, lq_2_0, lq_2_1, lq_2_3, lq_2_4, lq_2_5, lq_3_0, lq_3_1, lq_3_2, lq_3_4, lq_3_5, lq_4_0, lq_4_1, lq_4_2, lq_4_3, lq_4_5, lq_5_0, lq_5_1, lq_5_2, lq_5_3, lq_5_4]
    refine ⟨_, _, _, _, _, _, rfl, rfl, ?_, ?_, ?_, ?_⟩
    · first | exact fun _ => rfl | exact fun q => absurd q (by decide)
    · first | exact Or.inl rfl | exact Or.inr rfl
    · omega
    · repeat refine upd_both ?_
      exact fun i hi => absurd hi (by omega)
  · have hs := sh_N (show ¬ a - n = 0 from fun q => h (by rw [← Int32.sub_add_cancel a n, q, Int32.zero_add]))
    have hp : ∀ j, j < 30 → ∀ (t : Nat → Int32) (y : Int32), f9_plainShares (nI j) 0 n a t y = some (y / (a - n), nI (j + 1), 0, upd t j 12) := fun j hj t y => ps_N h hj t y
    simp (disch := omega) only [f3_run, ar_10, ar_11, ar_12, ar_13, ar_20, ar_30, ar_31, ar_40, ar_41, ar_50, ar_51, ar_60, ar_61, ar_P, bo_0_0, bo_0_1, bo_0_2, bo_0_3, bo_1_0, bo_1_1, bo_1_2, bo_1_3, bo_2_0, bo_2_1, bo_2_2, bo_2_3, bo_3_0, bo_3_1, bo_3_2, bo_3_3, bo_4_0, bo_4_1, bo_4_2, bo_4_3, bo_5_0, bo_5_1, bo_5_2, bo_5_3, hs, hp, bn2E, bn3E, bn4E, bsE, jnE, f9_ran_s, f9_hitsIt, f9_plainHits, f9_glassHits, f9_plainPays, f9_bumpPays, f9_paysIt, f9_sharesIt, f9_plainTells, f9_tellsIt, ↓reduceIte, eq_self, lq_0_1, lq_0_2, lq_0_3, lq_0_4, lq_0_5, lq_1_0, lq_1_2, lq_1_3, lq_1_4, lq_1_5, lq_2_0, lq_2_1, lq_2_3, lq_2_4, lq_2_5, lq_3_0, lq_3_1, lq_3_2, lq_3_4, lq_3_5, lq_4_0, lq_4_1, lq_4_2, lq_4_3, lq_4_5, lq_5_0, lq_5_1, lq_5_2, lq_5_3, lq_5_4]
    refine ⟨_, _, _, _, _, _, rfl, rfl, ?_, ?_, ?_, ?_⟩
    · first | exact fun _ => rfl | exact fun q => absurd q (by decide)
    · first | exact Or.inl rfl | exact Or.inr rfl
    · omega
    · repeat refine upd_both ?_
      exact fun i hi => absurd hi (by omega)
theorem ac_2_0 (a n x : Int32) (b t : Nat → Int32) : AR (f3_run 10 a (nI 0) 2 n 0 b 30 x (nI 0)) (rfA 0 2 n a x t) := by
  unfold rfA
  by_cases h : a = n
  · have hs := sh_P (show a - n = 0 from by rw [h]; exact Int32.sub_self _)
    have hp : ∀ j, j < 30 → ∀ (t : Nat → Int32) (y : Int32), f9_plainShares (nI j) 0 n a t y = some (0, nI (j + 1), 1, upd t j 12) := fun j hj t y => ps_P h hj t y
    simp (disch := omega) only [f3_run, ar_10, ar_11, ar_12, ar_13, ar_20, ar_30, ar_31, ar_40, ar_41, ar_50, ar_51, ar_60, ar_61, ar_P, bo_0_0, bo_0_1, bo_0_2, bo_0_3, bo_1_0, bo_1_1, bo_1_2, bo_1_3, bo_2_0, bo_2_1, bo_2_2, bo_2_3, bo_3_0, bo_3_1, bo_3_2, bo_3_3, bo_4_0, bo_4_1, bo_4_2, bo_4_3, bo_5_0, bo_5_1, bo_5_2, bo_5_3, hs, hp, bn2E, bn3E, bn4E, bsE, jnE, f9_ran_s, f9_hitsIt, f9_plainHits, f9_glassHits, f9_plainPays, f9_bumpPays, f9_paysIt, f9_sharesIt, f9_plainTells, f9_tellsIt, ↓reduceIte, eq_self, lq_0_1, lq_0_2, lq_0_3, lq_0_4, lq_0_5, lq_1_0, lq_1_2, lq_1_3, lq_1_4, lq_1_5, lq_2_0, lq_2_1, lq_2_3, lq_2_4, lq_2_5, lq_3_0, lq_3_1, lq_3_2, lq_3_4, lq_3_5, lq_4_0, lq_4_1, lq_4_2, lq_4_3, lq_4_5, lq_5_0, lq_5_1, lq_5_2, lq_5_3, lq_5_4]
    refine ⟨_, _, _, _, _, _, rfl, rfl, ?_, ?_, ?_, ?_⟩
    · first | exact fun _ => rfl | exact fun q => absurd q (by decide)
    · first | exact Or.inl rfl | exact Or.inr rfl
    · omega
    · repeat refine upd_both ?_
      exact fun i hi => absurd hi (by omega)
  · have hs := sh_N (show ¬ a - n = 0 from fun q => h (by rw [← Int32.sub_add_cancel a n, q, Int32.zero_add]))
    have hp : ∀ j, j < 30 → ∀ (t : Nat → Int32) (y : Int32), f9_plainShares (nI j) 0 n a t y = some (y / (a - n), nI (j + 1), 0, upd t j 12) := fun j hj t y => ps_N h hj t y
    simp (disch := omega) only [f3_run, ar_10, ar_11, ar_12, ar_13, ar_20, ar_30, ar_31, ar_40, ar_41, ar_50, ar_51, ar_60, ar_61, ar_P, bo_0_0, bo_0_1, bo_0_2, bo_0_3, bo_1_0, bo_1_1, bo_1_2, bo_1_3, bo_2_0, bo_2_1, bo_2_2, bo_2_3, bo_3_0, bo_3_1, bo_3_2, bo_3_3, bo_4_0, bo_4_1, bo_4_2, bo_4_3, bo_5_0, bo_5_1, bo_5_2, bo_5_3, hs, hp, bn2E, bn3E, bn4E, bsE, jnE, f9_ran_s, f9_hitsIt, f9_plainHits, f9_glassHits, f9_plainPays, f9_bumpPays, f9_paysIt, f9_sharesIt, f9_plainTells, f9_tellsIt, ↓reduceIte, eq_self, lq_0_1, lq_0_2, lq_0_3, lq_0_4, lq_0_5, lq_1_0, lq_1_2, lq_1_3, lq_1_4, lq_1_5, lq_2_0, lq_2_1, lq_2_3, lq_2_4, lq_2_5, lq_3_0, lq_3_1, lq_3_2, lq_3_4, lq_3_5, lq_4_0, lq_4_1, lq_4_2, lq_4_3, lq_4_5, lq_5_0, lq_5_1, lq_5_2, lq_5_3, lq_5_4]
    refine ⟨_, _, _, _, _, _, rfl, rfl, ?_, ?_, ?_, ?_⟩
    · first | exact fun _ => rfl | exact fun q => absurd q (by decide)
    · first | exact Or.inl rfl | exact Or.inr rfl
    · omega
    · repeat refine upd_both ?_
      exact fun i hi => absurd hi (by omega)
theorem ac_2_1 (a n x : Int32) (b t : Nat → Int32) : AR (f3_run 10 a (nI 0) 2 n 0 b 11 x (nI 0)) (rfA 1 2 n a x t) := by
  unfold rfA
  by_cases h : a = n
  · have hs := sh_P (show a - n = 0 from by rw [h]; exact Int32.sub_self _)
    have hp : ∀ j, j < 30 → ∀ (t : Nat → Int32) (y : Int32), f9_plainShares (nI j) 0 n a t y = some (0, nI (j + 1), 1, upd t j 12) := fun j hj t y => ps_P h hj t y
    simp (disch := omega) only [f3_run, ar_10, ar_11, ar_12, ar_13, ar_20, ar_30, ar_31, ar_40, ar_41, ar_50, ar_51, ar_60, ar_61, ar_P, bo_0_0, bo_0_1, bo_0_2, bo_0_3, bo_1_0, bo_1_1, bo_1_2, bo_1_3, bo_2_0, bo_2_1, bo_2_2, bo_2_3, bo_3_0, bo_3_1, bo_3_2, bo_3_3, bo_4_0, bo_4_1, bo_4_2, bo_4_3, bo_5_0, bo_5_1, bo_5_2, bo_5_3, hs, hp, bn2E, bn3E, bn4E, bsE, jnE, f9_ran_s, f9_hitsIt, f9_plainHits, f9_glassHits, f9_plainPays, f9_bumpPays, f9_paysIt, f9_sharesIt, f9_plainTells, f9_tellsIt, ↓reduceIte, eq_self, lq_0_1, lq_0_2, lq_0_3, lq_0_4, lq_0_5, lq_1_0, lq_1_2, lq_1_3, lq_1_4, lq_1_5, lq_2_0, lq_2_1, lq_2_3, lq_2_4, lq_2_5, lq_3_0, lq_3_1, lq_3_2, lq_3_4, lq_3_5, lq_4_0, lq_4_1, lq_4_2, lq_4_3, lq_4_5, lq_5_0, lq_5_1, lq_5_2, lq_5_3, lq_5_4]
    refine ⟨_, _, _, _, _, _, rfl, rfl, ?_, ?_, ?_, ?_⟩
    · first | exact fun _ => rfl | exact fun q => absurd q (by decide)
    · first | exact Or.inl rfl | exact Or.inr rfl
    · omega
    · repeat refine upd_both ?_
      exact fun i hi => absurd hi (by omega)
  · have hs := sh_N (show ¬ a - n = 0 from fun q => h (by rw [← Int32.sub_add_cancel a n, q, Int32.zero_add]))
    have hp : ∀ j, j < 30 → ∀ (t : Nat → Int32) (y : Int32), f9_plainShares (nI j) 0 n a t y = some (y / (a - n), nI (j + 1), 0, upd t j 12) := fun j hj t y => ps_N h hj t y
    simp (disch := omega) only [f3_run, ar_10, ar_11, ar_12, ar_13, ar_20, ar_30, ar_31, ar_40, ar_41, ar_50, ar_51, ar_60, ar_61, ar_P, bo_0_0, bo_0_1, bo_0_2, bo_0_3, bo_1_0, bo_1_1, bo_1_2, bo_1_3, bo_2_0, bo_2_1, bo_2_2, bo_2_3, bo_3_0, bo_3_1, bo_3_2, bo_3_3, bo_4_0, bo_4_1, bo_4_2, bo_4_3, bo_5_0, bo_5_1, bo_5_2, bo_5_3, hs, hp, bn2E, bn3E, bn4E, bsE, jnE, f9_ran_s, f9_hitsIt, f9_plainHits, f9_glassHits, f9_plainPays, f9_bumpPays, f9_paysIt, f9_sharesIt, f9_plainTells, f9_tellsIt, ↓reduceIte, eq_self, lq_0_1, lq_0_2, lq_0_3, lq_0_4, lq_0_5, lq_1_0, lq_1_2, lq_1_3, lq_1_4, lq_1_5, lq_2_0, lq_2_1, lq_2_3, lq_2_4, lq_2_5, lq_3_0, lq_3_1, lq_3_2, lq_3_4, lq_3_5, lq_4_0, lq_4_1, lq_4_2, lq_4_3, lq_4_5, lq_5_0, lq_5_1, lq_5_2, lq_5_3, lq_5_4]
    refine ⟨_, _, _, _, _, _, rfl, rfl, ?_, ?_, ?_, ?_⟩
    · first | exact fun _ => rfl | exact fun q => absurd q (by decide)
    · first | exact Or.inl rfl | exact Or.inr rfl
    · omega
    · repeat refine upd_both ?_
      exact fun i hi => absurd hi (by omega)
theorem ac_2_2 (a n x : Int32) (b t : Nat → Int32) : AR (f3_run 10 a (nI 0) 2 n 0 b 12 x (nI 0)) (rfA 2 2 n a x t) := by
  unfold rfA
  by_cases h : a = n
  · have hs := sh_P (show a - n = 0 from by rw [h]; exact Int32.sub_self _)
    have hp : ∀ j, j < 30 → ∀ (t : Nat → Int32) (y : Int32), f9_plainShares (nI j) 0 n a t y = some (0, nI (j + 1), 1, upd t j 12) := fun j hj t y => ps_P h hj t y
    simp (disch := omega) only [f3_run, ar_10, ar_11, ar_12, ar_13, ar_20, ar_30, ar_31, ar_40, ar_41, ar_50, ar_51, ar_60, ar_61, ar_P, bo_0_0, bo_0_1, bo_0_2, bo_0_3, bo_1_0, bo_1_1, bo_1_2, bo_1_3, bo_2_0, bo_2_1, bo_2_2, bo_2_3, bo_3_0, bo_3_1, bo_3_2, bo_3_3, bo_4_0, bo_4_1, bo_4_2, bo_4_3, bo_5_0, bo_5_1, bo_5_2, bo_5_3, hs, hp, bn2E, bn3E, bn4E, bsE, jnE, f9_ran_s, f9_hitsIt, f9_plainHits, f9_glassHits, f9_plainPays, f9_bumpPays, f9_paysIt, f9_sharesIt, f9_plainTells, f9_tellsIt, ↓reduceIte, eq_self, lq_0_1, lq_0_2, lq_0_3, lq_0_4, lq_0_5, lq_1_0, lq_1_2, lq_1_3, lq_1_4, lq_1_5, lq_2_0, lq_2_1, lq_2_3, lq_2_4, lq_2_5, lq_3_0, lq_3_1, lq_3_2, lq_3_4, lq_3_5, lq_4_0, lq_4_1, lq_4_2, lq_4_3, lq_4_5, lq_5_0, lq_5_1, lq_5_2, lq_5_3, lq_5_4]
    refine ⟨_, _, _, _, _, _, rfl, rfl, ?_, ?_, ?_, ?_⟩
    · first | exact fun _ => rfl | exact fun q => absurd q (by decide)
    · first | exact Or.inl rfl | exact Or.inr rfl
    · omega
    · repeat refine upd_both ?_
      exact fun i hi => absurd hi (by omega)
  · have hs := sh_N (show ¬ a - n = 0 from fun q => h (by rw [← Int32.sub_add_cancel a n, q, Int32.zero_add]))
    have hp : ∀ j, j < 30 → ∀ (t : Nat → Int32) (y : Int32), f9_plainShares (nI j) 0 n a t y = some (y / (a - n), nI (j + 1), 0, upd t j 12) := fun j hj t y => ps_N h hj t y
    simp (disch := omega) only [f3_run, ar_10, ar_11, ar_12, ar_13, ar_20, ar_30, ar_31, ar_40, ar_41, ar_50, ar_51, ar_60, ar_61, ar_P, bo_0_0, bo_0_1, bo_0_2, bo_0_3, bo_1_0, bo_1_1, bo_1_2, bo_1_3, bo_2_0, bo_2_1, bo_2_2, bo_2_3, bo_3_0, bo_3_1, bo_3_2, bo_3_3, bo_4_0, bo_4_1, bo_4_2, bo_4_3, bo_5_0, bo_5_1, bo_5_2, bo_5_3, hs, hp, bn2E, bn3E, bn4E, bsE, jnE, f9_ran_s, f9_hitsIt, f9_plainHits, f9_glassHits, f9_plainPays, f9_bumpPays, f9_paysIt, f9_sharesIt, f9_plainTells, f9_tellsIt, ↓reduceIte, eq_self, lq_0_1, lq_0_2, lq_0_3, lq_0_4, lq_0_5, lq_1_0, lq_1_2, lq_1_3, lq_1_4, lq_1_5, lq_2_0, lq_2_1, lq_2_3, lq_2_4, lq_2_5, lq_3_0, lq_3_1, lq_3_2, lq_3_4, lq_3_5, lq_4_0, lq_4_1, lq_4_2, lq_4_3, lq_4_5, lq_5_0, lq_5_1, lq_5_2, lq_5_3, lq_5_4]
    refine ⟨_, _, _, _, _, _, rfl, rfl, ?_, ?_, ?_, ?_⟩
    · first | exact fun _ => rfl | exact fun q => absurd q (by decide)
    · first | exact Or.inl rfl | exact Or.inr rfl
    · omega
    · repeat refine upd_both ?_
      exact fun i hi => absurd hi (by omega)
theorem ac_2_3 (a n x : Int32) (b t : Nat → Int32) : AR (f3_run 10 a (nI 0) 2 n 0 b 31 x (nI 0)) (rfA 3 2 n a x t) := by
  unfold rfA
  by_cases h : a = n
  · have hs := sh_P (show a - n = 0 from by rw [h]; exact Int32.sub_self _)
    have hp : ∀ j, j < 30 → ∀ (t : Nat → Int32) (y : Int32), f9_plainShares (nI j) 0 n a t y = some (0, nI (j + 1), 1, upd t j 12) := fun j hj t y => ps_P h hj t y
    simp (disch := omega) only [f3_run, ar_10, ar_11, ar_12, ar_13, ar_20, ar_30, ar_31, ar_40, ar_41, ar_50, ar_51, ar_60, ar_61, ar_P, bo_0_0, bo_0_1, bo_0_2, bo_0_3, bo_1_0, bo_1_1, bo_1_2, bo_1_3, bo_2_0, bo_2_1, bo_2_2, bo_2_3, bo_3_0, bo_3_1, bo_3_2, bo_3_3, bo_4_0, bo_4_1, bo_4_2, bo_4_3, bo_5_0, bo_5_1, bo_5_2, bo_5_3, hs, hp, bn2E, bn3E, bn4E, bsE, jnE, f9_ran_s, f9_hitsIt, f9_plainHits, f9_glassHits, f9_plainPays, f9_bumpPays, f9_paysIt, f9_sharesIt, f9_plainTells, f9_tellsIt, ↓reduceIte, eq_self, lq_0_1, lq_0_2, lq_0_3, lq_0_4, lq_0_5, lq_1_0, lq_1_2, lq_1_3, lq_1_4, lq_1_5, lq_2_0, lq_2_1, lq_2_3, lq_2_4, lq_2_5, lq_3_0, lq_3_1, lq_3_2, lq_3_4, lq_3_5, lq_4_0, lq_4_1, lq_4_2, lq_4_3, lq_4_5, lq_5_0, lq_5_1, lq_5_2, lq_5_3, lq_5_4]
    refine ⟨_, _, _, _, _, _, rfl, rfl, ?_, ?_, ?_, ?_⟩
    · first | exact fun _ => rfl | exact fun q => absurd q (by decide)
    · first | exact Or.inl rfl | exact Or.inr rfl
    · omega
    · repeat refine upd_both ?_
      exact fun i hi => absurd hi (by omega)
  · have hs := sh_N (show ¬ a - n = 0 from fun q => h (by rw [← Int32.sub_add_cancel a n, q, Int32.zero_add]))
    have hp : ∀ j, j < 30 → ∀ (t : Nat → Int32) (y : Int32), f9_plainShares (nI j) 0 n a t y = some (y / (a - n), nI (j + 1), 0, upd t j 12) := fun j hj t y => ps_N h hj t y
    simp (disch := omega) only [f3_run, ar_10, ar_11, ar_12, ar_13, ar_20, ar_30, ar_31, ar_40, ar_41, ar_50, ar_51, ar_60, ar_61, ar_P, bo_0_0, bo_0_1, bo_0_2, bo_0_3, bo_1_0, bo_1_1, bo_1_2, bo_1_3, bo_2_0, bo_2_1, bo_2_2, bo_2_3, bo_3_0, bo_3_1, bo_3_2, bo_3_3, bo_4_0, bo_4_1, bo_4_2, bo_4_3, bo_5_0, bo_5_1, bo_5_2, bo_5_3, hs, hp, bn2E, bn3E, bn4E, bsE, jnE, f9_ran_s, f9_hitsIt, f9_plainHits, f9_glassHits, f9_plainPays, f9_bumpPays, f9_paysIt, f9_sharesIt, f9_plainTells, f9_tellsIt, ↓reduceIte, eq_self, lq_0_1, lq_0_2, lq_0_3, lq_0_4, lq_0_5, lq_1_0, lq_1_2, lq_1_3, lq_1_4, lq_1_5, lq_2_0, lq_2_1, lq_2_3, lq_2_4, lq_2_5, lq_3_0, lq_3_1, lq_3_2, lq_3_4, lq_3_5, lq_4_0, lq_4_1, lq_4_2, lq_4_3, lq_4_5, lq_5_0, lq_5_1, lq_5_2, lq_5_3, lq_5_4]
    refine ⟨_, _, _, _, _, _, rfl, rfl, ?_, ?_, ?_, ?_⟩
    · first | exact fun _ => rfl | exact fun q => absurd q (by decide)
    · first | exact Or.inl rfl | exact Or.inr rfl
    · omega
    · repeat refine upd_both ?_
      exact fun i hi => absurd hi (by omega)
theorem ac_3_0 (a n x : Int32) (b t : Nat → Int32) : AR (f3_run 10 a (nI 0) 3 n 0 b 40 x (nI 0)) (rfA 0 3 n a x t) := by
  unfold rfA
  by_cases h : a = n
  · have hs := sh_P (show a - n = 0 from by rw [h]; exact Int32.sub_self _)
    have hp : ∀ j, j < 30 → ∀ (t : Nat → Int32) (y : Int32), f9_plainShares (nI j) 0 n a t y = some (0, nI (j + 1), 1, upd t j 12) := fun j hj t y => ps_P h hj t y
    simp (disch := omega) only [f3_run, ar_10, ar_11, ar_12, ar_13, ar_20, ar_30, ar_31, ar_40, ar_41, ar_50, ar_51, ar_60, ar_61, ar_P, bo_0_0, bo_0_1, bo_0_2, bo_0_3, bo_1_0, bo_1_1, bo_1_2, bo_1_3, bo_2_0, bo_2_1, bo_2_2, bo_2_3, bo_3_0, bo_3_1, bo_3_2, bo_3_3, bo_4_0, bo_4_1, bo_4_2, bo_4_3, bo_5_0, bo_5_1, bo_5_2, bo_5_3, hs, hp, bn2E, bn3E, bn4E, bsE, jnE, f9_ran_s, f9_hitsIt, f9_plainHits, f9_glassHits, f9_plainPays, f9_bumpPays, f9_paysIt, f9_sharesIt, f9_plainTells, f9_tellsIt, ↓reduceIte, eq_self, lq_0_1, lq_0_2, lq_0_3, lq_0_4, lq_0_5, lq_1_0, lq_1_2, lq_1_3, lq_1_4, lq_1_5, lq_2_0, lq_2_1, lq_2_3, lq_2_4, lq_2_5, lq_3_0, lq_3_1, lq_3_2, lq_3_4, lq_3_5, lq_4_0, lq_4_1, lq_4_2, lq_4_3, lq_4_5, lq_5_0, lq_5_1, lq_5_2, lq_5_3, lq_5_4]
    refine ⟨_, _, _, _, _, _, rfl, rfl, ?_, ?_, ?_, ?_⟩
    · first | exact fun _ => rfl | exact fun q => absurd q (by decide)
    · first | exact Or.inl rfl | exact Or.inr rfl
    · omega
    · repeat refine upd_both ?_
      exact fun i hi => absurd hi (by omega)
  · have hs := sh_N (show ¬ a - n = 0 from fun q => h (by rw [← Int32.sub_add_cancel a n, q, Int32.zero_add]))
    have hp : ∀ j, j < 30 → ∀ (t : Nat → Int32) (y : Int32), f9_plainShares (nI j) 0 n a t y = some (y / (a - n), nI (j + 1), 0, upd t j 12) := fun j hj t y => ps_N h hj t y
    simp (disch := omega) only [f3_run, ar_10, ar_11, ar_12, ar_13, ar_20, ar_30, ar_31, ar_40, ar_41, ar_50, ar_51, ar_60, ar_61, ar_P, bo_0_0, bo_0_1, bo_0_2, bo_0_3, bo_1_0, bo_1_1, bo_1_2, bo_1_3, bo_2_0, bo_2_1, bo_2_2, bo_2_3, bo_3_0, bo_3_1, bo_3_2, bo_3_3, bo_4_0, bo_4_1, bo_4_2, bo_4_3, bo_5_0, bo_5_1, bo_5_2, bo_5_3, hs, hp, bn2E, bn3E, bn4E, bsE, jnE, f9_ran_s, f9_hitsIt, f9_plainHits, f9_glassHits, f9_plainPays, f9_bumpPays, f9_paysIt, f9_sharesIt, f9_plainTells, f9_tellsIt, ↓reduceIte, eq_self, lq_0_1, lq_0_2, lq_0_3, lq_0_4, lq_0_5, lq_1_0, lq_1_2, lq_1_3, lq_1_4, lq_1_5, lq_2_0, lq_2_1, lq_2_3, lq_2_4, lq_2_5, lq_3_0, lq_3_1, lq_3_2, lq_3_4, lq_3_5, lq_4_0, lq_4_1, lq_4_2, lq_4_3, lq_4_5, lq_5_0, lq_5_1, lq_5_2, lq_5_3, lq_5_4]
    refine ⟨_, _, _, _, _, _, rfl, rfl, ?_, ?_, ?_, ?_⟩
    · first | exact fun _ => rfl | exact fun q => absurd q (by decide)
    · first | exact Or.inl rfl | exact Or.inr rfl
    · omega
    · repeat refine upd_both ?_
      exact fun i hi => absurd hi (by omega)
theorem ac_3_1 (a n x : Int32) (b t : Nat → Int32) : AR (f3_run 10 a (nI 0) 3 n 0 b 41 x (nI 0)) (rfA 1 3 n a x t) := by
  unfold rfA
  by_cases h : a = n
  · have hs := sh_P (show a - n = 0 from by rw [h]; exact Int32.sub_self _)
    have hp : ∀ j, j < 30 → ∀ (t : Nat → Int32) (y : Int32), f9_plainShares (nI j) 0 n a t y = some (0, nI (j + 1), 1, upd t j 12) := fun j hj t y => ps_P h hj t y
    simp (disch := omega) only [f3_run, ar_10, ar_11, ar_12, ar_13, ar_20, ar_30, ar_31, ar_40, ar_41, ar_50, ar_51, ar_60, ar_61, ar_P, bo_0_0, bo_0_1, bo_0_2, bo_0_3, bo_1_0, bo_1_1, bo_1_2, bo_1_3, bo_2_0, bo_2_1, bo_2_2, bo_2_3, bo_3_0, bo_3_1, bo_3_2, bo_3_3, bo_4_0, bo_4_1, bo_4_2, bo_4_3, bo_5_0, bo_5_1, bo_5_2, bo_5_3, hs, hp, bn2E, bn3E, bn4E, bsE, jnE, f9_ran_s, f9_hitsIt, f9_plainHits, f9_glassHits, f9_plainPays, f9_bumpPays, f9_paysIt, f9_sharesIt, f9_plainTells, f9_tellsIt, ↓reduceIte, eq_self, lq_0_1, lq_0_2, lq_0_3, lq_0_4, lq_0_5, lq_1_0, lq_1_2, lq_1_3, lq_1_4, lq_1_5, lq_2_0, lq_2_1, lq_2_3, lq_2_4, lq_2_5, lq_3_0, lq_3_1, lq_3_2, lq_3_4, lq_3_5, lq_4_0, lq_4_1, lq_4_2, lq_4_3, lq_4_5, lq_5_0, lq_5_1, lq_5_2, lq_5_3, lq_5_4]
    refine ⟨_, _, _, _, _, _, rfl, rfl, ?_, ?_, ?_, ?_⟩
    · first | exact fun _ => rfl | exact fun q => absurd q (by decide)
    · first | exact Or.inl rfl | exact Or.inr rfl
    · omega
    · repeat refine upd_both ?_
      exact fun i hi => absurd hi (by omega)
  · have hs := sh_N (show ¬ a - n = 0 from fun q => h (by rw [← Int32.sub_add_cancel a n, q, Int32.zero_add]))
    have hp : ∀ j, j < 30 → ∀ (t : Nat → Int32) (y : Int32), f9_plainShares (nI j) 0 n a t y = some (y / (a - n), nI (j + 1), 0, upd t j 12) := fun j hj t y => ps_N h hj t y
    simp (disch := omega) only [f3_run, ar_10, ar_11, ar_12, ar_13, ar_20, ar_30, ar_31, ar_40, ar_41, ar_50, ar_51, ar_60, ar_61, ar_P, bo_0_0, bo_0_1, bo_0_2, bo_0_3, bo_1_0, bo_1_1, bo_1_2, bo_1_3, bo_2_0, bo_2_1, bo_2_2, bo_2_3, bo_3_0, bo_3_1, bo_3_2, bo_3_3, bo_4_0, bo_4_1, bo_4_2, bo_4_3, bo_5_0, bo_5_1, bo_5_2, bo_5_3, hs, hp, bn2E, bn3E, bn4E, bsE, jnE, f9_ran_s, f9_hitsIt, f9_plainHits, f9_glassHits, f9_plainPays, f9_bumpPays, f9_paysIt, f9_sharesIt, f9_plainTells, f9_tellsIt, ↓reduceIte, eq_self, lq_0_1, lq_0_2, lq_0_3, lq_0_4, lq_0_5, lq_1_0, lq_1_2, lq_1_3, lq_1_4, lq_1_5, lq_2_0, lq_2_1, lq_2_3, lq_2_4, lq_2_5, lq_3_0, lq_3_1, lq_3_2, lq_3_4, lq_3_5, lq_4_0, lq_4_1, lq_4_2, lq_4_3, lq_4_5, lq_5_0, lq_5_1, lq_5_2, lq_5_3, lq_5_4]
    refine ⟨_, _, _, _, _, _, rfl, rfl, ?_, ?_, ?_, ?_⟩
    · first | exact fun _ => rfl | exact fun q => absurd q (by decide)
    · first | exact Or.inl rfl | exact Or.inr rfl
    · omega
    · repeat refine upd_both ?_
      exact fun i hi => absurd hi (by omega)
theorem ac_3_2 (a n x : Int32) (b t : Nat → Int32) : AR (f3_run 10 a (nI 0) 3 n 0 b 12 x (nI 0)) (rfA 2 3 n a x t) := by
  unfold rfA
  by_cases h : a = n
  · have hs := sh_P (show a - n = 0 from by rw [h]; exact Int32.sub_self _)
    have hp : ∀ j, j < 30 → ∀ (t : Nat → Int32) (y : Int32), f9_plainShares (nI j) 0 n a t y = some (0, nI (j + 1), 1, upd t j 12) := fun j hj t y => ps_P h hj t y
    simp (disch := omega) only [f3_run, ar_10, ar_11, ar_12, ar_13, ar_20, ar_30, ar_31, ar_40, ar_41, ar_50, ar_51, ar_60, ar_61, ar_P, bo_0_0, bo_0_1, bo_0_2, bo_0_3, bo_1_0, bo_1_1, bo_1_2, bo_1_3, bo_2_0, bo_2_1, bo_2_2, bo_2_3, bo_3_0, bo_3_1, bo_3_2, bo_3_3, bo_4_0, bo_4_1, bo_4_2, bo_4_3, bo_5_0, bo_5_1, bo_5_2, bo_5_3, hs, hp, bn2E, bn3E, bn4E, bsE, jnE, f9_ran_s, f9_hitsIt, f9_plainHits, f9_glassHits, f9_plainPays, f9_bumpPays, f9_paysIt, f9_sharesIt, f9_plainTells, f9_tellsIt, ↓reduceIte, eq_self, lq_0_1, lq_0_2, lq_0_3, lq_0_4, lq_0_5, lq_1_0, lq_1_2, lq_1_3, lq_1_4, lq_1_5, lq_2_0, lq_2_1, lq_2_3, lq_2_4, lq_2_5, lq_3_0, lq_3_1, lq_3_2, lq_3_4, lq_3_5, lq_4_0, lq_4_1, lq_4_2, lq_4_3, lq_4_5, lq_5_0, lq_5_1, lq_5_2, lq_5_3, lq_5_4]
    refine ⟨_, _, _, _, _, _, rfl, rfl, ?_, ?_, ?_, ?_⟩
    · first | exact fun _ => rfl | exact fun q => absurd q (by decide)
    · first | exact Or.inl rfl | exact Or.inr rfl
    · omega
    · repeat refine upd_both ?_
      exact fun i hi => absurd hi (by omega)
  · have hs := sh_N (show ¬ a - n = 0 from fun q => h (by rw [← Int32.sub_add_cancel a n, q, Int32.zero_add]))
    have hp : ∀ j, j < 30 → ∀ (t : Nat → Int32) (y : Int32), f9_plainShares (nI j) 0 n a t y = some (y / (a - n), nI (j + 1), 0, upd t j 12) := fun j hj t y => ps_N h hj t y
    simp (disch := omega) only [f3_run, ar_10, ar_11, ar_12, ar_13, ar_20, ar_30, ar_31, ar_40, ar_41, ar_50, ar_51, ar_60, ar_61, ar_P, bo_0_0, bo_0_1, bo_0_2, bo_0_3, bo_1_0, bo_1_1, bo_1_2, bo_1_3, bo_2_0, bo_2_1, bo_2_2, bo_2_3, bo_3_0, bo_3_1, bo_3_2, bo_3_3, bo_4_0, bo_4_1, bo_4_2, bo_4_3, bo_5_0, bo_5_1, bo_5_2, bo_5_3, hs, hp, bn2E, bn3E, bn4E, bsE, jnE, f9_ran_s, f9_hitsIt, f9_plainHits, f9_glassHits, f9_plainPays, f9_bumpPays, f9_paysIt, f9_sharesIt, f9_plainTells, f9_tellsIt, ↓reduceIte, eq_self, lq_0_1, lq_0_2, lq_0_3, lq_0_4, lq_0_5, lq_1_0, lq_1_2, lq_1_3, lq_1_4, lq_1_5, lq_2_0, lq_2_1, lq_2_3, lq_2_4, lq_2_5, lq_3_0, lq_3_1, lq_3_2, lq_3_4, lq_3_5, lq_4_0, lq_4_1, lq_4_2, lq_4_3, lq_4_5, lq_5_0, lq_5_1, lq_5_2, lq_5_3, lq_5_4]
    refine ⟨_, _, _, _, _, _, rfl, rfl, ?_, ?_, ?_, ?_⟩
    · first | exact fun _ => rfl | exact fun q => absurd q (by decide)
    · first | exact Or.inl rfl | exact Or.inr rfl
    · omega
    · repeat refine upd_both ?_
      exact fun i hi => absurd hi (by omega)
theorem ac_3_3 (a n x : Int32) (b t : Nat → Int32) : AR (f3_run 10 a (nI 0) 3 n 0 b 13 x (nI 0)) (rfA 3 3 n a x t) := by
  unfold rfA
  by_cases h : a = n
  · have hs := sh_P (show a - n = 0 from by rw [h]; exact Int32.sub_self _)
    have hp : ∀ j, j < 30 → ∀ (t : Nat → Int32) (y : Int32), f9_plainShares (nI j) 0 n a t y = some (0, nI (j + 1), 1, upd t j 12) := fun j hj t y => ps_P h hj t y
    simp (disch := omega) only [f3_run, ar_10, ar_11, ar_12, ar_13, ar_20, ar_30, ar_31, ar_40, ar_41, ar_50, ar_51, ar_60, ar_61, ar_P, bo_0_0, bo_0_1, bo_0_2, bo_0_3, bo_1_0, bo_1_1, bo_1_2, bo_1_3, bo_2_0, bo_2_1, bo_2_2, bo_2_3, bo_3_0, bo_3_1, bo_3_2, bo_3_3, bo_4_0, bo_4_1, bo_4_2, bo_4_3, bo_5_0, bo_5_1, bo_5_2, bo_5_3, hs, hp, bn2E, bn3E, bn4E, bsE, jnE, f9_ran_s, f9_hitsIt, f9_plainHits, f9_glassHits, f9_plainPays, f9_bumpPays, f9_paysIt, f9_sharesIt, f9_plainTells, f9_tellsIt, ↓reduceIte, eq_self, lq_0_1, lq_0_2, lq_0_3, lq_0_4, lq_0_5, lq_1_0, lq_1_2, lq_1_3, lq_1_4, lq_1_5, lq_2_0, lq_2_1, lq_2_3, lq_2_4, lq_2_5, lq_3_0, lq_3_1, lq_3_2, lq_3_4, lq_3_5, lq_4_0, lq_4_1, lq_4_2, lq_4_3, lq_4_5, lq_5_0, lq_5_1, lq_5_2, lq_5_3, lq_5_4]
    refine ⟨_, _, _, _, _, _, rfl, rfl, ?_, ?_, ?_, ?_⟩
    · first | exact fun _ => rfl | exact fun q => absurd q (by decide)
    · first | exact Or.inl rfl | exact Or.inr rfl
    · omega
    · repeat refine upd_both ?_
      exact fun i hi => absurd hi (by omega)
  · have hs := sh_N (show ¬ a - n = 0 from fun q => h (by rw [← Int32.sub_add_cancel a n, q, Int32.zero_add]))
    have hp : ∀ j, j < 30 → ∀ (t : Nat → Int32) (y : Int32), f9_plainShares (nI j) 0 n a t y = some (y / (a - n), nI (j + 1), 0, upd t j 12) := fun j hj t y => ps_N h hj t y
    simp (disch := omega) only [f3_run, ar_10, ar_11, ar_12, ar_13, ar_20, ar_30, ar_31, ar_40, ar_41, ar_50, ar_51, ar_60, ar_61, ar_P, bo_0_0, bo_0_1, bo_0_2, bo_0_3, bo_1_0, bo_1_1, bo_1_2, bo_1_3, bo_2_0, bo_2_1, bo_2_2, bo_2_3, bo_3_0, bo_3_1, bo_3_2, bo_3_3, bo_4_0, bo_4_1, bo_4_2, bo_4_3, bo_5_0, bo_5_1, bo_5_2, bo_5_3, hs, hp, bn2E, bn3E, bn4E, bsE, jnE, f9_ran_s, f9_hitsIt, f9_plainHits, f9_glassHits, f9_plainPays, f9_bumpPays, f9_paysIt, f9_sharesIt, f9_plainTells, f9_tellsIt, ↓reduceIte, eq_self, lq_0_1, lq_0_2, lq_0_3, lq_0_4, lq_0_5, lq_1_0, lq_1_2, lq_1_3, lq_1_4, lq_1_5, lq_2_0, lq_2_1, lq_2_3, lq_2_4, lq_2_5, lq_3_0, lq_3_1, lq_3_2, lq_3_4, lq_3_5, lq_4_0, lq_4_1, lq_4_2, lq_4_3, lq_4_5, lq_5_0, lq_5_1, lq_5_2, lq_5_3, lq_5_4]
    refine ⟨_, _, _, _, _, _, rfl, rfl, ?_, ?_, ?_, ?_⟩
    · first | exact fun _ => rfl | exact fun q => absurd q (by decide)
    · first | exact Or.inl rfl | exact Or.inr rfl
    · omega
    · repeat refine upd_both ?_
      exact fun i hi => absurd hi (by omega)
theorem ac_4_0 (a n x : Int32) (b t : Nat → Int32) : AR (f3_run 10 a (nI 0) 4 n 0 b 51 x (nI 0)) (rfA 0 4 n a x t) := by
  unfold rfA
  by_cases h : a = n
  · have hs := sh_P (show a - n = 0 from by rw [h]; exact Int32.sub_self _)
    have hp : ∀ j, j < 30 → ∀ (t : Nat → Int32) (y : Int32), f9_plainShares (nI j) 0 n a t y = some (0, nI (j + 1), 1, upd t j 12) := fun j hj t y => ps_P h hj t y
    simp (disch := omega) only [f3_run, ar_10, ar_11, ar_12, ar_13, ar_20, ar_30, ar_31, ar_40, ar_41, ar_50, ar_51, ar_60, ar_61, ar_P, bo_0_0, bo_0_1, bo_0_2, bo_0_3, bo_1_0, bo_1_1, bo_1_2, bo_1_3, bo_2_0, bo_2_1, bo_2_2, bo_2_3, bo_3_0, bo_3_1, bo_3_2, bo_3_3, bo_4_0, bo_4_1, bo_4_2, bo_4_3, bo_5_0, bo_5_1, bo_5_2, bo_5_3, hs, hp, bn2E, bn3E, bn4E, bsE, jnE, f9_ran_s, f9_hitsIt, f9_plainHits, f9_glassHits, f9_plainPays, f9_bumpPays, f9_paysIt, f9_sharesIt, f9_plainTells, f9_tellsIt, ↓reduceIte, eq_self, lq_0_1, lq_0_2, lq_0_3, lq_0_4, lq_0_5, lq_1_0, lq_1_2, lq_1_3, lq_1_4, lq_1_5, lq_2_0, lq_2_1, lq_2_3, lq_2_4, lq_2_5, lq_3_0, lq_3_1, lq_3_2, lq_3_4, lq_3_5, lq_4_0, lq_4_1, lq_4_2, lq_4_3, lq_4_5, lq_5_0, lq_5_1, lq_5_2, lq_5_3, lq_5_4]
    refine ⟨_, _, _, _, _, _, rfl, rfl, ?_, ?_, ?_, ?_⟩
    · first | exact fun _ => rfl | exact fun q => absurd q (by decide)
    · first | exact Or.inl rfl | exact Or.inr rfl
    · omega
    · repeat refine upd_both ?_
      exact fun i hi => absurd hi (by omega)
  · have hs := sh_N (show ¬ a - n = 0 from fun q => h (by rw [← Int32.sub_add_cancel a n, q, Int32.zero_add]))
    have hp : ∀ j, j < 30 → ∀ (t : Nat → Int32) (y : Int32), f9_plainShares (nI j) 0 n a t y = some (y / (a - n), nI (j + 1), 0, upd t j 12) := fun j hj t y => ps_N h hj t y
    simp (disch := omega) only [f3_run, ar_10, ar_11, ar_12, ar_13, ar_20, ar_30, ar_31, ar_40, ar_41, ar_50, ar_51, ar_60, ar_61, ar_P, bo_0_0, bo_0_1, bo_0_2, bo_0_3, bo_1_0, bo_1_1, bo_1_2, bo_1_3, bo_2_0, bo_2_1, bo_2_2, bo_2_3, bo_3_0, bo_3_1, bo_3_2, bo_3_3, bo_4_0, bo_4_1, bo_4_2, bo_4_3, bo_5_0, bo_5_1, bo_5_2, bo_5_3, hs, hp, bn2E, bn3E, bn4E, bsE, jnE, f9_ran_s, f9_hitsIt, f9_plainHits, f9_glassHits, f9_plainPays, f9_bumpPays, f9_paysIt, f9_sharesIt, f9_plainTells, f9_tellsIt, ↓reduceIte, eq_self, lq_0_1, lq_0_2, lq_0_3, lq_0_4, lq_0_5, lq_1_0, lq_1_2, lq_1_3, lq_1_4, lq_1_5, lq_2_0, lq_2_1, lq_2_3, lq_2_4, lq_2_5, lq_3_0, lq_3_1, lq_3_2, lq_3_4, lq_3_5, lq_4_0, lq_4_1, lq_4_2, lq_4_3, lq_4_5, lq_5_0, lq_5_1, lq_5_2, lq_5_3, lq_5_4]
    refine ⟨_, _, _, _, _, _, rfl, rfl, ?_, ?_, ?_, ?_⟩
    · first | exact fun _ => rfl | exact fun q => absurd q (by decide)
    · first | exact Or.inl rfl | exact Or.inr rfl
    · omega
    · repeat refine upd_both ?_
      exact fun i hi => absurd hi (by omega)
theorem ac_4_1 (a n x : Int32) (b t : Nat → Int32) : AR (f3_run 10 a (nI 0) 4 n 0 b 11 x (nI 0)) (rfA 1 4 n a x t) := by
  unfold rfA
  by_cases h : a = n
  · have hs := sh_P (show a - n = 0 from by rw [h]; exact Int32.sub_self _)
    have hp : ∀ j, j < 30 → ∀ (t : Nat → Int32) (y : Int32), f9_plainShares (nI j) 0 n a t y = some (0, nI (j + 1), 1, upd t j 12) := fun j hj t y => ps_P h hj t y
    simp (disch := omega) only [f3_run, ar_10, ar_11, ar_12, ar_13, ar_20, ar_30, ar_31, ar_40, ar_41, ar_50, ar_51, ar_60, ar_61, ar_P, bo_0_0, bo_0_1, bo_0_2, bo_0_3, bo_1_0, bo_1_1, bo_1_2, bo_1_3, bo_2_0, bo_2_1, bo_2_2, bo_2_3, bo_3_0, bo_3_1, bo_3_2, bo_3_3, bo_4_0, bo_4_1, bo_4_2, bo_4_3, bo_5_0, bo_5_1, bo_5_2, bo_5_3, hs, hp, bn2E, bn3E, bn4E, bsE, jnE, f9_ran_s, f9_hitsIt, f9_plainHits, f9_glassHits, f9_plainPays, f9_bumpPays, f9_paysIt, f9_sharesIt, f9_plainTells, f9_tellsIt, ↓reduceIte, eq_self, lq_0_1, lq_0_2, lq_0_3, lq_0_4, lq_0_5, lq_1_0, lq_1_2, lq_1_3, lq_1_4, lq_1_5, lq_2_0, lq_2_1, lq_2_3, lq_2_4, lq_2_5, lq_3_0, lq_3_1, lq_3_2, lq_3_4, lq_3_5, lq_4_0, lq_4_1, lq_4_2, lq_4_3, lq_4_5, lq_5_0, lq_5_1, lq_5_2, lq_5_3, lq_5_4]
    refine ⟨_, _, _, _, _, _, rfl, rfl, ?_, ?_, ?_, ?_⟩
    · first | exact fun _ => rfl | exact fun q => absurd q (by decide)
    · first | exact Or.inl rfl | exact Or.inr rfl
    · omega
    · repeat refine upd_both ?_
      exact fun i hi => absurd hi (by omega)
  · have hs := sh_N (show ¬ a - n = 0 from fun q => h (by rw [← Int32.sub_add_cancel a n, q, Int32.zero_add]))
    have hp : ∀ j, j < 30 → ∀ (t : Nat → Int32) (y : Int32), f9_plainShares (nI j) 0 n a t y = some (y / (a - n), nI (j + 1), 0, upd t j 12) := fun j hj t y => ps_N h hj t y
    simp (disch := omega) only [f3_run, ar_10, ar_11, ar_12, ar_13, ar_20, ar_30, ar_31, ar_40, ar_41, ar_50, ar_51, ar_60, ar_61, ar_P, bo_0_0, bo_0_1, bo_0_2, bo_0_3, bo_1_0, bo_1_1, bo_1_2, bo_1_3, bo_2_0, bo_2_1, bo_2_2, bo_2_3, bo_3_0, bo_3_1, bo_3_2, bo_3_3, bo_4_0, bo_4_1, bo_4_2, bo_4_3, bo_5_0, bo_5_1, bo_5_2, bo_5_3, hs, hp, bn2E, bn3E, bn4E, bsE, jnE, f9_ran_s, f9_hitsIt, f9_plainHits, f9_glassHits, f9_plainPays, f9_bumpPays, f9_paysIt, f9_sharesIt, f9_plainTells, f9_tellsIt, ↓reduceIte, eq_self, lq_0_1, lq_0_2, lq_0_3, lq_0_4, lq_0_5, lq_1_0, lq_1_2, lq_1_3, lq_1_4, lq_1_5, lq_2_0, lq_2_1, lq_2_3, lq_2_4, lq_2_5, lq_3_0, lq_3_1, lq_3_2, lq_3_4, lq_3_5, lq_4_0, lq_4_1, lq_4_2, lq_4_3, lq_4_5, lq_5_0, lq_5_1, lq_5_2, lq_5_3, lq_5_4]
    refine ⟨_, _, _, _, _, _, rfl, rfl, ?_, ?_, ?_, ?_⟩
    · first | exact fun _ => rfl | exact fun q => absurd q (by decide)
    · first | exact Or.inl rfl | exact Or.inr rfl
    · omega
    · repeat refine upd_both ?_
      exact fun i hi => absurd hi (by omega)
theorem ac_4_2 (a n x : Int32) (b t : Nat → Int32) : AR (f3_run 10 a (nI 0) 4 n 0 b 50 x (nI 0)) (rfA 2 4 n a x t) := by
  unfold rfA
  by_cases h : a = n
  · have hs := sh_P (show a - n = 0 from by rw [h]; exact Int32.sub_self _)
    have hp : ∀ j, j < 30 → ∀ (t : Nat → Int32) (y : Int32), f9_plainShares (nI j) 0 n a t y = some (0, nI (j + 1), 1, upd t j 12) := fun j hj t y => ps_P h hj t y
    simp (disch := omega) only [f3_run, ar_10, ar_11, ar_12, ar_13, ar_20, ar_30, ar_31, ar_40, ar_41, ar_50, ar_51, ar_60, ar_61, ar_P, bo_0_0, bo_0_1, bo_0_2, bo_0_3, bo_1_0, bo_1_1, bo_1_2, bo_1_3, bo_2_0, bo_2_1, bo_2_2, bo_2_3, bo_3_0, bo_3_1, bo_3_2, bo_3_3, bo_4_0, bo_4_1, bo_4_2, bo_4_3, bo_5_0, bo_5_1, bo_5_2, bo_5_3, hs, hp, bn2E, bn3E, bn4E, bsE, jnE, f9_ran_s, f9_hitsIt, f9_plainHits, f9_glassHits, f9_plainPays, f9_bumpPays, f9_paysIt, f9_sharesIt, f9_plainTells, f9_tellsIt, ↓reduceIte, eq_self, lq_0_1, lq_0_2, lq_0_3, lq_0_4, lq_0_5, lq_1_0, lq_1_2, lq_1_3, lq_1_4, lq_1_5, lq_2_0, lq_2_1, lq_2_3, lq_2_4, lq_2_5, lq_3_0, lq_3_1, lq_3_2, lq_3_4, lq_3_5, lq_4_0, lq_4_1, lq_4_2, lq_4_3, lq_4_5, lq_5_0, lq_5_1, lq_5_2, lq_5_3, lq_5_4]
    refine ⟨_, _, _, _, _, _, rfl, rfl, ?_, ?_, ?_, ?_⟩
    · first | exact fun _ => rfl | exact fun q => absurd q (by decide)
    · first | exact Or.inl rfl | exact Or.inr rfl
    · omega
    · repeat refine upd_both ?_
      exact fun i hi => absurd hi (by omega)
  · have hs := sh_N (show ¬ a - n = 0 from fun q => h (by rw [← Int32.sub_add_cancel a n, q, Int32.zero_add]))
    have hp : ∀ j, j < 30 → ∀ (t : Nat → Int32) (y : Int32), f9_plainShares (nI j) 0 n a t y = some (y / (a - n), nI (j + 1), 0, upd t j 12) := fun j hj t y => ps_N h hj t y
    simp (disch := omega) only [f3_run, ar_10, ar_11, ar_12, ar_13, ar_20, ar_30, ar_31, ar_40, ar_41, ar_50, ar_51, ar_60, ar_61, ar_P, bo_0_0, bo_0_1, bo_0_2, bo_0_3, bo_1_0, bo_1_1, bo_1_2, bo_1_3, bo_2_0, bo_2_1, bo_2_2, bo_2_3, bo_3_0, bo_3_1, bo_3_2, bo_3_3, bo_4_0, bo_4_1, bo_4_2, bo_4_3, bo_5_0, bo_5_1, bo_5_2, bo_5_3, hs, hp, bn2E, bn3E, bn4E, bsE, jnE, f9_ran_s, f9_hitsIt, f9_plainHits, f9_glassHits, f9_plainPays, f9_bumpPays, f9_paysIt, f9_sharesIt, f9_plainTells, f9_tellsIt, ↓reduceIte, eq_self, lq_0_1, lq_0_2, lq_0_3, lq_0_4, lq_0_5, lq_1_0, lq_1_2, lq_1_3, lq_1_4, lq_1_5, lq_2_0, lq_2_1, lq_2_3, lq_2_4, lq_2_5, lq_3_0, lq_3_1, lq_3_2, lq_3_4, lq_3_5, lq_4_0, lq_4_1, lq_4_2, lq_4_3, lq_4_5, lq_5_0, lq_5_1, lq_5_2, lq_5_3, lq_5_4]
    refine ⟨_, _, _, _, _, _, rfl, rfl, ?_, ?_, ?_, ?_⟩
    · first | exact fun _ => rfl | exact fun q => absurd q (by decide)
    · first | exact Or.inl rfl | exact Or.inr rfl
    · omega
    · repeat refine upd_both ?_
      exact fun i hi => absurd hi (by omega)
theorem ac_4_3 (a n x : Int32) (b t : Nat → Int32) : AR (f3_run 10 a (nI 0) 4 n 0 b 31 x (nI 0)) (rfA 3 4 n a x t) := by
  unfold rfA
  by_cases h : a = n
  · have hs := sh_P (show a - n = 0 from by rw [h]; exact Int32.sub_self _)
    have hp : ∀ j, j < 30 → ∀ (t : Nat → Int32) (y : Int32), f9_plainShares (nI j) 0 n a t y = some (0, nI (j + 1), 1, upd t j 12) := fun j hj t y => ps_P h hj t y
    simp (disch := omega) only [f3_run, ar_10, ar_11, ar_12, ar_13, ar_20, ar_30, ar_31, ar_40, ar_41, ar_50, ar_51, ar_60, ar_61, ar_P, bo_0_0, bo_0_1, bo_0_2, bo_0_3, bo_1_0, bo_1_1, bo_1_2, bo_1_3, bo_2_0, bo_2_1, bo_2_2, bo_2_3, bo_3_0, bo_3_1, bo_3_2, bo_3_3, bo_4_0, bo_4_1, bo_4_2, bo_4_3, bo_5_0, bo_5_1, bo_5_2, bo_5_3, hs, hp, bn2E, bn3E, bn4E, bsE, jnE, f9_ran_s, f9_hitsIt, f9_plainHits, f9_glassHits, f9_plainPays, f9_bumpPays, f9_paysIt, f9_sharesIt, f9_plainTells, f9_tellsIt, ↓reduceIte, eq_self, lq_0_1, lq_0_2, lq_0_3, lq_0_4, lq_0_5, lq_1_0, lq_1_2, lq_1_3, lq_1_4, lq_1_5, lq_2_0, lq_2_1, lq_2_3, lq_2_4, lq_2_5, lq_3_0, lq_3_1, lq_3_2, lq_3_4, lq_3_5, lq_4_0, lq_4_1, lq_4_2, lq_4_3, lq_4_5, lq_5_0, lq_5_1, lq_5_2, lq_5_3, lq_5_4]
    refine ⟨_, _, _, _, _, _, rfl, rfl, ?_, ?_, ?_, ?_⟩
    · first | exact fun _ => rfl | exact fun q => absurd q (by decide)
    · first | exact Or.inl rfl | exact Or.inr rfl
    · omega
    · repeat refine upd_both ?_
      exact fun i hi => absurd hi (by omega)
  · have hs := sh_N (show ¬ a - n = 0 from fun q => h (by rw [← Int32.sub_add_cancel a n, q, Int32.zero_add]))
    have hp : ∀ j, j < 30 → ∀ (t : Nat → Int32) (y : Int32), f9_plainShares (nI j) 0 n a t y = some (y / (a - n), nI (j + 1), 0, upd t j 12) := fun j hj t y => ps_N h hj t y
    simp (disch := omega) only [f3_run, ar_10, ar_11, ar_12, ar_13, ar_20, ar_30, ar_31, ar_40, ar_41, ar_50, ar_51, ar_60, ar_61, ar_P, bo_0_0, bo_0_1, bo_0_2, bo_0_3, bo_1_0, bo_1_1, bo_1_2, bo_1_3, bo_2_0, bo_2_1, bo_2_2, bo_2_3, bo_3_0, bo_3_1, bo_3_2, bo_3_3, bo_4_0, bo_4_1, bo_4_2, bo_4_3, bo_5_0, bo_5_1, bo_5_2, bo_5_3, hs, hp, bn2E, bn3E, bn4E, bsE, jnE, f9_ran_s, f9_hitsIt, f9_plainHits, f9_glassHits, f9_plainPays, f9_bumpPays, f9_paysIt, f9_sharesIt, f9_plainTells, f9_tellsIt, ↓reduceIte, eq_self, lq_0_1, lq_0_2, lq_0_3, lq_0_4, lq_0_5, lq_1_0, lq_1_2, lq_1_3, lq_1_4, lq_1_5, lq_2_0, lq_2_1, lq_2_3, lq_2_4, lq_2_5, lq_3_0, lq_3_1, lq_3_2, lq_3_4, lq_3_5, lq_4_0, lq_4_1, lq_4_2, lq_4_3, lq_4_5, lq_5_0, lq_5_1, lq_5_2, lq_5_3, lq_5_4]
    refine ⟨_, _, _, _, _, _, rfl, rfl, ?_, ?_, ?_, ?_⟩
    · first | exact fun _ => rfl | exact fun q => absurd q (by decide)
    · first | exact Or.inl rfl | exact Or.inr rfl
    · omega
    · repeat refine upd_both ?_
      exact fun i hi => absurd hi (by omega)
theorem ac_5_0 (a n x : Int32) (b t : Nat → Int32) : AR (f3_run 10 a (nI 0) 5 n 0 b 10 x (nI 0)) (rfA 0 5 n a x t) := by
  unfold rfA
  by_cases h : a = n
  · have hs := sh_P (show a - n = 0 from by rw [h]; exact Int32.sub_self _)
    have hp : ∀ j, j < 30 → ∀ (t : Nat → Int32) (y : Int32), f9_plainShares (nI j) 0 n a t y = some (0, nI (j + 1), 1, upd t j 12) := fun j hj t y => ps_P h hj t y
    simp (disch := omega) only [f3_run, ar_10, ar_11, ar_12, ar_13, ar_20, ar_30, ar_31, ar_40, ar_41, ar_50, ar_51, ar_60, ar_61, ar_P, bo_0_0, bo_0_1, bo_0_2, bo_0_3, bo_1_0, bo_1_1, bo_1_2, bo_1_3, bo_2_0, bo_2_1, bo_2_2, bo_2_3, bo_3_0, bo_3_1, bo_3_2, bo_3_3, bo_4_0, bo_4_1, bo_4_2, bo_4_3, bo_5_0, bo_5_1, bo_5_2, bo_5_3, hs, hp, bn2E, bn3E, bn4E, bsE, jnE, f9_ran_s, f9_hitsIt, f9_plainHits, f9_glassHits, f9_plainPays, f9_bumpPays, f9_paysIt, f9_sharesIt, f9_plainTells, f9_tellsIt, ↓reduceIte, eq_self, lq_0_1, lq_0_2, lq_0_3, lq_0_4, lq_0_5, lq_1_0, lq_1_2, lq_1_3, lq_1_4, lq_1_5, lq_2_0, lq_2_1, lq_2_3, lq_2_4, lq_2_5, lq_3_0, lq_3_1, lq_3_2, lq_3_4, lq_3_5, lq_4_0, lq_4_1, lq_4_2, lq_4_3, lq_4_5, lq_5_0, lq_5_1, lq_5_2, lq_5_3, lq_5_4]
    refine ⟨_, _, _, _, _, _, rfl, rfl, ?_, ?_, ?_, ?_⟩
    · first | exact fun _ => rfl | exact fun q => absurd q (by decide)
    · first | exact Or.inl rfl | exact Or.inr rfl
    · omega
    · repeat refine upd_both ?_
      exact fun i hi => absurd hi (by omega)
  · have hs := sh_N (show ¬ a - n = 0 from fun q => h (by rw [← Int32.sub_add_cancel a n, q, Int32.zero_add]))
    have hp : ∀ j, j < 30 → ∀ (t : Nat → Int32) (y : Int32), f9_plainShares (nI j) 0 n a t y = some (y / (a - n), nI (j + 1), 0, upd t j 12) := fun j hj t y => ps_N h hj t y
    simp (disch := omega) only [f3_run, ar_10, ar_11, ar_12, ar_13, ar_20, ar_30, ar_31, ar_40, ar_41, ar_50, ar_51, ar_60, ar_61, ar_P, bo_0_0, bo_0_1, bo_0_2, bo_0_3, bo_1_0, bo_1_1, bo_1_2, bo_1_3, bo_2_0, bo_2_1, bo_2_2, bo_2_3, bo_3_0, bo_3_1, bo_3_2, bo_3_3, bo_4_0, bo_4_1, bo_4_2, bo_4_3, bo_5_0, bo_5_1, bo_5_2, bo_5_3, hs, hp, bn2E, bn3E, bn4E, bsE, jnE, f9_ran_s, f9_hitsIt, f9_plainHits, f9_glassHits, f9_plainPays, f9_bumpPays, f9_paysIt, f9_sharesIt, f9_plainTells, f9_tellsIt, ↓reduceIte, eq_self, lq_0_1, lq_0_2, lq_0_3, lq_0_4, lq_0_5, lq_1_0, lq_1_2, lq_1_3, lq_1_4, lq_1_5, lq_2_0, lq_2_1, lq_2_3, lq_2_4, lq_2_5, lq_3_0, lq_3_1, lq_3_2, lq_3_4, lq_3_5, lq_4_0, lq_4_1, lq_4_2, lq_4_3, lq_4_5, lq_5_0, lq_5_1, lq_5_2, lq_5_3, lq_5_4]
    refine ⟨_, _, _, _, _, _, rfl, rfl, ?_, ?_, ?_, ?_⟩
    · first | exact fun _ => rfl | exact fun q => absurd q (by decide)
    · first | exact Or.inl rfl | exact Or.inr rfl
    · omega
    · repeat refine upd_both ?_
      exact fun i hi => absurd hi (by omega)
theorem ac_5_1 (a n x : Int32) (b t : Nat → Int32) : AR (f3_run 10 a (nI 0) 5 n 0 b 11 x (nI 0)) (rfA 1 5 n a x t) := by
  unfold rfA
  by_cases h : a = n
  · have hs := sh_P (show a - n = 0 from by rw [h]; exact Int32.sub_self _)
    have hp : ∀ j, j < 30 → ∀ (t : Nat → Int32) (y : Int32), f9_plainShares (nI j) 0 n a t y = some (0, nI (j + 1), 1, upd t j 12) := fun j hj t y => ps_P h hj t y
    simp (disch := omega) only [f3_run, ar_10, ar_11, ar_12, ar_13, ar_20, ar_30, ar_31, ar_40, ar_41, ar_50, ar_51, ar_60, ar_61, ar_P, bo_0_0, bo_0_1, bo_0_2, bo_0_3, bo_1_0, bo_1_1, bo_1_2, bo_1_3, bo_2_0, bo_2_1, bo_2_2, bo_2_3, bo_3_0, bo_3_1, bo_3_2, bo_3_3, bo_4_0, bo_4_1, bo_4_2, bo_4_3, bo_5_0, bo_5_1, bo_5_2, bo_5_3, hs, hp, bn2E, bn3E, bn4E, bsE, jnE, f9_ran_s, f9_hitsIt, f9_plainHits, f9_glassHits, f9_plainPays, f9_bumpPays, f9_paysIt, f9_sharesIt, f9_plainTells, f9_tellsIt, ↓reduceIte, eq_self, lq_0_1, lq_0_2, lq_0_3, lq_0_4, lq_0_5, lq_1_0, lq_1_2, lq_1_3, lq_1_4, lq_1_5, lq_2_0, lq_2_1, lq_2_3, lq_2_4, lq_2_5, lq_3_0, lq_3_1, lq_3_2, lq_3_4, lq_3_5, lq_4_0, lq_4_1, lq_4_2, lq_4_3, lq_4_5, lq_5_0, lq_5_1, lq_5_2, lq_5_3, lq_5_4]
    refine ⟨_, _, _, _, _, _, rfl, rfl, ?_, ?_, ?_, ?_⟩
    · first | exact fun _ => rfl | exact fun q => absurd q (by decide)
    · first | exact Or.inl rfl | exact Or.inr rfl
    · omega
    · repeat refine upd_both ?_
      exact fun i hi => absurd hi (by omega)
  · have hs := sh_N (show ¬ a - n = 0 from fun q => h (by rw [← Int32.sub_add_cancel a n, q, Int32.zero_add]))
    have hp : ∀ j, j < 30 → ∀ (t : Nat → Int32) (y : Int32), f9_plainShares (nI j) 0 n a t y = some (y / (a - n), nI (j + 1), 0, upd t j 12) := fun j hj t y => ps_N h hj t y
    simp (disch := omega) only [f3_run, ar_10, ar_11, ar_12, ar_13, ar_20, ar_30, ar_31, ar_40, ar_41, ar_50, ar_51, ar_60, ar_61, ar_P, bo_0_0, bo_0_1, bo_0_2, bo_0_3, bo_1_0, bo_1_1, bo_1_2, bo_1_3, bo_2_0, bo_2_1, bo_2_2, bo_2_3, bo_3_0, bo_3_1, bo_3_2, bo_3_3, bo_4_0, bo_4_1, bo_4_2, bo_4_3, bo_5_0, bo_5_1, bo_5_2, bo_5_3, hs, hp, bn2E, bn3E, bn4E, bsE, jnE, f9_ran_s, f9_hitsIt, f9_plainHits, f9_glassHits, f9_plainPays, f9_bumpPays, f9_paysIt, f9_sharesIt, f9_plainTells, f9_tellsIt, ↓reduceIte, eq_self, lq_0_1, lq_0_2, lq_0_3, lq_0_4, lq_0_5, lq_1_0, lq_1_2, lq_1_3, lq_1_4, lq_1_5, lq_2_0, lq_2_1, lq_2_3, lq_2_4, lq_2_5, lq_3_0, lq_3_1, lq_3_2, lq_3_4, lq_3_5, lq_4_0, lq_4_1, lq_4_2, lq_4_3, lq_4_5, lq_5_0, lq_5_1, lq_5_2, lq_5_3, lq_5_4]
    refine ⟨_, _, _, _, _, _, rfl, rfl, ?_, ?_, ?_, ?_⟩
    · first | exact fun _ => rfl | exact fun q => absurd q (by decide)
    · first | exact Or.inl rfl | exact Or.inr rfl
    · omega
    · repeat refine upd_both ?_
      exact fun i hi => absurd hi (by omega)
theorem ac_5_2 (a n x : Int32) (b t : Nat → Int32) : AR (f3_run 10 a (nI 0) 5 n 0 b 61 x (nI 0)) (rfA 2 5 n a x t) := by
  unfold rfA
  by_cases h : a = n
  · have hs := sh_P (show a - n = 0 from by rw [h]; exact Int32.sub_self _)
    have hp : ∀ j, j < 30 → ∀ (t : Nat → Int32) (y : Int32), f9_plainShares (nI j) 0 n a t y = some (0, nI (j + 1), 1, upd t j 12) := fun j hj t y => ps_P h hj t y
    simp (disch := omega) only [f3_run, ar_10, ar_11, ar_12, ar_13, ar_20, ar_30, ar_31, ar_40, ar_41, ar_50, ar_51, ar_60, ar_61, ar_P, bo_0_0, bo_0_1, bo_0_2, bo_0_3, bo_1_0, bo_1_1, bo_1_2, bo_1_3, bo_2_0, bo_2_1, bo_2_2, bo_2_3, bo_3_0, bo_3_1, bo_3_2, bo_3_3, bo_4_0, bo_4_1, bo_4_2, bo_4_3, bo_5_0, bo_5_1, bo_5_2, bo_5_3, hs, hp, bn2E, bn3E, bn4E, bsE, jnE, f9_ran_s, f9_hitsIt, f9_plainHits, f9_glassHits, f9_plainPays, f9_bumpPays, f9_paysIt, f9_sharesIt, f9_plainTells, f9_tellsIt, ↓reduceIte, eq_self, lq_0_1, lq_0_2, lq_0_3, lq_0_4, lq_0_5, lq_1_0, lq_1_2, lq_1_3, lq_1_4, lq_1_5, lq_2_0, lq_2_1, lq_2_3, lq_2_4, lq_2_5, lq_3_0, lq_3_1, lq_3_2, lq_3_4, lq_3_5, lq_4_0, lq_4_1, lq_4_2, lq_4_3, lq_4_5, lq_5_0, lq_5_1, lq_5_2, lq_5_3, lq_5_4]
    refine ⟨_, _, _, _, _, _, rfl, rfl, ?_, ?_, ?_, ?_⟩
    · first | exact fun _ => rfl | exact fun q => absurd q (by decide)
    · first | exact Or.inl rfl | exact Or.inr rfl
    · omega
    · repeat refine upd_both ?_
      exact fun i hi => absurd hi (by omega)
  · have hs := sh_N (show ¬ a - n = 0 from fun q => h (by rw [← Int32.sub_add_cancel a n, q, Int32.zero_add]))
    have hp : ∀ j, j < 30 → ∀ (t : Nat → Int32) (y : Int32), f9_plainShares (nI j) 0 n a t y = some (y / (a - n), nI (j + 1), 0, upd t j 12) := fun j hj t y => ps_N h hj t y
    simp (disch := omega) only [f3_run, ar_10, ar_11, ar_12, ar_13, ar_20, ar_30, ar_31, ar_40, ar_41, ar_50, ar_51, ar_60, ar_61, ar_P, bo_0_0, bo_0_1, bo_0_2, bo_0_3, bo_1_0, bo_1_1, bo_1_2, bo_1_3, bo_2_0, bo_2_1, bo_2_2, bo_2_3, bo_3_0, bo_3_1, bo_3_2, bo_3_3, bo_4_0, bo_4_1, bo_4_2, bo_4_3, bo_5_0, bo_5_1, bo_5_2, bo_5_3, hs, hp, bn2E, bn3E, bn4E, bsE, jnE, f9_ran_s, f9_hitsIt, f9_plainHits, f9_glassHits, f9_plainPays, f9_bumpPays, f9_paysIt, f9_sharesIt, f9_plainTells, f9_tellsIt, ↓reduceIte, eq_self, lq_0_1, lq_0_2, lq_0_3, lq_0_4, lq_0_5, lq_1_0, lq_1_2, lq_1_3, lq_1_4, lq_1_5, lq_2_0, lq_2_1, lq_2_3, lq_2_4, lq_2_5, lq_3_0, lq_3_1, lq_3_2, lq_3_4, lq_3_5, lq_4_0, lq_4_1, lq_4_2, lq_4_3, lq_4_5, lq_5_0, lq_5_1, lq_5_2, lq_5_3, lq_5_4]
    refine ⟨_, _, _, _, _, _, rfl, rfl, ?_, ?_, ?_, ?_⟩
    · first | exact fun _ => rfl | exact fun q => absurd q (by decide)
    · first | exact Or.inl rfl | exact Or.inr rfl
    · omega
    · repeat refine upd_both ?_
      exact fun i hi => absurd hi (by omega)
theorem ac_5_3 (a n x : Int32) (b t : Nat → Int32) : AR (f3_run 10 a (nI 0) 5 n 0 b 60 x (nI 0)) (rfA 3 5 n a x t) := by
  unfold rfA
  by_cases h : a = n
  · have hs := sh_P (show a - n = 0 from by rw [h]; exact Int32.sub_self _)
    have hp : ∀ j, j < 30 → ∀ (t : Nat → Int32) (y : Int32), f9_plainShares (nI j) 0 n a t y = some (0, nI (j + 1), 1, upd t j 12) := fun j hj t y => ps_P h hj t y
    simp (disch := omega) only [f3_run, ar_10, ar_11, ar_12, ar_13, ar_20, ar_30, ar_31, ar_40, ar_41, ar_50, ar_51, ar_60, ar_61, ar_P, bo_0_0, bo_0_1, bo_0_2, bo_0_3, bo_1_0, bo_1_1, bo_1_2, bo_1_3, bo_2_0, bo_2_1, bo_2_2, bo_2_3, bo_3_0, bo_3_1, bo_3_2, bo_3_3, bo_4_0, bo_4_1, bo_4_2, bo_4_3, bo_5_0, bo_5_1, bo_5_2, bo_5_3, hs, hp, bn2E, bn3E, bn4E, bsE, jnE, f9_ran_s, f9_hitsIt, f9_plainHits, f9_glassHits, f9_plainPays, f9_bumpPays, f9_paysIt, f9_sharesIt, f9_plainTells, f9_tellsIt, ↓reduceIte, eq_self, lq_0_1, lq_0_2, lq_0_3, lq_0_4, lq_0_5, lq_1_0, lq_1_2, lq_1_3, lq_1_4, lq_1_5, lq_2_0, lq_2_1, lq_2_3, lq_2_4, lq_2_5, lq_3_0, lq_3_1, lq_3_2, lq_3_4, lq_3_5, lq_4_0, lq_4_1, lq_4_2, lq_4_3, lq_4_5, lq_5_0, lq_5_1, lq_5_2, lq_5_3, lq_5_4]
    refine ⟨_, _, _, _, _, _, rfl, rfl, ?_, ?_, ?_, ?_⟩
    · first | exact fun _ => rfl | exact fun q => absurd q (by decide)
    · first | exact Or.inl rfl | exact Or.inr rfl
    · omega
    · repeat refine upd_both ?_
      exact fun i hi => absurd hi (by omega)
  · have hs := sh_N (show ¬ a - n = 0 from fun q => h (by rw [← Int32.sub_add_cancel a n, q, Int32.zero_add]))
    have hp : ∀ j, j < 30 → ∀ (t : Nat → Int32) (y : Int32), f9_plainShares (nI j) 0 n a t y = some (y / (a - n), nI (j + 1), 0, upd t j 12) := fun j hj t y => ps_N h hj t y
    simp (disch := omega) only [f3_run, ar_10, ar_11, ar_12, ar_13, ar_20, ar_30, ar_31, ar_40, ar_41, ar_50, ar_51, ar_60, ar_61, ar_P, bo_0_0, bo_0_1, bo_0_2, bo_0_3, bo_1_0, bo_1_1, bo_1_2, bo_1_3, bo_2_0, bo_2_1, bo_2_2, bo_2_3, bo_3_0, bo_3_1, bo_3_2, bo_3_3, bo_4_0, bo_4_1, bo_4_2, bo_4_3, bo_5_0, bo_5_1, bo_5_2, bo_5_3, hs, hp, bn2E, bn3E, bn4E, bsE, jnE, f9_ran_s, f9_hitsIt, f9_plainHits, f9_glassHits, f9_plainPays, f9_bumpPays, f9_paysIt, f9_sharesIt, f9_plainTells, f9_tellsIt, ↓reduceIte, eq_self, lq_0_1, lq_0_2, lq_0_3, lq_0_4, lq_0_5, lq_1_0, lq_1_2, lq_1_3, lq_1_4, lq_1_5, lq_2_0, lq_2_1, lq_2_3, lq_2_4, lq_2_5, lq_3_0, lq_3_1, lq_3_2, lq_3_4, lq_3_5, lq_4_0, lq_4_1, lq_4_2, lq_4_3, lq_4_5, lq_5_0, lq_5_1, lq_5_2, lq_5_3, lq_5_4]
    refine ⟨_, _, _, _, _, _, rfl, rfl, ?_, ?_, ?_, ?_⟩
    · first | exact fun _ => rfl | exact fun q => absurd q (by decide)
    · first | exact Or.inl rfl | exact Or.inr rfl
    · omega
    · repeat refine upd_both ?_
      exact fun i hi => absurd hi (by omega)
