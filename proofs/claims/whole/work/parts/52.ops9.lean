/-! ===== keep and again ===== -/
theorem bzs_s {f : Nat → Int32} {n : Nat} (h : ∀ i, i < n → f i = 0 ∨ f i = 1) : bzs f n = true := by
  unfold bzs
  rw [List.all_eq_true]
  intro i hi
  rcases h i (List.mem_range.mp hi) with e | e <;> rw [e] <;> decide
theorem f9_move_a82_k (a k : Nat → Int32) {m n : Nat} (hn : n ≤ 4) (hm : m + n ≤ 380) : f9_move_a82 (nI m) a k (nI n) 1 = some (nI (m + n), a, fun j => if m ≤ j ∧ j < m + n then a (j - m) else k j) := by
  unfold f9_move_a82
  simp only [jn]
  refine lup0 (fun fu i (s : Int32 × (Nat → Int32) × (Nat → Int32)) => f9_move_a82_L3 (nI n) 1 fu i s.1 s.2.1 s.2.2 fun _ c2 c3 c4 => some (c2, c3, c4)) n (fun i => (nI (m + i), a, fun j => if m ≤ j ∧ j < m + i then a (j - m) else k j)) (s0 := (nI m, a, k)) (fun fu i hi => ?_) (fun fu => ?_) (Prod.ext rfl (Prod.ext rfl (funext fun j => if_neg (by omega)))) (FU_lt (by omega))
  · simp only [f9_move_a82_L3, jn]
    rw [if_neg (nI_ge hi (by omega)), if_neg (by decide), gdi (by omega) (by omega), gdi (by omega) (by omega), nI_1, nI_1, nI_clamp (by omega), nI_clamp (by omega)]
    show f9_move_a82_L3 (nI n) 1 fu (nI (i + 1)) (nI (m + i + 1)) a (upd _ (m + i) (a i)) _ = _
    congr 1; funext j
    by_cases e : j = m + i
    · rw [updS e, if_pos (by omega), show j - m = i by omega]
    · rw [upd_n e]; simp only [show (m ≤ j ∧ j < m + (i + 1)) ↔ (m ≤ j ∧ j < m + i) by omega]
  · simp only [f9_move_a82_L3]
    rw [if_pos (nI_le (Nat.le_refl _) (by omega))]
theorem f9_move_a82_a (a k : Nat → Int32) {m n : Nat} (hn : n ≤ 4) (hm : m + n ≤ 380) : f9_move_a82 (nI m) a k (nI n) 0 = some (nI (m + n), fun j => if j < n then k (m + j) else a j, k) := by
  unfold f9_move_a82
  simp only [jn]
  refine lup0 (fun fu i (s : Int32 × (Nat → Int32) × (Nat → Int32)) => f9_move_a82_L3 (nI n) 0 fu i s.1 s.2.1 s.2.2 fun _ c2 c3 c4 => some (c2, c3, c4)) n (fun i => (nI (m + i), fun j => if j < i then k (m + j) else a j, k)) (s0 := (nI m, a, k)) (fun fu i hi => ?_) (fun fu => ?_) (Prod.ext rfl (Prod.ext (show (fun j => if j < 0 then k (m + j) else a j) = a from funext fun j => if_neg (Nat.not_lt_zero j)) rfl)) (FU_lt (by omega))
  · simp only [f9_move_a82_L3, jn]
    rw [if_neg (nI_ge hi (by omega)), if_pos trivial, gdi (by omega) (by omega), gdi (by omega) (by omega), nI_1, nI_1, nI_clamp (by omega), nI_clamp (by omega)]
    show f9_move_a82_L3 (nI n) 0 fu (nI (i + 1)) (nI (m + i + 1)) (upd _ i (k (m + i))) k _ = _
    congr 1; funext j
    by_cases e : j = i
    · rw [updS e, if_pos (by omega), e]
    · rw [upd_n e]; simp only [show (j < i + 1) ↔ (j < i) by omega]
  · simp only [f9_move_a82_L3]
    rw [if_pos (nI_le (Nat.le_refl _) (by omega))]
theorem f9_move_a53_k (a k : Nat → Int32) {m n : Nat} (hn : n ≤ 4) (hm : m + n ≤ 380) : f9_move_a53 (nI m) a k (nI n) 1 = some (nI (m + n), a, fun j => if m ≤ j ∧ j < m + n then a (j - m) else k j) := by
  unfold f9_move_a53
  simp only [jn]
  refine lup0 (fun fu i (s : Int32 × (Nat → Int32) × (Nat → Int32)) => f9_move_a53_L3 (nI n) 1 fu i s.1 s.2.1 s.2.2 fun _ c2 c3 c4 => some (c2, c3, c4)) n (fun i => (nI (m + i), a, fun j => if m ≤ j ∧ j < m + i then a (j - m) else k j)) (s0 := (nI m, a, k)) (fun fu i hi => ?_) (fun fu => ?_) (Prod.ext rfl (Prod.ext rfl (funext fun j => if_neg (by omega)))) (FU_lt (by omega))
  · simp only [f9_move_a53_L3, jn]
    rw [if_neg (nI_ge hi (by omega)), if_neg (by decide), gdi (by omega) (by omega), gdi (by omega) (by omega), nI_1, nI_1, nI_clamp (by omega), nI_clamp (by omega)]
    show f9_move_a53_L3 (nI n) 1 fu (nI (i + 1)) (nI (m + i + 1)) a (upd _ (m + i) (a i)) _ = _
    congr 1; funext j
    by_cases e : j = m + i
    · rw [updS e, if_pos (by omega), show j - m = i by omega]
    · rw [upd_n e]; simp only [show (m ≤ j ∧ j < m + (i + 1)) ↔ (m ≤ j ∧ j < m + i) by omega]
  · simp only [f9_move_a53_L3]
    rw [if_pos (nI_le (Nat.le_refl _) (by omega))]
theorem f9_move_a53_a (a k : Nat → Int32) {m n : Nat} (hn : n ≤ 4) (hm : m + n ≤ 380) : f9_move_a53 (nI m) a k (nI n) 0 = some (nI (m + n), fun j => if j < n then k (m + j) else a j, k) := by
  unfold f9_move_a53
  simp only [jn]
  refine lup0 (fun fu i (s : Int32 × (Nat → Int32) × (Nat → Int32)) => f9_move_a53_L3 (nI n) 0 fu i s.1 s.2.1 s.2.2 fun _ c2 c3 c4 => some (c2, c3, c4)) n (fun i => (nI (m + i), fun j => if j < i then k (m + j) else a j, k)) (s0 := (nI m, a, k)) (fun fu i hi => ?_) (fun fu => ?_) (Prod.ext rfl (Prod.ext (show (fun j => if j < 0 then k (m + j) else a j) = a from funext fun j => if_neg (Nat.not_lt_zero j)) rfl)) (FU_lt (by omega))
  · simp only [f9_move_a53_L3, jn]
    rw [if_neg (nI_ge hi (by omega)), if_pos trivial, gdi (by omega) (by omega), gdi (by omega) (by omega), nI_1, nI_1, nI_clamp (by omega), nI_clamp (by omega)]
    show f9_move_a53_L3 (nI n) 0 fu (nI (i + 1)) (nI (m + i + 1)) (upd _ i (k (m + i))) k _ = _
    congr 1; funext j
    by_cases e : j = i
    · rw [updS e, if_pos (by omega), e]
    · rw [upd_n e]; simp only [show (j < i + 1) ↔ (j < i) by omega]
  · simp only [f9_move_a53_L3]
    rw [if_pos (nI_le (Nat.le_refl _) (by omega))]
theorem f9_move_a54_k (a k : Nat → Int32) {m n : Nat} (hn : n ≤ 10) (hm : m + n ≤ 380) : f9_move_a54 (nI m) a k (nI n) 1 = some (nI (m + n), a, fun j => if m ≤ j ∧ j < m + n then a (j - m) else k j) := by
  unfold f9_move_a54
  simp only [jn]
  refine lup0 (fun fu i (s : Int32 × (Nat → Int32) × (Nat → Int32)) => f9_move_a54_L3 (nI n) 1 fu i s.1 s.2.1 s.2.2 fun _ c2 c3 c4 => some (c2, c3, c4)) n (fun i => (nI (m + i), a, fun j => if m ≤ j ∧ j < m + i then a (j - m) else k j)) (s0 := (nI m, a, k)) (fun fu i hi => ?_) (fun fu => ?_) (Prod.ext rfl (Prod.ext rfl (funext fun j => if_neg (by omega)))) (FU_lt (by omega))
  · simp only [f9_move_a54_L3, jn]
    rw [if_neg (nI_ge hi (by omega)), if_neg (by decide), gdi (by omega) (by omega), gdi (by omega) (by omega), nI_1, nI_1, nI_clamp (by omega), nI_clamp (by omega)]
    show f9_move_a54_L3 (nI n) 1 fu (nI (i + 1)) (nI (m + i + 1)) a (upd _ (m + i) (a i)) _ = _
    congr 1; funext j
    by_cases e : j = m + i
    · rw [updS e, if_pos (by omega), show j - m = i by omega]
    · rw [upd_n e]; simp only [show (m ≤ j ∧ j < m + (i + 1)) ↔ (m ≤ j ∧ j < m + i) by omega]
  · simp only [f9_move_a54_L3]
    rw [if_pos (nI_le (Nat.le_refl _) (by omega))]
theorem f9_move_a54_a (a k : Nat → Int32) {m n : Nat} (hn : n ≤ 10) (hm : m + n ≤ 380) : f9_move_a54 (nI m) a k (nI n) 0 = some (nI (m + n), fun j => if j < n then k (m + j) else a j, k) := by
  unfold f9_move_a54
  simp only [jn]
  refine lup0 (fun fu i (s : Int32 × (Nat → Int32) × (Nat → Int32)) => f9_move_a54_L3 (nI n) 0 fu i s.1 s.2.1 s.2.2 fun _ c2 c3 c4 => some (c2, c3, c4)) n (fun i => (nI (m + i), fun j => if j < i then k (m + j) else a j, k)) (s0 := (nI m, a, k)) (fun fu i hi => ?_) (fun fu => ?_) (Prod.ext rfl (Prod.ext (show (fun j => if j < 0 then k (m + j) else a j) = a from funext fun j => if_neg (Nat.not_lt_zero j)) rfl)) (FU_lt (by omega))
  · simp only [f9_move_a54_L3, jn]
    rw [if_neg (nI_ge hi (by omega)), if_pos trivial, gdi (by omega) (by omega), gdi (by omega) (by omega), nI_1, nI_1, nI_clamp (by omega), nI_clamp (by omega)]
    show f9_move_a54_L3 (nI n) 0 fu (nI (i + 1)) (nI (m + i + 1)) (upd _ i (k (m + i))) k _ = _
    congr 1; funext j
    by_cases e : j = i
    · rw [updS e, if_pos (by omega), e]
    · rw [upd_n e]; simp only [show (j < i + 1) ↔ (j < i) by omega]
  · simp only [f9_move_a54_L3]
    rw [if_pos (nI_le (Nat.le_refl _) (by omega))]
theorem f9_move_a55_k (a k : Nat → Int32) {m n : Nat} (hn : n ≤ 10) (hm : m + n ≤ 380) : f9_move_a55 (nI m) a k (nI n) 1 = some (nI (m + n), a, fun j => if m ≤ j ∧ j < m + n then a (j - m) else k j) := by
  unfold f9_move_a55
  simp only [jn]
  refine lup0 (fun fu i (s : Int32 × (Nat → Int32) × (Nat → Int32)) => f9_move_a55_L3 (nI n) 1 fu i s.1 s.2.1 s.2.2 fun _ c2 c3 c4 => some (c2, c3, c4)) n (fun i => (nI (m + i), a, fun j => if m ≤ j ∧ j < m + i then a (j - m) else k j)) (s0 := (nI m, a, k)) (fun fu i hi => ?_) (fun fu => ?_) (Prod.ext rfl (Prod.ext rfl (funext fun j => if_neg (by omega)))) (FU_lt (by omega))
  · simp only [f9_move_a55_L3, jn]
    rw [if_neg (nI_ge hi (by omega)), if_neg (by decide), gdi (by omega) (by omega), gdi (by omega) (by omega), nI_1, nI_1, nI_clamp (by omega), nI_clamp (by omega)]
    show f9_move_a55_L3 (nI n) 1 fu (nI (i + 1)) (nI (m + i + 1)) a (upd _ (m + i) (a i)) _ = _
    congr 1; funext j
    by_cases e : j = m + i
    · rw [updS e, if_pos (by omega), show j - m = i by omega]
    · rw [upd_n e]; simp only [show (m ≤ j ∧ j < m + (i + 1)) ↔ (m ≤ j ∧ j < m + i) by omega]
  · simp only [f9_move_a55_L3]
    rw [if_pos (nI_le (Nat.le_refl _) (by omega))]
theorem f9_move_a55_a (a k : Nat → Int32) {m n : Nat} (hn : n ≤ 10) (hm : m + n ≤ 380) : f9_move_a55 (nI m) a k (nI n) 0 = some (nI (m + n), fun j => if j < n then k (m + j) else a j, k) := by
  unfold f9_move_a55
  simp only [jn]
  refine lup0 (fun fu i (s : Int32 × (Nat → Int32) × (Nat → Int32)) => f9_move_a55_L3 (nI n) 0 fu i s.1 s.2.1 s.2.2 fun _ c2 c3 c4 => some (c2, c3, c4)) n (fun i => (nI (m + i), fun j => if j < i then k (m + j) else a j, k)) (s0 := (nI m, a, k)) (fun fu i hi => ?_) (fun fu => ?_) (Prod.ext rfl (Prod.ext (show (fun j => if j < 0 then k (m + j) else a j) = a from funext fun j => if_neg (Nat.not_lt_zero j)) rfl)) (FU_lt (by omega))
  · simp only [f9_move_a55_L3, jn]
    rw [if_neg (nI_ge hi (by omega)), if_pos trivial, gdi (by omega) (by omega), gdi (by omega) (by omega), nI_1, nI_1, nI_clamp (by omega), nI_clamp (by omega)]
    show f9_move_a55_L3 (nI n) 0 fu (nI (i + 1)) (nI (m + i + 1)) (upd _ i (k (m + i))) k _ = _
    congr 1; funext j
    by_cases e : j = i
    · rw [updS e, if_pos (by omega), e]
    · rw [upd_n e]; simp only [show (j < i + 1) ↔ (j < i) by omega]
  · simp only [f9_move_a55_L3]
    rw [if_pos (nI_le (Nat.le_refl _) (by omega))]
theorem f9_move_a56_k (a k : Nat → Int32) {m n : Nat} (hn : n ≤ 10) (hm : m + n ≤ 380) : f9_move_a56 (nI m) a k (nI n) 1 = some (nI (m + n), a, fun j => if m ≤ j ∧ j < m + n then a (j - m) else k j) := by
  unfold f9_move_a56
  simp only [jn]
  refine lup0 (fun fu i (s : Int32 × (Nat → Int32) × (Nat → Int32)) => f9_move_a56_L3 (nI n) 1 fu i s.1 s.2.1 s.2.2 fun _ c2 c3 c4 => some (c2, c3, c4)) n (fun i => (nI (m + i), a, fun j => if m ≤ j ∧ j < m + i then a (j - m) else k j)) (s0 := (nI m, a, k)) (fun fu i hi => ?_) (fun fu => ?_) (Prod.ext rfl (Prod.ext rfl (funext fun j => if_neg (by omega)))) (FU_lt (by omega))
  · simp only [f9_move_a56_L3, jn]
    rw [if_neg (nI_ge hi (by omega)), if_neg (by decide), gdi (by omega) (by omega), gdi (by omega) (by omega), nI_1, nI_1, nI_clamp (by omega), nI_clamp (by omega)]
    show f9_move_a56_L3 (nI n) 1 fu (nI (i + 1)) (nI (m + i + 1)) a (upd _ (m + i) (a i)) _ = _
    congr 1; funext j
    by_cases e : j = m + i
    · rw [updS e, if_pos (by omega), show j - m = i by omega]
    · rw [upd_n e]; simp only [show (m ≤ j ∧ j < m + (i + 1)) ↔ (m ≤ j ∧ j < m + i) by omega]
  · simp only [f9_move_a56_L3]
    rw [if_pos (nI_le (Nat.le_refl _) (by omega))]
theorem f9_move_a56_a (a k : Nat → Int32) {m n : Nat} (hn : n ≤ 10) (hm : m + n ≤ 380) : f9_move_a56 (nI m) a k (nI n) 0 = some (nI (m + n), fun j => if j < n then k (m + j) else a j, k) := by
  unfold f9_move_a56
  simp only [jn]
  refine lup0 (fun fu i (s : Int32 × (Nat → Int32) × (Nat → Int32)) => f9_move_a56_L3 (nI n) 0 fu i s.1 s.2.1 s.2.2 fun _ c2 c3 c4 => some (c2, c3, c4)) n (fun i => (nI (m + i), fun j => if j < i then k (m + j) else a j, k)) (s0 := (nI m, a, k)) (fun fu i hi => ?_) (fun fu => ?_) (Prod.ext rfl (Prod.ext (show (fun j => if j < 0 then k (m + j) else a j) = a from funext fun j => if_neg (Nat.not_lt_zero j)) rfl)) (FU_lt (by omega))
  · simp only [f9_move_a56_L3, jn]
    rw [if_neg (nI_ge hi (by omega)), if_pos trivial, gdi (by omega) (by omega), gdi (by omega) (by omega), nI_1, nI_1, nI_clamp (by omega), nI_clamp (by omega)]
    show f9_move_a56_L3 (nI n) 0 fu (nI (i + 1)) (nI (m + i + 1)) (upd _ i (k (m + i))) k _ = _
    congr 1; funext j
    by_cases e : j = i
    · rw [updS e, if_pos (by omega), e]
    · rw [upd_n e]; simp only [show (j < i + 1) ↔ (j < i) by omega]
  · simp only [f9_move_a56_L3]
    rw [if_pos (nI_le (Nat.le_refl _) (by omega))]
theorem f9_move_a57_k (a k : Nat → Int32) {m n : Nat} (hn : n ≤ 99) (hm : m + n ≤ 380) : f9_move_a57 (nI m) a k (nI n) 1 = some (nI (m + n), a, fun j => if m ≤ j ∧ j < m + n then a (j - m) else k j) := by
  unfold f9_move_a57
  simp only [jn]
  refine lup0 (fun fu i (s : Int32 × (Nat → Int32) × (Nat → Int32)) => f9_move_a57_L3 (nI n) 1 fu i s.1 s.2.1 s.2.2 fun _ c2 c3 c4 => some (c2, c3, c4)) n (fun i => (nI (m + i), a, fun j => if m ≤ j ∧ j < m + i then a (j - m) else k j)) (s0 := (nI m, a, k)) (fun fu i hi => ?_) (fun fu => ?_) (Prod.ext rfl (Prod.ext rfl (funext fun j => if_neg (by omega)))) (FU_lt (by omega))
  · simp only [f9_move_a57_L3, jn]
    rw [if_neg (nI_ge hi (by omega)), if_neg (by decide), gdi (by omega) (by omega), gdi (by omega) (by omega), nI_1, nI_1, nI_clamp (by omega), nI_clamp (by omega)]
    show f9_move_a57_L3 (nI n) 1 fu (nI (i + 1)) (nI (m + i + 1)) a (upd _ (m + i) (a i)) _ = _
    congr 1; funext j
    by_cases e : j = m + i
    · rw [updS e, if_pos (by omega), show j - m = i by omega]
    · rw [upd_n e]; simp only [show (m ≤ j ∧ j < m + (i + 1)) ↔ (m ≤ j ∧ j < m + i) by omega]
  · simp only [f9_move_a57_L3]
    rw [if_pos (nI_le (Nat.le_refl _) (by omega))]
theorem f9_move_a57_a (a k : Nat → Int32) {m n : Nat} (hn : n ≤ 99) (hm : m + n ≤ 380) : f9_move_a57 (nI m) a k (nI n) 0 = some (nI (m + n), fun j => if j < n then k (m + j) else a j, k) := by
  unfold f9_move_a57
  simp only [jn]
  refine lup0 (fun fu i (s : Int32 × (Nat → Int32) × (Nat → Int32)) => f9_move_a57_L3 (nI n) 0 fu i s.1 s.2.1 s.2.2 fun _ c2 c3 c4 => some (c2, c3, c4)) n (fun i => (nI (m + i), fun j => if j < i then k (m + j) else a j, k)) (s0 := (nI m, a, k)) (fun fu i hi => ?_) (fun fu => ?_) (Prod.ext rfl (Prod.ext (show (fun j => if j < 0 then k (m + j) else a j) = a from funext fun j => if_neg (Nat.not_lt_zero j)) rfl)) (FU_lt (by omega))
  · simp only [f9_move_a57_L3, jn]
    rw [if_neg (nI_ge hi (by omega)), if_pos trivial, gdi (by omega) (by omega), gdi (by omega) (by omega), nI_1, nI_1, nI_clamp (by omega), nI_clamp (by omega)]
    show f9_move_a57_L3 (nI n) 0 fu (nI (i + 1)) (nI (m + i + 1)) (upd _ i (k (m + i))) k _ = _
    congr 1; funext j
    by_cases e : j = i
    · rw [updS e, if_pos (by omega), e]
    · rw [upd_n e]; simp only [show (j < i + 1) ↔ (j < i) by omega]
  · simp only [f9_move_a57_L3]
    rw [if_pos (nI_le (Nat.le_refl _) (by omega))]
theorem f9_move_a58_k (a k : Nat → Int32) {m n : Nat} (hn : n ≤ 7) (hm : m + n ≤ 380) : f9_move_a58 (nI m) a k (nI n) 1 = some (nI (m + n), a, fun j => if m ≤ j ∧ j < m + n then a (j - m) else k j) := by
  unfold f9_move_a58
  simp only [jn]
  refine lup0 (fun fu i (s : Int32 × (Nat → Int32) × (Nat → Int32)) => f9_move_a58_L3 (nI n) 1 fu i s.1 s.2.1 s.2.2 fun _ c2 c3 c4 => some (c2, c3, c4)) n (fun i => (nI (m + i), a, fun j => if m ≤ j ∧ j < m + i then a (j - m) else k j)) (s0 := (nI m, a, k)) (fun fu i hi => ?_) (fun fu => ?_) (Prod.ext rfl (Prod.ext rfl (funext fun j => if_neg (by omega)))) (FU_lt (by omega))
  · simp only [f9_move_a58_L3, jn]
    rw [if_neg (nI_ge hi (by omega)), if_neg (by decide), gdi (by omega) (by omega), gdi (by omega) (by omega), nI_1, nI_1, nI_clamp (by omega), nI_clamp (by omega)]
    show f9_move_a58_L3 (nI n) 1 fu (nI (i + 1)) (nI (m + i + 1)) a (upd _ (m + i) (a i)) _ = _
    congr 1; funext j
    by_cases e : j = m + i
    · rw [updS e, if_pos (by omega), show j - m = i by omega]
    · rw [upd_n e]; simp only [show (m ≤ j ∧ j < m + (i + 1)) ↔ (m ≤ j ∧ j < m + i) by omega]
  · simp only [f9_move_a58_L3]
    rw [if_pos (nI_le (Nat.le_refl _) (by omega))]
theorem f9_move_a58_a (a k : Nat → Int32) {m n : Nat} (hn : n ≤ 7) (hm : m + n ≤ 380) : f9_move_a58 (nI m) a k (nI n) 0 = some (nI (m + n), fun j => if j < n then k (m + j) else a j, k) := by
  unfold f9_move_a58
  simp only [jn]
  refine lup0 (fun fu i (s : Int32 × (Nat → Int32) × (Nat → Int32)) => f9_move_a58_L3 (nI n) 0 fu i s.1 s.2.1 s.2.2 fun _ c2 c3 c4 => some (c2, c3, c4)) n (fun i => (nI (m + i), fun j => if j < i then k (m + j) else a j, k)) (s0 := (nI m, a, k)) (fun fu i hi => ?_) (fun fu => ?_) (Prod.ext rfl (Prod.ext (show (fun j => if j < 0 then k (m + j) else a j) = a from funext fun j => if_neg (Nat.not_lt_zero j)) rfl)) (FU_lt (by omega))
  · simp only [f9_move_a58_L3, jn]
    rw [if_neg (nI_ge hi (by omega)), if_pos trivial, gdi (by omega) (by omega), gdi (by omega) (by omega), nI_1, nI_1, nI_clamp (by omega), nI_clamp (by omega)]
    show f9_move_a58_L3 (nI n) 0 fu (nI (i + 1)) (nI (m + i + 1)) (upd _ i (k (m + i))) k _ = _
    congr 1; funext j
    by_cases e : j = i
    · rw [updS e, if_pos (by omega), e]
    · rw [upd_n e]; simp only [show (j < i + 1) ↔ (j < i) by omega]
  · simp only [f9_move_a58_L3]
    rw [if_pos (nI_le (Nat.le_refl _) (by omega))]
theorem f9_move_a60_k (a k : Nat → Int32) {m n : Nat} (hn : n ≤ 24) (hm : m + n ≤ 380) : f9_move_a60 (nI m) a k (nI n) 1 = some (nI (m + n), a, fun j => if m ≤ j ∧ j < m + n then a (j - m) else k j) := by
  unfold f9_move_a60
  simp only [jn]
  refine lup0 (fun fu i (s : Int32 × (Nat → Int32) × (Nat → Int32)) => f9_move_a60_L3 (nI n) 1 fu i s.1 s.2.1 s.2.2 fun _ c2 c3 c4 => some (c2, c3, c4)) n (fun i => (nI (m + i), a, fun j => if m ≤ j ∧ j < m + i then a (j - m) else k j)) (s0 := (nI m, a, k)) (fun fu i hi => ?_) (fun fu => ?_) (Prod.ext rfl (Prod.ext rfl (funext fun j => if_neg (by omega)))) (FU_lt (by omega))
  · simp only [f9_move_a60_L3, jn]
    rw [if_neg (nI_ge hi (by omega)), if_neg (by decide), gdi (by omega) (by omega), gdi (by omega) (by omega), nI_1, nI_1, nI_clamp (by omega), nI_clamp (by omega)]
    show f9_move_a60_L3 (nI n) 1 fu (nI (i + 1)) (nI (m + i + 1)) a (upd _ (m + i) (a i)) _ = _
    congr 1; funext j
    by_cases e : j = m + i
    · rw [updS e, if_pos (by omega), show j - m = i by omega]
    · rw [upd_n e]; simp only [show (m ≤ j ∧ j < m + (i + 1)) ↔ (m ≤ j ∧ j < m + i) by omega]
  · simp only [f9_move_a60_L3]
    rw [if_pos (nI_le (Nat.le_refl _) (by omega))]
theorem f9_move_a60_a (a k : Nat → Int32) {m n : Nat} (hn : n ≤ 24) (hm : m + n ≤ 380) : f9_move_a60 (nI m) a k (nI n) 0 = some (nI (m + n), fun j => if j < n then k (m + j) else a j, k) := by
  unfold f9_move_a60
  simp only [jn]
  refine lup0 (fun fu i (s : Int32 × (Nat → Int32) × (Nat → Int32)) => f9_move_a60_L3 (nI n) 0 fu i s.1 s.2.1 s.2.2 fun _ c2 c3 c4 => some (c2, c3, c4)) n (fun i => (nI (m + i), fun j => if j < i then k (m + j) else a j, k)) (s0 := (nI m, a, k)) (fun fu i hi => ?_) (fun fu => ?_) (Prod.ext rfl (Prod.ext (show (fun j => if j < 0 then k (m + j) else a j) = a from funext fun j => if_neg (Nat.not_lt_zero j)) rfl)) (FU_lt (by omega))
  · simp only [f9_move_a60_L3, jn]
    rw [if_neg (nI_ge hi (by omega)), if_pos trivial, gdi (by omega) (by omega), gdi (by omega) (by omega), nI_1, nI_1, nI_clamp (by omega), nI_clamp (by omega)]
    show f9_move_a60_L3 (nI n) 0 fu (nI (i + 1)) (nI (m + i + 1)) (upd _ i (k (m + i))) k _ = _
    congr 1; funext j
    by_cases e : j = i
    · rw [updS e, if_pos (by omega), e]
    · rw [upd_n e]; simp only [show (j < i + 1) ↔ (j < i) by omega]
  · simp only [f9_move_a60_L3]
    rw [if_pos (nI_le (Nat.le_refl _) (by omega))]
theorem f9_move_a61_k (a k : Nat → Int32) {m n : Nat} (hn : n ≤ 200) (hm : m + n ≤ 380) : f9_move_a61 (nI m) a k (nI n) 1 = some (nI (m + n), a, fun j => if m ≤ j ∧ j < m + n then a (j - m) else k j) := by
  unfold f9_move_a61
  simp only [jn]
  refine lup0 (fun fu i (s : Int32 × (Nat → Int32) × (Nat → Int32)) => f9_move_a61_L3 (nI n) 1 fu i s.1 s.2.1 s.2.2 fun _ c2 c3 c4 => some (c2, c3, c4)) n (fun i => (nI (m + i), a, fun j => if m ≤ j ∧ j < m + i then a (j - m) else k j)) (s0 := (nI m, a, k)) (fun fu i hi => ?_) (fun fu => ?_) (Prod.ext rfl (Prod.ext rfl (funext fun j => if_neg (by omega)))) (FU_lt (by omega))
  · simp only [f9_move_a61_L3, jn]
    rw [if_neg (nI_ge hi (by omega)), if_neg (by decide), gdi (by omega) (by omega), gdi (by omega) (by omega), nI_1, nI_1, nI_clamp (by omega), nI_clamp (by omega)]
    show f9_move_a61_L3 (nI n) 1 fu (nI (i + 1)) (nI (m + i + 1)) a (upd _ (m + i) (a i)) _ = _
    congr 1; funext j
    by_cases e : j = m + i
    · rw [updS e, if_pos (by omega), show j - m = i by omega]
    · rw [upd_n e]; simp only [show (m ≤ j ∧ j < m + (i + 1)) ↔ (m ≤ j ∧ j < m + i) by omega]
  · simp only [f9_move_a61_L3]
    rw [if_pos (nI_le (Nat.le_refl _) (by omega))]
theorem f9_move_a61_a (a k : Nat → Int32) {m n : Nat} (hn : n ≤ 200) (hm : m + n ≤ 380) : f9_move_a61 (nI m) a k (nI n) 0 = some (nI (m + n), fun j => if j < n then k (m + j) else a j, k) := by
  unfold f9_move_a61
  simp only [jn]
  refine lup0 (fun fu i (s : Int32 × (Nat → Int32) × (Nat → Int32)) => f9_move_a61_L3 (nI n) 0 fu i s.1 s.2.1 s.2.2 fun _ c2 c3 c4 => some (c2, c3, c4)) n (fun i => (nI (m + i), fun j => if j < i then k (m + j) else a j, k)) (s0 := (nI m, a, k)) (fun fu i hi => ?_) (fun fu => ?_) (Prod.ext rfl (Prod.ext (show (fun j => if j < 0 then k (m + j) else a j) = a from funext fun j => if_neg (Nat.not_lt_zero j)) rfl)) (FU_lt (by omega))
  · simp only [f9_move_a61_L3, jn]
    rw [if_neg (nI_ge hi (by omega)), if_pos trivial, gdi (by omega) (by omega), gdi (by omega) (by omega), nI_1, nI_1, nI_clamp (by omega), nI_clamp (by omega)]
    show f9_move_a61_L3 (nI n) 0 fu (nI (i + 1)) (nI (m + i + 1)) (upd _ i (k (m + i))) k _ = _
    congr 1; funext j
    by_cases e : j = i
    · rw [updS e, if_pos (by omega), e]
    · rw [upd_n e]; simp only [show (j < i + 1) ↔ (j < i) by omega]
  · simp only [f9_move_a61_L3]
    rw [if_pos (nI_le (Nat.le_refl _) (by omega))]
theorem f6_copyFrom_s (cl tcl tn : Int32) (cd tcd : Nat → Int32) {n : Nat} (hn : n ≤ 209) : f6_copyFrom cl (nI n) tcl tn cd tcd = some (cl, nI n, fun j => if j < n then cd j else tcd j) := by
  unfold f6_copyFrom
  simp only [jn]
  refine lup0 (fun fu i s => f6_copyFrom_L18 (nI n) cd fu i s fun _ c2 => some (cl, nI n, c2)) n (fun i j => if j < i then cd j else tcd j) (fun fu i hi => ?_) (fun fu => ?_) (funext fun j => if_neg (by omega)) (FU_lt (by omega))
  · simp only [f6_copyFrom_L18]
    rw [if_neg (nI_ge hi (by omega)), if_neg (show ¬ (210 : Int32) ≤ nI i from nI_ge (b := 210) (by omega) (by omega)), gdi (by omega) (by omega), gdi (by omega) (by omega), nI_clamp (by omega), nI_1]
    congr 1; funext j
    by_cases e : j = i
    · rw [updS e, if_pos (by omega), e]
    · rw [upd_n e]; simp only [show (j < i + 1) ↔ (j < i) by omega]
  · simp only [f6_copyFrom_L18]
    rw [if_pos (nI_le (Nat.le_refl _) (by omega))]
theorem RBx_c {P C : Nat} {siz law hom hub one fac sea fou byc msiz mtow mhub mone mcla mlaw siz' law' hom' hub' one' fac' sea' fou' byc' msiz' mtow' mhub' mone' mcla' mlaw' : Nat → Int32} (B : RBx P C siz law hom hub one fac sea fou byc msiz mtow mhub mone mcla mlaw)
    (h1 : ∀ i, i < 4 → siz' i = siz i) (h2 : ∀ i, i < 7 → law' i = law i) (h3 : ∀ i, i < 10 → hom' i = hom i) (h4 : ∀ i, i < 10 → hub' i = hub i) (h5 : ∀ i, i < 10 → one' i = one i) (h6 : ∀ i, i < 45 → fac' i = fac i) (h7 : ∀ i, i < 36 → sea' i = sea i) (h8 : ∀ i, i < 9 → fou' i = fou i) (h9 : ∀ i, i < 9 → byc' i = byc i) (k1 : ∀ i, i < 4 → msiz' i = msiz i) (k2 : ∀ i, i < 10 → mtow' i = mtow i) (k3 : ∀ i, i < 10 → mhub' i = mhub i) (k4 : ∀ i, i < 10 → mone' i = mone i) (k5 : ∀ i, i < 99 → mcla' i = mcla i) (k6 : ∀ i, i < 7 → mlaw' i = mlaw i) : RBx P C siz' law' hom' hub' one' fac' sea' fou' byc' msiz' mtow' mhub' mone' mcla' mlaw' := by
  obtain ⟨b1, b2, b3, b4, b5, b6, b7, b8, b9, b10, b11, b12, b13, b14⟩ := B
  refine ⟨b1, b2, fun t ht => ?_, fun t ht => ?_, fun t ht => ?_, fun t ht => ?_, fun t ht => ?_, fun t ht => ?_, fun c w hc hw => ?_, fun c hc => ?_, fun c k hc hk => ?_, fun c hc => ?_, fun c hc => ?_, fun c hc => ?_⟩
  · rw [h1 t ht, k1 t ht]; exact b3 t ht
  · rw [h2 t ht, k6 t ht]; exact b4 t ht
  · rw [h3 t (by omega), k2 t (by omega)]; exact b5 t ht
  · rw [h4 t (by omega), k3 t (by omega)]; exact b6 t ht
  · rw [h4 t ht]; exact b7 t ht
  · rw [h5 t (by omega), k4 t (by omega)]; exact b8 t ht
  · rw [h6 _ (by omega), k5 _ (by omega)]; exact b9 c w hc hw
  · rw [h6 _ (by omega), h6 _ (by omega)]; exact b10 c hc
  · rw [h7 _ (by omega), k5 _ (by omega)]; exact b11 c k hc hk
  · rw [h8 _ (by omega), k5 _ (by omega)]; exact b12 c hc
  · rw [h9 _ (by omega), k5 _ (by omega)]; exact b13 c hc
  · rw [h9 _ (by omega)]; exact b14 c hc
theorem RR_c {cn cl : Int32} {cd cd' : Nat → Int32} {mcl : Int32} {mc mc' ms ms' : Nat → Int32} (H : RR cn cl cd mcl mc ms) (h1 : ∀ n : Nat, n ≤ 209 → cn = nI n → ∀ i, i < n → cd' i = cd i) (h2 : ∀ i, i < 24 → mc' i = mc i) (h3 : ∀ i, i < 200 → ms' i = ms i) : RR cn cl cd' mcl mc' ms' := by
  obtain ⟨L, a1, a2, a3, a4, a5, a6, a7, a8, a9, a10⟩ := H
  refine ⟨L, a1, a2, a3, a4, a5, a6, fun i hi => ?_, a8, fun i hi => ?_, fun j hj => ?_⟩
  · rw [h1 _ a5 a6 i hi]; exact a7 i hi
  · rw [h3 i (by omega)]; exact a9 i hi
  · rw [h2 _ (by omega), h2 _ (by omega), h2 _ (by omega)]; exact a10 j hj
theorem RR_n {cn cl : Int32} {cd : Nat → Int32} {mcl : Int32} {mc ms : Nat → Int32} (H : RR cn cl cd mcl mc ms) : ∃ n : Nat, n ≤ 209 ∧ cn = nI n := by
  obtain ⟨L, a1, a2, a3, a4, a5, a6, -⟩ := H
  exact ⟨_, a5, a6⟩
theorem cpy_e (f g : Nat → Int32) (n i : Nat) (h : i < n) : va_cpy f g 0 0 n i = f i := by
  unfold va_cpy
  rw [if_pos ⟨Nat.zero_le _, by omega⟩]; congr 1; omega
