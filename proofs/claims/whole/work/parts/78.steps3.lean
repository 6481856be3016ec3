/-! ===== comparisons, and, or, closing ===== -/
theorem bn8E {A B C D E F G H γ : Type} (a : A) (b : B) (c : C) (d : D) (e : E) (f : F) (g : G) (h : H) (k : A → B → C → D → E → F → G → H → Option γ) : bn8 (some (a, b, c, d, e, f, g, h)) k = k a b c d e f g h := by unfold bn8; exact bsE _ _
theorem bn9E {A B C D E F G H I γ : Type} (a : A) (b : B) (c : C) (d : D) (e : E) (f : F) (g : G) (h : H) (i : I) (k : A → B → C → D → E → F → G → H → I → Option γ) : bn9 (some (a, b, c, d, e, f, g, h, i)) k = k a b c d e f g h i := by unfold bn9; exact bsE _ _
theorem bn6E {A B C D E F γ : Type} (a : A) (b : B) (c : C) (d : D) (e : E) (f : F) (k : A → B → C → D → E → F → Option γ) : bn6 (some (a, b, c, d, e, f)) k = k a b c d e f := by unfold bn6; exact bsE _ _
theorem bn11E {A B C D E F G H I J L γ : Type} (a : A) (b : B) (c : C) (d : D) (e : E) (f : F) (g : G) (h : H) (i : I) (j : J) (l : L) (k : A → B → C → D → E → F → G → H → I → J → L → Option γ) : bn11 (some (a, b, c, d, e, f, g, h, i, j, l)) k = k a b c d e f g h i j l := by unfold bn11; exact bsE _ _
section SR
variable {n T : Nat} {mt : Nat → Int32} {byt : Nat → Nat} {Q : Option WR → Prop}
theorem bz0 : bz (0 : Int32) = true := by decide
theorem bz1 : bz (1 : Int32) = true := by decide
theorem mk60 {c : Nat} {c8 c10 : Int32} {c13 : Int64} (h : TM c c8 c10 c13) : f9_isMark c8 c10 60 = some (b01 (decide (c = 2000))) ∧ f9_isMark c8 c10 61 = some (b01 (decide (c = 2001))) ∧ f9_isMark c8 c10 62 = some (b01 (decide (c = 2002))) := ⟨h.2.1 3 (by omega), h.2.1 4 (by omega), h.2.1 5 (by omega)⟩
theorem len1 (O : List Nat) (x : Nat) : (O ++ [x]).length = O.length + 1 := by rw [List.length_append, List.length_cons, List.length_nil]
theorem cmp_yes (hn : n ≤ 200) (hb : ∀ i, i < n → mt i = nI (byt i) ∧ byt i < 256) {a : Nat} {O P : List Nat} (ha : a + 2 < T) (hT : T ≤ n) (hl : O.length + P.length ≤ a) {c3 c8 c10 : Int32} {c11 c12 : Nat → Int32} {c13 : Int64} (rT : TM (coN byt n a) c8 c10 c13) (rO : OuC O c11) (rP : PdC P c12) (ry : ∀ y ∈ P, y < 2 ^ 31) (h0 : coN byt n a < 1006) (h1 : 2000 ≤ coN byt n (a + 1)) (h2 : coN byt n (a + 1) < 2003) (h3 : coN byt n (a + 2) < 1006) : ∃ so va c wo, f9_wantCompared c3 (nI O.length) 1 (nI P.length) c8 (nI n) (nI (eoN byt n (a + 1))) c10 c11 c12 mt c13 = some (nI (stN byt n (a + 3)), nI (stlN 40002 P (((O ++ [vM (coN byt n a)]) ++ [60 + (coN byt n (a + 1) - 2000)]) ++ [vM (coN byt n (a + 2))])).1.length, 1, nI (stlN 40002 P (((O ++ [vM (coN byt n a)]) ++ [60 + (coN byt n (a + 1) - 2000)]) ++ [vM (coN byt n (a + 2))])).2.length, so, nI (eoN byt n (a + 4)), va, c, wo) ∧ TM (coN byt n (a + 3)) so va wo ∧ OuC (stlN 40002 P (((O ++ [vM (coN byt n a)]) ++ [60 + (coN byt n (a + 1) - 2000)]) ++ [vM (coN byt n (a + 2))])).1 c ∧ PdC (stlN 40002 P (((O ++ [vM (coN byt n a)]) ++ [60 + (coN byt n (a + 1) - 2000)]) ++ [vM (coN byt n (a + 2))])).2 c12 := by
  obtain ⟨so1, va1, wo1, q1, t1⟩ := wv_yes hn hb (a := a) (k := O.length) (by omega) c3 c8 c10 c11 c13 rT h0
  obtain ⟨m1, m2, m3⟩ := mk60 t1
  obtain ⟨so2, va2, wo2, q2, t2⟩ := f9_advance_s hn hb (a + 2) (nI (stN byt n (a + 1))) so1 va1 wo1
  have hv := t1.2.2.2.2.1 h1 h2
  rw [hv] at q2
  have o1 := OuC_add (x := vM (coN byt n a)) rO
  have o2 := OuC_add (x := 60 + (coN byt n (a + 1) - 2000)) o1
  have o3 := OuC_add (x := vM (coN byt n (a + 2))) o2
  rw [len1] at o2
  rw [len1, len1] at o3
  obtain ⟨so3, va3, wo3, q3, t3⟩ := wv_yes hn hb (a := a + 2) (k := O.length + 1 + 1) (by omega) (nI (stN byt n (a + 2))) so2 va2 (upd (upd c11 O.length (nI (vM (coN byt n a)))) (O.length + 1) (nI (60 + (coN byt n (a + 1) - 2000)))) wo2 t2 h3
  obtain ⟨c, hs, hO, hP⟩ := f9_settle_s (x := 40002) (by omega) (P := P) (O := ((O ++ [vM (coN byt n a)]) ++ [60 + (coN byt n (a + 1) - 2000)]) ++ [vM (coN byt n (a + 2))]) (c12 := c12) (by rw [len1, len1, len1]; omega) ry rP o3
  rw [len1, len1, len1] at hs
  have hs' : f9_settle (nI (O.length + 1 + 1 + 1)) (nI P.length) (upd (upd (upd c11 O.length (nI (vM (coN byt n a)))) (O.length + 1) (nI (60 + (coN byt n (a + 1) - 2000)))) (O.length + 1 + 1) (nI (vM (coN byt n (a + 2))))) c12 40002 = _ := hs
  refine ⟨so3, va3, c, wo3, ?_, t3, hO, hP⟩
  unfold f9_wantCompared
  rw [q1, bn8E]
  simp only [jnE]
  rw [if_neg e10, m1, bsE, dec_if]
  have key : gd (bz 1) (if (1 : Int32) = 0 then bn8 (f9_wantValue (nI (stN byt n (a + 1))) (nI (O.length + 1)) 1 so1 (nI n) (nI (eoN byt n (a + 2))) va1 (upd c11 O.length (nI (vM (coN byt n a)))) mt wo1) fun c20 c21 c22 c23 c24 c25 c26 c27 => bn3 (f9_settle c21 (nI P.length) c26 c12 40002) fun c28 c29 c30 => some (c20, c28, c22, c29, c23, c24, c25, c30, c27) else bn2 (f9_emit (nI (O.length + 1)) (upd c11 O.length (nI (vM (coN byt n a)))) va1) fun c31 c32 => bn5 (f9_advance (nI (stN byt n (a + 1))) so1 (nI n) (nI (eoN byt n (a + 2))) va1 mt wo1) fun c33 c34 c35 c36 c37 => bn8 (f9_wantValue c33 c31 1 c34 (nI n) c35 c36 c32 mt c37) fun c20 c21 c22 c23 c24 c25 c26 c27 => bn3 (f9_settle c21 (nI P.length) c26 c12 40002) fun c28 c29 c30 => some (c20, c28, c22, c29, c23, c24, c25, c30, c27)) = some (nI (stN byt n (a + 3)), nI (stlN 40002 P (((O ++ [vM (coN byt n a)]) ++ [60 + (coN byt n (a + 1) - 2000)]) ++ [vM (coN byt n (a + 2))])).1.length, 1, nI (stlN 40002 P (((O ++ [vM (coN byt n a)]) ++ [60 + (coN byt n (a + 1) - 2000)]) ++ [vM (coN byt n (a + 2))])).2.length, so3, nI (eoN byt n (a + 4)), va3, c, wo3) := by
    rw [bz1, gd_t, if_neg e10, f9_emit_s (by omega), bn2E, hv, q2, bn5E, q3, bn8E, hs', bn3E]
  by_cases hh : coN byt n (a + 1) = 2000
  · rw [if_pos hh]; exact key
  · rw [if_neg hh, m2, bsE, dec_if]
    by_cases hh2 : coN byt n (a + 1) = 2001
    · rw [if_pos hh2]; exact key
    · rw [if_neg hh2, m3, bsE, dec_if, if_pos (by omega)]; exact key
theorem cmp_end {a : Nat} {O P : List Nat} (hl : O.length + P.length ≤ 200) {c3 c8 c9 c10 : Int32} {c11 c12 : Nat → Int32} {c13 : Int64} (rT : TM (coN byt n a) c8 c10 c13) (rO : OuC O c11) (rP : PdC P c12) (ry : ∀ y ∈ P, y < 2 ^ 31) : ∃ c4 c7 c, (bn8 (f9_wantValue c3 (nI O.length) 0 c8 (nI n) c9 c10 c11 mt c13) fun c20 c21 c22 c23 c24 c25 c26 c27 => bn3 (f9_settle c21 (nI P.length) c26 c12 40002) fun c28 c29 c30 => some (c20, c28, c22, c29, c23, c24, c25, c30, c27)) = some (c3, c4, 0, c7, c8, c9, c10, c, c13) := by
  obtain ⟨c, hs, -, -⟩ := f9_settle_s (x := 40002) (by omega) hl ry rP rO
  have hs' : f9_settle (nI O.length) (nI P.length) c11 c12 40002 = _ := hs
  exact ⟨_, _, c, by rw [wv_bad _ _ _ _ _ _ _ rT, bn8E, hs', bn3E]⟩
theorem cmp_no (hn : n ≤ 200) (hb : ∀ i, i < n → mt i = nI (byt i) ∧ byt i < 256) {a e : Nat} {O P : List Nat} (ha : a ≤ n) (hl : O.length + P.length ≤ a) {c8 c10 : Int32} {c11 c12 : Nat → Int32} {c13 : Int64} (rT : TM (coN byt n a) c8 c10 c13) (rO : OuC O c11) (rP : PdC P c12) (ry : ∀ y ∈ P, y < 2 ^ 31) (he : (e = a ∧ ¬ coN byt n a < 1006) ∨ (e = a + 1 ∧ a + 1 ≤ n ∧ coN byt n a < 1006 ∧ ¬ (2000 ≤ coN byt n (a + 1) ∧ coN byt n (a + 1) < 2003)) ∨ (e = a + 2 ∧ a + 2 ≤ n ∧ coN byt n a < 1006 ∧ (2000 ≤ coN byt n (a + 1) ∧ coN byt n (a + 1) < 2003) ∧ ¬ coN byt n (a + 2) < 1006)) : ∃ c4 c7 c8' c9' c10' c c13', f9_wantCompared (nI (stN byt n a)) (nI O.length) 1 (nI P.length) c8 (nI n) (nI (eoN byt n (a + 1))) c10 c11 c12 mt c13 = some (nI (stN byt n e), c4, 0, c7, c8', c9', c10', c, c13') := by
  unfold f9_wantCompared
  rcases he with ⟨rfl, h0⟩ | ⟨rfl, hle, h0, h1⟩ | ⟨rfl, hle, h0, h1, h2⟩
  · rw [wv_no _ _ _ _ _ _ _ rT h0, bn8E]
    simp only [jnE]
    rw [if_pos trivial, bz0, gd_t, if_pos trivial]
    obtain ⟨c4, c7, c, h⟩ := cmp_end (n := n) (mt := mt) (c3 := nI (stN byt n e)) (c9 := nI (eoN byt n (e + 1))) (show O.length + P.length ≤ 200 by omega) rT rO rP ry
    exact ⟨c4, c7, _, _, _, c, _, h⟩
  · obtain ⟨so1, va1, wo1, q1, t1⟩ := wv_yes hn hb (a := a) (k := O.length) (by omega) (nI (stN byt n a)) c8 c10 c11 c13 rT h0
    obtain ⟨m1, m2, m3⟩ := mk60 t1
    have o1 := OuC_add (x := vM (coN byt n a)) rO
    rw [q1, bn8E]
    simp only [jnE]
    rw [if_neg e10, m1, bsE, dec_if, if_neg (by omega), m2, bsE, dec_if, if_neg (by omega), m3, bsE, dec_if, if_neg (by omega), bz0, gd_t, if_pos trivial]
    obtain ⟨c4, c7, c, h⟩ := cmp_end (n := n) (mt := mt) (c3 := nI (stN byt n (a + 1))) (c9 := nI (eoN byt n (a + 2))) (O := O ++ [vM (coN byt n a)]) (show (O ++ [vM (coN byt n a)]).length + P.length ≤ 200 by rw [len1]; omega) t1 o1 rP ry
    rw [len1] at h
    exact ⟨c4, c7, _, _, _, c, _, h⟩
  · obtain ⟨so1, va1, wo1, q1, t1⟩ := wv_yes hn hb (a := a) (k := O.length) (by omega) (nI (stN byt n a)) c8 c10 c11 c13 rT h0
    obtain ⟨m1, m2, m3⟩ := mk60 t1
    obtain ⟨so2, va2, wo2, q2, t2⟩ := f9_advance_s hn hb (a + 2) (nI (stN byt n (a + 1))) so1 va1 wo1
    have hv := t1.2.2.2.2.1 h1.1 h1.2
    rw [hv] at q2
    have o1 := OuC_add (x := vM (coN byt n a)) rO
    have o2 := OuC_add (x := 60 + (coN byt n (a + 1) - 2000)) o1
    rw [len1] at o2
    rw [q1, bn8E]
    simp only [jnE]
    rw [if_neg e10, m1, bsE, dec_if]
    obtain ⟨c, hs, -, -⟩ := f9_settle_s (x := 40002) (by omega) (P := P) (O := (O ++ [vM (coN byt n a)]) ++ [60 + (coN byt n (a + 1) - 2000)]) (c12 := c12) (by rw [len1, len1]; omega) ry rP o2
    rw [len1, len1] at hs
    have hs' : f9_settle (nI (O.length + 1 + 1)) (nI P.length) (upd (upd c11 O.length (nI (vM (coN byt n a)))) (O.length + 1) (nI (60 + (coN byt n (a + 1) - 2000)))) c12 40002 = _ := hs
    have key : ∃ c4 c7 c8' c9' c10' c c13', gd (bz 1) (if (1 : Int32) = 0 then bn8 (f9_wantValue (nI (stN byt n (a + 1))) (nI (O.length + 1)) 1 so1 (nI n) (nI (eoN byt n (a + 2))) va1 (upd c11 O.length (nI (vM (coN byt n a)))) mt wo1) fun c20 c21 c22 c23 c24 c25 c26 c27 => bn3 (f9_settle c21 (nI P.length) c26 c12 40002) fun c28 c29 c30 => some (c20, c28, c22, c29, c23, c24, c25, c30, c27) else bn2 (f9_emit (nI (O.length + 1)) (upd c11 O.length (nI (vM (coN byt n a)))) va1) fun c31 c32 => bn5 (f9_advance (nI (stN byt n (a + 1))) so1 (nI n) (nI (eoN byt n (a + 2))) va1 mt wo1) fun c33 c34 c35 c36 c37 => bn8 (f9_wantValue c33 c31 1 c34 (nI n) c35 c36 c32 mt c37) fun c20 c21 c22 c23 c24 c25 c26 c27 => bn3 (f9_settle c21 (nI P.length) c26 c12 40002) fun c28 c29 c30 => some (c20, c28, c22, c29, c23, c24, c25, c30, c27)) = some (nI (stN byt n (a + 2)), c4, 0, c7, c8', c9', c10', c, c13') := by
      rw [bz1, gd_t, if_neg e10, f9_emit_s (by omega), bn2E, hv, q2, bn5E, wv_no _ _ _ _ _ _ _ t2 h2, bn8E, hs', bn3E]
      exact ⟨_, _, _, _, _, _, _, rfl⟩
    by_cases hh : coN byt n (a + 1) = 2000
    · rw [if_pos hh]; exact key
    · rw [if_neg hh, m2, bsE, dec_if]
      by_cases hh2 : coN byt n (a + 1) = 2001
      · rw [if_pos hh2]; exact key
      · rw [if_neg hh2, m3, bsE, dec_if, if_pos (by omega)]; exact key
theorem sq_cmp (hn : n ≤ 200) (hb : ∀ i, i < n → mt i = nI (byt i) ∧ byt i < 256) {a op : Nat} {O P : List Nat} (ha : a + 2 < T) (hT : T ≤ n) (h0 : coN byt n a < 1006) (h1 : 2000 ≤ coN byt n (a + 1)) (h2 : coN byt n (a + 1) < 2003) (h3 : coN byt n (a + 2) < 1006) (h : OKr byt n T mt Q 0 (a + 3) (stlN 40002 P (((O ++ [vM (coN byt n a)]) ++ [60 + (coN byt n (a + 1) - 2000)]) ++ [vM (coN byt n (a + 2))])).1 (stlN 40002 P (((O ++ [vM (coN byt n a)]) ++ [60 + (coN byt n (a + 1) - 2000)]) ++ [vM (coN byt n (a + 2))])).2 op) : OKr byt n T mt Q 1 a O P op := by
  intro fu c3 c4 c6 c7 c8 c9 c10 c11 c12 c13 hfu ⟨r3, r4, r6, r7, r9, rT, rO, rP, ry, rl⟩
  obtain ⟨f, rfl⟩ : ∃ f, fu = f + 1 := ⟨fu - 1, by omega⟩
  have hw := rT.1 5 (by omega)
  have hm : f9_isMark c8 c10 40 = some (b01 (decide (coN byt n a = mcN 0))) := rT.2.1 0 (by omega)
  have hc1 : ¬ coN byt n a = wcN 5 := by rw [show wcN 5 = 2003 from rfl]; omega
  have hc2 : ¬ coN byt n a = mcN 0 := by rw [show mcN 0 = 3001 from rfl]; omega
  obtain ⟨so, va, c, wo, hq, hTM, hO, hP⟩ := cmp_yes hn hb ha hT rl (c3 := c3) rT rO rP ry h0 h1 h2 h3
  rw [f9_wantCond_L16, if_neg e10, if_neg e10, jnE, if_neg e10, w_not, hw, bsE, dec_if, if_neg hc1, jnE, if_neg e10, hm, bsE, dec_if, if_neg hc2, if_neg e10, r4, r7, r9, hq, bn9E]
  refine h f _ _ _ _ _ _ _ _ _ _ (by omega) ⟨rfl, rfl, r6, rfl, rfl, hTM, hO, hP, stlN_mem ry, ?_⟩
  rw [stlN_len, len1, len1, len1]; omega
theorem sq_cmpF (hn : n ≤ 200) (hb : ∀ i, i < n → mt i = nI (byt i) ∧ byt i < 256) {a e op : Nat} {O P : List Nat} (ha : a ≤ T) (hT : T ≤ n) (hc1 : ¬ coN byt n a = 2003) (hc2 : ¬ coN byt n a = 3001) (he : (e = a ∧ ¬ coN byt n a < 1006) ∨ (e = a + 1 ∧ a + 1 ≤ n ∧ coN byt n a < 1006 ∧ ¬ (2000 ≤ coN byt n (a + 1) ∧ coN byt n (a + 1) < 2003)) ∨ (e = a + 2 ∧ a + 2 ≤ n ∧ coN byt n a < 1006 ∧ (2000 ≤ coN byt n (a + 1) ∧ coN byt n (a + 1) < 2003) ∧ ¬ coN byt n (a + 2) < 1006)) (h : FAo byt n Q e) : OKr byt n T mt Q 1 a O P op := by
  intro fu c3 c4 c6 c7 c8 c9 c10 c11 c12 c13 hfu ⟨r3, r4, r6, r7, r9, rT, rO, rP, ry, rl⟩
  obtain ⟨f, rfl⟩ : ∃ f, fu = f + 1 := ⟨fu - 1, by omega⟩
  have hw := rT.1 5 (by omega)
  have hm : f9_isMark c8 c10 40 = some (b01 (decide (coN byt n a = mcN 0))) := rT.2.1 0 (by omega)
  obtain ⟨d4, d7, d8, d9, d10, d, d13, hq⟩ := cmp_no hn hb (show a ≤ n by omega) rl rT rO rP ry he
  rw [f9_wantCond_L16, if_neg e10, if_neg e10, jnE, if_neg e10, w_not, hw, bsE, dec_if, if_neg (show ¬ coN byt n a = wcN 5 from hc1), jnE, if_neg e10, hm, bsE, dec_if, if_neg (show ¬ coN byt n a = mcN 0 from hc2), if_neg e10, r3, r4, r7, r9, hq, bn9E, ← w_not, sq_bad (by omega)]
  exact h _ _ _ _ _ _ _ _ _
theorem sq_and (hn : n ≤ 200) (hb : ∀ i, i < n → mt i = nI (byt i) ∧ byt i < 256) {a op : Nat} {O P : List Nat} (ha : a < T) (hT : T ≤ n) (hc : coN byt n a = 2004) (h : OKr byt n T mt Q 1 (a + 1) (stlN 40000 P O).1 (40000 :: (stlN 40000 P O).2) op) : OKr byt n T mt Q 0 a O P op := by
  intro fu c3 c4 c6 c7 c8 c9 c10 c11 c12 c13 hfu ⟨r3, r4, r6, r7, r9, rT, rO, rP, ry, rl⟩
  obtain ⟨f, rfl⟩ : ∃ f, fu = f + 1 := ⟨fu - 1, by omega⟩
  obtain ⟨so, va, wo, hadv, hTM⟩ := f9_advance_s hn hb (a + 1) c3 c8 c10 c13
  have hw := rT.1 4 (by omega)
  have hc' : coN byt n a = wcN 4 := hc
  obtain ⟨c, hs, hO, hP⟩ := f9_settle_s (x := 40000) (by omega) (show O.length + P.length ≤ 200 by omega) ry rP rO
  have hs' : f9_settle (nI O.length) (nI P.length) c11 c12 40000 = _ := hs
  have hsl := stlN_len 40000 P O
  rw [f9_wantCond_L16, if_neg e10, if_neg e10, jnE, if_pos rfl, jnE, if_pos rfl, if_pos rfl, w_and, hw, bsE, jnE, dec_if, if_pos hc', r4, r7, hs', bn3E, bsE, jnE, dec_if, if_pos hc']
  dsimp only
  rw [jnE, dec_if, if_pos hc']
  dsimp only
  rw [f9_pend_s (by omega), bn2E, r9, hadv, bn5E]
  refine h f _ _ _ _ _ _ _ _ _ _ (by omega) ⟨rfl, rfl, r6, rfl, rfl, hTM, hO, ⟨upd_s, PdC_upd (Nat.le_refl _) hP⟩, fun y hy => ?_, by rw [List.length_cons]; omega⟩
  rcases List.mem_cons.mp hy with e | e
  · rw [e]; omega
  · exact stlN_mem ry y e
theorem sq_or (hn : n ≤ 200) (hb : ∀ i, i < n → mt i = nI (byt i) ∧ byt i < 256) {a op : Nat} {O P : List Nat} (ha : a < T) (hT : T ≤ n) (hc : coN byt n a = 2005) (h : OKr byt n T mt Q 1 (a + 1) (stlN 40001 (stlN 40000 P O).2 (stlN 40000 P O).1).1 (40001 :: (stlN 40001 (stlN 40000 P O).2 (stlN 40000 P O).1).2) op) : OKr byt n T mt Q 0 a O P op := by
  intro fu c3 c4 c6 c7 c8 c9 c10 c11 c12 c13 hfu ⟨r3, r4, r6, r7, r9, rT, rO, rP, ry, rl⟩
  obtain ⟨f, rfl⟩ : ∃ f, fu = f + 1 := ⟨fu - 1, by omega⟩
  obtain ⟨so, va, wo, hadv, hTM⟩ := f9_advance_s hn hb (a + 1) c3 c8 c10 c13
  have hw4 := rT.1 4 (by omega)
  have hw3 := rT.1 3 (by omega)
  have hc4 : ¬ coN byt n a = wcN 4 := by rw [hc]; decide
  have hc3 : coN byt n a = wcN 3 := hc
  obtain ⟨c, hs, hO, hP⟩ := f9_settle_s (x := 40000) (by omega) (show O.length + P.length ≤ 200 by omega) ry rP rO
  have hs' : f9_settle (nI O.length) (nI P.length) c11 c12 40000 = _ := hs
  have hsl := stlN_len 40000 P O
  obtain ⟨d, ht, hO2, hP2⟩ := f9_settle_s (x := 40001) (by omega) (show (stlN 40000 P O).1.length + (stlN 40000 P O).2.length ≤ 200 by omega) (stlN_mem ry) hP hO
  have ht' : f9_settle (nI (stlN 40000 P O).1.length) (nI (stlN 40000 P O).2.length) c c12 40001 = _ := ht
  have hsl2 := stlN_len 40001 (stlN 40000 P O).2 (stlN 40000 P O).1
  rw [f9_wantCond_L16, if_neg e10, if_neg e10, jnE, if_pos rfl, jnE, if_pos rfl, if_pos rfl, w_and, hw4, bsE, jnE, dec_if, if_neg hc4, w_or, hw3, bsE, dec_if, if_pos hc3, r4, r7, hs', bn3E, bsE, jnE, dec_if, if_neg hc4, ht', bn3E]
  dsimp only
  rw [jnE, dec_if, if_neg hc4]
  dsimp only
  rw [f9_pend_s (by omega), bn2E, r9, hadv, bn5E]
  refine h f _ _ _ _ _ _ _ _ _ _ (by omega) ⟨rfl, rfl, r6, rfl, rfl, hTM, hO2, ⟨upd_s, PdC_upd (Nat.le_refl _) hP2⟩, fun y hy => ?_, by rw [List.length_cons]; omega⟩
  rcases List.mem_cons.mp hy with e | e
  · rw [e]; omega
  · exact stlN_mem (stlN_mem ry) y e
/-- both settled -/
def stl2 (P O : List Nat) : List Nat × List Nat := stlN 40001 (stlN 40000 P O).2 (stlN 40000 P O).1
theorem mk41 {c : Nat} {c8 c10 : Int32} {c13 : Int64} (h : TM c c8 c10 c13) : f9_isMark c8 c10 41 = some (b01 (decide (c = 3002))) := h.2.1 1 (by omega)
theorem sq_close (hn : n ≤ 200) (hb : ∀ i, i < n → mt i = nI (byt i) ∧ byt i < 256) {a op : Nat} {O P O2 P2 : List Nat} (ha : a < T) (hT : T ≤ n) (hc : coN byt n a = 3002) (hst : stl2 P O = (O2, 40003 :: P2)) (h : OKr byt n T mt Q 0 (a + 1) (stlN 40002 P2 O2).1 (stlN 40002 P2 O2).2 op) : OKr byt n T mt Q 0 a O P (op + 1) := by
  intro fu c3 c4 c6 c7 c8 c9 c10 c11 c12 c13 hfu ⟨r3, r4, r6, r7, r9, rT, rO, rP, ry, rl⟩
  obtain ⟨f, rfl⟩ : ∃ f, fu = f + 1 := ⟨fu - 1, by omega⟩
  obtain ⟨so, va, wo, hadv, hTM⟩ := f9_advance_s hn hb (a + 1) c3 c8 c10 c13
  have hw4 := rT.1 4 (by omega)
  have hw3 := rT.1 3 (by omega)
  have hc4 : ¬ coN byt n a = wcN 4 := by rw [hc]; decide
  have hc3 : ¬ coN byt n a = wcN 3 := by rw [hc]; decide
  obtain ⟨c, hs, hO, hP⟩ := f9_settle_s (x := 40000) (by omega) (show O.length + P.length ≤ 200 by omega) ry rP rO
  have hs' : f9_settle (nI O.length) (nI P.length) c11 c12 40000 = _ := hs
  have hsl := stlN_len 40000 P O
  obtain ⟨d, ht, hO2, hP2⟩ := f9_settle_s (x := 40001) (by omega) (show (stlN 40000 P O).1.length + (stlN 40000 P O).2.length ≤ 200 by omega) (stlN_mem ry) hP hO
  have ht' : f9_settle (nI (stlN 40000 P O).1.length) (nI (stlN 40000 P O).2.length) c c12 40001 = _ := ht
  have hsl2 := stlN_len 40001 (stlN 40000 P O).2 (stlN 40000 P O).1
  have hm2 : ∀ y ∈ (stlN 40001 (stlN 40000 P O).2 (stlN 40000 P O).1).2, y < 2 ^ 31 := stlN_mem (stlN_mem ry)
  have hst' : stlN 40001 (stlN 40000 P O).2 (stlN 40000 P O).1 = (O2, 40003 :: P2) := hst
  rw [hst'] at ht' hO2 hP2 hsl2 hm2
  dsimp only at ht' hO2 hP2 hsl2 hm2
  rw [List.length_cons] at hsl2 ht'
  have htop : f9_isTop (nI (P2.length + 1)) c12 40003 = some (b01 (decide ((40003 :: P2).head? = some 40003))) := f9_isTop_s (P := 40003 :: P2) (x := 40003) hP2 (by rw [List.length_cons]; omega) hm2 (by omega)
  obtain ⟨q, hu, hO3, hP3⟩ := f9_settle_s (x := 40002) (by omega) (show O2.length + P2.length ≤ 200 by omega) (fun y hy => hm2 y (List.mem_cons_of_mem _ hy)) hP2.2 hO2
  have hu' : f9_settle (nI O2.length) (nI P2.length) d c12 40002 = _ := hu
  have hsl3 := stlN_len 40002 P2 O2
  have hm41 := mk41 rT
  rw [f9_wantCond_L16, if_neg e10, if_neg e10, jnE, if_pos rfl, jnE, if_pos rfl, if_pos rfl, w_and, hw4, bsE, jnE, dec_if, if_neg hc4, w_or, hw3, bsE, dec_if, if_neg hc3, r4, r7, hs', bn3E, ht', bn3E, htop, bsE]
  simp only [jnE, dec_if]
  rw [if_pos (show (40003 :: P2).head? = some 40003 from rfl), hm41, bsE, dec_if, if_pos hc, bz1, gd_t, if_neg e10, decide_eq_true (show (40003 :: P2).head? = some 40003 from rfl), if_pos (show (40003 :: P2).head? = some 40003 from rfl), nI_pred, r6, nI_pred, r9, hadv, bn5E, hu', bn3E]
  exact h f _ _ _ _ _ _ _ _ _ _ (by omega) ⟨rfl, rfl, rfl, rfl, rfl, hTM, hO3, hP3, stlN_mem (fun y hy => hm2 y (List.mem_cons_of_mem _ hy)), by omega⟩
theorem sq_closeF {a op : Nat} {O P O2 P2 : List Nat} (ha : a ≤ T) (hT : T ≤ n) (hn : n ≤ 200) (hc4 : ¬ coN byt n a = 2004) (hc3 : ¬ coN byt n a = 2005) (hc : ¬ coN byt n a = 3002) (hst : stl2 P O = (O2, 40003 :: P2)) (h : FAo byt n Q a) : OKr byt n T mt Q 0 a O P op := by
  intro fu c3 c4 c6 c7 c8 c9 c10 c11 c12 c13 hfu ⟨r3, r4, r6, r7, r9, rT, rO, rP, ry, rl⟩
  obtain ⟨f, rfl⟩ : ∃ f, fu = f + 1 := ⟨fu - 1, by omega⟩
  have hw4 := rT.1 4 (by omega)
  have hw3 := rT.1 3 (by omega)
  obtain ⟨c, hs, hO, hP⟩ := f9_settle_s (x := 40000) (by omega) (show O.length + P.length ≤ 200 by omega) ry rP rO
  have hs' : f9_settle (nI O.length) (nI P.length) c11 c12 40000 = _ := hs
  have hsl := stlN_len 40000 P O
  obtain ⟨d, ht, hO2, hP2⟩ := f9_settle_s (x := 40001) (by omega) (show (stlN 40000 P O).1.length + (stlN 40000 P O).2.length ≤ 200 by omega) (stlN_mem ry) hP hO
  have ht' : f9_settle (nI (stlN 40000 P O).1.length) (nI (stlN 40000 P O).2.length) c c12 40001 = _ := ht
  have hsl2 := stlN_len 40001 (stlN 40000 P O).2 (stlN 40000 P O).1
  have hm2 : ∀ y ∈ (stlN 40001 (stlN 40000 P O).2 (stlN 40000 P O).1).2, y < 2 ^ 31 := stlN_mem (stlN_mem ry)
  have hst' : stlN 40001 (stlN 40000 P O).2 (stlN 40000 P O).1 = (O2, 40003 :: P2) := hst
  rw [hst'] at ht' hO2 hP2 hsl2 hm2
  dsimp only at ht' hO2 hP2 hsl2 hm2
  rw [List.length_cons] at hsl2 ht'
  have htop : f9_isTop (nI (P2.length + 1)) c12 40003 = some (b01 (decide ((40003 :: P2).head? = some 40003))) := f9_isTop_s (P := 40003 :: P2) (x := 40003) hP2 (by rw [List.length_cons]; omega) hm2 (by omega)
  have hm41 := mk41 rT
  rw [f9_wantCond_L16, if_neg e10, if_neg e10, jnE, if_pos rfl, jnE, if_pos rfl, if_pos rfl, w_and, hw4, bsE, jnE, dec_if, if_neg (show ¬ coN byt n a = wcN 4 from hc4), w_or, hw3, bsE, dec_if, if_neg (show ¬ coN byt n a = wcN 3 from hc3), r4, r7, hs', bn3E, ht', bn3E, htop, bsE]
  simp only [jnE, dec_if]
  rw [if_pos (show (40003 :: P2).head? = some 40003 from rfl), hm41, bsE, dec_if, if_neg hc, bz0, gd_t, if_pos trivial, ← w_and, ← w_or, sq_bad (by omega), r3]
  exact h _ _ _ _ _ _ _ _ _
theorem sq_end {a op : Nat} {O P O2 : List Nat} (ha : a ≤ T) (hT : T ≤ n) (hn : n ≤ 200) (hc4 : ¬ coN byt n a = 2004) (hc3 : ¬ coN byt n a = 2005) (hst : stl2 P O = (O2, [])) (h : ∀ c3 c4 c6 c7 c8 c9 c10 c11 c12 c13, RSt byt n a O2 [] op c3 c4 c6 c7 c8 c9 c10 c11 c12 c13 → Q (some (c3, c4, 1, c6, c7, c8, c9, c10, c11, c12, c13))) : OKr byt n T mt Q 0 a O P op := by
  intro fu c3 c4 c6 c7 c8 c9 c10 c11 c12 c13 hfu ⟨r3, r4, r6, r7, r9, rT, rO, rP, ry, rl⟩
  obtain ⟨f, rfl⟩ : ∃ f, fu = f + 1 + 1 := ⟨fu - 2, by omega⟩
  have hw4 := rT.1 4 (by omega)
  have hw3 := rT.1 3 (by omega)
  obtain ⟨c, hs, hO, hP⟩ := f9_settle_s (x := 40000) (by omega) (show O.length + P.length ≤ 200 by omega) ry rP rO
  have hs' : f9_settle (nI O.length) (nI P.length) c11 c12 40000 = _ := hs
  have hsl := stlN_len 40000 P O
  obtain ⟨d, ht, hO2, hP2⟩ := f9_settle_s (x := 40001) (by omega) (show (stlN 40000 P O).1.length + (stlN 40000 P O).2.length ≤ 200 by omega) (stlN_mem ry) hP hO
  have ht' : f9_settle (nI (stlN 40000 P O).1.length) (nI (stlN 40000 P O).2.length) c c12 40001 = _ := ht
  have hsl2 := stlN_len 40001 (stlN 40000 P O).2 (stlN 40000 P O).1
  have hst' : stlN 40001 (stlN 40000 P O).2 (stlN 40000 P O).1 = (O2, []) := hst
  rw [hst'] at ht' hO2 hP2 hsl2
  dsimp only at ht' hO2 hP2 hsl2
  rw [List.length_nil] at hsl2 ht'
  have htop : f9_isTop (nI 0) c12 40003 = some 0 := rfl
  rw [f9_wantCond_L16, if_neg e10, if_neg e10, jnE, if_pos rfl, jnE, if_pos rfl, if_pos rfl, w_and, hw4, bsE, jnE, dec_if, if_neg (show ¬ coN byt n a = wcN 4 from hc4), w_or, hw3, bsE, dec_if, if_neg (show ¬ coN byt n a = wcN 3 from hc3), r4, r7, hs', bn3E, ht', bn3E, htop, bsE]
  simp only [jnE]
  rw [if_pos trivial, bz1, gd_t, if_neg e10, if_pos trivial, f9_wantCond_L16, if_neg e10, if_pos rfl]
  exact h _ _ _ _ _ _ _ _ _ _ ⟨r3, rfl, r6, rfl, r9, rT, hO2, trivial, fun y hy => absurd hy List.not_mem_nil, by rw [List.length_nil]; omega⟩
end SR
