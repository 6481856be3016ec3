theorem no_s {α : Type} {r : α} {P : Prop} (h : none = some r) : P := nomatch h
theorem ltn {X : CT} {n i : Nat} (hn : nX X = n) (h : i < n) : i < nX X := hn ▸ h
theorem sw_n {x : Int32} : ∀ v ∈ ([] : List Int), ¬ x = Int32.ofInt v := fun _ h => absurd h List.not_mem_nil
theorem sw_c {x c : Int32} {v : Int} {l : List Int} (h : ¬ x = c) (e : Int32.ofInt v = c) (t : ∀ w ∈ l, ¬ x = Int32.ofInt w) : ∀ w ∈ v :: l, ¬ x = Int32.ofInt w := fun w hw => (List.mem_cons.mp hw).elim (fun q => by rw [q, e]; exact h) (t w)
def depR (k : Nat) : Nat → Nat
  | 0 => 10
  | n + 1 => depR k n + k
theorem depR_ge (k : Nat) : ∀ n, 10 ≤ depR k n
  | 0 => Nat.le_refl _
  | n + 1 => Nat.le_trans (depR_ge k n) (Nat.le_add_right _ _)
def strLen (i : Nat) : Int32 := Int32.ofNat (sLen.getD i 0)
def strCh (i : Nat) (k : Int32) : Int32 := (sByt.getD i []).getD k.toNatClampNeg 0
theorem v_ldcS {X : CT} {cc : ByteArray} {d : Nat} {r : Nat → Int32} {g : Nat → Nat → Int32} {u : Nat → Int64} {h : Nat → Nat → Int64} {lv : List (Nat × Value)} {st : List Value} {pc index : Nat} (hX : CX X RX4 cc d) (i : Nat) (hi : i < 12) (he : sEnt.getD i 0 = index) (hdg : decode cc pc = .ok (.ldc index, 2)) (n : Nat) (hn : pc + 2 = n) (k : VC X r g u h lv (.ref (aX X (210 + i)) :: st) n) : VC X r g u h lv st pc := by
  obtain ⟨l, p, e, R, s, m, args, below, meth, c, nL, D, a, cells, slots, Q⟩ := X
  obtain ⟨hx, hb, hml, hown, hts, hK, hAP, hST, hd, hd2, hc, hs⟩ := hX
  subst hn
  subst he
  intro H locs ls hP hS hl
  exact va_ldcS hx hb hown (hST.2.2.2.2.2.2 i hi) hdg (k H locs ls hP hS hl)
theorem v_inc {X : CT} {own : String} {cc : ByteArray} {d : Nat} {r : Nat → Int32} {g : Nat → Nat → Int32} {u : Nat → Int64} {h : Nat → Nat → Int64} {lv : List (Nat × Value)} {st : List Value} {pc i : Nat} {z : Int} {x c : Int32} (hX : CX X own cc d) (hdg : decode cc pc = .ok (.iinc i z, 3)) (j : Nat) (hj : lv[j]? = some (i, .int x)) (hc : Int32.ofInt z = c) (hi2 : i < nX X) (n : Nat) (hn : pc + 3 = n) (lv' : List (Nat × Value)) (hlv : (i, Value.int (x + c)) :: rmv lv i = lv') (k : VC X r g u h lv' st n) : VC X r g u h lv st pc :=
  v_iinc hX hdg j hj (by rw [hc]) hi2 n hn lv' hlv k

/-! the JDK's own methods over the claim's String constants -/
section STRS
variable {X : CT} {own : String} {cc : ByteArray} {d : Nat} {r : Nat → Int32} {g : Nat → Nat → Int32} {u : Nat → Int64} {h : Nat → Nat → Int64} {lv : List (Nat × Value)} {st : List Value} {pc idx : Nat}
theorem gsCS (hX : CX X own cc d) (hw : Cond.fieldLink own idx "java/lang/String" "COMPACT_STRINGS" "Z" ∈ AL) (hdg : decode cc pc = .ok (.getstatic idx, 3)) (n : Nat) (hn : pc + 3 = n) (k : VC X r g u h lv (.int 1 :: st) n) : VC X r g u h lv st pc := by
  obtain ⟨l, p, e, R, s, m, args, below, meth, c, nL, D, a, cells, slots, Q⟩ := X
  obtain ⟨hx, hb, hml, hown, hts, hK, hAP, hST, hd, hd2, hc, hs⟩ := hX
  subst hn
  intro H locs ls hP hS hl
  exact va_gets hx hb hST.2.2.2.1 hS hown (hts _ hw) (fun _ h9 => h9) hdg (k H locs ls hP hS hl)
theorem gsFM (hX : CX X own cc d) (hw : Cond.fieldLink own idx "jdk/internal/util/Preconditions" "SIOOBE_FORMATTER" "Ljava/util/function/BiFunction;" ∈ AL) (hdg : decode cc pc = .ok (.getstatic idx, 3)) (n : Nat) (hn : pc + 3 = n) (k : ∀ w : Value, w.category = 1 → VC X r g u h lv (w :: st) n) : VC X r g u h lv st pc := by
  obtain ⟨l, p, e, R, s, m, args, below, meth, c, nL, D, a, cells, slots, Q⟩ := X
  obtain ⟨hx, hb, hml, hown, hts, hK, hAP, hST, hd, hd2, hc, hs⟩ := hX
  subst hn
  intro H locs ls hP hS hl
  rcases hST.2.2.2.2.1 with hZ | ⟨t, hZ⟩
  · exact va_gets hx hb hZ hS hown (hts _ hw) (fun _ h9 => h9) hdg (k .null rfl H locs ls hP hS hl)
  · exact va_gets hx hb hZ hS hown (hts _ hw) (fun _ h9 => h9) hdg (k (.ref t) rfl H locs ls hP hS hl)
theorem gfSv (hX : CX X own cc d) (i : Nat) (hi : i < 12) (hw : Cond.fieldLink own idx "java/lang/String" "value" "[B" ∈ AL) (hdg : decode cc pc = .ok (.getfield idx, 3)) (n : Nat) (hn : pc + 3 = n) (k : VC X r g u h lv (.ref (aX X (230 + i)) :: st) n) : VC X r g u h lv (.ref (aX X (210 + i)) :: st) pc := by
  obtain ⟨l, p, e, R, s, m, args, below, meth, c, nL, D, a, cells, slots, Q⟩ := X
  obtain ⟨hx, hb, hml, hown, hts, hK, hAP, hST, hd, hd2, hc, hs⟩ := hX
  subst hn
  intro H locs ls hP hS hl
  exact vk_getf hx hb (hST.2.2.2.2.2.1.1 i hi).2.2.1 hS hown (hts _ hw) (fun _ h9 => h9) hdg (k H locs ls hP hS hl)
theorem gfSc (hX : CX X own cc d) (i : Nat) (hi : i < 12) (hw : Cond.fieldLink own idx "java/lang/String" "coder" "B" ∈ AL) (hdg : decode cc pc = .ok (.getfield idx, 3)) (n : Nat) (hn : pc + 3 = n) (k : VC X r g u h lv (.int 0 :: st) n) : VC X r g u h lv (.ref (aX X (210 + i)) :: st) pc := by
  obtain ⟨l, p, e, R, s, m, args, below, meth, c, nL, D, a, cells, slots, Q⟩ := X
  obtain ⟨hx, hb, hml, hown, hts, hK, hAP, hST, hd, hd2, hc, hs⟩ := hX
  subst hn
  intro H locs ls hP hS hl
  exact vk_getf hx hb (hST.2.2.2.2.2.1.1 i hi).2.1 hS hown (hts _ hw) (fun _ h9 => h9) hdg (k H locs ls hP hS hl)
theorem lenS (hX : CX X own cc d) (i : Nat) (hi : i < 12) (hdg : decode cc pc = .ok (.arraylength, 1)) (n : Nat) (hn : pc + 1 = n) (k : VC X r g u h lv (.int (strLen i) :: st) n) : VC X r g u h lv (.ref (aX X (230 + i)) :: st) pc := by
  obtain ⟨l, p, e, R, s, m, args, below, meth, c, nL, D, a, cells, slots, Q⟩ := X
  obtain ⟨hx, hb, hml, hown, hts, hK, hAP, hST, hd, hd2, hc, hs⟩ := hX
  subst hn
  intro H locs ls hP hS hl
  exact va_tlen hx hb (hST.2.2.2.2.2.1.1 i hi).2.2.2 hS rfl hdg (k H locs ls hP hS hl)
theorem balS {j : Int32} (hX : CX X own cc d) (i : Nat) (hi : i < 12) (hj : ix j (sLen.getD i 0) = true) (hdg : decode cc pc = .ok (.baload, 1)) (n : Nat) (hn : pc + 1 = n) (k : VC X r g u h lv (.int (strCh i j) :: st) n) : VC X r g u h lv (.int j :: .ref (aX X (230 + i)) :: st) pc := by
  obtain ⟨l, p, e, R, s, m, args, below, meth, c, nL, D, a, cells, slots, Q⟩ := X
  obtain ⟨hx, hb, hml, hown, hts, hK, hAP, hST, hd, hd2, hc, hs⟩ := hX
  subst hn
  intro H locs ls hP hS hl
  exact va_tb hx hb (hST.2.2.2.2.2.1.1 i hi).2.2.2 hS (ix_in hj) rfl hdg (k H locs ls hP hS hl)
theorem v_i2c {x : Int32} (hX : CX X own cc d) (hdg : decode cc pc = .ok (.i2c, 1)) (v : Int32) (hv : (x.toUInt32 % 65536).toInt32 = v) (n : Nat) (hn : pc + 1 = n) (k : VC X r g u h lv (.int v :: st) n) : VC X r g u h lv (.int x :: st) pc := by
  obtain ⟨l, p, e, R, s, m, args, below, meth, c, nL, D, a, cells, slots, Q⟩ := X
  obtain ⟨hx, hb, hml, hown, hts, hK, hAP, hST, hd, hd2, hc, hs⟩ := hX
  subst hn
  intro H locs ls hP hS hl
  exact lv_i2c hx hb hdg hv (k H locs ls hP hS hl)
theorem cvs_i {st0 : List Value} {n0 d0 np : Nat} {y : MethodName} {b : ByteArray} {ret : Option FieldType} {As : (Nat → Nat) → List Value} {v : Int32} (i : Nat) (hi : i < 12) (hX : CX X own cc d) (hM : MAi y b n0 ret d0 (fun a => .ref (a (210 + i)) :: As a) r g u h v r g u h) (hwv : WV "java/lang/String" y b n0 ret np) (hl : Cond.methodLink own idx y ∈ AL) (hd0 : d0 + 1 ≤ d) (hn0 : n0 ≤ 45) (hAs : ∀ a, (As a).length = np) (st : List Value) (hst : st0 = (As (aX X)).reverse ++ .ref (aX X (210 + i)) :: st) (hcat : (st.map fun v => v.category).sum ≤ 8) (hdg : decode cc pc = .ok (.invokevirtual idx, 3)) (n : Nat) (hn : pc + 3 = n) (k : VC X r g u h lv (.int v :: st) n) : VC X r g u h lv st0 pc := by
  obtain ⟨l, p, e, R, s, m, args, below, meth, c, nL, D, a, cells, slots, Q⟩ := X
  obtain ⟨hx, hb, hml, hown, hts, hK, hAP, hST, hd, hd2, hc, hs⟩ := hX
  subst hn
  intro H locs ls hP hS hl2
  refine va_calli (va_runV (As := As a) (rest := st) ⟨hx, hb, hml, hown, hts⟩ (hM l D a H.size) (cwV np hts (gi_V hl hwv) rfl rfl rfl hwv.2 ⟨by show d0 + 1 ≤ R.frames; omega, by show 8 + (n0 + 11) + 64 * d0 ≤ R.locals; omega⟩) ⟨PRE_blind, vk_recv hST.2.2.2.2.2.1 hi hS, fun U hU hW => PRE_go hU hW hP hK hAP hST hS⟩ rfl (hAs a) hl2.1 hst (lv_room hcat) hdg ⟨by omega, by omega⟩) hS (fun q _ hq => FR_mono hS.1 q hq) (fun q hq => FR_mono hS.1 q hq) (fun x w t H1 locs1 ht hvm hw hB hz hk hS1 => ?_)
  subst hw
  exact k H1 locs1 ls (by rw [← ht]; exact hB) hS1 hl2
end STRS
theorem strCh_c : ∀ i, i < 12 → ∀ j, j < sLen.getD i 0 → (((sByt.getD i []).getD j 0 &&& 255).toUInt32 % 65536).toInt32 = (sByt.getD i []).getD j 0 ∧ narrow .char (.int ((sByt.getD i []).getD j 0)) = .int ((sByt.getD i []).getD j 0) := by decide +kernel
theorem ix_nat {j : Int32} {n : Nat} (h : ix j n = true) : j.toNatClampNeg < n ∧ ¬ j < 0 := by
  have := ix_in h
  unfold vp_in at this
  exact ⟨by omega, fun q => this (Or.inl q)⟩
set_option maxRecDepth 100000 in
set_option maxHeartbeats 4000000 in
theorem ctJ3_ci (r : Nat → Int32) (g : Nat → Nat → Int32) (u : Nat → Int64) (h : Nat → Nat → Int64) (i n : Int32) (w : Value) (hw : w.category = 1) (h1 : ¬ i < 0) (h2 : i < n) : MAi yJ3_checkIndex_8e157 cJ3_checkIndex_8e157 3 (some .int) 0 (fun _ => [.int i, .int n, w]) r g u h i r g u h := by
  refine mi_i (by decide +kernel) (fun a => by cases w <;> first | exact Nat.le_of_ble_eq_true rfl | cases hw) (fun X hX hn hR => ?_)
  replace hX : CX X RJ3 cJ3_checkIndex_8e157 0 := hX
  show VC X r g u h [(0, .int i), (1, .int n), (2, w)] [] 0
  refine v_iload_n hX dJ3_checkIndex_8e157_0 rfl 0 rfl 1 rfl ?_
  refine v_if_lt hX dJ3_checkIndex_8e157_1 9 rfl 4 rfl (fun q => absurd q h1) (fun _ => ?_)
  refine v_iload_n hX dJ3_checkIndex_8e157_4 rfl 0 rfl 5 rfl ?_
  refine v_iload_n hX dJ3_checkIndex_8e157_5 rfl 1 rfl 6 rfl ?_
  refine v_icmp_lt hX dJ3_checkIndex_8e157_6 16 rfl 9 rfl (fun _ => ?_) (fun q => absurd h2 q)
  refine v_iload_n hX dJ3_checkIndex_8e157_16 rfl 0 rfl 17 rfl ?_
  exact hR _ _ dJ3_checkIndex_8e157_17 rfl
theorem wvJ3_ci : WS yJ3_checkIndex_8e157 cJ3_checkIndex_8e157 3 (some .int) 3 := ⟨⟨q_223, q_224, q_225⟩, by decide +kernel⟩
set_option maxRecDepth 100000 in
set_option maxHeartbeats 4000000 in
theorem ctJ0_ci (r : Nat → Int32) (g : Nat → Nat → Int32) (u : Nat → Int64) (h : Nat → Nat → Int64) (i n : Int32) (h1 : ¬ i < 0) (h2 : i < n) : MAv yJ0_checkIndex_df160 cJ0_checkIndex_df160 2 none 1 (fun _ => [.int i, .int n]) r g u h r g u h := by
  refine mi_v (by decide +kernel) (fun a => Nat.le_of_ble_eq_true rfl) (fun X hX hn hR => ?_)
  replace hX : CX X RJ0 cJ0_checkIndex_df160 1 := hX
  show VC X r g u h [(0, .int i), (1, .int n)] [] 0
  refine v_iload_n hX dJ0_checkIndex_df160_0 rfl 0 rfl 1 rfl ?_
  refine v_iload_n hX dJ0_checkIndex_df160_1 rfl 1 rfl 2 rfl ?_
  refine gsFM hX q_221 dJ0_checkIndex_df160_2 5 rfl (fun w hw => ?_)
  refine cs_i hX (ctJ3_ci r g u h i n w hw h1 h2) wvJ3_ci q_222 (Nat.le_of_ble_eq_true rfl) (Nat.le_of_ble_eq_true rfl) (fun _ => rfl) [] rfl (Nat.le_of_ble_eq_true rfl) dJ0_checkIndex_df160_5 8 rfl ?_
  refine v_pop hX dJ0_checkIndex_df160_8 rfl 9 rfl ?_
  exact hR _ _ dJ0_checkIndex_df160_9
theorem wvJ0_ci : WS yJ0_checkIndex_df160 cJ0_checkIndex_df160 2 none 2 := ⟨⟨q_219, q_197, q_220⟩, by decide +kernel⟩
set_option maxRecDepth 100000 in
set_option maxHeartbeats 4000000 in
theorem ctJ0_coder (r : Nat → Int32) (g : Nat → Nat → Int32) (u : Nat → Int64) (h : Nat → Nat → Int64) (i : Nat) (hi : i < 12) : MAi yJ0_coder_7d493 cJ0_coder_7d493 1 (some .byte) 0 (fun a => [.ref (a (210 + i))]) r g u h 0 r g u h := by
  refine mi_i (by decide +kernel) (fun a => Nat.le_of_ble_eq_true rfl) (fun X hX hn hR => ?_)
  replace hX : CX X RJ0 cJ0_coder_7d493 0 := hX
  show VC X r g u h [(0, .ref (aX X (210 + i)))] [] 0
  refine gsCS hX q_204 dJ0_coder_7d493_0 3 rfl ?_
  refine v_if_eq hX dJ0_coder_7d493_3 13 rfl 6 rfl (fun q => absurd q (by decide)) (fun _ => ?_)
  refine v_aload_n hX dJ0_coder_7d493_6 rfl 0 rfl 7 rfl ?_
  refine gfSc hX i hi q_205 dJ0_coder_7d493_7 10 rfl ?_
  refine v_goto hX dJ0_coder_7d493_10 14 rfl ?_
  exact hR _ _ dJ0_coder_7d493_14 rfl
theorem wvJ0_coder : WV "java/lang/String" yJ0_coder_7d493 cJ0_coder_7d493 1 (some .byte) 0 := ⟨⟨q_201, q_202, q_197, q_203⟩, by decide +kernel⟩
set_option maxRecDepth 100000 in
set_option maxHeartbeats 4000000 in
theorem ctJ0_isLatin1 (r : Nat → Int32) (g : Nat → Nat → Int32) (u : Nat → Int64) (h : Nat → Nat → Int64) (i : Nat) (hi : i < 12) : MAi yJ0_isLatin1_aae02 cJ0_isLatin1_aae02 1 (some .boolean) 0 (fun a => [.ref (a (210 + i))]) r g u h 1 r g u h := by
  refine mi_i (by decide +kernel) (fun a => Nat.le_of_ble_eq_true rfl) (fun X hX hn hR => ?_)
  replace hX : CX X RJ0 cJ0_isLatin1_aae02 0 := hX
  show VC X r g u h [(0, .ref (aX X (210 + i)))] [] 0
  refine gsCS hX q_204 dJ0_isLatin1_aae02_0 3 rfl ?_
  refine v_if_eq hX dJ0_isLatin1_aae02_3 17 rfl 6 rfl (fun q => absurd q (by decide)) (fun _ => ?_)
  refine v_aload_n hX dJ0_isLatin1_aae02_6 rfl 0 rfl 7 rfl ?_
  refine gfSc hX i hi q_205 dJ0_isLatin1_aae02_7 10 rfl ?_
  refine v_if_ne hX dJ0_isLatin1_aae02_10 17 rfl 13 rfl (fun q => absurd rfl q) (fun _ => ?_)
  refine v_iconst (v := (1 : Int32)) hX dJ0_isLatin1_aae02_13 (by decide) 14 rfl ?_
  refine v_goto hX dJ0_isLatin1_aae02_14 18 rfl ?_
  exact hR _ _ dJ0_isLatin1_aae02_18 (bz_nar (v := 1) (by decide))
theorem wvJ0_isLatin1 : WV "java/lang/String" yJ0_isLatin1_aae02 cJ0_isLatin1_aae02 1 (some .boolean) 0 := ⟨⟨q_211, q_212, q_197, q_213⟩, by decide +kernel⟩
theorem strLen_lt {i : Nat} (hi : i < 12) {j : Int32} (hj : ix j (sLen.getD i 0) = true) : j < strLen i := by
  have h1 := of_decide_eq_true hj
  have h2 : ∀ i, i < 12 → (strLen i).toInt = (sLen.getD i 0 : Nat) := by decide +kernel
  rw [Int32.lt_iff_toInt_lt, h2 i hi]
  exact h1.2
set_option maxRecDepth 100000 in
set_option maxHeartbeats 4000000 in
theorem ctJ1_charAt (r : Nat → Int32) (g : Nat → Nat → Int32) (u : Nat → Int64) (h : Nat → Nat → Int64) (i : Nat) (hi : i < 12) (j : Int32) (hj : ix j (sLen.getD i 0) = true) : MAi yJ1_charAt_3b067 cJ1_charAt_3b067 2 (some .char) 2 (fun a => [.ref (a (230 + i)), .int j]) r g u h (strCh i j) r g u h := by
  refine mi_i (by decide +kernel) (fun a => Nat.le_of_ble_eq_true rfl) (fun X hX hn hR => ?_)
  replace hX : CX X RJ1 cJ1_charAt_3b067 2 := hX
  show VC X r g u h [(0, .ref (aX X (230 + i))), (1, .int j)] [] 0
  refine v_iload_n hX dJ1_charAt_3b067_0 rfl 1 rfl 1 rfl ?_
  refine v_aload_n hX dJ1_charAt_3b067_1 rfl 0 rfl 2 rfl ?_
  refine lenS hX i hi dJ1_charAt_3b067_2 3 rfl ?_
  refine cs_v hX (ctJ0_ci r g u h j (strLen i) (ix_nat hj).2 (strLen_lt hi hj)) wvJ0_ci q_218 (Nat.le_of_ble_eq_true rfl) (Nat.le_of_ble_eq_true rfl) (fun _ => rfl) [] rfl (Nat.le_of_ble_eq_true rfl) dJ1_charAt_3b067_3 6 rfl ?_
  refine v_aload_n hX dJ1_charAt_3b067_6 rfl 0 rfl 7 rfl ?_
  refine v_iload_n hX dJ1_charAt_3b067_7 rfl 1 rfl 8 rfl ?_
  refine balS hX i hi hj dJ1_charAt_3b067_8 9 rfl ?_
  refine v_sipush (v := (255 : Int32)) hX dJ1_charAt_3b067_9 (by decide) 12 rfl ?_
  refine v_iand hX dJ1_charAt_3b067_12 13 rfl ?_
  refine v_i2c hX dJ1_charAt_3b067_13 (strCh i j) (strCh_c i hi _ (ix_nat hj).1).1 14 rfl ?_
  exact hR _ _ dJ1_charAt_3b067_14 (strCh_c i hi _ (ix_nat hj).1).2
theorem wvJ1_charAt : WS yJ1_charAt_3b067 cJ1_charAt_3b067 2 (some .char) 2 := ⟨⟨q_215, q_216, q_217⟩, by decide +kernel⟩
set_option maxRecDepth 100000 in
set_option maxHeartbeats 4000000 in
theorem ctJ0_charAt (r : Nat → Int32) (g : Nat → Nat → Int32) (u : Nat → Int64) (h : Nat → Nat → Int64) (i : Nat) (hi : i < 12) (j : Int32) (hj : ix j (sLen.getD i 0) = true) : MAi yJ0_charAt_5068e cJ0_charAt_5068e 2 (some .char) 3 (fun a => [.ref (a (210 + i)), .int j]) r g u h (strCh i j) r g u h := by
  refine mi_i (by decide +kernel) (fun a => Nat.le_of_ble_eq_true rfl) (fun X hX hn hR => ?_)
  replace hX : CX X RJ0 cJ0_charAt_5068e 3 := hX
  show VC X r g u h [(0, .ref (aX X (210 + i))), (1, .int j)] [] 0
  refine v_aload_n hX dJ0_charAt_5068e_0 rfl 0 rfl 1 rfl ?_
  refine cvs_i i hi hX (ctJ0_isLatin1 r g u h i hi) wvJ0_isLatin1 q_210 (Nat.le_of_ble_eq_true rfl) (Nat.le_of_ble_eq_true rfl) (fun _ => rfl) [] rfl (Nat.le_of_ble_eq_true rfl) dJ0_charAt_5068e_1 4 rfl ?_
  refine v_if_eq hX dJ0_charAt_5068e_4 16 rfl 7 rfl (fun q => absurd q (by decide)) (fun _ => ?_)
  refine v_aload_n hX dJ0_charAt_5068e_7 rfl 0 rfl 8 rfl ?_
  refine gfSv hX i hi q_199 dJ0_charAt_5068e_8 11 rfl ?_
  refine v_iload_n hX dJ0_charAt_5068e_11 rfl 1 rfl 12 rfl ?_
  refine cs_i hX (ctJ1_charAt r g u h i hi j hj) wvJ1_charAt q_214 (Nat.le_of_ble_eq_true rfl) (Nat.le_of_ble_eq_true rfl) (fun _ => rfl) [] rfl (Nat.le_of_ble_eq_true rfl) dJ0_charAt_5068e_12 15 rfl ?_
  exact hR _ _ dJ0_charAt_5068e_15 (strCh_c i hi _ (ix_nat hj).1).2
set_option maxRecDepth 100000 in
set_option maxHeartbeats 4000000 in
theorem ctJ0_length (r : Nat → Int32) (g : Nat → Nat → Int32) (u : Nat → Int64) (h : Nat → Nat → Int64) (i : Nat) (hi : i < 12) : MAi yJ0_length_8abf5 cJ0_length_8abf5 1 (some .int) 1 (fun a => [.ref (a (210 + i))]) r g u h (strLen i) r g u h := by
  refine mi_i (by decide +kernel) (fun a => Nat.le_of_ble_eq_true rfl) (fun X hX hn hR => ?_)
  replace hX : CX X RJ0 cJ0_length_8abf5 1 := hX
  show VC X r g u h [(0, .ref (aX X (210 + i)))] [] 0
  refine v_aload_n hX dJ0_length_8abf5_0 rfl 0 rfl 1 rfl ?_
  refine gfSv hX i hi q_199 dJ0_length_8abf5_1 4 rfl ?_
  refine lenS hX i hi dJ0_length_8abf5_4 5 rfl ?_
  refine v_aload_n hX dJ0_length_8abf5_5 rfl 0 rfl 6 rfl ?_
  refine cvs_i i hi hX (ctJ0_coder r g u h i hi) wvJ0_coder q_200 (Nat.le_of_ble_eq_true rfl) (Nat.le_of_ble_eq_true rfl) (fun _ => rfl) [.int (strLen i)] rfl (Nat.le_of_ble_eq_true rfl) dJ0_length_8abf5_6 9 rfl ?_
  refine v_ishr hX dJ0_length_8abf5_9 10 rfl ?_
  rw [show strLen i >>> ((0 : Int32) &&& 31) = strLen i from sb_shr0 _]
  exact hR _ _ dJ0_length_8abf5_10 rfl
theorem wvJ0_length : WV "java/lang/String" yJ0_length_8abf5 cJ0_length_8abf5 1 (some .int) 0 := ⟨⟨q_195, q_196, q_197, q_198⟩, by decide +kernel⟩
theorem wvJ0_charAt : WV "java/lang/String" yJ0_charAt_5068e cJ0_charAt_5068e 2 (some .char) 1 := ⟨⟨q_207, q_208, q_197, q_209⟩, by decide +kernel⟩

theorem v_slen {X : CT} {own : String} {cc : ByteArray} {d : Nat} {r : Nat → Int32} {g : Nat → Nat → Int32} {u : Nat → Int64} {h : Nat → Nat → Int64} {lv : List (Nat × Value)} {st0 : List Value} {pc idx : Nat} (hX : CX X own cc d) (i : Nat) (hi : i < 12) (hd0 : 5 ≤ d) (hl : Cond.methodLink own idx yJ0_length_8abf5 ∈ AL) (st : List Value) (hst : st0 = .ref (aX X (210 + i)) :: st) (hcat : (st.map fun v => v.category).sum ≤ 8) (hdg : decode cc pc = .ok (.invokevirtual idx, 3)) (n : Nat) (hn : pc + 3 = n) (k : VC X r g u h lv (.int (strLen i) :: st) n) : VC X r g u h lv st0 pc :=
  cvs_i i hi hX (ctJ0_length r g u h i hi) wvJ0_length hl (by omega) (by decide) (fun _ => rfl) st hst hcat hdg n hn k
theorem v_scharAt {X : CT} {own : String} {cc : ByteArray} {d : Nat} {r : Nat → Int32} {g : Nat → Nat → Int32} {u : Nat → Int64} {h : Nat → Nat → Int64} {lv : List (Nat × Value)} {st0 : List Value} {pc idx : Nat} {j : Int32} (hX : CX X own cc d) (i : Nat) (hi : i < 12) (hj : ix j (sLen.getD i 0) = true) (hd0 : 5 ≤ d) (hl : Cond.methodLink own idx yJ0_charAt_5068e ∈ AL) (st : List Value) (hst : st0 = .int j :: .ref (aX X (210 + i)) :: st) (hcat : (st.map fun v => v.category).sum ≤ 8) (hdg : decode cc pc = .ok (.invokevirtual idx, 3)) (n : Nat) (hn : pc + 3 = n) (k : VC X r g u h lv (.int (strCh i j) :: st) n) : VC X r g u h lv st0 pc :=
  cvs_i i hi hX (ctJ0_charAt r g u h i hi j hj) wvJ0_charAt hl (by omega) (by decide) (fun _ => rfl) st hst hcat hdg n hn k
