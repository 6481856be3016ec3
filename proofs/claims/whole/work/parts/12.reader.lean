set_option maxRecDepth 100000 in
set_option maxHeartbeats 4000000 in
theorem c4_append (r : Nat → Int32) (g : Nat → Nat → Int32) (u : Nat → Int64) (h : Nat → Nat → Int64) (p1 : Int32) {res : Int32 × (Nat → Int32)} (hf : f4_append (r 15) (g 33) p1 = some res) : MAv yX4_append cX4_append 2 none 0 (fun a => [.ref (a 32), .int p1]) r g u h (lkp r [(15, res.1)]) (lkp g [(33, res.2)]) u h := by
  refine mi_v (by decide +kernel) (fun a => Nat.le_of_ble_eq_true rfl) (fun X hX hn hR => ?_)
  replace hR : ∀ q : Int32 × (Nat → Int32), some q = some res → ∀ lv pc, decode cX4_append pc = .ok (.return_, 1) → VC X (lkp r [(15, q.1)]) (lkp g [(33, q.2)]) u h lv [] pc := fun q hq => by cases hq; exact hR
  replace hX : CX X RX4 cX4_append 0 := hX
  refine v_opr [15] [(15, r 15)] rfl ?_
  refine v_opg [33] [(33, g 33)] rfl ?_
  show VC X (lkp r [(15, r 15)]) (lkp g [(33, g 33)]) u h [(0, .ref (aX X 32)), (1, .int p1)] [] 0
  rw [f4_append] at hf
  refine v_aload_n hX dX4_append_0 rfl 0 rfl 1 rfl ?_
  refine gf_32_1 hX q_143 dX4_append_1 ((r 15)) rfl 4 rfl ?_
  refine v_sipush (v := (200 : Int32)) hX dX4_append_4 (by decide) 7 rfl ?_
  refine v_icmp_ge hX dX4_append_7 27 rfl 10 rfl (fun h2 => ?_) (fun h2 => ?_)
  · replace hf := it_p h2 hf
    exact hR _ hf _ _ dX4_append_27
  · replace hf := it_n h2 hf
    refine v_aload_n hX dX4_append_10 rfl 0 rfl 11 rfl ?_
    refine gf_32_0 hX q_76 dX4_append_11 14 rfl ?_
    refine v_aload_n hX dX4_append_14 rfl 0 rfl 15 rfl ?_
    refine v_dup hX dX4_append_15 rfl 16 rfl ?_
    refine gf_32_1 hX q_143 dX4_append_16 ((r 15)) rfl 19 rfl ?_
    refine v_dup_x1 hX dX4_append_19 rfl rfl 20 rfl ?_
    refine v_iconst (v := (1 : Int32)) hX dX4_append_20 (by decide) 21 rfl ?_
    refine v_iadd hX dX4_append_21 22 rfl ?_
    refine pf_32_1 hX q_143 dX4_append_22 25 rfl [(15, ((r 15) + (1 : Int32)))] rfl ?_
    refine v_iload_n hX dX4_append_25 rfl 1 rfl 26 rfl ?_
    obtain ⟨hi1, hf⟩ := gd_e hf
    refine as_33 hX hi1 dX4_append_26 27 rfl (g 33) rfl [(33, (upd (g 33) (r 15).toNatClampNeg p1))] rfl ?_
    exact hR _ hf _ _ dX4_append_27
set_option maxRecDepth 100000 in
set_option maxHeartbeats 4000000 in
theorem c4_byteAt (r : Nat → Int32) (g : Nat → Nat → Int32) (u : Nat → Int64) (h : Nat → Nat → Int64) (p1 : Int32) {res : Int32} (hf : f4_byteAt (r 15) (g 33) p1 = some res) : MAi yX4_byteAt cX4_byteAt 2 (some .int) 0 (fun a => [.ref (a 32), .int p1]) r g u h res r g u h := by
  refine mi_i (by decide +kernel) (fun a => Nat.le_of_ble_eq_true rfl) (fun X hX hn hR => ?_)
  replace hR : ∀ q : Int32, some q = some res → ∀ lv pc, decode cX4_byteAt pc = .ok (.ireturn, 1) → narrow .int (.int q) = .int q → VC X r g u h lv [.int q] pc := fun q hq => by cases hq; exact hR
  replace hX : CX X RX4 cX4_byteAt 0 := hX
  show VC X r g u h [(0, .ref (aX X 32)), (1, .int p1)] [] 0
  rw [f4_byteAt] at hf
  refine v_iload_n hX dX4_byteAt_0 rfl 1 rfl 1 rfl ?_
  refine v_if_lt hX dX4_byteAt_1 28 rfl 4 rfl (fun h4 => ?_) (fun h4 => ?_)
  · replace hf := it_p h4 hf
    refine v_iconst (v := (-1 : Int32)) hX dX4_byteAt_28 (by decide) 29 rfl ?_
    exact hR _ hf _ _ dX4_byteAt_29 rfl
  · replace hf := it_n h4 hf
    refine v_iload_n hX dX4_byteAt_4 rfl 1 rfl 5 rfl ?_
    refine v_aload_n hX dX4_byteAt_5 rfl 0 rfl 6 rfl ?_
    refine gf_32_1 hX q_143 dX4_byteAt_6 ((r 15)) rfl 9 rfl ?_
    refine v_icmp_ge hX dX4_byteAt_9 28 rfl 12 rfl (fun h3 => ?_) (fun h3 => ?_)
    · replace hf := it_p h3 hf
      refine v_iconst (v := (-1 : Int32)) hX dX4_byteAt_28 (by decide) 29 rfl ?_
      exact hR _ hf _ _ dX4_byteAt_29 rfl
    · replace hf := it_n h3 hf
      refine v_iload_n hX dX4_byteAt_12 rfl 1 rfl 13 rfl ?_
      refine v_sipush (v := (200 : Int32)) hX dX4_byteAt_13 (by decide) 16 rfl ?_
      refine v_icmp_ge hX dX4_byteAt_16 28 rfl 19 rfl (fun h2 => ?_) (fun h2 => ?_)
      · replace hf := it_p h2 hf
        refine v_iconst (v := (-1 : Int32)) hX dX4_byteAt_28 (by decide) 29 rfl ?_
        exact hR _ hf _ _ dX4_byteAt_29 rfl
      · replace hf := it_n h2 hf
        refine v_aload_n hX dX4_byteAt_19 rfl 0 rfl 20 rfl ?_
        refine gf_32_0 hX q_76 dX4_byteAt_20 23 rfl ?_
        refine v_iload_n hX dX4_byteAt_23 rfl 1 rfl 24 rfl ?_
        obtain ⟨hi1, hf⟩ := gd_e hf
        refine al_33 hX hi1 dX4_byteAt_24 ((g 33) p1.toNatClampNeg) rfl 25 rfl ?_
        refine v_goto hX dX4_byteAt_25 29 rfl ?_
        exact hR _ hf _ _ dX4_byteAt_29 rfl
set_option maxRecDepth 100000 in
set_option maxHeartbeats 4000000 in
theorem c4_sortAt (r : Nat → Int32) (g : Nat → Nat → Int32) (u : Nat → Int64) (h : Nat → Nat → Int64) (p1 : Int32) {res : Int32} (hf : f4_sortAt (r 15) (g 33) p1 = some res) : MAi yX4_sortAt cX4_sortAt 3 (some .int) 1 (fun a => [.ref (a 32), .int p1]) r g u h res r g u h := by
  refine mi_i (by decide +kernel) (fun a => Nat.le_of_ble_eq_true rfl) (fun X hX hn hR => ?_)
  replace hR : ∀ q : Int32, some q = some res → ∀ lv pc, decode cX4_sortAt pc = .ok (.ireturn, 1) → narrow .int (.int q) = .int q → VC X r g u h lv [.int q] pc := fun q hq => by cases hq; exact hR
  replace hX : CX X RX4 cX4_sortAt 1 := hX
  show VC X r g u h [(0, .ref (aX X 32)), (1, .int p1)] [] 0
  rw [f4_sortAt] at hf
  refine v_aload_n hX dX4_sortAt_0 rfl 0 rfl 1 rfl ?_
  refine v_iload_n hX dX4_sortAt_1 rfl 1 rfl 2 rfl ?_
  obtain ⟨v1, hv1, hf⟩ := bn1_e hf
  refine cv_i hX (c4_byteAt r g u h _ hv1) wvX4_byteAt q_178 rc_32 (Nat.le_of_ble_eq_true rfl) (Nat.le_of_ble_eq_true rfl) (fun _ => rfl) [] rfl (Nat.le_of_ble_eq_true rfl) dX4_sortAt_2 5 rfl ?_
  refine v_istore_n hX dX4_sortAt_5 rfl (ltn hn (by decide)) 6 rfl [(2, .int v1), (0, .ref (aX X 32)), (1, .int p1)] rfl ?_
  refine v_iload_n hX dX4_sortAt_6 rfl 0 rfl 7 rfl ?_
  refine v_bipush (v := (97 : Int32)) hX dX4_sortAt_7 (by decide) 9 rfl ?_
  obtain ⟨J2, hJ2, hf⟩ := jn_x hf
  have HJ2 : J2 = some res → VC X r g u h [(2, .int v1)] [] 20 := by
    intro hf
    rw [hJ2] at hf
    refine v_iload_n hX dX4_sortAt_20 rfl 0 rfl 21 rfl ?_
    refine v_bipush (v := (48 : Int32)) hX dX4_sortAt_21 (by decide) 23 rfl ?_
    refine v_icmp_lt hX dX4_sortAt_23 36 rfl 26 rfl (fun h4 => ?_) (fun h4 => ?_)
    · replace hf := it_p h4 hf
      refine v_iconst (v := (3 : Int32)) hX dX4_sortAt_36 (by decide) 37 rfl ?_
      exact hR _ hf _ _ dX4_sortAt_37 rfl
    · replace hf := it_n h4 hf
      refine v_iload_n hX dX4_sortAt_26 rfl 0 rfl 27 rfl ?_
      refine v_bipush (v := (57 : Int32)) hX dX4_sortAt_27 (by decide) 29 rfl ?_
      refine v_icmp_gt hX dX4_sortAt_29 36 rfl 32 rfl (fun h3 => ?_) (fun h3 => ?_)
      · replace hf := it_p h3 hf
        refine v_iconst (v := (3 : Int32)) hX dX4_sortAt_36 (by decide) 37 rfl ?_
        exact hR _ hf _ _ dX4_sortAt_37 rfl
      · replace hf := it_n h3 hf
        refine v_iconst (v := (2 : Int32)) hX dX4_sortAt_32 (by decide) 33 rfl ?_
        refine v_goto hX dX4_sortAt_33 37 rfl ?_
        exact hR _ hf _ _ dX4_sortAt_37 rfl
  refine v_icmp_lt hX dX4_sortAt_9 20 rfl 12 rfl (fun h6 => ?_) (fun h6 => ?_)
  · replace hf := it_p h6 hf
    refine v_sub [(2, .int v1)] (sbc 0 rfl sbn) ?_
    exact HJ2  hf
  · replace hf := it_n h6 hf
    refine v_iload_n hX dX4_sortAt_12 rfl 0 rfl 13 rfl ?_
    refine v_bipush (v := (122 : Int32)) hX dX4_sortAt_13 (by decide) 15 rfl ?_
    refine v_icmp_gt hX dX4_sortAt_15 20 rfl 18 rfl (fun h5 => ?_) (fun h5 => ?_)
    · replace hf := it_p h5 hf
      refine v_sub [(2, .int v1)] (sbc 0 rfl sbn) ?_
      exact HJ2  hf
    · replace hf := it_n h5 hf
      refine v_iconst (v := (1 : Int32)) hX dX4_sortAt_18 (by decide) 19 rfl ?_
      exact hR _ hf _ _ dX4_sortAt_19 rfl
set_option maxRecDepth 100000 in
set_option maxHeartbeats 4000000 in
theorem c4_isName (r : Nat → Int32) (g : Nat → Nat → Int32) (u : Nat → Int64) (h : Nat → Nat → Int64) (p1 : Int32) (p2 : Int32) (i : Nat) (hi : i < 12) {res : Int32} (hf : f4_isName (r 15) (g 33) p1 p2 i = some res) : MAi yX4_isName cX4_isName 5 (some .boolean) 5 (fun a => [.ref (a 32), .int p1, .int p2, .ref (a (210 + i))]) r g u h res r g u h := by
  refine mi_i (by decide +kernel) (fun a => Nat.le_of_ble_eq_true rfl) (fun X hX hn hR => ?_)
  replace hR : ∀ q : Int32, some q = some res → ∀ lv pc, decode cX4_isName pc = .ok (.ireturn, 1) → narrow .boolean (.int q) = .int q → VC X r g u h lv [.int q] pc := fun q hq => by cases hq; exact hR
  replace hX : CX X RX4 cX4_isName 5 := hX
  show VC X r g u h [(0, .ref (aX X 32)), (1, .int p1), (2, .int p2), (3, .ref (aX X (210 + i)))] [] 0
  rw [f4_isName] at hf
  refine v_iload_n hX dX4_isName_0 rfl 2 rfl 1 rfl ?_
  refine v_iload_n hX dX4_isName_1 rfl 1 rfl 2 rfl ?_
  refine v_isub hX dX4_isName_2 3 rfl ?_
  refine v_aload_n hX dX4_isName_3 rfl 3 rfl 4 rfl ?_
  refine v_slen hX i hi (Nat.le_of_ble_eq_true rfl) q_194 [.int (p2 - p1)] rfl (Nat.le_of_ble_eq_true rfl) dX4_isName_4 7 rfl ?_
  refine v_icmp_eq hX dX4_isName_7 12 rfl 10 rfl (fun h8 => ?_) (fun h8 => ?_)
  · replace hf := it_p h8 hf
    refine v_iconst (v := (0 : Int32)) hX dX4_isName_12 (by decide) 13 rfl ?_
    refine v_istore hX dX4_isName_13 (ltn hn (by decide)) 15 rfl [(4, .int (0 : Int32)), (0, .ref (aX X 32)), (1, .int p1), (2, .int p2), (3, .ref (aX X (210 + i)))] rfl ?_
    obtain ⟨K2, hK2, hf⟩ := jn_x hf
    have HK2 : ∀ (x1 : Int32), K2 x1 = some res → VC X r g u h [] [] 49 := by
      intro x1 hf
      rw [hK2] at hf
      refine v_iconst (v := (1 : Int32)) hX dX4_isName_49 (by decide) 50 rfl ?_
      exact hR _ hf _ _ dX4_isName_50 (bz_nar (v := (1 : Int32)) (by decide))
    have HLK2 : ∀ (n3 : Nat) (x1 : Int32), f4_isName_L15 (r 15) (g 33) p1 i n3 x1 K2 = some res → VC X r g u h [(0, .ref (aX X 32)), (1, .int p1), (3, .ref (aX X (210 + i))), (4, .int x1)] [] 15 := by
      intro n3
      induction n3 with
      | zero => intro x1 hf; exact no_s hf
      | succ n3 ih =>
        intro x1 hf
        rw [f4_isName_L15] at hf
        refine v_iload hX dX4_isName_15 3 rfl 17 rfl ?_
        refine v_aload_n hX dX4_isName_17 rfl 2 rfl 18 rfl ?_
        refine v_slen hX i hi (Nat.le_of_ble_eq_true rfl) q_194 [.int x1] rfl (Nat.le_of_ble_eq_true rfl) dX4_isName_18 21 rfl ?_
        refine v_icmp_ge hX dX4_isName_21 49 rfl 24 rfl (fun h7 => ?_) (fun h7 => ?_)
        · replace hf := it_p h7 hf
          refine v_sub [] sbn ?_
          exact HK2 _ hf
        · replace hf := it_n h7 hf
          refine v_aload_n hX dX4_isName_24 rfl 0 rfl 25 rfl ?_
          refine v_iload_n hX dX4_isName_25 rfl 1 rfl 26 rfl ?_
          refine v_iload hX dX4_isName_26 3 rfl 28 rfl ?_
          refine v_iadd hX dX4_isName_28 29 rfl ?_
          obtain ⟨v4, hv4, hf⟩ := bn1_e hf
          refine cv_i hX (c4_byteAt r g u h _ hv4) wvX4_byteAt q_178 rc_32 (Nat.le_of_ble_eq_true rfl) (Nat.le_of_ble_eq_true rfl) (fun _ => rfl) [] rfl (Nat.le_of_ble_eq_true rfl) dX4_isName_29 32 rfl ?_
          refine v_aload_n hX dX4_isName_32 rfl 2 rfl 33 rfl ?_
          refine v_iload hX dX4_isName_33 3 rfl 35 rfl ?_
          obtain ⟨hi5, hf⟩ := gd_e hf
          refine v_scharAt hX i hi hi5 (Nat.le_of_ble_eq_true rfl) q_206 [.int v4] rfl (Nat.le_of_ble_eq_true rfl) dX4_isName_35 38 rfl ?_
          refine v_icmp_eq hX dX4_isName_38 43 rfl 41 rfl (fun h6 => ?_) (fun h6 => ?_)
          · replace hf := it_p h6 hf
            refine v_inc (c := (1 : Int32)) hX dX4_isName_43 3 rfl (by decide) (ltn hn (by decide)) 46 rfl [(4, .int (x1 + (1 : Int32))), (0, .ref (aX X 32)), (1, .int p1), (3, .ref (aX X (210 + i)))] rfl ?_
            refine v_goto hX dX4_isName_46 15 rfl ?_
            refine v_sub [(0, .ref (aX X 32)), (1, .int p1), (3, .ref (aX X (210 + i))), (4, .int (x1 + (1 : Int32)))] (sbc 1 rfl (sbc 2 rfl (sbc 3 rfl (sbc 0 rfl sbn)))) ?_
            exact ih _ hf
          · replace hf := it_n h6 hf
            refine v_iconst (v := (0 : Int32)) hX dX4_isName_41 (by decide) 42 rfl ?_
            exact hR _ hf _ _ dX4_isName_42 (bz_nar (v := (0 : Int32)) (by decide))
    refine v_sub [(0, .ref (aX X 32)), (1, .int p1), (3, .ref (aX X (210 + i))), (4, .int (0 : Int32))] (sbc 1 rfl (sbc 2 rfl (sbc 4 rfl (sbc 0 rfl sbn)))) ?_
    exact HLK2 _ _ hf
  · replace hf := it_n h8 hf
    refine v_iconst (v := (0 : Int32)) hX dX4_isName_10 (by decide) 11 rfl ?_
    exact hR _ hf _ _ dX4_isName_11 (bz_nar (v := (0 : Int32)) (by decide))
set_option maxRecDepth 100000 in
set_option maxHeartbeats 4000000 in
theorem c4_nameToken (r : Nat → Int32) (g : Nat → Nat → Int32) (u : Nat → Int64) (h : Nat → Nat → Int64) (p1 : Int32) (p2 : Int32) {res : Int32} (hf : f4_nameToken (r 15) (g 33) p1 p2 = some res) : MAi yX4_nameToken cX4_nameToken 3 (some .int) 6 (fun a => [.ref (a 32), .int p1, .int p2]) r g u h res r g u h := by
  refine mi_i (by decide +kernel) (fun a => Nat.le_of_ble_eq_true rfl) (fun X hX hn hR => ?_)
  replace hR : ∀ q : Int32, some q = some res → ∀ lv pc, decode cX4_nameToken pc = .ok (.ireturn, 1) → narrow .int (.int q) = .int q → VC X r g u h lv [.int q] pc := fun q hq => by cases hq; exact hR
  replace hX : CX X RX4 cX4_nameToken 6 := hX
  show VC X r g u h [(0, .ref (aX X 32)), (1, .int p1), (2, .int p2)] [] 0
  rw [f4_nameToken] at hf
  refine v_aload_n hX dX4_nameToken_0 rfl 0 rfl 1 rfl ?_
  refine v_iload_n hX dX4_nameToken_1 rfl 1 rfl 2 rfl ?_
  refine v_iload_n hX dX4_nameToken_2 rfl 2 rfl 3 rfl ?_
  refine v_ldcS hX 0 (by decide) rfl dX4_nameToken_3 5 rfl ?_
  obtain ⟨v1, hv1, hf⟩ := bn1_e hf
  refine cv_i hX (c4_isName r g u h _ _ 0 (by decide) hv1) wvX4_isName q_190 rc_32 (Nat.le_of_ble_eq_true rfl) (Nat.le_of_ble_eq_true rfl) (fun _ => rfl) [] rfl (Nat.le_of_ble_eq_true rfl) dX4_nameToken_5 8 rfl ?_
  refine v_if_eq hX dX4_nameToken_8 15 rfl 11 rfl (fun h24 => ?_) (fun h24 => ?_)
  · replace hf := it_p h24 hf
    refine v_aload_n hX dX4_nameToken_15 rfl 0 rfl 16 rfl ?_
    refine v_iload_n hX dX4_nameToken_16 rfl 1 rfl 17 rfl ?_
    refine v_iload_n hX dX4_nameToken_17 rfl 2 rfl 18 rfl ?_
    refine v_ldcS hX 1 (by decide) rfl dX4_nameToken_18 20 rfl ?_
    obtain ⟨v2, hv2, hf⟩ := bn1_e hf
    refine cv_i hX (c4_isName r g u h _ _ 1 (by decide) hv2) wvX4_isName q_190 rc_32 (Nat.le_of_ble_eq_true rfl) (Nat.le_of_ble_eq_true rfl) (fun _ => rfl) [] rfl (Nat.le_of_ble_eq_true rfl) dX4_nameToken_20 23 rfl ?_
    refine v_if_eq hX dX4_nameToken_23 30 rfl 26 rfl (fun h23 => ?_) (fun h23 => ?_)
    · replace hf := it_p h23 hf
      refine v_aload_n hX dX4_nameToken_30 rfl 0 rfl 31 rfl ?_
      refine v_iload_n hX dX4_nameToken_31 rfl 1 rfl 32 rfl ?_
      refine v_iload_n hX dX4_nameToken_32 rfl 2 rfl 33 rfl ?_
      refine v_ldcS hX 2 (by decide) rfl dX4_nameToken_33 35 rfl ?_
      obtain ⟨v3, hv3, hf⟩ := bn1_e hf
      refine cv_i hX (c4_isName r g u h _ _ 2 (by decide) hv3) wvX4_isName q_190 rc_32 (Nat.le_of_ble_eq_true rfl) (Nat.le_of_ble_eq_true rfl) (fun _ => rfl) [] rfl (Nat.le_of_ble_eq_true rfl) dX4_nameToken_35 38 rfl ?_
      refine v_if_eq hX dX4_nameToken_38 45 rfl 41 rfl (fun h22 => ?_) (fun h22 => ?_)
      · replace hf := it_p h22 hf
        refine v_aload_n hX dX4_nameToken_45 rfl 0 rfl 46 rfl ?_
        refine v_iload_n hX dX4_nameToken_46 rfl 1 rfl 47 rfl ?_
        refine v_iload_n hX dX4_nameToken_47 rfl 2 rfl 48 rfl ?_
        refine v_ldcS hX 3 (by decide) rfl dX4_nameToken_48 50 rfl ?_
        obtain ⟨v4, hv4, hf⟩ := bn1_e hf
        refine cv_i hX (c4_isName r g u h _ _ 3 (by decide) hv4) wvX4_isName q_190 rc_32 (Nat.le_of_ble_eq_true rfl) (Nat.le_of_ble_eq_true rfl) (fun _ => rfl) [] rfl (Nat.le_of_ble_eq_true rfl) dX4_nameToken_50 53 rfl ?_
        refine v_if_eq hX dX4_nameToken_53 60 rfl 56 rfl (fun h21 => ?_) (fun h21 => ?_)
        · replace hf := it_p h21 hf
          refine v_aload_n hX dX4_nameToken_60 rfl 0 rfl 61 rfl ?_
          refine v_iload_n hX dX4_nameToken_61 rfl 1 rfl 62 rfl ?_
          refine v_iload_n hX dX4_nameToken_62 rfl 2 rfl 63 rfl ?_
          refine v_ldcS hX 4 (by decide) rfl dX4_nameToken_63 65 rfl ?_
          obtain ⟨v5, hv5, hf⟩ := bn1_e hf
          refine cv_i hX (c4_isName r g u h _ _ 4 (by decide) hv5) wvX4_isName q_190 rc_32 (Nat.le_of_ble_eq_true rfl) (Nat.le_of_ble_eq_true rfl) (fun _ => rfl) [] rfl (Nat.le_of_ble_eq_true rfl) dX4_nameToken_65 68 rfl ?_
          refine v_if_eq hX dX4_nameToken_68 75 rfl 71 rfl (fun h20 => ?_) (fun h20 => ?_)
          · replace hf := it_p h20 hf
            refine v_aload_n hX dX4_nameToken_75 rfl 0 rfl 76 rfl ?_
            refine v_iload_n hX dX4_nameToken_76 rfl 1 rfl 77 rfl ?_
            refine v_iload_n hX dX4_nameToken_77 rfl 2 rfl 78 rfl ?_
            refine v_ldcS hX 5 (by decide) rfl dX4_nameToken_78 80 rfl ?_
            obtain ⟨v6, hv6, hf⟩ := bn1_e hf
            refine cv_i hX (c4_isName r g u h _ _ 5 (by decide) hv6) wvX4_isName q_190 rc_32 (Nat.le_of_ble_eq_true rfl) (Nat.le_of_ble_eq_true rfl) (fun _ => rfl) [] rfl (Nat.le_of_ble_eq_true rfl) dX4_nameToken_80 83 rfl ?_
            refine v_if_eq hX dX4_nameToken_83 90 rfl 86 rfl (fun h19 => ?_) (fun h19 => ?_)
            · replace hf := it_p h19 hf
              refine v_aload_n hX dX4_nameToken_90 rfl 0 rfl 91 rfl ?_
              refine v_iload_n hX dX4_nameToken_91 rfl 1 rfl 92 rfl ?_
              refine v_iload_n hX dX4_nameToken_92 rfl 2 rfl 93 rfl ?_
              refine v_ldcS hX 6 (by decide) rfl dX4_nameToken_93 95 rfl ?_
              obtain ⟨v7, hv7, hf⟩ := bn1_e hf
              refine cv_i hX (c4_isName r g u h _ _ 6 (by decide) hv7) wvX4_isName q_190 rc_32 (Nat.le_of_ble_eq_true rfl) (Nat.le_of_ble_eq_true rfl) (fun _ => rfl) [] rfl (Nat.le_of_ble_eq_true rfl) dX4_nameToken_95 98 rfl ?_
              refine v_if_eq hX dX4_nameToken_98 105 rfl 101 rfl (fun h18 => ?_) (fun h18 => ?_)
              · replace hf := it_p h18 hf
                refine v_aload_n hX dX4_nameToken_105 rfl 0 rfl 106 rfl ?_
                refine v_iload_n hX dX4_nameToken_106 rfl 1 rfl 107 rfl ?_
                refine v_iload_n hX dX4_nameToken_107 rfl 2 rfl 108 rfl ?_
                refine v_ldcS hX 7 (by decide) rfl dX4_nameToken_108 110 rfl ?_
                obtain ⟨v8, hv8, hf⟩ := bn1_e hf
                refine cv_i hX (c4_isName r g u h _ _ 7 (by decide) hv8) wvX4_isName q_190 rc_32 (Nat.le_of_ble_eq_true rfl) (Nat.le_of_ble_eq_true rfl) (fun _ => rfl) [] rfl (Nat.le_of_ble_eq_true rfl) dX4_nameToken_110 113 rfl ?_
                refine v_if_eq hX dX4_nameToken_113 120 rfl 116 rfl (fun h17 => ?_) (fun h17 => ?_)
                · replace hf := it_p h17 hf
                  refine v_aload_n hX dX4_nameToken_120 rfl 0 rfl 121 rfl ?_
                  refine v_iload_n hX dX4_nameToken_121 rfl 1 rfl 122 rfl ?_
                  refine v_iload_n hX dX4_nameToken_122 rfl 2 rfl 123 rfl ?_
                  refine v_ldcS hX 8 (by decide) rfl dX4_nameToken_123 125 rfl ?_
                  obtain ⟨v9, hv9, hf⟩ := bn1_e hf
                  refine cv_i hX (c4_isName r g u h _ _ 8 (by decide) hv9) wvX4_isName q_190 rc_32 (Nat.le_of_ble_eq_true rfl) (Nat.le_of_ble_eq_true rfl) (fun _ => rfl) [] rfl (Nat.le_of_ble_eq_true rfl) dX4_nameToken_125 128 rfl ?_
                  refine v_if_eq hX dX4_nameToken_128 135 rfl 131 rfl (fun h16 => ?_) (fun h16 => ?_)
                  · replace hf := it_p h16 hf
                    refine v_aload_n hX dX4_nameToken_135 rfl 0 rfl 136 rfl ?_
                    refine v_iload_n hX dX4_nameToken_136 rfl 1 rfl 137 rfl ?_
                    refine v_iload_n hX dX4_nameToken_137 rfl 2 rfl 138 rfl ?_
                    refine v_ldcS hX 9 (by decide) rfl dX4_nameToken_138 140 rfl ?_
                    obtain ⟨v10, hv10, hf⟩ := bn1_e hf
                    refine cv_i hX (c4_isName r g u h _ _ 9 (by decide) hv10) wvX4_isName q_190 rc_32 (Nat.le_of_ble_eq_true rfl) (Nat.le_of_ble_eq_true rfl) (fun _ => rfl) [] rfl (Nat.le_of_ble_eq_true rfl) dX4_nameToken_140 143 rfl ?_
                    refine v_if_eq hX dX4_nameToken_143 150 rfl 146 rfl (fun h15 => ?_) (fun h15 => ?_)
                    · replace hf := it_p h15 hf
                      refine v_aload_n hX dX4_nameToken_150 rfl 0 rfl 151 rfl ?_
                      refine v_iload_n hX dX4_nameToken_151 rfl 1 rfl 152 rfl ?_
                      refine v_iload_n hX dX4_nameToken_152 rfl 2 rfl 153 rfl ?_
                      refine v_ldcS hX 10 (by decide) rfl dX4_nameToken_153 155 rfl ?_
                      obtain ⟨v11, hv11, hf⟩ := bn1_e hf
                      refine cv_i hX (c4_isName r g u h _ _ 10 (by decide) hv11) wvX4_isName q_190 rc_32 (Nat.le_of_ble_eq_true rfl) (Nat.le_of_ble_eq_true rfl) (fun _ => rfl) [] rfl (Nat.le_of_ble_eq_true rfl) dX4_nameToken_155 158 rfl ?_
                      refine v_if_eq hX dX4_nameToken_158 165 rfl 161 rfl (fun h14 => ?_) (fun h14 => ?_)
                      · replace hf := it_p h14 hf
                        refine v_aload_n hX dX4_nameToken_165 rfl 0 rfl 166 rfl ?_
                        refine v_iload_n hX dX4_nameToken_166 rfl 1 rfl 167 rfl ?_
                        refine v_iload_n hX dX4_nameToken_167 rfl 2 rfl 168 rfl ?_
                        refine v_ldcS hX 11 (by decide) rfl dX4_nameToken_168 170 rfl ?_
                        obtain ⟨v12, hv12, hf⟩ := bn1_e hf
                        refine cv_i hX (c4_isName r g u h _ _ 11 (by decide) hv12) wvX4_isName q_190 rc_32 (Nat.le_of_ble_eq_true rfl) (Nat.le_of_ble_eq_true rfl) (fun _ => rfl) [] rfl (Nat.le_of_ble_eq_true rfl) dX4_nameToken_170 173 rfl ?_
                        refine v_if_eq hX dX4_nameToken_173 180 rfl 176 rfl (fun h13 => ?_) (fun h13 => ?_)
                        · replace hf := it_p h13 hf
                          refine v_sipush (v := (3005 : Int32)) hX dX4_nameToken_180 (by decide) 183 rfl ?_
                          exact hR _ hf _ _ dX4_nameToken_183 rfl
                        · replace hf := it_n h13 hf
                          refine v_sipush (v := (1005 : Int32)) hX dX4_nameToken_176 (by decide) 179 rfl ?_
                          exact hR _ hf _ _ dX4_nameToken_179 rfl
                      · replace hf := it_n h14 hf
                        refine v_sipush (v := (1004 : Int32)) hX dX4_nameToken_161 (by decide) 164 rfl ?_
                        exact hR _ hf _ _ dX4_nameToken_164 rfl
                    · replace hf := it_n h15 hf
                      refine v_sipush (v := (1003 : Int32)) hX dX4_nameToken_146 (by decide) 149 rfl ?_
                      exact hR _ hf _ _ dX4_nameToken_149 rfl
                  · replace hf := it_n h16 hf
                    refine v_sipush (v := (1002 : Int32)) hX dX4_nameToken_131 (by decide) 134 rfl ?_
                    exact hR _ hf _ _ dX4_nameToken_134 rfl
                · replace hf := it_n h17 hf
                  refine v_sipush (v := (1001 : Int32)) hX dX4_nameToken_116 (by decide) 119 rfl ?_
                  exact hR _ hf _ _ dX4_nameToken_119 rfl
              · replace hf := it_n h18 hf
                refine v_sipush (v := (1000 : Int32)) hX dX4_nameToken_101 (by decide) 104 rfl ?_
                exact hR _ hf _ _ dX4_nameToken_104 rfl
            · replace hf := it_n h19 hf
              refine v_sipush (v := (2003 : Int32)) hX dX4_nameToken_86 (by decide) 89 rfl ?_
              exact hR _ hf _ _ dX4_nameToken_89 rfl
          · replace hf := it_n h20 hf
            refine v_sipush (v := (2004 : Int32)) hX dX4_nameToken_71 (by decide) 74 rfl ?_
            exact hR _ hf _ _ dX4_nameToken_74 rfl
        · replace hf := it_n h21 hf
          refine v_sipush (v := (2005 : Int32)) hX dX4_nameToken_56 (by decide) 59 rfl ?_
          exact hR _ hf _ _ dX4_nameToken_59 rfl
      · replace hf := it_n h22 hf
        refine v_sipush (v := (3000 : Int32)) hX dX4_nameToken_41 (by decide) 44 rfl ?_
        exact hR _ hf _ _ dX4_nameToken_44 rfl
    · replace hf := it_n h23 hf
      refine v_sipush (v := (2010 : Int32)) hX dX4_nameToken_26 (by decide) 29 rfl ?_
      exact hR _ hf _ _ dX4_nameToken_29 rfl
  · replace hf := it_n h24 hf
    refine v_sipush (v := (2011 : Int32)) hX dX4_nameToken_11 (by decide) 14 rfl ?_
    exact hR _ hf _ _ dX4_nameToken_14 rfl
set_option maxRecDepth 100000 in
set_option maxHeartbeats 4000000 in
theorem c4_numberToken (r : Nat → Int32) (g : Nat → Nat → Int32) (u : Nat → Int64) (h : Nat → Nat → Int64) (p1 : Int32) (p2 : Int32) {res : Int32} (hf : f4_numberToken (r 15) (g 33) p1 p2 = some res) : MAi yX4_numberToken cX4_numberToken 5 (some .int) 1 (fun a => [.ref (a 32), .int p1, .int p2]) r g u h res r g u h := by
  refine mi_i (by decide +kernel) (fun a => Nat.le_of_ble_eq_true rfl) (fun X hX hn hR => ?_)
  replace hR : ∀ q : Int32, some q = some res → ∀ lv pc, decode cX4_numberToken pc = .ok (.ireturn, 1) → narrow .int (.int q) = .int q → VC X r g u h lv [.int q] pc := fun q hq => by cases hq; exact hR
  replace hX : CX X RX4 cX4_numberToken 1 := hX
  show VC X r g u h [(0, .ref (aX X 32)), (1, .int p1), (2, .int p2)] [] 0
  rw [f4_numberToken] at hf
  refine v_iload_n hX dX4_numberToken_0 rfl 2 rfl 1 rfl ?_
  refine v_iload_n hX dX4_numberToken_1 rfl 1 rfl 2 rfl ?_
  refine v_isub hX dX4_numberToken_2 3 rfl ?_
  refine v_iconst (v := (3 : Int32)) hX dX4_numberToken_3 (by decide) 4 rfl ?_
  refine v_icmp_le hX dX4_numberToken_4 11 rfl 7 rfl (fun h7 => ?_) (fun h7 => ?_)
  · replace hf := it_p h7 hf
    refine v_iconst (v := (0 : Int32)) hX dX4_numberToken_11 (by decide) 12 rfl ?_
    refine v_istore_n hX dX4_numberToken_12 rfl (ltn hn (by decide)) 13 rfl [(3, .int (0 : Int32)), (0, .ref (aX X 32)), (1, .int p1), (2, .int p2)] rfl ?_
    refine v_iload_n hX dX4_numberToken_13 rfl 2 rfl 14 rfl ?_
    refine v_istore hX dX4_numberToken_14 (ltn hn (by decide)) 16 rfl [(4, .int p1), (3, .int (0 : Int32)), (0, .ref (aX X 32)), (1, .int p1), (2, .int p2)] rfl ?_
    obtain ⟨K3, hK3, hf⟩ := jn_x hf
    have HK3 : ∀ (x1 : Int32) (x2 : Int32), K3 x1 x2 = some res → VC X r g u h [(3, .int x1)] [] 43 := by
      intro x1 x2 hf
      rw [hK3] at hf
      refine v_iload_n hX dX4_numberToken_43 rfl 0 rfl 44 rfl ?_
      exact hR _ hf _ _ dX4_numberToken_44 rfl
    have HLK3 : ∀ (n4 : Nat) (x1 : Int32) (x2 : Int32), f4_numberToken_L16 (r 15) (g 33) p2 n4 x1 x2 K3 = some res → VC X r g u h [(0, .ref (aX X 32)), (2, .int p2), (3, .int x1), (4, .int x2)] [] 16 := by
      intro n4
      induction n4 with
      | zero => intro x1 x2 hf; exact no_s hf
      | succ n4 ih =>
        intro x1 x2 hf
        rw [f4_numberToken_L16] at hf
        refine v_iload hX dX4_numberToken_16 3 rfl 18 rfl ?_
        refine v_iload_n hX dX4_numberToken_18 rfl 1 rfl 19 rfl ?_
        refine v_icmp_ge hX dX4_numberToken_19 43 rfl 22 rfl (fun h6 => ?_) (fun h6 => ?_)
        · replace hf := it_p h6 hf
          refine v_sub [(3, .int x1)] (sbc 2 rfl sbn) ?_
          exact HK3 _ _ hf
        · replace hf := it_n h6 hf
          refine v_iload_n hX dX4_numberToken_22 rfl 2 rfl 23 rfl ?_
          refine v_bipush (v := (10 : Int32)) hX dX4_numberToken_23 (by decide) 25 rfl ?_
          refine v_imul hX dX4_numberToken_25 26 rfl ?_
          refine v_aload_n hX dX4_numberToken_26 rfl 0 rfl 27 rfl ?_
          refine v_iload hX dX4_numberToken_27 3 rfl 29 rfl ?_
          obtain ⟨v5, hv5, hf⟩ := bn1_e hf
          refine cv_i hX (c4_byteAt r g u h _ hv5) wvX4_byteAt q_178 rc_32 (Nat.le_of_ble_eq_true rfl) (Nat.le_of_ble_eq_true rfl) (fun _ => rfl) [.int (x1 * (10 : Int32))] rfl (Nat.le_of_ble_eq_true rfl) dX4_numberToken_29 32 rfl ?_
          refine v_iadd hX dX4_numberToken_32 33 rfl ?_
          refine v_bipush (v := (48 : Int32)) hX dX4_numberToken_33 (by decide) 35 rfl ?_
          refine v_isub hX dX4_numberToken_35 36 rfl ?_
          refine v_istore_n hX dX4_numberToken_36 rfl (ltn hn (by decide)) 37 rfl [(3, .int (((x1 * (10 : Int32)) + v5) - (48 : Int32))), (0, .ref (aX X 32)), (2, .int p2), (4, .int x2)] rfl ?_
          refine v_inc (c := (1 : Int32)) hX dX4_numberToken_37 3 rfl (by decide) (ltn hn (by decide)) 40 rfl [(4, .int (x2 + (1 : Int32))), (3, .int (((x1 * (10 : Int32)) + v5) - (48 : Int32))), (0, .ref (aX X 32)), (2, .int p2)] rfl ?_
          refine v_goto hX dX4_numberToken_40 16 rfl ?_
          refine v_sub [(0, .ref (aX X 32)), (2, .int p2), (3, .int (((x1 * (10 : Int32)) + v5) - (48 : Int32))), (4, .int (x2 + (1 : Int32)))] (sbc 2 rfl (sbc 3 rfl (sbc 1 rfl (sbc 0 rfl sbn)))) ?_
          exact ih _ _ hf
    refine v_sub [(0, .ref (aX X 32)), (2, .int p2), (3, .int (0 : Int32)), (4, .int p1)] (sbc 2 rfl (sbc 4 rfl (sbc 1 rfl (sbc 0 rfl sbn)))) ?_
    exact HLK3 _ _ _ hf
  · replace hf := it_n h7 hf
    refine v_sipush (v := (3005 : Int32)) hX dX4_numberToken_7 (by decide) 10 rfl ?_
    exact hR _ hf _ _ dX4_numberToken_10 rfl
set_option maxRecDepth 100000 in
set_option maxHeartbeats 4000000 in
theorem c4_tokenOf (r : Nat → Int32) (g : Nat → Nat → Int32) (u : Nat → Int64) (h : Nat → Nat → Int64) (p1 : Int32) (p2 : Int32) (p3 : Int32) {res : Int32} (hf : f4_tokenOf (r 15) (g 33) p1 p2 p3 = some res) : MAi yX4_tokenOf cX4_tokenOf 4 (some .int) 7 (fun a => [.ref (a 32), .int p1, .int p2, .int p3]) r g u h res r g u h := by
  refine mi_i (by decide +kernel) (fun a => Nat.le_of_ble_eq_true rfl) (fun X hX hn hR => ?_)
  replace hR : ∀ q : Int32, some q = some res → ∀ lv pc, decode cX4_tokenOf pc = .ok (.ireturn, 1) → narrow .int (.int q) = .int q → VC X r g u h lv [.int q] pc := fun q hq => by cases hq; exact hR
  replace hX : CX X RX4 cX4_tokenOf 7 := hX
  show VC X r g u h [(0, .ref (aX X 32)), (1, .int p1), (2, .int p2), (3, .int p3)] [] 0
  rw [f4_tokenOf] at hf
  refine v_iload_n hX dX4_tokenOf_0 rfl 1 rfl 1 rfl ?_
  refine v_iconst (v := (1 : Int32)) hX dX4_tokenOf_1 (by decide) 2 rfl ?_
  refine v_icmp_ne hX dX4_tokenOf_2 12 rfl 5 rfl (fun h11 => ?_) (fun h11 => ?_)
  · replace hf := it_n h11 hf
    refine v_iload_n hX dX4_tokenOf_12 rfl 1 rfl 13 rfl ?_
    refine v_iconst (v := (2 : Int32)) hX dX4_tokenOf_13 (by decide) 14 rfl ?_
    refine v_icmp_ne hX dX4_tokenOf_14 24 rfl 17 rfl (fun h9 => ?_) (fun h9 => ?_)
    · replace hf := it_n h9 hf
      refine v_aload_n hX dX4_tokenOf_24 rfl 0 rfl 25 rfl ?_
      refine v_iload_n hX dX4_tokenOf_25 rfl 2 rfl 26 rfl ?_
      obtain ⟨v1, hv1, hf⟩ := bn1_e hf
      refine cv_i hX (c4_byteAt r g u h _ hv1) wvX4_byteAt q_178 rc_32 (Nat.le_of_ble_eq_true rfl) (Nat.le_of_ble_eq_true rfl) (fun _ => rfl) [] rfl (Nat.le_of_ble_eq_true rfl) dX4_tokenOf_26 29 rfl ?_
      rcases Decidable.em (v1 = (40 : Int32)) with h2 | h2
      · replace hf := it_p h2 hf
        refine v_ls hX dX4_tokenOf_29 (by decide) (59) (by rw [h2]; decide +kernel) 88 rfl ?_
        refine v_sipush (v := (3001 : Int32)) hX dX4_tokenOf_88 (by decide) 91 rfl ?_
        exact hR _ hf _ _ dX4_tokenOf_91 rfl
      · replace hf := it_n h2 hf
        rcases Decidable.em (v1 = (41 : Int32)) with h3 | h3
        · replace hf := it_p h3 hf
          refine v_ls hX dX4_tokenOf_29 (by decide) (63) (by rw [h3]; decide +kernel) 92 rfl ?_
          refine v_sipush (v := (3002 : Int32)) hX dX4_tokenOf_92 (by decide) 95 rfl ?_
          exact hR _ hf _ _ dX4_tokenOf_95 rfl
        · replace hf := it_n h3 hf
          rcases Decidable.em (v1 = (59 : Int32)) with h4 | h4
          · replace hf := it_p h4 hf
            refine v_ls hX dX4_tokenOf_29 (by decide) (67) (by rw [h4]; decide +kernel) 96 rfl ?_
            refine v_sipush (v := (3003 : Int32)) hX dX4_tokenOf_96 (by decide) 99 rfl ?_
            exact hR _ hf _ _ dX4_tokenOf_99 rfl
          · replace hf := it_n h4 hf
            rcases Decidable.em (v1 = (60 : Int32)) with h5 | h5
            · replace hf := it_p h5 hf
              refine v_ls hX dX4_tokenOf_29 (by decide) (71) (by rw [h5]; decide +kernel) 100 rfl ?_
              refine v_sipush (v := (2000 : Int32)) hX dX4_tokenOf_100 (by decide) 103 rfl ?_
              exact hR _ hf _ _ dX4_tokenOf_103 rfl
            · replace hf := it_n h5 hf
              rcases Decidable.em (v1 = (61 : Int32)) with h6 | h6
              · replace hf := it_p h6 hf
                refine v_ls hX dX4_tokenOf_29 (by decide) (75) (by rw [h6]; decide +kernel) 104 rfl ?_
                refine v_sipush (v := (2001 : Int32)) hX dX4_tokenOf_104 (by decide) 107 rfl ?_
                exact hR _ hf _ _ dX4_tokenOf_107 rfl
              · replace hf := it_n h6 hf
                rcases Decidable.em (v1 = (62 : Int32)) with h7 | h7
                · replace hf := it_p h7 hf
                  refine v_ls hX dX4_tokenOf_29 (by decide) (79) (by rw [h7]; decide +kernel) 108 rfl ?_
                  refine v_sipush (v := (2002 : Int32)) hX dX4_tokenOf_108 (by decide) 111 rfl ?_
                  exact hR _ hf _ _ dX4_tokenOf_111 rfl
                · replace hf := it_n h7 hf
                  refine v_ls hX dX4_tokenOf_29 (by decide) (83) ((lv_osw h2 (by decide)).trans ((lv_osw h3 (by decide)).trans ((lv_osw h4 (by decide)).trans ((lv_osw h5 (by decide)).trans ((lv_osw h6 (by decide)).trans ((lv_osw h7 (by decide)).trans rfl)))))) 112 rfl ?_
                  refine v_sipush (v := (3005 : Int32)) hX dX4_tokenOf_112 (by decide) 115 rfl ?_
                  exact hR _ hf _ _ dX4_tokenOf_115 rfl
    · replace hf := it_p h9 hf
      refine v_aload_n hX dX4_tokenOf_17 rfl 0 rfl 18 rfl ?_
      refine v_iload_n hX dX4_tokenOf_18 rfl 2 rfl 19 rfl ?_
      refine v_iload_n hX dX4_tokenOf_19 rfl 3 rfl 20 rfl ?_
      obtain ⟨v8, hv8, hf⟩ := bn1_e hf
      refine cv_i hX (c4_numberToken r g u h _ _ hv8) wvX4_numberToken q_243 rc_32 (Nat.le_of_ble_eq_true rfl) (Nat.le_of_ble_eq_true rfl) (fun _ => rfl) [] rfl (Nat.le_of_ble_eq_true rfl) dX4_tokenOf_20 23 rfl ?_
      exact hR _ hf _ _ dX4_tokenOf_23 rfl
  · replace hf := it_p h11 hf
    refine v_aload_n hX dX4_tokenOf_5 rfl 0 rfl 6 rfl ?_
    refine v_iload_n hX dX4_tokenOf_6 rfl 2 rfl 7 rfl ?_
    refine v_iload_n hX dX4_tokenOf_7 rfl 3 rfl 8 rfl ?_
    obtain ⟨v10, hv10, hf⟩ := bn1_e hf
    refine cv_i hX (c4_nameToken r g u h _ _ hv10) wvX4_nameToken q_186 rc_32 (Nat.le_of_ble_eq_true rfl) (Nat.le_of_ble_eq_true rfl) (fun _ => rfl) [] rfl (Nat.le_of_ble_eq_true rfl) dX4_tokenOf_8 11 rfl ?_
    exact hR _ hf _ _ dX4_tokenOf_11 rfl
set_option maxRecDepth 100000 in
set_option maxHeartbeats 4000000 in
theorem c4_addToken (r : Nat → Int32) (g : Nat → Nat → Int32) (u : Nat → Int64) (h : Nat → Nat → Int64) (p1 : Int32) (p2 : Int32) {res : Int32 × (Nat → Int32) × (Nat → Int32)} (hf : f4_addToken (r 16) (g 35) (g 34) p1 p2 = some res) : MAv yX4_addToken cX4_addToken 3 none 0 (fun a => [.ref (a 32), .int p1, .int p2]) r g u h (lkp r [(16, res.1)]) (lkp g [(35, res.2.1), (34, res.2.2)]) u h := by
  refine mi_v (by decide +kernel) (fun a => Nat.le_of_ble_eq_true rfl) (fun X hX hn hR => ?_)
  replace hR : ∀ q : Int32 × (Nat → Int32) × (Nat → Int32), some q = some res → ∀ lv pc, decode cX4_addToken pc = .ok (.return_, 1) → VC X (lkp r [(16, q.1)]) (lkp g [(35, q.2.1), (34, q.2.2)]) u h lv [] pc := fun q hq => by cases hq; exact hR
  replace hX : CX X RX4 cX4_addToken 0 := hX
  refine v_opr [16] [(16, r 16)] rfl ?_
  refine v_opg [35, 34] [(35, g 35), (34, g 34)] rfl ?_
  show VC X (lkp r [(16, r 16)]) (lkp g [(35, g 35), (34, g 34)]) u h [(0, .ref (aX X 32)), (1, .int p1), (2, .int p2)] [] 0
  rw [f4_addToken] at hf
  refine v_aload_n hX dX4_addToken_0 rfl 0 rfl 1 rfl ?_
  refine gf_32_4 hX q_173 dX4_addToken_1 ((r 16)) rfl 4 rfl ?_
  refine v_sipush (v := (200 : Int32)) hX dX4_addToken_4 (by decide) 7 rfl ?_
  refine v_icmp_le hX dX4_addToken_7 11 rfl 10 rfl (fun h3 => ?_) (fun h3 => ?_)
  · replace hf := it_p h3 hf
    refine v_aload_n hX dX4_addToken_11 rfl 0 rfl 12 rfl ?_
    refine gf_32_2 hX q_77 dX4_addToken_12 15 rfl ?_
    refine v_aload_n hX dX4_addToken_15 rfl 0 rfl 16 rfl ?_
    refine gf_32_4 hX q_173 dX4_addToken_16 ((r 16)) rfl 19 rfl ?_
    refine v_iload_n hX dX4_addToken_19 rfl 1 rfl 20 rfl ?_
    obtain ⟨hi1, hf⟩ := gd_e hf
    refine as_34 hX hi1 dX4_addToken_20 21 rfl (g 34) rfl [(35, (g 35)), (34, (upd (g 34) (r 16).toNatClampNeg p1))] rfl ?_
    refine v_aload_n hX dX4_addToken_21 rfl 0 rfl 22 rfl ?_
    refine gf_32_3 hX q_78 dX4_addToken_22 25 rfl ?_
    refine v_aload_n hX dX4_addToken_25 rfl 0 rfl 26 rfl ?_
    refine gf_32_4 hX q_173 dX4_addToken_26 ((r 16)) rfl 29 rfl ?_
    refine v_iload_n hX dX4_addToken_29 rfl 2 rfl 30 rfl ?_
    obtain ⟨hi2, hf⟩ := gd_e hf
    refine as_35 hX hi2 dX4_addToken_30 31 rfl (g 35) rfl [(35, (upd (g 35) (r 16).toNatClampNeg p2)), (34, (upd (g 34) (r 16).toNatClampNeg p1))] rfl ?_
    refine v_aload_n hX dX4_addToken_31 rfl 0 rfl 32 rfl ?_
    refine v_dup hX dX4_addToken_32 rfl 33 rfl ?_
    refine gf_32_4 hX q_173 dX4_addToken_33 ((r 16)) rfl 36 rfl ?_
    refine v_iconst (v := (1 : Int32)) hX dX4_addToken_36 (by decide) 37 rfl ?_
    refine v_iadd hX dX4_addToken_37 38 rfl ?_
    refine pf_32_4 hX q_173 dX4_addToken_38 41 rfl [(16, ((r 16) + (1 : Int32)))] rfl ?_
    exact hR _ hf _ _ dX4_addToken_41
  · replace hf := it_n h3 hf
    exact hR _ hf _ _ dX4_addToken_10
set_option maxRecDepth 100000 in
set_option maxHeartbeats 4000000 in
theorem c4_cut (r : Nat → Int32) (g : Nat → Nat → Int32) (u : Nat → Int64) (h : Nat → Nat → Int64)  {res : Int32 × (Nat → Int32) × (Nat → Int32)} (hf : f4_cut (r 16) (r 15) (g 35) (g 33) (g 34) = some res) : MAv yX4_cut cX4_cut 4 none 8 (fun a => [.ref (a 32)]) r g u h (lkp r [(16, res.1)]) (lkp g [(35, res.2.1), (34, res.2.2)]) u h := by
  refine mi_v (by decide +kernel) (fun a => Nat.le_of_ble_eq_true rfl) (fun X hX hn hR => ?_)
  replace hR : ∀ q : Int32 × (Nat → Int32) × (Nat → Int32), some q = some res → ∀ lv pc, decode cX4_cut pc = .ok (.return_, 1) → VC X (lkp r [(16, q.1)]) (lkp g [(35, q.2.1), (34, q.2.2)]) u h lv [] pc := fun q hq => by cases hq; exact hR
  replace hX : CX X RX4 cX4_cut 8 := hX
  refine v_opr [16] [(16, r 16)] rfl ?_
  refine v_opg [35, 34] [(35, g 35), (34, g 34)] rfl ?_
  show VC X (lkp r [(16, r 16)]) (lkp g [(35, g 35), (34, g 34)]) u h [(0, .ref (aX X 32))] [] 0
  rw [f4_cut] at hf
  refine v_aload_n hX dX4_cut_0 rfl 0 rfl 1 rfl ?_
  refine v_iconst (v := (0 : Int32)) hX dX4_cut_1 (by decide) 2 rfl ?_
  refine pf_32_4 hX q_173 dX4_cut_2 5 rfl [(16, (0 : Int32))] rfl ?_
  refine v_iconst (v := (0 : Int32)) hX dX4_cut_5 (by decide) 6 rfl ?_
  refine v_istore_n hX dX4_cut_6 rfl (ltn hn (by decide)) 7 rfl [(1, .int (0 : Int32)), (0, .ref (aX X 32))] rfl ?_
  obtain ⟨K5, hK5, hf⟩ := jn_x hf
  have HK5 : ∀ (x1 : Int32) (c2 : Int32) (c3 : (Nat → Int32)) (c4 : (Nat → Int32)), K5 x1 c2 c3 c4 = some res → VC X (lkp r [(16, c2)]) (lkp g [(35, c3), (34, c4)]) u h [(0, .ref (aX X 32))] [] 80 := by
    intro x1 c2 c3 c4 hf
    rw [hK5] at hf
    refine v_aload_n hX dX4_cut_80 rfl 0 rfl 81 rfl ?_
    refine v_sipush (v := (3004 : Int32)) hX dX4_cut_81 (by decide) 84 rfl ?_
    refine v_aload_n hX dX4_cut_84 rfl 0 rfl 85 rfl ?_
    refine gf_32_1 hX q_143 dX4_cut_85 ((r 15)) rfl 88 rfl ?_
    obtain ⟨c26, c27, c28, hc26, hf⟩ := bn3_e hf
    refine cv_v hX (c4_addToken (lkp r [(16, c2)]) (lkp g [(35, c3), (34, c4)]) u h _ _ hc26) wvX4_addToken q_247 rc_32 (Nat.le_of_ble_eq_true rfl) (Nat.le_of_ble_eq_true rfl) (fun _ => rfl) [] rfl (Nat.le_of_ble_eq_true rfl) dX4_cut_88 91 rfl ?_
    refine v_mgr [(16, c26)] rfl ?_
    refine v_mgg [(35, c27), (34, c28)] rfl ?_
    exact hR _ hf _ _ dX4_cut_91
  have HLK5 : ∀ (n6 : Nat) (x1 : Int32) (c2 : Int32) (c3 : (Nat → Int32)) (c4 : (Nat → Int32)), f4_cut_L7 (r 15) (g 33) n6 x1 c2 c3 c4 K5 = some res → VC X (lkp r [(16, c2)]) (lkp g [(35, c3), (34, c4)]) u h [(0, .ref (aX X 32)), (1, .int x1)] [] 7 := by
    intro n6
    induction n6 with
    | zero => intro x1 c2 c3 c4 hf; exact no_s hf
    | succ n6 ih =>
      intro x1 c2 c3 c4 hf
      rw [f4_cut_L7] at hf
      refine v_iload_n hX dX4_cut_7 rfl 1 rfl 8 rfl ?_
      refine v_aload_n hX dX4_cut_8 rfl 0 rfl 9 rfl ?_
      refine gf_32_1 hX q_143 dX4_cut_9 ((r 15)) rfl 12 rfl ?_
      refine v_icmp_ge hX dX4_cut_12 80 rfl 15 rfl (fun h25 => ?_) (fun h25 => ?_)
      · replace hf := it_p h25 hf
        refine v_sub [(0, .ref (aX X 32))] (sbc 0 rfl sbn) ?_
        exact HK5 _ _ _ _ hf
      · replace hf := it_n h25 hf
        refine v_aload_n hX dX4_cut_15 rfl 0 rfl 16 rfl ?_
        refine v_iload_n hX dX4_cut_16 rfl 1 rfl 17 rfl ?_
        obtain ⟨v7, hv7, hf⟩ := bn1_e hf
        refine cv_i hX (c4_sortAt (lkp r [(16, c2)]) (lkp g [(35, c3), (34, c4)]) u h _ hv7) wvX4_sortAt q_174 rc_32 (Nat.le_of_ble_eq_true rfl) (Nat.le_of_ble_eq_true rfl) (fun _ => rfl) [] rfl (Nat.le_of_ble_eq_true rfl) dX4_cut_17 20 rfl ?_
        refine v_istore_n hX dX4_cut_20 rfl (ltn hn (by decide)) 21 rfl [(2, .int v7), (0, .ref (aX X 32)), (1, .int x1)] rfl ?_
        refine v_iload_n hX dX4_cut_21 rfl 2 rfl 22 rfl ?_
        refine v_iconst (v := (1 : Int32)) hX dX4_cut_22 (by decide) 23 rfl ?_
        refine v_iadd hX dX4_cut_23 24 rfl ?_
        refine v_istore_n hX dX4_cut_24 rfl (ltn hn (by decide)) 25 rfl [(3, .int (x1 + (1 : Int32))), (2, .int v7), (0, .ref (aX X 32)), (1, .int x1)] rfl ?_
        obtain ⟨K9, hK9, hf⟩ := jn_x hf
        have HK9 : ∀ (x8 : Int32), K9 x8 = some res → VC X (lkp r [(16, c2)]) (lkp g [(35, c3), (34, c4)]) u h [(0, .ref (aX X 32)), (1, .int x1), (2, .int v7), (3, .int x8)] [] 53 := by
          intro x8 hf
          rw [hK9] at hf
          refine v_aload_n hX dX4_cut_53 rfl 0 rfl 54 rfl ?_
          refine v_iload_n hX dX4_cut_54 rfl 1 rfl 55 rfl ?_
          obtain ⟨v15, hv15, hf⟩ := bn1_e hf
          refine cv_i hX (c4_byteAt (lkp r [(16, c2)]) (lkp g [(35, c3), (34, c4)]) u h _ hv15) wvX4_byteAt q_178 rc_32 (Nat.le_of_ble_eq_true rfl) (Nat.le_of_ble_eq_true rfl) (fun _ => rfl) [] rfl (Nat.le_of_ble_eq_true rfl) dX4_cut_55 58 rfl ?_
          refine v_bipush (v := (32 : Int32)) hX dX4_cut_58 (by decide) 60 rfl ?_
          obtain ⟨J16, hJ16, hf⟩ := jn_x hf
          have HJ16 : ∀ (c17 : Int32) (c18 : (Nat → Int32)) (c19 : (Nat → Int32)), J16 c17 c18 c19 = some res → VC X (lkp r [(16, c17)]) (lkp g [(35, c18), (34, c19)]) u h [(0, .ref (aX X 32)), (3, .int x8)] [] 75 := by
            intro c17 c18 c19 hf
            rw [hJ16] at hf
            refine v_iload_n hX dX4_cut_75 rfl 1 rfl 76 rfl ?_
            refine v_istore_n hX dX4_cut_76 rfl (ltn hn (by decide)) 77 rfl [(1, .int x8), (0, .ref (aX X 32)), (3, .int x8)] rfl ?_
            refine v_goto hX dX4_cut_77 7 rfl ?_
            refine v_sub [(0, .ref (aX X 32)), (1, .int x8)] (sbc 1 rfl (sbc 0 rfl sbn)) ?_
            exact ih _ _ _ _ hf
          refine v_icmp_eq hX dX4_cut_60 75 rfl 63 rfl (fun h24 => ?_) (fun h24 => ?_)
          · replace hf := it_p h24 hf
            refine v_sub [(0, .ref (aX X 32)), (3, .int x8)] (sbc 0 rfl (sbc 3 rfl sbn)) ?_
            exact HJ16 _ _ _ hf
          · replace hf := it_n h24 hf
            refine v_aload_n hX dX4_cut_63 rfl 0 rfl 64 rfl ?_
            refine v_aload_n hX dX4_cut_64 rfl 0 rfl 65 rfl ?_
            refine v_iload_n hX dX4_cut_65 rfl 2 rfl 66 rfl ?_
            refine v_iload_n hX dX4_cut_66 rfl 1 rfl 67 rfl ?_
            refine v_iload_n hX dX4_cut_67 rfl 3 rfl 68 rfl ?_
            obtain ⟨v20, hv20, hf⟩ := bn1_e hf
            refine cv_i hX (c4_tokenOf (lkp r [(16, c2)]) (lkp g [(35, c3), (34, c4)]) u h _ _ _ hv20) wvX4_tokenOf q_182 rc_32 (Nat.le_of_ble_eq_true rfl) (Nat.le_of_ble_eq_true rfl) (fun _ => rfl) [.ref (aX X 32)] rfl (Nat.le_of_ble_eq_true rfl) dX4_cut_68 71 rfl ?_
            refine v_iload_n hX dX4_cut_71 rfl 1 rfl 72 rfl ?_
            obtain ⟨c21, c22, c23, hc21, hf⟩ := bn3_e hf
            refine cv_v hX (c4_addToken (lkp r [(16, c2)]) (lkp g [(35, c3), (34, c4)]) u h _ _ hc21) wvX4_addToken q_247 rc_32 (Nat.le_of_ble_eq_true rfl) (Nat.le_of_ble_eq_true rfl) (fun _ => rfl) [] rfl (Nat.le_of_ble_eq_true rfl) dX4_cut_72 75 rfl ?_
            refine v_mgr [(16, c21)] rfl ?_
            refine v_mgg [(35, c22), (34, c23)] rfl ?_
            refine v_sub [(0, .ref (aX X 32)), (3, .int x8)] (sbc 0 rfl (sbc 3 rfl sbn)) ?_
            exact HJ16 _ _ _ hf
        have HLK9 : ∀ (n10 : Nat) (x8 : Int32), f4_cut_L25 (r 15) (g 33) v7 n10 x8 K9 = some res → VC X (lkp r [(16, c2)]) (lkp g [(35, c3), (34, c4)]) u h [(0, .ref (aX X 32)), (1, .int x1), (2, .int v7), (3, .int x8)] [] 25 := by
          intro n10
          induction n10 with
          | zero => intro x8 hf; exact no_s hf
          | succ n10 ih =>
            intro x8 hf
            rw [f4_cut_L25] at hf
            refine v_iload_n hX dX4_cut_25 rfl 3 rfl 26 rfl ?_
            refine v_aload_n hX dX4_cut_26 rfl 0 rfl 27 rfl ?_
            refine gf_32_1 hX q_143 dX4_cut_27 ((r 15)) rfl 30 rfl ?_
            refine v_icmp_ge hX dX4_cut_30 53 rfl 33 rfl (fun h14 => ?_) (fun h14 => ?_)
            · replace hf := it_p h14 hf
              exact HK9 _ hf
            · replace hf := it_n h14 hf
              refine v_iload_n hX dX4_cut_33 rfl 2 rfl 34 rfl ?_
              refine v_iconst (v := (3 : Int32)) hX dX4_cut_34 (by decide) 35 rfl ?_
              refine v_icmp_eq hX dX4_cut_35 53 rfl 38 rfl (fun h13 => ?_) (fun h13 => ?_)
              · replace hf := it_p h13 hf
                exact HK9 _ hf
              · replace hf := it_n h13 hf
                refine v_aload_n hX dX4_cut_38 rfl 0 rfl 39 rfl ?_
                refine v_iload_n hX dX4_cut_39 rfl 3 rfl 40 rfl ?_
                obtain ⟨v11, hv11, hf⟩ := bn1_e hf
                refine cv_i hX (c4_sortAt (lkp r [(16, c2)]) (lkp g [(35, c3), (34, c4)]) u h _ hv11) wvX4_sortAt q_174 rc_32 (Nat.le_of_ble_eq_true rfl) (Nat.le_of_ble_eq_true rfl) (fun _ => rfl) [] rfl (Nat.le_of_ble_eq_true rfl) dX4_cut_40 43 rfl ?_
                refine v_iload_n hX dX4_cut_43 rfl 2 rfl 44 rfl ?_
                refine v_icmp_ne hX dX4_cut_44 53 rfl 47 rfl (fun h12 => ?_) (fun h12 => ?_)
                · replace hf := it_n h12 hf
                  exact HK9 _ hf
                · replace hf := it_p h12 hf
                  refine v_inc (c := (1 : Int32)) hX dX4_cut_47 3 rfl (by decide) (ltn hn (by decide)) 50 rfl [(3, .int (x8 + (1 : Int32))), (0, .ref (aX X 32)), (1, .int x1), (2, .int v7)] rfl ?_
                  refine v_goto hX dX4_cut_50 25 rfl ?_
                  refine v_sub [(0, .ref (aX X 32)), (1, .int x1), (2, .int v7), (3, .int (x8 + (1 : Int32)))] (sbc 1 rfl (sbc 2 rfl (sbc 3 rfl (sbc 0 rfl sbn)))) ?_
                  exact ih _ hf
        refine v_sub [(0, .ref (aX X 32)), (1, .int x1), (2, .int v7), (3, .int (x1 + (1 : Int32)))] (sbc 2 rfl (sbc 3 rfl (sbc 1 rfl (sbc 0 rfl sbn)))) ?_
        exact HLK9 _ _ hf
  refine v_sub [(0, .ref (aX X 32)), (1, .int (0 : Int32))] (sbc 1 rfl (sbc 0 rfl sbn)) ?_
  exact HLK5 _ _ _ _ _ hf
set_option maxRecDepth 100000 in
set_option maxHeartbeats 4000000 in
theorem c4_here (r : Nat → Int32) (g : Nat → Nat → Int32) (u : Nat → Int64) (h : Nat → Nat → Int64)  {res : Int32} (hf : f4_here (r 17) (r 16) (g 34) = some res) : MAi yX4_here cX4_here 1 (some .int) 0 (fun a => [.ref (a 32)]) r g u h res r g u h := by
  refine mi_i (by decide +kernel) (fun a => Nat.le_of_ble_eq_true rfl) (fun X hX hn hR => ?_)
  replace hR : ∀ q : Int32, some q = some res → ∀ lv pc, decode cX4_here pc = .ok (.ireturn, 1) → narrow .int (.int q) = .int q → VC X r g u h lv [.int q] pc := fun q hq => by cases hq; exact hR
  replace hX : CX X RX4 cX4_here 0 := hX
  show VC X r g u h [(0, .ref (aX X 32))] [] 0
  rw [f4_here] at hf
  refine v_aload_n hX dX4_here_0 rfl 0 rfl 1 rfl ?_
  refine gf_32_5 hX q_167 dX4_here_1 ((r 17)) rfl 4 rfl ?_
  refine v_if_lt hX dX4_here_4 30 rfl 7 rfl (fun h3 => ?_) (fun h3 => ?_)
  · replace hf := it_p h3 hf
    refine v_sipush (v := (3004 : Int32)) hX dX4_here_30 (by decide) 33 rfl ?_
    exact hR _ hf _ _ dX4_here_33 rfl
  · replace hf := it_n h3 hf
    refine v_aload_n hX dX4_here_7 rfl 0 rfl 8 rfl ?_
    refine gf_32_5 hX q_167 dX4_here_8 ((r 17)) rfl 11 rfl ?_
    refine v_aload_n hX dX4_here_11 rfl 0 rfl 12 rfl ?_
    refine gf_32_4 hX q_173 dX4_here_12 ((r 16)) rfl 15 rfl ?_
    refine v_icmp_ge hX dX4_here_15 30 rfl 18 rfl (fun h2 => ?_) (fun h2 => ?_)
    · replace hf := it_p h2 hf
      refine v_sipush (v := (3004 : Int32)) hX dX4_here_30 (by decide) 33 rfl ?_
      exact hR _ hf _ _ dX4_here_33 rfl
    · replace hf := it_n h2 hf
      refine v_aload_n hX dX4_here_18 rfl 0 rfl 19 rfl ?_
      refine gf_32_2 hX q_77 dX4_here_19 22 rfl ?_
      refine v_aload_n hX dX4_here_22 rfl 0 rfl 23 rfl ?_
      refine gf_32_5 hX q_167 dX4_here_23 ((r 17)) rfl 26 rfl ?_
      obtain ⟨hi1, hf⟩ := gd_e hf
      refine al_34 hX hi1 dX4_here_26 ((g 34) (r 17).toNatClampNeg) rfl 27 rfl ?_
      refine v_goto hX dX4_here_27 33 rfl ?_
      exact hR _ hf _ _ dX4_here_33 rfl
set_option maxRecDepth 100000 in
set_option maxHeartbeats 4000000 in
theorem c4_refuse (r : Nat → Int32) (g : Nat → Nat → Int32) (u : Nat → Int64) (h : Nat → Nat → Int64)  {res : Int32 × Int32} (hf : f4_refuse (r 17) (r 16) (r 22) (r 15) (g 35) = some res) : MAi yX4_refuse cX4_refuse 1 (some .boolean) 0 (fun a => [.ref (a 32)]) r g u h res.1 (lkp r [(22, res.2)]) g u h := by
  refine mi_i (by decide +kernel) (fun a => Nat.le_of_ble_eq_true rfl) (fun X hX hn hR => ?_)
  replace hR : ∀ q : Int32 × Int32, some q = some res → ∀ lv pc, decode cX4_refuse pc = .ok (.ireturn, 1) → narrow .boolean (.int q.1) = .int q.1 → VC X (lkp r [(22, q.2)]) g u h lv [.int q.1] pc := fun q hq => by cases hq; exact hR
  replace hX : CX X RX4 cX4_refuse 0 := hX
  refine v_opr [22] [(22, r 22)] rfl ?_
  show VC X (lkp r [(22, r 22)]) g u h [(0, .ref (aX X 32))] [] 0
  rw [f4_refuse] at hf
  refine v_aload_n hX dX4_refuse_0 rfl 0 rfl 1 rfl ?_
  refine v_aload_n hX dX4_refuse_1 rfl 0 rfl 2 rfl ?_
  refine gf_32_5 hX q_167 dX4_refuse_2 ((r 17)) rfl 5 rfl ?_
  obtain ⟨J1, hJ1, hf⟩ := jn_x hf
  have HJ1 : ∀ (s2 : Int32), J1 s2 = some res → VC X (lkp r [(22, (r 22))]) g u h [] [.int s2, .ref (aX X 32)] 35 := by
    intro s2 hf
    rw [hJ1] at hf
    refine pf_32_7 hX q_168 dX4_refuse_35 38 rfl [(22, s2)] rfl ?_
    refine v_iconst (v := (0 : Int32)) hX dX4_refuse_38 (by decide) 39 rfl ?_
    exact hR _ hf _ _ dX4_refuse_39 (bz_nar (v := (0 : Int32)) (by decide))
  obtain ⟨J3, hJ3, hf⟩ := jn_x hf
  have HJ3 : J3 = some res → VC X (lkp r [(22, (r 22))]) g u h [(0, .ref (aX X 32))] [.ref (aX X 32)] 31 := by
    intro hf
    rw [hJ3] at hf
    refine v_aload_n hX dX4_refuse_31 rfl 0 rfl 32 rfl ?_
    refine gf_32_1 hX q_143 dX4_refuse_32 ((r 15)) rfl 35 rfl ?_
    refine v_sub [] sbn ?_
    exact HJ1 _ hf
  refine v_if_lt hX dX4_refuse_5 31 rfl 8 rfl (fun h6 => ?_) (fun h6 => ?_)
  · replace hf := it_p h6 hf
    exact HJ3  hf
  · replace hf := it_n h6 hf
    refine v_aload_n hX dX4_refuse_8 rfl 0 rfl 9 rfl ?_
    refine gf_32_5 hX q_167 dX4_refuse_9 ((r 17)) rfl 12 rfl ?_
    refine v_aload_n hX dX4_refuse_12 rfl 0 rfl 13 rfl ?_
    refine gf_32_4 hX q_173 dX4_refuse_13 ((r 16)) rfl 16 rfl ?_
    refine v_icmp_ge hX dX4_refuse_16 31 rfl 19 rfl (fun h5 => ?_) (fun h5 => ?_)
    · replace hf := it_p h5 hf
      exact HJ3  hf
    · replace hf := it_n h5 hf
      refine v_aload_n hX dX4_refuse_19 rfl 0 rfl 20 rfl ?_
      refine gf_32_3 hX q_78 dX4_refuse_20 23 rfl ?_
      refine v_aload_n hX dX4_refuse_23 rfl 0 rfl 24 rfl ?_
      refine gf_32_5 hX q_167 dX4_refuse_24 ((r 17)) rfl 27 rfl ?_
      obtain ⟨hi4, hf⟩ := gd_e hf
      refine al_35 hX hi4 dX4_refuse_27 ((g 35) (r 17).toNatClampNeg) rfl 28 rfl ?_
      refine v_goto hX dX4_refuse_28 35 rfl ?_
      refine v_sub [] sbn ?_
      exact HJ1 _ hf
set_option maxRecDepth 100000 in
set_option maxHeartbeats 4000000 in
theorem c4_isValue (r : Nat → Int32) (g : Nat → Nat → Int32) (u : Nat → Int64) (h : Nat → Nat → Int64) (p0 : Int32) {res : Int32} (hf : f4_isValue p0 = some res) : MAi yX4_isValue cX4_isValue 1 (some .boolean) 0 (fun a => [.int p0]) r g u h res r g u h := by
  refine mi_i (by decide +kernel) (fun a => Nat.le_of_ble_eq_true rfl) (fun X hX hn hR => ?_)
  replace hR : ∀ q : Int32, some q = some res → ∀ lv pc, decode cX4_isValue pc = .ok (.ireturn, 1) → narrow .boolean (.int q) = .int q → VC X r g u h lv [.int q] pc := fun q hq => by cases hq; exact hR
  replace hX : CX X RX4 cX4_isValue 0 := hX
  show VC X r g u h [(0, .int p0)] [] 0
  rw [f4_isValue] at hf
  refine v_iload_n hX dX4_isValue_0 rfl 0 rfl 1 rfl ?_
  refine v_if_lt hX dX4_isValue_1 15 rfl 4 rfl (fun h2 => ?_) (fun h2 => ?_)
  · replace hf := it_p h2 hf
    refine v_iconst (v := (0 : Int32)) hX dX4_isValue_15 (by decide) 16 rfl ?_
    exact hR _ hf _ _ dX4_isValue_16 (bz_nar (v := (0 : Int32)) (by decide))
  · replace hf := it_n h2 hf
    refine v_iload_n hX dX4_isValue_4 rfl 0 rfl 5 rfl ?_
    refine v_sipush (v := (2000 : Int32)) hX dX4_isValue_5 (by decide) 8 rfl ?_
    refine v_icmp_ge hX dX4_isValue_8 15 rfl 11 rfl (fun h1 => ?_) (fun h1 => ?_)
    · replace hf := it_p h1 hf
      refine v_iconst (v := (0 : Int32)) hX dX4_isValue_15 (by decide) 16 rfl ?_
      exact hR _ hf _ _ dX4_isValue_16 (bz_nar (v := (0 : Int32)) (by decide))
    · replace hf := it_n h1 hf
      refine v_iconst (v := (1 : Int32)) hX dX4_isValue_11 (by decide) 12 rfl ?_
      refine v_goto hX dX4_isValue_12 16 rfl ?_
      exact hR _ hf _ _ dX4_isValue_16 (bz_nar (v := (1 : Int32)) (by decide))
set_option maxRecDepth 100000 in
set_option maxHeartbeats 4000000 in
theorem c4_readComparison (r : Nat → Int32) (g : Nat → Nat → Int32) (u : Nat → Int64) (h : Nat → Nat → Int64)  {res : Int32 × Int32 × Int32 × Int32 × (Nat → Int32)} (hf : f4_readComparison (r 17) (r 16) (r 18) (r 22) (r 15) (g 37) (g 35) (g 34) = some res) : MAi yX4_readComparison cX4_readComparison 4 (some .boolean) 1 (fun a => [.ref (a 32)]) r g u h res.1 (lkp r [(17, res.2.1), (18, res.2.2.1), (22, res.2.2.2.1)]) (lkp g [(37, res.2.2.2.2)]) u h := by
  refine mi_i (by decide +kernel) (fun a => Nat.le_of_ble_eq_true rfl) (fun X hX hn hR => ?_)
  replace hR : ∀ q : Int32 × Int32 × Int32 × Int32 × (Nat → Int32), some q = some res → ∀ lv pc, decode cX4_readComparison pc = .ok (.ireturn, 1) → narrow .boolean (.int q.1) = .int q.1 → VC X (lkp r [(17, q.2.1), (18, q.2.2.1), (22, q.2.2.2.1)]) (lkp g [(37, q.2.2.2.2)]) u h lv [.int q.1] pc := fun q hq => by cases hq; exact hR
  replace hX : CX X RX4 cX4_readComparison 1 := hX
  refine v_opr [17, 18, 22] [(17, r 17), (18, r 18), (22, r 22)] rfl ?_
  refine v_opg [37] [(37, g 37)] rfl ?_
  show VC X (lkp r [(17, r 17), (18, r 18), (22, r 22)]) (lkp g [(37, g 37)]) u h [(0, .ref (aX X 32))] [] 0
  rw [f4_readComparison] at hf
  refine v_aload_n hX dX4_readComparison_0 rfl 0 rfl 1 rfl ?_
  obtain ⟨v1, hv1, hf⟩ := bn1_e hf
  refine cv_i hX (c4_here (lkp r [(17, (r 17)), (18, (r 18)), (22, (r 22))]) (lkp g [(37, (g 37))]) u h hv1) wvX4_here q_251 rc_32 (Nat.le_of_ble_eq_true rfl) (Nat.le_of_ble_eq_true rfl) (fun _ => rfl) [] rfl (Nat.le_of_ble_eq_true rfl) dX4_readComparison_1 4 rfl ?_
  refine v_istore_n hX dX4_readComparison_4 rfl (ltn hn (by decide)) 5 rfl [(1, .int v1), (0, .ref (aX X 32))] rfl ?_
  refine v_iload_n hX dX4_readComparison_5 rfl 0 rfl 6 rfl ?_
  obtain ⟨v2, hv2, hf⟩ := bn1_e hf
  refine cs_i hX (c4_isValue (lkp r [(17, (r 17)), (18, (r 18)), (22, (r 22))]) (lkp g [(37, (g 37))]) u h _ hv2) wvX4_isValue q_288 (Nat.le_of_ble_eq_true rfl) (Nat.le_of_ble_eq_true rfl) (fun _ => rfl) [] rfl (Nat.le_of_ble_eq_true rfl) dX4_readComparison_6 9 rfl ?_
  refine v_if_ne hX dX4_readComparison_9 17 rfl 12 rfl (fun h26 => ?_) (fun h26 => ?_)
  · replace hf := it_n h26 hf
    refine v_aload_n hX dX4_readComparison_17 rfl 1 rfl 18 rfl ?_
    refine v_dup hX dX4_readComparison_18 rfl 19 rfl ?_
    refine gf_32_5 hX q_167 dX4_readComparison_19 ((r 17)) rfl 22 rfl ?_
    refine v_iconst (v := (1 : Int32)) hX dX4_readComparison_22 (by decide) 23 rfl ?_
    refine v_iadd hX dX4_readComparison_23 24 rfl ?_
    refine pf_32_5 hX q_167 dX4_readComparison_24 27 rfl [(17, ((r 17) + (1 : Int32))), (18, (r 18)), (22, (r 22))] rfl ?_
    refine v_aload_n hX dX4_readComparison_27 rfl 1 rfl 28 rfl ?_
    obtain ⟨v3, hv3, hf⟩ := bn1_e hf
    refine cv_i hX (c4_here (lkp r [(17, ((r 17) + (1 : Int32))), (18, (r 18)), (22, (r 22))]) (lkp g [(37, (g 37))]) u h hv3) wvX4_here q_251 rc_32 (Nat.le_of_ble_eq_true rfl) (Nat.le_of_ble_eq_true rfl) (fun _ => rfl) [] rfl (Nat.le_of_ble_eq_true rfl) dX4_readComparison_28 31 rfl ?_
    refine v_istore_n hX dX4_readComparison_31 rfl (ltn hn (by decide)) 32 rfl [(2, .int v3), (1, .int v1), (0, .ref (aX X 32))] rfl ?_
    refine v_iload_n hX dX4_readComparison_32 rfl 0 rfl 33 rfl ?_
    refine v_sipush (v := (2000 : Int32)) hX dX4_readComparison_33 (by decide) 36 rfl ?_
    obtain ⟨J4, hJ4, hf⟩ := jn_x hf
    have HJ4 : J4 = some res → VC X (lkp r [(17, ((r 17) + (1 : Int32))), (18, (r 18)), (22, (r 22))]) (lkp g [(37, (g 37))]) u h [(0, .ref (aX X 32)), (1, .int v1), (2, .int v3)] [] 58 := by
      intro hf
      rw [hJ4] at hf
      refine v_aload_n hX dX4_readComparison_58 rfl 0 rfl 59 rfl ?_
      refine v_dup hX dX4_readComparison_59 rfl 60 rfl ?_
      refine gf_32_5 hX q_167 dX4_readComparison_60 (((r 17) + (1 : Int32))) rfl 63 rfl ?_
      refine v_iconst (v := (1 : Int32)) hX dX4_readComparison_63 (by decide) 64 rfl ?_
      refine v_iadd hX dX4_readComparison_64 65 rfl ?_
      refine pf_32_5 hX q_167 dX4_readComparison_65 68 rfl [(17, (((r 17) + (1 : Int32)) + (1 : Int32))), (18, (r 18)), (22, (r 22))] rfl ?_
      refine v_aload_n hX dX4_readComparison_68 rfl 0 rfl 69 rfl ?_
      obtain ⟨v5, hv5, hf⟩ := bn1_e hf
      refine cv_i hX (c4_here (lkp r [(17, (((r 17) + (1 : Int32)) + (1 : Int32))), (18, (r 18)), (22, (r 22))]) (lkp g [(37, (g 37))]) u h hv5) wvX4_here q_251 rc_32 (Nat.le_of_ble_eq_true rfl) (Nat.le_of_ble_eq_true rfl) (fun _ => rfl) [] rfl (Nat.le_of_ble_eq_true rfl) dX4_readComparison_69 72 rfl ?_
      refine v_istore_n hX dX4_readComparison_72 rfl (ltn hn (by decide)) 73 rfl [(3, .int v5), (0, .ref (aX X 32)), (1, .int v1), (2, .int v3)] rfl ?_
      refine v_iload_n hX dX4_readComparison_73 rfl 0 rfl 74 rfl ?_
      obtain ⟨v6, hv6, hf⟩ := bn1_e hf
      refine cs_i hX (c4_isValue (lkp r [(17, (((r 17) + (1 : Int32)) + (1 : Int32))), (18, (r 18)), (22, (r 22))]) (lkp g [(37, (g 37))]) u h _ hv6) wvX4_isValue q_288 (Nat.le_of_ble_eq_true rfl) (Nat.le_of_ble_eq_true rfl) (fun _ => rfl) [] rfl (Nat.le_of_ble_eq_true rfl) dX4_readComparison_74 77 rfl ?_
      refine v_if_ne hX dX4_readComparison_77 85 rfl 80 rfl (fun h16 => ?_) (fun h16 => ?_)
      · replace hf := it_n h16 hf
        refine v_aload_n hX dX4_readComparison_85 rfl 1 rfl 86 rfl ?_
        refine v_dup hX dX4_readComparison_86 rfl 87 rfl ?_
        refine gf_32_5 hX q_167 dX4_readComparison_87 ((((r 17) + (1 : Int32)) + (1 : Int32))) rfl 90 rfl ?_
        refine v_iconst (v := (1 : Int32)) hX dX4_readComparison_90 (by decide) 91 rfl ?_
        refine v_iadd hX dX4_readComparison_91 92 rfl ?_
        refine pf_32_5 hX q_167 dX4_readComparison_92 95 rfl [(17, ((((r 17) + (1 : Int32)) + (1 : Int32)) + (1 : Int32))), (18, (r 18)), (22, (r 22))] rfl ?_
        refine v_aload_n hX dX4_readComparison_95 rfl 1 rfl 96 rfl ?_
        refine gf_32_6 hX q_80 dX4_readComparison_96 99 rfl ?_
        refine v_iload_n hX dX4_readComparison_99 rfl 2 rfl 100 rfl ?_
        obtain ⟨c7, c8, hc7, hf⟩ := bn2_e hf
        refine cv_v hX (c6_emit (lkp r [(17, ((((r 17) + (1 : Int32)) + (1 : Int32)) + (1 : Int32))), (18, (r 18)), (22, (r 22))]) (lkp g [(37, (g 37))]) u h _ hc7) wvX6_emit q_270 rc_36 (Nat.le_of_ble_eq_true rfl) (Nat.le_of_ble_eq_true rfl) (fun _ => rfl) [] rfl (Nat.le_of_ble_eq_true rfl) dX4_readComparison_100 103 rfl ?_
        refine v_mgr [(17, ((((r 17) + (1 : Int32)) + (1 : Int32)) + (1 : Int32))), (18, c7), (22, (r 22))] rfl ?_
        refine v_mgg [(37, c8)] rfl ?_
        refine v_aload_n hX dX4_readComparison_103 rfl 1 rfl 104 rfl ?_
        refine gf_32_6 hX q_80 dX4_readComparison_104 107 rfl ?_
        refine v_iload_n hX dX4_readComparison_107 rfl 0 rfl 108 rfl ?_
        obtain ⟨c9, c10, hc9, hf⟩ := bn2_e hf
        refine cv_v hX (c6_emit (lkp r [(17, ((((r 17) + (1 : Int32)) + (1 : Int32)) + (1 : Int32))), (18, c7), (22, (r 22))]) (lkp g [(37, c8)]) u h _ hc9) wvX6_emit q_270 rc_36 (Nat.le_of_ble_eq_true rfl) (Nat.le_of_ble_eq_true rfl) (fun _ => rfl) [] rfl (Nat.le_of_ble_eq_true rfl) dX4_readComparison_108 111 rfl ?_
        refine v_mgr [(17, ((((r 17) + (1 : Int32)) + (1 : Int32)) + (1 : Int32))), (18, c9), (22, (r 22))] rfl ?_
        refine v_mgg [(37, c10)] rfl ?_
        refine v_aload_n hX dX4_readComparison_111 rfl 1 rfl 112 rfl ?_
        refine gf_32_6 hX q_80 dX4_readComparison_112 115 rfl ?_
        refine v_iload_n hX dX4_readComparison_115 rfl 3 rfl 116 rfl ?_
        obtain ⟨c11, c12, hc11, hf⟩ := bn2_e hf
        refine cv_v hX (c6_emit (lkp r [(17, ((((r 17) + (1 : Int32)) + (1 : Int32)) + (1 : Int32))), (18, c9), (22, (r 22))]) (lkp g [(37, c10)]) u h _ hc11) wvX6_emit q_270 rc_36 (Nat.le_of_ble_eq_true rfl) (Nat.le_of_ble_eq_true rfl) (fun _ => rfl) [] rfl (Nat.le_of_ble_eq_true rfl) dX4_readComparison_116 119 rfl ?_
        refine v_mgr [(17, ((((r 17) + (1 : Int32)) + (1 : Int32)) + (1 : Int32))), (18, c11), (22, (r 22))] rfl ?_
        refine v_mgg [(37, c12)] rfl ?_
        refine v_iconst (v := (1 : Int32)) hX dX4_readComparison_119 (by decide) 120 rfl ?_
        exact hR _ hf _ _ dX4_readComparison_120 (bz_nar (v := (1 : Int32)) (by decide))
      · replace hf := it_p h16 hf
        refine v_aload_n hX dX4_readComparison_80 rfl 1 rfl 81 rfl ?_
        obtain ⟨v13, c14, hv13, hf⟩ := bn2_e hf
        refine cv_i hX (c4_refuse (lkp r [(17, (((r 17) + (1 : Int32)) + (1 : Int32))), (18, (r 18)), (22, (r 22))]) (lkp g [(37, (g 37))]) u h hv13) wvX4_refuse q_259 rc_32 (Nat.le_of_ble_eq_true rfl) (Nat.le_of_ble_eq_true rfl) (fun _ => rfl) [] rfl (Nat.le_of_ble_eq_true rfl) dX4_readComparison_81 84 rfl ?_
        refine v_mgr [(17, (((r 17) + (1 : Int32)) + (1 : Int32))), (18, (r 18)), (22, c14)] rfl ?_
        obtain ⟨hb15, hf⟩ := gd_e hf
        exact hR _ hf _ _ dX4_readComparison_84 (bz_nar hb15)
    refine v_icmp_eq hX dX4_readComparison_36 58 rfl 39 rfl (fun h22 => ?_) (fun h22 => ?_)
    · replace hf := it_p h22 hf
      refine v_sub [(0, .ref (aX X 32)), (1, .int v1), (2, .int v3)] (sbc 2 rfl (sbc 1 rfl (sbc 0 rfl sbn))) ?_
      exact HJ4  hf
    · replace hf := it_n h22 hf
      refine v_iload_n hX dX4_readComparison_39 rfl 0 rfl 40 rfl ?_
      refine v_sipush (v := (2001 : Int32)) hX dX4_readComparison_40 (by decide) 43 rfl ?_
      refine v_icmp_eq hX dX4_readComparison_43 58 rfl 46 rfl (fun h21 => ?_) (fun h21 => ?_)
      · replace hf := it_p h21 hf
        refine v_sub [(0, .ref (aX X 32)), (1, .int v1), (2, .int v3)] (sbc 2 rfl (sbc 1 rfl (sbc 0 rfl sbn))) ?_
        exact HJ4  hf
      · replace hf := it_n h21 hf
        refine v_iload_n hX dX4_readComparison_46 rfl 0 rfl 47 rfl ?_
        refine v_sipush (v := (2002 : Int32)) hX dX4_readComparison_47 (by decide) 50 rfl ?_
        refine v_icmp_eq hX dX4_readComparison_50 58 rfl 53 rfl (fun h20 => ?_) (fun h20 => ?_)
        · replace hf := it_p h20 hf
          refine v_sub [(0, .ref (aX X 32)), (1, .int v1), (2, .int v3)] (sbc 2 rfl (sbc 1 rfl (sbc 0 rfl sbn))) ?_
          exact HJ4  hf
        · replace hf := it_n h20 hf
          refine v_aload_n hX dX4_readComparison_53 rfl 2 rfl 54 rfl ?_
          obtain ⟨v17, c18, hv17, hf⟩ := bn2_e hf
          refine cv_i hX (c4_refuse (lkp r [(17, ((r 17) + (1 : Int32))), (18, (r 18)), (22, (r 22))]) (lkp g [(37, (g 37))]) u h hv17) wvX4_refuse q_259 rc_32 (Nat.le_of_ble_eq_true rfl) (Nat.le_of_ble_eq_true rfl) (fun _ => rfl) [] rfl (Nat.le_of_ble_eq_true rfl) dX4_readComparison_54 57 rfl ?_
          refine v_mgr [(17, ((r 17) + (1 : Int32))), (18, (r 18)), (22, c18)] rfl ?_
          obtain ⟨hb19, hf⟩ := gd_e hf
          exact hR _ hf _ _ dX4_readComparison_57 (bz_nar hb19)
  · replace hf := it_p h26 hf
    refine v_aload_n hX dX4_readComparison_12 rfl 1 rfl 13 rfl ?_
    obtain ⟨v23, c24, hv23, hf⟩ := bn2_e hf
    refine cv_i hX (c4_refuse (lkp r [(17, (r 17)), (18, (r 18)), (22, (r 22))]) (lkp g [(37, (g 37))]) u h hv23) wvX4_refuse q_259 rc_32 (Nat.le_of_ble_eq_true rfl) (Nat.le_of_ble_eq_true rfl) (fun _ => rfl) [] rfl (Nat.le_of_ble_eq_true rfl) dX4_readComparison_13 16 rfl ?_
    refine v_mgr [(17, (r 17)), (18, (r 18)), (22, c24)] rfl ?_
    obtain ⟨hb25, hf⟩ := gd_e hf
    exact hR _ hf _ _ dX4_readComparison_16 (bz_nar hb25)
set_option maxRecDepth 100000 in
set_option maxHeartbeats 4000000 in
theorem c4_readBracket (rc : Int32 → Int32 → Int32 → Int32 → Int32 → (Nat → Int32) → (Nat → Int32) → (Nat → Int32) → Int32 → Option (Int32 × Int32 × Int32 × Int32 × (Nat → Int32))) (d0 : Nat) (hd0 : 10 ≤ d0) (hrc : ∀ (r : Nat → Int32) (g : Nat → Nat → Int32) (u : Nat → Int64) (h : Nat → Nat → Int64) (p1 : Int32) (res : Int32 × Int32 × Int32 × Int32 × (Nat → Int32)), rc (r 17) (r 16) (r 18) (r 22) (r 15) (g 37) (g 35) (g 34) p1 = some res → MAi yX4_readCond cX4_readCond 3 (some .boolean) d0 (fun a => [.ref (a 32), .int p1]) r g u h res.1 (lkp r [(17, res.2.1), (18, res.2.2.1), (22, res.2.2.2.1)]) (lkp g [(37, res.2.2.2.2)]) u h) (r : Nat → Int32) (g : Nat → Nat → Int32) (u : Nat → Int64) (h : Nat → Nat → Int64) (p1 : Int32) {res : Int32 × Int32 × Int32 × Int32 × (Nat → Int32)} (hf : f4_readBracket rc (r 17) (r 16) (r 18) (r 22) (r 15) (g 37) (g 35) (g 34) p1 = some res) : MAi yX4_readBracket cX4_readBracket 2 (some .boolean) (d0 + 1) (fun a => [.ref (a 32), .int p1]) r g u h res.1 (lkp r [(17, res.2.1), (18, res.2.2.1), (22, res.2.2.2.1)]) (lkp g [(37, res.2.2.2.2)]) u h := by
  refine mi_i (by decide +kernel) (fun a => Nat.le_of_ble_eq_true rfl) (fun X hX hn hR => ?_)
  replace hR : ∀ q : Int32 × Int32 × Int32 × Int32 × (Nat → Int32), some q = some res → ∀ lv pc, decode cX4_readBracket pc = .ok (.ireturn, 1) → narrow .boolean (.int q.1) = .int q.1 → VC X (lkp r [(17, q.2.1), (18, q.2.2.1), (22, q.2.2.2.1)]) (lkp g [(37, q.2.2.2.2)]) u h lv [.int q.1] pc := fun q hq => by cases hq; exact hR
  replace hX : CX X RX4 cX4_readBracket (d0 + 1) := hX
  refine v_opr [17, 18, 22] [(17, r 17), (18, r 18), (22, r 22)] rfl ?_
  refine v_opg [37] [(37, g 37)] rfl ?_
  show VC X (lkp r [(17, r 17), (18, r 18), (22, r 22)]) (lkp g [(37, g 37)]) u h [(0, .ref (aX X 32)), (1, .int p1)] [] 0
  rw [f4_readBracket] at hf
  refine v_iload_n hX dX4_readBracket_0 rfl 1 rfl 1 rfl ?_
  refine v_iconst (v := (3 : Int32)) hX dX4_readBracket_1 (by decide) 2 rfl ?_
  refine v_icmp_lt hX dX4_readBracket_2 10 rfl 5 rfl (fun h15 => ?_) (fun h15 => ?_)
  · replace hf := it_p h15 hf
    refine v_aload_n hX dX4_readBracket_10 rfl 0 rfl 11 rfl ?_
    refine v_dup hX dX4_readBracket_11 rfl 12 rfl ?_
    refine gf_32_5 hX q_167 dX4_readBracket_12 ((r 17)) rfl 15 rfl ?_
    refine v_iconst (v := (1 : Int32)) hX dX4_readBracket_15 (by decide) 16 rfl ?_
    refine v_iadd hX dX4_readBracket_16 17 rfl ?_
    refine pf_32_5 hX q_167 dX4_readBracket_17 20 rfl [(17, ((r 17) + (1 : Int32))), (18, (r 18)), (22, (r 22))] rfl ?_
    refine v_aload_n hX dX4_readBracket_20 rfl 0 rfl 21 rfl ?_
    refine v_iload_n hX dX4_readBracket_21 rfl 1 rfl 22 rfl ?_
    refine v_iconst (v := (1 : Int32)) hX dX4_readBracket_22 (by decide) 23 rfl ?_
    refine v_iadd hX dX4_readBracket_23 24 rfl ?_
    obtain ⟨v1, c2, c3, c4, c5, hv1, hf⟩ := bn5_e hf
    refine cv_i hX (hrc (lkp r [(17, ((r 17) + (1 : Int32))), (18, (r 18)), (22, (r 22))]) (lkp g [(37, (g 37))]) u h _ _ hv1) wvX4_readCond q_263 rc_32 (by omega) (Nat.le_of_ble_eq_true rfl) (fun _ => rfl) [] rfl (Nat.le_of_ble_eq_true rfl) dX4_readBracket_24 27 rfl ?_
    refine v_mgr [(17, c2), (18, c3), (22, c4)] rfl ?_
    refine v_mgg [(37, c5)] rfl ?_
    refine v_if_ne hX dX4_readBracket_27 32 rfl 30 rfl (fun h11 => ?_) (fun h11 => ?_)
    · replace hf := it_n h11 hf
      refine v_aload_n hX dX4_readBracket_32 rfl 0 rfl 33 rfl ?_
      obtain ⟨v6, hv6, hf⟩ := bn1_e hf
      refine cv_i hX (c4_here (lkp r [(17, c2), (18, c3), (22, c4)]) (lkp g [(37, c5)]) u h hv6) wvX4_here q_251 rc_32 (by omega) (Nat.le_of_ble_eq_true rfl) (fun _ => rfl) [] rfl (Nat.le_of_ble_eq_true rfl) dX4_readBracket_33 36 rfl ?_
      refine v_sipush (v := (3002 : Int32)) hX dX4_readBracket_36 (by decide) 39 rfl ?_
      refine v_icmp_eq hX dX4_readBracket_39 47 rfl 42 rfl (fun h10 => ?_) (fun h10 => ?_)
      · replace hf := it_p h10 hf
        refine v_aload_n hX dX4_readBracket_47 rfl 0 rfl 48 rfl ?_
        refine v_dup hX dX4_readBracket_48 rfl 49 rfl ?_
        refine gf_32_5 hX q_167 dX4_readBracket_49 (c2) rfl 52 rfl ?_
        refine v_iconst (v := (1 : Int32)) hX dX4_readBracket_52 (by decide) 53 rfl ?_
        refine v_iadd hX dX4_readBracket_53 54 rfl ?_
        refine pf_32_5 hX q_167 dX4_readBracket_54 57 rfl [(17, (c2 + (1 : Int32))), (18, c3), (22, c4)] rfl ?_
        refine v_iconst (v := (1 : Int32)) hX dX4_readBracket_57 (by decide) 58 rfl ?_
        exact hR _ hf _ _ dX4_readBracket_58 (bz_nar (v := (1 : Int32)) (by decide))
      · replace hf := it_n h10 hf
        refine v_aload_n hX dX4_readBracket_42 rfl 0 rfl 43 rfl ?_
        obtain ⟨v7, c8, hv7, hf⟩ := bn2_e hf
        refine cv_i hX (c4_refuse (lkp r [(17, c2), (18, c3), (22, c4)]) (lkp g [(37, c5)]) u h hv7) wvX4_refuse q_259 rc_32 (by omega) (Nat.le_of_ble_eq_true rfl) (fun _ => rfl) [] rfl (Nat.le_of_ble_eq_true rfl) dX4_readBracket_43 46 rfl ?_
        refine v_mgr [(17, c2), (18, c3), (22, c8)] rfl ?_
        obtain ⟨hb9, hf⟩ := gd_e hf
        exact hR _ hf _ _ dX4_readBracket_46 (bz_nar hb9)
    · replace hf := it_p h11 hf
      refine v_iconst (v := (0 : Int32)) hX dX4_readBracket_30 (by decide) 31 rfl ?_
      exact hR _ hf _ _ dX4_readBracket_31 (bz_nar (v := (0 : Int32)) (by decide))
  · replace hf := it_n h15 hf
    refine v_aload_n hX dX4_readBracket_5 rfl 0 rfl 6 rfl ?_
    obtain ⟨v12, c13, hv12, hf⟩ := bn2_e hf
    refine cv_i hX (c4_refuse (lkp r [(17, (r 17)), (18, (r 18)), (22, (r 22))]) (lkp g [(37, (g 37))]) u h hv12) wvX4_refuse q_259 rc_32 (by omega) (Nat.le_of_ble_eq_true rfl) (fun _ => rfl) [] rfl (Nat.le_of_ble_eq_true rfl) dX4_readBracket_6 9 rfl ?_
    refine v_mgr [(17, (r 17)), (18, (r 18)), (22, c13)] rfl ?_
    obtain ⟨hb14, hf⟩ := gd_e hf
    exact hR _ hf _ _ dX4_readBracket_9 (bz_nar hb14)
set_option maxRecDepth 100000 in
set_option maxHeartbeats 4000000 in
theorem c4_readOne (rc : Int32 → Int32 → Int32 → Int32 → Int32 → (Nat → Int32) → (Nat → Int32) → (Nat → Int32) → Int32 → Option (Int32 × Int32 × Int32 × Int32 × (Nat → Int32))) (d0 : Nat) (hd0 : 10 ≤ d0) (hrc : ∀ (r : Nat → Int32) (g : Nat → Nat → Int32) (u : Nat → Int64) (h : Nat → Nat → Int64) (p1 : Int32) (res : Int32 × Int32 × Int32 × Int32 × (Nat → Int32)), rc (r 17) (r 16) (r 18) (r 22) (r 15) (g 37) (g 35) (g 34) p1 = some res → MAi yX4_readCond cX4_readCond 3 (some .boolean) d0 (fun a => [.ref (a 32), .int p1]) r g u h res.1 (lkp r [(17, res.2.1), (18, res.2.2.1), (22, res.2.2.2.1)]) (lkp g [(37, res.2.2.2.2)]) u h) (r : Nat → Int32) (g : Nat → Nat → Int32) (u : Nat → Int64) (h : Nat → Nat → Int64) (p1 : Int32) {res : Int32 × Int32 × Int32 × Int32 × (Nat → Int32)} (hf : f4_readOne rc (r 17) (r 16) (r 18) (r 22) (r 15) (g 37) (g 35) (g 34) p1 = some res) : MAi yX4_readOne cX4_readOne 4 (some .boolean) (d0 + 2) (fun a => [.ref (a 32), .int p1]) r g u h res.1 (lkp r [(17, res.2.1), (18, res.2.2.1), (22, res.2.2.2.1)]) (lkp g [(37, res.2.2.2.2)]) u h := by
  refine mi_i (by decide +kernel) (fun a => Nat.le_of_ble_eq_true rfl) (fun X hX hn hR => ?_)
  replace hR : ∀ q : Int32 × Int32 × Int32 × Int32 × (Nat → Int32), some q = some res → ∀ lv pc, decode cX4_readOne pc = .ok (.ireturn, 1) → narrow .boolean (.int q.1) = .int q.1 → VC X (lkp r [(17, q.2.1), (18, q.2.2.1), (22, q.2.2.2.1)]) (lkp g [(37, q.2.2.2.2)]) u h lv [.int q.1] pc := fun q hq => by cases hq; exact hR
  replace hX : CX X RX4 cX4_readOne (d0 + 2) := hX
  refine v_opr [17, 18, 22] [(17, r 17), (18, r 18), (22, r 22)] rfl ?_
  refine v_opg [37] [(37, g 37)] rfl ?_
  show VC X (lkp r [(17, r 17), (18, r 18), (22, r 22)]) (lkp g [(37, g 37)]) u h [(0, .ref (aX X 32)), (1, .int p1)] [] 0
  rw [f4_readOne] at hf
  refine v_iconst (v := (0 : Int32)) hX dX4_readOne_0 (by decide) 1 rfl ?_
  refine v_istore_n hX dX4_readOne_1 rfl (ltn hn (by decide)) 2 rfl [(2, .int (0 : Int32)), (0, .ref (aX X 32)), (1, .int p1)] rfl ?_
  refine v_iconst (v := (0 : Int32)) hX dX4_readOne_2 (by decide) 3 rfl ?_
  refine v_istore_n hX dX4_readOne_3 rfl (ltn hn (by decide)) 4 rfl [(3, .int (0 : Int32)), (2, .int (0 : Int32)), (0, .ref (aX X 32)), (1, .int p1)] rfl ?_
  obtain ⟨K4, hK4, hf⟩ := jn_x hf
  have HK4 : ∀ (x1 : Int32) (x2 : Int32) (c3 : Int32), K4 x1 x2 c3 = some res → VC X (lkp r [(17, c3), (18, (r 18)), (22, (r 22))]) (lkp g [(37, (g 37))]) u h [(0, .ref (aX X 32)), (1, .int p1), (2, .int x1)] [] 47 := by
    intro x1 x2 c3 hf
    rw [hK4] at hf
    refine v_aload_n hX dX4_readOne_47 rfl 0 rfl 48 rfl ?_
    obtain ⟨v12, hv12, hf⟩ := bn1_e hf
    refine cv_i hX (c4_here (lkp r [(17, c3), (18, (r 18)), (22, (r 22))]) (lkp g [(37, (g 37))]) u h hv12) wvX4_here q_251 rc_32 (by omega) (Nat.le_of_ble_eq_true rfl) (fun _ => rfl) [] rfl (Nat.le_of_ble_eq_true rfl) dX4_readOne_48 51 rfl ?_
    refine v_sipush (v := (3001 : Int32)) hX dX4_readOne_51 (by decide) 54 rfl ?_
    obtain ⟨J13, hJ13, hf⟩ := jn_x hf
    have HJ13 : ∀ (s14 : Int32) (c15 : Int32) (c16 : Int32) (c17 : Int32) (c18 : (Nat → Int32)), J13 s14 c15 c16 c17 c18 = some res → VC X (lkp r [(17, c15), (18, c16), (22, c17)]) (lkp g [(37, c18)]) u h [(0, .ref (aX X 32)), (2, .int x1)] [.int s14] 69 := by
      intro s14 c15 c16 c17 c18 hf
      rw [hJ13] at hf
      refine v_istore_n hX dX4_readOne_69 rfl (ltn hn (by decide)) 70 rfl [(3, .int s14), (0, .ref (aX X 32)), (2, .int x1)] rfl ?_
      refine v_iload_n hX dX4_readOne_70 rfl 0 rfl 71 rfl ?_
      refine v_if_eq hX dX4_readOne_71 88 rfl 74 rfl (fun h25 => ?_) (fun h25 => ?_)
      · replace hf := it_p h25 hf
        refine v_iload_n hX dX4_readOne_88 rfl 0 rfl 89 rfl ?_
        obtain ⟨hb19, hf⟩ := gd_e hf
        exact hR _ hf _ _ dX4_readOne_89 (bz_nar hb19)
      · replace hf := it_n h25 hf
        refine v_iload_n hX dX4_readOne_74 rfl 2 rfl 75 rfl ?_
        refine v_if_eq hX dX4_readOne_75 88 rfl 78 rfl (fun h24 => ?_) (fun h24 => ?_)
        · replace hf := it_p h24 hf
          refine v_iload_n hX dX4_readOne_88 rfl 0 rfl 89 rfl ?_
          obtain ⟨hb20, hf⟩ := gd_e hf
          exact hR _ hf _ _ dX4_readOne_89 (bz_nar hb20)
        · replace hf := it_n h24 hf
          refine v_aload_n hX dX4_readOne_78 rfl 1 rfl 79 rfl ?_
          refine gf_32_6 hX q_80 dX4_readOne_79 82 rfl ?_
          refine v_sipush (v := (2003 : Int32)) hX dX4_readOne_82 (by decide) 85 rfl ?_
          obtain ⟨c21, c22, hc21, hf⟩ := bn2_e hf
          refine cv_v hX (c6_emit (lkp r [(17, c15), (18, c16), (22, c17)]) (lkp g [(37, c18)]) u h _ hc21) wvX6_emit q_270 rc_36 (by omega) (Nat.le_of_ble_eq_true rfl) (fun _ => rfl) [] rfl (Nat.le_of_ble_eq_true rfl) dX4_readOne_85 88 rfl ?_
          refine v_mgr [(17, c15), (18, c21), (22, c17)] rfl ?_
          refine v_mgg [(37, c22)] rfl ?_
          refine v_iload_n hX dX4_readOne_88 rfl 0 rfl 89 rfl ?_
          obtain ⟨hb23, hf⟩ := gd_e hf
          exact hR _ hf _ _ dX4_readOne_89 (bz_nar hb23)
    refine v_icmp_ne hX dX4_readOne_54 65 rfl 57 rfl (fun h36 => ?_) (fun h36 => ?_)
    · replace hf := it_n h36 hf
      refine v_aload_n hX dX4_readOne_65 rfl 0 rfl 66 rfl ?_
      obtain ⟨v26, c27, c28, c29, c30, hv26, hf⟩ := bn5_e hf
      refine cv_i hX (c4_readComparison (lkp r [(17, c3), (18, (r 18)), (22, (r 22))]) (lkp g [(37, (g 37))]) u h hv26) wvX4_readComparison q_284 rc_32 (by omega) (Nat.le_of_ble_eq_true rfl) (fun _ => rfl) [] rfl (Nat.le_of_ble_eq_true rfl) dX4_readOne_66 69 rfl ?_
      refine v_mgr [(17, c27), (18, c28), (22, c29)] rfl ?_
      refine v_mgg [(37, c30)] rfl ?_
      refine v_sub [(0, .ref (aX X 32)), (2, .int x1)] (sbc 0 rfl (sbc 2 rfl sbn)) ?_
      exact HJ13 _ _ _ _ _ hf
    · replace hf := it_p h36 hf
      refine v_aload_n hX dX4_readOne_57 rfl 0 rfl 58 rfl ?_
      refine v_iload_n hX dX4_readOne_58 rfl 1 rfl 59 rfl ?_
      obtain ⟨v31, c32, c33, c34, c35, hv31, hf⟩ := bn5_e hf
      refine cv_i hX (c4_readBracket rc d0 hd0 hrc (lkp r [(17, c3), (18, (r 18)), (22, (r 22))]) (lkp g [(37, (g 37))]) u h _ hv31) wvX4_readBracket q_281 rc_32 (by omega) (Nat.le_of_ble_eq_true rfl) (fun _ => rfl) [] rfl (Nat.le_of_ble_eq_true rfl) dX4_readOne_59 62 rfl ?_
      refine v_mgr [(17, c32), (18, c33), (22, c34)] rfl ?_
      refine v_mgg [(37, c35)] rfl ?_
      refine v_goto hX dX4_readOne_62 69 rfl ?_
      refine v_sub [(0, .ref (aX X 32)), (2, .int x1)] (sbc 0 rfl (sbc 2 rfl sbn)) ?_
      exact HJ13 _ _ _ _ _ hf
  have HLK4 : ∀ (n5 : Nat) (x1 : Int32) (x2 : Int32) (c3 : Int32), f4_readOne_L4 rc (r 16) (g 34) n5 x1 x2 c3 K4 = some res → VC X (lkp r [(17, c3), (18, (r 18)), (22, (r 22))]) (lkp g [(37, (g 37))]) u h [(0, .ref (aX X 32)), (1, .int p1), (2, .int x1), (3, .int x2)] [] 4 := by
    intro n5
    induction n5 with
    | zero => intro x1 x2 c3 hf; exact no_s hf
    | succ n5 ih =>
      intro x1 x2 c3 hf
      rw [f4_readOne_L4] at hf
      refine v_iload_n hX dX4_readOne_4 rfl 3 rfl 5 rfl ?_
      refine v_sipush (v := (200 : Int32)) hX dX4_readOne_5 (by decide) 8 rfl ?_
      refine v_icmp_ge hX dX4_readOne_8 47 rfl 11 rfl (fun h11 => ?_) (fun h11 => ?_)
      · replace hf := it_p h11 hf
        refine v_sub [(0, .ref (aX X 32)), (1, .int p1), (2, .int x1)] (sbc 0 rfl (sbc 1 rfl (sbc 2 rfl sbn))) ?_
        exact HK4 _ _ _ hf
      · replace hf := it_n h11 hf
        refine v_aload_n hX dX4_readOne_11 rfl 0 rfl 12 rfl ?_
        obtain ⟨v6, hv6, hf⟩ := bn1_e hf
        refine cv_i hX (c4_here (lkp r [(17, c3), (18, (r 18)), (22, (r 22))]) (lkp g [(37, (g 37))]) u h hv6) wvX4_here q_251 rc_32 (by omega) (Nat.le_of_ble_eq_true rfl) (fun _ => rfl) [] rfl (Nat.le_of_ble_eq_true rfl) dX4_readOne_12 15 rfl ?_
        refine v_sipush (v := (2003 : Int32)) hX dX4_readOne_15 (by decide) 18 rfl ?_
        refine v_icmp_ne hX dX4_readOne_18 47 rfl 21 rfl (fun h10 => ?_) (fun h10 => ?_)
        · replace hf := it_n h10 hf
          refine v_sub [(0, .ref (aX X 32)), (1, .int p1), (2, .int x1)] (sbc 0 rfl (sbc 1 rfl (sbc 2 rfl sbn))) ?_
          exact HK4 _ _ _ hf
        · replace hf := it_p h10 hf
          refine v_iload_n hX dX4_readOne_21 rfl 2 rfl 22 rfl ?_
          obtain ⟨J7, hJ7, hf⟩ := jn_x hf
          have HJ7 : ∀ (s8 : Int32), J7 s8 = some res → VC X (lkp r [(17, c3), (18, (r 18)), (22, (r 22))]) (lkp g [(37, (g 37))]) u h [(0, .ref (aX X 32)), (1, .int p1), (3, .int x2)] [.int s8] 30 := by
            intro s8 hf
            rw [hJ7] at hf
            refine v_istore_n hX dX4_readOne_30 rfl (ltn hn (by decide)) 31 rfl [(2, .int s8), (0, .ref (aX X 32)), (1, .int p1), (3, .int x2)] rfl ?_
            refine v_aload_n hX dX4_readOne_31 rfl 1 rfl 32 rfl ?_
            refine v_dup hX dX4_readOne_32 rfl 33 rfl ?_
            refine gf_32_5 hX q_167 dX4_readOne_33 (c3) rfl 36 rfl ?_
            refine v_iconst (v := (1 : Int32)) hX dX4_readOne_36 (by decide) 37 rfl ?_
            refine v_iadd hX dX4_readOne_37 38 rfl ?_
            refine pf_32_5 hX q_167 dX4_readOne_38 41 rfl [(17, (c3 + (1 : Int32))), (18, (r 18)), (22, (r 22))] rfl ?_
            refine v_inc (c := (1 : Int32)) hX dX4_readOne_41 3 rfl (by decide) (ltn hn (by decide)) 44 rfl [(3, .int (x2 + (1 : Int32))), (2, .int s8), (0, .ref (aX X 32)), (1, .int p1)] rfl ?_
            refine v_goto hX dX4_readOne_44 4 rfl ?_
            refine v_sub [(0, .ref (aX X 32)), (1, .int p1), (2, .int s8), (3, .int (x2 + (1 : Int32)))] (sbc 2 rfl (sbc 3 rfl (sbc 1 rfl (sbc 0 rfl sbn)))) ?_
            exact ih _ _ _ hf
          refine v_if_ne hX dX4_readOne_22 29 rfl 25 rfl (fun h9 => ?_) (fun h9 => ?_)
          · replace hf := it_n h9 hf
            refine v_iconst (v := (0 : Int32)) hX dX4_readOne_29 (by decide) 30 rfl ?_
            refine v_sub [(0, .ref (aX X 32)), (1, .int p1), (3, .int x2)] (sbc 0 rfl (sbc 1 rfl (sbc 3 rfl sbn))) ?_
            exact HJ7 _ hf
          · replace hf := it_p h9 hf
            refine v_iconst (v := (1 : Int32)) hX dX4_readOne_25 (by decide) 26 rfl ?_
            refine v_goto hX dX4_readOne_26 30 rfl ?_
            refine v_sub [(0, .ref (aX X 32)), (1, .int p1), (3, .int x2)] (sbc 0 rfl (sbc 1 rfl (sbc 3 rfl sbn))) ?_
            exact HJ7 _ hf
  refine v_sub [(0, .ref (aX X 32)), (1, .int p1), (2, .int (0 : Int32)), (3, .int (0 : Int32))] (sbc 2 rfl (sbc 3 rfl (sbc 1 rfl (sbc 0 rfl sbn)))) ?_
  exact HLK4 _ _ _ _ hf
set_option maxRecDepth 100000 in
set_option maxHeartbeats 4000000 in
theorem c4_readAll (rc : Int32 → Int32 → Int32 → Int32 → Int32 → (Nat → Int32) → (Nat → Int32) → (Nat → Int32) → Int32 → Option (Int32 × Int32 × Int32 × Int32 × (Nat → Int32))) (d0 : Nat) (hd0 : 10 ≤ d0) (hrc : ∀ (r : Nat → Int32) (g : Nat → Nat → Int32) (u : Nat → Int64) (h : Nat → Nat → Int64) (p1 : Int32) (res : Int32 × Int32 × Int32 × Int32 × (Nat → Int32)), rc (r 17) (r 16) (r 18) (r 22) (r 15) (g 37) (g 35) (g 34) p1 = some res → MAi yX4_readCond cX4_readCond 3 (some .boolean) d0 (fun a => [.ref (a 32), .int p1]) r g u h res.1 (lkp r [(17, res.2.1), (18, res.2.2.1), (22, res.2.2.2.1)]) (lkp g [(37, res.2.2.2.2)]) u h) (r : Nat → Int32) (g : Nat → Nat → Int32) (u : Nat → Int64) (h : Nat → Nat → Int64) (p1 : Int32) {res : Int32 × Int32 × Int32 × Int32 × (Nat → Int32)} (hf : f4_readAll rc (r 17) (r 16) (r 18) (r 22) (r 15) (g 37) (g 35) (g 34) p1 = some res) : MAi yX4_readAll cX4_readAll 3 (some .boolean) (d0 + 3) (fun a => [.ref (a 32), .int p1]) r g u h res.1 (lkp r [(17, res.2.1), (18, res.2.2.1), (22, res.2.2.2.1)]) (lkp g [(37, res.2.2.2.2)]) u h := by
  refine mi_i (by decide +kernel) (fun a => Nat.le_of_ble_eq_true rfl) (fun X hX hn hR => ?_)
  replace hR : ∀ q : Int32 × Int32 × Int32 × Int32 × (Nat → Int32), some q = some res → ∀ lv pc, decode cX4_readAll pc = .ok (.ireturn, 1) → narrow .boolean (.int q.1) = .int q.1 → VC X (lkp r [(17, q.2.1), (18, q.2.2.1), (22, q.2.2.2.1)]) (lkp g [(37, q.2.2.2.2)]) u h lv [.int q.1] pc := fun q hq => by cases hq; exact hR
  replace hX : CX X RX4 cX4_readAll (d0 + 3) := hX
  refine v_opr [17, 18, 22] [(17, r 17), (18, r 18), (22, r 22)] rfl ?_
  refine v_opg [37] [(37, g 37)] rfl ?_
  show VC X (lkp r [(17, r 17), (18, r 18), (22, r 22)]) (lkp g [(37, g 37)]) u h [(0, .ref (aX X 32)), (1, .int p1)] [] 0
  rw [f4_readAll] at hf
  refine v_aload_n hX dX4_readAll_0 rfl 0 rfl 1 rfl ?_
  refine v_iload_n hX dX4_readAll_1 rfl 1 rfl 2 rfl ?_
  obtain ⟨v1, c2, c3, c4, c5, hv1, hf⟩ := bn5_e hf
  refine cv_i hX (c4_readOne rc d0 hd0 hrc (lkp r [(17, (r 17)), (18, (r 18)), (22, (r 22))]) (lkp g [(37, (g 37))]) u h _ hv1) wvX4_readOne q_276 rc_32 (by omega) (Nat.le_of_ble_eq_true rfl) (fun _ => rfl) [] rfl (Nat.le_of_ble_eq_true rfl) dX4_readAll_2 5 rfl ?_
  refine v_mgr [(17, c2), (18, c3), (22, c4)] rfl ?_
  refine v_mgg [(37, c5)] rfl ?_
  refine v_if_ne hX dX4_readAll_5 10 rfl 8 rfl (fun h24 => ?_) (fun h24 => ?_)
  · replace hf := it_n h24 hf
    refine v_iconst (v := (0 : Int32)) hX dX4_readAll_10 (by decide) 11 rfl ?_
    refine v_istore_n hX dX4_readAll_11 rfl (ltn hn (by decide)) 12 rfl [(2, .int (0 : Int32)), (0, .ref (aX X 32)), (1, .int p1)] rfl ?_
    obtain ⟨K11, hK11, hf⟩ := jn_x hf
    have HK11 : ∀ (x6 : Int32) (c7 : Int32) (c8 : Int32) (c9 : Int32) (c10 : (Nat → Int32)), K11 x6 c7 c8 c9 c10 = some res → VC X (lkp r [(17, c7), (18, c8), (22, c9)]) (lkp g [(37, c10)]) u h [] [] 65 := by
      intro x6 c7 c8 c9 c10 hf
      rw [hK11] at hf
      refine v_iconst (v := (1 : Int32)) hX dX4_readAll_65 (by decide) 66 rfl ?_
      exact hR _ hf _ _ dX4_readAll_66 (bz_nar (v := (1 : Int32)) (by decide))
    have HLK11 : ∀ (n12 : Nat) (x6 : Int32) (c7 : Int32) (c8 : Int32) (c9 : Int32) (c10 : (Nat → Int32)), f4_readAll_L12 rc (r 16) (r 15) (g 35) (g 34) p1 n12 x6 c7 c8 c9 c10 K11 = some res → VC X (lkp r [(17, c7), (18, c8), (22, c9)]) (lkp g [(37, c10)]) u h [(0, .ref (aX X 32)), (1, .int p1), (2, .int x6)] [] 12 := by
      intro n12
      induction n12 with
      | zero => intro x6 c7 c8 c9 c10 hf; exact no_s hf
      | succ n12 ih =>
        intro x6 c7 c8 c9 c10 hf
        rw [f4_readAll_L12] at hf
        refine v_iload_n hX dX4_readAll_12 rfl 2 rfl 13 rfl ?_
        refine v_sipush (v := (200 : Int32)) hX dX4_readAll_13 (by decide) 16 rfl ?_
        refine v_icmp_ge hX dX4_readAll_16 65 rfl 19 rfl (fun h23 => ?_) (fun h23 => ?_)
        · replace hf := it_p h23 hf
          refine v_sub [] sbn ?_
          exact HK11 _ _ _ _ _ hf
        · replace hf := it_n h23 hf
          refine v_aload_n hX dX4_readAll_19 rfl 0 rfl 20 rfl ?_
          obtain ⟨v13, hv13, hf⟩ := bn1_e hf
          refine cv_i hX (c4_here (lkp r [(17, c7), (18, c8), (22, c9)]) (lkp g [(37, c10)]) u h hv13) wvX4_here q_251 rc_32 (by omega) (Nat.le_of_ble_eq_true rfl) (fun _ => rfl) [] rfl (Nat.le_of_ble_eq_true rfl) dX4_readAll_20 23 rfl ?_
          refine v_sipush (v := (2004 : Int32)) hX dX4_readAll_23 (by decide) 26 rfl ?_
          refine v_icmp_ne hX dX4_readAll_26 65 rfl 29 rfl (fun h22 => ?_) (fun h22 => ?_)
          · replace hf := it_n h22 hf
            refine v_sub [] sbn ?_
            exact HK11 _ _ _ _ _ hf
          · replace hf := it_p h22 hf
            refine v_aload_n hX dX4_readAll_29 rfl 0 rfl 30 rfl ?_
            refine v_dup hX dX4_readAll_30 rfl 31 rfl ?_
            refine gf_32_5 hX q_167 dX4_readAll_31 (c7) rfl 34 rfl ?_
            refine v_iconst (v := (1 : Int32)) hX dX4_readAll_34 (by decide) 35 rfl ?_
            refine v_iadd hX dX4_readAll_35 36 rfl ?_
            refine pf_32_5 hX q_167 dX4_readAll_36 39 rfl [(17, (c7 + (1 : Int32))), (18, c8), (22, c9)] rfl ?_
            refine v_aload_n hX dX4_readAll_39 rfl 0 rfl 40 rfl ?_
            refine v_iload_n hX dX4_readAll_40 rfl 1 rfl 41 rfl ?_
            obtain ⟨v14, c15, c16, c17, c18, hv14, hf⟩ := bn5_e hf
            refine cv_i hX (c4_readOne rc d0 hd0 hrc (lkp r [(17, (c7 + (1 : Int32))), (18, c8), (22, c9)]) (lkp g [(37, c10)]) u h _ hv14) wvX4_readOne q_276 rc_32 (by omega) (Nat.le_of_ble_eq_true rfl) (fun _ => rfl) [] rfl (Nat.le_of_ble_eq_true rfl) dX4_readAll_41 44 rfl ?_
            refine v_mgr [(17, c15), (18, c16), (22, c17)] rfl ?_
            refine v_mgg [(37, c18)] rfl ?_
            refine v_if_ne hX dX4_readAll_44 49 rfl 47 rfl (fun h21 => ?_) (fun h21 => ?_)
            · replace hf := it_n h21 hf
              refine v_aload_n hX dX4_readAll_49 rfl 0 rfl 50 rfl ?_
              refine gf_32_6 hX q_80 dX4_readAll_50 53 rfl ?_
              refine v_sipush (v := (2004 : Int32)) hX dX4_readAll_53 (by decide) 56 rfl ?_
              obtain ⟨c19, c20, hc19, hf⟩ := bn2_e hf
              refine cv_v hX (c6_emit (lkp r [(17, c15), (18, c16), (22, c17)]) (lkp g [(37, c18)]) u h _ hc19) wvX6_emit q_270 rc_36 (by omega) (Nat.le_of_ble_eq_true rfl) (fun _ => rfl) [] rfl (Nat.le_of_ble_eq_true rfl) dX4_readAll_56 59 rfl ?_
              refine v_mgr [(17, c15), (18, c19), (22, c17)] rfl ?_
              refine v_mgg [(37, c20)] rfl ?_
              refine v_inc (c := (1 : Int32)) hX dX4_readAll_59 2 rfl (by decide) (ltn hn (by decide)) 62 rfl [(2, .int (x6 + (1 : Int32))), (0, .ref (aX X 32)), (1, .int p1)] rfl ?_
              refine v_goto hX dX4_readAll_62 12 rfl ?_
              refine v_sub [(0, .ref (aX X 32)), (1, .int p1), (2, .int (x6 + (1 : Int32)))] (sbc 1 rfl (sbc 2 rfl (sbc 0 rfl sbn))) ?_
              exact ih _ _ _ _ _ hf
            · replace hf := it_p h21 hf
              refine v_iconst (v := (0 : Int32)) hX dX4_readAll_47 (by decide) 48 rfl ?_
              exact hR _ hf _ _ dX4_readAll_48 (bz_nar (v := (0 : Int32)) (by decide))
    refine v_sub [(0, .ref (aX X 32)), (1, .int p1), (2, .int (0 : Int32))] (sbc 1 rfl (sbc 2 rfl (sbc 0 rfl sbn))) ?_
    exact HLK11 _ _ _ _ _ _ hf
  · replace hf := it_p h24 hf
    refine v_iconst (v := (0 : Int32)) hX dX4_readAll_8 (by decide) 9 rfl ?_
    exact hR _ hf _ _ dX4_readAll_9 (bz_nar (v := (0 : Int32)) (by decide))
set_option maxRecDepth 100000 in
set_option maxHeartbeats 4000000 in
theorem c4_readCond_ (rc : Int32 → Int32 → Int32 → Int32 → Int32 → (Nat → Int32) → (Nat → Int32) → (Nat → Int32) → Int32 → Option (Int32 × Int32 × Int32 × Int32 × (Nat → Int32))) (d0 : Nat) (hd0 : 10 ≤ d0) (hrc : ∀ (r : Nat → Int32) (g : Nat → Nat → Int32) (u : Nat → Int64) (h : Nat → Nat → Int64) (p1 : Int32) (res : Int32 × Int32 × Int32 × Int32 × (Nat → Int32)), rc (r 17) (r 16) (r 18) (r 22) (r 15) (g 37) (g 35) (g 34) p1 = some res → MAi yX4_readCond cX4_readCond 3 (some .boolean) d0 (fun a => [.ref (a 32), .int p1]) r g u h res.1 (lkp r [(17, res.2.1), (18, res.2.2.1), (22, res.2.2.2.1)]) (lkp g [(37, res.2.2.2.2)]) u h) (r : Nat → Int32) (g : Nat → Nat → Int32) (u : Nat → Int64) (h : Nat → Nat → Int64) (p1 : Int32) {res : Int32 × Int32 × Int32 × Int32 × (Nat → Int32)} (hf : f4_readCond_ rc (r 17) (r 16) (r 18) (r 22) (r 15) (g 37) (g 35) (g 34) p1 = some res) : MAi yX4_readCond cX4_readCond 3 (some .boolean) (d0 + 4) (fun a => [.ref (a 32), .int p1]) r g u h res.1 (lkp r [(17, res.2.1), (18, res.2.2.1), (22, res.2.2.2.1)]) (lkp g [(37, res.2.2.2.2)]) u h := by
  refine mi_i (by decide +kernel) (fun a => Nat.le_of_ble_eq_true rfl) (fun X hX hn hR => ?_)
  replace hR : ∀ q : Int32 × Int32 × Int32 × Int32 × (Nat → Int32), some q = some res → ∀ lv pc, decode cX4_readCond pc = .ok (.ireturn, 1) → narrow .boolean (.int q.1) = .int q.1 → VC X (lkp r [(17, q.2.1), (18, q.2.2.1), (22, q.2.2.2.1)]) (lkp g [(37, q.2.2.2.2)]) u h lv [.int q.1] pc := fun q hq => by cases hq; exact hR
  replace hX : CX X RX4 cX4_readCond (d0 + 4) := hX
  refine v_opr [17, 18, 22] [(17, r 17), (18, r 18), (22, r 22)] rfl ?_
  refine v_opg [37] [(37, g 37)] rfl ?_
  show VC X (lkp r [(17, r 17), (18, r 18), (22, r 22)]) (lkp g [(37, g 37)]) u h [(0, .ref (aX X 32)), (1, .int p1)] [] 0
  rw [f4_readCond_] at hf
  refine v_aload_n hX dX4_readCond_0 rfl 0 rfl 1 rfl ?_
  refine v_iload_n hX dX4_readCond_1 rfl 1 rfl 2 rfl ?_
  obtain ⟨v1, c2, c3, c4, c5, hv1, hf⟩ := bn5_e hf
  refine cv_i hX (c4_readAll rc d0 hd0 hrc (lkp r [(17, (r 17)), (18, (r 18)), (22, (r 22))]) (lkp g [(37, (g 37))]) u h _ hv1) wvX4_readAll q_267 rc_32 (by omega) (Nat.le_of_ble_eq_true rfl) (fun _ => rfl) [] rfl (Nat.le_of_ble_eq_true rfl) dX4_readCond_2 5 rfl ?_
  refine v_mgr [(17, c2), (18, c3), (22, c4)] rfl ?_
  refine v_mgg [(37, c5)] rfl ?_
  refine v_if_ne hX dX4_readCond_5 10 rfl 8 rfl (fun h24 => ?_) (fun h24 => ?_)
  · replace hf := it_n h24 hf
    refine v_iconst (v := (0 : Int32)) hX dX4_readCond_10 (by decide) 11 rfl ?_
    refine v_istore_n hX dX4_readCond_11 rfl (ltn hn (by decide)) 12 rfl [(2, .int (0 : Int32)), (0, .ref (aX X 32)), (1, .int p1)] rfl ?_
    obtain ⟨K11, hK11, hf⟩ := jn_x hf
    have HK11 : ∀ (x6 : Int32) (c7 : Int32) (c8 : Int32) (c9 : Int32) (c10 : (Nat → Int32)), K11 x6 c7 c8 c9 c10 = some res → VC X (lkp r [(17, c7), (18, c8), (22, c9)]) (lkp g [(37, c10)]) u h [] [] 65 := by
      intro x6 c7 c8 c9 c10 hf
      rw [hK11] at hf
      refine v_iconst (v := (1 : Int32)) hX dX4_readCond_65 (by decide) 66 rfl ?_
      exact hR _ hf _ _ dX4_readCond_66 (bz_nar (v := (1 : Int32)) (by decide))
    have HLK11 : ∀ (n12 : Nat) (x6 : Int32) (c7 : Int32) (c8 : Int32) (c9 : Int32) (c10 : (Nat → Int32)), f4_readCond_L12 rc (r 16) (r 15) (g 35) (g 34) p1 n12 x6 c7 c8 c9 c10 K11 = some res → VC X (lkp r [(17, c7), (18, c8), (22, c9)]) (lkp g [(37, c10)]) u h [(0, .ref (aX X 32)), (1, .int p1), (2, .int x6)] [] 12 := by
      intro n12
      induction n12 with
      | zero => intro x6 c7 c8 c9 c10 hf; exact no_s hf
      | succ n12 ih =>
        intro x6 c7 c8 c9 c10 hf
        rw [f4_readCond_L12] at hf
        refine v_iload_n hX dX4_readCond_12 rfl 2 rfl 13 rfl ?_
        refine v_sipush (v := (200 : Int32)) hX dX4_readCond_13 (by decide) 16 rfl ?_
        refine v_icmp_ge hX dX4_readCond_16 65 rfl 19 rfl (fun h23 => ?_) (fun h23 => ?_)
        · replace hf := it_p h23 hf
          refine v_sub [] sbn ?_
          exact HK11 _ _ _ _ _ hf
        · replace hf := it_n h23 hf
          refine v_aload_n hX dX4_readCond_19 rfl 0 rfl 20 rfl ?_
          obtain ⟨v13, hv13, hf⟩ := bn1_e hf
          refine cv_i hX (c4_here (lkp r [(17, c7), (18, c8), (22, c9)]) (lkp g [(37, c10)]) u h hv13) wvX4_here q_251 rc_32 (by omega) (Nat.le_of_ble_eq_true rfl) (fun _ => rfl) [] rfl (Nat.le_of_ble_eq_true rfl) dX4_readCond_20 23 rfl ?_
          refine v_sipush (v := (2005 : Int32)) hX dX4_readCond_23 (by decide) 26 rfl ?_
          refine v_icmp_ne hX dX4_readCond_26 65 rfl 29 rfl (fun h22 => ?_) (fun h22 => ?_)
          · replace hf := it_n h22 hf
            refine v_sub [] sbn ?_
            exact HK11 _ _ _ _ _ hf
          · replace hf := it_p h22 hf
            refine v_aload_n hX dX4_readCond_29 rfl 0 rfl 30 rfl ?_
            refine v_dup hX dX4_readCond_30 rfl 31 rfl ?_
            refine gf_32_5 hX q_167 dX4_readCond_31 (c7) rfl 34 rfl ?_
            refine v_iconst (v := (1 : Int32)) hX dX4_readCond_34 (by decide) 35 rfl ?_
            refine v_iadd hX dX4_readCond_35 36 rfl ?_
            refine pf_32_5 hX q_167 dX4_readCond_36 39 rfl [(17, (c7 + (1 : Int32))), (18, c8), (22, c9)] rfl ?_
            refine v_aload_n hX dX4_readCond_39 rfl 0 rfl 40 rfl ?_
            refine v_iload_n hX dX4_readCond_40 rfl 1 rfl 41 rfl ?_
            obtain ⟨v14, c15, c16, c17, c18, hv14, hf⟩ := bn5_e hf
            refine cv_i hX (c4_readAll rc d0 hd0 hrc (lkp r [(17, (c7 + (1 : Int32))), (18, c8), (22, c9)]) (lkp g [(37, c10)]) u h _ hv14) wvX4_readAll q_267 rc_32 (by omega) (Nat.le_of_ble_eq_true rfl) (fun _ => rfl) [] rfl (Nat.le_of_ble_eq_true rfl) dX4_readCond_41 44 rfl ?_
            refine v_mgr [(17, c15), (18, c16), (22, c17)] rfl ?_
            refine v_mgg [(37, c18)] rfl ?_
            refine v_if_ne hX dX4_readCond_44 49 rfl 47 rfl (fun h21 => ?_) (fun h21 => ?_)
            · replace hf := it_n h21 hf
              refine v_aload_n hX dX4_readCond_49 rfl 0 rfl 50 rfl ?_
              refine gf_32_6 hX q_80 dX4_readCond_50 53 rfl ?_
              refine v_sipush (v := (2005 : Int32)) hX dX4_readCond_53 (by decide) 56 rfl ?_
              obtain ⟨c19, c20, hc19, hf⟩ := bn2_e hf
              refine cv_v hX (c6_emit (lkp r [(17, c15), (18, c16), (22, c17)]) (lkp g [(37, c18)]) u h _ hc19) wvX6_emit q_270 rc_36 (by omega) (Nat.le_of_ble_eq_true rfl) (fun _ => rfl) [] rfl (Nat.le_of_ble_eq_true rfl) dX4_readCond_56 59 rfl ?_
              refine v_mgr [(17, c15), (18, c19), (22, c17)] rfl ?_
              refine v_mgg [(37, c20)] rfl ?_
              refine v_inc (c := (1 : Int32)) hX dX4_readCond_59 2 rfl (by decide) (ltn hn (by decide)) 62 rfl [(2, .int (x6 + (1 : Int32))), (0, .ref (aX X 32)), (1, .int p1)] rfl ?_
              refine v_goto hX dX4_readCond_62 12 rfl ?_
              refine v_sub [(0, .ref (aX X 32)), (1, .int p1), (2, .int (x6 + (1 : Int32)))] (sbc 1 rfl (sbc 2 rfl (sbc 0 rfl sbn))) ?_
              exact ih _ _ _ _ _ hf
            · replace hf := it_p h21 hf
              refine v_iconst (v := (0 : Int32)) hX dX4_readCond_47 (by decide) 48 rfl ?_
              exact hR _ hf _ _ dX4_readCond_48 (bz_nar (v := (0 : Int32)) (by decide))
    refine v_sub [(0, .ref (aX X 32)), (1, .int p1), (2, .int (0 : Int32))] (sbc 1 rfl (sbc 2 rfl (sbc 0 rfl sbn))) ?_
    exact HLK11 _ _ _ _ _ _ hf
  · replace hf := it_p h24 hf
    refine v_iconst (v := (0 : Int32)) hX dX4_readCond_8 (by decide) 9 rfl ?_
    exact hR _ hf _ _ dX4_readCond_9 (bz_nar (v := (0 : Int32)) (by decide))
theorem c4_readCond_all : ∀ n : Nat, ∀ (r : Nat → Int32) (g : Nat → Nat → Int32) (u : Nat → Int64) (h : Nat → Nat → Int64) (p1 : Int32) (res : Int32 × Int32 × Int32 × Int32 × (Nat → Int32)), f4_readCond n (r 17) (r 16) (r 18) (r 22) (r 15) (g 37) (g 35) (g 34) p1 = some res → MAi yX4_readCond cX4_readCond 3 (some .boolean) (depR 4 n) (fun a => [.ref (a 32), .int p1]) r g u h res.1 (lkp r [(17, res.2.1), (18, res.2.2.1), (22, res.2.2.2.1)]) (lkp g [(37, res.2.2.2.2)]) u h := by
  intro n
  induction n with
  | zero => intro r g u h p1 res hf; exact no_s hf
  | succ n ih => intro r g u h p1 res hf; exact c4_readCond_ (f4_readCond n) (depR 4 n) (depR_ge 4 n) ih r g u h _ hf
theorem c4_readCond : ∀ n : Nat, ∀ (r : Nat → Int32) (g : Nat → Nat → Int32) (u : Nat → Int64) (h : Nat → Nat → Int64) (p1 : Int32) (res : Int32 × Int32 × Int32 × Int32 × (Nat → Int32)), f4_readCond n (r 17) (r 16) (r 18) (r 22) (r 15) (g 37) (g 35) (g 34) p1 = some res → MAi yX4_readCond cX4_readCond 3 (some .boolean) (depR 4 n) (fun a => [.ref (a 32), .int p1]) r g u h res.1 (lkp r [(17, res.2.1), (18, res.2.2.1), (22, res.2.2.2.1)]) (lkp g [(37, res.2.2.2.2)]) u h := c4_readCond_all
set_option maxRecDepth 100000 in
set_option maxHeartbeats 4000000 in
theorem c4_readClause (r : Nat → Int32) (g : Nat → Nat → Int32) (u : Nat → Int64) (h : Nat → Nat → Int64)  {res : Int32 × Int32 × Int32 × Int32 × Int32 × (Nat → Int32)} (hf : f4_readClause (r 17) (r 16) (r 19) (r 18) (r 22) (r 15) (g 37) (g 35) (g 34) = some res) : MAi yX4_readClause cX4_readClause 3 (some .boolean) 51 (fun a => [.ref (a 32)]) r g u h res.1 (lkp r [(17, res.2.1), (19, res.2.2.1), (18, res.2.2.2.1), (22, res.2.2.2.2.1)]) (lkp g [(37, res.2.2.2.2.2)]) u h := by
  refine mi_i (by decide +kernel) (fun a => Nat.le_of_ble_eq_true rfl) (fun X hX hn hR => ?_)
  replace hR : ∀ q : Int32 × Int32 × Int32 × Int32 × Int32 × (Nat → Int32), some q = some res → ∀ lv pc, decode cX4_readClause pc = .ok (.ireturn, 1) → narrow .boolean (.int q.1) = .int q.1 → VC X (lkp r [(17, q.2.1), (19, q.2.2.1), (18, q.2.2.2.1), (22, q.2.2.2.2.1)]) (lkp g [(37, q.2.2.2.2.2)]) u h lv [.int q.1] pc := fun q hq => by cases hq; exact hR
  replace hX : CX X RX4 cX4_readClause 51 := hX
  refine v_opr [17, 19, 18, 22] [(17, r 17), (19, r 19), (18, r 18), (22, r 22)] rfl ?_
  refine v_opg [37] [(37, g 37)] rfl ?_
  show VC X (lkp r [(17, r 17), (19, r 19), (18, r 18), (22, r 22)]) (lkp g [(37, g 37)]) u h [(0, .ref (aX X 32))] [] 0
  rw [f4_readClause] at hf
  refine v_aload_n hX dX4_readClause_0 rfl 0 rfl 1 rfl ?_
  obtain ⟨v1, hv1, hf⟩ := bn1_e hf
  refine cv_i hX (c4_here (lkp r [(17, (r 17)), (19, (r 19)), (18, (r 18)), (22, (r 22))]) (lkp g [(37, (g 37))]) u h hv1) wvX4_here q_251 rc_32 (Nat.le_of_ble_eq_true rfl) (Nat.le_of_ble_eq_true rfl) (fun _ => rfl) [] rfl (Nat.le_of_ble_eq_true rfl) dX4_readClause_1 4 rfl ?_
  refine v_istore_n hX dX4_readClause_4 rfl (ltn hn (by decide)) 5 rfl [(1, .int v1), (0, .ref (aX X 32))] rfl ?_
  refine v_iload_n hX dX4_readClause_5 rfl 0 rfl 6 rfl ?_
  refine v_sipush (v := (2011 : Int32)) hX dX4_readClause_6 (by decide) 9 rfl ?_
  obtain ⟨J2, hJ2, hf⟩ := jn_x hf
  have HJ2 : J2 = some res → VC X (lkp r [(17, (r 17)), (19, (r 19)), (18, (r 18)), (22, (r 22))]) (lkp g [(37, (g 37))]) u h [(0, .ref (aX X 32)), (1, .int v1)] [] 24 := by
    intro hf
    rw [hJ2] at hf
    refine v_aload_n hX dX4_readClause_24 rfl 0 rfl 25 rfl ?_
    refine v_dup hX dX4_readClause_25 rfl 26 rfl ?_
    refine gf_32_5 hX q_167 dX4_readClause_26 ((r 17)) rfl 29 rfl ?_
    refine v_iconst (v := (1 : Int32)) hX dX4_readClause_29 (by decide) 30 rfl ?_
    refine v_iadd hX dX4_readClause_30 31 rfl ?_
    refine pf_32_5 hX q_167 dX4_readClause_31 34 rfl [(17, ((r 17) + (1 : Int32))), (19, (r 19)), (18, (r 18)), (22, (r 22))] rfl ?_
    refine v_aload_n hX dX4_readClause_34 rfl 0 rfl 35 rfl ?_
    obtain ⟨v3, hv3, hf⟩ := bn1_e hf
    refine cv_i hX (c4_here (lkp r [(17, ((r 17) + (1 : Int32))), (19, (r 19)), (18, (r 18)), (22, (r 22))]) (lkp g [(37, (g 37))]) u h hv3) wvX4_here q_251 rc_32 (Nat.le_of_ble_eq_true rfl) (Nat.le_of_ble_eq_true rfl) (fun _ => rfl) [] rfl (Nat.le_of_ble_eq_true rfl) dX4_readClause_35 38 rfl ?_
    refine v_sipush (v := (3000 : Int32)) hX dX4_readClause_38 (by decide) 41 rfl ?_
    obtain ⟨J4, hJ4, hf⟩ := jn_x hf
    have HJ4 : ∀ (s5 : Int32), J4 s5 = some res → VC X (lkp r [(17, ((r 17) + (1 : Int32))), (19, (r 19)), (18, (r 18)), (22, (r 22))]) (lkp g [(37, (g 37))]) u h [(0, .ref (aX X 32)), (1, .int v1)] [.int s5] 49 := by
      intro s5 hf
      rw [hJ4] at hf
      refine v_istore_n hX dX4_readClause_49 rfl (ltn hn (by decide)) 50 rfl [(2, .int s5), (0, .ref (aX X 32)), (1, .int v1)] rfl ?_
      refine v_iload_n hX dX4_readClause_50 rfl 0 rfl 51 rfl ?_
      obtain ⟨J6, hJ6, hf⟩ := jn_x hf
      have HJ6 : ∀ (c7 : Int32) (c8 : Int32) (c9 : Int32) (c10 : (Nat → Int32)), J6 c7 c8 c9 c10 = some res → VC X (lkp r [(17, c7), (19, (r 19)), (18, c8), (22, c9)]) (lkp g [(37, c10)]) u h [(0, .ref (aX X 32)), (1, .int v1), (2, .int s5)] [] 74 := by
        intro c7 c8 c9 c10 hf
        rw [hJ6] at hf
        refine v_aload_n hX dX4_readClause_74 rfl 0 rfl 75 rfl ?_
        obtain ⟨v11, hv11, hf⟩ := bn1_e hf
        refine cv_i hX (c4_here (lkp r [(17, c7), (19, (r 19)), (18, c8), (22, c9)]) (lkp g [(37, c10)]) u h hv11) wvX4_here q_251 rc_32 (Nat.le_of_ble_eq_true rfl) (Nat.le_of_ble_eq_true rfl) (fun _ => rfl) [] rfl (Nat.le_of_ble_eq_true rfl) dX4_readClause_75 78 rfl ?_
        refine v_sipush (v := (3003 : Int32)) hX dX4_readClause_78 (by decide) 81 rfl ?_
        refine v_icmp_eq hX dX4_readClause_81 89 rfl 84 rfl (fun h26 => ?_) (fun h26 => ?_)
        · replace hf := it_p h26 hf
          refine v_aload_n hX dX4_readClause_89 rfl 0 rfl 90 rfl ?_
          refine v_dup hX dX4_readClause_90 rfl 91 rfl ?_
          refine gf_32_5 hX q_167 dX4_readClause_91 (c7) rfl 94 rfl ?_
          refine v_iconst (v := (1 : Int32)) hX dX4_readClause_94 (by decide) 95 rfl ?_
          refine v_iadd hX dX4_readClause_95 96 rfl ?_
          refine pf_32_5 hX q_167 dX4_readClause_96 99 rfl [(17, (c7 + (1 : Int32))), (19, (r 19)), (18, c8), (22, c9)] rfl ?_
          refine v_iload_n hX dX4_readClause_99 rfl 2 rfl 100 rfl ?_
          obtain ⟨J12, hJ12, hf⟩ := jn_x hf
          have HJ12 : ∀ (c13 : Int32) (c14 : (Nat → Int32)), J12 c13 c14 = some res → VC X (lkp r [(17, (c7 + (1 : Int32))), (19, (r 19)), (18, c13), (22, c9)]) (lkp g [(37, c14)]) u h [(0, .ref (aX X 32))] [] 137 := by
            intro c13 c14 hf
            rw [hJ12] at hf
            refine v_aload_n hX dX4_readClause_137 rfl 0 rfl 138 rfl ?_
            refine gf_32_6 hX q_80 dX4_readClause_138 141 rfl ?_
            refine v_dup hX dX4_readClause_141 rfl 142 rfl ?_
            refine gf_36_3 hX q_166 dX4_readClause_142 ((r 19)) rfl 145 rfl ?_
            refine v_iconst (v := (1 : Int32)) hX dX4_readClause_145 (by decide) 146 rfl ?_
            refine v_iadd hX dX4_readClause_146 147 rfl ?_
            refine pf_36_3 hX q_166 dX4_readClause_147 150 rfl [(17, (c7 + (1 : Int32))), (19, ((r 19) + (1 : Int32))), (18, c13), (22, c9)] rfl ?_
            refine v_iconst (v := (1 : Int32)) hX dX4_readClause_150 (by decide) 151 rfl ?_
            exact hR _ hf _ _ dX4_readClause_151 (bz_nar (v := (1 : Int32)) (by decide))
          refine v_if_eq hX dX4_readClause_100 129 rfl 103 rfl (fun h22 => ?_) (fun h22 => ?_)
          · replace hf := it_p h22 hf
            refine v_aload_n hX dX4_readClause_129 rfl 0 rfl 130 rfl ?_
            refine gf_32_6 hX q_80 dX4_readClause_130 133 rfl ?_
            refine v_iload_n hX dX4_readClause_133 rfl 1 rfl 134 rfl ?_
            obtain ⟨c15, c16, hc15, hf⟩ := bn2_e hf
            refine cv_v hX (c6_emit (lkp r [(17, (c7 + (1 : Int32))), (19, (r 19)), (18, c8), (22, c9)]) (lkp g [(37, c10)]) u h _ hc15) wvX6_emit q_270 rc_36 (Nat.le_of_ble_eq_true rfl) (Nat.le_of_ble_eq_true rfl) (fun _ => rfl) [] rfl (Nat.le_of_ble_eq_true rfl) dX4_readClause_134 137 rfl ?_
            refine v_mgr [(17, (c7 + (1 : Int32))), (19, (r 19)), (18, c15), (22, c9)] rfl ?_
            refine v_mgg [(37, c16)] rfl ?_
            refine v_sub [(0, .ref (aX X 32))] (sbc 0 rfl sbn) ?_
            exact HJ12 _ _ hf
          · replace hf := it_n h22 hf
            refine v_aload_n hX dX4_readClause_103 rfl 0 rfl 104 rfl ?_
            refine gf_32_6 hX q_80 dX4_readClause_104 107 rfl ?_
            refine v_iload_n hX dX4_readClause_107 rfl 1 rfl 108 rfl ?_
            refine v_sipush (v := (2011 : Int32)) hX dX4_readClause_108 (by decide) 111 rfl ?_
            obtain ⟨J17, hJ17, hf⟩ := jn_x hf
            have HJ17 : ∀ (s18 : Int32), J17 s18 = some res → VC X (lkp r [(17, (c7 + (1 : Int32))), (19, (r 19)), (18, c8), (22, c9)]) (lkp g [(37, c10)]) u h [(0, .ref (aX X 32))] [.int s18, .ref (aX X 36)] 123 := by
              intro s18 hf
              rw [hJ17] at hf
              obtain ⟨c19, c20, hc19, hf⟩ := bn2_e hf
              refine cv_v hX (c6_emit (lkp r [(17, (c7 + (1 : Int32))), (19, (r 19)), (18, c8), (22, c9)]) (lkp g [(37, c10)]) u h _ hc19) wvX6_emit q_270 rc_36 (Nat.le_of_ble_eq_true rfl) (Nat.le_of_ble_eq_true rfl) (fun _ => rfl) [] rfl (Nat.le_of_ble_eq_true rfl) dX4_readClause_123 126 rfl ?_
              refine v_mgr [(17, (c7 + (1 : Int32))), (19, (r 19)), (18, c19), (22, c9)] rfl ?_
              refine v_mgg [(37, c20)] rfl ?_
              refine v_goto hX dX4_readClause_126 137 rfl ?_
              exact HJ12 _ _ hf
            refine v_icmp_ne hX dX4_readClause_111 120 rfl 114 rfl (fun h21 => ?_) (fun h21 => ?_)
            · replace hf := it_n h21 hf
              refine v_sipush (v := (2012 : Int32)) hX dX4_readClause_120 (by decide) 123 rfl ?_
              refine v_sub [(0, .ref (aX X 32))] (sbc 0 rfl sbn) ?_
              exact HJ17 _ hf
            · replace hf := it_p h21 hf
              refine v_sipush (v := (2013 : Int32)) hX dX4_readClause_114 (by decide) 117 rfl ?_
              refine v_goto hX dX4_readClause_117 123 rfl ?_
              refine v_sub [(0, .ref (aX X 32))] (sbc 0 rfl sbn) ?_
              exact HJ17 _ hf
        · replace hf := it_n h26 hf
          refine v_aload_n hX dX4_readClause_84 rfl 0 rfl 85 rfl ?_
          obtain ⟨v23, c24, hv23, hf⟩ := bn2_e hf
          refine cv_i hX (c4_refuse (lkp r [(17, c7), (19, (r 19)), (18, c8), (22, c9)]) (lkp g [(37, c10)]) u h hv23) wvX4_refuse q_259 rc_32 (Nat.le_of_ble_eq_true rfl) (Nat.le_of_ble_eq_true rfl) (fun _ => rfl) [] rfl (Nat.le_of_ble_eq_true rfl) dX4_readClause_85 88 rfl ?_
          refine v_mgr [(17, c7), (19, (r 19)), (18, c8), (22, c24)] rfl ?_
          obtain ⟨hb25, hf⟩ := gd_e hf
          exact hR _ hf _ _ dX4_readClause_88 (bz_nar hb25)
      refine v_if_eq hX dX4_readClause_51 74 rfl 54 rfl (fun h33 => ?_) (fun h33 => ?_)
      · replace hf := it_p h33 hf
        refine v_sub [(0, .ref (aX X 32)), (1, .int v1), (2, .int s5)] (sbc 1 rfl (sbc 2 rfl (sbc 0 rfl sbn))) ?_
        exact HJ6 _ _ _ _ hf
      · replace hf := it_n h33 hf
        refine v_aload_n hX dX4_readClause_54 rfl 1 rfl 55 rfl ?_
        refine v_dup hX dX4_readClause_55 rfl 56 rfl ?_
        refine gf_32_5 hX q_167 dX4_readClause_56 (((r 17) + (1 : Int32))) rfl 59 rfl ?_
        refine v_iconst (v := (1 : Int32)) hX dX4_readClause_59 (by decide) 60 rfl ?_
        refine v_iadd hX dX4_readClause_60 61 rfl ?_
        refine pf_32_5 hX q_167 dX4_readClause_61 64 rfl [(17, (((r 17) + (1 : Int32)) + (1 : Int32))), (19, (r 19)), (18, (r 18)), (22, (r 22))] rfl ?_
        refine v_aload_n hX dX4_readClause_64 rfl 1 rfl 65 rfl ?_
        refine v_iconst (v := (0 : Int32)) hX dX4_readClause_65 (by decide) 66 rfl ?_
        obtain ⟨v27, c28, c29, c30, c31, hv27, hf⟩ := bn5_e hf
        refine cv_i hX (c4_readCond 10 (lkp r [(17, (((r 17) + (1 : Int32)) + (1 : Int32))), (19, (r 19)), (18, (r 18)), (22, (r 22))]) (lkp g [(37, (g 37))]) u h _ _ hv27) wvX4_readCond q_263 rc_32 (Nat.le_of_ble_eq_true rfl) (Nat.le_of_ble_eq_true rfl) (fun _ => rfl) [] rfl (Nat.le_of_ble_eq_true rfl) dX4_readClause_66 69 rfl ?_
        refine v_mgr [(17, c28), (19, (r 19)), (18, c29), (22, c30)] rfl ?_
        refine v_mgg [(37, c31)] rfl ?_
        refine v_if_ne hX dX4_readClause_69 74 rfl 72 rfl (fun h32 => ?_) (fun h32 => ?_)
        · replace hf := it_n h32 hf
          refine v_sub [(0, .ref (aX X 32)), (1, .int v1), (2, .int s5)] (sbc 1 rfl (sbc 2 rfl (sbc 0 rfl sbn))) ?_
          exact HJ6 _ _ _ _ hf
        · replace hf := it_p h32 hf
          refine v_iconst (v := (0 : Int32)) hX dX4_readClause_72 (by decide) 73 rfl ?_
          exact hR _ hf _ _ dX4_readClause_73 (bz_nar (v := (0 : Int32)) (by decide))
    refine v_icmp_ne hX dX4_readClause_41 48 rfl 44 rfl (fun h34 => ?_) (fun h34 => ?_)
    · replace hf := it_n h34 hf
      refine v_iconst (v := (0 : Int32)) hX dX4_readClause_48 (by decide) 49 rfl ?_
      exact HJ4 _ hf
    · replace hf := it_p h34 hf
      refine v_iconst (v := (1 : Int32)) hX dX4_readClause_44 (by decide) 45 rfl ?_
      refine v_goto hX dX4_readClause_45 49 rfl ?_
      exact HJ4 _ hf
  refine v_icmp_eq hX dX4_readClause_9 24 rfl 12 rfl (fun h39 => ?_) (fun h39 => ?_)
  · replace hf := it_p h39 hf
    refine v_sub [(0, .ref (aX X 32)), (1, .int v1)] (sbc 1 rfl (sbc 0 rfl sbn)) ?_
    exact HJ2  hf
  · replace hf := it_n h39 hf
    refine v_iload_n hX dX4_readClause_12 rfl 0 rfl 13 rfl ?_
    refine v_sipush (v := (2010 : Int32)) hX dX4_readClause_13 (by decide) 16 rfl ?_
    refine v_icmp_eq hX dX4_readClause_16 24 rfl 19 rfl (fun h38 => ?_) (fun h38 => ?_)
    · replace hf := it_p h38 hf
      refine v_sub [(0, .ref (aX X 32)), (1, .int v1)] (sbc 1 rfl (sbc 0 rfl sbn)) ?_
      exact HJ2  hf
    · replace hf := it_n h38 hf
      refine v_aload_n hX dX4_readClause_19 rfl 1 rfl 20 rfl ?_
      obtain ⟨v35, c36, hv35, hf⟩ := bn2_e hf
      refine cv_i hX (c4_refuse (lkp r [(17, (r 17)), (19, (r 19)), (18, (r 18)), (22, (r 22))]) (lkp g [(37, (g 37))]) u h hv35) wvX4_refuse q_259 rc_32 (Nat.le_of_ble_eq_true rfl) (Nat.le_of_ble_eq_true rfl) (fun _ => rfl) [] rfl (Nat.le_of_ble_eq_true rfl) dX4_readClause_20 23 rfl ?_
      refine v_mgr [(17, (r 17)), (19, (r 19)), (18, (r 18)), (22, c36)] rfl ?_
      obtain ⟨hb37, hf⟩ := gd_e hf
      exact hR _ hf _ _ dX4_readClause_23 (bz_nar hb37)
set_option maxRecDepth 100000 in
set_option maxHeartbeats 4000000 in
theorem c4_readText (r : Nat → Int32) (g : Nat → Nat → Int32) (u : Nat → Int64) (h : Nat → Nat → Int64)  {res : Int32 × Int32 × Int32 × Int32 × Int32 × Int32 × (Nat → Int32) × (Nat → Int32) × (Nat → Int32)} (hf : f4_readText (r 17) (r 16) (r 19) (r 18) (r 22) (r 15) (g 37) (g 35) (g 33) (g 34) = some res) : MAi yX4_readText cX4_readText 2 (some .boolean) 52 (fun a => [.ref (a 32)]) r g u h res.1 (lkp r [(17, res.2.1), (16, res.2.2.1), (19, res.2.2.2.1), (18, res.2.2.2.2.1), (22, res.2.2.2.2.2.1)]) (lkp g [(37, res.2.2.2.2.2.2.1), (35, res.2.2.2.2.2.2.2.1), (34, res.2.2.2.2.2.2.2.2)]) u h := by
  refine mi_i (by decide +kernel) (fun a => Nat.le_of_ble_eq_true rfl) (fun X hX hn hR => ?_)
  replace hR : ∀ q : Int32 × Int32 × Int32 × Int32 × Int32 × Int32 × (Nat → Int32) × (Nat → Int32) × (Nat → Int32), some q = some res → ∀ lv pc, decode cX4_readText pc = .ok (.ireturn, 1) → narrow .boolean (.int q.1) = .int q.1 → VC X (lkp r [(17, q.2.1), (16, q.2.2.1), (19, q.2.2.2.1), (18, q.2.2.2.2.1), (22, q.2.2.2.2.2.1)]) (lkp g [(37, q.2.2.2.2.2.2.1), (35, q.2.2.2.2.2.2.2.1), (34, q.2.2.2.2.2.2.2.2)]) u h lv [.int q.1] pc := fun q hq => by cases hq; exact hR
  replace hX : CX X RX4 cX4_readText 52 := hX
  refine v_opr [17, 16, 19, 18, 22] [(17, r 17), (16, r 16), (19, r 19), (18, r 18), (22, r 22)] rfl ?_
  refine v_opg [37, 35, 34] [(37, g 37), (35, g 35), (34, g 34)] rfl ?_
  show VC X (lkp r [(17, r 17), (16, r 16), (19, r 19), (18, r 18), (22, r 22)]) (lkp g [(37, g 37), (35, g 35), (34, g 34)]) u h [(0, .ref (aX X 32))] [] 0
  rw [f4_readText] at hf
  refine v_aload_n hX dX4_readText_0 rfl 0 rfl 1 rfl ?_
  obtain ⟨c1, c2, c3, hc1, hf⟩ := bn3_e hf
  refine cv_v hX (c4_cut (lkp r [(17, (r 17)), (16, (r 16)), (19, (r 19)), (18, (r 18)), (22, (r 22))]) (lkp g [(37, (g 37)), (35, (g 35)), (34, (g 34))]) u h hc1) wvX4_cut q_169 rc_32 (Nat.le_of_ble_eq_true rfl) (Nat.le_of_ble_eq_true rfl) (fun _ => rfl) [] rfl (Nat.le_of_ble_eq_true rfl) dX4_readText_1 4 rfl ?_
  refine v_mgr [(17, (r 17)), (16, c1), (19, (r 19)), (18, (r 18)), (22, (r 22))] rfl ?_
  refine v_mgg [(37, (g 37)), (35, c2), (34, c3)] rfl ?_
  refine v_aload_n hX dX4_readText_4 rfl 0 rfl 5 rfl ?_
  refine gf_32_6 hX q_80 dX4_readText_5 8 rfl ?_
  refine v_iconst (v := (0 : Int32)) hX dX4_readText_8 (by decide) 9 rfl ?_
  refine pf_36_2 hX q_165 dX4_readText_9 12 rfl [(17, (r 17)), (16, c1), (19, (r 19)), (18, (0 : Int32)), (22, (r 22))] rfl ?_
  refine v_aload_n hX dX4_readText_12 rfl 0 rfl 13 rfl ?_
  refine gf_32_6 hX q_80 dX4_readText_13 16 rfl ?_
  refine v_iconst (v := (0 : Int32)) hX dX4_readText_16 (by decide) 17 rfl ?_
  refine pf_36_3 hX q_166 dX4_readText_17 20 rfl [(17, (r 17)), (16, c1), (19, (0 : Int32)), (18, (0 : Int32)), (22, (r 22))] rfl ?_
  refine v_aload_n hX dX4_readText_20 rfl 0 rfl 21 rfl ?_
  refine v_iconst (v := (0 : Int32)) hX dX4_readText_21 (by decide) 22 rfl ?_
  refine pf_32_5 hX q_167 dX4_readText_22 25 rfl [(17, (0 : Int32)), (16, c1), (19, (0 : Int32)), (18, (0 : Int32)), (22, (r 22))] rfl ?_
  refine v_aload_n hX dX4_readText_25 rfl 0 rfl 26 rfl ?_
  refine v_iconst (v := (0 : Int32)) hX dX4_readText_26 (by decide) 27 rfl ?_
  refine pf_32_7 hX q_168 dX4_readText_27 30 rfl [(17, (0 : Int32)), (16, c1), (19, (0 : Int32)), (18, (0 : Int32)), (22, (0 : Int32))] rfl ?_
  refine v_iconst (v := (0 : Int32)) hX dX4_readText_30 (by decide) 31 rfl ?_
  refine v_istore_n hX dX4_readText_31 rfl (ltn hn (by decide)) 32 rfl [(1, .int (0 : Int32)), (0, .ref (aX X 32))] rfl ?_
  obtain ⟨K10, hK10, hf⟩ := jn_x hf
  have HK10 : ∀ (x4 : Int32) (c5 : Int32) (c6 : Int32) (c7 : Int32) (c8 : Int32) (c9 : (Nat → Int32)), K10 x4 c5 c6 c7 c8 c9 = some res → VC X (lkp r [(17, c5), (16, c1), (19, c6), (18, c7), (22, c8)]) (lkp g [(37, c9), (35, c2), (34, c3)]) u h [(0, .ref (aX X 32))] [] 63 := by
    intro x4 c5 c6 c7 c8 c9 hf
    rw [hK10] at hf
    refine v_aload_n hX dX4_readText_63 rfl 0 rfl 64 rfl ?_
    obtain ⟨v22, hv22, hf⟩ := bn1_e hf
    refine cv_i hX (c4_here (lkp r [(17, c5), (16, c1), (19, c6), (18, c7), (22, c8)]) (lkp g [(37, c9), (35, c2), (34, c3)]) u h hv22) wvX4_here q_251 rc_32 (Nat.le_of_ble_eq_true rfl) (Nat.le_of_ble_eq_true rfl) (fun _ => rfl) [] rfl (Nat.le_of_ble_eq_true rfl) dX4_readText_64 67 rfl ?_
    refine v_sipush (v := (3004 : Int32)) hX dX4_readText_67 (by decide) 70 rfl ?_
    refine v_icmp_eq hX dX4_readText_70 80 rfl 73 rfl (fun h26 => ?_) (fun h26 => ?_)
    · replace hf := it_p h26 hf
      refine v_iconst (v := (1 : Int32)) hX dX4_readText_80 (by decide) 81 rfl ?_
      refine v_goto hX dX4_readText_81 85 rfl ?_
      exact hR _ hf _ _ dX4_readText_85 (bz_nar (v := (1 : Int32)) (by decide))
    · replace hf := it_n h26 hf
      refine v_aload_n hX dX4_readText_73 rfl 0 rfl 74 rfl ?_
      obtain ⟨v23, c24, hv23, hf⟩ := bn2_e hf
      refine cv_i hX (c4_refuse (lkp r [(17, c5), (16, c1), (19, c6), (18, c7), (22, c8)]) (lkp g [(37, c9), (35, c2), (34, c3)]) u h hv23) wvX4_refuse q_259 rc_32 (Nat.le_of_ble_eq_true rfl) (Nat.le_of_ble_eq_true rfl) (fun _ => rfl) [] rfl (Nat.le_of_ble_eq_true rfl) dX4_readText_74 77 rfl ?_
      refine v_mgr [(17, c5), (16, c1), (19, c6), (18, c7), (22, c24)] rfl ?_
      refine v_if_eq hX dX4_readText_77 84 rfl 80 rfl (fun h25 => ?_) (fun h25 => ?_)
      · replace hf := it_p h25 hf
        refine v_iconst (v := (0 : Int32)) hX dX4_readText_84 (by decide) 85 rfl ?_
        exact hR _ hf _ _ dX4_readText_85 (bz_nar (v := (0 : Int32)) (by decide))
      · replace hf := it_n h25 hf
        refine v_iconst (v := (1 : Int32)) hX dX4_readText_80 (by decide) 81 rfl ?_
        refine v_goto hX dX4_readText_81 85 rfl ?_
        exact hR _ hf _ _ dX4_readText_85 (bz_nar (v := (1 : Int32)) (by decide))
  have HLK10 : ∀ (n11 : Nat) (x4 : Int32) (c5 : Int32) (c6 : Int32) (c7 : Int32) (c8 : Int32) (c9 : (Nat → Int32)), f4_readText_L32 (r 15) c1 c2 c3 n11 x4 c5 c6 c7 c8 c9 K10 = some res → VC X (lkp r [(17, c5), (16, c1), (19, c6), (18, c7), (22, c8)]) (lkp g [(37, c9), (35, c2), (34, c3)]) u h [(0, .ref (aX X 32)), (1, .int x4)] [] 32 := by
    intro n11
    induction n11 with
    | zero => intro x4 c5 c6 c7 c8 c9 hf; exact no_s hf
    | succ n11 ih =>
      intro x4 c5 c6 c7 c8 c9 hf
      rw [f4_readText_L32] at hf
      refine v_iload_n hX dX4_readText_32 rfl 1 rfl 33 rfl ?_
      refine v_bipush (v := (8 : Int32)) hX dX4_readText_33 (by decide) 35 rfl ?_
      refine v_icmp_ge hX dX4_readText_35 63 rfl 38 rfl (fun h21 => ?_) (fun h21 => ?_)
      · replace hf := it_p h21 hf
        refine v_sub [(0, .ref (aX X 32))] (sbc 0 rfl sbn) ?_
        exact HK10 _ _ _ _ _ _ hf
      · replace hf := it_n h21 hf
        refine v_aload_n hX dX4_readText_38 rfl 0 rfl 39 rfl ?_
        obtain ⟨v12, hv12, hf⟩ := bn1_e hf
        refine cv_i hX (c4_here (lkp r [(17, c5), (16, c1), (19, c6), (18, c7), (22, c8)]) (lkp g [(37, c9), (35, c2), (34, c3)]) u h hv12) wvX4_here q_251 rc_32 (Nat.le_of_ble_eq_true rfl) (Nat.le_of_ble_eq_true rfl) (fun _ => rfl) [] rfl (Nat.le_of_ble_eq_true rfl) dX4_readText_39 42 rfl ?_
        refine v_sipush (v := (3004 : Int32)) hX dX4_readText_42 (by decide) 45 rfl ?_
        refine v_icmp_eq hX dX4_readText_45 63 rfl 48 rfl (fun h20 => ?_) (fun h20 => ?_)
        · replace hf := it_p h20 hf
          refine v_sub [(0, .ref (aX X 32))] (sbc 0 rfl sbn) ?_
          exact HK10 _ _ _ _ _ _ hf
        · replace hf := it_n h20 hf
          refine v_aload_n hX dX4_readText_48 rfl 0 rfl 49 rfl ?_
          obtain ⟨v13, c14, c15, c16, c17, c18, hv13, hf⟩ := bn6_e hf
          refine cv_i hX (c4_readClause (lkp r [(17, c5), (16, c1), (19, c6), (18, c7), (22, c8)]) (lkp g [(37, c9), (35, c2), (34, c3)]) u h hv13) wvX4_readClause q_255 rc_32 (Nat.le_of_ble_eq_true rfl) (Nat.le_of_ble_eq_true rfl) (fun _ => rfl) [] rfl (Nat.le_of_ble_eq_true rfl) dX4_readText_49 52 rfl ?_
          refine v_mgr [(17, c14), (16, c1), (19, c15), (18, c16), (22, c17)] rfl ?_
          refine v_mgg [(37, c18), (35, c2), (34, c3)] rfl ?_
          refine v_if_ne hX dX4_readText_52 57 rfl 55 rfl (fun h19 => ?_) (fun h19 => ?_)
          · replace hf := it_n h19 hf
            refine v_inc (c := (1 : Int32)) hX dX4_readText_57 1 rfl (by decide) (ltn hn (by decide)) 60 rfl [(1, .int (x4 + (1 : Int32))), (0, .ref (aX X 32))] rfl ?_
            refine v_goto hX dX4_readText_60 32 rfl ?_
            refine v_sub [(0, .ref (aX X 32)), (1, .int (x4 + (1 : Int32)))] (sbc 1 rfl (sbc 0 rfl sbn)) ?_
            exact ih _ _ _ _ _ _ hf
          · replace hf := it_p h19 hf
            refine v_iconst (v := (0 : Int32)) hX dX4_readText_55 (by decide) 56 rfl ?_
            exact hR _ hf _ _ dX4_readText_56 (bz_nar (v := (0 : Int32)) (by decide))
  refine v_sub [(0, .ref (aX X 32)), (1, .int (0 : Int32))] (sbc 1 rfl (sbc 0 rfl sbn)) ?_
  exact HLK10 _ _ _ _ _ _ _ hf
