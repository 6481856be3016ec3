set_option maxRecDepth 100000 in
set_option maxHeartbeats 4000000 in
theorem c8_act (r : Nat → Int32) (g : Nat → Nat → Int32) (u : Nat → Int64) (h : Nat → Nat → Int64) (p1 : Int32) (p2 : Int32) (p3 : Int32) {res : Int32 × Int32 × Int32 × Int32 × Int32 × Int32 × (Nat → Int32)} (hf : f8_act (r 1) (r 28) (r 25) (r 26) (r 27) (r 29) (g 7) (g 47) (g 48) (g 50) p1 p2 p3 = some res) : MAi yX8_act cX8_act 5 (some .int) 22 (fun a => [.ref (a 0), .int p1, .int p2, .int p3]) r g u h res.1 (lkp r [(28, res.2.1), (25, res.2.2.1), (26, res.2.2.2.1), (27, res.2.2.2.2.1), (29, res.2.2.2.2.2.1)]) (lkp g [(50, res.2.2.2.2.2.2)]) u h := by
  refine mi_i (by decide +kernel) (fun a => Nat.le_of_ble_eq_true rfl) (fun X hX hn hR => ?_)
  replace hR : ∀ q : Int32 × Int32 × Int32 × Int32 × Int32 × Int32 × (Nat → Int32), some q = some res → ∀ lv pc, decode cX8_act pc = .ok (.ireturn, 1) → narrow .int (.int q.1) = .int q.1 → VC X (lkp r [(28, q.2.1), (25, q.2.2.1), (26, q.2.2.2.1), (27, q.2.2.2.2.1), (29, q.2.2.2.2.2.1)]) (lkp g [(50, q.2.2.2.2.2.2)]) u h lv [.int q.1] pc := fun q hq => by cases hq; exact hR
  replace hX : CX X RX8 cX8_act 22 := hX
  refine v_opr [28, 25, 26, 27, 29] [(28, r 28), (25, r 25), (26, r 26), (27, r 27), (29, r 29)] rfl ?_
  refine v_opg [50] [(50, g 50)] rfl ?_
  show VC X (lkp r [(28, r 28), (25, r 25), (26, r 26), (27, r 27), (29, r 29)]) (lkp g [(50, g 50)]) u h [(0, .ref (aX X 0)), (1, .int p1), (2, .int p2), (3, .int p3)] [] 0
  rw [f8_act] at hf
  refine v_aload_n hX dX8_act_0 rfl 0 rfl 1 rfl ?_
  refine gf_0_8 hX q_39 dX8_act_1 4 rfl ?_
  refine v_iconst (v := (0 : Int32)) hX dX8_act_4 (by decide) 5 rfl ?_
  refine pf_49_1 hX q_1126 dX8_act_5 8 rfl [(28, (r 28)), (25, (0 : Int32)), (26, (r 26)), (27, (r 27)), (29, (r 29))] rfl ?_
  refine v_iload_n hX dX8_act_8 rfl 1 rfl 9 rfl ?_
  obtain ⟨v1, hv1, hf⟩ := bn1_e hf
  refine cs_i hX (c1_isShelf (lkp r [(28, (r 28)), (25, (0 : Int32)), (26, (r 26)), (27, (r 27)), (29, (r 29))]) (lkp g [(50, (g 50))]) u h _ hv1) wvX1_isShelf q_1074 (Nat.le_of_ble_eq_true rfl) (Nat.le_of_ble_eq_true rfl) (fun _ => rfl) [] rfl (Nat.le_of_ble_eq_true rfl) dX8_act_9 12 rfl ?_
  refine v_if_eq hX dX8_act_12 24 rfl 15 rfl (fun h16 => ?_) (fun h16 => ?_)
  · replace hf := it_p h16 hf
    refine v_iconst (v := (0 : Int32)) hX dX8_act_24 (by decide) 25 rfl ?_
    exact hR _ hf _ _ dX8_act_25 rfl
  · replace hf := it_n h16 hf
    refine v_iload_n hX dX8_act_15 rfl 2 rfl 16 rfl ?_
    refine v_if_lt hX dX8_act_16 24 rfl 19 rfl (fun h15 => ?_) (fun h15 => ?_)
    · replace hf := it_p h15 hf
      refine v_iconst (v := (0 : Int32)) hX dX8_act_24 (by decide) 25 rfl ?_
      exact hR _ hf _ _ dX8_act_25 rfl
    · replace hf := it_n h15 hf
      refine v_iload_n hX dX8_act_19 rfl 2 rfl 20 rfl ?_
      refine v_iconst (v := (4 : Int32)) hX dX8_act_20 (by decide) 21 rfl ?_
      refine v_icmp_lt hX dX8_act_21 26 rfl 24 rfl (fun h14 => ?_) (fun h14 => ?_)
      · replace hf := it_p h14 hf
        refine v_aload_n hX dX8_act_26 rfl 0 rfl 27 rfl ?_
        refine gf_0_7 hX q_35 dX8_act_27 30 rfl ?_
        refine v_iload_n hX dX8_act_30 rfl 1 rfl 31 rfl ?_
        refine v_aload_n hX dX8_act_31 rfl 0 rfl 32 rfl ?_
        refine gf_0_0 hX q_16 dX8_act_32 35 rfl ?_
        refine gf_1_6 hX q_498 dX8_act_35 ((r 1)) rfl 38 rfl ?_
        obtain ⟨v2, hv2, hf⟩ := bn1_e hf
        refine cv_i hX (c1_heldOn (lkp r [(28, (r 28)), (25, (0 : Int32)), (26, (r 26)), (27, (r 27)), (29, (r 29))]) (lkp g [(50, (g 50))]) u h _ _ hv2) wvX1_heldOn q_1103 rc_43 (Nat.le_of_ble_eq_true rfl) (Nat.le_of_ble_eq_true rfl) (fun _ => rfl) [] rfl (Nat.le_of_ble_eq_true rfl) dX8_act_38 41 rfl ?_
        refine v_if_eq hX dX8_act_41 46 rfl 44 rfl (fun h13 => ?_) (fun h13 => ?_)
        · replace hf := it_p h13 hf
          refine v_aload_n hX dX8_act_46 rfl 0 rfl 47 rfl ?_
          refine gf_0_7 hX q_35 dX8_act_47 50 rfl ?_
          refine gf_43_4 hX q_1102 dX8_act_50 53 rfl ?_
          refine v_iload_n hX dX8_act_53 rfl 1 rfl 54 rfl ?_
          obtain ⟨hi3, hf⟩ := gd_e hf
          refine al_48 hX hi3 dX8_act_54 ((g 48) p1.toNatClampNeg) rfl 55 rfl ?_
          refine v_istore hX dX8_act_55 (ltn hn (by decide)) 57 rfl [(4, .int ((g 48) p1.toNatClampNeg)), (0, .ref (aX X 0)), (1, .int p1), (2, .int p2), (3, .int p3)] rfl ?_
          refine v_aload_n hX dX8_act_57 rfl 1 rfl 58 rfl ?_
          refine gf_0_8 hX q_39 dX8_act_58 61 rfl ?_
          refine v_aload_n hX dX8_act_61 rfl 1 rfl 62 rfl ?_
          refine gf_0_0 hX q_16 dX8_act_62 65 rfl ?_
          refine v_iload hX dX8_act_65 0 rfl 67 rfl ?_
          refine v_iconst (v := (0 : Int32)) hX dX8_act_67 (by decide) 68 rfl ?_
          obtain ⟨v4, hv4, hf⟩ := bn1_e hf
          refine cv_i hX (c0_fact (lkp r [(28, (r 28)), (25, (0 : Int32)), (26, (r 26)), (27, (r 27)), (29, (r 29))]) (lkp g [(50, (g 50))]) u h _ _ hv4) wvX0_fact q_515 rc_1 (Nat.le_of_ble_eq_true rfl) (Nat.le_of_ble_eq_true rfl) (fun _ => rfl) [.ref (aX X 49)] rfl (Nat.le_of_ble_eq_true rfl) dX8_act_68 71 rfl ?_
          refine v_iload hX dX8_act_71 0 rfl 73 rfl ?_
          refine v_aload_n hX dX8_act_73 rfl 1 rfl 74 rfl ?_
          refine gf_0_0 hX q_16 dX8_act_74 77 rfl ?_
          refine v_iload hX dX8_act_77 0 rfl 79 rfl ?_
          refine v_iconst (v := (4 : Int32)) hX dX8_act_79 (by decide) 80 rfl ?_
          obtain ⟨v5, hv5, hf⟩ := bn1_e hf
          refine cv_i hX (c0_fact (lkp r [(28, (r 28)), (25, (0 : Int32)), (26, (r 26)), (27, (r 27)), (29, (r 29))]) (lkp g [(50, (g 50))]) u h _ _ hv5) wvX0_fact q_515 rc_1 (Nat.le_of_ble_eq_true rfl) (Nat.le_of_ble_eq_true rfl) (fun _ => rfl) [.int ((g 48) p1.toNatClampNeg), .int v4, .ref (aX X 49)] rfl (Nat.le_of_ble_eq_true rfl) dX8_act_80 83 rfl ?_
          refine v_iload_n hX dX8_act_83 rfl 3 rfl 84 rfl ?_
          refine v_iload_n hX dX8_act_84 rfl 4 rfl 85 rfl ?_
          obtain ⟨v6, c7, c8, c9, c10, c11, c12, hv6, hf⟩ := bn7_e hf
          refine cv_i hX (c3_perform (lkp r [(28, (r 28)), (25, (0 : Int32)), (26, (r 26)), (27, (r 27)), (29, (r 29))]) (lkp g [(50, (g 50))]) u h _ _ _ _ _ hv6) wvX3_perform q_1127 rc_49 (Nat.le_of_ble_eq_true rfl) (Nat.le_of_ble_eq_true rfl) (fun _ => rfl) [] rfl (Nat.le_of_ble_eq_true rfl) dX8_act_85 88 rfl ?_
          refine v_mgr [(28, c7), (25, c8), (26, c9), (27, c10), (29, c11)] rfl ?_
          refine v_mgg [(50, c12)] rfl ?_
          exact hR _ hf _ _ dX8_act_88 rfl
        · replace hf := it_n h13 hf
          refine v_iconst (v := (0 : Int32)) hX dX8_act_44 (by decide) 45 rfl ?_
          exact hR _ hf _ _ dX8_act_45 rfl
      · replace hf := it_n h14 hf
        refine v_iconst (v := (0 : Int32)) hX dX8_act_24 (by decide) 25 rfl ?_
        exact hR _ hf _ _ dX8_act_25 rfl
set_option maxRecDepth 100000 in
set_option maxHeartbeats 4000000 in
theorem c8_again (r : Nat → Int32) (g : Nat → Nat → Int32) (u : Nat → Int64) (h : Nat → Nat → Int64)  {res : Int32 × Int32 × Int32 × Int32 × Int32 × Int32 × (Nat → Int32) × (Nat → Int32) × (Nat → Int32) × (Nat → Int32) × (Nat → Int32) × (Nat → Int32) × (Nat → Int32) × (Nat → Int32) × (Nat → Int32) × (Nat → Int32)} (hf : f8_again (r 14) (r 1) (r 0) (r 3) (r 2) (r 6) (r 8) (r 7) (r 10) (r 9) (r 13) (g 10) (g 7) (g 9) (g 4) (g 5) (g 3) (g 6) (g 12) (g 8) (g 2) (g 23) (g 20) (g 22) (g 17) (g 18) (g 16) (g 19) (g 25) (g 21) (g 15) = some res) : MAi yX8_again cX8_again 1 (some .int) 2 (fun a => [.ref (a 0)]) r g u h res.1 (lkp r [(1, res.2.1), (0, res.2.2.1), (3, res.2.2.2.1), (2, res.2.2.2.2.1), (6, res.2.2.2.2.2.1)]) (lkp g [(10, res.2.2.2.2.2.2.1), (7, res.2.2.2.2.2.2.2.1), (9, res.2.2.2.2.2.2.2.2.1), (4, res.2.2.2.2.2.2.2.2.2.1), (5, res.2.2.2.2.2.2.2.2.2.2.1), (3, res.2.2.2.2.2.2.2.2.2.2.2.1), (6, res.2.2.2.2.2.2.2.2.2.2.2.2.1), (12, res.2.2.2.2.2.2.2.2.2.2.2.2.2.1), (8, res.2.2.2.2.2.2.2.2.2.2.2.2.2.2.1), (2, res.2.2.2.2.2.2.2.2.2.2.2.2.2.2.2)]) u h := by
  refine mi_i (by decide +kernel) (fun a => Nat.le_of_ble_eq_true rfl) (fun X hX hn hR => ?_)
  replace hR : ∀ q : Int32 × Int32 × Int32 × Int32 × Int32 × Int32 × (Nat → Int32) × (Nat → Int32) × (Nat → Int32) × (Nat → Int32) × (Nat → Int32) × (Nat → Int32) × (Nat → Int32) × (Nat → Int32) × (Nat → Int32) × (Nat → Int32), some q = some res → ∀ lv pc, decode cX8_again pc = .ok (.ireturn, 1) → narrow .int (.int q.1) = .int q.1 → VC X (lkp r [(1, q.2.1), (0, q.2.2.1), (3, q.2.2.2.1), (2, q.2.2.2.2.1), (6, q.2.2.2.2.2.1)]) (lkp g [(10, q.2.2.2.2.2.2.1), (7, q.2.2.2.2.2.2.2.1), (9, q.2.2.2.2.2.2.2.2.1), (4, q.2.2.2.2.2.2.2.2.2.1), (5, q.2.2.2.2.2.2.2.2.2.2.1), (3, q.2.2.2.2.2.2.2.2.2.2.2.1), (6, q.2.2.2.2.2.2.2.2.2.2.2.2.1), (12, q.2.2.2.2.2.2.2.2.2.2.2.2.2.1), (8, q.2.2.2.2.2.2.2.2.2.2.2.2.2.2.1), (2, q.2.2.2.2.2.2.2.2.2.2.2.2.2.2.2)]) u h lv [.int q.1] pc := fun q hq => by cases hq; exact hR
  replace hX : CX X RX8 cX8_again 2 := hX
  refine v_opr [1, 0, 3, 2, 6] [(1, r 1), (0, r 0), (3, r 3), (2, r 2), (6, r 6)] rfl ?_
  refine v_opg [10, 7, 9, 4, 5, 3, 6, 12, 8, 2] [(10, g 10), (7, g 7), (9, g 9), (4, g 4), (5, g 5), (3, g 3), (6, g 6), (12, g 12), (8, g 8), (2, g 2)] rfl ?_
  show VC X (lkp r [(1, r 1), (0, r 0), (3, r 3), (2, r 2), (6, r 6)]) (lkp g [(10, g 10), (7, g 7), (9, g 9), (4, g 4), (5, g 5), (3, g 3), (6, g 6), (12, g 12), (8, g 8), (2, g 2)]) u h [(0, .ref (aX X 0))] [] 0
  rw [f8_again] at hf
  refine v_aload_n hX dX8_again_0 rfl 0 rfl 1 rfl ?_
  refine gf_0_2 hX q_18 dX8_again_1 ((r 14)) rfl 4 rfl ?_
  refine v_if_ne hX dX8_again_4 10 rfl 7 rfl (fun h16 => ?_) (fun h16 => ?_)
  · replace hf := it_n h16 hf
    refine v_aload_n hX dX8_again_10 rfl 0 rfl 11 rfl ?_
    refine gf_0_0 hX q_16 dX8_again_11 14 rfl ?_
    refine v_aload_n hX dX8_again_14 rfl 0 rfl 15 rfl ?_
    refine gf_0_1 hX q_17 dX8_again_15 18 rfl ?_
    obtain ⟨c1, c2, c3, c4, c5, c6, c7, c8, c9, c10, c11, c12, c13, c14, c15, hc1, hf⟩ := bn15_e hf
    refine cv_v hX (c0_copyFrom_t1_a14 (lkp r [(1, (r 1)), (0, (r 0)), (3, (r 3)), (2, (r 2)), (6, (r 6))]) (lkp g [(10, (g 10)), (7, (g 7)), (9, (g 9)), (4, (g 4)), (5, (g 5)), (3, (g 3)), (6, (g 6)), (12, (g 12)), (8, (g 8)), (2, (g 2))]) u h hc1) wvX0_copyFrom q_1227 rc_1 (Nat.le_of_ble_eq_true rfl) (Nat.le_of_ble_eq_true rfl) (fun _ => rfl) [] rfl (Nat.le_of_ble_eq_true rfl) dX8_again_18 21 rfl ?_
    refine v_mgr [(1, c1), (0, c2), (3, c3), (2, c4), (6, c5)] rfl ?_
    refine v_mgg [(10, c6), (7, c7), (9, c8), (4, c9), (5, c10), (3, c11), (6, c12), (12, c13), (8, c14), (2, c15)] rfl ?_
    refine v_aload_n hX dX8_again_21 rfl 0 rfl 22 rfl ?_
    refine gf_0_0 hX q_16 dX8_again_22 25 rfl ?_
    refine gf_1_6 hX q_498 dX8_again_25 (c1) rfl 28 rfl ?_
    exact hR _ hf _ _ dX8_again_28 rfl
  · replace hf := it_p h16 hf
    refine v_bipush (v := (-3 : Int32)) hX dX8_again_7 (by decide) 9 rfl ?_
    exact hR _ hf _ _ dX8_again_9 rfl
set_option maxRecDepth 100000 in
set_option maxHeartbeats 4000000 in
theorem c8_alterRow (r : Nat → Int32) (g : Nat → Nat → Int32) (u : Nat → Int64) (h : Nat → Nat → Int64) (p1 : Int32) (p2 : Int32) (p3 : Int32) {res : Int32 × (Nat → Int32)} (hf : f8_alterRow (r 23) (g 40) p1 p2 p3 = some res) : MAi yX8_alterRow cX8_alterRow 5 (some .int) 2 (fun a => [.ref (a 0), .int p1, .int p2, .int p3]) r g u h res.1 r (lkp g [(40, res.2)]) u h := by
  refine mi_i (by decide +kernel) (fun a => Nat.le_of_ble_eq_true rfl) (fun X hX hn hR => ?_)
  replace hR : ∀ q : Int32 × (Nat → Int32), some q = some res → ∀ lv pc, decode cX8_alterRow pc = .ok (.ireturn, 1) → narrow .int (.int q.1) = .int q.1 → VC X r (lkp g [(40, q.2)]) u h lv [.int q.1] pc := fun q hq => by cases hq; exact hR
  replace hX : CX X RX8 cX8_alterRow 2 := hX
  refine v_opg [40] [(40, g 40)] rfl ?_
  show VC X r (lkp g [(40, g 40)]) u h [(0, .ref (aX X 0)), (1, .int p1), (2, .int p2), (3, .int p3)] [] 0
  rw [f8_alterRow] at hf
  refine v_aload_n hX dX8_alterRow_0 rfl 0 rfl 1 rfl ?_
  refine gf_0_5 hX q_30 dX8_alterRow_1 4 rfl ?_
  refine v_iload_n hX dX8_alterRow_4 rfl 1 rfl 5 rfl ?_
  refine v_iload_n hX dX8_alterRow_5 rfl 2 rfl 6 rfl ?_
  obtain ⟨v1, hv1, hf⟩ := bn1_e hf
  refine cv_i hX (c5_holds_t39 r (lkp g [(40, (g 40))]) u h _ _ hv1) wvX5_holds q_969 rc_39 (Nat.le_of_ble_eq_true rfl) (Nat.le_of_ble_eq_true rfl) (fun _ => rfl) [] rfl (Nat.le_of_ble_eq_true rfl) dX8_alterRow_6 9 rfl ?_
  refine v_if_ne hX dX8_alterRow_9 15 rfl 12 rfl (fun h4 => ?_) (fun h4 => ?_)
  · replace hf := it_n h4 hf
    refine v_aload_n hX dX8_alterRow_15 rfl 0 rfl 16 rfl ?_
    refine gf_0_5 hX q_30 dX8_alterRow_16 19 rfl ?_
    refine v_iload_n hX dX8_alterRow_19 rfl 1 rfl 20 rfl ?_
    refine v_iload_n hX dX8_alterRow_20 rfl 2 rfl 21 rfl ?_
    obtain ⟨v2, hv2, hf⟩ := bn1_e hf
    refine cv_i hX (c5_entry_t39 r (lkp g [(40, (g 40))]) u h _ _ hv2) wvX5_entry q_973 rc_39 (Nat.le_of_ble_eq_true rfl) (Nat.le_of_ble_eq_true rfl) (fun _ => rfl) [] rfl (Nat.le_of_ble_eq_true rfl) dX8_alterRow_21 24 rfl ?_
    refine v_istore hX dX8_alterRow_24 (ltn hn (by decide)) 26 rfl [(4, .int v2), (0, .ref (aX X 0)), (1, .int p1), (2, .int p2), (3, .int p3)] rfl ?_
    refine v_aload_n hX dX8_alterRow_26 rfl 1 rfl 27 rfl ?_
    refine gf_0_5 hX q_30 dX8_alterRow_27 30 rfl ?_
    refine gf_39_0 hX q_990 dX8_alterRow_30 33 rfl ?_
    refine v_iload_n hX dX8_alterRow_33 rfl 2 rfl 34 rfl ?_
    refine v_iconst (v := (3 : Int32)) hX dX8_alterRow_34 (by decide) 35 rfl ?_
    refine v_imul hX dX8_alterRow_35 36 rfl ?_
    refine v_iload_n hX dX8_alterRow_36 rfl 3 rfl 37 rfl ?_
    refine v_iadd hX dX8_alterRow_37 38 rfl ?_
    refine v_iload_n hX dX8_alterRow_38 rfl 4 rfl 39 rfl ?_
    obtain ⟨hi3, hf⟩ := gd_e hf
    refine as_40 hX hi3 dX8_alterRow_39 40 rfl (g 40) rfl [(40, (upd (g 40) ((p1 * (3 : Int32)) + p2).toNatClampNeg p3))] rfl ?_
    refine v_iload hX dX8_alterRow_40 0 rfl 42 rfl ?_
    exact hR _ hf _ _ dX8_alterRow_42 rfl
  · replace hf := it_p h4 hf
    refine v_bipush (v := (-9 : Int32)) hX dX8_alterRow_12 (by decide) 14 rfl ?_
    exact hR _ hf _ _ dX8_alterRow_14 rfl
set_option maxRecDepth 100000 in
set_option maxHeartbeats 4000000 in
theorem c8_best (r : Nat → Int32) (g : Nat → Nat → Int32) (u : Nat → Int64) (h : Nat → Nat → Int64) (p1 : Int32) {res : Int32 × (Nat → Int32) × (Nat → Int32)} (hf : f8_best (r 1) (r 0) (g 7) (g 5) (g 3) (g 6) (g 8) (g 30) (g 29) p1 = some res) : MAi yX8_best cX8_best 3 (some .int) 6 (fun a => [.ref (a 0), .int p1]) r g u h res.1 r (lkp g [(30, res.2.1), (29, res.2.2)]) u h := by
  refine mi_i (by decide +kernel) (fun a => Nat.le_of_ble_eq_true rfl) (fun X hX hn hR => ?_)
  replace hR : ∀ q : Int32 × (Nat → Int32) × (Nat → Int32), some q = some res → ∀ lv pc, decode cX8_best pc = .ok (.ireturn, 1) → narrow .int (.int q.1) = .int q.1 → VC X r (lkp g [(30, q.2.1), (29, q.2.2)]) u h lv [.int q.1] pc := fun q hq => by cases hq; exact hR
  replace hX : CX X RX8 cX8_best 6 := hX
  refine v_opg [30, 29] [(30, g 30), (29, g 29)] rfl ?_
  show VC X r (lkp g [(30, g 30), (29, g 29)]) u h [(0, .ref (aX X 0)), (1, .int p1)] [] 0
  rw [f8_best] at hf
  refine v_iload_n hX dX8_best_0 rfl 1 rfl 1 rfl ?_
  refine v_if_lt hX dX8_best_1 9 rfl 4 rfl (fun h7 => ?_) (fun h7 => ?_)
  · replace hf := it_p h7 hf
    refine v_iconst (v := (-1 : Int32)) hX dX8_best_9 (by decide) 10 rfl ?_
    exact hR _ hf _ _ dX8_best_10 rfl
  · replace hf := it_n h7 hf
    refine v_iload_n hX dX8_best_4 rfl 1 rfl 5 rfl ?_
    refine v_iconst (v := (1 : Int32)) hX dX8_best_5 (by decide) 6 rfl ?_
    refine v_icmp_le hX dX8_best_6 11 rfl 9 rfl (fun h6 => ?_) (fun h6 => ?_)
    · replace hf := it_p h6 hf
      refine v_aload_n hX dX8_best_11 rfl 0 rfl 12 rfl ?_
      refine gf_0_3 hX q_22 dX8_best_12 15 rfl ?_
      refine v_aload_n hX dX8_best_15 rfl 0 rfl 16 rfl ?_
      refine gf_0_0 hX q_16 dX8_best_16 19 rfl ?_
      obtain ⟨v1, c2, c3, hv1, hf⟩ := bn3_e hf
      refine cv_i hX (c7_findAsked r (lkp g [(30, (g 30)), (29, (g 29))]) u h hv1) wvX7_findAsked q_825 rc_27 (Nat.le_of_ble_eq_true rfl) (Nat.le_of_ble_eq_true rfl) (fun _ => rfl) [] rfl (Nat.le_of_ble_eq_true rfl) dX8_best_19 22 rfl ?_
      refine v_mgg [(30, c2), (29, c3)] rfl ?_
      refine v_istore_n hX dX8_best_22 rfl (ltn hn (by decide)) 23 rfl [(2, .int v1), (0, .ref (aX X 0)), (1, .int p1)] rfl ?_
      refine v_iload_n hX dX8_best_23 rfl 2 rfl 24 rfl ?_
      refine v_if_ne hX dX8_best_24 31 rfl 27 rfl (fun h5 => ?_) (fun h5 => ?_)
      · replace hf := it_n h5 hf
        refine v_aload_n hX dX8_best_31 rfl 1 rfl 32 rfl ?_
        refine gf_0_3 hX q_22 dX8_best_32 35 rfl ?_
        refine v_iload_n hX dX8_best_35 rfl 0 rfl 36 rfl ?_
        obtain ⟨v4, hv4, hf⟩ := bn1_e hf
        refine cv_i hX (c7_scoreOf r (lkp g [(30, c2), (29, c3)]) u h _ hv4) wvX7_scoreOf q_680 rc_27 (Nat.le_of_ble_eq_true rfl) (Nat.le_of_ble_eq_true rfl) (fun _ => rfl) [] rfl (Nat.le_of_ble_eq_true rfl) dX8_best_36 39 rfl ?_
        refine v_ldc (v := (100000 : Int32)) hX q_667 dX8_best_39 41 rfl ?_
        refine v_iadd hX dX8_best_41 42 rfl ?_
        exact hR _ hf _ _ dX8_best_42 rfl
      · replace hf := it_p h5 hf
        refine v_iload_n hX dX8_best_27 rfl 0 rfl 28 rfl ?_
        refine v_goto hX dX8_best_28 42 rfl ?_
        exact hR _ hf _ _ dX8_best_42 rfl
    · replace hf := it_n h6 hf
      refine v_iconst (v := (-1 : Int32)) hX dX8_best_9 (by decide) 10 rfl ?_
      exact hR _ hf _ _ dX8_best_10 rfl
set_option maxRecDepth 100000 in
set_option maxHeartbeats 4000000 in
theorem c8_isTown (r : Nat → Int32) (g : Nat → Nat → Int32) (u : Nat → Int64) (h : Nat → Nat → Int64) (p0 : Int32) {res : Int32} (hf : f8_isTown p0 = some res) : MAi yX8_isTown cX8_isTown 1 (some .boolean) 0 (fun a => [.int p0]) r g u h res r g u h := by
  refine mi_i (by decide +kernel) (fun a => Nat.le_of_ble_eq_true rfl) (fun X hX hn hR => ?_)
  replace hR : ∀ q : Int32, some q = some res → ∀ lv pc, decode cX8_isTown pc = .ok (.ireturn, 1) → narrow .boolean (.int q) = .int q → VC X r g u h lv [.int q] pc := fun q hq => by cases hq; exact hR
  replace hX : CX X RX8 cX8_isTown 0 := hX
  show VC X r g u h [(0, .int p0)] [] 0
  rw [f8_isTown] at hf
  refine v_iload_n hX dX8_isTown_0 rfl 0 rfl 1 rfl ?_
  refine v_if_lt hX dX8_isTown_1 13 rfl 4 rfl (fun h2 => ?_) (fun h2 => ?_)
  · replace hf := it_p h2 hf
    refine v_iconst (v := (0 : Int32)) hX dX8_isTown_13 (by decide) 14 rfl ?_
    exact hR _ hf _ _ dX8_isTown_14 (bz_nar (v := (0 : Int32)) (by decide))
  · replace hf := it_n h2 hf
    refine v_iload_n hX dX8_isTown_4 rfl 0 rfl 5 rfl ?_
    refine v_iconst (v := (4 : Int32)) hX dX8_isTown_5 (by decide) 6 rfl ?_
    refine v_icmp_ge hX dX8_isTown_6 13 rfl 9 rfl (fun h1 => ?_) (fun h1 => ?_)
    · replace hf := it_p h1 hf
      refine v_iconst (v := (0 : Int32)) hX dX8_isTown_13 (by decide) 14 rfl ?_
      exact hR _ hf _ _ dX8_isTown_14 (bz_nar (v := (0 : Int32)) (by decide))
    · replace hf := it_n h1 hf
      refine v_iconst (v := (1 : Int32)) hX dX8_isTown_9 (by decide) 10 rfl ?_
      refine v_goto hX dX8_isTown_10 14 rfl ?_
      exact hR _ hf _ _ dX8_isTown_14 (bz_nar (v := (1 : Int32)) (by decide))
set_option maxRecDepth 100000 in
set_option maxHeartbeats 4000000 in
theorem c8_claim (r : Nat → Int32) (g : Nat → Nat → Int32) (u : Nat → Int64) (h : Nat → Nat → Int64) (p1 : Int32) (p2 : Int32) (p3 : Int32) (p4 : Int32) (p5 : Int32) {res : Int32 × Int32 × (Nat → Int32) × (Nat → Int32) × (Nat → Int32) × (Nat → Int32)} (hf : f8_claim (r 1) (g 10) (g 7) (g 9) (g 8) p1 p2 p3 p4 p5 = some res) : MAi yX8_claim cX8_claim 6 (some .int) 1 (fun a => [.ref (a 0), .int p1, .int p2, .int p3, .int p4, .int p5]) r g u h res.1 (lkp r [(1, res.2.1)]) (lkp g [(10, res.2.2.1), (7, res.2.2.2.1), (9, res.2.2.2.2.1), (8, res.2.2.2.2.2)]) u h := by
  refine mi_i (by decide +kernel) (fun a => Nat.le_of_ble_eq_true rfl) (fun X hX hn hR => ?_)
  replace hR : ∀ q : Int32 × Int32 × (Nat → Int32) × (Nat → Int32) × (Nat → Int32) × (Nat → Int32), some q = some res → ∀ lv pc, decode cX8_claim pc = .ok (.ireturn, 1) → narrow .int (.int q.1) = .int q.1 → VC X (lkp r [(1, q.2.1)]) (lkp g [(10, q.2.2.1), (7, q.2.2.2.1), (9, q.2.2.2.2.1), (8, q.2.2.2.2.2)]) u h lv [.int q.1] pc := fun q hq => by cases hq; exact hR
  replace hX : CX X RX8 cX8_claim 1 := hX
  refine v_opr [1] [(1, r 1)] rfl ?_
  refine v_opg [10, 7, 9, 8] [(10, g 10), (7, g 7), (9, g 9), (8, g 8)] rfl ?_
  show VC X (lkp r [(1, r 1)]) (lkp g [(10, g 10), (7, g 7), (9, g 9), (8, g 8)]) u h [(0, .ref (aX X 0)), (1, .int p1), (2, .int p2), (3, .int p3), (4, .int p4), (5, .int p5)] [] 0
  rw [f8_claim] at hf
  refine v_iload_n hX dX8_claim_0 rfl 1 rfl 1 rfl ?_
  refine v_if_lt hX dX8_claim_1 27 rfl 4 rfl (fun h17 => ?_) (fun h17 => ?_)
  · replace hf := it_p h17 hf
    refine v_iconst (v := (-1 : Int32)) hX dX8_claim_27 (by decide) 28 rfl ?_
    exact hR _ hf _ _ dX8_claim_28 rfl
  · replace hf := it_n h17 hf
    refine v_iload_n hX dX8_claim_4 rfl 1 rfl 5 rfl ?_
    refine v_bipush (v := (6 : Int32)) hX dX8_claim_5 (by decide) 7 rfl ?_
    refine v_icmp_ge hX dX8_claim_7 27 rfl 10 rfl (fun h16 => ?_) (fun h16 => ?_)
    · replace hf := it_p h16 hf
      refine v_iconst (v := (-1 : Int32)) hX dX8_claim_27 (by decide) 28 rfl ?_
      exact hR _ hf _ _ dX8_claim_28 rfl
    · replace hf := it_n h16 hf
      refine v_iload_n hX dX8_claim_10 rfl 2 rfl 11 rfl ?_
      refine v_if_lt hX dX8_claim_11 27 rfl 14 rfl (fun h15 => ?_) (fun h15 => ?_)
      · replace hf := it_p h15 hf
        refine v_iconst (v := (-1 : Int32)) hX dX8_claim_27 (by decide) 28 rfl ?_
        exact hR _ hf _ _ dX8_claim_28 rfl
      · replace hf := it_n h15 hf
        refine v_iload_n hX dX8_claim_14 rfl 2 rfl 15 rfl ?_
        refine v_bipush (v := (99 : Int32)) hX dX8_claim_15 (by decide) 17 rfl ?_
        refine v_icmp_gt hX dX8_claim_17 27 rfl 20 rfl (fun h14 => ?_) (fun h14 => ?_)
        · replace hf := it_p h14 hf
          refine v_iconst (v := (-1 : Int32)) hX dX8_claim_27 (by decide) 28 rfl ?_
          exact hR _ hf _ _ dX8_claim_28 rfl
        · replace hf := it_n h14 hf
          refine v_iload_n hX dX8_claim_20 rfl 3 rfl 21 rfl ?_
          obtain ⟨v1, hv1, hf⟩ := bn1_e hf
          refine cs_i hX (c8_isTown (lkp r [(1, (r 1))]) (lkp g [(10, (g 10)), (7, (g 7)), (9, (g 9)), (8, (g 8))]) u h _ hv1) wvX8_isTown q_388 (Nat.le_of_ble_eq_true rfl) (Nat.le_of_ble_eq_true rfl) (fun _ => rfl) [] rfl (Nat.le_of_ble_eq_true rfl) dX8_claim_21 24 rfl ?_
          refine v_if_ne hX dX8_claim_24 29 rfl 27 rfl (fun h13 => ?_) (fun h13 => ?_)
          · replace hf := it_n h13 hf
            refine v_iload hX dX8_claim_29 4 rfl 31 rfl ?_
            refine v_if_lt hX dX8_claim_31 53 rfl 34 rfl (fun h12 => ?_) (fun h12 => ?_)
            · replace hf := it_p h12 hf
              refine v_iconst (v := (-1 : Int32)) hX dX8_claim_53 (by decide) 54 rfl ?_
              exact hR _ hf _ _ dX8_claim_54 rfl
            · replace hf := it_n h12 hf
              refine v_iload hX dX8_claim_34 4 rfl 36 rfl ?_
              refine v_bipush (v := (9 : Int32)) hX dX8_claim_36 (by decide) 38 rfl ?_
              refine v_icmp_gt hX dX8_claim_38 53 rfl 41 rfl (fun h11 => ?_) (fun h11 => ?_)
              · replace hf := it_p h11 hf
                refine v_iconst (v := (-1 : Int32)) hX dX8_claim_53 (by decide) 54 rfl ?_
                exact hR _ hf _ _ dX8_claim_54 rfl
              · replace hf := it_n h11 hf
                refine v_iload hX dX8_claim_41 5 rfl 43 rfl ?_
                refine v_if_lt hX dX8_claim_43 53 rfl 46 rfl (fun h10 => ?_) (fun h10 => ?_)
                · replace hf := it_p h10 hf
                  refine v_iconst (v := (-1 : Int32)) hX dX8_claim_53 (by decide) 54 rfl ?_
                  exact hR _ hf _ _ dX8_claim_54 rfl
                · replace hf := it_n h10 hf
                  refine v_iload hX dX8_claim_46 5 rfl 48 rfl ?_
                  refine v_bipush (v := (99 : Int32)) hX dX8_claim_48 (by decide) 50 rfl ?_
                  refine v_icmp_le hX dX8_claim_50 55 rfl 53 rfl (fun h9 => ?_) (fun h9 => ?_)
                  · replace hf := it_p h9 hf
                    refine v_aload_n hX dX8_claim_55 rfl 0 rfl 56 rfl ?_
                    refine gf_0_0 hX q_16 dX8_claim_56 59 rfl ?_
                    refine gf_1_6 hX q_498 dX8_claim_59 ((r 1)) rfl 62 rfl ?_
                    refine v_bipush (v := (9 : Int32)) hX dX8_claim_62 (by decide) 64 rfl ?_
                    refine v_icmp_lt hX dX8_claim_64 70 rfl 67 rfl (fun h8 => ?_) (fun h8 => ?_)
                    · replace hf := it_p h8 hf
                      refine v_aload_n hX dX8_claim_70 rfl 0 rfl 71 rfl ?_
                      refine gf_0_0 hX q_16 dX8_claim_71 74 rfl ?_
                      refine v_iload_n hX dX8_claim_74 rfl 1 rfl 75 rfl ?_
                      refine v_iload_n hX dX8_claim_75 rfl 2 rfl 76 rfl ?_
                      refine v_iload_n hX dX8_claim_76 rfl 3 rfl 77 rfl ?_
                      refine v_iload hX dX8_claim_77 4 rfl 79 rfl ?_
                      refine v_iload hX dX8_claim_79 5 rfl 81 rfl ?_
                      obtain ⟨v2, c3, c4, c5, c6, c7, hv2, hf⟩ := bn6_e hf
                      refine cv_i hX (c0_addClaim (lkp r [(1, (r 1))]) (lkp g [(10, (g 10)), (7, (g 7)), (9, (g 9)), (8, (g 8))]) u h _ _ _ _ _ hv2) wvX0_addClaim q_499 rc_1 (Nat.le_of_ble_eq_true rfl) (Nat.le_of_ble_eq_true rfl) (fun _ => rfl) [] rfl (Nat.le_of_ble_eq_true rfl) dX8_claim_81 84 rfl ?_
                      refine v_mgr [(1, c3)] rfl ?_
                      refine v_mgg [(10, c4), (7, c5), (9, c6), (8, c7)] rfl ?_
                      exact hR _ hf _ _ dX8_claim_84 rfl
                    · replace hf := it_n h8 hf
                      refine v_bipush (v := (-2 : Int32)) hX dX8_claim_67 (by decide) 69 rfl ?_
                      exact hR _ hf _ _ dX8_claim_69 rfl
                  · replace hf := it_n h9 hf
                    refine v_iconst (v := (-1 : Int32)) hX dX8_claim_53 (by decide) 54 rfl ?_
                    exact hR _ hf _ _ dX8_claim_54 rfl
          · replace hf := it_p h13 hf
            refine v_iconst (v := (-1 : Int32)) hX dX8_claim_27 (by decide) 28 rfl ?_
            exact hR _ hf _ _ dX8_claim_28 rfl
set_option maxRecDepth 100000 in
set_option maxHeartbeats 4000000 in
theorem c8_claimOf (r : Nat → Int32) (g : Nat → Nat → Int32) (u : Nat → Int64) (h : Nat → Nat → Int64) (p1 : Int32) (p2 : Int32) {res : Int32} (hf : f8_claimOf (r 1) (g 7) (g 8) p1 p2 = some res) : MAi yX8_claimOf cX8_claimOf 3 (some .int) 2 (fun a => [.ref (a 0), .int p1, .int p2]) r g u h res r g u h := by
  refine mi_i (by decide +kernel) (fun a => Nat.le_of_ble_eq_true rfl) (fun X hX hn hR => ?_)
  replace hR : ∀ q : Int32, some q = some res → ∀ lv pc, decode cX8_claimOf pc = .ok (.ireturn, 1) → narrow .int (.int q) = .int q → VC X r g u h lv [.int q] pc := fun q hq => by cases hq; exact hR
  replace hX : CX X RX8 cX8_claimOf 2 := hX
  show VC X r g u h [(0, .ref (aX X 0)), (1, .int p1), (2, .int p2)] [] 0
  rw [f8_claimOf] at hf
  refine v_aload_n hX dX8_claimOf_0 rfl 0 rfl 1 rfl ?_
  refine gf_0_0 hX q_16 dX8_claimOf_1 4 rfl ?_
  refine v_iload_n hX dX8_claimOf_4 rfl 1 rfl 5 rfl ?_
  obtain ⟨v1, hv1, hf⟩ := bn1_e hf
  refine cv_i hX (c0_isClaim r g u h _ hv1) wvX0_isClaim q_511 rc_1 (Nat.le_of_ble_eq_true rfl) (Nat.le_of_ble_eq_true rfl) (fun _ => rfl) [] rfl (Nat.le_of_ble_eq_true rfl) dX8_claimOf_5 8 rfl ?_
  refine v_if_ne hX dX8_claimOf_8 13 rfl 11 rfl (fun h9 => ?_) (fun h9 => ?_)
  · replace hf := it_n h9 hf
    refine v_iload_n hX dX8_claimOf_13 rfl 2 rfl 14 rfl ?_
    obtain ⟨J2, hJ2, hf⟩ := jn_x hf
    have HJ2 : J2 = some res → VC X r g u h [(0, .ref (aX X 0)), (1, .int p1), (2, .int p2)] [] 32 := by
      intro hf
      rw [hJ2] at hf
      refine v_iload_n hX dX8_claimOf_32 rfl 2 rfl 33 rfl ?_
      refine v_bipush (v := (10 : Int32)) hX dX8_claimOf_33 (by decide) 35 rfl ?_
      refine v_icmp_lt hX dX8_claimOf_35 44 rfl 38 rfl (fun h5 => ?_) (fun h5 => ?_)
      · replace hf := it_p h5 hf
        refine v_iconst (v := (-1 : Int32)) hX dX8_claimOf_44 (by decide) 45 rfl ?_
        exact hR _ hf _ _ dX8_claimOf_45 rfl
      · replace hf := it_n h5 hf
        refine v_iload_n hX dX8_claimOf_38 rfl 2 rfl 39 rfl ?_
        refine v_bipush (v := (14 : Int32)) hX dX8_claimOf_39 (by decide) 41 rfl ?_
        refine v_icmp_lt hX dX8_claimOf_41 46 rfl 44 rfl (fun h4 => ?_) (fun h4 => ?_)
        · replace hf := it_p h4 hf
          refine v_aload_n hX dX8_claimOf_46 rfl 0 rfl 47 rfl ?_
          refine gf_0_0 hX q_16 dX8_claimOf_47 50 rfl ?_
          refine v_iload_n hX dX8_claimOf_50 rfl 1 rfl 51 rfl ?_
          refine v_iload_n hX dX8_claimOf_51 rfl 2 rfl 52 rfl ?_
          refine v_bipush (v := (10 : Int32)) hX dX8_claimOf_52 (by decide) 54 rfl ?_
          refine v_isub hX dX8_claimOf_54 55 rfl ?_
          obtain ⟨v3, hv3, hf⟩ := bn1_e hf
          refine cv_i hX (c0_sitter r g u h _ _ hv3) wvX0_sitter q_520 rc_1 (Nat.le_of_ble_eq_true rfl) (Nat.le_of_ble_eq_true rfl) (fun _ => rfl) [] rfl (Nat.le_of_ble_eq_true rfl) dX8_claimOf_55 58 rfl ?_
          exact hR _ hf _ _ dX8_claimOf_58 rfl
        · replace hf := it_n h4 hf
          refine v_iconst (v := (-1 : Int32)) hX dX8_claimOf_44 (by decide) 45 rfl ?_
          exact hR _ hf _ _ dX8_claimOf_45 rfl
    refine v_if_lt hX dX8_claimOf_14 32 rfl 17 rfl (fun h8 => ?_) (fun h8 => ?_)
    · replace hf := it_p h8 hf
      exact HJ2  hf
    · replace hf := it_n h8 hf
      refine v_iload_n hX dX8_claimOf_17 rfl 2 rfl 18 rfl ?_
      refine v_iconst (v := (5 : Int32)) hX dX8_claimOf_18 (by decide) 19 rfl ?_
      refine v_icmp_ge hX dX8_claimOf_19 32 rfl 22 rfl (fun h7 => ?_) (fun h7 => ?_)
      · replace hf := it_p h7 hf
        exact HJ2  hf
      · replace hf := it_n h7 hf
        refine v_aload_n hX dX8_claimOf_22 rfl 0 rfl 23 rfl ?_
        refine gf_0_0 hX q_16 dX8_claimOf_23 26 rfl ?_
        refine v_iload_n hX dX8_claimOf_26 rfl 1 rfl 27 rfl ?_
        refine v_iload_n hX dX8_claimOf_27 rfl 2 rfl 28 rfl ?_
        obtain ⟨v6, hv6, hf⟩ := bn1_e hf
        refine cv_i hX (c0_fact r g u h _ _ hv6) wvX0_fact q_515 rc_1 (Nat.le_of_ble_eq_true rfl) (Nat.le_of_ble_eq_true rfl) (fun _ => rfl) [] rfl (Nat.le_of_ble_eq_true rfl) dX8_claimOf_28 31 rfl ?_
        exact hR _ hf _ _ dX8_claimOf_31 rfl
  · replace hf := it_p h9 hf
    refine v_iconst (v := (-1 : Int32)) hX dX8_claimOf_11 (by decide) 12 rfl ?_
    exact hR _ hf _ _ dX8_claimOf_12 rfl
set_option maxRecDepth 100000 in
set_option maxHeartbeats 4000000 in
theorem c8_draw (r : Nat → Int32) (g : Nat → Nat → Int32) (u : Nat → Int64) (h : Nat → Nat → Int64)  {res : Int32 × Int32} (hf : f8_draw (r 1) (r 6) (g 9) = some res) : MAi yX8_draw cX8_draw 4 (some .int) 1 (fun a => [.ref (a 0)]) r g u h res.1 (lkp r [(6, res.2)]) g u h := by
  refine mi_i (by decide +kernel) (fun a => Nat.le_of_ble_eq_true rfl) (fun X hX hn hR => ?_)
  replace hR : ∀ q : Int32 × Int32, some q = some res → ∀ lv pc, decode cX8_draw pc = .ok (.ireturn, 1) → narrow .int (.int q.1) = .int q.1 → VC X (lkp r [(6, q.2)]) g u h lv [.int q.1] pc := fun q hq => by cases hq; exact hR
  replace hX : CX X RX8 cX8_draw 1 := hX
  refine v_opr [6] [(6, r 6)] rfl ?_
  show VC X (lkp r [(6, r 6)]) g u h [(0, .ref (aX X 0))] [] 0
  rw [f8_draw] at hf
  refine v_aload_n hX dX8_draw_0 rfl 0 rfl 1 rfl ?_
  refine gf_0_0 hX q_16 dX8_draw_1 4 rfl ?_
  refine gf_1_6 hX q_498 dX8_draw_4 ((r 1)) rfl 7 rfl ?_
  refine v_aload_n hX dX8_draw_7 rfl 0 rfl 8 rfl ?_
  refine gf_0_0 hX q_16 dX8_draw_8 11 rfl ?_
  obtain ⟨v1, hv1, hf⟩ := bn1_e hf
  refine cv_i hX (c0_countFound (lkp r [(6, (r 6))]) g u h hv1) wvX0_countFound q_926 rc_1 (Nat.le_of_ble_eq_true rfl) (Nat.le_of_ble_eq_true rfl) (fun _ => rfl) [.int (r 1)] rfl (Nat.le_of_ble_eq_true rfl) dX8_draw_11 14 rfl ?_
  refine v_isub hX dX8_draw_14 15 rfl ?_
  refine v_istore_n hX dX8_draw_15 rfl (ltn hn (by decide)) 16 rfl [(1, .int ((r 1) - v1)), (0, .ref (aX X 0))] rfl ?_
  refine v_iload_n hX dX8_draw_16 rfl 0 rfl 17 rfl ?_
  refine v_if_gt hX dX8_draw_17 23 rfl 20 rfl (fun h13 => ?_) (fun h13 => ?_)
  · replace hf := it_p h13 hf
    refine v_aload_n hX dX8_draw_23 rfl 1 rfl 24 rfl ?_
    refine gf_0_0 hX q_16 dX8_draw_24 27 rfl ?_
    refine v_aload_n hX dX8_draw_27 rfl 1 rfl 28 rfl ?_
    refine gf_0_0 hX q_16 dX8_draw_28 31 rfl ?_
    refine gf_1_12 hX q_916 dX8_draw_31 ((r 6)) rfl 34 rfl ?_
    refine v_ldc (v := (1103515245 : Int32)) hX q_925 dX8_draw_34 36 rfl ?_
    refine v_imul hX dX8_draw_36 37 rfl ?_
    refine v_sipush (v := (12345 : Int32)) hX dX8_draw_37 (by decide) 40 rfl ?_
    refine v_iadd hX dX8_draw_40 41 rfl ?_
    refine pf_1_12 hX q_916 dX8_draw_41 44 rfl [(6, (((r 6) * (1103515245 : Int32)) + (12345 : Int32)))] rfl ?_
    refine v_aload_n hX dX8_draw_44 rfl 1 rfl 45 rfl ?_
    refine gf_0_0 hX q_16 dX8_draw_45 48 rfl ?_
    refine gf_1_12 hX q_916 dX8_draw_48 ((((r 6) * (1103515245 : Int32)) + (12345 : Int32))) rfl 51 rfl ?_
    refine v_bipush (v := (16 : Int32)) hX dX8_draw_51 (by decide) 53 rfl ?_
    refine v_iushr hX dX8_draw_53 54 rfl ?_
    refine v_iload_n hX dX8_draw_54 rfl 0 rfl 55 rfl ?_
    obtain ⟨hz2, hf⟩ := gd_e hf
    refine v_irem hX dX8_draw_55 (of_decide_eq_true hz2) 56 rfl ?_
    refine v_istore_n hX dX8_draw_56 rfl (ltn hn (by decide)) 57 rfl [(2, .int (((((r 6) * (1103515245 : Int32)) + (12345 : Int32)).toUInt32 >>> ((16 : Int32).toUInt32 &&& Int32.toUInt32 31)).toInt32 - ((((r 6) * (1103515245 : Int32)) + (12345 : Int32)).toUInt32 >>> ((16 : Int32).toUInt32 &&& Int32.toUInt32 31)).toInt32 / ((r 1) - v1) * ((r 1) - v1))), (1, .int ((r 1) - v1)), (0, .ref (aX X 0))] rfl ?_
    refine v_iconst (v := (0 : Int32)) hX dX8_draw_57 (by decide) 58 rfl ?_
    refine v_istore_n hX dX8_draw_58 rfl (ltn hn (by decide)) 59 rfl [(3, .int (0 : Int32)), (2, .int (((((r 6) * (1103515245 : Int32)) + (12345 : Int32)).toUInt32 >>> ((16 : Int32).toUInt32 &&& Int32.toUInt32 31)).toInt32 - ((((r 6) * (1103515245 : Int32)) + (12345 : Int32)).toUInt32 >>> ((16 : Int32).toUInt32 &&& Int32.toUInt32 31)).toInt32 / ((r 1) - v1) * ((r 1) - v1))), (1, .int ((r 1) - v1)), (0, .ref (aX X 0))] rfl ?_
    obtain ⟨K5, hK5, hf⟩ := jn_x hf
    have HK5 : ∀ (x3 : Int32) (x4 : Int32), K5 x3 x4 = some res → VC X (lkp r [(6, (((r 6) * (1103515245 : Int32)) + (12345 : Int32)))]) g u h [] [] 102 := by
      intro x3 x4 hf
      rw [hK5] at hf
      refine v_bipush (v := (-3 : Int32)) hX dX8_draw_102 (by decide) 104 rfl ?_
      exact hR _ hf _ _ dX8_draw_104 rfl
    have HLK5 : ∀ (n6 : Nat) (x3 : Int32) (x4 : Int32), f8_draw_L59 (r 1) (r 6) (g 9) n6 x3 x4 K5 = some res → VC X (lkp r [(6, (((r 6) * (1103515245 : Int32)) + (12345 : Int32)))]) g u h [(0, .ref (aX X 0)), (2, .int x3), (3, .int x4)] [] 59 := by
      intro n6
      induction n6 with
      | zero => intro x3 x4 hf; exact no_s hf
      | succ n6 ih =>
        intro x3 x4 hf
        rw [f8_draw_L59] at hf
        refine v_iload_n hX dX8_draw_59 rfl 2 rfl 60 rfl ?_
        refine v_aload_n hX dX8_draw_60 rfl 0 rfl 61 rfl ?_
        refine gf_0_0 hX q_16 dX8_draw_61 64 rfl ?_
        refine gf_1_6 hX q_498 dX8_draw_64 ((r 1)) rfl 67 rfl ?_
        refine v_icmp_ge hX dX8_draw_67 102 rfl 70 rfl (fun h12 => ?_) (fun h12 => ?_)
        · replace hf := it_p h12 hf
          refine v_sub [] sbn ?_
          exact HK5 _ _ hf
        · replace hf := it_n h12 hf
          refine v_aload_n hX dX8_draw_70 rfl 0 rfl 71 rfl ?_
          refine gf_0_0 hX q_16 dX8_draw_71 74 rfl ?_
          refine gf_1_9 hX q_890 dX8_draw_74 77 rfl ?_
          refine v_iload_n hX dX8_draw_77 rfl 2 rfl 78 rfl ?_
          obtain ⟨hi7, hf⟩ := gd_e hf
          refine al_9 hX hi7 dX8_draw_78 ((g 9) x4.toNatClampNeg) rfl 79 rfl ?_
          refine v_bipush (v := (-9 : Int32)) hX dX8_draw_79 (by decide) 81 rfl ?_
          obtain ⟨J8, hJ8, hf⟩ := jn_x hf
          have HJ8 : ∀ (y9 : Int32), J8 y9 = some res → VC X (lkp r [(6, (((r 6) * (1103515245 : Int32)) + (12345 : Int32)))]) g u h [(0, .ref (aX X 0)), (2, .int y9), (3, .int x4)] [] 96 := by
            intro y9 hf
            rw [hJ8] at hf
            refine v_inc (c := (1 : Int32)) hX dX8_draw_96 2 rfl (by decide) (ltn hn (by decide)) 99 rfl [(3, .int (x4 + (1 : Int32))), (0, .ref (aX X 0)), (2, .int y9)] rfl ?_
            refine v_goto hX dX8_draw_99 59 rfl ?_
            refine v_sub [(0, .ref (aX X 0)), (2, .int y9), (3, .int (x4 + (1 : Int32)))] (sbc 1 rfl (sbc 2 rfl (sbc 0 rfl sbn))) ?_
            exact ih _ _ hf
          refine v_icmp_eq hX dX8_draw_81 87 rfl 84 rfl (fun h11 => ?_) (fun h11 => ?_)
          · replace hf := it_p h11 hf
            refine v_iload_n hX dX8_draw_87 rfl 1 rfl 88 rfl ?_
            refine v_if_ne hX dX8_draw_88 93 rfl 91 rfl (fun h10 => ?_) (fun h10 => ?_)
            · replace hf := it_n h10 hf
              refine v_inc (c := (-1 : Int32)) hX dX8_draw_93 1 rfl (by decide) (ltn hn (by decide)) 96 rfl [(2, .int (x3 + (-1 : Int32))), (0, .ref (aX X 0)), (3, .int x4)] rfl ?_
              refine v_sub [(0, .ref (aX X 0)), (2, .int (x3 + (-1 : Int32))), (3, .int x4)] (sbc 1 rfl (sbc 0 rfl (sbc 2 rfl sbn))) ?_
              exact HJ8 _ hf
            · replace hf := it_p h10 hf
              refine v_iload_n hX dX8_draw_91 rfl 2 rfl 92 rfl ?_
              exact hR _ hf _ _ dX8_draw_92 rfl
          · replace hf := it_n h11 hf
            refine v_goto hX dX8_draw_84 96 rfl ?_
            exact HJ8 _ hf
    refine v_sub [(0, .ref (aX X 0)), (2, .int (((((r 6) * (1103515245 : Int32)) + (12345 : Int32)).toUInt32 >>> ((16 : Int32).toUInt32 &&& Int32.toUInt32 31)).toInt32 - ((((r 6) * (1103515245 : Int32)) + (12345 : Int32)).toUInt32 >>> ((16 : Int32).toUInt32 &&& Int32.toUInt32 31)).toInt32 / ((r 1) - v1) * ((r 1) - v1))), (3, .int (0 : Int32))] (sbc 3 rfl (sbc 1 rfl (sbc 0 rfl sbn))) ?_
    exact HLK5 _ _ _ hf
  · replace hf := it_n h13 hf
    refine v_bipush (v := (-3 : Int32)) hX dX8_draw_20 (by decide) 22 rfl ?_
    exact hR _ hf _ _ dX8_draw_22 rfl
set_option maxRecDepth 100000 in
set_option maxHeartbeats 4000000 in
theorem c8_feed (r : Nat → Int32) (g : Nat → Nat → Int32) (u : Nat → Int64) (h : Nat → Nat → Int64) (p1 : Int64) (p3 : Int32) {res : Int32 × Int32 × (Nat → Int32)} (hf : f8_feed (r 15) (g 33) p1 p3 = some res) : MAi yX8_feed cX8_feed 5 (some .int) 1 (fun a => [.ref (a 0), .long p1, .int p3]) r g u h res.1 (lkp r [(15, res.2.1)]) (lkp g [(33, res.2.2)]) u h := by
  refine mi_i (by decide +kernel) (fun a => Nat.le_of_ble_eq_true rfl) (fun X hX hn hR => ?_)
  replace hR : ∀ q : Int32 × Int32 × (Nat → Int32), some q = some res → ∀ lv pc, decode cX8_feed pc = .ok (.ireturn, 1) → narrow .int (.int q.1) = .int q.1 → VC X (lkp r [(15, q.2.1)]) (lkp g [(33, q.2.2)]) u h lv [.int q.1] pc := fun q hq => by cases hq; exact hR
  replace hX : CX X RX8 cX8_feed 1 := hX
  refine v_opr [15] [(15, r 15)] rfl ?_
  refine v_opg [33] [(33, g 33)] rfl ?_
  show VC X (lkp r [(15, r 15)]) (lkp g [(33, g 33)]) u h [(0, .ref (aX X 0)), (1, .long p1), (3, .int p3)] [] 0
  rw [f8_feed] at hf
  refine v_iload_n hX dX8_feed_0 rfl 2 rfl 1 rfl ?_
  refine v_iconst (v := (1 : Int32)) hX dX8_feed_1 (by decide) 2 rfl ?_
  refine v_icmp_lt hX dX8_feed_2 11 rfl 5 rfl (fun h11 => ?_) (fun h11 => ?_)
  · replace hf := it_p h11 hf
    refine v_iconst (v := (-1 : Int32)) hX dX8_feed_11 (by decide) 12 rfl ?_
    exact hR _ hf _ _ dX8_feed_12 rfl
  · replace hf := it_n h11 hf
    refine v_iload_n hX dX8_feed_5 rfl 2 rfl 6 rfl ?_
    refine v_bipush (v := (8 : Int32)) hX dX8_feed_6 (by decide) 8 rfl ?_
    refine v_icmp_le hX dX8_feed_8 13 rfl 11 rfl (fun h10 => ?_) (fun h10 => ?_)
    · replace hf := it_p h10 hf
      refine v_aload_n hX dX8_feed_13 rfl 0 rfl 14 rfl ?_
      refine gf_0_4 hX q_26 dX8_feed_14 17 rfl ?_
      refine gf_32_1 hX q_138 dX8_feed_17 ((r 15)) rfl 20 rfl ?_
      refine v_iload_n hX dX8_feed_20 rfl 2 rfl 21 rfl ?_
      refine v_iadd hX dX8_feed_21 22 rfl ?_
      refine v_sipush (v := (200 : Int32)) hX dX8_feed_22 (by decide) 25 rfl ?_
      refine v_icmp_le hX dX8_feed_25 31 rfl 28 rfl (fun h9 => ?_) (fun h9 => ?_)
      · replace hf := it_p h9 hf
        refine v_iconst (v := (0 : Int32)) hX dX8_feed_31 (by decide) 32 rfl ?_
        refine v_istore hX dX8_feed_32 (ltn hn (by decide)) 34 rfl [(4, .int (0 : Int32)), (0, .ref (aX X 0)), (1, .long p1), (3, .int p3)] rfl ?_
        obtain ⟨K4, hK4, hf⟩ := jn_x hf
        have HK4 : ∀ (x1 : Int32) (c2 : Int32) (c3 : (Nat → Int32)), K4 x1 c2 c3 = some res → VC X (lkp r [(15, c2)]) (lkp g [(33, c3)]) u h [(0, .ref (aX X 0))] [] 65 := by
          intro x1 c2 c3 hf
          rw [hK4] at hf
          refine v_aload_n hX dX8_feed_65 rfl 0 rfl 66 rfl ?_
          refine gf_0_4 hX q_26 dX8_feed_66 69 rfl ?_
          refine gf_32_1 hX q_138 dX8_feed_69 (c2) rfl 72 rfl ?_
          exact hR _ hf _ _ dX8_feed_72 rfl
        have HLK4 : ∀ (n5 : Nat) (x1 : Int32) (c2 : Int32) (c3 : (Nat → Int32)), f8_feed_L34 p1 p3 n5 x1 c2 c3 K4 = some res → VC X (lkp r [(15, c2)]) (lkp g [(33, c3)]) u h [(0, .ref (aX X 0)), (1, .long p1), (3, .int p3), (4, .int x1)] [] 34 := by
          intro n5
          induction n5 with
          | zero => intro x1 c2 c3 hf; exact no_s hf
          | succ n5 ih =>
            intro x1 c2 c3 hf
            rw [f8_feed_L34] at hf
            refine v_iload hX dX8_feed_34 3 rfl 36 rfl ?_
            refine v_iload_n hX dX8_feed_36 rfl 2 rfl 37 rfl ?_
            refine v_icmp_ge hX dX8_feed_37 65 rfl 40 rfl (fun h8 => ?_) (fun h8 => ?_)
            · replace hf := it_p h8 hf
              refine v_sub [(0, .ref (aX X 0))] (sbc 0 rfl sbn) ?_
              exact HK4 _ _ _ hf
            · replace hf := it_n h8 hf
              refine v_aload_n hX dX8_feed_40 rfl 0 rfl 41 rfl ?_
              refine gf_0_4 hX q_26 dX8_feed_41 44 rfl ?_
              refine v_lload_n hX dX8_feed_44 rfl 1 rfl 45 rfl ?_
              refine v_bipush (v := (8 : Int32)) hX dX8_feed_45 (by decide) 47 rfl ?_
              refine v_iload hX dX8_feed_47 3 rfl 49 rfl ?_
              refine v_imul hX dX8_feed_49 50 rfl ?_
              refine v_lushr hX dX8_feed_50 51 rfl ?_
              refine v_l2i hX dX8_feed_51 52 rfl ?_
              refine v_sipush (v := (255 : Int32)) hX dX8_feed_52 (by decide) 55 rfl ?_
              refine v_iand hX dX8_feed_55 56 rfl ?_
              obtain ⟨c6, c7, hc6, hf⟩ := bn2_e hf
              refine cv_v hX (c4_append (lkp r [(15, c2)]) (lkp g [(33, c3)]) u h _ hc6) wvX4_append q_139 rc_32 (Nat.le_of_ble_eq_true rfl) (Nat.le_of_ble_eq_true rfl) (fun _ => rfl) [] rfl (Nat.le_of_ble_eq_true rfl) dX8_feed_56 59 rfl ?_
              refine v_mgr [(15, c6)] rfl ?_
              refine v_mgg [(33, c7)] rfl ?_
              refine v_inc (c := (1 : Int32)) hX dX8_feed_59 3 rfl (by decide) (ltn hn (by decide)) 62 rfl [(4, .int (x1 + (1 : Int32))), (0, .ref (aX X 0)), (1, .long p1), (3, .int p3)] rfl ?_
              refine v_goto hX dX8_feed_62 34 rfl ?_
              refine v_sub [(0, .ref (aX X 0)), (1, .long p1), (3, .int p3), (4, .int (x1 + (1 : Int32)))] (sbc 1 rfl (sbc 2 rfl (sbc 3 rfl (sbc 0 rfl sbn)))) ?_
              exact ih _ _ _ hf
        refine v_sub [(0, .ref (aX X 0)), (1, .long p1), (3, .int p3), (4, .int (0 : Int32))] (sbc 1 rfl (sbc 2 rfl (sbc 3 rfl (sbc 0 rfl sbn)))) ?_
        exact HLK4 _ _ _ _ hf
      · replace hf := it_n h9 hf
        refine v_bipush (v := (-2 : Int32)) hX dX8_feed_28 (by decide) 30 rfl ?_
        exact hR _ hf _ _ dX8_feed_30 rfl
    · replace hf := it_n h10 hf
      refine v_iconst (v := (-1 : Int32)) hX dX8_feed_11 (by decide) 12 rfl ?_
      exact hR _ hf _ _ dX8_feed_12 rfl
set_option maxRecDepth 100000 in
set_option maxHeartbeats 4000000 in
theorem c8_found (r : Nat → Int32) (g : Nat → Nat → Int32) (u : Nat → Int64) (h : Nat → Nat → Int64) (p1 : Int32) (p2 : Int32) (p3 : Int32) {res : Int32 × (Nat → Int32) × (Nat → Int32)} (hf : f8_found (r 1) (g 10) (g 9) p1 p2 p3 = some res) : MAi yX8_found cX8_found 5 (some .int) 1 (fun a => [.ref (a 0), .int p1, .int p2, .int p3]) r g u h res.1 r (lkp g [(10, res.2.1), (9, res.2.2)]) u h := by
  refine mi_i (by decide +kernel) (fun a => Nat.le_of_ble_eq_true rfl) (fun X hX hn hR => ?_)
  replace hR : ∀ q : Int32 × (Nat → Int32) × (Nat → Int32), some q = some res → ∀ lv pc, decode cX8_found pc = .ok (.ireturn, 1) → narrow .int (.int q.1) = .int q.1 → VC X r (lkp g [(10, q.2.1), (9, q.2.2)]) u h lv [.int q.1] pc := fun q hq => by cases hq; exact hR
  replace hX : CX X RX8 cX8_found 1 := hX
  refine v_opg [10, 9] [(10, g 10), (9, g 9)] rfl ?_
  show VC X r (lkp g [(10, g 10), (9, g 9)]) u h [(0, .ref (aX X 0)), (1, .int p1), (2, .int p2), (3, .int p3)] [] 0
  rw [f8_found] at hf
  refine v_aload_n hX dX8_found_0 rfl 0 rfl 1 rfl ?_
  refine gf_0_0 hX q_16 dX8_found_1 4 rfl ?_
  refine v_iload_n hX dX8_found_4 rfl 1 rfl 5 rfl ?_
  obtain ⟨v1, hv1, hf⟩ := bn1_e hf
  refine cv_i hX (c0_isClaim r (lkp g [(10, (g 10)), (9, (g 9))]) u h _ hv1) wvX0_isClaim q_511 rc_1 (Nat.le_of_ble_eq_true rfl) (Nat.le_of_ble_eq_true rfl) (fun _ => rfl) [] rfl (Nat.le_of_ble_eq_true rfl) dX8_found_5 8 rfl ?_
  refine v_if_eq hX dX8_found_8 21 rfl 11 rfl (fun h10 => ?_) (fun h10 => ?_)
  · replace hf := it_p h10 hf
    refine v_iconst (v := (-1 : Int32)) hX dX8_found_21 (by decide) 22 rfl ?_
    exact hR _ hf _ _ dX8_found_22 rfl
  · replace hf := it_n h10 hf
    refine v_iload_n hX dX8_found_11 rfl 2 rfl 12 rfl ?_
    refine v_iconst (v := (-1 : Int32)) hX dX8_found_12 (by decide) 13 rfl ?_
    refine v_icmp_lt hX dX8_found_13 21 rfl 16 rfl (fun h9 => ?_) (fun h9 => ?_)
    · replace hf := it_p h9 hf
      refine v_iconst (v := (-1 : Int32)) hX dX8_found_21 (by decide) 22 rfl ?_
      exact hR _ hf _ _ dX8_found_22 rfl
    · replace hf := it_n h9 hf
      refine v_iload_n hX dX8_found_16 rfl 2 rfl 17 rfl ?_
      refine v_iconst (v := (1 : Int32)) hX dX8_found_17 (by decide) 18 rfl ?_
      refine v_icmp_le hX dX8_found_18 23 rfl 21 rfl (fun h8 => ?_) (fun h8 => ?_)
      · replace hf := it_p h8 hf
        refine v_aload_n hX dX8_found_23 rfl 0 rfl 24 rfl ?_
        refine gf_0_0 hX q_16 dX8_found_24 27 rfl ?_
        refine gf_1_9 hX q_890 dX8_found_27 30 rfl ?_
        refine v_iload_n hX dX8_found_30 rfl 1 rfl 31 rfl ?_
        obtain ⟨hi2, hf⟩ := gd_e hf
        refine al_9 hX hi2 dX8_found_31 ((g 9) p1.toNatClampNeg) rfl 32 rfl ?_
        refine v_istore hX dX8_found_32 (ltn hn (by decide)) 34 rfl [(4, .int ((g 9) p1.toNatClampNeg)), (0, .ref (aX X 0)), (1, .int p1), (2, .int p2), (3, .int p3)] rfl ?_
        refine v_aload_n hX dX8_found_34 rfl 1 rfl 35 rfl ?_
        refine gf_0_0 hX q_16 dX8_found_35 38 rfl ?_
        refine gf_1_9 hX q_890 dX8_found_38 41 rfl ?_
        refine v_iload_n hX dX8_found_41 rfl 2 rfl 42 rfl ?_
        refine v_iload_n hX dX8_found_42 rfl 3 rfl 43 rfl ?_
        refine v_iconst (v := (-1 : Int32)) hX dX8_found_43 (by decide) 44 rfl ?_
        obtain ⟨J3, hJ3, hf⟩ := jn_x hf
        have HJ3 : ∀ (s4 : Int32), J3 s4 = some res → VC X r (lkp g [(10, (g 10)), (9, (g 9))]) u h [(0, .ref (aX X 0)), (1, .int p1), (3, .int p3), (4, .int ((g 9) p1.toNatClampNeg))] [.int s4, .int p1, .ref (aX X 9)] 53 := by
          intro s4 hf
          rw [hJ3] at hf
          obtain ⟨hi5, hf⟩ := gd_e hf
          refine as_9 hX hi5 dX8_found_53 54 rfl (g 9) rfl [(10, (g 10)), (9, (upd (g 9) p1.toNatClampNeg s4))] rfl ?_
          refine v_aload_n hX dX8_found_54 rfl 0 rfl 55 rfl ?_
          refine gf_0_0 hX q_16 dX8_found_55 58 rfl ?_
          refine gf_1_10 hX q_891 dX8_found_58 61 rfl ?_
          refine v_iload_n hX dX8_found_61 rfl 1 rfl 62 rfl ?_
          refine v_iload_n hX dX8_found_62 rfl 2 rfl 63 rfl ?_
          obtain ⟨hi6, hf⟩ := gd_e hf
          refine as_10 hX hi6 dX8_found_63 64 rfl (g 10) rfl [(10, (upd (g 10) p1.toNatClampNeg (vp_nar .boolean p3))), (9, (upd (g 9) p1.toNatClampNeg s4))] rfl ?_
          refine v_iload hX dX8_found_64 3 rfl 66 rfl ?_
          exact hR _ hf _ _ dX8_found_66 rfl
        refine v_icmp_ne hX dX8_found_44 52 rfl 47 rfl (fun h7 => ?_) (fun h7 => ?_)
        · replace hf := it_n h7 hf
          refine v_iload_n hX dX8_found_52 rfl 3 rfl 53 rfl ?_
          refine v_sub [(0, .ref (aX X 0)), (1, .int p1), (3, .int p3), (4, .int ((g 9) p1.toNatClampNeg))] (sbc 1 rfl (sbc 2 rfl (sbc 4 rfl (sbc 0 rfl sbn)))) ?_
          exact HJ3 _ hf
        · replace hf := it_p h7 hf
          refine v_bipush (v := (-9 : Int32)) hX dX8_found_47 (by decide) 49 rfl ?_
          refine v_goto hX dX8_found_49 53 rfl ?_
          refine v_sub [(0, .ref (aX X 0)), (1, .int p1), (3, .int p3), (4, .int ((g 9) p1.toNatClampNeg))] (sbc 1 rfl (sbc 2 rfl (sbc 4 rfl (sbc 0 rfl sbn)))) ?_
          exact HJ3 _ hf
      · replace hf := it_n h8 hf
        refine v_iconst (v := (-1 : Int32)) hX dX8_found_21 (by decide) 22 rfl ?_
        exact hR _ hf _ _ dX8_found_22 rfl
set_option maxRecDepth 100000 in
set_option maxHeartbeats 4000000 in
theorem c8_hang (r : Nat → Int32) (g : Nat → Nat → Int32) (u : Nat → Int64) (h : Nat → Nat → Int64) (p1 : Int32) {res : Int32 × (Nat → Int32)} (hf : f8_hang (r 1) (r 0) (g 7) (g 5) (g 3) (g 6) (g 8) (g 28) p1 = some res) : MAi yX8_hang cX8_hang 2 (some .int) 6 (fun a => [.ref (a 0), .int p1]) r g u h res.1 r (lkp g [(28, res.2)]) u h := by
  refine mi_i (by decide +kernel) (fun a => Nat.le_of_ble_eq_true rfl) (fun X hX hn hR => ?_)
  replace hR : ∀ q : Int32 × (Nat → Int32), some q = some res → ∀ lv pc, decode cX8_hang pc = .ok (.ireturn, 1) → narrow .int (.int q.1) = .int q.1 → VC X r (lkp g [(28, q.2)]) u h lv [.int q.1] pc := fun q hq => by cases hq; exact hR
  replace hX : CX X RX8 cX8_hang 6 := hX
  refine v_opg [28] [(28, g 28)] rfl ?_
  show VC X r (lkp g [(28, g 28)]) u h [(0, .ref (aX X 0)), (1, .int p1)] [] 0
  rw [f8_hang] at hf
  refine v_aload_n hX dX8_hang_0 rfl 0 rfl 1 rfl ?_
  refine gf_0_0 hX q_16 dX8_hang_1 4 rfl ?_
  refine v_iload_n hX dX8_hang_4 rfl 1 rfl 5 rfl ?_
  obtain ⟨v1, hv1, hf⟩ := bn1_e hf
  refine cv_i hX (c0_isClaim r (lkp g [(28, (g 28))]) u h _ hv1) wvX0_isClaim q_511 rc_1 (Nat.le_of_ble_eq_true rfl) (Nat.le_of_ble_eq_true rfl) (fun _ => rfl) [] rfl (Nat.le_of_ble_eq_true rfl) dX8_hang_5 8 rfl ?_
  refine v_if_ne hX dX8_hang_8 13 rfl 11 rfl (fun h4 => ?_) (fun h4 => ?_)
  · replace hf := it_n h4 hf
    refine v_aload_n hX dX8_hang_13 rfl 0 rfl 14 rfl ?_
    refine gf_0_3 hX q_22 dX8_hang_14 17 rfl ?_
    refine v_aload_n hX dX8_hang_17 rfl 0 rfl 18 rfl ?_
    refine gf_0_0 hX q_16 dX8_hang_18 21 rfl ?_
    refine v_iload_n hX dX8_hang_21 rfl 1 rfl 22 rfl ?_
    obtain ⟨v2, c3, hv2, hf⟩ := bn2_e hf
    refine cv_i hX (c7_hanging r (lkp g [(28, (g 28))]) u h _ hv2) wvX7_hanging q_612 rc_27 (Nat.le_of_ble_eq_true rfl) (Nat.le_of_ble_eq_true rfl) (fun _ => rfl) [] rfl (Nat.le_of_ble_eq_true rfl) dX8_hang_22 25 rfl ?_
    refine v_mgg [(28, c3)] rfl ?_
    exact hR _ hf _ _ dX8_hang_25 rfl
  · replace hf := it_p h4 hf
    refine v_iconst (v := (-1 : Int32)) hX dX8_hang_11 (by decide) 12 rfl ?_
    exact hR _ hf _ _ dX8_hang_12 rfl
set_option maxRecDepth 100000 in
set_option maxHeartbeats 4000000 in
theorem c8_hold (r : Nat → Int32) (g : Nat → Nat → Int32) (u : Nat → Int64) (h : Nat → Nat → Int64)  {res : Int32 × (Nat → Int32) × (Nat → Int32)} (hf : f8_hold (r 1) (r 0) (g 7) (g 5) (g 3) (g 6) (g 8) (g 29) (g 28) = some res) : MAi yX8_hold cX8_hold 4 (some .int) 7 (fun a => [.ref (a 0)]) r g u h res.1 r (lkp g [(29, res.2.1), (28, res.2.2)]) u h := by
  refine mi_i (by decide +kernel) (fun a => Nat.le_of_ble_eq_true rfl) (fun X hX hn hR => ?_)
  replace hR : ∀ q : Int32 × (Nat → Int32) × (Nat → Int32), some q = some res → ∀ lv pc, decode cX8_hold pc = .ok (.ireturn, 1) → narrow .int (.int q.1) = .int q.1 → VC X r (lkp g [(29, q.2.1), (28, q.2.2)]) u h lv [.int q.1] pc := fun q hq => by cases hq; exact hR
  replace hX : CX X RX8 cX8_hold 7 := hX
  refine v_opg [29, 28] [(29, g 29), (28, g 28)] rfl ?_
  show VC X r (lkp g [(29, g 29), (28, g 28)]) u h [(0, .ref (aX X 0))] [] 0
  rw [f8_hold] at hf
  refine v_aload_n hX dX8_hold_0 rfl 0 rfl 1 rfl ?_
  refine gf_0_3 hX q_22 dX8_hold_1 4 rfl ?_
  refine v_aload_n hX dX8_hold_4 rfl 0 rfl 5 rfl ?_
  refine gf_0_0 hX q_16 dX8_hold_5 8 rfl ?_
  refine v_iconst (v := (-1 : Int32)) hX dX8_hold_8 (by decide) 9 rfl ?_
  obtain ⟨v1, c2, c3, hv1, hf⟩ := bn3_e hf
  refine cv_i hX (c7_findLot r (lkp g [(29, (g 29)), (28, (g 28))]) u h _ hv1) wvX7_findLot q_708 rc_27 (Nat.le_of_ble_eq_true rfl) (Nat.le_of_ble_eq_true rfl) (fun _ => rfl) [] rfl (Nat.le_of_ble_eq_true rfl) dX8_hold_9 12 rfl ?_
  refine v_mgg [(29, c2), (28, c3)] rfl ?_
  refine v_istore_n hX dX8_hold_12 rfl (ltn hn (by decide)) 13 rfl [(1, .int v1), (0, .ref (aX X 0))] rfl ?_
  refine v_iload_n hX dX8_hold_13 rfl 0 rfl 14 rfl ?_
  refine v_if_ge hX dX8_hold_14 20 rfl 17 rfl (fun h17 => ?_) (fun h17 => ?_)
  · replace hf := it_p h17 hf
    refine v_iconst (v := (0 : Int32)) hX dX8_hold_20 (by decide) 21 rfl ?_
    refine v_istore_n hX dX8_hold_21 rfl (ltn hn (by decide)) 22 rfl [(2, .int (0 : Int32)), (1, .int v1), (0, .ref (aX X 0))] rfl ?_
    refine v_iconst (v := (0 : Int32)) hX dX8_hold_22 (by decide) 23 rfl ?_
    refine v_istore_n hX dX8_hold_23 rfl (ltn hn (by decide)) 24 rfl [(3, .int (0 : Int32)), (2, .int (0 : Int32)), (1, .int v1), (0, .ref (aX X 0))] rfl ?_
    obtain ⟨K8, hK8, hf⟩ := jn_x hf
    have HK8 : ∀ (x4 : Int32) (x5 : Int32) (c6 : (Nat → Int32)) (c7 : (Nat → Int32)), K8 x4 x5 c6 c7 = some res → VC X r (lkp g [(29, c6), (28, c7)]) u h [(2, .int x4)] [] 57 := by
      intro x4 x5 c6 c7 hf
      rw [hK8] at hf
      refine v_iload_n hX dX8_hold_57 rfl 0 rfl 58 rfl ?_
      exact hR _ hf _ _ dX8_hold_58 rfl
    have HLK8 : ∀ (n9 : Nat) (x4 : Int32) (x5 : Int32) (c6 : (Nat → Int32)) (c7 : (Nat → Int32)), f8_hold_L24 (r 1) (r 0) (g 7) (g 5) (g 3) (g 6) (g 8) v1 n9 x4 x5 c6 c7 K8 = some res → VC X r (lkp g [(29, c6), (28, c7)]) u h [(0, .ref (aX X 0)), (1, .int v1), (2, .int x4), (3, .int x5)] [] 24 := by
      intro n9
      induction n9 with
      | zero => intro x4 x5 c6 c7 hf; exact no_s hf
      | succ n9 ih =>
        intro x4 x5 c6 c7 hf
        rw [f8_hold_L24] at hf
        refine v_iload_n hX dX8_hold_24 rfl 3 rfl 25 rfl ?_
        refine v_iconst (v := (4 : Int32)) hX dX8_hold_25 (by decide) 26 rfl ?_
        refine v_icmp_ge hX dX8_hold_26 57 rfl 29 rfl (fun h16 => ?_) (fun h16 => ?_)
        · replace hf := it_p h16 hf
          refine v_sub [(2, .int x4)] (sbc 2 rfl sbn) ?_
          exact HK8 _ _ _ _ hf
        · replace hf := it_n h16 hf
          refine v_aload_n hX dX8_hold_29 rfl 0 rfl 30 rfl ?_
          refine gf_0_3 hX q_22 dX8_hold_30 33 rfl ?_
          refine v_aload_n hX dX8_hold_33 rfl 0 rfl 34 rfl ?_
          refine gf_0_0 hX q_16 dX8_hold_34 37 rfl ?_
          refine v_iload_n hX dX8_hold_37 rfl 3 rfl 38 rfl ?_
          obtain ⟨v10, c11, c12, hv10, hf⟩ := bn3_e hf
          refine cv_i hX (c7_findLot r (lkp g [(29, c6), (28, c7)]) u h _ hv10) wvX7_findLot q_708 rc_27 (Nat.le_of_ble_eq_true rfl) (Nat.le_of_ble_eq_true rfl) (fun _ => rfl) [] rfl (Nat.le_of_ble_eq_true rfl) dX8_hold_38 41 rfl ?_
          refine v_mgg [(29, c11), (28, c12)] rfl ?_
          refine v_iload_n hX dX8_hold_41 rfl 1 rfl 42 rfl ?_
          obtain ⟨J13, hJ13, hf⟩ := jn_x hf
          have HJ13 : ∀ (y14 : Int32), J13 y14 = some res → VC X r (lkp g [(29, c11), (28, c12)]) u h [(0, .ref (aX X 0)), (1, .int v1), (2, .int y14), (3, .int x5)] [] 51 := by
            intro y14 hf
            rw [hJ13] at hf
            refine v_inc (c := (1 : Int32)) hX dX8_hold_51 3 rfl (by decide) (ltn hn (by decide)) 54 rfl [(3, .int (x5 + (1 : Int32))), (0, .ref (aX X 0)), (1, .int v1), (2, .int y14)] rfl ?_
            refine v_goto hX dX8_hold_54 24 rfl ?_
            refine v_sub [(0, .ref (aX X 0)), (1, .int v1), (2, .int y14), (3, .int (x5 + (1 : Int32)))] (sbc 1 rfl (sbc 2 rfl (sbc 3 rfl (sbc 0 rfl sbn)))) ?_
            exact ih _ _ _ _ hf
          refine v_icmp_ne hX dX8_hold_42 51 rfl 45 rfl (fun h15 => ?_) (fun h15 => ?_)
          · replace hf := it_n h15 hf
            exact HJ13 _ hf
          · replace hf := it_p h15 hf
            refine v_iload_n hX dX8_hold_45 rfl 2 rfl 46 rfl ?_
            refine v_iconst (v := (1 : Int32)) hX dX8_hold_46 (by decide) 47 rfl ?_
            refine v_iload_n hX dX8_hold_47 rfl 3 rfl 48 rfl ?_
            refine v_ishl hX dX8_hold_48 49 rfl ?_
            refine v_ior hX dX8_hold_49 50 rfl ?_
            refine v_istore_n hX dX8_hold_50 rfl (ltn hn (by decide)) 51 rfl [(2, .int (x4 ||| ((1 : Int32) <<< (x5 &&& 31)))), (0, .ref (aX X 0)), (1, .int v1), (3, .int x5)] rfl ?_
            refine v_sub [(0, .ref (aX X 0)), (1, .int v1), (2, .int (x4 ||| ((1 : Int32) <<< (x5 &&& 31)))), (3, .int x5)] (sbc 1 rfl (sbc 2 rfl (sbc 0 rfl (sbc 3 rfl sbn)))) ?_
            exact HJ13 _ hf
    refine v_sub [(0, .ref (aX X 0)), (1, .int v1), (2, .int (0 : Int32)), (3, .int (0 : Int32))] (sbc 3 rfl (sbc 2 rfl (sbc 1 rfl (sbc 0 rfl sbn)))) ?_
    exact HLK8 _ _ _ _ _ hf
  · replace hf := it_n h17 hf
    refine v_bipush (v := (-3 : Int32)) hX dX8_hold_17 (by decide) 19 rfl ?_
    exact hR _ hf _ _ dX8_hold_19 rfl
set_option maxRecDepth 100000 in
set_option maxHeartbeats 4000000 in
theorem c8_item (r : Nat → Int32) (g : Nat → Nat → Int32) (u : Nat → Int64) (h : Nat → Nat → Int64) (p1 : Int32) (p2 : Int32) (p3 : Int32) {res : Int32} (hf : f8_item (g 45) (g 44) (h 46) p1 p2 p3 = some res) : MAi yX8_item cX8_item 4 (some .int) 4 (fun a => [.ref (a 0), .int p1, .int p2, .int p3]) r g u h res r g u h := by
  refine mi_i (by decide +kernel) (fun a => Nat.le_of_ble_eq_true rfl) (fun X hX hn hR => ?_)
  replace hR : ∀ q : Int32, some q = some res → ∀ lv pc, decode cX8_item pc = .ok (.ireturn, 1) → narrow .int (.int q) = .int q → VC X r g u h lv [.int q] pc := fun q hq => by cases hq; exact hR
  replace hX : CX X RX8 cX8_item 4 := hX
  show VC X r g u h [(0, .ref (aX X 0)), (1, .int p1), (2, .int p2), (3, .int p3)] [] 0
  rw [f8_item] at hf
  refine v_iload_n hX dX8_item_0 rfl 1 rfl 1 rfl ?_
  obtain ⟨v1, hv1, hf⟩ := bn1_e hf
  refine cs_i hX (c1_isSheet r g u h _ hv1) wvX1_isSheet q_1012 (Nat.le_of_ble_eq_true rfl) (Nat.le_of_ble_eq_true rfl) (fun _ => rfl) [] rfl (Nat.le_of_ble_eq_true rfl) dX8_item_1 4 rfl ?_
  refine v_if_eq hX dX8_item_4 16 rfl 7 rfl (fun h11 => ?_) (fun h11 => ?_)
  · replace hf := it_p h11 hf
    refine v_iconst (v := (-1 : Int32)) hX dX8_item_16 (by decide) 17 rfl ?_
    exact hR _ hf _ _ dX8_item_17 rfl
  · replace hf := it_n h11 hf
    refine v_iload_n hX dX8_item_7 rfl 2 rfl 8 rfl ?_
    refine v_if_lt hX dX8_item_8 16 rfl 11 rfl (fun h10 => ?_) (fun h10 => ?_)
    · replace hf := it_p h10 hf
      refine v_iconst (v := (-1 : Int32)) hX dX8_item_16 (by decide) 17 rfl ?_
      exact hR _ hf _ _ dX8_item_17 rfl
    · replace hf := it_n h10 hf
      refine v_iload_n hX dX8_item_11 rfl 2 rfl 12 rfl ?_
      refine v_iconst (v := (4 : Int32)) hX dX8_item_12 (by decide) 13 rfl ?_
      refine v_icmp_lt hX dX8_item_13 18 rfl 16 rfl (fun h9 => ?_) (fun h9 => ?_)
      · replace hf := it_p h9 hf
        refine v_aload_n hX dX8_item_18 rfl 0 rfl 19 rfl ?_
        refine gf_0_7 hX q_35 dX8_item_19 22 rfl ?_
        refine v_iload_n hX dX8_item_22 rfl 1 rfl 23 rfl ?_
        obtain ⟨v2, hv2, hf⟩ := bn1_e hf
        refine cv_i hX (c1_isMissing r g u h _ hv2) wvX1_isMissing q_1035 rc_43 (Nat.le_of_ble_eq_true rfl) (Nat.le_of_ble_eq_true rfl) (fun _ => rfl) [] rfl (Nat.le_of_ble_eq_true rfl) dX8_item_23 26 rfl ?_
        refine v_if_eq hX dX8_item_26 32 rfl 29 rfl (fun h8 => ?_) (fun h8 => ?_)
        · replace hf := it_p h8 hf
          refine v_aload_n hX dX8_item_32 rfl 0 rfl 33 rfl ?_
          refine gf_0_7 hX q_35 dX8_item_33 36 rfl ?_
          refine gf_43_0 hX q_1057 dX8_item_36 39 rfl ?_
          refine v_iload_n hX dX8_item_39 rfl 1 rfl 40 rfl ?_
          obtain ⟨hi3, hf⟩ := gd_e hf
          refine al_44 hX hi3 dX8_item_40 ((g 44) p1.toNatClampNeg) rfl 41 rfl ?_
          refine v_iload_n hX dX8_item_41 rfl 2 rfl 42 rfl ?_
          refine v_icmp_eq hX dX8_item_42 48 rfl 45 rfl (fun h7 => ?_) (fun h7 => ?_)
          · replace hf := it_p h7 hf
            refine v_aload_n hX dX8_item_48 rfl 0 rfl 49 rfl ?_
            refine gf_0_7 hX q_35 dX8_item_49 52 rfl ?_
            refine v_iload_n hX dX8_item_52 rfl 1 rfl 53 rfl ?_
            refine v_iload_n hX dX8_item_53 rfl 3 rfl 54 rfl ?_
            obtain ⟨v4, hv4, hf⟩ := bn1_e hf
            refine cv_i hX (c1_isInside r g u h _ _ hv4) wvX1_isInside q_1039 rc_43 (Nat.le_of_ble_eq_true rfl) (Nat.le_of_ble_eq_true rfl) (fun _ => rfl) [] rfl (Nat.le_of_ble_eq_true rfl) dX8_item_54 57 rfl ?_
            refine v_if_ne hX dX8_item_57 63 rfl 60 rfl (fun h6 => ?_) (fun h6 => ?_)
            · replace hf := it_n h6 hf
              refine v_aload_n hX dX8_item_63 rfl 0 rfl 64 rfl ?_
              refine gf_0_7 hX q_35 dX8_item_64 67 rfl ?_
              refine v_iload_n hX dX8_item_67 rfl 1 rfl 68 rfl ?_
              refine v_iload_n hX dX8_item_68 rfl 3 rfl 69 rfl ?_
              obtain ⟨v5, hv5, hf⟩ := bn1_e hf
              refine cv_i hX (c1_read r g u h _ _ hv5) wvX1_read q_1058 rc_43 (Nat.le_of_ble_eq_true rfl) (Nat.le_of_ble_eq_true rfl) (fun _ => rfl) [] rfl (Nat.le_of_ble_eq_true rfl) dX8_item_69 72 rfl ?_
              exact hR _ hf _ _ dX8_item_72 rfl
            · replace hf := it_p h6 hf
              refine v_bipush (v := (-12 : Int32)) hX dX8_item_60 (by decide) 62 rfl ?_
              exact hR _ hf _ _ dX8_item_62 rfl
          · replace hf := it_n h7 hf
            refine v_bipush (v := (-13 : Int32)) hX dX8_item_45 (by decide) 47 rfl ?_
            exact hR _ hf _ _ dX8_item_47 rfl
        · replace hf := it_n h8 hf
          refine v_bipush (v := (-11 : Int32)) hX dX8_item_29 (by decide) 31 rfl ?_
          exact hR _ hf _ _ dX8_item_31 rfl
      · replace hf := it_n h9 hf
        refine v_iconst (v := (-1 : Int32)) hX dX8_item_16 (by decide) 17 rfl ?_
        exact hR _ hf _ _ dX8_item_17 rfl
set_option maxRecDepth 100000 in
set_option maxHeartbeats 4000000 in
theorem c8_join (r : Nat → Int32) (g : Nat → Nat → Int32) (u : Nat → Int64) (h : Nat → Nat → Int64) (p1 : Int32) (p2 : Int32) {res : Int32 × (Nat → Int32)} (hf : f8_join (r 0) (g 6) p1 p2 = some res) : MAi yX8_join cX8_join 3 (some .int) 2 (fun a => [.ref (a 0), .int p1, .int p2]) r g u h res.1 r (lkp g [(6, res.2)]) u h := by
  refine mi_i (by decide +kernel) (fun a => Nat.le_of_ble_eq_true rfl) (fun X hX hn hR => ?_)
  replace hR : ∀ q : Int32 × (Nat → Int32), some q = some res → ∀ lv pc, decode cX8_join pc = .ok (.ireturn, 1) → narrow .int (.int q.1) = .int q.1 → VC X r (lkp g [(6, q.2)]) u h lv [.int q.1] pc := fun q hq => by cases hq; exact hR
  replace hX : CX X RX8 cX8_join 2 := hX
  refine v_opg [6] [(6, g 6)] rfl ?_
  show VC X r (lkp g [(6, g 6)]) u h [(0, .ref (aX X 0)), (1, .int p1), (2, .int p2)] [] 0
  rw [f8_join] at hf
  refine v_aload_n hX dX8_join_0 rfl 0 rfl 1 rfl ?_
  refine gf_0_0 hX q_16 dX8_join_1 4 rfl ?_
  refine v_iload_n hX dX8_join_4 rfl 1 rfl 5 rfl ?_
  obtain ⟨v1, hv1, hf⟩ := bn1_e hf
  refine cv_i hX (c0_isPerson r (lkp g [(6, (g 6))]) u h _ hv1) wvX0_isPerson q_416 rc_1 (Nat.le_of_ble_eq_true rfl) (Nat.le_of_ble_eq_true rfl) (fun _ => rfl) [] rfl (Nat.le_of_ble_eq_true rfl) dX8_join_5 8 rfl ?_
  refine v_if_eq hX dX8_join_8 22 rfl 11 rfl (fun h9 => ?_) (fun h9 => ?_)
  · replace hf := it_p h9 hf
    refine v_iconst (v := (-1 : Int32)) hX dX8_join_22 (by decide) 23 rfl ?_
    exact hR _ hf _ _ dX8_join_23 rfl
  · replace hf := it_n h9 hf
    refine v_aload_n hX dX8_join_11 rfl 0 rfl 12 rfl ?_
    refine gf_0_0 hX q_16 dX8_join_12 15 rfl ?_
    refine v_iload_n hX dX8_join_15 rfl 2 rfl 16 rfl ?_
    obtain ⟨v2, hv2, hf⟩ := bn1_e hf
    refine cv_i hX (c0_isPerson r (lkp g [(6, (g 6))]) u h _ hv2) wvX0_isPerson q_416 rc_1 (Nat.le_of_ble_eq_true rfl) (Nat.le_of_ble_eq_true rfl) (fun _ => rfl) [] rfl (Nat.le_of_ble_eq_true rfl) dX8_join_16 19 rfl ?_
    refine v_if_ne hX dX8_join_19 24 rfl 22 rfl (fun h8 => ?_) (fun h8 => ?_)
    · replace hf := it_n h8 hf
      refine v_aload_n hX dX8_join_24 rfl 0 rfl 25 rfl ?_
      refine gf_0_0 hX q_16 dX8_join_25 28 rfl ?_
      refine v_aload_n hX dX8_join_28 rfl 0 rfl 29 rfl ?_
      refine gf_0_0 hX q_16 dX8_join_29 32 rfl ?_
      refine gf_1_5 hX q_414 dX8_join_32 35 rfl ?_
      refine v_iload_n hX dX8_join_35 rfl 1 rfl 36 rfl ?_
      obtain ⟨hi3, hf⟩ := gd_e hf
      refine al_6 hX hi3 dX8_join_36 ((g 6) p1.toNatClampNeg) rfl 37 rfl ?_
      refine v_aload_n hX dX8_join_37 rfl 0 rfl 38 rfl ?_
      refine gf_0_0 hX q_16 dX8_join_38 41 rfl ?_
      refine gf_1_5 hX q_414 dX8_join_41 44 rfl ?_
      refine v_iload_n hX dX8_join_44 rfl 2 rfl 45 rfl ?_
      obtain ⟨hi4, hf⟩ := gd_e hf
      refine al_6 hX hi4 dX8_join_45 ((g 6) p2.toNatClampNeg) rfl 46 rfl ?_
      obtain ⟨v5, c6, hv5, hf⟩ := bn2_e hf
      refine cv_i hX (c0_joinOnes r (lkp g [(6, (g 6))]) u h _ _ hv5) wvX0_joinOnes q_479 rc_1 (Nat.le_of_ble_eq_true rfl) (Nat.le_of_ble_eq_true rfl) (fun _ => rfl) [] rfl (Nat.le_of_ble_eq_true rfl) dX8_join_46 49 rfl ?_
      refine v_mgg [(6, c6)] rfl ?_
      refine v_if_eq hX dX8_join_49 56 rfl 52 rfl (fun h7 => ?_) (fun h7 => ?_)
      · replace hf := it_p h7 hf
        refine v_iconst (v := (0 : Int32)) hX dX8_join_56 (by decide) 57 rfl ?_
        exact hR _ hf _ _ dX8_join_57 rfl
      · replace hf := it_n h7 hf
        refine v_iconst (v := (1 : Int32)) hX dX8_join_52 (by decide) 53 rfl ?_
        refine v_goto hX dX8_join_53 57 rfl ?_
        exact hR _ hf _ _ dX8_join_57 rfl
    · replace hf := it_p h8 hf
      refine v_iconst (v := (-1 : Int32)) hX dX8_join_22 (by decide) 23 rfl ?_
      exact hR _ hf _ _ dX8_join_23 rfl
set_option maxRecDepth 100000 in
set_option maxHeartbeats 4000000 in
theorem c8_judge (r : Nat → Int32) (g : Nat → Nat → Int32) (u : Nat → Int64) (h : Nat → Nat → Int64)  {res : Int32 × Int32 × (Nat → Int32) × (Nat → Int32) × (Nat → Int32)} (hf : f8_judge (r 1) (r 0) (r 24) (r 23) (g 7) (g 5) (g 3) (g 6) (g 8) (g 42) (g 40) (g 29) (g 28) = some res) : MAi yX8_judge cX8_judge 3 (some .int) 7 (fun a => [.ref (a 0)]) r g u h res.1 (lkp r [(24, res.2.1)]) (lkp g [(42, res.2.2.1), (29, res.2.2.2.1), (28, res.2.2.2.2)]) u h := by
  refine mi_i (by decide +kernel) (fun a => Nat.le_of_ble_eq_true rfl) (fun X hX hn hR => ?_)
  replace hR : ∀ q : Int32 × Int32 × (Nat → Int32) × (Nat → Int32) × (Nat → Int32), some q = some res → ∀ lv pc, decode cX8_judge pc = .ok (.ireturn, 1) → narrow .int (.int q.1) = .int q.1 → VC X (lkp r [(24, q.2.1)]) (lkp g [(42, q.2.2.1), (29, q.2.2.2.1), (28, q.2.2.2.2)]) u h lv [.int q.1] pc := fun q hq => by cases hq; exact hR
  replace hX : CX X RX8 cX8_judge 7 := hX
  refine v_opr [24] [(24, r 24)] rfl ?_
  refine v_opg [42, 29, 28] [(42, g 42), (29, g 29), (28, g 28)] rfl ?_
  show VC X (lkp r [(24, r 24)]) (lkp g [(42, g 42), (29, g 29), (28, g 28)]) u h [(0, .ref (aX X 0))] [] 0
  rw [f8_judge] at hf
  refine v_aload_n hX dX8_judge_0 rfl 0 rfl 1 rfl ?_
  refine gf_0_3 hX q_22 dX8_judge_1 4 rfl ?_
  refine v_aload_n hX dX8_judge_4 rfl 0 rfl 5 rfl ?_
  refine gf_0_0 hX q_16 dX8_judge_5 8 rfl ?_
  refine v_iconst (v := (-1 : Int32)) hX dX8_judge_8 (by decide) 9 rfl ?_
  obtain ⟨v1, c2, c3, hv1, hf⟩ := bn3_e hf
  refine cv_i hX (c7_findLot (lkp r [(24, (r 24))]) (lkp g [(42, (g 42)), (29, (g 29)), (28, (g 28))]) u h _ hv1) wvX7_findLot q_708 rc_27 (Nat.le_of_ble_eq_true rfl) (Nat.le_of_ble_eq_true rfl) (fun _ => rfl) [] rfl (Nat.le_of_ble_eq_true rfl) dX8_judge_9 12 rfl ?_
  refine v_mgg [(42, (g 42)), (29, c2), (28, c3)] rfl ?_
  refine v_istore_n hX dX8_judge_12 rfl (ltn hn (by decide)) 13 rfl [(1, .int v1), (0, .ref (aX X 0))] rfl ?_
  refine v_iload_n hX dX8_judge_13 rfl 0 rfl 14 rfl ?_
  refine v_if_ge hX dX8_judge_14 20 rfl 17 rfl (fun h13 => ?_) (fun h13 => ?_)
  · replace hf := it_p h13 hf
    refine v_aload_n hX dX8_judge_20 rfl 1 rfl 21 rfl ?_
    refine gf_0_6 hX q_31 dX8_judge_21 24 rfl ?_
    refine v_aload_n hX dX8_judge_24 rfl 1 rfl 25 rfl ?_
    refine gf_0_0 hX q_16 dX8_judge_25 28 rfl ?_
    refine v_aload_n hX dX8_judge_28 rfl 1 rfl 29 rfl ?_
    refine gf_0_3 hX q_22 dX8_judge_29 32 rfl ?_
    refine v_iload_n hX dX8_judge_32 rfl 0 rfl 33 rfl ?_
    obtain ⟨c4, c5, hc4, hf⟩ := bn2_e hf
    refine cv_v hX (c5_write_t41 (lkp r [(24, (r 24))]) (lkp g [(42, (g 42)), (29, c2), (28, c3)]) u h _ hc4) wvX5_write q_944 rc_41 (Nat.le_of_ble_eq_true rfl) (Nat.le_of_ble_eq_true rfl) (fun _ => rfl) [] rfl (Nat.le_of_ble_eq_true rfl) dX8_judge_33 36 rfl ?_
    refine v_mgr [(24, c4)] rfl ?_
    refine v_mgg [(42, c5), (29, c2), (28, c3)] rfl ?_
    refine v_iconst (v := (0 : Int32)) hX dX8_judge_36 (by decide) 37 rfl ?_
    refine v_istore_n hX dX8_judge_37 rfl (ltn hn (by decide)) 38 rfl [(2, .int (0 : Int32)), (1, .int v1), (0, .ref (aX X 0))] rfl ?_
    obtain ⟨K7, hK7, hf⟩ := jn_x hf
    have HK7 : ∀ (x6 : Int32), K7 x6 = some res → VC X (lkp r [(24, c4)]) (lkp g [(42, c5), (29, c2), (28, c3)]) u h [(0, .ref (aX X 0))] [] 74 := by
      intro x6 hf
      rw [hK7] at hf
      refine v_aload_n hX dX8_judge_74 rfl 0 rfl 75 rfl ?_
      refine gf_0_5 hX q_30 dX8_judge_75 78 rfl ?_
      refine gf_39_1 hX q_943 dX8_judge_78 ((r 23)) rfl 81 rfl ?_
      refine v_aload_n hX dX8_judge_81 rfl 0 rfl 82 rfl ?_
      refine gf_0_6 hX q_31 dX8_judge_82 85 rfl ?_
      refine gf_41_1 hX q_943 dX8_judge_85 (c4) rfl 88 rfl ?_
      refine v_icmp_ge hX dX8_judge_88 97 rfl 91 rfl (fun h12 => ?_) (fun h12 => ?_)
      · replace hf := it_p h12 hf
        refine v_iconst (v := (0 : Int32)) hX dX8_judge_97 (by decide) 98 rfl ?_
        exact hR _ hf _ _ dX8_judge_98 rfl
      · replace hf := it_n h12 hf
        refine v_sipush (v := (222 : Int32)) hX dX8_judge_91 (by decide) 94 rfl ?_
        refine v_goto hX dX8_judge_94 98 rfl ?_
        exact hR _ hf _ _ dX8_judge_98 rfl
    have HLK7 : ∀ (n8 : Nat) (x6 : Int32), f8_judge_L38 (r 23) (g 40) c2 c3 c4 c5 n8 x6 K7 = some res → VC X (lkp r [(24, c4)]) (lkp g [(42, c5), (29, c2), (28, c3)]) u h [(0, .ref (aX X 0)), (2, .int x6)] [] 38 := by
      intro n8
      induction n8 with
      | zero => intro x6 hf; exact no_s hf
      | succ n8 ih =>
        intro x6 hf
        rw [f8_judge_L38] at hf
        refine v_iload_n hX dX8_judge_38 rfl 1 rfl 39 rfl ?_
        refine v_aload_n hX dX8_judge_39 rfl 0 rfl 40 rfl ?_
        refine gf_0_5 hX q_30 dX8_judge_40 43 rfl ?_
        refine gf_39_1 hX q_943 dX8_judge_43 ((r 23)) rfl 46 rfl ?_
        refine v_icmp_ge hX dX8_judge_46 74 rfl 49 rfl (fun h11 => ?_) (fun h11 => ?_)
        · replace hf := it_p h11 hf
          refine v_sub [(0, .ref (aX X 0))] (sbc 0 rfl sbn) ?_
          exact HK7 _ hf
        · replace hf := it_n h11 hf
          refine v_aload_n hX dX8_judge_49 rfl 0 rfl 50 rfl ?_
          refine gf_0_6 hX q_31 dX8_judge_50 53 rfl ?_
          refine v_aload_n hX dX8_judge_53 rfl 0 rfl 54 rfl ?_
          refine gf_0_5 hX q_30 dX8_judge_54 57 rfl ?_
          refine v_iload_n hX dX8_judge_57 rfl 1 rfl 58 rfl ?_
          obtain ⟨v9, hv9, hf⟩ := bn1_e hf
          refine cv_i hX (c5_hasSame (lkp r [(24, c4)]) (lkp g [(42, c5), (29, c2), (28, c3)]) u h _ hv9) wvX5_hasSame q_999 rc_41 (Nat.le_of_ble_eq_true rfl) (Nat.le_of_ble_eq_true rfl) (fun _ => rfl) [] rfl (Nat.le_of_ble_eq_true rfl) dX8_judge_58 61 rfl ?_
          refine v_if_ne hX dX8_judge_61 68 rfl 64 rfl (fun h10 => ?_) (fun h10 => ?_)
          · replace hf := it_n h10 hf
            refine v_inc (c := (1 : Int32)) hX dX8_judge_68 1 rfl (by decide) (ltn hn (by decide)) 71 rfl [(2, .int (x6 + (1 : Int32))), (0, .ref (aX X 0))] rfl ?_
            refine v_goto hX dX8_judge_71 38 rfl ?_
            refine v_sub [(0, .ref (aX X 0)), (2, .int (x6 + (1 : Int32)))] (sbc 1 rfl (sbc 0 rfl sbn)) ?_
            exact ih _ hf
          · replace hf := it_p h10 hf
            refine v_iload_n hX dX8_judge_64 rfl 1 rfl 65 rfl ?_
            refine v_iconst (v := (1 : Int32)) hX dX8_judge_65 (by decide) 66 rfl ?_
            refine v_iadd hX dX8_judge_66 67 rfl ?_
            exact hR _ hf _ _ dX8_judge_67 rfl
    refine v_sub [(0, .ref (aX X 0)), (2, .int (0 : Int32))] (sbc 2 rfl (sbc 0 rfl sbn)) ?_
    exact HLK7 _ _ hf
  · replace hf := it_n h13 hf
    refine v_bipush (v := (-3 : Int32)) hX dX8_judge_17 (by decide) 19 rfl ?_
    exact hR _ hf _ _ dX8_judge_19 rfl
set_option maxRecDepth 100000 in
set_option maxHeartbeats 4000000 in
theorem c8_keep (r : Nat → Int32) (g : Nat → Nat → Int32) (u : Nat → Int64) (h : Nat → Nat → Int64)  {res : Int32 × Int32 × Int32 × Int32 × Int32 × Int32 × Int32 × (Nat → Int32) × (Nat → Int32) × (Nat → Int32) × (Nat → Int32) × (Nat → Int32) × (Nat → Int32) × (Nat → Int32) × (Nat → Int32) × (Nat → Int32) × (Nat → Int32)} (hf : f8_keep (r 14) (r 1) (r 0) (r 3) (r 2) (r 6) (r 8) (r 7) (r 10) (r 9) (r 13) (g 10) (g 7) (g 9) (g 4) (g 5) (g 3) (g 6) (g 12) (g 8) (g 2) (g 23) (g 20) (g 22) (g 17) (g 18) (g 16) (g 19) (g 25) (g 21) (g 15) = some res) : MAi yX8_keep cX8_keep 1 (some .int) 2 (fun a => [.ref (a 0)]) r g u h res.1 (lkp r [(14, res.2.1), (8, res.2.2.1), (7, res.2.2.2.1), (10, res.2.2.2.2.1), (9, res.2.2.2.2.2.1), (13, res.2.2.2.2.2.2.1)]) (lkp g [(23, res.2.2.2.2.2.2.2.1), (20, res.2.2.2.2.2.2.2.2.1), (22, res.2.2.2.2.2.2.2.2.2.1), (17, res.2.2.2.2.2.2.2.2.2.2.1), (18, res.2.2.2.2.2.2.2.2.2.2.2.1), (16, res.2.2.2.2.2.2.2.2.2.2.2.2.1), (19, res.2.2.2.2.2.2.2.2.2.2.2.2.2.1), (25, res.2.2.2.2.2.2.2.2.2.2.2.2.2.2.1), (21, res.2.2.2.2.2.2.2.2.2.2.2.2.2.2.2.1), (15, res.2.2.2.2.2.2.2.2.2.2.2.2.2.2.2.2)]) u h := by
  refine mi_i (by decide +kernel) (fun a => Nat.le_of_ble_eq_true rfl) (fun X hX hn hR => ?_)
  replace hR : ∀ q : Int32 × Int32 × Int32 × Int32 × Int32 × Int32 × Int32 × (Nat → Int32) × (Nat → Int32) × (Nat → Int32) × (Nat → Int32) × (Nat → Int32) × (Nat → Int32) × (Nat → Int32) × (Nat → Int32) × (Nat → Int32) × (Nat → Int32), some q = some res → ∀ lv pc, decode cX8_keep pc = .ok (.ireturn, 1) → narrow .int (.int q.1) = .int q.1 → VC X (lkp r [(14, q.2.1), (8, q.2.2.1), (7, q.2.2.2.1), (10, q.2.2.2.2.1), (9, q.2.2.2.2.2.1), (13, q.2.2.2.2.2.2.1)]) (lkp g [(23, q.2.2.2.2.2.2.2.1), (20, q.2.2.2.2.2.2.2.2.1), (22, q.2.2.2.2.2.2.2.2.2.1), (17, q.2.2.2.2.2.2.2.2.2.2.1), (18, q.2.2.2.2.2.2.2.2.2.2.2.1), (16, q.2.2.2.2.2.2.2.2.2.2.2.2.1), (19, q.2.2.2.2.2.2.2.2.2.2.2.2.2.1), (25, q.2.2.2.2.2.2.2.2.2.2.2.2.2.2.1), (21, q.2.2.2.2.2.2.2.2.2.2.2.2.2.2.2.1), (15, q.2.2.2.2.2.2.2.2.2.2.2.2.2.2.2.2)]) u h lv [.int q.1] pc := fun q hq => by cases hq; exact hR
  replace hX : CX X RX8 cX8_keep 2 := hX
  refine v_opr [14, 8, 7, 10, 9, 13] [(14, r 14), (8, r 8), (7, r 7), (10, r 10), (9, r 9), (13, r 13)] rfl ?_
  refine v_opg [23, 20, 22, 17, 18, 16, 19, 25, 21, 15] [(23, g 23), (20, g 20), (22, g 22), (17, g 17), (18, g 18), (16, g 16), (19, g 19), (25, g 25), (21, g 21), (15, g 15)] rfl ?_
  show VC X (lkp r [(14, r 14), (8, r 8), (7, r 7), (10, r 10), (9, r 9), (13, r 13)]) (lkp g [(23, g 23), (20, g 20), (22, g 22), (17, g 17), (18, g 18), (16, g 16), (19, g 19), (25, g 25), (21, g 21), (15, g 15)]) u h [(0, .ref (aX X 0))] [] 0
  rw [f8_keep] at hf
  refine v_aload_n hX dX8_keep_0 rfl 0 rfl 1 rfl ?_
  refine gf_0_1 hX q_17 dX8_keep_1 4 rfl ?_
  refine v_aload_n hX dX8_keep_4 rfl 0 rfl 5 rfl ?_
  refine gf_0_0 hX q_16 dX8_keep_5 8 rfl ?_
  obtain ⟨c1, c2, c3, c4, c5, c6, c7, c8, c9, c10, c11, c12, c13, c14, c15, hc1, hf⟩ := bn15_e hf
  refine cv_v hX (c0_copyFrom_t14_a1 (lkp r [(14, (r 14)), (8, (r 8)), (7, (r 7)), (10, (r 10)), (9, (r 9)), (13, (r 13))]) (lkp g [(23, (g 23)), (20, (g 20)), (22, (g 22)), (17, (g 17)), (18, (g 18)), (16, (g 16)), (19, (g 19)), (25, (g 25)), (21, (g 21)), (15, (g 15))]) u h hc1) wvX0_copyFrom q_1227 rc_14 (Nat.le_of_ble_eq_true rfl) (Nat.le_of_ble_eq_true rfl) (fun _ => rfl) [] rfl (Nat.le_of_ble_eq_true rfl) dX8_keep_8 11 rfl ?_
  refine v_mgr [(14, (r 14)), (8, c1), (7, c2), (10, c3), (9, c4), (13, c5)] rfl ?_
  refine v_mgg [(23, c6), (20, c7), (22, c8), (17, c9), (18, c10), (16, c11), (19, c12), (25, c13), (21, c14), (15, c15)] rfl ?_
  refine v_aload_n hX dX8_keep_11 rfl 0 rfl 12 rfl ?_
  refine v_iconst (v := (1 : Int32)) hX dX8_keep_12 (by decide) 13 rfl ?_
  refine pf_0_2 hX q_18 dX8_keep_13 (by decide) 16 rfl [(14, (1 : Int32)), (8, c1), (7, c2), (10, c3), (9, c4), (13, c5)] rfl ?_
  refine v_iconst (v := (1 : Int32)) hX dX8_keep_16 (by decide) 17 rfl ?_
  exact hR _ hf _ _ dX8_keep_17 rfl
set_option maxRecDepth 100000 in
set_option maxHeartbeats 4000000 in
theorem c8_likely (r : Nat → Int32) (g : Nat → Nat → Int32) (u : Nat → Int64) (h : Nat → Nat → Int64) (p1 : Int32) {res : Int32} (hf : f8_likely (r 1) (r 0) (g 7) (g 5) (g 3) (g 6) (g 8) p1 = some res) : MAi yX8_likely cX8_likely 2 (some .int) 5 (fun a => [.ref (a 0), .int p1]) r g u h res r g u h := by
  refine mi_i (by decide +kernel) (fun a => Nat.le_of_ble_eq_true rfl) (fun X hX hn hR => ?_)
  replace hR : ∀ q : Int32, some q = some res → ∀ lv pc, decode cX8_likely pc = .ok (.ireturn, 1) → narrow .int (.int q) = .int q → VC X r g u h lv [.int q] pc := fun q hq => by cases hq; exact hR
  replace hX : CX X RX8 cX8_likely 5 := hX
  show VC X r g u h [(0, .ref (aX X 0)), (1, .int p1)] [] 0
  rw [f8_likely] at hf
  refine v_aload_n hX dX8_likely_0 rfl 0 rfl 1 rfl ?_
  refine gf_0_0 hX q_16 dX8_likely_1 4 rfl ?_
  refine v_iload_n hX dX8_likely_4 rfl 1 rfl 5 rfl ?_
  obtain ⟨v1, hv1, hf⟩ := bn1_e hf
  refine cv_i hX (c0_isClaim r g u h _ hv1) wvX0_isClaim q_511 rc_1 (Nat.le_of_ble_eq_true rfl) (Nat.le_of_ble_eq_true rfl) (fun _ => rfl) [] rfl (Nat.le_of_ble_eq_true rfl) dX8_likely_5 8 rfl ?_
  refine v_if_ne hX dX8_likely_8 13 rfl 11 rfl (fun h3 => ?_) (fun h3 => ?_)
  · replace hf := it_n h3 hf
    refine v_aload_n hX dX8_likely_13 rfl 0 rfl 14 rfl ?_
    refine gf_0_3 hX q_22 dX8_likely_14 17 rfl ?_
    refine v_aload_n hX dX8_likely_17 rfl 0 rfl 18 rfl ?_
    refine gf_0_0 hX q_16 dX8_likely_18 21 rfl ?_
    refine v_iload_n hX dX8_likely_21 rfl 1 rfl 22 rfl ?_
    obtain ⟨v2, hv2, hf⟩ := bn1_e hf
    refine cv_i hX (c7_likelihood r g u h _ hv2) wvX7_likelihood q_809 rc_27 (Nat.le_of_ble_eq_true rfl) (Nat.le_of_ble_eq_true rfl) (fun _ => rfl) [] rfl (Nat.le_of_ble_eq_true rfl) dX8_likely_22 25 rfl ?_
    exact hR _ hf _ _ dX8_likely_25 rfl
  · replace hf := it_p h3 hf
    refine v_iconst (v := (-1 : Int32)) hX dX8_likely_11 (by decide) 12 rfl ?_
    exact hR _ hf _ _ dX8_likely_12 rfl
set_option maxRecDepth 100000 in
set_option maxHeartbeats 4000000 in
theorem c8_lot (r : Nat → Int32) (g : Nat → Nat → Int32) (u : Nat → Int64) (h : Nat → Nat → Int64) (p1 : Int32) {res : Int32 × (Nat → Int32) × (Nat → Int32)} (hf : f8_lot (r 1) (r 0) (g 7) (g 5) (g 3) (g 6) (g 8) (g 29) (g 28) p1 = some res) : MAi yX8_lot cX8_lot 3 (some .int) 7 (fun a => [.ref (a 0), .int p1]) r g u h res.1 r (lkp g [(29, res.2.1), (28, res.2.2)]) u h := by
  refine mi_i (by decide +kernel) (fun a => Nat.le_of_ble_eq_true rfl) (fun X hX hn hR => ?_)
  replace hR : ∀ q : Int32 × (Nat → Int32) × (Nat → Int32), some q = some res → ∀ lv pc, decode cX8_lot pc = .ok (.ireturn, 1) → narrow .int (.int q.1) = .int q.1 → VC X r (lkp g [(29, q.2.1), (28, q.2.2)]) u h lv [.int q.1] pc := fun q hq => by cases hq; exact hR
  replace hX : CX X RX8 cX8_lot 7 := hX
  refine v_opg [29, 28] [(29, g 29), (28, g 28)] rfl ?_
  show VC X r (lkp g [(29, g 29), (28, g 28)]) u h [(0, .ref (aX X 0)), (1, .int p1)] [] 0
  rw [f8_lot] at hf
  refine v_iload_n hX dX8_lot_0 rfl 1 rfl 1 rfl ?_
  refine v_if_lt hX dX8_lot_1 9 rfl 4 rfl (fun h8 => ?_) (fun h8 => ?_)
  · replace hf := it_p h8 hf
    refine v_iconst (v := (-1 : Int32)) hX dX8_lot_9 (by decide) 10 rfl ?_
    exact hR _ hf _ _ dX8_lot_10 rfl
  · replace hf := it_n h8 hf
    refine v_iload_n hX dX8_lot_4 rfl 1 rfl 5 rfl ?_
    refine v_iconst (v := (1 : Int32)) hX dX8_lot_5 (by decide) 6 rfl ?_
    refine v_icmp_le hX dX8_lot_6 11 rfl 9 rfl (fun h7 => ?_) (fun h7 => ?_)
    · replace hf := it_p h7 hf
      refine v_aload_n hX dX8_lot_11 rfl 0 rfl 12 rfl ?_
      refine gf_0_3 hX q_22 dX8_lot_12 15 rfl ?_
      refine v_aload_n hX dX8_lot_15 rfl 0 rfl 16 rfl ?_
      refine gf_0_0 hX q_16 dX8_lot_16 19 rfl ?_
      refine v_iconst (v := (-1 : Int32)) hX dX8_lot_19 (by decide) 20 rfl ?_
      obtain ⟨v1, c2, c3, hv1, hf⟩ := bn3_e hf
      refine cv_i hX (c7_findLot r (lkp g [(29, (g 29)), (28, (g 28))]) u h _ hv1) wvX7_findLot q_708 rc_27 (Nat.le_of_ble_eq_true rfl) (Nat.le_of_ble_eq_true rfl) (fun _ => rfl) [] rfl (Nat.le_of_ble_eq_true rfl) dX8_lot_20 23 rfl ?_
      refine v_mgg [(29, c2), (28, c3)] rfl ?_
      refine v_istore_n hX dX8_lot_23 rfl (ltn hn (by decide)) 24 rfl [(2, .int v1), (0, .ref (aX X 0)), (1, .int p1)] rfl ?_
      refine v_iload_n hX dX8_lot_24 rfl 0 rfl 25 rfl ?_
      refine v_if_ge hX dX8_lot_25 31 rfl 28 rfl (fun h6 => ?_) (fun h6 => ?_)
      · replace hf := it_p h6 hf
        refine v_iload_n hX dX8_lot_31 rfl 2 rfl 32 rfl ?_
        refine v_if_ne hX dX8_lot_32 39 rfl 35 rfl (fun h5 => ?_) (fun h5 => ?_)
        · replace hf := it_n h5 hf
          refine v_aload_n hX dX8_lot_39 rfl 1 rfl 40 rfl ?_
          refine gf_0_3 hX q_22 dX8_lot_40 43 rfl ?_
          refine v_iload_n hX dX8_lot_43 rfl 0 rfl 44 rfl ?_
          obtain ⟨v4, hv4, hf⟩ := bn1_e hf
          refine cv_i hX (c7_scoreOf r (lkp g [(29, c2), (28, c3)]) u h _ hv4) wvX7_scoreOf q_680 rc_27 (Nat.le_of_ble_eq_true rfl) (Nat.le_of_ble_eq_true rfl) (fun _ => rfl) [] rfl (Nat.le_of_ble_eq_true rfl) dX8_lot_44 47 rfl ?_
          refine v_ldc (v := (100000 : Int32)) hX q_667 dX8_lot_47 49 rfl ?_
          refine v_iadd hX dX8_lot_49 50 rfl ?_
          exact hR _ hf _ _ dX8_lot_50 rfl
        · replace hf := it_p h5 hf
          refine v_iload_n hX dX8_lot_35 rfl 0 rfl 36 rfl ?_
          refine v_goto hX dX8_lot_36 50 rfl ?_
          exact hR _ hf _ _ dX8_lot_50 rfl
      · replace hf := it_n h6 hf
        refine v_bipush (v := (-3 : Int32)) hX dX8_lot_28 (by decide) 30 rfl ?_
        exact hR _ hf _ _ dX8_lot_30 rfl
    · replace hf := it_n h7 hf
      refine v_iconst (v := (-1 : Int32)) hX dX8_lot_9 (by decide) 10 rfl ?_
      exact hR _ hf _ _ dX8_lot_10 rfl
set_option maxRecDepth 100000 in
set_option maxHeartbeats 4000000 in
theorem c8_many (r : Nat → Int32) (g : Nat → Nat → Int32) (u : Nat → Int64) (h : Nat → Nat → Int64) (p1 : Int32) {res : Int32} (hf : f8_many (r 1) (r 0) (r 3) (r 25) (r 15) (r 23) (g 9) (g 6) p1 = some res) : MAi yX8_many cX8_many 2 (some .int) 1 (fun a => [.ref (a 0), .int p1]) r g u h res r g u h := by
  refine mi_i (by decide +kernel) (fun a => Nat.le_of_ble_eq_true rfl) (fun X hX hn hR => ?_)
  replace hR : ∀ q : Int32, some q = some res → ∀ lv pc, decode cX8_many pc = .ok (.ireturn, 1) → narrow .int (.int q) = .int q → VC X r g u h lv [.int q] pc := fun q hq => by cases hq; exact hR
  replace hX : CX X RX8 cX8_many 1 := hX
  show VC X r g u h [(0, .ref (aX X 0)), (1, .int p1)] [] 0
  rw [f8_many] at hf
  refine v_iload_n hX dX8_many_0 rfl 1 rfl 1 rfl ?_
  rcases Decidable.em (p1 = (0 : Int32)) with h1 | h1
  · replace hf := it_p h1 hf
    refine v_tsIn hX dX8_many_1 (0 : Int32) h1 (by decide) (by decide) (47) (by decide +kernel) 48 rfl ?_
    refine v_aload_n hX dX8_many_48 rfl 0 rfl 49 rfl ?_
    refine gf_0_0 hX q_16 dX8_many_49 52 rfl ?_
    refine gf_1_2 hX q_399 dX8_many_52 ((r 0)) rfl 55 rfl ?_
    exact hR _ hf _ _ dX8_many_55 rfl
  · replace hf := it_n h1 hf
    rcases Decidable.em (p1 = (1 : Int32)) with h2 | h2
    · replace hf := it_p h2 hf
      refine v_tsIn hX dX8_many_1 (1 : Int32) h2 (by decide) (by decide) (55) (by decide +kernel) 56 rfl ?_
      refine v_aload_n hX dX8_many_56 rfl 0 rfl 57 rfl ?_
      refine gf_0_0 hX q_16 dX8_many_57 60 rfl ?_
      refine gf_1_6 hX q_498 dX8_many_60 ((r 1)) rfl 63 rfl ?_
      exact hR _ hf _ _ dX8_many_63 rfl
    · replace hf := it_n h2 hf
      rcases Decidable.em (p1 = (2 : Int32)) with h3 | h3
      · replace hf := it_p h3 hf
        refine v_tsIn hX dX8_many_1 (2 : Int32) h3 (by decide) (by decide) (63) (by decide +kernel) 64 rfl ?_
        refine v_aload_n hX dX8_many_64 rfl 0 rfl 65 rfl ?_
        refine gf_0_0 hX q_16 dX8_many_65 68 rfl ?_
        refine gf_1_11 hX q_158 dX8_many_68 71 rfl ?_
        refine gf_11_3 hX q_160 dX8_many_71 ((r 3)) rfl 74 rfl ?_
        exact hR _ hf _ _ dX8_many_74 rfl
      · replace hf := it_n h3 hf
        rcases Decidable.em (p1 = (3 : Int32)) with h4 | h4
        · replace hf := it_p h4 hf
          refine v_tsIn hX dX8_many_1 (3 : Int32) h4 (by decide) (by decide) (74) (by decide +kernel) 75 rfl ?_
          refine v_aload_n hX dX8_many_75 rfl 0 rfl 76 rfl ?_
          refine gf_0_0 hX q_16 dX8_many_76 79 rfl ?_
          obtain ⟨v5, hv5, hf⟩ := bn1_e hf
          refine cv_i hX (c0_countOnes r g u h hv5) wvX0_countOnes q_1215 rc_1 (Nat.le_of_ble_eq_true rfl) (Nat.le_of_ble_eq_true rfl) (fun _ => rfl) [] rfl (Nat.le_of_ble_eq_true rfl) dX8_many_79 82 rfl ?_
          exact hR _ hf _ _ dX8_many_82 rfl
        · replace hf := it_n h4 hf
          rcases Decidable.em (p1 = (4 : Int32)) with h6 | h6
          · replace hf := it_p h6 hf
            refine v_tsIn hX dX8_many_1 (4 : Int32) h6 (by decide) (by decide) (82) (by decide +kernel) 83 rfl ?_
            refine v_aload_n hX dX8_many_83 rfl 0 rfl 84 rfl ?_
            refine gf_0_0 hX q_16 dX8_many_84 87 rfl ?_
            obtain ⟨v7, hv7, hf⟩ := bn1_e hf
            refine cv_i hX (c0_countFound r g u h hv7) wvX0_countFound q_926 rc_1 (Nat.le_of_ble_eq_true rfl) (Nat.le_of_ble_eq_true rfl) (fun _ => rfl) [] rfl (Nat.le_of_ble_eq_true rfl) dX8_many_87 90 rfl ?_
            exact hR _ hf _ _ dX8_many_90 rfl
          · replace hf := it_n h6 hf
            rcases Decidable.em (p1 = (5 : Int32)) with h8 | h8
            · replace hf := it_p h8 hf
              refine v_tsIn hX dX8_many_1 (5 : Int32) h8 (by decide) (by decide) (90) (by decide +kernel) 91 rfl ?_
              refine v_aload_n hX dX8_many_91 rfl 0 rfl 92 rfl ?_
              refine gf_0_5 hX q_30 dX8_many_92 95 rfl ?_
              refine gf_39_1 hX q_943 dX8_many_95 ((r 23)) rfl 98 rfl ?_
              exact hR _ hf _ _ dX8_many_98 rfl
            · replace hf := it_n h8 hf
              rcases Decidable.em (p1 = (6 : Int32)) with h9 | h9
              · replace hf := it_p h9 hf
                refine v_tsIn hX dX8_many_1 (6 : Int32) h9 (by decide) (by decide) (98) (by decide +kernel) 99 rfl ?_
                refine v_aload_n hX dX8_many_99 rfl 0 rfl 100 rfl ?_
                refine gf_0_4 hX q_26 dX8_many_100 103 rfl ?_
                refine gf_32_1 hX q_138 dX8_many_103 ((r 15)) rfl 106 rfl ?_
                exact hR _ hf _ _ dX8_many_106 rfl
              · replace hf := it_n h9 hf
                rcases Decidable.em (p1 = (7 : Int32)) with h10 | h10
                · replace hf := it_p h10 hf
                  refine v_tsIn hX dX8_many_1 (7 : Int32) h10 (by decide) (by decide) (106) (by decide +kernel) 107 rfl ?_
                  refine v_aload_n hX dX8_many_107 rfl 0 rfl 108 rfl ?_
                  refine gf_0_8 hX q_39 dX8_many_108 111 rfl ?_
                  refine gf_49_1 hX q_1126 dX8_many_111 ((r 25)) rfl 114 rfl ?_
                  exact hR _ hf _ _ dX8_many_114 rfl
                · replace hf := it_n h10 hf
                  refine v_tsD hX dX8_many_1 [0, 1, 2, 3, 4, 5, 6, 7] (sw_c h1 (by decide) (sw_c h2 (by decide) (sw_c h3 (by decide) (sw_c h4 (by decide) (sw_c h6 (by decide) (sw_c h8 (by decide) (sw_c h9 (by decide) (sw_c h10 (by decide) sw_n)))))))) (by decide) (by decide +kernel) 115 rfl ?_
                  refine v_iconst (v := (-1 : Int32)) hX dX8_many_115 (by decide) 116 rfl ?_
                  exact hR _ hf _ _ dX8_many_116 rfl
set_option maxRecDepth 100000 in
set_option maxHeartbeats 4000000 in
theorem c8_odds (r : Nat → Int32) (g : Nat → Nat → Int32) (u : Nat → Int64) (h : Nat → Nat → Int64) (p1 : Int32) (p2 : Int32) {res : Int64} (hf : f8_odds (r 1) (r 0) (g 7) (g 4) (g 6) (g 8) (g 2) p1 p2 = some res) : MAl yX8_odds cX8_odds 10 (some .long) 4 (fun a => [.ref (a 0), .int p1, .int p2]) r g u h res r g u h := by
  refine mi_l (by decide +kernel) (fun a => Nat.le_of_ble_eq_true rfl) (fun X hX hn hR => ?_)
  replace hR : ∀ q : Int64, some q = some res → ∀ lv pc, decode cX8_odds pc = .ok (.lreturn, 1) → VC X r g u h lv [.long q] pc := fun q hq => by cases hq; exact hR
  replace hX : CX X RX8 cX8_odds 4 := hX
  show VC X r g u h [(0, .ref (aX X 0)), (1, .int p1), (2, .int p2)] [] 0
  rw [f8_odds] at hf
  refine v_aload_n hX dX8_odds_0 rfl 0 rfl 1 rfl ?_
  refine gf_0_0 hX q_16 dX8_odds_1 4 rfl ?_
  refine v_iload_n hX dX8_odds_4 rfl 1 rfl 5 rfl ?_
  obtain ⟨v1, hv1, hf⟩ := bn1_e hf
  refine cv_i hX (c0_isPerson r g u h _ hv1) wvX0_isPerson q_416 rc_1 (Nat.le_of_ble_eq_true rfl) (Nat.le_of_ble_eq_true rfl) (fun _ => rfl) [] rfl (Nat.le_of_ble_eq_true rfl) dX8_odds_5 8 rfl ?_
  refine v_if_eq hX dX8_odds_8 20 rfl 11 rfl (fun h23 => ?_) (fun h23 => ?_)
  · replace hf := it_p h23 hf
    refine v_ldc2 (v := (-1 : Int64)) hX q_777 dX8_odds_20 23 rfl ?_
    exact hR _ hf _ _ dX8_odds_23
  · replace hf := it_n h23 hf
    refine v_iload_n hX dX8_odds_11 rfl 2 rfl 12 rfl ?_
    refine v_if_lt hX dX8_odds_12 20 rfl 15 rfl (fun h22 => ?_) (fun h22 => ?_)
    · replace hf := it_p h22 hf
      refine v_ldc2 (v := (-1 : Int64)) hX q_777 dX8_odds_20 23 rfl ?_
      exact hR _ hf _ _ dX8_odds_23
    · replace hf := it_n h22 hf
      refine v_iload_n hX dX8_odds_15 rfl 2 rfl 16 rfl ?_
      refine v_iconst (v := (1 : Int32)) hX dX8_odds_16 (by decide) 17 rfl ?_
      refine v_icmp_le hX dX8_odds_17 24 rfl 20 rfl (fun h21 => ?_) (fun h21 => ?_)
      · replace hf := it_p h21 hf
        refine v_aload_n hX dX8_odds_24 rfl 0 rfl 25 rfl ?_
        refine gf_0_0 hX q_16 dX8_odds_25 28 rfl ?_
        refine gf_1_3 hX q_415 dX8_odds_28 31 rfl ?_
        refine v_iload_n hX dX8_odds_31 rfl 1 rfl 32 rfl ?_
        obtain ⟨hi2, hf⟩ := gd_e hf
        refine al_4 hX hi2 dX8_odds_32 ((g 4) p1.toNatClampNeg) rfl 33 rfl ?_
        refine v_istore_n hX dX8_odds_33 rfl (ltn hn (by decide)) 34 rfl [(3, .int ((g 4) p1.toNatClampNeg)), (0, .ref (aX X 0)), (1, .int p1), (2, .int p2)] rfl ?_
        refine v_iconst (v := (0 : Int32)) hX dX8_odds_34 (by decide) 35 rfl ?_
        refine v_istore hX dX8_odds_35 (ltn hn (by decide)) 37 rfl [(4, .int (0 : Int32)), (3, .int ((g 4) p1.toNatClampNeg)), (0, .ref (aX X 0)), (1, .int p1), (2, .int p2)] rfl ?_
        refine v_iconst (v := (0 : Int32)) hX dX8_odds_37 (by decide) 38 rfl ?_
        refine v_istore hX dX8_odds_38 (ltn hn (by decide)) 40 rfl [(5, .int (0 : Int32)), (4, .int (0 : Int32)), (3, .int ((g 4) p1.toNatClampNeg)), (0, .ref (aX X 0)), (1, .int p1), (2, .int p2)] rfl ?_
        refine v_iconst (v := (0 : Int32)) hX dX8_odds_40 (by decide) 41 rfl ?_
        refine v_istore hX dX8_odds_41 (ltn hn (by decide)) 43 rfl [(6, .int (0 : Int32)), (5, .int (0 : Int32)), (4, .int (0 : Int32)), (3, .int ((g 4) p1.toNatClampNeg)), (0, .ref (aX X 0)), (1, .int p1), (2, .int p2)] rfl ?_
        obtain ⟨K6, hK6, hf⟩ := jn_x hf
        have HK6 : ∀ (x3 : Int32) (x4 : Int32) (x5 : Int32), K6 x3 x4 x5 = some res → VC X r g u h [(0, .ref (aX X 0)), (2, .int p2), (3, .int ((g 4) p1.toNatClampNeg)), (4, .int x3), (5, .int x4)] [] 105 := by
          intro x3 x4 x5 hf
          rw [hK6] at hf
          refine v_aload_n hX dX8_odds_105 rfl 0 rfl 106 rfl ?_
          refine gf_0_0 hX q_16 dX8_odds_106 109 rfl ?_
          refine gf_1_0 hX q_387 dX8_odds_109 112 rfl ?_
          refine v_iload_n hX dX8_odds_112 rfl 2 rfl 113 rfl ?_
          obtain ⟨hi17, hf⟩ := gd_e hf
          refine al_2 hX hi17 dX8_odds_113 ((g 2) ((g 4) p1.toNatClampNeg).toNatClampNeg) rfl 114 rfl ?_
          refine v_i2l hX dX8_odds_114 115 rfl ?_
          refine v_lstore hX dX8_odds_115 (ltn hn (by decide)) 117 rfl [(6, .long (((g 2) ((g 4) p1.toNatClampNeg).toNatClampNeg)).toInt64), (0, .ref (aX X 0)), (2, .int p2), (3, .int ((g 4) p1.toNatClampNeg)), (4, .int x3), (5, .int x4)] rfl ?_
          refine v_iload hX dX8_odds_117 4 rfl 119 rfl ?_
          refine v_iload hX dX8_odds_119 5 rfl 121 rfl ?_
          refine v_lload hX dX8_odds_121 0 rfl 123 rfl ?_
          obtain ⟨v18, hv18, hf⟩ := bn1_e hf
          refine cs_l hX (c2_asManyOrMore r g u h _ _ _ hv18) wvX2_asManyOrMore q_779 (Nat.le_of_ble_eq_true rfl) (Nat.le_of_ble_eq_true rfl) (fun _ => rfl) [] rfl (Nat.le_of_ble_eq_true rfl) dX8_odds_123 126 rfl ?_
          refine v_lstore hX dX8_odds_126 (ltn hn (by decide)) 128 rfl [(8, .long v18), (6, .long (((g 2) ((g 4) p1.toNatClampNeg).toNatClampNeg)).toInt64), (0, .ref (aX X 0)), (2, .int p2), (3, .int ((g 4) p1.toNatClampNeg)), (4, .int x3), (5, .int x4)] rfl ?_
          refine v_lload hX dX8_odds_128 0 rfl 130 rfl ?_
          refine v_lload hX dX8_odds_130 1 rfl 132 rfl ?_
          refine v_iload hX dX8_odds_132 5 rfl 134 rfl ?_
          obtain ⟨v19, hv19, hf⟩ := bn1_e hf
          refine cs_l hX (c2_power r g u h _ _ hv19) wvX2_power q_787 (Nat.le_of_ble_eq_true rfl) (Nat.le_of_ble_eq_true rfl) (fun _ => rfl) [.long v18] rfl (Nat.le_of_ble_eq_true rfl) dX8_odds_134 137 rfl ?_
          refine v_iload_n hX dX8_odds_137 rfl 3 rfl 138 rfl ?_
          obtain ⟨v20, hv20, hf⟩ := bn1_e hf
          refine cs_l hX (c2_part r g u h _ _ _ hv20) wvX2_part q_788 (Nat.le_of_ble_eq_true rfl) (Nat.le_of_ble_eq_true rfl) (fun _ => rfl) [] rfl (Nat.le_of_ble_eq_true rfl) dX8_odds_138 141 rfl ?_
          exact hR _ hf _ _ dX8_odds_141
        have HLK6 : ∀ (n7 : Nat) (x3 : Int32) (x4 : Int32) (x5 : Int32), f8_odds_L43 (r 1) (r 0) (g 7) (g 4) (g 6) (g 8) p1 n7 x3 x4 x5 K6 = some res → VC X r g u h [(0, .ref (aX X 0)), (1, .int p1), (2, .int p2), (3, .int ((g 4) p1.toNatClampNeg)), (4, .int x3), (5, .int x4), (6, .int x5)] [] 43 := by
          intro n7
          induction n7 with
          | zero => intro x3 x4 x5 hf; exact no_s hf
          | succ n7 ih =>
            intro x3 x4 x5 hf
            rw [f8_odds_L43] at hf
            refine v_iload hX dX8_odds_43 6 rfl 45 rfl ?_
            refine v_aload_n hX dX8_odds_45 rfl 0 rfl 46 rfl ?_
            refine gf_0_0 hX q_16 dX8_odds_46 49 rfl ?_
            refine gf_1_6 hX q_498 dX8_odds_49 ((r 1)) rfl 52 rfl ?_
            refine v_icmp_ge hX dX8_odds_52 105 rfl 55 rfl (fun h16 => ?_) (fun h16 => ?_)
            · replace hf := it_p h16 hf
              refine v_sub [(0, .ref (aX X 0)), (2, .int p2), (3, .int ((g 4) p1.toNatClampNeg)), (4, .int x3), (5, .int x4)] (sbc 0 rfl (sbc 2 rfl (sbc 3 rfl (sbc 4 rfl (sbc 5 rfl sbn))))) ?_
              exact HK6 _ _ _ hf
            · replace hf := it_n h16 hf
              refine v_aload_n hX dX8_odds_55 rfl 0 rfl 56 rfl ?_
              refine gf_0_0 hX q_16 dX8_odds_56 59 rfl ?_
              refine v_iload hX dX8_odds_59 6 rfl 61 rfl ?_
              refine v_iconst (v := (2 : Int32)) hX dX8_odds_61 (by decide) 62 rfl ?_
              obtain ⟨v8, hv8, hf⟩ := bn1_e hf
              refine cv_i hX (c0_fact r g u h _ _ hv8) wvX0_fact q_515 rc_1 (Nat.le_of_ble_eq_true rfl) (Nat.le_of_ble_eq_true rfl) (fun _ => rfl) [] rfl (Nat.le_of_ble_eq_true rfl) dX8_odds_62 65 rfl ?_
              refine v_iload_n hX dX8_odds_65 rfl 3 rfl 66 rfl ?_
              obtain ⟨J9, hJ9, hf⟩ := jn_x hf
              have HJ9 : ∀ (y10 : Int32) (y11 : Int32), J9 y10 y11 = some res → VC X r g u h [(0, .ref (aX X 0)), (1, .int p1), (2, .int p2), (3, .int ((g 4) p1.toNatClampNeg)), (4, .int y10), (5, .int y11), (6, .int x5)] [] 99 := by
                intro y10 y11 hf
                rw [hJ9] at hf
                refine v_inc (c := (1 : Int32)) hX dX8_odds_99 6 rfl (by decide) (ltn hn (by decide)) 102 rfl [(6, .int (x5 + (1 : Int32))), (0, .ref (aX X 0)), (1, .int p1), (2, .int p2), (3, .int ((g 4) p1.toNatClampNeg)), (4, .int y10), (5, .int y11)] rfl ?_
                refine v_goto hX dX8_odds_102 43 rfl ?_
                refine v_sub [(0, .ref (aX X 0)), (1, .int p1), (2, .int p2), (3, .int ((g 4) p1.toNatClampNeg)), (4, .int y10), (5, .int y11), (6, .int (x5 + (1 : Int32)))] (sbc 1 rfl (sbc 2 rfl (sbc 3 rfl (sbc 4 rfl (sbc 5 rfl (sbc 6 rfl (sbc 0 rfl sbn))))))) ?_
                exact ih _ _ _ hf
              refine v_icmp_eq hX dX8_odds_66 72 rfl 69 rfl (fun h15 => ?_) (fun h15 => ?_)
              · replace hf := it_p h15 hf
                refine v_inc (c := (1 : Int32)) hX dX8_odds_72 4 rfl (by decide) (ltn hn (by decide)) 75 rfl [(4, .int (x3 + (1 : Int32))), (0, .ref (aX X 0)), (1, .int p1), (2, .int p2), (3, .int ((g 4) p1.toNatClampNeg)), (5, .int x4), (6, .int x5)] rfl ?_
                refine v_aload_n hX dX8_odds_75 rfl 1 rfl 76 rfl ?_
                refine gf_0_0 hX q_16 dX8_odds_76 79 rfl ?_
                refine v_iload hX dX8_odds_79 6 rfl 81 rfl ?_
                refine v_aload_n hX dX8_odds_81 rfl 1 rfl 82 rfl ?_
                refine gf_0_0 hX q_16 dX8_odds_82 85 rfl ?_
                refine gf_1_5 hX q_414 dX8_odds_85 88 rfl ?_
                refine v_iload_n hX dX8_odds_88 rfl 2 rfl 89 rfl ?_
                obtain ⟨hi12, hf⟩ := gd_e hf
                refine al_6 hX hi12 dX8_odds_89 ((g 6) p1.toNatClampNeg) rfl 90 rfl ?_
                obtain ⟨v13, hv13, hf⟩ := bn1_e hf
                refine cv_i hX (c0_isIn r g u h _ _ hv13) wvX0_isIn q_778 rc_1 (Nat.le_of_ble_eq_true rfl) (Nat.le_of_ble_eq_true rfl) (fun _ => rfl) [] rfl (Nat.le_of_ble_eq_true rfl) dX8_odds_90 93 rfl ?_
                refine v_if_eq hX dX8_odds_93 99 rfl 96 rfl (fun h14 => ?_) (fun h14 => ?_)
                · replace hf := it_p h14 hf
                  refine v_sub [(0, .ref (aX X 0)), (1, .int p1), (2, .int p2), (3, .int ((g 4) p1.toNatClampNeg)), (4, .int (x3 + (1 : Int32))), (5, .int x4), (6, .int x5)] (sbc 1 rfl (sbc 2 rfl (sbc 3 rfl (sbc 4 rfl (sbc 0 rfl (sbc 5 rfl (sbc 6 rfl sbn))))))) ?_
                  exact HJ9 _ _ hf
                · replace hf := it_n h14 hf
                  refine v_inc (c := (1 : Int32)) hX dX8_odds_96 5 rfl (by decide) (ltn hn (by decide)) 99 rfl [(5, .int (x4 + (1 : Int32))), (4, .int (x3 + (1 : Int32))), (0, .ref (aX X 0)), (1, .int p1), (2, .int p2), (3, .int ((g 4) p1.toNatClampNeg)), (6, .int x5)] rfl ?_
                  refine v_sub [(0, .ref (aX X 0)), (1, .int p1), (2, .int p2), (3, .int ((g 4) p1.toNatClampNeg)), (4, .int (x3 + (1 : Int32))), (5, .int (x4 + (1 : Int32))), (6, .int x5)] (sbc 2 rfl (sbc 3 rfl (sbc 4 rfl (sbc 5 rfl (sbc 1 rfl (sbc 0 rfl (sbc 6 rfl sbn))))))) ?_
                  exact HJ9 _ _ hf
              · replace hf := it_n h15 hf
                refine v_goto hX dX8_odds_69 99 rfl ?_
                exact HJ9 _ _ hf
        refine v_sub [(0, .ref (aX X 0)), (1, .int p1), (2, .int p2), (3, .int ((g 4) p1.toNatClampNeg)), (4, .int (0 : Int32)), (5, .int (0 : Int32)), (6, .int (0 : Int32))] (sbc 4 rfl (sbc 5 rfl (sbc 6 rfl (sbc 3 rfl (sbc 2 rfl (sbc 1 rfl (sbc 0 rfl sbn))))))) ?_
        exact HLK6 _ _ _ _ hf
      · replace hf := it_n h21 hf
        refine v_ldc2 (v := (-1 : Int64)) hX q_777 dX8_odds_20 23 rfl ?_
        exact hR _ hf _ _ dX8_odds_23
set_option maxRecDepth 100000 in
set_option maxHeartbeats 4000000 in
theorem c8_person (r : Nat → Int32) (g : Nat → Nat → Int32) (u : Nat → Int64) (h : Nat → Nat → Int64) (p1 : Int32) (p2 : Int32) {res : Int32 × Int32 × (Nat → Int32) × (Nat → Int32) × (Nat → Int32)} (hf : f8_person (r 0) (g 4) (g 5) (g 6) p1 p2 = some res) : MAi yX8_person cX8_person 3 (some .int) 1 (fun a => [.ref (a 0), .int p1, .int p2]) r g u h res.1 (lkp r [(0, res.2.1)]) (lkp g [(4, res.2.2.1), (5, res.2.2.2.1), (6, res.2.2.2.2)]) u h := by
  refine mi_i (by decide +kernel) (fun a => Nat.le_of_ble_eq_true rfl) (fun X hX hn hR => ?_)
  replace hR : ∀ q : Int32 × Int32 × (Nat → Int32) × (Nat → Int32) × (Nat → Int32), some q = some res → ∀ lv pc, decode cX8_person pc = .ok (.ireturn, 1) → narrow .int (.int q.1) = .int q.1 → VC X (lkp r [(0, q.2.1)]) (lkp g [(4, q.2.2.1), (5, q.2.2.2.1), (6, q.2.2.2.2)]) u h lv [.int q.1] pc := fun q hq => by cases hq; exact hR
  replace hX : CX X RX8 cX8_person 1 := hX
  refine v_opr [0] [(0, r 0)] rfl ?_
  refine v_opg [4, 5, 6] [(4, g 4), (5, g 5), (6, g 6)] rfl ?_
  show VC X (lkp r [(0, r 0)]) (lkp g [(4, g 4), (5, g 5), (6, g 6)]) u h [(0, .ref (aX X 0)), (1, .int p1), (2, .int p2)] [] 0
  rw [f8_person] at hf
  refine v_iload_n hX dX8_person_0 rfl 1 rfl 1 rfl ?_
  obtain ⟨v1, hv1, hf⟩ := bn1_e hf
  refine cs_i hX (c8_isTown (lkp r [(0, (r 0))]) (lkp g [(4, (g 4)), (5, (g 5)), (6, (g 6))]) u h _ hv1) wvX8_isTown q_388 (Nat.le_of_ble_eq_true rfl) (Nat.le_of_ble_eq_true rfl) (fun _ => rfl) [] rfl (Nat.le_of_ble_eq_true rfl) dX8_person_1 4 rfl ?_
  refine v_if_ne hX dX8_person_4 9 rfl 7 rfl (fun h8 => ?_) (fun h8 => ?_)
  · replace hf := it_n h8 hf
    refine v_aload_n hX dX8_person_9 rfl 0 rfl 10 rfl ?_
    refine gf_0_0 hX q_16 dX8_person_10 13 rfl ?_
    refine gf_1_2 hX q_399 dX8_person_13 ((r 0)) rfl 16 rfl ?_
    refine v_bipush (v := (10 : Int32)) hX dX8_person_16 (by decide) 18 rfl ?_
    refine v_icmp_lt hX dX8_person_18 24 rfl 21 rfl (fun h7 => ?_) (fun h7 => ?_)
    · replace hf := it_p h7 hf
      refine v_aload_n hX dX8_person_24 rfl 0 rfl 25 rfl ?_
      refine gf_0_0 hX q_16 dX8_person_25 28 rfl ?_
      refine v_iload_n hX dX8_person_28 rfl 1 rfl 29 rfl ?_
      refine v_iload_n hX dX8_person_29 rfl 2 rfl 30 rfl ?_
      obtain ⟨v2, c3, c4, c5, c6, hv2, hf⟩ := bn5_e hf
      refine cv_i hX (c0_addPerson (lkp r [(0, (r 0))]) (lkp g [(4, (g 4)), (5, (g 5)), (6, (g 6))]) u h _ _ hv2) wvX0_addPerson q_400 rc_1 (Nat.le_of_ble_eq_true rfl) (Nat.le_of_ble_eq_true rfl) (fun _ => rfl) [] rfl (Nat.le_of_ble_eq_true rfl) dX8_person_30 33 rfl ?_
      refine v_mgr [(0, c3)] rfl ?_
      refine v_mgg [(4, c4), (5, c5), (6, c6)] rfl ?_
      exact hR _ hf _ _ dX8_person_33 rfl
    · replace hf := it_n h7 hf
      refine v_bipush (v := (-2 : Int32)) hX dX8_person_21 (by decide) 23 rfl ?_
      exact hR _ hf _ _ dX8_person_23 rfl
  · replace hf := it_p h8 hf
    refine v_iconst (v := (-1 : Int32)) hX dX8_person_7 (by decide) 8 rfl ?_
    exact hR _ hf _ _ dX8_person_8 rfl
set_option maxRecDepth 100000 in
set_option maxHeartbeats 4000000 in
theorem c8_personOf (r : Nat → Int32) (g : Nat → Nat → Int32) (u : Nat → Int64) (h : Nat → Nat → Int64) (p1 : Int32) (p2 : Int32) {res : Int32} (hf : f8_personOf (r 1) (r 0) (g 4) (g 5) (g 6) (g 8) p1 p2 = some res) : MAi yX8_personOf cX8_personOf 4 (some .int) 5 (fun a => [.ref (a 0), .int p1, .int p2]) r g u h res r g u h := by
  refine mi_i (by decide +kernel) (fun a => Nat.le_of_ble_eq_true rfl) (fun X hX hn hR => ?_)
  replace hR : ∀ q : Int32, some q = some res → ∀ lv pc, decode cX8_personOf pc = .ok (.ireturn, 1) → narrow .int (.int q) = .int q → VC X r g u h lv [.int q] pc := fun q hq => by cases hq; exact hR
  replace hX : CX X RX8 cX8_personOf 5 := hX
  show VC X r g u h [(0, .ref (aX X 0)), (1, .int p1), (2, .int p2)] [] 0
  rw [f8_personOf] at hf
  refine v_aload_n hX dX8_personOf_0 rfl 0 rfl 1 rfl ?_
  refine gf_0_0 hX q_16 dX8_personOf_1 4 rfl ?_
  refine v_iload_n hX dX8_personOf_4 rfl 1 rfl 5 rfl ?_
  obtain ⟨v1, hv1, hf⟩ := bn1_e hf
  refine cv_i hX (c0_isPerson r g u h _ hv1) wvX0_isPerson q_416 rc_1 (Nat.le_of_ble_eq_true rfl) (Nat.le_of_ble_eq_true rfl) (fun _ => rfl) [] rfl (Nat.le_of_ble_eq_true rfl) dX8_personOf_5 8 rfl ?_
  refine v_if_ne hX dX8_personOf_8 13 rfl 11 rfl (fun h11 => ?_) (fun h11 => ?_)
  · replace hf := it_n h11 hf
    refine v_aload_n hX dX8_personOf_13 rfl 0 rfl 14 rfl ?_
    refine gf_0_0 hX q_16 dX8_personOf_14 17 rfl ?_
    refine gf_1_5 hX q_414 dX8_personOf_17 20 rfl ?_
    refine v_iload_n hX dX8_personOf_20 rfl 1 rfl 21 rfl ?_
    obtain ⟨hi2, hf⟩ := gd_e hf
    refine al_6 hX hi2 dX8_personOf_21 ((g 6) p1.toNatClampNeg) rfl 22 rfl ?_
    refine v_istore_n hX dX8_personOf_22 rfl (ltn hn (by decide)) 23 rfl [(3, .int ((g 6) p1.toNatClampNeg)), (0, .ref (aX X 0)), (1, .int p1), (2, .int p2)] rfl ?_
    refine v_iload_n hX dX8_personOf_23 rfl 3 rfl 24 rfl ?_
    rcases Decidable.em (p2 = (0 : Int32)) with h3 | h3
    · replace hf := it_p h3 hf
      refine v_tsIn hX dX8_personOf_24 (0 : Int32) h3 (by decide) (by decide) (32) (by decide +kernel) 56 rfl ?_
      refine v_aload_n hX dX8_personOf_56 rfl 1 rfl 57 rfl ?_
      refine gf_0_0 hX q_16 dX8_personOf_57 60 rfl ?_
      refine gf_1_3 hX q_415 dX8_personOf_60 63 rfl ?_
      refine v_iload_n hX dX8_personOf_63 rfl 2 rfl 64 rfl ?_
      obtain ⟨hi4, hf⟩ := gd_e hf
      refine al_4 hX hi4 dX8_personOf_64 ((g 4) p1.toNatClampNeg) rfl 65 rfl ?_
      exact hR _ hf _ _ dX8_personOf_65 rfl
    · replace hf := it_n h3 hf
      rcases Decidable.em (p2 = (1 : Int32)) with h5 | h5
      · replace hf := it_p h5 hf
        refine v_tsIn hX dX8_personOf_24 (1 : Int32) h5 (by decide) (by decide) (42) (by decide +kernel) 66 rfl ?_
        refine v_iload_n hX dX8_personOf_66 rfl 0 rfl 67 rfl ?_
        exact hR _ hf _ _ dX8_personOf_67 rfl
      · replace hf := it_n h5 hf
        rcases Decidable.em (p2 = (2 : Int32)) with h6 | h6
        · replace hf := it_p h6 hf
          refine v_tsIn hX dX8_personOf_24 (2 : Int32) h6 (by decide) (by decide) (44) (by decide +kernel) 68 rfl ?_
          refine v_aload_n hX dX8_personOf_68 rfl 1 rfl 69 rfl ?_
          refine gf_0_0 hX q_16 dX8_personOf_69 72 rfl ?_
          refine v_iload_n hX dX8_personOf_72 rfl 0 rfl 73 rfl ?_
          obtain ⟨v7, hv7, hf⟩ := bn1_e hf
          refine cv_i hX (c0_isHub r g u h _ hv7) wvX0_isHub q_420 rc_1 (Nat.le_of_ble_eq_true rfl) (Nat.le_of_ble_eq_true rfl) (fun _ => rfl) [] rfl (Nat.le_of_ble_eq_true rfl) dX8_personOf_73 76 rfl ?_
          refine v_if_eq hX dX8_personOf_76 83 rfl 79 rfl (fun h8 => ?_) (fun h8 => ?_)
          · replace hf := it_p h8 hf
            refine v_iconst (v := (0 : Int32)) hX dX8_personOf_83 (by decide) 84 rfl ?_
            exact hR _ hf _ _ dX8_personOf_84 rfl
          · replace hf := it_n h8 hf
            refine v_iconst (v := (1 : Int32)) hX dX8_personOf_79 (by decide) 80 rfl ?_
            refine v_goto hX dX8_personOf_80 84 rfl ?_
            exact hR _ hf _ _ dX8_personOf_84 rfl
        · replace hf := it_n h6 hf
          rcases Decidable.em (p2 = (3 : Int32)) with h9 | h9
          · replace hf := it_p h9 hf
            refine v_tsIn hX dX8_personOf_24 (3 : Int32) h9 (by decide) (by decide) (61) (by decide +kernel) 85 rfl ?_
            refine v_aload_n hX dX8_personOf_85 rfl 1 rfl 86 rfl ?_
            refine gf_0_0 hX q_16 dX8_personOf_86 89 rfl ?_
            refine v_iload_n hX dX8_personOf_89 rfl 0 rfl 90 rfl ?_
            obtain ⟨v10, hv10, hf⟩ := bn1_e hf
            refine cv_i hX (c0_claimsWith r g u h _ hv10) wvX0_claimsWith q_424 rc_1 (Nat.le_of_ble_eq_true rfl) (Nat.le_of_ble_eq_true rfl) (fun _ => rfl) [] rfl (Nat.le_of_ble_eq_true rfl) dX8_personOf_90 93 rfl ?_
            exact hR _ hf _ _ dX8_personOf_93 rfl
          · replace hf := it_n h9 hf
            refine v_tsD hX dX8_personOf_24 [0, 1, 2, 3] (sw_c h3 (by decide) (sw_c h5 (by decide) (sw_c h6 (by decide) (sw_c h9 (by decide) sw_n)))) (by decide) (by decide +kernel) 94 rfl ?_
            refine v_iconst (v := (-1 : Int32)) hX dX8_personOf_94 (by decide) 95 rfl ?_
            exact hR _ hf _ _ dX8_personOf_95 rfl
  · replace hf := it_p h11 hf
    refine v_iconst (v := (-1 : Int32)) hX dX8_personOf_11 (by decide) 12 rfl ?_
    exact hR _ hf _ _ dX8_personOf_12 rfl
set_option maxRecDepth 100000 in
set_option maxHeartbeats 4000000 in
theorem c8_prove (r : Nat → Int32) (g : Nat → Nat → Int32) (u : Nat → Int64) (h : Nat → Nat → Int64)  {res : Int32 × Int32 × (Nat → Int32) × (Nat → Int32) × (Nat → Int32)} (hf : f8_prove (r 1) (r 0) (r 23) (g 7) (g 5) (g 3) (g 6) (g 8) (g 40) (g 29) (g 28) = some res) : MAi yX8_prove cX8_prove 2 (some .int) 7 (fun a => [.ref (a 0)]) r g u h res.1 (lkp r [(23, res.2.1)]) (lkp g [(40, res.2.2.1), (29, res.2.2.2.1), (28, res.2.2.2.2)]) u h := by
  refine mi_i (by decide +kernel) (fun a => Nat.le_of_ble_eq_true rfl) (fun X hX hn hR => ?_)
  replace hR : ∀ q : Int32 × Int32 × (Nat → Int32) × (Nat → Int32) × (Nat → Int32), some q = some res → ∀ lv pc, decode cX8_prove pc = .ok (.ireturn, 1) → narrow .int (.int q.1) = .int q.1 → VC X (lkp r [(23, q.2.1)]) (lkp g [(40, q.2.2.1), (29, q.2.2.2.1), (28, q.2.2.2.2)]) u h lv [.int q.1] pc := fun q hq => by cases hq; exact hR
  replace hX : CX X RX8 cX8_prove 7 := hX
  refine v_opr [23] [(23, r 23)] rfl ?_
  refine v_opg [40, 29, 28] [(40, g 40), (29, g 29), (28, g 28)] rfl ?_
  show VC X (lkp r [(23, r 23)]) (lkp g [(40, g 40), (29, g 29), (28, g 28)]) u h [(0, .ref (aX X 0))] [] 0
  rw [f8_prove] at hf
  refine v_aload_n hX dX8_prove_0 rfl 0 rfl 1 rfl ?_
  refine gf_0_3 hX q_22 dX8_prove_1 4 rfl ?_
  refine v_aload_n hX dX8_prove_4 rfl 0 rfl 5 rfl ?_
  refine gf_0_0 hX q_16 dX8_prove_5 8 rfl ?_
  refine v_iconst (v := (-1 : Int32)) hX dX8_prove_8 (by decide) 9 rfl ?_
  obtain ⟨v1, c2, c3, hv1, hf⟩ := bn3_e hf
  refine cv_i hX (c7_findLot (lkp r [(23, (r 23))]) (lkp g [(40, (g 40)), (29, (g 29)), (28, (g 28))]) u h _ hv1) wvX7_findLot q_708 rc_27 (Nat.le_of_ble_eq_true rfl) (Nat.le_of_ble_eq_true rfl) (fun _ => rfl) [] rfl (Nat.le_of_ble_eq_true rfl) dX8_prove_9 12 rfl ?_
  refine v_mgg [(40, (g 40)), (29, c2), (28, c3)] rfl ?_
  refine v_istore_n hX dX8_prove_12 rfl (ltn hn (by decide)) 13 rfl [(1, .int v1), (0, .ref (aX X 0))] rfl ?_
  refine v_iload_n hX dX8_prove_13 rfl 0 rfl 14 rfl ?_
  refine v_if_ge hX dX8_prove_14 20 rfl 17 rfl (fun h6 => ?_) (fun h6 => ?_)
  · replace hf := it_p h6 hf
    refine v_aload_n hX dX8_prove_20 rfl 1 rfl 21 rfl ?_
    refine gf_0_5 hX q_30 dX8_prove_21 24 rfl ?_
    refine v_aload_n hX dX8_prove_24 rfl 1 rfl 25 rfl ?_
    refine gf_0_0 hX q_16 dX8_prove_25 28 rfl ?_
    refine v_aload_n hX dX8_prove_28 rfl 1 rfl 29 rfl ?_
    refine gf_0_3 hX q_22 dX8_prove_29 32 rfl ?_
    refine v_iload_n hX dX8_prove_32 rfl 0 rfl 33 rfl ?_
    obtain ⟨c4, c5, hc4, hf⟩ := bn2_e hf
    refine cv_v hX (c5_write_t39 (lkp r [(23, (r 23))]) (lkp g [(40, (g 40)), (29, c2), (28, c3)]) u h _ hc4) wvX5_write q_944 rc_39 (Nat.le_of_ble_eq_true rfl) (Nat.le_of_ble_eq_true rfl) (fun _ => rfl) [] rfl (Nat.le_of_ble_eq_true rfl) dX8_prove_33 36 rfl ?_
    refine v_mgr [(23, c4)] rfl ?_
    refine v_mgg [(40, c5), (29, c2), (28, c3)] rfl ?_
    refine v_aload_n hX dX8_prove_36 rfl 1 rfl 37 rfl ?_
    refine gf_0_5 hX q_30 dX8_prove_37 40 rfl ?_
    refine gf_39_1 hX q_943 dX8_prove_40 (c4) rfl 43 rfl ?_
    exact hR _ hf _ _ dX8_prove_43 rfl
  · replace hf := it_n h6 hf
    refine v_bipush (v := (-3 : Int32)) hX dX8_prove_17 (by decide) 19 rfl ?_
    exact hR _ hf _ _ dX8_prove_19 rfl
set_option maxRecDepth 100000 in
set_option maxHeartbeats 4000000 in
theorem c8_put (r : Nat → Int32) (g : Nat → Nat → Int32) (u : Nat → Int64) (h : Nat → Nat → Int64) (p1 : Int32) (p2 : Int32) (p3 : Int32) {res : Int32 × (Nat → Int64)} (hf : f8_put (g 45) (g 44) (h 46) p1 p2 p3 = some res) : MAi yX8_put cX8_put 4 (some .int) 4 (fun a => [.ref (a 0), .int p1, .int p2, .int p3]) r g u h res.1 r g u (lkp h [(46, res.2)]) := by
  refine mi_i (by decide +kernel) (fun a => Nat.le_of_ble_eq_true rfl) (fun X hX hn hR => ?_)
  replace hR : ∀ q : Int32 × (Nat → Int64), some q = some res → ∀ lv pc, decode cX8_put pc = .ok (.ireturn, 1) → narrow .int (.int q.1) = .int q.1 → VC X r g u (lkp h [(46, q.2)]) lv [.int q.1] pc := fun q hq => by cases hq; exact hR
  replace hX : CX X RX8 cX8_put 4 := hX
  refine v_oph [46] [(46, h 46)] rfl ?_
  show VC X r g u (lkp h [(46, h 46)]) [(0, .ref (aX X 0)), (1, .int p1), (2, .int p2), (3, .int p3)] [] 0
  rw [f8_put] at hf
  refine v_iload_n hX dX8_put_0 rfl 1 rfl 1 rfl ?_
  obtain ⟨v1, hv1, hf⟩ := bn1_e hf
  refine cs_i hX (c1_isSheet r g u (lkp h [(46, (h 46))]) _ hv1) wvX1_isSheet q_1012 (Nat.le_of_ble_eq_true rfl) (Nat.le_of_ble_eq_true rfl) (fun _ => rfl) [] rfl (Nat.le_of_ble_eq_true rfl) dX8_put_1 4 rfl ?_
  refine v_if_ne hX dX8_put_4 9 rfl 7 rfl (fun h7 => ?_) (fun h7 => ?_)
  · replace hf := it_n h7 hf
    refine v_aload_n hX dX8_put_9 rfl 0 rfl 10 rfl ?_
    refine gf_0_7 hX q_35 dX8_put_10 13 rfl ?_
    refine v_iload_n hX dX8_put_13 rfl 1 rfl 14 rfl ?_
    obtain ⟨v2, hv2, hf⟩ := bn1_e hf
    refine cv_i hX (c1_isMissing r g u (lkp h [(46, (h 46))]) _ hv2) wvX1_isMissing q_1035 rc_43 (Nat.le_of_ble_eq_true rfl) (Nat.le_of_ble_eq_true rfl) (fun _ => rfl) [] rfl (Nat.le_of_ble_eq_true rfl) dX8_put_14 17 rfl ?_
    refine v_if_eq hX dX8_put_17 23 rfl 20 rfl (fun h6 => ?_) (fun h6 => ?_)
    · replace hf := it_p h6 hf
      refine v_aload_n hX dX8_put_23 rfl 0 rfl 24 rfl ?_
      refine gf_0_7 hX q_35 dX8_put_24 27 rfl ?_
      refine v_iload_n hX dX8_put_27 rfl 1 rfl 28 rfl ?_
      refine v_iload_n hX dX8_put_28 rfl 2 rfl 29 rfl ?_
      obtain ⟨v3, hv3, hf⟩ := bn1_e hf
      refine cv_i hX (c1_isInside r g u (lkp h [(46, (h 46))]) _ _ hv3) wvX1_isInside q_1039 rc_43 (Nat.le_of_ble_eq_true rfl) (Nat.le_of_ble_eq_true rfl) (fun _ => rfl) [] rfl (Nat.le_of_ble_eq_true rfl) dX8_put_29 32 rfl ?_
      refine v_if_ne hX dX8_put_32 38 rfl 35 rfl (fun h5 => ?_) (fun h5 => ?_)
      · replace hf := it_n h5 hf
        refine v_aload_n hX dX8_put_38 rfl 0 rfl 39 rfl ?_
        refine gf_0_7 hX q_35 dX8_put_39 42 rfl ?_
        refine v_iload_n hX dX8_put_42 rfl 1 rfl 43 rfl ?_
        refine v_iload_n hX dX8_put_43 rfl 2 rfl 44 rfl ?_
        refine v_iload_n hX dX8_put_44 rfl 3 rfl 45 rfl ?_
        obtain ⟨c4, hc4, hf⟩ := bn1_e hf
        refine cv_v hX (c1_write r g u (lkp h [(46, (h 46))]) _ _ _ hc4) wvX1_write q_1044 rc_43 (Nat.le_of_ble_eq_true rfl) (Nat.le_of_ble_eq_true rfl) (fun _ => rfl) [] rfl (Nat.le_of_ble_eq_true rfl) dX8_put_45 48 rfl ?_
        refine v_mgh [(46, c4)] rfl ?_
        refine v_iconst (v := (1 : Int32)) hX dX8_put_48 (by decide) 49 rfl ?_
        exact hR _ hf _ _ dX8_put_49 rfl
      · replace hf := it_p h5 hf
        refine v_bipush (v := (-12 : Int32)) hX dX8_put_35 (by decide) 37 rfl ?_
        exact hR _ hf _ _ dX8_put_37 rfl
    · replace hf := it_n h6 hf
      refine v_bipush (v := (-11 : Int32)) hX dX8_put_20 (by decide) 22 rfl ?_
      exact hR _ hf _ _ dX8_put_22 rfl
  · replace hf := it_p h7 hf
    refine v_iconst (v := (-1 : Int32)) hX dX8_put_7 (by decide) 8 rfl ?_
    exact hR _ hf _ _ dX8_put_8 rfl
set_option maxRecDepth 100000 in
set_option maxHeartbeats 4000000 in
theorem c8_rate (r : Nat → Int32) (g : Nat → Nat → Int32) (u : Nat → Int64) (h : Nat → Nat → Int64) (p1 : Int32) {res : Int32} (hf : f8_rate (r 1) (g 10) (g 9) p1 = some res) : MAi yX8_rate cX8_rate 5 (some .int) 2 (fun a => [.ref (a 0), .int p1]) r g u h res r g u h := by
  refine mi_i (by decide +kernel) (fun a => Nat.le_of_ble_eq_true rfl) (fun X hX hn hR => ?_)
  replace hR : ∀ q : Int32, some q = some res → ∀ lv pc, decode cX8_rate pc = .ok (.ireturn, 1) → narrow .int (.int q) = .int q → VC X r g u h lv [.int q] pc := fun q hq => by cases hq; exact hR
  replace hX : CX X RX8 cX8_rate 2 := hX
  show VC X r g u h [(0, .ref (aX X 0)), (1, .int p1)] [] 0
  rw [f8_rate] at hf
  refine v_iload_n hX dX8_rate_0 rfl 1 rfl 1 rfl ?_
  refine v_if_lt hX dX8_rate_1 9 rfl 4 rfl (fun h19 => ?_) (fun h19 => ?_)
  · replace hf := it_p h19 hf
    refine v_iconst (v := (-1 : Int32)) hX dX8_rate_9 (by decide) 10 rfl ?_
    exact hR _ hf _ _ dX8_rate_10 rfl
  · replace hf := it_n h19 hf
    refine v_iload_n hX dX8_rate_4 rfl 1 rfl 5 rfl ?_
    refine v_iconst (v := (1 : Int32)) hX dX8_rate_5 (by decide) 6 rfl ?_
    refine v_icmp_le hX dX8_rate_6 11 rfl 9 rfl (fun h18 => ?_) (fun h18 => ?_)
    · replace hf := it_p h18 hf
      refine v_iconst (v := (0 : Int32)) hX dX8_rate_11 (by decide) 12 rfl ?_
      refine v_istore_n hX dX8_rate_12 rfl (ltn hn (by decide)) 13 rfl [(2, .int (0 : Int32)), (0, .ref (aX X 0)), (1, .int p1)] rfl ?_
      refine v_iconst (v := (0 : Int32)) hX dX8_rate_13 (by decide) 14 rfl ?_
      refine v_istore_n hX dX8_rate_14 rfl (ltn hn (by decide)) 15 rfl [(3, .int (0 : Int32)), (2, .int (0 : Int32)), (0, .ref (aX X 0)), (1, .int p1)] rfl ?_
      refine v_iconst (v := (0 : Int32)) hX dX8_rate_15 (by decide) 16 rfl ?_
      refine v_istore hX dX8_rate_16 (ltn hn (by decide)) 18 rfl [(4, .int (0 : Int32)), (3, .int (0 : Int32)), (2, .int (0 : Int32)), (0, .ref (aX X 0)), (1, .int p1)] rfl ?_
      obtain ⟨K4, hK4, hf⟩ := jn_x hf
      have HK4 : ∀ (x1 : Int32) (x2 : Int32) (x3 : Int32), K4 x1 x2 x3 = some res → VC X r g u h [(1, .int p1), (2, .int x1), (3, .int x2)] [] 87 := by
        intro x1 x2 x3 hf
        rw [hK4] at hf
        refine v_iload_n hX dX8_rate_87 rfl 1 rfl 88 rfl ?_
        refine v_if_ne hX dX8_rate_88 94 rfl 91 rfl (fun h17 => ?_) (fun h17 => ?_)
        · replace hf := it_n h17 hf
          refine v_iload_n hX dX8_rate_94 rfl 2 rfl 95 rfl ?_
          refine v_i2l hX dX8_rate_95 96 rfl ?_
          refine v_iload_n hX dX8_rate_96 rfl 1 rfl 97 rfl ?_
          refine v_i2l hX dX8_rate_97 98 rfl ?_
          refine v_iload_n hX dX8_rate_98 rfl 0 rfl 99 rfl ?_
          obtain ⟨v16, hv16, hf⟩ := bn1_e hf
          refine cs_l hX (c2_part r g u h _ _ _ hv16) wvX2_part q_788 (Nat.le_of_ble_eq_true rfl) (Nat.le_of_ble_eq_true rfl) (fun _ => rfl) [] rfl (Nat.le_of_ble_eq_true rfl) dX8_rate_99 102 rfl ?_
          refine v_l2i hX dX8_rate_102 103 rfl ?_
          exact hR _ hf _ _ dX8_rate_103 rfl
        · replace hf := it_p h17 hf
          refine v_bipush (v := (-3 : Int32)) hX dX8_rate_91 (by decide) 93 rfl ?_
          exact hR _ hf _ _ dX8_rate_93 rfl
      have HLK4 : ∀ (n5 : Nat) (x1 : Int32) (x2 : Int32) (x3 : Int32), f8_rate_L18 (r 1) (g 10) (g 9) n5 x1 x2 x3 K4 = some res → VC X r g u h [(0, .ref (aX X 0)), (1, .int p1), (2, .int x1), (3, .int x2), (4, .int x3)] [] 18 := by
        intro n5
        induction n5 with
        | zero => intro x1 x2 x3 hf; exact no_s hf
        | succ n5 ih =>
          intro x1 x2 x3 hf
          rw [f8_rate_L18] at hf
          refine v_iload hX dX8_rate_18 4 rfl 20 rfl ?_
          refine v_aload_n hX dX8_rate_20 rfl 0 rfl 21 rfl ?_
          refine gf_0_0 hX q_16 dX8_rate_21 24 rfl ?_
          refine gf_1_6 hX q_498 dX8_rate_24 ((r 1)) rfl 27 rfl ?_
          refine v_icmp_ge hX dX8_rate_27 87 rfl 30 rfl (fun h15 => ?_) (fun h15 => ?_)
          · replace hf := it_p h15 hf
            refine v_sub [(1, .int p1), (2, .int x1), (3, .int x2)] (sbc 1 rfl (sbc 2 rfl (sbc 3 rfl sbn))) ?_
            exact HK4 _ _ _ hf
          · replace hf := it_n h15 hf
            refine v_aload_n hX dX8_rate_30 rfl 0 rfl 31 rfl ?_
            refine gf_0_0 hX q_16 dX8_rate_31 34 rfl ?_
            refine gf_1_9 hX q_890 dX8_rate_34 37 rfl ?_
            refine v_iload hX dX8_rate_37 4 rfl 39 rfl ?_
            obtain ⟨hi6, hf⟩ := gd_e hf
            refine al_9 hX hi6 dX8_rate_39 ((g 9) x3.toNatClampNeg) rfl 40 rfl ?_
            refine v_bipush (v := (-9 : Int32)) hX dX8_rate_40 (by decide) 42 rfl ?_
            obtain ⟨J7, hJ7, hf⟩ := jn_x hf
            have HJ7 : ∀ (y8 : Int32) (y9 : Int32), J7 y8 y9 = some res → VC X r g u h [(0, .ref (aX X 0)), (1, .int p1), (2, .int y8), (3, .int y9), (4, .int x3)] [] 81 := by
              intro y8 y9 hf
              rw [hJ7] at hf
              refine v_inc (c := (1 : Int32)) hX dX8_rate_81 4 rfl (by decide) (ltn hn (by decide)) 84 rfl [(4, .int (x3 + (1 : Int32))), (0, .ref (aX X 0)), (1, .int p1), (2, .int y8), (3, .int y9)] rfl ?_
              refine v_goto hX dX8_rate_84 18 rfl ?_
              refine v_sub [(0, .ref (aX X 0)), (1, .int p1), (2, .int y8), (3, .int y9), (4, .int (x3 + (1 : Int32)))] (sbc 1 rfl (sbc 2 rfl (sbc 3 rfl (sbc 4 rfl (sbc 0 rfl sbn))))) ?_
              exact ih _ _ _ hf
            refine v_icmp_eq hX dX8_rate_42 81 rfl 45 rfl (fun h14 => ?_) (fun h14 => ?_)
            · replace hf := it_p h14 hf
              exact HJ7 _ _ hf
            · replace hf := it_n h14 hf
              refine v_aload_n hX dX8_rate_45 rfl 0 rfl 46 rfl ?_
              refine gf_0_0 hX q_16 dX8_rate_46 49 rfl ?_
              refine gf_1_10 hX q_891 dX8_rate_49 52 rfl ?_
              refine v_iload hX dX8_rate_52 4 rfl 54 rfl ?_
              obtain ⟨hi10, hf⟩ := gd_e hf
              refine al_10 hX hi10 dX8_rate_54 ((g 10) x3.toNatClampNeg) rfl 55 rfl ?_
              refine v_if_ne hX dX8_rate_55 61 rfl 58 rfl (fun h13 => ?_) (fun h13 => ?_)
              · replace hf := it_n h13 hf
                refine v_inc (c := (1 : Int32)) hX dX8_rate_61 2 rfl (by decide) (ltn hn (by decide)) 64 rfl [(2, .int (x1 + (1 : Int32))), (0, .ref (aX X 0)), (1, .int p1), (3, .int x2), (4, .int x3)] rfl ?_
                refine v_aload_n hX dX8_rate_64 rfl 1 rfl 65 rfl ?_
                refine gf_0_0 hX q_16 dX8_rate_65 68 rfl ?_
                refine gf_1_9 hX q_890 dX8_rate_68 71 rfl ?_
                refine v_iload hX dX8_rate_71 4 rfl 73 rfl ?_
                obtain ⟨hi11, hf⟩ := gd_e hf
                refine al_9 hX hi11 dX8_rate_73 ((g 9) x3.toNatClampNeg) rfl 74 rfl ?_
                refine v_iconst (v := (1 : Int32)) hX dX8_rate_74 (by decide) 75 rfl ?_
                refine v_icmp_ne hX dX8_rate_75 81 rfl 78 rfl (fun h12 => ?_) (fun h12 => ?_)
                · replace hf := it_n h12 hf
                  refine v_sub [(0, .ref (aX X 0)), (1, .int p1), (2, .int (x1 + (1 : Int32))), (3, .int x2), (4, .int x3)] (sbc 1 rfl (sbc 2 rfl (sbc 0 rfl (sbc 3 rfl (sbc 4 rfl sbn))))) ?_
                  exact HJ7 _ _ hf
                · replace hf := it_p h12 hf
                  refine v_inc (c := (1 : Int32)) hX dX8_rate_78 3 rfl (by decide) (ltn hn (by decide)) 81 rfl [(3, .int (x2 + (1 : Int32))), (2, .int (x1 + (1 : Int32))), (0, .ref (aX X 0)), (1, .int p1), (4, .int x3)] rfl ?_
                  refine v_sub [(0, .ref (aX X 0)), (1, .int p1), (2, .int (x1 + (1 : Int32))), (3, .int (x2 + (1 : Int32))), (4, .int x3)] (sbc 2 rfl (sbc 3 rfl (sbc 1 rfl (sbc 0 rfl (sbc 4 rfl sbn))))) ?_
                  exact HJ7 _ _ hf
              · replace hf := it_p h13 hf
                refine v_goto hX dX8_rate_58 81 rfl ?_
                exact HJ7 _ _ hf
      refine v_sub [(0, .ref (aX X 0)), (1, .int p1), (2, .int (0 : Int32)), (3, .int (0 : Int32)), (4, .int (0 : Int32))] (sbc 3 rfl (sbc 4 rfl (sbc 2 rfl (sbc 1 rfl (sbc 0 rfl sbn))))) ?_
      exact HLK4 _ _ _ _ hf
    · replace hf := it_n h18 hf
      refine v_iconst (v := (-1 : Int32)) hX dX8_rate_9 (by decide) 10 rfl ?_
      exact hR _ hf _ _ dX8_rate_10 rfl
set_option maxRecDepth 100000 in
set_option maxHeartbeats 4000000 in
theorem c8_asks (r : Nat → Int32) (g : Nat → Nat → Int32) (u : Nat → Int64) (h : Nat → Nat → Int64) (p1 : Int32) {res : Int32 × Int32 × Int32 × (Nat → Int32) × (Nat → Int32)} (hf : f8_asks (r 1) (r 0) (r 5) (r 2) (r 4) (g 7) (g 5) (g 3) (g 6) (g 12) (g 13) (g 8) (g 51) p1 = some res) : MAi yX8_asks cX8_asks 2 (some .boolean) 5 (fun a => [.ref (a 0), .int p1]) r g u h res.1 (lkp r [(5, res.2.1), (4, res.2.2.1)]) (lkp g [(13, res.2.2.2.1), (51, res.2.2.2.2)]) u h := by
  refine mi_i (by decide +kernel) (fun a => Nat.le_of_ble_eq_true rfl) (fun X hX hn hR => ?_)
  replace hR : ∀ q : Int32 × Int32 × Int32 × (Nat → Int32) × (Nat → Int32), some q = some res → ∀ lv pc, decode cX8_asks pc = .ok (.ireturn, 1) → narrow .boolean (.int q.1) = .int q.1 → VC X (lkp r [(5, q.2.1), (4, q.2.2.1)]) (lkp g [(13, q.2.2.2.1), (51, q.2.2.2.2)]) u h lv [.int q.1] pc := fun q hq => by cases hq; exact hR
  replace hX : CX X RX8 cX8_asks 5 := hX
  refine v_opr [5, 4] [(5, r 5), (4, r 4)] rfl ?_
  refine v_opg [13, 51] [(13, g 13), (51, g 51)] rfl ?_
  show VC X (lkp r [(5, r 5), (4, r 4)]) (lkp g [(13, g 13), (51, g 51)]) u h [(0, .ref (aX X 0)), (1, .int p1)] [] 0
  rw [f8_asks] at hf
  refine v_aload_n hX dX8_asks_0 rfl 0 rfl 1 rfl ?_
  refine gf_0_9 hX q_41 dX8_asks_1 4 rfl ?_
  refine v_iconst (v := (0 : Int32)) hX dX8_asks_4 (by decide) 5 rfl ?_
  refine v_aload_n hX dX8_asks_5 rfl 0 rfl 6 rfl ?_
  refine gf_0_0 hX q_16 dX8_asks_6 9 rfl ?_
  refine v_iload_n hX dX8_asks_9 rfl 1 rfl 10 rfl ?_
  refine v_iconst (v := (4 : Int32)) hX dX8_asks_10 (by decide) 11 rfl ?_
  obtain ⟨v1, hv1, hf⟩ := bn1_e hf
  refine cv_i hX (c0_fact (lkp r [(5, (r 5)), (4, (r 4))]) (lkp g [(13, (g 13)), (51, (g 51))]) u h _ _ hv1) wvX0_fact q_515 rc_1 (Nat.le_of_ble_eq_true rfl) (Nat.le_of_ble_eq_true rfl) (fun _ => rfl) [.int (0 : Int32), .ref (aX X 51)] rfl (Nat.le_of_ble_eq_true rfl) dX8_asks_11 14 rfl ?_
  obtain ⟨hi2, hf⟩ := gd_e hf
  refine as_51 hX hi2 dX8_asks_14 15 rfl (g 51) rfl [(13, (g 13)), (51, (upd (g 51) (0 : Int32).toNatClampNeg v1))] rfl ?_
  refine v_aload_n hX dX8_asks_15 rfl 0 rfl 16 rfl ?_
  refine gf_0_9 hX q_41 dX8_asks_16 19 rfl ?_
  refine v_iconst (v := (1 : Int32)) hX dX8_asks_19 (by decide) 20 rfl ?_
  refine v_aload_n hX dX8_asks_20 rfl 0 rfl 21 rfl ?_
  refine gf_0_0 hX q_16 dX8_asks_21 24 rfl ?_
  refine v_iload_n hX dX8_asks_24 rfl 1 rfl 25 rfl ?_
  refine v_iconst (v := (1 : Int32)) hX dX8_asks_25 (by decide) 26 rfl ?_
  obtain ⟨v3, hv3, hf⟩ := bn1_e hf
  refine cv_i hX (c0_fact (lkp r [(5, (r 5)), (4, (r 4))]) (lkp g [(13, (g 13)), (51, (upd (g 51) (0 : Int32).toNatClampNeg v1))]) u h _ _ hv3) wvX0_fact q_515 rc_1 (Nat.le_of_ble_eq_true rfl) (Nat.le_of_ble_eq_true rfl) (fun _ => rfl) [.int (1 : Int32), .ref (aX X 51)] rfl (Nat.le_of_ble_eq_true rfl) dX8_asks_26 29 rfl ?_
  obtain ⟨hi4, hf⟩ := gd_e hf
  refine as_51 hX hi4 dX8_asks_29 30 rfl (upd (g 51) (0 : Int32).toNatClampNeg v1) rfl [(13, (g 13)), (51, (upd (upd (g 51) (0 : Int32).toNatClampNeg v1) (1 : Int32).toNatClampNeg v3))] rfl ?_
  refine v_aload_n hX dX8_asks_30 rfl 0 rfl 31 rfl ?_
  refine gf_0_9 hX q_41 dX8_asks_31 34 rfl ?_
  refine v_iconst (v := (2 : Int32)) hX dX8_asks_34 (by decide) 35 rfl ?_
  refine v_aload_n hX dX8_asks_35 rfl 0 rfl 36 rfl ?_
  refine gf_0_0 hX q_16 dX8_asks_36 39 rfl ?_
  refine v_iload_n hX dX8_asks_39 rfl 1 rfl 40 rfl ?_
  obtain ⟨v5, hv5, hf⟩ := bn1_e hf
  refine cv_i hX (c0_seated (lkp r [(5, (r 5)), (4, (r 4))]) (lkp g [(13, (g 13)), (51, (upd (upd (g 51) (0 : Int32).toNatClampNeg v1) (1 : Int32).toNatClampNeg v3))]) u h _ hv5) wvX0_seated q_850 rc_1 (Nat.le_of_ble_eq_true rfl) (Nat.le_of_ble_eq_true rfl) (fun _ => rfl) [.int (2 : Int32), .ref (aX X 51)] rfl (Nat.le_of_ble_eq_true rfl) dX8_asks_40 43 rfl ?_
  obtain ⟨hi6, hf⟩ := gd_e hf
  refine as_51 hX hi6 dX8_asks_43 44 rfl (upd (upd (g 51) (0 : Int32).toNatClampNeg v1) (1 : Int32).toNatClampNeg v3) rfl [(13, (g 13)), (51, (upd (upd (upd (g 51) (0 : Int32).toNatClampNeg v1) (1 : Int32).toNatClampNeg v3) (2 : Int32).toNatClampNeg v5))] rfl ?_
  refine v_aload_n hX dX8_asks_44 rfl 0 rfl 45 rfl ?_
  refine gf_0_9 hX q_41 dX8_asks_45 48 rfl ?_
  refine v_iconst (v := (3 : Int32)) hX dX8_asks_48 (by decide) 49 rfl ?_
  refine v_aload_n hX dX8_asks_49 rfl 0 rfl 50 rfl ?_
  refine gf_0_3 hX q_22 dX8_asks_50 53 rfl ?_
  refine v_aload_n hX dX8_asks_53 rfl 0 rfl 54 rfl ?_
  refine gf_0_0 hX q_16 dX8_asks_54 57 rfl ?_
  refine v_iload_n hX dX8_asks_57 rfl 1 rfl 58 rfl ?_
  obtain ⟨v7, hv7, hf⟩ := bn1_e hf
  refine cv_i hX (c7_tiedWith (lkp r [(5, (r 5)), (4, (r 4))]) (lkp g [(13, (g 13)), (51, (upd (upd (upd (g 51) (0 : Int32).toNatClampNeg v1) (1 : Int32).toNatClampNeg v3) (2 : Int32).toNatClampNeg v5))]) u h _ hv7) wvX7_tiedWith q_594 rc_27 (Nat.le_of_ble_eq_true rfl) (Nat.le_of_ble_eq_true rfl) (fun _ => rfl) [.int (3 : Int32), .ref (aX X 51)] rfl (Nat.le_of_ble_eq_true rfl) dX8_asks_58 61 rfl ?_
  obtain ⟨v8, hv8, hf⟩ := bn1_e hf
  refine cs_i hX (ctJ6_bitCount_0f7a4 (lkp r [(5, (r 5)), (4, (r 4))]) (lkp g [(13, (g 13)), (51, (upd (upd (upd (g 51) (0 : Int32).toNatClampNeg v1) (1 : Int32).toNatClampNeg v3) (2 : Int32).toNatClampNeg v5))]) u h _ hv8) wvJ6_bitCount_0f7a4 q_851 (Nat.le_of_ble_eq_true rfl) (Nat.le_of_ble_eq_true rfl) (fun _ => rfl) [.int (3 : Int32), .ref (aX X 51)] rfl (Nat.le_of_ble_eq_true rfl) dX8_asks_61 64 rfl ?_
  obtain ⟨hi9, hf⟩ := gd_e hf
  refine as_51 hX hi9 dX8_asks_64 65 rfl (upd (upd (upd (g 51) (0 : Int32).toNatClampNeg v1) (1 : Int32).toNatClampNeg v3) (2 : Int32).toNatClampNeg v5) rfl [(13, (g 13)), (51, (upd (upd (upd (upd (g 51) (0 : Int32).toNatClampNeg v1) (1 : Int32).toNatClampNeg v3) (2 : Int32).toNatClampNeg v5) (3 : Int32).toNatClampNeg v8))] rfl ?_
  refine v_aload_n hX dX8_asks_65 rfl 0 rfl 66 rfl ?_
  refine gf_0_9 hX q_41 dX8_asks_66 69 rfl ?_
  refine v_iconst (v := (4 : Int32)) hX dX8_asks_69 (by decide) 70 rfl ?_
  refine v_aload_n hX dX8_asks_70 rfl 0 rfl 71 rfl ?_
  refine gf_0_0 hX q_16 dX8_asks_71 74 rfl ?_
  refine v_iload_n hX dX8_asks_74 rfl 1 rfl 75 rfl ?_
  refine v_iconst (v := (3 : Int32)) hX dX8_asks_75 (by decide) 76 rfl ?_
  obtain ⟨v10, hv10, hf⟩ := bn1_e hf
  refine cv_i hX (c0_fact (lkp r [(5, (r 5)), (4, (r 4))]) (lkp g [(13, (g 13)), (51, (upd (upd (upd (upd (g 51) (0 : Int32).toNatClampNeg v1) (1 : Int32).toNatClampNeg v3) (2 : Int32).toNatClampNeg v5) (3 : Int32).toNatClampNeg v8))]) u h _ _ hv10) wvX0_fact q_515 rc_1 (Nat.le_of_ble_eq_true rfl) (Nat.le_of_ble_eq_true rfl) (fun _ => rfl) [.int (4 : Int32), .ref (aX X 51)] rfl (Nat.le_of_ble_eq_true rfl) dX8_asks_76 79 rfl ?_
  obtain ⟨hi11, hf⟩ := gd_e hf
  refine as_51 hX hi11 dX8_asks_79 80 rfl (upd (upd (upd (upd (g 51) (0 : Int32).toNatClampNeg v1) (1 : Int32).toNatClampNeg v3) (2 : Int32).toNatClampNeg v5) (3 : Int32).toNatClampNeg v8) rfl [(13, (g 13)), (51, (upd (upd (upd (upd (upd (g 51) (0 : Int32).toNatClampNeg v1) (1 : Int32).toNatClampNeg v3) (2 : Int32).toNatClampNeg v5) (3 : Int32).toNatClampNeg v8) (4 : Int32).toNatClampNeg v10))] rfl ?_
  refine v_aload_n hX dX8_asks_80 rfl 0 rfl 81 rfl ?_
  refine gf_0_9 hX q_41 dX8_asks_81 84 rfl ?_
  refine v_iconst (v := (5 : Int32)) hX dX8_asks_84 (by decide) 85 rfl ?_
  refine v_aload_n hX dX8_asks_85 rfl 0 rfl 86 rfl ?_
  refine gf_0_0 hX q_16 dX8_asks_86 89 rfl ?_
  refine v_iload_n hX dX8_asks_89 rfl 1 rfl 90 rfl ?_
  refine v_iconst (v := (0 : Int32)) hX dX8_asks_90 (by decide) 91 rfl ?_
  obtain ⟨v12, hv12, hf⟩ := bn1_e hf
  refine cv_i hX (c0_fact (lkp r [(5, (r 5)), (4, (r 4))]) (lkp g [(13, (g 13)), (51, (upd (upd (upd (upd (upd (g 51) (0 : Int32).toNatClampNeg v1) (1 : Int32).toNatClampNeg v3) (2 : Int32).toNatClampNeg v5) (3 : Int32).toNatClampNeg v8) (4 : Int32).toNatClampNeg v10))]) u h _ _ hv12) wvX0_fact q_515 rc_1 (Nat.le_of_ble_eq_true rfl) (Nat.le_of_ble_eq_true rfl) (fun _ => rfl) [.int (5 : Int32), .ref (aX X 51)] rfl (Nat.le_of_ble_eq_true rfl) dX8_asks_91 94 rfl ?_
  obtain ⟨hi13, hf⟩ := gd_e hf
  refine as_51 hX hi13 dX8_asks_94 95 rfl (upd (upd (upd (upd (upd (g 51) (0 : Int32).toNatClampNeg v1) (1 : Int32).toNatClampNeg v3) (2 : Int32).toNatClampNeg v5) (3 : Int32).toNatClampNeg v8) (4 : Int32).toNatClampNeg v10) rfl [(13, (g 13)), (51, (upd (upd (upd (upd (upd (upd (g 51) (0 : Int32).toNatClampNeg v1) (1 : Int32).toNatClampNeg v3) (2 : Int32).toNatClampNeg v5) (3 : Int32).toNatClampNeg v8) (4 : Int32).toNatClampNeg v10) (5 : Int32).toNatClampNeg v12))] rfl ?_
  refine v_aload_n hX dX8_asks_95 rfl 0 rfl 96 rfl ?_
  refine gf_0_0 hX q_16 dX8_asks_96 99 rfl ?_
  refine gf_1_11 hX q_158 dX8_asks_99 102 rfl ?_
  refine v_aload_n hX dX8_asks_102 rfl 0 rfl 103 rfl ?_
  refine gf_0_9 hX q_41 dX8_asks_103 106 rfl ?_
  obtain ⟨v14, c15, c16, c17, hv14, hf⟩ := bn4_e hf
  refine cv_i hX (c6_ask (lkp r [(5, (r 5)), (4, (r 4))]) (lkp g [(13, (g 13)), (51, (upd (upd (upd (upd (upd (upd (g 51) (0 : Int32).toNatClampNeg v1) (1 : Int32).toNatClampNeg v3) (2 : Int32).toNatClampNeg v5) (3 : Int32).toNatClampNeg v8) (4 : Int32).toNatClampNeg v10) (5 : Int32).toNatClampNeg v12))]) u h hv14) wvX6_ask q_852 rc_11 (Nat.le_of_ble_eq_true rfl) (Nat.le_of_ble_eq_true rfl) (fun _ => rfl) [] rfl (Nat.le_of_ble_eq_true rfl) dX8_asks_106 109 rfl ?_
  refine v_mgr [(5, c15), (4, c16)] rfl ?_
  refine v_mgg [(13, c17), (51, (upd (upd (upd (upd (upd (upd (g 51) (0 : Int32).toNatClampNeg v1) (1 : Int32).toNatClampNeg v3) (2 : Int32).toNatClampNeg v5) (3 : Int32).toNatClampNeg v8) (4 : Int32).toNatClampNeg v10) (5 : Int32).toNatClampNeg v12))] rfl ?_
  obtain ⟨hb18, hf⟩ := gd_e hf
  exact hR _ hf _ _ dX8_asks_109 (bz_nar hb18)
set_option maxRecDepth 100000 in
set_option maxHeartbeats 4000000 in
theorem c8_right (r : Nat → Int32) (g : Nat → Nat → Int32) (u : Nat → Int64) (h : Nat → Nat → Int64) (p1 : Int32) {res : Int32 × Int32 × Int32 × (Nat → Int32) × (Nat → Int32)} (hf : f8_right (r 1) (r 0) (r 5) (r 2) (r 4) (g 7) (g 9) (g 5) (g 3) (g 6) (g 12) (g 13) (g 8) (g 51) p1 = some res) : MAi yX8_right cX8_right 5 (some .int) 6 (fun a => [.ref (a 0), .int p1]) r g u h res.1 (lkp r [(5, res.2.1), (4, res.2.2.1)]) (lkp g [(13, res.2.2.2.1), (51, res.2.2.2.2)]) u h := by
  refine mi_i (by decide +kernel) (fun a => Nat.le_of_ble_eq_true rfl) (fun X hX hn hR => ?_)
  replace hR : ∀ q : Int32 × Int32 × Int32 × (Nat → Int32) × (Nat → Int32), some q = some res → ∀ lv pc, decode cX8_right pc = .ok (.ireturn, 1) → narrow .int (.int q.1) = .int q.1 → VC X (lkp r [(5, q.2.1), (4, q.2.2.1)]) (lkp g [(13, q.2.2.2.1), (51, q.2.2.2.2)]) u h lv [.int q.1] pc := fun q hq => by cases hq; exact hR
  replace hX : CX X RX8 cX8_right 6 := hX
  refine v_opr [5, 4] [(5, r 5), (4, r 4)] rfl ?_
  refine v_opg [13, 51] [(13, g 13), (51, g 51)] rfl ?_
  show VC X (lkp r [(5, r 5), (4, r 4)]) (lkp g [(13, g 13), (51, g 51)]) u h [(0, .ref (aX X 0)), (1, .int p1)] [] 0
  rw [f8_right] at hf
  refine v_iload_n hX dX8_right_0 rfl 1 rfl 1 rfl ?_
  refine v_if_lt hX dX8_right_1 9 rfl 4 rfl (fun h32 => ?_) (fun h32 => ?_)
  · replace hf := it_p h32 hf
    refine v_iconst (v := (-1 : Int32)) hX dX8_right_9 (by decide) 10 rfl ?_
    exact hR _ hf _ _ dX8_right_10 rfl
  · replace hf := it_n h32 hf
    refine v_iload_n hX dX8_right_4 rfl 1 rfl 5 rfl ?_
    refine v_iconst (v := (3 : Int32)) hX dX8_right_5 (by decide) 6 rfl ?_
    refine v_icmp_le hX dX8_right_6 11 rfl 9 rfl (fun h31 => ?_) (fun h31 => ?_)
    · replace hf := it_p h31 hf
      refine v_iconst (v := (0 : Int32)) hX dX8_right_11 (by decide) 12 rfl ?_
      refine v_istore_n hX dX8_right_12 rfl (ltn hn (by decide)) 13 rfl [(2, .int (0 : Int32)), (0, .ref (aX X 0)), (1, .int p1)] rfl ?_
      refine v_iconst (v := (0 : Int32)) hX dX8_right_13 (by decide) 14 rfl ?_
      refine v_istore_n hX dX8_right_14 rfl (ltn hn (by decide)) 15 rfl [(3, .int (0 : Int32)), (2, .int (0 : Int32)), (0, .ref (aX X 0)), (1, .int p1)] rfl ?_
      obtain ⟨K7, hK7, hf⟩ := jn_x hf
      have HK7 : ∀ (x1 : Int32) (x2 : Int32) (c3 : Int32) (c4 : Int32) (c5 : (Nat → Int32)) (c6 : (Nat → Int32)), K7 x1 x2 c3 c4 c5 c6 = some res → VC X (lkp r [(5, c3), (4, c4)]) (lkp g [(13, c5), (51, c6)]) u h [(2, .int x1)] [] 92 := by
        intro x1 x2 c3 c4 c5 c6 hf
        rw [hK7] at hf
        refine v_iload_n hX dX8_right_92 rfl 0 rfl 93 rfl ?_
        exact hR _ hf _ _ dX8_right_93 rfl
      have HLK7 : ∀ (n8 : Nat) (x1 : Int32) (x2 : Int32) (c3 : Int32) (c4 : Int32) (c5 : (Nat → Int32)) (c6 : (Nat → Int32)), f8_right_L15 (r 1) (r 0) (r 2) (g 7) (g 9) (g 5) (g 3) (g 6) (g 12) (g 8) p1 n8 x1 x2 c3 c4 c5 c6 K7 = some res → VC X (lkp r [(5, c3), (4, c4)]) (lkp g [(13, c5), (51, c6)]) u h [(0, .ref (aX X 0)), (1, .int p1), (2, .int x1), (3, .int x2)] [] 15 := by
        intro n8
        induction n8 with
        | zero => intro x1 x2 c3 c4 c5 c6 hf; exact no_s hf
        | succ n8 ih =>
          intro x1 x2 c3 c4 c5 c6 hf
          rw [f8_right_L15] at hf
          refine v_iload_n hX dX8_right_15 rfl 3 rfl 16 rfl ?_
          refine v_aload_n hX dX8_right_16 rfl 0 rfl 17 rfl ?_
          refine gf_0_0 hX q_16 dX8_right_17 20 rfl ?_
          refine gf_1_6 hX q_498 dX8_right_20 ((r 1)) rfl 23 rfl ?_
          refine v_icmp_ge hX dX8_right_23 92 rfl 26 rfl (fun h30 => ?_) (fun h30 => ?_)
          · replace hf := it_p h30 hf
            refine v_sub [(2, .int x1)] (sbc 2 rfl sbn) ?_
            exact HK7 _ _ _ _ _ _ hf
          · replace hf := it_n h30 hf
            refine v_aload_n hX dX8_right_26 rfl 0 rfl 27 rfl ?_
            refine gf_0_0 hX q_16 dX8_right_27 30 rfl ?_
            refine gf_1_9 hX q_890 dX8_right_30 33 rfl ?_
            refine v_iload_n hX dX8_right_33 rfl 3 rfl 34 rfl ?_
            obtain ⟨hi9, hf⟩ := gd_e hf
            refine al_9 hX hi9 dX8_right_34 ((g 9) x2.toNatClampNeg) rfl 35 rfl ?_
            refine v_bipush (v := (-9 : Int32)) hX dX8_right_35 (by decide) 37 rfl ?_
            obtain ⟨J10, hJ10, hf⟩ := jn_x hf
            have HJ10 : ∀ (y11 : Int32) (c12 : Int32) (c13 : Int32) (c14 : (Nat → Int32)) (c15 : (Nat → Int32)), J10 y11 c12 c13 c14 c15 = some res → VC X (lkp r [(5, c12), (4, c13)]) (lkp g [(13, c14), (51, c15)]) u h [(0, .ref (aX X 0)), (1, .int p1), (2, .int y11), (3, .int x2)] [] 86 := by
              intro y11 c12 c13 c14 c15 hf
              rw [hJ10] at hf
              refine v_inc (c := (1 : Int32)) hX dX8_right_86 3 rfl (by decide) (ltn hn (by decide)) 89 rfl [(3, .int (x2 + (1 : Int32))), (0, .ref (aX X 0)), (1, .int p1), (2, .int y11)] rfl ?_
              refine v_goto hX dX8_right_89 15 rfl ?_
              refine v_sub [(0, .ref (aX X 0)), (1, .int p1), (2, .int y11), (3, .int (x2 + (1 : Int32)))] (sbc 1 rfl (sbc 2 rfl (sbc 3 rfl (sbc 0 rfl sbn)))) ?_
              exact ih _ _ _ _ _ _ hf
            refine v_icmp_ne hX dX8_right_37 43 rfl 40 rfl (fun h29 => ?_) (fun h29 => ?_)
            · replace hf := it_n h29 hf
              refine v_aload_n hX dX8_right_43 rfl 0 rfl 44 rfl ?_
              refine v_iload_n hX dX8_right_44 rfl 3 rfl 45 rfl ?_
              obtain ⟨v16, c17, c18, c19, c20, hv16, hf⟩ := bn5_e hf
              refine cv_i hX (c8_asks (lkp r [(5, c3), (4, c4)]) (lkp g [(13, c5), (51, c6)]) u h _ hv16) wvX8_asks q_846 rc_0 (Nat.le_of_ble_eq_true rfl) (Nat.le_of_ble_eq_true rfl) (fun _ => rfl) [] rfl (Nat.le_of_ble_eq_true rfl) dX8_right_45 48 rfl ?_
              refine v_mgr [(5, c17), (4, c18)] rfl ?_
              refine v_mgg [(13, c19), (51, c20)] rfl ?_
              obtain ⟨J21, hJ21, hf⟩ := jn_x hf
              have HJ21 : ∀ (s22 : Int32), J21 s22 = some res → VC X (lkp r [(5, c17), (4, c18)]) (lkp g [(13, c19), (51, c20)]) u h [(0, .ref (aX X 0)), (1, .int p1), (2, .int x1), (3, .int x2)] [.int s22] 56 := by
                intro s22 hf
                rw [hJ21] at hf
                refine v_aload_n hX dX8_right_56 rfl 0 rfl 57 rfl ?_
                refine gf_0_0 hX q_16 dX8_right_57 60 rfl ?_
                refine gf_1_9 hX q_890 dX8_right_60 63 rfl ?_
                refine v_iload_n hX dX8_right_63 rfl 3 rfl 64 rfl ?_
                obtain ⟨hi23, hf⟩ := gd_e hf
                refine al_9 hX hi23 dX8_right_64 ((g 9) x2.toNatClampNeg) rfl 65 rfl ?_
                refine v_iconst (v := (1 : Int32)) hX dX8_right_65 (by decide) 66 rfl ?_
                obtain ⟨J24, hJ24, hf⟩ := jn_x hf
                have HJ24 : ∀ (s25 : Int32), J24 s25 = some res → VC X (lkp r [(5, c17), (4, c18)]) (lkp g [(13, c19), (51, c20)]) u h [(0, .ref (aX X 0)), (1, .int p1), (2, .int x1), (3, .int x2)] [.int s25, .int s22] 74 := by
                  intro s25 hf
                  rw [hJ24] at hf
                  refine v_iadd hX dX8_right_74 75 rfl ?_
                  refine v_istore hX dX8_right_75 (ltn hn (by decide)) 77 rfl [(4, .int (s22 + s25)), (0, .ref (aX X 0)), (1, .int p1), (2, .int x1), (3, .int x2)] rfl ?_
                  refine v_iload hX dX8_right_77 0 rfl 79 rfl ?_
                  refine v_iload_n hX dX8_right_79 rfl 2 rfl 80 rfl ?_
                  refine v_icmp_ne hX dX8_right_80 86 rfl 83 rfl (fun h26 => ?_) (fun h26 => ?_)
                  · replace hf := it_n h26 hf
                    refine v_sub [(0, .ref (aX X 0)), (1, .int p1), (2, .int x1), (3, .int x2)] (sbc 1 rfl (sbc 2 rfl (sbc 3 rfl (sbc 4 rfl sbn)))) ?_
                    exact HJ10 _ _ _ _ _ hf
                  · replace hf := it_p h26 hf
                    refine v_inc (c := (1 : Int32)) hX dX8_right_83 3 rfl (by decide) (ltn hn (by decide)) 86 rfl [(2, .int (x1 + (1 : Int32))), (4, .int (s22 + s25)), (0, .ref (aX X 0)), (1, .int p1), (3, .int x2)] rfl ?_
                    refine v_sub [(0, .ref (aX X 0)), (1, .int p1), (2, .int (x1 + (1 : Int32))), (3, .int x2)] (sbc 2 rfl (sbc 3 rfl (sbc 0 rfl (sbc 4 rfl sbn)))) ?_
                    exact HJ10 _ _ _ _ _ hf
                refine v_icmp_ne hX dX8_right_66 73 rfl 69 rfl (fun h27 => ?_) (fun h27 => ?_)
                · replace hf := it_n h27 hf
                  refine v_iconst (v := (1 : Int32)) hX dX8_right_73 (by decide) 74 rfl ?_
                  exact HJ24 _ hf
                · replace hf := it_p h27 hf
                  refine v_iconst (v := (0 : Int32)) hX dX8_right_69 (by decide) 70 rfl ?_
                  refine v_goto hX dX8_right_70 74 rfl ?_
                  exact HJ24 _ hf
              refine v_if_eq hX dX8_right_48 55 rfl 51 rfl (fun h28 => ?_) (fun h28 => ?_)
              · replace hf := it_p h28 hf
                refine v_iconst (v := (2 : Int32)) hX dX8_right_55 (by decide) 56 rfl ?_
                exact HJ21 _ hf
              · replace hf := it_n h28 hf
                refine v_iconst (v := (0 : Int32)) hX dX8_right_51 (by decide) 52 rfl ?_
                refine v_goto hX dX8_right_52 56 rfl ?_
                exact HJ21 _ hf
            · replace hf := it_p h29 hf
              refine v_goto hX dX8_right_40 86 rfl ?_
              exact HJ10 _ _ _ _ _ hf
      refine v_sub [(0, .ref (aX X 0)), (1, .int p1), (2, .int (0 : Int32)), (3, .int (0 : Int32))] (sbc 2 rfl (sbc 3 rfl (sbc 1 rfl (sbc 0 rfl sbn)))) ?_
      exact HLK7 _ _ _ _ _ _ _ hf
    · replace hf := it_n h31 hf
      refine v_iconst (v := (-1 : Int32)) hX dX8_right_9 (by decide) 10 rfl ?_
      exact hR _ hf _ _ dX8_right_10 rfl
set_option maxRecDepth 100000 in
set_option maxHeartbeats 4000000 in
theorem c8_row (r : Nat → Int32) (g : Nat → Nat → Int32) (u : Nat → Int64) (h : Nat → Nat → Int64) (p1 : Int32) (p2 : Int32) {res : Int32} (hf : f8_row (r 23) (g 40) p1 p2 = some res) : MAi yX8_row cX8_row 3 (some .int) 2 (fun a => [.ref (a 0), .int p1, .int p2]) r g u h res r g u h := by
  refine mi_i (by decide +kernel) (fun a => Nat.le_of_ble_eq_true rfl) (fun X hX hn hR => ?_)
  replace hR : ∀ q : Int32, some q = some res → ∀ lv pc, decode cX8_row pc = .ok (.ireturn, 1) → narrow .int (.int q) = .int q → VC X r g u h lv [.int q] pc := fun q hq => by cases hq; exact hR
  replace hX : CX X RX8 cX8_row 2 := hX
  show VC X r g u h [(0, .ref (aX X 0)), (1, .int p1), (2, .int p2)] [] 0
  rw [f8_row] at hf
  refine v_aload_n hX dX8_row_0 rfl 0 rfl 1 rfl ?_
  refine gf_0_5 hX q_30 dX8_row_1 4 rfl ?_
  refine v_iload_n hX dX8_row_4 rfl 1 rfl 5 rfl ?_
  refine v_iload_n hX dX8_row_5 rfl 2 rfl 6 rfl ?_
  obtain ⟨v1, hv1, hf⟩ := bn1_e hf
  refine cv_i hX (c5_holds_t39 r g u h _ _ hv1) wvX5_holds q_969 rc_39 (Nat.le_of_ble_eq_true rfl) (Nat.le_of_ble_eq_true rfl) (fun _ => rfl) [] rfl (Nat.le_of_ble_eq_true rfl) dX8_row_6 9 rfl ?_
  refine v_if_ne hX dX8_row_9 15 rfl 12 rfl (fun h3 => ?_) (fun h3 => ?_)
  · replace hf := it_n h3 hf
    refine v_aload_n hX dX8_row_15 rfl 0 rfl 16 rfl ?_
    refine gf_0_5 hX q_30 dX8_row_16 19 rfl ?_
    refine v_iload_n hX dX8_row_19 rfl 1 rfl 20 rfl ?_
    refine v_iload_n hX dX8_row_20 rfl 2 rfl 21 rfl ?_
    obtain ⟨v2, hv2, hf⟩ := bn1_e hf
    refine cv_i hX (c5_entry_t39 r g u h _ _ hv2) wvX5_entry q_973 rc_39 (Nat.le_of_ble_eq_true rfl) (Nat.le_of_ble_eq_true rfl) (fun _ => rfl) [] rfl (Nat.le_of_ble_eq_true rfl) dX8_row_21 24 rfl ?_
    exact hR _ hf _ _ dX8_row_24 rfl
  · replace hf := it_p h3 hf
    refine v_bipush (v := (-9 : Int32)) hX dX8_row_12 (by decide) 14 rfl ?_
    exact hR _ hf _ _ dX8_row_14 rfl
set_option maxRecDepth 100000 in
set_option maxHeartbeats 4000000 in
theorem c8_rules (r : Nat → Int32) (g : Nat → Nat → Int32) (u : Nat → Int64) (h : Nat → Nat → Int64)  {res : Int32 × Int32 × Int32 × Int32 × Int32 × Int32 × Int32 × Int32 × Int32 × (Nat → Int32) × (Nat → Int32) × (Nat → Int32) × (Nat → Int32)} (hf : f8_rules (r 3) (r 2) (r 17) (r 16) (r 19) (r 18) (r 22) (r 15) (g 12) (g 37) (g 35) (g 33) (g 34) = some res) : MAi yX8_rules cX8_rules 2 (some .int) 53 (fun a => [.ref (a 0)]) r g u h res.1 (lkp r [(3, res.2.1), (2, res.2.2.1), (17, res.2.2.2.1), (16, res.2.2.2.2.1), (19, res.2.2.2.2.2.1), (18, res.2.2.2.2.2.2.1), (22, res.2.2.2.2.2.2.2.1), (15, res.2.2.2.2.2.2.2.2.1)]) (lkp g [(12, res.2.2.2.2.2.2.2.2.2.1), (37, res.2.2.2.2.2.2.2.2.2.2.1), (35, res.2.2.2.2.2.2.2.2.2.2.2.1), (34, res.2.2.2.2.2.2.2.2.2.2.2.2)]) u h := by
  refine mi_i (by decide +kernel) (fun a => Nat.le_of_ble_eq_true rfl) (fun X hX hn hR => ?_)
  replace hR : ∀ q : Int32 × Int32 × Int32 × Int32 × Int32 × Int32 × Int32 × Int32 × Int32 × (Nat → Int32) × (Nat → Int32) × (Nat → Int32) × (Nat → Int32), some q = some res → ∀ lv pc, decode cX8_rules pc = .ok (.ireturn, 1) → narrow .int (.int q.1) = .int q.1 → VC X (lkp r [(3, q.2.1), (2, q.2.2.1), (17, q.2.2.2.1), (16, q.2.2.2.2.1), (19, q.2.2.2.2.2.1), (18, q.2.2.2.2.2.2.1), (22, q.2.2.2.2.2.2.2.1), (15, q.2.2.2.2.2.2.2.2.1)]) (lkp g [(12, q.2.2.2.2.2.2.2.2.2.1), (37, q.2.2.2.2.2.2.2.2.2.2.1), (35, q.2.2.2.2.2.2.2.2.2.2.2.1), (34, q.2.2.2.2.2.2.2.2.2.2.2.2)]) u h lv [.int q.1] pc := fun q hq => by cases hq; exact hR
  replace hX : CX X RX8 cX8_rules 53 := hX
  refine v_opr [3, 2, 17, 16, 19, 18, 22, 15] [(3, r 3), (2, r 2), (17, r 17), (16, r 16), (19, r 19), (18, r 18), (22, r 22), (15, r 15)] rfl ?_
  refine v_opg [12, 37, 35, 34] [(12, g 12), (37, g 37), (35, g 35), (34, g 34)] rfl ?_
  show VC X (lkp r [(3, r 3), (2, r 2), (17, r 17), (16, r 16), (19, r 19), (18, r 18), (22, r 22), (15, r 15)]) (lkp g [(12, g 12), (37, g 37), (35, g 35), (34, g 34)]) u h [(0, .ref (aX X 0))] [] 0
  rw [f8_rules] at hf
  refine v_aload_n hX dX8_rules_0 rfl 0 rfl 1 rfl ?_
  refine gf_0_4 hX q_26 dX8_rules_1 4 rfl ?_
  obtain ⟨v1, c2, c3, c4, c5, c6, c7, c8, c9, hv1, hf⟩ := bn9_e hf
  refine cv_i hX (c4_readText (lkp r [(3, (r 3)), (2, (r 2)), (17, (r 17)), (16, (r 16)), (19, (r 19)), (18, (r 18)), (22, (r 22)), (15, (r 15))]) (lkp g [(12, (g 12)), (37, (g 37)), (35, (g 35)), (34, (g 34))]) u h hv1) wvX4_readText q_161 rc_32 (Nat.le_of_ble_eq_true rfl) (Nat.le_of_ble_eq_true rfl) (fun _ => rfl) [] rfl (Nat.le_of_ble_eq_true rfl) dX8_rules_4 7 rfl ?_
  refine v_mgr [(3, (r 3)), (2, (r 2)), (17, c2), (16, c3), (19, c4), (18, c5), (22, c6), (15, (r 15))] rfl ?_
  refine v_mgg [(12, (g 12)), (37, c7), (35, c8), (34, c9)] rfl ?_
  refine v_istore_n hX dX8_rules_7 rfl (ltn hn (by decide)) 8 rfl [(1, .int v1), (0, .ref (aX X 0))] rfl ?_
  refine v_aload_n hX dX8_rules_8 rfl 1 rfl 9 rfl ?_
  refine gf_0_4 hX q_26 dX8_rules_9 12 rfl ?_
  refine v_iconst (v := (0 : Int32)) hX dX8_rules_12 (by decide) 13 rfl ?_
  refine pf_32_1 hX q_138 dX8_rules_13 16 rfl [(3, (r 3)), (2, (r 2)), (17, c2), (16, c3), (19, c4), (18, c5), (22, c6), (15, (0 : Int32))] rfl ?_
  refine v_iload_n hX dX8_rules_16 rfl 0 rfl 17 rfl ?_
  refine v_if_ne hX dX8_rules_17 31 rfl 20 rfl (fun h13 => ?_) (fun h13 => ?_)
  · replace hf := it_n h13 hf
    refine v_aload_n hX dX8_rules_31 rfl 1 rfl 32 rfl ?_
    refine gf_0_0 hX q_16 dX8_rules_32 35 rfl ?_
    refine gf_1_11 hX q_158 dX8_rules_35 38 rfl ?_
    refine v_aload_n hX dX8_rules_38 rfl 1 rfl 39 rfl ?_
    refine gf_0_4 hX q_26 dX8_rules_39 42 rfl ?_
    refine gf_32_6 hX q_159 dX8_rules_42 45 rfl ?_
    obtain ⟨c10, c11, c12, hc10, hf⟩ := bn3_e hf
    refine cv_v hX (c6_copyFrom_t11_a36 (lkp r [(3, (r 3)), (2, (r 2)), (17, c2), (16, c3), (19, c4), (18, c5), (22, c6), (15, (0 : Int32))]) (lkp g [(12, (g 12)), (37, c7), (35, c8), (34, c9)]) u h hc10) wvX6_copyFrom q_291 rc_11 (Nat.le_of_ble_eq_true rfl) (Nat.le_of_ble_eq_true rfl) (fun _ => rfl) [] rfl (Nat.le_of_ble_eq_true rfl) dX8_rules_45 48 rfl ?_
    refine v_mgr [(3, c10), (2, c11), (17, c2), (16, c3), (19, c4), (18, c5), (22, c6), (15, (0 : Int32))] rfl ?_
    refine v_mgg [(12, c12), (37, c7), (35, c8), (34, c9)] rfl ?_
    refine v_aload_n hX dX8_rules_48 rfl 1 rfl 49 rfl ?_
    refine gf_0_0 hX q_16 dX8_rules_49 52 rfl ?_
    refine gf_1_11 hX q_158 dX8_rules_52 55 rfl ?_
    refine gf_11_3 hX q_160 dX8_rules_55 (c10) rfl 58 rfl ?_
    exact hR _ hf _ _ dX8_rules_58 rfl
  · replace hf := it_p h13 hf
    refine v_bipush (v := (-100 : Int32)) hX dX8_rules_20 (by decide) 22 rfl ?_
    refine v_aload_n hX dX8_rules_22 rfl 1 rfl 23 rfl ?_
    refine gf_0_4 hX q_26 dX8_rules_23 26 rfl ?_
    refine gf_32_7 hX q_157 dX8_rules_26 (c6) rfl 29 rfl ?_
    refine v_isub hX dX8_rules_29 30 rfl ?_
    exact hR _ hf _ _ dX8_rules_30 rfl
set_option maxRecDepth 100000 in
set_option maxHeartbeats 4000000 in
theorem c8_says (r : Nat → Int32) (g : Nat → Nat → Int32) (u : Nat → Int64) (h : Nat → Nat → Int64) (p1 : Int32) {res : Int32 × Int32 × Int32 × (Nat → Int32) × (Nat → Int32)} (hf : f8_says (r 1) (r 0) (r 5) (r 2) (r 4) (g 7) (g 5) (g 3) (g 6) (g 12) (g 13) (g 8) (g 51) p1 = some res) : MAi yX8_says cX8_says 2 (some .int) 6 (fun a => [.ref (a 0), .int p1]) r g u h res.1 (lkp r [(5, res.2.1), (4, res.2.2.1)]) (lkp g [(13, res.2.2.2.1), (51, res.2.2.2.2)]) u h := by
  refine mi_i (by decide +kernel) (fun a => Nat.le_of_ble_eq_true rfl) (fun X hX hn hR => ?_)
  replace hR : ∀ q : Int32 × Int32 × Int32 × (Nat → Int32) × (Nat → Int32), some q = some res → ∀ lv pc, decode cX8_says pc = .ok (.ireturn, 1) → narrow .int (.int q.1) = .int q.1 → VC X (lkp r [(5, q.2.1), (4, q.2.2.1)]) (lkp g [(13, q.2.2.2.1), (51, q.2.2.2.2)]) u h lv [.int q.1] pc := fun q hq => by cases hq; exact hR
  replace hX : CX X RX8 cX8_says 6 := hX
  refine v_opr [5, 4] [(5, r 5), (4, r 4)] rfl ?_
  refine v_opg [13, 51] [(13, g 13), (51, g 51)] rfl ?_
  show VC X (lkp r [(5, r 5), (4, r 4)]) (lkp g [(13, g 13), (51, g 51)]) u h [(0, .ref (aX X 0)), (1, .int p1)] [] 0
  rw [f8_says] at hf
  refine v_aload_n hX dX8_says_0 rfl 0 rfl 1 rfl ?_
  refine gf_0_0 hX q_16 dX8_says_1 4 rfl ?_
  refine v_iload_n hX dX8_says_4 rfl 1 rfl 5 rfl ?_
  obtain ⟨v1, hv1, hf⟩ := bn1_e hf
  refine cv_i hX (c0_isClaim (lkp r [(5, (r 5)), (4, (r 4))]) (lkp g [(13, (g 13)), (51, (g 51))]) u h _ hv1) wvX0_isClaim q_511 rc_1 (Nat.le_of_ble_eq_true rfl) (Nat.le_of_ble_eq_true rfl) (fun _ => rfl) [] rfl (Nat.le_of_ble_eq_true rfl) dX8_says_5 8 rfl ?_
  refine v_if_ne hX dX8_says_8 13 rfl 11 rfl (fun h8 => ?_) (fun h8 => ?_)
  · replace hf := it_n h8 hf
    refine v_aload_n hX dX8_says_13 rfl 0 rfl 14 rfl ?_
    refine v_iload_n hX dX8_says_14 rfl 1 rfl 15 rfl ?_
    obtain ⟨v2, c3, c4, c5, c6, hv2, hf⟩ := bn5_e hf
    refine cv_i hX (c8_asks (lkp r [(5, (r 5)), (4, (r 4))]) (lkp g [(13, (g 13)), (51, (g 51))]) u h _ hv2) wvX8_asks q_846 rc_0 (Nat.le_of_ble_eq_true rfl) (Nat.le_of_ble_eq_true rfl) (fun _ => rfl) [] rfl (Nat.le_of_ble_eq_true rfl) dX8_says_15 18 rfl ?_
    refine v_mgr [(5, c3), (4, c4)] rfl ?_
    refine v_mgg [(13, c5), (51, c6)] rfl ?_
    refine v_if_eq hX dX8_says_18 25 rfl 21 rfl (fun h7 => ?_) (fun h7 => ?_)
    · replace hf := it_p h7 hf
      refine v_iconst (v := (0 : Int32)) hX dX8_says_25 (by decide) 26 rfl ?_
      exact hR _ hf _ _ dX8_says_26 rfl
    · replace hf := it_n h7 hf
      refine v_iconst (v := (1 : Int32)) hX dX8_says_21 (by decide) 22 rfl ?_
      refine v_goto hX dX8_says_22 26 rfl ?_
      exact hR _ hf _ _ dX8_says_26 rfl
  · replace hf := it_p h8 hf
    refine v_iconst (v := (-1 : Int32)) hX dX8_says_11 (by decide) 12 rfl ?_
    exact hR _ hf _ _ dX8_says_12 rfl
set_option maxRecDepth 100000 in
set_option maxHeartbeats 4000000 in
theorem c8_score (r : Nat → Int32) (g : Nat → Nat → Int32) (u : Nat → Int64) (h : Nat → Nat → Int64) (p1 : Int32) {res : Int32 × (Nat → Int32) × (Nat → Int32)} (hf : f8_score (r 1) (r 0) (g 7) (g 5) (g 3) (g 6) (g 8) (g 29) (g 28) p1 = some res) : MAi yX8_score cX8_score 2 (some .int) 6 (fun a => [.ref (a 0), .int p1]) r g u h res.1 r (lkp g [(29, res.2.1), (28, res.2.2)]) u h := by
  refine mi_i (by decide +kernel) (fun a => Nat.le_of_ble_eq_true rfl) (fun X hX hn hR => ?_)
  replace hR : ∀ q : Int32 × (Nat → Int32) × (Nat → Int32), some q = some res → ∀ lv pc, decode cX8_score pc = .ok (.ireturn, 1) → narrow .int (.int q.1) = .int q.1 → VC X r (lkp g [(29, q.2.1), (28, q.2.2)]) u h lv [.int q.1] pc := fun q hq => by cases hq; exact hR
  replace hX : CX X RX8 cX8_score 6 := hX
  refine v_opg [29, 28] [(29, g 29), (28, g 28)] rfl ?_
  show VC X r (lkp g [(29, g 29), (28, g 28)]) u h [(0, .ref (aX X 0)), (1, .int p1)] [] 0
  rw [f8_score] at hf
  refine v_iload_n hX dX8_score_0 rfl 1 rfl 1 rfl ?_
  refine v_aload_n hX dX8_score_1 rfl 0 rfl 2 rfl ?_
  refine gf_0_0 hX q_16 dX8_score_2 5 rfl ?_
  obtain ⟨v1, hv1, hf⟩ := bn1_e hf
  refine cv_i hX (c0_allClaims r (lkp g [(29, (g 29)), (28, (g 28))]) u h hv1) wvX0_allClaims q_668 rc_1 (Nat.le_of_ble_eq_true rfl) (Nat.le_of_ble_eq_true rfl) (fun _ => rfl) [.int p1] rfl (Nat.le_of_ble_eq_true rfl) dX8_score_5 8 rfl ?_
  refine v_iconst (v := (-1 : Int32)) hX dX8_score_8 (by decide) 9 rfl ?_
  refine v_ixor hX dX8_score_9 10 rfl ?_
  refine v_iand hX dX8_score_10 11 rfl ?_
  refine v_if_eq hX dX8_score_11 16 rfl 14 rfl (fun h5 => ?_) (fun h5 => ?_)
  · replace hf := it_p h5 hf
    refine v_aload_n hX dX8_score_16 rfl 0 rfl 17 rfl ?_
    refine gf_0_3 hX q_22 dX8_score_17 20 rfl ?_
    refine v_aload_n hX dX8_score_20 rfl 0 rfl 21 rfl ?_
    refine gf_0_0 hX q_16 dX8_score_21 24 rfl ?_
    refine v_iconst (v := (-1 : Int32)) hX dX8_score_24 (by decide) 25 rfl ?_
    obtain ⟨c2, c3, hc2, hf⟩ := bn2_e hf
    refine cv_v hX (c7_scoreSets r (lkp g [(29, (g 29)), (28, (g 28))]) u h _ hc2) wvX7_scoreSets q_672 rc_27 (Nat.le_of_ble_eq_true rfl) (Nat.le_of_ble_eq_true rfl) (fun _ => rfl) [] rfl (Nat.le_of_ble_eq_true rfl) dX8_score_25 28 rfl ?_
    refine v_mgg [(29, c2), (28, c3)] rfl ?_
    refine v_aload_n hX dX8_score_28 rfl 0 rfl 29 rfl ?_
    refine gf_0_3 hX q_22 dX8_score_29 32 rfl ?_
    refine v_iload_n hX dX8_score_32 rfl 1 rfl 33 rfl ?_
    obtain ⟨v4, hv4, hf⟩ := bn1_e hf
    refine cv_i hX (c7_scoreOf r (lkp g [(29, c2), (28, c3)]) u h _ hv4) wvX7_scoreOf q_680 rc_27 (Nat.le_of_ble_eq_true rfl) (Nat.le_of_ble_eq_true rfl) (fun _ => rfl) [] rfl (Nat.le_of_ble_eq_true rfl) dX8_score_33 36 rfl ?_
    refine v_ldc (v := (100000 : Int32)) hX q_667 dX8_score_36 38 rfl ?_
    refine v_iadd hX dX8_score_38 39 rfl ?_
    exact hR _ hf _ _ dX8_score_39 rfl
  · replace hf := it_n h5 hf
    refine v_iconst (v := (-1 : Int32)) hX dX8_score_14 (by decide) 15 rfl ?_
    exact hR _ hf _ _ dX8_score_15 rfl
set_option maxRecDepth 100000 in
set_option maxHeartbeats 4000000 in
theorem c8_seat (r : Nat → Int32) (g : Nat → Nat → Int32) (u : Nat → Int64) (h : Nat → Nat → Int64) (p1 : Int32) (p2 : Int32) (p3 : Int32) {res : Int32 × (Nat → Int32)} (hf : f8_seat (r 1) (r 0) (g 6) (g 8) p1 p2 p3 = some res) : MAi yX8_seat cX8_seat 5 (some .int) 3 (fun a => [.ref (a 0), .int p1, .int p2, .int p3]) r g u h res.1 r (lkp g [(8, res.2)]) u h := by
  refine mi_i (by decide +kernel) (fun a => Nat.le_of_ble_eq_true rfl) (fun X hX hn hR => ?_)
  replace hR : ∀ q : Int32 × (Nat → Int32), some q = some res → ∀ lv pc, decode cX8_seat pc = .ok (.ireturn, 1) → narrow .int (.int q.1) = .int q.1 → VC X r (lkp g [(8, q.2)]) u h lv [.int q.1] pc := fun q hq => by cases hq; exact hR
  replace hX : CX X RX8 cX8_seat 3 := hX
  refine v_opg [8] [(8, g 8)] rfl ?_
  show VC X r (lkp g [(8, g 8)]) u h [(0, .ref (aX X 0)), (1, .int p1), (2, .int p2), (3, .int p3)] [] 0
  rw [f8_seat] at hf
  refine v_aload_n hX dX8_seat_0 rfl 0 rfl 1 rfl ?_
  refine gf_0_0 hX q_16 dX8_seat_1 4 rfl ?_
  refine v_iload_n hX dX8_seat_4 rfl 1 rfl 5 rfl ?_
  obtain ⟨v1, hv1, hf⟩ := bn1_e hf
  refine cv_i hX (c0_isClaim r (lkp g [(8, (g 8))]) u h _ hv1) wvX0_isClaim q_511 rc_1 (Nat.le_of_ble_eq_true rfl) (Nat.le_of_ble_eq_true rfl) (fun _ => rfl) [] rfl (Nat.le_of_ble_eq_true rfl) dX8_seat_5 8 rfl ?_
  refine v_if_eq hX dX8_seat_8 20 rfl 11 rfl (fun h18 => ?_) (fun h18 => ?_)
  · replace hf := it_p h18 hf
    refine v_iconst (v := (-1 : Int32)) hX dX8_seat_20 (by decide) 21 rfl ?_
    exact hR _ hf _ _ dX8_seat_21 rfl
  · replace hf := it_n h18 hf
    refine v_iload_n hX dX8_seat_11 rfl 2 rfl 12 rfl ?_
    refine v_if_lt hX dX8_seat_12 20 rfl 15 rfl (fun h17 => ?_) (fun h17 => ?_)
    · replace hf := it_p h17 hf
      refine v_iconst (v := (-1 : Int32)) hX dX8_seat_20 (by decide) 21 rfl ?_
      exact hR _ hf _ _ dX8_seat_21 rfl
    · replace hf := it_n h17 hf
      refine v_iload_n hX dX8_seat_15 rfl 2 rfl 16 rfl ?_
      refine v_iconst (v := (4 : Int32)) hX dX8_seat_16 (by decide) 17 rfl ?_
      refine v_icmp_lt hX dX8_seat_17 22 rfl 20 rfl (fun h16 => ?_) (fun h16 => ?_)
      · replace hf := it_p h16 hf
        refine v_iload_n hX dX8_seat_22 rfl 3 rfl 23 rfl ?_
        refine v_iconst (v := (-1 : Int32)) hX dX8_seat_23 (by decide) 24 rfl ?_
        obtain ⟨J2, hJ2, hf⟩ := jn_x hf
        have HJ2 : J2 = some res → VC X r (lkp g [(8, (g 8))]) u h [(0, .ref (aX X 0)), (1, .int p1), (2, .int p2), (3, .int p3)] [] 40 := by
          intro hf
          rw [hJ2] at hf
          refine v_iload_n hX dX8_seat_40 rfl 3 rfl 41 rfl ?_
          refine v_iconst (v := (-1 : Int32)) hX dX8_seat_41 (by decide) 42 rfl ?_
          obtain ⟨J3, hJ3, hf⟩ := jn_x hf
          have HJ3 : J3 = some res → VC X r (lkp g [(8, (g 8))]) u h [(0, .ref (aX X 0)), (1, .int p1), (2, .int p2), (3, .int p3)] [] 69 := by
            intro hf
            rw [hJ3] at hf
            refine v_aload_n hX dX8_seat_69 rfl 0 rfl 70 rfl ?_
            refine gf_0_0 hX q_16 dX8_seat_70 73 rfl ?_
            refine v_iload_n hX dX8_seat_73 rfl 1 rfl 74 rfl ?_
            refine v_iload_n hX dX8_seat_74 rfl 2 rfl 75 rfl ?_
            obtain ⟨v4, hv4, hf⟩ := bn1_e hf
            refine cv_i hX (c0_sitter r (lkp g [(8, (g 8))]) u h _ _ hv4) wvX0_sitter q_520 rc_1 (Nat.le_of_ble_eq_true rfl) (Nat.le_of_ble_eq_true rfl) (fun _ => rfl) [] rfl (Nat.le_of_ble_eq_true rfl) dX8_seat_75 78 rfl ?_
            refine v_istore hX dX8_seat_78 (ltn hn (by decide)) 80 rfl [(4, .int v4), (0, .ref (aX X 0)), (1, .int p1), (2, .int p2), (3, .int p3)] rfl ?_
            refine v_aload_n hX dX8_seat_80 rfl 1 rfl 81 rfl ?_
            refine gf_0_0 hX q_16 dX8_seat_81 84 rfl ?_
            refine gf_1_8 hX q_536 dX8_seat_84 87 rfl ?_
            refine v_iload_n hX dX8_seat_87 rfl 2 rfl 88 rfl ?_
            refine v_iconst (v := (4 : Int32)) hX dX8_seat_88 (by decide) 89 rfl ?_
            refine v_imul hX dX8_seat_89 90 rfl ?_
            refine v_iload_n hX dX8_seat_90 rfl 3 rfl 91 rfl ?_
            refine v_iadd hX dX8_seat_91 92 rfl ?_
            refine v_iload_n hX dX8_seat_92 rfl 4 rfl 93 rfl ?_
            refine v_iconst (v := (-1 : Int32)) hX dX8_seat_93 (by decide) 94 rfl ?_
            obtain ⟨J5, hJ5, hf⟩ := jn_x hf
            have HJ5 : ∀ (s6 : Int32), J5 s6 = some res → VC X r (lkp g [(8, (g 8))]) u h [(4, .int v4)] [.int s6, .int ((p1 * (4 : Int32)) + p2), .ref (aX X 8)] 103 := by
              intro s6 hf
              rw [hJ5] at hf
              obtain ⟨hi7, hf⟩ := gd_e hf
              refine as_8 hX hi7 dX8_seat_103 104 rfl (g 8) rfl [(8, (upd (g 8) ((p1 * (4 : Int32)) + p2).toNatClampNeg s6))] rfl ?_
              refine v_iload hX dX8_seat_104 0 rfl 106 rfl ?_
              exact hR _ hf _ _ dX8_seat_106 rfl
            refine v_icmp_ne hX dX8_seat_94 102 rfl 97 rfl (fun h8 => ?_) (fun h8 => ?_)
            · replace hf := it_n h8 hf
              refine v_iload_n hX dX8_seat_102 rfl 4 rfl 103 rfl ?_
              refine v_sub [(4, .int v4)] (sbc 0 rfl sbn) ?_
              exact HJ5 _ hf
            · replace hf := it_p h8 hf
              refine v_bipush (v := (-9 : Int32)) hX dX8_seat_97 (by decide) 99 rfl ?_
              refine v_goto hX dX8_seat_99 103 rfl ?_
              refine v_sub [(4, .int v4)] (sbc 0 rfl sbn) ?_
              exact HJ5 _ hf
          refine v_icmp_eq hX dX8_seat_42 69 rfl 45 rfl (fun h12 => ?_) (fun h12 => ?_)
          · replace hf := it_p h12 hf
            exact HJ3  hf
          · replace hf := it_n h12 hf
            refine v_aload_n hX dX8_seat_45 rfl 0 rfl 46 rfl ?_
            refine gf_0_0 hX q_16 dX8_seat_46 49 rfl ?_
            refine v_iload_n hX dX8_seat_49 rfl 1 rfl 50 rfl ?_
            refine v_iload_n hX dX8_seat_50 rfl 2 rfl 51 rfl ?_
            refine v_aload_n hX dX8_seat_51 rfl 0 rfl 52 rfl ?_
            refine gf_0_0 hX q_16 dX8_seat_52 55 rfl ?_
            refine gf_1_5 hX q_414 dX8_seat_55 58 rfl ?_
            refine v_iload_n hX dX8_seat_58 rfl 3 rfl 59 rfl ?_
            obtain ⟨hi9, hf⟩ := gd_e hf
            refine al_6 hX hi9 dX8_seat_59 ((g 6) p3.toNatClampNeg) rfl 60 rfl ?_
            obtain ⟨v10, hv10, hf⟩ := bn1_e hf
            refine cv_i hX (c0_isElsewhere r (lkp g [(8, (g 8))]) u h _ _ _ hv10) wvX0_isElsewhere q_537 rc_1 (Nat.le_of_ble_eq_true rfl) (Nat.le_of_ble_eq_true rfl) (fun _ => rfl) [] rfl (Nat.le_of_ble_eq_true rfl) dX8_seat_60 63 rfl ?_
            refine v_if_eq hX dX8_seat_63 69 rfl 66 rfl (fun h11 => ?_) (fun h11 => ?_)
            · replace hf := it_p h11 hf
              exact HJ3  hf
            · replace hf := it_n h11 hf
              refine v_bipush (v := (-4 : Int32)) hX dX8_seat_66 (by decide) 68 rfl ?_
              exact hR _ hf _ _ dX8_seat_68 rfl
        refine v_icmp_eq hX dX8_seat_24 40 rfl 27 rfl (fun h15 => ?_) (fun h15 => ?_)
        · replace hf := it_p h15 hf
          exact HJ2  hf
        · replace hf := it_n h15 hf
          refine v_aload_n hX dX8_seat_27 rfl 0 rfl 28 rfl ?_
          refine gf_0_0 hX q_16 dX8_seat_28 31 rfl ?_
          refine v_iload_n hX dX8_seat_31 rfl 3 rfl 32 rfl ?_
          obtain ⟨v13, hv13, hf⟩ := bn1_e hf
          refine cv_i hX (c0_isPerson r (lkp g [(8, (g 8))]) u h _ hv13) wvX0_isPerson q_416 rc_1 (Nat.le_of_ble_eq_true rfl) (Nat.le_of_ble_eq_true rfl) (fun _ => rfl) [] rfl (Nat.le_of_ble_eq_true rfl) dX8_seat_32 35 rfl ?_
          refine v_if_ne hX dX8_seat_35 40 rfl 38 rfl (fun h14 => ?_) (fun h14 => ?_)
          · replace hf := it_n h14 hf
            exact HJ2  hf
          · replace hf := it_p h14 hf
            refine v_iconst (v := (-1 : Int32)) hX dX8_seat_38 (by decide) 39 rfl ?_
            exact hR _ hf _ _ dX8_seat_39 rfl
      · replace hf := it_n h16 hf
        refine v_iconst (v := (-1 : Int32)) hX dX8_seat_20 (by decide) 21 rfl ?_
        exact hR _ hf _ _ dX8_seat_21 rfl
set_option maxRecDepth 100000 in
set_option maxHeartbeats 4000000 in
theorem c8_seed (r : Nat → Int32) (g : Nat → Nat → Int32) (u : Nat → Int64) (h : Nat → Nat → Int64) (p1 : Int32) {res : Int32 × Int32} (hf : f8_seed (r 6) p1 = some res) : MAi yX8_seed cX8_seed 3 (some .int) 0 (fun a => [.ref (a 0), .int p1]) r g u h res.1 (lkp r [(6, res.2)]) g u h := by
  refine mi_i (by decide +kernel) (fun a => Nat.le_of_ble_eq_true rfl) (fun X hX hn hR => ?_)
  replace hR : ∀ q : Int32 × Int32, some q = some res → ∀ lv pc, decode cX8_seed pc = .ok (.ireturn, 1) → narrow .int (.int q.1) = .int q.1 → VC X (lkp r [(6, q.2)]) g u h lv [.int q.1] pc := fun q hq => by cases hq; exact hR
  replace hX : CX X RX8 cX8_seed 0 := hX
  refine v_opr [6] [(6, r 6)] rfl ?_
  show VC X (lkp r [(6, r 6)]) g u h [(0, .ref (aX X 0)), (1, .int p1)] [] 0
  rw [f8_seed] at hf
  refine v_aload_n hX dX8_seed_0 rfl 0 rfl 1 rfl ?_
  refine gf_0_0 hX q_16 dX8_seed_1 4 rfl ?_
  refine gf_1_12 hX q_916 dX8_seed_4 ((r 6)) rfl 7 rfl ?_
  refine v_istore_n hX dX8_seed_7 rfl (ltn hn (by decide)) 8 rfl [(2, .int (r 6)), (0, .ref (aX X 0)), (1, .int p1)] rfl ?_
  refine v_aload_n hX dX8_seed_8 rfl 1 rfl 9 rfl ?_
  refine gf_0_0 hX q_16 dX8_seed_9 12 rfl ?_
  refine v_iload_n hX dX8_seed_12 rfl 2 rfl 13 rfl ?_
  refine pf_1_12 hX q_916 dX8_seed_13 16 rfl [(6, p1)] rfl ?_
  refine v_iload_n hX dX8_seed_16 rfl 0 rfl 17 rfl ?_
  exact hR _ hf _ _ dX8_seed_17 rfl
set_option maxRecDepth 100000 in
set_option maxHeartbeats 4000000 in
theorem c8_seen (r : Nat → Int32) (g : Nat → Nat → Int32) (u : Nat → Int64) (h : Nat → Nat → Int64) (p1 : Int32) {res : Int32 × (Nat → Int32) × (Nat → Int32)} (hf : f8_seen (r 1) (r 0) (g 7) (g 5) (g 3) (g 6) (g 8) (g 29) (g 28) p1 = some res) : MAi yX8_seen cX8_seen 2 (some .int) 7 (fun a => [.ref (a 0), .int p1]) r g u h res.1 r (lkp g [(29, res.2.1), (28, res.2.2)]) u h := by
  refine mi_i (by decide +kernel) (fun a => Nat.le_of_ble_eq_true rfl) (fun X hX hn hR => ?_)
  replace hR : ∀ q : Int32 × (Nat → Int32) × (Nat → Int32), some q = some res → ∀ lv pc, decode cX8_seen pc = .ok (.ireturn, 1) → narrow .int (.int q.1) = .int q.1 → VC X r (lkp g [(29, q.2.1), (28, q.2.2)]) u h lv [.int q.1] pc := fun q hq => by cases hq; exact hR
  replace hX : CX X RX8 cX8_seen 7 := hX
  refine v_opg [29, 28] [(29, g 29), (28, g 28)] rfl ?_
  show VC X r (lkp g [(29, g 29), (28, g 28)]) u h [(0, .ref (aX X 0)), (1, .int p1)] [] 0
  rw [f8_seen] at hf
  refine v_iload_n hX dX8_seen_0 rfl 1 rfl 1 rfl ?_
  refine v_sipush (v := (-1000 : Int32)) hX dX8_seen_1 (by decide) 4 rfl ?_
  refine v_icmp_lt hX dX8_seen_4 14 rfl 7 rfl (fun h5 => ?_) (fun h5 => ?_)
  · replace hf := it_p h5 hf
    refine v_iconst (v := (-1 : Int32)) hX dX8_seen_14 (by decide) 15 rfl ?_
    exact hR _ hf _ _ dX8_seen_15 rfl
  · replace hf := it_n h5 hf
    refine v_iload_n hX dX8_seen_7 rfl 1 rfl 8 rfl ?_
    refine v_sipush (v := (1000 : Int32)) hX dX8_seen_8 (by decide) 11 rfl ?_
    refine v_icmp_le hX dX8_seen_11 16 rfl 14 rfl (fun h4 => ?_) (fun h4 => ?_)
    · replace hf := it_p h4 hf
      refine v_aload_n hX dX8_seen_16 rfl 0 rfl 17 rfl ?_
      refine gf_0_3 hX q_22 dX8_seen_17 20 rfl ?_
      refine v_aload_n hX dX8_seen_20 rfl 0 rfl 21 rfl ?_
      refine gf_0_0 hX q_16 dX8_seen_21 24 rfl ?_
      refine v_iload_n hX dX8_seen_24 rfl 1 rfl 25 rfl ?_
      obtain ⟨v1, c2, c3, hv1, hf⟩ := bn3_e hf
      refine cv_i hX (c7_firstDay r (lkp g [(29, (g 29)), (28, (g 28))]) u h _ hv1) wvX7_firstDay q_742 rc_27 (Nat.le_of_ble_eq_true rfl) (Nat.le_of_ble_eq_true rfl) (fun _ => rfl) [] rfl (Nat.le_of_ble_eq_true rfl) dX8_seen_25 28 rfl ?_
      refine v_mgg [(29, c2), (28, c3)] rfl ?_
      exact hR _ hf _ _ dX8_seen_28 rfl
    · replace hf := it_n h4 hf
      refine v_iconst (v := (-1 : Int32)) hX dX8_seen_14 (by decide) 15 rfl ?_
      exact hR _ hf _ _ dX8_seen_15 rfl
set_option maxRecDepth 100000 in
set_option maxHeartbeats 4000000 in
theorem c8_set (r : Nat → Int32) (g : Nat → Nat → Int32) (u : Nat → Int64) (h : Nat → Nat → Int64) (p1 : Int32) (p2 : Int32) {res : Int32 × (Nat → Int32)} (hf : f8_set (g 3) p1 p2 = some res) : MAi yX8_set cX8_set 4 (some .int) 0 (fun a => [.ref (a 0), .int p1, .int p2]) r g u h res.1 r (lkp g [(3, res.2)]) u h := by
  refine mi_i (by decide +kernel) (fun a => Nat.le_of_ble_eq_true rfl) (fun X hX hn hR => ?_)
  replace hR : ∀ q : Int32 × (Nat → Int32), some q = some res → ∀ lv pc, decode cX8_set pc = .ok (.ireturn, 1) → narrow .int (.int q.1) = .int q.1 → VC X r (lkp g [(3, q.2)]) u h lv [.int q.1] pc := fun q hq => by cases hq; exact hR
  replace hX : CX X RX8 cX8_set 0 := hX
  refine v_opg [3] [(3, g 3)] rfl ?_
  show VC X r (lkp g [(3, g 3)]) u h [(0, .ref (aX X 0)), (1, .int p1), (2, .int p2)] [] 0
  rw [f8_set] at hf
  refine v_iload_n hX dX8_set_0 rfl 1 rfl 1 rfl ?_
  refine v_if_lt hX dX8_set_1 23 rfl 4 rfl (fun h7 => ?_) (fun h7 => ?_)
  · replace hf := it_p h7 hf
    refine v_iconst (v := (-1 : Int32)) hX dX8_set_23 (by decide) 24 rfl ?_
    exact hR _ hf _ _ dX8_set_24 rfl
  · replace hf := it_n h7 hf
    refine v_iload_n hX dX8_set_4 rfl 1 rfl 5 rfl ?_
    refine v_bipush (v := (7 : Int32)) hX dX8_set_5 (by decide) 7 rfl ?_
    refine v_icmp_ge hX dX8_set_7 23 rfl 10 rfl (fun h6 => ?_) (fun h6 => ?_)
    · replace hf := it_p h6 hf
      refine v_iconst (v := (-1 : Int32)) hX dX8_set_23 (by decide) 24 rfl ?_
      exact hR _ hf _ _ dX8_set_24 rfl
    · replace hf := it_n h6 hf
      refine v_iload_n hX dX8_set_10 rfl 2 rfl 11 rfl ?_
      refine v_if_lt hX dX8_set_11 23 rfl 14 rfl (fun h5 => ?_) (fun h5 => ?_)
      · replace hf := it_p h5 hf
        refine v_iconst (v := (-1 : Int32)) hX dX8_set_23 (by decide) 24 rfl ?_
        exact hR _ hf _ _ dX8_set_24 rfl
      · replace hf := it_n h5 hf
        refine v_iload_n hX dX8_set_14 rfl 2 rfl 15 rfl ?_
        refine gs_200 hX q_546 dX8_set_15 18 rfl ?_
        refine v_iload_n hX dX8_set_18 rfl 1 rfl 19 rfl ?_
        obtain ⟨hi1, hf⟩ := gd_e hf
        refine al_200 hX hi1 dX8_set_19 20 rfl ?_
        refine v_icmp_le hX dX8_set_20 25 rfl 23 rfl (fun h4 => ?_) (fun h4 => ?_)
        · replace hf := it_p h4 hf
          refine v_aload_n hX dX8_set_25 rfl 0 rfl 26 rfl ?_
          refine gf_0_0 hX q_16 dX8_set_26 29 rfl ?_
          refine gf_1_1 hX q_547 dX8_set_29 32 rfl ?_
          refine v_iload_n hX dX8_set_32 rfl 1 rfl 33 rfl ?_
          obtain ⟨hi2, hf⟩ := gd_e hf
          refine al_3 hX hi2 dX8_set_33 ((g 3) p1.toNatClampNeg) rfl 34 rfl ?_
          refine v_istore_n hX dX8_set_34 rfl (ltn hn (by decide)) 35 rfl [(3, .int ((g 3) p1.toNatClampNeg)), (0, .ref (aX X 0)), (1, .int p1), (2, .int p2)] rfl ?_
          refine v_aload_n hX dX8_set_35 rfl 1 rfl 36 rfl ?_
          refine gf_0_0 hX q_16 dX8_set_36 39 rfl ?_
          refine gf_1_1 hX q_547 dX8_set_39 42 rfl ?_
          refine v_iload_n hX dX8_set_42 rfl 2 rfl 43 rfl ?_
          refine v_iload_n hX dX8_set_43 rfl 3 rfl 44 rfl ?_
          obtain ⟨hi3, hf⟩ := gd_e hf
          refine as_3 hX hi3 dX8_set_44 45 rfl (g 3) rfl [(3, (upd (g 3) p1.toNatClampNeg p2))] rfl ?_
          refine v_iload_n hX dX8_set_45 rfl 0 rfl 46 rfl ?_
          exact hR _ hf _ _ dX8_set_46 rfl
        · replace hf := it_n h4 hf
          refine v_iconst (v := (-1 : Int32)) hX dX8_set_23 (by decide) 24 rfl ?_
          exact hR _ hf _ _ dX8_set_24 rfl
set_option maxRecDepth 100000 in
set_option maxHeartbeats 4000000 in
theorem c8_sheet (r : Nat → Int32) (g : Nat → Nat → Int32) (u : Nat → Int64) (h : Nat → Nat → Int64) (p1 : Int32) (p2 : Int32) (p3 : Int32) {res : Int32 × (Nat → Int32) × (Nat → Int32) × (Nat → Int64)} (hf : f8_sheet (g 45) (g 44) (h 46) p1 p2 p3 = some res) : MAi yX8_sheet cX8_sheet 4 (some .int) 2 (fun a => [.ref (a 0), .int p1, .int p2, .int p3]) r g u h res.1 r (lkp g [(45, res.2.1), (44, res.2.2.1)]) u (lkp h [(46, res.2.2.2)]) := by
  refine mi_i (by decide +kernel) (fun a => Nat.le_of_ble_eq_true rfl) (fun X hX hn hR => ?_)
  replace hR : ∀ q : Int32 × (Nat → Int32) × (Nat → Int32) × (Nat → Int64), some q = some res → ∀ lv pc, decode cX8_sheet pc = .ok (.ireturn, 1) → narrow .int (.int q.1) = .int q.1 → VC X r (lkp g [(45, q.2.1), (44, q.2.2.1)]) u (lkp h [(46, q.2.2.2)]) lv [.int q.1] pc := fun q hq => by cases hq; exact hR
  replace hX : CX X RX8 cX8_sheet 2 := hX
  refine v_opg [45, 44] [(45, g 45), (44, g 44)] rfl ?_
  refine v_oph [46] [(46, h 46)] rfl ?_
  show VC X r (lkp g [(45, g 45), (44, g 44)]) u (lkp h [(46, h 46)]) [(0, .ref (aX X 0)), (1, .int p1), (2, .int p2), (3, .int p3)] [] 0
  rw [f8_sheet] at hf
  refine v_iload_n hX dX8_sheet_0 rfl 1 rfl 1 rfl ?_
  obtain ⟨v1, hv1, hf⟩ := bn1_e hf
  refine cs_i hX (c1_isSheet r (lkp g [(45, (g 45)), (44, (g 44))]) u (lkp h [(46, (h 46))]) _ hv1) wvX1_isSheet q_1012 (Nat.le_of_ble_eq_true rfl) (Nat.le_of_ble_eq_true rfl) (fun _ => rfl) [] rfl (Nat.le_of_ble_eq_true rfl) dX8_sheet_1 4 rfl ?_
  refine v_if_eq hX dX8_sheet_4 17 rfl 7 rfl (fun h11 => ?_) (fun h11 => ?_)
  · replace hf := it_p h11 hf
    refine v_iconst (v := (-1 : Int32)) hX dX8_sheet_17 (by decide) 18 rfl ?_
    exact hR _ hf _ _ dX8_sheet_18 rfl
  · replace hf := it_n h11 hf
    refine v_iload_n hX dX8_sheet_7 rfl 2 rfl 8 rfl ?_
    refine v_iconst (v := (-1 : Int32)) hX dX8_sheet_8 (by decide) 9 rfl ?_
    refine v_icmp_lt hX dX8_sheet_9 17 rfl 12 rfl (fun h10 => ?_) (fun h10 => ?_)
    · replace hf := it_p h10 hf
      refine v_iconst (v := (-1 : Int32)) hX dX8_sheet_17 (by decide) 18 rfl ?_
      exact hR _ hf _ _ dX8_sheet_18 rfl
    · replace hf := it_n h10 hf
      refine v_iload_n hX dX8_sheet_12 rfl 2 rfl 13 rfl ?_
      refine v_iconst (v := (4 : Int32)) hX dX8_sheet_13 (by decide) 14 rfl ?_
      refine v_icmp_lt hX dX8_sheet_14 19 rfl 17 rfl (fun h9 => ?_) (fun h9 => ?_)
      · replace hf := it_p h9 hf
        refine v_iload_n hX dX8_sheet_19 rfl 2 rfl 20 rfl ?_
        refine v_iconst (v := (-1 : Int32)) hX dX8_sheet_20 (by decide) 21 rfl ?_
        refine v_icmp_ne hX dX8_sheet_21 34 rfl 24 rfl (fun h8 => ?_) (fun h8 => ?_)
        · replace hf := it_n h8 hf
          refine v_iload_n hX dX8_sheet_34 rfl 3 rfl 35 rfl ?_
          refine v_bipush (v := (40 : Int32)) hX dX8_sheet_35 (by decide) 37 rfl ?_
          refine v_icmp_le hX dX8_sheet_37 42 rfl 40 rfl (fun h6 => ?_) (fun h6 => ?_)
          · replace hf := it_p h6 hf
            refine v_iload_n hX dX8_sheet_42 rfl 3 rfl 43 rfl ?_
            refine v_if_ge hX dX8_sheet_43 49 rfl 46 rfl (fun h5 => ?_) (fun h5 => ?_)
            · replace hf := it_p h5 hf
              refine v_aload_n hX dX8_sheet_49 rfl 0 rfl 50 rfl ?_
              refine gf_0_7 hX q_35 dX8_sheet_50 53 rfl ?_
              refine v_iload_n hX dX8_sheet_53 rfl 1 rfl 54 rfl ?_
              refine v_iload_n hX dX8_sheet_54 rfl 2 rfl 55 rfl ?_
              refine v_iload_n hX dX8_sheet_55 rfl 3 rfl 56 rfl ?_
              obtain ⟨c2, c3, c4, hc2, hf⟩ := bn3_e hf
              refine cv_v hX (c1_lay r (lkp g [(45, (g 45)), (44, (g 44))]) u (lkp h [(46, (h 46))]) _ _ _ hc2) wvX1_lay q_1020 rc_43 (Nat.le_of_ble_eq_true rfl) (Nat.le_of_ble_eq_true rfl) (fun _ => rfl) [] rfl (Nat.le_of_ble_eq_true rfl) dX8_sheet_56 59 rfl ?_
              refine v_mgg [(45, c2), (44, c3)] rfl ?_
              refine v_mgh [(46, c4)] rfl ?_
              refine v_iconst (v := (1 : Int32)) hX dX8_sheet_59 (by decide) 60 rfl ?_
              exact hR _ hf _ _ dX8_sheet_60 rfl
            · replace hf := it_n h5 hf
              refine v_bipush (v := (-14 : Int32)) hX dX8_sheet_46 (by decide) 48 rfl ?_
              exact hR _ hf _ _ dX8_sheet_48 rfl
          · replace hf := it_n h6 hf
            refine v_iconst (v := (-1 : Int32)) hX dX8_sheet_40 (by decide) 41 rfl ?_
            exact hR _ hf _ _ dX8_sheet_41 rfl
        · replace hf := it_p h8 hf
          refine v_aload_n hX dX8_sheet_24 rfl 0 rfl 25 rfl ?_
          refine gf_0_7 hX q_35 dX8_sheet_25 28 rfl ?_
          refine v_iload_n hX dX8_sheet_28 rfl 1 rfl 29 rfl ?_
          obtain ⟨c7, hc7, hf⟩ := bn1_e hf
          refine cv_v hX (c1_drop r (lkp g [(45, (g 45)), (44, (g 44))]) u (lkp h [(46, (h 46))]) _ hc7) wvX1_drop q_1015 rc_43 (Nat.le_of_ble_eq_true rfl) (Nat.le_of_ble_eq_true rfl) (fun _ => rfl) [] rfl (Nat.le_of_ble_eq_true rfl) dX8_sheet_29 32 rfl ?_
          refine v_mgg [(45, (g 45)), (44, c7)] rfl ?_
          refine v_iconst (v := (1 : Int32)) hX dX8_sheet_32 (by decide) 33 rfl ?_
          exact hR _ hf _ _ dX8_sheet_33 rfl
      · replace hf := it_n h9 hf
        refine v_iconst (v := (-1 : Int32)) hX dX8_sheet_17 (by decide) 18 rfl ?_
        exact hR _ hf _ _ dX8_sheet_18 rfl
set_option maxRecDepth 100000 in
set_option maxHeartbeats 4000000 in
theorem c8_shelf (r : Nat → Int32) (g : Nat → Nat → Int32) (u : Nat → Int64) (h : Nat → Nat → Int64) (p1 : Int32) (p2 : Int32) (p3 : Int32) {res : Int32 × (Nat → Int32) × (Nat → Int32)} (hf : f8_shelf (r 1) (g 47) (g 45) (g 48) (g 44) p1 p2 p3 = some res) : MAi yX8_shelf cX8_shelf 4 (some .int) 3 (fun a => [.ref (a 0), .int p1, .int p2, .int p3]) r g u h res.1 r (lkp g [(47, res.2.1), (48, res.2.2)]) u h := by
  refine mi_i (by decide +kernel) (fun a => Nat.le_of_ble_eq_true rfl) (fun X hX hn hR => ?_)
  replace hR : ∀ q : Int32 × (Nat → Int32) × (Nat → Int32), some q = some res → ∀ lv pc, decode cX8_shelf pc = .ok (.ireturn, 1) → narrow .int (.int q.1) = .int q.1 → VC X r (lkp g [(47, q.2.1), (48, q.2.2)]) u h lv [.int q.1] pc := fun q hq => by cases hq; exact hR
  replace hX : CX X RX8 cX8_shelf 3 := hX
  refine v_opg [47, 48] [(47, g 47), (48, g 48)] rfl ?_
  show VC X r (lkp g [(47, g 47), (48, g 48)]) u h [(0, .ref (aX X 0)), (1, .int p1), (2, .int p2), (3, .int p3)] [] 0
  rw [f8_shelf] at hf
  refine v_iload_n hX dX8_shelf_0 rfl 1 rfl 1 rfl ?_
  obtain ⟨v1, hv1, hf⟩ := bn1_e hf
  refine cs_i hX (c1_isShelf r (lkp g [(47, (g 47)), (48, (g 48))]) u h _ hv1) wvX1_isShelf q_1074 (Nat.le_of_ble_eq_true rfl) (Nat.le_of_ble_eq_true rfl) (fun _ => rfl) [] rfl (Nat.le_of_ble_eq_true rfl) dX8_shelf_1 4 rfl ?_
  refine v_if_eq hX dX8_shelf_4 16 rfl 7 rfl (fun h19 => ?_) (fun h19 => ?_)
  · replace hf := it_p h19 hf
    refine v_iconst (v := (-1 : Int32)) hX dX8_shelf_16 (by decide) 17 rfl ?_
    exact hR _ hf _ _ dX8_shelf_17 rfl
  · replace hf := it_n h19 hf
    refine v_iload_n hX dX8_shelf_7 rfl 2 rfl 8 rfl ?_
    refine v_if_lt hX dX8_shelf_8 16 rfl 11 rfl (fun h18 => ?_) (fun h18 => ?_)
    · replace hf := it_p h18 hf
      refine v_iconst (v := (-1 : Int32)) hX dX8_shelf_16 (by decide) 17 rfl ?_
      exact hR _ hf _ _ dX8_shelf_17 rfl
    · replace hf := it_n h18 hf
      refine v_iload_n hX dX8_shelf_11 rfl 2 rfl 12 rfl ?_
      refine v_iconst (v := (2 : Int32)) hX dX8_shelf_12 (by decide) 13 rfl ?_
      refine v_icmp_le hX dX8_shelf_13 18 rfl 16 rfl (fun h17 => ?_) (fun h17 => ?_)
      · replace hf := it_p h17 hf
        refine v_iload_n hX dX8_shelf_18 rfl 2 rfl 19 rfl ?_
        obtain ⟨J2, hJ2, hf⟩ := jn_x hf
        have HJ2 : J2 = some res → VC X r (lkp g [(47, (g 47)), (48, (g 48))]) u h [(0, .ref (aX X 0)), (1, .int p1), (2, .int p2), (3, .int p3)] [] 35 := by
          intro hf
          rw [hJ2] at hf
          refine v_iload_n hX dX8_shelf_35 rfl 2 rfl 36 rfl ?_
          refine v_iconst (v := (1 : Int32)) hX dX8_shelf_36 (by decide) 37 rfl ?_
          obtain ⟨J3, hJ3, hf⟩ := jn_x hf
          have HJ3 : J3 = some res → VC X r (lkp g [(47, (g 47)), (48, (g 48))]) u h [(0, .ref (aX X 0)), (1, .int p1), (2, .int p2), (3, .int p3)] [] 49 := by
            intro hf
            rw [hJ3] at hf
            refine v_iload_n hX dX8_shelf_49 rfl 2 rfl 50 rfl ?_
            refine v_if_ne hX dX8_shelf_50 65 rfl 53 rfl (fun h10 => ?_) (fun h10 => ?_)
            · replace hf := it_n h10 hf
              refine v_iload_n hX dX8_shelf_65 rfl 2 rfl 66 rfl ?_
              refine v_iconst (v := (1 : Int32)) hX dX8_shelf_66 (by decide) 67 rfl ?_
              refine v_icmp_ne hX dX8_shelf_67 82 rfl 70 rfl (fun h7 => ?_) (fun h7 => ?_)
              · replace hf := it_n h7 hf
                refine v_aload_n hX dX8_shelf_82 rfl 0 rfl 83 rfl ?_
                refine gf_0_7 hX q_35 dX8_shelf_83 86 rfl ?_
                refine v_iload_n hX dX8_shelf_86 rfl 1 rfl 87 rfl ?_
                obtain ⟨c4, hc4, hf⟩ := bn1_e hf
                refine cv_v hX (c1_holdNothing r (lkp g [(47, (g 47)), (48, (g 48))]) u h _ hc4) wvX1_holdNothing q_1086 rc_43 (Nat.le_of_ble_eq_true rfl) (Nat.le_of_ble_eq_true rfl) (fun _ => rfl) [] rfl (Nat.le_of_ble_eq_true rfl) dX8_shelf_87 90 rfl ?_
                refine v_mgg [(47, c4), (48, (g 48))] rfl ?_
                refine v_iconst (v := (1 : Int32)) hX dX8_shelf_90 (by decide) 91 rfl ?_
                exact hR _ hf _ _ dX8_shelf_91 rfl
              · replace hf := it_p h7 hf
                refine v_aload_n hX dX8_shelf_70 rfl 0 rfl 71 rfl ?_
                refine gf_0_7 hX q_35 dX8_shelf_71 74 rfl ?_
                refine v_iload_n hX dX8_shelf_74 rfl 1 rfl 75 rfl ?_
                refine v_iload_n hX dX8_shelf_75 rfl 3 rfl 76 rfl ?_
                obtain ⟨c5, c6, hc5, hf⟩ := bn2_e hf
                refine cv_v hX (c1_holdRow r (lkp g [(47, (g 47)), (48, (g 48))]) u h _ _ hc5) wvX1_holdRow q_1082 rc_43 (Nat.le_of_ble_eq_true rfl) (Nat.le_of_ble_eq_true rfl) (fun _ => rfl) [] rfl (Nat.le_of_ble_eq_true rfl) dX8_shelf_76 79 rfl ?_
                refine v_mgg [(47, c5), (48, c6)] rfl ?_
                refine v_goto hX dX8_shelf_79 90 rfl ?_
                refine v_iconst (v := (1 : Int32)) hX dX8_shelf_90 (by decide) 91 rfl ?_
                exact hR _ hf _ _ dX8_shelf_91 rfl
            · replace hf := it_p h10 hf
              refine v_aload_n hX dX8_shelf_53 rfl 0 rfl 54 rfl ?_
              refine gf_0_7 hX q_35 dX8_shelf_54 57 rfl ?_
              refine v_iload_n hX dX8_shelf_57 rfl 1 rfl 58 rfl ?_
              refine v_iload_n hX dX8_shelf_58 rfl 3 rfl 59 rfl ?_
              obtain ⟨c8, c9, hc8, hf⟩ := bn2_e hf
              refine cv_v hX (c1_holdClaim r (lkp g [(47, (g 47)), (48, (g 48))]) u h _ _ hc8) wvX1_holdClaim q_1077 rc_43 (Nat.le_of_ble_eq_true rfl) (Nat.le_of_ble_eq_true rfl) (fun _ => rfl) [] rfl (Nat.le_of_ble_eq_true rfl) dX8_shelf_59 62 rfl ?_
              refine v_mgg [(47, c8), (48, c9)] rfl ?_
              refine v_goto hX dX8_shelf_62 90 rfl ?_
              refine v_iconst (v := (1 : Int32)) hX dX8_shelf_90 (by decide) 91 rfl ?_
              exact hR _ hf _ _ dX8_shelf_91 rfl
          refine v_icmp_ne hX dX8_shelf_37 49 rfl 40 rfl (fun h13 => ?_) (fun h13 => ?_)
          · replace hf := it_n h13 hf
            exact HJ3  hf
          · replace hf := it_p h13 hf
            refine v_iload_n hX dX8_shelf_40 rfl 3 rfl 41 rfl ?_
            obtain ⟨v11, hv11, hf⟩ := bn1_e hf
            refine cs_i hX (c1_isSheet r (lkp g [(47, (g 47)), (48, (g 48))]) u h _ hv11) wvX1_isSheet q_1012 (Nat.le_of_ble_eq_true rfl) (Nat.le_of_ble_eq_true rfl) (fun _ => rfl) [] rfl (Nat.le_of_ble_eq_true rfl) dX8_shelf_41 44 rfl ?_
            refine v_if_ne hX dX8_shelf_44 49 rfl 47 rfl (fun h12 => ?_) (fun h12 => ?_)
            · replace hf := it_n h12 hf
              exact HJ3  hf
            · replace hf := it_p h12 hf
              refine v_iconst (v := (-1 : Int32)) hX dX8_shelf_47 (by decide) 48 rfl ?_
              exact hR _ hf _ _ dX8_shelf_48 rfl
        refine v_if_ne hX dX8_shelf_19 35 rfl 22 rfl (fun h16 => ?_) (fun h16 => ?_)
        · replace hf := it_n h16 hf
          exact HJ2  hf
        · replace hf := it_p h16 hf
          refine v_aload_n hX dX8_shelf_22 rfl 0 rfl 23 rfl ?_
          refine gf_0_0 hX q_16 dX8_shelf_23 26 rfl ?_
          refine v_iload_n hX dX8_shelf_26 rfl 3 rfl 27 rfl ?_
          obtain ⟨v14, hv14, hf⟩ := bn1_e hf
          refine cv_i hX (c0_isClaim r (lkp g [(47, (g 47)), (48, (g 48))]) u h _ hv14) wvX0_isClaim q_511 rc_1 (Nat.le_of_ble_eq_true rfl) (Nat.le_of_ble_eq_true rfl) (fun _ => rfl) [] rfl (Nat.le_of_ble_eq_true rfl) dX8_shelf_27 30 rfl ?_
          refine v_if_ne hX dX8_shelf_30 35 rfl 33 rfl (fun h15 => ?_) (fun h15 => ?_)
          · replace hf := it_n h15 hf
            exact HJ2  hf
          · replace hf := it_p h15 hf
            refine v_iconst (v := (-1 : Int32)) hX dX8_shelf_33 (by decide) 34 rfl ?_
            exact hR _ hf _ _ dX8_shelf_34 rfl
      · replace hf := it_n h17 hf
        refine v_iconst (v := (-1 : Int32)) hX dX8_shelf_16 (by decide) 17 rfl ?_
        exact hR _ hf _ _ dX8_shelf_17 rfl
set_option maxRecDepth 100000 in
set_option maxHeartbeats 4000000 in
theorem c8_size (r : Nat → Int32) (g : Nat → Nat → Int32) (u : Nat → Int64) (h : Nat → Nat → Int64) (p1 : Int32) (p2 : Int32) {res : Int32 × (Nat → Int32)} (hf : f8_size (g 2) p1 p2 = some res) : MAi yX8_size cX8_size 4 (some .int) 1 (fun a => [.ref (a 0), .int p1, .int p2]) r g u h res.1 r (lkp g [(2, res.2)]) u h := by
  refine mi_i (by decide +kernel) (fun a => Nat.le_of_ble_eq_true rfl) (fun X hX hn hR => ?_)
  replace hR : ∀ q : Int32 × (Nat → Int32), some q = some res → ∀ lv pc, decode cX8_size pc = .ok (.ireturn, 1) → narrow .int (.int q.1) = .int q.1 → VC X r (lkp g [(2, q.2)]) u h lv [.int q.1] pc := fun q hq => by cases hq; exact hR
  replace hX : CX X RX8 cX8_size 1 := hX
  refine v_opg [2] [(2, g 2)] rfl ?_
  show VC X r (lkp g [(2, g 2)]) u h [(0, .ref (aX X 0)), (1, .int p1), (2, .int p2)] [] 0
  rw [f8_size] at hf
  refine v_iload_n hX dX8_size_0 rfl 1 rfl 1 rfl ?_
  obtain ⟨v1, hv1, hf⟩ := bn1_e hf
  refine cs_i hX (c8_isTown r (lkp g [(2, (g 2))]) u h _ hv1) wvX8_isTown q_388 (Nat.le_of_ble_eq_true rfl) (Nat.le_of_ble_eq_true rfl) (fun _ => rfl) [] rfl (Nat.le_of_ble_eq_true rfl) dX8_size_1 4 rfl ?_
  refine v_if_eq hX dX8_size_4 19 rfl 7 rfl (fun h6 => ?_) (fun h6 => ?_)
  · replace hf := it_p h6 hf
    refine v_iconst (v := (-1 : Int32)) hX dX8_size_19 (by decide) 20 rfl ?_
    exact hR _ hf _ _ dX8_size_20 rfl
  · replace hf := it_n h6 hf
    refine v_iload_n hX dX8_size_7 rfl 2 rfl 8 rfl ?_
    refine v_bipush (v := (10 : Int32)) hX dX8_size_8 (by decide) 10 rfl ?_
    refine v_icmp_lt hX dX8_size_10 19 rfl 13 rfl (fun h5 => ?_) (fun h5 => ?_)
    · replace hf := it_p h5 hf
      refine v_iconst (v := (-1 : Int32)) hX dX8_size_19 (by decide) 20 rfl ?_
      exact hR _ hf _ _ dX8_size_20 rfl
    · replace hf := it_n h5 hf
      refine v_iload_n hX dX8_size_13 rfl 2 rfl 14 rfl ?_
      refine v_bipush (v := (99 : Int32)) hX dX8_size_14 (by decide) 16 rfl ?_
      refine v_icmp_le hX dX8_size_16 21 rfl 19 rfl (fun h4 => ?_) (fun h4 => ?_)
      · replace hf := it_p h4 hf
        refine v_aload_n hX dX8_size_21 rfl 0 rfl 22 rfl ?_
        refine gf_0_0 hX q_16 dX8_size_22 25 rfl ?_
        refine gf_1_0 hX q_387 dX8_size_25 28 rfl ?_
        refine v_iload_n hX dX8_size_28 rfl 1 rfl 29 rfl ?_
        obtain ⟨hi2, hf⟩ := gd_e hf
        refine al_2 hX hi2 dX8_size_29 ((g 2) p1.toNatClampNeg) rfl 30 rfl ?_
        refine v_istore_n hX dX8_size_30 rfl (ltn hn (by decide)) 31 rfl [(3, .int ((g 2) p1.toNatClampNeg)), (0, .ref (aX X 0)), (1, .int p1), (2, .int p2)] rfl ?_
        refine v_aload_n hX dX8_size_31 rfl 1 rfl 32 rfl ?_
        refine gf_0_0 hX q_16 dX8_size_32 35 rfl ?_
        refine gf_1_0 hX q_387 dX8_size_35 38 rfl ?_
        refine v_iload_n hX dX8_size_38 rfl 2 rfl 39 rfl ?_
        refine v_iload_n hX dX8_size_39 rfl 3 rfl 40 rfl ?_
        obtain ⟨hi3, hf⟩ := gd_e hf
        refine as_2 hX hi3 dX8_size_40 41 rfl (g 2) rfl [(2, (upd (g 2) p1.toNatClampNeg p2))] rfl ?_
        refine v_iload_n hX dX8_size_41 rfl 0 rfl 42 rfl ?_
        exact hR _ hf _ _ dX8_size_42 rfl
      · replace hf := it_n h4 hf
        refine v_iconst (v := (-1 : Int32)) hX dX8_size_19 (by decide) 20 rfl ?_
        exact hR _ hf _ _ dX8_size_20 rfl
set_option maxRecDepth 100000 in
set_option maxHeartbeats 4000000 in
theorem c8_steps (r : Nat → Int32) (g : Nat → Nat → Int32) (u : Nat → Int64) (h : Nat → Nat → Int64) (p1 : Int32) (p2 : Int32) {res : Int32 × (Nat → Int32)} (hf : f8_steps (r 1) (r 0) (g 5) (g 6) (g 8) (g 31) p1 p2 = some res) : MAi yX8_steps cX8_steps 3 (some .int) 6 (fun a => [.ref (a 0), .int p1, .int p2]) r g u h res.1 r (lkp g [(31, res.2)]) u h := by
  refine mi_i (by decide +kernel) (fun a => Nat.le_of_ble_eq_true rfl) (fun X hX hn hR => ?_)
  replace hR : ∀ q : Int32 × (Nat → Int32), some q = some res → ∀ lv pc, decode cX8_steps pc = .ok (.ireturn, 1) → narrow .int (.int q.1) = .int q.1 → VC X r (lkp g [(31, q.2)]) u h lv [.int q.1] pc := fun q hq => by cases hq; exact hR
  replace hX : CX X RX8 cX8_steps 6 := hX
  refine v_opg [31] [(31, g 31)] rfl ?_
  show VC X r (lkp g [(31, g 31)]) u h [(0, .ref (aX X 0)), (1, .int p1), (2, .int p2)] [] 0
  rw [f8_steps] at hf
  refine v_aload_n hX dX8_steps_0 rfl 0 rfl 1 rfl ?_
  refine gf_0_0 hX q_16 dX8_steps_1 4 rfl ?_
  refine v_iload_n hX dX8_steps_4 rfl 1 rfl 5 rfl ?_
  obtain ⟨v1, hv1, hf⟩ := bn1_e hf
  refine cv_i hX (c0_isPerson r (lkp g [(31, (g 31))]) u h _ hv1) wvX0_isPerson q_416 rc_1 (Nat.le_of_ble_eq_true rfl) (Nat.le_of_ble_eq_true rfl) (fun _ => rfl) [] rfl (Nat.le_of_ble_eq_true rfl) dX8_steps_5 8 rfl ?_
  refine v_if_eq hX dX8_steps_8 22 rfl 11 rfl (fun h8 => ?_) (fun h8 => ?_)
  · replace hf := it_p h8 hf
    refine v_iconst (v := (-1 : Int32)) hX dX8_steps_22 (by decide) 23 rfl ?_
    exact hR _ hf _ _ dX8_steps_23 rfl
  · replace hf := it_n h8 hf
    refine v_aload_n hX dX8_steps_11 rfl 0 rfl 12 rfl ?_
    refine gf_0_0 hX q_16 dX8_steps_12 15 rfl ?_
    refine v_iload_n hX dX8_steps_15 rfl 2 rfl 16 rfl ?_
    obtain ⟨v2, hv2, hf⟩ := bn1_e hf
    refine cv_i hX (c0_isPerson r (lkp g [(31, (g 31))]) u h _ hv2) wvX0_isPerson q_416 rc_1 (Nat.le_of_ble_eq_true rfl) (Nat.le_of_ble_eq_true rfl) (fun _ => rfl) [] rfl (Nat.le_of_ble_eq_true rfl) dX8_steps_16 19 rfl ?_
    refine v_if_ne hX dX8_steps_19 24 rfl 22 rfl (fun h7 => ?_) (fun h7 => ?_)
    · replace hf := it_n h7 hf
      refine v_aload_n hX dX8_steps_24 rfl 0 rfl 25 rfl ?_
      refine gf_0_3 hX q_22 dX8_steps_25 28 rfl ?_
      refine v_aload_n hX dX8_steps_28 rfl 0 rfl 29 rfl ?_
      refine gf_0_0 hX q_16 dX8_steps_29 32 rfl ?_
      refine v_aload_n hX dX8_steps_32 rfl 0 rfl 33 rfl ?_
      refine gf_0_0 hX q_16 dX8_steps_33 36 rfl ?_
      refine gf_1_5 hX q_414 dX8_steps_36 39 rfl ?_
      refine v_iload_n hX dX8_steps_39 rfl 1 rfl 40 rfl ?_
      obtain ⟨hi3, hf⟩ := gd_e hf
      refine al_6 hX hi3 dX8_steps_40 ((g 6) p1.toNatClampNeg) rfl 41 rfl ?_
      refine v_aload_n hX dX8_steps_41 rfl 0 rfl 42 rfl ?_
      refine gf_0_0 hX q_16 dX8_steps_42 45 rfl ?_
      refine gf_1_5 hX q_414 dX8_steps_45 48 rfl ?_
      refine v_iload_n hX dX8_steps_48 rfl 2 rfl 49 rfl ?_
      obtain ⟨hi4, hf⟩ := gd_e hf
      refine al_6 hX hi4 dX8_steps_49 ((g 6) p2.toNatClampNeg) rfl 50 rfl ?_
      obtain ⟨v5, c6, hv5, hf⟩ := bn2_e hf
      refine cv_i hX (c7_stepsBetween r (lkp g [(31, (g 31))]) u h _ _ hv5) wvX7_stepsBetween q_636 rc_27 (Nat.le_of_ble_eq_true rfl) (Nat.le_of_ble_eq_true rfl) (fun _ => rfl) [] rfl (Nat.le_of_ble_eq_true rfl) dX8_steps_50 53 rfl ?_
      refine v_mgg [(31, c6)] rfl ?_
      exact hR _ hf _ _ dX8_steps_53 rfl
    · replace hf := it_p h7 hf
      refine v_iconst (v := (-1 : Int32)) hX dX8_steps_22 (by decide) 23 rfl ?_
      exact hR _ hf _ _ dX8_steps_23 rfl
set_option maxRecDepth 100000 in
set_option maxHeartbeats 4000000 in
theorem c8_isUnder (r : Nat → Int32) (g : Nat → Nat → Int32) (u : Nat → Int64) (h : Nat → Nat → Int64) (p0 : Int32) (p1 : Int32) {res : Int32} (hf : f8_isUnder p0 p1 = some res) : MAi yX8_isUnder cX8_isUnder 4 (some .boolean) 0 (fun a => [.int p0, .int p1]) r g u h res r g u h := by
  refine mi_i (by decide +kernel) (fun a => Nat.le_of_ble_eq_true rfl) (fun X hX hn hR => ?_)
  replace hR : ∀ q : Int32, some q = some res → ∀ lv pc, decode cX8_isUnder pc = .ok (.ireturn, 1) → narrow .boolean (.int q) = .int q → VC X r g u h lv [.int q] pc := fun q hq => by cases hq; exact hR
  replace hX : CX X RX8 cX8_isUnder 0 := hX
  show VC X r g u h [(0, .int p0), (1, .int p1)] [] 0
  rw [f8_isUnder] at hf
  refine v_iload_n hX dX8_isUnder_0 rfl 0 rfl 1 rfl ?_
  refine v_istore_n hX dX8_isUnder_1 rfl (ltn hn (by decide)) 2 rfl [(2, .int p0), (0, .int p0), (1, .int p1)] rfl ?_
  refine v_iconst (v := (0 : Int32)) hX dX8_isUnder_2 (by decide) 3 rfl ?_
  refine v_istore_n hX dX8_isUnder_3 rfl (ltn hn (by decide)) 4 rfl [(3, .int (0 : Int32)), (2, .int p0), (0, .int p0), (1, .int p1)] rfl ?_
  obtain ⟨K3, hK3, hf⟩ := jn_x hf
  have HK3 : ∀ (x1 : Int32) (x2 : Int32), K3 x1 x2 = some res → VC X r g u h [] [] 39 := by
    intro x1 x2 hf
    rw [hK3] at hf
    refine v_iconst (v := (0 : Int32)) hX dX8_isUnder_39 (by decide) 40 rfl ?_
    exact hR _ hf _ _ dX8_isUnder_40 (bz_nar (v := (0 : Int32)) (by decide))
  have HLK3 : ∀ (n4 : Nat) (x1 : Int32) (x2 : Int32), f8_isUnder_L4 p1 n4 x1 x2 K3 = some res → VC X r g u h [(1, .int p1), (2, .int x1), (3, .int x2)] [] 4 := by
    intro n4
    induction n4 with
    | zero => intro x1 x2 hf; exact no_s hf
    | succ n4 ih =>
      intro x1 x2 hf
      rw [f8_isUnder_L4] at hf
      refine v_iload_n hX dX8_isUnder_4 rfl 2 rfl 5 rfl ?_
      refine v_bipush (v := (6 : Int32)) hX dX8_isUnder_5 (by decide) 7 rfl ?_
      refine v_icmp_ge hX dX8_isUnder_7 39 rfl 10 rfl (fun h9 => ?_) (fun h9 => ?_)
      · replace hf := it_p h9 hf
        refine v_sub [] sbn ?_
        exact HK3 _ _ hf
      · replace hf := it_n h9 hf
        refine v_iload_n hX dX8_isUnder_10 rfl 1 rfl 11 rfl ?_
        refine v_if_lt hX dX8_isUnder_11 39 rfl 14 rfl (fun h8 => ?_) (fun h8 => ?_)
        · replace hf := it_p h8 hf
          refine v_sub [] sbn ?_
          exact HK3 _ _ hf
        · replace hf := it_n h8 hf
          refine v_iload_n hX dX8_isUnder_14 rfl 1 rfl 15 rfl ?_
          refine v_bipush (v := (6 : Int32)) hX dX8_isUnder_15 (by decide) 17 rfl ?_
          refine v_icmp_ge hX dX8_isUnder_17 39 rfl 20 rfl (fun h7 => ?_) (fun h7 => ?_)
          · replace hf := it_p h7 hf
            refine v_sub [] sbn ?_
            exact HK3 _ _ hf
          · replace hf := it_n h7 hf
            refine v_iload_n hX dX8_isUnder_20 rfl 1 rfl 21 rfl ?_
            refine v_iload_n hX dX8_isUnder_21 rfl 0 rfl 22 rfl ?_
            refine v_icmp_ne hX dX8_isUnder_22 27 rfl 25 rfl (fun h6 => ?_) (fun h6 => ?_)
            · replace hf := it_n h6 hf
              refine gs_201 hX q_1110 dX8_isUnder_27 30 rfl ?_
              refine v_iload_n hX dX8_isUnder_30 rfl 1 rfl 31 rfl ?_
              obtain ⟨hi5, hf⟩ := gd_e hf
              refine al_201 hX hi5 dX8_isUnder_31 32 rfl ?_
              refine v_istore_n hX dX8_isUnder_32 rfl (ltn hn (by decide)) 33 rfl [(2, .int (overK x1.toNatClampNeg)), (1, .int p1), (3, .int x2)] rfl ?_
              refine v_inc (c := (1 : Int32)) hX dX8_isUnder_33 2 rfl (by decide) (ltn hn (by decide)) 36 rfl [(3, .int (x2 + (1 : Int32))), (2, .int (overK x1.toNatClampNeg)), (1, .int p1)] rfl ?_
              refine v_goto hX dX8_isUnder_36 4 rfl ?_
              refine v_sub [(1, .int p1), (2, .int (overK x1.toNatClampNeg)), (3, .int (x2 + (1 : Int32)))] (sbc 2 rfl (sbc 1 rfl (sbc 0 rfl sbn))) ?_
              exact ih _ _ hf
            · replace hf := it_p h6 hf
              refine v_iconst (v := (1 : Int32)) hX dX8_isUnder_25 (by decide) 26 rfl ?_
              exact hR _ hf _ _ dX8_isUnder_26 (bz_nar (v := (1 : Int32)) (by decide))
  refine v_sub [(1, .int p1), (2, .int p0), (3, .int (0 : Int32))] (sbc 3 rfl (sbc 1 rfl (sbc 0 rfl sbn))) ?_
  exact HLK3 _ _ _ hf
set_option maxRecDepth 100000 in
set_option maxHeartbeats 4000000 in
theorem c8_taken (r : Nat → Int32) (g : Nat → Nat → Int32) (u : Nat → Int64) (h : Nat → Nat → Int64) (p1 : Int32) (p2 : Int32) {res : Int32} (hf : f8_taken (r 1) (g 7) (g 47) (g 48) p1 p2 = some res) : MAi yX8_taken cX8_taken 8 (some .int) 2 (fun a => [.ref (a 0), .int p1, .int p2]) r g u h res r g u h := by
  refine mi_i (by decide +kernel) (fun a => Nat.le_of_ble_eq_true rfl) (fun X hX hn hR => ?_)
  replace hR : ∀ q : Int32, some q = some res → ∀ lv pc, decode cX8_taken pc = .ok (.ireturn, 1) → narrow .int (.int q) = .int q → VC X r g u h lv [.int q] pc := fun q hq => by cases hq; exact hR
  replace hX : CX X RX8 cX8_taken 2 := hX
  show VC X r g u h [(0, .ref (aX X 0)), (1, .int p1), (2, .int p2)] [] 0
  rw [f8_taken] at hf
  refine v_iload_n hX dX8_taken_0 rfl 2 rfl 1 rfl ?_
  obtain ⟨J1, hJ1, hf⟩ := jn_x hf
  have HJ1 : ∀ (s2 : Int32), J1 s2 = some res → VC X r g u h [(0, .ref (aX X 0)), (1, .int p1), (2, .int p2)] [.int s2] 15 := by
    intro s2 hf
    rw [hJ1] at hf
    refine v_istore_n hX dX8_taken_15 rfl (ltn hn (by decide)) 16 rfl [(3, .int s2), (0, .ref (aX X 0)), (1, .int p1), (2, .int p2)] rfl ?_
    refine v_iload_n hX dX8_taken_16 rfl 3 rfl 17 rfl ?_
    refine v_bipush (v := (10 : Int32)) hX dX8_taken_17 (by decide) 19 rfl ?_
    obtain ⟨J3, hJ3, hf⟩ := jn_x hf
    have HJ3 : ∀ (s4 : Int32), J3 s4 = some res → VC X r g u h [(0, .ref (aX X 0)), (1, .int p1), (2, .int p2), (3, .int s2)] [.int s4] 33 := by
      intro s4 hf
      rw [hJ3] at hf
      refine v_istore hX dX8_taken_33 (ltn hn (by decide)) 35 rfl [(4, .int s4), (0, .ref (aX X 0)), (1, .int p1), (2, .int p2), (3, .int s2)] rfl ?_
      refine v_iload_n hX dX8_taken_35 rfl 2 rfl 36 rfl ?_
      obtain ⟨v5, hv5, hf⟩ := bn1_e hf
      refine cs_i hX (c1_isShelf r g u h _ hv5) wvX1_isShelf q_1074 (Nat.le_of_ble_eq_true rfl) (Nat.le_of_ble_eq_true rfl) (fun _ => rfl) [] rfl (Nat.le_of_ble_eq_true rfl) dX8_taken_36 39 rfl ?_
      refine v_if_eq hX dX8_taken_39 51 rfl 42 rfl (fun h22 => ?_) (fun h22 => ?_)
      · replace hf := it_p h22 hf
        refine v_iconst (v := (-1 : Int32)) hX dX8_taken_51 (by decide) 52 rfl ?_
        exact hR _ hf _ _ dX8_taken_52 rfl
      · replace hf := it_n h22 hf
        refine v_iload_n hX dX8_taken_42 rfl 4 rfl 43 rfl ?_
        obtain ⟨J6, hJ6, hf⟩ := jn_x hf
        have HJ6 : J6 = some res → VC X r g u h [(0, .ref (aX X 0)), (1, .int p1), (2, .int p2), (3, .int s2)] [] 53 := by
          intro hf
          rw [hJ6] at hf
          refine v_aload_n hX dX8_taken_53 rfl 0 rfl 54 rfl ?_
          refine gf_0_7 hX q_35 dX8_taken_54 57 rfl ?_
          refine v_iload_n hX dX8_taken_57 rfl 1 rfl 58 rfl ?_
          refine v_aload_n hX dX8_taken_58 rfl 0 rfl 59 rfl ?_
          refine gf_0_0 hX q_16 dX8_taken_59 62 rfl ?_
          refine gf_1_6 hX q_498 dX8_taken_62 ((r 1)) rfl 65 rfl ?_
          obtain ⟨v7, hv7, hf⟩ := bn1_e hf
          refine cv_i hX (c1_heldOn r g u h _ _ hv7) wvX1_heldOn q_1103 rc_43 (Nat.le_of_ble_eq_true rfl) (Nat.le_of_ble_eq_true rfl) (fun _ => rfl) [] rfl (Nat.le_of_ble_eq_true rfl) dX8_taken_65 68 rfl ?_
          refine v_istore hX dX8_taken_68 (ltn hn (by decide)) 70 rfl [(5, .int v7), (0, .ref (aX X 0)), (1, .int p1), (2, .int p2), (3, .int s2)] rfl ?_
          refine v_iload hX dX8_taken_70 0 rfl 72 rfl ?_
          refine v_iconst (v := (-1 : Int32)) hX dX8_taken_72 (by decide) 73 rfl ?_
          refine v_icmp_ne hX dX8_taken_73 79 rfl 76 rfl (fun h19 => ?_) (fun h19 => ?_)
          · replace hf := it_n h19 hf
            refine v_aload_n hX dX8_taken_79 rfl 1 rfl 80 rfl ?_
            refine gf_0_7 hX q_35 dX8_taken_80 83 rfl ?_
            refine gf_43_4 hX q_1102 dX8_taken_83 86 rfl ?_
            refine v_iload_n hX dX8_taken_86 rfl 2 rfl 87 rfl ?_
            obtain ⟨hi8, hf⟩ := gd_e hf
            refine al_48 hX hi8 dX8_taken_87 ((g 48) p1.toNatClampNeg) rfl 88 rfl ?_
            refine v_istore hX dX8_taken_88 (ltn hn (by decide)) 90 rfl [(6, .int ((g 48) p1.toNatClampNeg)), (5, .int v7), (0, .ref (aX X 0)), (1, .int p1), (2, .int p2), (3, .int s2)] rfl ?_
            refine v_iload hX dX8_taken_90 1 rfl 92 rfl ?_
            obtain ⟨J9, hJ9, hf⟩ := jn_x hf
            have HJ9 : ∀ (s10 : Int32), J9 s10 = some res → VC X r g u h [(6, .int ((g 48) p1.toNatClampNeg))] [.int s10] 135 := by
              intro s10 hf
              rw [hJ9] at hf
              refine v_istore hX dX8_taken_135 (ltn hn (by decide)) 137 rfl [(7, .int s10), (6, .int ((g 48) p1.toNatClampNeg))] rfl ?_
              refine v_iload hX dX8_taken_137 0 rfl 139 rfl ?_
              refine v_if_eq hX dX8_taken_139 147 rfl 142 rfl (fun h11 => ?_) (fun h11 => ?_)
              · replace hf := it_p h11 hf
                refine v_bipush (v := (-13 : Int32)) hX dX8_taken_147 (by decide) 149 rfl ?_
                exact hR _ hf _ _ dX8_taken_149 rfl
              · replace hf := it_n h11 hf
                refine v_iload hX dX8_taken_142 1 rfl 144 rfl ?_
                refine v_goto hX dX8_taken_144 149 rfl ?_
                exact hR _ hf _ _ dX8_taken_149 rfl
            refine v_if_ne hX dX8_taken_92 124 rfl 95 rfl (fun h18 => ?_) (fun h18 => ?_)
            · replace hf := it_n h18 hf
              refine v_iload hX dX8_taken_124 1 rfl 126 rfl ?_
              refine v_iload_n hX dX8_taken_126 rfl 4 rfl 127 rfl ?_
              refine v_icmp_ne hX dX8_taken_127 134 rfl 130 rfl (fun h12 => ?_) (fun h12 => ?_)
              · replace hf := it_n h12 hf
                refine v_iconst (v := (0 : Int32)) hX dX8_taken_134 (by decide) 135 rfl ?_
                refine v_sub [(6, .int ((g 48) p1.toNatClampNeg))] (sbc 0 rfl sbn) ?_
                exact HJ9 _ hf
              · replace hf := it_p h12 hf
                refine v_iconst (v := (1 : Int32)) hX dX8_taken_130 (by decide) 131 rfl ?_
                refine v_goto hX dX8_taken_131 135 rfl ?_
                refine v_sub [(6, .int ((g 48) p1.toNatClampNeg))] (sbc 0 rfl sbn) ?_
                exact HJ9 _ hf
            · replace hf := it_p h18 hf
              refine v_iload_n hX dX8_taken_95 rfl 5 rfl 96 rfl ?_
              obtain ⟨J13, hJ13, hf⟩ := jn_x hf
              have HJ13 : J13 = some res → VC X r g u h [(6, .int ((g 48) p1.toNatClampNeg))] [] 120 := by
                intro hf
                rw [hJ13] at hf
                refine v_iconst (v := (0 : Int32)) hX dX8_taken_120 (by decide) 121 rfl ?_
                refine v_goto hX dX8_taken_121 135 rfl ?_
                exact HJ9 _ hf
              refine v_if_eq hX dX8_taken_96 120 rfl 99 rfl (fun h17 => ?_) (fun h17 => ?_)
              · replace hf := it_p h17 hf
                refine v_sub [(6, .int ((g 48) p1.toNatClampNeg))] (sbc 0 rfl sbn) ?_
                exact HJ13  hf
              · replace hf := it_n h17 hf
                refine v_aload_n hX dX8_taken_99 rfl 2 rfl 100 rfl ?_
                refine gf_0_0 hX q_16 dX8_taken_100 103 rfl ?_
                refine v_iload hX dX8_taken_103 0 rfl 105 rfl ?_
                refine v_iconst (v := (0 : Int32)) hX dX8_taken_105 (by decide) 106 rfl ?_
                obtain ⟨v14, hv14, hf⟩ := bn1_e hf
                refine cv_i hX (c0_fact r g u h _ _ hv14) wvX0_fact q_515 rc_1 (Nat.le_of_ble_eq_true rfl) (Nat.le_of_ble_eq_true rfl) (fun _ => rfl) [] rfl (Nat.le_of_ble_eq_true rfl) dX8_taken_106 109 rfl ?_
                refine v_iload_n hX dX8_taken_109 rfl 4 rfl 110 rfl ?_
                obtain ⟨v15, hv15, hf⟩ := bn1_e hf
                refine cs_i hX (c8_isUnder r g u h _ _ hv15) wvX8_isUnder q_1107 (Nat.le_of_ble_eq_true rfl) (Nat.le_of_ble_eq_true rfl) (fun _ => rfl) [] rfl (Nat.le_of_ble_eq_true rfl) dX8_taken_110 113 rfl ?_
                refine v_if_eq hX dX8_taken_113 120 rfl 116 rfl (fun h16 => ?_) (fun h16 => ?_)
                · replace hf := it_p h16 hf
                  refine v_sub [(6, .int ((g 48) p1.toNatClampNeg))] (sbc 0 rfl sbn) ?_
                  exact HJ13  hf
                · replace hf := it_n h16 hf
                  refine v_iconst (v := (1 : Int32)) hX dX8_taken_116 (by decide) 117 rfl ?_
                  refine v_goto hX dX8_taken_117 135 rfl ?_
                  refine v_sub [(6, .int ((g 48) p1.toNatClampNeg))] (sbc 0 rfl sbn) ?_
                  exact HJ9 _ hf
          · replace hf := it_p h19 hf
            refine v_bipush (v := (-11 : Int32)) hX dX8_taken_76 (by decide) 78 rfl ?_
            exact hR _ hf _ _ dX8_taken_78 rfl
        refine v_if_ne hX dX8_taken_43 53 rfl 46 rfl (fun h21 => ?_) (fun h21 => ?_)
        · replace hf := it_n h21 hf
          refine v_sub [(0, .ref (aX X 0)), (1, .int p1), (2, .int p2), (3, .int s2)] (sbc 1 rfl (sbc 2 rfl (sbc 3 rfl (sbc 4 rfl sbn)))) ?_
          exact HJ6  hf
        · replace hf := it_p h21 hf
          refine v_iload hX dX8_taken_46 0 rfl 48 rfl ?_
          refine v_if_ne hX dX8_taken_48 53 rfl 51 rfl (fun h20 => ?_) (fun h20 => ?_)
          · replace hf := it_n h20 hf
            refine v_sub [(0, .ref (aX X 0)), (1, .int p1), (2, .int p2), (3, .int s2)] (sbc 1 rfl (sbc 2 rfl (sbc 3 rfl (sbc 4 rfl sbn)))) ?_
            exact HJ6  hf
          · replace hf := it_p h20 hf
            refine v_iconst (v := (-1 : Int32)) hX dX8_taken_51 (by decide) 52 rfl ?_
            exact hR _ hf _ _ dX8_taken_52 rfl
    obtain ⟨J23, hJ23, hf⟩ := jn_x hf
    have HJ23 : J23 = some res → VC X r g u h [(0, .ref (aX X 0)), (1, .int p1), (2, .int p2), (3, .int s2)] [] 32 := by
      intro hf
      rw [hJ23] at hf
      refine v_iconst (v := (0 : Int32)) hX dX8_taken_32 (by decide) 33 rfl ?_
      exact HJ3 _ hf
    refine v_icmp_lt hX dX8_taken_19 32 rfl 22 rfl (fun h25 => ?_) (fun h25 => ?_)
    · replace hf := it_p h25 hf
      refine v_sub [(0, .ref (aX X 0)), (1, .int p1), (2, .int p2), (3, .int s2)] (sbc 1 rfl (sbc 2 rfl (sbc 3 rfl (sbc 0 rfl sbn)))) ?_
      exact HJ23  hf
    · replace hf := it_n h25 hf
      refine v_iload_n hX dX8_taken_22 rfl 3 rfl 23 rfl ?_
      refine v_bipush (v := (14 : Int32)) hX dX8_taken_23 (by decide) 25 rfl ?_
      refine v_icmp_ge hX dX8_taken_25 32 rfl 28 rfl (fun h24 => ?_) (fun h24 => ?_)
      · replace hf := it_p h24 hf
        refine v_sub [(0, .ref (aX X 0)), (1, .int p1), (2, .int p2), (3, .int s2)] (sbc 1 rfl (sbc 2 rfl (sbc 3 rfl (sbc 0 rfl sbn)))) ?_
        exact HJ23  hf
      · replace hf := it_n h24 hf
        refine v_iconst (v := (1 : Int32)) hX dX8_taken_28 (by decide) 29 rfl ?_
        refine v_goto hX dX8_taken_29 33 rfl ?_
        refine v_sub [(0, .ref (aX X 0)), (1, .int p1), (2, .int p2), (3, .int s2)] (sbc 1 rfl (sbc 2 rfl (sbc 3 rfl (sbc 0 rfl sbn)))) ?_
        exact HJ3 _ hf
  obtain ⟨J26, hJ26, hf⟩ := jn_x hf
  have HJ26 : J26 = some res → VC X r g u h [(0, .ref (aX X 0)), (1, .int p1), (2, .int p2)] [] 14 := by
    intro hf
    rw [hJ26] at hf
    refine v_iconst (v := (0 : Int32)) hX dX8_taken_14 (by decide) 15 rfl ?_
    exact HJ1 _ hf
  refine v_if_lt hX dX8_taken_1 14 rfl 4 rfl (fun h28 => ?_) (fun h28 => ?_)
  · replace hf := it_p h28 hf
    exact HJ26  hf
  · replace hf := it_n h28 hf
    refine v_iload_n hX dX8_taken_4 rfl 2 rfl 5 rfl ?_
    refine v_bipush (v := (6 : Int32)) hX dX8_taken_5 (by decide) 7 rfl ?_
    refine v_icmp_ge hX dX8_taken_7 14 rfl 10 rfl (fun h27 => ?_) (fun h27 => ?_)
    · replace hf := it_p h27 hf
      exact HJ26  hf
    · replace hf := it_n h27 hf
      refine v_iconst (v := (1 : Int32)) hX dX8_taken_10 (by decide) 11 rfl ?_
      refine v_goto hX dX8_taken_11 15 rfl ?_
      exact HJ1 _ hf
set_option maxRecDepth 100000 in
set_option maxHeartbeats 4000000 in
theorem c8_tie (r : Nat → Int32) (g : Nat → Nat → Int32) (u : Nat → Int64) (h : Nat → Nat → Int64) (p1 : Int32) (p2 : Int32) {res : Int32} (hf : f8_tie (r 1) (r 0) (g 7) (g 5) (g 3) (g 6) (g 8) p1 p2 = some res) : MAi yX8_tie cX8_tie 3 (some .int) 4 (fun a => [.ref (a 0), .int p1, .int p2]) r g u h res r g u h := by
  refine mi_i (by decide +kernel) (fun a => Nat.le_of_ble_eq_true rfl) (fun X hX hn hR => ?_)
  replace hR : ∀ q : Int32, some q = some res → ∀ lv pc, decode cX8_tie pc = .ok (.ireturn, 1) → narrow .int (.int q) = .int q → VC X r g u h lv [.int q] pc := fun q hq => by cases hq; exact hR
  replace hX : CX X RX8 cX8_tie 4 := hX
  show VC X r g u h [(0, .ref (aX X 0)), (1, .int p1), (2, .int p2)] [] 0
  rw [f8_tie] at hf
  refine v_aload_n hX dX8_tie_0 rfl 0 rfl 1 rfl ?_
  refine gf_0_0 hX q_16 dX8_tie_1 4 rfl ?_
  refine v_iload_n hX dX8_tie_4 rfl 1 rfl 5 rfl ?_
  obtain ⟨v1, hv1, hf⟩ := bn1_e hf
  refine cv_i hX (c0_isClaim r g u h _ hv1) wvX0_isClaim q_511 rc_1 (Nat.le_of_ble_eq_true rfl) (Nat.le_of_ble_eq_true rfl) (fun _ => rfl) [] rfl (Nat.le_of_ble_eq_true rfl) dX8_tie_5 8 rfl ?_
  refine v_if_eq hX dX8_tie_8 27 rfl 11 rfl (fun h6 => ?_) (fun h6 => ?_)
  · replace hf := it_p h6 hf
    refine v_iconst (v := (-1 : Int32)) hX dX8_tie_27 (by decide) 28 rfl ?_
    exact hR _ hf _ _ dX8_tie_28 rfl
  · replace hf := it_n h6 hf
    refine v_aload_n hX dX8_tie_11 rfl 0 rfl 12 rfl ?_
    refine gf_0_0 hX q_16 dX8_tie_12 15 rfl ?_
    refine v_iload_n hX dX8_tie_15 rfl 2 rfl 16 rfl ?_
    obtain ⟨v2, hv2, hf⟩ := bn1_e hf
    refine cv_i hX (c0_isClaim r g u h _ hv2) wvX0_isClaim q_511 rc_1 (Nat.le_of_ble_eq_true rfl) (Nat.le_of_ble_eq_true rfl) (fun _ => rfl) [] rfl (Nat.le_of_ble_eq_true rfl) dX8_tie_16 19 rfl ?_
    refine v_if_eq hX dX8_tie_19 27 rfl 22 rfl (fun h5 => ?_) (fun h5 => ?_)
    · replace hf := it_p h5 hf
      refine v_iconst (v := (-1 : Int32)) hX dX8_tie_27 (by decide) 28 rfl ?_
      exact hR _ hf _ _ dX8_tie_28 rfl
    · replace hf := it_n h5 hf
      refine v_iload_n hX dX8_tie_22 rfl 1 rfl 23 rfl ?_
      refine v_iload_n hX dX8_tie_23 rfl 2 rfl 24 rfl ?_
      refine v_icmp_ne hX dX8_tie_24 29 rfl 27 rfl (fun h4 => ?_) (fun h4 => ?_)
      · replace hf := it_n h4 hf
        refine v_aload_n hX dX8_tie_29 rfl 0 rfl 30 rfl ?_
        refine gf_0_3 hX q_22 dX8_tie_30 33 rfl ?_
        refine v_aload_n hX dX8_tie_33 rfl 0 rfl 34 rfl ?_
        refine gf_0_0 hX q_16 dX8_tie_34 37 rfl ?_
        refine v_iload_n hX dX8_tie_37 rfl 1 rfl 38 rfl ?_
        refine v_iload_n hX dX8_tie_38 rfl 2 rfl 39 rfl ?_
        refine v_iconst (v := (-1 : Int32)) hX dX8_tie_39 (by decide) 40 rfl ?_
        obtain ⟨v3, hv3, hf⟩ := bn1_e hf
        refine cv_i hX (c7_strength r g u h _ _ _ hv3) wvX7_strength q_556 rc_27 (Nat.le_of_ble_eq_true rfl) (Nat.le_of_ble_eq_true rfl) (fun _ => rfl) [] rfl (Nat.le_of_ble_eq_true rfl) dX8_tie_40 43 rfl ?_
        exact hR _ hf _ _ dX8_tie_43 rfl
      · replace hf := it_p h4 hf
        refine v_iconst (v := (-1 : Int32)) hX dX8_tie_27 (by decide) 28 rfl ?_
        exact hR _ hf _ _ dX8_tie_28 rfl
set_option maxRecDepth 100000 in
set_option maxHeartbeats 4000000 in
theorem c8_tied (r : Nat → Int32) (g : Nat → Nat → Int32) (u : Nat → Int64) (h : Nat → Nat → Int64) (p1 : Int32) {res : Int32} (hf : f8_tied (r 1) (r 0) (g 7) (g 5) (g 3) (g 6) (g 8) p1 = some res) : MAi yX8_tied cX8_tied 2 (some .int) 5 (fun a => [.ref (a 0), .int p1]) r g u h res r g u h := by
  refine mi_i (by decide +kernel) (fun a => Nat.le_of_ble_eq_true rfl) (fun X hX hn hR => ?_)
  replace hR : ∀ q : Int32, some q = some res → ∀ lv pc, decode cX8_tied pc = .ok (.ireturn, 1) → narrow .int (.int q) = .int q → VC X r g u h lv [.int q] pc := fun q hq => by cases hq; exact hR
  replace hX : CX X RX8 cX8_tied 5 := hX
  show VC X r g u h [(0, .ref (aX X 0)), (1, .int p1)] [] 0
  rw [f8_tied] at hf
  refine v_aload_n hX dX8_tied_0 rfl 0 rfl 1 rfl ?_
  refine gf_0_0 hX q_16 dX8_tied_1 4 rfl ?_
  refine v_iload_n hX dX8_tied_4 rfl 1 rfl 5 rfl ?_
  obtain ⟨v1, hv1, hf⟩ := bn1_e hf
  refine cv_i hX (c0_isClaim r g u h _ hv1) wvX0_isClaim q_511 rc_1 (Nat.le_of_ble_eq_true rfl) (Nat.le_of_ble_eq_true rfl) (fun _ => rfl) [] rfl (Nat.le_of_ble_eq_true rfl) dX8_tied_5 8 rfl ?_
  refine v_if_ne hX dX8_tied_8 13 rfl 11 rfl (fun h3 => ?_) (fun h3 => ?_)
  · replace hf := it_n h3 hf
    refine v_aload_n hX dX8_tied_13 rfl 0 rfl 14 rfl ?_
    refine gf_0_3 hX q_22 dX8_tied_14 17 rfl ?_
    refine v_aload_n hX dX8_tied_17 rfl 0 rfl 18 rfl ?_
    refine gf_0_0 hX q_16 dX8_tied_18 21 rfl ?_
    refine v_iload_n hX dX8_tied_21 rfl 1 rfl 22 rfl ?_
    obtain ⟨v2, hv2, hf⟩ := bn1_e hf
    refine cv_i hX (c7_tiedWith r g u h _ hv2) wvX7_tiedWith q_594 rc_27 (Nat.le_of_ble_eq_true rfl) (Nat.le_of_ble_eq_true rfl) (fun _ => rfl) [] rfl (Nat.le_of_ble_eq_true rfl) dX8_tied_22 25 rfl ?_
    exact hR _ hf _ _ dX8_tied_25 rfl
  · replace hf := it_p h3 hf
    refine v_iconst (v := (-1 : Int32)) hX dX8_tied_11 (by decide) 12 rfl ?_
    exact hR _ hf _ _ dX8_tied_12 rfl
set_option maxRecDepth 100000 in
set_option maxHeartbeats 4000000 in
theorem c8_trace (r : Nat → Int32) (g : Nat → Nat → Int32) (u : Nat → Int64) (h : Nat → Nat → Int64) (p1 : Int32) {res : Int32} (hf : f8_trace (r 25) (g 50) p1 = some res) : MAi yX8_trace cX8_trace 2 (some .int) 0 (fun a => [.ref (a 0), .int p1]) r g u h res r g u h := by
  refine mi_i (by decide +kernel) (fun a => Nat.le_of_ble_eq_true rfl) (fun X hX hn hR => ?_)
  replace hR : ∀ q : Int32, some q = some res → ∀ lv pc, decode cX8_trace pc = .ok (.ireturn, 1) → narrow .int (.int q) = .int q → VC X r g u h lv [.int q] pc := fun q hq => by cases hq; exact hR
  replace hX : CX X RX8 cX8_trace 0 := hX
  show VC X r g u h [(0, .ref (aX X 0)), (1, .int p1)] [] 0
  rw [f8_trace] at hf
  refine v_iload_n hX dX8_trace_0 rfl 1 rfl 1 rfl ?_
  refine v_if_lt hX dX8_trace_1 15 rfl 4 rfl (fun h3 => ?_) (fun h3 => ?_)
  · replace hf := it_p h3 hf
    refine v_bipush (v := (-3 : Int32)) hX dX8_trace_15 (by decide) 17 rfl ?_
    exact hR _ hf _ _ dX8_trace_17 rfl
  · replace hf := it_n h3 hf
    refine v_iload_n hX dX8_trace_4 rfl 1 rfl 5 rfl ?_
    refine v_aload_n hX dX8_trace_5 rfl 0 rfl 6 rfl ?_
    refine gf_0_8 hX q_39 dX8_trace_6 9 rfl ?_
    refine gf_49_1 hX q_1126 dX8_trace_9 ((r 25)) rfl 12 rfl ?_
    refine v_icmp_lt hX dX8_trace_12 18 rfl 15 rfl (fun h2 => ?_) (fun h2 => ?_)
    · replace hf := it_p h2 hf
      refine v_aload_n hX dX8_trace_18 rfl 0 rfl 19 rfl ?_
      refine gf_0_8 hX q_39 dX8_trace_19 22 rfl ?_
      refine gf_49_0 hX q_1206 dX8_trace_22 25 rfl ?_
      refine v_iload_n hX dX8_trace_25 rfl 1 rfl 26 rfl ?_
      obtain ⟨hi1, hf⟩ := gd_e hf
      refine al_50 hX hi1 dX8_trace_26 ((g 50) p1.toNatClampNeg) rfl 27 rfl ?_
      exact hR _ hf _ _ dX8_trace_27 rfl
    · replace hf := it_n h2 hf
      refine v_bipush (v := (-3 : Int32)) hX dX8_trace_15 (by decide) 17 rfl ?_
      exact hR _ hf _ _ dX8_trace_17 rfl
set_option maxRecDepth 100000 in
set_option maxHeartbeats 4000000 in
theorem c8_turned (r : Nat → Int32) (g : Nat → Nat → Int32) (u : Nat → Int64) (h : Nat → Nat → Int64) (p1 : Int32) {res : Int32} (hf : f8_turned (r 1) (r 0) (g 6) (g 8) p1 = some res) : MAi yX8_turned cX8_turned 8 (some .int) 2 (fun a => [.ref (a 0), .int p1]) r g u h res r g u h := by
  refine mi_i (by decide +kernel) (fun a => Nat.le_of_ble_eq_true rfl) (fun X hX hn hR => ?_)
  replace hR : ∀ q : Int32, some q = some res → ∀ lv pc, decode cX8_turned pc = .ok (.ireturn, 1) → narrow .int (.int q) = .int q → VC X r g u h lv [.int q] pc := fun q hq => by cases hq; exact hR
  replace hX : CX X RX8 cX8_turned 2 := hX
  show VC X r g u h [(0, .ref (aX X 0)), (1, .int p1)] [] 0
  rw [f8_turned] at hf
  refine v_aload_n hX dX8_turned_0 rfl 0 rfl 1 rfl ?_
  refine gf_0_0 hX q_16 dX8_turned_1 4 rfl ?_
  refine v_iload_n hX dX8_turned_4 rfl 1 rfl 5 rfl ?_
  obtain ⟨v1, hv1, hf⟩ := bn1_e hf
  refine cv_i hX (c0_isPerson r g u h _ hv1) wvX0_isPerson q_416 rc_1 (Nat.le_of_ble_eq_true rfl) (Nat.le_of_ble_eq_true rfl) (fun _ => rfl) [] rfl (Nat.le_of_ble_eq_true rfl) dX8_turned_5 8 rfl ?_
  refine v_if_ne hX dX8_turned_8 13 rfl 11 rfl (fun h32 => ?_) (fun h32 => ?_)
  · replace hf := it_n h32 hf
    refine v_aload_n hX dX8_turned_13 rfl 0 rfl 14 rfl ?_
    refine gf_0_0 hX q_16 dX8_turned_14 17 rfl ?_
    refine gf_1_5 hX q_414 dX8_turned_17 20 rfl ?_
    refine v_iload_n hX dX8_turned_20 rfl 1 rfl 21 rfl ?_
    obtain ⟨hi2, hf⟩ := gd_e hf
    refine al_6 hX hi2 dX8_turned_21 ((g 6) p1.toNatClampNeg) rfl 22 rfl ?_
    refine v_istore_n hX dX8_turned_22 rfl (ltn hn (by decide)) 23 rfl [(2, .int ((g 6) p1.toNatClampNeg)), (0, .ref (aX X 0)), (1, .int p1)] rfl ?_
    refine v_iconst (v := (0 : Int32)) hX dX8_turned_23 (by decide) 24 rfl ?_
    refine v_istore_n hX dX8_turned_24 rfl (ltn hn (by decide)) 25 rfl [(3, .int (0 : Int32)), (2, .int ((g 6) p1.toNatClampNeg)), (0, .ref (aX X 0)), (1, .int p1)] rfl ?_
    refine v_iconst (v := (0 : Int32)) hX dX8_turned_25 (by decide) 26 rfl ?_
    refine v_istore hX dX8_turned_26 (ltn hn (by decide)) 28 rfl [(4, .int (0 : Int32)), (3, .int (0 : Int32)), (2, .int ((g 6) p1.toNatClampNeg)), (0, .ref (aX X 0)), (1, .int p1)] rfl ?_
    obtain ⟨K5, hK5, hf⟩ := jn_x hf
    have HK5 : ∀ (x3 : Int32) (x4 : Int32), K5 x3 x4 = some res → VC X r g u h [(3, .int x3)] [] 153 := by
      intro x3 x4 hf
      rw [hK5] at hf
      refine v_iload_n hX dX8_turned_153 rfl 0 rfl 154 rfl ?_
      exact hR _ hf _ _ dX8_turned_154 rfl
    have HLK5 : ∀ (n6 : Nat) (x3 : Int32) (x4 : Int32), f8_turned_L28 (r 1) (r 0) (g 6) (g 8) p1 n6 x3 x4 K5 = some res → VC X r g u h [(0, .ref (aX X 0)), (2, .int ((g 6) p1.toNatClampNeg)), (3, .int x3), (4, .int x4)] [] 28 := by
      intro n6
      induction n6 with
      | zero => intro x3 x4 hf; exact no_s hf
      | succ n6 ih =>
        intro x3 x4 hf
        rw [f8_turned_L28] at hf
        refine v_iload hX dX8_turned_28 3 rfl 30 rfl ?_
        refine v_aload_n hX dX8_turned_30 rfl 0 rfl 31 rfl ?_
        refine gf_0_0 hX q_16 dX8_turned_31 34 rfl ?_
        refine gf_1_6 hX q_498 dX8_turned_34 ((r 1)) rfl 37 rfl ?_
        refine v_icmp_ge hX dX8_turned_37 153 rfl 40 rfl (fun h31 => ?_) (fun h31 => ?_)
        · replace hf := it_p h31 hf
          refine v_sub [(3, .int x3)] (sbc 2 rfl sbn) ?_
          exact HK5 _ _ hf
        · replace hf := it_n h31 hf
          refine v_iload hX dX8_turned_40 3 rfl 42 rfl ?_
          refine v_iconst (v := (1 : Int32)) hX dX8_turned_42 (by decide) 43 rfl ?_
          refine v_iadd hX dX8_turned_43 44 rfl ?_
          refine v_istore hX dX8_turned_44 (ltn hn (by decide)) 46 rfl [(5, .int (x4 + (1 : Int32))), (0, .ref (aX X 0)), (2, .int ((g 6) p1.toNatClampNeg)), (3, .int x3), (4, .int x4)] rfl ?_
          obtain ⟨K9, hK9, hf⟩ := jn_x hf
          have HK9 : ∀ (x7 : Int32) (x8 : Int32), K9 x7 x8 = some res → VC X r g u h [(0, .ref (aX X 0)), (2, .int ((g 6) p1.toNatClampNeg)), (3, .int x7), (4, .int x4)] [] 147 := by
            intro x7 x8 hf
            rw [hK9] at hf
            refine v_inc (c := (1 : Int32)) hX dX8_turned_147 3 rfl (by decide) (ltn hn (by decide)) 150 rfl [(4, .int (x4 + (1 : Int32))), (0, .ref (aX X 0)), (2, .int ((g 6) p1.toNatClampNeg)), (3, .int x7)] rfl ?_
            refine v_goto hX dX8_turned_150 28 rfl ?_
            refine v_sub [(0, .ref (aX X 0)), (2, .int ((g 6) p1.toNatClampNeg)), (3, .int x7), (4, .int (x4 + (1 : Int32)))] (sbc 1 rfl (sbc 2 rfl (sbc 3 rfl (sbc 0 rfl sbn)))) ?_
            exact ih _ _ hf
          have HLK9 : ∀ (n10 : Nat) (x7 : Int32) (x8 : Int32), f8_turned_L46 (r 1) (r 0) (g 6) (g 8) p1 x4 n10 x7 x8 K9 = some res → VC X r g u h [(0, .ref (aX X 0)), (2, .int ((g 6) p1.toNatClampNeg)), (3, .int x7), (4, .int x4), (5, .int x8)] [] 46 := by
            intro n10
            induction n10 with
            | zero => intro x7 x8 hf; exact no_s hf
            | succ n10 ih =>
              intro x7 x8 hf
              rw [f8_turned_L46] at hf
              refine v_iload hX dX8_turned_46 4 rfl 48 rfl ?_
              refine v_aload_n hX dX8_turned_48 rfl 0 rfl 49 rfl ?_
              refine gf_0_0 hX q_16 dX8_turned_49 52 rfl ?_
              refine gf_1_6 hX q_498 dX8_turned_52 ((r 1)) rfl 55 rfl ?_
              refine v_icmp_ge hX dX8_turned_55 147 rfl 58 rfl (fun h30 => ?_) (fun h30 => ?_)
              · replace hf := it_p h30 hf
                refine v_sub [(0, .ref (aX X 0)), (2, .int ((g 6) p1.toNatClampNeg)), (3, .int x7), (4, .int x4)] (sbc 0 rfl (sbc 1 rfl (sbc 2 rfl (sbc 3 rfl sbn)))) ?_
                exact HK9 _ _ hf
              · replace hf := it_n h30 hf
                refine v_aload_n hX dX8_turned_58 rfl 0 rfl 59 rfl ?_
                refine gf_0_0 hX q_16 dX8_turned_59 62 rfl ?_
                refine v_iload hX dX8_turned_62 3 rfl 64 rfl ?_
                refine v_iconst (v := (0 : Int32)) hX dX8_turned_64 (by decide) 65 rfl ?_
                obtain ⟨v11, hv11, hf⟩ := bn1_e hf
                refine cv_i hX (c0_oneAt r g u h _ _ hv11) wvX0_oneAt q_658 rc_1 (Nat.le_of_ble_eq_true rfl) (Nat.le_of_ble_eq_true rfl) (fun _ => rfl) [] rfl (Nat.le_of_ble_eq_true rfl) dX8_turned_65 68 rfl ?_
                refine v_iload_n hX dX8_turned_68 rfl 1 rfl 69 rfl ?_
                obtain ⟨J12, hJ12, hf⟩ := jn_x hf
                have HJ12 : ∀ (s13 : Int32), J12 s13 = some res → VC X r g u h [(0, .ref (aX X 0)), (2, .int ((g 6) p1.toNatClampNeg)), (3, .int x7), (4, .int x4), (5, .int x8)] [.int s13] 91 := by
                  intro s13 hf
                  rw [hJ12] at hf
                  refine v_istore hX dX8_turned_91 (ltn hn (by decide)) 93 rfl [(6, .int s13), (0, .ref (aX X 0)), (2, .int ((g 6) p1.toNatClampNeg)), (3, .int x7), (4, .int x4), (5, .int x8)] rfl ?_
                  refine v_aload_n hX dX8_turned_93 rfl 1 rfl 94 rfl ?_
                  refine gf_0_0 hX q_16 dX8_turned_94 97 rfl ?_
                  refine v_iload hX dX8_turned_97 5 rfl 99 rfl ?_
                  refine v_iconst (v := (0 : Int32)) hX dX8_turned_99 (by decide) 100 rfl ?_
                  obtain ⟨v14, hv14, hf⟩ := bn1_e hf
                  refine cv_i hX (c0_oneAt r g u h _ _ hv14) wvX0_oneAt q_658 rc_1 (Nat.le_of_ble_eq_true rfl) (Nat.le_of_ble_eq_true rfl) (fun _ => rfl) [] rfl (Nat.le_of_ble_eq_true rfl) dX8_turned_100 103 rfl ?_
                  refine v_iload_n hX dX8_turned_103 rfl 2 rfl 104 rfl ?_
                  obtain ⟨J15, hJ15, hf⟩ := jn_x hf
                  have HJ15 : ∀ (s16 : Int32), J15 s16 = some res → VC X r g u h [(0, .ref (aX X 0)), (2, .int ((g 6) p1.toNatClampNeg)), (3, .int x7), (4, .int x4), (5, .int x8), (6, .int s13)] [.int s16] 126 := by
                    intro s16 hf
                    rw [hJ15] at hf
                    refine v_istore hX dX8_turned_126 (ltn hn (by decide)) 128 rfl [(7, .int s16), (0, .ref (aX X 0)), (2, .int ((g 6) p1.toNatClampNeg)), (3, .int x7), (4, .int x4), (5, .int x8), (6, .int s13)] rfl ?_
                    refine v_iload hX dX8_turned_128 6 rfl 130 rfl ?_
                    obtain ⟨J17, hJ17, hf⟩ := jn_x hf
                    have HJ17 : ∀ (y18 : Int32), J17 y18 = some res → VC X r g u h [(0, .ref (aX X 0)), (2, .int ((g 6) p1.toNatClampNeg)), (3, .int y18), (4, .int x4), (5, .int x8)] [] 141 := by
                      intro y18 hf
                      rw [hJ17] at hf
                      refine v_inc (c := (1 : Int32)) hX dX8_turned_141 4 rfl (by decide) (ltn hn (by decide)) 144 rfl [(5, .int (x8 + (1 : Int32))), (0, .ref (aX X 0)), (2, .int ((g 6) p1.toNatClampNeg)), (3, .int y18), (4, .int x4)] rfl ?_
                      refine v_goto hX dX8_turned_144 46 rfl ?_
                      refine v_sub [(0, .ref (aX X 0)), (2, .int ((g 6) p1.toNatClampNeg)), (3, .int y18), (4, .int x4), (5, .int (x8 + (1 : Int32)))] (sbc 1 rfl (sbc 2 rfl (sbc 3 rfl (sbc 4 rfl (sbc 0 rfl sbn))))) ?_
                      exact ih _ _ hf
                    obtain ⟨J19, hJ19, hf⟩ := jn_x hf
                    have HJ19 : J19 = some res → VC X r g u h [(0, .ref (aX X 0)), (2, .int ((g 6) p1.toNatClampNeg)), (3, .int x7), (4, .int x4), (5, .int x8)] [] 138 := by
                      intro hf
                      rw [hJ19] at hf
                      refine v_inc (c := (1 : Int32)) hX dX8_turned_138 2 rfl (by decide) (ltn hn (by decide)) 141 rfl [(3, .int (x7 + (1 : Int32))), (0, .ref (aX X 0)), (2, .int ((g 6) p1.toNatClampNeg)), (4, .int x4), (5, .int x8)] rfl ?_
                      refine v_sub [(0, .ref (aX X 0)), (2, .int ((g 6) p1.toNatClampNeg)), (3, .int (x7 + (1 : Int32))), (4, .int x4), (5, .int x8)] (sbc 1 rfl (sbc 2 rfl (sbc 0 rfl (sbc 3 rfl (sbc 4 rfl sbn))))) ?_
                      exact HJ17 _ hf
                    refine v_if_ne hX dX8_turned_130 138 rfl 133 rfl (fun h21 => ?_) (fun h21 => ?_)
                    · replace hf := it_n h21 hf
                      refine v_sub [(0, .ref (aX X 0)), (2, .int ((g 6) p1.toNatClampNeg)), (3, .int x7), (4, .int x4), (5, .int x8)] (sbc 1 rfl (sbc 2 rfl (sbc 3 rfl (sbc 4 rfl (sbc 5 rfl sbn))))) ?_
                      exact HJ19  hf
                    · replace hf := it_p h21 hf
                      refine v_iload hX dX8_turned_133 0 rfl 135 rfl ?_
                      refine v_if_eq hX dX8_turned_135 141 rfl 138 rfl (fun h20 => ?_) (fun h20 => ?_)
                      · replace hf := it_p h20 hf
                        refine v_sub [(0, .ref (aX X 0)), (2, .int ((g 6) p1.toNatClampNeg)), (3, .int x7), (4, .int x4), (5, .int x8)] (sbc 1 rfl (sbc 2 rfl (sbc 3 rfl (sbc 4 rfl (sbc 5 rfl sbn))))) ?_
                        exact HJ17 _ hf
                      · replace hf := it_n h20 hf
                        refine v_sub [(0, .ref (aX X 0)), (2, .int ((g 6) p1.toNatClampNeg)), (3, .int x7), (4, .int x4), (5, .int x8)] (sbc 1 rfl (sbc 2 rfl (sbc 3 rfl (sbc 4 rfl (sbc 5 rfl sbn))))) ?_
                        exact HJ19  hf
                  obtain ⟨J22, hJ22, hf⟩ := jn_x hf
                  have HJ22 : J22 = some res → VC X r g u h [(0, .ref (aX X 0)), (2, .int ((g 6) p1.toNatClampNeg)), (3, .int x7), (4, .int x4), (5, .int x8), (6, .int s13)] [] 125 := by
                    intro hf
                    rw [hJ22] at hf
                    refine v_iconst (v := (0 : Int32)) hX dX8_turned_125 (by decide) 126 rfl ?_
                    exact HJ15 _ hf
                  refine v_icmp_ne hX dX8_turned_104 125 rfl 107 rfl (fun h25 => ?_) (fun h25 => ?_)
                  · replace hf := it_n h25 hf
                    refine v_sub [(0, .ref (aX X 0)), (2, .int ((g 6) p1.toNatClampNeg)), (3, .int x7), (4, .int x4), (5, .int x8), (6, .int s13)] (sbc 1 rfl (sbc 2 rfl (sbc 3 rfl (sbc 4 rfl (sbc 5 rfl (sbc 0 rfl sbn)))))) ?_
                    exact HJ22  hf
                  · replace hf := it_p h25 hf
                    refine v_aload_n hX dX8_turned_107 rfl 1 rfl 108 rfl ?_
                    refine gf_0_0 hX q_16 dX8_turned_108 111 rfl ?_
                    refine v_iload hX dX8_turned_111 4 rfl 113 rfl ?_
                    refine v_iconst (v := (1 : Int32)) hX dX8_turned_113 (by decide) 114 rfl ?_
                    obtain ⟨v23, hv23, hf⟩ := bn1_e hf
                    refine cv_i hX (c0_oneAt r g u h _ _ hv23) wvX0_oneAt q_658 rc_1 (Nat.le_of_ble_eq_true rfl) (Nat.le_of_ble_eq_true rfl) (fun _ => rfl) [] rfl (Nat.le_of_ble_eq_true rfl) dX8_turned_114 117 rfl ?_
                    refine v_iload_n hX dX8_turned_117 rfl 2 rfl 118 rfl ?_
                    refine v_icmp_ne hX dX8_turned_118 125 rfl 121 rfl (fun h24 => ?_) (fun h24 => ?_)
                    · replace hf := it_n h24 hf
                      refine v_sub [(0, .ref (aX X 0)), (2, .int ((g 6) p1.toNatClampNeg)), (3, .int x7), (4, .int x4), (5, .int x8), (6, .int s13)] (sbc 1 rfl (sbc 2 rfl (sbc 3 rfl (sbc 4 rfl (sbc 5 rfl (sbc 0 rfl sbn)))))) ?_
                      exact HJ22  hf
                    · replace hf := it_p h24 hf
                      refine v_iconst (v := (1 : Int32)) hX dX8_turned_121 (by decide) 122 rfl ?_
                      refine v_goto hX dX8_turned_122 126 rfl ?_
                      refine v_sub [(0, .ref (aX X 0)), (2, .int ((g 6) p1.toNatClampNeg)), (3, .int x7), (4, .int x4), (5, .int x8), (6, .int s13)] (sbc 1 rfl (sbc 2 rfl (sbc 3 rfl (sbc 4 rfl (sbc 5 rfl (sbc 0 rfl sbn)))))) ?_
                      exact HJ15 _ hf
                obtain ⟨J26, hJ26, hf⟩ := jn_x hf
                have HJ26 : J26 = some res → VC X r g u h [(0, .ref (aX X 0)), (2, .int ((g 6) p1.toNatClampNeg)), (3, .int x7), (4, .int x4), (5, .int x8)] [] 90 := by
                  intro hf
                  rw [hJ26] at hf
                  refine v_iconst (v := (0 : Int32)) hX dX8_turned_90 (by decide) 91 rfl ?_
                  exact HJ12 _ hf
                refine v_icmp_ne hX dX8_turned_69 90 rfl 72 rfl (fun h29 => ?_) (fun h29 => ?_)
                · replace hf := it_n h29 hf
                  exact HJ26  hf
                · replace hf := it_p h29 hf
                  refine v_aload_n hX dX8_turned_72 rfl 0 rfl 73 rfl ?_
                  refine gf_0_0 hX q_16 dX8_turned_73 76 rfl ?_
                  refine v_iload hX dX8_turned_76 4 rfl 78 rfl ?_
                  refine v_iconst (v := (1 : Int32)) hX dX8_turned_78 (by decide) 79 rfl ?_
                  obtain ⟨v27, hv27, hf⟩ := bn1_e hf
                  refine cv_i hX (c0_oneAt r g u h _ _ hv27) wvX0_oneAt q_658 rc_1 (Nat.le_of_ble_eq_true rfl) (Nat.le_of_ble_eq_true rfl) (fun _ => rfl) [] rfl (Nat.le_of_ble_eq_true rfl) dX8_turned_79 82 rfl ?_
                  refine v_iload_n hX dX8_turned_82 rfl 1 rfl 83 rfl ?_
                  refine v_icmp_ne hX dX8_turned_83 90 rfl 86 rfl (fun h28 => ?_) (fun h28 => ?_)
                  · replace hf := it_n h28 hf
                    exact HJ26  hf
                  · replace hf := it_p h28 hf
                    refine v_iconst (v := (1 : Int32)) hX dX8_turned_86 (by decide) 87 rfl ?_
                    refine v_goto hX dX8_turned_87 91 rfl ?_
                    exact HJ12 _ hf
          refine v_sub [(0, .ref (aX X 0)), (2, .int ((g 6) p1.toNatClampNeg)), (3, .int x3), (4, .int x4), (5, .int (x4 + (1 : Int32)))] (sbc 1 rfl (sbc 2 rfl (sbc 3 rfl (sbc 4 rfl (sbc 0 rfl sbn))))) ?_
          exact HLK9 _ _ _ hf
    refine v_sub [(0, .ref (aX X 0)), (2, .int ((g 6) p1.toNatClampNeg)), (3, .int (0 : Int32)), (4, .int (0 : Int32))] (sbc 3 rfl (sbc 2 rfl (sbc 1 rfl (sbc 0 rfl sbn)))) ?_
    exact HLK5 _ _ _ hf
  · replace hf := it_p h32 hf
    refine v_iconst (v := (-1 : Int32)) hX dX8_turned_11 (by decide) 12 rfl ?_
    exact hR _ hf _ _ dX8_turned_12 rfl
set_option maxRecDepth 100000 in
set_option maxHeartbeats 4000000 in
theorem c8_without (r : Nat → Int32) (g : Nat → Nat → Int32) (u : Nat → Int64) (h : Nat → Nat → Int64) (p1 : Int32) {res : Int32 × (Nat → Int32) × (Nat → Int32)} (hf : f8_without (r 1) (r 0) (g 7) (g 5) (g 3) (g 6) (g 8) (g 29) (g 28) p1 = some res) : MAi yX8_without cX8_without 2 (some .int) 7 (fun a => [.ref (a 0), .int p1]) r g u h res.1 r (lkp g [(29, res.2.1), (28, res.2.2)]) u h := by
  refine mi_i (by decide +kernel) (fun a => Nat.le_of_ble_eq_true rfl) (fun X hX hn hR => ?_)
  replace hR : ∀ q : Int32 × (Nat → Int32) × (Nat → Int32), some q = some res → ∀ lv pc, decode cX8_without pc = .ok (.ireturn, 1) → narrow .int (.int q.1) = .int q.1 → VC X r (lkp g [(29, q.2.1), (28, q.2.2)]) u h lv [.int q.1] pc := fun q hq => by cases hq; exact hR
  replace hX : CX X RX8 cX8_without 7 := hX
  refine v_opg [29, 28] [(29, g 29), (28, g 28)] rfl ?_
  show VC X r (lkp g [(29, g 29), (28, g 28)]) u h [(0, .ref (aX X 0)), (1, .int p1)] [] 0
  rw [f8_without] at hf
  refine v_iload_n hX dX8_without_0 rfl 1 rfl 1 rfl ?_
  refine v_if_lt hX dX8_without_1 9 rfl 4 rfl (fun h5 => ?_) (fun h5 => ?_)
  · replace hf := it_p h5 hf
    refine v_iconst (v := (-1 : Int32)) hX dX8_without_9 (by decide) 10 rfl ?_
    exact hR _ hf _ _ dX8_without_10 rfl
  · replace hf := it_n h5 hf
    refine v_iload_n hX dX8_without_4 rfl 1 rfl 5 rfl ?_
    refine v_iconst (v := (4 : Int32)) hX dX8_without_5 (by decide) 6 rfl ?_
    refine v_icmp_lt hX dX8_without_6 11 rfl 9 rfl (fun h4 => ?_) (fun h4 => ?_)
    · replace hf := it_p h4 hf
      refine v_aload_n hX dX8_without_11 rfl 0 rfl 12 rfl ?_
      refine gf_0_3 hX q_22 dX8_without_12 15 rfl ?_
      refine v_aload_n hX dX8_without_15 rfl 0 rfl 16 rfl ?_
      refine gf_0_0 hX q_16 dX8_without_16 19 rfl ?_
      refine v_iload_n hX dX8_without_19 rfl 1 rfl 20 rfl ?_
      obtain ⟨v1, c2, c3, hv1, hf⟩ := bn3_e hf
      refine cv_i hX (c7_findLot r (lkp g [(29, (g 29)), (28, (g 28))]) u h _ hv1) wvX7_findLot q_708 rc_27 (Nat.le_of_ble_eq_true rfl) (Nat.le_of_ble_eq_true rfl) (fun _ => rfl) [] rfl (Nat.le_of_ble_eq_true rfl) dX8_without_20 23 rfl ?_
      refine v_mgg [(29, c2), (28, c3)] rfl ?_
      exact hR _ hf _ _ dX8_without_23 rfl
    · replace hf := it_n h4 hf
      refine v_iconst (v := (-1 : Int32)) hX dX8_without_9 (by decide) 10 rfl ?_
      exact hR _ hf _ _ dX8_without_10 rfl
