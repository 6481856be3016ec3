set_option maxRecDepth 100000 in
set_option maxHeartbeats 4000000 in
theorem c5_holds_t39 (r : Nat → Int32) (g : Nat → Nat → Int32) (u : Nat → Int64) (h : Nat → Nat → Int64) (p1 : Int32) (p2 : Int32) {res : Int32} (hf : f5_holds (r 23) p1 p2 = some res) : MAi yX5_holds cX5_holds 3 (some .boolean) 0 (fun a => [.ref (a 39), .int p1, .int p2]) r g u h res r g u h := by
  refine mi_i (by decide +kernel) (fun a => Nat.le_of_ble_eq_true rfl) (fun X hX hn hR => ?_)
  replace hR : ∀ q : Int32, some q = some res → ∀ lv pc, decode cX5_holds pc = .ok (.ireturn, 1) → narrow .boolean (.int q) = .int q → VC X r g u h lv [.int q] pc := fun q hq => by cases hq; exact hR
  replace hX : CX X RX5 cX5_holds 0 := hX
  show VC X r g u h [(0, .ref (aX X 39)), (1, .int p1), (2, .int p2)] [] 0
  rw [f5_holds] at hf
  refine v_iload_n hX dX5_holds_0 rfl 1 rfl 1 rfl ?_
  refine v_if_lt hX dX5_holds_1 25 rfl 4 rfl (fun h4 => ?_) (fun h4 => ?_)
  · replace hf := it_p h4 hf
    refine v_iconst (v := (0 : Int32)) hX dX5_holds_25 (by decide) 26 rfl ?_
    exact hR _ hf _ _ dX5_holds_26 (bz_nar (v := (0 : Int32)) (by decide))
  · replace hf := it_n h4 hf
    refine v_iload_n hX dX5_holds_4 rfl 1 rfl 5 rfl ?_
    refine v_aload_n hX dX5_holds_5 rfl 0 rfl 6 rfl ?_
    refine gf_39_1 hX q_948 dX5_holds_6 ((r 23)) rfl 9 rfl ?_
    refine v_icmp_ge hX dX5_holds_9 25 rfl 12 rfl (fun h3 => ?_) (fun h3 => ?_)
    · replace hf := it_p h3 hf
      refine v_iconst (v := (0 : Int32)) hX dX5_holds_25 (by decide) 26 rfl ?_
      exact hR _ hf _ _ dX5_holds_26 (bz_nar (v := (0 : Int32)) (by decide))
    · replace hf := it_n h3 hf
      refine v_iload_n hX dX5_holds_12 rfl 2 rfl 13 rfl ?_
      refine v_if_lt hX dX5_holds_13 25 rfl 16 rfl (fun h2 => ?_) (fun h2 => ?_)
      · replace hf := it_p h2 hf
        refine v_iconst (v := (0 : Int32)) hX dX5_holds_25 (by decide) 26 rfl ?_
        exact hR _ hf _ _ dX5_holds_26 (bz_nar (v := (0 : Int32)) (by decide))
      · replace hf := it_n h2 hf
        refine v_iload_n hX dX5_holds_16 rfl 2 rfl 17 rfl ?_
        refine v_iconst (v := (3 : Int32)) hX dX5_holds_17 (by decide) 18 rfl ?_
        refine v_icmp_ge hX dX5_holds_18 25 rfl 21 rfl (fun h1 => ?_) (fun h1 => ?_)
        · replace hf := it_p h1 hf
          refine v_iconst (v := (0 : Int32)) hX dX5_holds_25 (by decide) 26 rfl ?_
          exact hR _ hf _ _ dX5_holds_26 (bz_nar (v := (0 : Int32)) (by decide))
        · replace hf := it_n h1 hf
          refine v_iconst (v := (1 : Int32)) hX dX5_holds_21 (by decide) 22 rfl ?_
          refine v_goto hX dX5_holds_22 26 rfl ?_
          exact hR _ hf _ _ dX5_holds_26 (bz_nar (v := (1 : Int32)) (by decide))
set_option maxRecDepth 100000 in
set_option maxHeartbeats 4000000 in
theorem c5_entry_t39 (r : Nat → Int32) (g : Nat → Nat → Int32) (u : Nat → Int64) (h : Nat → Nat → Int64) (p1 : Int32) (p2 : Int32) {res : Int32} (hf : f5_entry (r 23) (g 40) p1 p2 = some res) : MAi yX5_entry cX5_entry 3 (some .int) 1 (fun a => [.ref (a 39), .int p1, .int p2]) r g u h res r g u h := by
  refine mi_i (by decide +kernel) (fun a => Nat.le_of_ble_eq_true rfl) (fun X hX hn hR => ?_)
  replace hR : ∀ q : Int32, some q = some res → ∀ lv pc, decode cX5_entry pc = .ok (.ireturn, 1) → narrow .int (.int q) = .int q → VC X r g u h lv [.int q] pc := fun q hq => by cases hq; exact hR
  replace hX : CX X RX5 cX5_entry 1 := hX
  show VC X r g u h [(0, .ref (aX X 39)), (1, .int p1), (2, .int p2)] [] 0
  rw [f5_entry] at hf
  refine v_aload_n hX dX5_entry_0 rfl 0 rfl 1 rfl ?_
  refine v_iload_n hX dX5_entry_1 rfl 1 rfl 2 rfl ?_
  refine v_iload_n hX dX5_entry_2 rfl 2 rfl 3 rfl ?_
  obtain ⟨v1, hv1, hf⟩ := bn1_e hf
  refine cv_i hX (c5_holds_t39 r g u h _ _ hv1) wvX5_holds q_977 rc_39 (Nat.le_of_ble_eq_true rfl) (Nat.le_of_ble_eq_true rfl) (fun _ => rfl) [] rfl (Nat.le_of_ble_eq_true rfl) dX5_entry_3 6 rfl ?_
  refine v_if_eq hX dX5_entry_6 22 rfl 9 rfl (fun h3 => ?_) (fun h3 => ?_)
  · replace hf := it_p h3 hf
    refine v_bipush (v := (-9 : Int32)) hX dX5_entry_22 (by decide) 24 rfl ?_
    exact hR _ hf _ _ dX5_entry_24 rfl
  · replace hf := it_n h3 hf
    refine v_aload_n hX dX5_entry_9 rfl 0 rfl 10 rfl ?_
    refine gf_39_0 hX q_84 dX5_entry_10 13 rfl ?_
    refine v_iload_n hX dX5_entry_13 rfl 1 rfl 14 rfl ?_
    refine v_iconst (v := (3 : Int32)) hX dX5_entry_14 (by decide) 15 rfl ?_
    refine v_imul hX dX5_entry_15 16 rfl ?_
    refine v_iload_n hX dX5_entry_16 rfl 2 rfl 17 rfl ?_
    refine v_iadd hX dX5_entry_17 18 rfl ?_
    obtain ⟨hi2, hf⟩ := gd_e hf
    refine al_40 hX hi2 dX5_entry_18 ((g 40) ((p1 * (3 : Int32)) + p2).toNatClampNeg) rfl 19 rfl ?_
    refine v_goto hX dX5_entry_19 24 rfl ?_
    exact hR _ hf _ _ dX5_entry_24 rfl
set_option maxRecDepth 100000 in
set_option maxHeartbeats 4000000 in
theorem c7_sign (r : Nat → Int32) (g : Nat → Nat → Int32) (u : Nat → Int64) (h : Nat → Nat → Int64) (p1 : Int32) (p2 : Int32) {res : Int32} (hf : f7_sign (g 3) p1 p2 = some res) : MAi yX7_sign cX7_sign 3 (some .int) 1 (fun a => [.ref (a 1), .int p1, .int p2]) r g u h res r g u h := by
  refine mi_i (by decide +kernel) (fun a => Nat.le_of_ble_eq_true rfl) (fun X hX hn hR => ?_)
  replace hR : ∀ q : Int32, some q = some res → ∀ lv pc, decode cX7_sign pc = .ok (.ireturn, 1) → narrow .int (.int q) = .int q → VC X r g u h lv [.int q] pc := fun q hq => by cases hq; exact hR
  replace hX : CX X RX7 cX7_sign 1 := hX
  show VC X r g u h [(0, .ref (aX X 1)), (1, .int p1), (2, .int p2)] [] 0
  rw [f7_sign] at hf
  refine v_iload_n hX dX7_sign_0 rfl 1 rfl 1 rfl ?_
  refine v_iload_n hX dX7_sign_1 rfl 2 rfl 2 rfl ?_
  refine v_icmp_ne hX dX7_sign_2 9 rfl 5 rfl (fun h2 => ?_) (fun h2 => ?_)
  · replace hf := it_n h2 hf
    refine v_aload_n hX dX7_sign_9 rfl 0 rfl 10 rfl ?_
    refine v_iload_n hX dX7_sign_10 rfl 1 rfl 11 rfl ?_
    obtain ⟨v1, hv1, hf⟩ := bn1_e hf
    refine cv_i hX (c0_law r g u h _ hv1) wvX0_law q_570 rc_1 (Nat.le_of_ble_eq_true rfl) (Nat.le_of_ble_eq_true rfl) (fun _ => rfl) [] rfl (Nat.le_of_ble_eq_true rfl) dX7_sign_11 14 rfl ?_
    exact hR _ hf _ _ dX7_sign_14 rfl
  · replace hf := it_p h2 hf
    refine v_iconst (v := (0 : Int32)) hX dX7_sign_5 (by decide) 6 rfl ?_
    refine v_goto hX dX7_sign_6 14 rfl ?_
    exact hR _ hf _ _ dX7_sign_14 rfl
set_option maxRecDepth 100000 in
set_option maxHeartbeats 4000000 in
theorem c7_placeSign (r : Nat → Int32) (g : Nat → Nat → Int32) (u : Nat → Int64) (h : Nat → Nat → Int64) (p1 : Int32) (p2 : Int32) (p3 : Int32) (p4 : Int32) (p5 : Int32) {res : Int32} (hf : f7_placeSign (r 1) (r 0) (g 5) (g 3) (g 6) (g 8) p1 p2 p3 p4 p5 = some res) : MAi yX7_placeSign cX7_placeSign 7 (some .int) 2 (fun a => [.ref (a 1), .int p1, .int p2, .int p3, .int p4, .int p5]) r g u h res r g u h := by
  refine mi_i (by decide +kernel) (fun a => Nat.le_of_ble_eq_true rfl) (fun X hX hn hR => ?_)
  replace hR : ∀ q : Int32, some q = some res → ∀ lv pc, decode cX7_placeSign pc = .ok (.ireturn, 1) → narrow .int (.int q) = .int q → VC X r g u h lv [.int q] pc := fun q hq => by cases hq; exact hR
  replace hX : CX X RX7 cX7_placeSign 2 := hX
  show VC X r g u h [(0, .ref (aX X 1)), (1, .int p1), (2, .int p2), (3, .int p3), (4, .int p4), (5, .int p5)] [] 0
  rw [f7_placeSign] at hf
  refine v_aload_n hX dX7_placeSign_0 rfl 0 rfl 1 rfl ?_
  refine v_iload_n hX dX7_placeSign_1 rfl 1 rfl 2 rfl ?_
  refine v_iload_n hX dX7_placeSign_2 rfl 2 rfl 3 rfl ?_
  obtain ⟨v1, hv1, hf⟩ := bn1_e hf
  refine cv_i hX (c0_oneAt r g u h _ _ hv1) wvX0_oneAt q_565 rc_1 (Nat.le_of_ble_eq_true rfl) (Nat.le_of_ble_eq_true rfl) (fun _ => rfl) [] rfl (Nat.le_of_ble_eq_true rfl) dX7_placeSign_3 6 rfl ?_
  refine v_istore hX dX7_placeSign_6 (ltn hn (by decide)) 8 rfl [(6, .int v1), (0, .ref (aX X 1)), (1, .int p1), (2, .int p2), (3, .int p3), (4, .int p4), (5, .int p5)] rfl ?_
  refine v_iload hX dX7_placeSign_8 0 rfl 10 rfl ?_
  refine v_bipush (v := (-9 : Int32)) hX dX7_placeSign_10 (by decide) 12 rfl ?_
  refine v_icmp_eq hX dX7_placeSign_12 36 rfl 15 rfl (fun h12 => ?_) (fun h12 => ?_)
  · replace hf := it_p h12 hf
    refine v_iconst (v := (0 : Int32)) hX dX7_placeSign_36 (by decide) 37 rfl ?_
    exact hR _ hf _ _ dX7_placeSign_37 rfl
  · replace hf := it_n h12 hf
    refine v_iload hX dX7_placeSign_15 0 rfl 17 rfl ?_
    refine v_aload_n hX dX7_placeSign_17 rfl 1 rfl 18 rfl ?_
    refine v_iload_n hX dX7_placeSign_18 rfl 4 rfl 19 rfl ?_
    refine v_iload hX dX7_placeSign_19 5 rfl 21 rfl ?_
    obtain ⟨v2, hv2, hf⟩ := bn1_e hf
    refine cv_i hX (c0_oneAt r g u h _ _ hv2) wvX0_oneAt q_565 rc_1 (Nat.le_of_ble_eq_true rfl) (Nat.le_of_ble_eq_true rfl) (fun _ => rfl) [.int v1] rfl (Nat.le_of_ble_eq_true rfl) dX7_placeSign_21 24 rfl ?_
    refine v_icmp_ne hX dX7_placeSign_24 36 rfl 27 rfl (fun h11 => ?_) (fun h11 => ?_)
    · replace hf := it_n h11 hf
      refine v_iconst (v := (0 : Int32)) hX dX7_placeSign_36 (by decide) 37 rfl ?_
      exact hR _ hf _ _ dX7_placeSign_37 rfl
    · replace hf := it_p h11 hf
      refine v_aload_n hX dX7_placeSign_27 rfl 1 rfl 28 rfl ?_
      refine v_iload hX dX7_placeSign_28 0 rfl 30 rfl ?_
      obtain ⟨v3, hv3, hf⟩ := bn1_e hf
      refine cv_i hX (c0_isHub r g u h _ hv3) wvX0_isHub q_566 rc_1 (Nat.le_of_ble_eq_true rfl) (Nat.le_of_ble_eq_true rfl) (fun _ => rfl) [] rfl (Nat.le_of_ble_eq_true rfl) dX7_placeSign_30 33 rfl ?_
      refine v_if_eq hX dX7_placeSign_33 38 rfl 36 rfl (fun h10 => ?_) (fun h10 => ?_)
      · replace hf := it_p h10 hf
        refine v_iload_n hX dX7_placeSign_38 rfl 3 rfl 39 rfl ?_
        refine v_iload hX dX7_placeSign_39 5 rfl 41 rfl ?_
        refine v_icmp_ne hX dX7_placeSign_41 52 rfl 44 rfl (fun h9 => ?_) (fun h9 => ?_)
        · replace hf := it_n h9 hf
          refine v_aload_n hX dX7_placeSign_52 rfl 1 rfl 53 rfl ?_
          refine v_iload_n hX dX7_placeSign_53 rfl 3 rfl 54 rfl ?_
          refine v_iload hX dX7_placeSign_54 5 rfl 56 rfl ?_
          refine v_iadd hX dX7_placeSign_56 57 rfl ?_
          refine v_iconst (v := (1 : Int32)) hX dX7_placeSign_57 (by decide) 58 rfl ?_
          obtain ⟨J4, hJ4, hf⟩ := jn_x hf
          have HJ4 : ∀ (s5 : Int32), J4 s5 = some res → VC X r g u h [(5, .int p5)] [.int s5, .ref (aX X 1)] 66 := by
            intro s5 hf
            rw [hJ4] at hf
            refine v_iload hX dX7_placeSign_66 0 rfl 68 rfl ?_
            obtain ⟨v6, hv6, hf⟩ := bn1_e hf
            refine cs_i hX (c7_sign r g u h _ _ hv6) wvX7_sign q_567 (Nat.le_of_ble_eq_true rfl) (Nat.le_of_ble_eq_true rfl) (fun _ => rfl) [] rfl (Nat.le_of_ble_eq_true rfl) dX7_placeSign_68 71 rfl ?_
            exact hR _ hf _ _ dX7_placeSign_71 rfl
          refine v_icmp_ne hX dX7_placeSign_58 65 rfl 61 rfl (fun h7 => ?_) (fun h7 => ?_)
          · replace hf := it_n h7 hf
            refine v_iconst (v := (2 : Int32)) hX dX7_placeSign_65 (by decide) 66 rfl ?_
            refine v_sub [(5, .int p5)] (sbc 6 rfl sbn) ?_
            exact HJ4 _ hf
          · replace hf := it_p h7 hf
            refine v_iconst (v := (1 : Int32)) hX dX7_placeSign_61 (by decide) 62 rfl ?_
            refine v_goto hX dX7_placeSign_62 66 rfl ?_
            refine v_sub [(5, .int p5)] (sbc 6 rfl sbn) ?_
            exact HJ4 _ hf
        · replace hf := it_p h9 hf
          refine v_aload_n hX dX7_placeSign_44 rfl 1 rfl 45 rfl ?_
          refine v_iconst (v := (0 : Int32)) hX dX7_placeSign_45 (by decide) 46 rfl ?_
          refine v_iload hX dX7_placeSign_46 6 rfl 48 rfl ?_
          obtain ⟨v8, hv8, hf⟩ := bn1_e hf
          refine cs_i hX (c7_sign r g u h _ _ hv8) wvX7_sign q_567 (Nat.le_of_ble_eq_true rfl) (Nat.le_of_ble_eq_true rfl) (fun _ => rfl) [] rfl (Nat.le_of_ble_eq_true rfl) dX7_placeSign_48 51 rfl ?_
          exact hR _ hf _ _ dX7_placeSign_51 rfl
      · replace hf := it_n h10 hf
        refine v_iconst (v := (0 : Int32)) hX dX7_placeSign_36 (by decide) 37 rfl ?_
        exact hR _ hf _ _ dX7_placeSign_37 rfl
set_option maxRecDepth 100000 in
set_option maxHeartbeats 4000000 in
theorem c7_weigh (r : Nat → Int32) (g : Nat → Nat → Int32) (u : Nat → Int64) (h : Nat → Nat → Int64) (p0 : Int32) (p1 : Int32) (p2 : Int32) {res : Int32} (hf : f7_weigh p0 p1 p2 = some res) : MAi yX7_weigh cX7_weigh 4 (some .int) 1 (fun a => [.int p0, .int p1, .int p2]) r g u h res r g u h := by
  refine mi_i (by decide +kernel) (fun a => Nat.le_of_ble_eq_true rfl) (fun X hX hn hR => ?_)
  replace hR : ∀ q : Int32, some q = some res → ∀ lv pc, decode cX7_weigh pc = .ok (.ireturn, 1) → narrow .int (.int q) = .int q → VC X r g u h lv [.int q] pc := fun q hq => by cases hq; exact hR
  replace hX : CX X RX7 cX7_weigh 1 := hX
  show VC X r g u h [(0, .int p0), (1, .int p1), (2, .int p2)] [] 0
  rw [f7_weigh] at hf
  refine v_iload_n hX dX7_weigh_0 rfl 1 rfl 1 rfl ?_
  obtain ⟨J1, hJ1, hf⟩ := jn_x hf
  have HJ1 : ∀ (s2 : Int32), J1 s2 = some res → VC X r g u h [(0, .int p0), (1, .int p1), (2, .int p2)] [.int s2] 11 := by
    intro s2 hf
    rw [hJ1] at hf
    refine v_istore_n hX dX7_weigh_11 rfl (ltn hn (by decide)) 12 rfl [(3, .int s2), (0, .int p0), (1, .int p1), (2, .int p2)] rfl ?_
    refine v_iload_n hX dX7_weigh_12 rfl 1 rfl 13 rfl ?_
    rcases Decidable.em (p0 = (1 : Int32)) with h3 | h3
    · replace hf := it_p h3 hf
      refine v_tsIn hX dX7_weigh_13 (1 : Int32) h3 (by decide) (by decide) (35) (by decide +kernel) 48 rfl ?_
      refine v_iload_n hX dX7_weigh_48 rfl 0 rfl 49 rfl ?_
      exact hR _ hf _ _ dX7_weigh_49 rfl
    · replace hf := it_n h3 hf
      rcases Decidable.em (p0 = (2 : Int32)) with h4 | h4
      · replace hf := it_p h4 hf
        refine v_tsIn hX dX7_weigh_13 (2 : Int32) h4 (by decide) (by decide) (41) (by decide +kernel) 54 rfl ?_
        refine v_iload_n hX dX7_weigh_54 rfl 2 rfl 55 rfl ?_
        refine v_iconst (v := (2 : Int32)) hX dX7_weigh_55 (by decide) 56 rfl ?_
        refine v_idiv hX dX7_weigh_56 (by decide) 57 rfl ?_
        exact hR _ hf _ _ dX7_weigh_57 rfl
      · replace hf := it_n h4 hf
        rcases Decidable.em (p0 = (3 : Int32)) with h5 | h5
        · replace hf := it_p h5 hf
          refine v_tsIn hX dX7_weigh_13 (3 : Int32) h5 (by decide) (by decide) (37) (by decide +kernel) 50 rfl ?_
          refine v_iconst (v := (2 : Int32)) hX dX7_weigh_50 (by decide) 51 rfl ?_
          refine v_iload_n hX dX7_weigh_51 rfl 0 rfl 52 rfl ?_
          refine v_imul hX dX7_weigh_52 53 rfl ?_
          exact hR _ hf _ _ dX7_weigh_53 rfl
        · replace hf := it_n h5 hf
          rcases Decidable.em (p0 = (4 : Int32)) with h6 | h6
          · replace hf := it_p h6 hf
            refine v_tsIn hX dX7_weigh_13 (4 : Int32) h6 (by decide) (by decide) (45) (by decide +kernel) 58 rfl ?_
            refine v_iconst (v := (0 : Int32)) hX dX7_weigh_58 (by decide) 59 rfl ?_
            refine v_iload_n hX dX7_weigh_59 rfl 2 rfl 60 rfl ?_
            refine v_iconst (v := (2 : Int32)) hX dX7_weigh_60 (by decide) 61 rfl ?_
            refine v_idiv hX dX7_weigh_61 (by decide) 62 rfl ?_
            refine v_iconst (v := (1 : Int32)) hX dX7_weigh_62 (by decide) 63 rfl ?_
            refine v_isub hX dX7_weigh_63 64 rfl ?_
            refine v_mmax hX (Nat.le_of_ble_eq_true rfl) q_561 (Nat.le_of_ble_eq_true rfl) dX7_weigh_64 67 rfl ?_
            exact hR _ hf _ _ dX7_weigh_67 rfl
          · replace hf := it_n h6 hf
            rcases Decidable.em (p0 = (5 : Int32)) with h7 | h7
            · replace hf := it_p h7 hf
              refine v_tsIn hX dX7_weigh_13 (5 : Int32) h7 (by decide) (by decide) (55) (by decide +kernel) 68 rfl ?_
              refine v_iload_n hX dX7_weigh_68 rfl 2 rfl 69 rfl ?_
              refine v_iload_n hX dX7_weigh_69 rfl 3 rfl 70 rfl ?_
              refine v_bipush (v := (10 : Int32)) hX dX7_weigh_70 (by decide) 72 rfl ?_
              refine v_idiv hX dX7_weigh_72 (by decide) 73 rfl ?_
              refine v_iadd hX dX7_weigh_73 74 rfl ?_
              exact hR _ hf _ _ dX7_weigh_74 rfl
            · replace hf := it_n h7 hf
              refine v_tsD hX dX7_weigh_13 [1, 2, 3, 4, 5] (sw_c h3 (by decide) (sw_c h4 (by decide) (sw_c h5 (by decide) (sw_c h6 (by decide) (sw_c h7 (by decide) sw_n))))) (by decide) (by decide +kernel) 75 rfl ?_
              refine v_iload_n hX dX7_weigh_75 rfl 2 rfl 76 rfl ?_
              exact hR _ hf _ _ dX7_weigh_76 rfl
  refine v_if_le hX dX7_weigh_1 10 rfl 4 rfl (fun h8 => ?_) (fun h8 => ?_)
  · replace hf := it_p h8 hf
    refine v_iconst (v := (0 : Int32)) hX dX7_weigh_10 (by decide) 11 rfl ?_
    exact HJ1 _ hf
  · replace hf := it_n h8 hf
    refine v_iload_n hX dX7_weigh_4 rfl 1 rfl 5 rfl ?_
    refine v_iconst (v := (1 : Int32)) hX dX7_weigh_5 (by decide) 6 rfl ?_
    refine v_iadd hX dX7_weigh_6 7 rfl ?_
    refine v_goto hX dX7_weigh_7 11 rfl ?_
    exact HJ1 _ hf
set_option maxRecDepth 100000 in
set_option maxHeartbeats 4000000 in
theorem c7_strength (r : Nat → Int32) (g : Nat → Nat → Int32) (u : Nat → Int64) (h : Nat → Nat → Int64) (p2 : Int32) (p3 : Int32) (p4 : Int32) {res : Int32} (hf : f7_strength (r 1) (r 0) (g 7) (g 5) (g 3) (g 6) (g 8) p2 p3 p4 = some res) : MAi yX7_strength cX7_strength 10 (some .int) 3 (fun a => [.ref (a 27), .ref (a 1), .int p2, .int p3, .int p4]) r g u h res r g u h := by
  refine mi_i (by decide +kernel) (fun a => Nat.le_of_ble_eq_true rfl) (fun X hX hn hR => ?_)
  replace hR : ∀ q : Int32, some q = some res → ∀ lv pc, decode cX7_strength pc = .ok (.ireturn, 1) → narrow .int (.int q) = .int q → VC X r g u h lv [.int q] pc := fun q hq => by cases hq; exact hR
  replace hX : CX X RX7 cX7_strength 3 := hX
  show VC X r g u h [(0, .ref (aX X 27)), (1, .ref (aX X 1)), (2, .int p2), (3, .int p3), (4, .int p4)] [] 0
  rw [f7_strength] at hf
  refine v_iload_n hX dX7_strength_0 rfl 2 rfl 1 rfl ?_
  refine v_iload_n hX dX7_strength_1 rfl 3 rfl 2 rfl ?_
  refine v_mmin hX (Nat.le_of_ble_eq_true rfl) q_560 (Nat.le_of_ble_eq_true rfl) dX7_strength_2 5 rfl ?_
  refine v_istore hX dX7_strength_5 (ltn hn (by decide)) 7 rfl [(5, .int (if p3 < p2 then p3 else p2)), (0, .ref (aX X 27)), (1, .ref (aX X 1)), (2, .int p2), (3, .int p3), (4, .int p4)] rfl ?_
  refine v_iload_n hX dX7_strength_7 rfl 3 rfl 8 rfl ?_
  refine v_iload_n hX dX7_strength_8 rfl 4 rfl 9 rfl ?_
  refine v_mmax hX (Nat.le_of_ble_eq_true rfl) q_561 (Nat.le_of_ble_eq_true rfl) dX7_strength_9 12 rfl ?_
  refine v_istore hX dX7_strength_12 (ltn hn (by decide)) 14 rfl [(6, .int (if p2 < p3 then p3 else p2)), (5, .int (if p3 < p2 then p3 else p2)), (0, .ref (aX X 27)), (1, .ref (aX X 1)), (2, .int p2), (3, .int p3), (4, .int p4)] rfl ?_
  refine v_iconst (v := (0 : Int32)) hX dX7_strength_14 (by decide) 15 rfl ?_
  refine v_istore hX dX7_strength_15 (ltn hn (by decide)) 17 rfl [(7, .int (0 : Int32)), (6, .int (if p2 < p3 then p3 else p2)), (5, .int (if p3 < p2 then p3 else p2)), (0, .ref (aX X 27)), (1, .ref (aX X 1)), (2, .int p2), (3, .int p3), (4, .int p4)] rfl ?_
  refine v_iconst (v := (0 : Int32)) hX dX7_strength_17 (by decide) 18 rfl ?_
  refine v_istore hX dX7_strength_18 (ltn hn (by decide)) 20 rfl [(8, .int (0 : Int32)), (7, .int (0 : Int32)), (6, .int (if p2 < p3 then p3 else p2)), (5, .int (if p3 < p2 then p3 else p2)), (0, .ref (aX X 27)), (1, .ref (aX X 1)), (2, .int p2), (3, .int p3), (4, .int p4)] rfl ?_
  obtain ⟨K3, hK3, hf⟩ := jn_x hf
  have HK3 : ∀ (x1 : Int32) (x2 : Int32), K3 x1 x2 = some res → VC X r g u h [(1, .ref (aX X 1)), (4, .int p4), (5, .int (if p3 < p2 then p3 else p2)), (6, .int (if p2 < p3 then p3 else p2)), (7, .int x1)] [] 66 := by
    intro x1 x2 hf
    rw [hK3] at hf
    refine v_aload_n hX dX7_strength_66 rfl 0 rfl 67 rfl ?_
    refine v_iload hX dX7_strength_67 2 rfl 69 rfl ?_
    refine v_iconst (v := (3 : Int32)) hX dX7_strength_69 (by decide) 70 rfl ?_
    obtain ⟨v12, hv12, hf⟩ := bn1_e hf
    refine cv_i hX (c0_fact r g u h _ _ hv12) wvX0_fact q_574 rc_1 (Nat.le_of_ble_eq_true rfl) (Nat.le_of_ble_eq_true rfl) (fun _ => rfl) [] rfl (Nat.le_of_ble_eq_true rfl) dX7_strength_70 73 rfl ?_
    refine v_istore hX dX7_strength_73 (ltn hn (by decide)) 75 rfl [(8, .int v12), (1, .ref (aX X 1)), (4, .int p4), (5, .int (if p3 < p2 then p3 else p2)), (6, .int (if p2 < p3 then p3 else p2)), (7, .int x1)] rfl ?_
    refine v_iload hX dX7_strength_75 0 rfl 77 rfl ?_
    obtain ⟨J13, hJ13, hf⟩ := jn_x hf
    have HJ13 : ∀ (y14 : Int32), J13 y14 = some res → VC X r g u h [(1, .ref (aX X 1)), (5, .int (if p3 < p2 then p3 else p2)), (6, .int (if p2 < p3 then p3 else p2)), (7, .int y14)] [] 104 := by
      intro y14 hf
      rw [hJ13] at hf
      refine v_aload_n hX dX7_strength_104 rfl 0 rfl 105 rfl ?_
      refine v_iload hX dX7_strength_105 1 rfl 107 rfl ?_
      refine v_iconst (v := (0 : Int32)) hX dX7_strength_107 (by decide) 108 rfl ?_
      obtain ⟨v15, hv15, hf⟩ := bn1_e hf
      refine cv_i hX (c0_fact r g u h _ _ hv15) wvX0_fact q_574 rc_1 (Nat.le_of_ble_eq_true rfl) (Nat.le_of_ble_eq_true rfl) (fun _ => rfl) [] rfl (Nat.le_of_ble_eq_true rfl) dX7_strength_108 111 rfl ?_
      refine v_iload hX dX7_strength_111 3 rfl 113 rfl ?_
      refine v_aload_n hX dX7_strength_113 rfl 0 rfl 114 rfl ?_
      refine v_iload hX dX7_strength_114 1 rfl 116 rfl ?_
      refine v_iconst (v := (4 : Int32)) hX dX7_strength_116 (by decide) 117 rfl ?_
      obtain ⟨v16, hv16, hf⟩ := bn1_e hf
      refine cv_i hX (c0_fact r g u h _ _ hv16) wvX0_fact q_574 rc_1 (Nat.le_of_ble_eq_true rfl) (Nat.le_of_ble_eq_true rfl) (fun _ => rfl) [.int y14, .int v15] rfl (Nat.le_of_ble_eq_true rfl) dX7_strength_117 120 rfl ?_
      obtain ⟨v17, hv17, hf⟩ := bn1_e hf
      refine cs_i hX (c7_weigh r g u h _ _ _ hv17) wvX7_weigh q_575 (Nat.le_of_ble_eq_true rfl) (Nat.le_of_ble_eq_true rfl) (fun _ => rfl) [] rfl (Nat.le_of_ble_eq_true rfl) dX7_strength_120 123 rfl ?_
      refine v_istore hX dX7_strength_123 (ltn hn (by decide)) 125 rfl [(7, .int v17), (1, .ref (aX X 1)), (5, .int (if p3 < p2 then p3 else p2)), (6, .int (if p2 < p3 then p3 else p2))] rfl ?_
      refine v_aload_n hX dX7_strength_125 rfl 1 rfl 126 rfl ?_
      refine v_iload hX dX7_strength_126 3 rfl 128 rfl ?_
      refine v_iconst (v := (0 : Int32)) hX dX7_strength_128 (by decide) 129 rfl ?_
      obtain ⟨v18, hv18, hf⟩ := bn1_e hf
      refine cv_i hX (c0_fact r g u h _ _ hv18) wvX0_fact q_574 rc_1 (Nat.le_of_ble_eq_true rfl) (Nat.le_of_ble_eq_true rfl) (fun _ => rfl) [] rfl (Nat.le_of_ble_eq_true rfl) dX7_strength_129 132 rfl ?_
      refine v_iload hX dX7_strength_132 0 rfl 134 rfl ?_
      refine v_aload_n hX dX7_strength_134 rfl 1 rfl 135 rfl ?_
      refine v_iload hX dX7_strength_135 3 rfl 137 rfl ?_
      refine v_iconst (v := (4 : Int32)) hX dX7_strength_137 (by decide) 138 rfl ?_
      obtain ⟨v19, hv19, hf⟩ := bn1_e hf
      refine cv_i hX (c0_fact r g u h _ _ hv19) wvX0_fact q_574 rc_1 (Nat.le_of_ble_eq_true rfl) (Nat.le_of_ble_eq_true rfl) (fun _ => rfl) [.int v17, .int v18] rfl (Nat.le_of_ble_eq_true rfl) dX7_strength_138 141 rfl ?_
      obtain ⟨v20, hv20, hf⟩ := bn1_e hf
      refine cs_i hX (c7_weigh r g u h _ _ _ hv20) wvX7_weigh q_575 (Nat.le_of_ble_eq_true rfl) (Nat.le_of_ble_eq_true rfl) (fun _ => rfl) [] rfl (Nat.le_of_ble_eq_true rfl) dX7_strength_141 144 rfl ?_
      exact hR _ hf _ _ dX7_strength_144 rfl
    refine v_if_eq hX dX7_strength_77 104 rfl 80 rfl (fun h24 => ?_) (fun h24 => ?_)
    · replace hf := it_p h24 hf
      refine v_sub [(1, .ref (aX X 1)), (5, .int (if p3 < p2 then p3 else p2)), (6, .int (if p2 < p3 then p3 else p2)), (7, .int x1)] (sbc 1 rfl (sbc 3 rfl (sbc 4 rfl (sbc 5 rfl sbn)))) ?_
      exact HJ13 _ hf
    · replace hf := it_n h24 hf
      refine v_iload hX dX7_strength_80 0 rfl 82 rfl ?_
      refine v_aload_n hX dX7_strength_82 rfl 1 rfl 83 rfl ?_
      refine v_iload hX dX7_strength_83 4 rfl 85 rfl ?_
      refine v_iconst (v := (3 : Int32)) hX dX7_strength_85 (by decide) 86 rfl ?_
      obtain ⟨v21, hv21, hf⟩ := bn1_e hf
      refine cv_i hX (c0_fact r g u h _ _ hv21) wvX0_fact q_574 rc_1 (Nat.le_of_ble_eq_true rfl) (Nat.le_of_ble_eq_true rfl) (fun _ => rfl) [.int v12] rfl (Nat.le_of_ble_eq_true rfl) dX7_strength_86 89 rfl ?_
      refine v_icmp_ne hX dX7_strength_89 104 rfl 92 rfl (fun h23 => ?_) (fun h23 => ?_)
      · replace hf := it_n h23 hf
        refine v_sub [(1, .ref (aX X 1)), (5, .int (if p3 < p2 then p3 else p2)), (6, .int (if p2 < p3 then p3 else p2)), (7, .int x1)] (sbc 1 rfl (sbc 3 rfl (sbc 4 rfl (sbc 5 rfl sbn)))) ?_
        exact HJ13 _ hf
      · replace hf := it_p h23 hf
        refine v_iload hX dX7_strength_92 5 rfl 94 rfl ?_
        refine v_aload_n hX dX7_strength_94 rfl 1 rfl 95 rfl ?_
        refine v_iconst (v := (3 : Int32)) hX dX7_strength_95 (by decide) 96 rfl ?_
        refine v_iload hX dX7_strength_96 2 rfl 98 rfl ?_
        obtain ⟨v22, hv22, hf⟩ := bn1_e hf
        refine cs_i hX (c7_sign r g u h _ _ hv22) wvX7_sign q_567 (Nat.le_of_ble_eq_true rfl) (Nat.le_of_ble_eq_true rfl) (fun _ => rfl) [.int x1] rfl (Nat.le_of_ble_eq_true rfl) dX7_strength_98 101 rfl ?_
        refine v_iadd hX dX7_strength_101 102 rfl ?_
        refine v_istore hX dX7_strength_102 (ltn hn (by decide)) 104 rfl [(7, .int (x1 + v22)), (8, .int v12), (1, .ref (aX X 1)), (4, .int p4), (5, .int (if p3 < p2 then p3 else p2)), (6, .int (if p2 < p3 then p3 else p2))] rfl ?_
        refine v_sub [(1, .ref (aX X 1)), (5, .int (if p3 < p2 then p3 else p2)), (6, .int (if p2 < p3 then p3 else p2)), (7, .int (x1 + v22))] (sbc 2 rfl (sbc 4 rfl (sbc 5 rfl (sbc 0 rfl sbn)))) ?_
        exact HJ13 _ hf
  have HLK3 : ∀ (n4 : Nat) (x1 : Int32) (x2 : Int32), f7_strength_L20 (r 1) (r 0) (g 5) (g 3) (g 6) (g 8) p2 p3 p4 n4 x1 x2 K3 = some res → VC X r g u h [(1, .ref (aX X 1)), (4, .int p4), (5, .int (if p3 < p2 then p3 else p2)), (6, .int (if p2 < p3 then p3 else p2)), (7, .int x1), (8, .int x2)] [] 20 := by
    intro n4
    induction n4 with
    | zero => intro x1 x2 hf; exact no_s hf
    | succ n4 ih =>
      intro x1 x2 hf
      rw [f7_strength_L20] at hf
      refine v_iload hX dX7_strength_20 5 rfl 22 rfl ?_
      refine v_iconst (v := (4 : Int32)) hX dX7_strength_22 (by decide) 23 rfl ?_
      refine v_icmp_ge hX dX7_strength_23 66 rfl 26 rfl (fun h11 => ?_) (fun h11 => ?_)
      · replace hf := it_p h11 hf
        refine v_sub [(1, .ref (aX X 1)), (4, .int p4), (5, .int (if p3 < p2 then p3 else p2)), (6, .int (if p2 < p3 then p3 else p2)), (7, .int x1)] (sbc 0 rfl (sbc 1 rfl (sbc 2 rfl (sbc 3 rfl (sbc 4 rfl sbn))))) ?_
        exact HK3 _ _ hf
      · replace hf := it_n h11 hf
        refine v_iconst (v := (0 : Int32)) hX dX7_strength_26 (by decide) 27 rfl ?_
        refine v_istore hX dX7_strength_27 (ltn hn (by decide)) 29 rfl [(9, .int (0 : Int32)), (1, .ref (aX X 1)), (4, .int p4), (5, .int (if p3 < p2 then p3 else p2)), (6, .int (if p2 < p3 then p3 else p2)), (7, .int x1), (8, .int x2)] rfl ?_
        obtain ⟨K7, hK7, hf⟩ := jn_x hf
        have HK7 : ∀ (x5 : Int32) (x6 : Int32), K7 x5 x6 = some res → VC X r g u h [(1, .ref (aX X 1)), (4, .int p4), (5, .int (if p3 < p2 then p3 else p2)), (6, .int (if p2 < p3 then p3 else p2)), (7, .int x5), (8, .int x2)] [] 60 := by
          intro x5 x6 hf
          rw [hK7] at hf
          refine v_inc (c := (1 : Int32)) hX dX7_strength_60 5 rfl (by decide) (ltn hn (by decide)) 63 rfl [(8, .int (x2 + (1 : Int32))), (1, .ref (aX X 1)), (4, .int p4), (5, .int (if p3 < p2 then p3 else p2)), (6, .int (if p2 < p3 then p3 else p2)), (7, .int x5)] rfl ?_
          refine v_goto hX dX7_strength_63 20 rfl ?_
          refine v_sub [(1, .ref (aX X 1)), (4, .int p4), (5, .int (if p3 < p2 then p3 else p2)), (6, .int (if p2 < p3 then p3 else p2)), (7, .int x5), (8, .int (x2 + (1 : Int32)))] (sbc 1 rfl (sbc 2 rfl (sbc 3 rfl (sbc 4 rfl (sbc 5 rfl (sbc 0 rfl sbn)))))) ?_
          exact ih _ _ hf
        have HLK7 : ∀ (n8 : Nat) (x5 : Int32) (x6 : Int32), f7_strength_L29 (r 1) (r 0) (g 5) (g 3) (g 6) (g 8) p2 p3 p4 x2 n8 x5 x6 K7 = some res → VC X r g u h [(1, .ref (aX X 1)), (4, .int p4), (5, .int (if p3 < p2 then p3 else p2)), (6, .int (if p2 < p3 then p3 else p2)), (7, .int x5), (8, .int x2), (9, .int x6)] [] 29 := by
          intro n8
          induction n8 with
          | zero => intro x5 x6 hf; exact no_s hf
          | succ n8 ih =>
            intro x5 x6 hf
            rw [f7_strength_L29] at hf
            refine v_iload hX dX7_strength_29 6 rfl 31 rfl ?_
            refine v_iconst (v := (4 : Int32)) hX dX7_strength_31 (by decide) 32 rfl ?_
            refine v_icmp_ge hX dX7_strength_32 60 rfl 35 rfl (fun h10 => ?_) (fun h10 => ?_)
            · replace hf := it_p h10 hf
              refine v_sub [(1, .ref (aX X 1)), (4, .int p4), (5, .int (if p3 < p2 then p3 else p2)), (6, .int (if p2 < p3 then p3 else p2)), (7, .int x5), (8, .int x2)] (sbc 0 rfl (sbc 1 rfl (sbc 2 rfl (sbc 3 rfl (sbc 4 rfl (sbc 5 rfl sbn)))))) ?_
              exact HK7 _ _ hf
            · replace hf := it_n h10 hf
              refine v_iload hX dX7_strength_35 4 rfl 37 rfl ?_
              refine v_aload_n hX dX7_strength_37 rfl 0 rfl 38 rfl ?_
              refine v_iload hX dX7_strength_38 2 rfl 40 rfl ?_
              refine v_iload hX dX7_strength_40 5 rfl 42 rfl ?_
              refine v_iload hX dX7_strength_42 3 rfl 44 rfl ?_
              refine v_iload hX dX7_strength_44 6 rfl 46 rfl ?_
              refine v_iload hX dX7_strength_46 1 rfl 48 rfl ?_
              obtain ⟨v9, hv9, hf⟩ := bn1_e hf
              refine cs_i hX (c7_placeSign r g u h _ _ _ _ _ hv9) wvX7_placeSign q_562 (Nat.le_of_ble_eq_true rfl) (Nat.le_of_ble_eq_true rfl) (fun _ => rfl) [.int x5] rfl (Nat.le_of_ble_eq_true rfl) dX7_strength_48 51 rfl ?_
              refine v_iadd hX dX7_strength_51 52 rfl ?_
              refine v_istore hX dX7_strength_52 (ltn hn (by decide)) 54 rfl [(7, .int (x5 + v9)), (1, .ref (aX X 1)), (4, .int p4), (5, .int (if p3 < p2 then p3 else p2)), (6, .int (if p2 < p3 then p3 else p2)), (8, .int x2), (9, .int x6)] rfl ?_
              refine v_inc (c := (1 : Int32)) hX dX7_strength_54 6 rfl (by decide) (ltn hn (by decide)) 57 rfl [(9, .int (x6 + (1 : Int32))), (7, .int (x5 + v9)), (1, .ref (aX X 1)), (4, .int p4), (5, .int (if p3 < p2 then p3 else p2)), (6, .int (if p2 < p3 then p3 else p2)), (8, .int x2)] rfl ?_
              refine v_goto hX dX7_strength_57 29 rfl ?_
              refine v_sub [(1, .ref (aX X 1)), (4, .int p4), (5, .int (if p3 < p2 then p3 else p2)), (6, .int (if p2 < p3 then p3 else p2)), (7, .int (x5 + v9)), (8, .int x2), (9, .int (x6 + (1 : Int32)))] (sbc 2 rfl (sbc 3 rfl (sbc 4 rfl (sbc 5 rfl (sbc 1 rfl (sbc 6 rfl (sbc 0 rfl sbn))))))) ?_
              exact ih _ _ hf
        refine v_sub [(1, .ref (aX X 1)), (4, .int p4), (5, .int (if p3 < p2 then p3 else p2)), (6, .int (if p2 < p3 then p3 else p2)), (7, .int x1), (8, .int x2), (9, .int (0 : Int32))] (sbc 1 rfl (sbc 2 rfl (sbc 3 rfl (sbc 4 rfl (sbc 5 rfl (sbc 6 rfl (sbc 0 rfl sbn))))))) ?_
        exact HLK7 _ _ _ hf
  refine v_sub [(1, .ref (aX X 1)), (4, .int p4), (5, .int (if p3 < p2 then p3 else p2)), (6, .int (if p2 < p3 then p3 else p2)), (7, .int (0 : Int32)), (8, .int (0 : Int32))] (sbc 5 rfl (sbc 8 rfl (sbc 3 rfl (sbc 2 rfl (sbc 1 rfl (sbc 0 rfl sbn)))))) ?_
  exact HLK3 _ _ _ hf
set_option maxRecDepth 100000 in
set_option maxHeartbeats 4000000 in
theorem c7_likelihood (r : Nat → Int32) (g : Nat → Nat → Int32) (u : Nat → Int64) (h : Nat → Nat → Int64) (p2 : Int32) {res : Int32} (hf : f7_likelihood (r 1) (r 0) (g 7) (g 5) (g 3) (g 6) (g 8) p2 = some res) : MAi yX7_likelihood cX7_likelihood 5 (some .int) 4 (fun a => [.ref (a 27), .ref (a 1), .int p2]) r g u h res r g u h := by
  refine mi_i (by decide +kernel) (fun a => Nat.le_of_ble_eq_true rfl) (fun X hX hn hR => ?_)
  replace hR : ∀ q : Int32, some q = some res → ∀ lv pc, decode cX7_likelihood pc = .ok (.ireturn, 1) → narrow .int (.int q) = .int q → VC X r g u h lv [.int q] pc := fun q hq => by cases hq; exact hR
  replace hX : CX X RX7 cX7_likelihood 4 := hX
  show VC X r g u h [(0, .ref (aX X 27)), (1, .ref (aX X 1)), (2, .int p2)] [] 0
  rw [f7_likelihood] at hf
  refine v_iconst (v := (0 : Int32)) hX dX7_likelihood_0 (by decide) 1 rfl ?_
  refine v_istore_n hX dX7_likelihood_1 rfl (ltn hn (by decide)) 2 rfl [(3, .int (0 : Int32)), (0, .ref (aX X 27)), (1, .ref (aX X 1)), (2, .int p2)] rfl ?_
  refine v_iconst (v := (0 : Int32)) hX dX7_likelihood_2 (by decide) 3 rfl ?_
  refine v_istore hX dX7_likelihood_3 (ltn hn (by decide)) 5 rfl [(4, .int (0 : Int32)), (3, .int (0 : Int32)), (0, .ref (aX X 27)), (1, .ref (aX X 1)), (2, .int p2)] rfl ?_
  obtain ⟨K3, hK3, hf⟩ := jn_x hf
  have HK3 : ∀ (x1 : Int32) (x2 : Int32), K3 x1 x2 = some res → VC X r g u h [(3, .int x1)] [] 38 := by
    intro x1 x2 hf
    rw [hK3] at hf
    refine v_iload_n hX dX7_likelihood_38 rfl 0 rfl 39 rfl ?_
    refine v_bipush (v := (9 : Int32)) hX dX7_likelihood_39 (by decide) 41 rfl ?_
    refine v_mmin hX (Nat.le_of_ble_eq_true rfl) q_560 (Nat.le_of_ble_eq_true rfl) dX7_likelihood_41 44 rfl ?_
    exact hR _ hf _ _ dX7_likelihood_44 rfl
  have HLK3 : ∀ (n4 : Nat) (x1 : Int32) (x2 : Int32), f7_likelihood_L5 (r 1) (r 0) (g 7) (g 5) (g 3) (g 6) (g 8) p2 n4 x1 x2 K3 = some res → VC X r g u h [(0, .ref (aX X 27)), (1, .ref (aX X 1)), (2, .int p2), (3, .int x1), (4, .int x2)] [] 5 := by
    intro n4
    induction n4 with
    | zero => intro x1 x2 hf; exact no_s hf
    | succ n4 ih =>
      intro x1 x2 hf
      rw [f7_likelihood_L5] at hf
      refine v_iload hX dX7_likelihood_5 4 rfl 7 rfl ?_
      refine v_aload_n hX dX7_likelihood_7 rfl 1 rfl 8 rfl ?_
      refine gf_1_6 hX q_598 dX7_likelihood_8 ((r 1)) rfl 11 rfl ?_
      refine v_icmp_ge hX dX7_likelihood_11 38 rfl 14 rfl (fun h9 => ?_) (fun h9 => ?_)
      · replace hf := it_p h9 hf
        refine v_sub [(3, .int x1)] (sbc 3 rfl sbn) ?_
        exact HK3 _ _ hf
      · replace hf := it_n h9 hf
        refine v_iload hX dX7_likelihood_14 4 rfl 16 rfl ?_
        refine v_iload_n hX dX7_likelihood_16 rfl 2 rfl 17 rfl ?_
        obtain ⟨J5, hJ5, hf⟩ := jn_x hf
        have HJ5 : ∀ (y6 : Int32), J5 y6 = some res → VC X r g u h [(0, .ref (aX X 27)), (1, .ref (aX X 1)), (2, .int p2), (3, .int y6), (4, .int x2)] [] 32 := by
          intro y6 hf
          rw [hJ5] at hf
          refine v_inc (c := (1 : Int32)) hX dX7_likelihood_32 4 rfl (by decide) (ltn hn (by decide)) 35 rfl [(4, .int (x2 + (1 : Int32))), (0, .ref (aX X 27)), (1, .ref (aX X 1)), (2, .int p2), (3, .int y6)] rfl ?_
          refine v_goto hX dX7_likelihood_35 5 rfl ?_
          refine v_sub [(0, .ref (aX X 27)), (1, .ref (aX X 1)), (2, .int p2), (3, .int y6), (4, .int (x2 + (1 : Int32)))] (sbc 1 rfl (sbc 2 rfl (sbc 3 rfl (sbc 4 rfl (sbc 0 rfl sbn))))) ?_
          exact ih _ _ hf
        refine v_icmp_eq hX dX7_likelihood_17 32 rfl 20 rfl (fun h8 => ?_) (fun h8 => ?_)
        · replace hf := it_p h8 hf
          exact HJ5 _ hf
        · replace hf := it_n h8 hf
          refine v_iload_n hX dX7_likelihood_20 rfl 3 rfl 21 rfl ?_
          refine v_aload_n hX dX7_likelihood_21 rfl 0 rfl 22 rfl ?_
          refine v_aload_n hX dX7_likelihood_22 rfl 1 rfl 23 rfl ?_
          refine v_iload_n hX dX7_likelihood_23 rfl 2 rfl 24 rfl ?_
          refine v_iload hX dX7_likelihood_24 4 rfl 26 rfl ?_
          refine v_iconst (v := (-1 : Int32)) hX dX7_likelihood_26 (by decide) 27 rfl ?_
          obtain ⟨v7, hv7, hf⟩ := bn1_e hf
          refine cv_i hX (c7_strength r g u h _ _ _ hv7) wvX7_strength q_599 rc_27 (Nat.le_of_ble_eq_true rfl) (Nat.le_of_ble_eq_true rfl) (fun _ => rfl) [.int x1] rfl (Nat.le_of_ble_eq_true rfl) dX7_likelihood_27 30 rfl ?_
          refine v_iadd hX dX7_likelihood_30 31 rfl ?_
          refine v_istore_n hX dX7_likelihood_31 rfl (ltn hn (by decide)) 32 rfl [(3, .int (x1 + v7)), (0, .ref (aX X 27)), (1, .ref (aX X 1)), (2, .int p2), (4, .int x2)] rfl ?_
          refine v_sub [(0, .ref (aX X 27)), (1, .ref (aX X 1)), (2, .int p2), (3, .int (x1 + v7)), (4, .int x2)] (sbc 1 rfl (sbc 2 rfl (sbc 3 rfl (sbc 0 rfl (sbc 4 rfl sbn))))) ?_
          exact HJ5 _ hf
  refine v_sub [(0, .ref (aX X 27)), (1, .ref (aX X 1)), (2, .int p2), (3, .int (0 : Int32)), (4, .int (0 : Int32))] (sbc 2 rfl (sbc 3 rfl (sbc 4 rfl (sbc 1 rfl (sbc 0 rfl sbn))))) ?_
  exact HLK3 _ _ _ hf
set_option maxRecDepth 100000 in
set_option maxHeartbeats 4000000 in
theorem c7_scoreOf (r : Nat → Int32) (g : Nat → Nat → Int32) (u : Nat → Int64) (h : Nat → Nat → Int64) (p1 : Int32) {res : Int32} (hf : f7_scoreOf (g 29) p1 = some res) : MAi yX7_scoreOf cX7_scoreOf 2 (some .int) 0 (fun a => [.ref (a 27), .int p1]) r g u h res r g u h := by
  refine mi_i (by decide +kernel) (fun a => Nat.le_of_ble_eq_true rfl) (fun X hX hn hR => ?_)
  replace hR : ∀ q : Int32, some q = some res → ∀ lv pc, decode cX7_scoreOf pc = .ok (.ireturn, 1) → narrow .int (.int q) = .int q → VC X r g u h lv [.int q] pc := fun q hq => by cases hq; exact hR
  replace hX : CX X RX7 cX7_scoreOf 0 := hX
  show VC X r g u h [(0, .ref (aX X 27)), (1, .int p1)] [] 0
  rw [f7_scoreOf] at hf
  refine v_iload_n hX dX7_scoreOf_0 rfl 1 rfl 1 rfl ?_
  refine v_if_lt hX dX7_scoreOf_1 20 rfl 4 rfl (fun h3 => ?_) (fun h3 => ?_)
  · replace hf := it_p h3 hf
    refine v_iconst (v := (0 : Int32)) hX dX7_scoreOf_20 (by decide) 21 rfl ?_
    exact hR _ hf _ _ dX7_scoreOf_21 rfl
  · replace hf := it_n h3 hf
    refine v_iload_n hX dX7_scoreOf_4 rfl 1 rfl 5 rfl ?_
    refine v_sipush (v := (512 : Int32)) hX dX7_scoreOf_5 (by decide) 8 rfl ?_
    refine v_icmp_ge hX dX7_scoreOf_8 20 rfl 11 rfl (fun h2 => ?_) (fun h2 => ?_)
    · replace hf := it_p h2 hf
      refine v_iconst (v := (0 : Int32)) hX dX7_scoreOf_20 (by decide) 21 rfl ?_
      exact hR _ hf _ _ dX7_scoreOf_21 rfl
    · replace hf := it_n h2 hf
      refine v_aload_n hX dX7_scoreOf_11 rfl 0 rfl 12 rfl ?_
      refine gf_27_1 hX q_70 dX7_scoreOf_12 15 rfl ?_
      refine v_iload_n hX dX7_scoreOf_15 rfl 1 rfl 16 rfl ?_
      obtain ⟨hi1, hf⟩ := gd_e hf
      refine al_29 hX hi1 dX7_scoreOf_16 ((g 29) p1.toNatClampNeg) rfl 17 rfl ?_
      refine v_goto hX dX7_scoreOf_17 21 rfl ?_
      exact hR _ hf _ _ dX7_scoreOf_21 rfl
set_option maxRecDepth 100000 in
set_option maxHeartbeats 4000000 in
theorem c7_findAsked (r : Nat → Int32) (g : Nat → Nat → Int32) (u : Nat → Int64) (h : Nat → Nat → Int64)  {res : Int32 × (Nat → Int32) × (Nat → Int32)} (hf : f7_findAsked (r 1) (r 0) (g 7) (g 5) (g 3) (g 6) (g 8) (g 30) (g 29) = some res) : MAi yX7_findAsked cX7_findAsked 7 (some .int) 5 (fun a => [.ref (a 27), .ref (a 1)]) r g u h res.1 r (lkp g [(30, res.2.1), (29, res.2.2)]) u h := by
  refine mi_i (by decide +kernel) (fun a => Nat.le_of_ble_eq_true rfl) (fun X hX hn hR => ?_)
  replace hR : ∀ q : Int32 × (Nat → Int32) × (Nat → Int32), some q = some res → ∀ lv pc, decode cX7_findAsked pc = .ok (.ireturn, 1) → narrow .int (.int q.1) = .int q.1 → VC X r (lkp g [(30, q.2.1), (29, q.2.2)]) u h lv [.int q.1] pc := fun q hq => by cases hq; exact hR
  replace hX : CX X RX7 cX7_findAsked 5 := hX
  refine v_opg [30, 29] [(30, g 30), (29, g 29)] rfl ?_
  show VC X r (lkp g [(30, g 30), (29, g 29)]) u h [(0, .ref (aX X 27)), (1, .ref (aX X 1))] [] 0
  rw [f7_findAsked] at hf
  refine v_aload_n hX dX7_findAsked_0 rfl 0 rfl 1 rfl ?_
  refine gf_27_1 hX q_70 dX7_findAsked_1 4 rfl ?_
  refine v_iconst (v := (0 : Int32)) hX dX7_findAsked_4 (by decide) 5 rfl ?_
  refine v_iconst (v := (0 : Int32)) hX dX7_findAsked_5 (by decide) 6 rfl ?_
  obtain ⟨hi1, hf⟩ := gd_e hf
  refine as_29 hX hi1 dX7_findAsked_6 7 rfl (g 29) rfl [(30, (g 30)), (29, (upd (g 29) (0 : Int32).toNatClampNeg (0 : Int32)))] rfl ?_
  refine v_aload_n hX dX7_findAsked_7 rfl 0 rfl 8 rfl ?_
  refine gf_27_2 hX q_71 dX7_findAsked_8 11 rfl ?_
  refine v_iconst (v := (0 : Int32)) hX dX7_findAsked_11 (by decide) 12 rfl ?_
  refine v_iconst (v := (0 : Int32)) hX dX7_findAsked_12 (by decide) 13 rfl ?_
  obtain ⟨hi2, hf⟩ := gd_e hf
  refine as_30 hX hi2 dX7_findAsked_13 14 rfl (g 30) rfl [(30, (upd (g 30) (0 : Int32).toNatClampNeg (0 : Int32))), (29, (upd (g 29) (0 : Int32).toNatClampNeg (0 : Int32)))] rfl ?_
  refine v_iconst (v := (0 : Int32)) hX dX7_findAsked_14 (by decide) 15 rfl ?_
  refine v_istore_n hX dX7_findAsked_15 rfl (ltn hn (by decide)) 16 rfl [(2, .int (0 : Int32)), (0, .ref (aX X 27)), (1, .ref (aX X 1))] rfl ?_
  obtain ⟨K6, hK6, hf⟩ := jn_x hf
  have HK6 : ∀ (x3 : Int32) (c4 : (Nat → Int32)) (c5 : (Nat → Int32)), K6 x3 c4 c5 = some res → VC X r (lkp g [(30, c4), (29, c5)]) u h [(0, .ref (aX X 27)), (1, .ref (aX X 1))] [] 127 := by
    intro x3 c4 c5 hf
    rw [hK6] at hf
    refine v_iconst (v := (0 : Int32)) hX dX7_findAsked_127 (by decide) 128 rfl ?_
    refine v_istore_n hX dX7_findAsked_128 rfl (ltn hn (by decide)) 129 rfl [(2, .int (0 : Int32)), (0, .ref (aX X 27)), (1, .ref (aX X 1))] rfl ?_
    refine v_iconst (v := (1 : Int32)) hX dX7_findAsked_129 (by decide) 130 rfl ?_
    refine v_istore_n hX dX7_findAsked_130 rfl (ltn hn (by decide)) 131 rfl [(3, .int (1 : Int32)), (2, .int (0 : Int32)), (0, .ref (aX X 27)), (1, .ref (aX X 1))] rfl ?_
    obtain ⟨K25, hK25, hf⟩ := jn_x hf
    have HK25 : ∀ (x23 : Int32) (x24 : Int32), K25 x23 x24 = some res → VC X r (lkp g [(30, c4), (29, c5)]) u h [(2, .int x23)] [] 174 := by
      intro x23 x24 hf
      rw [hK25] at hf
      refine v_iload_n hX dX7_findAsked_174 rfl 0 rfl 175 rfl ?_
      exact hR _ hf _ _ dX7_findAsked_175 rfl
    have HLK25 : ∀ (n26 : Nat) (x23 : Int32) (x24 : Int32), f7_findAsked_L131 (r 1) (g 3) c4 c5 n26 x23 x24 K25 = some res → VC X r (lkp g [(30, c4), (29, c5)]) u h [(0, .ref (aX X 27)), (1, .ref (aX X 1)), (2, .int x23), (3, .int x24)] [] 131 := by
      intro n26
      induction n26 with
      | zero => intro x23 x24 hf; exact no_s hf
      | succ n26 ih =>
        intro x23 x24 hf
        rw [f7_findAsked_L131] at hf
        refine v_iload_n hX dX7_findAsked_131 rfl 3 rfl 132 rfl ?_
        refine v_aload_n hX dX7_findAsked_132 rfl 1 rfl 133 rfl ?_
        obtain ⟨v27, hv27, hf⟩ := bn1_e hf
        refine cv_i hX (c0_allClaims r (lkp g [(30, c4), (29, c5)]) u h hv27) wvX0_allClaims q_713 rc_1 (Nat.le_of_ble_eq_true rfl) (Nat.le_of_ble_eq_true rfl) (fun _ => rfl) [.int x24] rfl (Nat.le_of_ble_eq_true rfl) dX7_findAsked_133 136 rfl ?_
        refine v_icmp_gt hX dX7_findAsked_136 174 rfl 139 rfl (fun h36 => ?_) (fun h36 => ?_)
        · replace hf := it_p h36 hf
          refine v_sub [(2, .int x23)] (sbc 2 rfl sbn) ?_
          exact HK25 _ _ hf
        · replace hf := it_n h36 hf
          refine v_aload_n hX dX7_findAsked_139 rfl 0 rfl 140 rfl ?_
          refine gf_27_2 hX q_71 dX7_findAsked_140 143 rfl ?_
          refine v_iload_n hX dX7_findAsked_143 rfl 3 rfl 144 rfl ?_
          obtain ⟨hi28, hf⟩ := gd_e hf
          refine al_30 hX hi28 dX7_findAsked_144 (c4 x24.toNatClampNeg) rfl 145 rfl ?_
          refine v_aload_n hX dX7_findAsked_145 rfl 1 rfl 146 rfl ?_
          refine v_iconst (v := (5 : Int32)) hX dX7_findAsked_146 (by decide) 147 rfl ?_
          obtain ⟨v29, hv29, hf⟩ := bn1_e hf
          refine cv_i hX (c0_law r (lkp g [(30, c4), (29, c5)]) u h _ hv29) wvX0_law q_570 rc_1 (Nat.le_of_ble_eq_true rfl) (Nat.le_of_ble_eq_true rfl) (fun _ => rfl) [.int (c4 x24.toNatClampNeg)] rfl (Nat.le_of_ble_eq_true rfl) dX7_findAsked_147 150 rfl ?_
          obtain ⟨J30, hJ30, hf⟩ := jn_x hf
          have HJ30 : ∀ (y31 : Int32), J30 y31 = some res → VC X r (lkp g [(30, c4), (29, c5)]) u h [(0, .ref (aX X 27)), (1, .ref (aX X 1)), (2, .int y31), (3, .int x24)] [] 168 := by
            intro y31 hf
            rw [hJ30] at hf
            refine v_inc (c := (1 : Int32)) hX dX7_findAsked_168 3 rfl (by decide) (ltn hn (by decide)) 171 rfl [(3, .int (x24 + (1 : Int32))), (0, .ref (aX X 27)), (1, .ref (aX X 1)), (2, .int y31)] rfl ?_
            refine v_goto hX dX7_findAsked_171 131 rfl ?_
            refine v_sub [(0, .ref (aX X 27)), (1, .ref (aX X 1)), (2, .int y31), (3, .int (x24 + (1 : Int32)))] (sbc 1 rfl (sbc 2 rfl (sbc 3 rfl (sbc 0 rfl sbn)))) ?_
            exact ih _ _ hf
          refine v_icmp_gt hX dX7_findAsked_150 168 rfl 153 rfl (fun h35 => ?_) (fun h35 => ?_)
          · replace hf := it_p h35 hf
            exact HJ30 _ hf
          · replace hf := it_n h35 hf
            refine v_aload_n hX dX7_findAsked_153 rfl 0 rfl 154 rfl ?_
            refine v_iload_n hX dX7_findAsked_154 rfl 3 rfl 155 rfl ?_
            obtain ⟨v32, hv32, hf⟩ := bn1_e hf
            refine cv_i hX (c7_scoreOf r (lkp g [(30, c4), (29, c5)]) u h _ hv32) wvX7_scoreOf q_725 rc_27 (Nat.le_of_ble_eq_true rfl) (Nat.le_of_ble_eq_true rfl) (fun _ => rfl) [] rfl (Nat.le_of_ble_eq_true rfl) dX7_findAsked_155 158 rfl ?_
            refine v_aload_n hX dX7_findAsked_158 rfl 0 rfl 159 rfl ?_
            refine v_iload_n hX dX7_findAsked_159 rfl 2 rfl 160 rfl ?_
            obtain ⟨v33, hv33, hf⟩ := bn1_e hf
            refine cv_i hX (c7_scoreOf r (lkp g [(30, c4), (29, c5)]) u h _ hv33) wvX7_scoreOf q_725 rc_27 (Nat.le_of_ble_eq_true rfl) (Nat.le_of_ble_eq_true rfl) (fun _ => rfl) [.int v32] rfl (Nat.le_of_ble_eq_true rfl) dX7_findAsked_160 163 rfl ?_
            refine v_icmp_le hX dX7_findAsked_163 168 rfl 166 rfl (fun h34 => ?_) (fun h34 => ?_)
            · replace hf := it_p h34 hf
              exact HJ30 _ hf
            · replace hf := it_n h34 hf
              refine v_iload_n hX dX7_findAsked_166 rfl 3 rfl 167 rfl ?_
              refine v_istore_n hX dX7_findAsked_167 rfl (ltn hn (by decide)) 168 rfl [(2, .int x24), (0, .ref (aX X 27)), (1, .ref (aX X 1)), (3, .int x24)] rfl ?_
              refine v_sub [(0, .ref (aX X 27)), (1, .ref (aX X 1)), (2, .int x24), (3, .int x24)] (sbc 1 rfl (sbc 2 rfl (sbc 0 rfl (sbc 3 rfl sbn)))) ?_
              exact HJ30 _ hf
    refine v_sub [(0, .ref (aX X 27)), (1, .ref (aX X 1)), (2, .int (0 : Int32)), (3, .int (1 : Int32))] (sbc 2 rfl (sbc 3 rfl (sbc 1 rfl (sbc 0 rfl sbn)))) ?_
    exact HLK25 _ _ _ hf
  have HLK6 : ∀ (n7 : Nat) (x3 : Int32) (c4 : (Nat → Int32)) (c5 : (Nat → Int32)), f7_findAsked_L16 (r 1) (r 0) (g 7) (g 5) (g 3) (g 6) (g 8) n7 x3 c4 c5 K6 = some res → VC X r (lkp g [(30, c4), (29, c5)]) u h [(0, .ref (aX X 27)), (1, .ref (aX X 1)), (2, .int x3)] [] 16 := by
    intro n7
    induction n7 with
    | zero => intro x3 c4 c5 hf; exact no_s hf
    | succ n7 ih =>
      intro x3 c4 c5 hf
      rw [f7_findAsked_L16] at hf
      refine v_iload_n hX dX7_findAsked_16 rfl 2 rfl 17 rfl ?_
      refine v_aload_n hX dX7_findAsked_17 rfl 1 rfl 18 rfl ?_
      refine gf_1_6 hX q_598 dX7_findAsked_18 ((r 1)) rfl 21 rfl ?_
      refine v_icmp_ge hX dX7_findAsked_21 127 rfl 24 rfl (fun h22 => ?_) (fun h22 => ?_)
      · replace hf := it_p h22 hf
        refine v_sub [(0, .ref (aX X 27)), (1, .ref (aX X 1))] (sbc 0 rfl (sbc 1 rfl sbn)) ?_
        exact HK6 _ _ _ hf
      · replace hf := it_n h22 hf
        refine v_aload_n hX dX7_findAsked_24 rfl 0 rfl 25 rfl ?_
        refine v_aload_n hX dX7_findAsked_25 rfl 1 rfl 26 rfl ?_
        refine v_iload_n hX dX7_findAsked_26 rfl 2 rfl 27 rfl ?_
        obtain ⟨v8, hv8, hf⟩ := bn1_e hf
        refine cv_i hX (c7_likelihood r (lkp g [(30, c4), (29, c5)]) u h _ hv8) wvX7_likelihood q_829 rc_27 (Nat.le_of_ble_eq_true rfl) (Nat.le_of_ble_eq_true rfl) (fun _ => rfl) [] rfl (Nat.le_of_ble_eq_true rfl) dX7_findAsked_27 30 rfl ?_
        refine v_istore_n hX dX7_findAsked_30 rfl (ltn hn (by decide)) 31 rfl [(3, .int v8), (0, .ref (aX X 27)), (1, .ref (aX X 1)), (2, .int x3)] rfl ?_
        refine v_iload_n hX dX7_findAsked_31 rfl 0 rfl 32 rfl ?_
        refine v_aload_n hX dX7_findAsked_32 rfl 2 rfl 33 rfl ?_
        refine v_iload_n hX dX7_findAsked_33 rfl 3 rfl 34 rfl ?_
        refine v_iconst (v := (4 : Int32)) hX dX7_findAsked_34 (by decide) 35 rfl ?_
        obtain ⟨v9, hv9, hf⟩ := bn1_e hf
        refine cv_i hX (c0_fact r (lkp g [(30, c4), (29, c5)]) u h _ _ hv9) wvX0_fact q_574 rc_1 (Nat.le_of_ble_eq_true rfl) (Nat.le_of_ble_eq_true rfl) (fun _ => rfl) [.int v8] rfl (Nat.le_of_ble_eq_true rfl) dX7_findAsked_35 38 rfl ?_
        refine v_imul hX dX7_findAsked_38 39 rfl ?_
        refine v_aload_n hX dX7_findAsked_39 rfl 2 rfl 40 rfl ?_
        refine v_bipush (v := (6 : Int32)) hX dX7_findAsked_40 (by decide) 42 rfl ?_
        obtain ⟨v10, hv10, hf⟩ := bn1_e hf
        refine cv_i hX (c0_law r (lkp g [(30, c4), (29, c5)]) u h _ hv10) wvX0_law q_570 rc_1 (Nat.le_of_ble_eq_true rfl) (Nat.le_of_ble_eq_true rfl) (fun _ => rfl) [.int (v8 * v9)] rfl (Nat.le_of_ble_eq_true rfl) dX7_findAsked_42 45 rfl ?_
        refine v_bipush (v := (10 : Int32)) hX dX7_findAsked_45 (by decide) 47 rfl ?_
        refine v_iload_n hX dX7_findAsked_47 rfl 0 rfl 48 rfl ?_
        refine v_isub hX dX7_findAsked_48 49 rfl ?_
        refine v_imul hX dX7_findAsked_49 50 rfl ?_
        refine v_isub hX dX7_findAsked_50 51 rfl ?_
        refine v_istore hX dX7_findAsked_51 (ltn hn (by decide)) 53 rfl [(4, .int ((v8 * v9) - (v10 * ((10 : Int32) - v8)))), (3, .int v8), (0, .ref (aX X 27)), (1, .ref (aX X 1)), (2, .int x3)] rfl ?_
        refine v_iconst (v := (1 : Int32)) hX dX7_findAsked_53 (by decide) 54 rfl ?_
        refine v_aload_n hX dX7_findAsked_54 rfl 3 rfl 55 rfl ?_
        refine v_iload_n hX dX7_findAsked_55 rfl 4 rfl 56 rfl ?_
        obtain ⟨v11, hv11, hf⟩ := bn1_e hf
        refine cv_i hX (c0_seated r (lkp g [(30, c4), (29, c5)]) u h _ hv11) wvX0_seated q_830 rc_1 (Nat.le_of_ble_eq_true rfl) (Nat.le_of_ble_eq_true rfl) (fun _ => rfl) [.int (1 : Int32)] rfl (Nat.le_of_ble_eq_true rfl) dX7_findAsked_56 59 rfl ?_
        refine v_iadd hX dX7_findAsked_59 60 rfl ?_
        refine v_istore hX dX7_findAsked_60 (ltn hn (by decide)) 62 rfl [(5, .int ((1 : Int32) + v11)), (4, .int ((v8 * v9) - (v10 * ((10 : Int32) - v8)))), (3, .int v8), (0, .ref (aX X 27)), (1, .ref (aX X 1)), (2, .int x3)] rfl ?_
        refine v_iconst (v := (0 : Int32)) hX dX7_findAsked_62 (by decide) 63 rfl ?_
        refine v_istore hX dX7_findAsked_63 (ltn hn (by decide)) 65 rfl [(6, .int (0 : Int32)), (5, .int ((1 : Int32) + v11)), (4, .int ((v8 * v9) - (v10 * ((10 : Int32) - v8)))), (3, .int v8), (0, .ref (aX X 27)), (1, .ref (aX X 1)), (2, .int x3)] rfl ?_
        obtain ⟨K15, hK15, hf⟩ := jn_x hf
        have HK15 : ∀ (x12 : Int32) (c13 : (Nat → Int32)) (c14 : (Nat → Int32)), K15 x12 c13 c14 = some res → VC X r (lkp g [(30, c13), (29, c14)]) u h [(0, .ref (aX X 27)), (1, .ref (aX X 1)), (2, .int x3)] [] 121 := by
          intro x12 c13 c14 hf
          rw [hK15] at hf
          refine v_inc (c := (1 : Int32)) hX dX7_findAsked_121 2 rfl (by decide) (ltn hn (by decide)) 124 rfl [(2, .int (x3 + (1 : Int32))), (0, .ref (aX X 27)), (1, .ref (aX X 1))] rfl ?_
          refine v_goto hX dX7_findAsked_124 16 rfl ?_
          refine v_sub [(0, .ref (aX X 27)), (1, .ref (aX X 1)), (2, .int (x3 + (1 : Int32)))] (sbc 1 rfl (sbc 2 rfl (sbc 0 rfl sbn))) ?_
          exact ih _ _ _ hf
        have HLK15 : ∀ (n16 : Nat) (x12 : Int32) (c13 : (Nat → Int32)) (c14 : (Nat → Int32)), f7_findAsked_L65 x3 v8 v9 v10 v11 n16 x12 c13 c14 K15 = some res → VC X r (lkp g [(30, c13), (29, c14)]) u h [(0, .ref (aX X 27)), (1, .ref (aX X 1)), (2, .int x3), (4, .int ((v8 * v9) - (v10 * ((10 : Int32) - v8)))), (5, .int ((1 : Int32) + v11)), (6, .int x12)] [] 65 := by
          intro n16
          induction n16 with
          | zero => intro x12 c13 c14 hf; exact no_s hf
          | succ n16 ih =>
            intro x12 c13 c14 hf
            rw [f7_findAsked_L65] at hf
            refine v_iload hX dX7_findAsked_65 5 rfl 67 rfl ?_
            refine v_iconst (v := (1 : Int32)) hX dX7_findAsked_67 (by decide) 68 rfl ?_
            refine v_iload_n hX dX7_findAsked_68 rfl 2 rfl 69 rfl ?_
            refine v_ishl hX dX7_findAsked_69 70 rfl ?_
            refine v_icmp_ge hX dX7_findAsked_70 121 rfl 73 rfl (fun h21 => ?_) (fun h21 => ?_)
            · replace hf := it_p h21 hf
              refine v_sub [(0, .ref (aX X 27)), (1, .ref (aX X 1)), (2, .int x3)] (sbc 0 rfl (sbc 1 rfl (sbc 2 rfl sbn))) ?_
              exact HK15 _ _ _ hf
            · replace hf := it_n h21 hf
              refine v_aload_n hX dX7_findAsked_73 rfl 0 rfl 74 rfl ?_
              refine gf_27_1 hX q_70 dX7_findAsked_74 77 rfl ?_
              refine v_iload hX dX7_findAsked_77 5 rfl 79 rfl ?_
              refine v_iconst (v := (1 : Int32)) hX dX7_findAsked_79 (by decide) 80 rfl ?_
              refine v_iload_n hX dX7_findAsked_80 rfl 2 rfl 81 rfl ?_
              refine v_ishl hX dX7_findAsked_81 82 rfl ?_
              refine v_ior hX dX7_findAsked_82 83 rfl ?_
              refine v_aload_n hX dX7_findAsked_83 rfl 0 rfl 84 rfl ?_
              refine gf_27_1 hX q_70 dX7_findAsked_84 87 rfl ?_
              refine v_iload hX dX7_findAsked_87 5 rfl 89 rfl ?_
              obtain ⟨hi17, hf⟩ := gd_e hf
              refine al_29 hX hi17 dX7_findAsked_89 (c14 x12.toNatClampNeg) rfl 90 rfl ?_
              refine v_iload hX dX7_findAsked_90 3 rfl 92 rfl ?_
              refine v_iadd hX dX7_findAsked_92 93 rfl ?_
              obtain ⟨hi18, hf⟩ := gd_e hf
              refine as_29 hX hi18 dX7_findAsked_93 94 rfl c14 rfl [(30, c13), (29, (upd c14 (x12 ||| ((1 : Int32) <<< (x3 &&& 31))).toNatClampNeg ((c14 x12.toNatClampNeg) + ((v8 * v9) - (v10 * ((10 : Int32) - v8))))))] rfl ?_
              refine v_aload_n hX dX7_findAsked_94 rfl 0 rfl 95 rfl ?_
              refine gf_27_2 hX q_71 dX7_findAsked_95 98 rfl ?_
              refine v_iload hX dX7_findAsked_98 5 rfl 100 rfl ?_
              refine v_iconst (v := (1 : Int32)) hX dX7_findAsked_100 (by decide) 101 rfl ?_
              refine v_iload_n hX dX7_findAsked_101 rfl 2 rfl 102 rfl ?_
              refine v_ishl hX dX7_findAsked_102 103 rfl ?_
              refine v_ior hX dX7_findAsked_103 104 rfl ?_
              refine v_aload_n hX dX7_findAsked_104 rfl 0 rfl 105 rfl ?_
              refine gf_27_2 hX q_71 dX7_findAsked_105 108 rfl ?_
              refine v_iload hX dX7_findAsked_108 5 rfl 110 rfl ?_
              obtain ⟨hi19, hf⟩ := gd_e hf
              refine al_30 hX hi19 dX7_findAsked_110 (c13 x12.toNatClampNeg) rfl 111 rfl ?_
              refine v_iload hX dX7_findAsked_111 4 rfl 113 rfl ?_
              refine v_iadd hX dX7_findAsked_113 114 rfl ?_
              obtain ⟨hi20, hf⟩ := gd_e hf
              refine as_30 hX hi20 dX7_findAsked_114 115 rfl c13 rfl [(30, (upd c13 (x12 ||| ((1 : Int32) <<< (x3 &&& 31))).toNatClampNeg ((c13 x12.toNatClampNeg) + ((1 : Int32) + v11)))), (29, (upd c14 (x12 ||| ((1 : Int32) <<< (x3 &&& 31))).toNatClampNeg ((c14 x12.toNatClampNeg) + ((v8 * v9) - (v10 * ((10 : Int32) - v8))))))] rfl ?_
              refine v_inc (c := (1 : Int32)) hX dX7_findAsked_115 5 rfl (by decide) (ltn hn (by decide)) 118 rfl [(6, .int (x12 + (1 : Int32))), (0, .ref (aX X 27)), (1, .ref (aX X 1)), (2, .int x3), (4, .int ((v8 * v9) - (v10 * ((10 : Int32) - v8)))), (5, .int ((1 : Int32) + v11))] rfl ?_
              refine v_goto hX dX7_findAsked_118 65 rfl ?_
              refine v_sub [(0, .ref (aX X 27)), (1, .ref (aX X 1)), (2, .int x3), (4, .int ((v8 * v9) - (v10 * ((10 : Int32) - v8)))), (5, .int ((1 : Int32) + v11)), (6, .int (x12 + (1 : Int32)))] (sbc 1 rfl (sbc 2 rfl (sbc 3 rfl (sbc 4 rfl (sbc 5 rfl (sbc 0 rfl sbn)))))) ?_
              exact ih _ _ _ hf
        refine v_sub [(0, .ref (aX X 27)), (1, .ref (aX X 1)), (2, .int x3), (4, .int ((v8 * v9) - (v10 * ((10 : Int32) - v8)))), (5, .int ((1 : Int32) + v11)), (6, .int (0 : Int32))] (sbc 4 rfl (sbc 5 rfl (sbc 6 rfl (sbc 2 rfl (sbc 1 rfl (sbc 0 rfl sbn)))))) ?_
        exact HLK15 _ _ _ _ hf
  refine v_sub [(0, .ref (aX X 27)), (1, .ref (aX X 1)), (2, .int (0 : Int32))] (sbc 1 rfl (sbc 2 rfl (sbc 0 rfl sbn))) ?_
  exact HLK6 _ _ _ _ hf
set_option maxRecDepth 100000 in
set_option maxHeartbeats 4000000 in
theorem c7_weave (r : Nat → Int32) (g : Nat → Nat → Int32) (u : Nat → Int64) (h : Nat → Nat → Int64) (p2 : Int32) {res : (Nat → Int32)} (hf : f7_weave (r 1) (r 0) (g 7) (g 5) (g 3) (g 6) (g 8) (g 28) p2 = some res) : MAv yX7_weave cX7_weave 6 none 4 (fun a => [.ref (a 27), .ref (a 1), .int p2]) r g u h r (lkp g [(28, res)]) u h := by
  refine mi_v (by decide +kernel) (fun a => Nat.le_of_ble_eq_true rfl) (fun X hX hn hR => ?_)
  replace hR : ∀ q : (Nat → Int32), some q = some res → ∀ lv pc, decode cX7_weave pc = .ok (.return_, 1) → VC X r (lkp g [(28, q)]) u h lv [] pc := fun q hq => by cases hq; exact hR
  replace hX : CX X RX7 cX7_weave 4 := hX
  refine v_opg [28] [(28, g 28)] rfl ?_
  show VC X r (lkp g [(28, g 28)]) u h [(0, .ref (aX X 27)), (1, .ref (aX X 1)), (2, .int p2)] [] 0
  rw [f7_weave] at hf
  refine v_iconst (v := (0 : Int32)) hX dX7_weave_0 (by decide) 1 rfl ?_
  refine v_istore_n hX dX7_weave_1 rfl (ltn hn (by decide)) 2 rfl [(3, .int (0 : Int32)), (0, .ref (aX X 27)), (1, .ref (aX X 1)), (2, .int p2)] rfl ?_
  obtain ⟨K3, hK3, hf⟩ := jn_x hf
  have HK3 : ∀ (x1 : Int32) (c2 : (Nat → Int32)), K3 x1 c2 = some res → VC X r (lkp g [(28, c2)]) u h [] [] 87 := by
    intro x1 c2 hf
    rw [hK3] at hf
    exact hR _ hf _ _ dX7_weave_87
  have HLK3 : ∀ (n4 : Nat) (x1 : Int32) (c2 : (Nat → Int32)), f7_weave_L2 (r 1) (r 0) (g 7) (g 5) (g 3) (g 6) (g 8) p2 n4 x1 c2 K3 = some res → VC X r (lkp g [(28, c2)]) u h [(0, .ref (aX X 27)), (1, .ref (aX X 1)), (2, .int p2), (3, .int x1)] [] 2 := by
    intro n4
    induction n4 with
    | zero => intro x1 c2 hf; exact no_s hf
    | succ n4 ih =>
      intro x1 c2 hf
      rw [f7_weave_L2] at hf
      refine v_iload_n hX dX7_weave_2 rfl 3 rfl 3 rfl ?_
      refine v_aload_n hX dX7_weave_3 rfl 1 rfl 4 rfl ?_
      refine gf_1_6 hX q_598 dX7_weave_4 ((r 1)) rfl 7 rfl ?_
      refine v_icmp_ge hX dX7_weave_7 87 rfl 10 rfl (fun h14 => ?_) (fun h14 => ?_)
      · replace hf := it_p h14 hf
        refine v_sub [] sbn ?_
        exact HK3 _ _ hf
      · replace hf := it_n h14 hf
        refine v_aload_n hX dX7_weave_10 rfl 0 rfl 11 rfl ?_
        refine gf_27_0 hX q_69 dX7_weave_11 14 rfl ?_
        refine v_iload_n hX dX7_weave_14 rfl 3 rfl 15 rfl ?_
        refine v_bipush (v := (9 : Int32)) hX dX7_weave_15 (by decide) 17 rfl ?_
        refine v_imul hX dX7_weave_17 18 rfl ?_
        refine v_iload_n hX dX7_weave_18 rfl 3 rfl 19 rfl ?_
        refine v_iadd hX dX7_weave_19 20 rfl ?_
        refine v_iconst (v := (0 : Int32)) hX dX7_weave_20 (by decide) 21 rfl ?_
        obtain ⟨hi5, hf⟩ := gd_e hf
        refine as_28 hX hi5 dX7_weave_21 22 rfl c2 rfl [(28, (upd c2 ((x1 * (9 : Int32)) + x1).toNatClampNeg (0 : Int32)))] rfl ?_
        refine v_iload_n hX dX7_weave_22 rfl 3 rfl 23 rfl ?_
        refine v_iconst (v := (1 : Int32)) hX dX7_weave_23 (by decide) 24 rfl ?_
        refine v_iadd hX dX7_weave_24 25 rfl ?_
        refine v_istore hX dX7_weave_25 (ltn hn (by decide)) 27 rfl [(4, .int (x1 + (1 : Int32))), (0, .ref (aX X 27)), (1, .ref (aX X 1)), (2, .int p2), (3, .int x1)] rfl ?_
        obtain ⟨K8, hK8, hf⟩ := jn_x hf
        have HK8 : ∀ (x6 : Int32) (c7 : (Nat → Int32)), K8 x6 c7 = some res → VC X r (lkp g [(28, c7)]) u h [(0, .ref (aX X 27)), (1, .ref (aX X 1)), (2, .int p2), (3, .int x1)] [] 81 := by
          intro x6 c7 hf
          rw [hK8] at hf
          refine v_inc (c := (1 : Int32)) hX dX7_weave_81 3 rfl (by decide) (ltn hn (by decide)) 84 rfl [(3, .int (x1 + (1 : Int32))), (0, .ref (aX X 27)), (1, .ref (aX X 1)), (2, .int p2)] rfl ?_
          refine v_goto hX dX7_weave_84 2 rfl ?_
          refine v_sub [(0, .ref (aX X 27)), (1, .ref (aX X 1)), (2, .int p2), (3, .int (x1 + (1 : Int32)))] (sbc 1 rfl (sbc 2 rfl (sbc 3 rfl (sbc 0 rfl sbn)))) ?_
          exact ih _ _ hf
        have HLK8 : ∀ (n9 : Nat) (x6 : Int32) (c7 : (Nat → Int32)), f7_weave_L27 (r 1) (r 0) (g 7) (g 5) (g 3) (g 6) (g 8) p2 x1 n9 x6 c7 K8 = some res → VC X r (lkp g [(28, c7)]) u h [(0, .ref (aX X 27)), (1, .ref (aX X 1)), (2, .int p2), (3, .int x1), (4, .int x6)] [] 27 := by
          intro n9
          induction n9 with
          | zero => intro x6 c7 hf; exact no_s hf
          | succ n9 ih =>
            intro x6 c7 hf
            rw [f7_weave_L27] at hf
            refine v_iload hX dX7_weave_27 4 rfl 29 rfl ?_
            refine v_aload_n hX dX7_weave_29 rfl 1 rfl 30 rfl ?_
            refine gf_1_6 hX q_598 dX7_weave_30 ((r 1)) rfl 33 rfl ?_
            refine v_icmp_ge hX dX7_weave_33 81 rfl 36 rfl (fun h13 => ?_) (fun h13 => ?_)
            · replace hf := it_p h13 hf
              refine v_sub [(0, .ref (aX X 27)), (1, .ref (aX X 1)), (2, .int p2), (3, .int x1)] (sbc 0 rfl (sbc 1 rfl (sbc 2 rfl (sbc 3 rfl sbn)))) ?_
              exact HK8 _ _ hf
            · replace hf := it_n h13 hf
              refine v_aload_n hX dX7_weave_36 rfl 0 rfl 37 rfl ?_
              refine v_aload_n hX dX7_weave_37 rfl 1 rfl 38 rfl ?_
              refine v_iload_n hX dX7_weave_38 rfl 3 rfl 39 rfl ?_
              refine v_iload hX dX7_weave_39 4 rfl 41 rfl ?_
              refine v_iload_n hX dX7_weave_41 rfl 2 rfl 42 rfl ?_
              obtain ⟨v10, hv10, hf⟩ := bn1_e hf
              refine cv_i hX (c7_strength r (lkp g [(28, c7)]) u h _ _ _ hv10) wvX7_strength q_599 rc_27 (Nat.le_of_ble_eq_true rfl) (Nat.le_of_ble_eq_true rfl) (fun _ => rfl) [] rfl (Nat.le_of_ble_eq_true rfl) dX7_weave_42 45 rfl ?_
              refine v_istore hX dX7_weave_45 (ltn hn (by decide)) 47 rfl [(5, .int v10), (0, .ref (aX X 27)), (1, .ref (aX X 1)), (2, .int p2), (3, .int x1), (4, .int x6)] rfl ?_
              refine v_aload_n hX dX7_weave_47 rfl 1 rfl 48 rfl ?_
              refine gf_27_0 hX q_69 dX7_weave_48 51 rfl ?_
              refine v_iload_n hX dX7_weave_51 rfl 4 rfl 52 rfl ?_
              refine v_bipush (v := (9 : Int32)) hX dX7_weave_52 (by decide) 54 rfl ?_
              refine v_imul hX dX7_weave_54 55 rfl ?_
              refine v_iload hX dX7_weave_55 5 rfl 57 rfl ?_
              refine v_iadd hX dX7_weave_57 58 rfl ?_
              refine v_iload hX dX7_weave_58 0 rfl 60 rfl ?_
              obtain ⟨hi11, hf⟩ := gd_e hf
              refine as_28 hX hi11 dX7_weave_60 61 rfl c7 rfl [(28, (upd c7 ((x1 * (9 : Int32)) + x6).toNatClampNeg v10))] rfl ?_
              refine v_aload_n hX dX7_weave_61 rfl 1 rfl 62 rfl ?_
              refine gf_27_0 hX q_69 dX7_weave_62 65 rfl ?_
              refine v_iload hX dX7_weave_65 5 rfl 67 rfl ?_
              refine v_bipush (v := (9 : Int32)) hX dX7_weave_67 (by decide) 69 rfl ?_
              refine v_imul hX dX7_weave_69 70 rfl ?_
              refine v_iload_n hX dX7_weave_70 rfl 4 rfl 71 rfl ?_
              refine v_iadd hX dX7_weave_71 72 rfl ?_
              refine v_iload hX dX7_weave_72 0 rfl 74 rfl ?_
              obtain ⟨hi12, hf⟩ := gd_e hf
              refine as_28 hX hi12 dX7_weave_74 75 rfl (upd c7 ((x1 * (9 : Int32)) + x6).toNatClampNeg v10) rfl [(28, (upd (upd c7 ((x1 * (9 : Int32)) + x6).toNatClampNeg v10) ((x6 * (9 : Int32)) + x1).toNatClampNeg v10))] rfl ?_
              refine v_inc (c := (1 : Int32)) hX dX7_weave_75 5 rfl (by decide) (ltn hn (by decide)) 78 rfl [(4, .int (x6 + (1 : Int32))), (5, .int v10), (0, .ref (aX X 27)), (1, .ref (aX X 1)), (2, .int p2), (3, .int x1)] rfl ?_
              refine v_goto hX dX7_weave_78 27 rfl ?_
              refine v_sub [(0, .ref (aX X 27)), (1, .ref (aX X 1)), (2, .int p2), (3, .int x1), (4, .int (x6 + (1 : Int32)))] (sbc 2 rfl (sbc 3 rfl (sbc 4 rfl (sbc 5 rfl (sbc 0 rfl sbn))))) ?_
              exact ih _ _ hf
        refine v_sub [(0, .ref (aX X 27)), (1, .ref (aX X 1)), (2, .int p2), (3, .int x1), (4, .int (x1 + (1 : Int32)))] (sbc 1 rfl (sbc 2 rfl (sbc 3 rfl (sbc 4 rfl (sbc 0 rfl sbn))))) ?_
        exact HLK8 _ _ _ hf
  refine v_sub [(0, .ref (aX X 27)), (1, .ref (aX X 1)), (2, .int p2), (3, .int (0 : Int32))] (sbc 1 rfl (sbc 2 rfl (sbc 3 rfl (sbc 0 rfl sbn)))) ?_
  exact HLK3 _ _ _ hf
set_option maxRecDepth 100000 in
set_option maxHeartbeats 4000000 in
theorem c7_woven (r : Nat → Int32) (g : Nat → Nat → Int32) (u : Nat → Int64) (h : Nat → Nat → Int64) (p1 : Int32) (p2 : Int32) {res : Int32} (hf : f7_woven (g 28) p1 p2 = some res) : MAi yX7_woven cX7_woven 4 (some .int) 0 (fun a => [.ref (a 27), .int p1, .int p2]) r g u h res r g u h := by
  refine mi_i (by decide +kernel) (fun a => Nat.le_of_ble_eq_true rfl) (fun X hX hn hR => ?_)
  replace hR : ∀ q : Int32, some q = some res → ∀ lv pc, decode cX7_woven pc = .ok (.ireturn, 1) → narrow .int (.int q) = .int q → VC X r g u h lv [.int q] pc := fun q hq => by cases hq; exact hR
  replace hX : CX X RX7 cX7_woven 0 := hX
  show VC X r g u h [(0, .ref (aX X 27)), (1, .int p1), (2, .int p2)] [] 0
  rw [f7_woven] at hf
  refine v_iload_n hX dX7_woven_0 rfl 1 rfl 1 rfl ?_
  obtain ⟨J1, hJ1, hf⟩ := jn_x hf
  have HJ1 : ∀ (s2 : Int32), J1 s2 = some res → VC X r g u h [(0, .ref (aX X 27)), (1, .int p1), (2, .int p2)] [.int s2] 25 := by
    intro s2 hf
    rw [hJ1] at hf
    refine v_istore_n hX dX7_woven_25 rfl (ltn hn (by decide)) 26 rfl [(3, .int s2), (0, .ref (aX X 27)), (1, .int p1), (2, .int p2)] rfl ?_
    refine v_iload_n hX dX7_woven_26 rfl 0 rfl 27 rfl ?_
    refine v_if_eq hX dX7_woven_27 44 rfl 30 rfl (fun h4 => ?_) (fun h4 => ?_)
    · replace hf := it_p h4 hf
      refine v_iconst (v := (0 : Int32)) hX dX7_woven_44 (by decide) 45 rfl ?_
      exact hR _ hf _ _ dX7_woven_45 rfl
    · replace hf := it_n h4 hf
      refine v_aload_n hX dX7_woven_30 rfl 1 rfl 31 rfl ?_
      refine gf_27_0 hX q_69 dX7_woven_31 34 rfl ?_
      refine v_iload_n hX dX7_woven_34 rfl 2 rfl 35 rfl ?_
      refine v_bipush (v := (9 : Int32)) hX dX7_woven_35 (by decide) 37 rfl ?_
      refine v_imul hX dX7_woven_37 38 rfl ?_
      refine v_iload_n hX dX7_woven_38 rfl 3 rfl 39 rfl ?_
      refine v_iadd hX dX7_woven_39 40 rfl ?_
      obtain ⟨hi3, hf⟩ := gd_e hf
      refine al_28 hX hi3 dX7_woven_40 ((g 28) ((p1 * (9 : Int32)) + p2).toNatClampNeg) rfl 41 rfl ?_
      refine v_goto hX dX7_woven_41 45 rfl ?_
      exact hR _ hf _ _ dX7_woven_45 rfl
  obtain ⟨J5, hJ5, hf⟩ := jn_x hf
  have HJ5 : J5 = some res → VC X r g u h [(0, .ref (aX X 27)), (1, .int p1), (2, .int p2)] [] 24 := by
    intro hf
    rw [hJ5] at hf
    refine v_iconst (v := (0 : Int32)) hX dX7_woven_24 (by decide) 25 rfl ?_
    exact HJ1 _ hf
  refine v_if_lt hX dX7_woven_1 24 rfl 4 rfl (fun h9 => ?_) (fun h9 => ?_)
  · replace hf := it_p h9 hf
    exact HJ5  hf
  · replace hf := it_n h9 hf
    refine v_iload_n hX dX7_woven_4 rfl 1 rfl 5 rfl ?_
    refine v_bipush (v := (9 : Int32)) hX dX7_woven_5 (by decide) 7 rfl ?_
    refine v_icmp_ge hX dX7_woven_7 24 rfl 10 rfl (fun h8 => ?_) (fun h8 => ?_)
    · replace hf := it_p h8 hf
      exact HJ5  hf
    · replace hf := it_n h8 hf
      refine v_iload_n hX dX7_woven_10 rfl 2 rfl 11 rfl ?_
      refine v_if_lt hX dX7_woven_11 24 rfl 14 rfl (fun h7 => ?_) (fun h7 => ?_)
      · replace hf := it_p h7 hf
        exact HJ5  hf
      · replace hf := it_n h7 hf
        refine v_iload_n hX dX7_woven_14 rfl 2 rfl 15 rfl ?_
        refine v_bipush (v := (9 : Int32)) hX dX7_woven_15 (by decide) 17 rfl ?_
        refine v_icmp_ge hX dX7_woven_17 24 rfl 20 rfl (fun h6 => ?_) (fun h6 => ?_)
        · replace hf := it_p h6 hf
          exact HJ5  hf
        · replace hf := it_n h6 hf
          refine v_iconst (v := (1 : Int32)) hX dX7_woven_20 (by decide) 21 rfl ?_
          refine v_goto hX dX7_woven_21 25 rfl ?_
          exact HJ1 _ hf
set_option maxRecDepth 100000 in
set_option maxHeartbeats 4000000 in
theorem c7_tiedToAny (r : Nat → Int32) (g : Nat → Nat → Int32) (u : Nat → Int64) (h : Nat → Nat → Int64) (p2 : Int32) {res : Int32} (hf : f7_tiedToAny (r 1) (g 28) p2 = some res) : MAi yX7_tiedToAny cX7_tiedToAny 6 (some .int) 1 (fun a => [.ref (a 27), .ref (a 1), .int p2]) r g u h res r g u h := by
  refine mi_i (by decide +kernel) (fun a => Nat.le_of_ble_eq_true rfl) (fun X hX hn hR => ?_)
  replace hR : ∀ q : Int32, some q = some res → ∀ lv pc, decode cX7_tiedToAny pc = .ok (.ireturn, 1) → narrow .int (.int q) = .int q → VC X r g u h lv [.int q] pc := fun q hq => by cases hq; exact hR
  replace hX : CX X RX7 cX7_tiedToAny 1 := hX
  show VC X r g u h [(0, .ref (aX X 27)), (1, .ref (aX X 1)), (2, .int p2)] [] 0
  rw [f7_tiedToAny] at hf
  refine v_iconst (v := (0 : Int32)) hX dX7_tiedToAny_0 (by decide) 1 rfl ?_
  refine v_istore_n hX dX7_tiedToAny_1 rfl (ltn hn (by decide)) 2 rfl [(3, .int (0 : Int32)), (0, .ref (aX X 27)), (1, .ref (aX X 1)), (2, .int p2)] rfl ?_
  refine v_iconst (v := (0 : Int32)) hX dX7_tiedToAny_2 (by decide) 3 rfl ?_
  refine v_istore hX dX7_tiedToAny_3 (ltn hn (by decide)) 5 rfl [(4, .int (0 : Int32)), (3, .int (0 : Int32)), (0, .ref (aX X 27)), (1, .ref (aX X 1)), (2, .int p2)] rfl ?_
  obtain ⟨K3, hK3, hf⟩ := jn_x hf
  have HK3 : ∀ (x1 : Int32) (x2 : Int32), K3 x1 x2 = some res → VC X r g u h [(3, .int x1)] [] 68 := by
    intro x1 x2 hf
    rw [hK3] at hf
    refine v_iload_n hX dX7_tiedToAny_68 rfl 0 rfl 69 rfl ?_
    exact hR _ hf _ _ dX7_tiedToAny_69 rfl
  have HLK3 : ∀ (n4 : Nat) (x1 : Int32) (x2 : Int32), f7_tiedToAny_L5 (r 1) (g 28) p2 n4 x1 x2 K3 = some res → VC X r g u h [(0, .ref (aX X 27)), (1, .ref (aX X 1)), (2, .int p2), (3, .int x1), (4, .int x2)] [] 5 := by
    intro n4
    induction n4 with
    | zero => intro x1 x2 hf; exact no_s hf
    | succ n4 ih =>
      intro x1 x2 hf
      rw [f7_tiedToAny_L5] at hf
      refine v_iload hX dX7_tiedToAny_5 4 rfl 7 rfl ?_
      refine v_aload_n hX dX7_tiedToAny_7 rfl 1 rfl 8 rfl ?_
      refine gf_1_6 hX q_598 dX7_tiedToAny_8 ((r 1)) rfl 11 rfl ?_
      refine v_icmp_ge hX dX7_tiedToAny_11 68 rfl 14 rfl (fun h17 => ?_) (fun h17 => ?_)
      · replace hf := it_p h17 hf
        refine v_sub [(3, .int x1)] (sbc 3 rfl sbn) ?_
        exact HK3 _ _ hf
      · replace hf := it_n h17 hf
        refine v_iload_n hX dX7_tiedToAny_14 rfl 2 rfl 15 rfl ?_
        refine v_iload hX dX7_tiedToAny_15 4 rfl 17 rfl ?_
        refine v_ishr hX dX7_tiedToAny_17 18 rfl ?_
        refine v_iconst (v := (1 : Int32)) hX dX7_tiedToAny_18 (by decide) 19 rfl ?_
        refine v_iand hX dX7_tiedToAny_19 20 rfl ?_
        obtain ⟨J5, hJ5, hf⟩ := jn_x hf
        have HJ5 : ∀ (y6 : Int32), J5 y6 = some res → VC X r g u h [(0, .ref (aX X 27)), (1, .ref (aX X 1)), (2, .int p2), (3, .int y6), (4, .int x2)] [] 62 := by
          intro y6 hf
          rw [hJ5] at hf
          refine v_inc (c := (1 : Int32)) hX dX7_tiedToAny_62 4 rfl (by decide) (ltn hn (by decide)) 65 rfl [(4, .int (x2 + (1 : Int32))), (0, .ref (aX X 27)), (1, .ref (aX X 1)), (2, .int p2), (3, .int y6)] rfl ?_
          refine v_goto hX dX7_tiedToAny_65 5 rfl ?_
          refine v_sub [(0, .ref (aX X 27)), (1, .ref (aX X 1)), (2, .int p2), (3, .int y6), (4, .int (x2 + (1 : Int32)))] (sbc 1 rfl (sbc 2 rfl (sbc 3 rfl (sbc 4 rfl (sbc 0 rfl sbn))))) ?_
          exact ih _ _ hf
        refine v_if_ne hX dX7_tiedToAny_20 26 rfl 23 rfl (fun h16 => ?_) (fun h16 => ?_)
        · replace hf := it_n h16 hf
          refine v_iconst (v := (0 : Int32)) hX dX7_tiedToAny_26 (by decide) 27 rfl ?_
          refine v_istore hX dX7_tiedToAny_27 (ltn hn (by decide)) 29 rfl [(5, .int (0 : Int32)), (0, .ref (aX X 27)), (1, .ref (aX X 1)), (2, .int p2), (3, .int x1), (4, .int x2)] rfl ?_
          obtain ⟨K9, hK9, hf⟩ := jn_x hf
          have HK9 : ∀ (x7 : Int32) (x8 : Int32), K9 x7 x8 = some res → VC X r g u h [(0, .ref (aX X 27)), (1, .ref (aX X 1)), (2, .int p2), (3, .int x7), (4, .int x2)] [] 62 := by
            intro x7 x8 hf
            rw [hK9] at hf
            exact HJ5 _ hf
          have HLK9 : ∀ (n10 : Nat) (x7 : Int32) (x8 : Int32), f7_tiedToAny_L29 (r 1) (g 28) x2 n10 x7 x8 K9 = some res → VC X r g u h [(0, .ref (aX X 27)), (1, .ref (aX X 1)), (2, .int p2), (3, .int x7), (4, .int x2), (5, .int x8)] [] 29 := by
            intro n10
            induction n10 with
            | zero => intro x7 x8 hf; exact no_s hf
            | succ n10 ih =>
              intro x7 x8 hf
              rw [f7_tiedToAny_L29] at hf
              refine v_iload hX dX7_tiedToAny_29 5 rfl 31 rfl ?_
              refine v_aload_n hX dX7_tiedToAny_31 rfl 1 rfl 32 rfl ?_
              refine gf_1_6 hX q_598 dX7_tiedToAny_32 ((r 1)) rfl 35 rfl ?_
              refine v_icmp_ge hX dX7_tiedToAny_35 62 rfl 38 rfl (fun h15 => ?_) (fun h15 => ?_)
              · replace hf := it_p h15 hf
                refine v_sub [(0, .ref (aX X 27)), (1, .ref (aX X 1)), (2, .int p2), (3, .int x7), (4, .int x2)] (sbc 0 rfl (sbc 1 rfl (sbc 2 rfl (sbc 3 rfl (sbc 4 rfl sbn))))) ?_
                exact HK9 _ _ hf
              · replace hf := it_n h15 hf
                refine v_aload_n hX dX7_tiedToAny_38 rfl 0 rfl 39 rfl ?_
                refine v_iload hX dX7_tiedToAny_39 4 rfl 41 rfl ?_
                refine v_iload hX dX7_tiedToAny_41 5 rfl 43 rfl ?_
                obtain ⟨v11, hv11, hf⟩ := bn1_e hf
                refine cv_i hX (c7_woven r g u h _ _ hv11) wvX7_woven q_624 rc_27 (Nat.le_of_ble_eq_true rfl) (Nat.le_of_ble_eq_true rfl) (fun _ => rfl) [] rfl (Nat.le_of_ble_eq_true rfl) dX7_tiedToAny_43 46 rfl ?_
                obtain ⟨J12, hJ12, hf⟩ := jn_x hf
                have HJ12 : ∀ (y13 : Int32), J12 y13 = some res → VC X r g u h [(0, .ref (aX X 27)), (1, .ref (aX X 1)), (2, .int p2), (3, .int y13), (4, .int x2), (5, .int x8)] [] 56 := by
                  intro y13 hf
                  rw [hJ12] at hf
                  refine v_inc (c := (1 : Int32)) hX dX7_tiedToAny_56 5 rfl (by decide) (ltn hn (by decide)) 59 rfl [(5, .int (x8 + (1 : Int32))), (0, .ref (aX X 27)), (1, .ref (aX X 1)), (2, .int p2), (3, .int y13), (4, .int x2)] rfl ?_
                  refine v_goto hX dX7_tiedToAny_59 29 rfl ?_
                  refine v_sub [(0, .ref (aX X 27)), (1, .ref (aX X 1)), (2, .int p2), (3, .int y13), (4, .int x2), (5, .int (x8 + (1 : Int32)))] (sbc 1 rfl (sbc 2 rfl (sbc 3 rfl (sbc 4 rfl (sbc 5 rfl (sbc 0 rfl sbn)))))) ?_
                  exact ih _ _ hf
                refine v_if_le hX dX7_tiedToAny_46 56 rfl 49 rfl (fun h14 => ?_) (fun h14 => ?_)
                · replace hf := it_p h14 hf
                  exact HJ12 _ hf
                · replace hf := it_n h14 hf
                  refine v_iload_n hX dX7_tiedToAny_49 rfl 3 rfl 50 rfl ?_
                  refine v_iconst (v := (1 : Int32)) hX dX7_tiedToAny_50 (by decide) 51 rfl ?_
                  refine v_iload hX dX7_tiedToAny_51 5 rfl 53 rfl ?_
                  refine v_ishl hX dX7_tiedToAny_53 54 rfl ?_
                  refine v_ior hX dX7_tiedToAny_54 55 rfl ?_
                  refine v_istore_n hX dX7_tiedToAny_55 rfl (ltn hn (by decide)) 56 rfl [(3, .int (x7 ||| ((1 : Int32) <<< (x8 &&& 31)))), (0, .ref (aX X 27)), (1, .ref (aX X 1)), (2, .int p2), (4, .int x2), (5, .int x8)] rfl ?_
                  refine v_sub [(0, .ref (aX X 27)), (1, .ref (aX X 1)), (2, .int p2), (3, .int (x7 ||| ((1 : Int32) <<< (x8 &&& 31)))), (4, .int x2), (5, .int x8)] (sbc 1 rfl (sbc 2 rfl (sbc 3 rfl (sbc 0 rfl (sbc 4 rfl (sbc 5 rfl sbn)))))) ?_
                  exact HJ12 _ hf
          refine v_sub [(0, .ref (aX X 27)), (1, .ref (aX X 1)), (2, .int p2), (3, .int x1), (4, .int x2), (5, .int (0 : Int32))] (sbc 1 rfl (sbc 2 rfl (sbc 3 rfl (sbc 4 rfl (sbc 5 rfl (sbc 0 rfl sbn)))))) ?_
          exact HLK9 _ _ _ hf
        · replace hf := it_p h16 hf
          refine v_goto hX dX7_tiedToAny_23 62 rfl ?_
          exact HJ5 _ hf
  refine v_sub [(0, .ref (aX X 27)), (1, .ref (aX X 1)), (2, .int p2), (3, .int (0 : Int32)), (4, .int (0 : Int32))] (sbc 2 rfl (sbc 3 rfl (sbc 4 rfl (sbc 1 rfl (sbc 0 rfl sbn))))) ?_
  exact HLK3 _ _ _ hf
set_option maxRecDepth 100000 in
set_option maxHeartbeats 4000000 in
theorem c7_hanging (r : Nat → Int32) (g : Nat → Nat → Int32) (u : Nat → Int64) (h : Nat → Nat → Int64) (p2 : Int32) {res : Int32 × (Nat → Int32)} (hf : f7_hanging (r 1) (r 0) (g 7) (g 5) (g 3) (g 6) (g 8) (g 28) p2 = some res) : MAi yX7_hanging cX7_hanging 5 (some .int) 5 (fun a => [.ref (a 27), .ref (a 1), .int p2]) r g u h res.1 r (lkp g [(28, res.2)]) u h := by
  refine mi_i (by decide +kernel) (fun a => Nat.le_of_ble_eq_true rfl) (fun X hX hn hR => ?_)
  replace hR : ∀ q : Int32 × (Nat → Int32), some q = some res → ∀ lv pc, decode cX7_hanging pc = .ok (.ireturn, 1) → narrow .int (.int q.1) = .int q.1 → VC X r (lkp g [(28, q.2)]) u h lv [.int q.1] pc := fun q hq => by cases hq; exact hR
  replace hX : CX X RX7 cX7_hanging 5 := hX
  refine v_opg [28] [(28, g 28)] rfl ?_
  show VC X r (lkp g [(28, g 28)]) u h [(0, .ref (aX X 27)), (1, .ref (aX X 1)), (2, .int p2)] [] 0
  rw [f7_hanging] at hf
  refine v_aload_n hX dX7_hanging_0 rfl 0 rfl 1 rfl ?_
  refine v_aload_n hX dX7_hanging_1 rfl 1 rfl 2 rfl ?_
  refine v_iconst (v := (-1 : Int32)) hX dX7_hanging_2 (by decide) 3 rfl ?_
  obtain ⟨c1, hc1, hf⟩ := bn1_e hf
  refine cv_v hX (c7_weave r (lkp g [(28, (g 28))]) u h _ hc1) wvX7_weave q_616 rc_27 (Nat.le_of_ble_eq_true rfl) (Nat.le_of_ble_eq_true rfl) (fun _ => rfl) [] rfl (Nat.le_of_ble_eq_true rfl) dX7_hanging_3 6 rfl ?_
  refine v_mgg [(28, c1)] rfl ?_
  refine v_iconst (v := (1 : Int32)) hX dX7_hanging_6 (by decide) 7 rfl ?_
  refine v_iload_n hX dX7_hanging_7 rfl 2 rfl 8 rfl ?_
  refine v_ishl hX dX7_hanging_8 9 rfl ?_
  refine v_istore_n hX dX7_hanging_9 rfl (ltn hn (by decide)) 10 rfl [(3, .int ((1 : Int32) <<< (p2 &&& 31))), (0, .ref (aX X 27)), (1, .ref (aX X 1)), (2, .int p2)] rfl ?_
  refine v_iconst (v := (0 : Int32)) hX dX7_hanging_10 (by decide) 11 rfl ?_
  refine v_istore hX dX7_hanging_11 (ltn hn (by decide)) 13 rfl [(4, .int (0 : Int32)), (3, .int ((1 : Int32) <<< (p2 &&& 31))), (0, .ref (aX X 27)), (1, .ref (aX X 1)), (2, .int p2)] rfl ?_
  obtain ⟨K4, hK4, hf⟩ := jn_x hf
  have HK4 : ∀ (x2 : Int32) (x3 : Int32), K4 x2 x3 = some res → VC X r (lkp g [(28, c1)]) u h [(3, .int x2)] [] 37 := by
    intro x2 x3 hf
    rw [hK4] at hf
    refine v_iload_n hX dX7_hanging_37 rfl 0 rfl 38 rfl ?_
    exact hR _ hf _ _ dX7_hanging_38 rfl
  have HLK4 : ∀ (n5 : Nat) (x2 : Int32) (x3 : Int32), f7_hanging_L13 (r 1) c1 n5 x2 x3 K4 = some res → VC X r (lkp g [(28, c1)]) u h [(0, .ref (aX X 27)), (1, .ref (aX X 1)), (3, .int x2), (4, .int x3)] [] 13 := by
    intro n5
    induction n5 with
    | zero => intro x2 x3 hf; exact no_s hf
    | succ n5 ih =>
      intro x2 x3 hf
      rw [f7_hanging_L13] at hf
      refine v_iload hX dX7_hanging_13 3 rfl 15 rfl ?_
      refine v_aload_n hX dX7_hanging_15 rfl 1 rfl 16 rfl ?_
      refine gf_1_6 hX q_598 dX7_hanging_16 ((r 1)) rfl 19 rfl ?_
      refine v_icmp_ge hX dX7_hanging_19 37 rfl 22 rfl (fun h7 => ?_) (fun h7 => ?_)
      · replace hf := it_p h7 hf
        refine v_sub [(3, .int x2)] (sbc 2 rfl sbn) ?_
        exact HK4 _ _ hf
      · replace hf := it_n h7 hf
        refine v_iload_n hX dX7_hanging_22 rfl 2 rfl 23 rfl ?_
        refine v_aload_n hX dX7_hanging_23 rfl 0 rfl 24 rfl ?_
        refine v_aload_n hX dX7_hanging_24 rfl 1 rfl 25 rfl ?_
        refine v_iload_n hX dX7_hanging_25 rfl 2 rfl 26 rfl ?_
        obtain ⟨v6, hv6, hf⟩ := bn1_e hf
        refine cv_i hX (c7_tiedToAny r (lkp g [(28, c1)]) u h _ hv6) wvX7_tiedToAny q_620 rc_27 (Nat.le_of_ble_eq_true rfl) (Nat.le_of_ble_eq_true rfl) (fun _ => rfl) [.int x2] rfl (Nat.le_of_ble_eq_true rfl) dX7_hanging_26 29 rfl ?_
        refine v_ior hX dX7_hanging_29 30 rfl ?_
        refine v_istore_n hX dX7_hanging_30 rfl (ltn hn (by decide)) 31 rfl [(3, .int (x2 ||| v6)), (0, .ref (aX X 27)), (1, .ref (aX X 1)), (4, .int x3)] rfl ?_
        refine v_inc (c := (1 : Int32)) hX dX7_hanging_31 3 rfl (by decide) (ltn hn (by decide)) 34 rfl [(4, .int (x3 + (1 : Int32))), (3, .int (x2 ||| v6)), (0, .ref (aX X 27)), (1, .ref (aX X 1))] rfl ?_
        refine v_goto hX dX7_hanging_34 13 rfl ?_
        refine v_sub [(0, .ref (aX X 27)), (1, .ref (aX X 1)), (3, .int (x2 ||| v6)), (4, .int (x3 + (1 : Int32)))] (sbc 2 rfl (sbc 3 rfl (sbc 1 rfl (sbc 0 rfl sbn)))) ?_
        exact ih _ _ hf
  refine v_sub [(0, .ref (aX X 27)), (1, .ref (aX X 1)), (3, .int ((1 : Int32) <<< (p2 &&& 31))), (4, .int (0 : Int32))] (sbc 2 rfl (sbc 3 rfl (sbc 1 rfl (sbc 0 rfl sbn)))) ?_
  exact HLK4 _ _ _ hf
set_option maxRecDepth 100000 in
set_option maxHeartbeats 4000000 in
theorem c7_bonds (r : Nat → Int32) (g : Nat → Nat → Int32) (u : Nat → Int64) (h : Nat → Nat → Int64) (p1 : Int32) (p2 : Int32) {res : Int32} (hf : f7_bonds (g 28) p1 p2 = some res) : MAi yX7_bonds cX7_bonds 5 (some .int) 1 (fun a => [.ref (a 27), .int p1, .int p2]) r g u h res r g u h := by
  refine mi_i (by decide +kernel) (fun a => Nat.le_of_ble_eq_true rfl) (fun X hX hn hR => ?_)
  replace hR : ∀ q : Int32, some q = some res → ∀ lv pc, decode cX7_bonds pc = .ok (.ireturn, 1) → narrow .int (.int q) = .int q → VC X r g u h lv [.int q] pc := fun q hq => by cases hq; exact hR
  replace hX : CX X RX7 cX7_bonds 1 := hX
  show VC X r g u h [(0, .ref (aX X 27)), (1, .int p1), (2, .int p2)] [] 0
  rw [f7_bonds] at hf
  refine v_iconst (v := (0 : Int32)) hX dX7_bonds_0 (by decide) 1 rfl ?_
  refine v_istore_n hX dX7_bonds_1 rfl (ltn hn (by decide)) 2 rfl [(3, .int (0 : Int32)), (0, .ref (aX X 27)), (1, .int p1), (2, .int p2)] rfl ?_
  refine v_iconst (v := (0 : Int32)) hX dX7_bonds_2 (by decide) 3 rfl ?_
  refine v_istore hX dX7_bonds_3 (ltn hn (by decide)) 5 rfl [(4, .int (0 : Int32)), (3, .int (0 : Int32)), (0, .ref (aX X 27)), (1, .int p1), (2, .int p2)] rfl ?_
  obtain ⟨K3, hK3, hf⟩ := jn_x hf
  have HK3 : ∀ (x1 : Int32) (x2 : Int32), K3 x1 x2 = some res → VC X r g u h [(3, .int x1)] [] 36 := by
    intro x1 x2 hf
    rw [hK3] at hf
    refine v_iload_n hX dX7_bonds_36 rfl 0 rfl 37 rfl ?_
    exact hR _ hf _ _ dX7_bonds_37 rfl
  have HLK3 : ∀ (n4 : Nat) (x1 : Int32) (x2 : Int32), f7_bonds_L5 (g 28) p1 p2 n4 x1 x2 K3 = some res → VC X r g u h [(0, .ref (aX X 27)), (1, .int p1), (2, .int p2), (3, .int x1), (4, .int x2)] [] 5 := by
    intro n4
    induction n4 with
    | zero => intro x1 x2 hf; exact no_s hf
    | succ n4 ih =>
      intro x1 x2 hf
      rw [f7_bonds_L5] at hf
      refine v_iload hX dX7_bonds_5 4 rfl 7 rfl ?_
      refine v_iload_n hX dX7_bonds_7 rfl 1 rfl 8 rfl ?_
      refine v_icmp_ge hX dX7_bonds_8 36 rfl 11 rfl (fun h9 => ?_) (fun h9 => ?_)
      · replace hf := it_p h9 hf
        refine v_sub [(3, .int x1)] (sbc 3 rfl sbn) ?_
        exact HK3 _ _ hf
      · replace hf := it_n h9 hf
        refine v_iload_n hX dX7_bonds_11 rfl 2 rfl 12 rfl ?_
        refine v_iload hX dX7_bonds_12 4 rfl 14 rfl ?_
        refine v_ishr hX dX7_bonds_14 15 rfl ?_
        refine v_iconst (v := (1 : Int32)) hX dX7_bonds_15 (by decide) 16 rfl ?_
        refine v_iand hX dX7_bonds_16 17 rfl ?_
        obtain ⟨J5, hJ5, hf⟩ := jn_x hf
        have HJ5 : ∀ (y6 : Int32), J5 y6 = some res → VC X r g u h [(0, .ref (aX X 27)), (1, .int p1), (2, .int p2), (3, .int y6), (4, .int x2)] [] 30 := by
          intro y6 hf
          rw [hJ5] at hf
          refine v_inc (c := (1 : Int32)) hX dX7_bonds_30 4 rfl (by decide) (ltn hn (by decide)) 33 rfl [(4, .int (x2 + (1 : Int32))), (0, .ref (aX X 27)), (1, .int p1), (2, .int p2), (3, .int y6)] rfl ?_
          refine v_goto hX dX7_bonds_33 5 rfl ?_
          refine v_sub [(0, .ref (aX X 27)), (1, .int p1), (2, .int p2), (3, .int y6), (4, .int (x2 + (1 : Int32)))] (sbc 1 rfl (sbc 2 rfl (sbc 3 rfl (sbc 4 rfl (sbc 0 rfl sbn))))) ?_
          exact ih _ _ hf
        refine v_if_eq hX dX7_bonds_17 30 rfl 20 rfl (fun h8 => ?_) (fun h8 => ?_)
        · replace hf := it_p h8 hf
          exact HJ5 _ hf
        · replace hf := it_n h8 hf
          refine v_iload_n hX dX7_bonds_20 rfl 3 rfl 21 rfl ?_
          refine v_aload_n hX dX7_bonds_21 rfl 0 rfl 22 rfl ?_
          refine v_iload hX dX7_bonds_22 4 rfl 24 rfl ?_
          refine v_iload_n hX dX7_bonds_24 rfl 1 rfl 25 rfl ?_
          obtain ⟨v7, hv7, hf⟩ := bn1_e hf
          refine cv_i hX (c7_woven r g u h _ _ hv7) wvX7_woven q_624 rc_27 (Nat.le_of_ble_eq_true rfl) (Nat.le_of_ble_eq_true rfl) (fun _ => rfl) [.int x1] rfl (Nat.le_of_ble_eq_true rfl) dX7_bonds_25 28 rfl ?_
          refine v_iadd hX dX7_bonds_28 29 rfl ?_
          refine v_istore_n hX dX7_bonds_29 rfl (ltn hn (by decide)) 30 rfl [(3, .int (x1 + v7)), (0, .ref (aX X 27)), (1, .int p1), (2, .int p2), (4, .int x2)] rfl ?_
          refine v_sub [(0, .ref (aX X 27)), (1, .int p1), (2, .int p2), (3, .int (x1 + v7)), (4, .int x2)] (sbc 1 rfl (sbc 2 rfl (sbc 3 rfl (sbc 0 rfl (sbc 4 rfl sbn))))) ?_
          exact HJ5 _ hf
  refine v_sub [(0, .ref (aX X 27)), (1, .int p1), (2, .int p2), (3, .int (0 : Int32)), (4, .int (0 : Int32))] (sbc 2 rfl (sbc 3 rfl (sbc 4 rfl (sbc 1 rfl (sbc 0 rfl sbn))))) ?_
  exact HLK3 _ _ _ hf
set_option maxRecDepth 100000 in
set_option maxHeartbeats 4000000 in
theorem c7_scoreSets (r : Nat → Int32) (g : Nat → Nat → Int32) (u : Nat → Int64) (h : Nat → Nat → Int64) (p2 : Int32) {res : (Nat → Int32) × (Nat → Int32)} (hf : f7_scoreSets (r 1) (r 0) (g 7) (g 5) (g 3) (g 6) (g 8) (g 29) (g 28) p2 = some res) : MAv yX7_scoreSets cX7_scoreSets 6 none 5 (fun a => [.ref (a 27), .ref (a 1), .int p2]) r g u h r (lkp g [(29, res.1), (28, res.2)]) u h := by
  refine mi_v (by decide +kernel) (fun a => Nat.le_of_ble_eq_true rfl) (fun X hX hn hR => ?_)
  replace hR : ∀ q : (Nat → Int32) × (Nat → Int32), some q = some res → ∀ lv pc, decode cX7_scoreSets pc = .ok (.return_, 1) → VC X r (lkp g [(29, q.1), (28, q.2)]) u h lv [] pc := fun q hq => by cases hq; exact hR
  replace hX : CX X RX7 cX7_scoreSets 5 := hX
  refine v_opg [29, 28] [(29, g 29), (28, g 28)] rfl ?_
  show VC X r (lkp g [(29, g 29), (28, g 28)]) u h [(0, .ref (aX X 27)), (1, .ref (aX X 1)), (2, .int p2)] [] 0
  rw [f7_scoreSets] at hf
  refine v_aload_n hX dX7_scoreSets_0 rfl 0 rfl 1 rfl ?_
  refine v_aload_n hX dX7_scoreSets_1 rfl 1 rfl 2 rfl ?_
  refine v_iload_n hX dX7_scoreSets_2 rfl 2 rfl 3 rfl ?_
  obtain ⟨c1, hc1, hf⟩ := bn1_e hf
  refine cv_v hX (c7_weave r (lkp g [(29, (g 29)), (28, (g 28))]) u h _ hc1) wvX7_weave q_616 rc_27 (Nat.le_of_ble_eq_true rfl) (Nat.le_of_ble_eq_true rfl) (fun _ => rfl) [] rfl (Nat.le_of_ble_eq_true rfl) dX7_scoreSets_3 6 rfl ?_
  refine v_mgg [(29, (g 29)), (28, c1)] rfl ?_
  refine v_aload_n hX dX7_scoreSets_6 rfl 1 rfl 7 rfl ?_
  refine v_iconst (v := (4 : Int32)) hX dX7_scoreSets_7 (by decide) 8 rfl ?_
  obtain ⟨v2, hv2, hf⟩ := bn1_e hf
  refine cv_i hX (c0_law r (lkp g [(29, (g 29)), (28, c1)]) u h _ hv2) wvX0_law q_570 rc_1 (Nat.le_of_ble_eq_true rfl) (Nat.le_of_ble_eq_true rfl) (fun _ => rfl) [] rfl (Nat.le_of_ble_eq_true rfl) dX7_scoreSets_8 11 rfl ?_
  refine v_istore_n hX dX7_scoreSets_11 rfl (ltn hn (by decide)) 12 rfl [(3, .int v2), (0, .ref (aX X 27)), (1, .ref (aX X 1)), (2, .int p2)] rfl ?_
  refine v_aload_n hX dX7_scoreSets_12 rfl 1 rfl 13 rfl ?_
  refine gf_27_1 hX q_70 dX7_scoreSets_13 16 rfl ?_
  refine v_iconst (v := (0 : Int32)) hX dX7_scoreSets_16 (by decide) 17 rfl ?_
  refine v_iconst (v := (0 : Int32)) hX dX7_scoreSets_17 (by decide) 18 rfl ?_
  obtain ⟨hi3, hf⟩ := gd_e hf
  refine as_29 hX hi3 dX7_scoreSets_18 19 rfl (g 29) rfl [(29, (upd (g 29) (0 : Int32).toNatClampNeg (0 : Int32))), (28, c1)] rfl ?_
  refine v_iconst (v := (0 : Int32)) hX dX7_scoreSets_19 (by decide) 20 rfl ?_
  refine v_istore hX dX7_scoreSets_20 (ltn hn (by decide)) 22 rfl [(4, .int (0 : Int32)), (3, .int v2), (0, .ref (aX X 27)), (1, .ref (aX X 1)), (2, .int p2)] rfl ?_
  obtain ⟨K6, hK6, hf⟩ := jn_x hf
  have HK6 : ∀ (x4 : Int32) (c5 : (Nat → Int32)), K6 x4 c5 = some res → VC X r (lkp g [(29, c5), (28, c1)]) u h [] [] 85 := by
    intro x4 c5 hf
    rw [hK6] at hf
    exact hR _ hf _ _ dX7_scoreSets_85
  have HLK6 : ∀ (n7 : Nat) (x4 : Int32) (c5 : (Nat → Int32)), f7_scoreSets_L22 (r 1) c1 v2 n7 x4 c5 K6 = some res → VC X r (lkp g [(29, c5), (28, c1)]) u h [(0, .ref (aX X 27)), (1, .ref (aX X 1)), (3, .int v2), (4, .int x4)] [] 22 := by
    intro n7
    induction n7 with
    | zero => intro x4 c5 hf; exact no_s hf
    | succ n7 ih =>
      intro x4 c5 hf
      rw [f7_scoreSets_L22] at hf
      refine v_iload hX dX7_scoreSets_22 3 rfl 24 rfl ?_
      refine v_aload_n hX dX7_scoreSets_24 rfl 1 rfl 25 rfl ?_
      refine gf_1_6 hX q_598 dX7_scoreSets_25 ((r 1)) rfl 28 rfl ?_
      refine v_icmp_ge hX dX7_scoreSets_28 85 rfl 31 rfl (fun h16 => ?_) (fun h16 => ?_)
      · replace hf := it_p h16 hf
        refine v_sub [] sbn ?_
        exact HK6 _ _ hf
      · replace hf := it_n h16 hf
        refine v_iconst (v := (0 : Int32)) hX dX7_scoreSets_31 (by decide) 32 rfl ?_
        refine v_istore hX dX7_scoreSets_32 (ltn hn (by decide)) 34 rfl [(5, .int (0 : Int32)), (0, .ref (aX X 27)), (1, .ref (aX X 1)), (3, .int v2), (4, .int x4)] rfl ?_
        obtain ⟨K10, hK10, hf⟩ := jn_x hf
        have HK10 : ∀ (x8 : Int32) (c9 : (Nat → Int32)), K10 x8 c9 = some res → VC X r (lkp g [(29, c9), (28, c1)]) u h [(0, .ref (aX X 27)), (1, .ref (aX X 1)), (3, .int v2), (4, .int x4)] [] 79 := by
          intro x8 c9 hf
          rw [hK10] at hf
          refine v_inc (c := (1 : Int32)) hX dX7_scoreSets_79 3 rfl (by decide) (ltn hn (by decide)) 82 rfl [(4, .int (x4 + (1 : Int32))), (0, .ref (aX X 27)), (1, .ref (aX X 1)), (3, .int v2)] rfl ?_
          refine v_goto hX dX7_scoreSets_82 22 rfl ?_
          refine v_sub [(0, .ref (aX X 27)), (1, .ref (aX X 1)), (3, .int v2), (4, .int (x4 + (1 : Int32)))] (sbc 1 rfl (sbc 2 rfl (sbc 3 rfl (sbc 0 rfl sbn)))) ?_
          exact ih _ _ hf
        have HLK10 : ∀ (n11 : Nat) (x8 : Int32) (c9 : (Nat → Int32)), f7_scoreSets_L34 c1 v2 x4 n11 x8 c9 K10 = some res → VC X r (lkp g [(29, c9), (28, c1)]) u h [(0, .ref (aX X 27)), (1, .ref (aX X 1)), (3, .int v2), (4, .int x4), (5, .int x8)] [] 34 := by
          intro n11
          induction n11 with
          | zero => intro x8 c9 hf; exact no_s hf
          | succ n11 ih =>
            intro x8 c9 hf
            rw [f7_scoreSets_L34] at hf
            refine v_iload hX dX7_scoreSets_34 4 rfl 36 rfl ?_
            refine v_iconst (v := (1 : Int32)) hX dX7_scoreSets_36 (by decide) 37 rfl ?_
            refine v_iload hX dX7_scoreSets_37 3 rfl 39 rfl ?_
            refine v_ishl hX dX7_scoreSets_39 40 rfl ?_
            refine v_icmp_ge hX dX7_scoreSets_40 79 rfl 43 rfl (fun h15 => ?_) (fun h15 => ?_)
            · replace hf := it_p h15 hf
              refine v_sub [(0, .ref (aX X 27)), (1, .ref (aX X 1)), (3, .int v2), (4, .int x4)] (sbc 0 rfl (sbc 1 rfl (sbc 2 rfl (sbc 3 rfl sbn)))) ?_
              exact HK10 _ _ hf
            · replace hf := it_n h15 hf
              refine v_aload_n hX dX7_scoreSets_43 rfl 0 rfl 44 rfl ?_
              refine gf_27_1 hX q_70 dX7_scoreSets_44 47 rfl ?_
              refine v_iload hX dX7_scoreSets_47 4 rfl 49 rfl ?_
              refine v_iconst (v := (1 : Int32)) hX dX7_scoreSets_49 (by decide) 50 rfl ?_
              refine v_iload hX dX7_scoreSets_50 3 rfl 52 rfl ?_
              refine v_ishl hX dX7_scoreSets_52 53 rfl ?_
              refine v_ior hX dX7_scoreSets_53 54 rfl ?_
              refine v_aload_n hX dX7_scoreSets_54 rfl 0 rfl 55 rfl ?_
              refine gf_27_1 hX q_70 dX7_scoreSets_55 58 rfl ?_
              refine v_iload hX dX7_scoreSets_58 4 rfl 60 rfl ?_
              obtain ⟨hi12, hf⟩ := gd_e hf
              refine al_29 hX hi12 dX7_scoreSets_60 (c9 x8.toNatClampNeg) rfl 61 rfl ?_
              refine v_aload_n hX dX7_scoreSets_61 rfl 0 rfl 62 rfl ?_
              refine v_iload hX dX7_scoreSets_62 3 rfl 64 rfl ?_
              refine v_iload hX dX7_scoreSets_64 4 rfl 66 rfl ?_
              obtain ⟨v13, hv13, hf⟩ := bn1_e hf
              refine cv_i hX (c7_bonds r (lkp g [(29, c9), (28, c1)]) u h _ _ hv13) wvX7_bonds q_676 rc_27 (Nat.le_of_ble_eq_true rfl) (Nat.le_of_ble_eq_true rfl) (fun _ => rfl) [.int (c9 x8.toNatClampNeg), .int (x8 ||| ((1 : Int32) <<< (x4 &&& 31))), .ref (aX X 29)] rfl (Nat.le_of_ble_eq_true rfl) dX7_scoreSets_66 69 rfl ?_
              refine v_iadd hX dX7_scoreSets_69 70 rfl ?_
              refine v_iload_n hX dX7_scoreSets_70 rfl 2 rfl 71 rfl ?_
              refine v_isub hX dX7_scoreSets_71 72 rfl ?_
              obtain ⟨hi14, hf⟩ := gd_e hf
              refine as_29 hX hi14 dX7_scoreSets_72 73 rfl c9 rfl [(29, (upd c9 (x8 ||| ((1 : Int32) <<< (x4 &&& 31))).toNatClampNeg (((c9 x8.toNatClampNeg) + v13) - v2))), (28, c1)] rfl ?_
              refine v_inc (c := (1 : Int32)) hX dX7_scoreSets_73 4 rfl (by decide) (ltn hn (by decide)) 76 rfl [(5, .int (x8 + (1 : Int32))), (0, .ref (aX X 27)), (1, .ref (aX X 1)), (3, .int v2), (4, .int x4)] rfl ?_
              refine v_goto hX dX7_scoreSets_76 34 rfl ?_
              refine v_sub [(0, .ref (aX X 27)), (1, .ref (aX X 1)), (3, .int v2), (4, .int x4), (5, .int (x8 + (1 : Int32)))] (sbc 1 rfl (sbc 2 rfl (sbc 3 rfl (sbc 4 rfl (sbc 0 rfl sbn))))) ?_
              exact ih _ _ hf
        refine v_sub [(0, .ref (aX X 27)), (1, .ref (aX X 1)), (3, .int v2), (4, .int x4), (5, .int (0 : Int32))] (sbc 1 rfl (sbc 2 rfl (sbc 3 rfl (sbc 4 rfl (sbc 0 rfl sbn))))) ?_
        exact HLK10 _ _ _ hf
  refine v_sub [(0, .ref (aX X 27)), (1, .ref (aX X 1)), (3, .int v2), (4, .int (0 : Int32))] (sbc 2 rfl (sbc 3 rfl (sbc 1 rfl (sbc 0 rfl sbn)))) ?_
  exact HLK6 _ _ _ hf
set_option maxRecDepth 100000 in
set_option maxHeartbeats 4000000 in
theorem c7_isBetterLot (r : Nat → Int32) (g : Nat → Nat → Int32) (u : Nat → Int64) (h : Nat → Nat → Int64) (p1 : Int32) (p2 : Int32) {res : Int32} (hf : f7_isBetterLot (g 29) p1 p2 = some res) : MAi yX7_isBetterLot cX7_isBetterLot 3 (some .boolean) 1 (fun a => [.ref (a 27), .int p1, .int p2]) r g u h res r g u h := by
  refine mi_i (by decide +kernel) (fun a => Nat.le_of_ble_eq_true rfl) (fun X hX hn hR => ?_)
  replace hR : ∀ q : Int32, some q = some res → ∀ lv pc, decode cX7_isBetterLot pc = .ok (.ireturn, 1) → narrow .boolean (.int q) = .int q → VC X r g u h lv [.int q] pc := fun q hq => by cases hq; exact hR
  replace hX : CX X RX7 cX7_isBetterLot 1 := hX
  show VC X r g u h [(0, .ref (aX X 27)), (1, .int p1), (2, .int p2)] [] 0
  rw [f7_isBetterLot] at hf
  refine v_aload_n hX dX7_isBetterLot_0 rfl 0 rfl 1 rfl ?_
  refine v_iload_n hX dX7_isBetterLot_1 rfl 1 rfl 2 rfl ?_
  obtain ⟨v1, hv1, hf⟩ := bn1_e hf
  refine cv_i hX (c7_scoreOf r g u h _ hv1) wvX7_scoreOf q_725 rc_27 (Nat.le_of_ble_eq_true rfl) (Nat.le_of_ble_eq_true rfl) (fun _ => rfl) [] rfl (Nat.le_of_ble_eq_true rfl) dX7_isBetterLot_2 5 rfl ?_
  refine v_aload_n hX dX7_isBetterLot_5 rfl 0 rfl 6 rfl ?_
  refine v_iload_n hX dX7_isBetterLot_6 rfl 2 rfl 7 rfl ?_
  obtain ⟨v2, hv2, hf⟩ := bn1_e hf
  refine cv_i hX (c7_scoreOf r g u h _ hv2) wvX7_scoreOf q_725 rc_27 (Nat.le_of_ble_eq_true rfl) (Nat.le_of_ble_eq_true rfl) (fun _ => rfl) [.int v1] rfl (Nat.le_of_ble_eq_true rfl) dX7_isBetterLot_7 10 rfl ?_
  refine v_icmp_eq hX dX7_isBetterLot_10 32 rfl 13 rfl (fun h9 => ?_) (fun h9 => ?_)
  · replace hf := it_p h9 hf
    refine v_iload_n hX dX7_isBetterLot_32 rfl 1 rfl 33 rfl ?_
    obtain ⟨v3, hv3, hf⟩ := bn1_e hf
    refine cs_i hX (ctJ6_bitCount_0f7a4 r g u h _ hv3) wvJ6_bitCount_0f7a4 q_714 (Nat.le_of_ble_eq_true rfl) (Nat.le_of_ble_eq_true rfl) (fun _ => rfl) [] rfl (Nat.le_of_ble_eq_true rfl) dX7_isBetterLot_33 36 rfl ?_
    refine v_iload_n hX dX7_isBetterLot_36 rfl 2 rfl 37 rfl ?_
    obtain ⟨v4, hv4, hf⟩ := bn1_e hf
    refine cs_i hX (ctJ6_bitCount_0f7a4 r g u h _ hv4) wvJ6_bitCount_0f7a4 q_714 (Nat.le_of_ble_eq_true rfl) (Nat.le_of_ble_eq_true rfl) (fun _ => rfl) [.int v3] rfl (Nat.le_of_ble_eq_true rfl) dX7_isBetterLot_37 40 rfl ?_
    refine v_icmp_ge hX dX7_isBetterLot_40 47 rfl 43 rfl (fun h5 => ?_) (fun h5 => ?_)
    · replace hf := it_p h5 hf
      refine v_iconst (v := (0 : Int32)) hX dX7_isBetterLot_47 (by decide) 48 rfl ?_
      exact hR _ hf _ _ dX7_isBetterLot_48 (bz_nar (v := (0 : Int32)) (by decide))
    · replace hf := it_n h5 hf
      refine v_iconst (v := (1 : Int32)) hX dX7_isBetterLot_43 (by decide) 44 rfl ?_
      refine v_goto hX dX7_isBetterLot_44 48 rfl ?_
      exact hR _ hf _ _ dX7_isBetterLot_48 (bz_nar (v := (1 : Int32)) (by decide))
  · replace hf := it_n h9 hf
    refine v_aload_n hX dX7_isBetterLot_13 rfl 0 rfl 14 rfl ?_
    refine v_iload_n hX dX7_isBetterLot_14 rfl 1 rfl 15 rfl ?_
    obtain ⟨v6, hv6, hf⟩ := bn1_e hf
    refine cv_i hX (c7_scoreOf r g u h _ hv6) wvX7_scoreOf q_725 rc_27 (Nat.le_of_ble_eq_true rfl) (Nat.le_of_ble_eq_true rfl) (fun _ => rfl) [] rfl (Nat.le_of_ble_eq_true rfl) dX7_isBetterLot_15 18 rfl ?_
    refine v_aload_n hX dX7_isBetterLot_18 rfl 0 rfl 19 rfl ?_
    refine v_iload_n hX dX7_isBetterLot_19 rfl 2 rfl 20 rfl ?_
    obtain ⟨v7, hv7, hf⟩ := bn1_e hf
    refine cv_i hX (c7_scoreOf r g u h _ hv7) wvX7_scoreOf q_725 rc_27 (Nat.le_of_ble_eq_true rfl) (Nat.le_of_ble_eq_true rfl) (fun _ => rfl) [.int v6] rfl (Nat.le_of_ble_eq_true rfl) dX7_isBetterLot_20 23 rfl ?_
    refine v_icmp_le hX dX7_isBetterLot_23 30 rfl 26 rfl (fun h8 => ?_) (fun h8 => ?_)
    · replace hf := it_p h8 hf
      refine v_iconst (v := (0 : Int32)) hX dX7_isBetterLot_30 (by decide) 31 rfl ?_
      exact hR _ hf _ _ dX7_isBetterLot_31 (bz_nar (v := (0 : Int32)) (by decide))
    · replace hf := it_n h8 hf
      refine v_iconst (v := (1 : Int32)) hX dX7_isBetterLot_26 (by decide) 27 rfl ?_
      refine v_goto hX dX7_isBetterLot_27 31 rfl ?_
      exact hR _ hf _ _ dX7_isBetterLot_31 (bz_nar (v := (1 : Int32)) (by decide))
set_option maxRecDepth 100000 in
set_option maxHeartbeats 4000000 in
theorem c7_findLot (r : Nat → Int32) (g : Nat → Nat → Int32) (u : Nat → Int64) (h : Nat → Nat → Int64) (p2 : Int32) {res : Int32 × (Nat → Int32) × (Nat → Int32)} (hf : f7_findLot (r 1) (r 0) (g 7) (g 5) (g 3) (g 6) (g 8) (g 29) (g 28) p2 = some res) : MAi yX7_findLot cX7_findLot 5 (some .int) 6 (fun a => [.ref (a 27), .ref (a 1), .int p2]) r g u h res.1 r (lkp g [(29, res.2.1), (28, res.2.2)]) u h := by
  refine mi_i (by decide +kernel) (fun a => Nat.le_of_ble_eq_true rfl) (fun X hX hn hR => ?_)
  replace hR : ∀ q : Int32 × (Nat → Int32) × (Nat → Int32), some q = some res → ∀ lv pc, decode cX7_findLot pc = .ok (.ireturn, 1) → narrow .int (.int q.1) = .int q.1 → VC X r (lkp g [(29, q.2.1), (28, q.2.2)]) u h lv [.int q.1] pc := fun q hq => by cases hq; exact hR
  replace hX : CX X RX7 cX7_findLot 6 := hX
  refine v_opg [29, 28] [(29, g 29), (28, g 28)] rfl ?_
  show VC X r (lkp g [(29, g 29), (28, g 28)]) u h [(0, .ref (aX X 27)), (1, .ref (aX X 1)), (2, .int p2)] [] 0
  rw [f7_findLot] at hf
  refine v_aload_n hX dX7_findLot_0 rfl 1 rfl 1 rfl ?_
  refine gf_1_6 hX q_598 dX7_findLot_1 ((r 1)) rfl 4 rfl ?_
  refine v_iconst (v := (2 : Int32)) hX dX7_findLot_4 (by decide) 5 rfl ?_
  refine v_icmp_ge hX dX7_findLot_5 11 rfl 8 rfl (fun h15 => ?_) (fun h15 => ?_)
  · replace hf := it_p h15 hf
    refine v_aload_n hX dX7_findLot_11 rfl 0 rfl 12 rfl ?_
    refine v_aload_n hX dX7_findLot_12 rfl 1 rfl 13 rfl ?_
    refine v_iload_n hX dX7_findLot_13 rfl 2 rfl 14 rfl ?_
    obtain ⟨c1, c2, hc1, hf⟩ := bn2_e hf
    refine cv_v hX (c7_scoreSets r (lkp g [(29, (g 29)), (28, (g 28))]) u h _ hc1) wvX7_scoreSets q_712 rc_27 (Nat.le_of_ble_eq_true rfl) (Nat.le_of_ble_eq_true rfl) (fun _ => rfl) [] rfl (Nat.le_of_ble_eq_true rfl) dX7_findLot_14 17 rfl ?_
    refine v_mgg [(29, c1), (28, c2)] rfl ?_
    refine v_iconst (v := (3 : Int32)) hX dX7_findLot_17 (by decide) 18 rfl ?_
    refine v_istore_n hX dX7_findLot_18 rfl (ltn hn (by decide)) 19 rfl [(3, .int (3 : Int32)), (0, .ref (aX X 27)), (1, .ref (aX X 1)), (2, .int p2)] rfl ?_
    refine v_iconst (v := (4 : Int32)) hX dX7_findLot_19 (by decide) 20 rfl ?_
    refine v_istore hX dX7_findLot_20 (ltn hn (by decide)) 22 rfl [(4, .int (4 : Int32)), (3, .int (3 : Int32)), (0, .ref (aX X 27)), (1, .ref (aX X 1)), (2, .int p2)] rfl ?_
    obtain ⟨K5, hK5, hf⟩ := jn_x hf
    have HK5 : ∀ (x3 : Int32) (x4 : Int32), K5 x3 x4 = some res → VC X r (lkp g [(29, c1), (28, c2)]) u h [(3, .int x3)] [] 59 := by
      intro x3 x4 hf
      rw [hK5] at hf
      refine v_iload_n hX dX7_findLot_59 rfl 0 rfl 60 rfl ?_
      exact hR _ hf _ _ dX7_findLot_60 rfl
    have HLK5 : ∀ (n6 : Nat) (x3 : Int32) (x4 : Int32), f7_findLot_L22 (r 1) c1 n6 x3 x4 K5 = some res → VC X r (lkp g [(29, c1), (28, c2)]) u h [(0, .ref (aX X 27)), (1, .ref (aX X 1)), (3, .int x3), (4, .int x4)] [] 22 := by
      intro n6
      induction n6 with
      | zero => intro x3 x4 hf; exact no_s hf
      | succ n6 ih =>
        intro x3 x4 hf
        rw [f7_findLot_L22] at hf
        refine v_iload hX dX7_findLot_22 3 rfl 24 rfl ?_
        refine v_aload_n hX dX7_findLot_24 rfl 1 rfl 25 rfl ?_
        obtain ⟨v7, hv7, hf⟩ := bn1_e hf
        refine cv_i hX (c0_allClaims r (lkp g [(29, c1), (28, c2)]) u h hv7) wvX0_allClaims q_713 rc_1 (Nat.le_of_ble_eq_true rfl) (Nat.le_of_ble_eq_true rfl) (fun _ => rfl) [.int x4] rfl (Nat.le_of_ble_eq_true rfl) dX7_findLot_25 28 rfl ?_
        refine v_icmp_gt hX dX7_findLot_28 59 rfl 31 rfl (fun h14 => ?_) (fun h14 => ?_)
        · replace hf := it_p h14 hf
          refine v_sub [(3, .int x3)] (sbc 2 rfl sbn) ?_
          exact HK5 _ _ hf
        · replace hf := it_n h14 hf
          refine v_iload hX dX7_findLot_31 3 rfl 33 rfl ?_
          obtain ⟨v8, hv8, hf⟩ := bn1_e hf
          refine cs_i hX (ctJ6_bitCount_0f7a4 r (lkp g [(29, c1), (28, c2)]) u h _ hv8) wvJ6_bitCount_0f7a4 q_714 (Nat.le_of_ble_eq_true rfl) (Nat.le_of_ble_eq_true rfl) (fun _ => rfl) [] rfl (Nat.le_of_ble_eq_true rfl) dX7_findLot_33 36 rfl ?_
          refine v_iconst (v := (2 : Int32)) hX dX7_findLot_36 (by decide) 37 rfl ?_
          obtain ⟨J9, hJ9, hf⟩ := jn_x hf
          have HJ9 : ∀ (y10 : Int32), J9 y10 = some res → VC X r (lkp g [(29, c1), (28, c2)]) u h [(0, .ref (aX X 27)), (1, .ref (aX X 1)), (3, .int y10), (4, .int x4)] [] 53 := by
            intro y10 hf
            rw [hJ9] at hf
            refine v_inc (c := (1 : Int32)) hX dX7_findLot_53 3 rfl (by decide) (ltn hn (by decide)) 56 rfl [(4, .int (x4 + (1 : Int32))), (0, .ref (aX X 27)), (1, .ref (aX X 1)), (3, .int y10)] rfl ?_
            refine v_goto hX dX7_findLot_56 22 rfl ?_
            refine v_sub [(0, .ref (aX X 27)), (1, .ref (aX X 1)), (3, .int y10), (4, .int (x4 + (1 : Int32)))] (sbc 1 rfl (sbc 2 rfl (sbc 3 rfl (sbc 0 rfl sbn)))) ?_
            exact ih _ _ hf
          refine v_icmp_lt hX dX7_findLot_37 53 rfl 40 rfl (fun h13 => ?_) (fun h13 => ?_)
          · replace hf := it_p h13 hf
            exact HJ9 _ hf
          · replace hf := it_n h13 hf
            refine v_aload_n hX dX7_findLot_40 rfl 0 rfl 41 rfl ?_
            refine v_iload hX dX7_findLot_41 3 rfl 43 rfl ?_
            refine v_iload_n hX dX7_findLot_43 rfl 2 rfl 44 rfl ?_
            obtain ⟨v11, hv11, hf⟩ := bn1_e hf
            refine cv_i hX (c7_isBetterLot r (lkp g [(29, c1), (28, c2)]) u h _ _ hv11) wvX7_isBetterLot q_721 rc_27 (Nat.le_of_ble_eq_true rfl) (Nat.le_of_ble_eq_true rfl) (fun _ => rfl) [] rfl (Nat.le_of_ble_eq_true rfl) dX7_findLot_44 47 rfl ?_
            refine v_if_eq hX dX7_findLot_47 53 rfl 50 rfl (fun h12 => ?_) (fun h12 => ?_)
            · replace hf := it_p h12 hf
              exact HJ9 _ hf
            · replace hf := it_n h12 hf
              refine v_iload hX dX7_findLot_50 3 rfl 52 rfl ?_
              refine v_istore_n hX dX7_findLot_52 rfl (ltn hn (by decide)) 53 rfl [(3, .int x4), (0, .ref (aX X 27)), (1, .ref (aX X 1)), (4, .int x4)] rfl ?_
              refine v_sub [(0, .ref (aX X 27)), (1, .ref (aX X 1)), (3, .int x4), (4, .int x4)] (sbc 1 rfl (sbc 2 rfl (sbc 0 rfl (sbc 3 rfl sbn)))) ?_
              exact HJ9 _ hf
    refine v_sub [(0, .ref (aX X 27)), (1, .ref (aX X 1)), (3, .int (3 : Int32)), (4, .int (4 : Int32))] (sbc 2 rfl (sbc 3 rfl (sbc 1 rfl (sbc 0 rfl sbn)))) ?_
    exact HLK5 _ _ _ hf
  · replace hf := it_n h15 hf
    refine v_bipush (v := (-3 : Int32)) hX dX7_findLot_8 (by decide) 10 rfl ?_
    exact hR _ hf _ _ dX7_findLot_10 rfl
set_option maxRecDepth 100000 in
set_option maxHeartbeats 4000000 in
theorem c5_append_t41 (r : Nat → Int32) (g : Nat → Nat → Int32) (u : Nat → Int64) (h : Nat → Nat → Int64) (p1 : Int32) (p2 : Int32) (p3 : Int32) {res : Int32 × (Nat → Int32)} (hf : f5_append (r 24) (g 42) p1 p2 p3 = some res) : MAv yX5_append cX5_append 4 none 0 (fun a => [.ref (a 41), .int p1, .int p2, .int p3]) r g u h (lkp r [(24, res.1)]) (lkp g [(42, res.2)]) u h := by
  refine mi_v (by decide +kernel) (fun a => Nat.le_of_ble_eq_true rfl) (fun X hX hn hR => ?_)
  replace hR : ∀ q : Int32 × (Nat → Int32), some q = some res → ∀ lv pc, decode cX5_append pc = .ok (.return_, 1) → VC X (lkp r [(24, q.1)]) (lkp g [(42, q.2)]) u h lv [] pc := fun q hq => by cases hq; exact hR
  replace hX : CX X RX5 cX5_append 0 := hX
  refine v_opr [24] [(24, r 24)] rfl ?_
  refine v_opg [42] [(42, g 42)] rfl ?_
  show VC X (lkp r [(24, r 24)]) (lkp g [(42, g 42)]) u h [(0, .ref (aX X 41)), (1, .int p1), (2, .int p2), (3, .int p3)] [] 0
  rw [f5_append] at hf
  refine v_aload_n hX dX5_append_0 rfl 0 rfl 1 rfl ?_
  refine gf_41_1 hX q_948 dX5_append_1 ((r 24)) rfl 4 rfl ?_
  refine v_bipush (v := (36 : Int32)) hX dX5_append_4 (by decide) 6 rfl ?_
  refine v_icmp_lt hX dX5_append_6 10 rfl 9 rfl (fun h4 => ?_) (fun h4 => ?_)
  · replace hf := it_p h4 hf
    refine v_aload_n hX dX5_append_10 rfl 0 rfl 11 rfl ?_
    refine gf_41_0 hX q_84 dX5_append_11 14 rfl ?_
    refine v_aload_n hX dX5_append_14 rfl 0 rfl 15 rfl ?_
    refine gf_41_1 hX q_948 dX5_append_15 ((r 24)) rfl 18 rfl ?_
    refine v_iconst (v := (3 : Int32)) hX dX5_append_18 (by decide) 19 rfl ?_
    refine v_imul hX dX5_append_19 20 rfl ?_
    refine v_iload_n hX dX5_append_20 rfl 1 rfl 21 rfl ?_
    obtain ⟨hi1, hf⟩ := gd_e hf
    refine as_42 hX hi1 dX5_append_21 22 rfl (g 42) rfl [(42, (upd (g 42) ((r 24) * (3 : Int32)).toNatClampNeg p1))] rfl ?_
    refine v_aload_n hX dX5_append_22 rfl 0 rfl 23 rfl ?_
    refine gf_41_0 hX q_84 dX5_append_23 26 rfl ?_
    refine v_aload_n hX dX5_append_26 rfl 0 rfl 27 rfl ?_
    refine gf_41_1 hX q_948 dX5_append_27 ((r 24)) rfl 30 rfl ?_
    refine v_iconst (v := (3 : Int32)) hX dX5_append_30 (by decide) 31 rfl ?_
    refine v_imul hX dX5_append_31 32 rfl ?_
    refine v_iconst (v := (1 : Int32)) hX dX5_append_32 (by decide) 33 rfl ?_
    refine v_iadd hX dX5_append_33 34 rfl ?_
    refine v_iload_n hX dX5_append_34 rfl 2 rfl 35 rfl ?_
    obtain ⟨hi2, hf⟩ := gd_e hf
    refine as_42 hX hi2 dX5_append_35 36 rfl (upd (g 42) ((r 24) * (3 : Int32)).toNatClampNeg p1) rfl [(42, (upd (upd (g 42) ((r 24) * (3 : Int32)).toNatClampNeg p1) (((r 24) * (3 : Int32)) + (1 : Int32)).toNatClampNeg p2))] rfl ?_
    refine v_aload_n hX dX5_append_36 rfl 0 rfl 37 rfl ?_
    refine gf_41_0 hX q_84 dX5_append_37 40 rfl ?_
    refine v_aload_n hX dX5_append_40 rfl 0 rfl 41 rfl ?_
    refine gf_41_1 hX q_948 dX5_append_41 ((r 24)) rfl 44 rfl ?_
    refine v_iconst (v := (3 : Int32)) hX dX5_append_44 (by decide) 45 rfl ?_
    refine v_imul hX dX5_append_45 46 rfl ?_
    refine v_iconst (v := (2 : Int32)) hX dX5_append_46 (by decide) 47 rfl ?_
    refine v_iadd hX dX5_append_47 48 rfl ?_
    refine v_iload_n hX dX5_append_48 rfl 3 rfl 49 rfl ?_
    obtain ⟨hi3, hf⟩ := gd_e hf
    refine as_42 hX hi3 dX5_append_49 50 rfl (upd (upd (g 42) ((r 24) * (3 : Int32)).toNatClampNeg p1) (((r 24) * (3 : Int32)) + (1 : Int32)).toNatClampNeg p2) rfl [(42, (upd (upd (upd (g 42) ((r 24) * (3 : Int32)).toNatClampNeg p1) (((r 24) * (3 : Int32)) + (1 : Int32)).toNatClampNeg p2) (((r 24) * (3 : Int32)) + (2 : Int32)).toNatClampNeg p3))] rfl ?_
    refine v_aload_n hX dX5_append_50 rfl 0 rfl 51 rfl ?_
    refine v_dup hX dX5_append_51 rfl 52 rfl ?_
    refine gf_41_1 hX q_948 dX5_append_52 ((r 24)) rfl 55 rfl ?_
    refine v_iconst (v := (1 : Int32)) hX dX5_append_55 (by decide) 56 rfl ?_
    refine v_iadd hX dX5_append_56 57 rfl ?_
    refine pf_41_1 hX q_948 dX5_append_57 60 rfl [(24, ((r 24) + (1 : Int32)))] rfl ?_
    exact hR _ hf _ _ dX5_append_60
  · replace hf := it_n h4 hf
    exact hR _ hf _ _ dX5_append_9
set_option maxRecDepth 100000 in
set_option maxHeartbeats 4000000 in
theorem c5_write_t41 (r : Nat → Int32) (g : Nat → Nat → Int32) (u : Nat → Int64) (h : Nat → Nat → Int64) (p3 : Int32) {res : Int32 × (Nat → Int32)} (hf : f5_write (r 1) (r 24) (g 28) (g 42) p3 = some res) : MAv yX5_write cX5_write 8 none 1 (fun a => [.ref (a 41), .ref (a 1), .ref (a 27), .int p3]) r g u h (lkp r [(24, res.1)]) (lkp g [(42, res.2)]) u h := by
  refine mi_v (by decide +kernel) (fun a => Nat.le_of_ble_eq_true rfl) (fun X hX hn hR => ?_)
  replace hR : ∀ q : Int32 × (Nat → Int32), some q = some res → ∀ lv pc, decode cX5_write pc = .ok (.return_, 1) → VC X (lkp r [(24, q.1)]) (lkp g [(42, q.2)]) u h lv [] pc := fun q hq => by cases hq; exact hR
  replace hX : CX X RX5 cX5_write 1 := hX
  refine v_opr [24] [(24, r 24)] rfl ?_
  refine v_opg [42] [(42, g 42)] rfl ?_
  show VC X (lkp r [(24, r 24)]) (lkp g [(42, g 42)]) u h [(0, .ref (aX X 41)), (1, .ref (aX X 1)), (2, .ref (aX X 27)), (3, .int p3)] [] 0
  rw [f5_write] at hf
  refine v_aload_n hX dX5_write_0 rfl 0 rfl 1 rfl ?_
  refine v_iconst (v := (0 : Int32)) hX dX5_write_1 (by decide) 2 rfl ?_
  refine pf_41_1 hX q_948 dX5_write_2 5 rfl [(24, (0 : Int32))] rfl ?_
  refine v_iconst (v := (0 : Int32)) hX dX5_write_5 (by decide) 6 rfl ?_
  refine v_istore hX dX5_write_6 (ltn hn (by decide)) 8 rfl [(4, .int (0 : Int32)), (0, .ref (aX X 41)), (1, .ref (aX X 1)), (2, .ref (aX X 27)), (3, .int p3)] rfl ?_
  obtain ⟨K4, hK4, hf⟩ := jn_x hf
  have HK4 : ∀ (x1 : Int32) (c2 : Int32) (c3 : (Nat → Int32)), K4 x1 c2 c3 = some res → VC X (lkp r [(24, c2)]) (lkp g [(42, c3)]) u h [] [] 99 := by
    intro x1 c2 c3 hf
    rw [hK4] at hf
    exact hR _ hf _ _ dX5_write_99
  have HLK4 : ∀ (n5 : Nat) (x1 : Int32) (c2 : Int32) (c3 : (Nat → Int32)), f5_write_L8 (r 1) (g 28) p3 n5 x1 c2 c3 K4 = some res → VC X (lkp r [(24, c2)]) (lkp g [(42, c3)]) u h [(0, .ref (aX X 41)), (1, .ref (aX X 1)), (2, .ref (aX X 27)), (3, .int p3), (4, .int x1)] [] 8 := by
    intro n5
    induction n5 with
    | zero => intro x1 c2 c3 hf; exact no_s hf
    | succ n5 ih =>
      intro x1 c2 c3 hf
      rw [f5_write_L8] at hf
      refine v_iload hX dX5_write_8 4 rfl 10 rfl ?_
      refine v_aload_n hX dX5_write_10 rfl 1 rfl 11 rfl ?_
      refine gf_1_6 hX q_949 dX5_write_11 ((r 1)) rfl 14 rfl ?_
      refine v_icmp_ge hX dX5_write_14 99 rfl 17 rfl (fun h25 => ?_) (fun h25 => ?_)
      · replace hf := it_p h25 hf
        refine v_sub [] sbn ?_
        exact HK4 _ _ _ hf
      · replace hf := it_n h25 hf
        refine v_iload hX dX5_write_17 4 rfl 19 rfl ?_
        refine v_iconst (v := (1 : Int32)) hX dX5_write_19 (by decide) 20 rfl ?_
        refine v_iadd hX dX5_write_20 21 rfl ?_
        refine v_istore hX dX5_write_21 (ltn hn (by decide)) 23 rfl [(5, .int (x1 + (1 : Int32))), (0, .ref (aX X 41)), (1, .ref (aX X 1)), (2, .ref (aX X 27)), (3, .int p3), (4, .int x1)] rfl ?_
        obtain ⟨K9, hK9, hf⟩ := jn_x hf
        have HK9 : ∀ (x6 : Int32) (c7 : Int32) (c8 : (Nat → Int32)), K9 x6 c7 c8 = some res → VC X (lkp r [(24, c7)]) (lkp g [(42, c8)]) u h [(0, .ref (aX X 41)), (1, .ref (aX X 1)), (2, .ref (aX X 27)), (3, .int p3), (4, .int x1)] [] 93 := by
          intro x6 c7 c8 hf
          rw [hK9] at hf
          refine v_inc (c := (1 : Int32)) hX dX5_write_93 4 rfl (by decide) (ltn hn (by decide)) 96 rfl [(4, .int (x1 + (1 : Int32))), (0, .ref (aX X 41)), (1, .ref (aX X 1)), (2, .ref (aX X 27)), (3, .int p3)] rfl ?_
          refine v_goto hX dX5_write_96 8 rfl ?_
          refine v_sub [(0, .ref (aX X 41)), (1, .ref (aX X 1)), (2, .ref (aX X 27)), (3, .int p3), (4, .int (x1 + (1 : Int32)))] (sbc 1 rfl (sbc 2 rfl (sbc 3 rfl (sbc 4 rfl (sbc 0 rfl sbn))))) ?_
          exact ih _ _ _ hf
        have HLK9 : ∀ (n10 : Nat) (x6 : Int32) (c7 : Int32) (c8 : (Nat → Int32)), f5_write_L23 (r 1) (g 28) p3 x1 n10 x6 c7 c8 K9 = some res → VC X (lkp r [(24, c7)]) (lkp g [(42, c8)]) u h [(0, .ref (aX X 41)), (1, .ref (aX X 1)), (2, .ref (aX X 27)), (3, .int p3), (4, .int x1), (5, .int x6)] [] 23 := by
          intro n10
          induction n10 with
          | zero => intro x6 c7 c8 hf; exact no_s hf
          | succ n10 ih =>
            intro x6 c7 c8 hf
            rw [f5_write_L23] at hf
            refine v_iload hX dX5_write_23 5 rfl 25 rfl ?_
            refine v_aload_n hX dX5_write_25 rfl 1 rfl 26 rfl ?_
            refine gf_1_6 hX q_949 dX5_write_26 ((r 1)) rfl 29 rfl ?_
            refine v_icmp_ge hX dX5_write_29 93 rfl 32 rfl (fun h24 => ?_) (fun h24 => ?_)
            · replace hf := it_p h24 hf
              refine v_sub [(0, .ref (aX X 41)), (1, .ref (aX X 1)), (2, .ref (aX X 27)), (3, .int p3), (4, .int x1)] (sbc 0 rfl (sbc 1 rfl (sbc 2 rfl (sbc 3 rfl (sbc 4 rfl sbn))))) ?_
              exact HK9 _ _ _ hf
            · replace hf := it_n h24 hf
              refine v_iload_n hX dX5_write_32 rfl 3 rfl 33 rfl ?_
              refine v_iload hX dX5_write_33 4 rfl 35 rfl ?_
              refine v_ishr hX dX5_write_35 36 rfl ?_
              refine v_iconst (v := (1 : Int32)) hX dX5_write_36 (by decide) 37 rfl ?_
              refine v_iand hX dX5_write_37 38 rfl ?_
              obtain ⟨J11, hJ11, hf⟩ := jn_x hf
              have HJ11 : ∀ (s12 : Int32), J11 s12 = some res → VC X (lkp r [(24, c7)]) (lkp g [(42, c8)]) u h [(0, .ref (aX X 41)), (1, .ref (aX X 1)), (2, .ref (aX X 27)), (3, .int p3), (4, .int x1), (5, .int x6)] [.int s12] 55 := by
                intro s12 hf
                rw [hJ11] at hf
                refine v_istore hX dX5_write_55 (ltn hn (by decide)) 57 rfl [(6, .int s12), (0, .ref (aX X 41)), (1, .ref (aX X 1)), (2, .ref (aX X 27)), (3, .int p3), (4, .int x1), (5, .int x6)] rfl ?_
                refine v_aload_n hX dX5_write_57 rfl 3 rfl 58 rfl ?_
                refine v_iload hX dX5_write_58 5 rfl 60 rfl ?_
                refine v_iload hX dX5_write_60 6 rfl 62 rfl ?_
                obtain ⟨v13, hv13, hf⟩ := bn1_e hf
                refine cv_i hX (c7_woven (lkp r [(24, c7)]) (lkp g [(42, c8)]) u h _ _ hv13) wvX7_woven q_950 rc_27 (Nat.le_of_ble_eq_true rfl) (Nat.le_of_ble_eq_true rfl) (fun _ => rfl) [] rfl (Nat.le_of_ble_eq_true rfl) dX5_write_62 65 rfl ?_
                refine v_istore hX dX5_write_65 (ltn hn (by decide)) 67 rfl [(7, .int v13), (6, .int s12), (0, .ref (aX X 41)), (1, .ref (aX X 1)), (2, .ref (aX X 27)), (3, .int p3), (4, .int x1), (5, .int x6)] rfl ?_
                refine v_iload hX dX5_write_67 1 rfl 69 rfl ?_
                obtain ⟨J14, hJ14, hf⟩ := jn_x hf
                have HJ14 : ∀ (c15 : Int32) (c16 : (Nat → Int32)), J14 c15 c16 = some res → VC X (lkp r [(24, c15)]) (lkp g [(42, c16)]) u h [(0, .ref (aX X 41)), (1, .ref (aX X 1)), (2, .ref (aX X 27)), (3, .int p3), (4, .int x1), (5, .int x6)] [] 87 := by
                  intro c15 c16 hf
                  rw [hJ14] at hf
                  refine v_inc (c := (1 : Int32)) hX dX5_write_87 5 rfl (by decide) (ltn hn (by decide)) 90 rfl [(5, .int (x6 + (1 : Int32))), (0, .ref (aX X 41)), (1, .ref (aX X 1)), (2, .ref (aX X 27)), (3, .int p3), (4, .int x1)] rfl ?_
                  refine v_goto hX dX5_write_90 23 rfl ?_
                  refine v_sub [(0, .ref (aX X 41)), (1, .ref (aX X 1)), (2, .ref (aX X 27)), (3, .int p3), (4, .int x1), (5, .int (x6 + (1 : Int32)))] (sbc 1 rfl (sbc 2 rfl (sbc 3 rfl (sbc 4 rfl (sbc 5 rfl (sbc 0 rfl sbn)))))) ?_
                  exact ih _ _ _ hf
                refine v_if_eq hX dX5_write_69 87 rfl 72 rfl (fun h20 => ?_) (fun h20 => ?_)
                · replace hf := it_p h20 hf
                  refine v_sub [(0, .ref (aX X 41)), (1, .ref (aX X 1)), (2, .ref (aX X 27)), (3, .int p3), (4, .int x1), (5, .int x6)] (sbc 2 rfl (sbc 3 rfl (sbc 4 rfl (sbc 5 rfl (sbc 6 rfl (sbc 7 rfl sbn)))))) ?_
                  exact HJ14 _ _ hf
                · replace hf := it_n h20 hf
                  refine v_iload hX dX5_write_72 0 rfl 74 rfl ?_
                  refine v_if_le hX dX5_write_74 87 rfl 77 rfl (fun h19 => ?_) (fun h19 => ?_)
                  · replace hf := it_p h19 hf
                    refine v_sub [(0, .ref (aX X 41)), (1, .ref (aX X 1)), (2, .ref (aX X 27)), (3, .int p3), (4, .int x1), (5, .int x6)] (sbc 2 rfl (sbc 3 rfl (sbc 4 rfl (sbc 5 rfl (sbc 6 rfl (sbc 7 rfl sbn)))))) ?_
                    exact HJ14 _ _ hf
                  · replace hf := it_n h19 hf
                    refine v_aload_n hX dX5_write_77 rfl 2 rfl 78 rfl ?_
                    refine v_iload hX dX5_write_78 6 rfl 80 rfl ?_
                    refine v_iload hX dX5_write_80 7 rfl 82 rfl ?_
                    refine v_iload hX dX5_write_82 0 rfl 84 rfl ?_
                    obtain ⟨c17, c18, hc17, hf⟩ := bn2_e hf
                    refine cv_v hX (c5_append_t41 (lkp r [(24, c7)]) (lkp g [(42, c8)]) u h _ _ _ hc17) wvX5_append q_951 rc_41 (Nat.le_of_ble_eq_true rfl) (Nat.le_of_ble_eq_true rfl) (fun _ => rfl) [] rfl (Nat.le_of_ble_eq_true rfl) dX5_write_84 87 rfl ?_
                    refine v_mgr [(24, c17)] rfl ?_
                    refine v_mgg [(42, c18)] rfl ?_
                    refine v_sub [(0, .ref (aX X 41)), (1, .ref (aX X 1)), (2, .ref (aX X 27)), (3, .int p3), (4, .int x1), (5, .int x6)] (sbc 2 rfl (sbc 3 rfl (sbc 4 rfl (sbc 5 rfl (sbc 6 rfl (sbc 7 rfl sbn)))))) ?_
                    exact HJ14 _ _ hf
              obtain ⟨J21, hJ21, hf⟩ := jn_x hf
              have HJ21 : J21 = some res → VC X (lkp r [(24, c7)]) (lkp g [(42, c8)]) u h [(0, .ref (aX X 41)), (1, .ref (aX X 1)), (2, .ref (aX X 27)), (3, .int p3), (4, .int x1), (5, .int x6)] [] 54 := by
                intro hf
                rw [hJ21] at hf
                refine v_iconst (v := (0 : Int32)) hX dX5_write_54 (by decide) 55 rfl ?_
                exact HJ11 _ hf
              refine v_if_eq hX dX5_write_38 54 rfl 41 rfl (fun h23 => ?_) (fun h23 => ?_)
              · replace hf := it_p h23 hf
                exact HJ21  hf
              · replace hf := it_n h23 hf
                refine v_iload_n hX dX5_write_41 rfl 3 rfl 42 rfl ?_
                refine v_iload hX dX5_write_42 5 rfl 44 rfl ?_
                refine v_ishr hX dX5_write_44 45 rfl ?_
                refine v_iconst (v := (1 : Int32)) hX dX5_write_45 (by decide) 46 rfl ?_
                refine v_iand hX dX5_write_46 47 rfl ?_
                refine v_if_eq hX dX5_write_47 54 rfl 50 rfl (fun h22 => ?_) (fun h22 => ?_)
                · replace hf := it_p h22 hf
                  exact HJ21  hf
                · replace hf := it_n h22 hf
                  refine v_iconst (v := (1 : Int32)) hX dX5_write_50 (by decide) 51 rfl ?_
                  refine v_goto hX dX5_write_51 55 rfl ?_
                  exact HJ11 _ hf
        refine v_sub [(0, .ref (aX X 41)), (1, .ref (aX X 1)), (2, .ref (aX X 27)), (3, .int p3), (4, .int x1), (5, .int (x1 + (1 : Int32)))] (sbc 1 rfl (sbc 2 rfl (sbc 3 rfl (sbc 4 rfl (sbc 5 rfl (sbc 0 rfl sbn)))))) ?_
        exact HLK9 _ _ _ _ hf
  refine v_sub [(0, .ref (aX X 41)), (1, .ref (aX X 1)), (2, .ref (aX X 27)), (3, .int p3), (4, .int (0 : Int32))] (sbc 1 rfl (sbc 2 rfl (sbc 3 rfl (sbc 4 rfl (sbc 0 rfl sbn))))) ?_
  exact HLK4 _ _ _ _ hf
set_option maxRecDepth 100000 in
set_option maxHeartbeats 4000000 in
theorem c5_holds_t41 (r : Nat → Int32) (g : Nat → Nat → Int32) (u : Nat → Int64) (h : Nat → Nat → Int64) (p1 : Int32) (p2 : Int32) {res : Int32} (hf : f5_holds (r 24) p1 p2 = some res) : MAi yX5_holds cX5_holds 3 (some .boolean) 0 (fun a => [.ref (a 41), .int p1, .int p2]) r g u h res r g u h := by
  refine mi_i (by decide +kernel) (fun a => Nat.le_of_ble_eq_true rfl) (fun X hX hn hR => ?_)
  replace hR : ∀ q : Int32, some q = some res → ∀ lv pc, decode cX5_holds pc = .ok (.ireturn, 1) → narrow .boolean (.int q) = .int q → VC X r g u h lv [.int q] pc := fun q hq => by cases hq; exact hR
  replace hX : CX X RX5 cX5_holds 0 := hX
  show VC X r g u h [(0, .ref (aX X 41)), (1, .int p1), (2, .int p2)] [] 0
  rw [f5_holds] at hf
  refine v_iload_n hX dX5_holds_0 rfl 1 rfl 1 rfl ?_
  refine v_if_lt hX dX5_holds_1 25 rfl 4 rfl (fun h4 => ?_) (fun h4 => ?_)
  · replace hf := it_p h4 hf
    refine v_iconst (v := (0 : Int32)) hX dX5_holds_25 (by decide) 26 rfl ?_
    exact hR _ hf _ _ dX5_holds_26 (bz_nar (v := (0 : Int32)) (by decide))
  · replace hf := it_n h4 hf
    refine v_iload_n hX dX5_holds_4 rfl 1 rfl 5 rfl ?_
    refine v_aload_n hX dX5_holds_5 rfl 0 rfl 6 rfl ?_
    refine gf_41_1 hX q_948 dX5_holds_6 ((r 24)) rfl 9 rfl ?_
    refine v_icmp_ge hX dX5_holds_9 25 rfl 12 rfl (fun h3 => ?_) (fun h3 => ?_)
    · replace hf := it_p h3 hf
      refine v_iconst (v := (0 : Int32)) hX dX5_holds_25 (by decide) 26 rfl ?_
      exact hR _ hf _ _ dX5_holds_26 (bz_nar (v := (0 : Int32)) (by decide))
    · replace hf := it_n h3 hf
      refine v_iload_n hX dX5_holds_12 rfl 2 rfl 13 rfl ?_
      refine v_if_lt hX dX5_holds_13 25 rfl 16 rfl (fun h2 => ?_) (fun h2 => ?_)
      · replace hf := it_p h2 hf
        refine v_iconst (v := (0 : Int32)) hX dX5_holds_25 (by decide) 26 rfl ?_
        exact hR _ hf _ _ dX5_holds_26 (bz_nar (v := (0 : Int32)) (by decide))
      · replace hf := it_n h2 hf
        refine v_iload_n hX dX5_holds_16 rfl 2 rfl 17 rfl ?_
        refine v_iconst (v := (3 : Int32)) hX dX5_holds_17 (by decide) 18 rfl ?_
        refine v_icmp_ge hX dX5_holds_18 25 rfl 21 rfl (fun h1 => ?_) (fun h1 => ?_)
        · replace hf := it_p h1 hf
          refine v_iconst (v := (0 : Int32)) hX dX5_holds_25 (by decide) 26 rfl ?_
          exact hR _ hf _ _ dX5_holds_26 (bz_nar (v := (0 : Int32)) (by decide))
        · replace hf := it_n h1 hf
          refine v_iconst (v := (1 : Int32)) hX dX5_holds_21 (by decide) 22 rfl ?_
          refine v_goto hX dX5_holds_22 26 rfl ?_
          exact hR _ hf _ _ dX5_holds_26 (bz_nar (v := (1 : Int32)) (by decide))
set_option maxRecDepth 100000 in
set_option maxHeartbeats 4000000 in
theorem c5_entry_t41 (r : Nat → Int32) (g : Nat → Nat → Int32) (u : Nat → Int64) (h : Nat → Nat → Int64) (p1 : Int32) (p2 : Int32) {res : Int32} (hf : f5_entry (r 24) (g 42) p1 p2 = some res) : MAi yX5_entry cX5_entry 3 (some .int) 1 (fun a => [.ref (a 41), .int p1, .int p2]) r g u h res r g u h := by
  refine mi_i (by decide +kernel) (fun a => Nat.le_of_ble_eq_true rfl) (fun X hX hn hR => ?_)
  replace hR : ∀ q : Int32, some q = some res → ∀ lv pc, decode cX5_entry pc = .ok (.ireturn, 1) → narrow .int (.int q) = .int q → VC X r g u h lv [.int q] pc := fun q hq => by cases hq; exact hR
  replace hX : CX X RX5 cX5_entry 1 := hX
  show VC X r g u h [(0, .ref (aX X 41)), (1, .int p1), (2, .int p2)] [] 0
  rw [f5_entry] at hf
  refine v_aload_n hX dX5_entry_0 rfl 0 rfl 1 rfl ?_
  refine v_iload_n hX dX5_entry_1 rfl 1 rfl 2 rfl ?_
  refine v_iload_n hX dX5_entry_2 rfl 2 rfl 3 rfl ?_
  obtain ⟨v1, hv1, hf⟩ := bn1_e hf
  refine cv_i hX (c5_holds_t41 r g u h _ _ hv1) wvX5_holds q_977 rc_41 (Nat.le_of_ble_eq_true rfl) (Nat.le_of_ble_eq_true rfl) (fun _ => rfl) [] rfl (Nat.le_of_ble_eq_true rfl) dX5_entry_3 6 rfl ?_
  refine v_if_eq hX dX5_entry_6 22 rfl 9 rfl (fun h3 => ?_) (fun h3 => ?_)
  · replace hf := it_p h3 hf
    refine v_bipush (v := (-9 : Int32)) hX dX5_entry_22 (by decide) 24 rfl ?_
    exact hR _ hf _ _ dX5_entry_24 rfl
  · replace hf := it_n h3 hf
    refine v_aload_n hX dX5_entry_9 rfl 0 rfl 10 rfl ?_
    refine gf_41_0 hX q_84 dX5_entry_10 13 rfl ?_
    refine v_iload_n hX dX5_entry_13 rfl 1 rfl 14 rfl ?_
    refine v_iconst (v := (3 : Int32)) hX dX5_entry_14 (by decide) 15 rfl ?_
    refine v_imul hX dX5_entry_15 16 rfl ?_
    refine v_iload_n hX dX5_entry_16 rfl 2 rfl 17 rfl ?_
    refine v_iadd hX dX5_entry_17 18 rfl ?_
    obtain ⟨hi2, hf⟩ := gd_e hf
    refine al_42 hX hi2 dX5_entry_18 ((g 42) ((p1 * (3 : Int32)) + p2).toNatClampNeg) rfl 19 rfl ?_
    refine v_goto hX dX5_entry_19 24 rfl ?_
    exact hR _ hf _ _ dX5_entry_24 rfl
set_option maxRecDepth 100000 in
set_option maxHeartbeats 4000000 in
theorem c5_hasSame (r : Nat → Int32) (g : Nat → Nat → Int32) (u : Nat → Int64) (h : Nat → Nat → Int64) (p2 : Int32) {res : Int32} (hf : f5_hasSame (r 23) (r 24) (g 40) (g 42) p2 = some res) : MAi yX5_hasSame cX5_hasSame 4 (some .boolean) 2 (fun a => [.ref (a 41), .ref (a 39), .int p2]) r g u h res r g u h := by
  refine mi_i (by decide +kernel) (fun a => Nat.le_of_ble_eq_true rfl) (fun X hX hn hR => ?_)
  replace hR : ∀ q : Int32, some q = some res → ∀ lv pc, decode cX5_hasSame pc = .ok (.ireturn, 1) → narrow .boolean (.int q) = .int q → VC X r g u h lv [.int q] pc := fun q hq => by cases hq; exact hR
  replace hX : CX X RX5 cX5_hasSame 2 := hX
  show VC X r g u h [(0, .ref (aX X 41)), (1, .ref (aX X 39)), (2, .int p2)] [] 0
  rw [f5_hasSame] at hf
  refine v_iload_n hX dX5_hasSame_0 rfl 2 rfl 1 rfl ?_
  refine v_if_lt hX dX5_hasSame_1 20 rfl 4 rfl (fun h10 => ?_) (fun h10 => ?_)
  · replace hf := it_p h10 hf
    refine v_iconst (v := (0 : Int32)) hX dX5_hasSame_20 (by decide) 21 rfl ?_
    exact hR _ hf _ _ dX5_hasSame_21 (bz_nar (v := (0 : Int32)) (by decide))
  · replace hf := it_n h10 hf
    refine v_iload_n hX dX5_hasSame_4 rfl 2 rfl 5 rfl ?_
    refine v_aload_n hX dX5_hasSame_5 rfl 0 rfl 6 rfl ?_
    refine gf_41_1 hX q_948 dX5_hasSame_6 ((r 24)) rfl 9 rfl ?_
    refine v_icmp_ge hX dX5_hasSame_9 20 rfl 12 rfl (fun h9 => ?_) (fun h9 => ?_)
    · replace hf := it_p h9 hf
      refine v_iconst (v := (0 : Int32)) hX dX5_hasSame_20 (by decide) 21 rfl ?_
      exact hR _ hf _ _ dX5_hasSame_21 (bz_nar (v := (0 : Int32)) (by decide))
    · replace hf := it_n h9 hf
      refine v_iload_n hX dX5_hasSame_12 rfl 2 rfl 13 rfl ?_
      refine v_aload_n hX dX5_hasSame_13 rfl 1 rfl 14 rfl ?_
      refine gf_39_1 hX q_948 dX5_hasSame_14 ((r 23)) rfl 17 rfl ?_
      refine v_icmp_lt hX dX5_hasSame_17 22 rfl 20 rfl (fun h8 => ?_) (fun h8 => ?_)
      · replace hf := it_p h8 hf
        refine v_iconst (v := (0 : Int32)) hX dX5_hasSame_22 (by decide) 23 rfl ?_
        refine v_istore_n hX dX5_hasSame_23 rfl (ltn hn (by decide)) 24 rfl [(3, .int (0 : Int32)), (0, .ref (aX X 41)), (1, .ref (aX X 39)), (2, .int p2)] rfl ?_
        obtain ⟨K2, hK2, hf⟩ := jn_x hf
        have HK2 : ∀ (x1 : Int32), K2 x1 = some res → VC X r g u h [] [] 52 := by
          intro x1 hf
          rw [hK2] at hf
          refine v_iconst (v := (1 : Int32)) hX dX5_hasSame_52 (by decide) 53 rfl ?_
          exact hR _ hf _ _ dX5_hasSame_53 (bz_nar (v := (1 : Int32)) (by decide))
        have HLK2 : ∀ (n3 : Nat) (x1 : Int32), f5_hasSame_L24 (r 23) (r 24) (g 40) (g 42) p2 n3 x1 K2 = some res → VC X r g u h [(0, .ref (aX X 41)), (1, .ref (aX X 39)), (2, .int p2), (3, .int x1)] [] 24 := by
          intro n3
          induction n3 with
          | zero => intro x1 hf; exact no_s hf
          | succ n3 ih =>
            intro x1 hf
            rw [f5_hasSame_L24] at hf
            refine v_iload_n hX dX5_hasSame_24 rfl 3 rfl 25 rfl ?_
            refine v_iconst (v := (3 : Int32)) hX dX5_hasSame_25 (by decide) 26 rfl ?_
            refine v_icmp_ge hX dX5_hasSame_26 52 rfl 29 rfl (fun h7 => ?_) (fun h7 => ?_)
            · replace hf := it_p h7 hf
              refine v_sub [] sbn ?_
              exact HK2 _ hf
            · replace hf := it_n h7 hf
              refine v_aload_n hX dX5_hasSame_29 rfl 0 rfl 30 rfl ?_
              refine v_iload_n hX dX5_hasSame_30 rfl 2 rfl 31 rfl ?_
              refine v_iload_n hX dX5_hasSame_31 rfl 3 rfl 32 rfl ?_
              obtain ⟨v4, hv4, hf⟩ := bn1_e hf
              refine cv_i hX (c5_entry_t41 r g u h _ _ hv4) wvX5_entry q_1003 rc_41 (Nat.le_of_ble_eq_true rfl) (Nat.le_of_ble_eq_true rfl) (fun _ => rfl) [] rfl (Nat.le_of_ble_eq_true rfl) dX5_hasSame_32 35 rfl ?_
              refine v_aload_n hX dX5_hasSame_35 rfl 1 rfl 36 rfl ?_
              refine v_iload_n hX dX5_hasSame_36 rfl 2 rfl 37 rfl ?_
              refine v_iload_n hX dX5_hasSame_37 rfl 3 rfl 38 rfl ?_
              obtain ⟨v5, hv5, hf⟩ := bn1_e hf
              refine cv_i hX (c5_entry_t39 r g u h _ _ hv5) wvX5_entry q_1003 rc_39 (Nat.le_of_ble_eq_true rfl) (Nat.le_of_ble_eq_true rfl) (fun _ => rfl) [.int v4] rfl (Nat.le_of_ble_eq_true rfl) dX5_hasSame_38 41 rfl ?_
              refine v_icmp_eq hX dX5_hasSame_41 46 rfl 44 rfl (fun h6 => ?_) (fun h6 => ?_)
              · replace hf := it_p h6 hf
                refine v_inc (c := (1 : Int32)) hX dX5_hasSame_46 3 rfl (by decide) (ltn hn (by decide)) 49 rfl [(3, .int (x1 + (1 : Int32))), (0, .ref (aX X 41)), (1, .ref (aX X 39)), (2, .int p2)] rfl ?_
                refine v_goto hX dX5_hasSame_49 24 rfl ?_
                refine v_sub [(0, .ref (aX X 41)), (1, .ref (aX X 39)), (2, .int p2), (3, .int (x1 + (1 : Int32)))] (sbc 1 rfl (sbc 2 rfl (sbc 3 rfl (sbc 0 rfl sbn)))) ?_
                exact ih _ hf
              · replace hf := it_n h6 hf
                refine v_iconst (v := (0 : Int32)) hX dX5_hasSame_44 (by decide) 45 rfl ?_
                exact hR _ hf _ _ dX5_hasSame_45 (bz_nar (v := (0 : Int32)) (by decide))
        refine v_sub [(0, .ref (aX X 41)), (1, .ref (aX X 39)), (2, .int p2), (3, .int (0 : Int32))] (sbc 1 rfl (sbc 2 rfl (sbc 3 rfl (sbc 0 rfl sbn)))) ?_
        exact HLK2 _ _ hf
      · replace hf := it_n h8 hf
        refine v_iconst (v := (0 : Int32)) hX dX5_hasSame_20 (by decide) 21 rfl ?_
        exact hR _ hf _ _ dX5_hasSame_21 (bz_nar (v := (0 : Int32)) (by decide))
set_option maxRecDepth 100000 in
set_option maxHeartbeats 4000000 in
theorem c5_append_t39 (r : Nat → Int32) (g : Nat → Nat → Int32) (u : Nat → Int64) (h : Nat → Nat → Int64) (p1 : Int32) (p2 : Int32) (p3 : Int32) {res : Int32 × (Nat → Int32)} (hf : f5_append (r 23) (g 40) p1 p2 p3 = some res) : MAv yX5_append cX5_append 4 none 0 (fun a => [.ref (a 39), .int p1, .int p2, .int p3]) r g u h (lkp r [(23, res.1)]) (lkp g [(40, res.2)]) u h := by
  refine mi_v (by decide +kernel) (fun a => Nat.le_of_ble_eq_true rfl) (fun X hX hn hR => ?_)
  replace hR : ∀ q : Int32 × (Nat → Int32), some q = some res → ∀ lv pc, decode cX5_append pc = .ok (.return_, 1) → VC X (lkp r [(23, q.1)]) (lkp g [(40, q.2)]) u h lv [] pc := fun q hq => by cases hq; exact hR
  replace hX : CX X RX5 cX5_append 0 := hX
  refine v_opr [23] [(23, r 23)] rfl ?_
  refine v_opg [40] [(40, g 40)] rfl ?_
  show VC X (lkp r [(23, r 23)]) (lkp g [(40, g 40)]) u h [(0, .ref (aX X 39)), (1, .int p1), (2, .int p2), (3, .int p3)] [] 0
  rw [f5_append] at hf
  refine v_aload_n hX dX5_append_0 rfl 0 rfl 1 rfl ?_
  refine gf_39_1 hX q_948 dX5_append_1 ((r 23)) rfl 4 rfl ?_
  refine v_bipush (v := (36 : Int32)) hX dX5_append_4 (by decide) 6 rfl ?_
  refine v_icmp_lt hX dX5_append_6 10 rfl 9 rfl (fun h4 => ?_) (fun h4 => ?_)
  · replace hf := it_p h4 hf
    refine v_aload_n hX dX5_append_10 rfl 0 rfl 11 rfl ?_
    refine gf_39_0 hX q_84 dX5_append_11 14 rfl ?_
    refine v_aload_n hX dX5_append_14 rfl 0 rfl 15 rfl ?_
    refine gf_39_1 hX q_948 dX5_append_15 ((r 23)) rfl 18 rfl ?_
    refine v_iconst (v := (3 : Int32)) hX dX5_append_18 (by decide) 19 rfl ?_
    refine v_imul hX dX5_append_19 20 rfl ?_
    refine v_iload_n hX dX5_append_20 rfl 1 rfl 21 rfl ?_
    obtain ⟨hi1, hf⟩ := gd_e hf
    refine as_40 hX hi1 dX5_append_21 22 rfl (g 40) rfl [(40, (upd (g 40) ((r 23) * (3 : Int32)).toNatClampNeg p1))] rfl ?_
    refine v_aload_n hX dX5_append_22 rfl 0 rfl 23 rfl ?_
    refine gf_39_0 hX q_84 dX5_append_23 26 rfl ?_
    refine v_aload_n hX dX5_append_26 rfl 0 rfl 27 rfl ?_
    refine gf_39_1 hX q_948 dX5_append_27 ((r 23)) rfl 30 rfl ?_
    refine v_iconst (v := (3 : Int32)) hX dX5_append_30 (by decide) 31 rfl ?_
    refine v_imul hX dX5_append_31 32 rfl ?_
    refine v_iconst (v := (1 : Int32)) hX dX5_append_32 (by decide) 33 rfl ?_
    refine v_iadd hX dX5_append_33 34 rfl ?_
    refine v_iload_n hX dX5_append_34 rfl 2 rfl 35 rfl ?_
    obtain ⟨hi2, hf⟩ := gd_e hf
    refine as_40 hX hi2 dX5_append_35 36 rfl (upd (g 40) ((r 23) * (3 : Int32)).toNatClampNeg p1) rfl [(40, (upd (upd (g 40) ((r 23) * (3 : Int32)).toNatClampNeg p1) (((r 23) * (3 : Int32)) + (1 : Int32)).toNatClampNeg p2))] rfl ?_
    refine v_aload_n hX dX5_append_36 rfl 0 rfl 37 rfl ?_
    refine gf_39_0 hX q_84 dX5_append_37 40 rfl ?_
    refine v_aload_n hX dX5_append_40 rfl 0 rfl 41 rfl ?_
    refine gf_39_1 hX q_948 dX5_append_41 ((r 23)) rfl 44 rfl ?_
    refine v_iconst (v := (3 : Int32)) hX dX5_append_44 (by decide) 45 rfl ?_
    refine v_imul hX dX5_append_45 46 rfl ?_
    refine v_iconst (v := (2 : Int32)) hX dX5_append_46 (by decide) 47 rfl ?_
    refine v_iadd hX dX5_append_47 48 rfl ?_
    refine v_iload_n hX dX5_append_48 rfl 3 rfl 49 rfl ?_
    obtain ⟨hi3, hf⟩ := gd_e hf
    refine as_40 hX hi3 dX5_append_49 50 rfl (upd (upd (g 40) ((r 23) * (3 : Int32)).toNatClampNeg p1) (((r 23) * (3 : Int32)) + (1 : Int32)).toNatClampNeg p2) rfl [(40, (upd (upd (upd (g 40) ((r 23) * (3 : Int32)).toNatClampNeg p1) (((r 23) * (3 : Int32)) + (1 : Int32)).toNatClampNeg p2) (((r 23) * (3 : Int32)) + (2 : Int32)).toNatClampNeg p3))] rfl ?_
    refine v_aload_n hX dX5_append_50 rfl 0 rfl 51 rfl ?_
    refine v_dup hX dX5_append_51 rfl 52 rfl ?_
    refine gf_39_1 hX q_948 dX5_append_52 ((r 23)) rfl 55 rfl ?_
    refine v_iconst (v := (1 : Int32)) hX dX5_append_55 (by decide) 56 rfl ?_
    refine v_iadd hX dX5_append_56 57 rfl ?_
    refine pf_39_1 hX q_948 dX5_append_57 60 rfl [(23, ((r 23) + (1 : Int32)))] rfl ?_
    exact hR _ hf _ _ dX5_append_60
  · replace hf := it_n h4 hf
    exact hR _ hf _ _ dX5_append_9
set_option maxRecDepth 100000 in
set_option maxHeartbeats 4000000 in
theorem c5_write_t39 (r : Nat → Int32) (g : Nat → Nat → Int32) (u : Nat → Int64) (h : Nat → Nat → Int64) (p3 : Int32) {res : Int32 × (Nat → Int32)} (hf : f5_write (r 1) (r 23) (g 28) (g 40) p3 = some res) : MAv yX5_write cX5_write 8 none 1 (fun a => [.ref (a 39), .ref (a 1), .ref (a 27), .int p3]) r g u h (lkp r [(23, res.1)]) (lkp g [(40, res.2)]) u h := by
  refine mi_v (by decide +kernel) (fun a => Nat.le_of_ble_eq_true rfl) (fun X hX hn hR => ?_)
  replace hR : ∀ q : Int32 × (Nat → Int32), some q = some res → ∀ lv pc, decode cX5_write pc = .ok (.return_, 1) → VC X (lkp r [(23, q.1)]) (lkp g [(40, q.2)]) u h lv [] pc := fun q hq => by cases hq; exact hR
  replace hX : CX X RX5 cX5_write 1 := hX
  refine v_opr [23] [(23, r 23)] rfl ?_
  refine v_opg [40] [(40, g 40)] rfl ?_
  show VC X (lkp r [(23, r 23)]) (lkp g [(40, g 40)]) u h [(0, .ref (aX X 39)), (1, .ref (aX X 1)), (2, .ref (aX X 27)), (3, .int p3)] [] 0
  rw [f5_write] at hf
  refine v_aload_n hX dX5_write_0 rfl 0 rfl 1 rfl ?_
  refine v_iconst (v := (0 : Int32)) hX dX5_write_1 (by decide) 2 rfl ?_
  refine pf_39_1 hX q_948 dX5_write_2 5 rfl [(23, (0 : Int32))] rfl ?_
  refine v_iconst (v := (0 : Int32)) hX dX5_write_5 (by decide) 6 rfl ?_
  refine v_istore hX dX5_write_6 (ltn hn (by decide)) 8 rfl [(4, .int (0 : Int32)), (0, .ref (aX X 39)), (1, .ref (aX X 1)), (2, .ref (aX X 27)), (3, .int p3)] rfl ?_
  obtain ⟨K4, hK4, hf⟩ := jn_x hf
  have HK4 : ∀ (x1 : Int32) (c2 : Int32) (c3 : (Nat → Int32)), K4 x1 c2 c3 = some res → VC X (lkp r [(23, c2)]) (lkp g [(40, c3)]) u h [] [] 99 := by
    intro x1 c2 c3 hf
    rw [hK4] at hf
    exact hR _ hf _ _ dX5_write_99
  have HLK4 : ∀ (n5 : Nat) (x1 : Int32) (c2 : Int32) (c3 : (Nat → Int32)), f5_write_L8 (r 1) (g 28) p3 n5 x1 c2 c3 K4 = some res → VC X (lkp r [(23, c2)]) (lkp g [(40, c3)]) u h [(0, .ref (aX X 39)), (1, .ref (aX X 1)), (2, .ref (aX X 27)), (3, .int p3), (4, .int x1)] [] 8 := by
    intro n5
    induction n5 with
    | zero => intro x1 c2 c3 hf; exact no_s hf
    | succ n5 ih =>
      intro x1 c2 c3 hf
      rw [f5_write_L8] at hf
      refine v_iload hX dX5_write_8 4 rfl 10 rfl ?_
      refine v_aload_n hX dX5_write_10 rfl 1 rfl 11 rfl ?_
      refine gf_1_6 hX q_949 dX5_write_11 ((r 1)) rfl 14 rfl ?_
      refine v_icmp_ge hX dX5_write_14 99 rfl 17 rfl (fun h25 => ?_) (fun h25 => ?_)
      · replace hf := it_p h25 hf
        refine v_sub [] sbn ?_
        exact HK4 _ _ _ hf
      · replace hf := it_n h25 hf
        refine v_iload hX dX5_write_17 4 rfl 19 rfl ?_
        refine v_iconst (v := (1 : Int32)) hX dX5_write_19 (by decide) 20 rfl ?_
        refine v_iadd hX dX5_write_20 21 rfl ?_
        refine v_istore hX dX5_write_21 (ltn hn (by decide)) 23 rfl [(5, .int (x1 + (1 : Int32))), (0, .ref (aX X 39)), (1, .ref (aX X 1)), (2, .ref (aX X 27)), (3, .int p3), (4, .int x1)] rfl ?_
        obtain ⟨K9, hK9, hf⟩ := jn_x hf
        have HK9 : ∀ (x6 : Int32) (c7 : Int32) (c8 : (Nat → Int32)), K9 x6 c7 c8 = some res → VC X (lkp r [(23, c7)]) (lkp g [(40, c8)]) u h [(0, .ref (aX X 39)), (1, .ref (aX X 1)), (2, .ref (aX X 27)), (3, .int p3), (4, .int x1)] [] 93 := by
          intro x6 c7 c8 hf
          rw [hK9] at hf
          refine v_inc (c := (1 : Int32)) hX dX5_write_93 4 rfl (by decide) (ltn hn (by decide)) 96 rfl [(4, .int (x1 + (1 : Int32))), (0, .ref (aX X 39)), (1, .ref (aX X 1)), (2, .ref (aX X 27)), (3, .int p3)] rfl ?_
          refine v_goto hX dX5_write_96 8 rfl ?_
          refine v_sub [(0, .ref (aX X 39)), (1, .ref (aX X 1)), (2, .ref (aX X 27)), (3, .int p3), (4, .int (x1 + (1 : Int32)))] (sbc 1 rfl (sbc 2 rfl (sbc 3 rfl (sbc 4 rfl (sbc 0 rfl sbn))))) ?_
          exact ih _ _ _ hf
        have HLK9 : ∀ (n10 : Nat) (x6 : Int32) (c7 : Int32) (c8 : (Nat → Int32)), f5_write_L23 (r 1) (g 28) p3 x1 n10 x6 c7 c8 K9 = some res → VC X (lkp r [(23, c7)]) (lkp g [(40, c8)]) u h [(0, .ref (aX X 39)), (1, .ref (aX X 1)), (2, .ref (aX X 27)), (3, .int p3), (4, .int x1), (5, .int x6)] [] 23 := by
          intro n10
          induction n10 with
          | zero => intro x6 c7 c8 hf; exact no_s hf
          | succ n10 ih =>
            intro x6 c7 c8 hf
            rw [f5_write_L23] at hf
            refine v_iload hX dX5_write_23 5 rfl 25 rfl ?_
            refine v_aload_n hX dX5_write_25 rfl 1 rfl 26 rfl ?_
            refine gf_1_6 hX q_949 dX5_write_26 ((r 1)) rfl 29 rfl ?_
            refine v_icmp_ge hX dX5_write_29 93 rfl 32 rfl (fun h24 => ?_) (fun h24 => ?_)
            · replace hf := it_p h24 hf
              refine v_sub [(0, .ref (aX X 39)), (1, .ref (aX X 1)), (2, .ref (aX X 27)), (3, .int p3), (4, .int x1)] (sbc 0 rfl (sbc 1 rfl (sbc 2 rfl (sbc 3 rfl (sbc 4 rfl sbn))))) ?_
              exact HK9 _ _ _ hf
            · replace hf := it_n h24 hf
              refine v_iload_n hX dX5_write_32 rfl 3 rfl 33 rfl ?_
              refine v_iload hX dX5_write_33 4 rfl 35 rfl ?_
              refine v_ishr hX dX5_write_35 36 rfl ?_
              refine v_iconst (v := (1 : Int32)) hX dX5_write_36 (by decide) 37 rfl ?_
              refine v_iand hX dX5_write_37 38 rfl ?_
              obtain ⟨J11, hJ11, hf⟩ := jn_x hf
              have HJ11 : ∀ (s12 : Int32), J11 s12 = some res → VC X (lkp r [(23, c7)]) (lkp g [(40, c8)]) u h [(0, .ref (aX X 39)), (1, .ref (aX X 1)), (2, .ref (aX X 27)), (3, .int p3), (4, .int x1), (5, .int x6)] [.int s12] 55 := by
                intro s12 hf
                rw [hJ11] at hf
                refine v_istore hX dX5_write_55 (ltn hn (by decide)) 57 rfl [(6, .int s12), (0, .ref (aX X 39)), (1, .ref (aX X 1)), (2, .ref (aX X 27)), (3, .int p3), (4, .int x1), (5, .int x6)] rfl ?_
                refine v_aload_n hX dX5_write_57 rfl 3 rfl 58 rfl ?_
                refine v_iload hX dX5_write_58 5 rfl 60 rfl ?_
                refine v_iload hX dX5_write_60 6 rfl 62 rfl ?_
                obtain ⟨v13, hv13, hf⟩ := bn1_e hf
                refine cv_i hX (c7_woven (lkp r [(23, c7)]) (lkp g [(40, c8)]) u h _ _ hv13) wvX7_woven q_950 rc_27 (Nat.le_of_ble_eq_true rfl) (Nat.le_of_ble_eq_true rfl) (fun _ => rfl) [] rfl (Nat.le_of_ble_eq_true rfl) dX5_write_62 65 rfl ?_
                refine v_istore hX dX5_write_65 (ltn hn (by decide)) 67 rfl [(7, .int v13), (6, .int s12), (0, .ref (aX X 39)), (1, .ref (aX X 1)), (2, .ref (aX X 27)), (3, .int p3), (4, .int x1), (5, .int x6)] rfl ?_
                refine v_iload hX dX5_write_67 1 rfl 69 rfl ?_
                obtain ⟨J14, hJ14, hf⟩ := jn_x hf
                have HJ14 : ∀ (c15 : Int32) (c16 : (Nat → Int32)), J14 c15 c16 = some res → VC X (lkp r [(23, c15)]) (lkp g [(40, c16)]) u h [(0, .ref (aX X 39)), (1, .ref (aX X 1)), (2, .ref (aX X 27)), (3, .int p3), (4, .int x1), (5, .int x6)] [] 87 := by
                  intro c15 c16 hf
                  rw [hJ14] at hf
                  refine v_inc (c := (1 : Int32)) hX dX5_write_87 5 rfl (by decide) (ltn hn (by decide)) 90 rfl [(5, .int (x6 + (1 : Int32))), (0, .ref (aX X 39)), (1, .ref (aX X 1)), (2, .ref (aX X 27)), (3, .int p3), (4, .int x1)] rfl ?_
                  refine v_goto hX dX5_write_90 23 rfl ?_
                  refine v_sub [(0, .ref (aX X 39)), (1, .ref (aX X 1)), (2, .ref (aX X 27)), (3, .int p3), (4, .int x1), (5, .int (x6 + (1 : Int32)))] (sbc 1 rfl (sbc 2 rfl (sbc 3 rfl (sbc 4 rfl (sbc 5 rfl (sbc 0 rfl sbn)))))) ?_
                  exact ih _ _ _ hf
                refine v_if_eq hX dX5_write_69 87 rfl 72 rfl (fun h20 => ?_) (fun h20 => ?_)
                · replace hf := it_p h20 hf
                  refine v_sub [(0, .ref (aX X 39)), (1, .ref (aX X 1)), (2, .ref (aX X 27)), (3, .int p3), (4, .int x1), (5, .int x6)] (sbc 2 rfl (sbc 3 rfl (sbc 4 rfl (sbc 5 rfl (sbc 6 rfl (sbc 7 rfl sbn)))))) ?_
                  exact HJ14 _ _ hf
                · replace hf := it_n h20 hf
                  refine v_iload hX dX5_write_72 0 rfl 74 rfl ?_
                  refine v_if_le hX dX5_write_74 87 rfl 77 rfl (fun h19 => ?_) (fun h19 => ?_)
                  · replace hf := it_p h19 hf
                    refine v_sub [(0, .ref (aX X 39)), (1, .ref (aX X 1)), (2, .ref (aX X 27)), (3, .int p3), (4, .int x1), (5, .int x6)] (sbc 2 rfl (sbc 3 rfl (sbc 4 rfl (sbc 5 rfl (sbc 6 rfl (sbc 7 rfl sbn)))))) ?_
                    exact HJ14 _ _ hf
                  · replace hf := it_n h19 hf
                    refine v_aload_n hX dX5_write_77 rfl 2 rfl 78 rfl ?_
                    refine v_iload hX dX5_write_78 6 rfl 80 rfl ?_
                    refine v_iload hX dX5_write_80 7 rfl 82 rfl ?_
                    refine v_iload hX dX5_write_82 0 rfl 84 rfl ?_
                    obtain ⟨c17, c18, hc17, hf⟩ := bn2_e hf
                    refine cv_v hX (c5_append_t39 (lkp r [(23, c7)]) (lkp g [(40, c8)]) u h _ _ _ hc17) wvX5_append q_951 rc_39 (Nat.le_of_ble_eq_true rfl) (Nat.le_of_ble_eq_true rfl) (fun _ => rfl) [] rfl (Nat.le_of_ble_eq_true rfl) dX5_write_84 87 rfl ?_
                    refine v_mgr [(23, c17)] rfl ?_
                    refine v_mgg [(40, c18)] rfl ?_
                    refine v_sub [(0, .ref (aX X 39)), (1, .ref (aX X 1)), (2, .ref (aX X 27)), (3, .int p3), (4, .int x1), (5, .int x6)] (sbc 2 rfl (sbc 3 rfl (sbc 4 rfl (sbc 5 rfl (sbc 6 rfl (sbc 7 rfl sbn)))))) ?_
                    exact HJ14 _ _ hf
              obtain ⟨J21, hJ21, hf⟩ := jn_x hf
              have HJ21 : J21 = some res → VC X (lkp r [(23, c7)]) (lkp g [(40, c8)]) u h [(0, .ref (aX X 39)), (1, .ref (aX X 1)), (2, .ref (aX X 27)), (3, .int p3), (4, .int x1), (5, .int x6)] [] 54 := by
                intro hf
                rw [hJ21] at hf
                refine v_iconst (v := (0 : Int32)) hX dX5_write_54 (by decide) 55 rfl ?_
                exact HJ11 _ hf
              refine v_if_eq hX dX5_write_38 54 rfl 41 rfl (fun h23 => ?_) (fun h23 => ?_)
              · replace hf := it_p h23 hf
                exact HJ21  hf
              · replace hf := it_n h23 hf
                refine v_iload_n hX dX5_write_41 rfl 3 rfl 42 rfl ?_
                refine v_iload hX dX5_write_42 5 rfl 44 rfl ?_
                refine v_ishr hX dX5_write_44 45 rfl ?_
                refine v_iconst (v := (1 : Int32)) hX dX5_write_45 (by decide) 46 rfl ?_
                refine v_iand hX dX5_write_46 47 rfl ?_
                refine v_if_eq hX dX5_write_47 54 rfl 50 rfl (fun h22 => ?_) (fun h22 => ?_)
                · replace hf := it_p h22 hf
                  exact HJ21  hf
                · replace hf := it_n h22 hf
                  refine v_iconst (v := (1 : Int32)) hX dX5_write_50 (by decide) 51 rfl ?_
                  refine v_goto hX dX5_write_51 55 rfl ?_
                  exact HJ11 _ hf
        refine v_sub [(0, .ref (aX X 39)), (1, .ref (aX X 1)), (2, .ref (aX X 27)), (3, .int p3), (4, .int x1), (5, .int (x1 + (1 : Int32)))] (sbc 1 rfl (sbc 2 rfl (sbc 3 rfl (sbc 4 rfl (sbc 5 rfl (sbc 0 rfl sbn)))))) ?_
        exact HLK9 _ _ _ _ hf
  refine v_sub [(0, .ref (aX X 39)), (1, .ref (aX X 1)), (2, .ref (aX X 27)), (3, .int p3), (4, .int (0 : Int32))] (sbc 1 rfl (sbc 2 rfl (sbc 3 rfl (sbc 4 rfl (sbc 0 rfl sbn))))) ?_
  exact HLK4 _ _ _ _ hf
set_option maxRecDepth 100000 in
set_option maxHeartbeats 4000000 in
theorem c7_tiedWith (r : Nat → Int32) (g : Nat → Nat → Int32) (u : Nat → Int64) (h : Nat → Nat → Int64) (p2 : Int32) {res : Int32} (hf : f7_tiedWith (r 1) (r 0) (g 7) (g 5) (g 3) (g 6) (g 8) p2 = some res) : MAi yX7_tiedWith cX7_tiedWith 5 (some .int) 4 (fun a => [.ref (a 27), .ref (a 1), .int p2]) r g u h res r g u h := by
  refine mi_i (by decide +kernel) (fun a => Nat.le_of_ble_eq_true rfl) (fun X hX hn hR => ?_)
  replace hR : ∀ q : Int32, some q = some res → ∀ lv pc, decode cX7_tiedWith pc = .ok (.ireturn, 1) → narrow .int (.int q) = .int q → VC X r g u h lv [.int q] pc := fun q hq => by cases hq; exact hR
  replace hX : CX X RX7 cX7_tiedWith 4 := hX
  show VC X r g u h [(0, .ref (aX X 27)), (1, .ref (aX X 1)), (2, .int p2)] [] 0
  rw [f7_tiedWith] at hf
  refine v_iconst (v := (0 : Int32)) hX dX7_tiedWith_0 (by decide) 1 rfl ?_
  refine v_istore_n hX dX7_tiedWith_1 rfl (ltn hn (by decide)) 2 rfl [(3, .int (0 : Int32)), (0, .ref (aX X 27)), (1, .ref (aX X 1)), (2, .int p2)] rfl ?_
  refine v_iconst (v := (0 : Int32)) hX dX7_tiedWith_2 (by decide) 3 rfl ?_
  refine v_istore hX dX7_tiedWith_3 (ltn hn (by decide)) 5 rfl [(4, .int (0 : Int32)), (3, .int (0 : Int32)), (0, .ref (aX X 27)), (1, .ref (aX X 1)), (2, .int p2)] rfl ?_
  obtain ⟨K3, hK3, hf⟩ := jn_x hf
  have HK3 : ∀ (x1 : Int32) (x2 : Int32), K3 x1 x2 = some res → VC X r g u h [(3, .int x1)] [] 45 := by
    intro x1 x2 hf
    rw [hK3] at hf
    refine v_iload_n hX dX7_tiedWith_45 rfl 0 rfl 46 rfl ?_
    exact hR _ hf _ _ dX7_tiedWith_46 rfl
  have HLK3 : ∀ (n4 : Nat) (x1 : Int32) (x2 : Int32), f7_tiedWith_L5 (r 1) (r 0) (g 7) (g 5) (g 3) (g 6) (g 8) p2 n4 x1 x2 K3 = some res → VC X r g u h [(0, .ref (aX X 27)), (1, .ref (aX X 1)), (2, .int p2), (3, .int x1), (4, .int x2)] [] 5 := by
    intro n4
    induction n4 with
    | zero => intro x1 x2 hf; exact no_s hf
    | succ n4 ih =>
      intro x1 x2 hf
      rw [f7_tiedWith_L5] at hf
      refine v_iload hX dX7_tiedWith_5 4 rfl 7 rfl ?_
      refine v_aload_n hX dX7_tiedWith_7 rfl 1 rfl 8 rfl ?_
      refine gf_1_6 hX q_598 dX7_tiedWith_8 ((r 1)) rfl 11 rfl ?_
      refine v_icmp_ge hX dX7_tiedWith_11 45 rfl 14 rfl (fun h10 => ?_) (fun h10 => ?_)
      · replace hf := it_p h10 hf
        refine v_sub [(3, .int x1)] (sbc 3 rfl sbn) ?_
        exact HK3 _ _ hf
      · replace hf := it_n h10 hf
        refine v_iload hX dX7_tiedWith_14 4 rfl 16 rfl ?_
        refine v_iload_n hX dX7_tiedWith_16 rfl 2 rfl 17 rfl ?_
        obtain ⟨J5, hJ5, hf⟩ := jn_x hf
        have HJ5 : ∀ (y6 : Int32), J5 y6 = some res → VC X r g u h [(0, .ref (aX X 27)), (1, .ref (aX X 1)), (2, .int p2), (3, .int y6), (4, .int x2)] [] 39 := by
          intro y6 hf
          rw [hJ5] at hf
          refine v_inc (c := (1 : Int32)) hX dX7_tiedWith_39 4 rfl (by decide) (ltn hn (by decide)) 42 rfl [(4, .int (x2 + (1 : Int32))), (0, .ref (aX X 27)), (1, .ref (aX X 1)), (2, .int p2), (3, .int y6)] rfl ?_
          refine v_goto hX dX7_tiedWith_42 5 rfl ?_
          refine v_sub [(0, .ref (aX X 27)), (1, .ref (aX X 1)), (2, .int p2), (3, .int y6), (4, .int (x2 + (1 : Int32)))] (sbc 1 rfl (sbc 2 rfl (sbc 3 rfl (sbc 4 rfl (sbc 0 rfl sbn))))) ?_
          exact ih _ _ hf
        refine v_icmp_eq hX dX7_tiedWith_17 39 rfl 20 rfl (fun h9 => ?_) (fun h9 => ?_)
        · replace hf := it_p h9 hf
          exact HJ5 _ hf
        · replace hf := it_n h9 hf
          refine v_aload_n hX dX7_tiedWith_20 rfl 0 rfl 21 rfl ?_
          refine v_aload_n hX dX7_tiedWith_21 rfl 1 rfl 22 rfl ?_
          refine v_iload_n hX dX7_tiedWith_22 rfl 2 rfl 23 rfl ?_
          refine v_iload hX dX7_tiedWith_23 4 rfl 25 rfl ?_
          refine v_iconst (v := (-1 : Int32)) hX dX7_tiedWith_25 (by decide) 26 rfl ?_
          obtain ⟨v7, hv7, hf⟩ := bn1_e hf
          refine cv_i hX (c7_strength r g u h _ _ _ hv7) wvX7_strength q_599 rc_27 (Nat.le_of_ble_eq_true rfl) (Nat.le_of_ble_eq_true rfl) (fun _ => rfl) [] rfl (Nat.le_of_ble_eq_true rfl) dX7_tiedWith_26 29 rfl ?_
          refine v_if_le hX dX7_tiedWith_29 39 rfl 32 rfl (fun h8 => ?_) (fun h8 => ?_)
          · replace hf := it_p h8 hf
            exact HJ5 _ hf
          · replace hf := it_n h8 hf
            refine v_iload_n hX dX7_tiedWith_32 rfl 3 rfl 33 rfl ?_
            refine v_iconst (v := (1 : Int32)) hX dX7_tiedWith_33 (by decide) 34 rfl ?_
            refine v_iload hX dX7_tiedWith_34 4 rfl 36 rfl ?_
            refine v_ishl hX dX7_tiedWith_36 37 rfl ?_
            refine v_ior hX dX7_tiedWith_37 38 rfl ?_
            refine v_istore_n hX dX7_tiedWith_38 rfl (ltn hn (by decide)) 39 rfl [(3, .int (x1 ||| ((1 : Int32) <<< (x2 &&& 31)))), (0, .ref (aX X 27)), (1, .ref (aX X 1)), (2, .int p2), (4, .int x2)] rfl ?_
            refine v_sub [(0, .ref (aX X 27)), (1, .ref (aX X 1)), (2, .int p2), (3, .int (x1 ||| ((1 : Int32) <<< (x2 &&& 31)))), (4, .int x2)] (sbc 1 rfl (sbc 2 rfl (sbc 3 rfl (sbc 0 rfl (sbc 4 rfl sbn))))) ?_
            exact HJ5 _ hf
  refine v_sub [(0, .ref (aX X 27)), (1, .ref (aX X 1)), (2, .int p2), (3, .int (0 : Int32)), (4, .int (0 : Int32))] (sbc 2 rfl (sbc 3 rfl (sbc 4 rfl (sbc 1 rfl (sbc 0 rfl sbn))))) ?_
  exact HLK3 _ _ _ hf
set_option maxRecDepth 100000 in
set_option maxHeartbeats 4000000 in
theorem c7_lastDay (r : Nat → Int32) (g : Nat → Nat → Int32) (u : Nat → Int64) (h : Nat → Nat → Int64) (p1 : Int32) {res : Int32} (hf : f7_lastDay (r 1) (g 7) p1 = some res) : MAi yX7_lastDay cX7_lastDay 4 (some .int) 2 (fun a => [.ref (a 1), .int p1]) r g u h res r g u h := by
  refine mi_i (by decide +kernel) (fun a => Nat.le_of_ble_eq_true rfl) (fun X hX hn hR => ?_)
  replace hR : ∀ q : Int32, some q = some res → ∀ lv pc, decode cX7_lastDay pc = .ok (.ireturn, 1) → narrow .int (.int q) = .int q → VC X r g u h lv [.int q] pc := fun q hq => by cases hq; exact hR
  replace hX : CX X RX7 cX7_lastDay 2 := hX
  show VC X r g u h [(0, .ref (aX X 1)), (1, .int p1)] [] 0
  rw [f7_lastDay] at hf
  refine v_iconst (v := (0 : Int32)) hX dX7_lastDay_0 (by decide) 1 rfl ?_
  refine v_istore_n hX dX7_lastDay_1 rfl (ltn hn (by decide)) 2 rfl [(2, .int (0 : Int32)), (0, .ref (aX X 1)), (1, .int p1)] rfl ?_
  refine v_iconst (v := (0 : Int32)) hX dX7_lastDay_2 (by decide) 3 rfl ?_
  refine v_istore_n hX dX7_lastDay_3 rfl (ltn hn (by decide)) 4 rfl [(3, .int (0 : Int32)), (2, .int (0 : Int32)), (0, .ref (aX X 1)), (1, .int p1)] rfl ?_
  obtain ⟨K3, hK3, hf⟩ := jn_x hf
  have HK3 : ∀ (x1 : Int32) (x2 : Int32), K3 x1 x2 = some res → VC X r g u h [(2, .int x1)] [] 37 := by
    intro x1 x2 hf
    rw [hK3] at hf
    refine v_iload_n hX dX7_lastDay_37 rfl 0 rfl 38 rfl ?_
    exact hR _ hf _ _ dX7_lastDay_38 rfl
  have HLK3 : ∀ (n4 : Nat) (x1 : Int32) (x2 : Int32), f7_lastDay_L4 (r 1) (g 7) p1 n4 x1 x2 K3 = some res → VC X r g u h [(0, .ref (aX X 1)), (1, .int p1), (2, .int x1), (3, .int x2)] [] 4 := by
    intro n4
    induction n4 with
    | zero => intro x1 x2 hf; exact no_s hf
    | succ n4 ih =>
      intro x1 x2 hf
      rw [f7_lastDay_L4] at hf
      refine v_iload_n hX dX7_lastDay_4 rfl 3 rfl 5 rfl ?_
      refine v_aload_n hX dX7_lastDay_5 rfl 0 rfl 6 rfl ?_
      refine gf_1_6 hX q_598 dX7_lastDay_6 ((r 1)) rfl 9 rfl ?_
      refine v_icmp_ge hX dX7_lastDay_9 37 rfl 12 rfl (fun h9 => ?_) (fun h9 => ?_)
      · replace hf := it_p h9 hf
        refine v_sub [(2, .int x1)] (sbc 2 rfl sbn) ?_
        exact HK3 _ _ hf
      · replace hf := it_n h9 hf
        refine v_iload_n hX dX7_lastDay_12 rfl 1 rfl 13 rfl ?_
        refine v_iload_n hX dX7_lastDay_13 rfl 3 rfl 14 rfl ?_
        refine v_ishr hX dX7_lastDay_14 15 rfl ?_
        refine v_iconst (v := (1 : Int32)) hX dX7_lastDay_15 (by decide) 16 rfl ?_
        refine v_iand hX dX7_lastDay_16 17 rfl ?_
        obtain ⟨J5, hJ5, hf⟩ := jn_x hf
        have HJ5 : ∀ (y6 : Int32), J5 y6 = some res → VC X r g u h [(0, .ref (aX X 1)), (1, .int p1), (2, .int y6), (3, .int x2)] [] 31 := by
          intro y6 hf
          rw [hJ5] at hf
          refine v_inc (c := (1 : Int32)) hX dX7_lastDay_31 3 rfl (by decide) (ltn hn (by decide)) 34 rfl [(3, .int (x2 + (1 : Int32))), (0, .ref (aX X 1)), (1, .int p1), (2, .int y6)] rfl ?_
          refine v_goto hX dX7_lastDay_34 4 rfl ?_
          refine v_sub [(0, .ref (aX X 1)), (1, .int p1), (2, .int y6), (3, .int (x2 + (1 : Int32)))] (sbc 1 rfl (sbc 2 rfl (sbc 3 rfl (sbc 0 rfl sbn)))) ?_
          exact ih _ _ hf
        refine v_if_eq hX dX7_lastDay_17 31 rfl 20 rfl (fun h8 => ?_) (fun h8 => ?_)
        · replace hf := it_p h8 hf
          exact HJ5 _ hf
        · replace hf := it_n h8 hf
          refine v_iload_n hX dX7_lastDay_20 rfl 2 rfl 21 rfl ?_
          refine v_aload_n hX dX7_lastDay_21 rfl 0 rfl 22 rfl ?_
          refine v_iload_n hX dX7_lastDay_22 rfl 3 rfl 23 rfl ?_
          refine v_iconst (v := (1 : Int32)) hX dX7_lastDay_23 (by decide) 24 rfl ?_
          obtain ⟨v7, hv7, hf⟩ := bn1_e hf
          refine cv_i hX (c0_fact r g u h _ _ hv7) wvX0_fact q_574 rc_1 (Nat.le_of_ble_eq_true rfl) (Nat.le_of_ble_eq_true rfl) (fun _ => rfl) [.int x1] rfl (Nat.le_of_ble_eq_true rfl) dX7_lastDay_24 27 rfl ?_
          refine v_mmax hX (Nat.le_of_ble_eq_true rfl) q_561 (Nat.le_of_ble_eq_true rfl) dX7_lastDay_27 30 rfl ?_
          refine v_istore_n hX dX7_lastDay_30 rfl (ltn hn (by decide)) 31 rfl [(2, .int (if x1 < v7 then v7 else x1)), (0, .ref (aX X 1)), (1, .int p1), (3, .int x2)] rfl ?_
          refine v_sub [(0, .ref (aX X 1)), (1, .int p1), (2, .int (if x1 < v7 then v7 else x1)), (3, .int x2)] (sbc 1 rfl (sbc 2 rfl (sbc 0 rfl (sbc 3 rfl sbn)))) ?_
          exact HJ5 _ hf
  refine v_sub [(0, .ref (aX X 1)), (1, .int p1), (2, .int (0 : Int32)), (3, .int (0 : Int32))] (sbc 2 rfl (sbc 3 rfl (sbc 1 rfl (sbc 0 rfl sbn)))) ?_
  exact HLK3 _ _ _ hf
set_option maxRecDepth 100000 in
set_option maxHeartbeats 4000000 in
theorem c7_firstDay (r : Nat → Int32) (g : Nat → Nat → Int32) (u : Nat → Int64) (h : Nat → Nat → Int64) (p2 : Int32) {res : Int32 × (Nat → Int32) × (Nat → Int32)} (hf : f7_firstDay (r 1) (r 0) (g 7) (g 5) (g 3) (g 6) (g 8) (g 29) (g 28) p2 = some res) : MAi yX7_firstDay cX7_firstDay 6 (some .int) 6 (fun a => [.ref (a 27), .ref (a 1), .int p2]) r g u h res.1 r (lkp g [(29, res.2.1), (28, res.2.2)]) u h := by
  refine mi_i (by decide +kernel) (fun a => Nat.le_of_ble_eq_true rfl) (fun X hX hn hR => ?_)
  replace hR : ∀ q : Int32 × (Nat → Int32) × (Nat → Int32), some q = some res → ∀ lv pc, decode cX7_firstDay pc = .ok (.ireturn, 1) → narrow .int (.int q.1) = .int q.1 → VC X r (lkp g [(29, q.2.1), (28, q.2.2)]) u h lv [.int q.1] pc := fun q hq => by cases hq; exact hR
  replace hX : CX X RX7 cX7_firstDay 6 := hX
  refine v_opg [29, 28] [(29, g 29), (28, g 28)] rfl ?_
  show VC X r (lkp g [(29, g 29), (28, g 28)]) u h [(0, .ref (aX X 27)), (1, .ref (aX X 1)), (2, .int p2)] [] 0
  rw [f7_firstDay] at hf
  refine v_aload_n hX dX7_firstDay_0 rfl 0 rfl 1 rfl ?_
  refine v_aload_n hX dX7_firstDay_1 rfl 1 rfl 2 rfl ?_
  refine v_iconst (v := (-1 : Int32)) hX dX7_firstDay_2 (by decide) 3 rfl ?_
  obtain ⟨c1, c2, hc1, hf⟩ := bn2_e hf
  refine cv_v hX (c7_scoreSets r (lkp g [(29, (g 29)), (28, (g 28))]) u h _ hc1) wvX7_scoreSets q_712 rc_27 (Nat.le_of_ble_eq_true rfl) (Nat.le_of_ble_eq_true rfl) (fun _ => rfl) [] rfl (Nat.le_of_ble_eq_true rfl) dX7_firstDay_3 6 rfl ?_
  refine v_mgg [(29, c1), (28, c2)] rfl ?_
  refine v_bipush (v := (-3 : Int32)) hX dX7_firstDay_6 (by decide) 8 rfl ?_
  refine v_istore_n hX dX7_firstDay_8 rfl (ltn hn (by decide)) 9 rfl [(3, .int (-3 : Int32)), (0, .ref (aX X 27)), (1, .ref (aX X 1)), (2, .int p2)] rfl ?_
  refine v_iconst (v := (3 : Int32)) hX dX7_firstDay_9 (by decide) 10 rfl ?_
  refine v_istore hX dX7_firstDay_10 (ltn hn (by decide)) 12 rfl [(4, .int (3 : Int32)), (3, .int (-3 : Int32)), (0, .ref (aX X 27)), (1, .ref (aX X 1)), (2, .int p2)] rfl ?_
  obtain ⟨K5, hK5, hf⟩ := jn_x hf
  have HK5 : ∀ (x3 : Int32) (x4 : Int32), K5 x3 x4 = some res → VC X r (lkp g [(29, c1), (28, c2)]) u h [(3, .int x3)] [] 72 := by
    intro x3 x4 hf
    rw [hK5] at hf
    refine v_iload_n hX dX7_firstDay_72 rfl 0 rfl 73 rfl ?_
    exact hR _ hf _ _ dX7_firstDay_73 rfl
  have HLK5 : ∀ (n6 : Nat) (x3 : Int32) (x4 : Int32), f7_firstDay_L12 (r 1) (g 7) p2 c1 n6 x3 x4 K5 = some res → VC X r (lkp g [(29, c1), (28, c2)]) u h [(0, .ref (aX X 27)), (1, .ref (aX X 1)), (2, .int p2), (3, .int x3), (4, .int x4)] [] 12 := by
    intro n6
    induction n6 with
    | zero => intro x3 x4 hf; exact no_s hf
    | succ n6 ih =>
      intro x3 x4 hf
      rw [f7_firstDay_L12] at hf
      refine v_iload hX dX7_firstDay_12 4 rfl 14 rfl ?_
      refine v_aload_n hX dX7_firstDay_14 rfl 1 rfl 15 rfl ?_
      obtain ⟨v7, hv7, hf⟩ := bn1_e hf
      refine cv_i hX (c0_allClaims r (lkp g [(29, c1), (28, c2)]) u h hv7) wvX0_allClaims q_713 rc_1 (Nat.le_of_ble_eq_true rfl) (Nat.le_of_ble_eq_true rfl) (fun _ => rfl) [.int x4] rfl (Nat.le_of_ble_eq_true rfl) dX7_firstDay_15 18 rfl ?_
      refine v_icmp_gt hX dX7_firstDay_18 72 rfl 21 rfl (fun h18 => ?_) (fun h18 => ?_)
      · replace hf := it_p h18 hf
        refine v_sub [(3, .int x3)] (sbc 3 rfl sbn) ?_
        exact HK5 _ _ hf
      · replace hf := it_n h18 hf
        refine v_iload hX dX7_firstDay_21 4 rfl 23 rfl ?_
        obtain ⟨v8, hv8, hf⟩ := bn1_e hf
        refine cs_i hX (ctJ6_bitCount_0f7a4 r (lkp g [(29, c1), (28, c2)]) u h _ hv8) wvJ6_bitCount_0f7a4 q_714 (Nat.le_of_ble_eq_true rfl) (Nat.le_of_ble_eq_true rfl) (fun _ => rfl) [] rfl (Nat.le_of_ble_eq_true rfl) dX7_firstDay_23 26 rfl ?_
        refine v_iconst (v := (2 : Int32)) hX dX7_firstDay_26 (by decide) 27 rfl ?_
        obtain ⟨J9, hJ9, hf⟩ := jn_x hf
        have HJ9 : ∀ (y10 : Int32), J9 y10 = some res → VC X r (lkp g [(29, c1), (28, c2)]) u h [(0, .ref (aX X 27)), (1, .ref (aX X 1)), (2, .int p2), (3, .int y10), (4, .int x4)] [] 66 := by
          intro y10 hf
          rw [hJ9] at hf
          refine v_inc (c := (1 : Int32)) hX dX7_firstDay_66 4 rfl (by decide) (ltn hn (by decide)) 69 rfl [(4, .int (x4 + (1 : Int32))), (0, .ref (aX X 27)), (1, .ref (aX X 1)), (2, .int p2), (3, .int y10)] rfl ?_
          refine v_goto hX dX7_firstDay_69 12 rfl ?_
          refine v_sub [(0, .ref (aX X 27)), (1, .ref (aX X 1)), (2, .int p2), (3, .int y10), (4, .int (x4 + (1 : Int32)))] (sbc 1 rfl (sbc 2 rfl (sbc 3 rfl (sbc 4 rfl (sbc 0 rfl sbn))))) ?_
          exact ih _ _ hf
        refine v_icmp_lt hX dX7_firstDay_27 66 rfl 30 rfl (fun h17 => ?_) (fun h17 => ?_)
        · replace hf := it_p h17 hf
          exact HJ9 _ hf
        · replace hf := it_n h17 hf
          refine v_aload_n hX dX7_firstDay_30 rfl 0 rfl 31 rfl ?_
          refine v_iload hX dX7_firstDay_31 4 rfl 33 rfl ?_
          obtain ⟨v11, hv11, hf⟩ := bn1_e hf
          refine cv_i hX (c7_scoreOf r (lkp g [(29, c1), (28, c2)]) u h _ hv11) wvX7_scoreOf q_725 rc_27 (Nat.le_of_ble_eq_true rfl) (Nat.le_of_ble_eq_true rfl) (fun _ => rfl) [] rfl (Nat.le_of_ble_eq_true rfl) dX7_firstDay_33 36 rfl ?_
          refine v_iload_n hX dX7_firstDay_36 rfl 2 rfl 37 rfl ?_
          refine v_icmp_ge hX dX7_firstDay_37 43 rfl 40 rfl (fun h16 => ?_) (fun h16 => ?_)
          · replace hf := it_p h16 hf
            refine v_aload_n hX dX7_firstDay_43 rfl 1 rfl 44 rfl ?_
            refine v_iload hX dX7_firstDay_44 4 rfl 46 rfl ?_
            obtain ⟨v12, hv12, hf⟩ := bn1_e hf
            refine cs_i hX (c7_lastDay r (lkp g [(29, c1), (28, c2)]) u h _ hv12) wvX7_lastDay q_746 (Nat.le_of_ble_eq_true rfl) (Nat.le_of_ble_eq_true rfl) (fun _ => rfl) [] rfl (Nat.le_of_ble_eq_true rfl) dX7_firstDay_46 49 rfl ?_
            refine v_istore hX dX7_firstDay_49 (ltn hn (by decide)) 51 rfl [(5, .int v12), (0, .ref (aX X 27)), (1, .ref (aX X 1)), (2, .int p2), (3, .int x3), (4, .int x4)] rfl ?_
            refine v_iload_n hX dX7_firstDay_51 rfl 4 rfl 52 rfl ?_
            refine v_bipush (v := (-3 : Int32)) hX dX7_firstDay_52 (by decide) 54 rfl ?_
            obtain ⟨J13, hJ13, hf⟩ := jn_x hf
            have HJ13 : J13 = some res → VC X r (lkp g [(29, c1), (28, c2)]) u h [(0, .ref (aX X 27)), (1, .ref (aX X 1)), (2, .int p2), (4, .int x4), (5, .int v12)] [] 63 := by
              intro hf
              rw [hJ13] at hf
              refine v_iload hX dX7_firstDay_63 4 rfl 65 rfl ?_
              refine v_istore_n hX dX7_firstDay_65 rfl (ltn hn (by decide)) 66 rfl [(3, .int v12), (0, .ref (aX X 27)), (1, .ref (aX X 1)), (2, .int p2), (4, .int x4), (5, .int v12)] rfl ?_
              refine v_sub [(0, .ref (aX X 27)), (1, .ref (aX X 1)), (2, .int p2), (3, .int v12), (4, .int x4)] (sbc 1 rfl (sbc 2 rfl (sbc 3 rfl (sbc 0 rfl (sbc 4 rfl sbn))))) ?_
              exact HJ9 _ hf
            refine v_icmp_eq hX dX7_firstDay_54 63 rfl 57 rfl (fun h15 => ?_) (fun h15 => ?_)
            · replace hf := it_p h15 hf
              refine v_sub [(0, .ref (aX X 27)), (1, .ref (aX X 1)), (2, .int p2), (4, .int x4), (5, .int v12)] (sbc 1 rfl (sbc 2 rfl (sbc 3 rfl (sbc 5 rfl (sbc 0 rfl sbn))))) ?_
              exact HJ13  hf
            · replace hf := it_n h15 hf
              refine v_iload hX dX7_firstDay_57 0 rfl 59 rfl ?_
              refine v_iload_n hX dX7_firstDay_59 rfl 4 rfl 60 rfl ?_
              refine v_icmp_ge hX dX7_firstDay_60 66 rfl 63 rfl (fun h14 => ?_) (fun h14 => ?_)
              · replace hf := it_p h14 hf
                refine v_sub [(0, .ref (aX X 27)), (1, .ref (aX X 1)), (2, .int p2), (3, .int x3), (4, .int x4)] (sbc 1 rfl (sbc 2 rfl (sbc 3 rfl (sbc 4 rfl (sbc 5 rfl sbn))))) ?_
                exact HJ9 _ hf
              · replace hf := it_n h14 hf
                refine v_sub [(0, .ref (aX X 27)), (1, .ref (aX X 1)), (2, .int p2), (4, .int x4), (5, .int v12)] (sbc 1 rfl (sbc 2 rfl (sbc 3 rfl (sbc 5 rfl (sbc 0 rfl sbn))))) ?_
                exact HJ13  hf
          · replace hf := it_n h16 hf
            refine v_goto hX dX7_firstDay_40 66 rfl ?_
            exact HJ9 _ hf
  refine v_sub [(0, .ref (aX X 27)), (1, .ref (aX X 1)), (2, .int p2), (3, .int (-3 : Int32)), (4, .int (3 : Int32))] (sbc 2 rfl (sbc 3 rfl (sbc 4 rfl (sbc 1 rfl (sbc 0 rfl sbn))))) ?_
  exact HLK5 _ _ _ hf
set_option maxRecDepth 100000 in
set_option maxHeartbeats 4000000 in
theorem c7_reachFrom (r : Nat → Int32) (g : Nat → Nat → Int32) (u : Nat → Int64) (h : Nat → Nat → Int64) (p2 : Int32) (p3 : Int32) {res : (Nat → Int32)} (hf : f7_reachFrom (r 1) (r 0) (g 6) (g 8) (g 31) p2 p3 = some res) : MAv yX7_reachFrom cX7_reachFrom 7 none 4 (fun a => [.ref (a 27), .ref (a 1), .int p2, .int p3]) r g u h r (lkp g [(31, res)]) u h := by
  refine mi_v (by decide +kernel) (fun a => Nat.le_of_ble_eq_true rfl) (fun X hX hn hR => ?_)
  replace hR : ∀ q : (Nat → Int32), some q = some res → ∀ lv pc, decode cX7_reachFrom pc = .ok (.return_, 1) → VC X r (lkp g [(31, q)]) u h lv [] pc := fun q hq => by cases hq; exact hR
  replace hX : CX X RX7 cX7_reachFrom 4 := hX
  refine v_opg [31] [(31, g 31)] rfl ?_
  show VC X r (lkp g [(31, g 31)]) u h [(0, .ref (aX X 27)), (1, .ref (aX X 1)), (2, .int p2), (3, .int p3)] [] 0
  rw [f7_reachFrom] at hf
  refine v_iconst (v := (0 : Int32)) hX dX7_reachFrom_0 (by decide) 1 rfl ?_
  refine v_istore hX dX7_reachFrom_1 (ltn hn (by decide)) 3 rfl [(4, .int (0 : Int32)), (0, .ref (aX X 27)), (1, .ref (aX X 1)), (2, .int p2), (3, .int p3)] rfl ?_
  obtain ⟨K3, hK3, hf⟩ := jn_x hf
  have HK3 : ∀ (x1 : Int32) (c2 : (Nat → Int32)), K3 x1 c2 = some res → VC X r (lkp g [(31, c2)]) u h [] [] 88 := by
    intro x1 c2 hf
    rw [hK3] at hf
    exact hR _ hf _ _ dX7_reachFrom_88
  have HLK3 : ∀ (n4 : Nat) (x1 : Int32) (c2 : (Nat → Int32)), f7_reachFrom_L3 (r 1) (r 0) (g 6) (g 8) p2 p3 n4 x1 c2 K3 = some res → VC X r (lkp g [(31, c2)]) u h [(0, .ref (aX X 27)), (1, .ref (aX X 1)), (2, .int p2), (3, .int p3), (4, .int x1)] [] 3 := by
    intro n4
    induction n4 with
    | zero => intro x1 c2 hf; exact no_s hf
    | succ n4 ih =>
      intro x1 c2 hf
      rw [f7_reachFrom_L3] at hf
      refine v_iload hX dX7_reachFrom_3 4 rfl 5 rfl ?_
      refine v_aload_n hX dX7_reachFrom_5 rfl 1 rfl 6 rfl ?_
      refine gf_1_6 hX q_598 dX7_reachFrom_6 ((r 1)) rfl 9 rfl ?_
      refine v_icmp_ge hX dX7_reachFrom_9 88 rfl 12 rfl (fun h22 => ?_) (fun h22 => ?_)
      · replace hf := it_p h22 hf
        refine v_sub [] sbn ?_
        exact HK3 _ _ hf
      · replace hf := it_n h22 hf
        refine v_aload_n hX dX7_reachFrom_12 rfl 1 rfl 13 rfl ?_
        refine v_iload hX dX7_reachFrom_13 4 rfl 15 rfl ?_
        refine v_iload_n hX dX7_reachFrom_15 rfl 2 rfl 16 rfl ?_
        obtain ⟨v5, hv5, hf⟩ := bn1_e hf
        refine cv_i hX (c0_isIn r (lkp g [(31, c2)]) u h _ _ hv5) wvX0_isIn q_645 rc_1 (Nat.le_of_ble_eq_true rfl) (Nat.le_of_ble_eq_true rfl) (fun _ => rfl) [] rfl (Nat.le_of_ble_eq_true rfl) dX7_reachFrom_16 19 rfl ?_
        obtain ⟨J6, hJ6, hf⟩ := jn_x hf
        have HJ6 : ∀ (c7 : (Nat → Int32)), J6 c7 = some res → VC X r (lkp g [(31, c7)]) u h [(0, .ref (aX X 27)), (1, .ref (aX X 1)), (2, .int p2), (3, .int p3), (4, .int x1)] [] 82 := by
          intro c7 hf
          rw [hJ6] at hf
          refine v_inc (c := (1 : Int32)) hX dX7_reachFrom_82 4 rfl (by decide) (ltn hn (by decide)) 85 rfl [(4, .int (x1 + (1 : Int32))), (0, .ref (aX X 27)), (1, .ref (aX X 1)), (2, .int p2), (3, .int p3)] rfl ?_
          refine v_goto hX dX7_reachFrom_85 3 rfl ?_
          refine v_sub [(0, .ref (aX X 27)), (1, .ref (aX X 1)), (2, .int p2), (3, .int p3), (4, .int (x1 + (1 : Int32)))] (sbc 1 rfl (sbc 2 rfl (sbc 3 rfl (sbc 4 rfl (sbc 0 rfl sbn))))) ?_
          exact ih _ _ hf
        refine v_if_ne hX dX7_reachFrom_19 25 rfl 22 rfl (fun h21 => ?_) (fun h21 => ?_)
        · replace hf := it_n h21 hf
          refine v_iconst (v := (0 : Int32)) hX dX7_reachFrom_25 (by decide) 26 rfl ?_
          refine v_istore hX dX7_reachFrom_26 (ltn hn (by decide)) 28 rfl [(5, .int (0 : Int32)), (0, .ref (aX X 27)), (1, .ref (aX X 1)), (2, .int p2), (3, .int p3), (4, .int x1)] rfl ?_
          obtain ⟨K10, hK10, hf⟩ := jn_x hf
          have HK10 : ∀ (x8 : Int32) (c9 : (Nat → Int32)), K10 x8 c9 = some res → VC X r (lkp g [(31, c9)]) u h [(0, .ref (aX X 27)), (1, .ref (aX X 1)), (2, .int p2), (3, .int p3), (4, .int x1)] [] 82 := by
            intro x8 c9 hf
            rw [hK10] at hf
            exact HJ6 _ hf
          have HLK10 : ∀ (n11 : Nat) (x8 : Int32) (c9 : (Nat → Int32)), f7_reachFrom_L28 (r 1) (r 0) (g 6) (g 8) p3 x1 n11 x8 c9 K10 = some res → VC X r (lkp g [(31, c9)]) u h [(0, .ref (aX X 27)), (1, .ref (aX X 1)), (2, .int p2), (3, .int p3), (4, .int x1), (5, .int x8)] [] 28 := by
            intro n11
            induction n11 with
            | zero => intro x8 c9 hf; exact no_s hf
            | succ n11 ih =>
              intro x8 c9 hf
              rw [f7_reachFrom_L28] at hf
              refine v_iload hX dX7_reachFrom_28 5 rfl 30 rfl ?_
              refine v_iconst (v := (4 : Int32)) hX dX7_reachFrom_30 (by decide) 31 rfl ?_
              refine v_icmp_ge hX dX7_reachFrom_31 82 rfl 34 rfl (fun h20 => ?_) (fun h20 => ?_)
              · replace hf := it_p h20 hf
                refine v_sub [(0, .ref (aX X 27)), (1, .ref (aX X 1)), (2, .int p2), (3, .int p3), (4, .int x1)] (sbc 0 rfl (sbc 1 rfl (sbc 2 rfl (sbc 3 rfl (sbc 4 rfl sbn))))) ?_
                exact HK10 _ _ hf
              · replace hf := it_n h20 hf
                refine v_aload_n hX dX7_reachFrom_34 rfl 1 rfl 35 rfl ?_
                refine v_iload hX dX7_reachFrom_35 4 rfl 37 rfl ?_
                refine v_iload hX dX7_reachFrom_37 5 rfl 39 rfl ?_
                obtain ⟨v12, hv12, hf⟩ := bn1_e hf
                refine cv_i hX (c0_oneAt r (lkp g [(31, c9)]) u h _ _ hv12) wvX0_oneAt q_565 rc_1 (Nat.le_of_ble_eq_true rfl) (Nat.le_of_ble_eq_true rfl) (fun _ => rfl) [] rfl (Nat.le_of_ble_eq_true rfl) dX7_reachFrom_39 42 rfl ?_
                refine v_istore hX dX7_reachFrom_42 (ltn hn (by decide)) 44 rfl [(6, .int v12), (0, .ref (aX X 27)), (1, .ref (aX X 1)), (2, .int p2), (3, .int p3), (4, .int x1), (5, .int x8)] rfl ?_
                refine v_iload hX dX7_reachFrom_44 0 rfl 46 rfl ?_
                obtain ⟨J13, hJ13, hf⟩ := jn_x hf
                have HJ13 : ∀ (c14 : (Nat → Int32)), J13 c14 = some res → VC X r (lkp g [(31, c14)]) u h [(0, .ref (aX X 27)), (1, .ref (aX X 1)), (2, .int p2), (3, .int p3), (4, .int x1), (5, .int x8)] [] 76 := by
                  intro c14 hf
                  rw [hJ13] at hf
                  refine v_inc (c := (1 : Int32)) hX dX7_reachFrom_76 5 rfl (by decide) (ltn hn (by decide)) 79 rfl [(5, .int (x8 + (1 : Int32))), (0, .ref (aX X 27)), (1, .ref (aX X 1)), (2, .int p2), (3, .int p3), (4, .int x1)] rfl ?_
                  refine v_goto hX dX7_reachFrom_79 28 rfl ?_
                  refine v_sub [(0, .ref (aX X 27)), (1, .ref (aX X 1)), (2, .int p2), (3, .int p3), (4, .int x1), (5, .int (x8 + (1 : Int32)))] (sbc 1 rfl (sbc 2 rfl (sbc 3 rfl (sbc 4 rfl (sbc 5 rfl (sbc 0 rfl sbn)))))) ?_
                  exact ih _ _ hf
                refine v_if_lt hX dX7_reachFrom_46 76 rfl 49 rfl (fun h19 => ?_) (fun h19 => ?_)
                · replace hf := it_p h19 hf
                  refine v_sub [(0, .ref (aX X 27)), (1, .ref (aX X 1)), (2, .int p2), (3, .int p3), (4, .int x1), (5, .int x8)] (sbc 1 rfl (sbc 2 rfl (sbc 3 rfl (sbc 4 rfl (sbc 5 rfl (sbc 6 rfl sbn)))))) ?_
                  exact HJ13 _ hf
                · replace hf := it_n h19 hf
                  refine v_iload hX dX7_reachFrom_49 0 rfl 51 rfl ?_
                  refine v_bipush (v := (10 : Int32)) hX dX7_reachFrom_51 (by decide) 53 rfl ?_
                  refine v_icmp_ge hX dX7_reachFrom_53 76 rfl 56 rfl (fun h18 => ?_) (fun h18 => ?_)
                  · replace hf := it_p h18 hf
                    refine v_sub [(0, .ref (aX X 27)), (1, .ref (aX X 1)), (2, .int p2), (3, .int p3), (4, .int x1), (5, .int x8)] (sbc 1 rfl (sbc 2 rfl (sbc 3 rfl (sbc 4 rfl (sbc 5 rfl (sbc 6 rfl sbn)))))) ?_
                    exact HJ13 _ hf
                  · replace hf := it_n h18 hf
                    refine v_aload_n hX dX7_reachFrom_56 rfl 1 rfl 57 rfl ?_
                    refine gf_27_3 hX q_72 dX7_reachFrom_57 60 rfl ?_
                    refine v_iload hX dX7_reachFrom_60 0 rfl 62 rfl ?_
                    obtain ⟨hi15, hf⟩ := gd_e hf
                    refine al_31 hX hi15 dX7_reachFrom_62 (c9 v12.toNatClampNeg) rfl 63 rfl ?_
                    refine v_bipush (v := (-9 : Int32)) hX dX7_reachFrom_63 (by decide) 65 rfl ?_
                    refine v_icmp_ne hX dX7_reachFrom_65 76 rfl 68 rfl (fun h17 => ?_) (fun h17 => ?_)
                    · replace hf := it_n h17 hf
                      refine v_sub [(0, .ref (aX X 27)), (1, .ref (aX X 1)), (2, .int p2), (3, .int p3), (4, .int x1), (5, .int x8)] (sbc 1 rfl (sbc 2 rfl (sbc 3 rfl (sbc 4 rfl (sbc 5 rfl (sbc 6 rfl sbn)))))) ?_
                      exact HJ13 _ hf
                    · replace hf := it_p h17 hf
                      refine v_aload_n hX dX7_reachFrom_68 rfl 1 rfl 69 rfl ?_
                      refine gf_27_3 hX q_72 dX7_reachFrom_69 72 rfl ?_
                      refine v_iload hX dX7_reachFrom_72 0 rfl 74 rfl ?_
                      refine v_iload_n hX dX7_reachFrom_74 rfl 4 rfl 75 rfl ?_
                      obtain ⟨hi16, hf⟩ := gd_e hf
                      refine as_31 hX hi16 dX7_reachFrom_75 76 rfl c9 rfl [(31, (upd c9 v12.toNatClampNeg p3))] rfl ?_
                      refine v_sub [(0, .ref (aX X 27)), (1, .ref (aX X 1)), (2, .int p2), (3, .int p3), (4, .int x1), (5, .int x8)] (sbc 1 rfl (sbc 2 rfl (sbc 3 rfl (sbc 4 rfl (sbc 5 rfl (sbc 6 rfl sbn)))))) ?_
                      exact HJ13 _ hf
          refine v_sub [(0, .ref (aX X 27)), (1, .ref (aX X 1)), (2, .int p2), (3, .int p3), (4, .int x1), (5, .int (0 : Int32))] (sbc 1 rfl (sbc 2 rfl (sbc 3 rfl (sbc 4 rfl (sbc 5 rfl (sbc 0 rfl sbn)))))) ?_
          exact HLK10 _ _ _ hf
        · replace hf := it_p h21 hf
          refine v_goto hX dX7_reachFrom_22 82 rfl ?_
          exact HJ6 _ hf
  refine v_sub [(0, .ref (aX X 27)), (1, .ref (aX X 1)), (2, .int p2), (3, .int p3), (4, .int (0 : Int32))] (sbc 1 rfl (sbc 2 rfl (sbc 3 rfl (sbc 4 rfl (sbc 0 rfl sbn))))) ?_
  exact HLK3 _ _ _ hf
set_option maxRecDepth 100000 in
set_option maxHeartbeats 4000000 in
theorem c7_stepsBetween (r : Nat → Int32) (g : Nat → Nat → Int32) (u : Nat → Int64) (h : Nat → Nat → Int64) (p2 : Int32) (p3 : Int32) {res : Int32 × (Nat → Int32)} (hf : f7_stepsBetween (r 1) (r 0) (g 5) (g 6) (g 8) (g 31) p2 p3 = some res) : MAi yX7_stepsBetween cX7_stepsBetween 7 (some .int) 5 (fun a => [.ref (a 27), .ref (a 1), .int p2, .int p3]) r g u h res.1 r (lkp g [(31, res.2)]) u h := by
  refine mi_i (by decide +kernel) (fun a => Nat.le_of_ble_eq_true rfl) (fun X hX hn hR => ?_)
  replace hR : ∀ q : Int32 × (Nat → Int32), some q = some res → ∀ lv pc, decode cX7_stepsBetween pc = .ok (.ireturn, 1) → narrow .int (.int q.1) = .int q.1 → VC X r (lkp g [(31, q.2)]) u h lv [.int q.1] pc := fun q hq => by cases hq; exact hR
  replace hX : CX X RX7 cX7_stepsBetween 5 := hX
  refine v_opg [31] [(31, g 31)] rfl ?_
  show VC X r (lkp g [(31, g 31)]) u h [(0, .ref (aX X 27)), (1, .ref (aX X 1)), (2, .int p2), (3, .int p3)] [] 0
  rw [f7_stepsBetween] at hf
  refine v_iload_n hX dX7_stepsBetween_0 rfl 2 rfl 1 rfl ?_
  refine v_iload_n hX dX7_stepsBetween_1 rfl 3 rfl 2 rfl ?_
  refine v_icmp_ne hX dX7_stepsBetween_2 7 rfl 5 rfl (fun h37 => ?_) (fun h37 => ?_)
  · replace hf := it_n h37 hf
    refine v_iconst (v := (0 : Int32)) hX dX7_stepsBetween_7 (by decide) 8 rfl ?_
    refine v_istore hX dX7_stepsBetween_8 (ltn hn (by decide)) 10 rfl [(4, .int (0 : Int32)), (0, .ref (aX X 27)), (1, .ref (aX X 1)), (2, .int p2), (3, .int p3)] rfl ?_
    obtain ⟨K3, hK3, hf⟩ := jn_x hf
    have HK3 : ∀ (x1 : Int32) (c2 : (Nat → Int32)), K3 x1 c2 = some res → VC X r (lkp g [(31, c2)]) u h [(0, .ref (aX X 27)), (1, .ref (aX X 1)), (2, .int p2), (3, .int p3)] [] 42 := by
      intro x1 c2 hf
      rw [hK3] at hf
      refine v_iconst (v := (1 : Int32)) hX dX7_stepsBetween_42 (by decide) 43 rfl ?_
      refine v_istore hX dX7_stepsBetween_43 (ltn hn (by decide)) 45 rfl [(4, .int (1 : Int32)), (0, .ref (aX X 27)), (1, .ref (aX X 1)), (2, .int p2), (3, .int p3)] rfl ?_
      obtain ⟨K12, hK12, hf⟩ := jn_x hf
      have HK12 : ∀ (x10 : Int32) (c11 : (Nat → Int32)), K12 x10 c11 = some res → VC X r (lkp g [(31, c11)]) u h [] [] 150 := by
        intro x10 c11 hf
        rw [hK12] at hf
        refine v_bipush (v := (-3 : Int32)) hX dX7_stepsBetween_150 (by decide) 152 rfl ?_
        exact hR _ hf _ _ dX7_stepsBetween_152 rfl
      have HLK12 : ∀ (n13 : Nat) (x10 : Int32) (c11 : (Nat → Int32)), f7_stepsBetween_L45 (r 1) (r 0) (g 5) (g 6) (g 8) p2 p3 n13 x10 c11 K12 = some res → VC X r (lkp g [(31, c11)]) u h [(0, .ref (aX X 27)), (1, .ref (aX X 1)), (2, .int p2), (3, .int p3), (4, .int x10)] [] 45 := by
        intro n13
        induction n13 with
        | zero => intro x10 c11 hf; exact no_s hf
        | succ n13 ih =>
          intro x10 c11 hf
          rw [f7_stepsBetween_L45] at hf
          refine v_iload hX dX7_stepsBetween_45 4 rfl 47 rfl ?_
          refine v_bipush (v := (10 : Int32)) hX dX7_stepsBetween_47 (by decide) 49 rfl ?_
          refine v_icmp_gt hX dX7_stepsBetween_49 150 rfl 52 rfl (fun h36 => ?_) (fun h36 => ?_)
          · replace hf := it_p h36 hf
            refine v_sub [] sbn ?_
            exact HK12 _ _ hf
          · replace hf := it_n h36 hf
            refine v_iconst (v := (0 : Int32)) hX dX7_stepsBetween_52 (by decide) 53 rfl ?_
            refine v_istore hX dX7_stepsBetween_53 (ltn hn (by decide)) 55 rfl [(5, .int (0 : Int32)), (0, .ref (aX X 27)), (1, .ref (aX X 1)), (2, .int p2), (3, .int p3), (4, .int x10)] rfl ?_
            obtain ⟨K16, hK16, hf⟩ := jn_x hf
            have HK16 : ∀ (x14 : Int32) (c15 : (Nat → Int32)), K16 x14 c15 = some res → VC X r (lkp g [(31, c15)]) u h [(0, .ref (aX X 27)), (1, .ref (aX X 1)), (2, .int p2), (3, .int p3), (4, .int x10)] [] 120 := by
              intro x14 c15 hf
              rw [hK16] at hf
              refine v_iload_n hX dX7_stepsBetween_120 rfl 3 rfl 121 rfl ?_
              obtain ⟨J31, hJ31, hf⟩ := jn_x hf
              have HJ31 : J31 = some res → VC X r (lkp g [(31, c15)]) u h [(0, .ref (aX X 27)), (1, .ref (aX X 1)), (2, .int p2), (3, .int p3), (4, .int x10)] [] 144 := by
                intro hf
                rw [hJ31] at hf
                refine v_inc (c := (1 : Int32)) hX dX7_stepsBetween_144 4 rfl (by decide) (ltn hn (by decide)) 147 rfl [(4, .int (x10 + (1 : Int32))), (0, .ref (aX X 27)), (1, .ref (aX X 1)), (2, .int p2), (3, .int p3)] rfl ?_
                refine v_goto hX dX7_stepsBetween_147 45 rfl ?_
                refine v_sub [(0, .ref (aX X 27)), (1, .ref (aX X 1)), (2, .int p2), (3, .int p3), (4, .int (x10 + (1 : Int32)))] (sbc 1 rfl (sbc 2 rfl (sbc 3 rfl (sbc 4 rfl (sbc 0 rfl sbn))))) ?_
                exact ih _ _ hf
              refine v_if_lt hX dX7_stepsBetween_121 144 rfl 124 rfl (fun h35 => ?_) (fun h35 => ?_)
              · replace hf := it_p h35 hf
                exact HJ31  hf
              · replace hf := it_n h35 hf
                refine v_iload_n hX dX7_stepsBetween_124 rfl 3 rfl 125 rfl ?_
                refine v_bipush (v := (10 : Int32)) hX dX7_stepsBetween_125 (by decide) 127 rfl ?_
                refine v_icmp_ge hX dX7_stepsBetween_127 144 rfl 130 rfl (fun h34 => ?_) (fun h34 => ?_)
                · replace hf := it_p h34 hf
                  exact HJ31  hf
                · replace hf := it_n h34 hf
                  refine v_aload_n hX dX7_stepsBetween_130 rfl 0 rfl 131 rfl ?_
                  refine gf_27_3 hX q_72 dX7_stepsBetween_131 134 rfl ?_
                  refine v_iload_n hX dX7_stepsBetween_134 rfl 3 rfl 135 rfl ?_
                  obtain ⟨hi32, hf⟩ := gd_e hf
                  refine al_31 hX hi32 dX7_stepsBetween_135 (c15 p3.toNatClampNeg) rfl 136 rfl ?_
                  refine v_iload hX dX7_stepsBetween_136 4 rfl 138 rfl ?_
                  refine v_icmp_ne hX dX7_stepsBetween_138 144 rfl 141 rfl (fun h33 => ?_) (fun h33 => ?_)
                  · replace hf := it_n h33 hf
                    exact HJ31  hf
                  · replace hf := it_p h33 hf
                    refine v_iload hX dX7_stepsBetween_141 4 rfl 143 rfl ?_
                    exact hR _ hf _ _ dX7_stepsBetween_143 rfl
            have HLK16 : ∀ (n17 : Nat) (x14 : Int32) (c15 : (Nat → Int32)), f7_stepsBetween_L55 (r 1) (r 0) (g 5) (g 6) (g 8) p2 x10 n17 x14 c15 K16 = some res → VC X r (lkp g [(31, c15)]) u h [(0, .ref (aX X 27)), (1, .ref (aX X 1)), (2, .int p2), (3, .int p3), (4, .int x10), (5, .int x14)] [] 55 := by
              intro n17
              induction n17 with
              | zero => intro x14 c15 hf; exact no_s hf
              | succ n17 ih =>
                intro x14 c15 hf
                rw [f7_stepsBetween_L55] at hf
                refine v_iload hX dX7_stepsBetween_55 5 rfl 57 rfl ?_
                refine v_aload_n hX dX7_stepsBetween_57 rfl 1 rfl 58 rfl ?_
                refine gf_1_2 hX q_640 dX7_stepsBetween_58 ((r 0)) rfl 61 rfl ?_
                refine v_icmp_ge hX dX7_stepsBetween_61 120 rfl 64 rfl (fun h30 => ?_) (fun h30 => ?_)
                · replace hf := it_p h30 hf
                  refine v_sub [(0, .ref (aX X 27)), (1, .ref (aX X 1)), (2, .int p2), (3, .int p3), (4, .int x10)] (sbc 0 rfl (sbc 1 rfl (sbc 2 rfl (sbc 3 rfl (sbc 4 rfl sbn))))) ?_
                  exact HK16 _ _ hf
                · replace hf := it_n h30 hf
                  refine v_iload hX dX7_stepsBetween_64 5 rfl 66 rfl ?_
                  refine v_iload_n hX dX7_stepsBetween_66 rfl 2 rfl 67 rfl ?_
                  obtain ⟨J18, hJ18, hf⟩ := jn_x hf
                  have HJ18 : ∀ (s19 : Int32), J18 s19 = some res → VC X r (lkp g [(31, c15)]) u h [(0, .ref (aX X 27)), (1, .ref (aX X 1)), (2, .int p2), (3, .int p3), (4, .int x10), (5, .int x14)] [.int s19] 84 := by
                    intro s19 hf
                    rw [hJ18] at hf
                    refine v_istore hX dX7_stepsBetween_84 (ltn hn (by decide)) 86 rfl [(6, .int s19), (0, .ref (aX X 27)), (1, .ref (aX X 1)), (2, .int p2), (3, .int p3), (4, .int x10), (5, .int x14)] rfl ?_
                    refine v_aload_n hX dX7_stepsBetween_86 rfl 1 rfl 87 rfl ?_
                    refine gf_27_3 hX q_72 dX7_stepsBetween_87 90 rfl ?_
                    refine v_iload hX dX7_stepsBetween_90 6 rfl 92 rfl ?_
                    obtain ⟨hi20, hf⟩ := gd_e hf
                    refine al_31 hX hi20 dX7_stepsBetween_92 (c15 x14.toNatClampNeg) rfl 93 rfl ?_
                    refine v_iload hX dX7_stepsBetween_93 5 rfl 95 rfl ?_
                    refine v_iconst (v := (1 : Int32)) hX dX7_stepsBetween_95 (by decide) 96 rfl ?_
                    refine v_isub hX dX7_stepsBetween_96 97 rfl ?_
                    obtain ⟨J21, hJ21, hf⟩ := jn_x hf
                    have HJ21 : ∀ (c22 : (Nat → Int32)), J21 c22 = some res → VC X r (lkp g [(31, c22)]) u h [(0, .ref (aX X 27)), (1, .ref (aX X 1)), (2, .int p2), (3, .int p3), (4, .int x10), (5, .int x14)] [] 114 := by
                      intro c22 hf
                      rw [hJ21] at hf
                      refine v_inc (c := (1 : Int32)) hX dX7_stepsBetween_114 5 rfl (by decide) (ltn hn (by decide)) 117 rfl [(5, .int (x14 + (1 : Int32))), (0, .ref (aX X 27)), (1, .ref (aX X 1)), (2, .int p2), (3, .int p3), (4, .int x10)] rfl ?_
                      refine v_goto hX dX7_stepsBetween_117 55 rfl ?_
                      refine v_sub [(0, .ref (aX X 27)), (1, .ref (aX X 1)), (2, .int p2), (3, .int p3), (4, .int x10), (5, .int (x14 + (1 : Int32)))] (sbc 1 rfl (sbc 2 rfl (sbc 3 rfl (sbc 4 rfl (sbc 5 rfl (sbc 0 rfl sbn)))))) ?_
                      exact ih _ _ hf
                    refine v_icmp_ne hX dX7_stepsBetween_97 114 rfl 100 rfl (fun h25 => ?_) (fun h25 => ?_)
                    · replace hf := it_n h25 hf
                      refine v_sub [(0, .ref (aX X 27)), (1, .ref (aX X 1)), (2, .int p2), (3, .int p3), (4, .int x10), (5, .int x14)] (sbc 1 rfl (sbc 2 rfl (sbc 3 rfl (sbc 4 rfl (sbc 5 rfl (sbc 6 rfl sbn)))))) ?_
                      exact HJ21 _ hf
                    · replace hf := it_p h25 hf
                      refine v_iload hX dX7_stepsBetween_100 0 rfl 102 rfl ?_
                      refine v_if_eq hX dX7_stepsBetween_102 114 rfl 105 rfl (fun h24 => ?_) (fun h24 => ?_)
                      · replace hf := it_p h24 hf
                        refine v_sub [(0, .ref (aX X 27)), (1, .ref (aX X 1)), (2, .int p2), (3, .int p3), (4, .int x10), (5, .int x14)] (sbc 1 rfl (sbc 2 rfl (sbc 3 rfl (sbc 4 rfl (sbc 5 rfl (sbc 6 rfl sbn)))))) ?_
                        exact HJ21 _ hf
                      · replace hf := it_n h24 hf
                        refine v_aload_n hX dX7_stepsBetween_105 rfl 1 rfl 106 rfl ?_
                        refine v_aload_n hX dX7_stepsBetween_106 rfl 2 rfl 107 rfl ?_
                        refine v_iload hX dX7_stepsBetween_107 6 rfl 109 rfl ?_
                        refine v_iload hX dX7_stepsBetween_109 5 rfl 111 rfl ?_
                        obtain ⟨c23, hc23, hf⟩ := bn1_e hf
                        refine cv_v hX (c7_reachFrom r (lkp g [(31, c15)]) u h _ _ hc23) wvX7_reachFrom q_641 rc_27 (Nat.le_of_ble_eq_true rfl) (Nat.le_of_ble_eq_true rfl) (fun _ => rfl) [] rfl (Nat.le_of_ble_eq_true rfl) dX7_stepsBetween_111 114 rfl ?_
                        refine v_mgg [(31, c23)] rfl ?_
                        refine v_sub [(0, .ref (aX X 27)), (1, .ref (aX X 1)), (2, .int p2), (3, .int p3), (4, .int x10), (5, .int x14)] (sbc 1 rfl (sbc 2 rfl (sbc 3 rfl (sbc 4 rfl (sbc 5 rfl (sbc 6 rfl sbn)))))) ?_
                        exact HJ21 _ hf
                  obtain ⟨J26, hJ26, hf⟩ := jn_x hf
                  have HJ26 : J26 = some res → VC X r (lkp g [(31, c15)]) u h [(0, .ref (aX X 27)), (1, .ref (aX X 1)), (2, .int p2), (3, .int p3), (4, .int x10), (5, .int x14)] [] 79 := by
                    intro hf
                    rw [hJ26] at hf
                    refine v_iconst (v := (1 : Int32)) hX dX7_stepsBetween_79 (by decide) 80 rfl ?_
                    refine v_goto hX dX7_stepsBetween_80 84 rfl ?_
                    exact HJ18 _ hf
                  refine v_icmp_eq hX dX7_stepsBetween_67 79 rfl 70 rfl (fun h29 => ?_) (fun h29 => ?_)
                  · replace hf := it_p h29 hf
                    exact HJ26  hf
                  · replace hf := it_n h29 hf
                    refine v_aload_n hX dX7_stepsBetween_70 rfl 1 rfl 71 rfl ?_
                    refine v_iload hX dX7_stepsBetween_71 5 rfl 73 rfl ?_
                    obtain ⟨v27, hv27, hf⟩ := bn1_e hf
                    refine cv_i hX (c0_isHub r (lkp g [(31, c15)]) u h _ hv27) wvX0_isHub q_566 rc_1 (Nat.le_of_ble_eq_true rfl) (Nat.le_of_ble_eq_true rfl) (fun _ => rfl) [] rfl (Nat.le_of_ble_eq_true rfl) dX7_stepsBetween_73 76 rfl ?_
                    refine v_if_ne hX dX7_stepsBetween_76 83 rfl 79 rfl (fun h28 => ?_) (fun h28 => ?_)
                    · replace hf := it_n h28 hf
                      refine v_iconst (v := (0 : Int32)) hX dX7_stepsBetween_83 (by decide) 84 rfl ?_
                      exact HJ18 _ hf
                    · replace hf := it_p h28 hf
                      exact HJ26  hf
            refine v_sub [(0, .ref (aX X 27)), (1, .ref (aX X 1)), (2, .int p2), (3, .int p3), (4, .int x10), (5, .int (0 : Int32))] (sbc 1 rfl (sbc 2 rfl (sbc 3 rfl (sbc 4 rfl (sbc 5 rfl (sbc 0 rfl sbn)))))) ?_
            exact HLK16 _ _ _ hf
      refine v_sub [(0, .ref (aX X 27)), (1, .ref (aX X 1)), (2, .int p2), (3, .int p3), (4, .int (1 : Int32))] (sbc 1 rfl (sbc 2 rfl (sbc 3 rfl (sbc 4 rfl (sbc 0 rfl sbn))))) ?_
      exact HLK12 _ _ _ hf
    have HLK3 : ∀ (n4 : Nat) (x1 : Int32) (c2 : (Nat → Int32)), f7_stepsBetween_L10 p2 n4 x1 c2 K3 = some res → VC X r (lkp g [(31, c2)]) u h [(0, .ref (aX X 27)), (1, .ref (aX X 1)), (2, .int p2), (3, .int p3), (4, .int x1)] [] 10 := by
      intro n4
      induction n4 with
      | zero => intro x1 c2 hf; exact no_s hf
      | succ n4 ih =>
        intro x1 c2 hf
        rw [f7_stepsBetween_L10] at hf
        refine v_iload hX dX7_stepsBetween_10 4 rfl 12 rfl ?_
        refine v_bipush (v := (10 : Int32)) hX dX7_stepsBetween_12 (by decide) 14 rfl ?_
        refine v_icmp_ge hX dX7_stepsBetween_14 42 rfl 17 rfl (fun h9 => ?_) (fun h9 => ?_)
        · replace hf := it_p h9 hf
          refine v_sub [(0, .ref (aX X 27)), (1, .ref (aX X 1)), (2, .int p2), (3, .int p3)] (sbc 0 rfl (sbc 1 rfl (sbc 2 rfl (sbc 3 rfl sbn)))) ?_
          exact HK3 _ _ hf
        · replace hf := it_n h9 hf
          refine v_aload_n hX dX7_stepsBetween_17 rfl 0 rfl 18 rfl ?_
          refine gf_27_3 hX q_72 dX7_stepsBetween_18 21 rfl ?_
          refine v_iload hX dX7_stepsBetween_21 4 rfl 23 rfl ?_
          refine v_iload hX dX7_stepsBetween_23 4 rfl 25 rfl ?_
          refine v_iload_n hX dX7_stepsBetween_25 rfl 2 rfl 26 rfl ?_
          obtain ⟨J5, hJ5, hf⟩ := jn_x hf
          have HJ5 : ∀ (s6 : Int32), J5 s6 = some res → VC X r (lkp g [(31, c2)]) u h [(0, .ref (aX X 27)), (1, .ref (aX X 1)), (2, .int p2), (3, .int p3), (4, .int x1)] [.int s6, .int x1, .ref (aX X 31)] 35 := by
            intro s6 hf
            rw [hJ5] at hf
            obtain ⟨hi7, hf⟩ := gd_e hf
            refine as_31 hX hi7 dX7_stepsBetween_35 36 rfl c2 rfl [(31, (upd c2 x1.toNatClampNeg s6))] rfl ?_
            refine v_inc (c := (1 : Int32)) hX dX7_stepsBetween_36 4 rfl (by decide) (ltn hn (by decide)) 39 rfl [(4, .int (x1 + (1 : Int32))), (0, .ref (aX X 27)), (1, .ref (aX X 1)), (2, .int p2), (3, .int p3)] rfl ?_
            refine v_goto hX dX7_stepsBetween_39 10 rfl ?_
            refine v_sub [(0, .ref (aX X 27)), (1, .ref (aX X 1)), (2, .int p2), (3, .int p3), (4, .int (x1 + (1 : Int32)))] (sbc 1 rfl (sbc 2 rfl (sbc 3 rfl (sbc 4 rfl (sbc 0 rfl sbn))))) ?_
            exact ih _ _ hf
          refine v_icmp_ne hX dX7_stepsBetween_26 33 rfl 29 rfl (fun h8 => ?_) (fun h8 => ?_)
          · replace hf := it_n h8 hf
            refine v_bipush (v := (-9 : Int32)) hX dX7_stepsBetween_33 (by decide) 35 rfl ?_
            exact HJ5 _ hf
          · replace hf := it_p h8 hf
            refine v_iconst (v := (0 : Int32)) hX dX7_stepsBetween_29 (by decide) 30 rfl ?_
            refine v_goto hX dX7_stepsBetween_30 35 rfl ?_
            exact HJ5 _ hf
    refine v_sub [(0, .ref (aX X 27)), (1, .ref (aX X 1)), (2, .int p2), (3, .int p3), (4, .int (0 : Int32))] (sbc 1 rfl (sbc 2 rfl (sbc 3 rfl (sbc 4 rfl (sbc 0 rfl sbn))))) ?_
    exact HLK3 _ _ _ hf
  · replace hf := it_p h37 hf
    refine v_iconst (v := (0 : Int32)) hX dX7_stepsBetween_5 (by decide) 6 rfl ?_
    exact hR _ hf _ _ dX7_stepsBetween_6 rfl
