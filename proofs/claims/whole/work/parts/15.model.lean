set_option maxRecDepth 100000 in
set_option maxHeartbeats 4000000 in
theorem c9_in (r : Nat → Int32) (g : Nat → Nat → Int32) (u : Nat → Int64) (h : Nat → Nat → Int64) (p0 : Int32) (p1 : Int32) (p2 : Int32) {res : Int32} (hf : f9_in p0 p1 p2 = some res) : MAi yX9_in cX9_in 3 (some .boolean) 0 (fun a => [.int p0, .int p1, .int p2]) r g u h res r g u h := by
  refine mi_i (by decide +kernel) (fun a => Nat.le_of_ble_eq_true rfl) (fun X hX hn hR => ?_)
  replace hR : ∀ q : Int32, some q = some res → ∀ lv pc, decode cX9_in pc = .ok (.ireturn, 1) → narrow .boolean (.int q) = .int q → VC X r g u h lv [.int q] pc := fun q hq => by cases hq; exact hR
  replace hX : CX X RX9 cX9_in 0 := hX
  show VC X r g u h [(0, .int p0), (1, .int p1), (2, .int p2)] [] 0
  rw [f9_in] at hf
  refine v_iload_n hX dX9_in_0 rfl 0 rfl 1 rfl ?_
  refine v_iload_n hX dX9_in_1 rfl 1 rfl 2 rfl ?_
  refine v_icmp_lt hX dX9_in_2 14 rfl 5 rfl (fun h2 => ?_) (fun h2 => ?_)
  · replace hf := it_p h2 hf
    refine v_iconst (v := (0 : Int32)) hX dX9_in_14 (by decide) 15 rfl ?_
    exact hR _ hf _ _ dX9_in_15 (bz_nar (v := (0 : Int32)) (by decide))
  · replace hf := it_n h2 hf
    refine v_iload_n hX dX9_in_5 rfl 0 rfl 6 rfl ?_
    refine v_iload_n hX dX9_in_6 rfl 2 rfl 7 rfl ?_
    refine v_icmp_gt hX dX9_in_7 14 rfl 10 rfl (fun h1 => ?_) (fun h1 => ?_)
    · replace hf := it_p h1 hf
      refine v_iconst (v := (0 : Int32)) hX dX9_in_14 (by decide) 15 rfl ?_
      exact hR _ hf _ _ dX9_in_15 (bz_nar (v := (0 : Int32)) (by decide))
    · replace hf := it_n h1 hf
      refine v_iconst (v := (1 : Int32)) hX dX9_in_10 (by decide) 11 rfl ?_
      refine v_goto hX dX9_in_11 15 rfl ?_
      exact hR _ hf _ _ dX9_in_15 (bz_nar (v := (1 : Int32)) (by decide))
set_option maxRecDepth 100000 in
set_option maxHeartbeats 4000000 in
theorem c9_isShelf (r : Nat → Int32) (g : Nat → Nat → Int32) (u : Nat → Int64) (h : Nat → Nat → Int64) (p0 : Int32) {res : Int32} (hf : f9_isShelf p0 = some res) : MAi yX9_isShelf cX9_isShelf 1 (some .boolean) 1 (fun a => [.int p0]) r g u h res r g u h := by
  refine mi_i (by decide +kernel) (fun a => Nat.le_of_ble_eq_true rfl) (fun X hX hn hR => ?_)
  replace hR : ∀ q : Int32, some q = some res → ∀ lv pc, decode cX9_isShelf pc = .ok (.ireturn, 1) → narrow .boolean (.int q) = .int q → VC X r g u h lv [.int q] pc := fun q hq => by cases hq; exact hR
  replace hX : CX X RX9 cX9_isShelf 1 := hX
  show VC X r g u h [(0, .int p0)] [] 0
  rw [f9_isShelf] at hf
  refine v_iload_n hX dX9_isShelf_0 rfl 0 rfl 1 rfl ?_
  refine v_iconst (v := (0 : Int32)) hX dX9_isShelf_1 (by decide) 2 rfl ?_
  refine v_iconst (v := (3 : Int32)) hX dX9_isShelf_2 (by decide) 3 rfl ?_
  obtain ⟨v1, hv1, hf⟩ := bn1_e hf
  refine cs_i hX (c9_in r g u h _ _ _ hv1) wvX9_in q_150 (Nat.le_of_ble_eq_true rfl) (Nat.le_of_ble_eq_true rfl) (fun _ => rfl) [] rfl (Nat.le_of_ble_eq_true rfl) dX9_isShelf_3 6 rfl ?_
  obtain ⟨hb2, hf⟩ := gd_e hf
  exact hR _ hf _ _ dX9_isShelf_6 (bz_nar hb2)
set_option maxRecDepth 100000 in
set_option maxHeartbeats 4000000 in
theorem c9_isClaim (r : Nat → Int32) (g : Nat → Nat → Int32) (u : Nat → Int64) (h : Nat → Nat → Int64) (p1 : Int32) {res : Int32} (hf : f9_isClaim (r 31) p1 = some res) : MAi yX9_isClaim cX9_isClaim 2 (some .boolean) 1 (fun a => [.ref (a 52), .int p1]) r g u h res r g u h := by
  refine mi_i (by decide +kernel) (fun a => Nat.le_of_ble_eq_true rfl) (fun X hX hn hR => ?_)
  replace hR : ∀ q : Int32, some q = some res → ∀ lv pc, decode cX9_isClaim pc = .ok (.ireturn, 1) → narrow .boolean (.int q) = .int q → VC X r g u h lv [.int q] pc := fun q hq => by cases hq; exact hR
  replace hX : CX X RX9 cX9_isClaim 1 := hX
  show VC X r g u h [(0, .ref (aX X 52)), (1, .int p1)] [] 0
  rw [f9_isClaim] at hf
  refine v_iload_n hX dX9_isClaim_0 rfl 1 rfl 1 rfl ?_
  refine v_iconst (v := (0 : Int32)) hX dX9_isClaim_1 (by decide) 2 rfl ?_
  refine v_aload_n hX dX9_isClaim_2 rfl 0 rfl 3 rfl ?_
  refine gf_52_5 hX q_462 dX9_isClaim_3 ((r 31)) rfl 6 rfl ?_
  refine v_iconst (v := (1 : Int32)) hX dX9_isClaim_6 (by decide) 7 rfl ?_
  refine v_isub hX dX9_isClaim_7 8 rfl ?_
  obtain ⟨v1, hv1, hf⟩ := bn1_e hf
  refine cs_i hX (c9_in r g u h _ _ _ hv1) wvX9_in q_150 (Nat.le_of_ble_eq_true rfl) (Nat.le_of_ble_eq_true rfl) (fun _ => rfl) [] rfl (Nat.le_of_ble_eq_true rfl) dX9_isClaim_8 11 rfl ?_
  obtain ⟨hb2, hf⟩ := gd_e hf
  exact hR _ hf _ _ dX9_isClaim_11 (bz_nar hb2)
set_option maxRecDepth 100000 in
set_option maxHeartbeats 4000000 in
theorem c9_its (r : Nat → Int32) (g : Nat → Nat → Int32) (u : Nat → Int64) (h : Nat → Nat → Int64) (p1 : Int32) (p2 : Int32) {res : Int32} (hf : f9_its (g 57) p1 p2 = some res) : MAi yX9_its cX9_its 3 (some .int) 0 (fun a => [.ref (a 52), .int p1, .int p2]) r g u h res r g u h := by
  refine mi_i (by decide +kernel) (fun a => Nat.le_of_ble_eq_true rfl) (fun X hX hn hR => ?_)
  replace hR : ∀ q : Int32, some q = some res → ∀ lv pc, decode cX9_its pc = .ok (.ireturn, 1) → narrow .int (.int q) = .int q → VC X r g u h lv [.int q] pc := fun q hq => by cases hq; exact hR
  replace hX : CX X RX9 cX9_its 0 := hX
  show VC X r g u h [(0, .ref (aX X 52)), (1, .int p1), (2, .int p2)] [] 0
  rw [f9_its] at hf
  refine v_aload_n hX dX9_its_0 rfl 0 rfl 1 rfl ?_
  refine gf_52_6 hX q_107 dX9_its_1 4 rfl ?_
  refine v_bipush (v := (11 : Int32)) hX dX9_its_4 (by decide) 6 rfl ?_
  refine v_iload_n hX dX9_its_6 rfl 1 rfl 7 rfl ?_
  refine v_imul hX dX9_its_7 8 rfl ?_
  refine v_iload_n hX dX9_its_8 rfl 2 rfl 9 rfl ?_
  refine v_iadd hX dX9_its_9 10 rfl ?_
  obtain ⟨hi1, hf⟩ := gd_e hf
  refine al_57 hX hi1 dX9_its_10 ((g 57) (((11 : Int32) * p1) + p2).toNatClampNeg) rfl 11 rfl ?_
  exact hR _ hf _ _ dX9_its_11 rfl
set_option maxRecDepth 100000 in
set_option maxHeartbeats 4000000 in
theorem c9_kindOn (r : Nat → Int32) (g : Nat → Nat → Int32) (u : Nat → Int64) (h : Nat → Nat → Int64) (p1 : Int32) {res : Int32} (hf : f9_kindOn (r 31) (g 57) (g 77) (g 78) p1 = some res) : MAi yX9_kindOn cX9_kindOn 2 (some .int) 2 (fun a => [.ref (a 52), .int p1]) r g u h res r g u h := by
  refine mi_i (by decide +kernel) (fun a => Nat.le_of_ble_eq_true rfl) (fun X hX hn hR => ?_)
  replace hR : ∀ q : Int32, some q = some res → ∀ lv pc, decode cX9_kindOn pc = .ok (.ireturn, 1) → narrow .int (.int q) = .int q → VC X r g u h lv [.int q] pc := fun q hq => by cases hq; exact hR
  replace hX : CX X RX9 cX9_kindOn 2 := hX
  show VC X r g u h [(0, .ref (aX X 52)), (1, .int p1)] [] 0
  rw [f9_kindOn] at hf
  refine v_aload_n hX dX9_kindOn_0 rfl 0 rfl 1 rfl ?_
  refine gf_52_43 hX q_128 dX9_kindOn_1 4 rfl ?_
  refine v_iload_n hX dX9_kindOn_4 rfl 1 rfl 5 rfl ?_
  obtain ⟨hi1, hf⟩ := gd_e hf
  refine al_77 hX hi1 dX9_kindOn_5 ((g 77) p1.toNatClampNeg) rfl 6 rfl ?_
  refine v_if_eq hX dX9_kindOn_6 25 rfl 9 rfl (fun h9 => ?_) (fun h9 => ?_)
  · replace hf := it_p h9 hf
    refine v_aload_n hX dX9_kindOn_25 rfl 0 rfl 26 rfl ?_
    refine v_aload_n hX dX9_kindOn_26 rfl 0 rfl 27 rfl ?_
    refine gf_52_44 hX q_129 dX9_kindOn_27 30 rfl ?_
    refine v_iload_n hX dX9_kindOn_30 rfl 1 rfl 31 rfl ?_
    obtain ⟨hi2, hf⟩ := gd_e hf
    refine al_78 hX hi2 dX9_kindOn_31 ((g 78) p1.toNatClampNeg) rfl 32 rfl ?_
    obtain ⟨v3, hv3, hf⟩ := bn1_e hf
    refine cv_i hX (c9_isClaim r g u h _ hv3) wvX9_isClaim q_525 rc_52 (Nat.le_of_ble_eq_true rfl) (Nat.le_of_ble_eq_true rfl) (fun _ => rfl) [] rfl (Nat.le_of_ble_eq_true rfl) dX9_kindOn_32 35 rfl ?_
    refine v_if_eq hX dX9_kindOn_35 52 rfl 38 rfl (fun h6 => ?_) (fun h6 => ?_)
    · replace hf := it_p h6 hf
      refine v_iconst (v := (-1 : Int32)) hX dX9_kindOn_52 (by decide) 53 rfl ?_
      exact hR _ hf _ _ dX9_kindOn_53 rfl
    · replace hf := it_n h6 hf
      refine v_aload_n hX dX9_kindOn_38 rfl 0 rfl 39 rfl ?_
      refine v_aload_n hX dX9_kindOn_39 rfl 0 rfl 40 rfl ?_
      refine gf_52_44 hX q_129 dX9_kindOn_40 43 rfl ?_
      refine v_iload_n hX dX9_kindOn_43 rfl 1 rfl 44 rfl ?_
      obtain ⟨hi4, hf⟩ := gd_e hf
      refine al_78 hX hi4 dX9_kindOn_44 ((g 78) p1.toNatClampNeg) rfl 45 rfl ?_
      refine v_iconst (v := (0 : Int32)) hX dX9_kindOn_45 (by decide) 46 rfl ?_
      obtain ⟨v5, hv5, hf⟩ := bn1_e hf
      refine cv_i hX (c9_its r g u h _ _ hv5) wvX9_its q_471 rc_52 (Nat.le_of_ble_eq_true rfl) (Nat.le_of_ble_eq_true rfl) (fun _ => rfl) [] rfl (Nat.le_of_ble_eq_true rfl) dX9_kindOn_46 49 rfl ?_
      refine v_goto hX dX9_kindOn_49 53 rfl ?_
      exact hR _ hf _ _ dX9_kindOn_53 rfl
  · replace hf := it_n h9 hf
    refine v_aload_n hX dX9_kindOn_9 rfl 0 rfl 10 rfl ?_
    refine gf_52_43 hX q_128 dX9_kindOn_10 13 rfl ?_
    refine v_iload_n hX dX9_kindOn_13 rfl 1 rfl 14 rfl ?_
    obtain ⟨hi7, hf⟩ := gd_e hf
    refine al_77 hX hi7 dX9_kindOn_14 ((g 77) p1.toNatClampNeg) rfl 15 rfl ?_
    refine v_if_ge hX dX9_kindOn_15 22 rfl 18 rfl (fun h8 => ?_) (fun h8 => ?_)
    · replace hf := it_p h8 hf
      refine v_bipush (v := (9 : Int32)) hX dX9_kindOn_22 (by decide) 24 rfl ?_
      exact hR _ hf _ _ dX9_kindOn_24 rfl
    · replace hf := it_n h8 hf
      refine v_iconst (v := (-1 : Int32)) hX dX9_kindOn_18 (by decide) 19 rfl ?_
      refine v_goto hX dX9_kindOn_19 24 rfl ?_
      exact hR _ hf _ _ dX9_kindOn_24 rfl
set_option maxRecDepth 100000 in
set_option maxHeartbeats 4000000 in
theorem c9_ran (r : Nat → Int32) (g : Nat → Nat → Int32) (u : Nat → Int64) (h : Nat → Nat → Int64) (p1 : Int32) {res : Int32 × (Nat → Int32)} (hf : f9_ran (r 49) (g 80) p1 = some res) : MAv yX9_ran cX9_ran 2 none 0 (fun a => [.ref (a 52), .int p1]) r g u h (lkp r [(49, res.1)]) (lkp g [(80, res.2)]) u h := by
  refine mi_v (by decide +kernel) (fun a => Nat.le_of_ble_eq_true rfl) (fun X hX hn hR => ?_)
  replace hR : ∀ q : Int32 × (Nat → Int32), some q = some res → ∀ lv pc, decode cX9_ran pc = .ok (.return_, 1) → VC X (lkp r [(49, q.1)]) (lkp g [(80, q.2)]) u h lv [] pc := fun q hq => by cases hq; exact hR
  replace hX : CX X RX9 cX9_ran 0 := hX
  refine v_opr [49] [(49, r 49)] rfl ?_
  refine v_opg [80] [(80, g 80)] rfl ?_
  show VC X (lkp r [(49, r 49)]) (lkp g [(80, g 80)]) u h [(0, .ref (aX X 52)), (1, .int p1)] [] 0
  rw [f9_ran] at hf
  refine v_aload_n hX dX9_ran_0 rfl 0 rfl 1 rfl ?_
  refine gf_52_50 hX q_1153 dX9_ran_1 ((r 49)) rfl 4 rfl ?_
  refine v_bipush (v := (30 : Int32)) hX dX9_ran_4 (by decide) 6 rfl ?_
  refine v_icmp_ge hX dX9_ran_6 29 rfl 9 rfl (fun h2 => ?_) (fun h2 => ?_)
  · replace hf := it_p h2 hf
    exact hR _ hf _ _ dX9_ran_29
  · replace hf := it_n h2 hf
    refine v_aload_n hX dX9_ran_9 rfl 0 rfl 10 rfl ?_
    refine gf_52_49 hX q_131 dX9_ran_10 13 rfl ?_
    refine v_aload_n hX dX9_ran_13 rfl 0 rfl 14 rfl ?_
    refine gf_52_50 hX q_1153 dX9_ran_14 ((r 49)) rfl 17 rfl ?_
    refine v_iload_n hX dX9_ran_17 rfl 1 rfl 18 rfl ?_
    obtain ⟨hi1, hf⟩ := gd_e hf
    refine as_80 hX hi1 dX9_ran_18 19 rfl (g 80) rfl [(80, (upd (g 80) (r 49).toNatClampNeg p1))] rfl ?_
    refine v_aload_n hX dX9_ran_19 rfl 0 rfl 20 rfl ?_
    refine v_dup hX dX9_ran_20 rfl 21 rfl ?_
    refine gf_52_50 hX q_1153 dX9_ran_21 ((r 49)) rfl 24 rfl ?_
    refine v_iconst (v := (1 : Int32)) hX dX9_ran_24 (by decide) 25 rfl ?_
    refine v_iadd hX dX9_ran_25 26 rfl ?_
    refine pf_52_50 hX q_1153 dX9_ran_26 29 rfl [(49, ((r 49) + (1 : Int32)))] rfl ?_
    exact hR _ hf _ _ dX9_ran_29
set_option maxRecDepth 100000 in
set_option maxHeartbeats 4000000 in
theorem c9_plainHits (r : Nat → Int32) (g : Nat → Nat → Int32) (u : Nat → Int64) (h : Nat → Nat → Int64) (p1 : Int32) {res : Int32 × Int32 × (Nat → Int32)} (hf : f9_plainHits (r 49) (r 47) (g 80) p1 = some res) : MAi yX9_plainHits cX9_plainHits 2 (some .int) 1 (fun a => [.ref (a 52), .int p1]) r g u h res.1 (lkp r [(49, res.2.1)]) (lkp g [(80, res.2.2)]) u h := by
  refine mi_i (by decide +kernel) (fun a => Nat.le_of_ble_eq_true rfl) (fun X hX hn hR => ?_)
  replace hR : ∀ q : Int32 × Int32 × (Nat → Int32), some q = some res → ∀ lv pc, decode cX9_plainHits pc = .ok (.ireturn, 1) → narrow .int (.int q.1) = .int q.1 → VC X (lkp r [(49, q.2.1)]) (lkp g [(80, q.2.2)]) u h lv [.int q.1] pc := fun q hq => by cases hq; exact hR
  replace hX : CX X RX9 cX9_plainHits 1 := hX
  refine v_opr [49] [(49, r 49)] rfl ?_
  refine v_opg [80] [(80, g 80)] rfl ?_
  show VC X (lkp r [(49, r 49)]) (lkp g [(80, g 80)]) u h [(0, .ref (aX X 52)), (1, .int p1)] [] 0
  rw [f9_plainHits] at hf
  refine v_aload_n hX dX9_plainHits_0 rfl 0 rfl 1 rfl ?_
  refine v_bipush (v := (10 : Int32)) hX dX9_plainHits_1 (by decide) 3 rfl ?_
  obtain ⟨c1, c2, hc1, hf⟩ := bn2_e hf
  refine cv_v hX (c9_ran (lkp r [(49, (r 49))]) (lkp g [(80, (g 80))]) u h _ hc1) wvX9_ran q_1166 rc_52 (Nat.le_of_ble_eq_true rfl) (Nat.le_of_ble_eq_true rfl) (fun _ => rfl) [] rfl (Nat.le_of_ble_eq_true rfl) dX9_plainHits_3 6 rfl ?_
  refine v_mgr [(49, c1)] rfl ?_
  refine v_mgg [(80, c2)] rfl ?_
  refine v_iload_n hX dX9_plainHits_6 rfl 1 rfl 7 rfl ?_
  refine v_aload_n hX dX9_plainHits_7 rfl 0 rfl 8 rfl ?_
  refine gf_52_47 hX q_1155 dX9_plainHits_8 ((r 47)) rfl 11 rfl ?_
  refine v_iadd hX dX9_plainHits_11 12 rfl ?_
  exact hR _ hf _ _ dX9_plainHits_12 rfl
set_option maxRecDepth 100000 in
set_option maxHeartbeats 4000000 in
theorem c9_glassHits (r : Nat → Int32) (g : Nat → Nat → Int32) (u : Nat → Int64) (h : Nat → Nat → Int64) (p1 : Int32) {res : Int32 × Int32 × (Nat → Int32)} (hf : f9_glassHits (r 49) (r 47) (g 80) p1 = some res) : MAi yX9_glassHits cX9_glassHits 2 (some .int) 2 (fun a => [.ref (a 52), .int p1]) r g u h res.1 (lkp r [(49, res.2.1)]) (lkp g [(80, res.2.2)]) u h := by
  refine mi_i (by decide +kernel) (fun a => Nat.le_of_ble_eq_true rfl) (fun X hX hn hR => ?_)
  replace hR : ∀ q : Int32 × Int32 × (Nat → Int32), some q = some res → ∀ lv pc, decode cX9_glassHits pc = .ok (.ireturn, 1) → narrow .int (.int q.1) = .int q.1 → VC X (lkp r [(49, q.2.1)]) (lkp g [(80, q.2.2)]) u h lv [.int q.1] pc := fun q hq => by cases hq; exact hR
  replace hX : CX X RX9 cX9_glassHits 2 := hX
  refine v_opr [49] [(49, r 49)] rfl ?_
  refine v_opg [80] [(80, g 80)] rfl ?_
  show VC X (lkp r [(49, r 49)]) (lkp g [(80, g 80)]) u h [(0, .ref (aX X 52)), (1, .int p1)] [] 0
  rw [f9_glassHits] at hf
  refine v_aload_n hX dX9_glassHits_0 rfl 0 rfl 1 rfl ?_
  refine v_bipush (v := (30 : Int32)) hX dX9_glassHits_1 (by decide) 3 rfl ?_
  obtain ⟨c1, c2, hc1, hf⟩ := bn2_e hf
  refine cv_v hX (c9_ran (lkp r [(49, (r 49))]) (lkp g [(80, (g 80))]) u h _ hc1) wvX9_ran q_1166 rc_52 (Nat.le_of_ble_eq_true rfl) (Nat.le_of_ble_eq_true rfl) (fun _ => rfl) [] rfl (Nat.le_of_ble_eq_true rfl) dX9_glassHits_3 6 rfl ?_
  refine v_mgr [(49, c1)] rfl ?_
  refine v_mgg [(80, c2)] rfl ?_
  refine v_aload_n hX dX9_glassHits_6 rfl 0 rfl 7 rfl ?_
  refine v_iload_n hX dX9_glassHits_7 rfl 1 rfl 8 rfl ?_
  obtain ⟨v3, c4, c5, hv3, hf⟩ := bn3_e hf
  refine cv_i hX (c9_plainHits (lkp r [(49, c1)]) (lkp g [(80, c2)]) u h _ hv3) wvX9_plainHits q_1170 rc_52 (Nat.le_of_ble_eq_true rfl) (Nat.le_of_ble_eq_true rfl) (fun _ => rfl) [] rfl (Nat.le_of_ble_eq_true rfl) dX9_glassHits_8 11 rfl ?_
  refine v_mgr [(49, c4)] rfl ?_
  refine v_mgg [(80, c5)] rfl ?_
  refine v_iconst (v := (3 : Int32)) hX dX9_glassHits_11 (by decide) 12 rfl ?_
  refine v_imul hX dX9_glassHits_12 13 rfl ?_
  exact hR _ hf _ _ dX9_glassHits_13 rfl
set_option maxRecDepth 100000 in
set_option maxHeartbeats 4000000 in
theorem c9_hitsIt (r : Nat → Int32) (g : Nat → Nat → Int32) (u : Nat → Int64) (h : Nat → Nat → Int64) (p1 : Int32) {res : Int32 × Int32 × (Nat → Int32)} (hf : f9_hitsIt (r 49) (r 46) (r 47) (g 80) p1 = some res) : MAi yX9_hitsIt cX9_hitsIt 2 (some .int) 3 (fun a => [.ref (a 52), .int p1]) r g u h res.1 (lkp r [(49, res.2.1)]) (lkp g [(80, res.2.2)]) u h := by
  refine mi_i (by decide +kernel) (fun a => Nat.le_of_ble_eq_true rfl) (fun X hX hn hR => ?_)
  replace hR : ∀ q : Int32 × Int32 × (Nat → Int32), some q = some res → ∀ lv pc, decode cX9_hitsIt pc = .ok (.ireturn, 1) → narrow .int (.int q.1) = .int q.1 → VC X (lkp r [(49, q.2.1)]) (lkp g [(80, q.2.2)]) u h lv [.int q.1] pc := fun q hq => by cases hq; exact hR
  replace hX : CX X RX9 cX9_hitsIt 3 := hX
  refine v_opr [49] [(49, r 49)] rfl ?_
  refine v_opg [80] [(80, g 80)] rfl ?_
  show VC X (lkp r [(49, r 49)]) (lkp g [(80, g 80)]) u h [(0, .ref (aX X 52)), (1, .int p1)] [] 0
  rw [f9_hitsIt] at hf
  refine v_aload_n hX dX9_hitsIt_0 rfl 0 rfl 1 rfl ?_
  refine gf_52_46 hX q_1154 dX9_hitsIt_1 ((r 46)) rfl 4 rfl ?_
  rcases Decidable.em ((r 46) = (2 : Int32)) with h1 | h1
  · replace hf := it_p h1 hf
    refine v_tsIn hX dX9_hitsIt_4 (2 : Int32) h1 (by decide) (by decide) (28) (by decide +kernel) 32 rfl ?_
    refine v_aload_n hX dX9_hitsIt_32 rfl 0 rfl 33 rfl ?_
    refine v_iload_n hX dX9_hitsIt_33 rfl 1 rfl 34 rfl ?_
    obtain ⟨v2, c3, c4, hv2, hf⟩ := bn3_e hf
    refine cv_i hX (c9_glassHits (lkp r [(49, (r 49))]) (lkp g [(80, (g 80))]) u h _ hv2) wvX9_glassHits q_1162 rc_52 (Nat.le_of_ble_eq_true rfl) (Nat.le_of_ble_eq_true rfl) (fun _ => rfl) [] rfl (Nat.le_of_ble_eq_true rfl) dX9_hitsIt_34 37 rfl ?_
    refine v_mgr [(49, c3)] rfl ?_
    refine v_mgg [(80, c4)] rfl ?_
    exact hR _ hf _ _ dX9_hitsIt_37 rfl
  · replace hf := it_n h1 hf
    rcases Decidable.em ((r 46) = (3 : Int32)) with h5 | h5
    · replace hf := it_p h5 hf
      refine v_tsIn hX dX9_hitsIt_4 (3 : Int32) h5 (by decide) (by decide) (34) (by decide +kernel) 38 rfl ?_
      refine v_aload_n hX dX9_hitsIt_38 rfl 0 rfl 39 rfl ?_
      refine v_bipush (v := (40 : Int32)) hX dX9_hitsIt_39 (by decide) 41 rfl ?_
      obtain ⟨c6, c7, hc6, hf⟩ := bn2_e hf
      refine cv_v hX (c9_ran (lkp r [(49, (r 49))]) (lkp g [(80, (g 80))]) u h _ hc6) wvX9_ran q_1166 rc_52 (Nat.le_of_ble_eq_true rfl) (Nat.le_of_ble_eq_true rfl) (fun _ => rfl) [] rfl (Nat.le_of_ble_eq_true rfl) dX9_hitsIt_41 44 rfl ?_
      refine v_mgr [(49, c6)] rfl ?_
      refine v_mgg [(80, c7)] rfl ?_
      refine v_iconst (v := (0 : Int32)) hX dX9_hitsIt_44 (by decide) 45 rfl ?_
      refine v_aload_n hX dX9_hitsIt_45 rfl 0 rfl 46 rfl ?_
      refine v_iload_n hX dX9_hitsIt_46 rfl 1 rfl 47 rfl ?_
      obtain ⟨v8, c9, c10, hv8, hf⟩ := bn3_e hf
      refine cv_i hX (c9_plainHits (lkp r [(49, c6)]) (lkp g [(80, c7)]) u h _ hv8) wvX9_plainHits q_1170 rc_52 (Nat.le_of_ble_eq_true rfl) (Nat.le_of_ble_eq_true rfl) (fun _ => rfl) [.int (0 : Int32)] rfl (Nat.le_of_ble_eq_true rfl) dX9_hitsIt_47 50 rfl ?_
      refine v_mgr [(49, c9)] rfl ?_
      refine v_mgg [(80, c10)] rfl ?_
      refine v_isub hX dX9_hitsIt_50 51 rfl ?_
      exact hR _ hf _ _ dX9_hitsIt_51 rfl
    · replace hf := it_n h5 hf
      rcases Decidable.em ((r 46) = (4 : Int32)) with h11 | h11
      · replace hf := it_p h11 hf
        refine v_tsIn hX dX9_hitsIt_4 (4 : Int32) h11 (by decide) (by decide) (48) (by decide +kernel) 52 rfl ?_
        refine v_aload_n hX dX9_hitsIt_52 rfl 0 rfl 53 rfl ?_
        refine v_bipush (v := (51 : Int32)) hX dX9_hitsIt_53 (by decide) 55 rfl ?_
        obtain ⟨c12, c13, hc12, hf⟩ := bn2_e hf
        refine cv_v hX (c9_ran (lkp r [(49, (r 49))]) (lkp g [(80, (g 80))]) u h _ hc12) wvX9_ran q_1166 rc_52 (Nat.le_of_ble_eq_true rfl) (Nat.le_of_ble_eq_true rfl) (fun _ => rfl) [] rfl (Nat.le_of_ble_eq_true rfl) dX9_hitsIt_55 58 rfl ?_
        refine v_mgr [(49, c12)] rfl ?_
        refine v_mgg [(80, c13)] rfl ?_
        refine v_aload_n hX dX9_hitsIt_58 rfl 0 rfl 59 rfl ?_
        refine v_iload_n hX dX9_hitsIt_59 rfl 1 rfl 60 rfl ?_
        obtain ⟨v14, c15, c16, hv14, hf⟩ := bn3_e hf
        refine cv_i hX (c9_glassHits (lkp r [(49, c12)]) (lkp g [(80, c13)]) u h _ hv14) wvX9_glassHits q_1162 rc_52 (Nat.le_of_ble_eq_true rfl) (Nat.le_of_ble_eq_true rfl) (fun _ => rfl) [] rfl (Nat.le_of_ble_eq_true rfl) dX9_hitsIt_60 63 rfl ?_
        refine v_mgr [(49, c15)] rfl ?_
        refine v_mgg [(80, c16)] rfl ?_
        refine v_aload_n hX dX9_hitsIt_63 rfl 0 rfl 64 rfl ?_
        refine gf_52_47 hX q_1155 dX9_hitsIt_64 ((r 47)) rfl 67 rfl ?_
        refine v_isub hX dX9_hitsIt_67 68 rfl ?_
        exact hR _ hf _ _ dX9_hitsIt_68 rfl
      · replace hf := it_n h11 hf
        refine v_tsD hX dX9_hitsIt_4 [2, 3, 4] (sw_c h1 (by decide) (sw_c h5 (by decide) (sw_c h11 (by decide) sw_n))) (by decide) (by decide +kernel) 69 rfl ?_
        refine v_aload_n hX dX9_hitsIt_69 rfl 0 rfl 70 rfl ?_
        refine v_iload_n hX dX9_hitsIt_70 rfl 1 rfl 71 rfl ?_
        obtain ⟨v17, c18, c19, hv17, hf⟩ := bn3_e hf
        refine cv_i hX (c9_plainHits (lkp r [(49, (r 49))]) (lkp g [(80, (g 80))]) u h _ hv17) wvX9_plainHits q_1170 rc_52 (Nat.le_of_ble_eq_true rfl) (Nat.le_of_ble_eq_true rfl) (fun _ => rfl) [] rfl (Nat.le_of_ble_eq_true rfl) dX9_hitsIt_71 74 rfl ?_
        refine v_mgr [(49, c18)] rfl ?_
        refine v_mgg [(80, c19)] rfl ?_
        exact hR _ hf _ _ dX9_hitsIt_74 rfl
set_option maxRecDepth 100000 in
set_option maxHeartbeats 4000000 in
theorem c9_plainPays (r : Nat → Int32) (g : Nat → Nat → Int32) (u : Nat → Int64) (h : Nat → Nat → Int64) (p1 : Int32) {res : Int32 × Int32 × (Nat → Int32)} (hf : f9_plainPays (r 49) (r 46) (r 47) (g 80) p1 = some res) : MAi yX9_plainPays cX9_plainPays 2 (some .int) 4 (fun a => [.ref (a 52), .int p1]) r g u h res.1 (lkp r [(49, res.2.1)]) (lkp g [(80, res.2.2)]) u h := by
  refine mi_i (by decide +kernel) (fun a => Nat.le_of_ble_eq_true rfl) (fun X hX hn hR => ?_)
  replace hR : ∀ q : Int32 × Int32 × (Nat → Int32), some q = some res → ∀ lv pc, decode cX9_plainPays pc = .ok (.ireturn, 1) → narrow .int (.int q.1) = .int q.1 → VC X (lkp r [(49, q.2.1)]) (lkp g [(80, q.2.2)]) u h lv [.int q.1] pc := fun q hq => by cases hq; exact hR
  replace hX : CX X RX9 cX9_plainPays 4 := hX
  refine v_opr [49] [(49, r 49)] rfl ?_
  refine v_opg [80] [(80, g 80)] rfl ?_
  show VC X (lkp r [(49, r 49)]) (lkp g [(80, g 80)]) u h [(0, .ref (aX X 52)), (1, .int p1)] [] 0
  rw [f9_plainPays] at hf
  refine v_aload_n hX dX9_plainPays_0 rfl 0 rfl 1 rfl ?_
  refine v_bipush (v := (11 : Int32)) hX dX9_plainPays_1 (by decide) 3 rfl ?_
  obtain ⟨c1, c2, hc1, hf⟩ := bn2_e hf
  refine cv_v hX (c9_ran (lkp r [(49, (r 49))]) (lkp g [(80, (g 80))]) u h _ hc1) wvX9_ran q_1166 rc_52 (Nat.le_of_ble_eq_true rfl) (Nat.le_of_ble_eq_true rfl) (fun _ => rfl) [] rfl (Nat.le_of_ble_eq_true rfl) dX9_plainPays_3 6 rfl ?_
  refine v_mgr [(49, c1)] rfl ?_
  refine v_mgg [(80, c2)] rfl ?_
  refine v_aload_n hX dX9_plainPays_6 rfl 0 rfl 7 rfl ?_
  refine v_iload_n hX dX9_plainPays_7 rfl 1 rfl 8 rfl ?_
  obtain ⟨v3, c4, c5, hv3, hf⟩ := bn3_e hf
  refine cv_i hX (c9_hitsIt (lkp r [(49, c1)]) (lkp g [(80, c2)]) u h _ hv3) wvX9_hitsIt q_1158 rc_52 (Nat.le_of_ble_eq_true rfl) (Nat.le_of_ble_eq_true rfl) (fun _ => rfl) [] rfl (Nat.le_of_ble_eq_true rfl) dX9_plainPays_8 11 rfl ?_
  refine v_mgr [(49, c4)] rfl ?_
  refine v_mgg [(80, c5)] rfl ?_
  refine v_iconst (v := (2 : Int32)) hX dX9_plainPays_11 (by decide) 12 rfl ?_
  refine v_imul hX dX9_plainPays_12 13 rfl ?_
  exact hR _ hf _ _ dX9_plainPays_13 rfl
set_option maxRecDepth 100000 in
set_option maxHeartbeats 4000000 in
theorem c9_bumpPays (r : Nat → Int32) (g : Nat → Nat → Int32) (u : Nat → Int64) (h : Nat → Nat → Int64) (p1 : Int32) {res : Int32 × Int32 × (Nat → Int32)} (hf : f9_bumpPays (r 49) (r 46) (r 47) (r 48) (g 80) p1 = some res) : MAi yX9_bumpPays cX9_bumpPays 2 (some .int) 5 (fun a => [.ref (a 52), .int p1]) r g u h res.1 (lkp r [(49, res.2.1)]) (lkp g [(80, res.2.2)]) u h := by
  refine mi_i (by decide +kernel) (fun a => Nat.le_of_ble_eq_true rfl) (fun X hX hn hR => ?_)
  replace hR : ∀ q : Int32 × Int32 × (Nat → Int32), some q = some res → ∀ lv pc, decode cX9_bumpPays pc = .ok (.ireturn, 1) → narrow .int (.int q.1) = .int q.1 → VC X (lkp r [(49, q.2.1)]) (lkp g [(80, q.2.2)]) u h lv [.int q.1] pc := fun q hq => by cases hq; exact hR
  replace hX : CX X RX9 cX9_bumpPays 5 := hX
  refine v_opr [49] [(49, r 49)] rfl ?_
  refine v_opg [80] [(80, g 80)] rfl ?_
  show VC X (lkp r [(49, r 49)]) (lkp g [(80, g 80)]) u h [(0, .ref (aX X 52)), (1, .int p1)] [] 0
  rw [f9_bumpPays] at hf
  refine v_aload_n hX dX9_bumpPays_0 rfl 0 rfl 1 rfl ?_
  refine v_bipush (v := (20 : Int32)) hX dX9_bumpPays_1 (by decide) 3 rfl ?_
  obtain ⟨c1, c2, hc1, hf⟩ := bn2_e hf
  refine cv_v hX (c9_ran (lkp r [(49, (r 49))]) (lkp g [(80, (g 80))]) u h _ hc1) wvX9_ran q_1166 rc_52 (Nat.le_of_ble_eq_true rfl) (Nat.le_of_ble_eq_true rfl) (fun _ => rfl) [] rfl (Nat.le_of_ble_eq_true rfl) dX9_bumpPays_3 6 rfl ?_
  refine v_mgr [(49, c1)] rfl ?_
  refine v_mgg [(80, c2)] rfl ?_
  refine v_aload_n hX dX9_bumpPays_6 rfl 0 rfl 7 rfl ?_
  refine v_iload_n hX dX9_bumpPays_7 rfl 1 rfl 8 rfl ?_
  obtain ⟨v3, c4, c5, hv3, hf⟩ := bn3_e hf
  refine cv_i hX (c9_plainPays (lkp r [(49, c1)]) (lkp g [(80, c2)]) u h _ hv3) wvX9_plainPays q_1182 rc_52 (Nat.le_of_ble_eq_true rfl) (Nat.le_of_ble_eq_true rfl) (fun _ => rfl) [] rfl (Nat.le_of_ble_eq_true rfl) dX9_bumpPays_8 11 rfl ?_
  refine v_mgr [(49, c4)] rfl ?_
  refine v_mgg [(80, c5)] rfl ?_
  refine v_aload_n hX dX9_bumpPays_11 rfl 0 rfl 12 rfl ?_
  refine gf_52_48 hX q_1156 dX9_bumpPays_12 ((r 48)) rfl 15 rfl ?_
  refine v_isub hX dX9_bumpPays_15 16 rfl ?_
  exact hR _ hf _ _ dX9_bumpPays_16 rfl
set_option maxRecDepth 100000 in
set_option maxHeartbeats 4000000 in
theorem c9_paysIt (r : Nat → Int32) (g : Nat → Nat → Int32) (u : Nat → Int64) (h : Nat → Nat → Int64) (p1 : Int32) {res : Int32 × Int32 × (Nat → Int32)} (hf : f9_paysIt (r 49) (r 46) (r 47) (r 48) (g 80) p1 = some res) : MAi yX9_paysIt cX9_paysIt 3 (some .int) 6 (fun a => [.ref (a 52), .int p1]) r g u h res.1 (lkp r [(49, res.2.1)]) (lkp g [(80, res.2.2)]) u h := by
  refine mi_i (by decide +kernel) (fun a => Nat.le_of_ble_eq_true rfl) (fun X hX hn hR => ?_)
  replace hR : ∀ q : Int32 × Int32 × (Nat → Int32), some q = some res → ∀ lv pc, decode cX9_paysIt pc = .ok (.ireturn, 1) → narrow .int (.int q.1) = .int q.1 → VC X (lkp r [(49, q.2.1)]) (lkp g [(80, q.2.2)]) u h lv [.int q.1] pc := fun q hq => by cases hq; exact hR
  replace hX : CX X RX9 cX9_paysIt 6 := hX
  refine v_opr [49] [(49, r 49)] rfl ?_
  refine v_opg [80] [(80, g 80)] rfl ?_
  show VC X (lkp r [(49, r 49)]) (lkp g [(80, g 80)]) u h [(0, .ref (aX X 52)), (1, .int p1)] [] 0
  rw [f9_paysIt] at hf
  refine v_aload_n hX dX9_paysIt_0 rfl 0 rfl 1 rfl ?_
  refine gf_52_46 hX q_1154 dX9_paysIt_1 ((r 46)) rfl 4 rfl ?_
  refine v_iconst (v := (3 : Int32)) hX dX9_paysIt_4 (by decide) 5 rfl ?_
  refine v_icmp_ne hX dX9_paysIt_5 31 rfl 8 rfl (fun h16 => ?_) (fun h16 => ?_)
  · replace hf := it_n h16 hf
    refine v_aload_n hX dX9_paysIt_31 rfl 0 rfl 32 rfl ?_
    refine gf_52_46 hX q_1154 dX9_paysIt_32 ((r 46)) rfl 35 rfl ?_
    refine v_iconst (v := (1 : Int32)) hX dX9_paysIt_35 (by decide) 36 rfl ?_
    refine v_icmp_ne hX dX9_paysIt_36 47 rfl 39 rfl (fun h7 => ?_) (fun h7 => ?_)
    · replace hf := it_n h7 hf
      refine v_aload_n hX dX9_paysIt_47 rfl 0 rfl 48 rfl ?_
      refine v_iload_n hX dX9_paysIt_48 rfl 1 rfl 49 rfl ?_
      obtain ⟨v1, c2, c3, hv1, hf⟩ := bn3_e hf
      refine cv_i hX (c9_plainPays (lkp r [(49, (r 49))]) (lkp g [(80, (g 80))]) u h _ hv1) wvX9_plainPays q_1182 rc_52 (Nat.le_of_ble_eq_true rfl) (Nat.le_of_ble_eq_true rfl) (fun _ => rfl) [] rfl (Nat.le_of_ble_eq_true rfl) dX9_paysIt_49 52 rfl ?_
      refine v_mgr [(49, c2)] rfl ?_
      refine v_mgg [(80, c3)] rfl ?_
      exact hR _ hf _ _ dX9_paysIt_52 rfl
    · replace hf := it_p h7 hf
      refine v_aload_n hX dX9_paysIt_39 rfl 0 rfl 40 rfl ?_
      refine v_iload_n hX dX9_paysIt_40 rfl 1 rfl 41 rfl ?_
      obtain ⟨v4, c5, c6, hv4, hf⟩ := bn3_e hf
      refine cv_i hX (c9_bumpPays (lkp r [(49, (r 49))]) (lkp g [(80, (g 80))]) u h _ hv4) wvX9_bumpPays q_1178 rc_52 (Nat.le_of_ble_eq_true rfl) (Nat.le_of_ble_eq_true rfl) (fun _ => rfl) [] rfl (Nat.le_of_ble_eq_true rfl) dX9_paysIt_41 44 rfl ?_
      refine v_mgr [(49, c5)] rfl ?_
      refine v_mgg [(80, c6)] rfl ?_
      refine v_goto hX dX9_paysIt_44 52 rfl ?_
      exact hR _ hf _ _ dX9_paysIt_52 rfl
  · replace hf := it_p h16 hf
    refine v_aload_n hX dX9_paysIt_8 rfl 0 rfl 9 rfl ?_
    refine v_bipush (v := (41 : Int32)) hX dX9_paysIt_9 (by decide) 11 rfl ?_
    obtain ⟨c8, c9, hc8, hf⟩ := bn2_e hf
    refine cv_v hX (c9_ran (lkp r [(49, (r 49))]) (lkp g [(80, (g 80))]) u h _ hc8) wvX9_ran q_1166 rc_52 (Nat.le_of_ble_eq_true rfl) (Nat.le_of_ble_eq_true rfl) (fun _ => rfl) [] rfl (Nat.le_of_ble_eq_true rfl) dX9_paysIt_11 14 rfl ?_
    refine v_mgr [(49, c8)] rfl ?_
    refine v_mgg [(80, c9)] rfl ?_
    refine v_aload_n hX dX9_paysIt_14 rfl 0 rfl 15 rfl ?_
    refine v_iload_n hX dX9_paysIt_15 rfl 1 rfl 16 rfl ?_
    obtain ⟨v10, c11, c12, hv10, hf⟩ := bn3_e hf
    refine cv_i hX (c9_bumpPays (lkp r [(49, c8)]) (lkp g [(80, c9)]) u h _ hv10) wvX9_bumpPays q_1178 rc_52 (Nat.le_of_ble_eq_true rfl) (Nat.le_of_ble_eq_true rfl) (fun _ => rfl) [] rfl (Nat.le_of_ble_eq_true rfl) dX9_paysIt_16 19 rfl ?_
    refine v_mgr [(49, c11)] rfl ?_
    refine v_mgg [(80, c12)] rfl ?_
    refine v_istore_n hX dX9_paysIt_19 rfl (ltn hn (by decide)) 20 rfl [(2, .int v10), (0, .ref (aX X 52)), (1, .int p1)] rfl ?_
    refine v_iload_n hX dX9_paysIt_20 rfl 0 rfl 21 rfl ?_
    refine v_aload_n hX dX9_paysIt_21 rfl 1 rfl 22 rfl ?_
    refine v_aload_n hX dX9_paysIt_22 rfl 1 rfl 23 rfl ?_
    refine gf_52_47 hX q_1155 dX9_paysIt_23 ((r 47)) rfl 26 rfl ?_
    obtain ⟨v13, c14, c15, hv13, hf⟩ := bn3_e hf
    refine cv_i hX (c9_hitsIt (lkp r [(49, c11)]) (lkp g [(80, c12)]) u h _ hv13) wvX9_hitsIt q_1158 rc_52 (Nat.le_of_ble_eq_true rfl) (Nat.le_of_ble_eq_true rfl) (fun _ => rfl) [.int v10] rfl (Nat.le_of_ble_eq_true rfl) dX9_paysIt_26 29 rfl ?_
    refine v_mgr [(49, c14)] rfl ?_
    refine v_mgg [(80, c15)] rfl ?_
    refine v_iadd hX dX9_paysIt_29 30 rfl ?_
    exact hR _ hf _ _ dX9_paysIt_30 rfl
set_option maxRecDepth 100000 in
set_option maxHeartbeats 4000000 in
theorem c9_plainShares (r : Nat → Int32) (g : Nat → Nat → Int32) (u : Nat → Int64) (h : Nat → Nat → Int64) (p1 : Int32) {res : Int32 × Int32 × Int32 × (Nat → Int32)} (hf : f9_plainShares (r 49) (r 50) (r 47) (r 48) (g 80) p1 = some res) : MAi yX9_plainShares cX9_plainShares 2 (some .int) 1 (fun a => [.ref (a 52), .int p1]) r g u h res.1 (lkp r [(49, res.2.1), (50, res.2.2.1)]) (lkp g [(80, res.2.2.2)]) u h := by
  refine mi_i (by decide +kernel) (fun a => Nat.le_of_ble_eq_true rfl) (fun X hX hn hR => ?_)
  replace hR : ∀ q : Int32 × Int32 × Int32 × (Nat → Int32), some q = some res → ∀ lv pc, decode cX9_plainShares pc = .ok (.ireturn, 1) → narrow .int (.int q.1) = .int q.1 → VC X (lkp r [(49, q.2.1), (50, q.2.2.1)]) (lkp g [(80, q.2.2.2)]) u h lv [.int q.1] pc := fun q hq => by cases hq; exact hR
  replace hX : CX X RX9 cX9_plainShares 1 := hX
  refine v_opr [49, 50] [(49, r 49), (50, r 50)] rfl ?_
  refine v_opg [80] [(80, g 80)] rfl ?_
  show VC X (lkp r [(49, r 49), (50, r 50)]) (lkp g [(80, g 80)]) u h [(0, .ref (aX X 52)), (1, .int p1)] [] 0
  rw [f9_plainShares] at hf
  refine v_aload_n hX dX9_plainShares_0 rfl 0 rfl 1 rfl ?_
  refine v_bipush (v := (12 : Int32)) hX dX9_plainShares_1 (by decide) 3 rfl ?_
  obtain ⟨c1, c2, hc1, hf⟩ := bn2_e hf
  refine cv_v hX (c9_ran (lkp r [(49, (r 49)), (50, (r 50))]) (lkp g [(80, (g 80))]) u h _ hc1) wvX9_ran q_1166 rc_52 (Nat.le_of_ble_eq_true rfl) (Nat.le_of_ble_eq_true rfl) (fun _ => rfl) [] rfl (Nat.le_of_ble_eq_true rfl) dX9_plainShares_3 6 rfl ?_
  refine v_mgr [(49, c1), (50, (r 50))] rfl ?_
  refine v_mgg [(80, c2)] rfl ?_
  refine v_aload_n hX dX9_plainShares_6 rfl 0 rfl 7 rfl ?_
  refine gf_52_48 hX q_1156 dX9_plainShares_7 ((r 48)) rfl 10 rfl ?_
  refine v_aload_n hX dX9_plainShares_10 rfl 0 rfl 11 rfl ?_
  refine gf_52_47 hX q_1155 dX9_plainShares_11 ((r 47)) rfl 14 rfl ?_
  refine v_icmp_ne hX dX9_plainShares_14 24 rfl 17 rfl (fun h4 => ?_) (fun h4 => ?_)
  · replace hf := it_n h4 hf
    refine v_iload_n hX dX9_plainShares_24 rfl 1 rfl 25 rfl ?_
    refine v_aload_n hX dX9_plainShares_25 rfl 0 rfl 26 rfl ?_
    refine gf_52_48 hX q_1156 dX9_plainShares_26 ((r 48)) rfl 29 rfl ?_
    refine v_aload_n hX dX9_plainShares_29 rfl 0 rfl 30 rfl ?_
    refine gf_52_47 hX q_1155 dX9_plainShares_30 ((r 47)) rfl 33 rfl ?_
    refine v_isub hX dX9_plainShares_33 34 rfl ?_
    obtain ⟨hz3, hf⟩ := gd_e hf
    refine v_idiv hX dX9_plainShares_34 (of_decide_eq_true hz3) 35 rfl ?_
    exact hR _ hf _ _ dX9_plainShares_35 rfl
  · replace hf := it_p h4 hf
    refine v_aload_n hX dX9_plainShares_17 rfl 0 rfl 18 rfl ?_
    refine v_iconst (v := (1 : Int32)) hX dX9_plainShares_18 (by decide) 19 rfl ?_
    refine pf_52_51 hX q_1157 dX9_plainShares_19 (by decide) 22 rfl [(49, c1), (50, (1 : Int32))] rfl ?_
    refine v_iconst (v := (0 : Int32)) hX dX9_plainShares_22 (by decide) 23 rfl ?_
    exact hR _ hf _ _ dX9_plainShares_23 rfl
set_option maxRecDepth 100000 in
set_option maxHeartbeats 4000000 in
theorem c9_sharesIt (r : Nat → Int32) (g : Nat → Nat → Int32) (u : Nat → Int64) (h : Nat → Nat → Int64) (p1 : Int32) {res : Int32 × Int32 × Int32 × (Nat → Int32)} (hf : f9_sharesIt (r 49) (r 50) (r 46) (r 47) (r 48) (g 80) p1 = some res) : MAi yX9_sharesIt cX9_sharesIt 3 (some .int) 4 (fun a => [.ref (a 52), .int p1]) r g u h res.1 (lkp r [(49, res.2.1), (50, res.2.2.1)]) (lkp g [(80, res.2.2.2)]) u h := by
  refine mi_i (by decide +kernel) (fun a => Nat.le_of_ble_eq_true rfl) (fun X hX hn hR => ?_)
  replace hR : ∀ q : Int32 × Int32 × Int32 × (Nat → Int32), some q = some res → ∀ lv pc, decode cX9_sharesIt pc = .ok (.ireturn, 1) → narrow .int (.int q.1) = .int q.1 → VC X (lkp r [(49, q.2.1), (50, q.2.2.1)]) (lkp g [(80, q.2.2.2)]) u h lv [.int q.1] pc := fun q hq => by cases hq; exact hR
  replace hX : CX X RX9 cX9_sharesIt 4 := hX
  refine v_opr [49, 50] [(49, r 49), (50, r 50)] rfl ?_
  refine v_opg [80] [(80, g 80)] rfl ?_
  show VC X (lkp r [(49, r 49), (50, r 50)]) (lkp g [(80, g 80)]) u h [(0, .ref (aX X 52)), (1, .int p1)] [] 0
  rw [f9_sharesIt] at hf
  refine v_aload_n hX dX9_sharesIt_0 rfl 0 rfl 1 rfl ?_
  refine gf_52_46 hX q_1154 dX9_sharesIt_1 ((r 46)) rfl 4 rfl ?_
  refine v_iconst (v := (4 : Int32)) hX dX9_sharesIt_4 (by decide) 5 rfl ?_
  refine v_icmp_ne hX dX9_sharesIt_5 24 rfl 8 rfl (fun h22 => ?_) (fun h22 => ?_)
  · replace hf := it_n h22 hf
    refine v_aload_n hX dX9_sharesIt_24 rfl 0 rfl 25 rfl ?_
    refine gf_52_46 hX q_1154 dX9_sharesIt_25 ((r 46)) rfl 28 rfl ?_
    refine v_iconst (v := (5 : Int32)) hX dX9_sharesIt_28 (by decide) 29 rfl ?_
    refine v_icmp_ne hX dX9_sharesIt_29 66 rfl 32 rfl (fun h15 => ?_) (fun h15 => ?_)
    · replace hf := it_n h15 hf
      refine v_aload_n hX dX9_sharesIt_66 rfl 0 rfl 67 rfl ?_
      refine v_iload_n hX dX9_sharesIt_67 rfl 1 rfl 68 rfl ?_
      obtain ⟨v1, c2, c3, c4, hv1, hf⟩ := bn4_e hf
      refine cv_i hX (c9_plainShares (lkp r [(49, (r 49)), (50, (r 50))]) (lkp g [(80, (g 80))]) u h _ hv1) wvX9_plainShares q_1190 rc_52 (Nat.le_of_ble_eq_true rfl) (Nat.le_of_ble_eq_true rfl) (fun _ => rfl) [] rfl (Nat.le_of_ble_eq_true rfl) dX9_sharesIt_68 71 rfl ?_
      refine v_mgr [(49, c2), (50, c3)] rfl ?_
      refine v_mgg [(80, c4)] rfl ?_
      exact hR _ hf _ _ dX9_sharesIt_71 rfl
    · replace hf := it_p h15 hf
      refine v_aload_n hX dX9_sharesIt_32 rfl 0 rfl 33 rfl ?_
      refine v_bipush (v := (61 : Int32)) hX dX9_sharesIt_33 (by decide) 35 rfl ?_
      obtain ⟨c5, c6, hc5, hf⟩ := bn2_e hf
      refine cv_v hX (c9_ran (lkp r [(49, (r 49)), (50, (r 50))]) (lkp g [(80, (g 80))]) u h _ hc5) wvX9_ran q_1166 rc_52 (Nat.le_of_ble_eq_true rfl) (Nat.le_of_ble_eq_true rfl) (fun _ => rfl) [] rfl (Nat.le_of_ble_eq_true rfl) dX9_sharesIt_35 38 rfl ?_
      refine v_mgr [(49, c5), (50, (r 50))] rfl ?_
      refine v_mgg [(80, c6)] rfl ?_
      refine v_aload_n hX dX9_sharesIt_38 rfl 0 rfl 39 rfl ?_
      refine v_iload_n hX dX9_sharesIt_39 rfl 1 rfl 40 rfl ?_
      obtain ⟨v7, c8, c9, c10, hv7, hf⟩ := bn4_e hf
      refine cv_i hX (c9_plainShares (lkp r [(49, c5), (50, (r 50))]) (lkp g [(80, c6)]) u h _ hv7) wvX9_plainShares q_1190 rc_52 (Nat.le_of_ble_eq_true rfl) (Nat.le_of_ble_eq_true rfl) (fun _ => rfl) [] rfl (Nat.le_of_ble_eq_true rfl) dX9_sharesIt_40 43 rfl ?_
      refine v_mgr [(49, c8), (50, c9)] rfl ?_
      refine v_mgg [(80, c10)] rfl ?_
      refine v_istore_n hX dX9_sharesIt_43 rfl (ltn hn (by decide)) 44 rfl [(2, .int v7), (0, .ref (aX X 52)), (1, .int p1)] rfl ?_
      refine v_aload_n hX dX9_sharesIt_44 rfl 1 rfl 45 rfl ?_
      refine gf_52_51 hX q_1157 dX9_sharesIt_45 (c9) rfl 48 rfl ?_
      refine v_if_eq hX dX9_sharesIt_48 55 rfl 51 rfl (fun h14 => ?_) (fun h14 => ?_)
      · replace hf := it_p h14 hf
        refine v_iload_n hX dX9_sharesIt_55 rfl 0 rfl 56 rfl ?_
        refine v_aload_n hX dX9_sharesIt_56 rfl 1 rfl 57 rfl ?_
        refine v_aload_n hX dX9_sharesIt_57 rfl 1 rfl 58 rfl ?_
        refine gf_52_48 hX q_1156 dX9_sharesIt_58 ((r 48)) rfl 61 rfl ?_
        obtain ⟨v11, c12, c13, hv11, hf⟩ := bn3_e hf
        refine cv_i hX (c9_hitsIt (lkp r [(49, c8), (50, c9)]) (lkp g [(80, c10)]) u h _ hv11) wvX9_hitsIt q_1158 rc_52 (Nat.le_of_ble_eq_true rfl) (Nat.le_of_ble_eq_true rfl) (fun _ => rfl) [.int v7] rfl (Nat.le_of_ble_eq_true rfl) dX9_sharesIt_61 64 rfl ?_
        refine v_mgr [(49, c12), (50, c9)] rfl ?_
        refine v_mgg [(80, c13)] rfl ?_
        refine v_iadd hX dX9_sharesIt_64 65 rfl ?_
        exact hR _ hf _ _ dX9_sharesIt_65 rfl
      · replace hf := it_n h14 hf
        refine v_iconst (v := (0 : Int32)) hX dX9_sharesIt_51 (by decide) 52 rfl ?_
        refine v_goto hX dX9_sharesIt_52 65 rfl ?_
        exact hR _ hf _ _ dX9_sharesIt_65 rfl
  · replace hf := it_p h22 hf
    refine v_aload_n hX dX9_sharesIt_8 rfl 0 rfl 9 rfl ?_
    refine v_bipush (v := (50 : Int32)) hX dX9_sharesIt_9 (by decide) 11 rfl ?_
    obtain ⟨c16, c17, hc16, hf⟩ := bn2_e hf
    refine cv_v hX (c9_ran (lkp r [(49, (r 49)), (50, (r 50))]) (lkp g [(80, (g 80))]) u h _ hc16) wvX9_ran q_1166 rc_52 (Nat.le_of_ble_eq_true rfl) (Nat.le_of_ble_eq_true rfl) (fun _ => rfl) [] rfl (Nat.le_of_ble_eq_true rfl) dX9_sharesIt_11 14 rfl ?_
    refine v_mgr [(49, c16), (50, (r 50))] rfl ?_
    refine v_mgg [(80, c17)] rfl ?_
    refine v_aload_n hX dX9_sharesIt_14 rfl 0 rfl 15 rfl ?_
    refine v_iload_n hX dX9_sharesIt_15 rfl 1 rfl 16 rfl ?_
    refine v_iconst (v := (2 : Int32)) hX dX9_sharesIt_16 (by decide) 17 rfl ?_
    refine v_iadd hX dX9_sharesIt_17 18 rfl ?_
    obtain ⟨v18, c19, c20, c21, hv18, hf⟩ := bn4_e hf
    refine cv_i hX (c9_plainShares (lkp r [(49, c16), (50, (r 50))]) (lkp g [(80, c17)]) u h _ hv18) wvX9_plainShares q_1190 rc_52 (Nat.le_of_ble_eq_true rfl) (Nat.le_of_ble_eq_true rfl) (fun _ => rfl) [] rfl (Nat.le_of_ble_eq_true rfl) dX9_sharesIt_18 21 rfl ?_
    refine v_mgr [(49, c19), (50, c20)] rfl ?_
    refine v_mgg [(80, c21)] rfl ?_
    refine v_iconst (v := (1 : Int32)) hX dX9_sharesIt_21 (by decide) 22 rfl ?_
    refine v_ixor hX dX9_sharesIt_22 23 rfl ?_
    exact hR _ hf _ _ dX9_sharesIt_23 rfl
set_option maxRecDepth 100000 in
set_option maxHeartbeats 4000000 in
theorem c9_plainTells (r : Nat → Int32) (g : Nat → Nat → Int32) (u : Nat → Int64) (h : Nat → Nat → Int64) (p1 : Int32) {res : Int32 × Int32 × (Nat → Int32)} (hf : f9_plainTells (r 49) (r 46) (r 47) (r 48) (g 80) p1 = some res) : MAi yX9_plainTells cX9_plainTells 2 (some .int) 7 (fun a => [.ref (a 52), .int p1]) r g u h res.1 (lkp r [(49, res.2.1)]) (lkp g [(80, res.2.2)]) u h := by
  refine mi_i (by decide +kernel) (fun a => Nat.le_of_ble_eq_true rfl) (fun X hX hn hR => ?_)
  replace hR : ∀ q : Int32 × Int32 × (Nat → Int32), some q = some res → ∀ lv pc, decode cX9_plainTells pc = .ok (.ireturn, 1) → narrow .int (.int q.1) = .int q.1 → VC X (lkp r [(49, q.2.1)]) (lkp g [(80, q.2.2)]) u h lv [.int q.1] pc := fun q hq => by cases hq; exact hR
  replace hX : CX X RX9 cX9_plainTells 7 := hX
  refine v_opr [49] [(49, r 49)] rfl ?_
  refine v_opg [80] [(80, g 80)] rfl ?_
  show VC X (lkp r [(49, r 49)]) (lkp g [(80, g 80)]) u h [(0, .ref (aX X 52)), (1, .int p1)] [] 0
  rw [f9_plainTells] at hf
  refine v_aload_n hX dX9_plainTells_0 rfl 0 rfl 1 rfl ?_
  refine v_bipush (v := (13 : Int32)) hX dX9_plainTells_1 (by decide) 3 rfl ?_
  obtain ⟨c1, c2, hc1, hf⟩ := bn2_e hf
  refine cv_v hX (c9_ran (lkp r [(49, (r 49))]) (lkp g [(80, (g 80))]) u h _ hc1) wvX9_ran q_1166 rc_52 (Nat.le_of_ble_eq_true rfl) (Nat.le_of_ble_eq_true rfl) (fun _ => rfl) [] rfl (Nat.le_of_ble_eq_true rfl) dX9_plainTells_3 6 rfl ?_
  refine v_mgr [(49, c1)] rfl ?_
  refine v_mgg [(80, c2)] rfl ?_
  refine v_aload_n hX dX9_plainTells_6 rfl 0 rfl 7 rfl ?_
  refine v_iload_n hX dX9_plainTells_7 rfl 1 rfl 8 rfl ?_
  obtain ⟨v3, c4, c5, hv3, hf⟩ := bn3_e hf
  refine cv_i hX (c9_paysIt (lkp r [(49, c1)]) (lkp g [(80, c2)]) u h _ hv3) wvX9_paysIt q_1174 rc_52 (Nat.le_of_ble_eq_true rfl) (Nat.le_of_ble_eq_true rfl) (fun _ => rfl) [] rfl (Nat.le_of_ble_eq_true rfl) dX9_plainTells_8 11 rfl ?_
  refine v_mgr [(49, c4)] rfl ?_
  refine v_mgg [(80, c5)] rfl ?_
  refine v_aload_n hX dX9_plainTells_11 rfl 0 rfl 12 rfl ?_
  refine gf_52_48 hX q_1156 dX9_plainTells_12 ((r 48)) rfl 15 rfl ?_
  refine v_ixor hX dX9_plainTells_15 16 rfl ?_
  exact hR _ hf _ _ dX9_plainTells_16 rfl
set_option maxRecDepth 100000 in
set_option maxHeartbeats 4000000 in
theorem c9_tellsIt (r : Nat → Int32) (g : Nat → Nat → Int32) (u : Nat → Int64) (h : Nat → Nat → Int64) (p1 : Int32) {res : Int32 × Int32 × Int32 × (Nat → Int32)} (hf : f9_tellsIt (r 49) (r 50) (r 46) (r 47) (r 48) (g 80) p1 = some res) : MAi yX9_tellsIt cX9_tellsIt 3 (some .int) 8 (fun a => [.ref (a 52), .int p1]) r g u h res.1 (lkp r [(49, res.2.1), (50, res.2.2.1)]) (lkp g [(80, res.2.2.2)]) u h := by
  refine mi_i (by decide +kernel) (fun a => Nat.le_of_ble_eq_true rfl) (fun X hX hn hR => ?_)
  replace hR : ∀ q : Int32 × Int32 × Int32 × (Nat → Int32), some q = some res → ∀ lv pc, decode cX9_tellsIt pc = .ok (.ireturn, 1) → narrow .int (.int q.1) = .int q.1 → VC X (lkp r [(49, q.2.1), (50, q.2.2.1)]) (lkp g [(80, q.2.2.2)]) u h lv [.int q.1] pc := fun q hq => by cases hq; exact hR
  replace hX : CX X RX9 cX9_tellsIt 8 := hX
  refine v_opr [49, 50] [(49, r 49), (50, r 50)] rfl ?_
  refine v_opg [80] [(80, g 80)] rfl ?_
  show VC X (lkp r [(49, r 49), (50, r 50)]) (lkp g [(80, g 80)]) u h [(0, .ref (aX X 52)), (1, .int p1)] [] 0
  rw [f9_tellsIt] at hf
  refine v_aload_n hX dX9_tellsIt_0 rfl 0 rfl 1 rfl ?_
  refine gf_52_46 hX q_1154 dX9_tellsIt_1 ((r 46)) rfl 4 rfl ?_
  refine v_iconst (v := (2 : Int32)) hX dX9_tellsIt_4 (by decide) 5 rfl ?_
  obtain ⟨J1, hJ1, hf⟩ := jn_x hf
  have HJ1 : J1 = some res → VC X (lkp r [(49, (r 49)), (50, (r 50))]) (lkp g [(80, (g 80))]) u h [(0, .ref (aX X 52)), (1, .int p1)] [] 16 := by
    intro hf
    rw [hJ1] at hf
    refine v_aload_n hX dX9_tellsIt_16 rfl 0 rfl 17 rfl ?_
    refine v_bipush (v := (31 : Int32)) hX dX9_tellsIt_17 (by decide) 19 rfl ?_
    obtain ⟨c2, c3, hc2, hf⟩ := bn2_e hf
    refine cv_v hX (c9_ran (lkp r [(49, (r 49)), (50, (r 50))]) (lkp g [(80, (g 80))]) u h _ hc2) wvX9_ran q_1166 rc_52 (Nat.le_of_ble_eq_true rfl) (Nat.le_of_ble_eq_true rfl) (fun _ => rfl) [] rfl (Nat.le_of_ble_eq_true rfl) dX9_tellsIt_19 22 rfl ?_
    refine v_mgr [(49, c2), (50, (r 50))] rfl ?_
    refine v_mgg [(80, c3)] rfl ?_
    refine v_aload_n hX dX9_tellsIt_22 rfl 0 rfl 23 rfl ?_
    refine v_iload_n hX dX9_tellsIt_23 rfl 1 rfl 24 rfl ?_
    obtain ⟨v4, c5, c6, hv4, hf⟩ := bn3_e hf
    refine cv_i hX (c9_plainTells (lkp r [(49, c2), (50, (r 50))]) (lkp g [(80, c3)]) u h _ hv4) wvX9_plainTells q_1198 rc_52 (Nat.le_of_ble_eq_true rfl) (Nat.le_of_ble_eq_true rfl) (fun _ => rfl) [] rfl (Nat.le_of_ble_eq_true rfl) dX9_tellsIt_24 27 rfl ?_
    refine v_mgr [(49, c5), (50, (r 50))] rfl ?_
    refine v_mgg [(80, c6)] rfl ?_
    refine v_istore_n hX dX9_tellsIt_27 rfl (ltn hn (by decide)) 28 rfl [(2, .int v4), (0, .ref (aX X 52)), (1, .int p1)] rfl ?_
    refine v_iload_n hX dX9_tellsIt_28 rfl 0 rfl 29 rfl ?_
    refine v_aload_n hX dX9_tellsIt_29 rfl 1 rfl 30 rfl ?_
    refine v_aload_n hX dX9_tellsIt_30 rfl 1 rfl 31 rfl ?_
    refine gf_52_47 hX q_1155 dX9_tellsIt_31 ((r 47)) rfl 34 rfl ?_
    obtain ⟨v7, c8, c9, c10, hv7, hf⟩ := bn4_e hf
    refine cv_i hX (c9_sharesIt (lkp r [(49, c5), (50, (r 50))]) (lkp g [(80, c6)]) u h _ hv7) wvX9_sharesIt q_1186 rc_52 (Nat.le_of_ble_eq_true rfl) (Nat.le_of_ble_eq_true rfl) (fun _ => rfl) [.int v4] rfl (Nat.le_of_ble_eq_true rfl) dX9_tellsIt_34 37 rfl ?_
    refine v_mgr [(49, c8), (50, c9)] rfl ?_
    refine v_mgg [(80, c10)] rfl ?_
    refine v_iadd hX dX9_tellsIt_37 38 rfl ?_
    exact hR _ hf _ _ dX9_tellsIt_38 rfl
  refine v_icmp_eq hX dX9_tellsIt_5 16 rfl 8 rfl (fun h21 => ?_) (fun h21 => ?_)
  · replace hf := it_p h21 hf
    exact HJ1  hf
  · replace hf := it_n h21 hf
    refine v_aload_n hX dX9_tellsIt_8 rfl 0 rfl 9 rfl ?_
    refine gf_52_46 hX q_1154 dX9_tellsIt_9 ((r 46)) rfl 12 rfl ?_
    refine v_iconst (v := (4 : Int32)) hX dX9_tellsIt_12 (by decide) 13 rfl ?_
    refine v_icmp_ne hX dX9_tellsIt_13 39 rfl 16 rfl (fun h20 => ?_) (fun h20 => ?_)
    · replace hf := it_n h20 hf
      refine v_aload_n hX dX9_tellsIt_39 rfl 0 rfl 40 rfl ?_
      refine gf_52_46 hX q_1154 dX9_tellsIt_40 ((r 46)) rfl 43 rfl ?_
      refine v_iconst (v := (5 : Int32)) hX dX9_tellsIt_43 (by decide) 44 rfl ?_
      refine v_icmp_ne hX dX9_tellsIt_44 61 rfl 47 rfl (fun h19 => ?_) (fun h19 => ?_)
      · replace hf := it_n h19 hf
        refine v_aload_n hX dX9_tellsIt_61 rfl 0 rfl 62 rfl ?_
        refine v_iload_n hX dX9_tellsIt_62 rfl 1 rfl 63 rfl ?_
        obtain ⟨v11, c12, c13, hv11, hf⟩ := bn3_e hf
        refine cv_i hX (c9_plainTells (lkp r [(49, (r 49)), (50, (r 50))]) (lkp g [(80, (g 80))]) u h _ hv11) wvX9_plainTells q_1198 rc_52 (Nat.le_of_ble_eq_true rfl) (Nat.le_of_ble_eq_true rfl) (fun _ => rfl) [] rfl (Nat.le_of_ble_eq_true rfl) dX9_tellsIt_63 66 rfl ?_
        refine v_mgr [(49, c12), (50, (r 50))] rfl ?_
        refine v_mgg [(80, c13)] rfl ?_
        exact hR _ hf _ _ dX9_tellsIt_66 rfl
      · replace hf := it_p h19 hf
        refine v_aload_n hX dX9_tellsIt_47 rfl 0 rfl 48 rfl ?_
        refine v_bipush (v := (60 : Int32)) hX dX9_tellsIt_48 (by decide) 50 rfl ?_
        obtain ⟨c14, c15, hc14, hf⟩ := bn2_e hf
        refine cv_v hX (c9_ran (lkp r [(49, (r 49)), (50, (r 50))]) (lkp g [(80, (g 80))]) u h _ hc14) wvX9_ran q_1166 rc_52 (Nat.le_of_ble_eq_true rfl) (Nat.le_of_ble_eq_true rfl) (fun _ => rfl) [] rfl (Nat.le_of_ble_eq_true rfl) dX9_tellsIt_50 53 rfl ?_
        refine v_mgr [(49, c14), (50, (r 50))] rfl ?_
        refine v_mgg [(80, c15)] rfl ?_
        refine v_aload_n hX dX9_tellsIt_53 rfl 0 rfl 54 rfl ?_
        refine v_iload_n hX dX9_tellsIt_54 rfl 1 rfl 55 rfl ?_
        obtain ⟨v16, c17, c18, hv16, hf⟩ := bn3_e hf
        refine cv_i hX (c9_plainTells (lkp r [(49, c14), (50, (r 50))]) (lkp g [(80, c15)]) u h _ hv16) wvX9_plainTells q_1198 rc_52 (Nat.le_of_ble_eq_true rfl) (Nat.le_of_ble_eq_true rfl) (fun _ => rfl) [] rfl (Nat.le_of_ble_eq_true rfl) dX9_tellsIt_55 58 rfl ?_
        refine v_mgr [(49, c17), (50, (r 50))] rfl ?_
        refine v_mgg [(80, c18)] rfl ?_
        refine v_iconst (v := (2 : Int32)) hX dX9_tellsIt_58 (by decide) 59 rfl ?_
        refine v_imul hX dX9_tellsIt_59 60 rfl ?_
        exact hR _ hf _ _ dX9_tellsIt_60 rfl
    · replace hf := it_p h20 hf
      exact HJ1  hf
set_option maxRecDepth 100000 in
set_option maxHeartbeats 4000000 in
theorem c9_act (r : Nat → Int32) (g : Nat → Nat → Int32) (u : Nat → Int64) (h : Nat → Nat → Int64) (p1 : Int32) (p2 : Int32) (p3 : Int32) {res : Int32 × Int32 × Int32 × Int32 × Int32 × Int32 × (Nat → Int32)} (hf : f9_act (r 49) (r 31) (r 50) (r 46) (r 47) (r 48) (g 57) (g 77) (g 78) (g 80) p1 p2 p3 = some res) : MAi yX9_act cX9_act 6 (some .int) 9 (fun a => [.ref (a 52), .int p1, .int p2, .int p3]) r g u h res.1 (lkp r [(49, res.2.1), (50, res.2.2.1), (46, res.2.2.2.1), (47, res.2.2.2.2.1), (48, res.2.2.2.2.2.1)]) (lkp g [(80, res.2.2.2.2.2.2)]) u h := by
  refine mi_i (by decide +kernel) (fun a => Nat.le_of_ble_eq_true rfl) (fun X hX hn hR => ?_)
  replace hR : ∀ q : Int32 × Int32 × Int32 × Int32 × Int32 × Int32 × (Nat → Int32), some q = some res → ∀ lv pc, decode cX9_act pc = .ok (.ireturn, 1) → narrow .int (.int q.1) = .int q.1 → VC X (lkp r [(49, q.2.1), (50, q.2.2.1), (46, q.2.2.2.1), (47, q.2.2.2.2.1), (48, q.2.2.2.2.2.1)]) (lkp g [(80, q.2.2.2.2.2.2)]) u h lv [.int q.1] pc := fun q hq => by cases hq; exact hR
  replace hX : CX X RX9 cX9_act 9 := hX
  refine v_opr [49, 50, 46, 47, 48] [(49, r 49), (50, r 50), (46, r 46), (47, r 47), (48, r 48)] rfl ?_
  refine v_opg [80] [(80, g 80)] rfl ?_
  show VC X (lkp r [(49, r 49), (50, r 50), (46, r 46), (47, r 47), (48, r 48)]) (lkp g [(80, g 80)]) u h [(0, .ref (aX X 52)), (1, .int p1), (2, .int p2), (3, .int p3)] [] 0
  rw [f9_act] at hf
  refine v_aload_n hX dX9_act_0 rfl 0 rfl 1 rfl ?_
  refine v_iconst (v := (0 : Int32)) hX dX9_act_1 (by decide) 2 rfl ?_
  refine pf_52_50 hX q_1153 dX9_act_2 5 rfl [(49, (0 : Int32)), (50, (r 50)), (46, (r 46)), (47, (r 47)), (48, (r 48))] rfl ?_
  refine v_iload_n hX dX9_act_5 rfl 1 rfl 6 rfl ?_
  obtain ⟨v1, hv1, hf⟩ := bn1_e hf
  refine cs_i hX (c9_isShelf (lkp r [(49, (0 : Int32)), (50, (r 50)), (46, (r 46)), (47, (r 47)), (48, (r 48))]) (lkp g [(80, (g 80))]) u h _ hv1) wvX9_isShelf q_1028 (Nat.le_of_ble_eq_true rfl) (Nat.le_of_ble_eq_true rfl) (fun _ => rfl) [] rfl (Nat.le_of_ble_eq_true rfl) dX9_act_6 9 rfl ?_
  obtain ⟨J2, hJ2, hf⟩ := jn_x hf
  have HJ2 : ∀ (s3 : Int32), J2 s3 = some res → VC X (lkp r [(49, (0 : Int32)), (50, (r 50)), (46, (r 46)), (47, (r 47)), (48, (r 48))]) (lkp g [(80, (g 80))]) u h [(0, .ref (aX X 52)), (1, .int p1), (2, .int p2), (3, .int p3)] [.int s3] 21 := by
    intro s3 hf
    rw [hJ2] at hf
    refine v_istore hX dX9_act_21 (ltn hn (by decide)) 23 rfl [(4, .int s3), (0, .ref (aX X 52)), (1, .int p1), (2, .int p2), (3, .int p3)] rfl ?_
    refine v_iload_n hX dX9_act_23 rfl 3 rfl 24 rfl ?_
    refine v_iconst (v := (0 : Int32)) hX dX9_act_24 (by decide) 25 rfl ?_
    refine v_iconst (v := (3 : Int32)) hX dX9_act_25 (by decide) 26 rfl ?_
    obtain ⟨v4, hv4, hf⟩ := bn1_e hf
    refine cs_i hX (c9_in (lkp r [(49, (0 : Int32)), (50, (r 50)), (46, (r 46)), (47, (r 47)), (48, (r 48))]) (lkp g [(80, (g 80))]) u h _ _ _ hv4) wvX9_in q_150 (Nat.le_of_ble_eq_true rfl) (Nat.le_of_ble_eq_true rfl) (fun _ => rfl) [] rfl (Nat.le_of_ble_eq_true rfl) dX9_act_26 29 rfl ?_
    refine v_if_eq hX dX9_act_29 42 rfl 32 rfl (fun h32 => ?_) (fun h32 => ?_)
    · replace hf := it_p h32 hf
      refine v_iconst (v := (0 : Int32)) hX dX9_act_42 (by decide) 43 rfl ?_
      exact hR _ hf _ _ dX9_act_43 rfl
    · replace hf := it_n h32 hf
      refine v_iload hX dX9_act_32 0 rfl 34 rfl ?_
      refine v_iconst (v := (0 : Int32)) hX dX9_act_34 (by decide) 35 rfl ?_
      refine v_iconst (v := (5 : Int32)) hX dX9_act_35 (by decide) 36 rfl ?_
      obtain ⟨v5, hv5, hf⟩ := bn1_e hf
      refine cs_i hX (c9_in (lkp r [(49, (0 : Int32)), (50, (r 50)), (46, (r 46)), (47, (r 47)), (48, (r 48))]) (lkp g [(80, (g 80))]) u h _ _ _ hv5) wvX9_in q_150 (Nat.le_of_ble_eq_true rfl) (Nat.le_of_ble_eq_true rfl) (fun _ => rfl) [] rfl (Nat.le_of_ble_eq_true rfl) dX9_act_36 39 rfl ?_
      refine v_if_ne hX dX9_act_39 44 rfl 42 rfl (fun h31 => ?_) (fun h31 => ?_)
      · replace hf := it_n h31 hf
        refine v_aload_n hX dX9_act_44 rfl 1 rfl 45 rfl ?_
        refine v_iload hX dX9_act_45 0 rfl 47 rfl ?_
        refine pf_52_46 hX q_1154 dX9_act_47 50 rfl [(49, (0 : Int32)), (50, (r 50)), (46, s3), (47, (r 47)), (48, (r 48))] rfl ?_
        refine v_aload_n hX dX9_act_50 rfl 1 rfl 51 rfl ?_
        refine v_aload_n hX dX9_act_51 rfl 1 rfl 52 rfl ?_
        refine gf_52_44 hX q_129 dX9_act_52 55 rfl ?_
        refine v_iload_n hX dX9_act_55 rfl 2 rfl 56 rfl ?_
        obtain ⟨hi6, hf⟩ := gd_e hf
        refine al_78 hX hi6 dX9_act_56 ((g 78) p1.toNatClampNeg) rfl 57 rfl ?_
        refine pf_52_47 hX q_1155 dX9_act_57 60 rfl [(49, (0 : Int32)), (50, (r 50)), (46, s3), (47, ((g 78) p1.toNatClampNeg)), (48, (r 48))] rfl ?_
        refine v_aload_n hX dX9_act_60 rfl 1 rfl 61 rfl ?_
        refine v_aload_n hX dX9_act_61 rfl 1 rfl 62 rfl ?_
        refine v_aload_n hX dX9_act_62 rfl 1 rfl 63 rfl ?_
        refine gf_52_47 hX q_1155 dX9_act_63 (((g 78) p1.toNatClampNeg)) rfl 66 rfl ?_
        refine v_iconst (v := (4 : Int32)) hX dX9_act_66 (by decide) 67 rfl ?_
        obtain ⟨v7, hv7, hf⟩ := bn1_e hf
        refine cv_i hX (c9_its (lkp r [(49, (0 : Int32)), (50, (r 50)), (46, s3), (47, ((g 78) p1.toNatClampNeg)), (48, (r 48))]) (lkp g [(80, (g 80))]) u h _ _ hv7) wvX9_its q_471 rc_52 (Nat.le_of_ble_eq_true rfl) (Nat.le_of_ble_eq_true rfl) (fun _ => rfl) [.ref (aX X 52)] rfl (Nat.le_of_ble_eq_true rfl) dX9_act_67 70 rfl ?_
        refine pf_52_48 hX q_1156 dX9_act_70 73 rfl [(49, (0 : Int32)), (50, (r 50)), (46, s3), (47, ((g 78) p1.toNatClampNeg)), (48, v7)] rfl ?_
        refine v_aload_n hX dX9_act_73 rfl 1 rfl 74 rfl ?_
        refine v_iconst (v := (0 : Int32)) hX dX9_act_74 (by decide) 75 rfl ?_
        refine pf_52_51 hX q_1157 dX9_act_75 (by decide) 78 rfl [(49, (0 : Int32)), (50, (0 : Int32)), (46, s3), (47, ((g 78) p1.toNatClampNeg)), (48, v7)] rfl ?_
        refine v_iload_n hX dX9_act_78 rfl 3 rfl 79 rfl ?_
        obtain ⟨J8, hJ8, hf⟩ := jn_x hf
        have HJ8 : ∀ (s9 : Int32) (c10 : Int32) (c11 : Int32) (c12 : (Nat → Int32)), J8 s9 c10 c11 c12 = some res → VC X (lkp r [(49, c10), (50, c11), (46, s3), (47, ((g 78) p1.toNatClampNeg)), (48, v7)]) (lkp g [(80, c12)]) u h [(0, .ref (aX X 52))] [.int s9] 121 := by
          intro s9 c10 c11 c12 hf
          rw [hJ8] at hf
          refine v_istore hX dX9_act_121 (ltn hn (by decide)) 123 rfl [(5, .int s9), (0, .ref (aX X 52))] rfl ?_
          refine v_aload_n hX dX9_act_123 rfl 1 rfl 124 rfl ?_
          refine gf_52_51 hX q_1157 dX9_act_124 (c11) rfl 127 rfl ?_
          refine v_if_eq hX dX9_act_127 135 rfl 130 rfl (fun h13 => ?_) (fun h13 => ?_)
          · replace hf := it_p h13 hf
            refine v_iload hX dX9_act_135 0 rfl 137 rfl ?_
            exact hR _ hf _ _ dX9_act_137 rfl
          · replace hf := it_n h13 hf
            refine v_bipush (v := (-15 : Int32)) hX dX9_act_130 (by decide) 132 rfl ?_
            refine v_goto hX dX9_act_132 137 rfl ?_
            exact hR _ hf _ _ dX9_act_137 rfl
        refine v_if_ne hX dX9_act_79 90 rfl 82 rfl (fun h30 => ?_) (fun h30 => ?_)
        · replace hf := it_n h30 hf
          refine v_iload_n hX dX9_act_90 rfl 3 rfl 91 rfl ?_
          refine v_iconst (v := (1 : Int32)) hX dX9_act_91 (by decide) 92 rfl ?_
          refine v_icmp_ne hX dX9_act_92 103 rfl 95 rfl (fun h26 => ?_) (fun h26 => ?_)
          · replace hf := it_n h26 hf
            refine v_iload_n hX dX9_act_103 rfl 3 rfl 104 rfl ?_
            refine v_iconst (v := (2 : Int32)) hX dX9_act_104 (by decide) 105 rfl ?_
            refine v_icmp_ne hX dX9_act_105 116 rfl 108 rfl (fun h22 => ?_) (fun h22 => ?_)
            · replace hf := it_n h22 hf
              refine v_aload_n hX dX9_act_116 rfl 1 rfl 117 rfl ?_
              refine v_iload_n hX dX9_act_117 rfl 4 rfl 118 rfl ?_
              obtain ⟨v14, c15, c16, c17, hv14, hf⟩ := bn4_e hf
              refine cv_i hX (c9_tellsIt (lkp r [(49, (0 : Int32)), (50, (0 : Int32)), (46, s3), (47, ((g 78) p1.toNatClampNeg)), (48, v7)]) (lkp g [(80, (g 80))]) u h _ hv14) wvX9_tellsIt q_1194 rc_52 (Nat.le_of_ble_eq_true rfl) (Nat.le_of_ble_eq_true rfl) (fun _ => rfl) [] rfl (Nat.le_of_ble_eq_true rfl) dX9_act_118 121 rfl ?_
              refine v_mgr [(49, c15), (50, c16), (46, s3), (47, ((g 78) p1.toNatClampNeg)), (48, v7)] rfl ?_
              refine v_mgg [(80, c17)] rfl ?_
              refine v_sub [(0, .ref (aX X 52))] (sbc 1 rfl sbn) ?_
              exact HJ8 _ _ _ _ hf
            · replace hf := it_p h22 hf
              refine v_aload_n hX dX9_act_108 rfl 1 rfl 109 rfl ?_
              refine v_iload_n hX dX9_act_109 rfl 4 rfl 110 rfl ?_
              obtain ⟨v18, c19, c20, c21, hv18, hf⟩ := bn4_e hf
              refine cv_i hX (c9_sharesIt (lkp r [(49, (0 : Int32)), (50, (0 : Int32)), (46, s3), (47, ((g 78) p1.toNatClampNeg)), (48, v7)]) (lkp g [(80, (g 80))]) u h _ hv18) wvX9_sharesIt q_1186 rc_52 (Nat.le_of_ble_eq_true rfl) (Nat.le_of_ble_eq_true rfl) (fun _ => rfl) [] rfl (Nat.le_of_ble_eq_true rfl) dX9_act_110 113 rfl ?_
              refine v_mgr [(49, c19), (50, c20), (46, s3), (47, ((g 78) p1.toNatClampNeg)), (48, v7)] rfl ?_
              refine v_mgg [(80, c21)] rfl ?_
              refine v_goto hX dX9_act_113 121 rfl ?_
              refine v_sub [(0, .ref (aX X 52))] (sbc 1 rfl sbn) ?_
              exact HJ8 _ _ _ _ hf
          · replace hf := it_p h26 hf
            refine v_aload_n hX dX9_act_95 rfl 1 rfl 96 rfl ?_
            refine v_iload_n hX dX9_act_96 rfl 4 rfl 97 rfl ?_
            obtain ⟨v23, c24, c25, hv23, hf⟩ := bn3_e hf
            refine cv_i hX (c9_paysIt (lkp r [(49, (0 : Int32)), (50, (0 : Int32)), (46, s3), (47, ((g 78) p1.toNatClampNeg)), (48, v7)]) (lkp g [(80, (g 80))]) u h _ hv23) wvX9_paysIt q_1174 rc_52 (Nat.le_of_ble_eq_true rfl) (Nat.le_of_ble_eq_true rfl) (fun _ => rfl) [] rfl (Nat.le_of_ble_eq_true rfl) dX9_act_97 100 rfl ?_
            refine v_mgr [(49, c24), (50, (0 : Int32)), (46, s3), (47, ((g 78) p1.toNatClampNeg)), (48, v7)] rfl ?_
            refine v_mgg [(80, c25)] rfl ?_
            refine v_goto hX dX9_act_100 121 rfl ?_
            refine v_sub [(0, .ref (aX X 52))] (sbc 1 rfl sbn) ?_
            exact HJ8 _ _ _ _ hf
        · replace hf := it_p h30 hf
          refine v_aload_n hX dX9_act_82 rfl 1 rfl 83 rfl ?_
          refine v_iload_n hX dX9_act_83 rfl 4 rfl 84 rfl ?_
          obtain ⟨v27, c28, c29, hv27, hf⟩ := bn3_e hf
          refine cv_i hX (c9_hitsIt (lkp r [(49, (0 : Int32)), (50, (0 : Int32)), (46, s3), (47, ((g 78) p1.toNatClampNeg)), (48, v7)]) (lkp g [(80, (g 80))]) u h _ hv27) wvX9_hitsIt q_1158 rc_52 (Nat.le_of_ble_eq_true rfl) (Nat.le_of_ble_eq_true rfl) (fun _ => rfl) [] rfl (Nat.le_of_ble_eq_true rfl) dX9_act_84 87 rfl ?_
          refine v_mgr [(49, c28), (50, (0 : Int32)), (46, s3), (47, ((g 78) p1.toNatClampNeg)), (48, v7)] rfl ?_
          refine v_mgg [(80, c29)] rfl ?_
          refine v_goto hX dX9_act_87 121 rfl ?_
          refine v_sub [(0, .ref (aX X 52))] (sbc 1 rfl sbn) ?_
          exact HJ8 _ _ _ _ hf
      · replace hf := it_p h31 hf
        refine v_iconst (v := (0 : Int32)) hX dX9_act_42 (by decide) 43 rfl ?_
        exact hR _ hf _ _ dX9_act_43 rfl
  refine v_if_eq hX dX9_act_9 20 rfl 12 rfl (fun h34 => ?_) (fun h34 => ?_)
  · replace hf := it_p h34 hf
    refine v_iconst (v := (-1 : Int32)) hX dX9_act_20 (by decide) 21 rfl ?_
    exact HJ2 _ hf
  · replace hf := it_n h34 hf
    refine v_aload_n hX dX9_act_12 rfl 0 rfl 13 rfl ?_
    refine v_iload_n hX dX9_act_13 rfl 1 rfl 14 rfl ?_
    obtain ⟨v33, hv33, hf⟩ := bn1_e hf
    refine cv_i hX (c9_kindOn (lkp r [(49, (0 : Int32)), (50, (r 50)), (46, (r 46)), (47, (r 47)), (48, (r 48))]) (lkp g [(80, (g 80))]) u h _ hv33) wvX9_kindOn q_1115 rc_52 (Nat.le_of_ble_eq_true rfl) (Nat.le_of_ble_eq_true rfl) (fun _ => rfl) [] rfl (Nat.le_of_ble_eq_true rfl) dX9_act_14 17 rfl ?_
    refine v_goto hX dX9_act_17 21 rfl ?_
    exact HJ2 _ hf
set_option maxRecDepth 100000 in
set_option maxHeartbeats 4000000 in
theorem c9_move_a82 (r : Nat → Int32) (g : Nat → Nat → Int32) (u : Nat → Int64) (h : Nat → Nat → Int64) (p2 : Int32) (p3 : Int32) {res : Int32 × (Nat → Int32) × (Nat → Int32)} (hf : f9_move_a82 (r 52) (g 82) (g 81) p2 p3 = some res) : MAv yX9_move cX9_move 5 none 0 (fun a => [.ref (a 52), .ref (a 82), .int p2, .int p3]) r g u h (lkp r [(52, res.1)]) (lkp g [(82, res.2.1), (81, res.2.2)]) u h := by
  refine mi_v (by decide +kernel) (fun a => Nat.le_of_ble_eq_true rfl) (fun X hX hn hR => ?_)
  replace hR : ∀ q : Int32 × (Nat → Int32) × (Nat → Int32), some q = some res → ∀ lv pc, decode cX9_move pc = .ok (.return_, 1) → VC X (lkp r [(52, q.1)]) (lkp g [(82, q.2.1), (81, q.2.2)]) u h lv [] pc := fun q hq => by cases hq; exact hR
  replace hX : CX X RX9 cX9_move 0 := hX
  refine v_opr [52] [(52, r 52)] rfl ?_
  refine v_opg [82, 81] [(82, g 82), (81, g 81)] rfl ?_
  show VC X (lkp r [(52, r 52)]) (lkp g [(82, g 82), (81, g 81)]) u h [(0, .ref (aX X 52)), (1, .ref (aX X 82)), (2, .int p2), (3, .int p3)] [] 0
  rw [f9_move_a82] at hf
  refine v_iconst (v := (0 : Int32)) hX dX9_move_0 (by decide) 1 rfl ?_
  refine v_istore hX dX9_move_1 (ltn hn (by decide)) 3 rfl [(4, .int (0 : Int32)), (0, .ref (aX X 52)), (1, .ref (aX X 82)), (2, .int p2), (3, .int p3)] rfl ?_
  obtain ⟨K5, hK5, hf⟩ := jn_x hf
  have HK5 : ∀ (x1 : Int32) (c2 : Int32) (c3 : (Nat → Int32)) (c4 : (Nat → Int32)), K5 x1 c2 c3 c4 = some res → VC X (lkp r [(52, c2)]) (lkp g [(82, c3), (81, c4)]) u h [] [] 58 := by
    intro x1 c2 c3 c4 hf
    rw [hK5] at hf
    exact hR _ hf _ _ dX9_move_58
  have HLK5 : ∀ (n6 : Nat) (x1 : Int32) (c2 : Int32) (c3 : (Nat → Int32)) (c4 : (Nat → Int32)), f9_move_a82_L3 p2 p3 n6 x1 c2 c3 c4 K5 = some res → VC X (lkp r [(52, c2)]) (lkp g [(82, c3), (81, c4)]) u h [(0, .ref (aX X 52)), (1, .ref (aX X 82)), (2, .int p2), (3, .int p3), (4, .int x1)] [] 3 := by
    intro n6
    induction n6 with
    | zero => intro x1 c2 c3 c4 hf; exact no_s hf
    | succ n6 ih =>
      intro x1 c2 c3 c4 hf
      rw [f9_move_a82_L3] at hf
      refine v_iload hX dX9_move_3 4 rfl 5 rfl ?_
      refine v_iload_n hX dX9_move_5 rfl 2 rfl 6 rfl ?_
      refine v_icmp_ge hX dX9_move_6 58 rfl 9 rfl (fun h15 => ?_) (fun h15 => ?_)
      · replace hf := it_p h15 hf
        refine v_sub [] sbn ?_
        exact HK5 _ _ _ _ hf
      · replace hf := it_n h15 hf
        refine v_iload_n hX dX9_move_9 rfl 3 rfl 10 rfl ?_
        obtain ⟨J7, hJ7, hf⟩ := jn_x hf
        have HJ7 : ∀ (c8 : (Nat → Int32)) (c9 : (Nat → Int32)), J7 c8 c9 = some res → VC X (lkp r [(52, c2)]) (lkp g [(82, c8), (81, c9)]) u h [(0, .ref (aX X 52)), (1, .ref (aX X 82)), (2, .int p2), (3, .int p3), (4, .int x1)] [] 42 := by
          intro c8 c9 hf
          rw [hJ7] at hf
          refine v_aload_n hX dX9_move_42 rfl 0 rfl 43 rfl ?_
          refine v_dup hX dX9_move_43 rfl 44 rfl ?_
          refine gf_52_54 hX q_1245 dX9_move_44 (c2) rfl 47 rfl ?_
          refine v_iconst (v := (1 : Int32)) hX dX9_move_47 (by decide) 48 rfl ?_
          refine v_iadd hX dX9_move_48 49 rfl ?_
          refine pf_52_54 hX q_1245 dX9_move_49 52 rfl [(52, (c2 + (1 : Int32)))] rfl ?_
          refine v_inc (c := (1 : Int32)) hX dX9_move_52 4 rfl (by decide) (ltn hn (by decide)) 55 rfl [(4, .int (x1 + (1 : Int32))), (0, .ref (aX X 52)), (1, .ref (aX X 82)), (2, .int p2), (3, .int p3)] rfl ?_
          refine v_goto hX dX9_move_55 3 rfl ?_
          refine v_sub [(0, .ref (aX X 52)), (1, .ref (aX X 82)), (2, .int p2), (3, .int p3), (4, .int (x1 + (1 : Int32)))] (sbc 1 rfl (sbc 2 rfl (sbc 3 rfl (sbc 4 rfl (sbc 0 rfl sbn))))) ?_
          exact ih _ _ _ _ hf
        refine v_if_eq hX dX9_move_10 29 rfl 13 rfl (fun h14 => ?_) (fun h14 => ?_)
        · replace hf := it_p h14 hf
          refine v_aload_n hX dX9_move_29 rfl 1 rfl 30 rfl ?_
          refine v_iload hX dX9_move_30 4 rfl 32 rfl ?_
          refine v_aload_n hX dX9_move_32 rfl 0 rfl 33 rfl ?_
          refine gf_52_53 hX q_132 dX9_move_33 36 rfl ?_
          refine v_aload_n hX dX9_move_36 rfl 0 rfl 37 rfl ?_
          refine gf_52_54 hX q_1245 dX9_move_37 (c2) rfl 40 rfl ?_
          obtain ⟨hi10, hf⟩ := gd_e hf
          refine al_81 hX hi10 dX9_move_40 (c4 c2.toNatClampNeg) rfl 41 rfl ?_
          obtain ⟨hi11, hf⟩ := gd_e hf
          refine as_82 hX hi11 dX9_move_41 42 rfl c3 rfl [(82, (upd c3 x1.toNatClampNeg (c4 c2.toNatClampNeg))), (81, c4)] rfl ?_
          exact HJ7 _ _ hf
        · replace hf := it_n h14 hf
          refine v_aload_n hX dX9_move_13 rfl 0 rfl 14 rfl ?_
          refine gf_52_53 hX q_132 dX9_move_14 17 rfl ?_
          refine v_aload_n hX dX9_move_17 rfl 0 rfl 18 rfl ?_
          refine gf_52_54 hX q_1245 dX9_move_18 (c2) rfl 21 rfl ?_
          refine v_aload_n hX dX9_move_21 rfl 1 rfl 22 rfl ?_
          refine v_iload hX dX9_move_22 4 rfl 24 rfl ?_
          obtain ⟨hi12, hf⟩ := gd_e hf
          refine al_82 hX hi12 dX9_move_24 (c3 x1.toNatClampNeg) rfl 25 rfl ?_
          obtain ⟨hi13, hf⟩ := gd_e hf
          refine as_81 hX hi13 dX9_move_25 26 rfl c4 rfl [(82, c3), (81, (upd c4 c2.toNatClampNeg (c3 x1.toNatClampNeg)))] rfl ?_
          refine v_goto hX dX9_move_26 42 rfl ?_
          exact HJ7 _ _ hf
  refine v_sub [(0, .ref (aX X 52)), (1, .ref (aX X 82)), (2, .int p2), (3, .int p3), (4, .int (0 : Int32))] (sbc 1 rfl (sbc 2 rfl (sbc 3 rfl (sbc 4 rfl (sbc 0 rfl sbn))))) ?_
  exact HLK5 _ _ _ _ _ hf
set_option maxRecDepth 100000 in
set_option maxHeartbeats 4000000 in
theorem c9_move_a53 (r : Nat → Int32) (g : Nat → Nat → Int32) (u : Nat → Int64) (h : Nat → Nat → Int64) (p2 : Int32) (p3 : Int32) {res : Int32 × (Nat → Int32) × (Nat → Int32)} (hf : f9_move_a53 (r 52) (g 53) (g 81) p2 p3 = some res) : MAv yX9_move cX9_move 5 none 0 (fun a => [.ref (a 52), .ref (a 53), .int p2, .int p3]) r g u h (lkp r [(52, res.1)]) (lkp g [(53, res.2.1), (81, res.2.2)]) u h := by
  refine mi_v (by decide +kernel) (fun a => Nat.le_of_ble_eq_true rfl) (fun X hX hn hR => ?_)
  replace hR : ∀ q : Int32 × (Nat → Int32) × (Nat → Int32), some q = some res → ∀ lv pc, decode cX9_move pc = .ok (.return_, 1) → VC X (lkp r [(52, q.1)]) (lkp g [(53, q.2.1), (81, q.2.2)]) u h lv [] pc := fun q hq => by cases hq; exact hR
  replace hX : CX X RX9 cX9_move 0 := hX
  refine v_opr [52] [(52, r 52)] rfl ?_
  refine v_opg [53, 81] [(53, g 53), (81, g 81)] rfl ?_
  show VC X (lkp r [(52, r 52)]) (lkp g [(53, g 53), (81, g 81)]) u h [(0, .ref (aX X 52)), (1, .ref (aX X 53)), (2, .int p2), (3, .int p3)] [] 0
  rw [f9_move_a53] at hf
  refine v_iconst (v := (0 : Int32)) hX dX9_move_0 (by decide) 1 rfl ?_
  refine v_istore hX dX9_move_1 (ltn hn (by decide)) 3 rfl [(4, .int (0 : Int32)), (0, .ref (aX X 52)), (1, .ref (aX X 53)), (2, .int p2), (3, .int p3)] rfl ?_
  obtain ⟨K5, hK5, hf⟩ := jn_x hf
  have HK5 : ∀ (x1 : Int32) (c2 : Int32) (c3 : (Nat → Int32)) (c4 : (Nat → Int32)), K5 x1 c2 c3 c4 = some res → VC X (lkp r [(52, c2)]) (lkp g [(53, c3), (81, c4)]) u h [] [] 58 := by
    intro x1 c2 c3 c4 hf
    rw [hK5] at hf
    exact hR _ hf _ _ dX9_move_58
  have HLK5 : ∀ (n6 : Nat) (x1 : Int32) (c2 : Int32) (c3 : (Nat → Int32)) (c4 : (Nat → Int32)), f9_move_a53_L3 p2 p3 n6 x1 c2 c3 c4 K5 = some res → VC X (lkp r [(52, c2)]) (lkp g [(53, c3), (81, c4)]) u h [(0, .ref (aX X 52)), (1, .ref (aX X 53)), (2, .int p2), (3, .int p3), (4, .int x1)] [] 3 := by
    intro n6
    induction n6 with
    | zero => intro x1 c2 c3 c4 hf; exact no_s hf
    | succ n6 ih =>
      intro x1 c2 c3 c4 hf
      rw [f9_move_a53_L3] at hf
      refine v_iload hX dX9_move_3 4 rfl 5 rfl ?_
      refine v_iload_n hX dX9_move_5 rfl 2 rfl 6 rfl ?_
      refine v_icmp_ge hX dX9_move_6 58 rfl 9 rfl (fun h15 => ?_) (fun h15 => ?_)
      · replace hf := it_p h15 hf
        refine v_sub [] sbn ?_
        exact HK5 _ _ _ _ hf
      · replace hf := it_n h15 hf
        refine v_iload_n hX dX9_move_9 rfl 3 rfl 10 rfl ?_
        obtain ⟨J7, hJ7, hf⟩ := jn_x hf
        have HJ7 : ∀ (c8 : (Nat → Int32)) (c9 : (Nat → Int32)), J7 c8 c9 = some res → VC X (lkp r [(52, c2)]) (lkp g [(53, c8), (81, c9)]) u h [(0, .ref (aX X 52)), (1, .ref (aX X 53)), (2, .int p2), (3, .int p3), (4, .int x1)] [] 42 := by
          intro c8 c9 hf
          rw [hJ7] at hf
          refine v_aload_n hX dX9_move_42 rfl 0 rfl 43 rfl ?_
          refine v_dup hX dX9_move_43 rfl 44 rfl ?_
          refine gf_52_54 hX q_1245 dX9_move_44 (c2) rfl 47 rfl ?_
          refine v_iconst (v := (1 : Int32)) hX dX9_move_47 (by decide) 48 rfl ?_
          refine v_iadd hX dX9_move_48 49 rfl ?_
          refine pf_52_54 hX q_1245 dX9_move_49 52 rfl [(52, (c2 + (1 : Int32)))] rfl ?_
          refine v_inc (c := (1 : Int32)) hX dX9_move_52 4 rfl (by decide) (ltn hn (by decide)) 55 rfl [(4, .int (x1 + (1 : Int32))), (0, .ref (aX X 52)), (1, .ref (aX X 53)), (2, .int p2), (3, .int p3)] rfl ?_
          refine v_goto hX dX9_move_55 3 rfl ?_
          refine v_sub [(0, .ref (aX X 52)), (1, .ref (aX X 53)), (2, .int p2), (3, .int p3), (4, .int (x1 + (1 : Int32)))] (sbc 1 rfl (sbc 2 rfl (sbc 3 rfl (sbc 4 rfl (sbc 0 rfl sbn))))) ?_
          exact ih _ _ _ _ hf
        refine v_if_eq hX dX9_move_10 29 rfl 13 rfl (fun h14 => ?_) (fun h14 => ?_)
        · replace hf := it_p h14 hf
          refine v_aload_n hX dX9_move_29 rfl 1 rfl 30 rfl ?_
          refine v_iload hX dX9_move_30 4 rfl 32 rfl ?_
          refine v_aload_n hX dX9_move_32 rfl 0 rfl 33 rfl ?_
          refine gf_52_53 hX q_132 dX9_move_33 36 rfl ?_
          refine v_aload_n hX dX9_move_36 rfl 0 rfl 37 rfl ?_
          refine gf_52_54 hX q_1245 dX9_move_37 (c2) rfl 40 rfl ?_
          obtain ⟨hi10, hf⟩ := gd_e hf
          refine al_81 hX hi10 dX9_move_40 (c4 c2.toNatClampNeg) rfl 41 rfl ?_
          obtain ⟨hi11, hf⟩ := gd_e hf
          refine as_53 hX hi11 dX9_move_41 42 rfl c3 rfl [(53, (upd c3 x1.toNatClampNeg (c4 c2.toNatClampNeg))), (81, c4)] rfl ?_
          exact HJ7 _ _ hf
        · replace hf := it_n h14 hf
          refine v_aload_n hX dX9_move_13 rfl 0 rfl 14 rfl ?_
          refine gf_52_53 hX q_132 dX9_move_14 17 rfl ?_
          refine v_aload_n hX dX9_move_17 rfl 0 rfl 18 rfl ?_
          refine gf_52_54 hX q_1245 dX9_move_18 (c2) rfl 21 rfl ?_
          refine v_aload_n hX dX9_move_21 rfl 1 rfl 22 rfl ?_
          refine v_iload hX dX9_move_22 4 rfl 24 rfl ?_
          obtain ⟨hi12, hf⟩ := gd_e hf
          refine al_53 hX hi12 dX9_move_24 (c3 x1.toNatClampNeg) rfl 25 rfl ?_
          obtain ⟨hi13, hf⟩ := gd_e hf
          refine as_81 hX hi13 dX9_move_25 26 rfl c4 rfl [(53, c3), (81, (upd c4 c2.toNatClampNeg (c3 x1.toNatClampNeg)))] rfl ?_
          refine v_goto hX dX9_move_26 42 rfl ?_
          exact HJ7 _ _ hf
  refine v_sub [(0, .ref (aX X 52)), (1, .ref (aX X 53)), (2, .int p2), (3, .int p3), (4, .int (0 : Int32))] (sbc 1 rfl (sbc 2 rfl (sbc 3 rfl (sbc 4 rfl (sbc 0 rfl sbn))))) ?_
  exact HLK5 _ _ _ _ _ hf
set_option maxRecDepth 100000 in
set_option maxHeartbeats 4000000 in
theorem c9_move_a54 (r : Nat → Int32) (g : Nat → Nat → Int32) (u : Nat → Int64) (h : Nat → Nat → Int64) (p2 : Int32) (p3 : Int32) {res : Int32 × (Nat → Int32) × (Nat → Int32)} (hf : f9_move_a54 (r 52) (g 54) (g 81) p2 p3 = some res) : MAv yX9_move cX9_move 5 none 0 (fun a => [.ref (a 52), .ref (a 54), .int p2, .int p3]) r g u h (lkp r [(52, res.1)]) (lkp g [(54, res.2.1), (81, res.2.2)]) u h := by
  refine mi_v (by decide +kernel) (fun a => Nat.le_of_ble_eq_true rfl) (fun X hX hn hR => ?_)
  replace hR : ∀ q : Int32 × (Nat → Int32) × (Nat → Int32), some q = some res → ∀ lv pc, decode cX9_move pc = .ok (.return_, 1) → VC X (lkp r [(52, q.1)]) (lkp g [(54, q.2.1), (81, q.2.2)]) u h lv [] pc := fun q hq => by cases hq; exact hR
  replace hX : CX X RX9 cX9_move 0 := hX
  refine v_opr [52] [(52, r 52)] rfl ?_
  refine v_opg [54, 81] [(54, g 54), (81, g 81)] rfl ?_
  show VC X (lkp r [(52, r 52)]) (lkp g [(54, g 54), (81, g 81)]) u h [(0, .ref (aX X 52)), (1, .ref (aX X 54)), (2, .int p2), (3, .int p3)] [] 0
  rw [f9_move_a54] at hf
  refine v_iconst (v := (0 : Int32)) hX dX9_move_0 (by decide) 1 rfl ?_
  refine v_istore hX dX9_move_1 (ltn hn (by decide)) 3 rfl [(4, .int (0 : Int32)), (0, .ref (aX X 52)), (1, .ref (aX X 54)), (2, .int p2), (3, .int p3)] rfl ?_
  obtain ⟨K5, hK5, hf⟩ := jn_x hf
  have HK5 : ∀ (x1 : Int32) (c2 : Int32) (c3 : (Nat → Int32)) (c4 : (Nat → Int32)), K5 x1 c2 c3 c4 = some res → VC X (lkp r [(52, c2)]) (lkp g [(54, c3), (81, c4)]) u h [] [] 58 := by
    intro x1 c2 c3 c4 hf
    rw [hK5] at hf
    exact hR _ hf _ _ dX9_move_58
  have HLK5 : ∀ (n6 : Nat) (x1 : Int32) (c2 : Int32) (c3 : (Nat → Int32)) (c4 : (Nat → Int32)), f9_move_a54_L3 p2 p3 n6 x1 c2 c3 c4 K5 = some res → VC X (lkp r [(52, c2)]) (lkp g [(54, c3), (81, c4)]) u h [(0, .ref (aX X 52)), (1, .ref (aX X 54)), (2, .int p2), (3, .int p3), (4, .int x1)] [] 3 := by
    intro n6
    induction n6 with
    | zero => intro x1 c2 c3 c4 hf; exact no_s hf
    | succ n6 ih =>
      intro x1 c2 c3 c4 hf
      rw [f9_move_a54_L3] at hf
      refine v_iload hX dX9_move_3 4 rfl 5 rfl ?_
      refine v_iload_n hX dX9_move_5 rfl 2 rfl 6 rfl ?_
      refine v_icmp_ge hX dX9_move_6 58 rfl 9 rfl (fun h15 => ?_) (fun h15 => ?_)
      · replace hf := it_p h15 hf
        refine v_sub [] sbn ?_
        exact HK5 _ _ _ _ hf
      · replace hf := it_n h15 hf
        refine v_iload_n hX dX9_move_9 rfl 3 rfl 10 rfl ?_
        obtain ⟨J7, hJ7, hf⟩ := jn_x hf
        have HJ7 : ∀ (c8 : (Nat → Int32)) (c9 : (Nat → Int32)), J7 c8 c9 = some res → VC X (lkp r [(52, c2)]) (lkp g [(54, c8), (81, c9)]) u h [(0, .ref (aX X 52)), (1, .ref (aX X 54)), (2, .int p2), (3, .int p3), (4, .int x1)] [] 42 := by
          intro c8 c9 hf
          rw [hJ7] at hf
          refine v_aload_n hX dX9_move_42 rfl 0 rfl 43 rfl ?_
          refine v_dup hX dX9_move_43 rfl 44 rfl ?_
          refine gf_52_54 hX q_1245 dX9_move_44 (c2) rfl 47 rfl ?_
          refine v_iconst (v := (1 : Int32)) hX dX9_move_47 (by decide) 48 rfl ?_
          refine v_iadd hX dX9_move_48 49 rfl ?_
          refine pf_52_54 hX q_1245 dX9_move_49 52 rfl [(52, (c2 + (1 : Int32)))] rfl ?_
          refine v_inc (c := (1 : Int32)) hX dX9_move_52 4 rfl (by decide) (ltn hn (by decide)) 55 rfl [(4, .int (x1 + (1 : Int32))), (0, .ref (aX X 52)), (1, .ref (aX X 54)), (2, .int p2), (3, .int p3)] rfl ?_
          refine v_goto hX dX9_move_55 3 rfl ?_
          refine v_sub [(0, .ref (aX X 52)), (1, .ref (aX X 54)), (2, .int p2), (3, .int p3), (4, .int (x1 + (1 : Int32)))] (sbc 1 rfl (sbc 2 rfl (sbc 3 rfl (sbc 4 rfl (sbc 0 rfl sbn))))) ?_
          exact ih _ _ _ _ hf
        refine v_if_eq hX dX9_move_10 29 rfl 13 rfl (fun h14 => ?_) (fun h14 => ?_)
        · replace hf := it_p h14 hf
          refine v_aload_n hX dX9_move_29 rfl 1 rfl 30 rfl ?_
          refine v_iload hX dX9_move_30 4 rfl 32 rfl ?_
          refine v_aload_n hX dX9_move_32 rfl 0 rfl 33 rfl ?_
          refine gf_52_53 hX q_132 dX9_move_33 36 rfl ?_
          refine v_aload_n hX dX9_move_36 rfl 0 rfl 37 rfl ?_
          refine gf_52_54 hX q_1245 dX9_move_37 (c2) rfl 40 rfl ?_
          obtain ⟨hi10, hf⟩ := gd_e hf
          refine al_81 hX hi10 dX9_move_40 (c4 c2.toNatClampNeg) rfl 41 rfl ?_
          obtain ⟨hi11, hf⟩ := gd_e hf
          refine as_54 hX hi11 dX9_move_41 42 rfl c3 rfl [(54, (upd c3 x1.toNatClampNeg (c4 c2.toNatClampNeg))), (81, c4)] rfl ?_
          exact HJ7 _ _ hf
        · replace hf := it_n h14 hf
          refine v_aload_n hX dX9_move_13 rfl 0 rfl 14 rfl ?_
          refine gf_52_53 hX q_132 dX9_move_14 17 rfl ?_
          refine v_aload_n hX dX9_move_17 rfl 0 rfl 18 rfl ?_
          refine gf_52_54 hX q_1245 dX9_move_18 (c2) rfl 21 rfl ?_
          refine v_aload_n hX dX9_move_21 rfl 1 rfl 22 rfl ?_
          refine v_iload hX dX9_move_22 4 rfl 24 rfl ?_
          obtain ⟨hi12, hf⟩ := gd_e hf
          refine al_54 hX hi12 dX9_move_24 (c3 x1.toNatClampNeg) rfl 25 rfl ?_
          obtain ⟨hi13, hf⟩ := gd_e hf
          refine as_81 hX hi13 dX9_move_25 26 rfl c4 rfl [(54, c3), (81, (upd c4 c2.toNatClampNeg (c3 x1.toNatClampNeg)))] rfl ?_
          refine v_goto hX dX9_move_26 42 rfl ?_
          exact HJ7 _ _ hf
  refine v_sub [(0, .ref (aX X 52)), (1, .ref (aX X 54)), (2, .int p2), (3, .int p3), (4, .int (0 : Int32))] (sbc 1 rfl (sbc 2 rfl (sbc 3 rfl (sbc 4 rfl (sbc 0 rfl sbn))))) ?_
  exact HLK5 _ _ _ _ _ hf
set_option maxRecDepth 100000 in
set_option maxHeartbeats 4000000 in
theorem c9_move_a55 (r : Nat → Int32) (g : Nat → Nat → Int32) (u : Nat → Int64) (h : Nat → Nat → Int64) (p2 : Int32) (p3 : Int32) {res : Int32 × (Nat → Int32) × (Nat → Int32)} (hf : f9_move_a55 (r 52) (g 55) (g 81) p2 p3 = some res) : MAv yX9_move cX9_move 5 none 0 (fun a => [.ref (a 52), .ref (a 55), .int p2, .int p3]) r g u h (lkp r [(52, res.1)]) (lkp g [(55, res.2.1), (81, res.2.2)]) u h := by
  refine mi_v (by decide +kernel) (fun a => Nat.le_of_ble_eq_true rfl) (fun X hX hn hR => ?_)
  replace hR : ∀ q : Int32 × (Nat → Int32) × (Nat → Int32), some q = some res → ∀ lv pc, decode cX9_move pc = .ok (.return_, 1) → VC X (lkp r [(52, q.1)]) (lkp g [(55, q.2.1), (81, q.2.2)]) u h lv [] pc := fun q hq => by cases hq; exact hR
  replace hX : CX X RX9 cX9_move 0 := hX
  refine v_opr [52] [(52, r 52)] rfl ?_
  refine v_opg [55, 81] [(55, g 55), (81, g 81)] rfl ?_
  show VC X (lkp r [(52, r 52)]) (lkp g [(55, g 55), (81, g 81)]) u h [(0, .ref (aX X 52)), (1, .ref (aX X 55)), (2, .int p2), (3, .int p3)] [] 0
  rw [f9_move_a55] at hf
  refine v_iconst (v := (0 : Int32)) hX dX9_move_0 (by decide) 1 rfl ?_
  refine v_istore hX dX9_move_1 (ltn hn (by decide)) 3 rfl [(4, .int (0 : Int32)), (0, .ref (aX X 52)), (1, .ref (aX X 55)), (2, .int p2), (3, .int p3)] rfl ?_
  obtain ⟨K5, hK5, hf⟩ := jn_x hf
  have HK5 : ∀ (x1 : Int32) (c2 : Int32) (c3 : (Nat → Int32)) (c4 : (Nat → Int32)), K5 x1 c2 c3 c4 = some res → VC X (lkp r [(52, c2)]) (lkp g [(55, c3), (81, c4)]) u h [] [] 58 := by
    intro x1 c2 c3 c4 hf
    rw [hK5] at hf
    exact hR _ hf _ _ dX9_move_58
  have HLK5 : ∀ (n6 : Nat) (x1 : Int32) (c2 : Int32) (c3 : (Nat → Int32)) (c4 : (Nat → Int32)), f9_move_a55_L3 p2 p3 n6 x1 c2 c3 c4 K5 = some res → VC X (lkp r [(52, c2)]) (lkp g [(55, c3), (81, c4)]) u h [(0, .ref (aX X 52)), (1, .ref (aX X 55)), (2, .int p2), (3, .int p3), (4, .int x1)] [] 3 := by
    intro n6
    induction n6 with
    | zero => intro x1 c2 c3 c4 hf; exact no_s hf
    | succ n6 ih =>
      intro x1 c2 c3 c4 hf
      rw [f9_move_a55_L3] at hf
      refine v_iload hX dX9_move_3 4 rfl 5 rfl ?_
      refine v_iload_n hX dX9_move_5 rfl 2 rfl 6 rfl ?_
      refine v_icmp_ge hX dX9_move_6 58 rfl 9 rfl (fun h15 => ?_) (fun h15 => ?_)
      · replace hf := it_p h15 hf
        refine v_sub [] sbn ?_
        exact HK5 _ _ _ _ hf
      · replace hf := it_n h15 hf
        refine v_iload_n hX dX9_move_9 rfl 3 rfl 10 rfl ?_
        obtain ⟨J7, hJ7, hf⟩ := jn_x hf
        have HJ7 : ∀ (c8 : (Nat → Int32)) (c9 : (Nat → Int32)), J7 c8 c9 = some res → VC X (lkp r [(52, c2)]) (lkp g [(55, c8), (81, c9)]) u h [(0, .ref (aX X 52)), (1, .ref (aX X 55)), (2, .int p2), (3, .int p3), (4, .int x1)] [] 42 := by
          intro c8 c9 hf
          rw [hJ7] at hf
          refine v_aload_n hX dX9_move_42 rfl 0 rfl 43 rfl ?_
          refine v_dup hX dX9_move_43 rfl 44 rfl ?_
          refine gf_52_54 hX q_1245 dX9_move_44 (c2) rfl 47 rfl ?_
          refine v_iconst (v := (1 : Int32)) hX dX9_move_47 (by decide) 48 rfl ?_
          refine v_iadd hX dX9_move_48 49 rfl ?_
          refine pf_52_54 hX q_1245 dX9_move_49 52 rfl [(52, (c2 + (1 : Int32)))] rfl ?_
          refine v_inc (c := (1 : Int32)) hX dX9_move_52 4 rfl (by decide) (ltn hn (by decide)) 55 rfl [(4, .int (x1 + (1 : Int32))), (0, .ref (aX X 52)), (1, .ref (aX X 55)), (2, .int p2), (3, .int p3)] rfl ?_
          refine v_goto hX dX9_move_55 3 rfl ?_
          refine v_sub [(0, .ref (aX X 52)), (1, .ref (aX X 55)), (2, .int p2), (3, .int p3), (4, .int (x1 + (1 : Int32)))] (sbc 1 rfl (sbc 2 rfl (sbc 3 rfl (sbc 4 rfl (sbc 0 rfl sbn))))) ?_
          exact ih _ _ _ _ hf
        refine v_if_eq hX dX9_move_10 29 rfl 13 rfl (fun h14 => ?_) (fun h14 => ?_)
        · replace hf := it_p h14 hf
          refine v_aload_n hX dX9_move_29 rfl 1 rfl 30 rfl ?_
          refine v_iload hX dX9_move_30 4 rfl 32 rfl ?_
          refine v_aload_n hX dX9_move_32 rfl 0 rfl 33 rfl ?_
          refine gf_52_53 hX q_132 dX9_move_33 36 rfl ?_
          refine v_aload_n hX dX9_move_36 rfl 0 rfl 37 rfl ?_
          refine gf_52_54 hX q_1245 dX9_move_37 (c2) rfl 40 rfl ?_
          obtain ⟨hi10, hf⟩ := gd_e hf
          refine al_81 hX hi10 dX9_move_40 (c4 c2.toNatClampNeg) rfl 41 rfl ?_
          obtain ⟨hi11, hf⟩ := gd_e hf
          refine as_55 hX hi11 dX9_move_41 42 rfl c3 rfl [(55, (upd c3 x1.toNatClampNeg (c4 c2.toNatClampNeg))), (81, c4)] rfl ?_
          exact HJ7 _ _ hf
        · replace hf := it_n h14 hf
          refine v_aload_n hX dX9_move_13 rfl 0 rfl 14 rfl ?_
          refine gf_52_53 hX q_132 dX9_move_14 17 rfl ?_
          refine v_aload_n hX dX9_move_17 rfl 0 rfl 18 rfl ?_
          refine gf_52_54 hX q_1245 dX9_move_18 (c2) rfl 21 rfl ?_
          refine v_aload_n hX dX9_move_21 rfl 1 rfl 22 rfl ?_
          refine v_iload hX dX9_move_22 4 rfl 24 rfl ?_
          obtain ⟨hi12, hf⟩ := gd_e hf
          refine al_55 hX hi12 dX9_move_24 (c3 x1.toNatClampNeg) rfl 25 rfl ?_
          obtain ⟨hi13, hf⟩ := gd_e hf
          refine as_81 hX hi13 dX9_move_25 26 rfl c4 rfl [(55, c3), (81, (upd c4 c2.toNatClampNeg (c3 x1.toNatClampNeg)))] rfl ?_
          refine v_goto hX dX9_move_26 42 rfl ?_
          exact HJ7 _ _ hf
  refine v_sub [(0, .ref (aX X 52)), (1, .ref (aX X 55)), (2, .int p2), (3, .int p3), (4, .int (0 : Int32))] (sbc 1 rfl (sbc 2 rfl (sbc 3 rfl (sbc 4 rfl (sbc 0 rfl sbn))))) ?_
  exact HLK5 _ _ _ _ _ hf
set_option maxRecDepth 100000 in
set_option maxHeartbeats 4000000 in
theorem c9_move_a56 (r : Nat → Int32) (g : Nat → Nat → Int32) (u : Nat → Int64) (h : Nat → Nat → Int64) (p2 : Int32) (p3 : Int32) {res : Int32 × (Nat → Int32) × (Nat → Int32)} (hf : f9_move_a56 (r 52) (g 56) (g 81) p2 p3 = some res) : MAv yX9_move cX9_move 5 none 0 (fun a => [.ref (a 52), .ref (a 56), .int p2, .int p3]) r g u h (lkp r [(52, res.1)]) (lkp g [(56, res.2.1), (81, res.2.2)]) u h := by
  refine mi_v (by decide +kernel) (fun a => Nat.le_of_ble_eq_true rfl) (fun X hX hn hR => ?_)
  replace hR : ∀ q : Int32 × (Nat → Int32) × (Nat → Int32), some q = some res → ∀ lv pc, decode cX9_move pc = .ok (.return_, 1) → VC X (lkp r [(52, q.1)]) (lkp g [(56, q.2.1), (81, q.2.2)]) u h lv [] pc := fun q hq => by cases hq; exact hR
  replace hX : CX X RX9 cX9_move 0 := hX
  refine v_opr [52] [(52, r 52)] rfl ?_
  refine v_opg [56, 81] [(56, g 56), (81, g 81)] rfl ?_
  show VC X (lkp r [(52, r 52)]) (lkp g [(56, g 56), (81, g 81)]) u h [(0, .ref (aX X 52)), (1, .ref (aX X 56)), (2, .int p2), (3, .int p3)] [] 0
  rw [f9_move_a56] at hf
  refine v_iconst (v := (0 : Int32)) hX dX9_move_0 (by decide) 1 rfl ?_
  refine v_istore hX dX9_move_1 (ltn hn (by decide)) 3 rfl [(4, .int (0 : Int32)), (0, .ref (aX X 52)), (1, .ref (aX X 56)), (2, .int p2), (3, .int p3)] rfl ?_
  obtain ⟨K5, hK5, hf⟩ := jn_x hf
  have HK5 : ∀ (x1 : Int32) (c2 : Int32) (c3 : (Nat → Int32)) (c4 : (Nat → Int32)), K5 x1 c2 c3 c4 = some res → VC X (lkp r [(52, c2)]) (lkp g [(56, c3), (81, c4)]) u h [] [] 58 := by
    intro x1 c2 c3 c4 hf
    rw [hK5] at hf
    exact hR _ hf _ _ dX9_move_58
  have HLK5 : ∀ (n6 : Nat) (x1 : Int32) (c2 : Int32) (c3 : (Nat → Int32)) (c4 : (Nat → Int32)), f9_move_a56_L3 p2 p3 n6 x1 c2 c3 c4 K5 = some res → VC X (lkp r [(52, c2)]) (lkp g [(56, c3), (81, c4)]) u h [(0, .ref (aX X 52)), (1, .ref (aX X 56)), (2, .int p2), (3, .int p3), (4, .int x1)] [] 3 := by
    intro n6
    induction n6 with
    | zero => intro x1 c2 c3 c4 hf; exact no_s hf
    | succ n6 ih =>
      intro x1 c2 c3 c4 hf
      rw [f9_move_a56_L3] at hf
      refine v_iload hX dX9_move_3 4 rfl 5 rfl ?_
      refine v_iload_n hX dX9_move_5 rfl 2 rfl 6 rfl ?_
      refine v_icmp_ge hX dX9_move_6 58 rfl 9 rfl (fun h15 => ?_) (fun h15 => ?_)
      · replace hf := it_p h15 hf
        refine v_sub [] sbn ?_
        exact HK5 _ _ _ _ hf
      · replace hf := it_n h15 hf
        refine v_iload_n hX dX9_move_9 rfl 3 rfl 10 rfl ?_
        obtain ⟨J7, hJ7, hf⟩ := jn_x hf
        have HJ7 : ∀ (c8 : (Nat → Int32)) (c9 : (Nat → Int32)), J7 c8 c9 = some res → VC X (lkp r [(52, c2)]) (lkp g [(56, c8), (81, c9)]) u h [(0, .ref (aX X 52)), (1, .ref (aX X 56)), (2, .int p2), (3, .int p3), (4, .int x1)] [] 42 := by
          intro c8 c9 hf
          rw [hJ7] at hf
          refine v_aload_n hX dX9_move_42 rfl 0 rfl 43 rfl ?_
          refine v_dup hX dX9_move_43 rfl 44 rfl ?_
          refine gf_52_54 hX q_1245 dX9_move_44 (c2) rfl 47 rfl ?_
          refine v_iconst (v := (1 : Int32)) hX dX9_move_47 (by decide) 48 rfl ?_
          refine v_iadd hX dX9_move_48 49 rfl ?_
          refine pf_52_54 hX q_1245 dX9_move_49 52 rfl [(52, (c2 + (1 : Int32)))] rfl ?_
          refine v_inc (c := (1 : Int32)) hX dX9_move_52 4 rfl (by decide) (ltn hn (by decide)) 55 rfl [(4, .int (x1 + (1 : Int32))), (0, .ref (aX X 52)), (1, .ref (aX X 56)), (2, .int p2), (3, .int p3)] rfl ?_
          refine v_goto hX dX9_move_55 3 rfl ?_
          refine v_sub [(0, .ref (aX X 52)), (1, .ref (aX X 56)), (2, .int p2), (3, .int p3), (4, .int (x1 + (1 : Int32)))] (sbc 1 rfl (sbc 2 rfl (sbc 3 rfl (sbc 4 rfl (sbc 0 rfl sbn))))) ?_
          exact ih _ _ _ _ hf
        refine v_if_eq hX dX9_move_10 29 rfl 13 rfl (fun h14 => ?_) (fun h14 => ?_)
        · replace hf := it_p h14 hf
          refine v_aload_n hX dX9_move_29 rfl 1 rfl 30 rfl ?_
          refine v_iload hX dX9_move_30 4 rfl 32 rfl ?_
          refine v_aload_n hX dX9_move_32 rfl 0 rfl 33 rfl ?_
          refine gf_52_53 hX q_132 dX9_move_33 36 rfl ?_
          refine v_aload_n hX dX9_move_36 rfl 0 rfl 37 rfl ?_
          refine gf_52_54 hX q_1245 dX9_move_37 (c2) rfl 40 rfl ?_
          obtain ⟨hi10, hf⟩ := gd_e hf
          refine al_81 hX hi10 dX9_move_40 (c4 c2.toNatClampNeg) rfl 41 rfl ?_
          obtain ⟨hi11, hf⟩ := gd_e hf
          refine as_56 hX hi11 dX9_move_41 42 rfl c3 rfl [(56, (upd c3 x1.toNatClampNeg (c4 c2.toNatClampNeg))), (81, c4)] rfl ?_
          exact HJ7 _ _ hf
        · replace hf := it_n h14 hf
          refine v_aload_n hX dX9_move_13 rfl 0 rfl 14 rfl ?_
          refine gf_52_53 hX q_132 dX9_move_14 17 rfl ?_
          refine v_aload_n hX dX9_move_17 rfl 0 rfl 18 rfl ?_
          refine gf_52_54 hX q_1245 dX9_move_18 (c2) rfl 21 rfl ?_
          refine v_aload_n hX dX9_move_21 rfl 1 rfl 22 rfl ?_
          refine v_iload hX dX9_move_22 4 rfl 24 rfl ?_
          obtain ⟨hi12, hf⟩ := gd_e hf
          refine al_56 hX hi12 dX9_move_24 (c3 x1.toNatClampNeg) rfl 25 rfl ?_
          obtain ⟨hi13, hf⟩ := gd_e hf
          refine as_81 hX hi13 dX9_move_25 26 rfl c4 rfl [(56, c3), (81, (upd c4 c2.toNatClampNeg (c3 x1.toNatClampNeg)))] rfl ?_
          refine v_goto hX dX9_move_26 42 rfl ?_
          exact HJ7 _ _ hf
  refine v_sub [(0, .ref (aX X 52)), (1, .ref (aX X 56)), (2, .int p2), (3, .int p3), (4, .int (0 : Int32))] (sbc 1 rfl (sbc 2 rfl (sbc 3 rfl (sbc 4 rfl (sbc 0 rfl sbn))))) ?_
  exact HLK5 _ _ _ _ _ hf
set_option maxRecDepth 100000 in
set_option maxHeartbeats 4000000 in
theorem c9_move_a57 (r : Nat → Int32) (g : Nat → Nat → Int32) (u : Nat → Int64) (h : Nat → Nat → Int64) (p2 : Int32) (p3 : Int32) {res : Int32 × (Nat → Int32) × (Nat → Int32)} (hf : f9_move_a57 (r 52) (g 57) (g 81) p2 p3 = some res) : MAv yX9_move cX9_move 5 none 0 (fun a => [.ref (a 52), .ref (a 57), .int p2, .int p3]) r g u h (lkp r [(52, res.1)]) (lkp g [(57, res.2.1), (81, res.2.2)]) u h := by
  refine mi_v (by decide +kernel) (fun a => Nat.le_of_ble_eq_true rfl) (fun X hX hn hR => ?_)
  replace hR : ∀ q : Int32 × (Nat → Int32) × (Nat → Int32), some q = some res → ∀ lv pc, decode cX9_move pc = .ok (.return_, 1) → VC X (lkp r [(52, q.1)]) (lkp g [(57, q.2.1), (81, q.2.2)]) u h lv [] pc := fun q hq => by cases hq; exact hR
  replace hX : CX X RX9 cX9_move 0 := hX
  refine v_opr [52] [(52, r 52)] rfl ?_
  refine v_opg [57, 81] [(57, g 57), (81, g 81)] rfl ?_
  show VC X (lkp r [(52, r 52)]) (lkp g [(57, g 57), (81, g 81)]) u h [(0, .ref (aX X 52)), (1, .ref (aX X 57)), (2, .int p2), (3, .int p3)] [] 0
  rw [f9_move_a57] at hf
  refine v_iconst (v := (0 : Int32)) hX dX9_move_0 (by decide) 1 rfl ?_
  refine v_istore hX dX9_move_1 (ltn hn (by decide)) 3 rfl [(4, .int (0 : Int32)), (0, .ref (aX X 52)), (1, .ref (aX X 57)), (2, .int p2), (3, .int p3)] rfl ?_
  obtain ⟨K5, hK5, hf⟩ := jn_x hf
  have HK5 : ∀ (x1 : Int32) (c2 : Int32) (c3 : (Nat → Int32)) (c4 : (Nat → Int32)), K5 x1 c2 c3 c4 = some res → VC X (lkp r [(52, c2)]) (lkp g [(57, c3), (81, c4)]) u h [] [] 58 := by
    intro x1 c2 c3 c4 hf
    rw [hK5] at hf
    exact hR _ hf _ _ dX9_move_58
  have HLK5 : ∀ (n6 : Nat) (x1 : Int32) (c2 : Int32) (c3 : (Nat → Int32)) (c4 : (Nat → Int32)), f9_move_a57_L3 p2 p3 n6 x1 c2 c3 c4 K5 = some res → VC X (lkp r [(52, c2)]) (lkp g [(57, c3), (81, c4)]) u h [(0, .ref (aX X 52)), (1, .ref (aX X 57)), (2, .int p2), (3, .int p3), (4, .int x1)] [] 3 := by
    intro n6
    induction n6 with
    | zero => intro x1 c2 c3 c4 hf; exact no_s hf
    | succ n6 ih =>
      intro x1 c2 c3 c4 hf
      rw [f9_move_a57_L3] at hf
      refine v_iload hX dX9_move_3 4 rfl 5 rfl ?_
      refine v_iload_n hX dX9_move_5 rfl 2 rfl 6 rfl ?_
      refine v_icmp_ge hX dX9_move_6 58 rfl 9 rfl (fun h15 => ?_) (fun h15 => ?_)
      · replace hf := it_p h15 hf
        refine v_sub [] sbn ?_
        exact HK5 _ _ _ _ hf
      · replace hf := it_n h15 hf
        refine v_iload_n hX dX9_move_9 rfl 3 rfl 10 rfl ?_
        obtain ⟨J7, hJ7, hf⟩ := jn_x hf
        have HJ7 : ∀ (c8 : (Nat → Int32)) (c9 : (Nat → Int32)), J7 c8 c9 = some res → VC X (lkp r [(52, c2)]) (lkp g [(57, c8), (81, c9)]) u h [(0, .ref (aX X 52)), (1, .ref (aX X 57)), (2, .int p2), (3, .int p3), (4, .int x1)] [] 42 := by
          intro c8 c9 hf
          rw [hJ7] at hf
          refine v_aload_n hX dX9_move_42 rfl 0 rfl 43 rfl ?_
          refine v_dup hX dX9_move_43 rfl 44 rfl ?_
          refine gf_52_54 hX q_1245 dX9_move_44 (c2) rfl 47 rfl ?_
          refine v_iconst (v := (1 : Int32)) hX dX9_move_47 (by decide) 48 rfl ?_
          refine v_iadd hX dX9_move_48 49 rfl ?_
          refine pf_52_54 hX q_1245 dX9_move_49 52 rfl [(52, (c2 + (1 : Int32)))] rfl ?_
          refine v_inc (c := (1 : Int32)) hX dX9_move_52 4 rfl (by decide) (ltn hn (by decide)) 55 rfl [(4, .int (x1 + (1 : Int32))), (0, .ref (aX X 52)), (1, .ref (aX X 57)), (2, .int p2), (3, .int p3)] rfl ?_
          refine v_goto hX dX9_move_55 3 rfl ?_
          refine v_sub [(0, .ref (aX X 52)), (1, .ref (aX X 57)), (2, .int p2), (3, .int p3), (4, .int (x1 + (1 : Int32)))] (sbc 1 rfl (sbc 2 rfl (sbc 3 rfl (sbc 4 rfl (sbc 0 rfl sbn))))) ?_
          exact ih _ _ _ _ hf
        refine v_if_eq hX dX9_move_10 29 rfl 13 rfl (fun h14 => ?_) (fun h14 => ?_)
        · replace hf := it_p h14 hf
          refine v_aload_n hX dX9_move_29 rfl 1 rfl 30 rfl ?_
          refine v_iload hX dX9_move_30 4 rfl 32 rfl ?_
          refine v_aload_n hX dX9_move_32 rfl 0 rfl 33 rfl ?_
          refine gf_52_53 hX q_132 dX9_move_33 36 rfl ?_
          refine v_aload_n hX dX9_move_36 rfl 0 rfl 37 rfl ?_
          refine gf_52_54 hX q_1245 dX9_move_37 (c2) rfl 40 rfl ?_
          obtain ⟨hi10, hf⟩ := gd_e hf
          refine al_81 hX hi10 dX9_move_40 (c4 c2.toNatClampNeg) rfl 41 rfl ?_
          obtain ⟨hi11, hf⟩ := gd_e hf
          refine as_57 hX hi11 dX9_move_41 42 rfl c3 rfl [(57, (upd c3 x1.toNatClampNeg (c4 c2.toNatClampNeg))), (81, c4)] rfl ?_
          exact HJ7 _ _ hf
        · replace hf := it_n h14 hf
          refine v_aload_n hX dX9_move_13 rfl 0 rfl 14 rfl ?_
          refine gf_52_53 hX q_132 dX9_move_14 17 rfl ?_
          refine v_aload_n hX dX9_move_17 rfl 0 rfl 18 rfl ?_
          refine gf_52_54 hX q_1245 dX9_move_18 (c2) rfl 21 rfl ?_
          refine v_aload_n hX dX9_move_21 rfl 1 rfl 22 rfl ?_
          refine v_iload hX dX9_move_22 4 rfl 24 rfl ?_
          obtain ⟨hi12, hf⟩ := gd_e hf
          refine al_57 hX hi12 dX9_move_24 (c3 x1.toNatClampNeg) rfl 25 rfl ?_
          obtain ⟨hi13, hf⟩ := gd_e hf
          refine as_81 hX hi13 dX9_move_25 26 rfl c4 rfl [(57, c3), (81, (upd c4 c2.toNatClampNeg (c3 x1.toNatClampNeg)))] rfl ?_
          refine v_goto hX dX9_move_26 42 rfl ?_
          exact HJ7 _ _ hf
  refine v_sub [(0, .ref (aX X 52)), (1, .ref (aX X 57)), (2, .int p2), (3, .int p3), (4, .int (0 : Int32))] (sbc 1 rfl (sbc 2 rfl (sbc 3 rfl (sbc 4 rfl (sbc 0 rfl sbn))))) ?_
  exact HLK5 _ _ _ _ _ hf
set_option maxRecDepth 100000 in
set_option maxHeartbeats 4000000 in
theorem c9_move_a58 (r : Nat → Int32) (g : Nat → Nat → Int32) (u : Nat → Int64) (h : Nat → Nat → Int64) (p2 : Int32) (p3 : Int32) {res : Int32 × (Nat → Int32) × (Nat → Int32)} (hf : f9_move_a58 (r 52) (g 58) (g 81) p2 p3 = some res) : MAv yX9_move cX9_move 5 none 0 (fun a => [.ref (a 52), .ref (a 58), .int p2, .int p3]) r g u h (lkp r [(52, res.1)]) (lkp g [(58, res.2.1), (81, res.2.2)]) u h := by
  refine mi_v (by decide +kernel) (fun a => Nat.le_of_ble_eq_true rfl) (fun X hX hn hR => ?_)
  replace hR : ∀ q : Int32 × (Nat → Int32) × (Nat → Int32), some q = some res → ∀ lv pc, decode cX9_move pc = .ok (.return_, 1) → VC X (lkp r [(52, q.1)]) (lkp g [(58, q.2.1), (81, q.2.2)]) u h lv [] pc := fun q hq => by cases hq; exact hR
  replace hX : CX X RX9 cX9_move 0 := hX
  refine v_opr [52] [(52, r 52)] rfl ?_
  refine v_opg [58, 81] [(58, g 58), (81, g 81)] rfl ?_
  show VC X (lkp r [(52, r 52)]) (lkp g [(58, g 58), (81, g 81)]) u h [(0, .ref (aX X 52)), (1, .ref (aX X 58)), (2, .int p2), (3, .int p3)] [] 0
  rw [f9_move_a58] at hf
  refine v_iconst (v := (0 : Int32)) hX dX9_move_0 (by decide) 1 rfl ?_
  refine v_istore hX dX9_move_1 (ltn hn (by decide)) 3 rfl [(4, .int (0 : Int32)), (0, .ref (aX X 52)), (1, .ref (aX X 58)), (2, .int p2), (3, .int p3)] rfl ?_
  obtain ⟨K5, hK5, hf⟩ := jn_x hf
  have HK5 : ∀ (x1 : Int32) (c2 : Int32) (c3 : (Nat → Int32)) (c4 : (Nat → Int32)), K5 x1 c2 c3 c4 = some res → VC X (lkp r [(52, c2)]) (lkp g [(58, c3), (81, c4)]) u h [] [] 58 := by
    intro x1 c2 c3 c4 hf
    rw [hK5] at hf
    exact hR _ hf _ _ dX9_move_58
  have HLK5 : ∀ (n6 : Nat) (x1 : Int32) (c2 : Int32) (c3 : (Nat → Int32)) (c4 : (Nat → Int32)), f9_move_a58_L3 p2 p3 n6 x1 c2 c3 c4 K5 = some res → VC X (lkp r [(52, c2)]) (lkp g [(58, c3), (81, c4)]) u h [(0, .ref (aX X 52)), (1, .ref (aX X 58)), (2, .int p2), (3, .int p3), (4, .int x1)] [] 3 := by
    intro n6
    induction n6 with
    | zero => intro x1 c2 c3 c4 hf; exact no_s hf
    | succ n6 ih =>
      intro x1 c2 c3 c4 hf
      rw [f9_move_a58_L3] at hf
      refine v_iload hX dX9_move_3 4 rfl 5 rfl ?_
      refine v_iload_n hX dX9_move_5 rfl 2 rfl 6 rfl ?_
      refine v_icmp_ge hX dX9_move_6 58 rfl 9 rfl (fun h15 => ?_) (fun h15 => ?_)
      · replace hf := it_p h15 hf
        refine v_sub [] sbn ?_
        exact HK5 _ _ _ _ hf
      · replace hf := it_n h15 hf
        refine v_iload_n hX dX9_move_9 rfl 3 rfl 10 rfl ?_
        obtain ⟨J7, hJ7, hf⟩ := jn_x hf
        have HJ7 : ∀ (c8 : (Nat → Int32)) (c9 : (Nat → Int32)), J7 c8 c9 = some res → VC X (lkp r [(52, c2)]) (lkp g [(58, c8), (81, c9)]) u h [(0, .ref (aX X 52)), (1, .ref (aX X 58)), (2, .int p2), (3, .int p3), (4, .int x1)] [] 42 := by
          intro c8 c9 hf
          rw [hJ7] at hf
          refine v_aload_n hX dX9_move_42 rfl 0 rfl 43 rfl ?_
          refine v_dup hX dX9_move_43 rfl 44 rfl ?_
          refine gf_52_54 hX q_1245 dX9_move_44 (c2) rfl 47 rfl ?_
          refine v_iconst (v := (1 : Int32)) hX dX9_move_47 (by decide) 48 rfl ?_
          refine v_iadd hX dX9_move_48 49 rfl ?_
          refine pf_52_54 hX q_1245 dX9_move_49 52 rfl [(52, (c2 + (1 : Int32)))] rfl ?_
          refine v_inc (c := (1 : Int32)) hX dX9_move_52 4 rfl (by decide) (ltn hn (by decide)) 55 rfl [(4, .int (x1 + (1 : Int32))), (0, .ref (aX X 52)), (1, .ref (aX X 58)), (2, .int p2), (3, .int p3)] rfl ?_
          refine v_goto hX dX9_move_55 3 rfl ?_
          refine v_sub [(0, .ref (aX X 52)), (1, .ref (aX X 58)), (2, .int p2), (3, .int p3), (4, .int (x1 + (1 : Int32)))] (sbc 1 rfl (sbc 2 rfl (sbc 3 rfl (sbc 4 rfl (sbc 0 rfl sbn))))) ?_
          exact ih _ _ _ _ hf
        refine v_if_eq hX dX9_move_10 29 rfl 13 rfl (fun h14 => ?_) (fun h14 => ?_)
        · replace hf := it_p h14 hf
          refine v_aload_n hX dX9_move_29 rfl 1 rfl 30 rfl ?_
          refine v_iload hX dX9_move_30 4 rfl 32 rfl ?_
          refine v_aload_n hX dX9_move_32 rfl 0 rfl 33 rfl ?_
          refine gf_52_53 hX q_132 dX9_move_33 36 rfl ?_
          refine v_aload_n hX dX9_move_36 rfl 0 rfl 37 rfl ?_
          refine gf_52_54 hX q_1245 dX9_move_37 (c2) rfl 40 rfl ?_
          obtain ⟨hi10, hf⟩ := gd_e hf
          refine al_81 hX hi10 dX9_move_40 (c4 c2.toNatClampNeg) rfl 41 rfl ?_
          obtain ⟨hi11, hf⟩ := gd_e hf
          refine as_58 hX hi11 dX9_move_41 42 rfl c3 rfl [(58, (upd c3 x1.toNatClampNeg (c4 c2.toNatClampNeg))), (81, c4)] rfl ?_
          exact HJ7 _ _ hf
        · replace hf := it_n h14 hf
          refine v_aload_n hX dX9_move_13 rfl 0 rfl 14 rfl ?_
          refine gf_52_53 hX q_132 dX9_move_14 17 rfl ?_
          refine v_aload_n hX dX9_move_17 rfl 0 rfl 18 rfl ?_
          refine gf_52_54 hX q_1245 dX9_move_18 (c2) rfl 21 rfl ?_
          refine v_aload_n hX dX9_move_21 rfl 1 rfl 22 rfl ?_
          refine v_iload hX dX9_move_22 4 rfl 24 rfl ?_
          obtain ⟨hi12, hf⟩ := gd_e hf
          refine al_58 hX hi12 dX9_move_24 (c3 x1.toNatClampNeg) rfl 25 rfl ?_
          obtain ⟨hi13, hf⟩ := gd_e hf
          refine as_81 hX hi13 dX9_move_25 26 rfl c4 rfl [(58, c3), (81, (upd c4 c2.toNatClampNeg (c3 x1.toNatClampNeg)))] rfl ?_
          refine v_goto hX dX9_move_26 42 rfl ?_
          exact HJ7 _ _ hf
  refine v_sub [(0, .ref (aX X 52)), (1, .ref (aX X 58)), (2, .int p2), (3, .int p3), (4, .int (0 : Int32))] (sbc 1 rfl (sbc 2 rfl (sbc 3 rfl (sbc 4 rfl (sbc 0 rfl sbn))))) ?_
  exact HLK5 _ _ _ _ _ hf
set_option maxRecDepth 100000 in
set_option maxHeartbeats 4000000 in
theorem c9_move_a60 (r : Nat → Int32) (g : Nat → Nat → Int32) (u : Nat → Int64) (h : Nat → Nat → Int64) (p2 : Int32) (p3 : Int32) {res : Int32 × (Nat → Int32) × (Nat → Int32)} (hf : f9_move_a60 (r 52) (g 60) (g 81) p2 p3 = some res) : MAv yX9_move cX9_move 5 none 0 (fun a => [.ref (a 52), .ref (a 60), .int p2, .int p3]) r g u h (lkp r [(52, res.1)]) (lkp g [(60, res.2.1), (81, res.2.2)]) u h := by
  refine mi_v (by decide +kernel) (fun a => Nat.le_of_ble_eq_true rfl) (fun X hX hn hR => ?_)
  replace hR : ∀ q : Int32 × (Nat → Int32) × (Nat → Int32), some q = some res → ∀ lv pc, decode cX9_move pc = .ok (.return_, 1) → VC X (lkp r [(52, q.1)]) (lkp g [(60, q.2.1), (81, q.2.2)]) u h lv [] pc := fun q hq => by cases hq; exact hR
  replace hX : CX X RX9 cX9_move 0 := hX
  refine v_opr [52] [(52, r 52)] rfl ?_
  refine v_opg [60, 81] [(60, g 60), (81, g 81)] rfl ?_
  show VC X (lkp r [(52, r 52)]) (lkp g [(60, g 60), (81, g 81)]) u h [(0, .ref (aX X 52)), (1, .ref (aX X 60)), (2, .int p2), (3, .int p3)] [] 0
  rw [f9_move_a60] at hf
  refine v_iconst (v := (0 : Int32)) hX dX9_move_0 (by decide) 1 rfl ?_
  refine v_istore hX dX9_move_1 (ltn hn (by decide)) 3 rfl [(4, .int (0 : Int32)), (0, .ref (aX X 52)), (1, .ref (aX X 60)), (2, .int p2), (3, .int p3)] rfl ?_
  obtain ⟨K5, hK5, hf⟩ := jn_x hf
  have HK5 : ∀ (x1 : Int32) (c2 : Int32) (c3 : (Nat → Int32)) (c4 : (Nat → Int32)), K5 x1 c2 c3 c4 = some res → VC X (lkp r [(52, c2)]) (lkp g [(60, c3), (81, c4)]) u h [] [] 58 := by
    intro x1 c2 c3 c4 hf
    rw [hK5] at hf
    exact hR _ hf _ _ dX9_move_58
  have HLK5 : ∀ (n6 : Nat) (x1 : Int32) (c2 : Int32) (c3 : (Nat → Int32)) (c4 : (Nat → Int32)), f9_move_a60_L3 p2 p3 n6 x1 c2 c3 c4 K5 = some res → VC X (lkp r [(52, c2)]) (lkp g [(60, c3), (81, c4)]) u h [(0, .ref (aX X 52)), (1, .ref (aX X 60)), (2, .int p2), (3, .int p3), (4, .int x1)] [] 3 := by
    intro n6
    induction n6 with
    | zero => intro x1 c2 c3 c4 hf; exact no_s hf
    | succ n6 ih =>
      intro x1 c2 c3 c4 hf
      rw [f9_move_a60_L3] at hf
      refine v_iload hX dX9_move_3 4 rfl 5 rfl ?_
      refine v_iload_n hX dX9_move_5 rfl 2 rfl 6 rfl ?_
      refine v_icmp_ge hX dX9_move_6 58 rfl 9 rfl (fun h15 => ?_) (fun h15 => ?_)
      · replace hf := it_p h15 hf
        refine v_sub [] sbn ?_
        exact HK5 _ _ _ _ hf
      · replace hf := it_n h15 hf
        refine v_iload_n hX dX9_move_9 rfl 3 rfl 10 rfl ?_
        obtain ⟨J7, hJ7, hf⟩ := jn_x hf
        have HJ7 : ∀ (c8 : (Nat → Int32)) (c9 : (Nat → Int32)), J7 c8 c9 = some res → VC X (lkp r [(52, c2)]) (lkp g [(60, c8), (81, c9)]) u h [(0, .ref (aX X 52)), (1, .ref (aX X 60)), (2, .int p2), (3, .int p3), (4, .int x1)] [] 42 := by
          intro c8 c9 hf
          rw [hJ7] at hf
          refine v_aload_n hX dX9_move_42 rfl 0 rfl 43 rfl ?_
          refine v_dup hX dX9_move_43 rfl 44 rfl ?_
          refine gf_52_54 hX q_1245 dX9_move_44 (c2) rfl 47 rfl ?_
          refine v_iconst (v := (1 : Int32)) hX dX9_move_47 (by decide) 48 rfl ?_
          refine v_iadd hX dX9_move_48 49 rfl ?_
          refine pf_52_54 hX q_1245 dX9_move_49 52 rfl [(52, (c2 + (1 : Int32)))] rfl ?_
          refine v_inc (c := (1 : Int32)) hX dX9_move_52 4 rfl (by decide) (ltn hn (by decide)) 55 rfl [(4, .int (x1 + (1 : Int32))), (0, .ref (aX X 52)), (1, .ref (aX X 60)), (2, .int p2), (3, .int p3)] rfl ?_
          refine v_goto hX dX9_move_55 3 rfl ?_
          refine v_sub [(0, .ref (aX X 52)), (1, .ref (aX X 60)), (2, .int p2), (3, .int p3), (4, .int (x1 + (1 : Int32)))] (sbc 1 rfl (sbc 2 rfl (sbc 3 rfl (sbc 4 rfl (sbc 0 rfl sbn))))) ?_
          exact ih _ _ _ _ hf
        refine v_if_eq hX dX9_move_10 29 rfl 13 rfl (fun h14 => ?_) (fun h14 => ?_)
        · replace hf := it_p h14 hf
          refine v_aload_n hX dX9_move_29 rfl 1 rfl 30 rfl ?_
          refine v_iload hX dX9_move_30 4 rfl 32 rfl ?_
          refine v_aload_n hX dX9_move_32 rfl 0 rfl 33 rfl ?_
          refine gf_52_53 hX q_132 dX9_move_33 36 rfl ?_
          refine v_aload_n hX dX9_move_36 rfl 0 rfl 37 rfl ?_
          refine gf_52_54 hX q_1245 dX9_move_37 (c2) rfl 40 rfl ?_
          obtain ⟨hi10, hf⟩ := gd_e hf
          refine al_81 hX hi10 dX9_move_40 (c4 c2.toNatClampNeg) rfl 41 rfl ?_
          obtain ⟨hi11, hf⟩ := gd_e hf
          refine as_60 hX hi11 dX9_move_41 42 rfl c3 rfl [(60, (upd c3 x1.toNatClampNeg (c4 c2.toNatClampNeg))), (81, c4)] rfl ?_
          exact HJ7 _ _ hf
        · replace hf := it_n h14 hf
          refine v_aload_n hX dX9_move_13 rfl 0 rfl 14 rfl ?_
          refine gf_52_53 hX q_132 dX9_move_14 17 rfl ?_
          refine v_aload_n hX dX9_move_17 rfl 0 rfl 18 rfl ?_
          refine gf_52_54 hX q_1245 dX9_move_18 (c2) rfl 21 rfl ?_
          refine v_aload_n hX dX9_move_21 rfl 1 rfl 22 rfl ?_
          refine v_iload hX dX9_move_22 4 rfl 24 rfl ?_
          obtain ⟨hi12, hf⟩ := gd_e hf
          refine al_60 hX hi12 dX9_move_24 (c3 x1.toNatClampNeg) rfl 25 rfl ?_
          obtain ⟨hi13, hf⟩ := gd_e hf
          refine as_81 hX hi13 dX9_move_25 26 rfl c4 rfl [(60, c3), (81, (upd c4 c2.toNatClampNeg (c3 x1.toNatClampNeg)))] rfl ?_
          refine v_goto hX dX9_move_26 42 rfl ?_
          exact HJ7 _ _ hf
  refine v_sub [(0, .ref (aX X 52)), (1, .ref (aX X 60)), (2, .int p2), (3, .int p3), (4, .int (0 : Int32))] (sbc 1 rfl (sbc 2 rfl (sbc 3 rfl (sbc 4 rfl (sbc 0 rfl sbn))))) ?_
  exact HLK5 _ _ _ _ _ hf
set_option maxRecDepth 100000 in
set_option maxHeartbeats 4000000 in
theorem c9_move_a61 (r : Nat → Int32) (g : Nat → Nat → Int32) (u : Nat → Int64) (h : Nat → Nat → Int64) (p2 : Int32) (p3 : Int32) {res : Int32 × (Nat → Int32) × (Nat → Int32)} (hf : f9_move_a61 (r 52) (g 61) (g 81) p2 p3 = some res) : MAv yX9_move cX9_move 5 none 0 (fun a => [.ref (a 52), .ref (a 61), .int p2, .int p3]) r g u h (lkp r [(52, res.1)]) (lkp g [(61, res.2.1), (81, res.2.2)]) u h := by
  refine mi_v (by decide +kernel) (fun a => Nat.le_of_ble_eq_true rfl) (fun X hX hn hR => ?_)
  replace hR : ∀ q : Int32 × (Nat → Int32) × (Nat → Int32), some q = some res → ∀ lv pc, decode cX9_move pc = .ok (.return_, 1) → VC X (lkp r [(52, q.1)]) (lkp g [(61, q.2.1), (81, q.2.2)]) u h lv [] pc := fun q hq => by cases hq; exact hR
  replace hX : CX X RX9 cX9_move 0 := hX
  refine v_opr [52] [(52, r 52)] rfl ?_
  refine v_opg [61, 81] [(61, g 61), (81, g 81)] rfl ?_
  show VC X (lkp r [(52, r 52)]) (lkp g [(61, g 61), (81, g 81)]) u h [(0, .ref (aX X 52)), (1, .ref (aX X 61)), (2, .int p2), (3, .int p3)] [] 0
  rw [f9_move_a61] at hf
  refine v_iconst (v := (0 : Int32)) hX dX9_move_0 (by decide) 1 rfl ?_
  refine v_istore hX dX9_move_1 (ltn hn (by decide)) 3 rfl [(4, .int (0 : Int32)), (0, .ref (aX X 52)), (1, .ref (aX X 61)), (2, .int p2), (3, .int p3)] rfl ?_
  obtain ⟨K5, hK5, hf⟩ := jn_x hf
  have HK5 : ∀ (x1 : Int32) (c2 : Int32) (c3 : (Nat → Int32)) (c4 : (Nat → Int32)), K5 x1 c2 c3 c4 = some res → VC X (lkp r [(52, c2)]) (lkp g [(61, c3), (81, c4)]) u h [] [] 58 := by
    intro x1 c2 c3 c4 hf
    rw [hK5] at hf
    exact hR _ hf _ _ dX9_move_58
  have HLK5 : ∀ (n6 : Nat) (x1 : Int32) (c2 : Int32) (c3 : (Nat → Int32)) (c4 : (Nat → Int32)), f9_move_a61_L3 p2 p3 n6 x1 c2 c3 c4 K5 = some res → VC X (lkp r [(52, c2)]) (lkp g [(61, c3), (81, c4)]) u h [(0, .ref (aX X 52)), (1, .ref (aX X 61)), (2, .int p2), (3, .int p3), (4, .int x1)] [] 3 := by
    intro n6
    induction n6 with
    | zero => intro x1 c2 c3 c4 hf; exact no_s hf
    | succ n6 ih =>
      intro x1 c2 c3 c4 hf
      rw [f9_move_a61_L3] at hf
      refine v_iload hX dX9_move_3 4 rfl 5 rfl ?_
      refine v_iload_n hX dX9_move_5 rfl 2 rfl 6 rfl ?_
      refine v_icmp_ge hX dX9_move_6 58 rfl 9 rfl (fun h15 => ?_) (fun h15 => ?_)
      · replace hf := it_p h15 hf
        refine v_sub [] sbn ?_
        exact HK5 _ _ _ _ hf
      · replace hf := it_n h15 hf
        refine v_iload_n hX dX9_move_9 rfl 3 rfl 10 rfl ?_
        obtain ⟨J7, hJ7, hf⟩ := jn_x hf
        have HJ7 : ∀ (c8 : (Nat → Int32)) (c9 : (Nat → Int32)), J7 c8 c9 = some res → VC X (lkp r [(52, c2)]) (lkp g [(61, c8), (81, c9)]) u h [(0, .ref (aX X 52)), (1, .ref (aX X 61)), (2, .int p2), (3, .int p3), (4, .int x1)] [] 42 := by
          intro c8 c9 hf
          rw [hJ7] at hf
          refine v_aload_n hX dX9_move_42 rfl 0 rfl 43 rfl ?_
          refine v_dup hX dX9_move_43 rfl 44 rfl ?_
          refine gf_52_54 hX q_1245 dX9_move_44 (c2) rfl 47 rfl ?_
          refine v_iconst (v := (1 : Int32)) hX dX9_move_47 (by decide) 48 rfl ?_
          refine v_iadd hX dX9_move_48 49 rfl ?_
          refine pf_52_54 hX q_1245 dX9_move_49 52 rfl [(52, (c2 + (1 : Int32)))] rfl ?_
          refine v_inc (c := (1 : Int32)) hX dX9_move_52 4 rfl (by decide) (ltn hn (by decide)) 55 rfl [(4, .int (x1 + (1 : Int32))), (0, .ref (aX X 52)), (1, .ref (aX X 61)), (2, .int p2), (3, .int p3)] rfl ?_
          refine v_goto hX dX9_move_55 3 rfl ?_
          refine v_sub [(0, .ref (aX X 52)), (1, .ref (aX X 61)), (2, .int p2), (3, .int p3), (4, .int (x1 + (1 : Int32)))] (sbc 1 rfl (sbc 2 rfl (sbc 3 rfl (sbc 4 rfl (sbc 0 rfl sbn))))) ?_
          exact ih _ _ _ _ hf
        refine v_if_eq hX dX9_move_10 29 rfl 13 rfl (fun h14 => ?_) (fun h14 => ?_)
        · replace hf := it_p h14 hf
          refine v_aload_n hX dX9_move_29 rfl 1 rfl 30 rfl ?_
          refine v_iload hX dX9_move_30 4 rfl 32 rfl ?_
          refine v_aload_n hX dX9_move_32 rfl 0 rfl 33 rfl ?_
          refine gf_52_53 hX q_132 dX9_move_33 36 rfl ?_
          refine v_aload_n hX dX9_move_36 rfl 0 rfl 37 rfl ?_
          refine gf_52_54 hX q_1245 dX9_move_37 (c2) rfl 40 rfl ?_
          obtain ⟨hi10, hf⟩ := gd_e hf
          refine al_81 hX hi10 dX9_move_40 (c4 c2.toNatClampNeg) rfl 41 rfl ?_
          obtain ⟨hi11, hf⟩ := gd_e hf
          refine as_61 hX hi11 dX9_move_41 42 rfl c3 rfl [(61, (upd c3 x1.toNatClampNeg (c4 c2.toNatClampNeg))), (81, c4)] rfl ?_
          exact HJ7 _ _ hf
        · replace hf := it_n h14 hf
          refine v_aload_n hX dX9_move_13 rfl 0 rfl 14 rfl ?_
          refine gf_52_53 hX q_132 dX9_move_14 17 rfl ?_
          refine v_aload_n hX dX9_move_17 rfl 0 rfl 18 rfl ?_
          refine gf_52_54 hX q_1245 dX9_move_18 (c2) rfl 21 rfl ?_
          refine v_aload_n hX dX9_move_21 rfl 1 rfl 22 rfl ?_
          refine v_iload hX dX9_move_22 4 rfl 24 rfl ?_
          obtain ⟨hi12, hf⟩ := gd_e hf
          refine al_61 hX hi12 dX9_move_24 (c3 x1.toNatClampNeg) rfl 25 rfl ?_
          obtain ⟨hi13, hf⟩ := gd_e hf
          refine as_81 hX hi13 dX9_move_25 26 rfl c4 rfl [(61, c3), (81, (upd c4 c2.toNatClampNeg (c3 x1.toNatClampNeg)))] rfl ?_
          refine v_goto hX dX9_move_26 42 rfl ?_
          exact HJ7 _ _ hf
  refine v_sub [(0, .ref (aX X 52)), (1, .ref (aX X 61)), (2, .int p2), (3, .int p3), (4, .int (0 : Int32))] (sbc 1 rfl (sbc 2 rfl (sbc 3 rfl (sbc 4 rfl (sbc 0 rfl sbn))))) ?_
  exact HLK5 _ _ _ _ _ hf
set_option maxRecDepth 100000 in
set_option maxHeartbeats 4000000 in
theorem c9_moveAll (r : Nat → Int32) (g : Nat → Nat → Int32) (u : Nat → Int64) (h : Nat → Nat → Int64) (p1 : Int32) {res : Int32 × (Nat → Int32) × (Nat → Int32) × (Nat → Int32) × (Nat → Int32) × (Nat → Int32) × (Nat → Int32) × (Nat → Int32) × (Nat → Int32) × (Nat → Int32) × (Nat → Int32)} (hf : f9_moveAll (r 31) (r 32) (r 52) (r 30) (r 33) (g 57) (g 60) (g 55) (g 81) (g 58) (g 56) (g 61) (g 82) (g 53) (g 54) p1 = some res) : MAv yX9_moveAll cX9_moveAll 2 none 1 (fun a => [.ref (a 52), .int p1]) r g u h (lkp r [(52, res.1)]) (lkp g [(57, res.2.1), (60, res.2.2.1), (55, res.2.2.2.1), (81, res.2.2.2.2.1), (58, res.2.2.2.2.2.1), (56, res.2.2.2.2.2.2.1), (61, res.2.2.2.2.2.2.2.1), (82, res.2.2.2.2.2.2.2.2.1), (53, res.2.2.2.2.2.2.2.2.2.1), (54, res.2.2.2.2.2.2.2.2.2.2)]) u h := by
  refine mi_v (by decide +kernel) (fun a => Nat.le_of_ble_eq_true rfl) (fun X hX hn hR => ?_)
  replace hR : ∀ q : Int32 × (Nat → Int32) × (Nat → Int32) × (Nat → Int32) × (Nat → Int32) × (Nat → Int32) × (Nat → Int32) × (Nat → Int32) × (Nat → Int32) × (Nat → Int32) × (Nat → Int32), some q = some res → ∀ lv pc, decode cX9_moveAll pc = .ok (.return_, 1) → VC X (lkp r [(52, q.1)]) (lkp g [(57, q.2.1), (60, q.2.2.1), (55, q.2.2.2.1), (81, q.2.2.2.2.1), (58, q.2.2.2.2.2.1), (56, q.2.2.2.2.2.2.1), (61, q.2.2.2.2.2.2.2.1), (82, q.2.2.2.2.2.2.2.2.1), (53, q.2.2.2.2.2.2.2.2.2.1), (54, q.2.2.2.2.2.2.2.2.2.2)]) u h lv [] pc := fun q hq => by cases hq; exact hR
  replace hX : CX X RX9 cX9_moveAll 1 := hX
  refine v_opr [52] [(52, r 52)] rfl ?_
  refine v_opg [57, 60, 55, 81, 58, 56, 61, 82, 53, 54] [(57, g 57), (60, g 60), (55, g 55), (81, g 81), (58, g 58), (56, g 56), (61, g 61), (82, g 82), (53, g 53), (54, g 54)] rfl ?_
  show VC X (lkp r [(52, r 52)]) (lkp g [(57, g 57), (60, g 60), (55, g 55), (81, g 81), (58, g 58), (56, g 56), (61, g 61), (82, g 82), (53, g 53), (54, g 54)]) u h [(0, .ref (aX X 52)), (1, .int p1)] [] 0
  rw [f9_moveAll] at hf
  refine v_aload_n hX dX9_moveAll_0 rfl 0 rfl 1 rfl ?_
  refine v_iconst (v := (0 : Int32)) hX dX9_moveAll_1 (by decide) 2 rfl ?_
  refine pf_52_54 hX q_1245 dX9_moveAll_2 5 rfl [(52, (0 : Int32))] rfl ?_
  refine v_aload_n hX dX9_moveAll_5 rfl 0 rfl 6 rfl ?_
  refine gf_52_55 hX q_133 dX9_moveAll_6 9 rfl ?_
  refine v_iconst (v := (0 : Int32)) hX dX9_moveAll_9 (by decide) 10 rfl ?_
  refine v_aload_n hX dX9_moveAll_10 rfl 0 rfl 11 rfl ?_
  refine gf_52_1 hX q_409 dX9_moveAll_11 ((r 30)) rfl 14 rfl ?_
  obtain ⟨hi1, hf⟩ := gd_e hf
  refine as_82 hX hi1 dX9_moveAll_14 15 rfl (g 82) rfl [(57, (g 57)), (60, (g 60)), (55, (g 55)), (81, (g 81)), (58, (g 58)), (56, (g 56)), (61, (g 61)), (82, (upd (g 82) (0 : Int32).toNatClampNeg (r 30))), (53, (g 53)), (54, (g 54))] rfl ?_
  refine v_aload_n hX dX9_moveAll_15 rfl 0 rfl 16 rfl ?_
  refine gf_52_55 hX q_133 dX9_moveAll_16 19 rfl ?_
  refine v_iconst (v := (1 : Int32)) hX dX9_moveAll_19 (by decide) 20 rfl ?_
  refine v_aload_n hX dX9_moveAll_20 rfl 0 rfl 21 rfl ?_
  refine gf_52_5 hX q_462 dX9_moveAll_21 ((r 31)) rfl 24 rfl ?_
  obtain ⟨hi2, hf⟩ := gd_e hf
  refine as_82 hX hi2 dX9_moveAll_24 25 rfl (upd (g 82) (0 : Int32).toNatClampNeg (r 30)) rfl [(57, (g 57)), (60, (g 60)), (55, (g 55)), (81, (g 81)), (58, (g 58)), (56, (g 56)), (61, (g 61)), (82, (upd (upd (g 82) (0 : Int32).toNatClampNeg (r 30)) (1 : Int32).toNatClampNeg (r 31))), (53, (g 53)), (54, (g 54))] rfl ?_
  refine v_aload_n hX dX9_moveAll_25 rfl 0 rfl 26 rfl ?_
  refine gf_52_55 hX q_133 dX9_moveAll_26 29 rfl ?_
  refine v_iconst (v := (2 : Int32)) hX dX9_moveAll_29 (by decide) 30 rfl ?_
  refine v_aload_n hX dX9_moveAll_30 rfl 0 rfl 31 rfl ?_
  refine gf_52_9 hX q_311 dX9_moveAll_31 ((r 32)) rfl 34 rfl ?_
  obtain ⟨hi3, hf⟩ := gd_e hf
  refine as_82 hX hi3 dX9_moveAll_34 35 rfl (upd (upd (g 82) (0 : Int32).toNatClampNeg (r 30)) (1 : Int32).toNatClampNeg (r 31)) rfl [(57, (g 57)), (60, (g 60)), (55, (g 55)), (81, (g 81)), (58, (g 58)), (56, (g 56)), (61, (g 61)), (82, (upd (upd (upd (g 82) (0 : Int32).toNatClampNeg (r 30)) (1 : Int32).toNatClampNeg (r 31)) (2 : Int32).toNatClampNeg (r 32))), (53, (g 53)), (54, (g 54))] rfl ?_
  refine v_aload_n hX dX9_moveAll_35 rfl 0 rfl 36 rfl ?_
  refine gf_52_55 hX q_133 dX9_moveAll_36 39 rfl ?_
  refine v_iconst (v := (3 : Int32)) hX dX9_moveAll_39 (by decide) 40 rfl ?_
  refine v_aload_n hX dX9_moveAll_40 rfl 0 rfl 41 rfl ?_
  refine gf_52_12 hX q_112 dX9_moveAll_41 ((r 33)) rfl 44 rfl ?_
  obtain ⟨hi4, hf⟩ := gd_e hf
  refine as_82 hX hi4 dX9_moveAll_44 45 rfl (upd (upd (upd (g 82) (0 : Int32).toNatClampNeg (r 30)) (1 : Int32).toNatClampNeg (r 31)) (2 : Int32).toNatClampNeg (r 32)) rfl [(57, (g 57)), (60, (g 60)), (55, (g 55)), (81, (g 81)), (58, (g 58)), (56, (g 56)), (61, (g 61)), (82, (upd (upd (upd (upd (g 82) (0 : Int32).toNatClampNeg (r 30)) (1 : Int32).toNatClampNeg (r 31)) (2 : Int32).toNatClampNeg (r 32)) (3 : Int32).toNatClampNeg (r 33))), (53, (g 53)), (54, (g 54))] rfl ?_
  refine v_aload_n hX dX9_moveAll_45 rfl 0 rfl 46 rfl ?_
  refine v_aload_n hX dX9_moveAll_46 rfl 0 rfl 47 rfl ?_
  refine gf_52_55 hX q_133 dX9_moveAll_47 50 rfl ?_
  refine v_iconst (v := (4 : Int32)) hX dX9_moveAll_50 (by decide) 51 rfl ?_
  refine v_iload_n hX dX9_moveAll_51 rfl 1 rfl 52 rfl ?_
  obtain ⟨c5, c6, c7, hc5, hf⟩ := bn3_e hf
  refine cv_v hX (c9_move_a82 (lkp r [(52, (0 : Int32))]) (lkp g [(57, (g 57)), (60, (g 60)), (55, (g 55)), (81, (g 81)), (58, (g 58)), (56, (g 56)), (61, (g 61)), (82, (upd (upd (upd (upd (g 82) (0 : Int32).toNatClampNeg (r 30)) (1 : Int32).toNatClampNeg (r 31)) (2 : Int32).toNatClampNeg (r 32)) (3 : Int32).toNatClampNeg (r 33))), (53, (g 53)), (54, (g 54))]) u h _ _ hc5) wvX9_move q_1246 rc_52 (Nat.le_of_ble_eq_true rfl) (Nat.le_of_ble_eq_true rfl) (fun _ => rfl) [] rfl (Nat.le_of_ble_eq_true rfl) dX9_moveAll_52 55 rfl ?_
  refine v_mgr [(52, c5)] rfl ?_
  refine v_mgg [(57, (g 57)), (60, (g 60)), (55, (g 55)), (81, c7), (58, (g 58)), (56, (g 56)), (61, (g 61)), (82, c6), (53, (g 53)), (54, (g 54))] rfl ?_
  refine v_aload_n hX dX9_moveAll_55 rfl 0 rfl 56 rfl ?_
  refine v_aload_n hX dX9_moveAll_56 rfl 0 rfl 57 rfl ?_
  refine gf_52_0 hX q_103 dX9_moveAll_57 60 rfl ?_
  refine v_iconst (v := (4 : Int32)) hX dX9_moveAll_60 (by decide) 61 rfl ?_
  refine v_iload_n hX dX9_moveAll_61 rfl 1 rfl 62 rfl ?_
  obtain ⟨c8, c9, c10, hc8, hf⟩ := bn3_e hf
  refine cv_v hX (c9_move_a53 (lkp r [(52, c5)]) (lkp g [(57, (g 57)), (60, (g 60)), (55, (g 55)), (81, c7), (58, (g 58)), (56, (g 56)), (61, (g 61)), (82, c6), (53, (g 53)), (54, (g 54))]) u h _ _ hc8) wvX9_move q_1246 rc_52 (Nat.le_of_ble_eq_true rfl) (Nat.le_of_ble_eq_true rfl) (fun _ => rfl) [] rfl (Nat.le_of_ble_eq_true rfl) dX9_moveAll_62 65 rfl ?_
  refine v_mgr [(52, c8)] rfl ?_
  refine v_mgg [(57, (g 57)), (60, (g 60)), (55, (g 55)), (81, c10), (58, (g 58)), (56, (g 56)), (61, (g 61)), (82, c6), (53, c9), (54, (g 54))] rfl ?_
  refine v_aload_n hX dX9_moveAll_65 rfl 0 rfl 66 rfl ?_
  refine v_aload_n hX dX9_moveAll_66 rfl 0 rfl 67 rfl ?_
  refine gf_52_2 hX q_104 dX9_moveAll_67 70 rfl ?_
  refine v_bipush (v := (10 : Int32)) hX dX9_moveAll_70 (by decide) 72 rfl ?_
  refine v_iload_n hX dX9_moveAll_72 rfl 1 rfl 73 rfl ?_
  obtain ⟨c11, c12, c13, hc11, hf⟩ := bn3_e hf
  refine cv_v hX (c9_move_a54 (lkp r [(52, c8)]) (lkp g [(57, (g 57)), (60, (g 60)), (55, (g 55)), (81, c10), (58, (g 58)), (56, (g 56)), (61, (g 61)), (82, c6), (53, c9), (54, (g 54))]) u h _ _ hc11) wvX9_move q_1246 rc_52 (Nat.le_of_ble_eq_true rfl) (Nat.le_of_ble_eq_true rfl) (fun _ => rfl) [] rfl (Nat.le_of_ble_eq_true rfl) dX9_moveAll_73 76 rfl ?_
  refine v_mgr [(52, c11)] rfl ?_
  refine v_mgg [(57, (g 57)), (60, (g 60)), (55, (g 55)), (81, c13), (58, (g 58)), (56, (g 56)), (61, (g 61)), (82, c6), (53, c9), (54, c12)] rfl ?_
  refine v_aload_n hX dX9_moveAll_76 rfl 0 rfl 77 rfl ?_
  refine v_aload_n hX dX9_moveAll_77 rfl 0 rfl 78 rfl ?_
  refine gf_52_3 hX q_105 dX9_moveAll_78 81 rfl ?_
  refine v_bipush (v := (10 : Int32)) hX dX9_moveAll_81 (by decide) 83 rfl ?_
  refine v_iload_n hX dX9_moveAll_83 rfl 1 rfl 84 rfl ?_
  obtain ⟨c14, c15, c16, hc14, hf⟩ := bn3_e hf
  refine cv_v hX (c9_move_a55 (lkp r [(52, c11)]) (lkp g [(57, (g 57)), (60, (g 60)), (55, (g 55)), (81, c13), (58, (g 58)), (56, (g 56)), (61, (g 61)), (82, c6), (53, c9), (54, c12)]) u h _ _ hc14) wvX9_move q_1246 rc_52 (Nat.le_of_ble_eq_true rfl) (Nat.le_of_ble_eq_true rfl) (fun _ => rfl) [] rfl (Nat.le_of_ble_eq_true rfl) dX9_moveAll_84 87 rfl ?_
  refine v_mgr [(52, c14)] rfl ?_
  refine v_mgg [(57, (g 57)), (60, (g 60)), (55, c15), (81, c16), (58, (g 58)), (56, (g 56)), (61, (g 61)), (82, c6), (53, c9), (54, c12)] rfl ?_
  refine v_aload_n hX dX9_moveAll_87 rfl 0 rfl 88 rfl ?_
  refine v_aload_n hX dX9_moveAll_88 rfl 0 rfl 89 rfl ?_
  refine gf_52_4 hX q_106 dX9_moveAll_89 92 rfl ?_
  refine v_bipush (v := (10 : Int32)) hX dX9_moveAll_92 (by decide) 94 rfl ?_
  refine v_iload_n hX dX9_moveAll_94 rfl 1 rfl 95 rfl ?_
  obtain ⟨c17, c18, c19, hc17, hf⟩ := bn3_e hf
  refine cv_v hX (c9_move_a56 (lkp r [(52, c14)]) (lkp g [(57, (g 57)), (60, (g 60)), (55, c15), (81, c16), (58, (g 58)), (56, (g 56)), (61, (g 61)), (82, c6), (53, c9), (54, c12)]) u h _ _ hc17) wvX9_move q_1246 rc_52 (Nat.le_of_ble_eq_true rfl) (Nat.le_of_ble_eq_true rfl) (fun _ => rfl) [] rfl (Nat.le_of_ble_eq_true rfl) dX9_moveAll_95 98 rfl ?_
  refine v_mgr [(52, c17)] rfl ?_
  refine v_mgg [(57, (g 57)), (60, (g 60)), (55, c15), (81, c19), (58, (g 58)), (56, c18), (61, (g 61)), (82, c6), (53, c9), (54, c12)] rfl ?_
  refine v_aload_n hX dX9_moveAll_98 rfl 0 rfl 99 rfl ?_
  refine v_aload_n hX dX9_moveAll_99 rfl 0 rfl 100 rfl ?_
  refine gf_52_6 hX q_107 dX9_moveAll_100 103 rfl ?_
  refine v_bipush (v := (99 : Int32)) hX dX9_moveAll_103 (by decide) 105 rfl ?_
  refine v_iload_n hX dX9_moveAll_105 rfl 1 rfl 106 rfl ?_
  obtain ⟨c20, c21, c22, hc20, hf⟩ := bn3_e hf
  refine cv_v hX (c9_move_a57 (lkp r [(52, c17)]) (lkp g [(57, (g 57)), (60, (g 60)), (55, c15), (81, c19), (58, (g 58)), (56, c18), (61, (g 61)), (82, c6), (53, c9), (54, c12)]) u h _ _ hc20) wvX9_move q_1246 rc_52 (Nat.le_of_ble_eq_true rfl) (Nat.le_of_ble_eq_true rfl) (fun _ => rfl) [] rfl (Nat.le_of_ble_eq_true rfl) dX9_moveAll_106 109 rfl ?_
  refine v_mgr [(52, c20)] rfl ?_
  refine v_mgg [(57, c21), (60, (g 60)), (55, c15), (81, c22), (58, (g 58)), (56, c18), (61, (g 61)), (82, c6), (53, c9), (54, c12)] rfl ?_
  refine v_aload_n hX dX9_moveAll_109 rfl 0 rfl 110 rfl ?_
  refine v_aload_n hX dX9_moveAll_110 rfl 0 rfl 111 rfl ?_
  refine gf_52_7 hX q_108 dX9_moveAll_111 114 rfl ?_
  refine v_bipush (v := (7 : Int32)) hX dX9_moveAll_114 (by decide) 116 rfl ?_
  refine v_iload_n hX dX9_moveAll_116 rfl 1 rfl 117 rfl ?_
  obtain ⟨c23, c24, c25, hc23, hf⟩ := bn3_e hf
  refine cv_v hX (c9_move_a58 (lkp r [(52, c20)]) (lkp g [(57, c21), (60, (g 60)), (55, c15), (81, c22), (58, (g 58)), (56, c18), (61, (g 61)), (82, c6), (53, c9), (54, c12)]) u h _ _ hc23) wvX9_move q_1246 rc_52 (Nat.le_of_ble_eq_true rfl) (Nat.le_of_ble_eq_true rfl) (fun _ => rfl) [] rfl (Nat.le_of_ble_eq_true rfl) dX9_moveAll_117 120 rfl ?_
  refine v_mgr [(52, c23)] rfl ?_
  refine v_mgg [(57, c21), (60, (g 60)), (55, c15), (81, c25), (58, c24), (56, c18), (61, (g 61)), (82, c6), (53, c9), (54, c12)] rfl ?_
  refine v_aload_n hX dX9_moveAll_120 rfl 0 rfl 121 rfl ?_
  refine v_aload_n hX dX9_moveAll_121 rfl 0 rfl 122 rfl ?_
  refine gf_52_10 hX q_110 dX9_moveAll_122 125 rfl ?_
  refine v_bipush (v := (24 : Int32)) hX dX9_moveAll_125 (by decide) 127 rfl ?_
  refine v_iload_n hX dX9_moveAll_127 rfl 1 rfl 128 rfl ?_
  obtain ⟨c26, c27, c28, hc26, hf⟩ := bn3_e hf
  refine cv_v hX (c9_move_a60 (lkp r [(52, c23)]) (lkp g [(57, c21), (60, (g 60)), (55, c15), (81, c25), (58, c24), (56, c18), (61, (g 61)), (82, c6), (53, c9), (54, c12)]) u h _ _ hc26) wvX9_move q_1246 rc_52 (Nat.le_of_ble_eq_true rfl) (Nat.le_of_ble_eq_true rfl) (fun _ => rfl) [] rfl (Nat.le_of_ble_eq_true rfl) dX9_moveAll_128 131 rfl ?_
  refine v_mgr [(52, c26)] rfl ?_
  refine v_mgg [(57, c21), (60, c27), (55, c15), (81, c28), (58, c24), (56, c18), (61, (g 61)), (82, c6), (53, c9), (54, c12)] rfl ?_
  refine v_aload_n hX dX9_moveAll_131 rfl 0 rfl 132 rfl ?_
  refine v_aload_n hX dX9_moveAll_132 rfl 0 rfl 133 rfl ?_
  refine gf_52_11 hX q_111 dX9_moveAll_133 136 rfl ?_
  refine v_sipush (v := (200 : Int32)) hX dX9_moveAll_136 (by decide) 139 rfl ?_
  refine v_iload_n hX dX9_moveAll_139 rfl 1 rfl 140 rfl ?_
  obtain ⟨c29, c30, c31, hc29, hf⟩ := bn3_e hf
  refine cv_v hX (c9_move_a61 (lkp r [(52, c26)]) (lkp g [(57, c21), (60, c27), (55, c15), (81, c28), (58, c24), (56, c18), (61, (g 61)), (82, c6), (53, c9), (54, c12)]) u h _ _ hc29) wvX9_move q_1246 rc_52 (Nat.le_of_ble_eq_true rfl) (Nat.le_of_ble_eq_true rfl) (fun _ => rfl) [] rfl (Nat.le_of_ble_eq_true rfl) dX9_moveAll_140 143 rfl ?_
  refine v_mgr [(52, c29)] rfl ?_
  refine v_mgg [(57, c21), (60, c27), (55, c15), (81, c31), (58, c24), (56, c18), (61, c30), (82, c6), (53, c9), (54, c12)] rfl ?_
  exact hR _ hf _ _ dX9_moveAll_143
set_option maxRecDepth 100000 in
set_option maxHeartbeats 4000000 in
theorem c9_again (r : Nat → Int32) (g : Nat → Nat → Int32) (u : Nat → Int64) (h : Nat → Nat → Int64)  {res : Int32 × Int32 × Int32 × Int32 × Int32 × Int32 × (Nat → Int32) × (Nat → Int32) × (Nat → Int32) × (Nat → Int32) × (Nat → Int32) × (Nat → Int32) × (Nat → Int32) × (Nat → Int32) × (Nat → Int32) × (Nat → Int32)} (hf : f9_again (r 31) (r 32) (r 51) (r 52) (r 30) (r 33) (g 57) (g 60) (g 55) (g 81) (g 58) (g 56) (g 61) (g 82) (g 53) (g 54) = some res) : MAi yX9_again cX9_again 1 (some .int) 2 (fun a => [.ref (a 52)]) r g u h res.1 (lkp r [(31, res.2.1), (32, res.2.2.1), (52, res.2.2.2.1), (30, res.2.2.2.2.1), (33, res.2.2.2.2.2.1)]) (lkp g [(57, res.2.2.2.2.2.2.1), (60, res.2.2.2.2.2.2.2.1), (55, res.2.2.2.2.2.2.2.2.1), (81, res.2.2.2.2.2.2.2.2.2.1), (58, res.2.2.2.2.2.2.2.2.2.2.1), (56, res.2.2.2.2.2.2.2.2.2.2.2.1), (61, res.2.2.2.2.2.2.2.2.2.2.2.2.1), (82, res.2.2.2.2.2.2.2.2.2.2.2.2.2.1), (53, res.2.2.2.2.2.2.2.2.2.2.2.2.2.2.1), (54, res.2.2.2.2.2.2.2.2.2.2.2.2.2.2.2)]) u h := by
  refine mi_i (by decide +kernel) (fun a => Nat.le_of_ble_eq_true rfl) (fun X hX hn hR => ?_)
  replace hR : ∀ q : Int32 × Int32 × Int32 × Int32 × Int32 × Int32 × (Nat → Int32) × (Nat → Int32) × (Nat → Int32) × (Nat → Int32) × (Nat → Int32) × (Nat → Int32) × (Nat → Int32) × (Nat → Int32) × (Nat → Int32) × (Nat → Int32), some q = some res → ∀ lv pc, decode cX9_again pc = .ok (.ireturn, 1) → narrow .int (.int q.1) = .int q.1 → VC X (lkp r [(31, q.2.1), (32, q.2.2.1), (52, q.2.2.2.1), (30, q.2.2.2.2.1), (33, q.2.2.2.2.2.1)]) (lkp g [(57, q.2.2.2.2.2.2.1), (60, q.2.2.2.2.2.2.2.1), (55, q.2.2.2.2.2.2.2.2.1), (81, q.2.2.2.2.2.2.2.2.2.1), (58, q.2.2.2.2.2.2.2.2.2.2.1), (56, q.2.2.2.2.2.2.2.2.2.2.2.1), (61, q.2.2.2.2.2.2.2.2.2.2.2.2.1), (82, q.2.2.2.2.2.2.2.2.2.2.2.2.2.1), (53, q.2.2.2.2.2.2.2.2.2.2.2.2.2.2.1), (54, q.2.2.2.2.2.2.2.2.2.2.2.2.2.2.2)]) u h lv [.int q.1] pc := fun q hq => by cases hq; exact hR
  replace hX : CX X RX9 cX9_again 2 := hX
  refine v_opr [31, 32, 52, 30, 33] [(31, r 31), (32, r 32), (52, r 52), (30, r 30), (33, r 33)] rfl ?_
  refine v_opg [57, 60, 55, 81, 58, 56, 61, 82, 53, 54] [(57, g 57), (60, g 60), (55, g 55), (81, g 81), (58, g 58), (56, g 56), (61, g 61), (82, g 82), (53, g 53), (54, g 54)] rfl ?_
  show VC X (lkp r [(31, r 31), (32, r 32), (52, r 52), (30, r 30), (33, r 33)]) (lkp g [(57, g 57), (60, g 60), (55, g 55), (81, g 81), (58, g 58), (56, g 56), (61, g 61), (82, g 82), (53, g 53), (54, g 54)]) u h [(0, .ref (aX X 52))] [] 0
  rw [f9_again] at hf
  refine v_aload_n hX dX9_again_0 rfl 0 rfl 1 rfl ?_
  refine gf_52_52 hX q_1240 dX9_again_1 ((r 51)) rfl 4 rfl ?_
  refine v_if_ne hX dX9_again_4 10 rfl 7 rfl (fun h16 => ?_) (fun h16 => ?_)
  · replace hf := it_n h16 hf
    refine v_aload_n hX dX9_again_10 rfl 0 rfl 11 rfl ?_
    refine v_iconst (v := (0 : Int32)) hX dX9_again_11 (by decide) 12 rfl ?_
    obtain ⟨c1, c2, c3, c4, c5, c6, c7, c8, c9, c10, c11, hc1, hf⟩ := bn11_e hf
    refine cv_v hX (c9_moveAll (lkp r [(31, (r 31)), (32, (r 32)), (52, (r 52)), (30, (r 30)), (33, (r 33))]) (lkp g [(57, (g 57)), (60, (g 60)), (55, (g 55)), (81, (g 81)), (58, (g 58)), (56, (g 56)), (61, (g 61)), (82, (g 82)), (53, (g 53)), (54, (g 54))]) u h _ hc1) wvX9_moveAll q_1241 rc_52 (Nat.le_of_ble_eq_true rfl) (Nat.le_of_ble_eq_true rfl) (fun _ => rfl) [] rfl (Nat.le_of_ble_eq_true rfl) dX9_again_12 15 rfl ?_
    refine v_mgr [(31, (r 31)), (32, (r 32)), (52, c1), (30, (r 30)), (33, (r 33))] rfl ?_
    refine v_mgg [(57, c2), (60, c3), (55, c4), (81, c5), (58, c6), (56, c7), (61, c8), (82, c9), (53, c10), (54, c11)] rfl ?_
    refine v_aload_n hX dX9_again_15 rfl 0 rfl 16 rfl ?_
    refine v_aload_n hX dX9_again_16 rfl 0 rfl 17 rfl ?_
    refine gf_52_55 hX q_133 dX9_again_17 20 rfl ?_
    refine v_iconst (v := (0 : Int32)) hX dX9_again_20 (by decide) 21 rfl ?_
    obtain ⟨hi12, hf⟩ := gd_e hf
    refine al_82 hX hi12 dX9_again_21 (c9 (0 : Int32).toNatClampNeg) rfl 22 rfl ?_
    refine pf_52_1 hX q_409 dX9_again_22 25 rfl [(31, (r 31)), (32, (r 32)), (52, c1), (30, (c9 (0 : Int32).toNatClampNeg)), (33, (r 33))] rfl ?_
    refine v_aload_n hX dX9_again_25 rfl 0 rfl 26 rfl ?_
    refine v_aload_n hX dX9_again_26 rfl 0 rfl 27 rfl ?_
    refine gf_52_55 hX q_133 dX9_again_27 30 rfl ?_
    refine v_iconst (v := (1 : Int32)) hX dX9_again_30 (by decide) 31 rfl ?_
    obtain ⟨hi13, hf⟩ := gd_e hf
    refine al_82 hX hi13 dX9_again_31 (c9 (1 : Int32).toNatClampNeg) rfl 32 rfl ?_
    refine pf_52_5 hX q_462 dX9_again_32 35 rfl [(31, (c9 (1 : Int32).toNatClampNeg)), (32, (r 32)), (52, c1), (30, (c9 (0 : Int32).toNatClampNeg)), (33, (r 33))] rfl ?_
    refine v_aload_n hX dX9_again_35 rfl 0 rfl 36 rfl ?_
    refine v_aload_n hX dX9_again_36 rfl 0 rfl 37 rfl ?_
    refine gf_52_55 hX q_133 dX9_again_37 40 rfl ?_
    refine v_iconst (v := (2 : Int32)) hX dX9_again_40 (by decide) 41 rfl ?_
    obtain ⟨hi14, hf⟩ := gd_e hf
    refine al_82 hX hi14 dX9_again_41 (c9 (2 : Int32).toNatClampNeg) rfl 42 rfl ?_
    refine pf_52_9 hX q_311 dX9_again_42 45 rfl [(31, (c9 (1 : Int32).toNatClampNeg)), (32, (c9 (2 : Int32).toNatClampNeg)), (52, c1), (30, (c9 (0 : Int32).toNatClampNeg)), (33, (r 33))] rfl ?_
    refine v_aload_n hX dX9_again_45 rfl 0 rfl 46 rfl ?_
    refine v_aload_n hX dX9_again_46 rfl 0 rfl 47 rfl ?_
    refine gf_52_55 hX q_133 dX9_again_47 50 rfl ?_
    refine v_iconst (v := (3 : Int32)) hX dX9_again_50 (by decide) 51 rfl ?_
    obtain ⟨hi15, hf⟩ := gd_e hf
    refine al_82 hX hi15 dX9_again_51 (c9 (3 : Int32).toNatClampNeg) rfl 52 rfl ?_
    refine pf_52_12 hX q_112 dX9_again_52 55 rfl [(31, (c9 (1 : Int32).toNatClampNeg)), (32, (c9 (2 : Int32).toNatClampNeg)), (52, c1), (30, (c9 (0 : Int32).toNatClampNeg)), (33, (c9 (3 : Int32).toNatClampNeg))] rfl ?_
    refine v_aload_n hX dX9_again_55 rfl 0 rfl 56 rfl ?_
    refine gf_52_5 hX q_462 dX9_again_56 ((c9 (1 : Int32).toNatClampNeg)) rfl 59 rfl ?_
    exact hR _ hf _ _ dX9_again_59 rfl
  · replace hf := it_p h16 hf
    refine v_bipush (v := (-3 : Int32)) hX dX9_again_7 (by decide) 9 rfl ?_
    exact hR _ hf _ _ dX9_again_9 rfl
set_option maxRecDepth 100000 in
set_option maxHeartbeats 4000000 in
theorem c9_isRow (r : Nat → Int32) (g : Nat → Nat → Int32) (u : Nat → Int64) (h : Nat → Nat → Int64) (p1 : Int32) (p2 : Int32) {res : Int32} (hf : f9_isRow (r 44) p1 p2 = some res) : MAi yX9_isRow cX9_isRow 3 (some .boolean) 1 (fun a => [.ref (a 52), .int p1, .int p2]) r g u h res r g u h := by
  refine mi_i (by decide +kernel) (fun a => Nat.le_of_ble_eq_true rfl) (fun X hX hn hR => ?_)
  replace hR : ∀ q : Int32, some q = some res → ∀ lv pc, decode cX9_isRow pc = .ok (.ireturn, 1) → narrow .boolean (.int q) = .int q → VC X r g u h lv [.int q] pc := fun q hq => by cases hq; exact hR
  replace hX : CX X RX9 cX9_isRow 1 := hX
  show VC X r g u h [(0, .ref (aX X 52)), (1, .int p1), (2, .int p2)] [] 0
  rw [f9_isRow] at hf
  refine v_iload_n hX dX9_isRow_0 rfl 1 rfl 1 rfl ?_
  refine v_iconst (v := (0 : Int32)) hX dX9_isRow_1 (by decide) 2 rfl ?_
  refine v_aload_n hX dX9_isRow_2 rfl 0 rfl 3 rfl ?_
  refine gf_52_38 hX q_960 dX9_isRow_3 ((r 44)) rfl 6 rfl ?_
  refine v_iconst (v := (1 : Int32)) hX dX9_isRow_6 (by decide) 7 rfl ?_
  refine v_isub hX dX9_isRow_7 8 rfl ?_
  obtain ⟨v1, hv1, hf⟩ := bn1_e hf
  refine cs_i hX (c9_in r g u h _ _ _ hv1) wvX9_in q_150 (Nat.le_of_ble_eq_true rfl) (Nat.le_of_ble_eq_true rfl) (fun _ => rfl) [] rfl (Nat.le_of_ble_eq_true rfl) dX9_isRow_8 11 rfl ?_
  refine v_if_eq hX dX9_isRow_11 27 rfl 14 rfl (fun h4 => ?_) (fun h4 => ?_)
  · replace hf := it_p h4 hf
    refine v_iconst (v := (0 : Int32)) hX dX9_isRow_27 (by decide) 28 rfl ?_
    exact hR _ hf _ _ dX9_isRow_28 (bz_nar (v := (0 : Int32)) (by decide))
  · replace hf := it_n h4 hf
    refine v_iload_n hX dX9_isRow_14 rfl 2 rfl 15 rfl ?_
    refine v_iconst (v := (0 : Int32)) hX dX9_isRow_15 (by decide) 16 rfl ?_
    refine v_iconst (v := (2 : Int32)) hX dX9_isRow_16 (by decide) 17 rfl ?_
    obtain ⟨v2, hv2, hf⟩ := bn1_e hf
    refine cs_i hX (c9_in r g u h _ _ _ hv2) wvX9_in q_150 (Nat.le_of_ble_eq_true rfl) (Nat.le_of_ble_eq_true rfl) (fun _ => rfl) [] rfl (Nat.le_of_ble_eq_true rfl) dX9_isRow_17 20 rfl ?_
    refine v_if_eq hX dX9_isRow_20 27 rfl 23 rfl (fun h3 => ?_) (fun h3 => ?_)
    · replace hf := it_p h3 hf
      refine v_iconst (v := (0 : Int32)) hX dX9_isRow_27 (by decide) 28 rfl ?_
      exact hR _ hf _ _ dX9_isRow_28 (bz_nar (v := (0 : Int32)) (by decide))
    · replace hf := it_n h3 hf
      refine v_iconst (v := (1 : Int32)) hX dX9_isRow_23 (by decide) 24 rfl ?_
      refine v_goto hX dX9_isRow_24 28 rfl ?_
      exact hR _ hf _ _ dX9_isRow_28 (bz_nar (v := (1 : Int32)) (by decide))
set_option maxRecDepth 100000 in
set_option maxHeartbeats 4000000 in
theorem c9_alterRow (r : Nat → Int32) (g : Nat → Nat → Int32) (u : Nat → Int64) (h : Nat → Nat → Int64) (p1 : Int32) (p2 : Int32) (p3 : Int32) {res : Int32 × (Nat → Int32)} (hf : f9_alterRow (r 44) (g 72) p1 p2 p3 = some res) : MAi yX9_alterRow cX9_alterRow 5 (some .int) 2 (fun a => [.ref (a 52), .int p1, .int p2, .int p3]) r g u h res.1 r (lkp g [(72, res.2)]) u h := by
  refine mi_i (by decide +kernel) (fun a => Nat.le_of_ble_eq_true rfl) (fun X hX hn hR => ?_)
  replace hR : ∀ q : Int32 × (Nat → Int32), some q = some res → ∀ lv pc, decode cX9_alterRow pc = .ok (.ireturn, 1) → narrow .int (.int q.1) = .int q.1 → VC X r (lkp g [(72, q.2)]) u h lv [.int q.1] pc := fun q hq => by cases hq; exact hR
  replace hX : CX X RX9 cX9_alterRow 2 := hX
  refine v_opg [72] [(72, g 72)] rfl ?_
  show VC X r (lkp g [(72, g 72)]) u h [(0, .ref (aX X 52)), (1, .int p1), (2, .int p2), (3, .int p3)] [] 0
  rw [f9_alterRow] at hf
  refine v_aload_n hX dX9_alterRow_0 rfl 0 rfl 1 rfl ?_
  refine v_iload_n hX dX9_alterRow_1 rfl 1 rfl 2 rfl ?_
  refine v_iload_n hX dX9_alterRow_2 rfl 2 rfl 3 rfl ?_
  obtain ⟨v1, hv1, hf⟩ := bn1_e hf
  refine cv_i hX (c9_isRow r (lkp g [(72, (g 72))]) u h _ _ hv1) wvX9_isRow q_982 rc_52 (Nat.le_of_ble_eq_true rfl) (Nat.le_of_ble_eq_true rfl) (fun _ => rfl) [] rfl (Nat.le_of_ble_eq_true rfl) dX9_alterRow_3 6 rfl ?_
  refine v_if_ne hX dX9_alterRow_6 12 rfl 9 rfl (fun h4 => ?_) (fun h4 => ?_)
  · replace hf := it_n h4 hf
    refine v_aload_n hX dX9_alterRow_12 rfl 0 rfl 13 rfl ?_
    refine gf_52_36 hX q_123 dX9_alterRow_13 16 rfl ?_
    refine v_iconst (v := (3 : Int32)) hX dX9_alterRow_16 (by decide) 17 rfl ?_
    refine v_iload_n hX dX9_alterRow_17 rfl 1 rfl 18 rfl ?_
    refine v_imul hX dX9_alterRow_18 19 rfl ?_
    refine v_iload_n hX dX9_alterRow_19 rfl 2 rfl 20 rfl ?_
    refine v_iadd hX dX9_alterRow_20 21 rfl ?_
    obtain ⟨hi2, hf⟩ := gd_e hf
    refine al_72 hX hi2 dX9_alterRow_21 ((g 72) (((3 : Int32) * p1) + p2).toNatClampNeg) rfl 22 rfl ?_
    refine v_istore hX dX9_alterRow_22 (ltn hn (by decide)) 24 rfl [(4, .int ((g 72) (((3 : Int32) * p1) + p2).toNatClampNeg)), (0, .ref (aX X 52)), (1, .int p1), (2, .int p2), (3, .int p3)] rfl ?_
    refine v_aload_n hX dX9_alterRow_24 rfl 1 rfl 25 rfl ?_
    refine gf_52_36 hX q_123 dX9_alterRow_25 28 rfl ?_
    refine v_iconst (v := (3 : Int32)) hX dX9_alterRow_28 (by decide) 29 rfl ?_
    refine v_iload_n hX dX9_alterRow_29 rfl 2 rfl 30 rfl ?_
    refine v_imul hX dX9_alterRow_30 31 rfl ?_
    refine v_iload_n hX dX9_alterRow_31 rfl 3 rfl 32 rfl ?_
    refine v_iadd hX dX9_alterRow_32 33 rfl ?_
    refine v_iload_n hX dX9_alterRow_33 rfl 4 rfl 34 rfl ?_
    obtain ⟨hi3, hf⟩ := gd_e hf
    refine as_72 hX hi3 dX9_alterRow_34 35 rfl (g 72) rfl [(72, (upd (g 72) (((3 : Int32) * p1) + p2).toNatClampNeg p3))] rfl ?_
    refine v_iload hX dX9_alterRow_35 0 rfl 37 rfl ?_
    exact hR _ hf _ _ dX9_alterRow_37 rfl
  · replace hf := it_p h4 hf
    refine v_bipush (v := (-9 : Int32)) hX dX9_alterRow_9 (by decide) 11 rfl ?_
    exact hR _ hf _ _ dX9_alterRow_11 rfl
set_option maxRecDepth 100000 in
set_option maxHeartbeats 4000000 in
theorem c9_isSide (r : Nat → Int32) (g : Nat → Nat → Int32) (u : Nat → Int64) (h : Nat → Nat → Int64) (p0 : Int32) {res : Int32} (hf : f9_isSide p0 = some res) : MAi yX9_isSide cX9_isSide 1 (some .boolean) 1 (fun a => [.int p0]) r g u h res r g u h := by
  refine mi_i (by decide +kernel) (fun a => Nat.le_of_ble_eq_true rfl) (fun X hX hn hR => ?_)
  replace hR : ∀ q : Int32, some q = some res → ∀ lv pc, decode cX9_isSide pc = .ok (.ireturn, 1) → narrow .boolean (.int q) = .int q → VC X r g u h lv [.int q] pc := fun q hq => by cases hq; exact hR
  replace hX : CX X RX9 cX9_isSide 1 := hX
  show VC X r g u h [(0, .int p0)] [] 0
  rw [f9_isSide] at hf
  refine v_iload_n hX dX9_isSide_0 rfl 0 rfl 1 rfl ?_
  refine v_iconst (v := (0 : Int32)) hX dX9_isSide_1 (by decide) 2 rfl ?_
  refine v_iconst (v := (1 : Int32)) hX dX9_isSide_2 (by decide) 3 rfl ?_
  obtain ⟨v1, hv1, hf⟩ := bn1_e hf
  refine cs_i hX (c9_in r g u h _ _ _ hv1) wvX9_in q_150 (Nat.le_of_ble_eq_true rfl) (Nat.le_of_ble_eq_true rfl) (fun _ => rfl) [] rfl (Nat.le_of_ble_eq_true rfl) dX9_isSide_3 6 rfl ?_
  obtain ⟨hb2, hf⟩ := gd_e hf
  exact hR _ hf _ _ dX9_isSide_6 (bz_nar hb2)
set_option maxRecDepth 100000 in
set_option maxHeartbeats 4000000 in
theorem c9_oneIn (r : Nat → Int32) (g : Nat → Nat → Int32) (u : Nat → Int64) (h : Nat → Nat → Int64) (p1 : Int32) (p2 : Int32) {res : Int32} (hf : f9_oneIn (g 57) (g 56) p1 p2 = some res) : MAi yX9_oneIn cX9_oneIn 4 (some .int) 1 (fun a => [.ref (a 52), .int p1, .int p2]) r g u h res r g u h := by
  refine mi_i (by decide +kernel) (fun a => Nat.le_of_ble_eq_true rfl) (fun X hX hn hR => ?_)
  replace hR : ∀ q : Int32, some q = some res → ∀ lv pc, decode cX9_oneIn pc = .ok (.ireturn, 1) → narrow .int (.int q) = .int q → VC X r g u h lv [.int q] pc := fun q hq => by cases hq; exact hR
  replace hX : CX X RX9 cX9_oneIn 1 := hX
  show VC X r g u h [(0, .ref (aX X 52)), (1, .int p1), (2, .int p2)] [] 0
  rw [f9_oneIn] at hf
  refine v_aload_n hX dX9_oneIn_0 rfl 0 rfl 1 rfl ?_
  refine v_iload_n hX dX9_oneIn_1 rfl 1 rfl 2 rfl ?_
  refine v_iconst (v := (5 : Int32)) hX dX9_oneIn_2 (by decide) 3 rfl ?_
  refine v_iload_n hX dX9_oneIn_3 rfl 2 rfl 4 rfl ?_
  refine v_iadd hX dX9_oneIn_4 5 rfl ?_
  obtain ⟨v1, hv1, hf⟩ := bn1_e hf
  refine cv_i hX (c9_its r g u h _ _ hv1) wvX9_its q_471 rc_52 (Nat.le_of_ble_eq_true rfl) (Nat.le_of_ble_eq_true rfl) (fun _ => rfl) [] rfl (Nat.le_of_ble_eq_true rfl) dX9_oneIn_5 8 rfl ?_
  refine v_istore_n hX dX9_oneIn_8 rfl (ltn hn (by decide)) 9 rfl [(3, .int v1), (0, .ref (aX X 52)), (1, .int p1), (2, .int p2)] rfl ?_
  refine v_iload_n hX dX9_oneIn_9 rfl 0 rfl 10 rfl ?_
  refine v_if_ge hX dX9_oneIn_10 17 rfl 13 rfl (fun h3 => ?_) (fun h3 => ?_)
  · replace hf := it_p h3 hf
    refine v_aload_n hX dX9_oneIn_17 rfl 1 rfl 18 rfl ?_
    refine gf_52_4 hX q_106 dX9_oneIn_18 21 rfl ?_
    refine v_iload_n hX dX9_oneIn_21 rfl 0 rfl 22 rfl ?_
    obtain ⟨hi2, hf⟩ := gd_e hf
    refine al_56 hX hi2 dX9_oneIn_22 ((g 56) v1.toNatClampNeg) rfl 23 rfl ?_
    exact hR _ hf _ _ dX9_oneIn_23 rfl
  · replace hf := it_n h3 hf
    refine v_iconst (v := (-1 : Int32)) hX dX9_oneIn_13 (by decide) 14 rfl ?_
    refine v_goto hX dX9_oneIn_14 23 rfl ?_
    exact hR _ hf _ _ dX9_oneIn_23 rfl
set_option maxRecDepth 100000 in
set_option maxHeartbeats 4000000 in
theorem c9_isHubOne (r : Nat → Int32) (g : Nat → Nat → Int32) (u : Nat → Int64) (h : Nat → Nat → Int64) (p1 : Int32) {res : Int32} (hf : f9_isHubOne (r 30) (g 55) (g 56) p1 = some res) : MAi yX9_isHubOne cX9_isHubOne 3 (some .boolean) 0 (fun a => [.ref (a 52), .int p1]) r g u h res r g u h := by
  refine mi_i (by decide +kernel) (fun a => Nat.le_of_ble_eq_true rfl) (fun X hX hn hR => ?_)
  replace hR : ∀ q : Int32, some q = some res → ∀ lv pc, decode cX9_isHubOne pc = .ok (.ireturn, 1) → narrow .boolean (.int q) = .int q → VC X r g u h lv [.int q] pc := fun q hq => by cases hq; exact hR
  replace hX : CX X RX9 cX9_isHubOne 0 := hX
  show VC X r g u h [(0, .ref (aX X 52)), (1, .int p1)] [] 0
  rw [f9_isHubOne] at hf
  refine v_iconst (v := (0 : Int32)) hX dX9_isHubOne_0 (by decide) 1 rfl ?_
  refine v_istore_n hX dX9_isHubOne_1 rfl (ltn hn (by decide)) 2 rfl [(2, .int (0 : Int32)), (0, .ref (aX X 52)), (1, .int p1)] rfl ?_
  obtain ⟨K2, hK2, hf⟩ := jn_x hf
  have HK2 : ∀ (x1 : Int32), K2 x1 = some res → VC X r g u h [] [] 38 := by
    intro x1 hf
    rw [hK2] at hf
    refine v_iconst (v := (0 : Int32)) hX dX9_isHubOne_38 (by decide) 39 rfl ?_
    exact hR _ hf _ _ dX9_isHubOne_39 (bz_nar (v := (0 : Int32)) (by decide))
  have HLK2 : ∀ (n3 : Nat) (x1 : Int32), f9_isHubOne_L2 (r 30) (g 55) (g 56) p1 n3 x1 K2 = some res → VC X r g u h [(0, .ref (aX X 52)), (1, .int p1), (2, .int x1)] [] 2 := by
    intro n3
    induction n3 with
    | zero => intro x1 hf; exact no_s hf
    | succ n3 ih =>
      intro x1 hf
      rw [f9_isHubOne_L2] at hf
      refine v_iload_n hX dX9_isHubOne_2 rfl 2 rfl 3 rfl ?_
      refine v_aload_n hX dX9_isHubOne_3 rfl 0 rfl 4 rfl ?_
      refine gf_52_1 hX q_409 dX9_isHubOne_4 ((r 30)) rfl 7 rfl ?_
      refine v_icmp_ge hX dX9_isHubOne_7 38 rfl 10 rfl (fun h9 => ?_) (fun h9 => ?_)
      · replace hf := it_p h9 hf
        refine v_sub [] sbn ?_
        exact HK2 _ hf
      · replace hf := it_n h9 hf
        refine v_aload_n hX dX9_isHubOne_10 rfl 0 rfl 11 rfl ?_
        refine gf_52_4 hX q_106 dX9_isHubOne_11 14 rfl ?_
        refine v_iload_n hX dX9_isHubOne_14 rfl 2 rfl 15 rfl ?_
        obtain ⟨hi4, hf⟩ := gd_e hf
        refine al_56 hX hi4 dX9_isHubOne_15 ((g 56) x1.toNatClampNeg) rfl 16 rfl ?_
        refine v_iload_n hX dX9_isHubOne_16 rfl 1 rfl 17 rfl ?_
        obtain ⟨J5, hJ5, hf⟩ := jn_x hf
        have HJ5 : J5 = some res → VC X r g u h [(0, .ref (aX X 52)), (1, .int p1), (2, .int x1)] [] 32 := by
          intro hf
          rw [hJ5] at hf
          refine v_inc (c := (1 : Int32)) hX dX9_isHubOne_32 2 rfl (by decide) (ltn hn (by decide)) 35 rfl [(2, .int (x1 + (1 : Int32))), (0, .ref (aX X 52)), (1, .int p1)] rfl ?_
          refine v_goto hX dX9_isHubOne_35 2 rfl ?_
          refine v_sub [(0, .ref (aX X 52)), (1, .int p1), (2, .int (x1 + (1 : Int32)))] (sbc 1 rfl (sbc 2 rfl (sbc 0 rfl sbn))) ?_
          exact ih _ hf
        refine v_icmp_ne hX dX9_isHubOne_17 32 rfl 20 rfl (fun h8 => ?_) (fun h8 => ?_)
        · replace hf := it_n h8 hf
          exact HJ5  hf
        · replace hf := it_p h8 hf
          refine v_aload_n hX dX9_isHubOne_20 rfl 0 rfl 21 rfl ?_
          refine gf_52_3 hX q_105 dX9_isHubOne_21 24 rfl ?_
          refine v_iload_n hX dX9_isHubOne_24 rfl 2 rfl 25 rfl ?_
          obtain ⟨hi6, hf⟩ := gd_e hf
          refine al_55 hX hi6 dX9_isHubOne_25 ((g 55) x1.toNatClampNeg) rfl 26 rfl ?_
          refine v_iconst (v := (1 : Int32)) hX dX9_isHubOne_26 (by decide) 27 rfl ?_
          refine v_icmp_ne hX dX9_isHubOne_27 32 rfl 30 rfl (fun h7 => ?_) (fun h7 => ?_)
          · replace hf := it_n h7 hf
            exact HJ5  hf
          · replace hf := it_p h7 hf
            refine v_iconst (v := (1 : Int32)) hX dX9_isHubOne_30 (by decide) 31 rfl ?_
            exact hR _ hf _ _ dX9_isHubOne_31 (bz_nar (v := (1 : Int32)) (by decide))
  refine v_sub [(0, .ref (aX X 52)), (1, .int p1), (2, .int (0 : Int32))] (sbc 1 rfl (sbc 2 rfl (sbc 0 rfl sbn))) ?_
  exact HLK2 _ _ hf
set_option maxRecDepth 100000 in
set_option maxHeartbeats 4000000 in
theorem c9_weighs (r : Nat → Int32) (g : Nat → Nat → Int32) (u : Nat → Int64) (h : Nat → Nat → Int64) (p1 : Int32) (p2 : Int32) {res : Int32} (hf : f9_weighs (g 57) p1 p2 = some res) : MAi yX9_weighs cX9_weighs 4 (some .int) 1 (fun a => [.ref (a 52), .int p1, .int p2]) r g u h res r g u h := by
  refine mi_i (by decide +kernel) (fun a => Nat.le_of_ble_eq_true rfl) (fun X hX hn hR => ?_)
  replace hR : ∀ q : Int32, some q = some res → ∀ lv pc, decode cX9_weighs pc = .ok (.ireturn, 1) → narrow .int (.int q) = .int q → VC X r g u h lv [.int q] pc := fun q hq => by cases hq; exact hR
  replace hX : CX X RX9 cX9_weighs 1 := hX
  show VC X r g u h [(0, .ref (aX X 52)), (1, .int p1), (2, .int p2)] [] 0
  rw [f9_weighs] at hf
  refine v_iload_n hX dX9_weighs_0 rfl 2 rfl 1 rfl ?_
  obtain ⟨J1, hJ1, hf⟩ := jn_x hf
  have HJ1 : ∀ (s2 : Int32), J1 s2 = some res → VC X r g u h [(0, .ref (aX X 52)), (1, .int p1), (2, .int p2)] [.int s2] 11 := by
    intro s2 hf
    rw [hJ1] at hf
    refine v_istore_n hX dX9_weighs_11 rfl (ltn hn (by decide)) 12 rfl [(3, .int s2), (0, .ref (aX X 52)), (1, .int p1), (2, .int p2)] rfl ?_
    refine v_aload_n hX dX9_weighs_12 rfl 1 rfl 13 rfl ?_
    refine v_iload_n hX dX9_weighs_13 rfl 2 rfl 14 rfl ?_
    refine v_iconst (v := (0 : Int32)) hX dX9_weighs_14 (by decide) 15 rfl ?_
    obtain ⟨v3, hv3, hf⟩ := bn1_e hf
    refine cv_i hX (c9_its r g u h _ _ hv3) wvX9_its q_471 rc_52 (Nat.le_of_ble_eq_true rfl) (Nat.le_of_ble_eq_true rfl) (fun _ => rfl) [] rfl (Nat.le_of_ble_eq_true rfl) dX9_weighs_15 18 rfl ?_
    rcases Decidable.em (v3 = (1 : Int32)) with h4 | h4
    · replace hf := it_p h4 hf
      refine v_tsIn hX dX9_weighs_18 (1 : Int32) h4 (by decide) (by decide) (34) (by decide +kernel) 52 rfl ?_
      refine v_iload_n hX dX9_weighs_52 rfl 0 rfl 53 rfl ?_
      exact hR _ hf _ _ dX9_weighs_53 rfl
    · replace hf := it_n h4 hf
      rcases Decidable.em (v3 = (2 : Int32)) with h5 | h5
      · replace hf := it_p h5 hf
        refine v_tsIn hX dX9_weighs_18 (2 : Int32) h5 (by decide) (by decide) (40) (by decide +kernel) 58 rfl ?_
        refine v_iload_n hX dX9_weighs_58 rfl 3 rfl 59 rfl ?_
        refine v_iconst (v := (2 : Int32)) hX dX9_weighs_59 (by decide) 60 rfl ?_
        refine v_idiv hX dX9_weighs_60 (by decide) 61 rfl ?_
        exact hR _ hf _ _ dX9_weighs_61 rfl
      · replace hf := it_n h5 hf
        rcases Decidable.em (v3 = (3 : Int32)) with h6 | h6
        · replace hf := it_p h6 hf
          refine v_tsIn hX dX9_weighs_18 (3 : Int32) h6 (by decide) (by decide) (36) (by decide +kernel) 54 rfl ?_
          refine v_iconst (v := (2 : Int32)) hX dX9_weighs_54 (by decide) 55 rfl ?_
          refine v_iload_n hX dX9_weighs_55 rfl 0 rfl 56 rfl ?_
          refine v_imul hX dX9_weighs_56 57 rfl ?_
          exact hR _ hf _ _ dX9_weighs_57 rfl
        · replace hf := it_n h6 hf
          rcases Decidable.em (v3 = (4 : Int32)) with h7 | h7
          · replace hf := it_p h7 hf
            refine v_tsIn hX dX9_weighs_18 (4 : Int32) h7 (by decide) (by decide) (44) (by decide +kernel) 62 rfl ?_
            refine v_iload_n hX dX9_weighs_62 rfl 3 rfl 63 rfl ?_
            refine v_iconst (v := (2 : Int32)) hX dX9_weighs_63 (by decide) 64 rfl ?_
            refine v_idiv hX dX9_weighs_64 (by decide) 65 rfl ?_
            refine v_if_le hX dX9_weighs_65 76 rfl 68 rfl (fun h8 => ?_) (fun h8 => ?_)
            · replace hf := it_p h8 hf
              refine v_iconst (v := (0 : Int32)) hX dX9_weighs_76 (by decide) 77 rfl ?_
              exact hR _ hf _ _ dX9_weighs_77 rfl
            · replace hf := it_n h8 hf
              refine v_iload_n hX dX9_weighs_68 rfl 3 rfl 69 rfl ?_
              refine v_iconst (v := (2 : Int32)) hX dX9_weighs_69 (by decide) 70 rfl ?_
              refine v_idiv hX dX9_weighs_70 (by decide) 71 rfl ?_
              refine v_iconst (v := (1 : Int32)) hX dX9_weighs_71 (by decide) 72 rfl ?_
              refine v_isub hX dX9_weighs_72 73 rfl ?_
              refine v_goto hX dX9_weighs_73 77 rfl ?_
              exact hR _ hf _ _ dX9_weighs_77 rfl
          · replace hf := it_n h7 hf
            rcases Decidable.em (v3 = (5 : Int32)) with h9 | h9
            · replace hf := it_p h9 hf
              refine v_tsIn hX dX9_weighs_18 (5 : Int32) h9 (by decide) (by decide) (60) (by decide +kernel) 78 rfl ?_
              refine v_iload_n hX dX9_weighs_78 rfl 3 rfl 79 rfl ?_
              refine v_aload_n hX dX9_weighs_79 rfl 1 rfl 80 rfl ?_
              refine v_iload_n hX dX9_weighs_80 rfl 2 rfl 81 rfl ?_
              refine v_iconst (v := (4 : Int32)) hX dX9_weighs_81 (by decide) 82 rfl ?_
              obtain ⟨v10, hv10, hf⟩ := bn1_e hf
              refine cv_i hX (c9_its r g u h _ _ hv10) wvX9_its q_471 rc_52 (Nat.le_of_ble_eq_true rfl) (Nat.le_of_ble_eq_true rfl) (fun _ => rfl) [.int p2] rfl (Nat.le_of_ble_eq_true rfl) dX9_weighs_82 85 rfl ?_
              refine v_bipush (v := (10 : Int32)) hX dX9_weighs_85 (by decide) 87 rfl ?_
              refine v_idiv hX dX9_weighs_87 (by decide) 88 rfl ?_
              refine v_iadd hX dX9_weighs_88 89 rfl ?_
              exact hR _ hf _ _ dX9_weighs_89 rfl
            · replace hf := it_n h9 hf
              refine v_tsD hX dX9_weighs_18 [1, 2, 3, 4, 5] (sw_c h4 (by decide) (sw_c h5 (by decide) (sw_c h6 (by decide) (sw_c h7 (by decide) (sw_c h9 (by decide) sw_n))))) (by decide) (by decide +kernel) 90 rfl ?_
              refine v_iload_n hX dX9_weighs_90 rfl 3 rfl 91 rfl ?_
              exact hR _ hf _ _ dX9_weighs_91 rfl
  refine v_if_le hX dX9_weighs_1 10 rfl 4 rfl (fun h11 => ?_) (fun h11 => ?_)
  · replace hf := it_p h11 hf
    refine v_iconst (v := (0 : Int32)) hX dX9_weighs_10 (by decide) 11 rfl ?_
    exact HJ1 _ hf
  · replace hf := it_n h11 hf
    refine v_iload_n hX dX9_weighs_4 rfl 2 rfl 5 rfl ?_
    refine v_iconst (v := (1 : Int32)) hX dX9_weighs_5 (by decide) 6 rfl ?_
    refine v_iadd hX dX9_weighs_6 7 rfl ?_
    refine v_goto hX dX9_weighs_7 11 rfl ?_
    exact HJ1 _ hf
set_option maxRecDepth 100000 in
set_option maxHeartbeats 4000000 in
theorem c9_strengthOf (r : Nat → Int32) (g : Nat → Nat → Int32) (u : Nat → Int64) (h : Nat → Nat → Int64) (p1 : Int32) (p2 : Int32) {res : Int32} (hf : f9_strengthOf (r 30) (g 57) (g 55) (g 58) (g 56) p1 p2 = some res) : MAi yX9_strengthOf cX9_strengthOf 10 (some .int) 2 (fun a => [.ref (a 52), .int p1, .int p2]) r g u h res r g u h := by
  refine mi_i (by decide +kernel) (fun a => Nat.le_of_ble_eq_true rfl) (fun X hX hn hR => ?_)
  replace hR : ∀ q : Int32, some q = some res → ∀ lv pc, decode cX9_strengthOf pc = .ok (.ireturn, 1) → narrow .int (.int q) = .int q → VC X r g u h lv [.int q] pc := fun q hq => by cases hq; exact hR
  replace hX : CX X RX9 cX9_strengthOf 2 := hX
  show VC X r g u h [(0, .ref (aX X 52)), (1, .int p1), (2, .int p2)] [] 0
  rw [f9_strengthOf] at hf
  refine v_iload_n hX dX9_strengthOf_0 rfl 1 rfl 1 rfl ?_
  refine v_iload_n hX dX9_strengthOf_1 rfl 2 rfl 2 rfl ?_
  obtain ⟨J1, hJ1, hf⟩ := jn_x hf
  have HJ1 : ∀ (s2 : Int32), J1 s2 = some res → VC X r g u h [(0, .ref (aX X 52)), (1, .int p1), (2, .int p2)] [.int s2] 10 := by
    intro s2 hf
    rw [hJ1] at hf
    refine v_istore_n hX dX9_strengthOf_10 rfl (ltn hn (by decide)) 11 rfl [(3, .int s2), (0, .ref (aX X 52)), (1, .int p1), (2, .int p2)] rfl ?_
    refine v_iload_n hX dX9_strengthOf_11 rfl 2 rfl 12 rfl ?_
    refine v_iload_n hX dX9_strengthOf_12 rfl 3 rfl 13 rfl ?_
    obtain ⟨J3, hJ3, hf⟩ := jn_x hf
    have HJ3 : ∀ (s4 : Int32), J3 s4 = some res → VC X r g u h [(0, .ref (aX X 52)), (3, .int s2)] [.int s4] 21 := by
      intro s4 hf
      rw [hJ3] at hf
      refine v_istore hX dX9_strengthOf_21 (ltn hn (by decide)) 23 rfl [(4, .int s4), (0, .ref (aX X 52)), (3, .int s2)] rfl ?_
      refine v_iconst (v := (0 : Int32)) hX dX9_strengthOf_23 (by decide) 24 rfl ?_
      refine v_istore hX dX9_strengthOf_24 (ltn hn (by decide)) 26 rfl [(5, .int (0 : Int32)), (4, .int s4), (0, .ref (aX X 52)), (3, .int s2)] rfl ?_
      refine v_iconst (v := (0 : Int32)) hX dX9_strengthOf_26 (by decide) 27 rfl ?_
      refine v_istore hX dX9_strengthOf_27 (ltn hn (by decide)) 29 rfl [(6, .int (0 : Int32)), (5, .int (0 : Int32)), (4, .int s4), (0, .ref (aX X 52)), (3, .int s2)] rfl ?_
      obtain ⟨K7, hK7, hf⟩ := jn_x hf
      have HK7 : ∀ (x5 : Int32) (x6 : Int32), K7 x5 x6 = some res → VC X r g u h [(0, .ref (aX X 52)), (3, .int s2), (4, .int s4), (5, .int x5)] [] 139 := by
        intro x5 x6 hf
        rw [hK7] at hf
        refine v_iload hX dX9_strengthOf_139 3 rfl 141 rfl ?_
        refine v_aload_n hX dX9_strengthOf_141 rfl 0 rfl 142 rfl ?_
        refine v_iload_n hX dX9_strengthOf_142 rfl 1 rfl 143 rfl ?_
        refine v_iconst (v := (3 : Int32)) hX dX9_strengthOf_143 (by decide) 144 rfl ?_
        obtain ⟨v32, hv32, hf⟩ := bn1_e hf
        refine cv_i hX (c9_its r g u h _ _ hv32) wvX9_its q_471 rc_52 (Nat.le_of_ble_eq_true rfl) (Nat.le_of_ble_eq_true rfl) (fun _ => rfl) [.int x5] rfl (Nat.le_of_ble_eq_true rfl) dX9_strengthOf_144 147 rfl ?_
        obtain ⟨J33, hJ33, hf⟩ := jn_x hf
        have HJ33 : ∀ (s34 : Int32), J33 s34 = some res → VC X r g u h [(0, .ref (aX X 52)), (3, .int s2), (4, .int s4)] [.int s34, .int x5] 176 := by
          intro s34 hf
          rw [hJ33] at hf
          refine v_iadd hX dX9_strengthOf_176 177 rfl ?_
          refine v_istore hX dX9_strengthOf_177 (ltn hn (by decide)) 179 rfl [(5, .int (x5 + s34)), (0, .ref (aX X 52)), (3, .int s2), (4, .int s4)] rfl ?_
          refine v_aload_n hX dX9_strengthOf_179 rfl 1 rfl 180 rfl ?_
          refine v_iload hX dX9_strengthOf_180 3 rfl 182 rfl ?_
          refine v_aload_n hX dX9_strengthOf_182 rfl 1 rfl 183 rfl ?_
          refine v_iload_n hX dX9_strengthOf_183 rfl 2 rfl 184 rfl ?_
          refine v_iload hX dX9_strengthOf_184 0 rfl 186 rfl ?_
          obtain ⟨v35, hv35, hf⟩ := bn1_e hf
          refine cv_i hX (c9_weighs r g u h _ _ hv35) wvX9_weighs q_586 rc_52 (Nat.le_of_ble_eq_true rfl) (Nat.le_of_ble_eq_true rfl) (fun _ => rfl) [.int s4, .ref (aX X 52)] rfl (Nat.le_of_ble_eq_true rfl) dX9_strengthOf_186 189 rfl ?_
          obtain ⟨v36, hv36, hf⟩ := bn1_e hf
          refine cv_i hX (c9_weighs r g u h _ _ hv36) wvX9_weighs q_586 rc_52 (Nat.le_of_ble_eq_true rfl) (Nat.le_of_ble_eq_true rfl) (fun _ => rfl) [] rfl (Nat.le_of_ble_eq_true rfl) dX9_strengthOf_189 192 rfl ?_
          exact hR _ hf _ _ dX9_strengthOf_192 rfl
        obtain ⟨J37, hJ37, hf⟩ := jn_x hf
        have HJ37 : J37 = some res → VC X r g u h [(0, .ref (aX X 52)), (3, .int s2), (4, .int s4)] [.int x5] 175 := by
          intro hf
          rw [hJ37] at hf
          refine v_iconst (v := (0 : Int32)) hX dX9_strengthOf_175 (by decide) 176 rfl ?_
          exact HJ33 _ hf
        refine v_if_eq hX dX9_strengthOf_147 175 rfl 150 rfl (fun h42 => ?_) (fun h42 => ?_)
        · replace hf := it_p h42 hf
          refine v_sub [(0, .ref (aX X 52)), (3, .int s2), (4, .int s4)] (sbc 0 rfl (sbc 1 rfl (sbc 2 rfl sbn))) ?_
          exact HJ37  hf
        · replace hf := it_n h42 hf
          refine v_aload_n hX dX9_strengthOf_150 rfl 0 rfl 151 rfl ?_
          refine v_iload_n hX dX9_strengthOf_151 rfl 1 rfl 152 rfl ?_
          refine v_iconst (v := (3 : Int32)) hX dX9_strengthOf_152 (by decide) 153 rfl ?_
          obtain ⟨v38, hv38, hf⟩ := bn1_e hf
          refine cv_i hX (c9_its r g u h _ _ hv38) wvX9_its q_471 rc_52 (Nat.le_of_ble_eq_true rfl) (Nat.le_of_ble_eq_true rfl) (fun _ => rfl) [.int x5] rfl (Nat.le_of_ble_eq_true rfl) dX9_strengthOf_153 156 rfl ?_
          refine v_aload_n hX dX9_strengthOf_156 rfl 0 rfl 157 rfl ?_
          refine v_iload hX dX9_strengthOf_157 2 rfl 159 rfl ?_
          refine v_iconst (v := (3 : Int32)) hX dX9_strengthOf_159 (by decide) 160 rfl ?_
          obtain ⟨v39, hv39, hf⟩ := bn1_e hf
          refine cv_i hX (c9_its r g u h _ _ hv39) wvX9_its q_471 rc_52 (Nat.le_of_ble_eq_true rfl) (Nat.le_of_ble_eq_true rfl) (fun _ => rfl) [.int v38, .int x5] rfl (Nat.le_of_ble_eq_true rfl) dX9_strengthOf_160 163 rfl ?_
          refine v_icmp_ne hX dX9_strengthOf_163 175 rfl 166 rfl (fun h41 => ?_) (fun h41 => ?_)
          · replace hf := it_n h41 hf
            refine v_sub [(0, .ref (aX X 52)), (3, .int s2), (4, .int s4)] (sbc 0 rfl (sbc 1 rfl (sbc 2 rfl sbn))) ?_
            exact HJ37  hf
          · replace hf := it_p h41 hf
            refine v_aload_n hX dX9_strengthOf_166 rfl 0 rfl 167 rfl ?_
            refine gf_52_7 hX q_108 dX9_strengthOf_167 170 rfl ?_
            refine v_iconst (v := (3 : Int32)) hX dX9_strengthOf_170 (by decide) 171 rfl ?_
            obtain ⟨hi40, hf⟩ := gd_e hf
            refine al_58 hX hi40 dX9_strengthOf_171 ((g 58) (3 : Int32).toNatClampNeg) rfl 172 rfl ?_
            refine v_goto hX dX9_strengthOf_172 176 rfl ?_
            refine v_sub [(0, .ref (aX X 52)), (3, .int s2), (4, .int s4)] (sbc 0 rfl (sbc 1 rfl (sbc 2 rfl sbn))) ?_
            exact HJ33 _ hf
      have HLK7 : ∀ (n8 : Nat) (x5 : Int32) (x6 : Int32), f9_strengthOf_L29 (r 30) (g 57) (g 55) (g 58) (g 56) s2 s4 n8 x5 x6 K7 = some res → VC X r g u h [(0, .ref (aX X 52)), (3, .int s2), (4, .int s4), (5, .int x5), (6, .int x6)] [] 29 := by
        intro n8
        induction n8 with
        | zero => intro x5 x6 hf; exact no_s hf
        | succ n8 ih =>
          intro x5 x6 hf
          rw [f9_strengthOf_L29] at hf
          refine v_iload hX dX9_strengthOf_29 4 rfl 31 rfl ?_
          refine v_iconst (v := (4 : Int32)) hX dX9_strengthOf_31 (by decide) 32 rfl ?_
          refine v_icmp_ge hX dX9_strengthOf_32 139 rfl 35 rfl (fun h31 => ?_) (fun h31 => ?_)
          · replace hf := it_p h31 hf
            refine v_sub [(0, .ref (aX X 52)), (3, .int s2), (4, .int s4), (5, .int x5)] (sbc 0 rfl (sbc 1 rfl (sbc 2 rfl (sbc 3 rfl sbn)))) ?_
            exact HK7 _ _ hf
          · replace hf := it_n h31 hf
            refine v_iconst (v := (0 : Int32)) hX dX9_strengthOf_35 (by decide) 36 rfl ?_
            refine v_istore hX dX9_strengthOf_36 (ltn hn (by decide)) 38 rfl [(7, .int (0 : Int32)), (0, .ref (aX X 52)), (3, .int s2), (4, .int s4), (5, .int x5), (6, .int x6)] rfl ?_
            obtain ⟨K11, hK11, hf⟩ := jn_x hf
            have HK11 : ∀ (x9 : Int32) (x10 : Int32), K11 x9 x10 = some res → VC X r g u h [(0, .ref (aX X 52)), (3, .int s2), (4, .int s4), (5, .int x9), (6, .int x6)] [] 133 := by
              intro x9 x10 hf
              rw [hK11] at hf
              refine v_inc (c := (1 : Int32)) hX dX9_strengthOf_133 4 rfl (by decide) (ltn hn (by decide)) 136 rfl [(6, .int (x6 + (1 : Int32))), (0, .ref (aX X 52)), (3, .int s2), (4, .int s4), (5, .int x9)] rfl ?_
              refine v_goto hX dX9_strengthOf_136 29 rfl ?_
              refine v_sub [(0, .ref (aX X 52)), (3, .int s2), (4, .int s4), (5, .int x9), (6, .int (x6 + (1 : Int32)))] (sbc 1 rfl (sbc 2 rfl (sbc 3 rfl (sbc 4 rfl (sbc 0 rfl sbn))))) ?_
              exact ih _ _ hf
            have HLK11 : ∀ (n12 : Nat) (x9 : Int32) (x10 : Int32), f9_strengthOf_L38 (r 30) (g 57) (g 55) (g 58) (g 56) s2 s4 x6 n12 x9 x10 K11 = some res → VC X r g u h [(0, .ref (aX X 52)), (3, .int s2), (4, .int s4), (5, .int x9), (6, .int x6), (7, .int x10)] [] 38 := by
              intro n12
              induction n12 with
              | zero => intro x9 x10 hf; exact no_s hf
              | succ n12 ih =>
                intro x9 x10 hf
                rw [f9_strengthOf_L38] at hf
                refine v_iload hX dX9_strengthOf_38 5 rfl 40 rfl ?_
                refine v_iconst (v := (4 : Int32)) hX dX9_strengthOf_40 (by decide) 41 rfl ?_
                refine v_icmp_ge hX dX9_strengthOf_41 133 rfl 44 rfl (fun h30 => ?_) (fun h30 => ?_)
                · replace hf := it_p h30 hf
                  refine v_sub [(0, .ref (aX X 52)), (3, .int s2), (4, .int s4), (5, .int x9), (6, .int x6)] (sbc 0 rfl (sbc 1 rfl (sbc 2 rfl (sbc 3 rfl (sbc 4 rfl sbn))))) ?_
                  exact HK11 _ _ hf
                · replace hf := it_n h30 hf
                  refine v_aload_n hX dX9_strengthOf_44 rfl 0 rfl 45 rfl ?_
                  refine v_iload_n hX dX9_strengthOf_45 rfl 1 rfl 46 rfl ?_
                  refine v_iload hX dX9_strengthOf_46 4 rfl 48 rfl ?_
                  obtain ⟨v13, hv13, hf⟩ := bn1_e hf
                  refine cv_i hX (c9_oneIn r g u h _ _ hv13) wvX9_oneIn q_467 rc_52 (Nat.le_of_ble_eq_true rfl) (Nat.le_of_ble_eq_true rfl) (fun _ => rfl) [] rfl (Nat.le_of_ble_eq_true rfl) dX9_strengthOf_48 51 rfl ?_
                  refine v_istore hX dX9_strengthOf_51 (ltn hn (by decide)) 53 rfl [(8, .int v13), (0, .ref (aX X 52)), (3, .int s2), (4, .int s4), (5, .int x9), (6, .int x6), (7, .int x10)] rfl ?_
                  refine v_iload hX dX9_strengthOf_53 0 rfl 55 rfl ?_
                  obtain ⟨J14, hJ14, hf⟩ := jn_x hf
                  have HJ14 : ∀ (s15 : Int32), J14 s15 = some res → VC X r g u h [(0, .ref (aX X 52)), (3, .int s2), (4, .int s4), (5, .int x9), (6, .int x6), (7, .int x10), (8, .int v13)] [.int s15] 76 := by
                    intro s15 hf
                    rw [hJ14] at hf
                    refine v_istore hX dX9_strengthOf_76 (ltn hn (by decide)) 78 rfl [(9, .int s15), (0, .ref (aX X 52)), (3, .int s2), (4, .int s4), (5, .int x9), (6, .int x6), (7, .int x10), (8, .int v13)] rfl ?_
                    refine v_iload hX dX9_strengthOf_78 0 rfl 80 rfl ?_
                    obtain ⟨J16, hJ16, hf⟩ := jn_x hf
                    have HJ16 : ∀ (y17 : Int32), J16 y17 = some res → VC X r g u h [(0, .ref (aX X 52)), (3, .int s2), (4, .int s4), (5, .int y17), (6, .int x6), (7, .int x10)] [] 127 := by
                      intro y17 hf
                      rw [hJ16] at hf
                      refine v_inc (c := (1 : Int32)) hX dX9_strengthOf_127 5 rfl (by decide) (ltn hn (by decide)) 130 rfl [(7, .int (x10 + (1 : Int32))), (0, .ref (aX X 52)), (3, .int s2), (4, .int s4), (5, .int y17), (6, .int x6)] rfl ?_
                      refine v_goto hX dX9_strengthOf_130 38 rfl ?_
                      refine v_sub [(0, .ref (aX X 52)), (3, .int s2), (4, .int s4), (5, .int y17), (6, .int x6), (7, .int (x10 + (1 : Int32)))] (sbc 1 rfl (sbc 2 rfl (sbc 3 rfl (sbc 4 rfl (sbc 5 rfl (sbc 0 rfl sbn)))))) ?_
                      exact ih _ _ hf
                    refine v_if_eq hX dX9_strengthOf_80 127 rfl 83 rfl (fun h25 => ?_) (fun h25 => ?_)
                    · replace hf := it_p h25 hf
                      refine v_sub [(0, .ref (aX X 52)), (3, .int s2), (4, .int s4), (5, .int x9), (6, .int x6), (7, .int x10)] (sbc 1 rfl (sbc 2 rfl (sbc 3 rfl (sbc 4 rfl (sbc 5 rfl (sbc 6 rfl sbn)))))) ?_
                      exact HJ16 _ hf
                    · replace hf := it_n h25 hf
                      refine v_aload_n hX dX9_strengthOf_83 rfl 1 rfl 84 rfl ?_
                      refine v_iload hX dX9_strengthOf_84 7 rfl 86 rfl ?_
                      obtain ⟨v18, hv18, hf⟩ := bn1_e hf
                      refine cv_i hX (c9_isHubOne r g u h _ hv18) wvX9_isHubOne q_454 rc_52 (Nat.le_of_ble_eq_true rfl) (Nat.le_of_ble_eq_true rfl) (fun _ => rfl) [] rfl (Nat.le_of_ble_eq_true rfl) dX9_strengthOf_86 89 rfl ?_
                      refine v_if_ne hX dX9_strengthOf_89 127 rfl 92 rfl (fun h24 => ?_) (fun h24 => ?_)
                      · replace hf := it_n h24 hf
                        refine v_sub [(0, .ref (aX X 52)), (3, .int s2), (4, .int s4), (5, .int x9), (6, .int x6), (7, .int x10)] (sbc 1 rfl (sbc 2 rfl (sbc 3 rfl (sbc 4 rfl (sbc 5 rfl (sbc 6 rfl sbn)))))) ?_
                        exact HJ16 _ hf
                      · replace hf := it_p h24 hf
                        refine v_iload hX dX9_strengthOf_92 4 rfl 94 rfl ?_
                        refine v_aload_n hX dX9_strengthOf_94 rfl 1 rfl 95 rfl ?_
                        refine gf_52_7 hX q_108 dX9_strengthOf_95 98 rfl ?_
                        refine v_iload hX dX9_strengthOf_98 5 rfl 100 rfl ?_
                        refine v_iload hX dX9_strengthOf_100 6 rfl 102 rfl ?_
                        obtain ⟨J19, hJ19, hf⟩ := jn_x hf
                        have HJ19 : ∀ (s20 : Int32), J19 s20 = some res → VC X r g u h [(0, .ref (aX X 52)), (3, .int s2), (4, .int s4), (6, .int x6), (7, .int x10)] [.int s20, .ref (aX X 58), .int x9] 123 := by
                          intro s20 hf
                          rw [hJ19] at hf
                          obtain ⟨hi21, hf⟩ := gd_e hf
                          refine al_58 hX hi21 dX9_strengthOf_123 ((g 58) s20.toNatClampNeg) rfl 124 rfl ?_
                          refine v_iadd hX dX9_strengthOf_124 125 rfl ?_
                          refine v_istore hX dX9_strengthOf_125 (ltn hn (by decide)) 127 rfl [(5, .int (x9 + ((g 58) s20.toNatClampNeg))), (0, .ref (aX X 52)), (3, .int s2), (4, .int s4), (6, .int x6), (7, .int x10)] rfl ?_
                          refine v_sub [(0, .ref (aX X 52)), (3, .int s2), (4, .int s4), (5, .int (x9 + ((g 58) s20.toNatClampNeg))), (6, .int x6), (7, .int x10)] (sbc 1 rfl (sbc 2 rfl (sbc 3 rfl (sbc 0 rfl (sbc 4 rfl (sbc 5 rfl sbn)))))) ?_
                          exact HJ16 _ hf
                        refine v_icmp_ne hX dX9_strengthOf_102 109 rfl 105 rfl (fun h23 => ?_) (fun h23 => ?_)
                        · replace hf := it_n h23 hf
                          refine v_iload hX dX9_strengthOf_109 5 rfl 111 rfl ?_
                          refine v_iload hX dX9_strengthOf_111 6 rfl 113 rfl ?_
                          refine v_iadd hX dX9_strengthOf_113 114 rfl ?_
                          refine v_iconst (v := (1 : Int32)) hX dX9_strengthOf_114 (by decide) 115 rfl ?_
                          refine v_icmp_ne hX dX9_strengthOf_115 122 rfl 118 rfl (fun h22 => ?_) (fun h22 => ?_)
                          · replace hf := it_n h22 hf
                            refine v_iconst (v := (2 : Int32)) hX dX9_strengthOf_122 (by decide) 123 rfl ?_
                            refine v_sub [(0, .ref (aX X 52)), (3, .int s2), (4, .int s4), (6, .int x6), (7, .int x10)] (sbc 1 rfl (sbc 2 rfl (sbc 3 rfl (sbc 5 rfl (sbc 6 rfl sbn))))) ?_
                            exact HJ19 _ hf
                          · replace hf := it_p h22 hf
                            refine v_iconst (v := (1 : Int32)) hX dX9_strengthOf_118 (by decide) 119 rfl ?_
                            refine v_goto hX dX9_strengthOf_119 123 rfl ?_
                            refine v_sub [(0, .ref (aX X 52)), (3, .int s2), (4, .int s4), (6, .int x6), (7, .int x10)] (sbc 1 rfl (sbc 2 rfl (sbc 3 rfl (sbc 5 rfl (sbc 6 rfl sbn))))) ?_
                            exact HJ19 _ hf
                        · replace hf := it_p h23 hf
                          refine v_iconst (v := (0 : Int32)) hX dX9_strengthOf_105 (by decide) 106 rfl ?_
                          refine v_goto hX dX9_strengthOf_106 123 rfl ?_
                          refine v_sub [(0, .ref (aX X 52)), (3, .int s2), (4, .int s4), (6, .int x6), (7, .int x10)] (sbc 1 rfl (sbc 2 rfl (sbc 3 rfl (sbc 5 rfl (sbc 6 rfl sbn))))) ?_
                          exact HJ19 _ hf
                  obtain ⟨J26, hJ26, hf⟩ := jn_x hf
                  have HJ26 : J26 = some res → VC X r g u h [(0, .ref (aX X 52)), (3, .int s2), (4, .int s4), (5, .int x9), (6, .int x6), (7, .int x10), (8, .int v13)] [] 75 := by
                    intro hf
                    rw [hJ26] at hf
                    refine v_iconst (v := (0 : Int32)) hX dX9_strengthOf_75 (by decide) 76 rfl ?_
                    exact HJ14 _ hf
                  refine v_if_lt hX dX9_strengthOf_55 75 rfl 58 rfl (fun h29 => ?_) (fun h29 => ?_)
                  · replace hf := it_p h29 hf
                    refine v_sub [(0, .ref (aX X 52)), (3, .int s2), (4, .int s4), (5, .int x9), (6, .int x6), (7, .int x10), (8, .int v13)] (sbc 1 rfl (sbc 2 rfl (sbc 3 rfl (sbc 4 rfl (sbc 5 rfl (sbc 6 rfl (sbc 0 rfl sbn))))))) ?_
                    exact HJ26  hf
                  · replace hf := it_n h29 hf
                    refine v_iload hX dX9_strengthOf_58 0 rfl 60 rfl ?_
                    refine v_aload_n hX dX9_strengthOf_60 rfl 1 rfl 61 rfl ?_
                    refine v_iload hX dX9_strengthOf_61 3 rfl 63 rfl ?_
                    refine v_iload hX dX9_strengthOf_63 6 rfl 65 rfl ?_
                    obtain ⟨v27, hv27, hf⟩ := bn1_e hf
                    refine cv_i hX (c9_oneIn r g u h _ _ hv27) wvX9_oneIn q_467 rc_52 (Nat.le_of_ble_eq_true rfl) (Nat.le_of_ble_eq_true rfl) (fun _ => rfl) [.int v13] rfl (Nat.le_of_ble_eq_true rfl) dX9_strengthOf_65 68 rfl ?_
                    refine v_icmp_ne hX dX9_strengthOf_68 75 rfl 71 rfl (fun h28 => ?_) (fun h28 => ?_)
                    · replace hf := it_n h28 hf
                      refine v_sub [(0, .ref (aX X 52)), (3, .int s2), (4, .int s4), (5, .int x9), (6, .int x6), (7, .int x10), (8, .int v13)] (sbc 1 rfl (sbc 2 rfl (sbc 3 rfl (sbc 4 rfl (sbc 5 rfl (sbc 6 rfl (sbc 0 rfl sbn))))))) ?_
                      exact HJ26  hf
                    · replace hf := it_p h28 hf
                      refine v_iconst (v := (1 : Int32)) hX dX9_strengthOf_71 (by decide) 72 rfl ?_
                      refine v_goto hX dX9_strengthOf_72 76 rfl ?_
                      refine v_sub [(0, .ref (aX X 52)), (3, .int s2), (4, .int s4), (5, .int x9), (6, .int x6), (7, .int x10), (8, .int v13)] (sbc 1 rfl (sbc 2 rfl (sbc 3 rfl (sbc 4 rfl (sbc 5 rfl (sbc 6 rfl (sbc 0 rfl sbn))))))) ?_
                      exact HJ14 _ hf
            refine v_sub [(0, .ref (aX X 52)), (3, .int s2), (4, .int s4), (5, .int x5), (6, .int x6), (7, .int (0 : Int32))] (sbc 1 rfl (sbc 2 rfl (sbc 3 rfl (sbc 4 rfl (sbc 5 rfl (sbc 0 rfl sbn)))))) ?_
            exact HLK11 _ _ _ hf
      refine v_sub [(0, .ref (aX X 52)), (3, .int s2), (4, .int s4), (5, .int (0 : Int32)), (6, .int (0 : Int32))] (sbc 3 rfl (sbc 4 rfl (sbc 2 rfl (sbc 1 rfl (sbc 0 rfl sbn))))) ?_
      exact HLK7 _ _ _ hf
    refine v_icmp_ge hX dX9_strengthOf_13 20 rfl 16 rfl (fun h43 => ?_) (fun h43 => ?_)
    · replace hf := it_p h43 hf
      refine v_iload_n hX dX9_strengthOf_20 rfl 2 rfl 21 rfl ?_
      refine v_sub [(0, .ref (aX X 52)), (3, .int s2)] (sbc 1 rfl (sbc 0 rfl sbn)) ?_
      exact HJ3 _ hf
    · replace hf := it_n h43 hf
      refine v_iload_n hX dX9_strengthOf_16 rfl 3 rfl 17 rfl ?_
      refine v_goto hX dX9_strengthOf_17 21 rfl ?_
      refine v_sub [(0, .ref (aX X 52)), (3, .int s2)] (sbc 1 rfl (sbc 0 rfl sbn)) ?_
      exact HJ3 _ hf
  refine v_icmp_ge hX dX9_strengthOf_2 9 rfl 5 rfl (fun h44 => ?_) (fun h44 => ?_)
  · replace hf := it_p h44 hf
    refine v_iload_n hX dX9_strengthOf_9 rfl 2 rfl 10 rfl ?_
    exact HJ1 _ hf
  · replace hf := it_n h44 hf
    refine v_iload_n hX dX9_strengthOf_5 rfl 1 rfl 6 rfl ?_
    refine v_goto hX dX9_strengthOf_6 10 rfl ?_
    exact HJ1 _ hf
set_option maxRecDepth 100000 in
set_option maxHeartbeats 4000000 in
theorem c9_likelyOf (r : Nat → Int32) (g : Nat → Nat → Int32) (u : Nat → Int64) (h : Nat → Nat → Int64) (p1 : Int32) {res : Int32} (hf : f9_likelyOf (r 31) (r 30) (g 57) (g 55) (g 58) (g 56) p1 = some res) : MAi yX9_likelyOf cX9_likelyOf 4 (some .int) 3 (fun a => [.ref (a 52), .int p1]) r g u h res r g u h := by
  refine mi_i (by decide +kernel) (fun a => Nat.le_of_ble_eq_true rfl) (fun X hX hn hR => ?_)
  replace hR : ∀ q : Int32, some q = some res → ∀ lv pc, decode cX9_likelyOf pc = .ok (.ireturn, 1) → narrow .int (.int q) = .int q → VC X r g u h lv [.int q] pc := fun q hq => by cases hq; exact hR
  replace hX : CX X RX9 cX9_likelyOf 3 := hX
  show VC X r g u h [(0, .ref (aX X 52)), (1, .int p1)] [] 0
  rw [f9_likelyOf] at hf
  refine v_iconst (v := (0 : Int32)) hX dX9_likelyOf_0 (by decide) 1 rfl ?_
  refine v_istore_n hX dX9_likelyOf_1 rfl (ltn hn (by decide)) 2 rfl [(2, .int (0 : Int32)), (0, .ref (aX X 52)), (1, .int p1)] rfl ?_
  refine v_iconst (v := (0 : Int32)) hX dX9_likelyOf_2 (by decide) 3 rfl ?_
  refine v_istore_n hX dX9_likelyOf_3 rfl (ltn hn (by decide)) 4 rfl [(3, .int (0 : Int32)), (2, .int (0 : Int32)), (0, .ref (aX X 52)), (1, .int p1)] rfl ?_
  obtain ⟨K3, hK3, hf⟩ := jn_x hf
  have HK3 : ∀ (x1 : Int32) (x2 : Int32), K3 x1 x2 = some res → VC X r g u h [(2, .int x1)] [] 36 := by
    intro x1 x2 hf
    rw [hK3] at hf
    refine v_iload_n hX dX9_likelyOf_36 rfl 0 rfl 37 rfl ?_
    refine v_bipush (v := (9 : Int32)) hX dX9_likelyOf_37 (by decide) 39 rfl ?_
    refine v_icmp_le hX dX9_likelyOf_39 47 rfl 42 rfl (fun h10 => ?_) (fun h10 => ?_)
    · replace hf := it_p h10 hf
      refine v_iload_n hX dX9_likelyOf_47 rfl 0 rfl 48 rfl ?_
      exact hR _ hf _ _ dX9_likelyOf_48 rfl
    · replace hf := it_n h10 hf
      refine v_bipush (v := (9 : Int32)) hX dX9_likelyOf_42 (by decide) 44 rfl ?_
      refine v_goto hX dX9_likelyOf_44 48 rfl ?_
      exact hR _ hf _ _ dX9_likelyOf_48 rfl
  have HLK3 : ∀ (n4 : Nat) (x1 : Int32) (x2 : Int32), f9_likelyOf_L4 (r 31) (r 30) (g 57) (g 55) (g 58) (g 56) p1 n4 x1 x2 K3 = some res → VC X r g u h [(0, .ref (aX X 52)), (1, .int p1), (2, .int x1), (3, .int x2)] [] 4 := by
    intro n4
    induction n4 with
    | zero => intro x1 x2 hf; exact no_s hf
    | succ n4 ih =>
      intro x1 x2 hf
      rw [f9_likelyOf_L4] at hf
      refine v_iload_n hX dX9_likelyOf_4 rfl 3 rfl 5 rfl ?_
      refine v_aload_n hX dX9_likelyOf_5 rfl 0 rfl 6 rfl ?_
      refine gf_52_5 hX q_462 dX9_likelyOf_6 ((r 31)) rfl 9 rfl ?_
      refine v_icmp_ge hX dX9_likelyOf_9 36 rfl 12 rfl (fun h9 => ?_) (fun h9 => ?_)
      · replace hf := it_p h9 hf
        refine v_sub [(2, .int x1)] (sbc 2 rfl sbn) ?_
        exact HK3 _ _ hf
      · replace hf := it_n h9 hf
        refine v_iload_n hX dX9_likelyOf_12 rfl 2 rfl 13 rfl ?_
        refine v_iload_n hX dX9_likelyOf_13 rfl 3 rfl 14 rfl ?_
        refine v_iload_n hX dX9_likelyOf_14 rfl 1 rfl 15 rfl ?_
        obtain ⟨J5, hJ5, hf⟩ := jn_x hf
        have HJ5 : ∀ (s6 : Int32), J5 s6 = some res → VC X r g u h [(0, .ref (aX X 52)), (1, .int p1), (3, .int x2)] [.int s6, .int x1] 28 := by
          intro s6 hf
          rw [hJ5] at hf
          refine v_iadd hX dX9_likelyOf_28 29 rfl ?_
          refine v_istore_n hX dX9_likelyOf_29 rfl (ltn hn (by decide)) 30 rfl [(2, .int (x1 + s6)), (0, .ref (aX X 52)), (1, .int p1), (3, .int x2)] rfl ?_
          refine v_inc (c := (1 : Int32)) hX dX9_likelyOf_30 3 rfl (by decide) (ltn hn (by decide)) 33 rfl [(3, .int (x2 + (1 : Int32))), (2, .int (x1 + s6)), (0, .ref (aX X 52)), (1, .int p1)] rfl ?_
          refine v_goto hX dX9_likelyOf_33 4 rfl ?_
          refine v_sub [(0, .ref (aX X 52)), (1, .int p1), (2, .int (x1 + s6)), (3, .int (x2 + (1 : Int32)))] (sbc 2 rfl (sbc 3 rfl (sbc 1 rfl (sbc 0 rfl sbn)))) ?_
          exact ih _ _ hf
        refine v_icmp_ne hX dX9_likelyOf_15 22 rfl 18 rfl (fun h8 => ?_) (fun h8 => ?_)
        · replace hf := it_n h8 hf
          refine v_aload_n hX dX9_likelyOf_22 rfl 0 rfl 23 rfl ?_
          refine v_iload_n hX dX9_likelyOf_23 rfl 3 rfl 24 rfl ?_
          refine v_iload_n hX dX9_likelyOf_24 rfl 1 rfl 25 rfl ?_
          obtain ⟨v7, hv7, hf⟩ := bn1_e hf
          refine cv_i hX (c9_strengthOf r g u h _ _ hv7) wvX9_strengthOf q_582 rc_52 (Nat.le_of_ble_eq_true rfl) (Nat.le_of_ble_eq_true rfl) (fun _ => rfl) [.int x1] rfl (Nat.le_of_ble_eq_true rfl) dX9_likelyOf_25 28 rfl ?_
          refine v_sub [(0, .ref (aX X 52)), (1, .int p1), (3, .int x2)] (sbc 0 rfl (sbc 1 rfl (sbc 3 rfl sbn))) ?_
          exact HJ5 _ hf
        · replace hf := it_p h8 hf
          refine v_iconst (v := (0 : Int32)) hX dX9_likelyOf_18 (by decide) 19 rfl ?_
          refine v_goto hX dX9_likelyOf_19 28 rfl ?_
          refine v_sub [(0, .ref (aX X 52)), (1, .int p1), (3, .int x2)] (sbc 0 rfl (sbc 1 rfl (sbc 3 rfl sbn))) ?_
          exact HJ5 _ hf
  refine v_sub [(0, .ref (aX X 52)), (1, .int p1), (2, .int (0 : Int32)), (3, .int (0 : Int32))] (sbc 2 rfl (sbc 3 rfl (sbc 1 rfl (sbc 0 rfl sbn)))) ?_
  exact HLK3 _ _ _ hf
set_option maxRecDepth 100000 in
set_option maxHeartbeats 4000000 in
theorem c9_peopleIn (r : Nat → Int32) (g : Nat → Nat → Int32) (u : Nat → Int64) (h : Nat → Nat → Int64) (p1 : Int32) {res : Int32} (hf : f9_peopleIn (g 57) p1 = some res) : MAi yX9_peopleIn cX9_peopleIn 4 (some .int) 1 (fun a => [.ref (a 52), .int p1]) r g u h res r g u h := by
  refine mi_i (by decide +kernel) (fun a => Nat.le_of_ble_eq_true rfl) (fun X hX hn hR => ?_)
  replace hR : ∀ q : Int32, some q = some res → ∀ lv pc, decode cX9_peopleIn pc = .ok (.ireturn, 1) → narrow .int (.int q) = .int q → VC X r g u h lv [.int q] pc := fun q hq => by cases hq; exact hR
  replace hX : CX X RX9 cX9_peopleIn 1 := hX
  show VC X r g u h [(0, .ref (aX X 52)), (1, .int p1)] [] 0
  rw [f9_peopleIn] at hf
  refine v_iconst (v := (0 : Int32)) hX dX9_peopleIn_0 (by decide) 1 rfl ?_
  refine v_istore_n hX dX9_peopleIn_1 rfl (ltn hn (by decide)) 2 rfl [(2, .int (0 : Int32)), (0, .ref (aX X 52)), (1, .int p1)] rfl ?_
  refine v_iconst (v := (0 : Int32)) hX dX9_peopleIn_2 (by decide) 3 rfl ?_
  refine v_istore_n hX dX9_peopleIn_3 rfl (ltn hn (by decide)) 4 rfl [(3, .int (0 : Int32)), (2, .int (0 : Int32)), (0, .ref (aX X 52)), (1, .int p1)] rfl ?_
  obtain ⟨K3, hK3, hf⟩ := jn_x hf
  have HK3 : ∀ (x1 : Int32) (x2 : Int32), K3 x1 x2 = some res → VC X r g u h [(2, .int x1)] [] 34 := by
    intro x1 x2 hf
    rw [hK3] at hf
    refine v_iload_n hX dX9_peopleIn_34 rfl 0 rfl 35 rfl ?_
    exact hR _ hf _ _ dX9_peopleIn_35 rfl
  have HLK3 : ∀ (n4 : Nat) (x1 : Int32) (x2 : Int32), f9_peopleIn_L4 (g 57) p1 n4 x1 x2 K3 = some res → VC X r g u h [(0, .ref (aX X 52)), (1, .int p1), (2, .int x1), (3, .int x2)] [] 4 := by
    intro n4
    induction n4 with
    | zero => intro x1 x2 hf; exact no_s hf
    | succ n4 ih =>
      intro x1 x2 hf
      rw [f9_peopleIn_L4] at hf
      refine v_iload_n hX dX9_peopleIn_4 rfl 3 rfl 5 rfl ?_
      refine v_iconst (v := (4 : Int32)) hX dX9_peopleIn_5 (by decide) 6 rfl ?_
      refine v_icmp_ge hX dX9_peopleIn_6 34 rfl 9 rfl (fun h9 => ?_) (fun h9 => ?_)
      · replace hf := it_p h9 hf
        refine v_sub [(2, .int x1)] (sbc 2 rfl sbn) ?_
        exact HK3 _ _ hf
      · replace hf := it_n h9 hf
        refine v_iload_n hX dX9_peopleIn_9 rfl 2 rfl 10 rfl ?_
        refine v_aload_n hX dX9_peopleIn_10 rfl 0 rfl 11 rfl ?_
        refine v_iload_n hX dX9_peopleIn_11 rfl 1 rfl 12 rfl ?_
        refine v_iconst (v := (5 : Int32)) hX dX9_peopleIn_12 (by decide) 13 rfl ?_
        refine v_iload_n hX dX9_peopleIn_13 rfl 3 rfl 14 rfl ?_
        refine v_iadd hX dX9_peopleIn_14 15 rfl ?_
        obtain ⟨v5, hv5, hf⟩ := bn1_e hf
        refine cv_i hX (c9_its r g u h _ _ hv5) wvX9_its q_471 rc_52 (Nat.le_of_ble_eq_true rfl) (Nat.le_of_ble_eq_true rfl) (fun _ => rfl) [.int x1] rfl (Nat.le_of_ble_eq_true rfl) dX9_peopleIn_15 18 rfl ?_
        obtain ⟨J6, hJ6, hf⟩ := jn_x hf
        have HJ6 : ∀ (s7 : Int32), J6 s7 = some res → VC X r g u h [(0, .ref (aX X 52)), (1, .int p1), (3, .int x2)] [.int s7, .int x1] 26 := by
          intro s7 hf
          rw [hJ6] at hf
          refine v_iadd hX dX9_peopleIn_26 27 rfl ?_
          refine v_istore_n hX dX9_peopleIn_27 rfl (ltn hn (by decide)) 28 rfl [(2, .int (x1 + s7)), (0, .ref (aX X 52)), (1, .int p1), (3, .int x2)] rfl ?_
          refine v_inc (c := (1 : Int32)) hX dX9_peopleIn_28 3 rfl (by decide) (ltn hn (by decide)) 31 rfl [(3, .int (x2 + (1 : Int32))), (2, .int (x1 + s7)), (0, .ref (aX X 52)), (1, .int p1)] rfl ?_
          refine v_goto hX dX9_peopleIn_31 4 rfl ?_
          refine v_sub [(0, .ref (aX X 52)), (1, .int p1), (2, .int (x1 + s7)), (3, .int (x2 + (1 : Int32)))] (sbc 2 rfl (sbc 3 rfl (sbc 1 rfl (sbc 0 rfl sbn)))) ?_
          exact ih _ _ hf
        refine v_if_lt hX dX9_peopleIn_18 25 rfl 21 rfl (fun h8 => ?_) (fun h8 => ?_)
        · replace hf := it_p h8 hf
          refine v_iconst (v := (0 : Int32)) hX dX9_peopleIn_25 (by decide) 26 rfl ?_
          refine v_sub [(0, .ref (aX X 52)), (1, .int p1), (3, .int x2)] (sbc 0 rfl (sbc 1 rfl (sbc 3 rfl sbn))) ?_
          exact HJ6 _ hf
        · replace hf := it_n h8 hf
          refine v_iconst (v := (1 : Int32)) hX dX9_peopleIn_21 (by decide) 22 rfl ?_
          refine v_goto hX dX9_peopleIn_22 26 rfl ?_
          refine v_sub [(0, .ref (aX X 52)), (1, .int p1), (3, .int x2)] (sbc 0 rfl (sbc 1 rfl (sbc 3 rfl sbn))) ?_
          exact HJ6 _ hf
  refine v_sub [(0, .ref (aX X 52)), (1, .int p1), (2, .int (0 : Int32)), (3, .int (0 : Int32))] (sbc 2 rfl (sbc 3 rfl (sbc 1 rfl (sbc 0 rfl sbn)))) ?_
  exact HLK3 _ _ _ hf
set_option maxRecDepth 100000 in
set_option maxHeartbeats 4000000 in
theorem c9_best (r : Nat → Int32) (g : Nat → Nat → Int32) (u : Nat → Int64) (h : Nat → Nat → Int64) (p1 : Int32) {res : Int32 × (Nat → Int32) × (Nat → Int32)} (hf : f9_best (r 31) (r 30) (g 57) (g 70) (g 55) (g 58) (g 56) (g 71) p1 = some res) : MAi yX9_best cX9_best 8 (some .int) 4 (fun a => [.ref (a 52), .int p1]) r g u h res.1 r (lkp g [(70, res.2.1), (71, res.2.2)]) u h := by
  refine mi_i (by decide +kernel) (fun a => Nat.le_of_ble_eq_true rfl) (fun X hX hn hR => ?_)
  replace hR : ∀ q : Int32 × (Nat → Int32) × (Nat → Int32), some q = some res → ∀ lv pc, decode cX9_best pc = .ok (.ireturn, 1) → narrow .int (.int q.1) = .int q.1 → VC X r (lkp g [(70, q.2.1), (71, q.2.2)]) u h lv [.int q.1] pc := fun q hq => by cases hq; exact hR
  replace hX : CX X RX9 cX9_best 4 := hX
  refine v_opg [70, 71] [(70, g 70), (71, g 71)] rfl ?_
  show VC X r (lkp g [(70, g 70), (71, g 71)]) u h [(0, .ref (aX X 52)), (1, .int p1)] [] 0
  rw [f9_best] at hf
  refine v_iload_n hX dX9_best_0 rfl 1 rfl 1 rfl ?_
  obtain ⟨v1, hv1, hf⟩ := bn1_e hf
  refine cs_i hX (c9_isSide r (lkp g [(70, (g 70)), (71, (g 71))]) u h _ hv1) wvX9_isSide q_731 (Nat.le_of_ble_eq_true rfl) (Nat.le_of_ble_eq_true rfl) (fun _ => rfl) [] rfl (Nat.le_of_ble_eq_true rfl) dX9_best_1 4 rfl ?_
  refine v_if_ne hX dX9_best_4 9 rfl 7 rfl (fun h41 => ?_) (fun h41 => ?_)
  · replace hf := it_n h41 hf
    refine v_iconst (v := (0 : Int32)) hX dX9_best_9 (by decide) 10 rfl ?_
    refine v_istore_n hX dX9_best_10 rfl (ltn hn (by decide)) 11 rfl [(2, .int (0 : Int32)), (0, .ref (aX X 52)), (1, .int p1)] rfl ?_
    obtain ⟨K5, hK5, hf⟩ := jn_x hf
    have HK5 : ∀ (x2 : Int32) (c3 : (Nat → Int32)) (c4 : (Nat → Int32)), K5 x2 c3 c4 = some res → VC X r (lkp g [(70, c3), (71, c4)]) u h [(0, .ref (aX X 52)), (1, .int p1)] [] 71 := by
      intro x2 c3 c4 hf
      rw [hK5] at hf
      refine v_iconst (v := (0 : Int32)) hX dX9_best_71 (by decide) 72 rfl ?_
      refine v_istore_n hX dX9_best_72 rfl (ltn hn (by decide)) 73 rfl [(2, .int (0 : Int32)), (0, .ref (aX X 52)), (1, .int p1)] rfl ?_
      refine v_iconst (v := (0 : Int32)) hX dX9_best_73 (by decide) 74 rfl ?_
      refine v_istore_n hX dX9_best_74 rfl (ltn hn (by decide)) 75 rfl [(3, .int (0 : Int32)), (2, .int (0 : Int32)), (0, .ref (aX X 52)), (1, .int p1)] rfl ?_
      refine v_iconst (v := (1 : Int32)) hX dX9_best_75 (by decide) 76 rfl ?_
      refine v_istore hX dX9_best_76 (ltn hn (by decide)) 78 rfl [(4, .int (1 : Int32)), (3, .int (0 : Int32)), (2, .int (0 : Int32)), (0, .ref (aX X 52)), (1, .int p1)] rfl ?_
      obtain ⟨K17, hK17, hf⟩ := jn_x hf
      have HK17 : ∀ (x14 : Int32) (x15 : Int32) (x16 : Int32), K17 x14 x15 x16 = some res → VC X r (lkp g [(70, c3), (71, c4)]) u h [(1, .int p1), (2, .int x14), (3, .int x15)] [] 196 := by
        intro x14 x15 x16 hf
        rw [hK17] at hf
        refine v_iload_n hX dX9_best_196 rfl 0 rfl 197 rfl ?_
        refine v_if_ne hX dX9_best_197 204 rfl 200 rfl (fun h40 => ?_) (fun h40 => ?_)
        · replace hf := it_n h40 hf
          refine v_ldcw (v := (100000 : Int32)) hX q_688 dX9_best_204 207 rfl ?_
          refine v_iload_n hX dX9_best_207 rfl 2 rfl 208 rfl ?_
          refine v_iadd hX dX9_best_208 209 rfl ?_
          exact hR _ hf _ _ dX9_best_209 rfl
        · replace hf := it_p h40 hf
          refine v_iload_n hX dX9_best_200 rfl 1 rfl 201 rfl ?_
          refine v_goto hX dX9_best_201 209 rfl ?_
          exact hR _ hf _ _ dX9_best_209 rfl
      have HLK17 : ∀ (n18 : Nat) (x14 : Int32) (x15 : Int32) (x16 : Int32), f9_best_L78 (r 31) (g 58) c3 c4 n18 x14 x15 x16 K17 = some res → VC X r (lkp g [(70, c3), (71, c4)]) u h [(0, .ref (aX X 52)), (1, .int p1), (2, .int x14), (3, .int x15), (4, .int x16)] [] 78 := by
        intro n18
        induction n18 with
        | zero => intro x14 x15 x16 hf; exact no_s hf
        | succ n18 ih =>
          intro x14 x15 x16 hf
          rw [f9_best_L78] at hf
          refine v_iload hX dX9_best_78 4 rfl 80 rfl ?_
          refine v_iconst (v := (1 : Int32)) hX dX9_best_80 (by decide) 81 rfl ?_
          refine v_aload_n hX dX9_best_81 rfl 0 rfl 82 rfl ?_
          refine gf_52_5 hX q_462 dX9_best_82 ((r 31)) rfl 85 rfl ?_
          refine v_ishl hX dX9_best_85 86 rfl ?_
          refine v_icmp_ge hX dX9_best_86 196 rfl 89 rfl (fun h39 => ?_) (fun h39 => ?_)
          · replace hf := it_p h39 hf
            refine v_sub [(1, .int p1), (2, .int x14), (3, .int x15)] (sbc 1 rfl (sbc 2 rfl (sbc 3 rfl sbn))) ?_
            exact HK17 _ _ _ hf
          · replace hf := it_n h39 hf
            refine v_iconst (v := (0 : Int32)) hX dX9_best_89 (by decide) 90 rfl ?_
            refine v_istore hX dX9_best_90 (ltn hn (by decide)) 92 rfl [(5, .int (0 : Int32)), (0, .ref (aX X 52)), (1, .int p1), (2, .int x14), (3, .int x15), (4, .int x16)] rfl ?_
            refine v_iconst (v := (0 : Int32)) hX dX9_best_92 (by decide) 93 rfl ?_
            refine v_istore hX dX9_best_93 (ltn hn (by decide)) 95 rfl [(6, .int (0 : Int32)), (5, .int (0 : Int32)), (0, .ref (aX X 52)), (1, .int p1), (2, .int x14), (3, .int x15), (4, .int x16)] rfl ?_
            refine v_iconst (v := (0 : Int32)) hX dX9_best_95 (by decide) 96 rfl ?_
            refine v_istore hX dX9_best_96 (ltn hn (by decide)) 98 rfl [(7, .int (0 : Int32)), (6, .int (0 : Int32)), (5, .int (0 : Int32)), (0, .ref (aX X 52)), (1, .int p1), (2, .int x14), (3, .int x15), (4, .int x16)] rfl ?_
            obtain ⟨K22, hK22, hf⟩ := jn_x hf
            have HK22 : ∀ (x19 : Int32) (x20 : Int32) (x21 : Int32), K22 x19 x20 x21 = some res → VC X r (lkp g [(70, c3), (71, c4)]) u h [(0, .ref (aX X 52)), (1, .int p1), (2, .int x14), (3, .int x15), (4, .int x16), (5, .int x19), (6, .int x20)] [] 167 := by
              intro x19 x20 x21 hf
              rw [hK22] at hf
              refine v_iload hX dX9_best_167 5 rfl 169 rfl ?_
              refine v_aload_n hX dX9_best_169 rfl 0 rfl 170 rfl ?_
              refine gf_52_7 hX q_108 dX9_best_170 173 rfl ?_
              refine v_iconst (v := (5 : Int32)) hX dX9_best_173 (by decide) 174 rfl ?_
              obtain ⟨hi33, hf⟩ := gd_e hf
              refine al_58 hX hi33 dX9_best_174 ((g 58) (5 : Int32).toNatClampNeg) rfl 175 rfl ?_
              obtain ⟨J34, hJ34, hf⟩ := jn_x hf
              have HJ34 : ∀ (y35 : Int32) (y36 : Int32), J34 y35 y36 = some res → VC X r (lkp g [(70, c3), (71, c4)]) u h [(0, .ref (aX X 52)), (1, .int p1), (2, .int y35), (3, .int y36), (4, .int x16)] [] 190 := by
                intro y35 y36 hf
                rw [hJ34] at hf
                refine v_inc (c := (1 : Int32)) hX dX9_best_190 4 rfl (by decide) (ltn hn (by decide)) 193 rfl [(4, .int (x16 + (1 : Int32))), (0, .ref (aX X 52)), (1, .int p1), (2, .int y35), (3, .int y36)] rfl ?_
                refine v_goto hX dX9_best_193 78 rfl ?_
                refine v_sub [(0, .ref (aX X 52)), (1, .int p1), (2, .int y35), (3, .int y36), (4, .int (x16 + (1 : Int32)))] (sbc 1 rfl (sbc 2 rfl (sbc 3 rfl (sbc 4 rfl (sbc 0 rfl sbn))))) ?_
                exact ih _ _ _ hf
              refine v_icmp_gt hX dX9_best_175 190 rfl 178 rfl (fun h38 => ?_) (fun h38 => ?_)
              · replace hf := it_p h38 hf
                refine v_sub [(0, .ref (aX X 52)), (1, .int p1), (2, .int x14), (3, .int x15), (4, .int x16)] (sbc 0 rfl (sbc 1 rfl (sbc 2 rfl (sbc 3 rfl (sbc 4 rfl sbn))))) ?_
                exact HJ34 _ _ hf
              · replace hf := it_n h38 hf
                refine v_iload hX dX9_best_178 6 rfl 180 rfl ?_
                refine v_iload_n hX dX9_best_180 rfl 3 rfl 181 rfl ?_
                refine v_icmp_le hX dX9_best_181 190 rfl 184 rfl (fun h37 => ?_) (fun h37 => ?_)
                · replace hf := it_p h37 hf
                  refine v_sub [(0, .ref (aX X 52)), (1, .int p1), (2, .int x14), (3, .int x15), (4, .int x16)] (sbc 0 rfl (sbc 1 rfl (sbc 2 rfl (sbc 3 rfl (sbc 4 rfl sbn))))) ?_
                  exact HJ34 _ _ hf
                · replace hf := it_n h37 hf
                  refine v_iload hX dX9_best_184 4 rfl 186 rfl ?_
                  refine v_istore_n hX dX9_best_186 rfl (ltn hn (by decide)) 187 rfl [(2, .int x16), (0, .ref (aX X 52)), (1, .int p1), (3, .int x15), (4, .int x16), (5, .int x19), (6, .int x20)] rfl ?_
                  refine v_iload hX dX9_best_187 6 rfl 189 rfl ?_
                  refine v_istore_n hX dX9_best_189 rfl (ltn hn (by decide)) 190 rfl [(3, .int x20), (2, .int x16), (0, .ref (aX X 52)), (1, .int p1), (4, .int x16), (5, .int x19), (6, .int x20)] rfl ?_
                  refine v_sub [(0, .ref (aX X 52)), (1, .int p1), (2, .int x16), (3, .int x20), (4, .int x16)] (sbc 2 rfl (sbc 3 rfl (sbc 1 rfl (sbc 0 rfl (sbc 4 rfl sbn))))) ?_
                  exact HJ34 _ _ hf
            have HLK22 : ∀ (n23 : Nat) (x19 : Int32) (x20 : Int32) (x21 : Int32), f9_best_L98 (r 31) c3 c4 x16 n23 x19 x20 x21 K22 = some res → VC X r (lkp g [(70, c3), (71, c4)]) u h [(0, .ref (aX X 52)), (1, .int p1), (2, .int x14), (3, .int x15), (4, .int x16), (5, .int x19), (6, .int x20), (7, .int x21)] [] 98 := by
              intro n23
              induction n23 with
              | zero => intro x19 x20 x21 hf; exact no_s hf
              | succ n23 ih =>
                intro x19 x20 x21 hf
                rw [f9_best_L98] at hf
                refine v_iload hX dX9_best_98 7 rfl 100 rfl ?_
                refine v_aload_n hX dX9_best_100 rfl 0 rfl 101 rfl ?_
                refine gf_52_5 hX q_462 dX9_best_101 ((r 31)) rfl 104 rfl ?_
                refine v_icmp_ge hX dX9_best_104 167 rfl 107 rfl (fun h32 => ?_) (fun h32 => ?_)
                · replace hf := it_p h32 hf
                  refine v_sub [(0, .ref (aX X 52)), (1, .int p1), (2, .int x14), (3, .int x15), (4, .int x16), (5, .int x19), (6, .int x20)] (sbc 0 rfl (sbc 1 rfl (sbc 2 rfl (sbc 3 rfl (sbc 4 rfl (sbc 5 rfl (sbc 6 rfl sbn))))))) ?_
                  exact HK22 _ _ _ hf
                · replace hf := it_n h32 hf
                  refine v_iload hX dX9_best_107 5 rfl 109 rfl ?_
                  refine v_iload hX dX9_best_109 4 rfl 111 rfl ?_
                  refine v_iload hX dX9_best_111 7 rfl 113 rfl ?_
                  refine v_ishr hX dX9_best_113 114 rfl ?_
                  refine v_iconst (v := (1 : Int32)) hX dX9_best_114 (by decide) 115 rfl ?_
                  refine v_iand hX dX9_best_115 116 rfl ?_
                  refine v_iconst (v := (1 : Int32)) hX dX9_best_116 (by decide) 117 rfl ?_
                  obtain ⟨J24, hJ24, hf⟩ := jn_x hf
                  have HJ24 : ∀ (s25 : Int32), J24 s25 = some res → VC X r (lkp g [(70, c3), (71, c4)]) u h [(0, .ref (aX X 52)), (1, .int p1), (2, .int x14), (3, .int x15), (4, .int x16), (6, .int x20), (7, .int x21)] [.int s25, .int x19] 131 := by
                    intro s25 hf
                    rw [hJ24] at hf
                    refine v_iadd hX dX9_best_131 132 rfl ?_
                    refine v_istore hX dX9_best_132 (ltn hn (by decide)) 134 rfl [(5, .int (x19 + s25)), (0, .ref (aX X 52)), (1, .int p1), (2, .int x14), (3, .int x15), (4, .int x16), (6, .int x20), (7, .int x21)] rfl ?_
                    refine v_iload hX dX9_best_134 6 rfl 136 rfl ?_
                    refine v_iload hX dX9_best_136 5 rfl 138 rfl ?_
                    refine v_iload hX dX9_best_138 7 rfl 140 rfl ?_
                    refine v_ishr hX dX9_best_140 141 rfl ?_
                    refine v_iconst (v := (1 : Int32)) hX dX9_best_141 (by decide) 142 rfl ?_
                    refine v_iand hX dX9_best_142 143 rfl ?_
                    refine v_iconst (v := (1 : Int32)) hX dX9_best_143 (by decide) 144 rfl ?_
                    obtain ⟨J26, hJ26, hf⟩ := jn_x hf
                    have HJ26 : ∀ (s27 : Int32), J26 s27 = some res → VC X r (lkp g [(70, c3), (71, c4)]) u h [(0, .ref (aX X 52)), (1, .int p1), (2, .int x14), (3, .int x15), (4, .int x16), (5, .int (x19 + s25)), (7, .int x21)] [.int s27, .int x20] 158 := by
                      intro s27 hf
                      rw [hJ26] at hf
                      refine v_iadd hX dX9_best_158 159 rfl ?_
                      refine v_istore hX dX9_best_159 (ltn hn (by decide)) 161 rfl [(6, .int (x20 + s27)), (0, .ref (aX X 52)), (1, .int p1), (2, .int x14), (3, .int x15), (4, .int x16), (5, .int (x19 + s25)), (7, .int x21)] rfl ?_
                      refine v_inc (c := (1 : Int32)) hX dX9_best_161 7 rfl (by decide) (ltn hn (by decide)) 164 rfl [(7, .int (x21 + (1 : Int32))), (6, .int (x20 + s27)), (0, .ref (aX X 52)), (1, .int p1), (2, .int x14), (3, .int x15), (4, .int x16), (5, .int (x19 + s25))] rfl ?_
                      refine v_goto hX dX9_best_164 98 rfl ?_
                      refine v_sub [(0, .ref (aX X 52)), (1, .int p1), (2, .int x14), (3, .int x15), (4, .int x16), (5, .int (x19 + s25)), (6, .int (x20 + s27)), (7, .int (x21 + (1 : Int32)))] (sbc 2 rfl (sbc 3 rfl (sbc 4 rfl (sbc 5 rfl (sbc 6 rfl (sbc 7 rfl (sbc 1 rfl (sbc 0 rfl sbn)))))))) ?_
                      exact ih _ _ _ hf
                    refine v_icmp_ne hX dX9_best_144 157 rfl 147 rfl (fun h29 => ?_) (fun h29 => ?_)
                    · replace hf := it_n h29 hf
                      refine v_iconst (v := (0 : Int32)) hX dX9_best_157 (by decide) 158 rfl ?_
                      refine v_sub [(0, .ref (aX X 52)), (1, .int p1), (2, .int x14), (3, .int x15), (4, .int x16), (5, .int (x19 + s25)), (7, .int x21)] (sbc 1 rfl (sbc 2 rfl (sbc 3 rfl (sbc 4 rfl (sbc 5 rfl (sbc 0 rfl (sbc 7 rfl sbn))))))) ?_
                      exact HJ26 _ hf
                    · replace hf := it_p h29 hf
                      refine v_aload_n hX dX9_best_147 rfl 1 rfl 148 rfl ?_
                      refine gf_52_35 hX q_122 dX9_best_148 151 rfl ?_
                      refine v_iload hX dX9_best_151 7 rfl 153 rfl ?_
                      obtain ⟨hi28, hf⟩ := gd_e hf
                      refine al_71 hX hi28 dX9_best_153 (c4 x21.toNatClampNeg) rfl 154 rfl ?_
                      refine v_goto hX dX9_best_154 158 rfl ?_
                      refine v_sub [(0, .ref (aX X 52)), (1, .int p1), (2, .int x14), (3, .int x15), (4, .int x16), (5, .int (x19 + s25)), (7, .int x21)] (sbc 1 rfl (sbc 2 rfl (sbc 3 rfl (sbc 4 rfl (sbc 5 rfl (sbc 0 rfl (sbc 7 rfl sbn))))))) ?_
                      exact HJ26 _ hf
                  refine v_icmp_ne hX dX9_best_117 130 rfl 120 rfl (fun h31 => ?_) (fun h31 => ?_)
                  · replace hf := it_n h31 hf
                    refine v_iconst (v := (0 : Int32)) hX dX9_best_130 (by decide) 131 rfl ?_
                    refine v_sub [(0, .ref (aX X 52)), (1, .int p1), (2, .int x14), (3, .int x15), (4, .int x16), (6, .int x20), (7, .int x21)] (sbc 0 rfl (sbc 1 rfl (sbc 2 rfl (sbc 3 rfl (sbc 4 rfl (sbc 6 rfl (sbc 7 rfl sbn))))))) ?_
                    exact HJ24 _ hf
                  · replace hf := it_p h31 hf
                    refine v_aload_n hX dX9_best_120 rfl 0 rfl 121 rfl ?_
                    refine gf_52_34 hX q_121 dX9_best_121 124 rfl ?_
                    refine v_iload hX dX9_best_124 7 rfl 126 rfl ?_
                    obtain ⟨hi30, hf⟩ := gd_e hf
                    refine al_70 hX hi30 dX9_best_126 (c3 x21.toNatClampNeg) rfl 127 rfl ?_
                    refine v_goto hX dX9_best_127 131 rfl ?_
                    refine v_sub [(0, .ref (aX X 52)), (1, .int p1), (2, .int x14), (3, .int x15), (4, .int x16), (6, .int x20), (7, .int x21)] (sbc 0 rfl (sbc 1 rfl (sbc 2 rfl (sbc 3 rfl (sbc 4 rfl (sbc 6 rfl (sbc 7 rfl sbn))))))) ?_
                    exact HJ24 _ hf
            refine v_sub [(0, .ref (aX X 52)), (1, .int p1), (2, .int x14), (3, .int x15), (4, .int x16), (5, .int (0 : Int32)), (6, .int (0 : Int32)), (7, .int (0 : Int32))] (sbc 3 rfl (sbc 4 rfl (sbc 5 rfl (sbc 6 rfl (sbc 7 rfl (sbc 2 rfl (sbc 1 rfl (sbc 0 rfl sbn)))))))) ?_
            exact HLK22 _ _ _ _ hf
      refine v_sub [(0, .ref (aX X 52)), (1, .int p1), (2, .int (0 : Int32)), (3, .int (0 : Int32)), (4, .int (1 : Int32))] (sbc 3 rfl (sbc 4 rfl (sbc 2 rfl (sbc 1 rfl (sbc 0 rfl sbn))))) ?_
      exact HLK17 _ _ _ _ hf
    have HLK5 : ∀ (n6 : Nat) (x2 : Int32) (c3 : (Nat → Int32)) (c4 : (Nat → Int32)), f9_best_L11 (r 31) (r 30) (g 57) (g 55) (g 58) (g 56) n6 x2 c3 c4 K5 = some res → VC X r (lkp g [(70, c3), (71, c4)]) u h [(0, .ref (aX X 52)), (1, .int p1), (2, .int x2)] [] 11 := by
      intro n6
      induction n6 with
      | zero => intro x2 c3 c4 hf; exact no_s hf
      | succ n6 ih =>
        intro x2 c3 c4 hf
        rw [f9_best_L11] at hf
        refine v_iload_n hX dX9_best_11 rfl 2 rfl 12 rfl ?_
        refine v_aload_n hX dX9_best_12 rfl 0 rfl 13 rfl ?_
        refine gf_52_5 hX q_462 dX9_best_13 ((r 31)) rfl 16 rfl ?_
        refine v_icmp_ge hX dX9_best_16 71 rfl 19 rfl (fun h13 => ?_) (fun h13 => ?_)
        · replace hf := it_p h13 hf
          refine v_sub [(0, .ref (aX X 52)), (1, .int p1)] (sbc 0 rfl (sbc 1 rfl sbn)) ?_
          exact HK5 _ _ _ hf
        · replace hf := it_n h13 hf
          refine v_aload_n hX dX9_best_19 rfl 0 rfl 20 rfl ?_
          refine v_iload_n hX dX9_best_20 rfl 2 rfl 21 rfl ?_
          obtain ⟨v7, hv7, hf⟩ := bn1_e hf
          refine cv_i hX (c9_likelyOf r (lkp g [(70, c3), (71, c4)]) u h _ hv7) wvX9_likelyOf q_817 rc_52 (Nat.le_of_ble_eq_true rfl) (Nat.le_of_ble_eq_true rfl) (fun _ => rfl) [] rfl (Nat.le_of_ble_eq_true rfl) dX9_best_21 24 rfl ?_
          refine v_istore_n hX dX9_best_24 rfl (ltn hn (by decide)) 25 rfl [(3, .int v7), (0, .ref (aX X 52)), (1, .int p1), (2, .int x2)] rfl ?_
          refine v_aload_n hX dX9_best_25 rfl 1 rfl 26 rfl ?_
          refine gf_52_34 hX q_121 dX9_best_26 29 rfl ?_
          refine v_iload_n hX dX9_best_29 rfl 3 rfl 30 rfl ?_
          refine v_iconst (v := (1 : Int32)) hX dX9_best_30 (by decide) 31 rfl ?_
          refine v_aload_n hX dX9_best_31 rfl 1 rfl 32 rfl ?_
          refine v_iload_n hX dX9_best_32 rfl 3 rfl 33 rfl ?_
          obtain ⟨v8, hv8, hf⟩ := bn1_e hf
          refine cv_i hX (c9_peopleIn r (lkp g [(70, c3), (71, c4)]) u h _ hv8) wvX9_peopleIn q_838 rc_52 (Nat.le_of_ble_eq_true rfl) (Nat.le_of_ble_eq_true rfl) (fun _ => rfl) [.int (1 : Int32), .int x2, .ref (aX X 70)] rfl (Nat.le_of_ble_eq_true rfl) dX9_best_33 36 rfl ?_
          refine v_iadd hX dX9_best_36 37 rfl ?_
          obtain ⟨hi9, hf⟩ := gd_e hf
          refine as_70 hX hi9 dX9_best_37 38 rfl c3 rfl [(70, (upd c3 x2.toNatClampNeg ((1 : Int32) + v8))), (71, c4)] rfl ?_
          refine v_aload_n hX dX9_best_38 rfl 1 rfl 39 rfl ?_
          refine gf_52_35 hX q_122 dX9_best_39 42 rfl ?_
          refine v_iload_n hX dX9_best_42 rfl 3 rfl 43 rfl ?_
          refine v_iload_n hX dX9_best_43 rfl 0 rfl 44 rfl ?_
          refine v_aload_n hX dX9_best_44 rfl 1 rfl 45 rfl ?_
          refine v_iload_n hX dX9_best_45 rfl 3 rfl 46 rfl ?_
          refine v_iconst (v := (4 : Int32)) hX dX9_best_46 (by decide) 47 rfl ?_
          obtain ⟨v10, hv10, hf⟩ := bn1_e hf
          refine cv_i hX (c9_its r (lkp g [(70, (upd c3 x2.toNatClampNeg ((1 : Int32) + v8))), (71, c4)]) u h _ _ hv10) wvX9_its q_471 rc_52 (Nat.le_of_ble_eq_true rfl) (Nat.le_of_ble_eq_true rfl) (fun _ => rfl) [.int v7, .int x2, .ref (aX X 71)] rfl (Nat.le_of_ble_eq_true rfl) dX9_best_47 50 rfl ?_
          refine v_imul hX dX9_best_50 51 rfl ?_
          refine v_aload_n hX dX9_best_51 rfl 1 rfl 52 rfl ?_
          refine gf_52_7 hX q_108 dX9_best_52 55 rfl ?_
          refine v_bipush (v := (6 : Int32)) hX dX9_best_55 (by decide) 57 rfl ?_
          obtain ⟨hi11, hf⟩ := gd_e hf
          refine al_58 hX hi11 dX9_best_57 ((g 58) (6 : Int32).toNatClampNeg) rfl 58 rfl ?_
          refine v_bipush (v := (10 : Int32)) hX dX9_best_58 (by decide) 60 rfl ?_
          refine v_iload_n hX dX9_best_60 rfl 0 rfl 61 rfl ?_
          refine v_isub hX dX9_best_61 62 rfl ?_
          refine v_imul hX dX9_best_62 63 rfl ?_
          refine v_isub hX dX9_best_63 64 rfl ?_
          obtain ⟨hi12, hf⟩ := gd_e hf
          refine as_71 hX hi12 dX9_best_64 65 rfl c4 rfl [(70, (upd c3 x2.toNatClampNeg ((1 : Int32) + v8))), (71, (upd c4 x2.toNatClampNeg ((v7 * v10) - (((g 58) (6 : Int32).toNatClampNeg) * ((10 : Int32) - v7)))))] rfl ?_
          refine v_inc (c := (1 : Int32)) hX dX9_best_65 3 rfl (by decide) (ltn hn (by decide)) 68 rfl [(2, .int (x2 + (1 : Int32))), (3, .int v7), (0, .ref (aX X 52)), (1, .int p1)] rfl ?_
          refine v_goto hX dX9_best_68 11 rfl ?_
          refine v_sub [(0, .ref (aX X 52)), (1, .int p1), (2, .int (x2 + (1 : Int32)))] (sbc 2 rfl (sbc 3 rfl (sbc 0 rfl sbn))) ?_
          exact ih _ _ _ hf
    refine v_sub [(0, .ref (aX X 52)), (1, .int p1), (2, .int (0 : Int32))] (sbc 1 rfl (sbc 2 rfl (sbc 0 rfl sbn))) ?_
    exact HLK5 _ _ _ _ hf
  · replace hf := it_p h41 hf
    refine v_iconst (v := (-1 : Int32)) hX dX9_best_7 (by decide) 8 rfl ?_
    exact hR _ hf _ _ dX9_best_8 rfl
set_option maxRecDepth 100000 in
set_option maxHeartbeats 4000000 in
theorem c9_claim (r : Nat → Int32) (g : Nat → Nat → Int32) (u : Nat → Int64) (h : Nat → Nat → Int64) (p1 : Int32) (p2 : Int32) (p3 : Int32) (p4 : Int32) (p5 : Int32) {res : Int32 × Int32 × (Nat → Int32)} (hf : f9_claim (r 31) (g 57) p1 p2 p3 p4 p5 = some res) : MAi yX9_claim cX9_claim 8 (some .int) 1 (fun a => [.ref (a 52), .int p1, .int p2, .int p3, .int p4, .int p5]) r g u h res.1 (lkp r [(31, res.2.1)]) (lkp g [(57, res.2.2)]) u h := by
  refine mi_i (by decide +kernel) (fun a => Nat.le_of_ble_eq_true rfl) (fun X hX hn hR => ?_)
  replace hR : ∀ q : Int32 × Int32 × (Nat → Int32), some q = some res → ∀ lv pc, decode cX9_claim pc = .ok (.ireturn, 1) → narrow .int (.int q.1) = .int q.1 → VC X (lkp r [(31, q.2.1)]) (lkp g [(57, q.2.2)]) u h lv [.int q.1] pc := fun q hq => by cases hq; exact hR
  replace hX : CX X RX9 cX9_claim 1 := hX
  refine v_opr [31] [(31, r 31)] rfl ?_
  refine v_opg [57] [(57, g 57)] rfl ?_
  show VC X (lkp r [(31, r 31)]) (lkp g [(57, g 57)]) u h [(0, .ref (aX X 52)), (1, .int p1), (2, .int p2), (3, .int p3), (4, .int p4), (5, .int p5)] [] 0
  rw [f9_claim] at hf
  refine v_iload_n hX dX9_claim_0 rfl 1 rfl 1 rfl ?_
  refine v_iconst (v := (0 : Int32)) hX dX9_claim_1 (by decide) 2 rfl ?_
  refine v_iconst (v := (5 : Int32)) hX dX9_claim_2 (by decide) 3 rfl ?_
  obtain ⟨v1, hv1, hf⟩ := bn1_e hf
  refine cs_i hX (c9_in (lkp r [(31, (r 31))]) (lkp g [(57, (g 57))]) u h _ _ _ hv1) wvX9_in q_150 (Nat.le_of_ble_eq_true rfl) (Nat.le_of_ble_eq_true rfl) (fun _ => rfl) [] rfl (Nat.le_of_ble_eq_true rfl) dX9_claim_3 6 rfl ?_
  refine v_if_eq hX dX9_claim_6 50 rfl 9 rfl (fun h24 => ?_) (fun h24 => ?_)
  · replace hf := it_p h24 hf
    refine v_iconst (v := (-1 : Int32)) hX dX9_claim_50 (by decide) 51 rfl ?_
    exact hR _ hf _ _ dX9_claim_51 rfl
  · replace hf := it_n h24 hf
    refine v_iload_n hX dX9_claim_9 rfl 2 rfl 10 rfl ?_
    refine v_iconst (v := (0 : Int32)) hX dX9_claim_10 (by decide) 11 rfl ?_
    refine v_bipush (v := (99 : Int32)) hX dX9_claim_11 (by decide) 13 rfl ?_
    obtain ⟨v2, hv2, hf⟩ := bn1_e hf
    refine cs_i hX (c9_in (lkp r [(31, (r 31))]) (lkp g [(57, (g 57))]) u h _ _ _ hv2) wvX9_in q_150 (Nat.le_of_ble_eq_true rfl) (Nat.le_of_ble_eq_true rfl) (fun _ => rfl) [] rfl (Nat.le_of_ble_eq_true rfl) dX9_claim_13 16 rfl ?_
    refine v_if_eq hX dX9_claim_16 50 rfl 19 rfl (fun h23 => ?_) (fun h23 => ?_)
    · replace hf := it_p h23 hf
      refine v_iconst (v := (-1 : Int32)) hX dX9_claim_50 (by decide) 51 rfl ?_
      exact hR _ hf _ _ dX9_claim_51 rfl
    · replace hf := it_n h23 hf
      refine v_iload_n hX dX9_claim_19 rfl 3 rfl 20 rfl ?_
      refine v_iconst (v := (0 : Int32)) hX dX9_claim_20 (by decide) 21 rfl ?_
      refine v_iconst (v := (3 : Int32)) hX dX9_claim_21 (by decide) 22 rfl ?_
      obtain ⟨v3, hv3, hf⟩ := bn1_e hf
      refine cs_i hX (c9_in (lkp r [(31, (r 31))]) (lkp g [(57, (g 57))]) u h _ _ _ hv3) wvX9_in q_150 (Nat.le_of_ble_eq_true rfl) (Nat.le_of_ble_eq_true rfl) (fun _ => rfl) [] rfl (Nat.le_of_ble_eq_true rfl) dX9_claim_22 25 rfl ?_
      refine v_if_eq hX dX9_claim_25 50 rfl 28 rfl (fun h22 => ?_) (fun h22 => ?_)
      · replace hf := it_p h22 hf
        refine v_iconst (v := (-1 : Int32)) hX dX9_claim_50 (by decide) 51 rfl ?_
        exact hR _ hf _ _ dX9_claim_51 rfl
      · replace hf := it_n h22 hf
        refine v_iload hX dX9_claim_28 4 rfl 30 rfl ?_
        refine v_iconst (v := (0 : Int32)) hX dX9_claim_30 (by decide) 31 rfl ?_
        refine v_bipush (v := (9 : Int32)) hX dX9_claim_31 (by decide) 33 rfl ?_
        obtain ⟨v4, hv4, hf⟩ := bn1_e hf
        refine cs_i hX (c9_in (lkp r [(31, (r 31))]) (lkp g [(57, (g 57))]) u h _ _ _ hv4) wvX9_in q_150 (Nat.le_of_ble_eq_true rfl) (Nat.le_of_ble_eq_true rfl) (fun _ => rfl) [] rfl (Nat.le_of_ble_eq_true rfl) dX9_claim_33 36 rfl ?_
        refine v_if_eq hX dX9_claim_36 50 rfl 39 rfl (fun h21 => ?_) (fun h21 => ?_)
        · replace hf := it_p h21 hf
          refine v_iconst (v := (-1 : Int32)) hX dX9_claim_50 (by decide) 51 rfl ?_
          exact hR _ hf _ _ dX9_claim_51 rfl
        · replace hf := it_n h21 hf
          refine v_iload hX dX9_claim_39 5 rfl 41 rfl ?_
          refine v_iconst (v := (0 : Int32)) hX dX9_claim_41 (by decide) 42 rfl ?_
          refine v_bipush (v := (99 : Int32)) hX dX9_claim_42 (by decide) 44 rfl ?_
          obtain ⟨v5, hv5, hf⟩ := bn1_e hf
          refine cs_i hX (c9_in (lkp r [(31, (r 31))]) (lkp g [(57, (g 57))]) u h _ _ _ hv5) wvX9_in q_150 (Nat.le_of_ble_eq_true rfl) (Nat.le_of_ble_eq_true rfl) (fun _ => rfl) [] rfl (Nat.le_of_ble_eq_true rfl) dX9_claim_44 47 rfl ?_
          refine v_if_ne hX dX9_claim_47 52 rfl 50 rfl (fun h20 => ?_) (fun h20 => ?_)
          · replace hf := it_n h20 hf
            refine v_aload_n hX dX9_claim_52 rfl 0 rfl 53 rfl ?_
            refine gf_52_5 hX q_462 dX9_claim_53 ((r 31)) rfl 56 rfl ?_
            refine v_bipush (v := (9 : Int32)) hX dX9_claim_56 (by decide) 58 rfl ?_
            refine v_icmp_ne hX dX9_claim_58 64 rfl 61 rfl (fun h19 => ?_) (fun h19 => ?_)
            · replace hf := it_n h19 hf
              refine v_bipush (v := (11 : Int32)) hX dX9_claim_64 (by decide) 66 rfl ?_
              refine v_aload_n hX dX9_claim_66 rfl 0 rfl 67 rfl ?_
              refine gf_52_5 hX q_462 dX9_claim_67 ((r 31)) rfl 70 rfl ?_
              refine v_imul hX dX9_claim_70 71 rfl ?_
              refine v_istore hX dX9_claim_71 (ltn hn (by decide)) 73 rfl [(6, .int ((11 : Int32) * (r 31))), (0, .ref (aX X 52)), (1, .int p1), (2, .int p2), (3, .int p3), (4, .int p4), (5, .int p5)] rfl ?_
              refine v_aload_n hX dX9_claim_73 rfl 1 rfl 74 rfl ?_
              refine gf_52_6 hX q_107 dX9_claim_74 77 rfl ?_
              refine v_iload hX dX9_claim_77 0 rfl 79 rfl ?_
              refine v_iload_n hX dX9_claim_79 rfl 2 rfl 80 rfl ?_
              obtain ⟨hi6, hf⟩ := gd_e hf
              refine as_57 hX hi6 dX9_claim_80 81 rfl (g 57) rfl [(57, (upd (g 57) ((11 : Int32) * (r 31)).toNatClampNeg p1))] rfl ?_
              refine v_aload_n hX dX9_claim_81 rfl 1 rfl 82 rfl ?_
              refine gf_52_6 hX q_107 dX9_claim_82 85 rfl ?_
              refine v_iload hX dX9_claim_85 0 rfl 87 rfl ?_
              refine v_iconst (v := (1 : Int32)) hX dX9_claim_87 (by decide) 88 rfl ?_
              refine v_iadd hX dX9_claim_88 89 rfl ?_
              refine v_iload_n hX dX9_claim_89 rfl 3 rfl 90 rfl ?_
              obtain ⟨hi7, hf⟩ := gd_e hf
              refine as_57 hX hi7 dX9_claim_90 91 rfl (upd (g 57) ((11 : Int32) * (r 31)).toNatClampNeg p1) rfl [(57, (upd (upd (g 57) ((11 : Int32) * (r 31)).toNatClampNeg p1) (((11 : Int32) * (r 31)) + (1 : Int32)).toNatClampNeg p2))] rfl ?_
              refine v_aload_n hX dX9_claim_91 rfl 1 rfl 92 rfl ?_
              refine gf_52_6 hX q_107 dX9_claim_92 95 rfl ?_
              refine v_iload hX dX9_claim_95 0 rfl 97 rfl ?_
              refine v_iconst (v := (2 : Int32)) hX dX9_claim_97 (by decide) 98 rfl ?_
              refine v_iadd hX dX9_claim_98 99 rfl ?_
              refine v_iload_n hX dX9_claim_99 rfl 4 rfl 100 rfl ?_
              obtain ⟨hi8, hf⟩ := gd_e hf
              refine as_57 hX hi8 dX9_claim_100 101 rfl (upd (upd (g 57) ((11 : Int32) * (r 31)).toNatClampNeg p1) (((11 : Int32) * (r 31)) + (1 : Int32)).toNatClampNeg p2) rfl [(57, (upd (upd (upd (g 57) ((11 : Int32) * (r 31)).toNatClampNeg p1) (((11 : Int32) * (r 31)) + (1 : Int32)).toNatClampNeg p2) (((11 : Int32) * (r 31)) + (2 : Int32)).toNatClampNeg p3))] rfl ?_
              refine v_aload_n hX dX9_claim_101 rfl 1 rfl 102 rfl ?_
              refine gf_52_6 hX q_107 dX9_claim_102 105 rfl ?_
              refine v_iload hX dX9_claim_105 0 rfl 107 rfl ?_
              refine v_iconst (v := (3 : Int32)) hX dX9_claim_107 (by decide) 108 rfl ?_
              refine v_iadd hX dX9_claim_108 109 rfl ?_
              refine v_iload hX dX9_claim_109 5 rfl 111 rfl ?_
              obtain ⟨hi9, hf⟩ := gd_e hf
              refine as_57 hX hi9 dX9_claim_111 112 rfl (upd (upd (upd (g 57) ((11 : Int32) * (r 31)).toNatClampNeg p1) (((11 : Int32) * (r 31)) + (1 : Int32)).toNatClampNeg p2) (((11 : Int32) * (r 31)) + (2 : Int32)).toNatClampNeg p3) rfl [(57, (upd (upd (upd (upd (g 57) ((11 : Int32) * (r 31)).toNatClampNeg p1) (((11 : Int32) * (r 31)) + (1 : Int32)).toNatClampNeg p2) (((11 : Int32) * (r 31)) + (2 : Int32)).toNatClampNeg p3) (((11 : Int32) * (r 31)) + (3 : Int32)).toNatClampNeg p4))] rfl ?_
              refine v_aload_n hX dX9_claim_112 rfl 1 rfl 113 rfl ?_
              refine gf_52_6 hX q_107 dX9_claim_113 116 rfl ?_
              refine v_iload hX dX9_claim_116 0 rfl 118 rfl ?_
              refine v_iconst (v := (4 : Int32)) hX dX9_claim_118 (by decide) 119 rfl ?_
              refine v_iadd hX dX9_claim_119 120 rfl ?_
              refine v_iload hX dX9_claim_120 6 rfl 122 rfl ?_
              obtain ⟨hi10, hf⟩ := gd_e hf
              refine as_57 hX hi10 dX9_claim_122 123 rfl (upd (upd (upd (upd (g 57) ((11 : Int32) * (r 31)).toNatClampNeg p1) (((11 : Int32) * (r 31)) + (1 : Int32)).toNatClampNeg p2) (((11 : Int32) * (r 31)) + (2 : Int32)).toNatClampNeg p3) (((11 : Int32) * (r 31)) + (3 : Int32)).toNatClampNeg p4) rfl [(57, (upd (upd (upd (upd (upd (g 57) ((11 : Int32) * (r 31)).toNatClampNeg p1) (((11 : Int32) * (r 31)) + (1 : Int32)).toNatClampNeg p2) (((11 : Int32) * (r 31)) + (2 : Int32)).toNatClampNeg p3) (((11 : Int32) * (r 31)) + (3 : Int32)).toNatClampNeg p4) (((11 : Int32) * (r 31)) + (4 : Int32)).toNatClampNeg p5))] rfl ?_
              refine v_iconst (v := (0 : Int32)) hX dX9_claim_123 (by decide) 124 rfl ?_
              refine v_istore hX dX9_claim_124 (ltn hn (by decide)) 126 rfl [(7, .int (0 : Int32)), (6, .int ((11 : Int32) * (r 31))), (0, .ref (aX X 52)), (1, .int p1), (2, .int p2), (3, .int p3), (4, .int p4), (5, .int p5)] rfl ?_
              obtain ⟨K13, hK13, hf⟩ := jn_x hf
              have HK13 : ∀ (x11 : Int32) (c12 : (Nat → Int32)), K13 x11 c12 = some res → VC X (lkp r [(31, (r 31))]) (lkp g [(57, c12)]) u h [(0, .ref (aX X 52)), (6, .int ((11 : Int32) * (r 31)))] [] 151 := by
                intro x11 c12 hf
                rw [hK13] at hf
                refine v_aload_n hX dX9_claim_151 rfl 0 rfl 152 rfl ?_
                refine gf_52_6 hX q_107 dX9_claim_152 155 rfl ?_
                refine v_iload hX dX9_claim_155 1 rfl 157 rfl ?_
                refine v_bipush (v := (9 : Int32)) hX dX9_claim_157 (by decide) 159 rfl ?_
                refine v_iadd hX dX9_claim_159 160 rfl ?_
                refine v_iconst (v := (0 : Int32)) hX dX9_claim_160 (by decide) 161 rfl ?_
                obtain ⟨hi17, hf⟩ := gd_e hf
                refine as_57 hX hi17 dX9_claim_161 162 rfl c12 rfl [(57, (upd c12 (((11 : Int32) * (r 31)) + (9 : Int32)).toNatClampNeg (0 : Int32)))] rfl ?_
                refine v_aload_n hX dX9_claim_162 rfl 0 rfl 163 rfl ?_
                refine gf_52_6 hX q_107 dX9_claim_163 166 rfl ?_
                refine v_iload hX dX9_claim_166 1 rfl 168 rfl ?_
                refine v_bipush (v := (10 : Int32)) hX dX9_claim_168 (by decide) 170 rfl ?_
                refine v_iadd hX dX9_claim_170 171 rfl ?_
                refine v_iconst (v := (0 : Int32)) hX dX9_claim_171 (by decide) 172 rfl ?_
                obtain ⟨hi18, hf⟩ := gd_e hf
                refine as_57 hX hi18 dX9_claim_172 173 rfl (upd c12 (((11 : Int32) * (r 31)) + (9 : Int32)).toNatClampNeg (0 : Int32)) rfl [(57, (upd (upd c12 (((11 : Int32) * (r 31)) + (9 : Int32)).toNatClampNeg (0 : Int32)) (((11 : Int32) * (r 31)) + (10 : Int32)).toNatClampNeg (0 : Int32)))] rfl ?_
                refine v_aload_n hX dX9_claim_173 rfl 0 rfl 174 rfl ?_
                refine v_dup hX dX9_claim_174 rfl 175 rfl ?_
                refine gf_52_5 hX q_462 dX9_claim_175 ((r 31)) rfl 178 rfl ?_
                refine v_iconst (v := (1 : Int32)) hX dX9_claim_178 (by decide) 179 rfl ?_
                refine v_iadd hX dX9_claim_179 180 rfl ?_
                refine pf_52_5 hX q_462 dX9_claim_180 183 rfl [(31, ((r 31) + (1 : Int32)))] rfl ?_
                refine v_aload_n hX dX9_claim_183 rfl 0 rfl 184 rfl ?_
                refine gf_52_5 hX q_462 dX9_claim_184 (((r 31) + (1 : Int32))) rfl 187 rfl ?_
                refine v_iconst (v := (1 : Int32)) hX dX9_claim_187 (by decide) 188 rfl ?_
                refine v_isub hX dX9_claim_188 189 rfl ?_
                exact hR _ hf _ _ dX9_claim_189 rfl
              have HLK13 : ∀ (n14 : Nat) (x11 : Int32) (c12 : (Nat → Int32)), f9_claim_L126 (r 31) n14 x11 c12 K13 = some res → VC X (lkp r [(31, (r 31))]) (lkp g [(57, c12)]) u h [(0, .ref (aX X 52)), (6, .int ((11 : Int32) * (r 31))), (7, .int x11)] [] 126 := by
                intro n14
                induction n14 with
                | zero => intro x11 c12 hf; exact no_s hf
                | succ n14 ih =>
                  intro x11 c12 hf
                  rw [f9_claim_L126] at hf
                  refine v_iload hX dX9_claim_126 2 rfl 128 rfl ?_
                  refine v_iconst (v := (4 : Int32)) hX dX9_claim_128 (by decide) 129 rfl ?_
                  refine v_icmp_ge hX dX9_claim_129 151 rfl 132 rfl (fun h16 => ?_) (fun h16 => ?_)
                  · replace hf := it_p h16 hf
                    refine v_sub [(0, .ref (aX X 52)), (6, .int ((11 : Int32) * (r 31)))] (sbc 0 rfl (sbc 1 rfl sbn)) ?_
                    exact HK13 _ _ hf
                  · replace hf := it_n h16 hf
                    refine v_aload_n hX dX9_claim_132 rfl 0 rfl 133 rfl ?_
                    refine gf_52_6 hX q_107 dX9_claim_133 136 rfl ?_
                    refine v_iload hX dX9_claim_136 1 rfl 138 rfl ?_
                    refine v_iconst (v := (5 : Int32)) hX dX9_claim_138 (by decide) 139 rfl ?_
                    refine v_iadd hX dX9_claim_139 140 rfl ?_
                    refine v_iload hX dX9_claim_140 2 rfl 142 rfl ?_
                    refine v_iadd hX dX9_claim_142 143 rfl ?_
                    refine v_iconst (v := (-1 : Int32)) hX dX9_claim_143 (by decide) 144 rfl ?_
                    obtain ⟨hi15, hf⟩ := gd_e hf
                    refine as_57 hX hi15 dX9_claim_144 145 rfl c12 rfl [(57, (upd c12 ((((11 : Int32) * (r 31)) + (5 : Int32)) + x11).toNatClampNeg (-1 : Int32)))] rfl ?_
                    refine v_inc (c := (1 : Int32)) hX dX9_claim_145 2 rfl (by decide) (ltn hn (by decide)) 148 rfl [(7, .int (x11 + (1 : Int32))), (0, .ref (aX X 52)), (6, .int ((11 : Int32) * (r 31)))] rfl ?_
                    refine v_goto hX dX9_claim_148 126 rfl ?_
                    refine v_sub [(0, .ref (aX X 52)), (6, .int ((11 : Int32) * (r 31))), (7, .int (x11 + (1 : Int32)))] (sbc 1 rfl (sbc 2 rfl (sbc 0 rfl sbn))) ?_
                    exact ih _ _ hf
              refine v_sub [(0, .ref (aX X 52)), (6, .int ((11 : Int32) * (r 31))), (7, .int (0 : Int32))] (sbc 2 rfl (sbc 1 rfl (sbc 0 rfl sbn))) ?_
              exact HLK13 _ _ _ hf
            · replace hf := it_p h19 hf
              refine v_bipush (v := (-2 : Int32)) hX dX9_claim_61 (by decide) 63 rfl ?_
              exact hR _ hf _ _ dX9_claim_63 rfl
          · replace hf := it_p h20 hf
            refine v_iconst (v := (-1 : Int32)) hX dX9_claim_50 (by decide) 51 rfl ?_
            exact hR _ hf _ _ dX9_claim_51 rfl
set_option maxRecDepth 100000 in
set_option maxHeartbeats 4000000 in
theorem c9_orNobody (r : Nat → Int32) (g : Nat → Nat → Int32) (u : Nat → Int64) (h : Nat → Nat → Int64) (p0 : Int32) {res : Int32} (hf : f9_orNobody p0 = some res) : MAi yX9_orNobody cX9_orNobody 1 (some .int) 0 (fun a => [.int p0]) r g u h res r g u h := by
  refine mi_i (by decide +kernel) (fun a => Nat.le_of_ble_eq_true rfl) (fun X hX hn hR => ?_)
  replace hR : ∀ q : Int32, some q = some res → ∀ lv pc, decode cX9_orNobody pc = .ok (.ireturn, 1) → narrow .int (.int q) = .int q → VC X r g u h lv [.int q] pc := fun q hq => by cases hq; exact hR
  replace hX : CX X RX9 cX9_orNobody 0 := hX
  show VC X r g u h [(0, .int p0)] [] 0
  rw [f9_orNobody] at hf
  refine v_iload_n hX dX9_orNobody_0 rfl 0 rfl 1 rfl ?_
  refine v_if_ge hX dX9_orNobody_1 9 rfl 4 rfl (fun h1 => ?_) (fun h1 => ?_)
  · replace hf := it_p h1 hf
    refine v_iload_n hX dX9_orNobody_9 rfl 0 rfl 10 rfl ?_
    exact hR _ hf _ _ dX9_orNobody_10 rfl
  · replace hf := it_n h1 hf
    refine v_bipush (v := (-9 : Int32)) hX dX9_orNobody_4 (by decide) 6 rfl ?_
    refine v_goto hX dX9_orNobody_6 10 rfl ?_
    exact hR _ hf _ _ dX9_orNobody_10 rfl
set_option maxRecDepth 100000 in
set_option maxHeartbeats 4000000 in
theorem c9_claimOf (r : Nat → Int32) (g : Nat → Nat → Int32) (u : Nat → Int64) (h : Nat → Nat → Int64) (p1 : Int32) (p2 : Int32) {res : Int32} (hf : f9_claimOf (r 31) (g 57) p1 p2 = some res) : MAi yX9_claimOf cX9_claimOf 3 (some .int) 2 (fun a => [.ref (a 52), .int p1, .int p2]) r g u h res r g u h := by
  refine mi_i (by decide +kernel) (fun a => Nat.le_of_ble_eq_true rfl) (fun X hX hn hR => ?_)
  replace hR : ∀ q : Int32, some q = some res → ∀ lv pc, decode cX9_claimOf pc = .ok (.ireturn, 1) → narrow .int (.int q) = .int q → VC X r g u h lv [.int q] pc := fun q hq => by cases hq; exact hR
  replace hX : CX X RX9 cX9_claimOf 2 := hX
  show VC X r g u h [(0, .ref (aX X 52)), (1, .int p1), (2, .int p2)] [] 0
  rw [f9_claimOf] at hf
  refine v_aload_n hX dX9_claimOf_0 rfl 0 rfl 1 rfl ?_
  refine v_iload_n hX dX9_claimOf_1 rfl 1 rfl 2 rfl ?_
  obtain ⟨v1, hv1, hf⟩ := bn1_e hf
  refine cv_i hX (c9_isClaim r g u h _ hv1) wvX9_isClaim q_525 rc_52 (Nat.le_of_ble_eq_true rfl) (Nat.le_of_ble_eq_true rfl) (fun _ => rfl) [] rfl (Nat.le_of_ble_eq_true rfl) dX9_claimOf_2 5 rfl ?_
  refine v_if_eq hX dX9_claimOf_5 28 rfl 8 rfl (fun h11 => ?_) (fun h11 => ?_)
  · replace hf := it_p h11 hf
    refine v_iconst (v := (-1 : Int32)) hX dX9_claimOf_28 (by decide) 29 rfl ?_
    exact hR _ hf _ _ dX9_claimOf_29 rfl
  · replace hf := it_n h11 hf
    refine v_iload_n hX dX9_claimOf_8 rfl 2 rfl 9 rfl ?_
    refine v_iconst (v := (0 : Int32)) hX dX9_claimOf_9 (by decide) 10 rfl ?_
    refine v_iconst (v := (4 : Int32)) hX dX9_claimOf_10 (by decide) 11 rfl ?_
    obtain ⟨v2, hv2, hf⟩ := bn1_e hf
    refine cs_i hX (c9_in r g u h _ _ _ hv2) wvX9_in q_150 (Nat.le_of_ble_eq_true rfl) (Nat.le_of_ble_eq_true rfl) (fun _ => rfl) [] rfl (Nat.le_of_ble_eq_true rfl) dX9_claimOf_11 14 rfl ?_
    obtain ⟨J3, hJ3, hf⟩ := jn_x hf
    have HJ3 : J3 = some res → VC X r g u h [(0, .ref (aX X 52)), (1, .int p1), (2, .int p2)] [] 30 := by
      intro hf
      rw [hJ3] at hf
      refine v_iload_n hX dX9_claimOf_30 rfl 2 rfl 31 rfl ?_
      refine v_bipush (v := (10 : Int32)) hX dX9_claimOf_31 (by decide) 33 rfl ?_
      refine v_icmp_ge hX dX9_claimOf_33 45 rfl 36 rfl (fun h7 => ?_) (fun h7 => ?_)
      · replace hf := it_p h7 hf
        refine v_aload_n hX dX9_claimOf_45 rfl 0 rfl 46 rfl ?_
        refine v_iload_n hX dX9_claimOf_46 rfl 1 rfl 47 rfl ?_
        refine v_iconst (v := (5 : Int32)) hX dX9_claimOf_47 (by decide) 48 rfl ?_
        refine v_iload_n hX dX9_claimOf_48 rfl 2 rfl 49 rfl ?_
        refine v_iadd hX dX9_claimOf_49 50 rfl ?_
        refine v_bipush (v := (10 : Int32)) hX dX9_claimOf_50 (by decide) 52 rfl ?_
        refine v_isub hX dX9_claimOf_52 53 rfl ?_
        obtain ⟨v4, hv4, hf⟩ := bn1_e hf
        refine cv_i hX (c9_its r g u h _ _ hv4) wvX9_its q_471 rc_52 (Nat.le_of_ble_eq_true rfl) (Nat.le_of_ble_eq_true rfl) (fun _ => rfl) [] rfl (Nat.le_of_ble_eq_true rfl) dX9_claimOf_53 56 rfl ?_
        obtain ⟨v5, hv5, hf⟩ := bn1_e hf
        refine cs_i hX (c9_orNobody r g u h _ hv5) wvX9_orNobody q_529 (Nat.le_of_ble_eq_true rfl) (Nat.le_of_ble_eq_true rfl) (fun _ => rfl) [] rfl (Nat.le_of_ble_eq_true rfl) dX9_claimOf_56 59 rfl ?_
        exact hR _ hf _ _ dX9_claimOf_59 rfl
      · replace hf := it_n h7 hf
        refine v_aload_n hX dX9_claimOf_36 rfl 0 rfl 37 rfl ?_
        refine v_iload_n hX dX9_claimOf_37 rfl 1 rfl 38 rfl ?_
        refine v_iload_n hX dX9_claimOf_38 rfl 2 rfl 39 rfl ?_
        obtain ⟨v6, hv6, hf⟩ := bn1_e hf
        refine cv_i hX (c9_its r g u h _ _ hv6) wvX9_its q_471 rc_52 (Nat.le_of_ble_eq_true rfl) (Nat.le_of_ble_eq_true rfl) (fun _ => rfl) [] rfl (Nat.le_of_ble_eq_true rfl) dX9_claimOf_39 42 rfl ?_
        refine v_goto hX dX9_claimOf_42 59 rfl ?_
        exact hR _ hf _ _ dX9_claimOf_59 rfl
    refine v_if_ne hX dX9_claimOf_14 30 rfl 17 rfl (fun h10 => ?_) (fun h10 => ?_)
    · replace hf := it_n h10 hf
      exact HJ3  hf
    · replace hf := it_p h10 hf
      refine v_iload_n hX dX9_claimOf_17 rfl 2 rfl 18 rfl ?_
      refine v_bipush (v := (10 : Int32)) hX dX9_claimOf_18 (by decide) 20 rfl ?_
      refine v_bipush (v := (13 : Int32)) hX dX9_claimOf_20 (by decide) 22 rfl ?_
      obtain ⟨v8, hv8, hf⟩ := bn1_e hf
      refine cs_i hX (c9_in r g u h _ _ _ hv8) wvX9_in q_150 (Nat.le_of_ble_eq_true rfl) (Nat.le_of_ble_eq_true rfl) (fun _ => rfl) [] rfl (Nat.le_of_ble_eq_true rfl) dX9_claimOf_22 25 rfl ?_
      refine v_if_ne hX dX9_claimOf_25 30 rfl 28 rfl (fun h9 => ?_) (fun h9 => ?_)
      · replace hf := it_n h9 hf
        exact HJ3  hf
      · replace hf := it_p h9 hf
        refine v_iconst (v := (-1 : Int32)) hX dX9_claimOf_28 (by decide) 29 rfl ?_
        exact hR _ hf _ _ dX9_claimOf_29 rfl
set_option maxRecDepth 100000 in
set_option maxHeartbeats 4000000 in
theorem c9_foundMany (r : Nat → Int32) (g : Nat → Nat → Int32) (u : Nat → Int64) (h : Nat → Nat → Int64)  {res : Int32} (hf : f9_foundMany (r 31) (g 57) = some res) : MAi yX9_foundMany cX9_foundMany 3 (some .int) 1 (fun a => [.ref (a 52)]) r g u h res r g u h := by
  refine mi_i (by decide +kernel) (fun a => Nat.le_of_ble_eq_true rfl) (fun X hX hn hR => ?_)
  replace hR : ∀ q : Int32, some q = some res → ∀ lv pc, decode cX9_foundMany pc = .ok (.ireturn, 1) → narrow .int (.int q) = .int q → VC X r g u h lv [.int q] pc := fun q hq => by cases hq; exact hR
  replace hX : CX X RX9 cX9_foundMany 1 := hX
  show VC X r g u h [(0, .ref (aX X 52))] [] 0
  rw [f9_foundMany] at hf
  refine v_iconst (v := (0 : Int32)) hX dX9_foundMany_0 (by decide) 1 rfl ?_
  refine v_istore_n hX dX9_foundMany_1 rfl (ltn hn (by decide)) 2 rfl [(1, .int (0 : Int32)), (0, .ref (aX X 52))] rfl ?_
  refine v_iconst (v := (0 : Int32)) hX dX9_foundMany_2 (by decide) 3 rfl ?_
  refine v_istore_n hX dX9_foundMany_3 rfl (ltn hn (by decide)) 4 rfl [(2, .int (0 : Int32)), (1, .int (0 : Int32)), (0, .ref (aX X 52))] rfl ?_
  obtain ⟨K3, hK3, hf⟩ := jn_x hf
  have HK3 : ∀ (x1 : Int32) (x2 : Int32), K3 x1 x2 = some res → VC X r g u h [(1, .int x1)] [] 36 := by
    intro x1 x2 hf
    rw [hK3] at hf
    refine v_iload_n hX dX9_foundMany_36 rfl 0 rfl 37 rfl ?_
    exact hR _ hf _ _ dX9_foundMany_37 rfl
  have HLK3 : ∀ (n4 : Nat) (x1 : Int32) (x2 : Int32), f9_foundMany_L4 (r 31) (g 57) n4 x1 x2 K3 = some res → VC X r g u h [(0, .ref (aX X 52)), (1, .int x1), (2, .int x2)] [] 4 := by
    intro n4
    induction n4 with
    | zero => intro x1 x2 hf; exact no_s hf
    | succ n4 ih =>
      intro x1 x2 hf
      rw [f9_foundMany_L4] at hf
      refine v_iload_n hX dX9_foundMany_4 rfl 2 rfl 5 rfl ?_
      refine v_aload_n hX dX9_foundMany_5 rfl 0 rfl 6 rfl ?_
      refine gf_52_5 hX q_462 dX9_foundMany_6 ((r 31)) rfl 9 rfl ?_
      refine v_icmp_ge hX dX9_foundMany_9 36 rfl 12 rfl (fun h9 => ?_) (fun h9 => ?_)
      · replace hf := it_p h9 hf
        refine v_sub [(1, .int x1)] (sbc 1 rfl sbn) ?_
        exact HK3 _ _ hf
      · replace hf := it_n h9 hf
        refine v_iload_n hX dX9_foundMany_12 rfl 1 rfl 13 rfl ?_
        refine v_aload_n hX dX9_foundMany_13 rfl 0 rfl 14 rfl ?_
        refine v_iload_n hX dX9_foundMany_14 rfl 2 rfl 15 rfl ?_
        refine v_bipush (v := (9 : Int32)) hX dX9_foundMany_15 (by decide) 17 rfl ?_
        obtain ⟨v5, hv5, hf⟩ := bn1_e hf
        refine cv_i hX (c9_its r g u h _ _ hv5) wvX9_its q_471 rc_52 (Nat.le_of_ble_eq_true rfl) (Nat.le_of_ble_eq_true rfl) (fun _ => rfl) [.int x1] rfl (Nat.le_of_ble_eq_true rfl) dX9_foundMany_17 20 rfl ?_
        obtain ⟨J6, hJ6, hf⟩ := jn_x hf
        have HJ6 : ∀ (s7 : Int32), J6 s7 = some res → VC X r g u h [(0, .ref (aX X 52)), (2, .int x2)] [.int s7, .int x1] 28 := by
          intro s7 hf
          rw [hJ6] at hf
          refine v_iadd hX dX9_foundMany_28 29 rfl ?_
          refine v_istore_n hX dX9_foundMany_29 rfl (ltn hn (by decide)) 30 rfl [(1, .int (x1 + s7)), (0, .ref (aX X 52)), (2, .int x2)] rfl ?_
          refine v_inc (c := (1 : Int32)) hX dX9_foundMany_30 2 rfl (by decide) (ltn hn (by decide)) 33 rfl [(2, .int (x2 + (1 : Int32))), (1, .int (x1 + s7)), (0, .ref (aX X 52))] rfl ?_
          refine v_goto hX dX9_foundMany_33 4 rfl ?_
          refine v_sub [(0, .ref (aX X 52)), (1, .int (x1 + s7)), (2, .int (x2 + (1 : Int32)))] (sbc 2 rfl (sbc 1 rfl (sbc 0 rfl sbn))) ?_
          exact ih _ _ hf
        refine v_if_le hX dX9_foundMany_20 27 rfl 23 rfl (fun h8 => ?_) (fun h8 => ?_)
        · replace hf := it_p h8 hf
          refine v_iconst (v := (0 : Int32)) hX dX9_foundMany_27 (by decide) 28 rfl ?_
          refine v_sub [(0, .ref (aX X 52)), (2, .int x2)] (sbc 0 rfl (sbc 2 rfl sbn)) ?_
          exact HJ6 _ hf
        · replace hf := it_n h8 hf
          refine v_iconst (v := (1 : Int32)) hX dX9_foundMany_23 (by decide) 24 rfl ?_
          refine v_goto hX dX9_foundMany_24 28 rfl ?_
          refine v_sub [(0, .ref (aX X 52)), (2, .int x2)] (sbc 0 rfl (sbc 2 rfl sbn)) ?_
          exact HJ6 _ hf
  refine v_sub [(0, .ref (aX X 52)), (1, .int (0 : Int32)), (2, .int (0 : Int32))] (sbc 2 rfl (sbc 1 rfl (sbc 0 rfl sbn))) ?_
  exact HLK3 _ _ _ hf
set_option maxRecDepth 100000 in
set_option maxHeartbeats 4000000 in
theorem c9_draw (r : Nat → Int32) (g : Nat → Nat → Int32) (u : Nat → Int64) (h : Nat → Nat → Int64)  {res : Int32 × Int32} (hf : f9_draw (r 31) (r 33) (g 57) = some res) : MAi yX9_draw cX9_draw 4 (some .int) 2 (fun a => [.ref (a 52)]) r g u h res.1 (lkp r [(33, res.2)]) g u h := by
  refine mi_i (by decide +kernel) (fun a => Nat.le_of_ble_eq_true rfl) (fun X hX hn hR => ?_)
  replace hR : ∀ q : Int32 × Int32, some q = some res → ∀ lv pc, decode cX9_draw pc = .ok (.ireturn, 1) → narrow .int (.int q.1) = .int q.1 → VC X (lkp r [(33, q.2)]) g u h lv [.int q.1] pc := fun q hq => by cases hq; exact hR
  replace hX : CX X RX9 cX9_draw 2 := hX
  refine v_opr [33] [(33, r 33)] rfl ?_
  show VC X (lkp r [(33, r 33)]) g u h [(0, .ref (aX X 52))] [] 0
  rw [f9_draw] at hf
  refine v_aload_n hX dX9_draw_0 rfl 0 rfl 1 rfl ?_
  refine gf_52_5 hX q_462 dX9_draw_1 ((r 31)) rfl 4 rfl ?_
  refine v_aload_n hX dX9_draw_4 rfl 0 rfl 5 rfl ?_
  obtain ⟨v1, hv1, hf⟩ := bn1_e hf
  refine cv_i hX (c9_foundMany (lkp r [(33, (r 33))]) g u h hv1) wvX9_foundMany q_935 rc_52 (Nat.le_of_ble_eq_true rfl) (Nat.le_of_ble_eq_true rfl) (fun _ => rfl) [.int (r 31)] rfl (Nat.le_of_ble_eq_true rfl) dX9_draw_5 8 rfl ?_
  refine v_isub hX dX9_draw_8 9 rfl ?_
  refine v_istore_n hX dX9_draw_9 rfl (ltn hn (by decide)) 10 rfl [(1, .int ((r 31) - v1)), (0, .ref (aX X 52))] rfl ?_
  refine v_iload_n hX dX9_draw_10 rfl 0 rfl 11 rfl ?_
  refine v_if_ne hX dX9_draw_11 17 rfl 14 rfl (fun h15 => ?_) (fun h15 => ?_)
  · replace hf := it_n h15 hf
    refine v_aload_n hX dX9_draw_17 rfl 1 rfl 18 rfl ?_
    refine v_aload_n hX dX9_draw_18 rfl 1 rfl 19 rfl ?_
    refine gf_52_12 hX q_112 dX9_draw_19 ((r 33)) rfl 22 rfl ?_
    refine v_ldcw (v := (1103515245 : Int32)) hX q_934 dX9_draw_22 25 rfl ?_
    refine v_imul hX dX9_draw_25 26 rfl ?_
    refine v_sipush (v := (12345 : Int32)) hX dX9_draw_26 (by decide) 29 rfl ?_
    refine v_iadd hX dX9_draw_29 30 rfl ?_
    refine pf_52_12 hX q_112 dX9_draw_30 33 rfl [(33, (((r 33) * (1103515245 : Int32)) + (12345 : Int32)))] rfl ?_
    refine v_aload_n hX dX9_draw_33 rfl 1 rfl 34 rfl ?_
    refine gf_52_12 hX q_112 dX9_draw_34 ((((r 33) * (1103515245 : Int32)) + (12345 : Int32))) rfl 37 rfl ?_
    refine v_bipush (v := (16 : Int32)) hX dX9_draw_37 (by decide) 39 rfl ?_
    refine v_iushr hX dX9_draw_39 40 rfl ?_
    refine v_iload_n hX dX9_draw_40 rfl 0 rfl 41 rfl ?_
    obtain ⟨hz2, hf⟩ := gd_e hf
    refine v_irem hX dX9_draw_41 (of_decide_eq_true hz2) 42 rfl ?_
    refine v_istore_n hX dX9_draw_42 rfl (ltn hn (by decide)) 43 rfl [(2, .int (((((r 33) * (1103515245 : Int32)) + (12345 : Int32)).toUInt32 >>> ((16 : Int32).toUInt32 &&& Int32.toUInt32 31)).toInt32 - ((((r 33) * (1103515245 : Int32)) + (12345 : Int32)).toUInt32 >>> ((16 : Int32).toUInt32 &&& Int32.toUInt32 31)).toInt32 / ((r 31) - v1) * ((r 31) - v1))), (1, .int ((r 31) - v1)), (0, .ref (aX X 52))] rfl ?_
    refine v_iconst (v := (0 : Int32)) hX dX9_draw_43 (by decide) 44 rfl ?_
    refine v_istore_n hX dX9_draw_44 rfl (ltn hn (by decide)) 45 rfl [(3, .int (0 : Int32)), (2, .int (((((r 33) * (1103515245 : Int32)) + (12345 : Int32)).toUInt32 >>> ((16 : Int32).toUInt32 &&& Int32.toUInt32 31)).toInt32 - ((((r 33) * (1103515245 : Int32)) + (12345 : Int32)).toUInt32 >>> ((16 : Int32).toUInt32 &&& Int32.toUInt32 31)).toInt32 / ((r 31) - v1) * ((r 31) - v1))), (1, .int ((r 31) - v1)), (0, .ref (aX X 52))] rfl ?_
    obtain ⟨K5, hK5, hf⟩ := jn_x hf
    have HK5 : ∀ (x3 : Int32) (x4 : Int32), K5 x3 x4 = some res → VC X (lkp r [(33, (((r 33) * (1103515245 : Int32)) + (12345 : Int32)))]) g u h [(3, .int x4)] [] 83 := by
      intro x3 x4 hf
      rw [hK5] at hf
      refine v_iload_n hX dX9_draw_83 rfl 0 rfl 84 rfl ?_
      exact hR _ hf _ _ dX9_draw_84 rfl
    have HLK5 : ∀ (n6 : Nat) (x3 : Int32) (x4 : Int32), f9_draw_L45 (g 57) n6 x3 x4 K5 = some res → VC X (lkp r [(33, (((r 33) * (1103515245 : Int32)) + (12345 : Int32)))]) g u h [(0, .ref (aX X 52)), (2, .int x3), (3, .int x4)] [] 45 := by
      intro n6
      induction n6 with
      | zero => intro x3 x4 hf; exact no_s hf
      | succ n6 ih =>
        intro x3 x4 hf
        rw [f9_draw_L45] at hf
        refine v_aload_n hX dX9_draw_45 rfl 0 rfl 46 rfl ?_
        refine v_iload_n hX dX9_draw_46 rfl 2 rfl 47 rfl ?_
        refine v_bipush (v := (9 : Int32)) hX dX9_draw_47 (by decide) 49 rfl ?_
        obtain ⟨v7, hv7, hf⟩ := bn1_e hf
        refine cv_i hX (c9_its (lkp r [(33, (((r 33) * (1103515245 : Int32)) + (12345 : Int32)))]) g u h _ _ hv7) wvX9_its q_471 rc_52 (Nat.le_of_ble_eq_true rfl) (Nat.le_of_ble_eq_true rfl) (fun _ => rfl) [] rfl (Nat.le_of_ble_eq_true rfl) dX9_draw_49 52 rfl ?_
        obtain ⟨J8, hJ8, hf⟩ := jn_x hf
        have HJ8 : J8 = some res → VC X (lkp r [(33, (((r 33) * (1103515245 : Int32)) + (12345 : Int32)))]) g u h [(0, .ref (aX X 52)), (2, .int x3), (3, .int x4)] [] 59 := by
          intro hf
          rw [hJ8] at hf
          refine v_iload_n hX dX9_draw_59 rfl 1 rfl 60 rfl ?_
          refine v_aload_n hX dX9_draw_60 rfl 0 rfl 61 rfl ?_
          refine v_iload_n hX dX9_draw_61 rfl 2 rfl 62 rfl ?_
          refine v_bipush (v := (9 : Int32)) hX dX9_draw_62 (by decide) 64 rfl ?_
          obtain ⟨v9, hv9, hf⟩ := bn1_e hf
          refine cv_i hX (c9_its (lkp r [(33, (((r 33) * (1103515245 : Int32)) + (12345 : Int32)))]) g u h _ _ hv9) wvX9_its q_471 rc_52 (Nat.le_of_ble_eq_true rfl) (Nat.le_of_ble_eq_true rfl) (fun _ => rfl) [.int x3] rfl (Nat.le_of_ble_eq_true rfl) dX9_draw_64 67 rfl ?_
          obtain ⟨J10, hJ10, hf⟩ := jn_x hf
          have HJ10 : ∀ (s11 : Int32), J10 s11 = some res → VC X (lkp r [(33, (((r 33) * (1103515245 : Int32)) + (12345 : Int32)))]) g u h [(0, .ref (aX X 52)), (3, .int x4)] [.int s11, .int x3] 75 := by
            intro s11 hf
            rw [hJ10] at hf
            refine v_isub hX dX9_draw_75 76 rfl ?_
            refine v_istore_n hX dX9_draw_76 rfl (ltn hn (by decide)) 77 rfl [(2, .int (x3 - s11)), (0, .ref (aX X 52)), (3, .int x4)] rfl ?_
            refine v_inc (c := (1 : Int32)) hX dX9_draw_77 2 rfl (by decide) (ltn hn (by decide)) 80 rfl [(3, .int (x4 + (1 : Int32))), (2, .int (x3 - s11)), (0, .ref (aX X 52))] rfl ?_
            refine v_goto hX dX9_draw_80 45 rfl ?_
            refine v_sub [(0, .ref (aX X 52)), (2, .int (x3 - s11)), (3, .int (x4 + (1 : Int32)))] (sbc 2 rfl (sbc 1 rfl (sbc 0 rfl sbn))) ?_
            exact ih _ _ hf
          refine v_if_le hX dX9_draw_67 74 rfl 70 rfl (fun h12 => ?_) (fun h12 => ?_)
          · replace hf := it_p h12 hf
            refine v_iconst (v := (1 : Int32)) hX dX9_draw_74 (by decide) 75 rfl ?_
            refine v_sub [(0, .ref (aX X 52)), (3, .int x4)] (sbc 0 rfl (sbc 2 rfl sbn)) ?_
            exact HJ10 _ hf
          · replace hf := it_n h12 hf
            refine v_iconst (v := (0 : Int32)) hX dX9_draw_70 (by decide) 71 rfl ?_
            refine v_goto hX dX9_draw_71 75 rfl ?_
            refine v_sub [(0, .ref (aX X 52)), (3, .int x4)] (sbc 0 rfl (sbc 2 rfl sbn)) ?_
            exact HJ10 _ hf
        refine v_if_gt hX dX9_draw_52 59 rfl 55 rfl (fun h14 => ?_) (fun h14 => ?_)
        · replace hf := it_p h14 hf
          exact HJ8  hf
        · replace hf := it_n h14 hf
          refine v_iload_n hX dX9_draw_55 rfl 1 rfl 56 rfl ?_
          refine v_if_le hX dX9_draw_56 83 rfl 59 rfl (fun h13 => ?_) (fun h13 => ?_)
          · replace hf := it_p h13 hf
            refine v_sub [(3, .int x4)] (sbc 2 rfl sbn) ?_
            exact HK5 _ _ hf
          · replace hf := it_n h13 hf
            exact HJ8  hf
    refine v_sub [(0, .ref (aX X 52)), (2, .int (((((r 33) * (1103515245 : Int32)) + (12345 : Int32)).toUInt32 >>> ((16 : Int32).toUInt32 &&& Int32.toUInt32 31)).toInt32 - ((((r 33) * (1103515245 : Int32)) + (12345 : Int32)).toUInt32 >>> ((16 : Int32).toUInt32 &&& Int32.toUInt32 31)).toInt32 / ((r 31) - v1) * ((r 31) - v1))), (3, .int (0 : Int32))] (sbc 3 rfl (sbc 1 rfl (sbc 0 rfl sbn))) ?_
    exact HLK5 _ _ _ hf
  · replace hf := it_p h15 hf
    refine v_bipush (v := (-3 : Int32)) hX dX9_draw_14 (by decide) 16 rfl ?_
    exact hR _ hf _ _ dX9_draw_16 rfl
set_option maxRecDepth 100000 in
set_option maxHeartbeats 4000000 in
theorem c9_feed (r : Nat → Int32) (g : Nat → Nat → Int32) (u : Nat → Int64) (h : Nat → Nat → Int64) (p1 : Int64) (p3 : Int32) {res : Int32 × Int32 × (Nat → Int32)} (hf : f9_feed (r 34) (g 62) p1 p3 = some res) : MAi yX9_feed cX9_feed 5 (some .int) 1 (fun a => [.ref (a 52), .long p1, .int p3]) r g u h res.1 (lkp r [(34, res.2.1)]) (lkp g [(62, res.2.2)]) u h := by
  refine mi_i (by decide +kernel) (fun a => Nat.le_of_ble_eq_true rfl) (fun X hX hn hR => ?_)
  replace hR : ∀ q : Int32 × Int32 × (Nat → Int32), some q = some res → ∀ lv pc, decode cX9_feed pc = .ok (.ireturn, 1) → narrow .int (.int q.1) = .int q.1 → VC X (lkp r [(34, q.2.1)]) (lkp g [(62, q.2.2)]) u h lv [.int q.1] pc := fun q hq => by cases hq; exact hR
  replace hX : CX X RX9 cX9_feed 1 := hX
  refine v_opr [34] [(34, r 34)] rfl ?_
  refine v_opg [62] [(62, g 62)] rfl ?_
  show VC X (lkp r [(34, r 34)]) (lkp g [(62, g 62)]) u h [(0, .ref (aX X 52)), (1, .long p1), (3, .int p3)] [] 0
  rw [f9_feed] at hf
  refine v_iload_n hX dX9_feed_0 rfl 2 rfl 1 rfl ?_
  refine v_iconst (v := (1 : Int32)) hX dX9_feed_1 (by decide) 2 rfl ?_
  refine v_bipush (v := (8 : Int32)) hX dX9_feed_2 (by decide) 4 rfl ?_
  obtain ⟨v1, hv1, hf⟩ := bn1_e hf
  refine cs_i hX (c9_in (lkp r [(34, (r 34))]) (lkp g [(62, (g 62))]) u h _ _ _ hv1) wvX9_in q_150 (Nat.le_of_ble_eq_true rfl) (Nat.le_of_ble_eq_true rfl) (fun _ => rfl) [] rfl (Nat.le_of_ble_eq_true rfl) dX9_feed_4 7 rfl ?_
  refine v_if_ne hX dX9_feed_7 12 rfl 10 rfl (fun h10 => ?_) (fun h10 => ?_)
  · replace hf := it_n h10 hf
    refine v_aload_n hX dX9_feed_12 rfl 0 rfl 13 rfl ?_
    refine gf_52_14 hX q_148 dX9_feed_13 ((r 34)) rfl 16 rfl ?_
    refine v_iload_n hX dX9_feed_16 rfl 2 rfl 17 rfl ?_
    refine v_iadd hX dX9_feed_17 18 rfl ?_
    refine v_sipush (v := (200 : Int32)) hX dX9_feed_18 (by decide) 21 rfl ?_
    refine v_icmp_le hX dX9_feed_21 27 rfl 24 rfl (fun h9 => ?_) (fun h9 => ?_)
    · replace hf := it_p h9 hf
      refine v_iconst (v := (0 : Int32)) hX dX9_feed_27 (by decide) 28 rfl ?_
      refine v_istore hX dX9_feed_28 (ltn hn (by decide)) 30 rfl [(4, .int (0 : Int32)), (0, .ref (aX X 52)), (1, .long p1), (3, .int p3)] rfl ?_
      obtain ⟨K5, hK5, hf⟩ := jn_x hf
      have HK5 : ∀ (x2 : Int32) (c3 : Int32) (c4 : (Nat → Int32)), K5 x2 c3 c4 = some res → VC X (lkp r [(34, c3)]) (lkp g [(62, c4)]) u h [(0, .ref (aX X 52))] [] 73 := by
        intro x2 c3 c4 hf
        rw [hK5] at hf
        refine v_aload_n hX dX9_feed_73 rfl 0 rfl 74 rfl ?_
        refine gf_52_14 hX q_148 dX9_feed_74 (c3) rfl 77 rfl ?_
        exact hR _ hf _ _ dX9_feed_77 rfl
      have HLK5 : ∀ (n6 : Nat) (x2 : Int32) (c3 : Int32) (c4 : (Nat → Int32)), f9_feed_L30 p1 p3 n6 x2 c3 c4 K5 = some res → VC X (lkp r [(34, c3)]) (lkp g [(62, c4)]) u h [(0, .ref (aX X 52)), (1, .long p1), (3, .int p3), (4, .int x2)] [] 30 := by
        intro n6
        induction n6 with
        | zero => intro x2 c3 c4 hf; exact no_s hf
        | succ n6 ih =>
          intro x2 c3 c4 hf
          rw [f9_feed_L30] at hf
          refine v_iload hX dX9_feed_30 3 rfl 32 rfl ?_
          refine v_iload_n hX dX9_feed_32 rfl 2 rfl 33 rfl ?_
          refine v_icmp_ge hX dX9_feed_33 73 rfl 36 rfl (fun h8 => ?_) (fun h8 => ?_)
          · replace hf := it_p h8 hf
            refine v_sub [(0, .ref (aX X 52))] (sbc 0 rfl sbn) ?_
            exact HK5 _ _ _ hf
          · replace hf := it_n h8 hf
            refine v_aload_n hX dX9_feed_36 rfl 0 rfl 37 rfl ?_
            refine gf_52_13 hX q_113 dX9_feed_37 40 rfl ?_
            refine v_aload_n hX dX9_feed_40 rfl 0 rfl 41 rfl ?_
            refine gf_52_14 hX q_148 dX9_feed_41 (c3) rfl 44 rfl ?_
            refine v_lload_n hX dX9_feed_44 rfl 1 rfl 45 rfl ?_
            refine v_bipush (v := (8 : Int32)) hX dX9_feed_45 (by decide) 47 rfl ?_
            refine v_iload hX dX9_feed_47 3 rfl 49 rfl ?_
            refine v_imul hX dX9_feed_49 50 rfl ?_
            refine v_lshr hX dX9_feed_50 51 rfl ?_
            refine v_ldc2 (v := (255 : Int64)) hX q_149 dX9_feed_51 54 rfl ?_
            refine v_land hX dX9_feed_54 55 rfl ?_
            refine v_l2i hX dX9_feed_55 56 rfl ?_
            obtain ⟨hi7, hf⟩ := gd_e hf
            refine as_62 hX hi7 dX9_feed_56 57 rfl c4 rfl [(62, (upd c4 c3.toNatClampNeg (((p1 >>> (((8 : Int32) * x2).toInt64 &&& 63)) &&& (255 : Int64))).toInt32))] rfl ?_
            refine v_aload_n hX dX9_feed_57 rfl 0 rfl 58 rfl ?_
            refine v_dup hX dX9_feed_58 rfl 59 rfl ?_
            refine gf_52_14 hX q_148 dX9_feed_59 (c3) rfl 62 rfl ?_
            refine v_iconst (v := (1 : Int32)) hX dX9_feed_62 (by decide) 63 rfl ?_
            refine v_iadd hX dX9_feed_63 64 rfl ?_
            refine pf_52_14 hX q_148 dX9_feed_64 67 rfl [(34, (c3 + (1 : Int32)))] rfl ?_
            refine v_inc (c := (1 : Int32)) hX dX9_feed_67 3 rfl (by decide) (ltn hn (by decide)) 70 rfl [(4, .int (x2 + (1 : Int32))), (0, .ref (aX X 52)), (1, .long p1), (3, .int p3)] rfl ?_
            refine v_goto hX dX9_feed_70 30 rfl ?_
            refine v_sub [(0, .ref (aX X 52)), (1, .long p1), (3, .int p3), (4, .int (x2 + (1 : Int32)))] (sbc 1 rfl (sbc 2 rfl (sbc 3 rfl (sbc 0 rfl sbn)))) ?_
            exact ih _ _ _ hf
      refine v_sub [(0, .ref (aX X 52)), (1, .long p1), (3, .int p3), (4, .int (0 : Int32))] (sbc 1 rfl (sbc 2 rfl (sbc 3 rfl (sbc 0 rfl sbn)))) ?_
      exact HLK5 _ _ _ _ hf
    · replace hf := it_n h9 hf
      refine v_bipush (v := (-2 : Int32)) hX dX9_feed_24 (by decide) 26 rfl ?_
      exact hR _ hf _ _ dX9_feed_26 rfl
  · replace hf := it_p h10 hf
    refine v_iconst (v := (-1 : Int32)) hX dX9_feed_10 (by decide) 11 rfl ?_
    exact hR _ hf _ _ dX9_feed_11 rfl
set_option maxRecDepth 100000 in
set_option maxHeartbeats 4000000 in
theorem c9_found (r : Nat → Int32) (g : Nat → Nat → Int32) (u : Nat → Int64) (h : Nat → Nat → Int64) (p1 : Int32) (p2 : Int32) (p3 : Int32) {res : Int32 × (Nat → Int32)} (hf : f9_found (r 31) (g 57) p1 p2 p3 = some res) : MAi yX9_found cX9_found 5 (some .int) 2 (fun a => [.ref (a 52), .int p1, .int p2, .int p3]) r g u h res.1 r (lkp g [(57, res.2)]) u h := by
  refine mi_i (by decide +kernel) (fun a => Nat.le_of_ble_eq_true rfl) (fun X hX hn hR => ?_)
  replace hR : ∀ q : Int32 × (Nat → Int32), some q = some res → ∀ lv pc, decode cX9_found pc = .ok (.ireturn, 1) → narrow .int (.int q.1) = .int q.1 → VC X r (lkp g [(57, q.2)]) u h lv [.int q.1] pc := fun q hq => by cases hq; exact hR
  replace hX : CX X RX9 cX9_found 2 := hX
  refine v_opg [57] [(57, g 57)] rfl ?_
  show VC X r (lkp g [(57, g 57)]) u h [(0, .ref (aX X 52)), (1, .int p1), (2, .int p2), (3, .int p3)] [] 0
  rw [f9_found] at hf
  refine v_aload_n hX dX9_found_0 rfl 0 rfl 1 rfl ?_
  refine v_iload_n hX dX9_found_1 rfl 1 rfl 2 rfl ?_
  obtain ⟨v1, hv1, hf⟩ := bn1_e hf
  refine cv_i hX (c9_isClaim r (lkp g [(57, (g 57))]) u h _ hv1) wvX9_isClaim q_525 rc_52 (Nat.le_of_ble_eq_true rfl) (Nat.le_of_ble_eq_true rfl) (fun _ => rfl) [] rfl (Nat.le_of_ble_eq_true rfl) dX9_found_2 5 rfl ?_
  refine v_if_eq hX dX9_found_5 17 rfl 8 rfl (fun h11 => ?_) (fun h11 => ?_)
  · replace hf := it_p h11 hf
    refine v_iconst (v := (-1 : Int32)) hX dX9_found_17 (by decide) 18 rfl ?_
    exact hR _ hf _ _ dX9_found_18 rfl
  · replace hf := it_n h11 hf
    refine v_iload_n hX dX9_found_8 rfl 2 rfl 9 rfl ?_
    refine v_iconst (v := (-1 : Int32)) hX dX9_found_9 (by decide) 10 rfl ?_
    refine v_iconst (v := (1 : Int32)) hX dX9_found_10 (by decide) 11 rfl ?_
    obtain ⟨v2, hv2, hf⟩ := bn1_e hf
    refine cs_i hX (c9_in r (lkp g [(57, (g 57))]) u h _ _ _ hv2) wvX9_in q_150 (Nat.le_of_ble_eq_true rfl) (Nat.le_of_ble_eq_true rfl) (fun _ => rfl) [] rfl (Nat.le_of_ble_eq_true rfl) dX9_found_11 14 rfl ?_
    refine v_if_ne hX dX9_found_14 19 rfl 17 rfl (fun h10 => ?_) (fun h10 => ?_)
    · replace hf := it_n h10 hf
      refine v_aload_n hX dX9_found_19 rfl 0 rfl 20 rfl ?_
      refine v_iload_n hX dX9_found_20 rfl 1 rfl 21 rfl ?_
      refine v_bipush (v := (9 : Int32)) hX dX9_found_21 (by decide) 23 rfl ?_
      obtain ⟨v3, hv3, hf⟩ := bn1_e hf
      refine cv_i hX (c9_its r (lkp g [(57, (g 57))]) u h _ _ hv3) wvX9_its q_471 rc_52 (Nat.le_of_ble_eq_true rfl) (Nat.le_of_ble_eq_true rfl) (fun _ => rfl) [] rfl (Nat.le_of_ble_eq_true rfl) dX9_found_23 26 rfl ?_
      refine v_istore hX dX9_found_26 (ltn hn (by decide)) 28 rfl [(4, .int v3), (0, .ref (aX X 52)), (1, .int p1), (2, .int p2), (3, .int p3)] rfl ?_
      refine v_aload_n hX dX9_found_28 rfl 1 rfl 29 rfl ?_
      refine gf_52_6 hX q_107 dX9_found_29 32 rfl ?_
      refine v_bipush (v := (11 : Int32)) hX dX9_found_32 (by decide) 34 rfl ?_
      refine v_iload_n hX dX9_found_34 rfl 2 rfl 35 rfl ?_
      refine v_imul hX dX9_found_35 36 rfl ?_
      refine v_bipush (v := (9 : Int32)) hX dX9_found_36 (by decide) 38 rfl ?_
      refine v_iadd hX dX9_found_38 39 rfl ?_
      refine v_iload_n hX dX9_found_39 rfl 3 rfl 40 rfl ?_
      refine v_iconst (v := (1 : Int32)) hX dX9_found_40 (by decide) 41 rfl ?_
      refine v_iadd hX dX9_found_41 42 rfl ?_
      obtain ⟨hi4, hf⟩ := gd_e hf
      refine as_57 hX hi4 dX9_found_42 43 rfl (g 57) rfl [(57, (upd (g 57) (((11 : Int32) * p1) + (9 : Int32)).toNatClampNeg (p2 + (1 : Int32))))] rfl ?_
      refine v_aload_n hX dX9_found_43 rfl 1 rfl 44 rfl ?_
      refine gf_52_6 hX q_107 dX9_found_44 47 rfl ?_
      refine v_bipush (v := (11 : Int32)) hX dX9_found_47 (by decide) 49 rfl ?_
      refine v_iload_n hX dX9_found_49 rfl 2 rfl 50 rfl ?_
      refine v_imul hX dX9_found_50 51 rfl ?_
      refine v_bipush (v := (10 : Int32)) hX dX9_found_51 (by decide) 53 rfl ?_
      refine v_iadd hX dX9_found_53 54 rfl ?_
      refine v_iload_n hX dX9_found_54 rfl 4 rfl 55 rfl ?_
      obtain ⟨J5, hJ5, hf⟩ := jn_x hf
      have HJ5 : ∀ (s6 : Int32), J5 s6 = some res → VC X r (lkp g [(57, (upd (g 57) (((11 : Int32) * p1) + (9 : Int32)).toNatClampNeg (p2 + (1 : Int32))))]) u h [(4, .int v3)] [.int s6, .int (((11 : Int32) * p1) + (10 : Int32)), .ref (aX X 57)] 63 := by
        intro s6 hf
        rw [hJ5] at hf
        obtain ⟨hi7, hf⟩ := gd_e hf
        refine as_57 hX hi7 dX9_found_63 64 rfl (upd (g 57) (((11 : Int32) * p1) + (9 : Int32)).toNatClampNeg (p2 + (1 : Int32))) rfl [(57, (upd (upd (g 57) (((11 : Int32) * p1) + (9 : Int32)).toNatClampNeg (p2 + (1 : Int32))) (((11 : Int32) * p1) + (10 : Int32)).toNatClampNeg s6))] rfl ?_
        refine v_iload hX dX9_found_64 0 rfl 66 rfl ?_
        refine v_if_ne hX dX9_found_66 74 rfl 69 rfl (fun h8 => ?_) (fun h8 => ?_)
        · replace hf := it_n h8 hf
          refine v_iload hX dX9_found_74 0 rfl 76 rfl ?_
          refine v_iconst (v := (1 : Int32)) hX dX9_found_76 (by decide) 77 rfl ?_
          refine v_isub hX dX9_found_77 78 rfl ?_
          exact hR _ hf _ _ dX9_found_78 rfl
        · replace hf := it_p h8 hf
          refine v_bipush (v := (-9 : Int32)) hX dX9_found_69 (by decide) 71 rfl ?_
          refine v_goto hX dX9_found_71 78 rfl ?_
          exact hR _ hf _ _ dX9_found_78 rfl
      refine v_if_eq hX dX9_found_55 62 rfl 58 rfl (fun h9 => ?_) (fun h9 => ?_)
      · replace hf := it_p h9 hf
        refine v_iconst (v := (0 : Int32)) hX dX9_found_62 (by decide) 63 rfl ?_
        refine v_sub [(4, .int v3)] (sbc 0 rfl sbn) ?_
        exact HJ5 _ hf
      · replace hf := it_n h9 hf
        refine v_iconst (v := (1 : Int32)) hX dX9_found_58 (by decide) 59 rfl ?_
        refine v_goto hX dX9_found_59 63 rfl ?_
        refine v_sub [(4, .int v3)] (sbc 0 rfl sbn) ?_
        exact HJ5 _ hf
    · replace hf := it_p h10 hf
      refine v_iconst (v := (-1 : Int32)) hX dX9_found_17 (by decide) 18 rfl ?_
      exact hR _ hf _ _ dX9_found_18 rfl
set_option maxRecDepth 100000 in
set_option maxHeartbeats 4000000 in
theorem c9_tiedTo (r : Nat → Int32) (g : Nat → Nat → Int32) (u : Nat → Int64) (h : Nat → Nat → Int64) (p1 : Int32) {res : Int32} (hf : f9_tiedTo (r 31) (r 30) (g 57) (g 55) (g 58) (g 56) p1 = some res) : MAi yX9_tiedTo cX9_tiedTo 4 (some .int) 3 (fun a => [.ref (a 52), .int p1]) r g u h res r g u h := by
  refine mi_i (by decide +kernel) (fun a => Nat.le_of_ble_eq_true rfl) (fun X hX hn hR => ?_)
  replace hR : ∀ q : Int32, some q = some res → ∀ lv pc, decode cX9_tiedTo pc = .ok (.ireturn, 1) → narrow .int (.int q) = .int q → VC X r g u h lv [.int q] pc := fun q hq => by cases hq; exact hR
  replace hX : CX X RX9 cX9_tiedTo 3 := hX
  show VC X r g u h [(0, .ref (aX X 52)), (1, .int p1)] [] 0
  rw [f9_tiedTo] at hf
  refine v_iconst (v := (0 : Int32)) hX dX9_tiedTo_0 (by decide) 1 rfl ?_
  refine v_istore_n hX dX9_tiedTo_1 rfl (ltn hn (by decide)) 2 rfl [(2, .int (0 : Int32)), (0, .ref (aX X 52)), (1, .int p1)] rfl ?_
  refine v_iconst (v := (0 : Int32)) hX dX9_tiedTo_2 (by decide) 3 rfl ?_
  refine v_istore_n hX dX9_tiedTo_3 rfl (ltn hn (by decide)) 4 rfl [(3, .int (0 : Int32)), (2, .int (0 : Int32)), (0, .ref (aX X 52)), (1, .int p1)] rfl ?_
  obtain ⟨K3, hK3, hf⟩ := jn_x hf
  have HK3 : ∀ (x1 : Int32) (x2 : Int32), K3 x1 x2 = some res → VC X r g u h [(2, .int x1)] [] 42 := by
    intro x1 x2 hf
    rw [hK3] at hf
    refine v_iload_n hX dX9_tiedTo_42 rfl 0 rfl 43 rfl ?_
    exact hR _ hf _ _ dX9_tiedTo_43 rfl
  have HLK3 : ∀ (n4 : Nat) (x1 : Int32) (x2 : Int32), f9_tiedTo_L4 (r 31) (r 30) (g 57) (g 55) (g 58) (g 56) p1 n4 x1 x2 K3 = some res → VC X r g u h [(0, .ref (aX X 52)), (1, .int p1), (2, .int x1), (3, .int x2)] [] 4 := by
    intro n4
    induction n4 with
    | zero => intro x1 x2 hf; exact no_s hf
    | succ n4 ih =>
      intro x1 x2 hf
      rw [f9_tiedTo_L4] at hf
      refine v_iload_n hX dX9_tiedTo_4 rfl 3 rfl 5 rfl ?_
      refine v_aload_n hX dX9_tiedTo_5 rfl 0 rfl 6 rfl ?_
      refine gf_52_5 hX q_462 dX9_tiedTo_6 ((r 31)) rfl 9 rfl ?_
      refine v_icmp_ge hX dX9_tiedTo_9 42 rfl 12 rfl (fun h11 => ?_) (fun h11 => ?_)
      · replace hf := it_p h11 hf
        refine v_sub [(2, .int x1)] (sbc 2 rfl sbn) ?_
        exact HK3 _ _ hf
      · replace hf := it_n h11 hf
        refine v_iload_n hX dX9_tiedTo_12 rfl 2 rfl 13 rfl ?_
        refine v_iload_n hX dX9_tiedTo_13 rfl 3 rfl 14 rfl ?_
        refine v_iload_n hX dX9_tiedTo_14 rfl 1 rfl 15 rfl ?_
        obtain ⟨J5, hJ5, hf⟩ := jn_x hf
        have HJ5 : ∀ (s6 : Int32), J5 s6 = some res → VC X r g u h [(0, .ref (aX X 52)), (1, .int p1), (3, .int x2)] [.int s6, .int x1] 34 := by
          intro s6 hf
          rw [hJ5] at hf
          refine v_ior hX dX9_tiedTo_34 35 rfl ?_
          refine v_istore_n hX dX9_tiedTo_35 rfl (ltn hn (by decide)) 36 rfl [(2, .int (x1 ||| s6)), (0, .ref (aX X 52)), (1, .int p1), (3, .int x2)] rfl ?_
          refine v_inc (c := (1 : Int32)) hX dX9_tiedTo_36 3 rfl (by decide) (ltn hn (by decide)) 39 rfl [(3, .int (x2 + (1 : Int32))), (2, .int (x1 ||| s6)), (0, .ref (aX X 52)), (1, .int p1)] rfl ?_
          refine v_goto hX dX9_tiedTo_39 4 rfl ?_
          refine v_sub [(0, .ref (aX X 52)), (1, .int p1), (2, .int (x1 ||| s6)), (3, .int (x2 + (1 : Int32)))] (sbc 2 rfl (sbc 3 rfl (sbc 1 rfl (sbc 0 rfl sbn)))) ?_
          exact ih _ _ hf
        obtain ⟨J7, hJ7, hf⟩ := jn_x hf
        have HJ7 : J7 = some res → VC X r g u h [(0, .ref (aX X 52)), (1, .int p1), (3, .int x2)] [.int x1] 33 := by
          intro hf
          rw [hJ7] at hf
          refine v_iconst (v := (0 : Int32)) hX dX9_tiedTo_33 (by decide) 34 rfl ?_
          exact HJ5 _ hf
        refine v_icmp_eq hX dX9_tiedTo_15 33 rfl 18 rfl (fun h10 => ?_) (fun h10 => ?_)
        · replace hf := it_p h10 hf
          refine v_sub [(0, .ref (aX X 52)), (1, .int p1), (3, .int x2)] (sbc 0 rfl (sbc 1 rfl (sbc 3 rfl sbn))) ?_
          exact HJ7  hf
        · replace hf := it_n h10 hf
          refine v_aload_n hX dX9_tiedTo_18 rfl 0 rfl 19 rfl ?_
          refine v_iload_n hX dX9_tiedTo_19 rfl 3 rfl 20 rfl ?_
          refine v_iload_n hX dX9_tiedTo_20 rfl 1 rfl 21 rfl ?_
          obtain ⟨v8, hv8, hf⟩ := bn1_e hf
          refine cv_i hX (c9_strengthOf r g u h _ _ hv8) wvX9_strengthOf q_582 rc_52 (Nat.le_of_ble_eq_true rfl) (Nat.le_of_ble_eq_true rfl) (fun _ => rfl) [.int x1] rfl (Nat.le_of_ble_eq_true rfl) dX9_tiedTo_21 24 rfl ?_
          refine v_if_le hX dX9_tiedTo_24 33 rfl 27 rfl (fun h9 => ?_) (fun h9 => ?_)
          · replace hf := it_p h9 hf
            refine v_sub [(0, .ref (aX X 52)), (1, .int p1), (3, .int x2)] (sbc 0 rfl (sbc 1 rfl (sbc 3 rfl sbn))) ?_
            exact HJ7  hf
          · replace hf := it_n h9 hf
            refine v_iconst (v := (1 : Int32)) hX dX9_tiedTo_27 (by decide) 28 rfl ?_
            refine v_iload_n hX dX9_tiedTo_28 rfl 3 rfl 29 rfl ?_
            refine v_ishl hX dX9_tiedTo_29 30 rfl ?_
            refine v_goto hX dX9_tiedTo_30 34 rfl ?_
            refine v_sub [(0, .ref (aX X 52)), (1, .int p1), (3, .int x2)] (sbc 0 rfl (sbc 1 rfl (sbc 3 rfl sbn))) ?_
            exact HJ5 _ hf
  refine v_sub [(0, .ref (aX X 52)), (1, .int p1), (2, .int (0 : Int32)), (3, .int (0 : Int32))] (sbc 2 rfl (sbc 3 rfl (sbc 1 rfl (sbc 0 rfl sbn)))) ?_
  exact HLK3 _ _ _ hf
set_option maxRecDepth 100000 in
set_option maxHeartbeats 4000000 in
theorem c9_hang (r : Nat → Int32) (g : Nat → Nat → Int32) (u : Nat → Int64) (h : Nat → Nat → Int64) (p1 : Int32) {res : Int32} (hf : f9_hang (r 31) (r 30) (g 57) (g 55) (g 58) (g 56) p1 = some res) : MAi yX9_hang cX9_hang 5 (some .int) 4 (fun a => [.ref (a 52), .int p1]) r g u h res r g u h := by
  refine mi_i (by decide +kernel) (fun a => Nat.le_of_ble_eq_true rfl) (fun X hX hn hR => ?_)
  replace hR : ∀ q : Int32, some q = some res → ∀ lv pc, decode cX9_hang pc = .ok (.ireturn, 1) → narrow .int (.int q) = .int q → VC X r g u h lv [.int q] pc := fun q hq => by cases hq; exact hR
  replace hX : CX X RX9 cX9_hang 4 := hX
  show VC X r g u h [(0, .ref (aX X 52)), (1, .int p1)] [] 0
  rw [f9_hang] at hf
  refine v_aload_n hX dX9_hang_0 rfl 0 rfl 1 rfl ?_
  refine v_iload_n hX dX9_hang_1 rfl 1 rfl 2 rfl ?_
  obtain ⟨v1, hv1, hf⟩ := bn1_e hf
  refine cv_i hX (c9_isClaim r g u h _ hv1) wvX9_isClaim q_525 rc_52 (Nat.le_of_ble_eq_true rfl) (Nat.le_of_ble_eq_true rfl) (fun _ => rfl) [] rfl (Nat.le_of_ble_eq_true rfl) dX9_hang_2 5 rfl ?_
  refine v_if_ne hX dX9_hang_5 10 rfl 8 rfl (fun h16 => ?_) (fun h16 => ?_)
  · replace hf := it_n h16 hf
    refine v_iconst (v := (0 : Int32)) hX dX9_hang_10 (by decide) 11 rfl ?_
    refine v_istore_n hX dX9_hang_11 rfl (ltn hn (by decide)) 12 rfl [(2, .int (0 : Int32)), (0, .ref (aX X 52)), (1, .int p1)] rfl ?_
    refine v_iconst (v := (1 : Int32)) hX dX9_hang_12 (by decide) 13 rfl ?_
    refine v_iload_n hX dX9_hang_13 rfl 2 rfl 14 rfl ?_
    refine v_ishl hX dX9_hang_14 15 rfl ?_
    refine v_istore_n hX dX9_hang_15 rfl (ltn hn (by decide)) 16 rfl [(3, .int ((1 : Int32) <<< (p1 &&& 31))), (2, .int (0 : Int32)), (0, .ref (aX X 52)), (1, .int p1)] rfl ?_
    obtain ⟨K4, hK4, hf⟩ := jn_x hf
    have HK4 : ∀ (x2 : Int32) (x3 : Int32), K4 x2 x3 = some res → VC X r g u h [(3, .int x3)] [] 67 := by
      intro x2 x3 hf
      rw [hK4] at hf
      refine v_iload_n hX dX9_hang_67 rfl 0 rfl 68 rfl ?_
      exact hR _ hf _ _ dX9_hang_68 rfl
    have HLK4 : ∀ (n5 : Nat) (x2 : Int32) (x3 : Int32), f9_hang_L16 (r 31) (r 30) (g 57) (g 55) (g 58) (g 56) n5 x2 x3 K4 = some res → VC X r g u h [(0, .ref (aX X 52)), (2, .int x2), (3, .int x3)] [] 16 := by
      intro n5
      induction n5 with
      | zero => intro x2 x3 hf; exact no_s hf
      | succ n5 ih =>
        intro x2 x3 hf
        rw [f9_hang_L16] at hf
        refine v_iload_n hX dX9_hang_16 rfl 2 rfl 17 rfl ?_
        refine v_iload_n hX dX9_hang_17 rfl 1 rfl 18 rfl ?_
        refine v_icmp_eq hX dX9_hang_18 67 rfl 21 rfl (fun h15 => ?_) (fun h15 => ?_)
        · replace hf := it_p h15 hf
          refine v_sub [(3, .int x3)] (sbc 2 rfl sbn) ?_
          exact HK4 _ _ hf
        · replace hf := it_n h15 hf
          refine v_iload_n hX dX9_hang_21 rfl 2 rfl 22 rfl ?_
          refine v_istore_n hX dX9_hang_22 rfl (ltn hn (by decide)) 23 rfl [(2, .int x3), (0, .ref (aX X 52)), (3, .int x3)] rfl ?_
          refine v_iconst (v := (0 : Int32)) hX dX9_hang_23 (by decide) 24 rfl ?_
          refine v_istore hX dX9_hang_24 (ltn hn (by decide)) 26 rfl [(4, .int (0 : Int32)), (2, .int x3), (0, .ref (aX X 52)), (3, .int x3)] rfl ?_
          obtain ⟨K8, hK8, hf⟩ := jn_x hf
          have HK8 : ∀ (x6 : Int32) (x7 : Int32), K8 x6 x7 = some res → VC X r g u h [(0, .ref (aX X 52)), (2, .int x3), (3, .int x6)] [] 64 := by
            intro x6 x7 hf
            rw [hK8] at hf
            refine v_goto hX dX9_hang_64 16 rfl ?_
            exact ih _ _ hf
          have HLK8 : ∀ (n9 : Nat) (x6 : Int32) (x7 : Int32), f9_hang_L26 (r 31) (r 30) (g 57) (g 55) (g 58) (g 56) x3 n9 x6 x7 K8 = some res → VC X r g u h [(0, .ref (aX X 52)), (2, .int x3), (3, .int x6), (4, .int x7)] [] 26 := by
            intro n9
            induction n9 with
            | zero => intro x6 x7 hf; exact no_s hf
            | succ n9 ih =>
              intro x6 x7 hf
              rw [f9_hang_L26] at hf
              refine v_iload hX dX9_hang_26 3 rfl 28 rfl ?_
              refine v_aload_n hX dX9_hang_28 rfl 0 rfl 29 rfl ?_
              refine gf_52_5 hX q_462 dX9_hang_29 ((r 31)) rfl 32 rfl ?_
              refine v_icmp_ge hX dX9_hang_32 64 rfl 35 rfl (fun h14 => ?_) (fun h14 => ?_)
              · replace hf := it_p h14 hf
                refine v_sub [(0, .ref (aX X 52)), (2, .int x3), (3, .int x6)] (sbc 0 rfl (sbc 1 rfl (sbc 2 rfl sbn))) ?_
                exact HK8 _ _ hf
              · replace hf := it_n h14 hf
                refine v_iload_n hX dX9_hang_35 rfl 2 rfl 36 rfl ?_
                refine v_iload_n hX dX9_hang_36 rfl 1 rfl 37 rfl ?_
                refine v_iload hX dX9_hang_37 3 rfl 39 rfl ?_
                refine v_ishr hX dX9_hang_39 40 rfl ?_
                refine v_iconst (v := (1 : Int32)) hX dX9_hang_40 (by decide) 41 rfl ?_
                refine v_iand hX dX9_hang_41 42 rfl ?_
                refine v_iconst (v := (1 : Int32)) hX dX9_hang_42 (by decide) 43 rfl ?_
                obtain ⟨J10, hJ10, hf⟩ := jn_x hf
                have HJ10 : ∀ (s11 : Int32), J10 s11 = some res → VC X r g u h [(0, .ref (aX X 52)), (2, .int x3), (4, .int x7)] [.int s11, .int x6] 56 := by
                  intro s11 hf
                  rw [hJ10] at hf
                  refine v_ior hX dX9_hang_56 57 rfl ?_
                  refine v_istore_n hX dX9_hang_57 rfl (ltn hn (by decide)) 58 rfl [(3, .int (x6 ||| s11)), (0, .ref (aX X 52)), (2, .int x3), (4, .int x7)] rfl ?_
                  refine v_inc (c := (1 : Int32)) hX dX9_hang_58 3 rfl (by decide) (ltn hn (by decide)) 61 rfl [(4, .int (x7 + (1 : Int32))), (3, .int (x6 ||| s11)), (0, .ref (aX X 52)), (2, .int x3)] rfl ?_
                  refine v_goto hX dX9_hang_61 26 rfl ?_
                  refine v_sub [(0, .ref (aX X 52)), (2, .int x3), (3, .int (x6 ||| s11)), (4, .int (x7 + (1 : Int32)))] (sbc 2 rfl (sbc 3 rfl (sbc 1 rfl (sbc 0 rfl sbn)))) ?_
                  exact ih _ _ hf
                refine v_icmp_ne hX dX9_hang_43 55 rfl 46 rfl (fun h13 => ?_) (fun h13 => ?_)
                · replace hf := it_n h13 hf
                  refine v_iconst (v := (0 : Int32)) hX dX9_hang_55 (by decide) 56 rfl ?_
                  refine v_sub [(0, .ref (aX X 52)), (2, .int x3), (4, .int x7)] (sbc 0 rfl (sbc 1 rfl (sbc 3 rfl sbn))) ?_
                  exact HJ10 _ hf
                · replace hf := it_p h13 hf
                  refine v_aload_n hX dX9_hang_46 rfl 0 rfl 47 rfl ?_
                  refine v_iload hX dX9_hang_47 3 rfl 49 rfl ?_
                  obtain ⟨v12, hv12, hf⟩ := bn1_e hf
                  refine cv_i hX (c9_tiedTo r g u h _ hv12) wvX9_tiedTo q_604 rc_52 (Nat.le_of_ble_eq_true rfl) (Nat.le_of_ble_eq_true rfl) (fun _ => rfl) [.int x6] rfl (Nat.le_of_ble_eq_true rfl) dX9_hang_49 52 rfl ?_
                  refine v_goto hX dX9_hang_52 56 rfl ?_
                  refine v_sub [(0, .ref (aX X 52)), (2, .int x3), (4, .int x7)] (sbc 0 rfl (sbc 1 rfl (sbc 3 rfl sbn))) ?_
                  exact HJ10 _ hf
          refine v_sub [(0, .ref (aX X 52)), (2, .int x3), (3, .int x3), (4, .int (0 : Int32))] (sbc 2 rfl (sbc 1 rfl (sbc 3 rfl (sbc 0 rfl sbn)))) ?_
          exact HLK8 _ _ _ hf
    refine v_sub [(0, .ref (aX X 52)), (2, .int (0 : Int32)), (3, .int ((1 : Int32) <<< (p1 &&& 31)))] (sbc 2 rfl (sbc 1 rfl (sbc 0 rfl sbn))) ?_
    exact HLK4 _ _ _ hf
  · replace hf := it_p h16 hf
    refine v_iconst (v := (-1 : Int32)) hX dX9_hang_8 (by decide) 9 rfl ?_
    exact hR _ hf _ _ dX9_hang_9 rfl
set_option maxRecDepth 100000 in
set_option maxHeartbeats 4000000 in
theorem c9_findStrengths (r : Nat → Int32) (g : Nat → Nat → Int32) (u : Nat → Int64) (h : Nat → Nat → Int64)  {res : (Nat → Int32)} (hf : f9_findStrengths (r 31) (r 30) (g 57) (g 55) (g 58) (g 56) (g 68) = some res) : MAv yX9_findStrengths cX9_findStrengths 3 none 3 (fun a => [.ref (a 52)]) r g u h r (lkp g [(68, res)]) u h := by
  refine mi_v (by decide +kernel) (fun a => Nat.le_of_ble_eq_true rfl) (fun X hX hn hR => ?_)
  replace hR : ∀ q : (Nat → Int32), some q = some res → ∀ lv pc, decode cX9_findStrengths pc = .ok (.return_, 1) → VC X r (lkp g [(68, q)]) u h lv [] pc := fun q hq => by cases hq; exact hR
  replace hX : CX X RX9 cX9_findStrengths 3 := hX
  refine v_opg [68] [(68, g 68)] rfl ?_
  show VC X r (lkp g [(68, g 68)]) u h [(0, .ref (aX X 52))] [] 0
  rw [f9_findStrengths] at hf
  refine v_iconst (v := (0 : Int32)) hX dX9_findStrengths_0 (by decide) 1 rfl ?_
  refine v_istore_n hX dX9_findStrengths_1 rfl (ltn hn (by decide)) 2 rfl [(1, .int (0 : Int32)), (0, .ref (aX X 52))] rfl ?_
  obtain ⟨K3, hK3, hf⟩ := jn_x hf
  have HK3 : ∀ (x1 : Int32) (c2 : (Nat → Int32)), K3 x1 c2 = some res → VC X r (lkp g [(68, c2)]) u h [] [] 51 := by
    intro x1 c2 hf
    rw [hK3] at hf
    exact hR _ hf _ _ dX9_findStrengths_51
  have HLK3 : ∀ (n4 : Nat) (x1 : Int32) (c2 : (Nat → Int32)), f9_findStrengths_L2 (r 31) (r 30) (g 57) (g 55) (g 58) (g 56) n4 x1 c2 K3 = some res → VC X r (lkp g [(68, c2)]) u h [(0, .ref (aX X 52)), (1, .int x1)] [] 2 := by
    intro n4
    induction n4 with
    | zero => intro x1 c2 hf; exact no_s hf
    | succ n4 ih =>
      intro x1 c2 hf
      rw [f9_findStrengths_L2] at hf
      refine v_iload_n hX dX9_findStrengths_2 rfl 1 rfl 3 rfl ?_
      refine v_aload_n hX dX9_findStrengths_3 rfl 0 rfl 4 rfl ?_
      refine gf_52_5 hX q_462 dX9_findStrengths_4 ((r 31)) rfl 7 rfl ?_
      refine v_icmp_ge hX dX9_findStrengths_7 51 rfl 10 rfl (fun h12 => ?_) (fun h12 => ?_)
      · replace hf := it_p h12 hf
        refine v_sub [] sbn ?_
        exact HK3 _ _ hf
      · replace hf := it_n h12 hf
        refine v_iload_n hX dX9_findStrengths_10 rfl 1 rfl 11 rfl ?_
        refine v_iconst (v := (1 : Int32)) hX dX9_findStrengths_11 (by decide) 12 rfl ?_
        refine v_iadd hX dX9_findStrengths_12 13 rfl ?_
        refine v_istore_n hX dX9_findStrengths_13 rfl (ltn hn (by decide)) 14 rfl [(2, .int (x1 + (1 : Int32))), (0, .ref (aX X 52)), (1, .int x1)] rfl ?_
        obtain ⟨K7, hK7, hf⟩ := jn_x hf
        have HK7 : ∀ (x5 : Int32) (c6 : (Nat → Int32)), K7 x5 c6 = some res → VC X r (lkp g [(68, c6)]) u h [(0, .ref (aX X 52)), (1, .int x1)] [] 45 := by
          intro x5 c6 hf
          rw [hK7] at hf
          refine v_inc (c := (1 : Int32)) hX dX9_findStrengths_45 1 rfl (by decide) (ltn hn (by decide)) 48 rfl [(1, .int (x1 + (1 : Int32))), (0, .ref (aX X 52))] rfl ?_
          refine v_goto hX dX9_findStrengths_48 2 rfl ?_
          refine v_sub [(0, .ref (aX X 52)), (1, .int (x1 + (1 : Int32)))] (sbc 1 rfl (sbc 0 rfl sbn)) ?_
          exact ih _ _ hf
        have HLK7 : ∀ (n8 : Nat) (x5 : Int32) (c6 : (Nat → Int32)), f9_findStrengths_L14 (r 31) (r 30) (g 57) (g 55) (g 58) (g 56) x1 n8 x5 c6 K7 = some res → VC X r (lkp g [(68, c6)]) u h [(0, .ref (aX X 52)), (1, .int x1), (2, .int x5)] [] 14 := by
          intro n8
          induction n8 with
          | zero => intro x5 c6 hf; exact no_s hf
          | succ n8 ih =>
            intro x5 c6 hf
            rw [f9_findStrengths_L14] at hf
            refine v_iload_n hX dX9_findStrengths_14 rfl 2 rfl 15 rfl ?_
            refine v_aload_n hX dX9_findStrengths_15 rfl 0 rfl 16 rfl ?_
            refine gf_52_5 hX q_462 dX9_findStrengths_16 ((r 31)) rfl 19 rfl ?_
            refine v_icmp_ge hX dX9_findStrengths_19 45 rfl 22 rfl (fun h11 => ?_) (fun h11 => ?_)
            · replace hf := it_p h11 hf
              refine v_sub [(0, .ref (aX X 52)), (1, .int x1)] (sbc 0 rfl (sbc 1 rfl sbn)) ?_
              exact HK7 _ _ hf
            · replace hf := it_n h11 hf
              refine v_aload_n hX dX9_findStrengths_22 rfl 0 rfl 23 rfl ?_
              refine gf_52_29 hX q_119 dX9_findStrengths_23 26 rfl ?_
              refine v_bipush (v := (9 : Int32)) hX dX9_findStrengths_26 (by decide) 28 rfl ?_
              refine v_iload_n hX dX9_findStrengths_28 rfl 1 rfl 29 rfl ?_
              refine v_imul hX dX9_findStrengths_29 30 rfl ?_
              refine v_iload_n hX dX9_findStrengths_30 rfl 2 rfl 31 rfl ?_
              refine v_iadd hX dX9_findStrengths_31 32 rfl ?_
              refine v_aload_n hX dX9_findStrengths_32 rfl 0 rfl 33 rfl ?_
              refine v_iload_n hX dX9_findStrengths_33 rfl 1 rfl 34 rfl ?_
              refine v_iload_n hX dX9_findStrengths_34 rfl 2 rfl 35 rfl ?_
              obtain ⟨v9, hv9, hf⟩ := bn1_e hf
              refine cv_i hX (c9_strengthOf r (lkp g [(68, c6)]) u h _ _ hv9) wvX9_strengthOf q_582 rc_52 (Nat.le_of_ble_eq_true rfl) (Nat.le_of_ble_eq_true rfl) (fun _ => rfl) [.int (((9 : Int32) * x1) + x5), .ref (aX X 68)] rfl (Nat.le_of_ble_eq_true rfl) dX9_findStrengths_35 38 rfl ?_
              obtain ⟨hi10, hf⟩ := gd_e hf
              refine as_68 hX hi10 dX9_findStrengths_38 39 rfl c6 rfl [(68, (upd c6 (((9 : Int32) * x1) + x5).toNatClampNeg v9))] rfl ?_
              refine v_inc (c := (1 : Int32)) hX dX9_findStrengths_39 2 rfl (by decide) (ltn hn (by decide)) 42 rfl [(2, .int (x5 + (1 : Int32))), (0, .ref (aX X 52)), (1, .int x1)] rfl ?_
              refine v_goto hX dX9_findStrengths_42 14 rfl ?_
              refine v_sub [(0, .ref (aX X 52)), (1, .int x1), (2, .int (x5 + (1 : Int32)))] (sbc 1 rfl (sbc 2 rfl (sbc 0 rfl sbn))) ?_
              exact ih _ _ hf
        refine v_sub [(0, .ref (aX X 52)), (1, .int x1), (2, .int (x1 + (1 : Int32)))] (sbc 1 rfl (sbc 2 rfl (sbc 0 rfl sbn))) ?_
        exact HLK7 _ _ _ hf
  refine v_sub [(0, .ref (aX X 52)), (1, .int (0 : Int32))] (sbc 1 rfl (sbc 0 rfl sbn)) ?_
  exact HLK3 _ _ _ hf
set_option maxRecDepth 100000 in
set_option maxHeartbeats 4000000 in
theorem c9_ones (r : Nat → Int32) (g : Nat → Nat → Int32) (u : Nat → Int64) (h : Nat → Nat → Int64) (p0 : Int32) {res : Int32} (hf : f9_ones p0 = some res) : MAi yX9_ones cX9_ones 3 (some .int) 0 (fun a => [.int p0]) r g u h res r g u h := by
  refine mi_i (by decide +kernel) (fun a => Nat.le_of_ble_eq_true rfl) (fun X hX hn hR => ?_)
  replace hR : ∀ q : Int32, some q = some res → ∀ lv pc, decode cX9_ones pc = .ok (.ireturn, 1) → narrow .int (.int q) = .int q → VC X r g u h lv [.int q] pc := fun q hq => by cases hq; exact hR
  replace hX : CX X RX9 cX9_ones 0 := hX
  show VC X r g u h [(0, .int p0)] [] 0
  rw [f9_ones] at hf
  refine v_iconst (v := (0 : Int32)) hX dX9_ones_0 (by decide) 1 rfl ?_
  refine v_istore_n hX dX9_ones_1 rfl (ltn hn (by decide)) 2 rfl [(1, .int (0 : Int32)), (0, .int p0)] rfl ?_
  refine v_iload_n hX dX9_ones_2 rfl 1 rfl 3 rfl ?_
  refine v_istore_n hX dX9_ones_3 rfl (ltn hn (by decide)) 4 rfl [(2, .int p0), (1, .int (0 : Int32)), (0, .int p0)] rfl ?_
  obtain ⟨K3, hK3, hf⟩ := jn_x hf
  have HK3 : ∀ (x1 : Int32) (x2 : Int32), K3 x1 x2 = some res → VC X r g u h [(1, .int x1)] [] 20 := by
    intro x1 x2 hf
    rw [hK3] at hf
    refine v_iload_n hX dX9_ones_20 rfl 0 rfl 21 rfl ?_
    exact hR _ hf _ _ dX9_ones_21 rfl
  have HLK3 : ∀ (n4 : Nat) (x1 : Int32) (x2 : Int32), f9_ones_L4 n4 x1 x2 K3 = some res → VC X r g u h [(1, .int x1), (2, .int x2)] [] 4 := by
    intro n4
    induction n4 with
    | zero => intro x1 x2 hf; exact no_s hf
    | succ n4 ih =>
      intro x1 x2 hf
      rw [f9_ones_L4] at hf
      refine v_iload_n hX dX9_ones_4 rfl 1 rfl 5 rfl ?_
      refine v_if_eq hX dX9_ones_5 20 rfl 8 rfl (fun h5 => ?_) (fun h5 => ?_)
      · replace hf := it_p h5 hf
        refine v_sub [(1, .int x1)] (sbc 0 rfl sbn) ?_
        exact HK3 _ _ hf
      · replace hf := it_n h5 hf
        refine v_inc (c := (1 : Int32)) hX dX9_ones_8 0 rfl (by decide) (ltn hn (by decide)) 11 rfl [(1, .int (x1 + (1 : Int32))), (2, .int x2)] rfl ?_
        refine v_iload_n hX dX9_ones_11 rfl 1 rfl 12 rfl ?_
        refine v_iload_n hX dX9_ones_12 rfl 1 rfl 13 rfl ?_
        refine v_iconst (v := (1 : Int32)) hX dX9_ones_13 (by decide) 14 rfl ?_
        refine v_isub hX dX9_ones_14 15 rfl ?_
        refine v_iand hX dX9_ones_15 16 rfl ?_
        refine v_istore_n hX dX9_ones_16 rfl (ltn hn (by decide)) 17 rfl [(2, .int (x2 &&& (x2 - (1 : Int32)))), (1, .int (x1 + (1 : Int32)))] rfl ?_
        refine v_goto hX dX9_ones_17 4 rfl ?_
        refine v_sub [(1, .int (x1 + (1 : Int32))), (2, .int (x2 &&& (x2 - (1 : Int32))))] (sbc 1 rfl (sbc 0 rfl sbn)) ?_
        exact ih _ _ hf
  refine v_sub [(1, .int (0 : Int32)), (2, .int p0)] (sbc 1 rfl (sbc 0 rfl sbn)) ?_
  exact HLK3 _ _ _ hf
set_option maxRecDepth 100000 in
set_option maxHeartbeats 4000000 in
theorem c9_scoreOf (r : Nat → Int32) (g : Nat → Nat → Int32) (u : Nat → Int64) (h : Nat → Nat → Int64) (p1 : Int32) {res : Int32} (hf : f9_scoreOf (r 31) (g 58) (g 68) p1 = some res) : MAi yX9_scoreOf cX9_scoreOf 5 (some .int) 1 (fun a => [.ref (a 52), .int p1]) r g u h res r g u h := by
  refine mi_i (by decide +kernel) (fun a => Nat.le_of_ble_eq_true rfl) (fun X hX hn hR => ?_)
  replace hR : ∀ q : Int32, some q = some res → ∀ lv pc, decode cX9_scoreOf pc = .ok (.ireturn, 1) → narrow .int (.int q) = .int q → VC X r g u h lv [.int q] pc := fun q hq => by cases hq; exact hR
  replace hX : CX X RX9 cX9_scoreOf 1 := hX
  show VC X r g u h [(0, .ref (aX X 52)), (1, .int p1)] [] 0
  rw [f9_scoreOf] at hf
  refine v_iconst (v := (0 : Int32)) hX dX9_scoreOf_0 (by decide) 1 rfl ?_
  refine v_aload_n hX dX9_scoreOf_1 rfl 0 rfl 2 rfl ?_
  refine gf_52_7 hX q_108 dX9_scoreOf_2 5 rfl ?_
  refine v_iconst (v := (4 : Int32)) hX dX9_scoreOf_5 (by decide) 6 rfl ?_
  obtain ⟨hi1, hf⟩ := gd_e hf
  refine al_58 hX hi1 dX9_scoreOf_6 ((g 58) (4 : Int32).toNatClampNeg) rfl 7 rfl ?_
  refine v_iload_n hX dX9_scoreOf_7 rfl 1 rfl 8 rfl ?_
  obtain ⟨v2, hv2, hf⟩ := bn1_e hf
  refine cs_i hX (c9_ones r g u h _ hv2) wvX9_ones q_701 (Nat.le_of_ble_eq_true rfl) (Nat.le_of_ble_eq_true rfl) (fun _ => rfl) [.int ((g 58) (4 : Int32).toNatClampNeg), .int (0 : Int32)] rfl (Nat.le_of_ble_eq_true rfl) dX9_scoreOf_8 11 rfl ?_
  refine v_imul hX dX9_scoreOf_11 12 rfl ?_
  refine v_isub hX dX9_scoreOf_12 13 rfl ?_
  refine v_istore_n hX dX9_scoreOf_13 rfl (ltn hn (by decide)) 14 rfl [(2, .int ((0 : Int32) - (((g 58) (4 : Int32).toNatClampNeg) * v2))), (0, .ref (aX X 52)), (1, .int p1)] rfl ?_
  refine v_iconst (v := (0 : Int32)) hX dX9_scoreOf_14 (by decide) 15 rfl ?_
  refine v_istore_n hX dX9_scoreOf_15 rfl (ltn hn (by decide)) 16 rfl [(3, .int (0 : Int32)), (2, .int ((0 : Int32) - (((g 58) (4 : Int32).toNatClampNeg) * v2))), (0, .ref (aX X 52)), (1, .int p1)] rfl ?_
  obtain ⟨K5, hK5, hf⟩ := jn_x hf
  have HK5 : ∀ (x3 : Int32) (x4 : Int32), K5 x3 x4 = some res → VC X r g u h [(2, .int x3)] [] 88 := by
    intro x3 x4 hf
    rw [hK5] at hf
    refine v_iload_n hX dX9_scoreOf_88 rfl 0 rfl 89 rfl ?_
    exact hR _ hf _ _ dX9_scoreOf_89 rfl
  have HLK5 : ∀ (n6 : Nat) (x3 : Int32) (x4 : Int32), f9_scoreOf_L16 (r 31) (g 68) p1 n6 x3 x4 K5 = some res → VC X r g u h [(0, .ref (aX X 52)), (1, .int p1), (2, .int x3), (3, .int x4)] [] 16 := by
    intro n6
    induction n6 with
    | zero => intro x3 x4 hf; exact no_s hf
    | succ n6 ih =>
      intro x3 x4 hf
      rw [f9_scoreOf_L16] at hf
      refine v_iload_n hX dX9_scoreOf_16 rfl 3 rfl 17 rfl ?_
      refine v_aload_n hX dX9_scoreOf_17 rfl 0 rfl 18 rfl ?_
      refine gf_52_5 hX q_462 dX9_scoreOf_18 ((r 31)) rfl 21 rfl ?_
      refine v_icmp_ge hX dX9_scoreOf_21 88 rfl 24 rfl (fun h18 => ?_) (fun h18 => ?_)
      · replace hf := it_p h18 hf
        refine v_sub [(2, .int x3)] (sbc 2 rfl sbn) ?_
        exact HK5 _ _ hf
      · replace hf := it_n h18 hf
        refine v_iload_n hX dX9_scoreOf_24 rfl 3 rfl 25 rfl ?_
        refine v_iconst (v := (1 : Int32)) hX dX9_scoreOf_25 (by decide) 26 rfl ?_
        refine v_iadd hX dX9_scoreOf_26 27 rfl ?_
        refine v_istore hX dX9_scoreOf_27 (ltn hn (by decide)) 29 rfl [(4, .int (x4 + (1 : Int32))), (0, .ref (aX X 52)), (1, .int p1), (2, .int x3), (3, .int x4)] rfl ?_
        obtain ⟨K9, hK9, hf⟩ := jn_x hf
        have HK9 : ∀ (x7 : Int32) (x8 : Int32), K9 x7 x8 = some res → VC X r g u h [(0, .ref (aX X 52)), (1, .int p1), (2, .int x7), (3, .int x4)] [] 82 := by
          intro x7 x8 hf
          rw [hK9] at hf
          refine v_inc (c := (1 : Int32)) hX dX9_scoreOf_82 3 rfl (by decide) (ltn hn (by decide)) 85 rfl [(3, .int (x4 + (1 : Int32))), (0, .ref (aX X 52)), (1, .int p1), (2, .int x7)] rfl ?_
          refine v_goto hX dX9_scoreOf_85 16 rfl ?_
          refine v_sub [(0, .ref (aX X 52)), (1, .int p1), (2, .int x7), (3, .int (x4 + (1 : Int32)))] (sbc 1 rfl (sbc 2 rfl (sbc 3 rfl (sbc 0 rfl sbn)))) ?_
          exact ih _ _ hf
        have HLK9 : ∀ (n10 : Nat) (x7 : Int32) (x8 : Int32), f9_scoreOf_L29 (r 31) (g 68) p1 x4 n10 x7 x8 K9 = some res → VC X r g u h [(0, .ref (aX X 52)), (1, .int p1), (2, .int x7), (3, .int x4), (4, .int x8)] [] 29 := by
          intro n10
          induction n10 with
          | zero => intro x7 x8 hf; exact no_s hf
          | succ n10 ih =>
            intro x7 x8 hf
            rw [f9_scoreOf_L29] at hf
            refine v_iload hX dX9_scoreOf_29 4 rfl 31 rfl ?_
            refine v_aload_n hX dX9_scoreOf_31 rfl 0 rfl 32 rfl ?_
            refine gf_52_5 hX q_462 dX9_scoreOf_32 ((r 31)) rfl 35 rfl ?_
            refine v_icmp_ge hX dX9_scoreOf_35 82 rfl 38 rfl (fun h17 => ?_) (fun h17 => ?_)
            · replace hf := it_p h17 hf
              refine v_sub [(0, .ref (aX X 52)), (1, .int p1), (2, .int x7), (3, .int x4)] (sbc 0 rfl (sbc 1 rfl (sbc 2 rfl (sbc 3 rfl sbn)))) ?_
              exact HK9 _ _ hf
            · replace hf := it_n h17 hf
              refine v_iload_n hX dX9_scoreOf_38 rfl 2 rfl 39 rfl ?_
              refine v_iload_n hX dX9_scoreOf_39 rfl 1 rfl 40 rfl ?_
              refine v_iload_n hX dX9_scoreOf_40 rfl 3 rfl 41 rfl ?_
              refine v_ishr hX dX9_scoreOf_41 42 rfl ?_
              refine v_iconst (v := (1 : Int32)) hX dX9_scoreOf_42 (by decide) 43 rfl ?_
              refine v_iand hX dX9_scoreOf_43 44 rfl ?_
              refine v_iconst (v := (1 : Int32)) hX dX9_scoreOf_44 (by decide) 45 rfl ?_
              obtain ⟨J11, hJ11, hf⟩ := jn_x hf
              have HJ11 : ∀ (s12 : Int32), J11 s12 = some res → VC X r g u h [(0, .ref (aX X 52)), (1, .int p1), (3, .int x4), (4, .int x8)] [.int s12, .int x7] 74 := by
                intro s12 hf
                rw [hJ11] at hf
                refine v_iadd hX dX9_scoreOf_74 75 rfl ?_
                refine v_istore_n hX dX9_scoreOf_75 rfl (ltn hn (by decide)) 76 rfl [(2, .int (x7 + s12)), (0, .ref (aX X 52)), (1, .int p1), (3, .int x4), (4, .int x8)] rfl ?_
                refine v_inc (c := (1 : Int32)) hX dX9_scoreOf_76 4 rfl (by decide) (ltn hn (by decide)) 79 rfl [(4, .int (x8 + (1 : Int32))), (2, .int (x7 + s12)), (0, .ref (aX X 52)), (1, .int p1), (3, .int x4)] rfl ?_
                refine v_goto hX dX9_scoreOf_79 29 rfl ?_
                refine v_sub [(0, .ref (aX X 52)), (1, .int p1), (2, .int (x7 + s12)), (3, .int x4), (4, .int (x8 + (1 : Int32)))] (sbc 2 rfl (sbc 3 rfl (sbc 1 rfl (sbc 4 rfl (sbc 0 rfl sbn))))) ?_
                exact ih _ _ hf
              obtain ⟨J13, hJ13, hf⟩ := jn_x hf
              have HJ13 : J13 = some res → VC X r g u h [(0, .ref (aX X 52)), (1, .int p1), (3, .int x4), (4, .int x8)] [.int x7] 73 := by
                intro hf
                rw [hJ13] at hf
                refine v_iconst (v := (0 : Int32)) hX dX9_scoreOf_73 (by decide) 74 rfl ?_
                exact HJ11 _ hf
              refine v_icmp_ne hX dX9_scoreOf_45 73 rfl 48 rfl (fun h16 => ?_) (fun h16 => ?_)
              · replace hf := it_n h16 hf
                refine v_sub [(0, .ref (aX X 52)), (1, .int p1), (3, .int x4), (4, .int x8)] (sbc 0 rfl (sbc 1 rfl (sbc 3 rfl (sbc 4 rfl sbn)))) ?_
                exact HJ13  hf
              · replace hf := it_p h16 hf
                refine v_iload_n hX dX9_scoreOf_48 rfl 1 rfl 49 rfl ?_
                refine v_iload hX dX9_scoreOf_49 4 rfl 51 rfl ?_
                refine v_ishr hX dX9_scoreOf_51 52 rfl ?_
                refine v_iconst (v := (1 : Int32)) hX dX9_scoreOf_52 (by decide) 53 rfl ?_
                refine v_iand hX dX9_scoreOf_53 54 rfl ?_
                refine v_iconst (v := (1 : Int32)) hX dX9_scoreOf_54 (by decide) 55 rfl ?_
                refine v_icmp_ne hX dX9_scoreOf_55 73 rfl 58 rfl (fun h15 => ?_) (fun h15 => ?_)
                · replace hf := it_n h15 hf
                  refine v_sub [(0, .ref (aX X 52)), (1, .int p1), (3, .int x4), (4, .int x8)] (sbc 0 rfl (sbc 1 rfl (sbc 3 rfl (sbc 4 rfl sbn)))) ?_
                  exact HJ13  hf
                · replace hf := it_p h15 hf
                  refine v_aload_n hX dX9_scoreOf_58 rfl 0 rfl 59 rfl ?_
                  refine gf_52_29 hX q_119 dX9_scoreOf_59 62 rfl ?_
                  refine v_bipush (v := (9 : Int32)) hX dX9_scoreOf_62 (by decide) 64 rfl ?_
                  refine v_iload_n hX dX9_scoreOf_64 rfl 3 rfl 65 rfl ?_
                  refine v_imul hX dX9_scoreOf_65 66 rfl ?_
                  refine v_iload hX dX9_scoreOf_66 4 rfl 68 rfl ?_
                  refine v_iadd hX dX9_scoreOf_68 69 rfl ?_
                  obtain ⟨hi14, hf⟩ := gd_e hf
                  refine al_68 hX hi14 dX9_scoreOf_69 ((g 68) (((9 : Int32) * x4) + x8).toNatClampNeg) rfl 70 rfl ?_
                  refine v_goto hX dX9_scoreOf_70 74 rfl ?_
                  refine v_sub [(0, .ref (aX X 52)), (1, .int p1), (3, .int x4), (4, .int x8)] (sbc 0 rfl (sbc 1 rfl (sbc 3 rfl (sbc 4 rfl sbn)))) ?_
                  exact HJ11 _ hf
        refine v_sub [(0, .ref (aX X 52)), (1, .int p1), (2, .int x3), (3, .int x4), (4, .int (x4 + (1 : Int32)))] (sbc 1 rfl (sbc 2 rfl (sbc 3 rfl (sbc 4 rfl (sbc 0 rfl sbn))))) ?_
        exact HLK9 _ _ _ hf
  refine v_sub [(0, .ref (aX X 52)), (1, .int p1), (2, .int ((0 : Int32) - (((g 58) (4 : Int32).toNatClampNeg) * v2))), (3, .int (0 : Int32))] (sbc 2 rfl (sbc 3 rfl (sbc 1 rfl (sbc 0 rfl sbn)))) ?_
  exact HLK5 _ _ _ hf
set_option maxRecDepth 100000 in
set_option maxHeartbeats 4000000 in
theorem c9_findLot (r : Nat → Int32) (g : Nat → Nat → Int32) (u : Nat → Int64) (h : Nat → Nat → Int64)  {res : Int32 × Int32 × (Nat → Int32)} (hf : f9_findLot (r 31) (r 43) (r 30) (g 57) (g 55) (g 58) (g 56) (g 68) = some res) : MAi yX9_findLot cX9_findLot 5 (some .int) 4 (fun a => [.ref (a 52)]) r g u h res.1 (lkp r [(43, res.2.1)]) (lkp g [(68, res.2.2)]) u h := by
  refine mi_i (by decide +kernel) (fun a => Nat.le_of_ble_eq_true rfl) (fun X hX hn hR => ?_)
  replace hR : ∀ q : Int32 × Int32 × (Nat → Int32), some q = some res → ∀ lv pc, decode cX9_findLot pc = .ok (.ireturn, 1) → narrow .int (.int q.1) = .int q.1 → VC X (lkp r [(43, q.2.1)]) (lkp g [(68, q.2.2)]) u h lv [.int q.1] pc := fun q hq => by cases hq; exact hR
  replace hX : CX X RX9 cX9_findLot 4 := hX
  refine v_opr [43] [(43, r 43)] rfl ?_
  refine v_opg [68] [(68, g 68)] rfl ?_
  show VC X (lkp r [(43, r 43)]) (lkp g [(68, g 68)]) u h [(0, .ref (aX X 52))] [] 0
  rw [f9_findLot] at hf
  refine v_aload_n hX dX9_findLot_0 rfl 0 rfl 1 rfl ?_
  obtain ⟨c1, hc1, hf⟩ := bn1_e hf
  refine cv_v hX (c9_findStrengths (lkp r [(43, (r 43))]) (lkp g [(68, (g 68))]) u h hc1) wvX9_findStrengths q_693 rc_52 (Nat.le_of_ble_eq_true rfl) (Nat.le_of_ble_eq_true rfl) (fun _ => rfl) [] rfl (Nat.le_of_ble_eq_true rfl) dX9_findLot_1 4 rfl ?_
  refine v_mgg [(68, c1)] rfl ?_
  refine v_bipush (v := (-3 : Int32)) hX dX9_findLot_4 (by decide) 6 rfl ?_
  refine v_istore_n hX dX9_findLot_6 rfl (ltn hn (by decide)) 7 rfl [(1, .int (-3 : Int32)), (0, .ref (aX X 52))] rfl ?_
  refine v_aload_n hX dX9_findLot_7 rfl 1 rfl 8 rfl ?_
  refine v_iconst (v := (0 : Int32)) hX dX9_findLot_8 (by decide) 9 rfl ?_
  refine pf_52_30 hX q_730 dX9_findLot_9 12 rfl [(43, (0 : Int32))] rfl ?_
  refine v_iconst (v := (0 : Int32)) hX dX9_findLot_12 (by decide) 13 rfl ?_
  refine v_istore_n hX dX9_findLot_13 rfl (ltn hn (by decide)) 14 rfl [(2, .int (0 : Int32)), (1, .int (-3 : Int32)), (0, .ref (aX X 52))] rfl ?_
  obtain ⟨K5, hK5, hf⟩ := jn_x hf
  have HK5 : ∀ (x2 : Int32) (x3 : Int32) (c4 : Int32), K5 x2 x3 c4 = some res → VC X (lkp r [(43, c4)]) (lkp g [(68, c1)]) u h [(1, .int x2)] [] 113 := by
    intro x2 x3 c4 hf
    rw [hK5] at hf
    refine v_iload_n hX dX9_findLot_113 rfl 0 rfl 114 rfl ?_
    exact hR _ hf _ _ dX9_findLot_114 rfl
  have HLK5 : ∀ (n6 : Nat) (x2 : Int32) (x3 : Int32) (c4 : Int32), f9_findLot_L14 (r 31) (g 58) c1 n6 x2 x3 c4 K5 = some res → VC X (lkp r [(43, c4)]) (lkp g [(68, c1)]) u h [(0, .ref (aX X 52)), (1, .int x2), (2, .int x3)] [] 14 := by
    intro n6
    induction n6 with
    | zero => intro x2 x3 c4 hf; exact no_s hf
    | succ n6 ih =>
      intro x2 x3 c4 hf
      rw [f9_findLot_L14] at hf
      refine v_iload_n hX dX9_findLot_14 rfl 2 rfl 15 rfl ?_
      refine v_iconst (v := (1 : Int32)) hX dX9_findLot_15 (by decide) 16 rfl ?_
      refine v_aload_n hX dX9_findLot_16 rfl 0 rfl 17 rfl ?_
      refine gf_52_5 hX q_462 dX9_findLot_17 ((r 31)) rfl 20 rfl ?_
      refine v_ishl hX dX9_findLot_20 21 rfl ?_
      refine v_icmp_ge hX dX9_findLot_21 113 rfl 24 rfl (fun h29 => ?_) (fun h29 => ?_)
      · replace hf := it_p h29 hf
        refine v_sub [(1, .int x2)] (sbc 1 rfl sbn) ?_
        exact HK5 _ _ _ hf
      · replace hf := it_n h29 hf
        refine v_iload_n hX dX9_findLot_24 rfl 2 rfl 25 rfl ?_
        obtain ⟨v7, hv7, hf⟩ := bn1_e hf
        refine cs_i hX (c9_ones (lkp r [(43, c4)]) (lkp g [(68, c1)]) u h _ hv7) wvX9_ones q_701 (Nat.le_of_ble_eq_true rfl) (Nat.le_of_ble_eq_true rfl) (fun _ => rfl) [] rfl (Nat.le_of_ble_eq_true rfl) dX9_findLot_25 28 rfl ?_
        refine v_iconst (v := (2 : Int32)) hX dX9_findLot_28 (by decide) 29 rfl ?_
        obtain ⟨J8, hJ8, hf⟩ := jn_x hf
        have HJ8 : ∀ (y9 : Int32) (c10 : Int32), J8 y9 c10 = some res → VC X (lkp r [(43, c10)]) (lkp g [(68, c1)]) u h [(0, .ref (aX X 52)), (1, .int y9), (2, .int x3)] [] 107 := by
          intro y9 c10 hf
          rw [hJ8] at hf
          refine v_inc (c := (1 : Int32)) hX dX9_findLot_107 2 rfl (by decide) (ltn hn (by decide)) 110 rfl [(2, .int (x3 + (1 : Int32))), (0, .ref (aX X 52)), (1, .int y9)] rfl ?_
          refine v_goto hX dX9_findLot_110 14 rfl ?_
          refine v_sub [(0, .ref (aX X 52)), (1, .int y9), (2, .int (x3 + (1 : Int32)))] (sbc 1 rfl (sbc 2 rfl (sbc 0 rfl sbn))) ?_
          exact ih _ _ _ hf
        refine v_icmp_ge hX dX9_findLot_29 35 rfl 32 rfl (fun h28 => ?_) (fun h28 => ?_)
        · replace hf := it_p h28 hf
          refine v_aload_n hX dX9_findLot_35 rfl 0 rfl 36 rfl ?_
          refine v_iload_n hX dX9_findLot_36 rfl 2 rfl 37 rfl ?_
          obtain ⟨v11, hv11, hf⟩ := bn1_e hf
          refine cv_i hX (c9_scoreOf (lkp r [(43, c4)]) (lkp g [(68, c1)]) u h _ hv11) wvX9_scoreOf q_697 rc_52 (Nat.le_of_ble_eq_true rfl) (Nat.le_of_ble_eq_true rfl) (fun _ => rfl) [] rfl (Nat.le_of_ble_eq_true rfl) dX9_findLot_37 40 rfl ?_
          refine v_istore_n hX dX9_findLot_40 rfl (ltn hn (by decide)) 41 rfl [(3, .int v11), (0, .ref (aX X 52)), (1, .int x2), (2, .int x3)] rfl ?_
          refine v_iload_n hX dX9_findLot_41 rfl 2 rfl 42 rfl ?_
          obtain ⟨J12, hJ12, hf⟩ := jn_x hf
          have HJ12 : ∀ (s13 : Int32), J12 s13 = some res → VC X (lkp r [(43, c4)]) (lkp g [(68, c1)]) u h [(0, .ref (aX X 52)), (1, .int x2), (2, .int x3), (3, .int v11)] [.int s13] 77 := by
            intro s13 hf
            rw [hJ12] at hf
            refine v_istore hX dX9_findLot_77 (ltn hn (by decide)) 79 rfl [(4, .int s13), (0, .ref (aX X 52)), (1, .int x2), (2, .int x3), (3, .int v11)] rfl ?_
            refine v_iload hX dX9_findLot_79 0 rfl 81 rfl ?_
            obtain ⟨J14, hJ14, hf⟩ := jn_x hf
            have HJ14 : ∀ (s15 : Int32), J14 s15 = some res → VC X (lkp r [(43, c4)]) (lkp g [(68, c1)]) u h [(0, .ref (aX X 52)), (2, .int x3), (3, .int v11), (4, .int s13)] [.int s15] 89 := by
              intro s15 hf
              rw [hJ14] at hf
              refine v_istore_n hX dX9_findLot_89 rfl (ltn hn (by decide)) 90 rfl [(1, .int s15), (0, .ref (aX X 52)), (2, .int x3), (3, .int v11), (4, .int s13)] rfl ?_
              refine v_aload_n hX dX9_findLot_90 rfl 1 rfl 91 rfl ?_
              refine v_iload hX dX9_findLot_91 4 rfl 93 rfl ?_
              obtain ⟨J16, hJ16, hf⟩ := jn_x hf
              have HJ16 : ∀ (s17 : Int32), J16 s17 = some res → VC X (lkp r [(43, c4)]) (lkp g [(68, c1)]) u h [(0, .ref (aX X 52)), (1, .int s15), (2, .int x3)] [.int s17, .ref (aX X 52)] 104 := by
                intro s17 hf
                rw [hJ16] at hf
                refine pf_52_30 hX q_730 dX9_findLot_104 107 rfl [(43, s17)] rfl ?_
                exact HJ8 _ _ hf
              refine v_if_eq hX dX9_findLot_93 100 rfl 96 rfl (fun h18 => ?_) (fun h18 => ?_)
              · replace hf := it_p h18 hf
                refine v_aload_n hX dX9_findLot_100 rfl 1 rfl 101 rfl ?_
                refine gf_52_30 hX q_730 dX9_findLot_101 (c4) rfl 104 rfl ?_
                refine v_sub [(0, .ref (aX X 52)), (1, .int s15), (2, .int x3)] (sbc 1 rfl (sbc 0 rfl (sbc 2 rfl sbn))) ?_
                exact HJ16 _ hf
              · replace hf := it_n h18 hf
                refine v_iload_n hX dX9_findLot_96 rfl 3 rfl 97 rfl ?_
                refine v_goto hX dX9_findLot_97 104 rfl ?_
                refine v_sub [(0, .ref (aX X 52)), (1, .int s15), (2, .int x3)] (sbc 1 rfl (sbc 0 rfl (sbc 2 rfl sbn))) ?_
                exact HJ16 _ hf
            refine v_if_eq hX dX9_findLot_81 88 rfl 84 rfl (fun h19 => ?_) (fun h19 => ?_)
            · replace hf := it_p h19 hf
              refine v_iload_n hX dX9_findLot_88 rfl 2 rfl 89 rfl ?_
              refine v_sub [(0, .ref (aX X 52)), (2, .int x3), (3, .int v11), (4, .int s13)] (sbc 1 rfl (sbc 3 rfl (sbc 4 rfl (sbc 0 rfl sbn)))) ?_
              exact HJ14 _ hf
            · replace hf := it_n h19 hf
              refine v_iload_n hX dX9_findLot_84 rfl 3 rfl 85 rfl ?_
              refine v_goto hX dX9_findLot_85 89 rfl ?_
              refine v_sub [(0, .ref (aX X 52)), (2, .int x3), (3, .int v11), (4, .int s13)] (sbc 1 rfl (sbc 3 rfl (sbc 4 rfl (sbc 0 rfl sbn)))) ?_
              exact HJ14 _ hf
          obtain ⟨J20, hJ20, hf⟩ := jn_x hf
          have HJ20 : J20 = some res → VC X (lkp r [(43, c4)]) (lkp g [(68, c1)]) u h [(0, .ref (aX X 52)), (1, .int x2), (2, .int x3), (3, .int v11)] [] 72 := by
            intro hf
            rw [hJ20] at hf
            refine v_iconst (v := (1 : Int32)) hX dX9_findLot_72 (by decide) 73 rfl ?_
            refine v_goto hX dX9_findLot_73 77 rfl ?_
            exact HJ12 _ hf
          refine v_if_lt hX dX9_findLot_42 72 rfl 45 rfl (fun h27 => ?_) (fun h27 => ?_)
          · replace hf := it_p h27 hf
            refine v_sub [(0, .ref (aX X 52)), (1, .int x2), (2, .int x3), (3, .int v11)] (sbc 1 rfl (sbc 2 rfl (sbc 3 rfl (sbc 0 rfl sbn)))) ?_
            exact HJ20  hf
          · replace hf := it_n h27 hf
            refine v_iload_n hX dX9_findLot_45 rfl 0 rfl 46 rfl ?_
            refine v_aload_n hX dX9_findLot_46 rfl 1 rfl 47 rfl ?_
            refine gf_52_30 hX q_730 dX9_findLot_47 (c4) rfl 50 rfl ?_
            refine v_icmp_gt hX dX9_findLot_50 72 rfl 53 rfl (fun h26 => ?_) (fun h26 => ?_)
            · replace hf := it_p h26 hf
              refine v_sub [(0, .ref (aX X 52)), (1, .int x2), (2, .int x3), (3, .int v11)] (sbc 1 rfl (sbc 2 rfl (sbc 3 rfl (sbc 0 rfl sbn)))) ?_
              exact HJ20  hf
            · replace hf := it_n h26 hf
              refine v_iload_n hX dX9_findLot_53 rfl 0 rfl 54 rfl ?_
              refine v_aload_n hX dX9_findLot_54 rfl 1 rfl 55 rfl ?_
              refine gf_52_30 hX q_730 dX9_findLot_55 (c4) rfl 58 rfl ?_
              obtain ⟨J21, hJ21, hf⟩ := jn_x hf
              have HJ21 : J21 = some res → VC X (lkp r [(43, c4)]) (lkp g [(68, c1)]) u h [(0, .ref (aX X 52)), (1, .int x2), (2, .int x3), (3, .int v11)] [] 76 := by
                intro hf
                rw [hJ21] at hf
                refine v_iconst (v := (0 : Int32)) hX dX9_findLot_76 (by decide) 77 rfl ?_
                exact HJ12 _ hf
              refine v_icmp_ne hX dX9_findLot_58 76 rfl 61 rfl (fun h25 => ?_) (fun h25 => ?_)
              · replace hf := it_n h25 hf
                refine v_sub [(0, .ref (aX X 52)), (1, .int x2), (2, .int x3), (3, .int v11)] (sbc 1 rfl (sbc 2 rfl (sbc 3 rfl (sbc 0 rfl sbn)))) ?_
                exact HJ21  hf
              · replace hf := it_p h25 hf
                refine v_iload_n hX dX9_findLot_61 rfl 3 rfl 62 rfl ?_
                obtain ⟨v22, hv22, hf⟩ := bn1_e hf
                refine cs_i hX (c9_ones (lkp r [(43, c4)]) (lkp g [(68, c1)]) u h _ hv22) wvX9_ones q_701 (Nat.le_of_ble_eq_true rfl) (Nat.le_of_ble_eq_true rfl) (fun _ => rfl) [] rfl (Nat.le_of_ble_eq_true rfl) dX9_findLot_62 65 rfl ?_
                refine v_iload_n hX dX9_findLot_65 rfl 2 rfl 66 rfl ?_
                obtain ⟨v23, hv23, hf⟩ := bn1_e hf
                refine cs_i hX (c9_ones (lkp r [(43, c4)]) (lkp g [(68, c1)]) u h _ hv23) wvX9_ones q_701 (Nat.le_of_ble_eq_true rfl) (Nat.le_of_ble_eq_true rfl) (fun _ => rfl) [.int v22] rfl (Nat.le_of_ble_eq_true rfl) dX9_findLot_66 69 rfl ?_
                refine v_icmp_ge hX dX9_findLot_69 76 rfl 72 rfl (fun h24 => ?_) (fun h24 => ?_)
                · replace hf := it_p h24 hf
                  refine v_sub [(0, .ref (aX X 52)), (1, .int x2), (2, .int x3), (3, .int v11)] (sbc 1 rfl (sbc 2 rfl (sbc 3 rfl (sbc 0 rfl sbn)))) ?_
                  exact HJ21  hf
                · replace hf := it_n h24 hf
                  refine v_sub [(0, .ref (aX X 52)), (1, .int x2), (2, .int x3), (3, .int v11)] (sbc 1 rfl (sbc 2 rfl (sbc 3 rfl (sbc 0 rfl sbn)))) ?_
                  exact HJ20  hf
        · replace hf := it_n h28 hf
          refine v_goto hX dX9_findLot_32 107 rfl ?_
          exact HJ8 _ _ hf
  refine v_sub [(0, .ref (aX X 52)), (1, .int (-3 : Int32)), (2, .int (0 : Int32))] (sbc 2 rfl (sbc 1 rfl (sbc 0 rfl sbn))) ?_
  exact HLK5 _ _ _ _ hf
set_option maxRecDepth 100000 in
set_option maxHeartbeats 4000000 in
theorem c9_lotWithout (r : Nat → Int32) (g : Nat → Nat → Int32) (u : Nat → Int64) (h : Nat → Nat → Int64) (p1 : Int32) {res : Int32 × Int32 × (Nat → Int32) × (Nat → Int32)} (hf : f9_lotWithout (r 31) (r 43) (r 30) (g 57) (g 55) (g 58) (g 56) (g 68) p1 = some res) : MAi yX9_lotWithout cX9_lotWithout 4 (some .int) 5 (fun a => [.ref (a 52), .int p1]) r g u h res.1 (lkp r [(43, res.2.1)]) (lkp g [(58, res.2.2.1), (68, res.2.2.2)]) u h := by
  refine mi_i (by decide +kernel) (fun a => Nat.le_of_ble_eq_true rfl) (fun X hX hn hR => ?_)
  replace hR : ∀ q : Int32 × Int32 × (Nat → Int32) × (Nat → Int32), some q = some res → ∀ lv pc, decode cX9_lotWithout pc = .ok (.ireturn, 1) → narrow .int (.int q.1) = .int q.1 → VC X (lkp r [(43, q.2.1)]) (lkp g [(58, q.2.2.1), (68, q.2.2.2)]) u h lv [.int q.1] pc := fun q hq => by cases hq; exact hR
  replace hX : CX X RX9 cX9_lotWithout 5 := hX
  refine v_opr [43] [(43, r 43)] rfl ?_
  refine v_opg [58, 68] [(58, g 58), (68, g 68)] rfl ?_
  show VC X (lkp r [(43, r 43)]) (lkp g [(58, g 58), (68, g 68)]) u h [(0, .ref (aX X 52)), (1, .int p1)] [] 0
  rw [f9_lotWithout] at hf
  refine v_aload_n hX dX9_lotWithout_0 rfl 0 rfl 1 rfl ?_
  refine gf_52_7 hX q_108 dX9_lotWithout_1 4 rfl ?_
  refine v_iload_n hX dX9_lotWithout_4 rfl 1 rfl 5 rfl ?_
  obtain ⟨hi1, hf⟩ := gd_e hf
  refine al_58 hX hi1 dX9_lotWithout_5 ((g 58) p1.toNatClampNeg) rfl 6 rfl ?_
  refine v_istore_n hX dX9_lotWithout_6 rfl (ltn hn (by decide)) 7 rfl [(2, .int ((g 58) p1.toNatClampNeg)), (0, .ref (aX X 52)), (1, .int p1)] rfl ?_
  refine v_aload_n hX dX9_lotWithout_7 rfl 1 rfl 8 rfl ?_
  refine gf_52_7 hX q_108 dX9_lotWithout_8 11 rfl ?_
  refine v_iload_n hX dX9_lotWithout_11 rfl 2 rfl 12 rfl ?_
  refine v_iconst (v := (0 : Int32)) hX dX9_lotWithout_12 (by decide) 13 rfl ?_
  obtain ⟨hi2, hf⟩ := gd_e hf
  refine as_58 hX hi2 dX9_lotWithout_13 14 rfl (g 58) rfl [(58, (upd (g 58) p1.toNatClampNeg (0 : Int32))), (68, (g 68))] rfl ?_
  refine v_aload_n hX dX9_lotWithout_14 rfl 1 rfl 15 rfl ?_
  obtain ⟨v3, c4, c5, hv3, hf⟩ := bn3_e hf
  refine cv_i hX (c9_findLot (lkp r [(43, (r 43))]) (lkp g [(58, (upd (g 58) p1.toNatClampNeg (0 : Int32))), (68, (g 68))]) u h hv3) wvX9_findLot q_734 rc_52 (Nat.le_of_ble_eq_true rfl) (Nat.le_of_ble_eq_true rfl) (fun _ => rfl) [] rfl (Nat.le_of_ble_eq_true rfl) dX9_lotWithout_15 18 rfl ?_
  refine v_mgr [(43, c4)] rfl ?_
  refine v_mgg [(58, (upd (g 58) p1.toNatClampNeg (0 : Int32))), (68, c5)] rfl ?_
  refine v_istore_n hX dX9_lotWithout_18 rfl (ltn hn (by decide)) 19 rfl [(3, .int v3), (2, .int ((g 58) p1.toNatClampNeg)), (0, .ref (aX X 52)), (1, .int p1)] rfl ?_
  refine v_aload_n hX dX9_lotWithout_19 rfl 2 rfl 20 rfl ?_
  refine gf_52_7 hX q_108 dX9_lotWithout_20 23 rfl ?_
  refine v_iload_n hX dX9_lotWithout_23 rfl 3 rfl 24 rfl ?_
  refine v_iload_n hX dX9_lotWithout_24 rfl 1 rfl 25 rfl ?_
  obtain ⟨hi6, hf⟩ := gd_e hf
  refine as_58 hX hi6 dX9_lotWithout_25 26 rfl (upd (g 58) p1.toNatClampNeg (0 : Int32)) rfl [(58, (upd (upd (g 58) p1.toNatClampNeg (0 : Int32)) p1.toNatClampNeg ((g 58) p1.toNatClampNeg))), (68, c5)] rfl ?_
  refine v_iload_n hX dX9_lotWithout_26 rfl 0 rfl 27 rfl ?_
  exact hR _ hf _ _ dX9_lotWithout_27 rfl
set_option maxRecDepth 100000 in
set_option maxHeartbeats 4000000 in
theorem c9_hold (r : Nat → Int32) (g : Nat → Nat → Int32) (u : Nat → Int64) (h : Nat → Nat → Int64)  {res : Int32 × Int32 × (Nat → Int32) × (Nat → Int32)} (hf : f9_hold (r 31) (r 43) (r 30) (g 57) (g 55) (g 58) (g 56) (g 68) = some res) : MAi yX9_hold cX9_hold 4 (some .int) 6 (fun a => [.ref (a 52)]) r g u h res.1 (lkp r [(43, res.2.1)]) (lkp g [(58, res.2.2.1), (68, res.2.2.2)]) u h := by
  refine mi_i (by decide +kernel) (fun a => Nat.le_of_ble_eq_true rfl) (fun X hX hn hR => ?_)
  replace hR : ∀ q : Int32 × Int32 × (Nat → Int32) × (Nat → Int32), some q = some res → ∀ lv pc, decode cX9_hold pc = .ok (.ireturn, 1) → narrow .int (.int q.1) = .int q.1 → VC X (lkp r [(43, q.2.1)]) (lkp g [(58, q.2.2.1), (68, q.2.2.2)]) u h lv [.int q.1] pc := fun q hq => by cases hq; exact hR
  replace hX : CX X RX9 cX9_hold 6 := hX
  refine v_opr [43] [(43, r 43)] rfl ?_
  refine v_opg [58, 68] [(58, g 58), (68, g 68)] rfl ?_
  show VC X (lkp r [(43, r 43)]) (lkp g [(58, g 58), (68, g 68)]) u h [(0, .ref (aX X 52))] [] 0
  rw [f9_hold] at hf
  refine v_aload_n hX dX9_hold_0 rfl 0 rfl 1 rfl ?_
  obtain ⟨v1, c2, c3, hv1, hf⟩ := bn3_e hf
  refine cv_i hX (c9_findLot (lkp r [(43, (r 43))]) (lkp g [(58, (g 58)), (68, (g 68))]) u h hv1) wvX9_findLot q_734 rc_52 (Nat.le_of_ble_eq_true rfl) (Nat.le_of_ble_eq_true rfl) (fun _ => rfl) [] rfl (Nat.le_of_ble_eq_true rfl) dX9_hold_1 4 rfl ?_
  refine v_mgr [(43, c2)] rfl ?_
  refine v_mgg [(58, (g 58)), (68, c3)] rfl ?_
  refine v_istore_n hX dX9_hold_4 rfl (ltn hn (by decide)) 5 rfl [(1, .int v1), (0, .ref (aX X 52))] rfl ?_
  refine v_iload_n hX dX9_hold_5 rfl 0 rfl 6 rfl ?_
  refine v_if_ge hX dX9_hold_6 12 rfl 9 rfl (fun h19 => ?_) (fun h19 => ?_)
  · replace hf := it_p h19 hf
    refine v_iconst (v := (0 : Int32)) hX dX9_hold_12 (by decide) 13 rfl ?_
    refine v_istore_n hX dX9_hold_13 rfl (ltn hn (by decide)) 14 rfl [(2, .int (0 : Int32)), (1, .int v1), (0, .ref (aX X 52))] rfl ?_
    refine v_iconst (v := (0 : Int32)) hX dX9_hold_14 (by decide) 15 rfl ?_
    refine v_istore_n hX dX9_hold_15 rfl (ltn hn (by decide)) 16 rfl [(3, .int (0 : Int32)), (2, .int (0 : Int32)), (1, .int v1), (0, .ref (aX X 52))] rfl ?_
    obtain ⟨K9, hK9, hf⟩ := jn_x hf
    have HK9 : ∀ (x4 : Int32) (x5 : Int32) (c6 : Int32) (c7 : (Nat → Int32)) (c8 : (Nat → Int32)), K9 x4 x5 c6 c7 c8 = some res → VC X (lkp r [(43, c6)]) (lkp g [(58, c7), (68, c8)]) u h [(2, .int x4)] [] 46 := by
      intro x4 x5 c6 c7 c8 hf
      rw [hK9] at hf
      refine v_iload_n hX dX9_hold_46 rfl 0 rfl 47 rfl ?_
      exact hR _ hf _ _ dX9_hold_47 rfl
    have HLK9 : ∀ (n10 : Nat) (x4 : Int32) (x5 : Int32) (c6 : Int32) (c7 : (Nat → Int32)) (c8 : (Nat → Int32)), f9_hold_L16 (r 31) (r 30) (g 57) (g 55) (g 56) v1 n10 x4 x5 c6 c7 c8 K9 = some res → VC X (lkp r [(43, c6)]) (lkp g [(58, c7), (68, c8)]) u h [(0, .ref (aX X 52)), (1, .int v1), (2, .int x4), (3, .int x5)] [] 16 := by
      intro n10
      induction n10 with
      | zero => intro x4 x5 c6 c7 c8 hf; exact no_s hf
      | succ n10 ih =>
        intro x4 x5 c6 c7 c8 hf
        rw [f9_hold_L16] at hf
        refine v_iload_n hX dX9_hold_16 rfl 3 rfl 17 rfl ?_
        refine v_iconst (v := (3 : Int32)) hX dX9_hold_17 (by decide) 18 rfl ?_
        refine v_icmp_gt hX dX9_hold_18 46 rfl 21 rfl (fun h18 => ?_) (fun h18 => ?_)
        · replace hf := it_p h18 hf
          refine v_sub [(2, .int x4)] (sbc 2 rfl sbn) ?_
          exact HK9 _ _ _ _ _ hf
        · replace hf := it_n h18 hf
          refine v_iload_n hX dX9_hold_21 rfl 2 rfl 22 rfl ?_
          refine v_aload_n hX dX9_hold_22 rfl 0 rfl 23 rfl ?_
          refine v_iload_n hX dX9_hold_23 rfl 3 rfl 24 rfl ?_
          obtain ⟨v11, c12, c13, c14, hv11, hf⟩ := bn4_e hf
          refine cv_i hX (c9_lotWithout (lkp r [(43, c6)]) (lkp g [(58, c7), (68, c8)]) u h _ hv11) wvX9_lotWithout q_761 rc_52 (Nat.le_of_ble_eq_true rfl) (Nat.le_of_ble_eq_true rfl) (fun _ => rfl) [.int x4] rfl (Nat.le_of_ble_eq_true rfl) dX9_hold_24 27 rfl ?_
          refine v_mgr [(43, c12)] rfl ?_
          refine v_mgg [(58, c13), (68, c14)] rfl ?_
          refine v_iload_n hX dX9_hold_27 rfl 1 rfl 28 rfl ?_
          obtain ⟨J15, hJ15, hf⟩ := jn_x hf
          have HJ15 : ∀ (s16 : Int32), J15 s16 = some res → VC X (lkp r [(43, c12)]) (lkp g [(58, c13), (68, c14)]) u h [(0, .ref (aX X 52)), (1, .int v1), (3, .int x5)] [.int s16, .int x4] 38 := by
            intro s16 hf
            rw [hJ15] at hf
            refine v_ior hX dX9_hold_38 39 rfl ?_
            refine v_istore_n hX dX9_hold_39 rfl (ltn hn (by decide)) 40 rfl [(2, .int (x4 ||| s16)), (0, .ref (aX X 52)), (1, .int v1), (3, .int x5)] rfl ?_
            refine v_inc (c := (1 : Int32)) hX dX9_hold_40 3 rfl (by decide) (ltn hn (by decide)) 43 rfl [(3, .int (x5 + (1 : Int32))), (2, .int (x4 ||| s16)), (0, .ref (aX X 52)), (1, .int v1)] rfl ?_
            refine v_goto hX dX9_hold_43 16 rfl ?_
            refine v_sub [(0, .ref (aX X 52)), (1, .int v1), (2, .int (x4 ||| s16)), (3, .int (x5 + (1 : Int32)))] (sbc 2 rfl (sbc 3 rfl (sbc 1 rfl (sbc 0 rfl sbn)))) ?_
            exact ih _ _ _ _ _ hf
          refine v_icmp_ne hX dX9_hold_28 37 rfl 31 rfl (fun h17 => ?_) (fun h17 => ?_)
          · replace hf := it_n h17 hf
            refine v_iconst (v := (0 : Int32)) hX dX9_hold_37 (by decide) 38 rfl ?_
            refine v_sub [(0, .ref (aX X 52)), (1, .int v1), (3, .int x5)] (sbc 0 rfl (sbc 1 rfl (sbc 3 rfl sbn))) ?_
            exact HJ15 _ hf
          · replace hf := it_p h17 hf
            refine v_iconst (v := (1 : Int32)) hX dX9_hold_31 (by decide) 32 rfl ?_
            refine v_iload_n hX dX9_hold_32 rfl 3 rfl 33 rfl ?_
            refine v_ishl hX dX9_hold_33 34 rfl ?_
            refine v_goto hX dX9_hold_34 38 rfl ?_
            refine v_sub [(0, .ref (aX X 52)), (1, .int v1), (3, .int x5)] (sbc 0 rfl (sbc 1 rfl (sbc 3 rfl sbn))) ?_
            exact HJ15 _ hf
    refine v_sub [(0, .ref (aX X 52)), (1, .int v1), (2, .int (0 : Int32)), (3, .int (0 : Int32))] (sbc 3 rfl (sbc 2 rfl (sbc 1 rfl (sbc 0 rfl sbn)))) ?_
    exact HLK9 _ _ _ _ _ _ hf
  · replace hf := it_n h19 hf
    refine v_bipush (v := (-3 : Int32)) hX dX9_hold_9 (by decide) 11 rfl ?_
    exact hR _ hf _ _ dX9_hold_11 rfl
set_option maxRecDepth 100000 in
set_option maxHeartbeats 4000000 in
theorem c9_lacksSort (r : Nat → Int32) (g : Nat → Nat → Int32) (u : Nat → Int64) (h : Nat → Nat → Int64) (p1 : Int32) (p2 : Int32) {res : Int32} (hf : f9_lacksSort (g 74) p1 p2 = some res) : MAi yX9_lacksSort cX9_lacksSort 3 (some .int) 0 (fun a => [.ref (a 52), .int p1, .int p2]) r g u h res r g u h := by
  refine mi_i (by decide +kernel) (fun a => Nat.le_of_ble_eq_true rfl) (fun X hX hn hR => ?_)
  replace hR : ∀ q : Int32, some q = some res → ∀ lv pc, decode cX9_lacksSort pc = .ok (.ireturn, 1) → narrow .int (.int q) = .int q → VC X r g u h lv [.int q] pc := fun q hq => by cases hq; exact hR
  replace hX : CX X RX9 cX9_lacksSort 0 := hX
  show VC X r g u h [(0, .ref (aX X 52)), (1, .int p1), (2, .int p2)] [] 0
  rw [f9_lacksSort] at hf
  refine v_aload_n hX dX9_lacksSort_0 rfl 0 rfl 1 rfl ?_
  refine gf_52_40 hX q_125 dX9_lacksSort_1 4 rfl ?_
  refine v_iload_n hX dX9_lacksSort_4 rfl 1 rfl 5 rfl ?_
  obtain ⟨hi1, hf⟩ := gd_e hf
  refine al_74 hX hi1 dX9_lacksSort_5 ((g 74) p1.toNatClampNeg) rfl 6 rfl ?_
  refine v_if_ge hX dX9_lacksSort_6 14 rfl 9 rfl (fun h4 => ?_) (fun h4 => ?_)
  · replace hf := it_p h4 hf
    refine v_aload_n hX dX9_lacksSort_14 rfl 0 rfl 15 rfl ?_
    refine gf_52_40 hX q_125 dX9_lacksSort_15 18 rfl ?_
    refine v_iload_n hX dX9_lacksSort_18 rfl 1 rfl 19 rfl ?_
    obtain ⟨hi2, hf⟩ := gd_e hf
    refine al_74 hX hi2 dX9_lacksSort_19 ((g 74) p1.toNatClampNeg) rfl 20 rfl ?_
    refine v_iload_n hX dX9_lacksSort_20 rfl 2 rfl 21 rfl ?_
    refine v_icmp_eq hX dX9_lacksSort_21 29 rfl 24 rfl (fun h3 => ?_) (fun h3 => ?_)
    · replace hf := it_p h3 hf
      refine v_iconst (v := (0 : Int32)) hX dX9_lacksSort_29 (by decide) 30 rfl ?_
      exact hR _ hf _ _ dX9_lacksSort_30 rfl
    · replace hf := it_n h3 hf
      refine v_bipush (v := (-13 : Int32)) hX dX9_lacksSort_24 (by decide) 26 rfl ?_
      refine v_goto hX dX9_lacksSort_26 30 rfl ?_
      exact hR _ hf _ _ dX9_lacksSort_30 rfl
  · replace hf := it_n h4 hf
    refine v_bipush (v := (-11 : Int32)) hX dX9_lacksSort_9 (by decide) 11 rfl ?_
    refine v_goto hX dX9_lacksSort_11 30 rfl ?_
    exact hR _ hf _ _ dX9_lacksSort_30 rfl
set_option maxRecDepth 100000 in
set_option maxHeartbeats 4000000 in
theorem c9_item (r : Nat → Int32) (g : Nat → Nat → Int32) (u : Nat → Int64) (h : Nat → Nat → Int64) (p1 : Int32) (p2 : Int32) (p3 : Int32) {res : Int32} (hf : f9_item (g 75) (g 74) (h 76) p1 p2 p3 = some res) : MAi yX9_item cX9_item 5 (some .int) 2 (fun a => [.ref (a 52), .int p1, .int p2, .int p3]) r g u h res r g u h := by
  refine mi_i (by decide +kernel) (fun a => Nat.le_of_ble_eq_true rfl) (fun X hX hn hR => ?_)
  replace hR : ∀ q : Int32, some q = some res → ∀ lv pc, decode cX9_item pc = .ok (.ireturn, 1) → narrow .int (.int q) = .int q → VC X r g u h lv [.int q] pc := fun q hq => by cases hq; exact hR
  replace hX : CX X RX9 cX9_item 2 := hX
  show VC X r g u h [(0, .ref (aX X 52)), (1, .int p1), (2, .int p2), (3, .int p3)] [] 0
  rw [f9_item] at hf
  refine v_iload_n hX dX9_item_0 rfl 1 rfl 1 rfl ?_
  obtain ⟨v1, hv1, hf⟩ := bn1_e hf
  refine cs_i hX (c9_isShelf r g u h _ hv1) wvX9_isShelf q_1028 (Nat.le_of_ble_eq_true rfl) (Nat.le_of_ble_eq_true rfl) (fun _ => rfl) [] rfl (Nat.le_of_ble_eq_true rfl) dX9_item_1 4 rfl ?_
  refine v_if_eq hX dX9_item_4 16 rfl 7 rfl (fun h10 => ?_) (fun h10 => ?_)
  · replace hf := it_p h10 hf
    refine v_iconst (v := (-1 : Int32)) hX dX9_item_16 (by decide) 17 rfl ?_
    exact hR _ hf _ _ dX9_item_17 rfl
  · replace hf := it_n h10 hf
    refine v_iload_n hX dX9_item_7 rfl 2 rfl 8 rfl ?_
    refine v_iconst (v := (0 : Int32)) hX dX9_item_8 (by decide) 9 rfl ?_
    refine v_iconst (v := (3 : Int32)) hX dX9_item_9 (by decide) 10 rfl ?_
    obtain ⟨v2, hv2, hf⟩ := bn1_e hf
    refine cs_i hX (c9_in r g u h _ _ _ hv2) wvX9_in q_150 (Nat.le_of_ble_eq_true rfl) (Nat.le_of_ble_eq_true rfl) (fun _ => rfl) [] rfl (Nat.le_of_ble_eq_true rfl) dX9_item_10 13 rfl ?_
    refine v_if_ne hX dX9_item_13 18 rfl 16 rfl (fun h9 => ?_) (fun h9 => ?_)
    · replace hf := it_n h9 hf
      refine v_aload_n hX dX9_item_18 rfl 0 rfl 19 rfl ?_
      refine v_iload_n hX dX9_item_19 rfl 1 rfl 20 rfl ?_
      refine v_iload_n hX dX9_item_20 rfl 2 rfl 21 rfl ?_
      obtain ⟨v3, hv3, hf⟩ := bn1_e hf
      refine cv_i hX (c9_lacksSort r g u h _ _ hv3) wvX9_lacksSort q_1066 rc_52 (Nat.le_of_ble_eq_true rfl) (Nat.le_of_ble_eq_true rfl) (fun _ => rfl) [] rfl (Nat.le_of_ble_eq_true rfl) dX9_item_21 24 rfl ?_
      refine v_istore hX dX9_item_24 (ltn hn (by decide)) 26 rfl [(4, .int v3), (0, .ref (aX X 52)), (1, .int p1), (2, .int p2), (3, .int p3)] rfl ?_
      refine v_iload hX dX9_item_26 0 rfl 28 rfl ?_
      refine v_if_eq hX dX9_item_28 34 rfl 31 rfl (fun h8 => ?_) (fun h8 => ?_)
      · replace hf := it_p h8 hf
        refine v_iload_n hX dX9_item_34 rfl 4 rfl 35 rfl ?_
        refine v_iconst (v := (0 : Int32)) hX dX9_item_35 (by decide) 36 rfl ?_
        refine v_aload_n hX dX9_item_36 rfl 1 rfl 37 rfl ?_
        refine gf_52_41 hX q_126 dX9_item_37 40 rfl ?_
        refine v_iload_n hX dX9_item_40 rfl 2 rfl 41 rfl ?_
        obtain ⟨hi4, hf⟩ := gd_e hf
        refine al_75 hX hi4 dX9_item_41 ((g 75) p1.toNatClampNeg) rfl 42 rfl ?_
        refine v_iconst (v := (1 : Int32)) hX dX9_item_42 (by decide) 43 rfl ?_
        refine v_isub hX dX9_item_43 44 rfl ?_
        obtain ⟨v5, hv5, hf⟩ := bn1_e hf
        refine cs_i hX (c9_in r g u h _ _ _ hv5) wvX9_in q_150 (Nat.le_of_ble_eq_true rfl) (Nat.le_of_ble_eq_true rfl) (fun _ => rfl) [] rfl (Nat.le_of_ble_eq_true rfl) dX9_item_44 47 rfl ?_
        refine v_if_eq hX dX9_item_47 65 rfl 50 rfl (fun h7 => ?_) (fun h7 => ?_)
        · replace hf := it_p h7 hf
          refine v_bipush (v := (-12 : Int32)) hX dX9_item_65 (by decide) 67 rfl ?_
          exact hR _ hf _ _ dX9_item_67 rfl
        · replace hf := it_n h7 hf
          refine v_aload_n hX dX9_item_50 rfl 1 rfl 51 rfl ?_
          refine gf_52_42 hX q_127 dX9_item_51 54 rfl ?_
          refine v_bipush (v := (40 : Int32)) hX dX9_item_54 (by decide) 56 rfl ?_
          refine v_iload_n hX dX9_item_56 rfl 2 rfl 57 rfl ?_
          refine v_imul hX dX9_item_57 58 rfl ?_
          refine v_iload_n hX dX9_item_58 rfl 4 rfl 59 rfl ?_
          refine v_iadd hX dX9_item_59 60 rfl ?_
          obtain ⟨hi6, hf⟩ := gd_e hf
          refine al_76 hX hi6 dX9_item_60 ((h 76) (((40 : Int32) * p1) + p3).toNatClampNeg) rfl 61 rfl ?_
          refine v_l2i hX dX9_item_61 62 rfl ?_
          refine v_goto hX dX9_item_62 67 rfl ?_
          exact hR _ hf _ _ dX9_item_67 rfl
      · replace hf := it_n h8 hf
        refine v_iload hX dX9_item_31 0 rfl 33 rfl ?_
        exact hR _ hf _ _ dX9_item_33 rfl
    · replace hf := it_p h9 hf
      refine v_iconst (v := (-1 : Int32)) hX dX9_item_16 (by decide) 17 rfl ?_
      exact hR _ hf _ _ dX9_item_17 rfl
set_option maxRecDepth 100000 in
set_option maxHeartbeats 4000000 in
theorem c9_isPerson (r : Nat → Int32) (g : Nat → Nat → Int32) (u : Nat → Int64) (h : Nat → Nat → Int64) (p1 : Int32) {res : Int32} (hf : f9_isPerson (r 30) p1 = some res) : MAi yX9_isPerson cX9_isPerson 2 (some .boolean) 1 (fun a => [.ref (a 52), .int p1]) r g u h res r g u h := by
  refine mi_i (by decide +kernel) (fun a => Nat.le_of_ble_eq_true rfl) (fun X hX hn hR => ?_)
  replace hR : ∀ q : Int32, some q = some res → ∀ lv pc, decode cX9_isPerson pc = .ok (.ireturn, 1) → narrow .boolean (.int q) = .int q → VC X r g u h lv [.int q] pc := fun q hq => by cases hq; exact hR
  replace hX : CX X RX9 cX9_isPerson 1 := hX
  show VC X r g u h [(0, .ref (aX X 52)), (1, .int p1)] [] 0
  rw [f9_isPerson] at hf
  refine v_iload_n hX dX9_isPerson_0 rfl 1 rfl 1 rfl ?_
  refine v_iconst (v := (0 : Int32)) hX dX9_isPerson_1 (by decide) 2 rfl ?_
  refine v_aload_n hX dX9_isPerson_2 rfl 0 rfl 3 rfl ?_
  refine gf_52_1 hX q_409 dX9_isPerson_3 ((r 30)) rfl 6 rfl ?_
  refine v_iconst (v := (1 : Int32)) hX dX9_isPerson_6 (by decide) 7 rfl ?_
  refine v_isub hX dX9_isPerson_7 8 rfl ?_
  obtain ⟨v1, hv1, hf⟩ := bn1_e hf
  refine cs_i hX (c9_in r g u h _ _ _ hv1) wvX9_in q_150 (Nat.le_of_ble_eq_true rfl) (Nat.le_of_ble_eq_true rfl) (fun _ => rfl) [] rfl (Nat.le_of_ble_eq_true rfl) dX9_isPerson_8 11 rfl ?_
  obtain ⟨hb2, hf⟩ := gd_e hf
  exact hR _ hf _ _ dX9_isPerson_11 (bz_nar hb2)
set_option maxRecDepth 100000 in
set_option maxHeartbeats 4000000 in
theorem c9_join (r : Nat → Int32) (g : Nat → Nat → Int32) (u : Nat → Int64) (h : Nat → Nat → Int64) (p1 : Int32) (p2 : Int32) {res : Int32 × (Nat → Int32)} (hf : f9_join (r 30) (g 56) p1 p2 = some res) : MAi yX9_join cX9_join 6 (some .int) 2 (fun a => [.ref (a 52), .int p1, .int p2]) r g u h res.1 r (lkp g [(56, res.2)]) u h := by
  refine mi_i (by decide +kernel) (fun a => Nat.le_of_ble_eq_true rfl) (fun X hX hn hR => ?_)
  replace hR : ∀ q : Int32 × (Nat → Int32), some q = some res → ∀ lv pc, decode cX9_join pc = .ok (.ireturn, 1) → narrow .int (.int q.1) = .int q.1 → VC X r (lkp g [(56, q.2)]) u h lv [.int q.1] pc := fun q hq => by cases hq; exact hR
  replace hX : CX X RX9 cX9_join 2 := hX
  refine v_opg [56] [(56, g 56)] rfl ?_
  show VC X r (lkp g [(56, g 56)]) u h [(0, .ref (aX X 52)), (1, .int p1), (2, .int p2)] [] 0
  rw [f9_join] at hf
  refine v_aload_n hX dX9_join_0 rfl 0 rfl 1 rfl ?_
  refine v_iload_n hX dX9_join_1 rfl 1 rfl 2 rfl ?_
  obtain ⟨v1, hv1, hf⟩ := bn1_e hf
  refine cv_i hX (c9_isPerson r (lkp g [(56, (g 56))]) u h _ hv1) wvX9_isPerson q_450 rc_52 (Nat.le_of_ble_eq_true rfl) (Nat.le_of_ble_eq_true rfl) (fun _ => rfl) [] rfl (Nat.le_of_ble_eq_true rfl) dX9_join_2 5 rfl ?_
  refine v_if_eq hX dX9_join_5 16 rfl 8 rfl (fun h22 => ?_) (fun h22 => ?_)
  · replace hf := it_p h22 hf
    refine v_iconst (v := (-1 : Int32)) hX dX9_join_16 (by decide) 17 rfl ?_
    exact hR _ hf _ _ dX9_join_17 rfl
  · replace hf := it_n h22 hf
    refine v_aload_n hX dX9_join_8 rfl 0 rfl 9 rfl ?_
    refine v_iload_n hX dX9_join_9 rfl 2 rfl 10 rfl ?_
    obtain ⟨v2, hv2, hf⟩ := bn1_e hf
    refine cv_i hX (c9_isPerson r (lkp g [(56, (g 56))]) u h _ hv2) wvX9_isPerson q_450 rc_52 (Nat.le_of_ble_eq_true rfl) (Nat.le_of_ble_eq_true rfl) (fun _ => rfl) [] rfl (Nat.le_of_ble_eq_true rfl) dX9_join_10 13 rfl ?_
    refine v_if_ne hX dX9_join_13 18 rfl 16 rfl (fun h21 => ?_) (fun h21 => ?_)
    · replace hf := it_n h21 hf
      refine v_aload_n hX dX9_join_18 rfl 0 rfl 19 rfl ?_
      refine gf_52_4 hX q_106 dX9_join_19 22 rfl ?_
      refine v_iload_n hX dX9_join_22 rfl 1 rfl 23 rfl ?_
      obtain ⟨hi3, hf⟩ := gd_e hf
      refine al_56 hX hi3 dX9_join_23 ((g 56) p1.toNatClampNeg) rfl 24 rfl ?_
      refine v_istore_n hX dX9_join_24 rfl (ltn hn (by decide)) 25 rfl [(3, .int ((g 56) p1.toNatClampNeg)), (0, .ref (aX X 52)), (1, .int p1), (2, .int p2)] rfl ?_
      refine v_aload_n hX dX9_join_25 rfl 1 rfl 26 rfl ?_
      refine gf_52_4 hX q_106 dX9_join_26 29 rfl ?_
      refine v_iload_n hX dX9_join_29 rfl 3 rfl 30 rfl ?_
      obtain ⟨hi4, hf⟩ := gd_e hf
      refine al_56 hX hi4 dX9_join_30 ((g 56) p2.toNatClampNeg) rfl 31 rfl ?_
      refine v_istore hX dX9_join_31 (ltn hn (by decide)) 33 rfl [(4, .int ((g 56) p2.toNatClampNeg)), (3, .int ((g 56) p1.toNatClampNeg)), (0, .ref (aX X 52)), (1, .int p1), (2, .int p2)] rfl ?_
      refine v_iload_n hX dX9_join_33 rfl 1 rfl 34 rfl ?_
      refine v_iload hX dX9_join_34 0 rfl 36 rfl ?_
      refine v_icmp_ne hX dX9_join_36 41 rfl 39 rfl (fun h20 => ?_) (fun h20 => ?_)
      · replace hf := it_n h20 hf
        refine v_iconst (v := (0 : Int32)) hX dX9_join_41 (by decide) 42 rfl ?_
        refine v_istore hX dX9_join_42 (ltn hn (by decide)) 44 rfl [(5, .int (0 : Int32)), (4, .int ((g 56) p2.toNatClampNeg)), (3, .int ((g 56) p1.toNatClampNeg)), (0, .ref (aX X 52)), (1, .int p1), (2, .int p2)] rfl ?_
        obtain ⟨K7, hK7, hf⟩ := jn_x hf
        have HK7 : ∀ (x5 : Int32) (c6 : (Nat → Int32)), K7 x5 c6 = some res → VC X r (lkp g [(56, c6)]) u h [] [] 111 := by
          intro x5 c6 hf
          rw [hK7] at hf
          refine v_iconst (v := (1 : Int32)) hX dX9_join_111 (by decide) 112 rfl ?_
          exact hR _ hf _ _ dX9_join_112 rfl
        have HLK7 : ∀ (n8 : Nat) (x5 : Int32) (c6 : (Nat → Int32)), f9_join_L44 (r 30) (g 56) p1 p2 n8 x5 c6 K7 = some res → VC X r (lkp g [(56, c6)]) u h [(0, .ref (aX X 52)), (3, .int ((g 56) p1.toNatClampNeg)), (4, .int ((g 56) p2.toNatClampNeg)), (5, .int x5)] [] 44 := by
          intro n8
          induction n8 with
          | zero => intro x5 c6 hf; exact no_s hf
          | succ n8 ih =>
            intro x5 c6 hf
            rw [f9_join_L44] at hf
            refine v_iload hX dX9_join_44 3 rfl 46 rfl ?_
            refine v_aload_n hX dX9_join_46 rfl 0 rfl 47 rfl ?_
            refine gf_52_1 hX q_409 dX9_join_47 ((r 30)) rfl 50 rfl ?_
            refine v_icmp_ge hX dX9_join_50 111 rfl 53 rfl (fun h19 => ?_) (fun h19 => ?_)
            · replace hf := it_p h19 hf
              refine v_sub [] sbn ?_
              exact HK7 _ _ hf
            · replace hf := it_n h19 hf
              refine v_aload_n hX dX9_join_53 rfl 0 rfl 54 rfl ?_
              refine gf_52_4 hX q_106 dX9_join_54 57 rfl ?_
              refine v_iload hX dX9_join_57 3 rfl 59 rfl ?_
              refine v_aload_n hX dX9_join_59 rfl 0 rfl 60 rfl ?_
              refine gf_52_4 hX q_106 dX9_join_60 63 rfl ?_
              refine v_iload hX dX9_join_63 3 rfl 65 rfl ?_
              obtain ⟨hi9, hf⟩ := gd_e hf
              refine al_56 hX hi9 dX9_join_65 (c6 x5.toNatClampNeg) rfl 66 rfl ?_
              refine v_iload_n hX dX9_join_66 rfl 1 rfl 67 rfl ?_
              obtain ⟨J10, hJ10, hf⟩ := jn_x hf
              have HJ10 : ∀ (s11 : Int32), J10 s11 = some res → VC X r (lkp g [(56, c6)]) u h [(0, .ref (aX X 52)), (3, .int ((g 56) p1.toNatClampNeg)), (4, .int ((g 56) p2.toNatClampNeg)), (5, .int x5)] [.int s11, .int x5, .ref (aX X 56)] 104 := by
                intro s11 hf
                rw [hJ10] at hf
                obtain ⟨hi12, hf⟩ := gd_e hf
                refine as_56 hX hi12 dX9_join_104 105 rfl c6 rfl [(56, (upd c6 x5.toNatClampNeg s11))] rfl ?_
                refine v_inc (c := (1 : Int32)) hX dX9_join_105 3 rfl (by decide) (ltn hn (by decide)) 108 rfl [(5, .int (x5 + (1 : Int32))), (0, .ref (aX X 52)), (3, .int ((g 56) p1.toNatClampNeg)), (4, .int ((g 56) p2.toNatClampNeg))] rfl ?_
                refine v_goto hX dX9_join_108 44 rfl ?_
                refine v_sub [(0, .ref (aX X 52)), (3, .int ((g 56) p1.toNatClampNeg)), (4, .int ((g 56) p2.toNatClampNeg)), (5, .int (x5 + (1 : Int32)))] (sbc 1 rfl (sbc 2 rfl (sbc 3 rfl (sbc 0 rfl sbn)))) ?_
                exact ih _ _ hf
              obtain ⟨J13, hJ13, hf⟩ := jn_x hf
              have HJ13 : J13 = some res → VC X r (lkp g [(56, c6)]) u h [(0, .ref (aX X 52)), (3, .int ((g 56) p1.toNatClampNeg)), (4, .int ((g 56) p2.toNatClampNeg)), (5, .int x5)] [.int x5, .ref (aX X 56)] 82 := by
                intro hf
                rw [hJ13] at hf
                refine v_iload_n hX dX9_join_82 rfl 1 rfl 83 rfl ?_
                refine v_iload hX dX9_join_83 2 rfl 85 rfl ?_
                refine v_icmp_ge hX dX9_join_85 92 rfl 88 rfl (fun h14 => ?_) (fun h14 => ?_)
                · replace hf := it_p h14 hf
                  refine v_iload hX dX9_join_92 2 rfl 94 rfl ?_
                  refine v_goto hX dX9_join_94 104 rfl ?_
                  exact HJ10 _ hf
                · replace hf := it_n h14 hf
                  refine v_iload_n hX dX9_join_88 rfl 1 rfl 89 rfl ?_
                  refine v_goto hX dX9_join_89 104 rfl ?_
                  exact HJ10 _ hf
              refine v_icmp_eq hX dX9_join_67 82 rfl 70 rfl (fun h18 => ?_) (fun h18 => ?_)
              · replace hf := it_p h18 hf
                exact HJ13  hf
              · replace hf := it_n h18 hf
                refine v_aload_n hX dX9_join_70 rfl 0 rfl 71 rfl ?_
                refine gf_52_4 hX q_106 dX9_join_71 74 rfl ?_
                refine v_iload hX dX9_join_74 3 rfl 76 rfl ?_
                obtain ⟨hi15, hf⟩ := gd_e hf
                refine al_56 hX hi15 dX9_join_76 (c6 x5.toNatClampNeg) rfl 77 rfl ?_
                refine v_iload hX dX9_join_77 2 rfl 79 rfl ?_
                refine v_icmp_ne hX dX9_join_79 97 rfl 82 rfl (fun h17 => ?_) (fun h17 => ?_)
                · replace hf := it_n h17 hf
                  refine v_aload_n hX dX9_join_97 rfl 0 rfl 98 rfl ?_
                  refine gf_52_4 hX q_106 dX9_join_98 101 rfl ?_
                  refine v_iload hX dX9_join_101 3 rfl 103 rfl ?_
                  obtain ⟨hi16, hf⟩ := gd_e hf
                  refine al_56 hX hi16 dX9_join_103 (c6 x5.toNatClampNeg) rfl 104 rfl ?_
                  exact HJ10 _ hf
                · replace hf := it_p h17 hf
                  exact HJ13  hf
        refine v_sub [(0, .ref (aX X 52)), (3, .int ((g 56) p1.toNatClampNeg)), (4, .int ((g 56) p2.toNatClampNeg)), (5, .int (0 : Int32))] (sbc 3 rfl (sbc 2 rfl (sbc 1 rfl (sbc 0 rfl sbn)))) ?_
        exact HLK7 _ _ _ hf
      · replace hf := it_p h20 hf
        refine v_iconst (v := (0 : Int32)) hX dX9_join_39 (by decide) 40 rfl ?_
        exact hR _ hf _ _ dX9_join_40 rfl
    · replace hf := it_p h21 hf
      refine v_iconst (v := (-1 : Int32)) hX dX9_join_16 (by decide) 17 rfl ?_
      exact hR _ hf _ _ dX9_join_17 rfl
set_option maxRecDepth 100000 in
set_option maxHeartbeats 4000000 in
theorem c9_findRows (r : Nat → Int32) (g : Nat → Nat → Int32) (u : Nat → Int64) (h : Nat → Nat → Int64)  {res : Int32 × Int32 × Int32 × (Nat → Int32) × (Nat → Int32)} (hf : f9_findRows (r 31) (r 43) (r 45) (r 30) (g 57) (g 55) (g 58) (g 73) (g 56) (g 68) = some res) : MAi yX9_findRows cX9_findRows 4 (some .boolean) 5 (fun a => [.ref (a 52)]) r g u h res.1 (lkp r [(43, res.2.1), (45, res.2.2.1)]) (lkp g [(73, res.2.2.2.1), (68, res.2.2.2.2)]) u h := by
  refine mi_i (by decide +kernel) (fun a => Nat.le_of_ble_eq_true rfl) (fun X hX hn hR => ?_)
  replace hR : ∀ q : Int32 × Int32 × Int32 × (Nat → Int32) × (Nat → Int32), some q = some res → ∀ lv pc, decode cX9_findRows pc = .ok (.ireturn, 1) → narrow .boolean (.int q.1) = .int q.1 → VC X (lkp r [(43, q.2.1), (45, q.2.2.1)]) (lkp g [(73, q.2.2.2.1), (68, q.2.2.2.2)]) u h lv [.int q.1] pc := fun q hq => by cases hq; exact hR
  replace hX : CX X RX9 cX9_findRows 5 := hX
  refine v_opr [43, 45] [(43, r 43), (45, r 45)] rfl ?_
  refine v_opg [73, 68] [(73, g 73), (68, g 68)] rfl ?_
  show VC X (lkp r [(43, r 43), (45, r 45)]) (lkp g [(73, g 73), (68, g 68)]) u h [(0, .ref (aX X 52))] [] 0
  rw [f9_findRows] at hf
  refine v_aload_n hX dX9_findRows_0 rfl 0 rfl 1 rfl ?_
  obtain ⟨v1, c2, c3, hv1, hf⟩ := bn3_e hf
  refine cv_i hX (c9_findLot (lkp r [(43, (r 43)), (45, (r 45))]) (lkp g [(73, (g 73)), (68, (g 68))]) u h hv1) wvX9_findLot q_734 rc_52 (Nat.le_of_ble_eq_true rfl) (Nat.le_of_ble_eq_true rfl) (fun _ => rfl) [] rfl (Nat.le_of_ble_eq_true rfl) dX9_findRows_1 4 rfl ?_
  refine v_mgr [(43, c2), (45, (r 45))] rfl ?_
  refine v_mgg [(73, (g 73)), (68, c3)] rfl ?_
  refine v_istore_n hX dX9_findRows_4 rfl (ltn hn (by decide)) 5 rfl [(1, .int v1), (0, .ref (aX X 52))] rfl ?_
  refine v_aload_n hX dX9_findRows_5 rfl 1 rfl 6 rfl ?_
  refine v_iconst (v := (0 : Int32)) hX dX9_findRows_6 (by decide) 7 rfl ?_
  refine pf_52_39 hX q_959 dX9_findRows_7 10 rfl [(43, c2), (45, (0 : Int32))] rfl ?_
  refine v_iconst (v := (0 : Int32)) hX dX9_findRows_10 (by decide) 11 rfl ?_
  refine v_istore_n hX dX9_findRows_11 rfl (ltn hn (by decide)) 12 rfl [(2, .int (0 : Int32)), (1, .int v1), (0, .ref (aX X 52))] rfl ?_
  obtain ⟨K7, hK7, hf⟩ := jn_x hf
  have HK7 : ∀ (x4 : Int32) (c5 : Int32) (c6 : (Nat → Int32)), K7 x4 c5 c6 = some res → VC X (lkp r [(43, c2), (45, c5)]) (lkp g [(73, c6), (68, c3)]) u h [(1, .int v1)] [] 140 := by
    intro x4 c5 c6 hf
    rw [hK7] at hf
    refine v_iload_n hX dX9_findRows_140 rfl 0 rfl 141 rfl ?_
    refine v_if_lt hX dX9_findRows_141 148 rfl 144 rfl (fun h28 => ?_) (fun h28 => ?_)
    · replace hf := it_p h28 hf
      refine v_iconst (v := (0 : Int32)) hX dX9_findRows_148 (by decide) 149 rfl ?_
      exact hR _ hf _ _ dX9_findRows_149 (bz_nar (v := (0 : Int32)) (by decide))
    · replace hf := it_n h28 hf
      refine v_iconst (v := (1 : Int32)) hX dX9_findRows_144 (by decide) 145 rfl ?_
      refine v_goto hX dX9_findRows_145 149 rfl ?_
      exact hR _ hf _ _ dX9_findRows_149 (bz_nar (v := (1 : Int32)) (by decide))
  have HLK7 : ∀ (n8 : Nat) (x4 : Int32) (c5 : Int32) (c6 : (Nat → Int32)), f9_findRows_L12 (r 31) v1 c3 n8 x4 c5 c6 K7 = some res → VC X (lkp r [(43, c2), (45, c5)]) (lkp g [(73, c6), (68, c3)]) u h [(0, .ref (aX X 52)), (1, .int v1), (2, .int x4)] [] 12 := by
    intro n8
    induction n8 with
    | zero => intro x4 c5 c6 hf; exact no_s hf
    | succ n8 ih =>
      intro x4 c5 c6 hf
      rw [f9_findRows_L12] at hf
      refine v_iload_n hX dX9_findRows_12 rfl 2 rfl 13 rfl ?_
      refine v_aload_n hX dX9_findRows_13 rfl 0 rfl 14 rfl ?_
      refine gf_52_5 hX q_462 dX9_findRows_14 ((r 31)) rfl 17 rfl ?_
      refine v_icmp_ge hX dX9_findRows_17 140 rfl 20 rfl (fun h27 => ?_) (fun h27 => ?_)
      · replace hf := it_p h27 hf
        refine v_sub [(1, .int v1)] (sbc 1 rfl sbn) ?_
        exact HK7 _ _ _ hf
      · replace hf := it_n h27 hf
        refine v_iload_n hX dX9_findRows_20 rfl 1 rfl 21 rfl ?_
        refine v_if_lt hX dX9_findRows_21 140 rfl 24 rfl (fun h26 => ?_) (fun h26 => ?_)
        · replace hf := it_p h26 hf
          refine v_sub [(1, .int v1)] (sbc 1 rfl sbn) ?_
          exact HK7 _ _ _ hf
        · replace hf := it_n h26 hf
          refine v_iload_n hX dX9_findRows_24 rfl 2 rfl 25 rfl ?_
          refine v_iconst (v := (1 : Int32)) hX dX9_findRows_25 (by decide) 26 rfl ?_
          refine v_iadd hX dX9_findRows_26 27 rfl ?_
          refine v_istore_n hX dX9_findRows_27 rfl (ltn hn (by decide)) 28 rfl [(3, .int (x4 + (1 : Int32))), (0, .ref (aX X 52)), (1, .int v1), (2, .int x4)] rfl ?_
          obtain ⟨K12, hK12, hf⟩ := jn_x hf
          have HK12 : ∀ (x9 : Int32) (c10 : Int32) (c11 : (Nat → Int32)), K12 x9 c10 c11 = some res → VC X (lkp r [(43, c2), (45, c10)]) (lkp g [(73, c11), (68, c3)]) u h [(0, .ref (aX X 52)), (1, .int v1), (2, .int x4)] [] 134 := by
            intro x9 c10 c11 hf
            rw [hK12] at hf
            refine v_inc (c := (1 : Int32)) hX dX9_findRows_134 2 rfl (by decide) (ltn hn (by decide)) 137 rfl [(2, .int (x4 + (1 : Int32))), (0, .ref (aX X 52)), (1, .int v1)] rfl ?_
            refine v_goto hX dX9_findRows_137 12 rfl ?_
            refine v_sub [(0, .ref (aX X 52)), (1, .int v1), (2, .int (x4 + (1 : Int32)))] (sbc 1 rfl (sbc 2 rfl (sbc 0 rfl sbn))) ?_
            exact ih _ _ _ hf
          have HLK12 : ∀ (n13 : Nat) (x9 : Int32) (c10 : Int32) (c11 : (Nat → Int32)), f9_findRows_L28 (r 31) v1 c3 x4 n13 x9 c10 c11 K12 = some res → VC X (lkp r [(43, c2), (45, c10)]) (lkp g [(73, c11), (68, c3)]) u h [(0, .ref (aX X 52)), (1, .int v1), (2, .int x4), (3, .int x9)] [] 28 := by
            intro n13
            induction n13 with
            | zero => intro x9 c10 c11 hf; exact no_s hf
            | succ n13 ih =>
              intro x9 c10 c11 hf
              rw [f9_findRows_L28] at hf
              refine v_iload_n hX dX9_findRows_28 rfl 3 rfl 29 rfl ?_
              refine v_aload_n hX dX9_findRows_29 rfl 0 rfl 30 rfl ?_
              refine gf_52_5 hX q_462 dX9_findRows_30 ((r 31)) rfl 33 rfl ?_
              refine v_icmp_ge hX dX9_findRows_33 134 rfl 36 rfl (fun h25 => ?_) (fun h25 => ?_)
              · replace hf := it_p h25 hf
                refine v_sub [(0, .ref (aX X 52)), (1, .int v1), (2, .int x4)] (sbc 0 rfl (sbc 1 rfl (sbc 2 rfl sbn))) ?_
                exact HK12 _ _ _ hf
              · replace hf := it_n h25 hf
                refine v_iload_n hX dX9_findRows_36 rfl 1 rfl 37 rfl ?_
                refine v_iload_n hX dX9_findRows_37 rfl 2 rfl 38 rfl ?_
                refine v_ishr hX dX9_findRows_38 39 rfl ?_
                refine v_iconst (v := (1 : Int32)) hX dX9_findRows_39 (by decide) 40 rfl ?_
                refine v_iand hX dX9_findRows_40 41 rfl ?_
                refine v_iconst (v := (1 : Int32)) hX dX9_findRows_41 (by decide) 42 rfl ?_
                obtain ⟨J14, hJ14, hf⟩ := jn_x hf
                have HJ14 : ∀ (c15 : Int32) (c16 : (Nat → Int32)), J14 c15 c16 = some res → VC X (lkp r [(43, c2), (45, c15)]) (lkp g [(73, c16), (68, c3)]) u h [(0, .ref (aX X 52)), (1, .int v1), (2, .int x4), (3, .int x9)] [] 128 := by
                  intro c15 c16 hf
                  rw [hJ14] at hf
                  refine v_inc (c := (1 : Int32)) hX dX9_findRows_128 3 rfl (by decide) (ltn hn (by decide)) 131 rfl [(3, .int (x9 + (1 : Int32))), (0, .ref (aX X 52)), (1, .int v1), (2, .int x4)] rfl ?_
                  refine v_goto hX dX9_findRows_131 28 rfl ?_
                  refine v_sub [(0, .ref (aX X 52)), (1, .int v1), (2, .int x4), (3, .int (x9 + (1 : Int32)))] (sbc 1 rfl (sbc 2 rfl (sbc 3 rfl (sbc 0 rfl sbn)))) ?_
                  exact ih _ _ _ hf
                refine v_icmp_ne hX dX9_findRows_42 128 rfl 45 rfl (fun h24 => ?_) (fun h24 => ?_)
                · replace hf := it_n h24 hf
                  exact HJ14 _ _ hf
                · replace hf := it_p h24 hf
                  refine v_iload_n hX dX9_findRows_45 rfl 1 rfl 46 rfl ?_
                  refine v_iload_n hX dX9_findRows_46 rfl 3 rfl 47 rfl ?_
                  refine v_ishr hX dX9_findRows_47 48 rfl ?_
                  refine v_iconst (v := (1 : Int32)) hX dX9_findRows_48 (by decide) 49 rfl ?_
                  refine v_iand hX dX9_findRows_49 50 rfl ?_
                  refine v_iconst (v := (1 : Int32)) hX dX9_findRows_50 (by decide) 51 rfl ?_
                  refine v_icmp_ne hX dX9_findRows_51 128 rfl 54 rfl (fun h23 => ?_) (fun h23 => ?_)
                  · replace hf := it_n h23 hf
                    exact HJ14 _ _ hf
                  · replace hf := it_p h23 hf
                    refine v_aload_n hX dX9_findRows_54 rfl 0 rfl 55 rfl ?_
                    refine gf_52_29 hX q_119 dX9_findRows_55 58 rfl ?_
                    refine v_bipush (v := (9 : Int32)) hX dX9_findRows_58 (by decide) 60 rfl ?_
                    refine v_iload_n hX dX9_findRows_60 rfl 2 rfl 61 rfl ?_
                    refine v_imul hX dX9_findRows_61 62 rfl ?_
                    refine v_iload_n hX dX9_findRows_62 rfl 3 rfl 63 rfl ?_
                    refine v_iadd hX dX9_findRows_63 64 rfl ?_
                    obtain ⟨hi17, hf⟩ := gd_e hf
                    refine al_68 hX hi17 dX9_findRows_64 (c3 (((9 : Int32) * x4) + x9).toNatClampNeg) rfl 65 rfl ?_
                    refine v_if_le hX dX9_findRows_65 128 rfl 68 rfl (fun h22 => ?_) (fun h22 => ?_)
                    · replace hf := it_p h22 hf
                      exact HJ14 _ _ hf
                    · replace hf := it_n h22 hf
                      refine v_aload_n hX dX9_findRows_68 rfl 0 rfl 69 rfl ?_
                      refine gf_52_37 hX q_124 dX9_findRows_69 72 rfl ?_
                      refine v_iconst (v := (3 : Int32)) hX dX9_findRows_72 (by decide) 73 rfl ?_
                      refine v_aload_n hX dX9_findRows_73 rfl 0 rfl 74 rfl ?_
                      refine gf_52_39 hX q_959 dX9_findRows_74 (c10) rfl 77 rfl ?_
                      refine v_imul hX dX9_findRows_77 78 rfl ?_
                      refine v_iload_n hX dX9_findRows_78 rfl 2 rfl 79 rfl ?_
                      obtain ⟨hi18, hf⟩ := gd_e hf
                      refine as_73 hX hi18 dX9_findRows_79 80 rfl c11 rfl [(73, (upd c11 ((3 : Int32) * c10).toNatClampNeg x4)), (68, c3)] rfl ?_
                      refine v_aload_n hX dX9_findRows_80 rfl 0 rfl 81 rfl ?_
                      refine gf_52_37 hX q_124 dX9_findRows_81 84 rfl ?_
                      refine v_iconst (v := (3 : Int32)) hX dX9_findRows_84 (by decide) 85 rfl ?_
                      refine v_aload_n hX dX9_findRows_85 rfl 0 rfl 86 rfl ?_
                      refine gf_52_39 hX q_959 dX9_findRows_86 (c10) rfl 89 rfl ?_
                      refine v_imul hX dX9_findRows_89 90 rfl ?_
                      refine v_iconst (v := (1 : Int32)) hX dX9_findRows_90 (by decide) 91 rfl ?_
                      refine v_iadd hX dX9_findRows_91 92 rfl ?_
                      refine v_iload_n hX dX9_findRows_92 rfl 3 rfl 93 rfl ?_
                      obtain ⟨hi19, hf⟩ := gd_e hf
                      refine as_73 hX hi19 dX9_findRows_93 94 rfl (upd c11 ((3 : Int32) * c10).toNatClampNeg x4) rfl [(73, (upd (upd c11 ((3 : Int32) * c10).toNatClampNeg x4) (((3 : Int32) * c10) + (1 : Int32)).toNatClampNeg x9)), (68, c3)] rfl ?_
                      refine v_aload_n hX dX9_findRows_94 rfl 0 rfl 95 rfl ?_
                      refine gf_52_37 hX q_124 dX9_findRows_95 98 rfl ?_
                      refine v_iconst (v := (3 : Int32)) hX dX9_findRows_98 (by decide) 99 rfl ?_
                      refine v_aload_n hX dX9_findRows_99 rfl 0 rfl 100 rfl ?_
                      refine gf_52_39 hX q_959 dX9_findRows_100 (c10) rfl 103 rfl ?_
                      refine v_imul hX dX9_findRows_103 104 rfl ?_
                      refine v_iconst (v := (2 : Int32)) hX dX9_findRows_104 (by decide) 105 rfl ?_
                      refine v_iadd hX dX9_findRows_105 106 rfl ?_
                      refine v_aload_n hX dX9_findRows_106 rfl 0 rfl 107 rfl ?_
                      refine gf_52_29 hX q_119 dX9_findRows_107 110 rfl ?_
                      refine v_bipush (v := (9 : Int32)) hX dX9_findRows_110 (by decide) 112 rfl ?_
                      refine v_iload_n hX dX9_findRows_112 rfl 2 rfl 113 rfl ?_
                      refine v_imul hX dX9_findRows_113 114 rfl ?_
                      refine v_iload_n hX dX9_findRows_114 rfl 3 rfl 115 rfl ?_
                      refine v_iadd hX dX9_findRows_115 116 rfl ?_
                      obtain ⟨hi20, hf⟩ := gd_e hf
                      refine al_68 hX hi20 dX9_findRows_116 (c3 (((9 : Int32) * x4) + x9).toNatClampNeg) rfl 117 rfl ?_
                      obtain ⟨hi21, hf⟩ := gd_e hf
                      refine as_73 hX hi21 dX9_findRows_117 118 rfl (upd (upd c11 ((3 : Int32) * c10).toNatClampNeg x4) (((3 : Int32) * c10) + (1 : Int32)).toNatClampNeg x9) rfl [(73, (upd (upd (upd c11 ((3 : Int32) * c10).toNatClampNeg x4) (((3 : Int32) * c10) + (1 : Int32)).toNatClampNeg x9) (((3 : Int32) * c10) + (2 : Int32)).toNatClampNeg (c3 (((9 : Int32) * x4) + x9).toNatClampNeg))), (68, c3)] rfl ?_
                      refine v_aload_n hX dX9_findRows_118 rfl 0 rfl 119 rfl ?_
                      refine v_dup hX dX9_findRows_119 rfl 120 rfl ?_
                      refine gf_52_39 hX q_959 dX9_findRows_120 (c10) rfl 123 rfl ?_
                      refine v_iconst (v := (1 : Int32)) hX dX9_findRows_123 (by decide) 124 rfl ?_
                      refine v_iadd hX dX9_findRows_124 125 rfl ?_
                      refine pf_52_39 hX q_959 dX9_findRows_125 128 rfl [(43, c2), (45, (c10 + (1 : Int32)))] rfl ?_
                      exact HJ14 _ _ hf
          refine v_sub [(0, .ref (aX X 52)), (1, .int v1), (2, .int x4), (3, .int (x4 + (1 : Int32)))] (sbc 1 rfl (sbc 2 rfl (sbc 3 rfl (sbc 0 rfl sbn)))) ?_
          exact HLK12 _ _ _ _ hf
  refine v_sub [(0, .ref (aX X 52)), (1, .int v1), (2, .int (0 : Int32))] (sbc 2 rfl (sbc 1 rfl (sbc 0 rfl sbn))) ?_
  exact HLK7 _ _ _ _ hf
set_option maxRecDepth 100000 in
set_option maxHeartbeats 4000000 in
theorem c9_judge (r : Nat → Int32) (g : Nat → Nat → Int32) (u : Nat → Int64) (h : Nat → Nat → Int64)  {res : Int32 × Int32 × Int32 × (Nat → Int32) × (Nat → Int32)} (hf : f9_judge (r 31) (r 43) (r 45) (r 30) (r 44) (g 57) (g 55) (g 58) (g 73) (g 56) (g 72) (g 68) = some res) : MAi yX9_judge cX9_judge 4 (some .int) 6 (fun a => [.ref (a 52)]) r g u h res.1 (lkp r [(43, res.2.1), (45, res.2.2.1)]) (lkp g [(73, res.2.2.2.1), (68, res.2.2.2.2)]) u h := by
  refine mi_i (by decide +kernel) (fun a => Nat.le_of_ble_eq_true rfl) (fun X hX hn hR => ?_)
  replace hR : ∀ q : Int32 × Int32 × Int32 × (Nat → Int32) × (Nat → Int32), some q = some res → ∀ lv pc, decode cX9_judge pc = .ok (.ireturn, 1) → narrow .int (.int q.1) = .int q.1 → VC X (lkp r [(43, q.2.1), (45, q.2.2.1)]) (lkp g [(73, q.2.2.2.1), (68, q.2.2.2.2)]) u h lv [.int q.1] pc := fun q hq => by cases hq; exact hR
  replace hX : CX X RX9 cX9_judge 6 := hX
  refine v_opr [43, 45] [(43, r 43), (45, r 45)] rfl ?_
  refine v_opg [73, 68] [(73, g 73), (68, g 68)] rfl ?_
  show VC X (lkp r [(43, r 43), (45, r 45)]) (lkp g [(73, g 73), (68, g 68)]) u h [(0, .ref (aX X 52))] [] 0
  rw [f9_judge] at hf
  refine v_aload_n hX dX9_judge_0 rfl 0 rfl 1 rfl ?_
  obtain ⟨v1, c2, c3, c4, c5, hv1, hf⟩ := bn5_e hf
  refine cv_i hX (c9_findRows (lkp r [(43, (r 43)), (45, (r 45))]) (lkp g [(73, (g 73)), (68, (g 68))]) u h hv1) wvX9_findRows q_961 rc_52 (Nat.le_of_ble_eq_true rfl) (Nat.le_of_ble_eq_true rfl) (fun _ => rfl) [] rfl (Nat.le_of_ble_eq_true rfl) dX9_judge_1 4 rfl ?_
  refine v_mgr [(43, c2), (45, c3)] rfl ?_
  refine v_mgg [(73, c4), (68, c5)] rfl ?_
  refine v_if_ne hX dX9_judge_4 10 rfl 7 rfl (fun h26 => ?_) (fun h26 => ?_)
  · replace hf := it_n h26 hf
    refine v_iconst (v := (0 : Int32)) hX dX9_judge_10 (by decide) 11 rfl ?_
    refine v_istore_n hX dX9_judge_11 rfl (ltn hn (by decide)) 12 rfl [(1, .int (0 : Int32)), (0, .ref (aX X 52))] rfl ?_
    obtain ⟨K7, hK7, hf⟩ := jn_x hf
    have HK7 : ∀ (x6 : Int32), K7 x6 = some res → VC X (lkp r [(43, c2), (45, c3)]) (lkp g [(73, c4), (68, c5)]) u h [(0, .ref (aX X 52))] [] 94 := by
      intro x6 hf
      rw [hK7] at hf
      refine v_aload_n hX dX9_judge_94 rfl 0 rfl 95 rfl ?_
      refine gf_52_38 hX q_960 dX9_judge_95 ((r 44)) rfl 98 rfl ?_
      refine v_aload_n hX dX9_judge_98 rfl 0 rfl 99 rfl ?_
      refine gf_52_39 hX q_959 dX9_judge_99 (c3) rfl 102 rfl ?_
      refine v_icmp_ge hX dX9_judge_102 111 rfl 105 rfl (fun h25 => ?_) (fun h25 => ?_)
      · replace hf := it_p h25 hf
        refine v_iconst (v := (0 : Int32)) hX dX9_judge_111 (by decide) 112 rfl ?_
        exact hR _ hf _ _ dX9_judge_112 rfl
      · replace hf := it_n h25 hf
        refine v_sipush (v := (222 : Int32)) hX dX9_judge_105 (by decide) 108 rfl ?_
        refine v_goto hX dX9_judge_108 112 rfl ?_
        exact hR _ hf _ _ dX9_judge_112 rfl
    have HLK7 : ∀ (n8 : Nat) (x6 : Int32), f9_judge_L12 (r 44) (g 72) c2 c3 c4 c5 n8 x6 K7 = some res → VC X (lkp r [(43, c2), (45, c3)]) (lkp g [(73, c4), (68, c5)]) u h [(0, .ref (aX X 52)), (1, .int x6)] [] 12 := by
      intro n8
      induction n8 with
      | zero => intro x6 hf; exact no_s hf
      | succ n8 ih =>
        intro x6 hf
        rw [f9_judge_L12] at hf
        refine v_iload_n hX dX9_judge_12 rfl 1 rfl 13 rfl ?_
        refine v_aload_n hX dX9_judge_13 rfl 0 rfl 14 rfl ?_
        refine gf_52_38 hX q_960 dX9_judge_14 ((r 44)) rfl 17 rfl ?_
        refine v_icmp_ge hX dX9_judge_17 94 rfl 20 rfl (fun h24 => ?_) (fun h24 => ?_)
        · replace hf := it_p h24 hf
          refine v_sub [(0, .ref (aX X 52))] (sbc 0 rfl sbn) ?_
          exact HK7 _ hf
        · replace hf := it_n h24 hf
          refine v_iload_n hX dX9_judge_20 rfl 1 rfl 21 rfl ?_
          refine v_aload_n hX dX9_judge_21 rfl 0 rfl 22 rfl ?_
          refine gf_52_39 hX q_959 dX9_judge_22 (c3) rfl 25 rfl ?_
          obtain ⟨J9, hJ9, hf⟩ := jn_x hf
          have HJ9 : ∀ (s10 : Int32), J9 s10 = some res → VC X (lkp r [(43, c2), (45, c3)]) (lkp g [(73, c4), (68, c5)]) u h [(0, .ref (aX X 52)), (1, .int x6)] [.int s10] 33 := by
            intro s10 hf
            rw [hJ9] at hf
            refine v_istore_n hX dX9_judge_33 rfl (ltn hn (by decide)) 34 rfl [(2, .int s10), (0, .ref (aX X 52)), (1, .int x6)] rfl ?_
            refine v_iconst (v := (0 : Int32)) hX dX9_judge_34 (by decide) 35 rfl ?_
            refine v_istore_n hX dX9_judge_35 rfl (ltn hn (by decide)) 36 rfl [(3, .int (0 : Int32)), (2, .int s10), (0, .ref (aX X 52)), (1, .int x6)] rfl ?_
            obtain ⟨K13, hK13, hf⟩ := jn_x hf
            have HK13 : ∀ (x11 : Int32) (x12 : Int32), K13 x11 x12 = some res → VC X (lkp r [(43, c2), (45, c3)]) (lkp g [(73, c4), (68, c5)]) u h [(0, .ref (aX X 52)), (1, .int x6), (2, .int x11)] [] 80 := by
              intro x11 x12 hf
              rw [hK13] at hf
              refine v_iload_n hX dX9_judge_80 rfl 2 rfl 81 rfl ?_
              refine v_if_ne hX dX9_judge_81 88 rfl 84 rfl (fun h22 => ?_) (fun h22 => ?_)
              · replace hf := it_n h22 hf
                refine v_inc (c := (1 : Int32)) hX dX9_judge_88 1 rfl (by decide) (ltn hn (by decide)) 91 rfl [(1, .int (x6 + (1 : Int32))), (0, .ref (aX X 52)), (2, .int x11)] rfl ?_
                refine v_goto hX dX9_judge_91 12 rfl ?_
                refine v_sub [(0, .ref (aX X 52)), (1, .int (x6 + (1 : Int32)))] (sbc 1 rfl (sbc 0 rfl sbn)) ?_
                exact ih _ hf
              · replace hf := it_p h22 hf
                refine v_iload_n hX dX9_judge_84 rfl 1 rfl 85 rfl ?_
                refine v_iconst (v := (1 : Int32)) hX dX9_judge_85 (by decide) 86 rfl ?_
                refine v_iadd hX dX9_judge_86 87 rfl ?_
                exact hR _ hf _ _ dX9_judge_87 rfl
            have HLK13 : ∀ (n14 : Nat) (x11 : Int32) (x12 : Int32), f9_judge_L36 (g 72) c4 x6 n14 x11 x12 K13 = some res → VC X (lkp r [(43, c2), (45, c3)]) (lkp g [(73, c4), (68, c5)]) u h [(0, .ref (aX X 52)), (1, .int x6), (2, .int x11), (3, .int x12)] [] 36 := by
              intro n14
              induction n14 with
              | zero => intro x11 x12 hf; exact no_s hf
              | succ n14 ih =>
                intro x11 x12 hf
                rw [f9_judge_L36] at hf
                refine v_iload_n hX dX9_judge_36 rfl 3 rfl 37 rfl ?_
                refine v_iconst (v := (3 : Int32)) hX dX9_judge_37 (by decide) 38 rfl ?_
                refine v_icmp_ge hX dX9_judge_38 80 rfl 41 rfl (fun h21 => ?_) (fun h21 => ?_)
                · replace hf := it_p h21 hf
                  refine v_sub [(0, .ref (aX X 52)), (1, .int x6), (2, .int x11)] (sbc 0 rfl (sbc 1 rfl (sbc 2 rfl sbn))) ?_
                  exact HK13 _ _ hf
                · replace hf := it_n h21 hf
                  refine v_iload_n hX dX9_judge_41 rfl 2 rfl 42 rfl ?_
                  refine v_if_eq hX dX9_judge_42 80 rfl 45 rfl (fun h20 => ?_) (fun h20 => ?_)
                  · replace hf := it_p h20 hf
                    refine v_sub [(0, .ref (aX X 52)), (1, .int x6), (2, .int x11)] (sbc 0 rfl (sbc 1 rfl (sbc 2 rfl sbn))) ?_
                    exact HK13 _ _ hf
                  · replace hf := it_n h20 hf
                    refine v_aload_n hX dX9_judge_45 rfl 0 rfl 46 rfl ?_
                    refine gf_52_36 hX q_123 dX9_judge_46 49 rfl ?_
                    refine v_iconst (v := (3 : Int32)) hX dX9_judge_49 (by decide) 50 rfl ?_
                    refine v_iload_n hX dX9_judge_50 rfl 1 rfl 51 rfl ?_
                    refine v_imul hX dX9_judge_51 52 rfl ?_
                    refine v_iload_n hX dX9_judge_52 rfl 3 rfl 53 rfl ?_
                    refine v_iadd hX dX9_judge_53 54 rfl ?_
                    obtain ⟨hi15, hf⟩ := gd_e hf
                    refine al_72 hX hi15 dX9_judge_54 ((g 72) (((3 : Int32) * x6) + x12).toNatClampNeg) rfl 55 rfl ?_
                    refine v_aload_n hX dX9_judge_55 rfl 0 rfl 56 rfl ?_
                    refine gf_52_37 hX q_124 dX9_judge_56 59 rfl ?_
                    refine v_iconst (v := (3 : Int32)) hX dX9_judge_59 (by decide) 60 rfl ?_
                    refine v_iload_n hX dX9_judge_60 rfl 1 rfl 61 rfl ?_
                    refine v_imul hX dX9_judge_61 62 rfl ?_
                    refine v_iload_n hX dX9_judge_62 rfl 3 rfl 63 rfl ?_
                    refine v_iadd hX dX9_judge_63 64 rfl ?_
                    obtain ⟨hi16, hf⟩ := gd_e hf
                    refine al_73 hX hi16 dX9_judge_64 (c4 (((3 : Int32) * x6) + x12).toNatClampNeg) rfl 65 rfl ?_
                    obtain ⟨J17, hJ17, hf⟩ := jn_x hf
                    have HJ17 : ∀ (s18 : Int32), J17 s18 = some res → VC X (lkp r [(43, c2), (45, c3)]) (lkp g [(73, c4), (68, c5)]) u h [(0, .ref (aX X 52)), (1, .int x6), (3, .int x12)] [.int s18] 73 := by
                      intro s18 hf
                      rw [hJ17] at hf
                      refine v_istore_n hX dX9_judge_73 rfl (ltn hn (by decide)) 74 rfl [(2, .int s18), (0, .ref (aX X 52)), (1, .int x6), (3, .int x12)] rfl ?_
                      refine v_inc (c := (1 : Int32)) hX dX9_judge_74 3 rfl (by decide) (ltn hn (by decide)) 77 rfl [(3, .int (x12 + (1 : Int32))), (2, .int s18), (0, .ref (aX X 52)), (1, .int x6)] rfl ?_
                      refine v_goto hX dX9_judge_77 36 rfl ?_
                      refine v_sub [(0, .ref (aX X 52)), (1, .int x6), (2, .int s18), (3, .int (x12 + (1 : Int32)))] (sbc 2 rfl (sbc 3 rfl (sbc 1 rfl (sbc 0 rfl sbn)))) ?_
                      exact ih _ _ hf
                    refine v_icmp_ne hX dX9_judge_65 72 rfl 68 rfl (fun h19 => ?_) (fun h19 => ?_)
                    · replace hf := it_n h19 hf
                      refine v_iconst (v := (0 : Int32)) hX dX9_judge_72 (by decide) 73 rfl ?_
                      refine v_sub [(0, .ref (aX X 52)), (1, .int x6), (3, .int x12)] (sbc 0 rfl (sbc 1 rfl (sbc 3 rfl sbn))) ?_
                      exact HJ17 _ hf
                    · replace hf := it_p h19 hf
                      refine v_iconst (v := (1 : Int32)) hX dX9_judge_68 (by decide) 69 rfl ?_
                      refine v_goto hX dX9_judge_69 73 rfl ?_
                      refine v_sub [(0, .ref (aX X 52)), (1, .int x6), (3, .int x12)] (sbc 0 rfl (sbc 1 rfl (sbc 3 rfl sbn))) ?_
                      exact HJ17 _ hf
            refine v_sub [(0, .ref (aX X 52)), (1, .int x6), (2, .int s10), (3, .int (0 : Int32))] (sbc 2 rfl (sbc 3 rfl (sbc 1 rfl (sbc 0 rfl sbn)))) ?_
            exact HLK13 _ _ _ hf
          refine v_icmp_ge hX dX9_judge_25 32 rfl 28 rfl (fun h23 => ?_) (fun h23 => ?_)
          · replace hf := it_p h23 hf
            refine v_iconst (v := (0 : Int32)) hX dX9_judge_32 (by decide) 33 rfl ?_
            exact HJ9 _ hf
          · replace hf := it_n h23 hf
            refine v_iconst (v := (1 : Int32)) hX dX9_judge_28 (by decide) 29 rfl ?_
            refine v_goto hX dX9_judge_29 33 rfl ?_
            exact HJ9 _ hf
    refine v_sub [(0, .ref (aX X 52)), (1, .int (0 : Int32))] (sbc 1 rfl (sbc 0 rfl sbn)) ?_
    exact HLK7 _ _ hf
  · replace hf := it_p h26 hf
    refine v_bipush (v := (-3 : Int32)) hX dX9_judge_7 (by decide) 9 rfl ?_
    exact hR _ hf _ _ dX9_judge_9 rfl
set_option maxRecDepth 100000 in
set_option maxHeartbeats 4000000 in
theorem c9_keep (r : Nat → Int32) (g : Nat → Nat → Int32) (u : Nat → Int64) (h : Nat → Nat → Int64)  {res : Int32 × Int32 × Int32 × (Nat → Int32) × (Nat → Int32) × (Nat → Int32) × (Nat → Int32) × (Nat → Int32) × (Nat → Int32) × (Nat → Int32) × (Nat → Int32) × (Nat → Int32) × (Nat → Int32)} (hf : f9_keep (r 31) (r 32) (r 51) (r 52) (r 30) (r 33) (g 57) (g 60) (g 55) (g 81) (g 58) (g 56) (g 61) (g 82) (g 53) (g 54) = some res) : MAi yX9_keep cX9_keep 1 (some .int) 2 (fun a => [.ref (a 52)]) r g u h res.1 (lkp r [(51, res.2.1), (52, res.2.2.1)]) (lkp g [(57, res.2.2.2.1), (60, res.2.2.2.2.1), (55, res.2.2.2.2.2.1), (81, res.2.2.2.2.2.2.1), (58, res.2.2.2.2.2.2.2.1), (56, res.2.2.2.2.2.2.2.2.1), (61, res.2.2.2.2.2.2.2.2.2.1), (82, res.2.2.2.2.2.2.2.2.2.2.1), (53, res.2.2.2.2.2.2.2.2.2.2.2.1), (54, res.2.2.2.2.2.2.2.2.2.2.2.2)]) u h := by
  refine mi_i (by decide +kernel) (fun a => Nat.le_of_ble_eq_true rfl) (fun X hX hn hR => ?_)
  replace hR : ∀ q : Int32 × Int32 × Int32 × (Nat → Int32) × (Nat → Int32) × (Nat → Int32) × (Nat → Int32) × (Nat → Int32) × (Nat → Int32) × (Nat → Int32) × (Nat → Int32) × (Nat → Int32) × (Nat → Int32), some q = some res → ∀ lv pc, decode cX9_keep pc = .ok (.ireturn, 1) → narrow .int (.int q.1) = .int q.1 → VC X (lkp r [(51, q.2.1), (52, q.2.2.1)]) (lkp g [(57, q.2.2.2.1), (60, q.2.2.2.2.1), (55, q.2.2.2.2.2.1), (81, q.2.2.2.2.2.2.1), (58, q.2.2.2.2.2.2.2.1), (56, q.2.2.2.2.2.2.2.2.1), (61, q.2.2.2.2.2.2.2.2.2.1), (82, q.2.2.2.2.2.2.2.2.2.2.1), (53, q.2.2.2.2.2.2.2.2.2.2.2.1), (54, q.2.2.2.2.2.2.2.2.2.2.2.2)]) u h lv [.int q.1] pc := fun q hq => by cases hq; exact hR
  replace hX : CX X RX9 cX9_keep 2 := hX
  refine v_opr [51, 52] [(51, r 51), (52, r 52)] rfl ?_
  refine v_opg [57, 60, 55, 81, 58, 56, 61, 82, 53, 54] [(57, g 57), (60, g 60), (55, g 55), (81, g 81), (58, g 58), (56, g 56), (61, g 61), (82, g 82), (53, g 53), (54, g 54)] rfl ?_
  show VC X (lkp r [(51, r 51), (52, r 52)]) (lkp g [(57, g 57), (60, g 60), (55, g 55), (81, g 81), (58, g 58), (56, g 56), (61, g 61), (82, g 82), (53, g 53), (54, g 54)]) u h [(0, .ref (aX X 52))] [] 0
  rw [f9_keep] at hf
  refine v_aload_n hX dX9_keep_0 rfl 0 rfl 1 rfl ?_
  refine v_iconst (v := (1 : Int32)) hX dX9_keep_1 (by decide) 2 rfl ?_
  obtain ⟨c1, c2, c3, c4, c5, c6, c7, c8, c9, c10, c11, hc1, hf⟩ := bn11_e hf
  refine cv_v hX (c9_moveAll (lkp r [(51, (r 51)), (52, (r 52))]) (lkp g [(57, (g 57)), (60, (g 60)), (55, (g 55)), (81, (g 81)), (58, (g 58)), (56, (g 56)), (61, (g 61)), (82, (g 82)), (53, (g 53)), (54, (g 54))]) u h _ hc1) wvX9_moveAll q_1241 rc_52 (Nat.le_of_ble_eq_true rfl) (Nat.le_of_ble_eq_true rfl) (fun _ => rfl) [] rfl (Nat.le_of_ble_eq_true rfl) dX9_keep_2 5 rfl ?_
  refine v_mgr [(51, (r 51)), (52, c1)] rfl ?_
  refine v_mgg [(57, c2), (60, c3), (55, c4), (81, c5), (58, c6), (56, c7), (61, c8), (82, c9), (53, c10), (54, c11)] rfl ?_
  refine v_aload_n hX dX9_keep_5 rfl 0 rfl 6 rfl ?_
  refine v_iconst (v := (1 : Int32)) hX dX9_keep_6 (by decide) 7 rfl ?_
  refine pf_52_52 hX q_1240 dX9_keep_7 (by decide) 10 rfl [(51, (1 : Int32)), (52, c1)] rfl ?_
  refine v_iconst (v := (1 : Int32)) hX dX9_keep_10 (by decide) 11 rfl ?_
  exact hR _ hf _ _ dX9_keep_11 rfl
set_option maxRecDepth 100000 in
set_option maxHeartbeats 4000000 in
theorem c9_likely (r : Nat → Int32) (g : Nat → Nat → Int32) (u : Nat → Int64) (h : Nat → Nat → Int64) (p1 : Int32) {res : Int32} (hf : f9_likely (r 31) (r 30) (g 57) (g 55) (g 58) (g 56) p1 = some res) : MAi yX9_likely cX9_likely 2 (some .int) 4 (fun a => [.ref (a 52), .int p1]) r g u h res r g u h := by
  refine mi_i (by decide +kernel) (fun a => Nat.le_of_ble_eq_true rfl) (fun X hX hn hR => ?_)
  replace hR : ∀ q : Int32, some q = some res → ∀ lv pc, decode cX9_likely pc = .ok (.ireturn, 1) → narrow .int (.int q) = .int q → VC X r g u h lv [.int q] pc := fun q hq => by cases hq; exact hR
  replace hX : CX X RX9 cX9_likely 4 := hX
  show VC X r g u h [(0, .ref (aX X 52)), (1, .int p1)] [] 0
  rw [f9_likely] at hf
  refine v_aload_n hX dX9_likely_0 rfl 0 rfl 1 rfl ?_
  refine v_iload_n hX dX9_likely_1 rfl 1 rfl 2 rfl ?_
  obtain ⟨v1, hv1, hf⟩ := bn1_e hf
  refine cv_i hX (c9_isClaim r g u h _ hv1) wvX9_isClaim q_525 rc_52 (Nat.le_of_ble_eq_true rfl) (Nat.le_of_ble_eq_true rfl) (fun _ => rfl) [] rfl (Nat.le_of_ble_eq_true rfl) dX9_likely_2 5 rfl ?_
  refine v_if_eq hX dX9_likely_5 16 rfl 8 rfl (fun h3 => ?_) (fun h3 => ?_)
  · replace hf := it_p h3 hf
    refine v_iconst (v := (-1 : Int32)) hX dX9_likely_16 (by decide) 17 rfl ?_
    exact hR _ hf _ _ dX9_likely_17 rfl
  · replace hf := it_n h3 hf
    refine v_aload_n hX dX9_likely_8 rfl 0 rfl 9 rfl ?_
    refine v_iload_n hX dX9_likely_9 rfl 1 rfl 10 rfl ?_
    obtain ⟨v2, hv2, hf⟩ := bn1_e hf
    refine cv_i hX (c9_likelyOf r g u h _ hv2) wvX9_likelyOf q_817 rc_52 (Nat.le_of_ble_eq_true rfl) (Nat.le_of_ble_eq_true rfl) (fun _ => rfl) [] rfl (Nat.le_of_ble_eq_true rfl) dX9_likely_10 13 rfl ?_
    refine v_goto hX dX9_likely_13 17 rfl ?_
    exact hR _ hf _ _ dX9_likely_17 rfl
set_option maxRecDepth 100000 in
set_option maxHeartbeats 4000000 in
theorem c9_lot (r : Nat → Int32) (g : Nat → Nat → Int32) (u : Nat → Int64) (h : Nat → Nat → Int64) (p1 : Int32) {res : Int32 × Int32 × (Nat → Int32)} (hf : f9_lot (r 31) (r 43) (r 30) (g 57) (g 55) (g 58) (g 56) (g 68) p1 = some res) : MAi yX9_lot cX9_lot 3 (some .int) 5 (fun a => [.ref (a 52), .int p1]) r g u h res.1 (lkp r [(43, res.2.1)]) (lkp g [(68, res.2.2)]) u h := by
  refine mi_i (by decide +kernel) (fun a => Nat.le_of_ble_eq_true rfl) (fun X hX hn hR => ?_)
  replace hR : ∀ q : Int32 × Int32 × (Nat → Int32), some q = some res → ∀ lv pc, decode cX9_lot pc = .ok (.ireturn, 1) → narrow .int (.int q.1) = .int q.1 → VC X (lkp r [(43, q.2.1)]) (lkp g [(68, q.2.2)]) u h lv [.int q.1] pc := fun q hq => by cases hq; exact hR
  replace hX : CX X RX9 cX9_lot 5 := hX
  refine v_opr [43] [(43, r 43)] rfl ?_
  refine v_opg [68] [(68, g 68)] rfl ?_
  show VC X (lkp r [(43, r 43)]) (lkp g [(68, g 68)]) u h [(0, .ref (aX X 52)), (1, .int p1)] [] 0
  rw [f9_lot] at hf
  refine v_iload_n hX dX9_lot_0 rfl 1 rfl 1 rfl ?_
  obtain ⟨v1, hv1, hf⟩ := bn1_e hf
  refine cs_i hX (c9_isSide (lkp r [(43, (r 43))]) (lkp g [(68, (g 68))]) u h _ hv1) wvX9_isSide q_731 (Nat.le_of_ble_eq_true rfl) (Nat.le_of_ble_eq_true rfl) (fun _ => rfl) [] rfl (Nat.le_of_ble_eq_true rfl) dX9_lot_1 4 rfl ?_
  refine v_if_ne hX dX9_lot_4 9 rfl 7 rfl (fun h7 => ?_) (fun h7 => ?_)
  · replace hf := it_n h7 hf
    refine v_aload_n hX dX9_lot_9 rfl 0 rfl 10 rfl ?_
    obtain ⟨v2, c3, c4, hv2, hf⟩ := bn3_e hf
    refine cv_i hX (c9_findLot (lkp r [(43, (r 43))]) (lkp g [(68, (g 68))]) u h hv2) wvX9_findLot q_734 rc_52 (Nat.le_of_ble_eq_true rfl) (Nat.le_of_ble_eq_true rfl) (fun _ => rfl) [] rfl (Nat.le_of_ble_eq_true rfl) dX9_lot_10 13 rfl ?_
    refine v_mgr [(43, c3)] rfl ?_
    refine v_mgg [(68, c4)] rfl ?_
    refine v_istore_n hX dX9_lot_13 rfl (ltn hn (by decide)) 14 rfl [(2, .int v2), (0, .ref (aX X 52)), (1, .int p1)] rfl ?_
    refine v_iload_n hX dX9_lot_14 rfl 0 rfl 15 rfl ?_
    refine v_if_lt hX dX9_lot_15 22 rfl 18 rfl (fun h6 => ?_) (fun h6 => ?_)
    · replace hf := it_p h6 hf
      refine v_iload_n hX dX9_lot_22 rfl 0 rfl 23 rfl ?_
      refine v_goto hX dX9_lot_23 34 rfl ?_
      exact hR _ hf _ _ dX9_lot_34 rfl
    · replace hf := it_n h6 hf
      refine v_iload_n hX dX9_lot_18 rfl 2 rfl 19 rfl ?_
      refine v_if_ne hX dX9_lot_19 26 rfl 22 rfl (fun h5 => ?_) (fun h5 => ?_)
      · replace hf := it_n h5 hf
        refine v_ldcw (v := (100000 : Int32)) hX q_688 dX9_lot_26 29 rfl ?_
        refine v_aload_n hX dX9_lot_29 rfl 1 rfl 30 rfl ?_
        refine gf_52_30 hX q_730 dX9_lot_30 (c3) rfl 33 rfl ?_
        refine v_iadd hX dX9_lot_33 34 rfl ?_
        exact hR _ hf _ _ dX9_lot_34 rfl
      · replace hf := it_p h5 hf
        refine v_iload_n hX dX9_lot_22 rfl 0 rfl 23 rfl ?_
        refine v_goto hX dX9_lot_23 34 rfl ?_
        exact hR _ hf _ _ dX9_lot_34 rfl
  · replace hf := it_p h7 hf
    refine v_iconst (v := (-1 : Int32)) hX dX9_lot_7 (by decide) 8 rfl ?_
    exact hR _ hf _ _ dX9_lot_8 rfl
set_option maxRecDepth 100000 in
set_option maxHeartbeats 4000000 in
theorem c9_many (r : Nat → Int32) (g : Nat → Nat → Int32) (u : Nat → Int64) (h : Nat → Nat → Int64) (p1 : Int32) {res : Int32} (hf : f9_many (r 49) (r 31) (r 32) (r 30) (r 44) (r 34) (g 57) (g 56) p1 = some res) : MAi yX9_many cX9_many 4 (some .int) 2 (fun a => [.ref (a 52), .int p1]) r g u h res r g u h := by
  refine mi_i (by decide +kernel) (fun a => Nat.le_of_ble_eq_true rfl) (fun X hX hn hR => ?_)
  replace hR : ∀ q : Int32, some q = some res → ∀ lv pc, decode cX9_many pc = .ok (.ireturn, 1) → narrow .int (.int q) = .int q → VC X r g u h lv [.int q] pc := fun q hq => by cases hq; exact hR
  replace hX : CX X RX9 cX9_many 2 := hX
  show VC X r g u h [(0, .ref (aX X 52)), (1, .int p1)] [] 0
  rw [f9_many] at hf
  refine v_iconst (v := (0 : Int32)) hX dX9_many_0 (by decide) 1 rfl ?_
  refine v_istore_n hX dX9_many_1 rfl (ltn hn (by decide)) 2 rfl [(2, .int (0 : Int32)), (0, .ref (aX X 52)), (1, .int p1)] rfl ?_
  refine v_iload_n hX dX9_many_2 rfl 2 rfl 3 rfl ?_
  rcases Decidable.em (p1 = (0 : Int32)) with h1 | h1
  · replace hf := it_p h1 hf
    refine v_tsIn hX dX9_many_3 (0 : Int32) h1 (by decide) (by decide) (45) (by decide +kernel) 48 rfl ?_
    refine v_aload_n hX dX9_many_48 rfl 1 rfl 49 rfl ?_
    refine gf_52_1 hX q_409 dX9_many_49 ((r 30)) rfl 52 rfl ?_
    exact hR _ hf _ _ dX9_many_52 rfl
  · replace hf := it_n h1 hf
    rcases Decidable.em (p1 = (1 : Int32)) with h2 | h2
    · replace hf := it_p h2 hf
      refine v_tsIn hX dX9_many_3 (1 : Int32) h2 (by decide) (by decide) (50) (by decide +kernel) 53 rfl ?_
      refine v_aload_n hX dX9_many_53 rfl 1 rfl 54 rfl ?_
      refine gf_52_5 hX q_462 dX9_many_54 ((r 31)) rfl 57 rfl ?_
      exact hR _ hf _ _ dX9_many_57 rfl
    · replace hf := it_n h2 hf
      rcases Decidable.em (p1 = (2 : Int32)) with h3 | h3
      · replace hf := it_p h3 hf
        refine v_tsIn hX dX9_many_3 (2 : Int32) h3 (by decide) (by decide) (55) (by decide +kernel) 58 rfl ?_
        refine v_aload_n hX dX9_many_58 rfl 1 rfl 59 rfl ?_
        refine gf_52_9 hX q_311 dX9_many_59 ((r 32)) rfl 62 rfl ?_
        exact hR _ hf _ _ dX9_many_62 rfl
      · replace hf := it_n h3 hf
        rcases Decidable.em (p1 = (3 : Int32)) with h4 | h4
        · replace hf := it_p h4 hf
          refine v_tsIn hX dX9_many_3 (3 : Int32) h4 (by decide) (by decide) (60) (by decide +kernel) 63 rfl ?_
          refine v_iconst (v := (0 : Int32)) hX dX9_many_63 (by decide) 64 rfl ?_
          refine v_istore_n hX dX9_many_64 rfl (ltn hn (by decide)) 65 rfl [(3, .int (0 : Int32)), (2, .int (0 : Int32)), (0, .ref (aX X 52)), (1, .int p1)] rfl ?_
          obtain ⟨K7, hK7, hf⟩ := jn_x hf
          have HK7 : ∀ (x5 : Int32) (x6 : Int32), K7 x5 x6 = some res → VC X r g u h [(2, .int x5)] [] 97 := by
            intro x5 x6 hf
            rw [hK7] at hf
            refine v_iload_n hX dX9_many_97 rfl 0 rfl 98 rfl ?_
            exact hR _ hf _ _ dX9_many_98 rfl
          have HLK7 : ∀ (n8 : Nat) (x5 : Int32) (x6 : Int32), f9_many_L65 (r 30) (g 56) n8 x5 x6 K7 = some res → VC X r g u h [(0, .ref (aX X 52)), (2, .int x5), (3, .int x6)] [] 65 := by
            intro n8
            induction n8 with
            | zero => intro x5 x6 hf; exact no_s hf
            | succ n8 ih =>
              intro x5 x6 hf
              rw [f9_many_L65] at hf
              refine v_iload_n hX dX9_many_65 rfl 2 rfl 66 rfl ?_
              refine v_aload_n hX dX9_many_66 rfl 0 rfl 67 rfl ?_
              refine gf_52_1 hX q_409 dX9_many_67 ((r 30)) rfl 70 rfl ?_
              refine v_icmp_ge hX dX9_many_70 97 rfl 73 rfl (fun h13 => ?_) (fun h13 => ?_)
              · replace hf := it_p h13 hf
                refine v_sub [(2, .int x5)] (sbc 1 rfl sbn) ?_
                exact HK7 _ _ hf
              · replace hf := it_n h13 hf
                refine v_iload_n hX dX9_many_73 rfl 1 rfl 74 rfl ?_
                refine v_aload_n hX dX9_many_74 rfl 0 rfl 75 rfl ?_
                refine gf_52_4 hX q_106 dX9_many_75 78 rfl ?_
                refine v_iload_n hX dX9_many_78 rfl 2 rfl 79 rfl ?_
                obtain ⟨hi9, hf⟩ := gd_e hf
                refine al_56 hX hi9 dX9_many_79 ((g 56) x6.toNatClampNeg) rfl 80 rfl ?_
                refine v_iload_n hX dX9_many_80 rfl 2 rfl 81 rfl ?_
                obtain ⟨J10, hJ10, hf⟩ := jn_x hf
                have HJ10 : ∀ (s11 : Int32), J10 s11 = some res → VC X r g u h [(0, .ref (aX X 52)), (3, .int x6)] [.int s11, .int x5] 89 := by
                  intro s11 hf
                  rw [hJ10] at hf
                  refine v_iadd hX dX9_many_89 90 rfl ?_
                  refine v_istore_n hX dX9_many_90 rfl (ltn hn (by decide)) 91 rfl [(2, .int (x5 + s11)), (0, .ref (aX X 52)), (3, .int x6)] rfl ?_
                  refine v_inc (c := (1 : Int32)) hX dX9_many_91 2 rfl (by decide) (ltn hn (by decide)) 94 rfl [(3, .int (x6 + (1 : Int32))), (2, .int (x5 + s11)), (0, .ref (aX X 52))] rfl ?_
                  refine v_goto hX dX9_many_94 65 rfl ?_
                  refine v_sub [(0, .ref (aX X 52)), (2, .int (x5 + s11)), (3, .int (x6 + (1 : Int32)))] (sbc 2 rfl (sbc 1 rfl (sbc 0 rfl sbn))) ?_
                  exact ih _ _ hf
                refine v_icmp_ne hX dX9_many_81 88 rfl 84 rfl (fun h12 => ?_) (fun h12 => ?_)
                · replace hf := it_n h12 hf
                  refine v_iconst (v := (0 : Int32)) hX dX9_many_88 (by decide) 89 rfl ?_
                  refine v_sub [(0, .ref (aX X 52)), (3, .int x6)] (sbc 0 rfl (sbc 2 rfl sbn)) ?_
                  exact HJ10 _ hf
                · replace hf := it_p h12 hf
                  refine v_iconst (v := (1 : Int32)) hX dX9_many_84 (by decide) 85 rfl ?_
                  refine v_goto hX dX9_many_85 89 rfl ?_
                  refine v_sub [(0, .ref (aX X 52)), (3, .int x6)] (sbc 0 rfl (sbc 2 rfl sbn)) ?_
                  exact HJ10 _ hf
          refine v_sub [(0, .ref (aX X 52)), (2, .int (0 : Int32)), (3, .int (0 : Int32))] (sbc 2 rfl (sbc 1 rfl (sbc 0 rfl sbn))) ?_
          exact HLK7 _ _ _ hf
        · replace hf := it_n h4 hf
          rcases Decidable.em (p1 = (4 : Int32)) with h14 | h14
          · replace hf := it_p h14 hf
            refine v_tsIn hX dX9_many_3 (4 : Int32) h14 (by decide) (by decide) (96) (by decide +kernel) 99 rfl ?_
            refine v_aload_n hX dX9_many_99 rfl 1 rfl 100 rfl ?_
            obtain ⟨v15, hv15, hf⟩ := bn1_e hf
            refine cv_i hX (c9_foundMany r g u h hv15) wvX9_foundMany q_935 rc_52 (Nat.le_of_ble_eq_true rfl) (Nat.le_of_ble_eq_true rfl) (fun _ => rfl) [] rfl (Nat.le_of_ble_eq_true rfl) dX9_many_100 103 rfl ?_
            exact hR _ hf _ _ dX9_many_103 rfl
          · replace hf := it_n h14 hf
            rcases Decidable.em (p1 = (5 : Int32)) with h16 | h16
            · replace hf := it_p h16 hf
              refine v_tsIn hX dX9_many_3 (5 : Int32) h16 (by decide) (by decide) (101) (by decide +kernel) 104 rfl ?_
              refine v_aload_n hX dX9_many_104 rfl 1 rfl 105 rfl ?_
              refine gf_52_38 hX q_960 dX9_many_105 ((r 44)) rfl 108 rfl ?_
              exact hR _ hf _ _ dX9_many_108 rfl
            · replace hf := it_n h16 hf
              rcases Decidable.em (p1 = (6 : Int32)) with h17 | h17
              · replace hf := it_p h17 hf
                refine v_tsIn hX dX9_many_3 (6 : Int32) h17 (by decide) (by decide) (106) (by decide +kernel) 109 rfl ?_
                refine v_aload_n hX dX9_many_109 rfl 1 rfl 110 rfl ?_
                refine gf_52_14 hX q_148 dX9_many_110 ((r 34)) rfl 113 rfl ?_
                exact hR _ hf _ _ dX9_many_113 rfl
              · replace hf := it_n h17 hf
                rcases Decidable.em (p1 = (7 : Int32)) with h18 | h18
                · replace hf := it_p h18 hf
                  refine v_tsIn hX dX9_many_3 (7 : Int32) h18 (by decide) (by decide) (111) (by decide +kernel) 114 rfl ?_
                  refine v_aload_n hX dX9_many_114 rfl 1 rfl 115 rfl ?_
                  refine gf_52_50 hX q_1153 dX9_many_115 ((r 49)) rfl 118 rfl ?_
                  exact hR _ hf _ _ dX9_many_118 rfl
                · replace hf := it_n h18 hf
                  refine v_tsD hX dX9_many_3 [0, 1, 2, 3, 4, 5, 6, 7] (sw_c h1 (by decide) (sw_c h2 (by decide) (sw_c h3 (by decide) (sw_c h4 (by decide) (sw_c h14 (by decide) (sw_c h16 (by decide) (sw_c h17 (by decide) (sw_c h18 (by decide) sw_n)))))))) (by decide) (by decide +kernel) 119 rfl ?_
                  refine v_iconst (v := (-1 : Int32)) hX dX9_many_119 (by decide) 120 rfl ?_
                  exact hR _ hf _ _ dX9_many_120 rfl
set_option maxRecDepth 100000 in
set_option maxHeartbeats 4000000 in
theorem c9_placesOf (r : Nat → Int32) (g : Nat → Nat → Int32) (u : Nat → Int64) (h : Nat → Nat → Int64) (p1 : Int32) (p2 : Int32) {res : Int32} (hf : f9_placesOf (g 57) (g 56) p1 p2 = some res) : MAi yX9_placesOf cX9_placesOf 5 (some .int) 2 (fun a => [.ref (a 52), .int p1, .int p2]) r g u h res r g u h := by
  refine mi_i (by decide +kernel) (fun a => Nat.le_of_ble_eq_true rfl) (fun X hX hn hR => ?_)
  replace hR : ∀ q : Int32, some q = some res → ∀ lv pc, decode cX9_placesOf pc = .ok (.ireturn, 1) → narrow .int (.int q) = .int q → VC X r g u h lv [.int q] pc := fun q hq => by cases hq; exact hR
  replace hX : CX X RX9 cX9_placesOf 2 := hX
  show VC X r g u h [(0, .ref (aX X 52)), (1, .int p1), (2, .int p2)] [] 0
  rw [f9_placesOf] at hf
  refine v_iconst (v := (0 : Int32)) hX dX9_placesOf_0 (by decide) 1 rfl ?_
  refine v_istore_n hX dX9_placesOf_1 rfl (ltn hn (by decide)) 2 rfl [(3, .int (0 : Int32)), (0, .ref (aX X 52)), (1, .int p1), (2, .int p2)] rfl ?_
  refine v_iconst (v := (0 : Int32)) hX dX9_placesOf_2 (by decide) 3 rfl ?_
  refine v_istore hX dX9_placesOf_3 (ltn hn (by decide)) 5 rfl [(4, .int (0 : Int32)), (3, .int (0 : Int32)), (0, .ref (aX X 52)), (1, .int p1), (2, .int p2)] rfl ?_
  obtain ⟨K3, hK3, hf⟩ := jn_x hf
  have HK3 : ∀ (x1 : Int32) (x2 : Int32), K3 x1 x2 = some res → VC X r g u h [(3, .int x1)] [] 39 := by
    intro x1 x2 hf
    rw [hK3] at hf
    refine v_iload_n hX dX9_placesOf_39 rfl 0 rfl 40 rfl ?_
    exact hR _ hf _ _ dX9_placesOf_40 rfl
  have HLK3 : ∀ (n4 : Nat) (x1 : Int32) (x2 : Int32), f9_placesOf_L5 (g 57) (g 56) p1 p2 n4 x1 x2 K3 = some res → VC X r g u h [(0, .ref (aX X 52)), (1, .int p1), (2, .int p2), (3, .int x1), (4, .int x2)] [] 5 := by
    intro n4
    induction n4 with
    | zero => intro x1 x2 hf; exact no_s hf
    | succ n4 ih =>
      intro x1 x2 hf
      rw [f9_placesOf_L5] at hf
      refine v_iload hX dX9_placesOf_5 4 rfl 7 rfl ?_
      refine v_iconst (v := (4 : Int32)) hX dX9_placesOf_7 (by decide) 8 rfl ?_
      refine v_icmp_ge hX dX9_placesOf_8 39 rfl 11 rfl (fun h9 => ?_) (fun h9 => ?_)
      · replace hf := it_p h9 hf
        refine v_sub [(3, .int x1)] (sbc 3 rfl sbn) ?_
        exact HK3 _ _ hf
      · replace hf := it_n h9 hf
        refine v_iload_n hX dX9_placesOf_11 rfl 3 rfl 12 rfl ?_
        refine v_aload_n hX dX9_placesOf_12 rfl 0 rfl 13 rfl ?_
        refine v_iload_n hX dX9_placesOf_13 rfl 1 rfl 14 rfl ?_
        refine v_iload hX dX9_placesOf_14 4 rfl 16 rfl ?_
        obtain ⟨v5, hv5, hf⟩ := bn1_e hf
        refine cv_i hX (c9_oneIn r g u h _ _ hv5) wvX9_oneIn q_467 rc_52 (Nat.le_of_ble_eq_true rfl) (Nat.le_of_ble_eq_true rfl) (fun _ => rfl) [.int x1] rfl (Nat.le_of_ble_eq_true rfl) dX9_placesOf_16 19 rfl ?_
        refine v_iload_n hX dX9_placesOf_19 rfl 2 rfl 20 rfl ?_
        obtain ⟨J6, hJ6, hf⟩ := jn_x hf
        have HJ6 : ∀ (s7 : Int32), J6 s7 = some res → VC X r g u h [(0, .ref (aX X 52)), (1, .int p1), (2, .int p2), (4, .int x2)] [.int s7, .int x1] 31 := by
          intro s7 hf
          rw [hJ6] at hf
          refine v_ior hX dX9_placesOf_31 32 rfl ?_
          refine v_istore_n hX dX9_placesOf_32 rfl (ltn hn (by decide)) 33 rfl [(3, .int (x1 ||| s7)), (0, .ref (aX X 52)), (1, .int p1), (2, .int p2), (4, .int x2)] rfl ?_
          refine v_inc (c := (1 : Int32)) hX dX9_placesOf_33 4 rfl (by decide) (ltn hn (by decide)) 36 rfl [(4, .int (x2 + (1 : Int32))), (3, .int (x1 ||| s7)), (0, .ref (aX X 52)), (1, .int p1), (2, .int p2)] rfl ?_
          refine v_goto hX dX9_placesOf_36 5 rfl ?_
          refine v_sub [(0, .ref (aX X 52)), (1, .int p1), (2, .int p2), (3, .int (x1 ||| s7)), (4, .int (x2 + (1 : Int32)))] (sbc 2 rfl (sbc 3 rfl (sbc 4 rfl (sbc 1 rfl (sbc 0 rfl sbn))))) ?_
          exact ih _ _ hf
        refine v_icmp_ne hX dX9_placesOf_20 30 rfl 23 rfl (fun h8 => ?_) (fun h8 => ?_)
        · replace hf := it_n h8 hf
          refine v_iconst (v := (0 : Int32)) hX dX9_placesOf_30 (by decide) 31 rfl ?_
          refine v_sub [(0, .ref (aX X 52)), (1, .int p1), (2, .int p2), (4, .int x2)] (sbc 0 rfl (sbc 1 rfl (sbc 2 rfl (sbc 4 rfl sbn)))) ?_
          exact HJ6 _ hf
        · replace hf := it_p h8 hf
          refine v_iconst (v := (1 : Int32)) hX dX9_placesOf_23 (by decide) 24 rfl ?_
          refine v_iload hX dX9_placesOf_24 4 rfl 26 rfl ?_
          refine v_ishl hX dX9_placesOf_26 27 rfl ?_
          refine v_goto hX dX9_placesOf_27 31 rfl ?_
          refine v_sub [(0, .ref (aX X 52)), (1, .int p1), (2, .int p2), (4, .int x2)] (sbc 0 rfl (sbc 1 rfl (sbc 2 rfl (sbc 4 rfl sbn)))) ?_
          exact HJ6 _ hf
  refine v_sub [(0, .ref (aX X 52)), (1, .int p1), (2, .int p2), (3, .int (0 : Int32)), (4, .int (0 : Int32))] (sbc 2 rfl (sbc 3 rfl (sbc 4 rfl (sbc 1 rfl (sbc 0 rfl sbn))))) ?_
  exact HLK3 _ _ _ hf
set_option maxRecDepth 100000 in
set_option maxHeartbeats 4000000 in
theorem c9_lowest (r : Nat → Int32) (g : Nat → Nat → Int32) (u : Nat → Int64) (h : Nat → Nat → Int64) (p1 : Int64) (p3 : Int64) {res : Int64 × Int64} (hf : f9_lowest (u 1) (u 2) p1 p3 = some res) : MAv yX9_lowest cX9_lowest 11 none 0 (fun a => [.ref (a 52), .long p1, .long p3]) r g u h r g (lkp u [(1, res.1), (2, res.2)]) h := by
  refine mi_v (by decide +kernel) (fun a => Nat.le_of_ble_eq_true rfl) (fun X hX hn hR => ?_)
  replace hR : ∀ q : Int64 × Int64, some q = some res → ∀ lv pc, decode cX9_lowest pc = .ok (.return_, 1) → VC X r g (lkp u [(1, q.1), (2, q.2)]) h lv [] pc := fun q hq => by cases hq; exact hR
  replace hX : CX X RX9 cX9_lowest 0 := hX
  refine v_opu [1, 2] [(1, u 1), (2, u 2)] rfl ?_
  show VC X r g (lkp u [(1, u 1), (2, u 2)]) h [(0, .ref (aX X 52)), (1, .long p1), (3, .long p3)] [] 0
  rw [f9_lowest] at hf
  refine v_lload_n hX dX9_lowest_0 rfl 1 rfl 1 rfl ?_
  refine v_lstore hX dX9_lowest_1 (ltn hn (by decide)) 3 rfl [(5, .long p1), (0, .ref (aX X 52)), (1, .long p1), (3, .long p3)] rfl ?_
  refine v_lload_n hX dX9_lowest_3 rfl 3 rfl 4 rfl ?_
  refine v_lstore hX dX9_lowest_4 (ltn hn (by decide)) 6 rfl [(7, .long p3), (5, .long p1), (0, .ref (aX X 52)), (1, .long p1), (3, .long p3)] rfl ?_
  obtain ⟨K3, hK3, hf⟩ := jn_x hf
  have HK3 : ∀ (x1 : Int64) (x2 : Int64), K3 x1 x2 = some res → VC X r g (lkp u [(1, (u 1)), (2, (u 2))]) h [(0, .ref (aX X 52)), (1, .long p1), (3, .long p3), (5, .long x1)] [] 31 := by
    intro x1 x2 hf
    rw [hK3] at hf
    refine v_aload_n hX dX9_lowest_31 rfl 0 rfl 32 rfl ?_
    refine v_lload_n hX dX9_lowest_32 rfl 1 rfl 33 rfl ?_
    refine v_lload hX dX9_lowest_33 3 rfl 35 rfl ?_
    obtain ⟨hz7, hf⟩ := gd_e hf
    refine v_ldiv hX dX9_lowest_35 (of_decide_eq_true hz7) 36 rfl ?_
    refine pf_52_31 hX q_799 dX9_lowest_36 39 rfl [(1, (p1 / x1)), (2, (u 2))] rfl ?_
    refine v_aload_n hX dX9_lowest_39 rfl 0 rfl 40 rfl ?_
    refine v_lload_n hX dX9_lowest_40 rfl 2 rfl 41 rfl ?_
    refine v_lload hX dX9_lowest_41 3 rfl 43 rfl ?_
    obtain ⟨hz8, hf⟩ := gd_e hf
    refine v_ldiv hX dX9_lowest_43 (of_decide_eq_true hz8) 44 rfl ?_
    refine pf_52_32 hX q_800 dX9_lowest_44 47 rfl [(1, (p1 / x1)), (2, (p3 / x1))] rfl ?_
    exact hR _ hf _ _ dX9_lowest_47
  have HLK3 : ∀ (n4 : Nat) (x1 : Int64) (x2 : Int64), f9_lowest_L6 n4 x1 x2 K3 = some res → VC X r g (lkp u [(1, (u 1)), (2, (u 2))]) h [(0, .ref (aX X 52)), (1, .long p1), (3, .long p3), (5, .long x1), (7, .long x2)] [] 6 := by
    intro n4
    induction n4 with
    | zero => intro x1 x2 hf; exact no_s hf
    | succ n4 ih =>
      intro x1 x2 hf
      rw [f9_lowest_L6] at hf
      refine v_lload hX dX9_lowest_6 4 rfl 8 rfl ?_
      refine v_lconst (v := (0 : Int64)) hX dX9_lowest_8 (by decide) 9 rfl ?_
      refine v_lcmp hX dX9_lowest_9 10 rfl ?_
      refine v_if_eq hX dX9_lowest_10 31 rfl 13 rfl (fun h6 => ?_) (fun h6 => ?_)
      · replace hf := it_p h6 hf
        refine v_sub [(0, .ref (aX X 52)), (1, .long p1), (3, .long p3), (5, .long x1)] (sbc 0 rfl (sbc 1 rfl (sbc 2 rfl (sbc 3 rfl sbn)))) ?_
        exact HK3 _ _ hf
      · replace hf := it_n h6 hf
        refine v_lload hX dX9_lowest_13 3 rfl 15 rfl ?_
        refine v_lload hX dX9_lowest_15 4 rfl 17 rfl ?_
        obtain ⟨hz5, hf⟩ := gd_e hf
        refine v_lrem hX dX9_lowest_17 (of_decide_eq_true hz5) 18 rfl ?_
        refine v_lstore hX dX9_lowest_18 (ltn hn (by decide)) 20 rfl [(9, .long (x1 - x1 / x2 * x2)), (0, .ref (aX X 52)), (1, .long p1), (3, .long p3), (5, .long x1), (7, .long x2)] rfl ?_
        refine v_lload hX dX9_lowest_20 5 rfl 22 rfl ?_
        refine v_lstore hX dX9_lowest_22 (ltn hn (by decide)) 24 rfl [(5, .long x2), (9, .long (x1 - x1 / x2 * x2)), (0, .ref (aX X 52)), (1, .long p1), (3, .long p3), (7, .long x2)] rfl ?_
        refine v_lload hX dX9_lowest_24 1 rfl 26 rfl ?_
        refine v_lstore hX dX9_lowest_26 (ltn hn (by decide)) 28 rfl [(7, .long (x1 - x1 / x2 * x2)), (5, .long x2), (9, .long (x1 - x1 / x2 * x2)), (0, .ref (aX X 52)), (1, .long p1), (3, .long p3)] rfl ?_
        refine v_goto hX dX9_lowest_28 6 rfl ?_
        refine v_sub [(0, .ref (aX X 52)), (1, .long p1), (3, .long p3), (5, .long x2), (7, .long (x1 - x1 / x2 * x2))] (sbc 3 rfl (sbc 4 rfl (sbc 5 rfl (sbc 1 rfl (sbc 0 rfl sbn))))) ?_
        exact ih _ _ hf
  refine v_sub [(0, .ref (aX X 52)), (1, .long p1), (3, .long p3), (5, .long p1), (7, .long p3)] (sbc 2 rfl (sbc 3 rfl (sbc 4 rfl (sbc 1 rfl (sbc 0 rfl sbn))))) ?_
  exact HLK3 _ _ _ hf
set_option maxRecDepth 100000 in
set_option maxHeartbeats 4000000 in
theorem c9_odds (r : Nat → Int32) (g : Nat → Nat → Int32) (u : Nat → Int64) (h : Nat → Nat → Int64) (p1 : Int32) (p2 : Int32) {res : Int64 × Int64 × Int64 × (Nat → Int64)} (hf : f9_odds (r 31) (r 30) (g 57) (g 56) (g 53) (g 54) (u 1) (u 2) (h 69) p1 p2 = some res) : MAl yX9_odds cX9_odds 11 (some .long) 3 (fun a => [.ref (a 52), .int p1, .int p2]) r g u h res.1 r g (lkp u [(1, res.2.1), (2, res.2.2.1)]) (lkp h [(69, res.2.2.2)]) := by
  refine mi_l (by decide +kernel) (fun a => Nat.le_of_ble_eq_true rfl) (fun X hX hn hR => ?_)
  replace hR : ∀ q : Int64 × Int64 × Int64 × (Nat → Int64), some q = some res → ∀ lv pc, decode cX9_odds pc = .ok (.lreturn, 1) → VC X r g (lkp u [(1, q.2.1), (2, q.2.2.1)]) (lkp h [(69, q.2.2.2)]) lv [.long q.1] pc := fun q hq => by cases hq; exact hR
  replace hX : CX X RX9 cX9_odds 3 := hX
  refine v_opu [1, 2] [(1, u 1), (2, u 2)] rfl ?_
  refine v_oph [69] [(69, h 69)] rfl ?_
  show VC X r g (lkp u [(1, u 1), (2, u 2)]) (lkp h [(69, h 69)]) [(0, .ref (aX X 52)), (1, .int p1), (2, .int p2)] [] 0
  rw [f9_odds] at hf
  refine v_aload_n hX dX9_odds_0 rfl 0 rfl 1 rfl ?_
  refine v_iload_n hX dX9_odds_1 rfl 1 rfl 2 rfl ?_
  obtain ⟨v1, hv1, hf⟩ := bn1_e hf
  refine cv_i hX (c9_isPerson r g (lkp u [(1, (u 1)), (2, (u 2))]) (lkp h [(69, (h 69))]) _ hv1) wvX9_isPerson q_450 rc_52 (Nat.le_of_ble_eq_true rfl) (Nat.le_of_ble_eq_true rfl) (fun _ => rfl) [] rfl (Nat.le_of_ble_eq_true rfl) dX9_odds_2 5 rfl ?_
  refine v_if_eq hX dX9_odds_5 15 rfl 8 rfl (fun h54 => ?_) (fun h54 => ?_)
  · replace hf := it_p h54 hf
    refine v_ldc2 (v := (-1 : Int64)) hX q_320 dX9_odds_15 18 rfl ?_
    exact hR _ hf _ _ dX9_odds_18
  · replace hf := it_n h54 hf
    refine v_iload_n hX dX9_odds_8 rfl 2 rfl 9 rfl ?_
    obtain ⟨v2, hv2, hf⟩ := bn1_e hf
    refine cs_i hX (c9_isSide r g (lkp u [(1, (u 1)), (2, (u 2))]) (lkp h [(69, (h 69))]) _ hv2) wvX9_isSide q_731 (Nat.le_of_ble_eq_true rfl) (Nat.le_of_ble_eq_true rfl) (fun _ => rfl) [] rfl (Nat.le_of_ble_eq_true rfl) dX9_odds_9 12 rfl ?_
    refine v_if_ne hX dX9_odds_12 19 rfl 15 rfl (fun h53 => ?_) (fun h53 => ?_)
    · replace hf := it_n h53 hf
      refine v_iconst (v := (0 : Int32)) hX dX9_odds_19 (by decide) 20 rfl ?_
      refine v_istore_n hX dX9_odds_20 rfl (ltn hn (by decide)) 21 rfl [(3, .int (0 : Int32)), (0, .ref (aX X 52)), (1, .int p1), (2, .int p2)] rfl ?_
      refine v_iconst (v := (0 : Int32)) hX dX9_odds_21 (by decide) 22 rfl ?_
      refine v_istore hX dX9_odds_22 (ltn hn (by decide)) 24 rfl [(4, .int (0 : Int32)), (3, .int (0 : Int32)), (0, .ref (aX X 52)), (1, .int p1), (2, .int p2)] rfl ?_
      refine v_iconst (v := (0 : Int32)) hX dX9_odds_24 (by decide) 25 rfl ?_
      refine v_istore hX dX9_odds_25 (ltn hn (by decide)) 27 rfl [(5, .int (0 : Int32)), (4, .int (0 : Int32)), (3, .int (0 : Int32)), (0, .ref (aX X 52)), (1, .int p1), (2, .int p2)] rfl ?_
      obtain ⟨K6, hK6, hf⟩ := jn_x hf
      have HK6 : ∀ (x3 : Int32) (x4 : Int32) (x5 : Int32), K6 x3 x4 x5 = some res → VC X r g (lkp u [(1, (u 1)), (2, (u 2))]) (lkp h [(69, (h 69))]) [(0, .ref (aX X 52)), (1, .int p1), (2, .int p2), (3, .int x3), (4, .int x4)] [] 108 := by
        intro x3 x4 x5 hf
        rw [hK6] at hf
        refine v_aload_n hX dX9_odds_108 rfl 0 rfl 109 rfl ?_
        refine gf_52_0 hX q_103 dX9_odds_109 112 rfl ?_
        refine v_aload_n hX dX9_odds_112 rfl 0 rfl 113 rfl ?_
        refine gf_52_2 hX q_104 dX9_odds_113 116 rfl ?_
        refine v_iload_n hX dX9_odds_116 rfl 1 rfl 117 rfl ?_
        obtain ⟨hi24, hf⟩ := gd_e hf
        refine al_54 hX hi24 dX9_odds_117 ((g 54) p1.toNatClampNeg) rfl 118 rfl ?_
        obtain ⟨hi25, hf⟩ := gd_e hf
        refine al_53 hX hi25 dX9_odds_118 ((g 53) ((g 54) p1.toNatClampNeg).toNatClampNeg) rfl 119 rfl ?_
        refine v_istore hX dX9_odds_119 (ltn hn (by decide)) 121 rfl [(5, .int ((g 53) ((g 54) p1.toNatClampNeg).toNatClampNeg)), (0, .ref (aX X 52)), (1, .int p1), (2, .int p2), (3, .int x3), (4, .int x4)] rfl ?_
        refine v_aload_n hX dX9_odds_121 rfl 1 rfl 122 rfl ?_
        refine gf_52_33 hX q_120 dX9_odds_122 125 rfl ?_
        refine v_iconst (v := (0 : Int32)) hX dX9_odds_125 (by decide) 126 rfl ?_
        refine v_lconst (v := (1 : Int64)) hX dX9_odds_126 (by decide) 127 rfl ?_
        obtain ⟨hi26, hf⟩ := gd_e hf
        refine as_69 hX hi26 dX9_odds_127 128 rfl (h 69) rfl [(69, (vp_updL (h 69) (0 : Int32).toNatClampNeg (1 : Int64)))] rfl ?_
        refine v_lconst (v := (1 : Int64)) hX dX9_odds_128 (by decide) 129 rfl ?_
        refine v_lstore hX dX9_odds_129 (ltn hn (by decide)) 131 rfl [(6, .long (1 : Int64)), (5, .int ((g 53) ((g 54) p1.toNatClampNeg).toNatClampNeg)), (0, .ref (aX X 52)), (1, .int p1), (2, .int p2), (3, .int x3), (4, .int x4)] rfl ?_
        refine v_iconst (v := (0 : Int32)) hX dX9_odds_131 (by decide) 132 rfl ?_
        refine v_istore hX dX9_odds_132 (ltn hn (by decide)) 134 rfl [(8, .int (0 : Int32)), (6, .long (1 : Int64)), (5, .int ((g 53) ((g 54) p1.toNatClampNeg).toNatClampNeg)), (0, .ref (aX X 52)), (1, .int p1), (2, .int p2), (3, .int x3), (4, .int x4)] rfl ?_
        obtain ⟨K30, hK30, hf⟩ := jn_x hf
        have HK30 : ∀ (x27 : Int64) (x28 : Int32) (c29 : (Nat → Int64)), K30 x27 x28 c29 = some res → VC X r g (lkp u [(1, (u 1)), (2, (u 2))]) (lkp h [(69, c29)]) [(0, .ref (aX X 52)), (2, .int p2), (3, .int x3), (4, .int x4), (6, .long x27)] [] 229 := by
          intro x27 x28 c29 hf
          rw [hK30] at hf
          refine v_lconst (v := (0 : Int64)) hX dX9_odds_229 (by decide) 230 rfl ?_
          refine v_lstore hX dX9_odds_230 (ltn hn (by decide)) 232 rfl [(8, .long (0 : Int64)), (0, .ref (aX X 52)), (2, .int p2), (3, .int x3), (4, .int x4), (6, .long x27)] rfl ?_
          refine v_iload hX dX9_odds_232 4 rfl 234 rfl ?_
          refine v_istore hX dX9_odds_234 (ltn hn (by decide)) 236 rfl [(10, .int x4), (8, .long (0 : Int64)), (0, .ref (aX X 52)), (2, .int p2), (3, .int x3), (4, .int x4), (6, .long x27)] rfl ?_
          obtain ⟨K46, hK46, hf⟩ := jn_x hf
          have HK46 : ∀ (x44 : Int64) (x45 : Int32), K46 x44 x45 = some res → VC X r g (lkp u [(1, (u 1)), (2, (u 2))]) (lkp h [(69, c29)]) [(0, .ref (aX X 52)), (2, .int p2), (6, .long x27), (8, .long x44)] [] 260 := by
            intro x44 x45 hf
            rw [hK46] at hf
            refine v_aload_n hX dX9_odds_260 rfl 0 rfl 261 rfl ?_
            refine v_lload hX dX9_odds_261 3 rfl 263 rfl ?_
            refine v_lload hX dX9_odds_263 2 rfl 265 rfl ?_
            obtain ⟨c50, c51, hc50, hf⟩ := bn2_e hf
            refine cv_v hX (c9_lowest r g (lkp u [(1, (u 1)), (2, (u 2))]) (lkp h [(69, c29)]) _ _ hc50) wvX9_lowest q_801 rc_52 (Nat.le_of_ble_eq_true rfl) (Nat.le_of_ble_eq_true rfl) (fun _ => rfl) [] rfl (Nat.le_of_ble_eq_true rfl) dX9_odds_265 268 rfl ?_
            refine v_mgu [(1, c50), (2, c51)] rfl ?_
            refine v_iload_n hX dX9_odds_268 rfl 1 rfl 269 rfl ?_
            refine v_if_ne hX dX9_odds_269 279 rfl 272 rfl (fun h52 => ?_) (fun h52 => ?_)
            · replace hf := it_n h52 hf
              refine v_aload_n hX dX9_odds_279 rfl 0 rfl 280 rfl ?_
              refine gf_52_32 hX q_800 dX9_odds_280 (c51) rfl 283 rfl ?_
              exact hR _ hf _ _ dX9_odds_283
            · replace hf := it_p h52 hf
              refine v_aload_n hX dX9_odds_272 rfl 0 rfl 273 rfl ?_
              refine gf_52_31 hX q_799 dX9_odds_273 (c50) rfl 276 rfl ?_
              refine v_goto hX dX9_odds_276 283 rfl ?_
              exact hR _ hf _ _ dX9_odds_283
          have HLK46 : ∀ (n47 : Nat) (x44 : Int64) (x45 : Int32), f9_odds_L236 x3 c29 n47 x44 x45 K46 = some res → VC X r g (lkp u [(1, (u 1)), (2, (u 2))]) (lkp h [(69, c29)]) [(0, .ref (aX X 52)), (2, .int p2), (3, .int x3), (6, .long x27), (8, .long x44), (10, .int x45)] [] 236 := by
            intro n47
            induction n47 with
            | zero => intro x44 x45 hf; exact no_s hf
            | succ n47 ih =>
              intro x44 x45 hf
              rw [f9_odds_L236] at hf
              refine v_iload hX dX9_odds_236 5 rfl 238 rfl ?_
              refine v_iload_n hX dX9_odds_238 rfl 2 rfl 239 rfl ?_
              refine v_icmp_gt hX dX9_odds_239 260 rfl 242 rfl (fun h49 => ?_) (fun h49 => ?_)
              · replace hf := it_p h49 hf
                refine v_sub [(0, .ref (aX X 52)), (2, .int p2), (6, .long x27), (8, .long x44)] (sbc 0 rfl (sbc 1 rfl (sbc 3 rfl (sbc 4 rfl sbn)))) ?_
                exact HK46 _ _ hf
              · replace hf := it_n h49 hf
                refine v_lload hX dX9_odds_242 4 rfl 244 rfl ?_
                refine v_aload_n hX dX9_odds_244 rfl 0 rfl 245 rfl ?_
                refine gf_52_33 hX q_120 dX9_odds_245 248 rfl ?_
                refine v_iload hX dX9_odds_248 5 rfl 250 rfl ?_
                obtain ⟨hi48, hf⟩ := gd_e hf
                refine al_69 hX hi48 dX9_odds_250 (c29 x45.toNatClampNeg) rfl 251 rfl ?_
                refine v_ladd hX dX9_odds_251 252 rfl ?_
                refine v_lstore hX dX9_odds_252 (ltn hn (by decide)) 254 rfl [(8, .long (x44 + (c29 x45.toNatClampNeg))), (0, .ref (aX X 52)), (2, .int p2), (3, .int x3), (6, .long x27), (10, .int x45)] rfl ?_
                refine v_inc (c := (1 : Int32)) hX dX9_odds_254 5 rfl (by decide) (ltn hn (by decide)) 257 rfl [(10, .int (x45 + (1 : Int32))), (8, .long (x44 + (c29 x45.toNatClampNeg))), (0, .ref (aX X 52)), (2, .int p2), (3, .int x3), (6, .long x27)] rfl ?_
                refine v_goto hX dX9_odds_257 236 rfl ?_
                refine v_sub [(0, .ref (aX X 52)), (2, .int p2), (3, .int x3), (6, .long x27), (8, .long (x44 + (c29 x45.toNatClampNeg))), (10, .int (x45 + (1 : Int32)))] (sbc 2 rfl (sbc 3 rfl (sbc 4 rfl (sbc 5 rfl (sbc 1 rfl (sbc 0 rfl sbn)))))) ?_
                exact ih _ _ hf
          refine v_sub [(0, .ref (aX X 52)), (2, .int p2), (3, .int x3), (6, .long x27), (8, .long (0 : Int64)), (10, .int x4)] (sbc 2 rfl (sbc 3 rfl (sbc 4 rfl (sbc 6 rfl (sbc 1 rfl (sbc 0 rfl sbn)))))) ?_
          exact HLK46 _ _ _ hf
        have HLK30 : ∀ (n31 : Nat) (x27 : Int64) (x28 : Int32) (c29 : (Nat → Int64)), f9_odds_L134 (g 53) (g 54) p1 x3 n31 x27 x28 c29 K30 = some res → VC X r g (lkp u [(1, (u 1)), (2, (u 2))]) (lkp h [(69, c29)]) [(0, .ref (aX X 52)), (2, .int p2), (3, .int x3), (4, .int x4), (5, .int ((g 53) ((g 54) p1.toNatClampNeg).toNatClampNeg)), (6, .long x27), (8, .int x28)] [] 134 := by
          intro n31
          induction n31 with
          | zero => intro x27 x28 c29 hf; exact no_s hf
          | succ n31 ih =>
            intro x27 x28 c29 hf
            rw [f9_odds_L134] at hf
            refine v_iload hX dX9_odds_134 6 rfl 136 rfl ?_
            refine v_iload_n hX dX9_odds_136 rfl 2 rfl 137 rfl ?_
            refine v_icmp_ge hX dX9_odds_137 229 rfl 140 rfl (fun h43 => ?_) (fun h43 => ?_)
            · replace hf := it_p h43 hf
              refine v_sub [(0, .ref (aX X 52)), (2, .int p2), (3, .int x3), (4, .int x4), (6, .long x27)] (sbc 0 rfl (sbc 1 rfl (sbc 2 rfl (sbc 3 rfl (sbc 5 rfl sbn))))) ?_
              exact HK30 _ _ _ hf
            · replace hf := it_n h43 hf
              refine v_aload_n hX dX9_odds_140 rfl 0 rfl 141 rfl ?_
              refine gf_52_33 hX q_120 dX9_odds_141 144 rfl ?_
              refine v_iload hX dX9_odds_144 6 rfl 146 rfl ?_
              refine v_iconst (v := (1 : Int32)) hX dX9_odds_146 (by decide) 147 rfl ?_
              refine v_iadd hX dX9_odds_147 148 rfl ?_
              refine v_lconst (v := (0 : Int64)) hX dX9_odds_148 (by decide) 149 rfl ?_
              obtain ⟨hi32, hf⟩ := gd_e hf
              refine as_69 hX hi32 dX9_odds_149 150 rfl c29 rfl [(69, (vp_updL c29 (x28 + (1 : Int32)).toNatClampNeg (0 : Int64)))] rfl ?_
              refine v_iload hX dX9_odds_150 6 rfl 152 rfl ?_
              refine v_iconst (v := (1 : Int32)) hX dX9_odds_152 (by decide) 153 rfl ?_
              refine v_iadd hX dX9_odds_153 154 rfl ?_
              refine v_istore hX dX9_odds_154 (ltn hn (by decide)) 156 rfl [(9, .int (x28 + (1 : Int32))), (0, .ref (aX X 52)), (2, .int p2), (3, .int x3), (4, .int x4), (5, .int ((g 53) ((g 54) p1.toNatClampNeg).toNatClampNeg)), (6, .long x27), (8, .int x28)] rfl ?_
              obtain ⟨K35, hK35, hf⟩ := jn_x hf
              have HK35 : ∀ (x33 : Int32) (c34 : (Nat → Int64)), K35 x33 c34 = some res → VC X r g (lkp u [(1, (u 1)), (2, (u 2))]) (lkp h [(69, c34)]) [(0, .ref (aX X 52)), (2, .int p2), (3, .int x3), (4, .int x4), (5, .int ((g 53) ((g 54) p1.toNatClampNeg).toNatClampNeg)), (6, .long x27), (8, .int x28)] [] 201 := by
                intro x33 c34 hf
                rw [hK35] at hf
                refine v_aload_n hX dX9_odds_201 rfl 0 rfl 202 rfl ?_
                refine gf_52_33 hX q_120 dX9_odds_202 205 rfl ?_
                refine v_iconst (v := (0 : Int32)) hX dX9_odds_205 (by decide) 206 rfl ?_
                refine v_dup2 hX dX9_odds_206 rfl rfl 207 rfl ?_
                obtain ⟨hi41, hf⟩ := gd_e hf
                refine al_69 hX hi41 dX9_odds_207 (c34 (0 : Int32).toNatClampNeg) rfl 208 rfl ?_
                refine v_iload hX dX9_odds_208 4 rfl 210 rfl ?_
                refine v_iconst (v := (4 : Int32)) hX dX9_odds_210 (by decide) 211 rfl ?_
                refine v_isub hX dX9_odds_211 212 rfl ?_
                refine v_i2l hX dX9_odds_212 213 rfl ?_
                refine v_lmul hX dX9_odds_213 214 rfl ?_
                obtain ⟨hi42, hf⟩ := gd_e hf
                refine as_69 hX hi42 dX9_odds_214 215 rfl c34 rfl [(69, (vp_updL c34 (0 : Int32).toNatClampNeg ((c34 (0 : Int32).toNatClampNeg) * ((((g 53) ((g 54) p1.toNatClampNeg).toNatClampNeg) - (4 : Int32))).toInt64)))] rfl ?_
                refine v_lload hX dX9_odds_215 5 rfl 217 rfl ?_
                refine v_iload hX dX9_odds_217 4 rfl 219 rfl ?_
                refine v_i2l hX dX9_odds_219 220 rfl ?_
                refine v_lmul hX dX9_odds_220 221 rfl ?_
                refine v_lstore hX dX9_odds_221 (ltn hn (by decide)) 223 rfl [(6, .long (x27 * (((g 53) ((g 54) p1.toNatClampNeg).toNatClampNeg)).toInt64)), (0, .ref (aX X 52)), (2, .int p2), (3, .int x3), (4, .int x4), (5, .int ((g 53) ((g 54) p1.toNatClampNeg).toNatClampNeg)), (8, .int x28)] rfl ?_
                refine v_inc (c := (1 : Int32)) hX dX9_odds_223 6 rfl (by decide) (ltn hn (by decide)) 226 rfl [(8, .int (x28 + (1 : Int32))), (6, .long (x27 * (((g 53) ((g 54) p1.toNatClampNeg).toNatClampNeg)).toInt64)), (0, .ref (aX X 52)), (2, .int p2), (3, .int x3), (4, .int x4), (5, .int ((g 53) ((g 54) p1.toNatClampNeg).toNatClampNeg))] rfl ?_
                refine v_goto hX dX9_odds_226 134 rfl ?_
                refine v_sub [(0, .ref (aX X 52)), (2, .int p2), (3, .int x3), (4, .int x4), (5, .int ((g 53) ((g 54) p1.toNatClampNeg).toNatClampNeg)), (6, .long (x27 * (((g 53) ((g 54) p1.toNatClampNeg).toNatClampNeg)).toInt64)), (8, .int (x28 + (1 : Int32)))] (sbc 2 rfl (sbc 3 rfl (sbc 4 rfl (sbc 5 rfl (sbc 6 rfl (sbc 1 rfl (sbc 0 rfl sbn))))))) ?_
                exact ih _ _ _ hf
              have HLK35 : ∀ (n36 : Nat) (x33 : Int32) (c34 : (Nat → Int64)), f9_odds_L156 (g 53) (g 54) p1 n36 x33 c34 K35 = some res → VC X r g (lkp u [(1, (u 1)), (2, (u 2))]) (lkp h [(69, c34)]) [(0, .ref (aX X 52)), (2, .int p2), (3, .int x3), (4, .int x4), (5, .int ((g 53) ((g 54) p1.toNatClampNeg).toNatClampNeg)), (6, .long x27), (8, .int x28), (9, .int x33)] [] 156 := by
                intro n36
                induction n36 with
                | zero => intro x33 c34 hf; exact no_s hf
                | succ n36 ih =>
                  intro x33 c34 hf
                  rw [f9_odds_L156] at hf
                  refine v_iload hX dX9_odds_156 7 rfl 158 rfl ?_
                  refine v_if_le hX dX9_odds_158 201 rfl 161 rfl (fun h40 => ?_) (fun h40 => ?_)
                  · replace hf := it_p h40 hf
                    refine v_sub [(0, .ref (aX X 52)), (2, .int p2), (3, .int x3), (4, .int x4), (5, .int ((g 53) ((g 54) p1.toNatClampNeg).toNatClampNeg)), (6, .long x27), (8, .int x28)] (sbc 0 rfl (sbc 1 rfl (sbc 2 rfl (sbc 3 rfl (sbc 4 rfl (sbc 5 rfl (sbc 6 rfl sbn))))))) ?_
                    exact HK35 _ _ hf
                  · replace hf := it_n h40 hf
                    refine v_aload_n hX dX9_odds_161 rfl 0 rfl 162 rfl ?_
                    refine gf_52_33 hX q_120 dX9_odds_162 165 rfl ?_
                    refine v_iload hX dX9_odds_165 7 rfl 167 rfl ?_
                    refine v_aload_n hX dX9_odds_167 rfl 0 rfl 168 rfl ?_
                    refine gf_52_33 hX q_120 dX9_odds_168 171 rfl ?_
                    refine v_iload hX dX9_odds_171 7 rfl 173 rfl ?_
                    obtain ⟨hi37, hf⟩ := gd_e hf
                    refine al_69 hX hi37 dX9_odds_173 (c34 x33.toNatClampNeg) rfl 174 rfl ?_
                    refine v_iload hX dX9_odds_174 4 rfl 176 rfl ?_
                    refine v_iconst (v := (4 : Int32)) hX dX9_odds_176 (by decide) 177 rfl ?_
                    refine v_isub hX dX9_odds_177 178 rfl ?_
                    refine v_i2l hX dX9_odds_178 179 rfl ?_
                    refine v_lmul hX dX9_odds_179 180 rfl ?_
                    refine v_aload_n hX dX9_odds_180 rfl 0 rfl 181 rfl ?_
                    refine gf_52_33 hX q_120 dX9_odds_181 184 rfl ?_
                    refine v_iload hX dX9_odds_184 7 rfl 186 rfl ?_
                    refine v_iconst (v := (1 : Int32)) hX dX9_odds_186 (by decide) 187 rfl ?_
                    refine v_isub hX dX9_odds_187 188 rfl ?_
                    obtain ⟨hi38, hf⟩ := gd_e hf
                    refine al_69 hX hi38 dX9_odds_188 (c34 (x33 - (1 : Int32)).toNatClampNeg) rfl 189 rfl ?_
                    refine v_ldc2 (v := (4 : Int64)) hX q_798 dX9_odds_189 192 rfl ?_
                    refine v_lmul hX dX9_odds_192 193 rfl ?_
                    refine v_ladd hX dX9_odds_193 194 rfl ?_
                    obtain ⟨hi39, hf⟩ := gd_e hf
                    refine as_69 hX hi39 dX9_odds_194 195 rfl c34 rfl [(69, (vp_updL c34 x33.toNatClampNeg (((c34 x33.toNatClampNeg) * ((((g 53) ((g 54) p1.toNatClampNeg).toNatClampNeg) - (4 : Int32))).toInt64) + ((c34 (x33 - (1 : Int32)).toNatClampNeg) * (4 : Int64)))))] rfl ?_
                    refine v_inc (c := (-1 : Int32)) hX dX9_odds_195 7 rfl (by decide) (ltn hn (by decide)) 198 rfl [(9, .int (x33 + (-1 : Int32))), (0, .ref (aX X 52)), (2, .int p2), (3, .int x3), (4, .int x4), (5, .int ((g 53) ((g 54) p1.toNatClampNeg).toNatClampNeg)), (6, .long x27), (8, .int x28)] rfl ?_
                    refine v_goto hX dX9_odds_198 156 rfl ?_
                    refine v_sub [(0, .ref (aX X 52)), (2, .int p2), (3, .int x3), (4, .int x4), (5, .int ((g 53) ((g 54) p1.toNatClampNeg).toNatClampNeg)), (6, .long x27), (8, .int x28), (9, .int (x33 + (-1 : Int32)))] (sbc 1 rfl (sbc 2 rfl (sbc 3 rfl (sbc 4 rfl (sbc 5 rfl (sbc 6 rfl (sbc 7 rfl (sbc 0 rfl sbn)))))))) ?_
                    exact ih _ _ hf
              refine v_sub [(0, .ref (aX X 52)), (2, .int p2), (3, .int x3), (4, .int x4), (5, .int ((g 53) ((g 54) p1.toNatClampNeg).toNatClampNeg)), (6, .long x27), (8, .int x28), (9, .int (x28 + (1 : Int32)))] (sbc 1 rfl (sbc 2 rfl (sbc 3 rfl (sbc 4 rfl (sbc 5 rfl (sbc 6 rfl (sbc 7 rfl (sbc 0 rfl sbn)))))))) ?_
              exact HLK35 _ _ _ hf
        refine v_sub [(0, .ref (aX X 52)), (2, .int p2), (3, .int x3), (4, .int x4), (5, .int ((g 53) ((g 54) p1.toNatClampNeg).toNatClampNeg)), (6, .long (1 : Int64)), (8, .int (0 : Int32))] (sbc 3 rfl (sbc 5 rfl (sbc 6 rfl (sbc 7 rfl (sbc 2 rfl (sbc 1 rfl (sbc 0 rfl sbn))))))) ?_
        exact HLK30 _ _ _ _ hf
      have HLK6 : ∀ (n7 : Nat) (x3 : Int32) (x4 : Int32) (x5 : Int32), f9_odds_L27 (r 31) (g 57) (g 56) (g 54) p1 n7 x3 x4 x5 K6 = some res → VC X r g (lkp u [(1, (u 1)), (2, (u 2))]) (lkp h [(69, (h 69))]) [(0, .ref (aX X 52)), (1, .int p1), (2, .int p2), (3, .int x3), (4, .int x4), (5, .int x5)] [] 27 := by
        intro n7
        induction n7 with
        | zero => intro x3 x4 x5 hf; exact no_s hf
        | succ n7 ih =>
          intro x3 x4 x5 hf
          rw [f9_odds_L27] at hf
          refine v_iload hX dX9_odds_27 5 rfl 29 rfl ?_
          refine v_aload_n hX dX9_odds_29 rfl 0 rfl 30 rfl ?_
          refine gf_52_5 hX q_462 dX9_odds_30 ((r 31)) rfl 33 rfl ?_
          refine v_icmp_ge hX dX9_odds_33 108 rfl 36 rfl (fun h23 => ?_) (fun h23 => ?_)
          · replace hf := it_p h23 hf
            refine v_sub [(0, .ref (aX X 52)), (1, .int p1), (2, .int p2), (3, .int x3), (4, .int x4)] (sbc 0 rfl (sbc 1 rfl (sbc 2 rfl (sbc 3 rfl (sbc 4 rfl sbn))))) ?_
            exact HK6 _ _ _ hf
          · replace hf := it_n h23 hf
            refine v_aload_n hX dX9_odds_36 rfl 0 rfl 37 rfl ?_
            refine v_iload hX dX9_odds_37 5 rfl 39 rfl ?_
            refine v_iconst (v := (2 : Int32)) hX dX9_odds_39 (by decide) 40 rfl ?_
            obtain ⟨v8, hv8, hf⟩ := bn1_e hf
            refine cv_i hX (c9_its r g (lkp u [(1, (u 1)), (2, (u 2))]) (lkp h [(69, (h 69))]) _ _ hv8) wvX9_its q_471 rc_52 (Nat.le_of_ble_eq_true rfl) (Nat.le_of_ble_eq_true rfl) (fun _ => rfl) [] rfl (Nat.le_of_ble_eq_true rfl) dX9_odds_40 43 rfl ?_
            refine v_aload_n hX dX9_odds_43 rfl 0 rfl 44 rfl ?_
            refine gf_52_2 hX q_104 dX9_odds_44 47 rfl ?_
            refine v_iload_n hX dX9_odds_47 rfl 1 rfl 48 rfl ?_
            obtain ⟨hi9, hf⟩ := gd_e hf
            refine al_54 hX hi9 dX9_odds_48 ((g 54) p1.toNatClampNeg) rfl 49 rfl ?_
            obtain ⟨J10, hJ10, hf⟩ := jn_x hf
            have HJ10 : ∀ (s11 : Int32), J10 s11 = some res → VC X r g (lkp u [(1, (u 1)), (2, (u 2))]) (lkp h [(69, (h 69))]) [(0, .ref (aX X 52)), (1, .int p1), (2, .int p2), (3, .int x3), (4, .int x4), (5, .int x5)] [.int s11] 57 := by
              intro s11 hf
              rw [hJ10] at hf
              refine v_istore hX dX9_odds_57 (ltn hn (by decide)) 59 rfl [(6, .int s11), (0, .ref (aX X 52)), (1, .int p1), (2, .int p2), (3, .int x3), (4, .int x4), (5, .int x5)] rfl ?_
              refine v_iload_n hX dX9_odds_59 rfl 4 rfl 60 rfl ?_
              refine v_iload hX dX9_odds_60 0 rfl 62 rfl ?_
              obtain ⟨J12, hJ12, hf⟩ := jn_x hf
              have HJ12 : ∀ (s13 : Int32), J12 s13 = some res → VC X r g (lkp u [(1, (u 1)), (2, (u 2))]) (lkp h [(69, (h 69))]) [(0, .ref (aX X 52)), (1, .int p1), (2, .int p2), (4, .int x4), (5, .int x5), (6, .int s11)] [.int s13, .int x3] 70 := by
                intro s13 hf
                rw [hJ12] at hf
                refine v_iadd hX dX9_odds_70 71 rfl ?_
                refine v_istore_n hX dX9_odds_71 rfl (ltn hn (by decide)) 72 rfl [(3, .int (x3 + s13)), (0, .ref (aX X 52)), (1, .int p1), (2, .int p2), (4, .int x4), (5, .int x5), (6, .int s11)] rfl ?_
                refine v_iload hX dX9_odds_72 4 rfl 74 rfl ?_
                refine v_iload hX dX9_odds_74 6 rfl 76 rfl ?_
                obtain ⟨J14, hJ14, hf⟩ := jn_x hf
                have HJ14 : ∀ (s15 : Int32), J14 s15 = some res → VC X r g (lkp u [(1, (u 1)), (2, (u 2))]) (lkp h [(69, (h 69))]) [(0, .ref (aX X 52)), (1, .int p1), (2, .int p2), (3, .int (x3 + s13)), (5, .int x5)] [.int s15, .int x4] 99 := by
                  intro s15 hf
                  rw [hJ14] at hf
                  refine v_iadd hX dX9_odds_99 100 rfl ?_
                  refine v_istore hX dX9_odds_100 (ltn hn (by decide)) 102 rfl [(4, .int (x4 + s15)), (0, .ref (aX X 52)), (1, .int p1), (2, .int p2), (3, .int (x3 + s13)), (5, .int x5)] rfl ?_
                  refine v_inc (c := (1 : Int32)) hX dX9_odds_102 5 rfl (by decide) (ltn hn (by decide)) 105 rfl [(5, .int (x5 + (1 : Int32))), (4, .int (x4 + s15)), (0, .ref (aX X 52)), (1, .int p1), (2, .int p2), (3, .int (x3 + s13))] rfl ?_
                  refine v_goto hX dX9_odds_105 27 rfl ?_
                  refine v_sub [(0, .ref (aX X 52)), (1, .int p1), (2, .int p2), (3, .int (x3 + s13)), (4, .int (x4 + s15)), (5, .int (x5 + (1 : Int32)))] (sbc 2 rfl (sbc 3 rfl (sbc 4 rfl (sbc 5 rfl (sbc 1 rfl (sbc 0 rfl sbn)))))) ?_
                  exact ih _ _ _ hf
                obtain ⟨J16, hJ16, hf⟩ := jn_x hf
                have HJ16 : J16 = some res → VC X r g (lkp u [(1, (u 1)), (2, (u 2))]) (lkp h [(69, (h 69))]) [(0, .ref (aX X 52)), (1, .int p1), (2, .int p2), (3, .int (x3 + s13)), (5, .int x5)] [.int x4] 98 := by
                  intro hf
                  rw [hJ16] at hf
                  refine v_iconst (v := (0 : Int32)) hX dX9_odds_98 (by decide) 99 rfl ?_
                  exact HJ14 _ hf
                refine v_if_eq hX dX9_odds_76 98 rfl 79 rfl (fun h20 => ?_) (fun h20 => ?_)
                · replace hf := it_p h20 hf
                  refine v_sub [(0, .ref (aX X 52)), (1, .int p1), (2, .int p2), (3, .int (x3 + s13)), (5, .int x5)] (sbc 1 rfl (sbc 2 rfl (sbc 3 rfl (sbc 0 rfl (sbc 5 rfl sbn))))) ?_
                  exact HJ16  hf
                · replace hf := it_n h20 hf
                  refine v_aload_n hX dX9_odds_79 rfl 1 rfl 80 rfl ?_
                  refine v_iload hX dX9_odds_80 5 rfl 82 rfl ?_
                  refine v_aload_n hX dX9_odds_82 rfl 1 rfl 83 rfl ?_
                  refine gf_52_4 hX q_106 dX9_odds_83 86 rfl ?_
                  refine v_iload_n hX dX9_odds_86 rfl 2 rfl 87 rfl ?_
                  obtain ⟨hi17, hf⟩ := gd_e hf
                  refine al_56 hX hi17 dX9_odds_87 ((g 56) p1.toNatClampNeg) rfl 88 rfl ?_
                  obtain ⟨v18, hv18, hf⟩ := bn1_e hf
                  refine cv_i hX (c9_placesOf r g (lkp u [(1, (u 1)), (2, (u 2))]) (lkp h [(69, (h 69))]) _ _ hv18) wvX9_placesOf q_463 rc_52 (Nat.le_of_ble_eq_true rfl) (Nat.le_of_ble_eq_true rfl) (fun _ => rfl) [.int x4] rfl (Nat.le_of_ble_eq_true rfl) dX9_odds_88 91 rfl ?_
                  refine v_if_eq hX dX9_odds_91 98 rfl 94 rfl (fun h19 => ?_) (fun h19 => ?_)
                  · replace hf := it_p h19 hf
                    refine v_sub [(0, .ref (aX X 52)), (1, .int p1), (2, .int p2), (3, .int (x3 + s13)), (5, .int x5)] (sbc 1 rfl (sbc 2 rfl (sbc 3 rfl (sbc 0 rfl (sbc 5 rfl sbn))))) ?_
                    exact HJ16  hf
                  · replace hf := it_n h19 hf
                    refine v_iconst (v := (1 : Int32)) hX dX9_odds_94 (by decide) 95 rfl ?_
                    refine v_goto hX dX9_odds_95 99 rfl ?_
                    refine v_sub [(0, .ref (aX X 52)), (1, .int p1), (2, .int p2), (3, .int (x3 + s13)), (5, .int x5)] (sbc 1 rfl (sbc 2 rfl (sbc 3 rfl (sbc 0 rfl (sbc 5 rfl sbn))))) ?_
                    exact HJ14 _ hf
              refine v_if_eq hX dX9_odds_62 69 rfl 65 rfl (fun h21 => ?_) (fun h21 => ?_)
              · replace hf := it_p h21 hf
                refine v_iconst (v := (0 : Int32)) hX dX9_odds_69 (by decide) 70 rfl ?_
                refine v_sub [(0, .ref (aX X 52)), (1, .int p1), (2, .int p2), (4, .int x4), (5, .int x5), (6, .int s11)] (sbc 1 rfl (sbc 2 rfl (sbc 3 rfl (sbc 5 rfl (sbc 6 rfl (sbc 0 rfl sbn)))))) ?_
                exact HJ12 _ hf
              · replace hf := it_n h21 hf
                refine v_iconst (v := (1 : Int32)) hX dX9_odds_65 (by decide) 66 rfl ?_
                refine v_goto hX dX9_odds_66 70 rfl ?_
                refine v_sub [(0, .ref (aX X 52)), (1, .int p1), (2, .int p2), (4, .int x4), (5, .int x5), (6, .int s11)] (sbc 1 rfl (sbc 2 rfl (sbc 3 rfl (sbc 5 rfl (sbc 6 rfl (sbc 0 rfl sbn)))))) ?_
                exact HJ12 _ hf
            refine v_icmp_ne hX dX9_odds_49 56 rfl 52 rfl (fun h22 => ?_) (fun h22 => ?_)
            · replace hf := it_n h22 hf
              refine v_iconst (v := (0 : Int32)) hX dX9_odds_56 (by decide) 57 rfl ?_
              exact HJ10 _ hf
            · replace hf := it_p h22 hf
              refine v_iconst (v := (1 : Int32)) hX dX9_odds_52 (by decide) 53 rfl ?_
              refine v_goto hX dX9_odds_53 57 rfl ?_
              exact HJ10 _ hf
      refine v_sub [(0, .ref (aX X 52)), (1, .int p1), (2, .int p2), (3, .int (0 : Int32)), (4, .int (0 : Int32)), (5, .int (0 : Int32))] (sbc 3 rfl (sbc 4 rfl (sbc 5 rfl (sbc 2 rfl (sbc 1 rfl (sbc 0 rfl sbn)))))) ?_
      exact HLK6 _ _ _ _ hf
    · replace hf := it_p h53 hf
      refine v_ldc2 (v := (-1 : Int64)) hX q_320 dX9_odds_15 18 rfl ?_
      exact hR _ hf _ _ dX9_odds_18
set_option maxRecDepth 100000 in
set_option maxHeartbeats 4000000 in
theorem c9_person (r : Nat → Int32) (g : Nat → Nat → Int32) (u : Nat → Int64) (h : Nat → Nat → Int64) (p1 : Int32) (p2 : Int32) {res : Int32 × Int32 × (Nat → Int32) × (Nat → Int32) × (Nat → Int32)} (hf : f9_person (r 30) (g 55) (g 56) (g 54) p1 p2 = some res) : MAi yX9_person cX9_person 3 (some .int) 1 (fun a => [.ref (a 52), .int p1, .int p2]) r g u h res.1 (lkp r [(30, res.2.1)]) (lkp g [(55, res.2.2.1), (56, res.2.2.2.1), (54, res.2.2.2.2)]) u h := by
  refine mi_i (by decide +kernel) (fun a => Nat.le_of_ble_eq_true rfl) (fun X hX hn hR => ?_)
  replace hR : ∀ q : Int32 × Int32 × (Nat → Int32) × (Nat → Int32) × (Nat → Int32), some q = some res → ∀ lv pc, decode cX9_person pc = .ok (.ireturn, 1) → narrow .int (.int q.1) = .int q.1 → VC X (lkp r [(30, q.2.1)]) (lkp g [(55, q.2.2.1), (56, q.2.2.2.1), (54, q.2.2.2.2)]) u h lv [.int q.1] pc := fun q hq => by cases hq; exact hR
  replace hX : CX X RX9 cX9_person 1 := hX
  refine v_opr [30] [(30, r 30)] rfl ?_
  refine v_opg [55, 56, 54] [(55, g 55), (56, g 56), (54, g 54)] rfl ?_
  show VC X (lkp r [(30, r 30)]) (lkp g [(55, g 55), (56, g 56), (54, g 54)]) u h [(0, .ref (aX X 52)), (1, .int p1), (2, .int p2)] [] 0
  rw [f9_person] at hf
  refine v_iload_n hX dX9_person_0 rfl 1 rfl 1 rfl ?_
  refine v_iconst (v := (0 : Int32)) hX dX9_person_1 (by decide) 2 rfl ?_
  refine v_iconst (v := (3 : Int32)) hX dX9_person_2 (by decide) 3 rfl ?_
  obtain ⟨v1, hv1, hf⟩ := bn1_e hf
  refine cs_i hX (c9_in (lkp r [(30, (r 30))]) (lkp g [(55, (g 55)), (56, (g 56)), (54, (g 54))]) u h _ _ _ hv1) wvX9_in q_150 (Nat.le_of_ble_eq_true rfl) (Nat.le_of_ble_eq_true rfl) (fun _ => rfl) [] rfl (Nat.le_of_ble_eq_true rfl) dX9_person_3 6 rfl ?_
  refine v_if_ne hX dX9_person_6 11 rfl 9 rfl (fun h9 => ?_) (fun h9 => ?_)
  · replace hf := it_n h9 hf
    refine v_aload_n hX dX9_person_11 rfl 0 rfl 12 rfl ?_
    refine gf_52_1 hX q_409 dX9_person_12 ((r 30)) rfl 15 rfl ?_
    refine v_bipush (v := (10 : Int32)) hX dX9_person_15 (by decide) 17 rfl ?_
    refine v_icmp_ne hX dX9_person_17 23 rfl 20 rfl (fun h8 => ?_) (fun h8 => ?_)
    · replace hf := it_n h8 hf
      refine v_aload_n hX dX9_person_23 rfl 0 rfl 24 rfl ?_
      refine gf_52_2 hX q_104 dX9_person_24 27 rfl ?_
      refine v_aload_n hX dX9_person_27 rfl 0 rfl 28 rfl ?_
      refine gf_52_1 hX q_409 dX9_person_28 ((r 30)) rfl 31 rfl ?_
      refine v_iload_n hX dX9_person_31 rfl 1 rfl 32 rfl ?_
      obtain ⟨hi2, hf⟩ := gd_e hf
      refine as_54 hX hi2 dX9_person_32 33 rfl (g 54) rfl [(55, (g 55)), (56, (g 56)), (54, (upd (g 54) (r 30).toNatClampNeg p1))] rfl ?_
      refine v_aload_n hX dX9_person_33 rfl 0 rfl 34 rfl ?_
      refine gf_52_3 hX q_105 dX9_person_34 37 rfl ?_
      refine v_aload_n hX dX9_person_37 rfl 0 rfl 38 rfl ?_
      refine gf_52_1 hX q_409 dX9_person_38 ((r 30)) rfl 41 rfl ?_
      refine v_iload_n hX dX9_person_41 rfl 2 rfl 42 rfl ?_
      obtain ⟨J3, hJ3, hf⟩ := jn_x hf
      have HJ3 : ∀ (s4 : Int32), J3 s4 = some res → VC X (lkp r [(30, (r 30))]) (lkp g [(55, (g 55)), (56, (g 56)), (54, (upd (g 54) (r 30).toNatClampNeg p1))]) u h [(0, .ref (aX X 52))] [.int s4, .int (r 30), .ref (aX X 55)] 50 := by
        intro s4 hf
        rw [hJ3] at hf
        obtain ⟨hi5, hf⟩ := gd_e hf
        refine as_55 hX hi5 dX9_person_50 51 rfl (g 55) rfl [(55, (upd (g 55) (r 30).toNatClampNeg s4)), (56, (g 56)), (54, (upd (g 54) (r 30).toNatClampNeg p1))] rfl ?_
        refine v_aload_n hX dX9_person_51 rfl 0 rfl 52 rfl ?_
        refine gf_52_4 hX q_106 dX9_person_52 55 rfl ?_
        refine v_aload_n hX dX9_person_55 rfl 0 rfl 56 rfl ?_
        refine gf_52_1 hX q_409 dX9_person_56 ((r 30)) rfl 59 rfl ?_
        refine v_aload_n hX dX9_person_59 rfl 0 rfl 60 rfl ?_
        refine gf_52_1 hX q_409 dX9_person_60 ((r 30)) rfl 63 rfl ?_
        obtain ⟨hi6, hf⟩ := gd_e hf
        refine as_56 hX hi6 dX9_person_63 64 rfl (g 56) rfl [(55, (upd (g 55) (r 30).toNatClampNeg s4)), (56, (upd (g 56) (r 30).toNatClampNeg (r 30))), (54, (upd (g 54) (r 30).toNatClampNeg p1))] rfl ?_
        refine v_aload_n hX dX9_person_64 rfl 0 rfl 65 rfl ?_
        refine v_dup hX dX9_person_65 rfl 66 rfl ?_
        refine gf_52_1 hX q_409 dX9_person_66 ((r 30)) rfl 69 rfl ?_
        refine v_iconst (v := (1 : Int32)) hX dX9_person_69 (by decide) 70 rfl ?_
        refine v_iadd hX dX9_person_70 71 rfl ?_
        refine pf_52_1 hX q_409 dX9_person_71 74 rfl [(30, ((r 30) + (1 : Int32)))] rfl ?_
        refine v_aload_n hX dX9_person_74 rfl 0 rfl 75 rfl ?_
        refine gf_52_1 hX q_409 dX9_person_75 (((r 30) + (1 : Int32))) rfl 78 rfl ?_
        refine v_iconst (v := (1 : Int32)) hX dX9_person_78 (by decide) 79 rfl ?_
        refine v_isub hX dX9_person_79 80 rfl ?_
        exact hR _ hf _ _ dX9_person_80 rfl
      refine v_if_eq hX dX9_person_42 49 rfl 45 rfl (fun h7 => ?_) (fun h7 => ?_)
      · replace hf := it_p h7 hf
        refine v_iconst (v := (0 : Int32)) hX dX9_person_49 (by decide) 50 rfl ?_
        refine v_sub [(0, .ref (aX X 52))] (sbc 0 rfl sbn) ?_
        exact HJ3 _ hf
      · replace hf := it_n h7 hf
        refine v_iconst (v := (1 : Int32)) hX dX9_person_45 (by decide) 46 rfl ?_
        refine v_goto hX dX9_person_46 50 rfl ?_
        refine v_sub [(0, .ref (aX X 52))] (sbc 0 rfl sbn) ?_
        exact HJ3 _ hf
    · replace hf := it_p h8 hf
      refine v_bipush (v := (-2 : Int32)) hX dX9_person_20 (by decide) 22 rfl ?_
      exact hR _ hf _ _ dX9_person_22 rfl
  · replace hf := it_p h9 hf
    refine v_iconst (v := (-1 : Int32)) hX dX9_person_9 (by decide) 10 rfl ?_
    exact hR _ hf _ _ dX9_person_10 rfl
set_option maxRecDepth 100000 in
set_option maxHeartbeats 4000000 in
theorem c9_claimsOf (r : Nat → Int32) (g : Nat → Nat → Int32) (u : Nat → Int64) (h : Nat → Nat → Int64) (p1 : Int32) {res : Int32} (hf : f9_claimsOf (r 31) (g 57) (g 56) p1 = some res) : MAi yX9_claimsOf cX9_claimsOf 4 (some .int) 3 (fun a => [.ref (a 52), .int p1]) r g u h res r g u h := by
  refine mi_i (by decide +kernel) (fun a => Nat.le_of_ble_eq_true rfl) (fun X hX hn hR => ?_)
  replace hR : ∀ q : Int32, some q = some res → ∀ lv pc, decode cX9_claimsOf pc = .ok (.ireturn, 1) → narrow .int (.int q) = .int q → VC X r g u h lv [.int q] pc := fun q hq => by cases hq; exact hR
  replace hX : CX X RX9 cX9_claimsOf 3 := hX
  show VC X r g u h [(0, .ref (aX X 52)), (1, .int p1)] [] 0
  rw [f9_claimsOf] at hf
  refine v_iconst (v := (0 : Int32)) hX dX9_claimsOf_0 (by decide) 1 rfl ?_
  refine v_istore_n hX dX9_claimsOf_1 rfl (ltn hn (by decide)) 2 rfl [(2, .int (0 : Int32)), (0, .ref (aX X 52)), (1, .int p1)] rfl ?_
  refine v_iconst (v := (0 : Int32)) hX dX9_claimsOf_2 (by decide) 3 rfl ?_
  refine v_istore_n hX dX9_claimsOf_3 rfl (ltn hn (by decide)) 4 rfl [(3, .int (0 : Int32)), (2, .int (0 : Int32)), (0, .ref (aX X 52)), (1, .int p1)] rfl ?_
  obtain ⟨K3, hK3, hf⟩ := jn_x hf
  have HK3 : ∀ (x1 : Int32) (x2 : Int32), K3 x1 x2 = some res → VC X r g u h [(2, .int x1)] [] 35 := by
    intro x1 x2 hf
    rw [hK3] at hf
    refine v_iload_n hX dX9_claimsOf_35 rfl 0 rfl 36 rfl ?_
    exact hR _ hf _ _ dX9_claimsOf_36 rfl
  have HLK3 : ∀ (n4 : Nat) (x1 : Int32) (x2 : Int32), f9_claimsOf_L4 (r 31) (g 57) (g 56) p1 n4 x1 x2 K3 = some res → VC X r g u h [(0, .ref (aX X 52)), (1, .int p1), (2, .int x1), (3, .int x2)] [] 4 := by
    intro n4
    induction n4 with
    | zero => intro x1 x2 hf; exact no_s hf
    | succ n4 ih =>
      intro x1 x2 hf
      rw [f9_claimsOf_L4] at hf
      refine v_iload_n hX dX9_claimsOf_4 rfl 3 rfl 5 rfl ?_
      refine v_aload_n hX dX9_claimsOf_5 rfl 0 rfl 6 rfl ?_
      refine gf_52_5 hX q_462 dX9_claimsOf_6 ((r 31)) rfl 9 rfl ?_
      refine v_icmp_ge hX dX9_claimsOf_9 35 rfl 12 rfl (fun h9 => ?_) (fun h9 => ?_)
      · replace hf := it_p h9 hf
        refine v_sub [(2, .int x1)] (sbc 2 rfl sbn) ?_
        exact HK3 _ _ hf
      · replace hf := it_n h9 hf
        refine v_iload_n hX dX9_claimsOf_12 rfl 2 rfl 13 rfl ?_
        refine v_aload_n hX dX9_claimsOf_13 rfl 0 rfl 14 rfl ?_
        refine v_iload_n hX dX9_claimsOf_14 rfl 3 rfl 15 rfl ?_
        refine v_iload_n hX dX9_claimsOf_15 rfl 1 rfl 16 rfl ?_
        obtain ⟨v5, hv5, hf⟩ := bn1_e hf
        refine cv_i hX (c9_placesOf r g u h _ _ hv5) wvX9_placesOf q_463 rc_52 (Nat.le_of_ble_eq_true rfl) (Nat.le_of_ble_eq_true rfl) (fun _ => rfl) [.int x1] rfl (Nat.le_of_ble_eq_true rfl) dX9_claimsOf_16 19 rfl ?_
        obtain ⟨J6, hJ6, hf⟩ := jn_x hf
        have HJ6 : ∀ (s7 : Int32), J6 s7 = some res → VC X r g u h [(0, .ref (aX X 52)), (1, .int p1), (3, .int x2)] [.int s7, .int x1] 27 := by
          intro s7 hf
          rw [hJ6] at hf
          refine v_iadd hX dX9_claimsOf_27 28 rfl ?_
          refine v_istore_n hX dX9_claimsOf_28 rfl (ltn hn (by decide)) 29 rfl [(2, .int (x1 + s7)), (0, .ref (aX X 52)), (1, .int p1), (3, .int x2)] rfl ?_
          refine v_inc (c := (1 : Int32)) hX dX9_claimsOf_29 3 rfl (by decide) (ltn hn (by decide)) 32 rfl [(3, .int (x2 + (1 : Int32))), (2, .int (x1 + s7)), (0, .ref (aX X 52)), (1, .int p1)] rfl ?_
          refine v_goto hX dX9_claimsOf_32 4 rfl ?_
          refine v_sub [(0, .ref (aX X 52)), (1, .int p1), (2, .int (x1 + s7)), (3, .int (x2 + (1 : Int32)))] (sbc 2 rfl (sbc 3 rfl (sbc 1 rfl (sbc 0 rfl sbn)))) ?_
          exact ih _ _ hf
        refine v_if_eq hX dX9_claimsOf_19 26 rfl 22 rfl (fun h8 => ?_) (fun h8 => ?_)
        · replace hf := it_p h8 hf
          refine v_iconst (v := (0 : Int32)) hX dX9_claimsOf_26 (by decide) 27 rfl ?_
          refine v_sub [(0, .ref (aX X 52)), (1, .int p1), (3, .int x2)] (sbc 0 rfl (sbc 1 rfl (sbc 3 rfl sbn))) ?_
          exact HJ6 _ hf
        · replace hf := it_n h8 hf
          refine v_iconst (v := (1 : Int32)) hX dX9_claimsOf_22 (by decide) 23 rfl ?_
          refine v_goto hX dX9_claimsOf_23 27 rfl ?_
          refine v_sub [(0, .ref (aX X 52)), (1, .int p1), (3, .int x2)] (sbc 0 rfl (sbc 1 rfl (sbc 3 rfl sbn))) ?_
          exact HJ6 _ hf
  refine v_sub [(0, .ref (aX X 52)), (1, .int p1), (2, .int (0 : Int32)), (3, .int (0 : Int32))] (sbc 2 rfl (sbc 3 rfl (sbc 1 rfl (sbc 0 rfl sbn)))) ?_
  exact HLK3 _ _ _ hf
set_option maxRecDepth 100000 in
set_option maxHeartbeats 4000000 in
theorem c9_personOf (r : Nat → Int32) (g : Nat → Nat → Int32) (u : Nat → Int64) (h : Nat → Nat → Int64) (p1 : Int32) (p2 : Int32) {res : Int32} (hf : f9_personOf (r 31) (r 30) (g 57) (g 55) (g 56) (g 54) p1 p2 = some res) : MAi yX9_personOf cX9_personOf 3 (some .int) 4 (fun a => [.ref (a 52), .int p1, .int p2]) r g u h res r g u h := by
  refine mi_i (by decide +kernel) (fun a => Nat.le_of_ble_eq_true rfl) (fun X hX hn hR => ?_)
  replace hR : ∀ q : Int32, some q = some res → ∀ lv pc, decode cX9_personOf pc = .ok (.ireturn, 1) → narrow .int (.int q) = .int q → VC X r g u h lv [.int q] pc := fun q hq => by cases hq; exact hR
  replace hX : CX X RX9 cX9_personOf 4 := hX
  show VC X r g u h [(0, .ref (aX X 52)), (1, .int p1), (2, .int p2)] [] 0
  rw [f9_personOf] at hf
  refine v_aload_n hX dX9_personOf_0 rfl 0 rfl 1 rfl ?_
  refine v_iload_n hX dX9_personOf_1 rfl 1 rfl 2 rfl ?_
  obtain ⟨v1, hv1, hf⟩ := bn1_e hf
  refine cv_i hX (c9_isPerson r g u h _ hv1) wvX9_isPerson q_450 rc_52 (Nat.le_of_ble_eq_true rfl) (Nat.le_of_ble_eq_true rfl) (fun _ => rfl) [] rfl (Nat.le_of_ble_eq_true rfl) dX9_personOf_2 5 rfl ?_
  refine v_if_eq hX dX9_personOf_5 17 rfl 8 rfl (fun h14 => ?_) (fun h14 => ?_)
  · replace hf := it_p h14 hf
    refine v_iconst (v := (-1 : Int32)) hX dX9_personOf_17 (by decide) 18 rfl ?_
    exact hR _ hf _ _ dX9_personOf_18 rfl
  · replace hf := it_n h14 hf
    refine v_iload_n hX dX9_personOf_8 rfl 2 rfl 9 rfl ?_
    refine v_iconst (v := (0 : Int32)) hX dX9_personOf_9 (by decide) 10 rfl ?_
    refine v_iconst (v := (3 : Int32)) hX dX9_personOf_10 (by decide) 11 rfl ?_
    obtain ⟨v2, hv2, hf⟩ := bn1_e hf
    refine cs_i hX (c9_in r g u h _ _ _ hv2) wvX9_in q_150 (Nat.le_of_ble_eq_true rfl) (Nat.le_of_ble_eq_true rfl) (fun _ => rfl) [] rfl (Nat.le_of_ble_eq_true rfl) dX9_personOf_11 14 rfl ?_
    refine v_if_ne hX dX9_personOf_14 19 rfl 17 rfl (fun h13 => ?_) (fun h13 => ?_)
    · replace hf := it_n h13 hf
      refine v_iload_n hX dX9_personOf_19 rfl 2 rfl 20 rfl ?_
      rcases Decidable.em (p2 = (0 : Int32)) with h3 | h3
      · replace hf := it_p h3 hf
        refine v_tsIn hX dX9_personOf_20 (0 : Int32) h3 (by decide) (by decide) (28) (by decide +kernel) 48 rfl ?_
        refine v_aload_n hX dX9_personOf_48 rfl 0 rfl 49 rfl ?_
        refine gf_52_2 hX q_104 dX9_personOf_49 52 rfl ?_
        refine v_iload_n hX dX9_personOf_52 rfl 1 rfl 53 rfl ?_
        obtain ⟨hi4, hf⟩ := gd_e hf
        refine al_54 hX hi4 dX9_personOf_53 ((g 54) p1.toNatClampNeg) rfl 54 rfl ?_
        exact hR _ hf _ _ dX9_personOf_54 rfl
      · replace hf := it_n h3 hf
        rcases Decidable.em (p2 = (1 : Int32)) with h5 | h5
        · replace hf := it_p h5 hf
          refine v_tsIn hX dX9_personOf_20 (1 : Int32) h5 (by decide) (by decide) (35) (by decide +kernel) 55 rfl ?_
          refine v_aload_n hX dX9_personOf_55 rfl 0 rfl 56 rfl ?_
          refine gf_52_4 hX q_106 dX9_personOf_56 59 rfl ?_
          refine v_iload_n hX dX9_personOf_59 rfl 1 rfl 60 rfl ?_
          obtain ⟨hi6, hf⟩ := gd_e hf
          refine al_56 hX hi6 dX9_personOf_60 ((g 56) p1.toNatClampNeg) rfl 61 rfl ?_
          exact hR _ hf _ _ dX9_personOf_61 rfl
        · replace hf := it_n h5 hf
          rcases Decidable.em (p2 = (2 : Int32)) with h7 | h7
          · replace hf := it_p h7 hf
            refine v_tsIn hX dX9_personOf_20 (2 : Int32) h7 (by decide) (by decide) (42) (by decide +kernel) 62 rfl ?_
            refine v_aload_n hX dX9_personOf_62 rfl 0 rfl 63 rfl ?_
            refine v_aload_n hX dX9_personOf_63 rfl 0 rfl 64 rfl ?_
            refine gf_52_4 hX q_106 dX9_personOf_64 67 rfl ?_
            refine v_iload_n hX dX9_personOf_67 rfl 1 rfl 68 rfl ?_
            obtain ⟨hi8, hf⟩ := gd_e hf
            refine al_56 hX hi8 dX9_personOf_68 ((g 56) p1.toNatClampNeg) rfl 69 rfl ?_
            obtain ⟨v9, hv9, hf⟩ := bn1_e hf
            refine cv_i hX (c9_isHubOne r g u h _ hv9) wvX9_isHubOne q_454 rc_52 (Nat.le_of_ble_eq_true rfl) (Nat.le_of_ble_eq_true rfl) (fun _ => rfl) [] rfl (Nat.le_of_ble_eq_true rfl) dX9_personOf_69 72 rfl ?_
            refine v_if_eq hX dX9_personOf_72 79 rfl 75 rfl (fun h10 => ?_) (fun h10 => ?_)
            · replace hf := it_p h10 hf
              refine v_iconst (v := (0 : Int32)) hX dX9_personOf_79 (by decide) 80 rfl ?_
              exact hR _ hf _ _ dX9_personOf_80 rfl
            · replace hf := it_n h10 hf
              refine v_iconst (v := (1 : Int32)) hX dX9_personOf_75 (by decide) 76 rfl ?_
              refine v_goto hX dX9_personOf_76 80 rfl ?_
              exact hR _ hf _ _ dX9_personOf_80 rfl
          · replace hf := it_n h7 hf
            refine v_tsD hX dX9_personOf_20 [0, 1, 2] (sw_c h3 (by decide) (sw_c h5 (by decide) (sw_c h7 (by decide) sw_n))) (by decide) (by decide +kernel) 81 rfl ?_
            refine v_aload_n hX dX9_personOf_81 rfl 0 rfl 82 rfl ?_
            refine v_aload_n hX dX9_personOf_82 rfl 0 rfl 83 rfl ?_
            refine gf_52_4 hX q_106 dX9_personOf_83 86 rfl ?_
            refine v_iload_n hX dX9_personOf_86 rfl 1 rfl 87 rfl ?_
            obtain ⟨hi11, hf⟩ := gd_e hf
            refine al_56 hX hi11 dX9_personOf_87 ((g 56) p1.toNatClampNeg) rfl 88 rfl ?_
            obtain ⟨v12, hv12, hf⟩ := bn1_e hf
            refine cv_i hX (c9_claimsOf r g u h _ hv12) wvX9_claimsOf q_458 rc_52 (Nat.le_of_ble_eq_true rfl) (Nat.le_of_ble_eq_true rfl) (fun _ => rfl) [] rfl (Nat.le_of_ble_eq_true rfl) dX9_personOf_88 91 rfl ?_
            exact hR _ hf _ _ dX9_personOf_91 rfl
    · replace hf := it_p h13 hf
      refine v_iconst (v := (-1 : Int32)) hX dX9_personOf_17 (by decide) 18 rfl ?_
      exact hR _ hf _ _ dX9_personOf_18 rfl
set_option maxRecDepth 100000 in
set_option maxHeartbeats 4000000 in
theorem c9_prove (r : Nat → Int32) (g : Nat → Nat → Int32) (u : Nat → Int64) (h : Nat → Nat → Int64)  {res : Int32 × Int32 × Int32 × Int32 × (Nat → Int32) × (Nat → Int32) × (Nat → Int32)} (hf : f9_prove (r 31) (r 43) (r 45) (r 30) (r 44) (g 57) (g 55) (g 58) (g 73) (g 56) (g 72) (g 68) = some res) : MAi yX9_prove cX9_prove 2 (some .int) 6 (fun a => [.ref (a 52)]) r g u h res.1 (lkp r [(43, res.2.1), (45, res.2.2.1), (44, res.2.2.2.1)]) (lkp g [(73, res.2.2.2.2.1), (72, res.2.2.2.2.2.1), (68, res.2.2.2.2.2.2)]) u h := by
  refine mi_i (by decide +kernel) (fun a => Nat.le_of_ble_eq_true rfl) (fun X hX hn hR => ?_)
  replace hR : ∀ q : Int32 × Int32 × Int32 × Int32 × (Nat → Int32) × (Nat → Int32) × (Nat → Int32), some q = some res → ∀ lv pc, decode cX9_prove pc = .ok (.ireturn, 1) → narrow .int (.int q.1) = .int q.1 → VC X (lkp r [(43, q.2.1), (45, q.2.2.1), (44, q.2.2.2.1)]) (lkp g [(73, q.2.2.2.2.1), (72, q.2.2.2.2.2.1), (68, q.2.2.2.2.2.2)]) u h lv [.int q.1] pc := fun q hq => by cases hq; exact hR
  replace hX : CX X RX9 cX9_prove 6 := hX
  refine v_opr [43, 45, 44] [(43, r 43), (45, r 45), (44, r 44)] rfl ?_
  refine v_opg [73, 72, 68] [(73, g 73), (72, g 72), (68, g 68)] rfl ?_
  show VC X (lkp r [(43, r 43), (45, r 45), (44, r 44)]) (lkp g [(73, g 73), (72, g 72), (68, g 68)]) u h [(0, .ref (aX X 52))] [] 0
  rw [f9_prove] at hf
  refine v_aload_n hX dX9_prove_0 rfl 0 rfl 1 rfl ?_
  obtain ⟨v1, c2, c3, c4, c5, hv1, hf⟩ := bn5_e hf
  refine cv_i hX (c9_findRows (lkp r [(43, (r 43)), (45, (r 45)), (44, (r 44))]) (lkp g [(73, (g 73)), (72, (g 72)), (68, (g 68))]) u h hv1) wvX9_findRows q_961 rc_52 (Nat.le_of_ble_eq_true rfl) (Nat.le_of_ble_eq_true rfl) (fun _ => rfl) [] rfl (Nat.le_of_ble_eq_true rfl) dX9_prove_1 4 rfl ?_
  refine v_mgr [(43, c2), (45, c3), (44, (r 44))] rfl ?_
  refine v_mgg [(73, c4), (72, (g 72)), (68, c5)] rfl ?_
  refine v_if_ne hX dX9_prove_4 10 rfl 7 rfl (fun h13 => ?_) (fun h13 => ?_)
  · replace hf := it_n h13 hf
    refine v_aload_n hX dX9_prove_10 rfl 0 rfl 11 rfl ?_
    refine v_aload_n hX dX9_prove_11 rfl 0 rfl 12 rfl ?_
    refine gf_52_39 hX q_959 dX9_prove_12 (c3) rfl 15 rfl ?_
    refine pf_52_38 hX q_960 dX9_prove_15 18 rfl [(43, c2), (45, c3), (44, c3)] rfl ?_
    refine v_iconst (v := (0 : Int32)) hX dX9_prove_18 (by decide) 19 rfl ?_
    refine v_istore_n hX dX9_prove_19 rfl (ltn hn (by decide)) 20 rfl [(1, .int (0 : Int32)), (0, .ref (aX X 52))] rfl ?_
    obtain ⟨K8, hK8, hf⟩ := jn_x hf
    have HK8 : ∀ (x6 : Int32) (c7 : (Nat → Int32)), K8 x6 c7 = some res → VC X (lkp r [(43, c2), (45, c3), (44, c3)]) (lkp g [(73, c4), (72, c7), (68, c5)]) u h [(0, .ref (aX X 52))] [] 48 := by
      intro x6 c7 hf
      rw [hK8] at hf
      refine v_aload_n hX dX9_prove_48 rfl 0 rfl 49 rfl ?_
      refine gf_52_38 hX q_960 dX9_prove_49 (c3) rfl 52 rfl ?_
      exact hR _ hf _ _ dX9_prove_52 rfl
    have HLK8 : ∀ (n9 : Nat) (x6 : Int32) (c7 : (Nat → Int32)), f9_prove_L20 c3 c4 n9 x6 c7 K8 = some res → VC X (lkp r [(43, c2), (45, c3), (44, c3)]) (lkp g [(73, c4), (72, c7), (68, c5)]) u h [(0, .ref (aX X 52)), (1, .int x6)] [] 20 := by
      intro n9
      induction n9 with
      | zero => intro x6 c7 hf; exact no_s hf
      | succ n9 ih =>
        intro x6 c7 hf
        rw [f9_prove_L20] at hf
        refine v_iload_n hX dX9_prove_20 rfl 1 rfl 21 rfl ?_
        refine v_iconst (v := (3 : Int32)) hX dX9_prove_21 (by decide) 22 rfl ?_
        refine v_aload_n hX dX9_prove_22 rfl 0 rfl 23 rfl ?_
        refine gf_52_38 hX q_960 dX9_prove_23 (c3) rfl 26 rfl ?_
        refine v_imul hX dX9_prove_26 27 rfl ?_
        refine v_icmp_ge hX dX9_prove_27 48 rfl 30 rfl (fun h12 => ?_) (fun h12 => ?_)
        · replace hf := it_p h12 hf
          refine v_sub [(0, .ref (aX X 52))] (sbc 0 rfl sbn) ?_
          exact HK8 _ _ hf
        · replace hf := it_n h12 hf
          refine v_aload_n hX dX9_prove_30 rfl 0 rfl 31 rfl ?_
          refine gf_52_36 hX q_123 dX9_prove_31 34 rfl ?_
          refine v_iload_n hX dX9_prove_34 rfl 1 rfl 35 rfl ?_
          refine v_aload_n hX dX9_prove_35 rfl 0 rfl 36 rfl ?_
          refine gf_52_37 hX q_124 dX9_prove_36 39 rfl ?_
          refine v_iload_n hX dX9_prove_39 rfl 1 rfl 40 rfl ?_
          obtain ⟨hi10, hf⟩ := gd_e hf
          refine al_73 hX hi10 dX9_prove_40 (c4 x6.toNatClampNeg) rfl 41 rfl ?_
          obtain ⟨hi11, hf⟩ := gd_e hf
          refine as_72 hX hi11 dX9_prove_41 42 rfl c7 rfl [(73, c4), (72, (upd c7 x6.toNatClampNeg (c4 x6.toNatClampNeg))), (68, c5)] rfl ?_
          refine v_inc (c := (1 : Int32)) hX dX9_prove_42 1 rfl (by decide) (ltn hn (by decide)) 45 rfl [(1, .int (x6 + (1 : Int32))), (0, .ref (aX X 52))] rfl ?_
          refine v_goto hX dX9_prove_45 20 rfl ?_
          refine v_sub [(0, .ref (aX X 52)), (1, .int (x6 + (1 : Int32)))] (sbc 1 rfl (sbc 0 rfl sbn)) ?_
          exact ih _ _ hf
    refine v_sub [(0, .ref (aX X 52)), (1, .int (0 : Int32))] (sbc 1 rfl (sbc 0 rfl sbn)) ?_
    exact HLK8 _ _ _ hf
  · replace hf := it_p h13 hf
    refine v_bipush (v := (-3 : Int32)) hX dX9_prove_7 (by decide) 9 rfl ?_
    exact hR _ hf _ _ dX9_prove_9 rfl
set_option maxRecDepth 100000 in
set_option maxHeartbeats 4000000 in
theorem c9_put (r : Nat → Int32) (g : Nat → Nat → Int32) (u : Nat → Int64) (h : Nat → Nat → Int64) (p1 : Int32) (p2 : Int32) (p3 : Int32) {res : Int32 × (Nat → Int64)} (hf : f9_put (g 75) (g 74) (h 76) p1 p2 p3 = some res) : MAi yX9_put cX9_put 4 (some .int) 2 (fun a => [.ref (a 52), .int p1, .int p2, .int p3]) r g u h res.1 r g u (lkp h [(76, res.2)]) := by
  refine mi_i (by decide +kernel) (fun a => Nat.le_of_ble_eq_true rfl) (fun X hX hn hR => ?_)
  replace hR : ∀ q : Int32 × (Nat → Int64), some q = some res → ∀ lv pc, decode cX9_put pc = .ok (.ireturn, 1) → narrow .int (.int q.1) = .int q.1 → VC X r g u (lkp h [(76, q.2)]) lv [.int q.1] pc := fun q hq => by cases hq; exact hR
  replace hX : CX X RX9 cX9_put 2 := hX
  refine v_oph [76] [(76, h 76)] rfl ?_
  show VC X r g u (lkp h [(76, h 76)]) [(0, .ref (aX X 52)), (1, .int p1), (2, .int p2), (3, .int p3)] [] 0
  rw [f9_put] at hf
  refine v_iload_n hX dX9_put_0 rfl 1 rfl 1 rfl ?_
  obtain ⟨v1, hv1, hf⟩ := bn1_e hf
  refine cs_i hX (c9_isShelf r g u (lkp h [(76, (h 76))]) _ hv1) wvX9_isShelf q_1028 (Nat.le_of_ble_eq_true rfl) (Nat.le_of_ble_eq_true rfl) (fun _ => rfl) [] rfl (Nat.le_of_ble_eq_true rfl) dX9_put_1 4 rfl ?_
  refine v_if_ne hX dX9_put_4 9 rfl 7 rfl (fun h14 => ?_) (fun h14 => ?_)
  · replace hf := it_n h14 hf
    refine v_aload_n hX dX9_put_9 rfl 0 rfl 10 rfl ?_
    refine gf_52_40 hX q_125 dX9_put_10 13 rfl ?_
    refine v_iload_n hX dX9_put_13 rfl 1 rfl 14 rfl ?_
    obtain ⟨hi2, hf⟩ := gd_e hf
    refine al_74 hX hi2 dX9_put_14 ((g 74) p1.toNatClampNeg) rfl 15 rfl ?_
    refine v_if_ge hX dX9_put_15 21 rfl 18 rfl (fun h13 => ?_) (fun h13 => ?_)
    · replace hf := it_p h13 hf
      refine v_iload_n hX dX9_put_21 rfl 2 rfl 22 rfl ?_
      refine v_iconst (v := (0 : Int32)) hX dX9_put_22 (by decide) 23 rfl ?_
      refine v_aload_n hX dX9_put_23 rfl 0 rfl 24 rfl ?_
      refine gf_52_41 hX q_126 dX9_put_24 27 rfl ?_
      refine v_iload_n hX dX9_put_27 rfl 1 rfl 28 rfl ?_
      obtain ⟨hi3, hf⟩ := gd_e hf
      refine al_75 hX hi3 dX9_put_28 ((g 75) p1.toNatClampNeg) rfl 29 rfl ?_
      refine v_iconst (v := (1 : Int32)) hX dX9_put_29 (by decide) 30 rfl ?_
      refine v_isub hX dX9_put_30 31 rfl ?_
      obtain ⟨v4, hv4, hf⟩ := bn1_e hf
      refine cs_i hX (c9_in r g u (lkp h [(76, (h 76))]) _ _ _ hv4) wvX9_in q_150 (Nat.le_of_ble_eq_true rfl) (Nat.le_of_ble_eq_true rfl) (fun _ => rfl) [] rfl (Nat.le_of_ble_eq_true rfl) dX9_put_31 34 rfl ?_
      refine v_if_ne hX dX9_put_34 40 rfl 37 rfl (fun h12 => ?_) (fun h12 => ?_)
      · replace hf := it_n h12 hf
        refine v_aload_n hX dX9_put_40 rfl 0 rfl 41 rfl ?_
        refine gf_52_42 hX q_127 dX9_put_41 44 rfl ?_
        refine v_bipush (v := (40 : Int32)) hX dX9_put_44 (by decide) 46 rfl ?_
        refine v_iload_n hX dX9_put_46 rfl 1 rfl 47 rfl ?_
        refine v_imul hX dX9_put_47 48 rfl ?_
        refine v_iload_n hX dX9_put_48 rfl 2 rfl 49 rfl ?_
        refine v_iadd hX dX9_put_49 50 rfl ?_
        refine v_aload_n hX dX9_put_50 rfl 0 rfl 51 rfl ?_
        refine gf_52_40 hX q_125 dX9_put_51 54 rfl ?_
        refine v_iload_n hX dX9_put_54 rfl 1 rfl 55 rfl ?_
        obtain ⟨hi5, hf⟩ := gd_e hf
        refine al_74 hX hi5 dX9_put_55 ((g 74) p1.toNatClampNeg) rfl 56 rfl ?_
        obtain ⟨J6, hJ6, hf⟩ := jn_x hf
        have HJ6 : ∀ (s7 : Int64), J6 s7 = some res → VC X r g u (lkp h [(76, (h 76))]) [] [.long s7, .int (((40 : Int32) * p1) + p2), .ref (aX X 76)] 83 := by
          intro s7 hf
          rw [hJ6] at hf
          obtain ⟨hi8, hf⟩ := gd_e hf
          refine as_76 hX hi8 dX9_put_83 84 rfl (h 76) rfl [(76, (vp_updL (h 76) (((40 : Int32) * p1) + p2).toNatClampNeg s7))] rfl ?_
          refine v_iconst (v := (1 : Int32)) hX dX9_put_84 (by decide) 85 rfl ?_
          exact hR _ hf _ _ dX9_put_85 rfl
        refine v_if_ne hX dX9_put_56 65 rfl 59 rfl (fun h11 => ?_) (fun h11 => ?_)
        · replace hf := it_n h11 hf
          refine v_aload_n hX dX9_put_65 rfl 0 rfl 66 rfl ?_
          refine gf_52_40 hX q_125 dX9_put_66 69 rfl ?_
          refine v_iload_n hX dX9_put_69 rfl 1 rfl 70 rfl ?_
          obtain ⟨hi9, hf⟩ := gd_e hf
          refine al_74 hX hi9 dX9_put_70 ((g 74) p1.toNatClampNeg) rfl 71 rfl ?_
          refine v_iconst (v := (1 : Int32)) hX dX9_put_71 (by decide) 72 rfl ?_
          refine v_icmp_ne hX dX9_put_72 81 rfl 75 rfl (fun h10 => ?_) (fun h10 => ?_)
          · replace hf := it_n h10 hf
            refine v_iload_n hX dX9_put_81 rfl 3 rfl 82 rfl ?_
            refine v_i2l hX dX9_put_82 83 rfl ?_
            refine v_sub [] sbn ?_
            exact HJ6 _ hf
          · replace hf := it_p h10 hf
            refine v_iload_n hX dX9_put_75 rfl 3 rfl 76 rfl ?_
            refine v_i2s hX dX9_put_76 77 rfl ?_
            refine v_i2l hX dX9_put_77 78 rfl ?_
            refine v_goto hX dX9_put_78 83 rfl ?_
            refine v_sub [] sbn ?_
            exact HJ6 _ hf
        · replace hf := it_p h11 hf
          refine v_iload_n hX dX9_put_59 rfl 3 rfl 60 rfl ?_
          refine v_i2b hX dX9_put_60 61 rfl ?_
          refine v_i2l hX dX9_put_61 62 rfl ?_
          refine v_goto hX dX9_put_62 83 rfl ?_
          refine v_sub [] sbn ?_
          exact HJ6 _ hf
      · replace hf := it_p h12 hf
        refine v_bipush (v := (-12 : Int32)) hX dX9_put_37 (by decide) 39 rfl ?_
        exact hR _ hf _ _ dX9_put_39 rfl
    · replace hf := it_n h13 hf
      refine v_bipush (v := (-11 : Int32)) hX dX9_put_18 (by decide) 20 rfl ?_
      exact hR _ hf _ _ dX9_put_20 rfl
  · replace hf := it_p h14 hf
    refine v_iconst (v := (-1 : Int32)) hX dX9_put_7 (by decide) 8 rfl ?_
    exact hR _ hf _ _ dX9_put_8 rfl
set_option maxRecDepth 100000 in
set_option maxHeartbeats 4000000 in
theorem c9_rate (r : Nat → Int32) (g : Nat → Nat → Int32) (u : Nat → Int64) (h : Nat → Nat → Int64) (p1 : Int32) {res : Int32 × Int64 × Int64} (hf : f9_rate (r 31) (g 57) (u 1) (u 2) p1 = some res) : MAi yX9_rate cX9_rate 6 (some .int) 2 (fun a => [.ref (a 52), .int p1]) r g u h res.1 r g (lkp u [(1, res.2.1), (2, res.2.2)]) h := by
  refine mi_i (by decide +kernel) (fun a => Nat.le_of_ble_eq_true rfl) (fun X hX hn hR => ?_)
  replace hR : ∀ q : Int32 × Int64 × Int64, some q = some res → ∀ lv pc, decode cX9_rate pc = .ok (.ireturn, 1) → narrow .int (.int q.1) = .int q.1 → VC X r g (lkp u [(1, q.2.1), (2, q.2.2)]) h lv [.int q.1] pc := fun q hq => by cases hq; exact hR
  replace hX : CX X RX9 cX9_rate 2 := hX
  refine v_opu [1, 2] [(1, u 1), (2, u 2)] rfl ?_
  show VC X r g (lkp u [(1, u 1), (2, u 2)]) h [(0, .ref (aX X 52)), (1, .int p1)] [] 0
  rw [f9_rate] at hf
  refine v_iload_n hX dX9_rate_0 rfl 1 rfl 1 rfl ?_
  obtain ⟨v1, hv1, hf⟩ := bn1_e hf
  refine cs_i hX (c9_isSide r g (lkp u [(1, (u 1)), (2, (u 2))]) h _ hv1) wvX9_isSide q_731 (Nat.le_of_ble_eq_true rfl) (Nat.le_of_ble_eq_true rfl) (fun _ => rfl) [] rfl (Nat.le_of_ble_eq_true rfl) dX9_rate_1 4 rfl ?_
  refine v_if_ne hX dX9_rate_4 9 rfl 7 rfl (fun h30 => ?_) (fun h30 => ?_)
  · replace hf := it_n h30 hf
    refine v_iconst (v := (0 : Int32)) hX dX9_rate_9 (by decide) 10 rfl ?_
    refine v_istore_n hX dX9_rate_10 rfl (ltn hn (by decide)) 11 rfl [(2, .int (0 : Int32)), (0, .ref (aX X 52)), (1, .int p1)] rfl ?_
    refine v_iconst (v := (0 : Int32)) hX dX9_rate_11 (by decide) 12 rfl ?_
    refine v_istore_n hX dX9_rate_12 rfl (ltn hn (by decide)) 13 rfl [(3, .int (0 : Int32)), (2, .int (0 : Int32)), (0, .ref (aX X 52)), (1, .int p1)] rfl ?_
    refine v_iconst (v := (0 : Int32)) hX dX9_rate_13 (by decide) 14 rfl ?_
    refine v_istore hX dX9_rate_14 (ltn hn (by decide)) 16 rfl [(4, .int (0 : Int32)), (3, .int (0 : Int32)), (2, .int (0 : Int32)), (0, .ref (aX X 52)), (1, .int p1)] rfl ?_
    obtain ⟨K5, hK5, hf⟩ := jn_x hf
    have HK5 : ∀ (x2 : Int32) (x3 : Int32) (x4 : Int32), K5 x2 x3 x4 = some res → VC X r g (lkp u [(1, (u 1)), (2, (u 2))]) h [(0, .ref (aX X 52)), (1, .int p1), (2, .int x2), (3, .int x3)] [] 99 := by
      intro x2 x3 x4 hf
      rw [hK5] at hf
      refine v_iload_n hX dX9_rate_99 rfl 2 rfl 100 rfl ?_
      refine v_if_ne hX dX9_rate_100 106 rfl 103 rfl (fun h29 => ?_) (fun h29 => ?_)
      · replace hf := it_n h29 hf
        refine v_aload_n hX dX9_rate_106 rfl 0 rfl 107 rfl ?_
        refine v_iload_n hX dX9_rate_107 rfl 3 rfl 108 rfl ?_
        refine v_i2l hX dX9_rate_108 109 rfl ?_
        refine v_iload_n hX dX9_rate_109 rfl 2 rfl 110 rfl ?_
        refine v_i2l hX dX9_rate_110 111 rfl ?_
        obtain ⟨c24, c25, hc24, hf⟩ := bn2_e hf
        refine cv_v hX (c9_lowest r g (lkp u [(1, (u 1)), (2, (u 2))]) h _ _ hc24) wvX9_lowest q_801 rc_52 (Nat.le_of_ble_eq_true rfl) (Nat.le_of_ble_eq_true rfl) (fun _ => rfl) [] rfl (Nat.le_of_ble_eq_true rfl) dX9_rate_111 114 rfl ?_
        refine v_mgu [(1, c24), (2, c25)] rfl ?_
        refine v_iload_n hX dX9_rate_114 rfl 1 rfl 115 rfl ?_
        obtain ⟨J26, hJ26, hf⟩ := jn_x hf
        have HJ26 : ∀ (s27 : Int64), J26 s27 = some res → VC X r g (lkp u [(1, c24), (2, c25)]) h [] [.long s27] 129 := by
          intro s27 hf
          rw [hJ26] at hf
          refine v_l2i hX dX9_rate_129 130 rfl ?_
          exact hR _ hf _ _ dX9_rate_130 rfl
        refine v_if_ne hX dX9_rate_115 125 rfl 118 rfl (fun h28 => ?_) (fun h28 => ?_)
        · replace hf := it_n h28 hf
          refine v_aload_n hX dX9_rate_125 rfl 0 rfl 126 rfl ?_
          refine gf_52_32 hX q_800 dX9_rate_126 (c25) rfl 129 rfl ?_
          refine v_sub [] sbn ?_
          exact HJ26 _ hf
        · replace hf := it_p h28 hf
          refine v_aload_n hX dX9_rate_118 rfl 0 rfl 119 rfl ?_
          refine gf_52_31 hX q_799 dX9_rate_119 (c24) rfl 122 rfl ?_
          refine v_goto hX dX9_rate_122 129 rfl ?_
          refine v_sub [] sbn ?_
          exact HJ26 _ hf
      · replace hf := it_p h29 hf
        refine v_bipush (v := (-3 : Int32)) hX dX9_rate_103 (by decide) 105 rfl ?_
        exact hR _ hf _ _ dX9_rate_105 rfl
    have HLK5 : ∀ (n6 : Nat) (x2 : Int32) (x3 : Int32) (x4 : Int32), f9_rate_L16 (r 31) (g 57) n6 x2 x3 x4 K5 = some res → VC X r g (lkp u [(1, (u 1)), (2, (u 2))]) h [(0, .ref (aX X 52)), (1, .int p1), (2, .int x2), (3, .int x3), (4, .int x4)] [] 16 := by
      intro n6
      induction n6 with
      | zero => intro x2 x3 x4 hf; exact no_s hf
      | succ n6 ih =>
        intro x2 x3 x4 hf
        rw [f9_rate_L16] at hf
        refine v_iload hX dX9_rate_16 4 rfl 18 rfl ?_
        refine v_aload_n hX dX9_rate_18 rfl 0 rfl 19 rfl ?_
        refine gf_52_5 hX q_462 dX9_rate_19 ((r 31)) rfl 22 rfl ?_
        refine v_icmp_ge hX dX9_rate_22 99 rfl 25 rfl (fun h23 => ?_) (fun h23 => ?_)
        · replace hf := it_p h23 hf
          refine v_sub [(0, .ref (aX X 52)), (1, .int p1), (2, .int x2), (3, .int x3)] (sbc 0 rfl (sbc 1 rfl (sbc 2 rfl (sbc 3 rfl sbn)))) ?_
          exact HK5 _ _ _ hf
        · replace hf := it_n h23 hf
          refine v_aload_n hX dX9_rate_25 rfl 0 rfl 26 rfl ?_
          refine v_iload hX dX9_rate_26 4 rfl 28 rfl ?_
          refine v_bipush (v := (9 : Int32)) hX dX9_rate_28 (by decide) 30 rfl ?_
          obtain ⟨v7, hv7, hf⟩ := bn1_e hf
          refine cv_i hX (c9_its r g (lkp u [(1, (u 1)), (2, (u 2))]) h _ _ hv7) wvX9_its q_471 rc_52 (Nat.le_of_ble_eq_true rfl) (Nat.le_of_ble_eq_true rfl) (fun _ => rfl) [] rfl (Nat.le_of_ble_eq_true rfl) dX9_rate_30 33 rfl ?_
          obtain ⟨J8, hJ8, hf⟩ := jn_x hf
          have HJ8 : ∀ (s9 : Int32), J8 s9 = some res → VC X r g (lkp u [(1, (u 1)), (2, (u 2))]) h [(0, .ref (aX X 52)), (1, .int p1), (2, .int x2), (3, .int x3), (4, .int x4)] [.int s9] 53 := by
            intro s9 hf
            rw [hJ8] at hf
            refine v_istore hX dX9_rate_53 (ltn hn (by decide)) 55 rfl [(5, .int s9), (0, .ref (aX X 52)), (1, .int p1), (2, .int x2), (3, .int x3), (4, .int x4)] rfl ?_
            refine v_iload_n hX dX9_rate_55 rfl 3 rfl 56 rfl ?_
            refine v_iload hX dX9_rate_56 0 rfl 58 rfl ?_
            obtain ⟨J10, hJ10, hf⟩ := jn_x hf
            have HJ10 : ∀ (s11 : Int32), J10 s11 = some res → VC X r g (lkp u [(1, (u 1)), (2, (u 2))]) h [(0, .ref (aX X 52)), (1, .int p1), (3, .int x3), (4, .int x4), (5, .int s9)] [.int s11, .int x2] 66 := by
              intro s11 hf
              rw [hJ10] at hf
              refine v_iadd hX dX9_rate_66 67 rfl ?_
              refine v_istore_n hX dX9_rate_67 rfl (ltn hn (by decide)) 68 rfl [(2, .int (x2 + s11)), (0, .ref (aX X 52)), (1, .int p1), (3, .int x3), (4, .int x4), (5, .int s9)] rfl ?_
              refine v_iload_n hX dX9_rate_68 rfl 3 rfl 69 rfl ?_
              refine v_iload hX dX9_rate_69 5 rfl 71 rfl ?_
              obtain ⟨J12, hJ12, hf⟩ := jn_x hf
              have HJ12 : ∀ (s13 : Int32), J12 s13 = some res → VC X r g (lkp u [(1, (u 1)), (2, (u 2))]) h [(0, .ref (aX X 52)), (1, .int p1), (2, .int (x2 + s11)), (4, .int x4)] [.int s13, .int x3] 91 := by
                intro s13 hf
                rw [hJ12] at hf
                refine v_iadd hX dX9_rate_91 92 rfl ?_
                refine v_istore_n hX dX9_rate_92 rfl (ltn hn (by decide)) 93 rfl [(3, .int (x3 + s13)), (0, .ref (aX X 52)), (1, .int p1), (2, .int (x2 + s11)), (4, .int x4)] rfl ?_
                refine v_inc (c := (1 : Int32)) hX dX9_rate_93 4 rfl (by decide) (ltn hn (by decide)) 96 rfl [(4, .int (x4 + (1 : Int32))), (3, .int (x3 + s13)), (0, .ref (aX X 52)), (1, .int p1), (2, .int (x2 + s11))] rfl ?_
                refine v_goto hX dX9_rate_96 16 rfl ?_
                refine v_sub [(0, .ref (aX X 52)), (1, .int p1), (2, .int (x2 + s11)), (3, .int (x3 + s13)), (4, .int (x4 + (1 : Int32)))] (sbc 2 rfl (sbc 3 rfl (sbc 4 rfl (sbc 1 rfl (sbc 0 rfl sbn))))) ?_
                exact ih _ _ _ hf
              obtain ⟨J14, hJ14, hf⟩ := jn_x hf
              have HJ14 : J14 = some res → VC X r g (lkp u [(1, (u 1)), (2, (u 2))]) h [(0, .ref (aX X 52)), (1, .int p1), (2, .int (x2 + s11)), (4, .int x4)] [.int x3] 90 := by
                intro hf
                rw [hJ14] at hf
                refine v_iconst (v := (0 : Int32)) hX dX9_rate_90 (by decide) 91 rfl ?_
                exact HJ12 _ hf
              refine v_if_eq hX dX9_rate_71 90 rfl 74 rfl (fun h17 => ?_) (fun h17 => ?_)
              · replace hf := it_p h17 hf
                refine v_sub [(0, .ref (aX X 52)), (1, .int p1), (2, .int (x2 + s11)), (4, .int x4)] (sbc 1 rfl (sbc 2 rfl (sbc 0 rfl (sbc 4 rfl sbn)))) ?_
                exact HJ14  hf
              · replace hf := it_n h17 hf
                refine v_aload_n hX dX9_rate_74 rfl 1 rfl 75 rfl ?_
                refine v_iload hX dX9_rate_75 4 rfl 77 rfl ?_
                refine v_bipush (v := (9 : Int32)) hX dX9_rate_77 (by decide) 79 rfl ?_
                obtain ⟨v15, hv15, hf⟩ := bn1_e hf
                refine cv_i hX (c9_its r g (lkp u [(1, (u 1)), (2, (u 2))]) h _ _ hv15) wvX9_its q_471 rc_52 (Nat.le_of_ble_eq_true rfl) (Nat.le_of_ble_eq_true rfl) (fun _ => rfl) [.int x3] rfl (Nat.le_of_ble_eq_true rfl) dX9_rate_79 82 rfl ?_
                refine v_iconst (v := (2 : Int32)) hX dX9_rate_82 (by decide) 83 rfl ?_
                refine v_icmp_ne hX dX9_rate_83 90 rfl 86 rfl (fun h16 => ?_) (fun h16 => ?_)
                · replace hf := it_n h16 hf
                  refine v_sub [(0, .ref (aX X 52)), (1, .int p1), (2, .int (x2 + s11)), (4, .int x4)] (sbc 1 rfl (sbc 2 rfl (sbc 0 rfl (sbc 4 rfl sbn)))) ?_
                  exact HJ14  hf
                · replace hf := it_p h16 hf
                  refine v_iconst (v := (1 : Int32)) hX dX9_rate_86 (by decide) 87 rfl ?_
                  refine v_goto hX dX9_rate_87 91 rfl ?_
                  refine v_sub [(0, .ref (aX X 52)), (1, .int p1), (2, .int (x2 + s11)), (4, .int x4)] (sbc 1 rfl (sbc 2 rfl (sbc 0 rfl (sbc 4 rfl sbn)))) ?_
                  exact HJ12 _ hf
            refine v_if_eq hX dX9_rate_58 65 rfl 61 rfl (fun h18 => ?_) (fun h18 => ?_)
            · replace hf := it_p h18 hf
              refine v_iconst (v := (0 : Int32)) hX dX9_rate_65 (by decide) 66 rfl ?_
              refine v_sub [(0, .ref (aX X 52)), (1, .int p1), (3, .int x3), (4, .int x4), (5, .int s9)] (sbc 1 rfl (sbc 2 rfl (sbc 4 rfl (sbc 5 rfl (sbc 0 rfl sbn))))) ?_
              exact HJ10 _ hf
            · replace hf := it_n h18 hf
              refine v_iconst (v := (1 : Int32)) hX dX9_rate_61 (by decide) 62 rfl ?_
              refine v_goto hX dX9_rate_62 66 rfl ?_
              refine v_sub [(0, .ref (aX X 52)), (1, .int p1), (3, .int x3), (4, .int x4), (5, .int s9)] (sbc 1 rfl (sbc 2 rfl (sbc 4 rfl (sbc 5 rfl (sbc 0 rfl sbn))))) ?_
              exact HJ10 _ hf
          obtain ⟨J19, hJ19, hf⟩ := jn_x hf
          have HJ19 : J19 = some res → VC X r g (lkp u [(1, (u 1)), (2, (u 2))]) h [(0, .ref (aX X 52)), (1, .int p1), (2, .int x2), (3, .int x3), (4, .int x4)] [] 52 := by
            intro hf
            rw [hJ19] at hf
            refine v_iconst (v := (0 : Int32)) hX dX9_rate_52 (by decide) 53 rfl ?_
            exact HJ8 _ hf
          refine v_if_le hX dX9_rate_33 52 rfl 36 rfl (fun h22 => ?_) (fun h22 => ?_)
          · replace hf := it_p h22 hf
            exact HJ19  hf
          · replace hf := it_n h22 hf
            refine v_aload_n hX dX9_rate_36 rfl 0 rfl 37 rfl ?_
            refine v_iload hX dX9_rate_37 4 rfl 39 rfl ?_
            refine v_bipush (v := (10 : Int32)) hX dX9_rate_39 (by decide) 41 rfl ?_
            obtain ⟨v20, hv20, hf⟩ := bn1_e hf
            refine cv_i hX (c9_its r g (lkp u [(1, (u 1)), (2, (u 2))]) h _ _ hv20) wvX9_its q_471 rc_52 (Nat.le_of_ble_eq_true rfl) (Nat.le_of_ble_eq_true rfl) (fun _ => rfl) [] rfl (Nat.le_of_ble_eq_true rfl) dX9_rate_41 44 rfl ?_
            refine v_iconst (v := (1 : Int32)) hX dX9_rate_44 (by decide) 45 rfl ?_
            refine v_icmp_ne hX dX9_rate_45 52 rfl 48 rfl (fun h21 => ?_) (fun h21 => ?_)
            · replace hf := it_n h21 hf
              exact HJ19  hf
            · replace hf := it_p h21 hf
              refine v_iconst (v := (1 : Int32)) hX dX9_rate_48 (by decide) 49 rfl ?_
              refine v_goto hX dX9_rate_49 53 rfl ?_
              exact HJ8 _ hf
    refine v_sub [(0, .ref (aX X 52)), (1, .int p1), (2, .int (0 : Int32)), (3, .int (0 : Int32)), (4, .int (0 : Int32))] (sbc 3 rfl (sbc 4 rfl (sbc 2 rfl (sbc 1 rfl (sbc 0 rfl sbn))))) ?_
    exact HLK5 _ _ _ _ hf
  · replace hf := it_p h30 hf
    refine v_iconst (v := (-1 : Int32)) hX dX9_rate_7 (by decide) 8 rfl ?_
    exact hR _ hf _ _ dX9_rate_8 rfl
set_option maxRecDepth 100000 in
set_option maxHeartbeats 4000000 in
theorem c9_isSo (r : Nat → Int32) (g : Nat → Nat → Int32) (u : Nat → Int64) (h : Nat → Nat → Int64) (p2 : Int32) (p3 : Int32) {res : Int32 × (Nat → Int32)} (hf : f9_isSo (g 61) (g 63) (g 66) p2 p3 = some res) : MAi yX9_isSo cX9_isSo 9 (some .boolean) 0 (fun a => [.ref (a 52), .ref (a 61), .int p2, .int p3]) r g u h res.1 r (lkp g [(66, res.2)]) u h := by
  refine mi_i (by decide +kernel) (fun a => Nat.le_of_ble_eq_true rfl) (fun X hX hn hR => ?_)
  replace hR : ∀ q : Int32 × (Nat → Int32), some q = some res → ∀ lv pc, decode cX9_isSo pc = .ok (.ireturn, 1) → narrow .boolean (.int q.1) = .int q.1 → VC X r (lkp g [(66, q.2)]) u h lv [.int q.1] pc := fun q hq => by cases hq; exact hR
  replace hX : CX X RX9 cX9_isSo 0 := hX
  refine v_opg [66] [(66, g 66)] rfl ?_
  show VC X r (lkp g [(66, g 66)]) u h [(0, .ref (aX X 52)), (1, .ref (aX X 61)), (2, .int p2), (3, .int p3)] [] 0
  rw [f9_isSo] at hf
  refine v_iconst (v := (0 : Int32)) hX dX9_isSo_0 (by decide) 1 rfl ?_
  refine v_istore hX dX9_isSo_1 (ltn hn (by decide)) 3 rfl [(4, .int (0 : Int32)), (0, .ref (aX X 52)), (1, .ref (aX X 61)), (2, .int p2), (3, .int p3)] rfl ?_
  refine v_iload_n hX dX9_isSo_3 rfl 3 rfl 4 rfl ?_
  refine v_istore hX dX9_isSo_4 (ltn hn (by decide)) 6 rfl [(5, .int p2), (4, .int (0 : Int32)), (0, .ref (aX X 52)), (1, .ref (aX X 61)), (2, .int p2), (3, .int p3)] rfl ?_
  obtain ⟨K4, hK4, hf⟩ := jn_x hf
  have HK4 : ∀ (x1 : Int32) (x2 : Int32) (c3 : (Nat → Int32)), K4 x1 x2 c3 = some res → VC X r (lkp g [(66, c3)]) u h [(0, .ref (aX X 52)), (4, .int x1)] [] 294 := by
    intro x1 x2 c3 hf
    rw [hK4] at hf
    refine v_iload hX dX9_isSo_294 1 rfl 296 rfl ?_
    refine v_if_eq hX dX9_isSo_296 308 rfl 299 rfl (fun h58 => ?_) (fun h58 => ?_)
    · replace hf := it_p h58 hf
      refine v_iconst (v := (1 : Int32)) hX dX9_isSo_308 (by decide) 309 rfl ?_
      refine v_goto hX dX9_isSo_309 313 rfl ?_
      exact hR _ hf _ _ dX9_isSo_313 (bz_nar (v := (1 : Int32)) (by decide))
    · replace hf := it_n h58 hf
      refine v_aload_n hX dX9_isSo_299 rfl 0 rfl 300 rfl ?_
      refine gf_52_27 hX q_117 dX9_isSo_300 303 rfl ?_
      refine v_iconst (v := (0 : Int32)) hX dX9_isSo_303 (by decide) 304 rfl ?_
      obtain ⟨hi56, hf⟩ := gd_e hf
      refine al_66 hX hi56 dX9_isSo_304 (c3 (0 : Int32).toNatClampNeg) rfl 305 rfl ?_
      refine v_if_eq hX dX9_isSo_305 312 rfl 308 rfl (fun h57 => ?_) (fun h57 => ?_)
      · replace hf := it_p h57 hf
        refine v_iconst (v := (0 : Int32)) hX dX9_isSo_312 (by decide) 313 rfl ?_
        exact hR _ hf _ _ dX9_isSo_313 (bz_nar (v := (0 : Int32)) (by decide))
      · replace hf := it_n h57 hf
        refine v_iconst (v := (1 : Int32)) hX dX9_isSo_308 (by decide) 309 rfl ?_
        refine v_goto hX dX9_isSo_309 313 rfl ?_
        exact hR _ hf _ _ dX9_isSo_313 (bz_nar (v := (1 : Int32)) (by decide))
  have HLK4 : ∀ (n5 : Nat) (x1 : Int32) (x2 : Int32) (c3 : (Nat → Int32)), f9_isSo_L6 (g 61) (g 63) p3 n5 x1 x2 c3 K4 = some res → VC X r (lkp g [(66, c3)]) u h [(0, .ref (aX X 52)), (1, .ref (aX X 61)), (3, .int p3), (4, .int x1), (5, .int x2)] [] 6 := by
    intro n5
    induction n5 with
    | zero => intro x1 x2 c3 hf; exact no_s hf
    | succ n5 ih =>
      intro x1 x2 c3 hf
      rw [f9_isSo_L6] at hf
      refine v_iload hX dX9_isSo_6 4 rfl 8 rfl ?_
      refine v_iload_n hX dX9_isSo_8 rfl 2 rfl 9 rfl ?_
      refine v_icmp_ge hX dX9_isSo_9 294 rfl 12 rfl (fun h55 => ?_) (fun h55 => ?_)
      · replace hf := it_p h55 hf
        refine v_sub [(0, .ref (aX X 52)), (4, .int x1)] (sbc 0 rfl (sbc 3 rfl sbn)) ?_
        exact HK4 _ _ _ hf
      · replace hf := it_n h55 hf
        refine v_aload_n hX dX9_isSo_12 rfl 1 rfl 13 rfl ?_
        refine v_iload hX dX9_isSo_13 4 rfl 15 rfl ?_
        obtain ⟨hi6, hf⟩ := gd_e hf
        refine al_61 hX hi6 dX9_isSo_15 ((g 61) x2.toNatClampNeg) rfl 16 rfl ?_
        refine v_istore hX dX9_isSo_16 (ltn hn (by decide)) 18 rfl [(6, .int ((g 61) x2.toNatClampNeg)), (0, .ref (aX X 52)), (1, .ref (aX X 61)), (3, .int p3), (4, .int x1), (5, .int x2)] rfl ?_
        refine v_iload hX dX9_isSo_18 0 rfl 20 rfl ?_
        refine v_ldc (v := (40002 : Int32)) hX q_341 dX9_isSo_20 22 rfl ?_
        obtain ⟨J7, hJ7, hf⟩ := jn_x hf
        have HJ7 : ∀ (y8 : Int32) (y9 : Int32) (c10 : (Nat → Int32)), J7 y8 y9 c10 = some res → VC X r (lkp g [(66, c10)]) u h [(0, .ref (aX X 52)), (1, .ref (aX X 61)), (3, .int p3), (4, .int y8), (5, .int y9)] [] 288 := by
          intro y8 y9 c10 hf
          rw [hJ7] at hf
          refine v_inc (c := (1 : Int32)) hX dX9_isSo_288 4 rfl (by decide) (ltn hn (by decide)) 291 rfl [(5, .int (y9 + (1 : Int32))), (0, .ref (aX X 52)), (1, .ref (aX X 61)), (3, .int p3), (4, .int y8)] rfl ?_
          refine v_goto hX dX9_isSo_291 6 rfl ?_
          refine v_sub [(0, .ref (aX X 52)), (1, .ref (aX X 61)), (3, .int p3), (4, .int y8), (5, .int (y9 + (1 : Int32)))] (sbc 1 rfl (sbc 2 rfl (sbc 3 rfl (sbc 4 rfl (sbc 0 rfl sbn))))) ?_
          exact ih _ _ _ hf
        refine v_icmp_ne hX dX9_isSo_22 54 rfl 25 rfl (fun h54 => ?_) (fun h54 => ?_)
        · replace hf := it_n h54 hf
          refine v_iload hX dX9_isSo_54 0 rfl 56 rfl ?_
          refine v_ldc (v := (40000 : Int32)) hX q_343 dX9_isSo_56 58 rfl ?_
          obtain ⟨J11, hJ11, hf⟩ := jn_x hf
          have HJ11 : J11 = some res → VC X r (lkp g [(66, c3)]) u h [(0, .ref (aX X 52)), (1, .ref (aX X 61)), (3, .int p3), (4, .int x1), (5, .int x2), (6, .int ((g 61) x2.toNatClampNeg))] [] 68 := by
            intro hf
            rw [hJ11] at hf
            refine v_inc (c := (-1 : Int32)) hX dX9_isSo_68 3 rfl (by decide) (ltn hn (by decide)) 71 rfl [(4, .int (x1 + (-1 : Int32))), (0, .ref (aX X 52)), (1, .ref (aX X 61)), (3, .int p3), (5, .int x2), (6, .int ((g 61) x2.toNatClampNeg))] rfl ?_
            refine v_aload_n hX dX9_isSo_71 rfl 1 rfl 72 rfl ?_
            refine gf_52_27 hX q_117 dX9_isSo_72 75 rfl ?_
            refine v_iload hX dX9_isSo_75 0 rfl 77 rfl ?_
            refine v_iconst (v := (1 : Int32)) hX dX9_isSo_77 (by decide) 78 rfl ?_
            refine v_isub hX dX9_isSo_78 79 rfl ?_
            refine v_iload hX dX9_isSo_79 5 rfl 81 rfl ?_
            refine v_ldc (v := (40000 : Int32)) hX q_343 dX9_isSo_81 83 rfl ?_
            obtain ⟨J12, hJ12, hf⟩ := jn_x hf
            have HJ12 : ∀ (s13 : Int32), J12 s13 = some res → VC X r (lkp g [(66, c3)]) u h [(0, .ref (aX X 52)), (1, .ref (aX X 61)), (3, .int p3), (4, .int (x1 + (-1 : Int32))), (5, .int x2)] [.int s13, .int ((x1 + (-1 : Int32)) - (1 : Int32)), .ref (aX X 66)] 143 := by
              intro s13 hf
              rw [hJ12] at hf
              obtain ⟨hi14, hf⟩ := gd_e hf
              refine as_66 hX hi14 dX9_isSo_143 144 rfl c3 rfl [(66, (upd c3 ((x1 + (-1 : Int32)) - (1 : Int32)).toNatClampNeg (vp_nar .boolean s13)))] rfl ?_
              refine v_goto hX dX9_isSo_144 288 rfl ?_
              exact HJ7 _ _ _ hf
            refine v_icmp_ne hX dX9_isSo_83 116 rfl 86 rfl (fun h25 => ?_) (fun h25 => ?_)
            · replace hf := it_n h25 hf
              refine v_aload_n hX dX9_isSo_116 rfl 1 rfl 117 rfl ?_
              refine gf_52_27 hX q_117 dX9_isSo_117 120 rfl ?_
              refine v_iload hX dX9_isSo_120 0 rfl 122 rfl ?_
              refine v_iconst (v := (1 : Int32)) hX dX9_isSo_122 (by decide) 123 rfl ?_
              refine v_isub hX dX9_isSo_123 124 rfl ?_
              obtain ⟨hi15, hf⟩ := gd_e hf
              refine al_66 hX hi15 dX9_isSo_124 (c3 ((x1 + (-1 : Int32)) - (1 : Int32)).toNatClampNeg) rfl 125 rfl ?_
              obtain ⟨J16, hJ16, hf⟩ := jn_x hf
              have HJ16 : J16 = some res → VC X r (lkp g [(66, c3)]) u h [(0, .ref (aX X 52)), (1, .ref (aX X 61)), (3, .int p3), (4, .int (x1 + (-1 : Int32))), (5, .int x2)] [.int ((x1 + (-1 : Int32)) - (1 : Int32)), .ref (aX X 66)] 138 := by
                intro hf
                rw [hJ16] at hf
                refine v_iconst (v := (1 : Int32)) hX dX9_isSo_138 (by decide) 139 rfl ?_
                refine v_goto hX dX9_isSo_139 143 rfl ?_
                exact HJ12 _ hf
              refine v_if_ne hX dX9_isSo_125 138 rfl 128 rfl (fun h19 => ?_) (fun h19 => ?_)
              · replace hf := it_n h19 hf
                refine v_sub [(0, .ref (aX X 52)), (1, .ref (aX X 61)), (3, .int p3), (4, .int (x1 + (-1 : Int32))), (5, .int x2)] (sbc 1 rfl (sbc 2 rfl (sbc 3 rfl (sbc 0 rfl (sbc 4 rfl sbn))))) ?_
                exact HJ16  hf
              · replace hf := it_p h19 hf
                refine v_aload_n hX dX9_isSo_128 rfl 1 rfl 129 rfl ?_
                refine gf_52_27 hX q_117 dX9_isSo_129 132 rfl ?_
                refine v_iload hX dX9_isSo_132 0 rfl 134 rfl ?_
                obtain ⟨hi17, hf⟩ := gd_e hf
                refine al_66 hX hi17 dX9_isSo_134 (c3 (x1 + (-1 : Int32)).toNatClampNeg) rfl 135 rfl ?_
                refine v_if_eq hX dX9_isSo_135 142 rfl 138 rfl (fun h18 => ?_) (fun h18 => ?_)
                · replace hf := it_p h18 hf
                  refine v_iconst (v := (0 : Int32)) hX dX9_isSo_142 (by decide) 143 rfl ?_
                  refine v_sub [(0, .ref (aX X 52)), (1, .ref (aX X 61)), (3, .int p3), (4, .int (x1 + (-1 : Int32))), (5, .int x2)] (sbc 1 rfl (sbc 2 rfl (sbc 3 rfl (sbc 0 rfl (sbc 4 rfl sbn))))) ?_
                  exact HJ12 _ hf
                · replace hf := it_n h18 hf
                  refine v_sub [(0, .ref (aX X 52)), (1, .ref (aX X 61)), (3, .int p3), (4, .int (x1 + (-1 : Int32))), (5, .int x2)] (sbc 1 rfl (sbc 2 rfl (sbc 3 rfl (sbc 0 rfl (sbc 4 rfl sbn))))) ?_
                  exact HJ16  hf
            · replace hf := it_p h25 hf
              refine v_aload_n hX dX9_isSo_86 rfl 1 rfl 87 rfl ?_
              refine gf_52_27 hX q_117 dX9_isSo_87 90 rfl ?_
              refine v_iload hX dX9_isSo_90 0 rfl 92 rfl ?_
              refine v_iconst (v := (1 : Int32)) hX dX9_isSo_92 (by decide) 93 rfl ?_
              refine v_isub hX dX9_isSo_93 94 rfl ?_
              obtain ⟨hi20, hf⟩ := gd_e hf
              refine al_66 hX hi20 dX9_isSo_94 (c3 ((x1 + (-1 : Int32)) - (1 : Int32)).toNatClampNeg) rfl 95 rfl ?_
              obtain ⟨J21, hJ21, hf⟩ := jn_x hf
              have HJ21 : J21 = some res → VC X r (lkp g [(66, c3)]) u h [(0, .ref (aX X 52)), (1, .ref (aX X 61)), (3, .int p3), (4, .int (x1 + (-1 : Int32))), (5, .int x2)] [.int ((x1 + (-1 : Int32)) - (1 : Int32)), .ref (aX X 66)] 112 := by
                intro hf
                rw [hJ21] at hf
                refine v_iconst (v := (0 : Int32)) hX dX9_isSo_112 (by decide) 113 rfl ?_
                refine v_goto hX dX9_isSo_113 143 rfl ?_
                exact HJ12 _ hf
              refine v_if_eq hX dX9_isSo_95 112 rfl 98 rfl (fun h24 => ?_) (fun h24 => ?_)
              · replace hf := it_p h24 hf
                refine v_sub [(0, .ref (aX X 52)), (1, .ref (aX X 61)), (3, .int p3), (4, .int (x1 + (-1 : Int32))), (5, .int x2)] (sbc 1 rfl (sbc 2 rfl (sbc 3 rfl (sbc 0 rfl (sbc 4 rfl sbn))))) ?_
                exact HJ21  hf
              · replace hf := it_n h24 hf
                refine v_aload_n hX dX9_isSo_98 rfl 1 rfl 99 rfl ?_
                refine gf_52_27 hX q_117 dX9_isSo_99 102 rfl ?_
                refine v_iload hX dX9_isSo_102 0 rfl 104 rfl ?_
                obtain ⟨hi22, hf⟩ := gd_e hf
                refine al_66 hX hi22 dX9_isSo_104 (c3 (x1 + (-1 : Int32)).toNatClampNeg) rfl 105 rfl ?_
                refine v_if_eq hX dX9_isSo_105 112 rfl 108 rfl (fun h23 => ?_) (fun h23 => ?_)
                · replace hf := it_p h23 hf
                  refine v_sub [(0, .ref (aX X 52)), (1, .ref (aX X 61)), (3, .int p3), (4, .int (x1 + (-1 : Int32))), (5, .int x2)] (sbc 1 rfl (sbc 2 rfl (sbc 3 rfl (sbc 0 rfl (sbc 4 rfl sbn))))) ?_
                  exact HJ21  hf
                · replace hf := it_n h23 hf
                  refine v_iconst (v := (1 : Int32)) hX dX9_isSo_108 (by decide) 109 rfl ?_
                  refine v_goto hX dX9_isSo_109 143 rfl ?_
                  refine v_sub [(0, .ref (aX X 52)), (1, .ref (aX X 61)), (3, .int p3), (4, .int (x1 + (-1 : Int32))), (5, .int x2)] (sbc 1 rfl (sbc 2 rfl (sbc 3 rfl (sbc 0 rfl (sbc 4 rfl sbn))))) ?_
                  exact HJ12 _ hf
          refine v_icmp_eq hX dX9_isSo_58 68 rfl 61 rfl (fun h48 => ?_) (fun h48 => ?_)
          · replace hf := it_p h48 hf
            refine v_sub [(0, .ref (aX X 52)), (1, .ref (aX X 61)), (3, .int p3), (4, .int x1), (5, .int x2), (6, .int ((g 61) x2.toNatClampNeg))] (sbc 1 rfl (sbc 2 rfl (sbc 3 rfl (sbc 4 rfl (sbc 5 rfl (sbc 0 rfl sbn)))))) ?_
            exact HJ11  hf
          · replace hf := it_n h48 hf
            refine v_iload hX dX9_isSo_61 0 rfl 63 rfl ?_
            refine v_ldc (v := (40001 : Int32)) hX q_344 dX9_isSo_63 65 rfl ?_
            refine v_icmp_ne hX dX9_isSo_65 147 rfl 68 rfl (fun h47 => ?_) (fun h47 => ?_)
            · replace hf := it_n h47 hf
              refine v_iload hX dX9_isSo_147 0 rfl 149 rfl ?_
              refine v_sipush (v := (20000 : Int32)) hX dX9_isSo_149 (by decide) 152 rfl ?_
              obtain ⟨J26, hJ26, hf⟩ := jn_x hf
              have HJ26 : ∀ (s27 : Int32), J26 s27 = some res → VC X r (lkp g [(66, c3)]) u h [(0, .ref (aX X 52)), (1, .ref (aX X 61)), (3, .int p3), (4, .int x1), (5, .int x2)] [.int s27] 171 := by
                intro s27 hf
                rw [hJ26] at hf
                refine v_istore hX dX9_isSo_171 (ltn hn (by decide)) 173 rfl [(7, .int s27), (0, .ref (aX X 52)), (1, .ref (aX X 61)), (3, .int p3), (4, .int x1), (5, .int x2)] rfl ?_
                refine v_aload_n hX dX9_isSo_173 rfl 2 rfl 174 rfl ?_
                refine v_iload hX dX9_isSo_174 5 rfl 176 rfl ?_
                refine v_iconst (v := (2 : Int32)) hX dX9_isSo_176 (by decide) 177 rfl ?_
                refine v_iadd hX dX9_isSo_177 178 rfl ?_
                obtain ⟨hi28, hf⟩ := gd_e hf
                refine al_61 hX hi28 dX9_isSo_178 ((g 61) (x2 + (2 : Int32)).toNatClampNeg) rfl 179 rfl ?_
                refine v_sipush (v := (20000 : Int32)) hX dX9_isSo_179 (by decide) 182 rfl ?_
                obtain ⟨J29, hJ29, hf⟩ := jn_x hf
                have HJ29 : ∀ (s30 : Int32), J29 s30 = some res → VC X r (lkp g [(66, c3)]) u h [(0, .ref (aX X 52)), (1, .ref (aX X 61)), (3, .int p3), (4, .int x1), (5, .int x2), (7, .int s27)] [.int s30] 209 := by
                  intro s30 hf
                  rw [hJ29] at hf
                  refine v_istore hX dX9_isSo_209 (ltn hn (by decide)) 211 rfl [(8, .int s30), (0, .ref (aX X 52)), (1, .ref (aX X 61)), (3, .int p3), (4, .int x1), (5, .int x2), (7, .int s27)] rfl ?_
                  refine v_aload_n hX dX9_isSo_211 rfl 1 rfl 212 rfl ?_
                  refine gf_52_27 hX q_117 dX9_isSo_212 215 rfl ?_
                  refine v_iload hX dX9_isSo_215 4 rfl 217 rfl ?_
                  refine v_aload_n hX dX9_isSo_217 rfl 2 rfl 218 rfl ?_
                  refine v_iload hX dX9_isSo_218 5 rfl 220 rfl ?_
                  refine v_iconst (v := (1 : Int32)) hX dX9_isSo_220 (by decide) 221 rfl ?_
                  refine v_iadd hX dX9_isSo_221 222 rfl ?_
                  obtain ⟨hi31, hf⟩ := gd_e hf
                  refine al_61 hX hi31 dX9_isSo_222 ((g 61) (x2 + (1 : Int32)).toNatClampNeg) rfl 223 rfl ?_
                  refine v_bipush (v := (60 : Int32)) hX dX9_isSo_223 (by decide) 225 rfl ?_
                  obtain ⟨J32, hJ32, hf⟩ := jn_x hf
                  have HJ32 : ∀ (s33 : Int32), J32 s33 = some res → VC X r (lkp g [(66, c3)]) u h [(0, .ref (aX X 52)), (1, .ref (aX X 61)), (3, .int p3), (4, .int x1), (5, .int x2)] [.int s33, .int x1, .ref (aX X 66)] 281 := by
                    intro s33 hf
                    rw [hJ32] at hf
                    obtain ⟨hi34, hf⟩ := gd_e hf
                    refine as_66 hX hi34 dX9_isSo_281 282 rfl c3 rfl [(66, (upd c3 x1.toNatClampNeg (vp_nar .boolean s33)))] rfl ?_
                    refine v_inc (c := (1 : Int32)) hX dX9_isSo_282 3 rfl (by decide) (ltn hn (by decide)) 285 rfl [(4, .int (x1 + (1 : Int32))), (0, .ref (aX X 52)), (1, .ref (aX X 61)), (3, .int p3), (5, .int x2)] rfl ?_
                    refine v_inc (c := (2 : Int32)) hX dX9_isSo_285 4 rfl (by decide) (ltn hn (by decide)) 288 rfl [(5, .int (x2 + (2 : Int32))), (4, .int (x1 + (1 : Int32))), (0, .ref (aX X 52)), (1, .ref (aX X 61)), (3, .int p3)] rfl ?_
                    refine v_sub [(0, .ref (aX X 52)), (1, .ref (aX X 61)), (3, .int p3), (4, .int (x1 + (1 : Int32))), (5, .int (x2 + (2 : Int32)))] (sbc 2 rfl (sbc 3 rfl (sbc 4 rfl (sbc 1 rfl (sbc 0 rfl sbn))))) ?_
                    exact HJ7 _ _ _ hf
                  refine v_icmp_ne hX dX9_isSo_225 243 rfl 228 rfl (fun h40 => ?_) (fun h40 => ?_)
                  · replace hf := it_n h40 hf
                    refine v_aload_n hX dX9_isSo_243 rfl 2 rfl 244 rfl ?_
                    refine v_iload hX dX9_isSo_244 5 rfl 246 rfl ?_
                    refine v_iconst (v := (1 : Int32)) hX dX9_isSo_246 (by decide) 247 rfl ?_
                    refine v_iadd hX dX9_isSo_247 248 rfl ?_
                    obtain ⟨hi35, hf⟩ := gd_e hf
                    refine al_61 hX hi35 dX9_isSo_248 ((g 61) (x2 + (1 : Int32)).toNatClampNeg) rfl 249 rfl ?_
                    refine v_bipush (v := (61 : Int32)) hX dX9_isSo_249 (by decide) 251 rfl ?_
                    refine v_icmp_ne hX dX9_isSo_251 269 rfl 254 rfl (fun h38 => ?_) (fun h38 => ?_)
                    · replace hf := it_n h38 hf
                      refine v_iload hX dX9_isSo_269 6 rfl 271 rfl ?_
                      refine v_iload hX dX9_isSo_271 0 rfl 273 rfl ?_
                      refine v_icmp_le hX dX9_isSo_273 280 rfl 276 rfl (fun h36 => ?_) (fun h36 => ?_)
                      · replace hf := it_p h36 hf
                        refine v_iconst (v := (0 : Int32)) hX dX9_isSo_280 (by decide) 281 rfl ?_
                        refine v_sub [(0, .ref (aX X 52)), (1, .ref (aX X 61)), (3, .int p3), (4, .int x1), (5, .int x2)] (sbc 1 rfl (sbc 2 rfl (sbc 3 rfl (sbc 4 rfl (sbc 5 rfl sbn))))) ?_
                        exact HJ32 _ hf
                      · replace hf := it_n h36 hf
                        refine v_iconst (v := (1 : Int32)) hX dX9_isSo_276 (by decide) 277 rfl ?_
                        refine v_goto hX dX9_isSo_277 281 rfl ?_
                        refine v_sub [(0, .ref (aX X 52)), (1, .ref (aX X 61)), (3, .int p3), (4, .int x1), (5, .int x2)] (sbc 1 rfl (sbc 2 rfl (sbc 3 rfl (sbc 4 rfl (sbc 5 rfl sbn))))) ?_
                        exact HJ32 _ hf
                    · replace hf := it_p h38 hf
                      refine v_iload hX dX9_isSo_254 6 rfl 256 rfl ?_
                      refine v_iload hX dX9_isSo_256 0 rfl 258 rfl ?_
                      refine v_icmp_ne hX dX9_isSo_258 265 rfl 261 rfl (fun h37 => ?_) (fun h37 => ?_)
                      · replace hf := it_n h37 hf
                        refine v_iconst (v := (0 : Int32)) hX dX9_isSo_265 (by decide) 266 rfl ?_
                        refine v_goto hX dX9_isSo_266 281 rfl ?_
                        refine v_sub [(0, .ref (aX X 52)), (1, .ref (aX X 61)), (3, .int p3), (4, .int x1), (5, .int x2)] (sbc 1 rfl (sbc 2 rfl (sbc 3 rfl (sbc 4 rfl (sbc 5 rfl sbn))))) ?_
                        exact HJ32 _ hf
                      · replace hf := it_p h37 hf
                        refine v_iconst (v := (1 : Int32)) hX dX9_isSo_261 (by decide) 262 rfl ?_
                        refine v_goto hX dX9_isSo_262 281 rfl ?_
                        refine v_sub [(0, .ref (aX X 52)), (1, .ref (aX X 61)), (3, .int p3), (4, .int x1), (5, .int x2)] (sbc 1 rfl (sbc 2 rfl (sbc 3 rfl (sbc 4 rfl (sbc 5 rfl sbn))))) ?_
                        exact HJ32 _ hf
                  · replace hf := it_p h40 hf
                    refine v_iload hX dX9_isSo_228 6 rfl 230 rfl ?_
                    refine v_iload hX dX9_isSo_230 0 rfl 232 rfl ?_
                    refine v_icmp_ge hX dX9_isSo_232 239 rfl 235 rfl (fun h39 => ?_) (fun h39 => ?_)
                    · replace hf := it_p h39 hf
                      refine v_iconst (v := (0 : Int32)) hX dX9_isSo_239 (by decide) 240 rfl ?_
                      refine v_goto hX dX9_isSo_240 281 rfl ?_
                      refine v_sub [(0, .ref (aX X 52)), (1, .ref (aX X 61)), (3, .int p3), (4, .int x1), (5, .int x2)] (sbc 1 rfl (sbc 2 rfl (sbc 3 rfl (sbc 4 rfl (sbc 5 rfl sbn))))) ?_
                      exact HJ32 _ hf
                    · replace hf := it_n h39 hf
                      refine v_iconst (v := (1 : Int32)) hX dX9_isSo_235 (by decide) 236 rfl ?_
                      refine v_goto hX dX9_isSo_236 281 rfl ?_
                      refine v_sub [(0, .ref (aX X 52)), (1, .ref (aX X 61)), (3, .int p3), (4, .int x1), (5, .int x2)] (sbc 1 rfl (sbc 2 rfl (sbc 3 rfl (sbc 4 rfl (sbc 5 rfl sbn))))) ?_
                      exact HJ32 _ hf
                refine v_icmp_lt hX dX9_isSo_182 203 rfl 185 rfl (fun h44 => ?_) (fun h44 => ?_)
                · replace hf := it_p h44 hf
                  refine v_aload_n hX dX9_isSo_203 rfl 2 rfl 204 rfl ?_
                  refine v_iload hX dX9_isSo_204 5 rfl 206 rfl ?_
                  refine v_iconst (v := (2 : Int32)) hX dX9_isSo_206 (by decide) 207 rfl ?_
                  refine v_iadd hX dX9_isSo_207 208 rfl ?_
                  obtain ⟨hi41, hf⟩ := gd_e hf
                  refine al_61 hX hi41 dX9_isSo_208 ((g 61) (x2 + (2 : Int32)).toNatClampNeg) rfl 209 rfl ?_
                  refine v_sub [(0, .ref (aX X 52)), (1, .ref (aX X 61)), (3, .int p3), (4, .int x1), (5, .int x2), (7, .int s27)] (sbc 1 rfl (sbc 2 rfl (sbc 3 rfl (sbc 4 rfl (sbc 5 rfl (sbc 0 rfl sbn)))))) ?_
                  exact HJ29 _ hf
                · replace hf := it_n h44 hf
                  refine v_aload_n hX dX9_isSo_185 rfl 1 rfl 186 rfl ?_
                  refine gf_52_21 hX q_114 dX9_isSo_186 189 rfl ?_
                  refine v_aload_n hX dX9_isSo_189 rfl 2 rfl 190 rfl ?_
                  refine v_iload hX dX9_isSo_190 5 rfl 192 rfl ?_
                  refine v_iconst (v := (2 : Int32)) hX dX9_isSo_192 (by decide) 193 rfl ?_
                  refine v_iadd hX dX9_isSo_193 194 rfl ?_
                  obtain ⟨hi42, hf⟩ := gd_e hf
                  refine al_61 hX hi42 dX9_isSo_194 ((g 61) (x2 + (2 : Int32)).toNatClampNeg) rfl 195 rfl ?_
                  refine v_sipush (v := (20000 : Int32)) hX dX9_isSo_195 (by decide) 198 rfl ?_
                  refine v_isub hX dX9_isSo_198 199 rfl ?_
                  obtain ⟨hi43, hf⟩ := gd_e hf
                  refine al_63 hX hi43 dX9_isSo_199 ((g 63) (((g 61) (x2 + (2 : Int32)).toNatClampNeg) - (20000 : Int32)).toNatClampNeg) rfl 200 rfl ?_
                  refine v_goto hX dX9_isSo_200 209 rfl ?_
                  refine v_sub [(0, .ref (aX X 52)), (1, .ref (aX X 61)), (3, .int p3), (4, .int x1), (5, .int x2), (7, .int s27)] (sbc 1 rfl (sbc 2 rfl (sbc 3 rfl (sbc 4 rfl (sbc 5 rfl (sbc 0 rfl sbn)))))) ?_
                  exact HJ29 _ hf
              refine v_icmp_lt hX dX9_isSo_152 169 rfl 155 rfl (fun h46 => ?_) (fun h46 => ?_)
              · replace hf := it_p h46 hf
                refine v_iload hX dX9_isSo_169 0 rfl 171 rfl ?_
                refine v_sub [(0, .ref (aX X 52)), (1, .ref (aX X 61)), (3, .int p3), (4, .int x1), (5, .int x2)] (sbc 1 rfl (sbc 2 rfl (sbc 3 rfl (sbc 4 rfl (sbc 5 rfl sbn))))) ?_
                exact HJ26 _ hf
              · replace hf := it_n h46 hf
                refine v_aload_n hX dX9_isSo_155 rfl 1 rfl 156 rfl ?_
                refine gf_52_21 hX q_114 dX9_isSo_156 159 rfl ?_
                refine v_iload hX dX9_isSo_159 0 rfl 161 rfl ?_
                refine v_sipush (v := (20000 : Int32)) hX dX9_isSo_161 (by decide) 164 rfl ?_
                refine v_isub hX dX9_isSo_164 165 rfl ?_
                obtain ⟨hi45, hf⟩ := gd_e hf
                refine al_63 hX hi45 dX9_isSo_165 ((g 63) (((g 61) x2.toNatClampNeg) - (20000 : Int32)).toNatClampNeg) rfl 166 rfl ?_
                refine v_goto hX dX9_isSo_166 171 rfl ?_
                refine v_sub [(0, .ref (aX X 52)), (1, .ref (aX X 61)), (3, .int p3), (4, .int x1), (5, .int x2)] (sbc 1 rfl (sbc 2 rfl (sbc 3 rfl (sbc 4 rfl (sbc 5 rfl sbn))))) ?_
                exact HJ26 _ hf
            · replace hf := it_p h47 hf
              refine v_sub [(0, .ref (aX X 52)), (1, .ref (aX X 61)), (3, .int p3), (4, .int x1), (5, .int x2), (6, .int ((g 61) x2.toNatClampNeg))] (sbc 1 rfl (sbc 2 rfl (sbc 3 rfl (sbc 4 rfl (sbc 5 rfl (sbc 0 rfl sbn)))))) ?_
              exact HJ11  hf
        · replace hf := it_p h54 hf
          refine v_aload_n hX dX9_isSo_25 rfl 1 rfl 26 rfl ?_
          refine gf_52_27 hX q_117 dX9_isSo_26 29 rfl ?_
          refine v_iload hX dX9_isSo_29 4 rfl 31 rfl ?_
          refine v_iconst (v := (1 : Int32)) hX dX9_isSo_31 (by decide) 32 rfl ?_
          refine v_isub hX dX9_isSo_32 33 rfl ?_
          refine v_aload_n hX dX9_isSo_33 rfl 1 rfl 34 rfl ?_
          refine gf_52_27 hX q_117 dX9_isSo_34 37 rfl ?_
          refine v_iload hX dX9_isSo_37 4 rfl 39 rfl ?_
          refine v_iconst (v := (1 : Int32)) hX dX9_isSo_39 (by decide) 40 rfl ?_
          refine v_isub hX dX9_isSo_40 41 rfl ?_
          obtain ⟨hi49, hf⟩ := gd_e hf
          refine al_66 hX hi49 dX9_isSo_41 (c3 (x1 - (1 : Int32)).toNatClampNeg) rfl 42 rfl ?_
          obtain ⟨J50, hJ50, hf⟩ := jn_x hf
          have HJ50 : ∀ (s51 : Int32), J50 s51 = some res → VC X r (lkp g [(66, c3)]) u h [(0, .ref (aX X 52)), (1, .ref (aX X 61)), (3, .int p3), (4, .int x1), (5, .int x2)] [.int s51, .int (x1 - (1 : Int32)), .ref (aX X 66)] 50 := by
            intro s51 hf
            rw [hJ50] at hf
            obtain ⟨hi52, hf⟩ := gd_e hf
            refine as_66 hX hi52 dX9_isSo_50 51 rfl c3 rfl [(66, (upd c3 (x1 - (1 : Int32)).toNatClampNeg (vp_nar .boolean s51)))] rfl ?_
            refine v_goto hX dX9_isSo_51 288 rfl ?_
            exact HJ7 _ _ _ hf
          refine v_if_ne hX dX9_isSo_42 49 rfl 45 rfl (fun h53 => ?_) (fun h53 => ?_)
          · replace hf := it_n h53 hf
            refine v_iconst (v := (0 : Int32)) hX dX9_isSo_49 (by decide) 50 rfl ?_
            refine v_sub [(0, .ref (aX X 52)), (1, .ref (aX X 61)), (3, .int p3), (4, .int x1), (5, .int x2)] (sbc 1 rfl (sbc 2 rfl (sbc 3 rfl (sbc 4 rfl (sbc 5 rfl sbn))))) ?_
            exact HJ50 _ hf
          · replace hf := it_p h53 hf
            refine v_iconst (v := (1 : Int32)) hX dX9_isSo_45 (by decide) 46 rfl ?_
            refine v_goto hX dX9_isSo_46 50 rfl ?_
            refine v_sub [(0, .ref (aX X 52)), (1, .ref (aX X 61)), (3, .int p3), (4, .int x1), (5, .int x2)] (sbc 1 rfl (sbc 2 rfl (sbc 3 rfl (sbc 4 rfl (sbc 5 rfl sbn))))) ?_
            exact HJ50 _ hf
  refine v_sub [(0, .ref (aX X 52)), (1, .ref (aX X 61)), (3, .int p3), (4, .int (0 : Int32)), (5, .int p2)] (sbc 2 rfl (sbc 3 rfl (sbc 5 rfl (sbc 1 rfl (sbc 0 rfl sbn))))) ?_
  exact HLK4 _ _ _ _ hf
set_option maxRecDepth 100000 in
set_option maxHeartbeats 4000000 in
theorem c9_saysOf (r : Nat → Int32) (g : Nat → Nat → Int32) (u : Nat → Int64) (h : Nat → Nat → Int64) (p1 : Int32) {res : Int32 × (Nat → Int32) × (Nat → Int32)} (hf : f9_saysOf (r 31) (r 32) (r 30) (g 57) (g 60) (g 63) (g 55) (g 58) (g 56) (g 66) (g 61) p1 = some res) : MAi yX9_saysOf cX9_saysOf 4 (some .int) 4 (fun a => [.ref (a 52), .int p1]) r g u h res.1 r (lkp g [(63, res.2.1), (66, res.2.2)]) u h := by
  refine mi_i (by decide +kernel) (fun a => Nat.le_of_ble_eq_true rfl) (fun X hX hn hR => ?_)
  replace hR : ∀ q : Int32 × (Nat → Int32) × (Nat → Int32), some q = some res → ∀ lv pc, decode cX9_saysOf pc = .ok (.ireturn, 1) → narrow .int (.int q.1) = .int q.1 → VC X r (lkp g [(63, q.2.1), (66, q.2.2)]) u h lv [.int q.1] pc := fun q hq => by cases hq; exact hR
  replace hX : CX X RX9 cX9_saysOf 4 := hX
  refine v_opg [63, 66] [(63, g 63), (66, g 66)] rfl ?_
  show VC X r (lkp g [(63, g 63), (66, g 66)]) u h [(0, .ref (aX X 52)), (1, .int p1)] [] 0
  rw [f9_saysOf] at hf
  refine v_aload_n hX dX9_saysOf_0 rfl 0 rfl 1 rfl ?_
  refine gf_52_21 hX q_114 dX9_saysOf_1 4 rfl ?_
  refine v_iconst (v := (0 : Int32)) hX dX9_saysOf_4 (by decide) 5 rfl ?_
  refine v_aload_n hX dX9_saysOf_5 rfl 0 rfl 6 rfl ?_
  refine v_iload_n hX dX9_saysOf_6 rfl 1 rfl 7 rfl ?_
  refine v_iconst (v := (4 : Int32)) hX dX9_saysOf_7 (by decide) 8 rfl ?_
  obtain ⟨v1, hv1, hf⟩ := bn1_e hf
  refine cv_i hX (c9_its r (lkp g [(63, (g 63)), (66, (g 66))]) u h _ _ hv1) wvX9_its q_471 rc_52 (Nat.le_of_ble_eq_true rfl) (Nat.le_of_ble_eq_true rfl) (fun _ => rfl) [.int (0 : Int32), .ref (aX X 63)] rfl (Nat.le_of_ble_eq_true rfl) dX9_saysOf_8 11 rfl ?_
  obtain ⟨hi2, hf⟩ := gd_e hf
  refine as_63 hX hi2 dX9_saysOf_11 12 rfl (g 63) rfl [(63, (upd (g 63) (0 : Int32).toNatClampNeg v1)), (66, (g 66))] rfl ?_
  refine v_aload_n hX dX9_saysOf_12 rfl 0 rfl 13 rfl ?_
  refine gf_52_21 hX q_114 dX9_saysOf_13 16 rfl ?_
  refine v_iconst (v := (1 : Int32)) hX dX9_saysOf_16 (by decide) 17 rfl ?_
  refine v_aload_n hX dX9_saysOf_17 rfl 0 rfl 18 rfl ?_
  refine v_iload_n hX dX9_saysOf_18 rfl 1 rfl 19 rfl ?_
  refine v_iconst (v := (1 : Int32)) hX dX9_saysOf_19 (by decide) 20 rfl ?_
  obtain ⟨v3, hv3, hf⟩ := bn1_e hf
  refine cv_i hX (c9_its r (lkp g [(63, (upd (g 63) (0 : Int32).toNatClampNeg v1)), (66, (g 66))]) u h _ _ hv3) wvX9_its q_471 rc_52 (Nat.le_of_ble_eq_true rfl) (Nat.le_of_ble_eq_true rfl) (fun _ => rfl) [.int (1 : Int32), .ref (aX X 63)] rfl (Nat.le_of_ble_eq_true rfl) dX9_saysOf_20 23 rfl ?_
  obtain ⟨hi4, hf⟩ := gd_e hf
  refine as_63 hX hi4 dX9_saysOf_23 24 rfl (upd (g 63) (0 : Int32).toNatClampNeg v1) rfl [(63, (upd (upd (g 63) (0 : Int32).toNatClampNeg v1) (1 : Int32).toNatClampNeg v3)), (66, (g 66))] rfl ?_
  refine v_aload_n hX dX9_saysOf_24 rfl 0 rfl 25 rfl ?_
  refine gf_52_21 hX q_114 dX9_saysOf_25 28 rfl ?_
  refine v_iconst (v := (2 : Int32)) hX dX9_saysOf_28 (by decide) 29 rfl ?_
  refine v_aload_n hX dX9_saysOf_29 rfl 0 rfl 30 rfl ?_
  refine v_iload_n hX dX9_saysOf_30 rfl 1 rfl 31 rfl ?_
  obtain ⟨v5, hv5, hf⟩ := bn1_e hf
  refine cv_i hX (c9_peopleIn r (lkp g [(63, (upd (upd (g 63) (0 : Int32).toNatClampNeg v1) (1 : Int32).toNatClampNeg v3)), (66, (g 66))]) u h _ hv5) wvX9_peopleIn q_838 rc_52 (Nat.le_of_ble_eq_true rfl) (Nat.le_of_ble_eq_true rfl) (fun _ => rfl) [.int (2 : Int32), .ref (aX X 63)] rfl (Nat.le_of_ble_eq_true rfl) dX9_saysOf_31 34 rfl ?_
  obtain ⟨hi6, hf⟩ := gd_e hf
  refine as_63 hX hi6 dX9_saysOf_34 35 rfl (upd (upd (g 63) (0 : Int32).toNatClampNeg v1) (1 : Int32).toNatClampNeg v3) rfl [(63, (upd (upd (upd (g 63) (0 : Int32).toNatClampNeg v1) (1 : Int32).toNatClampNeg v3) (2 : Int32).toNatClampNeg v5)), (66, (g 66))] rfl ?_
  refine v_aload_n hX dX9_saysOf_35 rfl 0 rfl 36 rfl ?_
  refine gf_52_21 hX q_114 dX9_saysOf_36 39 rfl ?_
  refine v_iconst (v := (3 : Int32)) hX dX9_saysOf_39 (by decide) 40 rfl ?_
  refine v_aload_n hX dX9_saysOf_40 rfl 0 rfl 41 rfl ?_
  refine v_iload_n hX dX9_saysOf_41 rfl 1 rfl 42 rfl ?_
  obtain ⟨v7, hv7, hf⟩ := bn1_e hf
  refine cv_i hX (c9_tiedTo r (lkp g [(63, (upd (upd (upd (g 63) (0 : Int32).toNatClampNeg v1) (1 : Int32).toNatClampNeg v3) (2 : Int32).toNatClampNeg v5)), (66, (g 66))]) u h _ hv7) wvX9_tiedTo q_604 rc_52 (Nat.le_of_ble_eq_true rfl) (Nat.le_of_ble_eq_true rfl) (fun _ => rfl) [.int (3 : Int32), .ref (aX X 63)] rfl (Nat.le_of_ble_eq_true rfl) dX9_saysOf_42 45 rfl ?_
  obtain ⟨v8, hv8, hf⟩ := bn1_e hf
  refine cs_i hX (c9_ones r (lkp g [(63, (upd (upd (upd (g 63) (0 : Int32).toNatClampNeg v1) (1 : Int32).toNatClampNeg v3) (2 : Int32).toNatClampNeg v5)), (66, (g 66))]) u h _ hv8) wvX9_ones q_701 (Nat.le_of_ble_eq_true rfl) (Nat.le_of_ble_eq_true rfl) (fun _ => rfl) [.int (3 : Int32), .ref (aX X 63)] rfl (Nat.le_of_ble_eq_true rfl) dX9_saysOf_45 48 rfl ?_
  obtain ⟨hi9, hf⟩ := gd_e hf
  refine as_63 hX hi9 dX9_saysOf_48 49 rfl (upd (upd (upd (g 63) (0 : Int32).toNatClampNeg v1) (1 : Int32).toNatClampNeg v3) (2 : Int32).toNatClampNeg v5) rfl [(63, (upd (upd (upd (upd (g 63) (0 : Int32).toNatClampNeg v1) (1 : Int32).toNatClampNeg v3) (2 : Int32).toNatClampNeg v5) (3 : Int32).toNatClampNeg v8)), (66, (g 66))] rfl ?_
  refine v_aload_n hX dX9_saysOf_49 rfl 0 rfl 50 rfl ?_
  refine gf_52_21 hX q_114 dX9_saysOf_50 53 rfl ?_
  refine v_iconst (v := (4 : Int32)) hX dX9_saysOf_53 (by decide) 54 rfl ?_
  refine v_aload_n hX dX9_saysOf_54 rfl 0 rfl 55 rfl ?_
  refine v_iload_n hX dX9_saysOf_55 rfl 1 rfl 56 rfl ?_
  refine v_iconst (v := (3 : Int32)) hX dX9_saysOf_56 (by decide) 57 rfl ?_
  obtain ⟨v10, hv10, hf⟩ := bn1_e hf
  refine cv_i hX (c9_its r (lkp g [(63, (upd (upd (upd (upd (g 63) (0 : Int32).toNatClampNeg v1) (1 : Int32).toNatClampNeg v3) (2 : Int32).toNatClampNeg v5) (3 : Int32).toNatClampNeg v8)), (66, (g 66))]) u h _ _ hv10) wvX9_its q_471 rc_52 (Nat.le_of_ble_eq_true rfl) (Nat.le_of_ble_eq_true rfl) (fun _ => rfl) [.int (4 : Int32), .ref (aX X 63)] rfl (Nat.le_of_ble_eq_true rfl) dX9_saysOf_57 60 rfl ?_
  obtain ⟨hi11, hf⟩ := gd_e hf
  refine as_63 hX hi11 dX9_saysOf_60 61 rfl (upd (upd (upd (upd (g 63) (0 : Int32).toNatClampNeg v1) (1 : Int32).toNatClampNeg v3) (2 : Int32).toNatClampNeg v5) (3 : Int32).toNatClampNeg v8) rfl [(63, (upd (upd (upd (upd (upd (g 63) (0 : Int32).toNatClampNeg v1) (1 : Int32).toNatClampNeg v3) (2 : Int32).toNatClampNeg v5) (3 : Int32).toNatClampNeg v8) (4 : Int32).toNatClampNeg v10)), (66, (g 66))] rfl ?_
  refine v_aload_n hX dX9_saysOf_61 rfl 0 rfl 62 rfl ?_
  refine gf_52_21 hX q_114 dX9_saysOf_62 65 rfl ?_
  refine v_iconst (v := (5 : Int32)) hX dX9_saysOf_65 (by decide) 66 rfl ?_
  refine v_aload_n hX dX9_saysOf_66 rfl 0 rfl 67 rfl ?_
  refine v_iload_n hX dX9_saysOf_67 rfl 1 rfl 68 rfl ?_
  refine v_iconst (v := (0 : Int32)) hX dX9_saysOf_68 (by decide) 69 rfl ?_
  obtain ⟨v12, hv12, hf⟩ := bn1_e hf
  refine cv_i hX (c9_its r (lkp g [(63, (upd (upd (upd (upd (upd (g 63) (0 : Int32).toNatClampNeg v1) (1 : Int32).toNatClampNeg v3) (2 : Int32).toNatClampNeg v5) (3 : Int32).toNatClampNeg v8) (4 : Int32).toNatClampNeg v10)), (66, (g 66))]) u h _ _ hv12) wvX9_its q_471 rc_52 (Nat.le_of_ble_eq_true rfl) (Nat.le_of_ble_eq_true rfl) (fun _ => rfl) [.int (5 : Int32), .ref (aX X 63)] rfl (Nat.le_of_ble_eq_true rfl) dX9_saysOf_69 72 rfl ?_
  obtain ⟨hi13, hf⟩ := gd_e hf
  refine as_63 hX hi13 dX9_saysOf_72 73 rfl (upd (upd (upd (upd (upd (g 63) (0 : Int32).toNatClampNeg v1) (1 : Int32).toNatClampNeg v3) (2 : Int32).toNatClampNeg v5) (3 : Int32).toNatClampNeg v8) (4 : Int32).toNatClampNeg v10) rfl [(63, (upd (upd (upd (upd (upd (upd (g 63) (0 : Int32).toNatClampNeg v1) (1 : Int32).toNatClampNeg v3) (2 : Int32).toNatClampNeg v5) (3 : Int32).toNatClampNeg v8) (4 : Int32).toNatClampNeg v10) (5 : Int32).toNatClampNeg v12)), (66, (g 66))] rfl ?_
  refine v_iconst (v := (0 : Int32)) hX dX9_saysOf_73 (by decide) 74 rfl ?_
  refine v_istore_n hX dX9_saysOf_74 rfl (ltn hn (by decide)) 75 rfl [(2, .int (0 : Int32)), (0, .ref (aX X 52)), (1, .int p1)] rfl ?_
  refine v_iconst (v := (0 : Int32)) hX dX9_saysOf_75 (by decide) 76 rfl ?_
  refine v_istore_n hX dX9_saysOf_76 rfl (ltn hn (by decide)) 77 rfl [(3, .int (0 : Int32)), (2, .int (0 : Int32)), (0, .ref (aX X 52)), (1, .int p1)] rfl ?_
  obtain ⟨K17, hK17, hf⟩ := jn_x hf
  have HK17 : ∀ (x14 : Int32) (x15 : Int32) (c16 : (Nat → Int32)), K17 x14 x15 c16 = some res → VC X r (lkp g [(63, (upd (upd (upd (upd (upd (upd (g 63) (0 : Int32).toNatClampNeg v1) (1 : Int32).toNatClampNeg v3) (2 : Int32).toNatClampNeg v5) (3 : Int32).toNatClampNeg v8) (4 : Int32).toNatClampNeg v10) (5 : Int32).toNatClampNeg v12)), (66, c16)]) u h [(2, .int x14)] [] 135 := by
    intro x14 x15 c16 hf
    rw [hK17] at hf
    refine v_iload_n hX dX9_saysOf_135 rfl 0 rfl 136 rfl ?_
    exact hR _ hf _ _ dX9_saysOf_136 rfl
  have HLK17 : ∀ (n18 : Nat) (x14 : Int32) (x15 : Int32) (c16 : (Nat → Int32)), f9_saysOf_L77 (r 32) (g 60) (g 63) (g 61) v1 v3 v5 v8 v10 v12 n18 x14 x15 c16 K17 = some res → VC X r (lkp g [(63, (upd (upd (upd (upd (upd (upd (g 63) (0 : Int32).toNatClampNeg v1) (1 : Int32).toNatClampNeg v3) (2 : Int32).toNatClampNeg v5) (3 : Int32).toNatClampNeg v8) (4 : Int32).toNatClampNeg v10) (5 : Int32).toNatClampNeg v12)), (66, c16)]) u h [(0, .ref (aX X 52)), (2, .int x14), (3, .int x15)] [] 77 := by
    intro n18
    induction n18 with
    | zero => intro x14 x15 c16 hf; exact no_s hf
    | succ n18 ih =>
      intro x14 x15 c16 hf
      rw [f9_saysOf_L77] at hf
      refine v_iload_n hX dX9_saysOf_77 rfl 2 rfl 78 rfl ?_
      refine v_aload_n hX dX9_saysOf_78 rfl 0 rfl 79 rfl ?_
      refine gf_52_9 hX q_311 dX9_saysOf_79 ((r 32)) rfl 82 rfl ?_
      refine v_icmp_ge hX dX9_saysOf_82 135 rfl 85 rfl (fun h27 => ?_) (fun h27 => ?_)
      · replace hf := it_p h27 hf
        refine v_sub [(2, .int x14)] (sbc 1 rfl sbn) ?_
        exact HK17 _ _ _ hf
      · replace hf := it_n h27 hf
        refine v_aload_n hX dX9_saysOf_85 rfl 0 rfl 86 rfl ?_
        refine v_aload_n hX dX9_saysOf_86 rfl 0 rfl 87 rfl ?_
        refine gf_52_11 hX q_111 dX9_saysOf_87 90 rfl ?_
        refine v_aload_n hX dX9_saysOf_90 rfl 0 rfl 91 rfl ?_
        refine gf_52_10 hX q_110 dX9_saysOf_91 94 rfl ?_
        refine v_iconst (v := (3 : Int32)) hX dX9_saysOf_94 (by decide) 95 rfl ?_
        refine v_iload_n hX dX9_saysOf_95 rfl 2 rfl 96 rfl ?_
        refine v_imul hX dX9_saysOf_96 97 rfl ?_
        refine v_iconst (v := (1 : Int32)) hX dX9_saysOf_97 (by decide) 98 rfl ?_
        refine v_iadd hX dX9_saysOf_98 99 rfl ?_
        obtain ⟨hi19, hf⟩ := gd_e hf
        refine al_60 hX hi19 dX9_saysOf_99 ((g 60) (((3 : Int32) * x15) + (1 : Int32)).toNatClampNeg) rfl 100 rfl ?_
        refine v_aload_n hX dX9_saysOf_100 rfl 0 rfl 101 rfl ?_
        refine gf_52_10 hX q_110 dX9_saysOf_101 104 rfl ?_
        refine v_iconst (v := (3 : Int32)) hX dX9_saysOf_104 (by decide) 105 rfl ?_
        refine v_iload_n hX dX9_saysOf_105 rfl 2 rfl 106 rfl ?_
        refine v_imul hX dX9_saysOf_106 107 rfl ?_
        refine v_iconst (v := (2 : Int32)) hX dX9_saysOf_107 (by decide) 108 rfl ?_
        refine v_iadd hX dX9_saysOf_108 109 rfl ?_
        obtain ⟨hi20, hf⟩ := gd_e hf
        refine al_60 hX hi20 dX9_saysOf_109 ((g 60) (((3 : Int32) * x15) + (2 : Int32)).toNatClampNeg) rfl 110 rfl ?_
        obtain ⟨v21, c22, hv21, hf⟩ := bn2_e hf
        refine cv_i hX (c9_isSo r (lkp g [(63, (upd (upd (upd (upd (upd (upd (g 63) (0 : Int32).toNatClampNeg v1) (1 : Int32).toNatClampNeg v3) (2 : Int32).toNatClampNeg v5) (3 : Int32).toNatClampNeg v8) (4 : Int32).toNatClampNeg v10) (5 : Int32).toNatClampNeg v12)), (66, c16)]) u h _ _ hv21) wvX9_isSo q_882 rc_52 (Nat.le_of_ble_eq_true rfl) (Nat.le_of_ble_eq_true rfl) (fun _ => rfl) [] rfl (Nat.le_of_ble_eq_true rfl) dX9_saysOf_110 113 rfl ?_
        refine v_mgg [(63, (upd (upd (upd (upd (upd (upd (g 63) (0 : Int32).toNatClampNeg v1) (1 : Int32).toNatClampNeg v3) (2 : Int32).toNatClampNeg v5) (3 : Int32).toNatClampNeg v8) (4 : Int32).toNatClampNeg v10) (5 : Int32).toNatClampNeg v12)), (66, c22)] rfl ?_
        obtain ⟨J23, hJ23, hf⟩ := jn_x hf
        have HJ23 : ∀ (s24 : Int32), J23 s24 = some res → VC X r (lkp g [(63, (upd (upd (upd (upd (upd (upd (g 63) (0 : Int32).toNatClampNeg v1) (1 : Int32).toNatClampNeg v3) (2 : Int32).toNatClampNeg v5) (3 : Int32).toNatClampNeg v8) (4 : Int32).toNatClampNeg v10) (5 : Int32).toNatClampNeg v12)), (66, c22)]) u h [(0, .ref (aX X 52)), (3, .int x15)] [.int s24] 128 := by
          intro s24 hf
          rw [hJ23] at hf
          refine v_istore_n hX dX9_saysOf_128 rfl (ltn hn (by decide)) 129 rfl [(2, .int s24), (0, .ref (aX X 52)), (3, .int x15)] rfl ?_
          refine v_inc (c := (1 : Int32)) hX dX9_saysOf_129 2 rfl (by decide) (ltn hn (by decide)) 132 rfl [(3, .int (x15 + (1 : Int32))), (2, .int s24), (0, .ref (aX X 52))] rfl ?_
          refine v_goto hX dX9_saysOf_132 77 rfl ?_
          refine v_sub [(0, .ref (aX X 52)), (2, .int s24), (3, .int (x15 + (1 : Int32)))] (sbc 2 rfl (sbc 1 rfl (sbc 0 rfl sbn))) ?_
          exact ih _ _ _ hf
        refine v_if_eq hX dX9_saysOf_113 127 rfl 116 rfl (fun h26 => ?_) (fun h26 => ?_)
        · replace hf := it_p h26 hf
          refine v_iload_n hX dX9_saysOf_127 rfl 1 rfl 128 rfl ?_
          refine v_sub [(0, .ref (aX X 52)), (3, .int x15)] (sbc 0 rfl (sbc 2 rfl sbn)) ?_
          exact HJ23 _ hf
        · replace hf := it_n h26 hf
          refine v_aload_n hX dX9_saysOf_116 rfl 0 rfl 117 rfl ?_
          refine gf_52_10 hX q_110 dX9_saysOf_117 120 rfl ?_
          refine v_iconst (v := (3 : Int32)) hX dX9_saysOf_120 (by decide) 121 rfl ?_
          refine v_iload_n hX dX9_saysOf_121 rfl 2 rfl 122 rfl ?_
          refine v_imul hX dX9_saysOf_122 123 rfl ?_
          obtain ⟨hi25, hf⟩ := gd_e hf
          refine al_60 hX hi25 dX9_saysOf_123 ((g 60) ((3 : Int32) * x15).toNatClampNeg) rfl 124 rfl ?_
          refine v_goto hX dX9_saysOf_124 128 rfl ?_
          refine v_sub [(0, .ref (aX X 52)), (3, .int x15)] (sbc 0 rfl (sbc 2 rfl sbn)) ?_
          exact HJ23 _ hf
  refine v_sub [(0, .ref (aX X 52)), (2, .int (0 : Int32)), (3, .int (0 : Int32))] (sbc 2 rfl (sbc 1 rfl (sbc 0 rfl sbn))) ?_
  exact HLK17 _ _ _ _ hf
set_option maxRecDepth 100000 in
set_option maxHeartbeats 4000000 in
theorem c9_right (r : Nat → Int32) (g : Nat → Nat → Int32) (u : Nat → Int64) (h : Nat → Nat → Int64) (p1 : Int32) {res : Int32 × (Nat → Int32) × (Nat → Int32)} (hf : f9_right (r 31) (r 32) (r 30) (g 57) (g 60) (g 63) (g 55) (g 58) (g 56) (g 66) (g 61) p1 = some res) : MAi yX9_right cX9_right 5 (some .int) 5 (fun a => [.ref (a 52), .int p1]) r g u h res.1 r (lkp g [(63, res.2.1), (66, res.2.2)]) u h := by
  refine mi_i (by decide +kernel) (fun a => Nat.le_of_ble_eq_true rfl) (fun X hX hn hR => ?_)
  replace hR : ∀ q : Int32 × (Nat → Int32) × (Nat → Int32), some q = some res → ∀ lv pc, decode cX9_right pc = .ok (.ireturn, 1) → narrow .int (.int q.1) = .int q.1 → VC X r (lkp g [(63, q.2.1), (66, q.2.2)]) u h lv [.int q.1] pc := fun q hq => by cases hq; exact hR
  replace hX : CX X RX9 cX9_right 5 := hX
  refine v_opg [63, 66] [(63, g 63), (66, g 66)] rfl ?_
  show VC X r (lkp g [(63, g 63), (66, g 66)]) u h [(0, .ref (aX X 52)), (1, .int p1)] [] 0
  rw [f9_right] at hf
  refine v_iload_n hX dX9_right_0 rfl 1 rfl 1 rfl ?_
  refine v_iconst (v := (0 : Int32)) hX dX9_right_1 (by decide) 2 rfl ?_
  refine v_iconst (v := (3 : Int32)) hX dX9_right_2 (by decide) 3 rfl ?_
  obtain ⟨v1, hv1, hf⟩ := bn1_e hf
  refine cs_i hX (c9_in r (lkp g [(63, (g 63)), (66, (g 66))]) u h _ _ _ hv1) wvX9_in q_150 (Nat.le_of_ble_eq_true rfl) (Nat.le_of_ble_eq_true rfl) (fun _ => rfl) [] rfl (Nat.le_of_ble_eq_true rfl) dX9_right_3 6 rfl ?_
  refine v_if_ne hX dX9_right_6 11 rfl 9 rfl (fun h22 => ?_) (fun h22 => ?_)
  · replace hf := it_n h22 hf
    refine v_iconst (v := (0 : Int32)) hX dX9_right_11 (by decide) 12 rfl ?_
    refine v_istore_n hX dX9_right_12 rfl (ltn hn (by decide)) 13 rfl [(2, .int (0 : Int32)), (0, .ref (aX X 52)), (1, .int p1)] rfl ?_
    refine v_iconst (v := (0 : Int32)) hX dX9_right_13 (by decide) 14 rfl ?_
    refine v_istore_n hX dX9_right_14 rfl (ltn hn (by decide)) 15 rfl [(3, .int (0 : Int32)), (2, .int (0 : Int32)), (0, .ref (aX X 52)), (1, .int p1)] rfl ?_
    obtain ⟨K6, hK6, hf⟩ := jn_x hf
    have HK6 : ∀ (x2 : Int32) (x3 : Int32) (c4 : (Nat → Int32)) (c5 : (Nat → Int32)), K6 x2 x3 c4 c5 = some res → VC X r (lkp g [(63, c4), (66, c5)]) u h [(2, .int x2)] [] 78 := by
      intro x2 x3 c4 c5 hf
      rw [hK6] at hf
      refine v_iload_n hX dX9_right_78 rfl 0 rfl 79 rfl ?_
      exact hR _ hf _ _ dX9_right_79 rfl
    have HLK6 : ∀ (n7 : Nat) (x2 : Int32) (x3 : Int32) (c4 : (Nat → Int32)) (c5 : (Nat → Int32)), f9_right_L15 (r 31) (r 32) (r 30) (g 57) (g 60) (g 55) (g 58) (g 56) (g 61) p1 n7 x2 x3 c4 c5 K6 = some res → VC X r (lkp g [(63, c4), (66, c5)]) u h [(0, .ref (aX X 52)), (1, .int p1), (2, .int x2), (3, .int x3)] [] 15 := by
      intro n7
      induction n7 with
      | zero => intro x2 x3 c4 c5 hf; exact no_s hf
      | succ n7 ih =>
        intro x2 x3 c4 c5 hf
        rw [f9_right_L15] at hf
        refine v_iload_n hX dX9_right_15 rfl 3 rfl 16 rfl ?_
        refine v_aload_n hX dX9_right_16 rfl 0 rfl 17 rfl ?_
        refine gf_52_5 hX q_462 dX9_right_17 ((r 31)) rfl 20 rfl ?_
        refine v_icmp_ge hX dX9_right_20 78 rfl 23 rfl (fun h21 => ?_) (fun h21 => ?_)
        · replace hf := it_p h21 hf
          refine v_sub [(2, .int x2)] (sbc 2 rfl sbn) ?_
          exact HK6 _ _ _ _ hf
        · replace hf := it_n h21 hf
          refine v_aload_n hX dX9_right_23 rfl 0 rfl 24 rfl ?_
          refine v_iload_n hX dX9_right_24 rfl 3 rfl 25 rfl ?_
          refine v_bipush (v := (9 : Int32)) hX dX9_right_25 (by decide) 27 rfl ?_
          obtain ⟨v8, hv8, hf⟩ := bn1_e hf
          refine cv_i hX (c9_its r (lkp g [(63, c4), (66, c5)]) u h _ _ hv8) wvX9_its q_471 rc_52 (Nat.le_of_ble_eq_true rfl) (Nat.le_of_ble_eq_true rfl) (fun _ => rfl) [] rfl (Nat.le_of_ble_eq_true rfl) dX9_right_27 30 rfl ?_
          obtain ⟨J9, hJ9, hf⟩ := jn_x hf
          have HJ9 : ∀ (s10 : Int32) (c11 : (Nat → Int32)) (c12 : (Nat → Int32)), J9 s10 c11 c12 = some res → VC X r (lkp g [(63, c11), (66, c12)]) u h [(0, .ref (aX X 52)), (1, .int p1), (2, .int x2), (3, .int x3)] [.int s10] 56 := by
            intro s10 c11 c12 hf
            rw [hJ9] at hf
            refine v_istore hX dX9_right_56 (ltn hn (by decide)) 58 rfl [(4, .int s10), (0, .ref (aX X 52)), (1, .int p1), (2, .int x2), (3, .int x3)] rfl ?_
            refine v_iload_n hX dX9_right_58 rfl 3 rfl 59 rfl ?_
            refine v_iload hX dX9_right_59 0 rfl 61 rfl ?_
            refine v_iload_n hX dX9_right_61 rfl 2 rfl 62 rfl ?_
            obtain ⟨J13, hJ13, hf⟩ := jn_x hf
            have HJ13 : ∀ (s14 : Int32), J13 s14 = some res → VC X r (lkp g [(63, c11), (66, c12)]) u h [(0, .ref (aX X 52)), (1, .int p1), (3, .int x3)] [.int s14, .int x2] 70 := by
              intro s14 hf
              rw [hJ13] at hf
              refine v_iadd hX dX9_right_70 71 rfl ?_
              refine v_istore_n hX dX9_right_71 rfl (ltn hn (by decide)) 72 rfl [(2, .int (x2 + s14)), (0, .ref (aX X 52)), (1, .int p1), (3, .int x3)] rfl ?_
              refine v_inc (c := (1 : Int32)) hX dX9_right_72 3 rfl (by decide) (ltn hn (by decide)) 75 rfl [(3, .int (x3 + (1 : Int32))), (2, .int (x2 + s14)), (0, .ref (aX X 52)), (1, .int p1)] rfl ?_
              refine v_goto hX dX9_right_75 15 rfl ?_
              refine v_sub [(0, .ref (aX X 52)), (1, .int p1), (2, .int (x2 + s14)), (3, .int (x3 + (1 : Int32)))] (sbc 2 rfl (sbc 3 rfl (sbc 1 rfl (sbc 0 rfl sbn)))) ?_
              exact ih _ _ _ _ hf
            refine v_icmp_ne hX dX9_right_62 69 rfl 65 rfl (fun h15 => ?_) (fun h15 => ?_)
            · replace hf := it_n h15 hf
              refine v_iconst (v := (0 : Int32)) hX dX9_right_69 (by decide) 70 rfl ?_
              refine v_sub [(0, .ref (aX X 52)), (1, .int p1), (3, .int x3)] (sbc 1 rfl (sbc 2 rfl (sbc 4 rfl sbn))) ?_
              exact HJ13 _ hf
            · replace hf := it_p h15 hf
              refine v_iconst (v := (1 : Int32)) hX dX9_right_65 (by decide) 66 rfl ?_
              refine v_goto hX dX9_right_66 70 rfl ?_
              refine v_sub [(0, .ref (aX X 52)), (1, .int p1), (3, .int x3)] (sbc 1 rfl (sbc 2 rfl (sbc 4 rfl sbn))) ?_
              exact HJ13 _ hf
          refine v_if_ne hX dX9_right_30 37 rfl 33 rfl (fun h20 => ?_) (fun h20 => ?_)
          · replace hf := it_n h20 hf
            refine v_iconst (v := (2 : Int32)) hX dX9_right_37 (by decide) 38 rfl ?_
            refine v_iconst (v := (1 : Int32)) hX dX9_right_38 (by decide) 39 rfl ?_
            refine v_aload_n hX dX9_right_39 rfl 0 rfl 40 rfl ?_
            refine v_iload_n hX dX9_right_40 rfl 3 rfl 41 rfl ?_
            obtain ⟨v16, c17, c18, hv16, hf⟩ := bn3_e hf
            refine cv_i hX (c9_saysOf r (lkp g [(63, c4), (66, c5)]) u h _ hv16) wvX9_saysOf q_878 rc_52 (Nat.le_of_ble_eq_true rfl) (Nat.le_of_ble_eq_true rfl) (fun _ => rfl) [.int (1 : Int32), .int (2 : Int32)] rfl (Nat.le_of_ble_eq_true rfl) dX9_right_41 44 rfl ?_
            refine v_mgg [(63, c17), (66, c18)] rfl ?_
            refine v_isub hX dX9_right_44 45 rfl ?_
            refine v_imul hX dX9_right_45 46 rfl ?_
            refine v_iconst (v := (2 : Int32)) hX dX9_right_46 (by decide) 47 rfl ?_
            refine v_iadd hX dX9_right_47 48 rfl ?_
            refine v_aload_n hX dX9_right_48 rfl 0 rfl 49 rfl ?_
            refine v_iload_n hX dX9_right_49 rfl 3 rfl 50 rfl ?_
            refine v_bipush (v := (9 : Int32)) hX dX9_right_50 (by decide) 52 rfl ?_
            obtain ⟨v19, hv19, hf⟩ := bn1_e hf
            refine cv_i hX (c9_its r (lkp g [(63, c17), (66, c18)]) u h _ _ hv19) wvX9_its q_471 rc_52 (Nat.le_of_ble_eq_true rfl) (Nat.le_of_ble_eq_true rfl) (fun _ => rfl) [.int (((2 : Int32) * ((1 : Int32) - v16)) + (2 : Int32))] rfl (Nat.le_of_ble_eq_true rfl) dX9_right_52 55 rfl ?_
            refine v_isub hX dX9_right_55 56 rfl ?_
            exact HJ9 _ _ _ hf
          · replace hf := it_p h20 hf
            refine v_iconst (v := (-1 : Int32)) hX dX9_right_33 (by decide) 34 rfl ?_
            refine v_goto hX dX9_right_34 56 rfl ?_
            exact HJ9 _ _ _ hf
    refine v_sub [(0, .ref (aX X 52)), (1, .int p1), (2, .int (0 : Int32)), (3, .int (0 : Int32))] (sbc 2 rfl (sbc 3 rfl (sbc 1 rfl (sbc 0 rfl sbn)))) ?_
    exact HLK6 _ _ _ _ _ hf
  · replace hf := it_p h22 hf
    refine v_iconst (v := (-1 : Int32)) hX dX9_right_9 (by decide) 10 rfl ?_
    exact hR _ hf _ _ dX9_right_10 rfl
set_option maxRecDepth 100000 in
set_option maxHeartbeats 4000000 in
theorem c9_row (r : Nat → Int32) (g : Nat → Nat → Int32) (u : Nat → Int64) (h : Nat → Nat → Int64) (p1 : Int32) (p2 : Int32) {res : Int32} (hf : f9_row (r 44) (g 72) p1 p2 = some res) : MAi yX9_row cX9_row 3 (some .int) 2 (fun a => [.ref (a 52), .int p1, .int p2]) r g u h res r g u h := by
  refine mi_i (by decide +kernel) (fun a => Nat.le_of_ble_eq_true rfl) (fun X hX hn hR => ?_)
  replace hR : ∀ q : Int32, some q = some res → ∀ lv pc, decode cX9_row pc = .ok (.ireturn, 1) → narrow .int (.int q) = .int q → VC X r g u h lv [.int q] pc := fun q hq => by cases hq; exact hR
  replace hX : CX X RX9 cX9_row 2 := hX
  show VC X r g u h [(0, .ref (aX X 52)), (1, .int p1), (2, .int p2)] [] 0
  rw [f9_row] at hf
  refine v_aload_n hX dX9_row_0 rfl 0 rfl 1 rfl ?_
  refine v_iload_n hX dX9_row_1 rfl 1 rfl 2 rfl ?_
  refine v_iload_n hX dX9_row_2 rfl 2 rfl 3 rfl ?_
  obtain ⟨v1, hv1, hf⟩ := bn1_e hf
  refine cv_i hX (c9_isRow r g u h _ _ hv1) wvX9_isRow q_982 rc_52 (Nat.le_of_ble_eq_true rfl) (Nat.le_of_ble_eq_true rfl) (fun _ => rfl) [] rfl (Nat.le_of_ble_eq_true rfl) dX9_row_3 6 rfl ?_
  refine v_if_eq hX dX9_row_6 22 rfl 9 rfl (fun h3 => ?_) (fun h3 => ?_)
  · replace hf := it_p h3 hf
    refine v_bipush (v := (-9 : Int32)) hX dX9_row_22 (by decide) 24 rfl ?_
    exact hR _ hf _ _ dX9_row_24 rfl
  · replace hf := it_n h3 hf
    refine v_aload_n hX dX9_row_9 rfl 0 rfl 10 rfl ?_
    refine gf_52_36 hX q_123 dX9_row_10 13 rfl ?_
    refine v_iconst (v := (3 : Int32)) hX dX9_row_13 (by decide) 14 rfl ?_
    refine v_iload_n hX dX9_row_14 rfl 1 rfl 15 rfl ?_
    refine v_imul hX dX9_row_15 16 rfl ?_
    refine v_iload_n hX dX9_row_16 rfl 2 rfl 17 rfl ?_
    refine v_iadd hX dX9_row_17 18 rfl ?_
    obtain ⟨hi2, hf⟩ := gd_e hf
    refine al_72 hX hi2 dX9_row_18 ((g 72) (((3 : Int32) * p1) + p2).toNatClampNeg) rfl 19 rfl ?_
    refine v_goto hX dX9_row_19 24 rfl ?_
    exact hR _ hf _ _ dX9_row_24 rfl
set_option maxRecDepth 100000 in
set_option maxHeartbeats 4000000 in
theorem c9_byteAt (r : Nat → Int32) (g : Nat → Nat → Int32) (u : Nat → Int64) (h : Nat → Nat → Int64) (p1 : Int32) {res : Int32} (hf : f9_byteAt (r 34) (g 62) p1 = some res) : MAi yX9_byteAt cX9_byteAt 2 (some .int) 0 (fun a => [.ref (a 52), .int p1]) r g u h res r g u h := by
  refine mi_i (by decide +kernel) (fun a => Nat.le_of_ble_eq_true rfl) (fun X hX hn hR => ?_)
  replace hR : ∀ q : Int32, some q = some res → ∀ lv pc, decode cX9_byteAt pc = .ok (.ireturn, 1) → narrow .int (.int q) = .int q → VC X r g u h lv [.int q] pc := fun q hq => by cases hq; exact hR
  replace hX : CX X RX9 cX9_byteAt 0 := hX
  show VC X r g u h [(0, .ref (aX X 52)), (1, .int p1)] [] 0
  rw [f9_byteAt] at hf
  refine v_iload_n hX dX9_byteAt_0 rfl 1 rfl 1 rfl ?_
  refine v_aload_n hX dX9_byteAt_1 rfl 0 rfl 2 rfl ?_
  refine gf_52_14 hX q_148 dX9_byteAt_2 ((r 34)) rfl 5 rfl ?_
  refine v_icmp_ge hX dX9_byteAt_5 17 rfl 8 rfl (fun h2 => ?_) (fun h2 => ?_)
  · replace hf := it_p h2 hf
    refine v_iconst (v := (-1 : Int32)) hX dX9_byteAt_17 (by decide) 18 rfl ?_
    exact hR _ hf _ _ dX9_byteAt_18 rfl
  · replace hf := it_n h2 hf
    refine v_aload_n hX dX9_byteAt_8 rfl 0 rfl 9 rfl ?_
    refine gf_52_13 hX q_113 dX9_byteAt_9 12 rfl ?_
    refine v_iload_n hX dX9_byteAt_12 rfl 1 rfl 13 rfl ?_
    obtain ⟨hi1, hf⟩ := gd_e hf
    refine al_62 hX hi1 dX9_byteAt_13 ((g 62) p1.toNatClampNeg) rfl 14 rfl ?_
    refine v_goto hX dX9_byteAt_14 18 rfl ?_
    exact hR _ hf _ _ dX9_byteAt_18 rfl
set_option maxRecDepth 100000 in
set_option maxHeartbeats 4000000 in
theorem c9_isLetter (r : Nat → Int32) (g : Nat → Nat → Int32) (u : Nat → Int64) (h : Nat → Nat → Int64) (p0 : Int32) {res : Int32} (hf : f9_isLetter p0 = some res) : MAi yX9_isLetter cX9_isLetter 1 (some .boolean) 1 (fun a => [.int p0]) r g u h res r g u h := by
  refine mi_i (by decide +kernel) (fun a => Nat.le_of_ble_eq_true rfl) (fun X hX hn hR => ?_)
  replace hR : ∀ q : Int32, some q = some res → ∀ lv pc, decode cX9_isLetter pc = .ok (.ireturn, 1) → narrow .boolean (.int q) = .int q → VC X r g u h lv [.int q] pc := fun q hq => by cases hq; exact hR
  replace hX : CX X RX9 cX9_isLetter 1 := hX
  show VC X r g u h [(0, .int p0)] [] 0
  rw [f9_isLetter] at hf
  refine v_iload_n hX dX9_isLetter_0 rfl 0 rfl 1 rfl ?_
  refine v_bipush (v := (97 : Int32)) hX dX9_isLetter_1 (by decide) 3 rfl ?_
  refine v_bipush (v := (122 : Int32)) hX dX9_isLetter_3 (by decide) 5 rfl ?_
  obtain ⟨v1, hv1, hf⟩ := bn1_e hf
  refine cs_i hX (c9_in r g u h _ _ _ hv1) wvX9_in q_150 (Nat.le_of_ble_eq_true rfl) (Nat.le_of_ble_eq_true rfl) (fun _ => rfl) [] rfl (Nat.le_of_ble_eq_true rfl) dX9_isLetter_5 8 rfl ?_
  obtain ⟨hb2, hf⟩ := gd_e hf
  exact hR _ hf _ _ dX9_isLetter_8 (bz_nar hb2)
set_option maxRecDepth 100000 in
set_option maxHeartbeats 4000000 in
theorem c9_isDigit (r : Nat → Int32) (g : Nat → Nat → Int32) (u : Nat → Int64) (h : Nat → Nat → Int64) (p0 : Int32) {res : Int32} (hf : f9_isDigit p0 = some res) : MAi yX9_isDigit cX9_isDigit 1 (some .boolean) 1 (fun a => [.int p0]) r g u h res r g u h := by
  refine mi_i (by decide +kernel) (fun a => Nat.le_of_ble_eq_true rfl) (fun X hX hn hR => ?_)
  replace hR : ∀ q : Int32, some q = some res → ∀ lv pc, decode cX9_isDigit pc = .ok (.ireturn, 1) → narrow .boolean (.int q) = .int q → VC X r g u h lv [.int q] pc := fun q hq => by cases hq; exact hR
  replace hX : CX X RX9 cX9_isDigit 1 := hX
  show VC X r g u h [(0, .int p0)] [] 0
  rw [f9_isDigit] at hf
  refine v_iload_n hX dX9_isDigit_0 rfl 0 rfl 1 rfl ?_
  refine v_bipush (v := (48 : Int32)) hX dX9_isDigit_1 (by decide) 3 rfl ?_
  refine v_bipush (v := (57 : Int32)) hX dX9_isDigit_3 (by decide) 5 rfl ?_
  obtain ⟨v1, hv1, hf⟩ := bn1_e hf
  refine cs_i hX (c9_in r g u h _ _ _ hv1) wvX9_in q_150 (Nat.le_of_ble_eq_true rfl) (Nat.le_of_ble_eq_true rfl) (fun _ => rfl) [] rfl (Nat.le_of_ble_eq_true rfl) dX9_isDigit_5 8 rfl ?_
  obtain ⟨hb2, hf⟩ := gd_e hf
  exact hR _ hf _ _ dX9_isDigit_8 (bz_nar hb2)
set_option maxRecDepth 100000 in
set_option maxHeartbeats 4000000 in
theorem c9_advance (r : Nat → Int32) (g : Nat → Nat → Int32) (u : Nat → Int64) (h : Nat → Nat → Int64)  {res : Int32 × Int32 × Int32 × Int32 × Int64} (hf : f9_advance (r 36) (r 35) (r 34) (r 37) (r 38) (g 62) (u 0) = some res) : MAv yX9_advance cX9_advance 2 none 2 (fun a => [.ref (a 52)]) r g u h (lkp r [(36, res.1), (35, res.2.1), (37, res.2.2.1), (38, res.2.2.2.1)]) g (lkp u [(0, res.2.2.2.2)]) h := by
  refine mi_v (by decide +kernel) (fun a => Nat.le_of_ble_eq_true rfl) (fun X hX hn hR => ?_)
  replace hR : ∀ q : Int32 × Int32 × Int32 × Int32 × Int64, some q = some res → ∀ lv pc, decode cX9_advance pc = .ok (.return_, 1) → VC X (lkp r [(36, q.1), (35, q.2.1), (37, q.2.2.1), (38, q.2.2.2.1)]) g (lkp u [(0, q.2.2.2.2)]) h lv [] pc := fun q hq => by cases hq; exact hR
  replace hX : CX X RX9 cX9_advance 2 := hX
  refine v_opr [36, 35, 37, 38] [(36, r 36), (35, r 35), (37, r 37), (38, r 38)] rfl ?_
  refine v_opu [0] [(0, u 0)] rfl ?_
  show VC X (lkp r [(36, r 36), (35, r 35), (37, r 37), (38, r 38)]) g (lkp u [(0, u 0)]) h [(0, .ref (aX X 52))] [] 0
  rw [f9_advance] at hf
  refine v_aload_n hX dX9_advance_0 rfl 0 rfl 1 rfl ?_
  refine v_aload_n hX dX9_advance_1 rfl 0 rfl 2 rfl ?_
  refine gf_52_17 hX q_300 dX9_advance_2 ((r 37)) rfl 5 rfl ?_
  refine pf_52_16 hX q_310 dX9_advance_5 8 rfl [(36, (r 37)), (35, (r 35)), (37, (r 37)), (38, (r 38))] rfl ?_
  obtain ⟨K2, hK2, hf⟩ := jn_x hf
  have HK2 : ∀ (c1 : Int32), K2 c1 = some res → VC X (lkp r [(36, c1), (35, (r 35)), (37, (r 37)), (38, (r 38))]) g (lkp u [(0, (u 0))]) h [(0, .ref (aX X 52))] [] 34 := by
    intro c1 hf
    rw [hK2] at hf
    refine v_aload_n hX dX9_advance_34 rfl 0 rfl 35 rfl ?_
    refine v_aload_n hX dX9_advance_35 rfl 0 rfl 36 rfl ?_
    refine gf_52_16 hX q_310 dX9_advance_36 (c1) rfl 39 rfl ?_
    refine pf_52_17 hX q_300 dX9_advance_39 42 rfl [(36, c1), (35, (r 35)), (37, c1), (38, (r 38))] rfl ?_
    refine v_aload_n hX dX9_advance_42 rfl 0 rfl 43 rfl ?_
    refine v_aload_n hX dX9_advance_43 rfl 0 rfl 44 rfl ?_
    refine gf_52_16 hX q_310 dX9_advance_44 (c1) rfl 47 rfl ?_
    obtain ⟨v6, hv6, hf⟩ := bn1_e hf
    refine cv_i hX (c9_byteAt (lkp r [(36, c1), (35, (r 35)), (37, c1), (38, (r 38))]) g (lkp u [(0, (u 0))]) h _ hv6) wvX9_byteAt q_321 rc_52 (Nat.le_of_ble_eq_true rfl) (Nat.le_of_ble_eq_true rfl) (fun _ => rfl) [] rfl (Nat.le_of_ble_eq_true rfl) dX9_advance_47 50 rfl ?_
    refine v_istore_n hX dX9_advance_50 rfl (ltn hn (by decide)) 51 rfl [(1, .int v6), (0, .ref (aX X 52))] rfl ?_
    refine v_aload_n hX dX9_advance_51 rfl 1 rfl 52 rfl ?_
    refine v_iload_n hX dX9_advance_52 rfl 0 rfl 53 rfl ?_
    obtain ⟨J7, hJ7, hf⟩ := jn_x hf
    have HJ7 : ∀ (s8 : Int32), J7 s8 = some res → VC X (lkp r [(36, c1), (35, (r 35)), (37, c1), (38, (r 38))]) g (lkp u [(0, (u 0))]) h [(0, .ref (aX X 52)), (1, .int v6)] [.int s8, .ref (aX X 52)] 83 := by
      intro s8 hf
      rw [hJ7] at hf
      refine pf_52_15 hX q_303 dX9_advance_83 86 rfl [(36, c1), (35, s8), (37, c1), (38, (r 38))] rfl ?_
      refine v_aload_n hX dX9_advance_86 rfl 0 rfl 87 rfl ?_
      refine v_lconst (v := (0 : Int64)) hX dX9_advance_87 (by decide) 88 rfl ?_
      refine pf_52_18 hX q_316 dX9_advance_88 91 rfl [(0, (0 : Int64))] rfl ?_
      refine v_aload_n hX dX9_advance_91 rfl 0 rfl 92 rfl ?_
      refine v_aload_n hX dX9_advance_92 rfl 0 rfl 93 rfl ?_
      refine gf_52_15 hX q_303 dX9_advance_93 (s8) rfl 96 rfl ?_
      refine v_iconst (v := (2 : Int32)) hX dX9_advance_96 (by decide) 97 rfl ?_
      obtain ⟨J9, hJ9, hf⟩ := jn_x hf
      have HJ9 : ∀ (s10 : Int32), J9 s10 = some res → VC X (lkp r [(36, c1), (35, s8), (37, c1), (38, (r 38))]) g (lkp u [(0, (0 : Int64))]) h [(0, .ref (aX X 52))] [.int s10, .ref (aX X 52)] 105 := by
        intro s10 hf
        rw [hJ9] at hf
        refine pf_52_19 hX q_317 dX9_advance_105 108 rfl [(36, c1), (35, s8), (37, c1), (38, s10)] rfl ?_
        refine v_aload_n hX dX9_advance_108 rfl 0 rfl 109 rfl ?_
        refine gf_52_15 hX q_303 dX9_advance_109 (s8) rfl 112 rfl ?_
        refine v_iconst (v := (3 : Int32)) hX dX9_advance_112 (by decide) 113 rfl ?_
        obtain ⟨J11, hJ11, hf⟩ := jn_x hf
        have HJ11 : ∀ (c12 : Int32), J11 c12 = some res → VC X (lkp r [(36, c1), (35, s8), (37, c12), (38, s10)]) g (lkp u [(0, (0 : Int64))]) h [(0, .ref (aX X 52))] [] 126 := by
          intro c12 hf
          rw [hJ11] at hf
          obtain ⟨K15, hK15, hf⟩ := jn_x hf
          have HK15 : ∀ (c13 : Int32) (c14 : Int64), K15 c13 c14 = some res → VC X (lkp r [(36, c1), (35, s8), (37, c13), (38, s10)]) g (lkp u [(0, c14)]) h [(0, .ref (aX X 52))] [] 207 := by
            intro c13 c14 hf
            rw [hK15] at hf
            obtain ⟨K27, hK27, hf⟩ := jn_x hf
            have HK27 : ∀ (c25 : Int32) (c26 : Int32), K27 c25 c26 = some res → VC X (lkp r [(36, c1), (35, s8), (37, c25), (38, c26)]) g (lkp u [(0, c14)]) h [] [] 282 := by
              intro c25 c26 hf
              rw [hK27] at hf
              exact hR _ hf _ _ dX9_advance_282
            have HLK27 : ∀ (n28 : Nat) (c25 : Int32) (c26 : Int32), f9_advance_L207 (r 34) (g 62) c1 s8 n28 c25 c26 K27 = some res → VC X (lkp r [(36, c1), (35, s8), (37, c25), (38, c26)]) g (lkp u [(0, c14)]) h [(0, .ref (aX X 52))] [] 207 := by
              intro n28
              induction n28 with
              | zero => intro c25 c26 hf; exact no_s hf
              | succ n28 ih =>
                intro c25 c26 hf
                rw [f9_advance_L207] at hf
                refine v_aload_n hX dX9_advance_207 rfl 0 rfl 208 rfl ?_
                refine gf_52_15 hX q_303 dX9_advance_208 (s8) rfl 211 rfl ?_
                refine v_iconst (v := (2 : Int32)) hX dX9_advance_211 (by decide) 212 rfl ?_
                refine v_icmp_ne hX dX9_advance_212 282 rfl 215 rfl (fun h36 => ?_) (fun h36 => ?_)
                · replace hf := it_n h36 hf
                  refine v_sub [] sbn ?_
                  exact HK27 _ _ hf
                · replace hf := it_p h36 hf
                  refine v_aload_n hX dX9_advance_215 rfl 0 rfl 216 rfl ?_
                  refine v_aload_n hX dX9_advance_216 rfl 0 rfl 217 rfl ?_
                  refine gf_52_17 hX q_300 dX9_advance_217 (c25) rfl 220 rfl ?_
                  obtain ⟨v29, hv29, hf⟩ := bn1_e hf
                  refine cv_i hX (c9_byteAt (lkp r [(36, c1), (35, s8), (37, c25), (38, c26)]) g (lkp u [(0, c14)]) h _ hv29) wvX9_byteAt q_321 rc_52 (Nat.le_of_ble_eq_true rfl) (Nat.le_of_ble_eq_true rfl) (fun _ => rfl) [] rfl (Nat.le_of_ble_eq_true rfl) dX9_advance_220 223 rfl ?_
                  obtain ⟨v30, hv30, hf⟩ := bn1_e hf
                  refine cs_i hX (c9_isDigit (lkp r [(36, c1), (35, s8), (37, c25), (38, c26)]) g (lkp u [(0, c14)]) h _ hv30) wvX9_isDigit q_328 (Nat.le_of_ble_eq_true rfl) (Nat.le_of_ble_eq_true rfl) (fun _ => rfl) [] rfl (Nat.le_of_ble_eq_true rfl) dX9_advance_223 226 rfl ?_
                  refine v_if_eq hX dX9_advance_226 282 rfl 229 rfl (fun h35 => ?_) (fun h35 => ?_)
                  · replace hf := it_p h35 hf
                    refine v_sub [] sbn ?_
                    exact HK27 _ _ hf
                  · replace hf := it_n h35 hf
                    refine v_aload_n hX dX9_advance_229 rfl 0 rfl 230 rfl ?_
                    refine v_aload_n hX dX9_advance_230 rfl 0 rfl 231 rfl ?_
                    refine gf_52_17 hX q_300 dX9_advance_231 (c25) rfl 234 rfl ?_
                    refine v_aload_n hX dX9_advance_234 rfl 0 rfl 235 rfl ?_
                    refine gf_52_16 hX q_310 dX9_advance_235 (c1) rfl 238 rfl ?_
                    refine v_isub hX dX9_advance_238 239 rfl ?_
                    refine v_iconst (v := (3 : Int32)) hX dX9_advance_239 (by decide) 240 rfl ?_
                    obtain ⟨J31, hJ31, hf⟩ := jn_x hf
                    have HJ31 : ∀ (s32 : Int32), J31 s32 = some res → VC X (lkp r [(36, c1), (35, s8), (37, c25), (38, c26)]) g (lkp u [(0, c14)]) h [(0, .ref (aX X 52))] [.int s32, .ref (aX X 52)] 266 := by
                      intro s32 hf
                      rw [hJ31] at hf
                      refine pf_52_19 hX q_317 dX9_advance_266 269 rfl [(36, c1), (35, s8), (37, c25), (38, s32)] rfl ?_
                      refine v_aload_n hX dX9_advance_269 rfl 0 rfl 270 rfl ?_
                      refine v_dup hX dX9_advance_270 rfl 271 rfl ?_
                      refine gf_52_17 hX q_300 dX9_advance_271 (c25) rfl 274 rfl ?_
                      refine v_iconst (v := (1 : Int32)) hX dX9_advance_274 (by decide) 275 rfl ?_
                      refine v_iadd hX dX9_advance_275 276 rfl ?_
                      refine pf_52_17 hX q_300 dX9_advance_276 279 rfl [(36, c1), (35, s8), (37, (c25 + (1 : Int32))), (38, s32)] rfl ?_
                      refine v_goto hX dX9_advance_279 207 rfl ?_
                      exact ih _ _ hf
                    refine v_icmp_ge hX dX9_advance_240 265 rfl 243 rfl (fun h34 => ?_) (fun h34 => ?_)
                    · replace hf := it_p h34 hf
                      refine v_iconst (v := (-1 : Int32)) hX dX9_advance_265 (by decide) 266 rfl ?_
                      exact HJ31 _ hf
                    · replace hf := it_n h34 hf
                      refine v_bipush (v := (10 : Int32)) hX dX9_advance_243 (by decide) 245 rfl ?_
                      refine v_aload_n hX dX9_advance_245 rfl 0 rfl 246 rfl ?_
                      refine gf_52_19 hX q_317 dX9_advance_246 (c26) rfl 249 rfl ?_
                      refine v_imul hX dX9_advance_249 250 rfl ?_
                      refine v_aload_n hX dX9_advance_250 rfl 0 rfl 251 rfl ?_
                      refine v_aload_n hX dX9_advance_251 rfl 0 rfl 252 rfl ?_
                      refine gf_52_17 hX q_300 dX9_advance_252 (c25) rfl 255 rfl ?_
                      obtain ⟨v33, hv33, hf⟩ := bn1_e hf
                      refine cv_i hX (c9_byteAt (lkp r [(36, c1), (35, s8), (37, c25), (38, c26)]) g (lkp u [(0, c14)]) h _ hv33) wvX9_byteAt q_321 rc_52 (Nat.le_of_ble_eq_true rfl) (Nat.le_of_ble_eq_true rfl) (fun _ => rfl) [.int ((10 : Int32) * c26), .ref (aX X 52)] rfl (Nat.le_of_ble_eq_true rfl) dX9_advance_255 258 rfl ?_
                      refine v_iadd hX dX9_advance_258 259 rfl ?_
                      refine v_bipush (v := (48 : Int32)) hX dX9_advance_259 (by decide) 261 rfl ?_
                      refine v_isub hX dX9_advance_261 262 rfl ?_
                      refine v_goto hX dX9_advance_262 266 rfl ?_
                      exact HJ31 _ hf
            exact HLK27 _ _ _ hf
          have HLK15 : ∀ (n16 : Nat) (c13 : Int32) (c14 : Int64), f9_advance_L126 (r 34) (g 62) c1 s8 n16 c13 c14 K15 = some res → VC X (lkp r [(36, c1), (35, s8), (37, c13), (38, s10)]) g (lkp u [(0, c14)]) h [(0, .ref (aX X 52))] [] 126 := by
            intro n16
            induction n16 with
            | zero => intro c13 c14 hf; exact no_s hf
            | succ n16 ih =>
              intro c13 c14 hf
              rw [f9_advance_L126] at hf
              refine v_aload_n hX dX9_advance_126 rfl 0 rfl 127 rfl ?_
              refine gf_52_15 hX q_303 dX9_advance_127 (s8) rfl 130 rfl ?_
              refine v_iconst (v := (1 : Int32)) hX dX9_advance_130 (by decide) 131 rfl ?_
              refine v_icmp_ne hX dX9_advance_131 207 rfl 134 rfl (fun h24 => ?_) (fun h24 => ?_)
              · replace hf := it_n h24 hf
                exact HK15 _ _ hf
              · replace hf := it_p h24 hf
                refine v_aload_n hX dX9_advance_134 rfl 0 rfl 135 rfl ?_
                refine v_aload_n hX dX9_advance_135 rfl 0 rfl 136 rfl ?_
                refine gf_52_17 hX q_300 dX9_advance_136 (c13) rfl 139 rfl ?_
                obtain ⟨v17, hv17, hf⟩ := bn1_e hf
                refine cv_i hX (c9_byteAt (lkp r [(36, c1), (35, s8), (37, c13), (38, s10)]) g (lkp u [(0, c14)]) h _ hv17) wvX9_byteAt q_321 rc_52 (Nat.le_of_ble_eq_true rfl) (Nat.le_of_ble_eq_true rfl) (fun _ => rfl) [] rfl (Nat.le_of_ble_eq_true rfl) dX9_advance_139 142 rfl ?_
                obtain ⟨v18, hv18, hf⟩ := bn1_e hf
                refine cs_i hX (c9_isLetter (lkp r [(36, c1), (35, s8), (37, c13), (38, s10)]) g (lkp u [(0, c14)]) h _ hv18) wvX9_isLetter q_325 (Nat.le_of_ble_eq_true rfl) (Nat.le_of_ble_eq_true rfl) (fun _ => rfl) [] rfl (Nat.le_of_ble_eq_true rfl) dX9_advance_142 145 rfl ?_
                refine v_if_eq hX dX9_advance_145 207 rfl 148 rfl (fun h23 => ?_) (fun h23 => ?_)
                · replace hf := it_p h23 hf
                  exact HK15 _ _ hf
                · replace hf := it_n h23 hf
                  refine v_aload_n hX dX9_advance_148 rfl 0 rfl 149 rfl ?_
                  refine v_aload_n hX dX9_advance_149 rfl 0 rfl 150 rfl ?_
                  refine gf_52_17 hX q_300 dX9_advance_150 (c13) rfl 153 rfl ?_
                  refine v_aload_n hX dX9_advance_153 rfl 0 rfl 154 rfl ?_
                  refine gf_52_16 hX q_310 dX9_advance_154 (c1) rfl 157 rfl ?_
                  refine v_isub hX dX9_advance_157 158 rfl ?_
                  refine v_bipush (v := (8 : Int32)) hX dX9_advance_158 (by decide) 160 rfl ?_
                  obtain ⟨J19, hJ19, hf⟩ := jn_x hf
                  have HJ19 : ∀ (s20 : Int64), J19 s20 = some res → VC X (lkp r [(36, c1), (35, s8), (37, c13), (38, s10)]) g (lkp u [(0, c14)]) h [(0, .ref (aX X 52))] [.long s20, .ref (aX X 52)] 191 := by
                    intro s20 hf
                    rw [hJ19] at hf
                    refine pf_52_18 hX q_316 dX9_advance_191 194 rfl [(0, s20)] rfl ?_
                    refine v_aload_n hX dX9_advance_194 rfl 0 rfl 195 rfl ?_
                    refine v_dup hX dX9_advance_195 rfl 196 rfl ?_
                    refine gf_52_17 hX q_300 dX9_advance_196 (c13) rfl 199 rfl ?_
                    refine v_iconst (v := (1 : Int32)) hX dX9_advance_199 (by decide) 200 rfl ?_
                    refine v_iadd hX dX9_advance_200 201 rfl ?_
                    refine pf_52_17 hX q_300 dX9_advance_201 204 rfl [(36, c1), (35, s8), (37, (c13 + (1 : Int32))), (38, s10)] rfl ?_
                    refine v_goto hX dX9_advance_204 126 rfl ?_
                    exact ih _ _ hf
                  refine v_icmp_ge hX dX9_advance_160 188 rfl 163 rfl (fun h22 => ?_) (fun h22 => ?_)
                  · replace hf := it_p h22 hf
                    refine v_ldc2 (v := (-1 : Int64)) hX q_320 dX9_advance_188 191 rfl ?_
                    exact HJ19 _ hf
                  · replace hf := it_n h22 hf
                    refine v_ldc2 (v := (27 : Int64)) hX q_318 dX9_advance_163 166 rfl ?_
                    refine v_aload_n hX dX9_advance_166 rfl 0 rfl 167 rfl ?_
                    refine gf_52_18 hX q_316 dX9_advance_167 (c14) rfl 170 rfl ?_
                    refine v_lmul hX dX9_advance_170 171 rfl ?_
                    refine v_aload_n hX dX9_advance_171 rfl 0 rfl 172 rfl ?_
                    refine v_aload_n hX dX9_advance_172 rfl 0 rfl 173 rfl ?_
                    refine gf_52_17 hX q_300 dX9_advance_173 (c13) rfl 176 rfl ?_
                    obtain ⟨v21, hv21, hf⟩ := bn1_e hf
                    refine cv_i hX (c9_byteAt (lkp r [(36, c1), (35, s8), (37, c13), (38, s10)]) g (lkp u [(0, c14)]) h _ hv21) wvX9_byteAt q_321 rc_52 (Nat.le_of_ble_eq_true rfl) (Nat.le_of_ble_eq_true rfl) (fun _ => rfl) [.long ((27 : Int64) * c14), .ref (aX X 52)] rfl (Nat.le_of_ble_eq_true rfl) dX9_advance_176 179 rfl ?_
                    refine v_i2l hX dX9_advance_179 180 rfl ?_
                    refine v_ladd hX dX9_advance_180 181 rfl ?_
                    refine v_ldc2 (v := (96 : Int64)) hX q_319 dX9_advance_181 184 rfl ?_
                    refine v_lsub hX dX9_advance_184 185 rfl ?_
                    refine v_goto hX dX9_advance_185 191 rfl ?_
                    exact HJ19 _ hf
          exact HLK15 _ _ _ hf
        refine v_icmp_ne hX dX9_advance_113 126 rfl 116 rfl (fun h37 => ?_) (fun h37 => ?_)
        · replace hf := it_n h37 hf
          exact HJ11 _ hf
        · replace hf := it_p h37 hf
          refine v_aload_n hX dX9_advance_116 rfl 0 rfl 117 rfl ?_
          refine v_dup hX dX9_advance_117 rfl 118 rfl ?_
          refine gf_52_17 hX q_300 dX9_advance_118 (c1) rfl 121 rfl ?_
          refine v_iconst (v := (1 : Int32)) hX dX9_advance_121 (by decide) 122 rfl ?_
          refine v_iadd hX dX9_advance_122 123 rfl ?_
          refine pf_52_17 hX q_300 dX9_advance_123 126 rfl [(36, c1), (35, s8), (37, (c1 + (1 : Int32))), (38, s10)] rfl ?_
          exact HJ11 _ hf
      refine v_icmp_ne hX dX9_advance_97 104 rfl 100 rfl (fun h38 => ?_) (fun h38 => ?_)
      · replace hf := it_n h38 hf
        refine v_iload_n hX dX9_advance_104 rfl 1 rfl 105 rfl ?_
        refine v_sub [(0, .ref (aX X 52))] (sbc 0 rfl sbn) ?_
        exact HJ9 _ hf
      · replace hf := it_p h38 hf
        refine v_iconst (v := (0 : Int32)) hX dX9_advance_100 (by decide) 101 rfl ?_
        refine v_goto hX dX9_advance_101 105 rfl ?_
        refine v_sub [(0, .ref (aX X 52))] (sbc 0 rfl sbn) ?_
        exact HJ9 _ hf
    refine v_if_ge hX dX9_advance_53 60 rfl 56 rfl (fun h43 => ?_) (fun h43 => ?_)
    · replace hf := it_p h43 hf
      refine v_iload_n hX dX9_advance_60 rfl 0 rfl 61 rfl ?_
      obtain ⟨v39, hv39, hf⟩ := bn1_e hf
      refine cs_i hX (c9_isLetter (lkp r [(36, c1), (35, (r 35)), (37, c1), (38, (r 38))]) g (lkp u [(0, (u 0))]) h _ hv39) wvX9_isLetter q_325 (Nat.le_of_ble_eq_true rfl) (Nat.le_of_ble_eq_true rfl) (fun _ => rfl) [.ref (aX X 52)] rfl (Nat.le_of_ble_eq_true rfl) dX9_advance_61 64 rfl ?_
      refine v_if_eq hX dX9_advance_64 71 rfl 67 rfl (fun h42 => ?_) (fun h42 => ?_)
      · replace hf := it_p h42 hf
        refine v_iload_n hX dX9_advance_71 rfl 0 rfl 72 rfl ?_
        obtain ⟨v40, hv40, hf⟩ := bn1_e hf
        refine cs_i hX (c9_isDigit (lkp r [(36, c1), (35, (r 35)), (37, c1), (38, (r 38))]) g (lkp u [(0, (u 0))]) h _ hv40) wvX9_isDigit q_328 (Nat.le_of_ble_eq_true rfl) (Nat.le_of_ble_eq_true rfl) (fun _ => rfl) [.ref (aX X 52)] rfl (Nat.le_of_ble_eq_true rfl) dX9_advance_72 75 rfl ?_
        refine v_if_eq hX dX9_advance_75 82 rfl 78 rfl (fun h41 => ?_) (fun h41 => ?_)
        · replace hf := it_p h41 hf
          refine v_iconst (v := (3 : Int32)) hX dX9_advance_82 (by decide) 83 rfl ?_
          refine v_sub [(0, .ref (aX X 52)), (1, .int v6)] (sbc 1 rfl (sbc 0 rfl sbn)) ?_
          exact HJ7 _ hf
        · replace hf := it_n h41 hf
          refine v_iconst (v := (2 : Int32)) hX dX9_advance_78 (by decide) 79 rfl ?_
          refine v_goto hX dX9_advance_79 83 rfl ?_
          refine v_sub [(0, .ref (aX X 52)), (1, .int v6)] (sbc 1 rfl (sbc 0 rfl sbn)) ?_
          exact HJ7 _ hf
      · replace hf := it_n h42 hf
        refine v_iconst (v := (1 : Int32)) hX dX9_advance_67 (by decide) 68 rfl ?_
        refine v_goto hX dX9_advance_68 83 rfl ?_
        refine v_sub [(0, .ref (aX X 52)), (1, .int v6)] (sbc 1 rfl (sbc 0 rfl sbn)) ?_
        exact HJ7 _ hf
    · replace hf := it_n h43 hf
      refine v_iconst (v := (0 : Int32)) hX dX9_advance_56 (by decide) 57 rfl ?_
      refine v_goto hX dX9_advance_57 83 rfl ?_
      refine v_sub [(0, .ref (aX X 52)), (1, .int v6)] (sbc 1 rfl (sbc 0 rfl sbn)) ?_
      exact HJ7 _ hf
  have HLK2 : ∀ (n3 : Nat) (c1 : Int32), f9_advance_L8 (r 34) (g 62) n3 c1 K2 = some res → VC X (lkp r [(36, c1), (35, (r 35)), (37, (r 37)), (38, (r 38))]) g (lkp u [(0, (u 0))]) h [(0, .ref (aX X 52))] [] 8 := by
    intro n3
    induction n3 with
    | zero => intro c1 hf; exact no_s hf
    | succ n3 ih =>
      intro c1 hf
      rw [f9_advance_L8] at hf
      refine v_aload_n hX dX9_advance_8 rfl 0 rfl 9 rfl ?_
      refine v_aload_n hX dX9_advance_9 rfl 0 rfl 10 rfl ?_
      refine gf_52_16 hX q_310 dX9_advance_10 (c1) rfl 13 rfl ?_
      obtain ⟨v4, hv4, hf⟩ := bn1_e hf
      refine cv_i hX (c9_byteAt (lkp r [(36, c1), (35, (r 35)), (37, (r 37)), (38, (r 38))]) g (lkp u [(0, (u 0))]) h _ hv4) wvX9_byteAt q_321 rc_52 (Nat.le_of_ble_eq_true rfl) (Nat.le_of_ble_eq_true rfl) (fun _ => rfl) [] rfl (Nat.le_of_ble_eq_true rfl) dX9_advance_13 16 rfl ?_
      refine v_bipush (v := (32 : Int32)) hX dX9_advance_16 (by decide) 18 rfl ?_
      refine v_icmp_ne hX dX9_advance_18 34 rfl 21 rfl (fun h5 => ?_) (fun h5 => ?_)
      · replace hf := it_n h5 hf
        exact HK2 _ hf
      · replace hf := it_p h5 hf
        refine v_aload_n hX dX9_advance_21 rfl 0 rfl 22 rfl ?_
        refine v_dup hX dX9_advance_22 rfl 23 rfl ?_
        refine gf_52_16 hX q_310 dX9_advance_23 (c1) rfl 26 rfl ?_
        refine v_iconst (v := (1 : Int32)) hX dX9_advance_26 (by decide) 27 rfl ?_
        refine v_iadd hX dX9_advance_27 28 rfl ?_
        refine pf_52_16 hX q_310 dX9_advance_28 31 rfl [(36, (c1 + (1 : Int32))), (35, (r 35)), (37, (r 37)), (38, (r 38))] rfl ?_
        refine v_goto hX dX9_advance_31 8 rfl ?_
        exact ih _ hf
  exact HLK2 _ _ hf
set_option maxRecDepth 100000 in
set_option maxHeartbeats 4000000 in
theorem c9_isWord (r : Nat → Int32) (g : Nat → Nat → Int32) (u : Nat → Int64) (h : Nat → Nat → Int64) (p1 : Int64) {res : Int32} (hf : f9_isWord (r 35) (u 0) p1 = some res) : MAi yX9_isWord cX9_isWord 3 (some .boolean) 0 (fun a => [.ref (a 52), .long p1]) r g u h res r g u h := by
  refine mi_i (by decide +kernel) (fun a => Nat.le_of_ble_eq_true rfl) (fun X hX hn hR => ?_)
  replace hR : ∀ q : Int32, some q = some res → ∀ lv pc, decode cX9_isWord pc = .ok (.ireturn, 1) → narrow .boolean (.int q) = .int q → VC X r g u h lv [.int q] pc := fun q hq => by cases hq; exact hR
  replace hX : CX X RX9 cX9_isWord 0 := hX
  show VC X r g u h [(0, .ref (aX X 52)), (1, .long p1)] [] 0
  rw [f9_isWord] at hf
  refine v_aload_n hX dX9_isWord_0 rfl 0 rfl 1 rfl ?_
  refine gf_52_15 hX q_303 dX9_isWord_1 ((r 35)) rfl 4 rfl ?_
  refine v_iconst (v := (1 : Int32)) hX dX9_isWord_4 (by decide) 5 rfl ?_
  refine v_icmp_ne hX dX9_isWord_5 21 rfl 8 rfl (fun h2 => ?_) (fun h2 => ?_)
  · replace hf := it_n h2 hf
    refine v_iconst (v := (0 : Int32)) hX dX9_isWord_21 (by decide) 22 rfl ?_
    exact hR _ hf _ _ dX9_isWord_22 (bz_nar (v := (0 : Int32)) (by decide))
  · replace hf := it_p h2 hf
    refine v_aload_n hX dX9_isWord_8 rfl 0 rfl 9 rfl ?_
    refine gf_52_18 hX q_316 dX9_isWord_9 ((u 0)) rfl 12 rfl ?_
    refine v_lload_n hX dX9_isWord_12 rfl 1 rfl 13 rfl ?_
    refine v_lcmp hX dX9_isWord_13 14 rfl ?_
    refine v_if_ne hX dX9_isWord_14 21 rfl 17 rfl (fun h1 => ?_) (fun h1 => ?_)
    · replace hf := it_n h1 hf
      refine v_iconst (v := (0 : Int32)) hX dX9_isWord_21 (by decide) 22 rfl ?_
      exact hR _ hf _ _ dX9_isWord_22 (bz_nar (v := (0 : Int32)) (by decide))
    · replace hf := it_p h1 hf
      refine v_iconst (v := (1 : Int32)) hX dX9_isWord_17 (by decide) 18 rfl ?_
      refine v_goto hX dX9_isWord_18 22 rfl ?_
      exact hR _ hf _ _ dX9_isWord_22 (bz_nar (v := (1 : Int32)) (by decide))
set_option maxRecDepth 100000 in
set_option maxHeartbeats 4000000 in
theorem c9_pend (r : Nat → Int32) (g : Nat → Nat → Int32) (u : Nat → Int64) (h : Nat → Nat → Int64) (p1 : Int32) {res : Int32 × (Nat → Int32)} (hf : f9_pend (r 41) (g 65) p1 = some res) : MAv yX9_pend cX9_pend 2 none 0 (fun a => [.ref (a 52), .int p1]) r g u h (lkp r [(41, res.1)]) (lkp g [(65, res.2)]) u h := by
  refine mi_v (by decide +kernel) (fun a => Nat.le_of_ble_eq_true rfl) (fun X hX hn hR => ?_)
  replace hR : ∀ q : Int32 × (Nat → Int32), some q = some res → ∀ lv pc, decode cX9_pend pc = .ok (.return_, 1) → VC X (lkp r [(41, q.1)]) (lkp g [(65, q.2)]) u h lv [] pc := fun q hq => by cases hq; exact hR
  replace hX : CX X RX9 cX9_pend 0 := hX
  refine v_opr [41] [(41, r 41)] rfl ?_
  refine v_opg [65] [(65, g 65)] rfl ?_
  show VC X (lkp r [(41, r 41)]) (lkp g [(65, g 65)]) u h [(0, .ref (aX X 52)), (1, .int p1)] [] 0
  rw [f9_pend] at hf
  refine v_aload_n hX dX9_pend_0 rfl 0 rfl 1 rfl ?_
  refine gf_52_23 hX q_116 dX9_pend_1 4 rfl ?_
  refine v_aload_n hX dX9_pend_4 rfl 0 rfl 5 rfl ?_
  refine gf_52_25 hX q_339 dX9_pend_5 ((r 41)) rfl 8 rfl ?_
  refine v_iload_n hX dX9_pend_8 rfl 1 rfl 9 rfl ?_
  obtain ⟨hi1, hf⟩ := gd_e hf
  refine as_65 hX hi1 dX9_pend_9 10 rfl (g 65) rfl [(65, (upd (g 65) (r 41).toNatClampNeg p1))] rfl ?_
  refine v_aload_n hX dX9_pend_10 rfl 0 rfl 11 rfl ?_
  refine v_dup hX dX9_pend_11 rfl 12 rfl ?_
  refine gf_52_25 hX q_339 dX9_pend_12 ((r 41)) rfl 15 rfl ?_
  refine v_iconst (v := (1 : Int32)) hX dX9_pend_15 (by decide) 16 rfl ?_
  refine v_iadd hX dX9_pend_16 17 rfl ?_
  refine pf_52_25 hX q_339 dX9_pend_17 20 rfl [(41, ((r 41) + (1 : Int32)))] rfl ?_
  exact hR _ hf _ _ dX9_pend_20
set_option maxRecDepth 100000 in
set_option maxHeartbeats 4000000 in
theorem c9_isMark (r : Nat → Int32) (g : Nat → Nat → Int32) (u : Nat → Int64) (h : Nat → Nat → Int64) (p1 : Int32) {res : Int32} (hf : f9_isMark (r 35) (r 38) p1 = some res) : MAi yX9_isMark cX9_isMark 2 (some .boolean) 0 (fun a => [.ref (a 52), .int p1]) r g u h res r g u h := by
  refine mi_i (by decide +kernel) (fun a => Nat.le_of_ble_eq_true rfl) (fun X hX hn hR => ?_)
  replace hR : ∀ q : Int32, some q = some res → ∀ lv pc, decode cX9_isMark pc = .ok (.ireturn, 1) → narrow .boolean (.int q) = .int q → VC X r g u h lv [.int q] pc := fun q hq => by cases hq; exact hR
  replace hX : CX X RX9 cX9_isMark 0 := hX
  show VC X r g u h [(0, .ref (aX X 52)), (1, .int p1)] [] 0
  rw [f9_isMark] at hf
  refine v_aload_n hX dX9_isMark_0 rfl 0 rfl 1 rfl ?_
  refine gf_52_15 hX q_303 dX9_isMark_1 ((r 35)) rfl 4 rfl ?_
  refine v_iconst (v := (3 : Int32)) hX dX9_isMark_4 (by decide) 5 rfl ?_
  refine v_icmp_ne hX dX9_isMark_5 20 rfl 8 rfl (fun h2 => ?_) (fun h2 => ?_)
  · replace hf := it_n h2 hf
    refine v_iconst (v := (0 : Int32)) hX dX9_isMark_20 (by decide) 21 rfl ?_
    exact hR _ hf _ _ dX9_isMark_21 (bz_nar (v := (0 : Int32)) (by decide))
  · replace hf := it_p h2 hf
    refine v_aload_n hX dX9_isMark_8 rfl 0 rfl 9 rfl ?_
    refine gf_52_19 hX q_317 dX9_isMark_9 ((r 38)) rfl 12 rfl ?_
    refine v_iload_n hX dX9_isMark_12 rfl 1 rfl 13 rfl ?_
    refine v_icmp_ne hX dX9_isMark_13 20 rfl 16 rfl (fun h1 => ?_) (fun h1 => ?_)
    · replace hf := it_n h1 hf
      refine v_iconst (v := (0 : Int32)) hX dX9_isMark_20 (by decide) 21 rfl ?_
      exact hR _ hf _ _ dX9_isMark_21 (bz_nar (v := (0 : Int32)) (by decide))
    · replace hf := it_p h1 hf
      refine v_iconst (v := (1 : Int32)) hX dX9_isMark_16 (by decide) 17 rfl ?_
      refine v_goto hX dX9_isMark_17 21 rfl ?_
      exact hR _ hf _ _ dX9_isMark_21 (bz_nar (v := (1 : Int32)) (by decide))
set_option maxRecDepth 100000 in
set_option maxHeartbeats 4000000 in
theorem c9_factHere (r : Nat → Int32) (g : Nat → Nat → Int32) (u : Nat → Int64) (h : Nat → Nat → Int64)  {res : Int32} (hf : f9_factHere (r 35) (u 0) = some res) : MAi yX9_factHere cX9_factHere 1 (some .int) 1 (fun a => [.ref (a 52)]) r g u h res r g u h := by
  refine mi_i (by decide +kernel) (fun a => Nat.le_of_ble_eq_true rfl) (fun X hX hn hR => ?_)
  replace hR : ∀ q : Int32, some q = some res → ∀ lv pc, decode cX9_factHere pc = .ok (.ireturn, 1) → narrow .int (.int q) = .int q → VC X r g u h lv [.int q] pc := fun q hq => by cases hq; exact hR
  replace hX : CX X RX9 cX9_factHere 1 := hX
  show VC X r g u h [(0, .ref (aX X 52))] [] 0
  rw [f9_factHere] at hf
  refine v_aload_n hX dX9_factHere_0 rfl 0 rfl 1 rfl ?_
  refine v_ldc2 (v := (70241 : Int64)) hX q_365 dX9_factHere_1 4 rfl ?_
  obtain ⟨v1, hv1, hf⟩ := bn1_e hf
  refine cv_i hX (c9_isWord r g u h _ hv1) wvX9_isWord q_331 rc_52 (Nat.le_of_ble_eq_true rfl) (Nat.le_of_ble_eq_true rfl) (fun _ => rfl) [] rfl (Nat.le_of_ble_eq_true rfl) dX9_factHere_4 7 rfl ?_
  refine v_if_eq hX dX9_factHere_7 14 rfl 10 rfl (fun h12 => ?_) (fun h12 => ?_)
  · replace hf := it_p h12 hf
    refine v_aload_n hX dX9_factHere_14 rfl 0 rfl 15 rfl ?_
    refine v_ldc2 (v := (2968 : Int64)) hX q_366 dX9_factHere_15 18 rfl ?_
    obtain ⟨v2, hv2, hf⟩ := bn1_e hf
    refine cv_i hX (c9_isWord r g u h _ hv2) wvX9_isWord q_331 rc_52 (Nat.le_of_ble_eq_true rfl) (Nat.le_of_ble_eq_true rfl) (fun _ => rfl) [] rfl (Nat.le_of_ble_eq_true rfl) dX9_factHere_18 21 rfl ?_
    refine v_if_eq hX dX9_factHere_21 28 rfl 24 rfl (fun h11 => ?_) (fun h11 => ?_)
    · replace hf := it_p h11 hf
      refine v_aload_n hX dX9_factHere_28 rfl 0 rfl 29 rfl ?_
      refine v_ldc2 (v := (232546955 : Int64)) hX q_367 dX9_factHere_29 32 rfl ?_
      obtain ⟨v3, hv3, hf⟩ := bn1_e hf
      refine cv_i hX (c9_isWord r g u h _ hv3) wvX9_isWord q_331 rc_52 (Nat.le_of_ble_eq_true rfl) (Nat.le_of_ble_eq_true rfl) (fun _ => rfl) [] rfl (Nat.le_of_ble_eq_true rfl) dX9_factHere_32 35 rfl ?_
      refine v_if_eq hX dX9_factHere_35 42 rfl 38 rfl (fun h10 => ?_) (fun h10 => ?_)
      · replace hf := it_p h10 hf
        refine v_aload_n hX dX9_factHere_42 rfl 0 rfl 43 rfl ?_
        refine v_ldc2 (v := (400375 : Int64)) hX q_368 dX9_factHere_43 46 rfl ?_
        obtain ⟨v4, hv4, hf⟩ := bn1_e hf
        refine cv_i hX (c9_isWord r g u h _ hv4) wvX9_isWord q_331 rc_52 (Nat.le_of_ble_eq_true rfl) (Nat.le_of_ble_eq_true rfl) (fun _ => rfl) [] rfl (Nat.le_of_ble_eq_true rfl) dX9_factHere_46 49 rfl ?_
        refine v_if_eq hX dX9_factHere_49 56 rfl 52 rfl (fun h9 => ?_) (fun h9 => ?_)
        · replace hf := it_p h9 hf
          refine v_aload_n hX dX9_factHere_56 rfl 0 rfl 57 rfl ?_
          refine v_ldc2 (v := (12531637 : Int64)) hX q_369 dX9_factHere_57 60 rfl ?_
          obtain ⟨v5, hv5, hf⟩ := bn1_e hf
          refine cv_i hX (c9_isWord r g u h _ hv5) wvX9_isWord q_331 rc_52 (Nat.le_of_ble_eq_true rfl) (Nat.le_of_ble_eq_true rfl) (fun _ => rfl) [] rfl (Nat.le_of_ble_eq_true rfl) dX9_factHere_60 63 rfl ?_
          refine v_if_eq hX dX9_factHere_63 70 rfl 66 rfl (fun h8 => ?_) (fun h8 => ?_)
          · replace hf := it_p h8 hf
            refine v_aload_n hX dX9_factHere_70 rfl 0 rfl 71 rfl ?_
            refine v_ldc2 (v := (223456 : Int64)) hX q_370 dX9_factHere_71 74 rfl ?_
            obtain ⟨v6, hv6, hf⟩ := bn1_e hf
            refine cv_i hX (c9_isWord r g u h _ hv6) wvX9_isWord q_331 rc_52 (Nat.le_of_ble_eq_true rfl) (Nat.le_of_ble_eq_true rfl) (fun _ => rfl) [] rfl (Nat.le_of_ble_eq_true rfl) dX9_factHere_74 77 rfl ?_
            refine v_if_eq hX dX9_factHere_77 84 rfl 80 rfl (fun h7 => ?_) (fun h7 => ?_)
            · replace hf := it_p h7 hf
              refine v_iconst (v := (-1 : Int32)) hX dX9_factHere_84 (by decide) 85 rfl ?_
              exact hR _ hf _ _ dX9_factHere_85 rfl
            · replace hf := it_n h7 hf
              refine v_iconst (v := (5 : Int32)) hX dX9_factHere_80 (by decide) 81 rfl ?_
              refine v_goto hX dX9_factHere_81 85 rfl ?_
              exact hR _ hf _ _ dX9_factHere_85 rfl
          · replace hf := it_n h8 hf
            refine v_iconst (v := (4 : Int32)) hX dX9_factHere_66 (by decide) 67 rfl ?_
            refine v_goto hX dX9_factHere_67 85 rfl ?_
            exact hR _ hf _ _ dX9_factHere_85 rfl
        · replace hf := it_n h9 hf
          refine v_iconst (v := (3 : Int32)) hX dX9_factHere_52 (by decide) 53 rfl ?_
          refine v_goto hX dX9_factHere_53 85 rfl ?_
          exact hR _ hf _ _ dX9_factHere_85 rfl
      · replace hf := it_n h10 hf
        refine v_iconst (v := (2 : Int32)) hX dX9_factHere_38 (by decide) 39 rfl ?_
        refine v_goto hX dX9_factHere_39 85 rfl ?_
        exact hR _ hf _ _ dX9_factHere_85 rfl
    · replace hf := it_n h11 hf
      refine v_iconst (v := (1 : Int32)) hX dX9_factHere_24 (by decide) 25 rfl ?_
      refine v_goto hX dX9_factHere_25 85 rfl ?_
      exact hR _ hf _ _ dX9_factHere_85 rfl
  · replace hf := it_n h12 hf
    refine v_iconst (v := (0 : Int32)) hX dX9_factHere_10 (by decide) 11 rfl ?_
    refine v_goto hX dX9_factHere_11 85 rfl ?_
    exact hR _ hf _ _ dX9_factHere_85 rfl
set_option maxRecDepth 100000 in
set_option maxHeartbeats 4000000 in
theorem c9_emit (r : Nat → Int32) (g : Nat → Nat → Int32) (u : Nat → Int64) (h : Nat → Nat → Int64) (p1 : Int32) {res : Int32 × (Nat → Int32)} (hf : f9_emit (r 40) (g 64) p1 = some res) : MAv yX9_emit cX9_emit 2 none 0 (fun a => [.ref (a 52), .int p1]) r g u h (lkp r [(40, res.1)]) (lkp g [(64, res.2)]) u h := by
  refine mi_v (by decide +kernel) (fun a => Nat.le_of_ble_eq_true rfl) (fun X hX hn hR => ?_)
  replace hR : ∀ q : Int32 × (Nat → Int32), some q = some res → ∀ lv pc, decode cX9_emit pc = .ok (.return_, 1) → VC X (lkp r [(40, q.1)]) (lkp g [(64, q.2)]) u h lv [] pc := fun q hq => by cases hq; exact hR
  replace hX : CX X RX9 cX9_emit 0 := hX
  refine v_opr [40] [(40, r 40)] rfl ?_
  refine v_opg [64] [(64, g 64)] rfl ?_
  show VC X (lkp r [(40, r 40)]) (lkp g [(64, g 64)]) u h [(0, .ref (aX X 52)), (1, .int p1)] [] 0
  rw [f9_emit] at hf
  refine v_aload_n hX dX9_emit_0 rfl 0 rfl 1 rfl ?_
  refine gf_52_22 hX q_115 dX9_emit_1 4 rfl ?_
  refine v_aload_n hX dX9_emit_4 rfl 0 rfl 5 rfl ?_
  refine gf_52_24 hX q_302 dX9_emit_5 ((r 40)) rfl 8 rfl ?_
  refine v_iload_n hX dX9_emit_8 rfl 1 rfl 9 rfl ?_
  obtain ⟨hi1, hf⟩ := gd_e hf
  refine as_64 hX hi1 dX9_emit_9 10 rfl (g 64) rfl [(64, (upd (g 64) (r 40).toNatClampNeg p1))] rfl ?_
  refine v_aload_n hX dX9_emit_10 rfl 0 rfl 11 rfl ?_
  refine v_dup hX dX9_emit_11 rfl 12 rfl ?_
  refine gf_52_24 hX q_302 dX9_emit_12 ((r 40)) rfl 15 rfl ?_
  refine v_iconst (v := (1 : Int32)) hX dX9_emit_15 (by decide) 16 rfl ?_
  refine v_iadd hX dX9_emit_16 17 rfl ?_
  refine pf_52_24 hX q_302 dX9_emit_17 20 rfl [(40, ((r 40) + (1 : Int32)))] rfl ?_
  exact hR _ hf _ _ dX9_emit_20
set_option maxRecDepth 100000 in
set_option maxHeartbeats 4000000 in
theorem c9_wantValue (r : Nat → Int32) (g : Nat → Nat → Int32) (u : Nat → Int64) (h : Nat → Nat → Int64)  {res : Int32 × Int32 × Int32 × Int32 × Int32 × Int32 × (Nat → Int32) × Int64} (hf : f9_wantValue (r 36) (r 40) (r 39) (r 35) (r 34) (r 37) (r 38) (g 64) (g 62) (u 0) = some res) : MAv yX9_wantValue cX9_wantValue 2 none 3 (fun a => [.ref (a 52)]) r g u h (lkp r [(36, res.1), (40, res.2.1), (39, res.2.2.1), (35, res.2.2.2.1), (37, res.2.2.2.2.1), (38, res.2.2.2.2.2.1)]) (lkp g [(64, res.2.2.2.2.2.2.1)]) (lkp u [(0, res.2.2.2.2.2.2.2)]) h := by
  refine mi_v (by decide +kernel) (fun a => Nat.le_of_ble_eq_true rfl) (fun X hX hn hR => ?_)
  replace hR : ∀ q : Int32 × Int32 × Int32 × Int32 × Int32 × Int32 × (Nat → Int32) × Int64, some q = some res → ∀ lv pc, decode cX9_wantValue pc = .ok (.return_, 1) → VC X (lkp r [(36, q.1), (40, q.2.1), (39, q.2.2.1), (35, q.2.2.2.1), (37, q.2.2.2.2.1), (38, q.2.2.2.2.2.1)]) (lkp g [(64, q.2.2.2.2.2.2.1)]) (lkp u [(0, q.2.2.2.2.2.2.2)]) h lv [] pc := fun q hq => by cases hq; exact hR
  replace hX : CX X RX9 cX9_wantValue 3 := hX
  refine v_opr [36, 40, 39, 35, 37, 38] [(36, r 36), (40, r 40), (39, r 39), (35, r 35), (37, r 37), (38, r 38)] rfl ?_
  refine v_opg [64] [(64, g 64)] rfl ?_
  refine v_opu [0] [(0, u 0)] rfl ?_
  show VC X (lkp r [(36, r 36), (40, r 40), (39, r 39), (35, r 35), (37, r 37), (38, r 38)]) (lkp g [(64, g 64)]) (lkp u [(0, u 0)]) h [(0, .ref (aX X 52))] [] 0
  rw [f9_wantValue] at hf
  refine v_aload_n hX dX9_wantValue_0 rfl 0 rfl 1 rfl ?_
  obtain ⟨v1, hv1, hf⟩ := bn1_e hf
  refine cv_i hX (c9_factHere (lkp r [(36, (r 36)), (40, (r 40)), (39, (r 39)), (35, (r 35)), (37, (r 37)), (38, (r 38))]) (lkp g [(64, (g 64))]) (lkp u [(0, (u 0))]) h hv1) wvX9_factHere q_361 rc_52 (Nat.le_of_ble_eq_true rfl) (Nat.le_of_ble_eq_true rfl) (fun _ => rfl) [] rfl (Nat.le_of_ble_eq_true rfl) dX9_wantValue_1 4 rfl ?_
  refine v_istore_n hX dX9_wantValue_4 rfl (ltn hn (by decide)) 5 rfl [(1, .int v1), (0, .ref (aX X 52))] rfl ?_
  refine v_aload_n hX dX9_wantValue_5 rfl 1 rfl 6 rfl ?_
  refine v_aload_n hX dX9_wantValue_6 rfl 1 rfl 7 rfl ?_
  refine gf_52_20 hX q_301 dX9_wantValue_7 ((r 39)) rfl 10 rfl ?_
  obtain ⟨J2, hJ2, hf⟩ := jn_x hf
  have HJ2 : ∀ (s3 : Int32), J2 s3 = some res → VC X (lkp r [(36, (r 36)), (40, (r 40)), (39, (r 39)), (35, (r 35)), (37, (r 37)), (38, (r 38))]) (lkp g [(64, (g 64))]) (lkp u [(0, (u 0))]) h [(0, .ref (aX X 52)), (1, .int v1)] [.int s3, .ref (aX X 52)] 37 := by
    intro s3 hf
    rw [hJ2] at hf
    obtain ⟨hb4, hf⟩ := gd_e hf
    refine pf_52_20 hX q_301 dX9_wantValue_37 hb4 40 rfl [(36, (r 36)), (40, (r 40)), (39, s3), (35, (r 35)), (37, (r 37)), (38, (r 38))] rfl ?_
    refine v_aload_n hX dX9_wantValue_40 rfl 0 rfl 41 rfl ?_
    refine gf_52_20 hX q_301 dX9_wantValue_41 (s3) rfl 44 rfl ?_
    refine v_if_eq hX dX9_wantValue_44 71 rfl 47 rfl (fun h15 => ?_) (fun h15 => ?_)
    · replace hf := it_p h15 hf
      exact hR _ hf _ _ dX9_wantValue_71
    · replace hf := it_n h15 hf
      refine v_aload_n hX dX9_wantValue_47 rfl 0 rfl 48 rfl ?_
      refine v_iload_n hX dX9_wantValue_48 rfl 1 rfl 49 rfl ?_
      obtain ⟨J5, hJ5, hf⟩ := jn_x hf
      have HJ5 : ∀ (s6 : Int32), J5 s6 = some res → VC X (lkp r [(36, (r 36)), (40, (r 40)), (39, s3), (35, (r 35)), (37, (r 37)), (38, (r 38))]) (lkp g [(64, (g 64))]) (lkp u [(0, (u 0))]) h [(0, .ref (aX X 52))] [.int s6, .ref (aX X 52)] 64 := by
        intro s6 hf
        rw [hJ5] at hf
        obtain ⟨c7, c8, hc7, hf⟩ := bn2_e hf
        refine cv_v hX (c9_emit (lkp r [(36, (r 36)), (40, (r 40)), (39, s3), (35, (r 35)), (37, (r 37)), (38, (r 38))]) (lkp g [(64, (g 64))]) (lkp u [(0, (u 0))]) h _ hc7) wvX9_emit q_371 rc_52 (Nat.le_of_ble_eq_true rfl) (Nat.le_of_ble_eq_true rfl) (fun _ => rfl) [] rfl (Nat.le_of_ble_eq_true rfl) dX9_wantValue_64 67 rfl ?_
        refine v_mgr [(36, (r 36)), (40, c7), (39, s3), (35, (r 35)), (37, (r 37)), (38, (r 38))] rfl ?_
        refine v_mgg [(64, c8)] rfl ?_
        refine v_aload_n hX dX9_wantValue_67 rfl 0 rfl 68 rfl ?_
        obtain ⟨c9, c10, c11, c12, c13, hc9, hf⟩ := bn5_e hf
        refine cv_v hX (c9_advance (lkp r [(36, (r 36)), (40, c7), (39, s3), (35, (r 35)), (37, (r 37)), (38, (r 38))]) (lkp g [(64, c8)]) (lkp u [(0, (u 0))]) h hc9) wvX9_advance q_312 rc_52 (Nat.le_of_ble_eq_true rfl) (Nat.le_of_ble_eq_true rfl) (fun _ => rfl) [] rfl (Nat.le_of_ble_eq_true rfl) dX9_wantValue_68 71 rfl ?_
        refine v_mgr [(36, c9), (40, c7), (39, s3), (35, c10), (37, c11), (38, c12)] rfl ?_
        refine v_mgu [(0, c13)] rfl ?_
        exact hR _ hf _ _ dX9_wantValue_71
      refine v_if_lt hX dX9_wantValue_49 60 rfl 52 rfl (fun h14 => ?_) (fun h14 => ?_)
      · replace hf := it_p h14 hf
        refine v_aload_n hX dX9_wantValue_60 rfl 0 rfl 61 rfl ?_
        refine gf_52_19 hX q_317 dX9_wantValue_61 ((r 38)) rfl 64 rfl ?_
        refine v_sub [(0, .ref (aX X 52))] (sbc 0 rfl sbn) ?_
        exact HJ5 _ hf
      · replace hf := it_n h14 hf
        refine v_sipush (v := (20000 : Int32)) hX dX9_wantValue_52 (by decide) 55 rfl ?_
        refine v_iload_n hX dX9_wantValue_55 rfl 1 rfl 56 rfl ?_
        refine v_iadd hX dX9_wantValue_56 57 rfl ?_
        refine v_goto hX dX9_wantValue_57 64 rfl ?_
        refine v_sub [(0, .ref (aX X 52))] (sbc 0 rfl sbn) ?_
        exact HJ5 _ hf
  obtain ⟨J16, hJ16, hf⟩ := jn_x hf
  have HJ16 : J16 = some res → VC X (lkp r [(36, (r 36)), (40, (r 40)), (39, (r 39)), (35, (r 35)), (37, (r 37)), (38, (r 38))]) (lkp g [(64, (g 64))]) (lkp u [(0, (u 0))]) h [(0, .ref (aX X 52)), (1, .int v1)] [.ref (aX X 52)] 36 := by
    intro hf
    rw [hJ16] at hf
    refine v_iconst (v := (0 : Int32)) hX dX9_wantValue_36 (by decide) 37 rfl ?_
    exact HJ2 _ hf
  refine v_if_eq hX dX9_wantValue_10 36 rfl 13 rfl (fun h21 => ?_) (fun h21 => ?_)
  · replace hf := it_p h21 hf
    refine v_sub [(0, .ref (aX X 52)), (1, .int v1)] (sbc 1 rfl (sbc 0 rfl sbn)) ?_
    exact HJ16  hf
  · replace hf := it_n h21 hf
    refine v_iload_n hX dX9_wantValue_13 rfl 0 rfl 14 rfl ?_
    obtain ⟨J17, hJ17, hf⟩ := jn_x hf
    have HJ17 : J17 = some res → VC X (lkp r [(36, (r 36)), (40, (r 40)), (39, (r 39)), (35, (r 35)), (37, (r 37)), (38, (r 38))]) (lkp g [(64, (g 64))]) (lkp u [(0, (u 0))]) h [(0, .ref (aX X 52)), (1, .int v1)] [.ref (aX X 52)] 32 := by
      intro hf
      rw [hJ17] at hf
      refine v_iconst (v := (1 : Int32)) hX dX9_wantValue_32 (by decide) 33 rfl ?_
      refine v_goto hX dX9_wantValue_33 37 rfl ?_
      exact HJ2 _ hf
    refine v_if_ge hX dX9_wantValue_14 32 rfl 17 rfl (fun h20 => ?_) (fun h20 => ?_)
    · replace hf := it_p h20 hf
      refine v_sub [(0, .ref (aX X 52)), (1, .int v1)] (sbc 1 rfl (sbc 0 rfl sbn)) ?_
      exact HJ17  hf
    · replace hf := it_n h20 hf
      refine v_aload_n hX dX9_wantValue_17 rfl 1 rfl 18 rfl ?_
      refine gf_52_15 hX q_303 dX9_wantValue_18 ((r 35)) rfl 21 rfl ?_
      refine v_iconst (v := (2 : Int32)) hX dX9_wantValue_21 (by decide) 22 rfl ?_
      refine v_icmp_ne hX dX9_wantValue_22 36 rfl 25 rfl (fun h19 => ?_) (fun h19 => ?_)
      · replace hf := it_n h19 hf
        refine v_sub [(0, .ref (aX X 52)), (1, .int v1)] (sbc 1 rfl (sbc 0 rfl sbn)) ?_
        exact HJ16  hf
      · replace hf := it_p h19 hf
        refine v_aload_n hX dX9_wantValue_25 rfl 1 rfl 26 rfl ?_
        refine gf_52_19 hX q_317 dX9_wantValue_26 ((r 38)) rfl 29 rfl ?_
        refine v_if_lt hX dX9_wantValue_29 36 rfl 32 rfl (fun h18 => ?_) (fun h18 => ?_)
        · replace hf := it_p h18 hf
          refine v_sub [(0, .ref (aX X 52)), (1, .int v1)] (sbc 1 rfl (sbc 0 rfl sbn)) ?_
          exact HJ16  hf
        · replace hf := it_n h18 hf
          refine v_sub [(0, .ref (aX X 52)), (1, .int v1)] (sbc 1 rfl (sbc 0 rfl sbn)) ?_
          exact HJ17  hf
set_option maxRecDepth 100000 in
set_option maxHeartbeats 4000000 in
theorem c9_isTop (r : Nat → Int32) (g : Nat → Nat → Int32) (u : Nat → Int64) (h : Nat → Nat → Int64) (p1 : Int32) {res : Int32} (hf : f9_isTop (r 41) (g 65) p1 = some res) : MAi yX9_isTop cX9_isTop 2 (some .boolean) 0 (fun a => [.ref (a 52), .int p1]) r g u h res r g u h := by
  refine mi_i (by decide +kernel) (fun a => Nat.le_of_ble_eq_true rfl) (fun X hX hn hR => ?_)
  replace hR : ∀ q : Int32, some q = some res → ∀ lv pc, decode cX9_isTop pc = .ok (.ireturn, 1) → narrow .boolean (.int q) = .int q → VC X r g u h lv [.int q] pc := fun q hq => by cases hq; exact hR
  replace hX : CX X RX9 cX9_isTop 0 := hX
  show VC X r g u h [(0, .ref (aX X 52)), (1, .int p1)] [] 0
  rw [f9_isTop] at hf
  refine v_aload_n hX dX9_isTop_0 rfl 0 rfl 1 rfl ?_
  refine gf_52_25 hX q_339 dX9_isTop_1 ((r 41)) rfl 4 rfl ?_
  refine v_if_le hX dX9_isTop_4 26 rfl 7 rfl (fun h3 => ?_) (fun h3 => ?_)
  · replace hf := it_p h3 hf
    refine v_iconst (v := (0 : Int32)) hX dX9_isTop_26 (by decide) 27 rfl ?_
    exact hR _ hf _ _ dX9_isTop_27 (bz_nar (v := (0 : Int32)) (by decide))
  · replace hf := it_n h3 hf
    refine v_aload_n hX dX9_isTop_7 rfl 0 rfl 8 rfl ?_
    refine gf_52_23 hX q_116 dX9_isTop_8 11 rfl ?_
    refine v_aload_n hX dX9_isTop_11 rfl 0 rfl 12 rfl ?_
    refine gf_52_25 hX q_339 dX9_isTop_12 ((r 41)) rfl 15 rfl ?_
    refine v_iconst (v := (1 : Int32)) hX dX9_isTop_15 (by decide) 16 rfl ?_
    refine v_isub hX dX9_isTop_16 17 rfl ?_
    obtain ⟨hi1, hf⟩ := gd_e hf
    refine al_65 hX hi1 dX9_isTop_17 ((g 65) ((r 41) - (1 : Int32)).toNatClampNeg) rfl 18 rfl ?_
    refine v_iload_n hX dX9_isTop_18 rfl 1 rfl 19 rfl ?_
    refine v_icmp_ne hX dX9_isTop_19 26 rfl 22 rfl (fun h2 => ?_) (fun h2 => ?_)
    · replace hf := it_n h2 hf
      refine v_iconst (v := (0 : Int32)) hX dX9_isTop_26 (by decide) 27 rfl ?_
      exact hR _ hf _ _ dX9_isTop_27 (bz_nar (v := (0 : Int32)) (by decide))
    · replace hf := it_p h2 hf
      refine v_iconst (v := (1 : Int32)) hX dX9_isTop_22 (by decide) 23 rfl ?_
      refine v_goto hX dX9_isTop_23 27 rfl ?_
      exact hR _ hf _ _ dX9_isTop_27 (bz_nar (v := (1 : Int32)) (by decide))
set_option maxRecDepth 100000 in
set_option maxHeartbeats 4000000 in
theorem c9_settle (r : Nat → Int32) (g : Nat → Nat → Int32) (u : Nat → Int64) (h : Nat → Nat → Int64) (p1 : Int32) {res : Int32 × Int32 × (Nat → Int32)} (hf : f9_settle (r 40) (r 41) (g 64) (g 65) p1 = some res) : MAv yX9_settle cX9_settle 2 none 1 (fun a => [.ref (a 52), .int p1]) r g u h (lkp r [(40, res.1), (41, res.2.1)]) (lkp g [(64, res.2.2)]) u h := by
  refine mi_v (by decide +kernel) (fun a => Nat.le_of_ble_eq_true rfl) (fun X hX hn hR => ?_)
  replace hR : ∀ q : Int32 × Int32 × (Nat → Int32), some q = some res → ∀ lv pc, decode cX9_settle pc = .ok (.return_, 1) → VC X (lkp r [(40, q.1), (41, q.2.1)]) (lkp g [(64, q.2.2)]) u h lv [] pc := fun q hq => by cases hq; exact hR
  replace hX : CX X RX9 cX9_settle 1 := hX
  refine v_opr [40, 41] [(40, r 40), (41, r 41)] rfl ?_
  refine v_opg [64] [(64, g 64)] rfl ?_
  show VC X (lkp r [(40, r 40), (41, r 41)]) (lkp g [(64, g 64)]) u h [(0, .ref (aX X 52)), (1, .int p1)] [] 0
  rw [f9_settle] at hf
  obtain ⟨K4, hK4, hf⟩ := jn_x hf
  have HK4 : ∀ (c1 : Int32) (c2 : Int32) (c3 : (Nat → Int32)), K4 c1 c2 c3 = some res → VC X (lkp r [(40, c1), (41, c2)]) (lkp g [(64, c3)]) u h [] [] 26 := by
    intro c1 c2 c3 hf
    rw [hK4] at hf
    exact hR _ hf _ _ dX9_settle_26
  have HLK4 : ∀ (n5 : Nat) (c1 : Int32) (c2 : Int32) (c3 : (Nat → Int32)), f9_settle_L0 (g 65) p1 n5 c1 c2 c3 K4 = some res → VC X (lkp r [(40, c1), (41, c2)]) (lkp g [(64, c3)]) u h [(0, .ref (aX X 52)), (1, .int p1)] [] 0 := by
    intro n5
    induction n5 with
    | zero => intro c1 c2 c3 hf; exact no_s hf
    | succ n5 ih =>
      intro c1 c2 c3 hf
      rw [f9_settle_L0] at hf
      refine v_aload_n hX dX9_settle_0 rfl 0 rfl 1 rfl ?_
      refine v_iload_n hX dX9_settle_1 rfl 1 rfl 2 rfl ?_
      obtain ⟨v6, hv6, hf⟩ := bn1_e hf
      refine cv_i hX (c9_isTop (lkp r [(40, c1), (41, c2)]) (lkp g [(64, c3)]) u h _ hv6) wvX9_isTop q_379 rc_52 (Nat.le_of_ble_eq_true rfl) (Nat.le_of_ble_eq_true rfl) (fun _ => rfl) [] rfl (Nat.le_of_ble_eq_true rfl) dX9_settle_2 5 rfl ?_
      refine v_if_eq hX dX9_settle_5 26 rfl 8 rfl (fun h9 => ?_) (fun h9 => ?_)
      · replace hf := it_p h9 hf
        refine v_sub [] sbn ?_
        exact HK4 _ _ _ hf
      · replace hf := it_n h9 hf
        refine v_aload_n hX dX9_settle_8 rfl 0 rfl 9 rfl ?_
        refine v_iload_n hX dX9_settle_9 rfl 1 rfl 10 rfl ?_
        obtain ⟨c7, c8, hc7, hf⟩ := bn2_e hf
        refine cv_v hX (c9_emit (lkp r [(40, c1), (41, c2)]) (lkp g [(64, c3)]) u h _ hc7) wvX9_emit q_371 rc_52 (Nat.le_of_ble_eq_true rfl) (Nat.le_of_ble_eq_true rfl) (fun _ => rfl) [] rfl (Nat.le_of_ble_eq_true rfl) dX9_settle_10 13 rfl ?_
        refine v_mgr [(40, c7), (41, c2)] rfl ?_
        refine v_mgg [(64, c8)] rfl ?_
        refine v_aload_n hX dX9_settle_13 rfl 0 rfl 14 rfl ?_
        refine v_dup hX dX9_settle_14 rfl 15 rfl ?_
        refine gf_52_25 hX q_339 dX9_settle_15 (c2) rfl 18 rfl ?_
        refine v_iconst (v := (1 : Int32)) hX dX9_settle_18 (by decide) 19 rfl ?_
        refine v_isub hX dX9_settle_19 20 rfl ?_
        refine pf_52_25 hX q_339 dX9_settle_20 23 rfl [(40, c7), (41, (c2 - (1 : Int32)))] rfl ?_
        refine v_goto hX dX9_settle_23 0 rfl ?_
        exact ih _ _ _ hf
  exact HLK4 _ _ _ _ hf
set_option maxRecDepth 100000 in
set_option maxHeartbeats 4000000 in
theorem c9_wantCompared (r : Nat → Int32) (g : Nat → Nat → Int32) (u : Nat → Int64) (h : Nat → Nat → Int64)  {res : Int32 × Int32 × Int32 × Int32 × Int32 × Int32 × Int32 × (Nat → Int32) × Int64} (hf : f9_wantCompared (r 36) (r 40) (r 39) (r 41) (r 35) (r 34) (r 37) (r 38) (g 64) (g 65) (g 62) (u 0) = some res) : MAv yX9_wantCompared cX9_wantCompared 2 none 4 (fun a => [.ref (a 52)]) r g u h (lkp r [(36, res.1), (40, res.2.1), (39, res.2.2.1), (41, res.2.2.2.1), (35, res.2.2.2.2.1), (37, res.2.2.2.2.2.1), (38, res.2.2.2.2.2.2.1)]) (lkp g [(64, res.2.2.2.2.2.2.2.1)]) (lkp u [(0, res.2.2.2.2.2.2.2.2)]) h := by
  refine mi_v (by decide +kernel) (fun a => Nat.le_of_ble_eq_true rfl) (fun X hX hn hR => ?_)
  replace hR : ∀ q : Int32 × Int32 × Int32 × Int32 × Int32 × Int32 × Int32 × (Nat → Int32) × Int64, some q = some res → ∀ lv pc, decode cX9_wantCompared pc = .ok (.return_, 1) → VC X (lkp r [(36, q.1), (40, q.2.1), (39, q.2.2.1), (41, q.2.2.2.1), (35, q.2.2.2.2.1), (37, q.2.2.2.2.2.1), (38, q.2.2.2.2.2.2.1)]) (lkp g [(64, q.2.2.2.2.2.2.2.1)]) (lkp u [(0, q.2.2.2.2.2.2.2.2)]) h lv [] pc := fun q hq => by cases hq; exact hR
  replace hX : CX X RX9 cX9_wantCompared 4 := hX
  refine v_opr [36, 40, 39, 41, 35, 37, 38] [(36, r 36), (40, r 40), (39, r 39), (41, r 41), (35, r 35), (37, r 37), (38, r 38)] rfl ?_
  refine v_opg [64] [(64, g 64)] rfl ?_
  refine v_opu [0] [(0, u 0)] rfl ?_
  show VC X (lkp r [(36, r 36), (40, r 40), (39, r 39), (41, r 41), (35, r 35), (37, r 37), (38, r 38)]) (lkp g [(64, g 64)]) (lkp u [(0, u 0)]) h [(0, .ref (aX X 52))] [] 0
  rw [f9_wantCompared] at hf
  refine v_aload_n hX dX9_wantCompared_0 rfl 0 rfl 1 rfl ?_
  obtain ⟨c1, c2, c3, c4, c5, c6, c7, c8, hc1, hf⟩ := bn8_e hf
  refine cv_v hX (c9_wantValue (lkp r [(36, (r 36)), (40, (r 40)), (39, (r 39)), (41, (r 41)), (35, (r 35)), (37, (r 37)), (38, (r 38))]) (lkp g [(64, (g 64))]) (lkp u [(0, (u 0))]) h hc1) wvX9_wantValue q_357 rc_52 (Nat.le_of_ble_eq_true rfl) (Nat.le_of_ble_eq_true rfl) (fun _ => rfl) [] rfl (Nat.le_of_ble_eq_true rfl) dX9_wantCompared_1 4 rfl ?_
  refine v_mgr [(36, c1), (40, c2), (39, c3), (41, (r 41)), (35, c4), (37, c5), (38, c6)] rfl ?_
  refine v_mgg [(64, c7)] rfl ?_
  refine v_mgu [(0, c8)] rfl ?_
  refine v_aload_n hX dX9_wantCompared_4 rfl 0 rfl 5 rfl ?_
  refine gf_52_19 hX q_317 dX9_wantCompared_5 (c6) rfl 8 rfl ?_
  refine v_istore_n hX dX9_wantCompared_8 rfl (ltn hn (by decide)) 9 rfl [(1, .int c6), (0, .ref (aX X 52))] rfl ?_
  refine v_aload_n hX dX9_wantCompared_9 rfl 1 rfl 10 rfl ?_
  refine v_aload_n hX dX9_wantCompared_10 rfl 1 rfl 11 rfl ?_
  refine gf_52_20 hX q_301 dX9_wantCompared_11 (c3) rfl 14 rfl ?_
  obtain ⟨J9, hJ9, hf⟩ := jn_x hf
  have HJ9 : ∀ (s10 : Int32), J9 s10 = some res → VC X (lkp r [(36, c1), (40, c2), (39, c3), (41, (r 41)), (35, c4), (37, c5), (38, c6)]) (lkp g [(64, c7)]) (lkp u [(0, c8)]) h [(0, .ref (aX X 52)), (1, .int c6)] [.int s10, .ref (aX X 52)] 49 := by
    intro s10 hf
    rw [hJ9] at hf
    obtain ⟨hb11, hf⟩ := gd_e hf
    refine pf_52_20 hX q_301 dX9_wantCompared_49 hb11 52 rfl [(36, c1), (40, c2), (39, s10), (41, (r 41)), (35, c4), (37, c5), (38, c6)] rfl ?_
    refine v_aload_n hX dX9_wantCompared_52 rfl 0 rfl 53 rfl ?_
    refine gf_52_20 hX q_301 dX9_wantCompared_53 (s10) rfl 56 rfl ?_
    obtain ⟨J12, hJ12, hf⟩ := jn_x hf
    have HJ12 : ∀ (c13 : Int32) (c14 : Int32) (c15 : Int32) (c16 : Int32) (c17 : Int32) (c18 : (Nat → Int32)) (c19 : Int64), J12 c13 c14 c15 c16 c17 c18 c19 = some res → VC X (lkp r [(36, c13), (40, c14), (39, s10), (41, (r 41)), (35, c15), (37, c16), (38, c17)]) (lkp g [(64, c18)]) (lkp u [(0, c19)]) h [(0, .ref (aX X 52))] [] 68 := by
      intro c13 c14 c15 c16 c17 c18 c19 hf
      rw [hJ12] at hf
      refine v_aload_n hX dX9_wantCompared_68 rfl 0 rfl 69 rfl ?_
      obtain ⟨c20, c21, c22, c23, c24, c25, c26, c27, hc20, hf⟩ := bn8_e hf
      refine cv_v hX (c9_wantValue (lkp r [(36, c13), (40, c14), (39, s10), (41, (r 41)), (35, c15), (37, c16), (38, c17)]) (lkp g [(64, c18)]) (lkp u [(0, c19)]) h hc20) wvX9_wantValue q_357 rc_52 (Nat.le_of_ble_eq_true rfl) (Nat.le_of_ble_eq_true rfl) (fun _ => rfl) [] rfl (Nat.le_of_ble_eq_true rfl) dX9_wantCompared_69 72 rfl ?_
      refine v_mgr [(36, c20), (40, c21), (39, c22), (41, (r 41)), (35, c23), (37, c24), (38, c25)] rfl ?_
      refine v_mgg [(64, c26)] rfl ?_
      refine v_mgu [(0, c27)] rfl ?_
      refine v_aload_n hX dX9_wantCompared_72 rfl 0 rfl 73 rfl ?_
      refine v_ldc (v := (40002 : Int32)) hX q_341 dX9_wantCompared_73 75 rfl ?_
      obtain ⟨c28, c29, c30, hc28, hf⟩ := bn3_e hf
      refine cv_v hX (c9_settle (lkp r [(36, c20), (40, c21), (39, c22), (41, (r 41)), (35, c23), (37, c24), (38, c25)]) (lkp g [(64, c26)]) (lkp u [(0, c27)]) h _ hc28) wvX9_settle q_375 rc_52 (Nat.le_of_ble_eq_true rfl) (Nat.le_of_ble_eq_true rfl) (fun _ => rfl) [] rfl (Nat.le_of_ble_eq_true rfl) dX9_wantCompared_75 78 rfl ?_
      refine v_mgr [(36, c20), (40, c28), (39, c22), (41, c29), (35, c23), (37, c24), (38, c25)] rfl ?_
      refine v_mgg [(64, c30)] rfl ?_
      exact hR _ hf _ _ dX9_wantCompared_78
    refine v_if_eq hX dX9_wantCompared_56 68 rfl 59 rfl (fun h38 => ?_) (fun h38 => ?_)
    · replace hf := it_p h38 hf
      refine v_sub [(0, .ref (aX X 52))] (sbc 0 rfl sbn) ?_
      exact HJ12 _ _ _ _ _ _ _ hf
    · replace hf := it_n h38 hf
      refine v_aload_n hX dX9_wantCompared_59 rfl 0 rfl 60 rfl ?_
      refine v_iload_n hX dX9_wantCompared_60 rfl 1 rfl 61 rfl ?_
      obtain ⟨c31, c32, hc31, hf⟩ := bn2_e hf
      refine cv_v hX (c9_emit (lkp r [(36, c1), (40, c2), (39, s10), (41, (r 41)), (35, c4), (37, c5), (38, c6)]) (lkp g [(64, c7)]) (lkp u [(0, c8)]) h _ hc31) wvX9_emit q_371 rc_52 (Nat.le_of_ble_eq_true rfl) (Nat.le_of_ble_eq_true rfl) (fun _ => rfl) [] rfl (Nat.le_of_ble_eq_true rfl) dX9_wantCompared_61 64 rfl ?_
      refine v_mgr [(36, c1), (40, c31), (39, s10), (41, (r 41)), (35, c4), (37, c5), (38, c6)] rfl ?_
      refine v_mgg [(64, c32)] rfl ?_
      refine v_aload_n hX dX9_wantCompared_64 rfl 0 rfl 65 rfl ?_
      obtain ⟨c33, c34, c35, c36, c37, hc33, hf⟩ := bn5_e hf
      refine cv_v hX (c9_advance (lkp r [(36, c1), (40, c31), (39, s10), (41, (r 41)), (35, c4), (37, c5), (38, c6)]) (lkp g [(64, c32)]) (lkp u [(0, c8)]) h hc33) wvX9_advance q_312 rc_52 (Nat.le_of_ble_eq_true rfl) (Nat.le_of_ble_eq_true rfl) (fun _ => rfl) [] rfl (Nat.le_of_ble_eq_true rfl) dX9_wantCompared_65 68 rfl ?_
      refine v_mgr [(36, c33), (40, c31), (39, s10), (41, (r 41)), (35, c34), (37, c35), (38, c36)] rfl ?_
      refine v_mgu [(0, c37)] rfl ?_
      refine v_sub [(0, .ref (aX X 52))] (sbc 0 rfl sbn) ?_
      exact HJ12 _ _ _ _ _ _ _ hf
  obtain ⟨J39, hJ39, hf⟩ := jn_x hf
  have HJ39 : J39 = some res → VC X (lkp r [(36, c1), (40, c2), (39, c3), (41, (r 41)), (35, c4), (37, c5), (38, c6)]) (lkp g [(64, c7)]) (lkp u [(0, c8)]) h [(0, .ref (aX X 52)), (1, .int c6)] [.ref (aX X 52)] 48 := by
    intro hf
    rw [hJ39] at hf
    refine v_iconst (v := (0 : Int32)) hX dX9_wantCompared_48 (by decide) 49 rfl ?_
    exact HJ9 _ hf
  refine v_if_eq hX dX9_wantCompared_14 48 rfl 17 rfl (fun h47 => ?_) (fun h47 => ?_)
  · replace hf := it_p h47 hf
    refine v_sub [(0, .ref (aX X 52)), (1, .int c6)] (sbc 1 rfl (sbc 0 rfl sbn)) ?_
    exact HJ39  hf
  · replace hf := it_n h47 hf
    refine v_aload_n hX dX9_wantCompared_17 rfl 1 rfl 18 rfl ?_
    refine v_bipush (v := (60 : Int32)) hX dX9_wantCompared_18 (by decide) 20 rfl ?_
    obtain ⟨v40, hv40, hf⟩ := bn1_e hf
    refine cv_i hX (c9_isMark (lkp r [(36, c1), (40, c2), (39, c3), (41, (r 41)), (35, c4), (37, c5), (38, c6)]) (lkp g [(64, c7)]) (lkp u [(0, c8)]) h _ hv40) wvX9_isMark q_349 rc_52 (Nat.le_of_ble_eq_true rfl) (Nat.le_of_ble_eq_true rfl) (fun _ => rfl) [.ref (aX X 52)] rfl (Nat.le_of_ble_eq_true rfl) dX9_wantCompared_20 23 rfl ?_
    obtain ⟨J41, hJ41, hf⟩ := jn_x hf
    have HJ41 : J41 = some res → VC X (lkp r [(36, c1), (40, c2), (39, c3), (41, (r 41)), (35, c4), (37, c5), (38, c6)]) (lkp g [(64, c7)]) (lkp u [(0, c8)]) h [(0, .ref (aX X 52)), (1, .int c6)] [.ref (aX X 52)] 44 := by
      intro hf
      rw [hJ41] at hf
      refine v_iconst (v := (1 : Int32)) hX dX9_wantCompared_44 (by decide) 45 rfl ?_
      refine v_goto hX dX9_wantCompared_45 49 rfl ?_
      exact HJ9 _ hf
    refine v_if_ne hX dX9_wantCompared_23 44 rfl 26 rfl (fun h46 => ?_) (fun h46 => ?_)
    · replace hf := it_n h46 hf
      refine v_sub [(0, .ref (aX X 52)), (1, .int c6)] (sbc 1 rfl (sbc 0 rfl sbn)) ?_
      exact HJ41  hf
    · replace hf := it_p h46 hf
      refine v_aload_n hX dX9_wantCompared_26 rfl 1 rfl 27 rfl ?_
      refine v_bipush (v := (61 : Int32)) hX dX9_wantCompared_27 (by decide) 29 rfl ?_
      obtain ⟨v42, hv42, hf⟩ := bn1_e hf
      refine cv_i hX (c9_isMark (lkp r [(36, c1), (40, c2), (39, c3), (41, (r 41)), (35, c4), (37, c5), (38, c6)]) (lkp g [(64, c7)]) (lkp u [(0, c8)]) h _ hv42) wvX9_isMark q_349 rc_52 (Nat.le_of_ble_eq_true rfl) (Nat.le_of_ble_eq_true rfl) (fun _ => rfl) [.ref (aX X 52)] rfl (Nat.le_of_ble_eq_true rfl) dX9_wantCompared_29 32 rfl ?_
      refine v_if_ne hX dX9_wantCompared_32 44 rfl 35 rfl (fun h45 => ?_) (fun h45 => ?_)
      · replace hf := it_n h45 hf
        refine v_sub [(0, .ref (aX X 52)), (1, .int c6)] (sbc 1 rfl (sbc 0 rfl sbn)) ?_
        exact HJ41  hf
      · replace hf := it_p h45 hf
        refine v_aload_n hX dX9_wantCompared_35 rfl 1 rfl 36 rfl ?_
        refine v_bipush (v := (62 : Int32)) hX dX9_wantCompared_36 (by decide) 38 rfl ?_
        obtain ⟨v43, hv43, hf⟩ := bn1_e hf
        refine cv_i hX (c9_isMark (lkp r [(36, c1), (40, c2), (39, c3), (41, (r 41)), (35, c4), (37, c5), (38, c6)]) (lkp g [(64, c7)]) (lkp u [(0, c8)]) h _ hv43) wvX9_isMark q_349 rc_52 (Nat.le_of_ble_eq_true rfl) (Nat.le_of_ble_eq_true rfl) (fun _ => rfl) [.ref (aX X 52)] rfl (Nat.le_of_ble_eq_true rfl) dX9_wantCompared_38 41 rfl ?_
        refine v_if_eq hX dX9_wantCompared_41 48 rfl 44 rfl (fun h44 => ?_) (fun h44 => ?_)
        · replace hf := it_p h44 hf
          refine v_sub [(0, .ref (aX X 52)), (1, .int c6)] (sbc 1 rfl (sbc 0 rfl sbn)) ?_
          exact HJ39  hf
        · replace hf := it_n h44 hf
          refine v_sub [(0, .ref (aX X 52)), (1, .int c6)] (sbc 1 rfl (sbc 0 rfl sbn)) ?_
          exact HJ41  hf
set_option maxRecDepth 100000 in
set_option maxHeartbeats 4000000 in
theorem c9_wantCond (r : Nat → Int32) (g : Nat → Nat → Int32) (u : Nat → Int64) (h : Nat → Nat → Int64) (p1 : Int64) (p3 : Int64) (p5 : Int64) {res : Int32 × Int32 × Int32 × Int32 × Int32 × Int32 × Int32 × Int32 × (Nat → Int32) × (Nat → Int32) × Int64} (hf : f9_wantCond (r 36) (r 40) (r 39) (r 42) (r 41) (r 35) (r 34) (r 37) (r 38) (g 64) (g 65) (g 62) (u 0) p1 p3 p5 = some res) : MAv yX9_wantCond cX9_wantCond 10 none 5 (fun a => [.ref (a 52), .long p1, .long p3, .long p5]) r g u h (lkp r [(36, res.1), (40, res.2.1), (39, res.2.2.1), (42, res.2.2.2.1), (41, res.2.2.2.2.1), (35, res.2.2.2.2.2.1), (37, res.2.2.2.2.2.2.1), (38, res.2.2.2.2.2.2.2.1)]) (lkp g [(64, res.2.2.2.2.2.2.2.2.1), (65, res.2.2.2.2.2.2.2.2.2.1)]) (lkp u [(0, res.2.2.2.2.2.2.2.2.2.2)]) h := by
  refine mi_v (by decide +kernel) (fun a => Nat.le_of_ble_eq_true rfl) (fun X hX hn hR => ?_)
  replace hR : ∀ q : Int32 × Int32 × Int32 × Int32 × Int32 × Int32 × Int32 × Int32 × (Nat → Int32) × (Nat → Int32) × Int64, some q = some res → ∀ lv pc, decode cX9_wantCond pc = .ok (.return_, 1) → VC X (lkp r [(36, q.1), (40, q.2.1), (39, q.2.2.1), (42, q.2.2.2.1), (41, q.2.2.2.2.1), (35, q.2.2.2.2.2.1), (37, q.2.2.2.2.2.2.1), (38, q.2.2.2.2.2.2.2.1)]) (lkp g [(64, q.2.2.2.2.2.2.2.2.1), (65, q.2.2.2.2.2.2.2.2.2.1)]) (lkp u [(0, q.2.2.2.2.2.2.2.2.2.2)]) h lv [] pc := fun q hq => by cases hq; exact hR
  replace hX : CX X RX9 cX9_wantCond 5 := hX
  refine v_opr [36, 40, 39, 42, 41, 35, 37, 38] [(36, r 36), (40, r 40), (39, r 39), (42, r 42), (41, r 41), (35, r 35), (37, r 37), (38, r 38)] rfl ?_
  refine v_opg [64, 65] [(64, g 64), (65, g 65)] rfl ?_
  refine v_opu [0] [(0, u 0)] rfl ?_
  show VC X (lkp r [(36, r 36), (40, r 40), (39, r 39), (42, r 42), (41, r 41), (35, r 35), (37, r 37), (38, r 38)]) (lkp g [(64, g 64), (65, g 65)]) (lkp u [(0, u 0)]) h [(0, .ref (aX X 52)), (1, .long p1), (3, .long p3), (5, .long p5)] [] 0
  rw [f9_wantCond] at hf
  refine v_aload_n hX dX9_wantCond_0 rfl 0 rfl 1 rfl ?_
  refine v_iconst (v := (0 : Int32)) hX dX9_wantCond_1 (by decide) 2 rfl ?_
  refine pf_52_25 hX q_339 dX9_wantCond_2 5 rfl [(36, (r 36)), (40, (r 40)), (39, (r 39)), (42, (r 42)), (41, (0 : Int32)), (35, (r 35)), (37, (r 37)), (38, (r 38))] rfl ?_
  refine v_aload_n hX dX9_wantCond_5 rfl 0 rfl 6 rfl ?_
  refine v_iconst (v := (0 : Int32)) hX dX9_wantCond_6 (by decide) 7 rfl ?_
  refine pf_52_26 hX q_340 dX9_wantCond_7 10 rfl [(36, (r 36)), (40, (r 40)), (39, (r 39)), (42, (0 : Int32)), (41, (0 : Int32)), (35, (r 35)), (37, (r 37)), (38, (r 38))] rfl ?_
  refine v_iconst (v := (1 : Int32)) hX dX9_wantCond_10 (by decide) 11 rfl ?_
  refine v_istore hX dX9_wantCond_11 (ltn hn (by decide)) 13 rfl [(7, .int (1 : Int32)), (0, .ref (aX X 52)), (1, .long p1), (3, .long p3), (5, .long p5)] rfl ?_
  refine v_iconst (v := (1 : Int32)) hX dX9_wantCond_13 (by decide) 14 rfl ?_
  refine v_istore hX dX9_wantCond_14 (ltn hn (by decide)) 16 rfl [(8, .int (1 : Int32)), (7, .int (1 : Int32)), (0, .ref (aX X 52)), (1, .long p1), (3, .long p3), (5, .long p5)] rfl ?_
  obtain ⟨K14, hK14, hf⟩ := jn_x hf
  have HK14 : ∀ (x1 : Int32) (x2 : Int32) (c3 : Int32) (c4 : Int32) (c5 : Int32) (c6 : Int32) (c7 : Int32) (c8 : Int32) (c9 : Int32) (c10 : Int32) (c11 : (Nat → Int32)) (c12 : (Nat → Int32)) (c13 : Int64), K14 x1 x2 c3 c4 c5 c6 c7 c8 c9 c10 c11 c12 c13 = some res → VC X (lkp r [(36, c3), (40, c4), (39, c5), (42, c6), (41, c7), (35, c8), (37, c9), (38, c10)]) (lkp g [(64, c11), (65, c12)]) (lkp u [(0, c13)]) h [] [] 285 := by
    intro x1 x2 c3 c4 c5 c6 c7 c8 c9 c10 c11 c12 c13 hf
    rw [hK14] at hf
    exact hR _ hf _ _ dX9_wantCond_285
  have HLK14 : ∀ (n15 : Nat) (x1 : Int32) (x2 : Int32) (c3 : Int32) (c4 : Int32) (c5 : Int32) (c6 : Int32) (c7 : Int32) (c8 : Int32) (c9 : Int32) (c10 : Int32) (c11 : (Nat → Int32)) (c12 : (Nat → Int32)) (c13 : Int64), f9_wantCond_L16 (r 34) (g 62) p1 p3 p5 n15 x1 x2 c3 c4 c5 c6 c7 c8 c9 c10 c11 c12 c13 K14 = some res → VC X (lkp r [(36, c3), (40, c4), (39, c5), (42, c6), (41, c7), (35, c8), (37, c9), (38, c10)]) (lkp g [(64, c11), (65, c12)]) (lkp u [(0, c13)]) h [(0, .ref (aX X 52)), (1, .long p1), (3, .long p3), (5, .long p5), (7, .int x1), (8, .int x2)] [] 16 := by
    intro n15
    induction n15 with
    | zero => intro x1 x2 c3 c4 c5 c6 c7 c8 c9 c10 c11 c12 c13 hf; exact no_s hf
    | succ n15 ih =>
      intro x1 x2 c3 c4 c5 c6 c7 c8 c9 c10 c11 c12 c13 hf
      rw [f9_wantCond_L16] at hf
      refine v_aload_n hX dX9_wantCond_16 rfl 0 rfl 17 rfl ?_
      refine gf_52_20 hX q_301 dX9_wantCond_17 (c5) rfl 20 rfl ?_
      refine v_if_eq hX dX9_wantCond_20 285 rfl 23 rfl (fun h105 => ?_) (fun h105 => ?_)
      · replace hf := it_p h105 hf
        refine v_sub [] sbn ?_
        exact HK14 _ _ _ _ _ _ _ _ _ _ _ _ _ hf
      · replace hf := it_n h105 hf
        refine v_iload hX dX9_wantCond_23 5 rfl 25 rfl ?_
        refine v_if_eq hX dX9_wantCond_25 285 rfl 28 rfl (fun h104 => ?_) (fun h104 => ?_)
        · replace hf := it_p h104 hf
          refine v_sub [] sbn ?_
          exact HK14 _ _ _ _ _ _ _ _ _ _ _ _ _ hf
        · replace hf := it_n h104 hf
          refine v_iload hX dX9_wantCond_28 4 rfl 30 rfl ?_
          obtain ⟨J16, hJ16, hf⟩ := jn_x hf
          have HJ16 : J16 = some res → VC X (lkp r [(36, c3), (40, c4), (39, c5), (42, c6), (41, c7), (35, c8), (37, c9), (38, c10)]) (lkp g [(64, c11), (65, c12)]) (lkp u [(0, c13)]) h [(0, .ref (aX X 52)), (1, .long p1), (3, .long p3), (5, .long p5), (7, .int x1), (8, .int x2)] [] 54 := by
            intro hf
            rw [hJ16] at hf
            refine v_iload hX dX9_wantCond_54 4 rfl 56 rfl ?_
            obtain ⟨J17, hJ17, hf⟩ := jn_x hf
            have HJ17 : J17 = some res → VC X (lkp r [(36, c3), (40, c4), (39, c5), (42, c6), (41, c7), (35, c8), (37, c9), (38, c10)]) (lkp g [(64, c11), (65, c12)]) (lkp u [(0, c13)]) h [(0, .ref (aX X 52)), (1, .long p1), (3, .long p3), (5, .long p5), (7, .int x1), (8, .int x2)] [] 115 := by
              intro hf
              rw [hJ17] at hf
              refine v_iload hX dX9_wantCond_115 4 rfl 117 rfl ?_
              refine v_if_eq hX dX9_wantCond_117 130 rfl 120 rfl (fun h78 => ?_) (fun h78 => ?_)
              · replace hf := it_p h78 hf
                refine v_aload_n hX dX9_wantCond_130 rfl 0 rfl 131 rfl ?_
                refine v_lload_n hX dX9_wantCond_131 rfl 2 rfl 132 rfl ?_
                obtain ⟨v18, hv18, hf⟩ := bn1_e hf
                refine cv_i hX (c9_isWord (lkp r [(36, c3), (40, c4), (39, c5), (42, c6), (41, c7), (35, c8), (37, c9), (38, c10)]) (lkp g [(64, c11), (65, c12)]) (lkp u [(0, c13)]) h _ hv18) wvX9_isWord q_331 rc_52 (Nat.le_of_ble_eq_true rfl) (Nat.le_of_ble_eq_true rfl) (fun _ => rfl) [] rfl (Nat.le_of_ble_eq_true rfl) dX9_wantCond_132 135 rfl ?_
                obtain ⟨J19, hJ19, hf⟩ := jn_x hf
                have HJ19 : J19 = some res → VC X (lkp r [(36, c3), (40, c4), (39, c5), (42, c6), (41, c7), (35, c8), (37, c9), (38, c10)]) (lkp g [(64, c11), (65, c12)]) (lkp u [(0, c13)]) h [(0, .ref (aX X 52)), (1, .long p1), (3, .long p3), (5, .long p5), (8, .int x2)] [] 147 := by
                  intro hf
                  rw [hJ19] at hf
                  refine v_aload_n hX dX9_wantCond_147 rfl 0 rfl 148 rfl ?_
                  refine v_ldc (v := (40000 : Int32)) hX q_343 dX9_wantCond_148 150 rfl ?_
                  obtain ⟨c20, c21, c22, hc20, hf⟩ := bn3_e hf
                  refine cv_v hX (c9_settle (lkp r [(36, c3), (40, c4), (39, c5), (42, c6), (41, c7), (35, c8), (37, c9), (38, c10)]) (lkp g [(64, c11), (65, c12)]) (lkp u [(0, c13)]) h _ hc20) wvX9_settle q_375 rc_52 (Nat.le_of_ble_eq_true rfl) (Nat.le_of_ble_eq_true rfl) (fun _ => rfl) [] rfl (Nat.le_of_ble_eq_true rfl) dX9_wantCond_150 153 rfl ?_
                  refine v_mgr [(36, c3), (40, c20), (39, c5), (42, c6), (41, c21), (35, c8), (37, c9), (38, c10)] rfl ?_
                  refine v_mgg [(64, c22), (65, c12)] rfl ?_
                  refine v_aload_n hX dX9_wantCond_153 rfl 0 rfl 154 rfl ?_
                  refine v_lload_n hX dX9_wantCond_154 rfl 2 rfl 155 rfl ?_
                  obtain ⟨v23, hv23, hf⟩ := bn1_e hf
                  refine cv_i hX (c9_isWord (lkp r [(36, c3), (40, c20), (39, c5), (42, c6), (41, c21), (35, c8), (37, c9), (38, c10)]) (lkp g [(64, c22), (65, c12)]) (lkp u [(0, c13)]) h _ hv23) wvX9_isWord q_331 rc_52 (Nat.le_of_ble_eq_true rfl) (Nat.le_of_ble_eq_true rfl) (fun _ => rfl) [] rfl (Nat.le_of_ble_eq_true rfl) dX9_wantCond_155 158 rfl ?_
                  refine v_istore hX dX9_wantCond_158 (ltn hn (by decide)) 160 rfl [(9, .int v23), (0, .ref (aX X 52)), (1, .long p1), (3, .long p3), (5, .long p5), (8, .int x2)] rfl ?_
                  refine v_iload hX dX9_wantCond_160 0 rfl 162 rfl ?_
                  obtain ⟨J24, hJ24, hf⟩ := jn_x hf
                  have HJ24 : ∀ (c25 : Int32) (c26 : Int32) (c27 : (Nat → Int32)), J24 c25 c26 c27 = some res → VC X (lkp r [(36, c3), (40, c25), (39, c5), (42, c6), (41, c26), (35, c8), (37, c9), (38, c10)]) (lkp g [(64, c27), (65, c12)]) (lkp u [(0, c13)]) h [(0, .ref (aX X 52)), (1, .long p1), (3, .long p3), (5, .long p5), (8, .int x2), (9, .int v23)] [] 171 := by
                    intro c25 c26 c27 hf
                    rw [hJ24] at hf
                    refine v_aload_n hX dX9_wantCond_171 rfl 0 rfl 172 rfl ?_
                    refine v_iload hX dX9_wantCond_172 5 rfl 174 rfl ?_
                    obtain ⟨J28, hJ28, hf⟩ := jn_x hf
                    have HJ28 : ∀ (s29 : Int32), J28 s29 = some res → VC X (lkp r [(36, c3), (40, c25), (39, c5), (42, c6), (41, c26), (35, c8), (37, c9), (38, c10)]) (lkp g [(64, c27), (65, c12)]) (lkp u [(0, c13)]) h [(0, .ref (aX X 52)), (1, .long p1), (3, .long p3), (5, .long p5), (8, .int x2)] [.int s29, .ref (aX X 52)] 184 := by
                      intro s29 hf
                      rw [hJ28] at hf
                      obtain ⟨c30, c31, hc30, hf⟩ := bn2_e hf
                      refine cv_v hX (c9_pend (lkp r [(36, c3), (40, c25), (39, c5), (42, c6), (41, c26), (35, c8), (37, c9), (38, c10)]) (lkp g [(64, c27), (65, c12)]) (lkp u [(0, c13)]) h _ hc30) wvX9_pend q_345 rc_52 (Nat.le_of_ble_eq_true rfl) (Nat.le_of_ble_eq_true rfl) (fun _ => rfl) [] rfl (Nat.le_of_ble_eq_true rfl) dX9_wantCond_184 187 rfl ?_
                      refine v_mgr [(36, c3), (40, c25), (39, c5), (42, c6), (41, c30), (35, c8), (37, c9), (38, c10)] rfl ?_
                      refine v_mgg [(64, c27), (65, c31)] rfl ?_
                      refine v_aload_n hX dX9_wantCond_187 rfl 0 rfl 188 rfl ?_
                      obtain ⟨c32, c33, c34, c35, c36, hc32, hf⟩ := bn5_e hf
                      refine cv_v hX (c9_advance (lkp r [(36, c3), (40, c25), (39, c5), (42, c6), (41, c30), (35, c8), (37, c9), (38, c10)]) (lkp g [(64, c27), (65, c31)]) (lkp u [(0, c13)]) h hc32) wvX9_advance q_312 rc_52 (Nat.le_of_ble_eq_true rfl) (Nat.le_of_ble_eq_true rfl) (fun _ => rfl) [] rfl (Nat.le_of_ble_eq_true rfl) dX9_wantCond_188 191 rfl ?_
                      refine v_mgr [(36, c32), (40, c25), (39, c5), (42, c6), (41, c30), (35, c33), (37, c34), (38, c35)] rfl ?_
                      refine v_mgu [(0, c36)] rfl ?_
                      refine v_iconst (v := (1 : Int32)) hX dX9_wantCond_191 (by decide) 192 rfl ?_
                      refine v_istore hX dX9_wantCond_192 (ltn hn (by decide)) 194 rfl [(7, .int (1 : Int32)), (0, .ref (aX X 52)), (1, .long p1), (3, .long p3), (5, .long p5), (8, .int x2)] rfl ?_
                      refine v_goto hX dX9_wantCond_194 16 rfl ?_
                      refine v_sub [(0, .ref (aX X 52)), (1, .long p1), (3, .long p3), (5, .long p5), (7, .int (1 : Int32)), (8, .int x2)] (sbc 1 rfl (sbc 2 rfl (sbc 3 rfl (sbc 4 rfl (sbc 0 rfl (sbc 5 rfl sbn)))))) ?_
                      exact ih _ _ _ _ _ _ _ _ _ _ _ _ _ hf
                    refine v_if_eq hX dX9_wantCond_174 182 rfl 177 rfl (fun h37 => ?_) (fun h37 => ?_)
                    · replace hf := it_p h37 hf
                      refine v_ldc (v := (40001 : Int32)) hX q_344 dX9_wantCond_182 184 rfl ?_
                      refine v_sub [(0, .ref (aX X 52)), (1, .long p1), (3, .long p3), (5, .long p5), (8, .int x2)] (sbc 0 rfl (sbc 1 rfl (sbc 2 rfl (sbc 3 rfl (sbc 4 rfl sbn))))) ?_
                      exact HJ28 _ hf
                    · replace hf := it_n h37 hf
                      refine v_ldc (v := (40000 : Int32)) hX q_343 dX9_wantCond_177 179 rfl ?_
                      refine v_goto hX dX9_wantCond_179 184 rfl ?_
                      refine v_sub [(0, .ref (aX X 52)), (1, .long p1), (3, .long p3), (5, .long p5), (8, .int x2)] (sbc 0 rfl (sbc 1 rfl (sbc 2 rfl (sbc 3 rfl (sbc 4 rfl sbn))))) ?_
                      exact HJ28 _ hf
                  refine v_if_ne hX dX9_wantCond_162 171 rfl 165 rfl (fun h41 => ?_) (fun h41 => ?_)
                  · replace hf := it_n h41 hf
                    refine v_sub [(0, .ref (aX X 52)), (1, .long p1), (3, .long p3), (5, .long p5), (8, .int x2), (9, .int v23)] (sbc 1 rfl (sbc 2 rfl (sbc 3 rfl (sbc 4 rfl (sbc 5 rfl (sbc 0 rfl sbn)))))) ?_
                    exact HJ24 _ _ _ hf
                  · replace hf := it_p h41 hf
                    refine v_aload_n hX dX9_wantCond_165 rfl 1 rfl 166 rfl ?_
                    refine v_ldc (v := (40001 : Int32)) hX q_344 dX9_wantCond_166 168 rfl ?_
                    obtain ⟨c38, c39, c40, hc38, hf⟩ := bn3_e hf
                    refine cv_v hX (c9_settle (lkp r [(36, c3), (40, c20), (39, c5), (42, c6), (41, c21), (35, c8), (37, c9), (38, c10)]) (lkp g [(64, c22), (65, c12)]) (lkp u [(0, c13)]) h _ hc38) wvX9_settle q_375 rc_52 (Nat.le_of_ble_eq_true rfl) (Nat.le_of_ble_eq_true rfl) (fun _ => rfl) [] rfl (Nat.le_of_ble_eq_true rfl) dX9_wantCond_168 171 rfl ?_
                    refine v_mgr [(36, c3), (40, c38), (39, c5), (42, c6), (41, c39), (35, c8), (37, c9), (38, c10)] rfl ?_
                    refine v_mgg [(64, c40), (65, c12)] rfl ?_
                    refine v_sub [(0, .ref (aX X 52)), (1, .long p1), (3, .long p3), (5, .long p5), (8, .int x2), (9, .int v23)] (sbc 1 rfl (sbc 2 rfl (sbc 3 rfl (sbc 4 rfl (sbc 5 rfl (sbc 0 rfl sbn)))))) ?_
                    exact HJ24 _ _ _ hf
                refine v_if_ne hX dX9_wantCond_135 147 rfl 138 rfl (fun h68 => ?_) (fun h68 => ?_)
                · replace hf := it_n h68 hf
                  refine v_sub [(0, .ref (aX X 52)), (1, .long p1), (3, .long p3), (5, .long p5), (8, .int x2)] (sbc 0 rfl (sbc 1 rfl (sbc 2 rfl (sbc 3 rfl (sbc 5 rfl sbn))))) ?_
                  exact HJ19  hf
                · replace hf := it_p h68 hf
                  refine v_aload_n hX dX9_wantCond_138 rfl 0 rfl 139 rfl ?_
                  refine v_lload hX dX9_wantCond_139 3 rfl 141 rfl ?_
                  obtain ⟨v42, hv42, hf⟩ := bn1_e hf
                  refine cv_i hX (c9_isWord (lkp r [(36, c3), (40, c4), (39, c5), (42, c6), (41, c7), (35, c8), (37, c9), (38, c10)]) (lkp g [(64, c11), (65, c12)]) (lkp u [(0, c13)]) h _ hv42) wvX9_isWord q_331 rc_52 (Nat.le_of_ble_eq_true rfl) (Nat.le_of_ble_eq_true rfl) (fun _ => rfl) [] rfl (Nat.le_of_ble_eq_true rfl) dX9_wantCond_141 144 rfl ?_
                  refine v_if_eq hX dX9_wantCond_144 197 rfl 147 rfl (fun h67 => ?_) (fun h67 => ?_)
                  · replace hf := it_p h67 hf
                    refine v_aload_n hX dX9_wantCond_197 rfl 0 rfl 198 rfl ?_
                    refine v_ldc (v := (40000 : Int32)) hX q_343 dX9_wantCond_198 200 rfl ?_
                    obtain ⟨c43, c44, c45, hc43, hf⟩ := bn3_e hf
                    refine cv_v hX (c9_settle (lkp r [(36, c3), (40, c4), (39, c5), (42, c6), (41, c7), (35, c8), (37, c9), (38, c10)]) (lkp g [(64, c11), (65, c12)]) (lkp u [(0, c13)]) h _ hc43) wvX9_settle q_375 rc_52 (Nat.le_of_ble_eq_true rfl) (Nat.le_of_ble_eq_true rfl) (fun _ => rfl) [] rfl (Nat.le_of_ble_eq_true rfl) dX9_wantCond_200 203 rfl ?_
                    refine v_mgr [(36, c3), (40, c43), (39, c5), (42, c6), (41, c44), (35, c8), (37, c9), (38, c10)] rfl ?_
                    refine v_mgg [(64, c45), (65, c12)] rfl ?_
                    refine v_aload_n hX dX9_wantCond_203 rfl 0 rfl 204 rfl ?_
                    refine v_ldc (v := (40001 : Int32)) hX q_344 dX9_wantCond_204 206 rfl ?_
                    obtain ⟨c46, c47, c48, hc46, hf⟩ := bn3_e hf
                    refine cv_v hX (c9_settle (lkp r [(36, c3), (40, c43), (39, c5), (42, c6), (41, c44), (35, c8), (37, c9), (38, c10)]) (lkp g [(64, c45), (65, c12)]) (lkp u [(0, c13)]) h _ hc46) wvX9_settle q_375 rc_52 (Nat.le_of_ble_eq_true rfl) (Nat.le_of_ble_eq_true rfl) (fun _ => rfl) [] rfl (Nat.le_of_ble_eq_true rfl) dX9_wantCond_206 209 rfl ?_
                    refine v_mgr [(36, c3), (40, c46), (39, c5), (42, c6), (41, c47), (35, c8), (37, c9), (38, c10)] rfl ?_
                    refine v_mgg [(64, c48), (65, c12)] rfl ?_
                    refine v_aload_n hX dX9_wantCond_209 rfl 0 rfl 210 rfl ?_
                    refine v_ldc (v := (40003 : Int32)) hX q_342 dX9_wantCond_210 212 rfl ?_
                    obtain ⟨v49, hv49, hf⟩ := bn1_e hf
                    refine cv_i hX (c9_isTop (lkp r [(36, c3), (40, c46), (39, c5), (42, c6), (41, c47), (35, c8), (37, c9), (38, c10)]) (lkp g [(64, c48), (65, c12)]) (lkp u [(0, c13)]) h _ hv49) wvX9_isTop q_379 rc_52 (Nat.le_of_ble_eq_true rfl) (Nat.le_of_ble_eq_true rfl) (fun _ => rfl) [] rfl (Nat.le_of_ble_eq_true rfl) dX9_wantCond_212 215 rfl ?_
                    refine v_istore hX dX9_wantCond_215 (ltn hn (by decide)) 217 rfl [(8, .int v49), (0, .ref (aX X 52)), (1, .long p1), (3, .long p3), (5, .long p5), (7, .int x1)] rfl ?_
                    refine v_aload_n hX dX9_wantCond_217 rfl 1 rfl 218 rfl ?_
                    refine v_iload hX dX9_wantCond_218 0 rfl 220 rfl ?_
                    obtain ⟨J50, hJ50, hf⟩ := jn_x hf
                    have HJ50 : ∀ (s51 : Int32), J50 s51 = some res → VC X (lkp r [(36, c3), (40, c46), (39, c5), (42, c6), (41, c47), (35, c8), (37, c9), (38, c10)]) (lkp g [(64, c48), (65, c12)]) (lkp u [(0, c13)]) h [(0, .ref (aX X 52)), (1, .long p1), (3, .long p3), (5, .long p5), (7, .int x1), (8, .int v49)] [.int s51, .ref (aX X 52)] 237 := by
                      intro s51 hf
                      rw [hJ50] at hf
                      obtain ⟨hb52, hf⟩ := gd_e hf
                      refine pf_52_20 hX q_301 dX9_wantCond_237 hb52 240 rfl [(36, c3), (40, c46), (39, s51), (42, c6), (41, c47), (35, c8), (37, c9), (38, c10)] rfl ?_
                      refine v_aload_n hX dX9_wantCond_240 rfl 0 rfl 241 rfl ?_
                      refine gf_52_20 hX q_301 dX9_wantCond_241 (s51) rfl 244 rfl ?_
                      refine v_if_eq hX dX9_wantCond_244 16 rfl 247 rfl (fun h62 => ?_) (fun h62 => ?_)
                      · replace hf := it_p h62 hf
                        exact ih _ _ _ _ _ _ _ _ _ _ _ _ _ hf
                      · replace hf := it_n h62 hf
                        refine v_iload hX dX9_wantCond_247 5 rfl 249 rfl ?_
                        refine v_if_eq hX dX9_wantCond_249 16 rfl 252 rfl (fun h61 => ?_) (fun h61 => ?_)
                        · replace hf := it_p h61 hf
                          exact ih _ _ _ _ _ _ _ _ _ _ _ _ _ hf
                        · replace hf := it_n h61 hf
                          refine v_aload_n hX dX9_wantCond_252 rfl 0 rfl 253 rfl ?_
                          refine v_dup hX dX9_wantCond_253 rfl 254 rfl ?_
                          refine gf_52_25 hX q_339 dX9_wantCond_254 (c47) rfl 257 rfl ?_
                          refine v_iconst (v := (1 : Int32)) hX dX9_wantCond_257 (by decide) 258 rfl ?_
                          refine v_isub hX dX9_wantCond_258 259 rfl ?_
                          refine pf_52_25 hX q_339 dX9_wantCond_259 262 rfl [(36, c3), (40, c46), (39, s51), (42, c6), (41, (c47 - (1 : Int32))), (35, c8), (37, c9), (38, c10)] rfl ?_
                          refine v_aload_n hX dX9_wantCond_262 rfl 0 rfl 263 rfl ?_
                          refine v_dup hX dX9_wantCond_263 rfl 264 rfl ?_
                          refine gf_52_26 hX q_340 dX9_wantCond_264 (c6) rfl 267 rfl ?_
                          refine v_iconst (v := (1 : Int32)) hX dX9_wantCond_267 (by decide) 268 rfl ?_
                          refine v_isub hX dX9_wantCond_268 269 rfl ?_
                          refine pf_52_26 hX q_340 dX9_wantCond_269 272 rfl [(36, c3), (40, c46), (39, s51), (42, (c6 - (1 : Int32))), (41, (c47 - (1 : Int32))), (35, c8), (37, c9), (38, c10)] rfl ?_
                          refine v_aload_n hX dX9_wantCond_272 rfl 0 rfl 273 rfl ?_
                          obtain ⟨c53, c54, c55, c56, c57, hc53, hf⟩ := bn5_e hf
                          refine cv_v hX (c9_advance (lkp r [(36, c3), (40, c46), (39, s51), (42, (c6 - (1 : Int32))), (41, (c47 - (1 : Int32))), (35, c8), (37, c9), (38, c10)]) (lkp g [(64, c48), (65, c12)]) (lkp u [(0, c13)]) h hc53) wvX9_advance q_312 rc_52 (Nat.le_of_ble_eq_true rfl) (Nat.le_of_ble_eq_true rfl) (fun _ => rfl) [] rfl (Nat.le_of_ble_eq_true rfl) dX9_wantCond_273 276 rfl ?_
                          refine v_mgr [(36, c53), (40, c46), (39, s51), (42, (c6 - (1 : Int32))), (41, (c47 - (1 : Int32))), (35, c54), (37, c55), (38, c56)] rfl ?_
                          refine v_mgu [(0, c57)] rfl ?_
                          refine v_aload_n hX dX9_wantCond_276 rfl 0 rfl 277 rfl ?_
                          refine v_ldc (v := (40002 : Int32)) hX q_341 dX9_wantCond_277 279 rfl ?_
                          obtain ⟨c58, c59, c60, hc58, hf⟩ := bn3_e hf
                          refine cv_v hX (c9_settle (lkp r [(36, c53), (40, c46), (39, s51), (42, (c6 - (1 : Int32))), (41, (c47 - (1 : Int32))), (35, c54), (37, c55), (38, c56)]) (lkp g [(64, c48), (65, c12)]) (lkp u [(0, c57)]) h _ hc58) wvX9_settle q_375 rc_52 (Nat.le_of_ble_eq_true rfl) (Nat.le_of_ble_eq_true rfl) (fun _ => rfl) [] rfl (Nat.le_of_ble_eq_true rfl) dX9_wantCond_279 282 rfl ?_
                          refine v_mgr [(36, c53), (40, c58), (39, s51), (42, (c6 - (1 : Int32))), (41, c59), (35, c54), (37, c55), (38, c56)] rfl ?_
                          refine v_mgg [(64, c60), (65, c12)] rfl ?_
                          refine v_goto hX dX9_wantCond_282 16 rfl ?_
                          exact ih _ _ _ _ _ _ _ _ _ _ _ _ _ hf
                    obtain ⟨J63, hJ63, hf⟩ := jn_x hf
                    have HJ63 : J63 = some res → VC X (lkp r [(36, c3), (40, c46), (39, c5), (42, c6), (41, c47), (35, c8), (37, c9), (38, c10)]) (lkp g [(64, c48), (65, c12)]) (lkp u [(0, c13)]) h [(0, .ref (aX X 52)), (1, .long p1), (3, .long p3), (5, .long p5), (7, .int x1), (8, .int v49)] [.ref (aX X 52)] 232 := by
                      intro hf
                      rw [hJ63] at hf
                      refine v_iconst (v := (1 : Int32)) hX dX9_wantCond_232 (by decide) 233 rfl ?_
                      refine v_goto hX dX9_wantCond_233 237 rfl ?_
                      exact HJ50 _ hf
                    refine v_if_eq hX dX9_wantCond_220 232 rfl 223 rfl (fun h66 => ?_) (fun h66 => ?_)
                    · replace hf := it_p h66 hf
                      refine v_sub [(0, .ref (aX X 52)), (1, .long p1), (3, .long p3), (5, .long p5), (7, .int x1), (8, .int v49)] (sbc 1 rfl (sbc 2 rfl (sbc 3 rfl (sbc 4 rfl (sbc 5 rfl (sbc 0 rfl sbn)))))) ?_
                      exact HJ63  hf
                    · replace hf := it_n h66 hf
                      refine v_aload_n hX dX9_wantCond_223 rfl 1 rfl 224 rfl ?_
                      refine v_bipush (v := (41 : Int32)) hX dX9_wantCond_224 (by decide) 226 rfl ?_
                      obtain ⟨v64, hv64, hf⟩ := bn1_e hf
                      refine cv_i hX (c9_isMark (lkp r [(36, c3), (40, c46), (39, c5), (42, c6), (41, c47), (35, c8), (37, c9), (38, c10)]) (lkp g [(64, c48), (65, c12)]) (lkp u [(0, c13)]) h _ hv64) wvX9_isMark q_349 rc_52 (Nat.le_of_ble_eq_true rfl) (Nat.le_of_ble_eq_true rfl) (fun _ => rfl) [.ref (aX X 52)] rfl (Nat.le_of_ble_eq_true rfl) dX9_wantCond_226 229 rfl ?_
                      refine v_if_eq hX dX9_wantCond_229 236 rfl 232 rfl (fun h65 => ?_) (fun h65 => ?_)
                      · replace hf := it_p h65 hf
                        refine v_iconst (v := (0 : Int32)) hX dX9_wantCond_236 (by decide) 237 rfl ?_
                        refine v_sub [(0, .ref (aX X 52)), (1, .long p1), (3, .long p3), (5, .long p5), (7, .int x1), (8, .int v49)] (sbc 1 rfl (sbc 2 rfl (sbc 3 rfl (sbc 4 rfl (sbc 5 rfl (sbc 0 rfl sbn)))))) ?_
                        exact HJ50 _ hf
                      · replace hf := it_n h65 hf
                        refine v_sub [(0, .ref (aX X 52)), (1, .long p1), (3, .long p3), (5, .long p5), (7, .int x1), (8, .int v49)] (sbc 1 rfl (sbc 2 rfl (sbc 3 rfl (sbc 4 rfl (sbc 5 rfl (sbc 0 rfl sbn)))))) ?_
                        exact HJ63  hf
                  · replace hf := it_n h67 hf
                    refine v_sub [(0, .ref (aX X 52)), (1, .long p1), (3, .long p3), (5, .long p5), (8, .int x2)] (sbc 0 rfl (sbc 1 rfl (sbc 2 rfl (sbc 3 rfl (sbc 5 rfl sbn))))) ?_
                    exact HJ19  hf
              · replace hf := it_n h78 hf
                refine v_aload_n hX dX9_wantCond_120 rfl 0 rfl 121 rfl ?_
                obtain ⟨c69, c70, c71, c72, c73, c74, c75, c76, c77, hc69, hf⟩ := bn9_e hf
                refine cv_v hX (c9_wantCompared (lkp r [(36, c3), (40, c4), (39, c5), (42, c6), (41, c7), (35, c8), (37, c9), (38, c10)]) (lkp g [(64, c11), (65, c12)]) (lkp u [(0, c13)]) h hc69) wvX9_wantCompared q_353 rc_52 (Nat.le_of_ble_eq_true rfl) (Nat.le_of_ble_eq_true rfl) (fun _ => rfl) [] rfl (Nat.le_of_ble_eq_true rfl) dX9_wantCond_121 124 rfl ?_
                refine v_mgr [(36, c69), (40, c70), (39, c71), (42, c6), (41, c72), (35, c73), (37, c74), (38, c75)] rfl ?_
                refine v_mgg [(64, c76), (65, c12)] rfl ?_
                refine v_mgu [(0, c77)] rfl ?_
                refine v_iconst (v := (0 : Int32)) hX dX9_wantCond_124 (by decide) 125 rfl ?_
                refine v_istore hX dX9_wantCond_125 (ltn hn (by decide)) 127 rfl [(7, .int (0 : Int32)), (0, .ref (aX X 52)), (1, .long p1), (3, .long p3), (5, .long p5), (8, .int x2)] rfl ?_
                refine v_goto hX dX9_wantCond_127 16 rfl ?_
                refine v_sub [(0, .ref (aX X 52)), (1, .long p1), (3, .long p3), (5, .long p5), (7, .int (0 : Int32)), (8, .int x2)] (sbc 1 rfl (sbc 2 rfl (sbc 3 rfl (sbc 4 rfl (sbc 0 rfl (sbc 5 rfl sbn)))))) ?_
                exact ih _ _ _ _ _ _ _ _ _ _ _ _ _ hf
            refine v_if_eq hX dX9_wantCond_56 115 rfl 59 rfl (fun h93 => ?_) (fun h93 => ?_)
            · replace hf := it_p h93 hf
              exact HJ17  hf
            · replace hf := it_n h93 hf
              refine v_aload_n hX dX9_wantCond_59 rfl 0 rfl 60 rfl ?_
              refine v_bipush (v := (40 : Int32)) hX dX9_wantCond_60 (by decide) 62 rfl ?_
              obtain ⟨v79, hv79, hf⟩ := bn1_e hf
              refine cv_i hX (c9_isMark (lkp r [(36, c3), (40, c4), (39, c5), (42, c6), (41, c7), (35, c8), (37, c9), (38, c10)]) (lkp g [(64, c11), (65, c12)]) (lkp u [(0, c13)]) h _ hv79) wvX9_isMark q_349 rc_52 (Nat.le_of_ble_eq_true rfl) (Nat.le_of_ble_eq_true rfl) (fun _ => rfl) [] rfl (Nat.le_of_ble_eq_true rfl) dX9_wantCond_62 65 rfl ?_
              refine v_if_eq hX dX9_wantCond_65 115 rfl 68 rfl (fun h92 => ?_) (fun h92 => ?_)
              · replace hf := it_p h92 hf
                exact HJ17  hf
              · replace hf := it_n h92 hf
                refine v_aload_n hX dX9_wantCond_68 rfl 0 rfl 69 rfl ?_
                refine v_aload_n hX dX9_wantCond_69 rfl 0 rfl 70 rfl ?_
                refine gf_52_26 hX q_340 dX9_wantCond_70 (c6) rfl 73 rfl ?_
                refine v_iconst (v := (3 : Int32)) hX dX9_wantCond_73 (by decide) 74 rfl ?_
                obtain ⟨J80, hJ80, hf⟩ := jn_x hf
                have HJ80 : ∀ (s81 : Int32), J80 s81 = some res → VC X (lkp r [(36, c3), (40, c4), (39, c5), (42, c6), (41, c7), (35, c8), (37, c9), (38, c10)]) (lkp g [(64, c11), (65, c12)]) (lkp u [(0, c13)]) h [(0, .ref (aX X 52)), (1, .long p1), (3, .long p3), (5, .long p5), (7, .int x1), (8, .int x2)] [.int s81, .ref (aX X 52)] 82 := by
                  intro s81 hf
                  rw [hJ80] at hf
                  obtain ⟨hb82, hf⟩ := gd_e hf
                  refine pf_52_20 hX q_301 dX9_wantCond_82 hb82 85 rfl [(36, c3), (40, c4), (39, s81), (42, c6), (41, c7), (35, c8), (37, c9), (38, c10)] rfl ?_
                  refine v_aload_n hX dX9_wantCond_85 rfl 0 rfl 86 rfl ?_
                  refine gf_52_20 hX q_301 dX9_wantCond_86 (s81) rfl 89 rfl ?_
                  refine v_if_eq hX dX9_wantCond_89 16 rfl 92 rfl (fun h90 => ?_) (fun h90 => ?_)
                  · replace hf := it_p h90 hf
                    exact ih _ _ _ _ _ _ _ _ _ _ _ _ _ hf
                  · replace hf := it_n h90 hf
                    refine v_aload_n hX dX9_wantCond_92 rfl 0 rfl 93 rfl ?_
                    refine v_dup hX dX9_wantCond_93 rfl 94 rfl ?_
                    refine gf_52_26 hX q_340 dX9_wantCond_94 (c6) rfl 97 rfl ?_
                    refine v_iconst (v := (1 : Int32)) hX dX9_wantCond_97 (by decide) 98 rfl ?_
                    refine v_iadd hX dX9_wantCond_98 99 rfl ?_
                    refine pf_52_26 hX q_340 dX9_wantCond_99 102 rfl [(36, c3), (40, c4), (39, s81), (42, (c6 + (1 : Int32))), (41, c7), (35, c8), (37, c9), (38, c10)] rfl ?_
                    refine v_aload_n hX dX9_wantCond_102 rfl 0 rfl 103 rfl ?_
                    refine v_ldc (v := (40003 : Int32)) hX q_342 dX9_wantCond_103 105 rfl ?_
                    obtain ⟨c83, c84, hc83, hf⟩ := bn2_e hf
                    refine cv_v hX (c9_pend (lkp r [(36, c3), (40, c4), (39, s81), (42, (c6 + (1 : Int32))), (41, c7), (35, c8), (37, c9), (38, c10)]) (lkp g [(64, c11), (65, c12)]) (lkp u [(0, c13)]) h _ hc83) wvX9_pend q_345 rc_52 (Nat.le_of_ble_eq_true rfl) (Nat.le_of_ble_eq_true rfl) (fun _ => rfl) [] rfl (Nat.le_of_ble_eq_true rfl) dX9_wantCond_105 108 rfl ?_
                    refine v_mgr [(36, c3), (40, c4), (39, s81), (42, (c6 + (1 : Int32))), (41, c83), (35, c8), (37, c9), (38, c10)] rfl ?_
                    refine v_mgg [(64, c11), (65, c84)] rfl ?_
                    refine v_aload_n hX dX9_wantCond_108 rfl 0 rfl 109 rfl ?_
                    obtain ⟨c85, c86, c87, c88, c89, hc85, hf⟩ := bn5_e hf
                    refine cv_v hX (c9_advance (lkp r [(36, c3), (40, c4), (39, s81), (42, (c6 + (1 : Int32))), (41, c83), (35, c8), (37, c9), (38, c10)]) (lkp g [(64, c11), (65, c84)]) (lkp u [(0, c13)]) h hc85) wvX9_advance q_312 rc_52 (Nat.le_of_ble_eq_true rfl) (Nat.le_of_ble_eq_true rfl) (fun _ => rfl) [] rfl (Nat.le_of_ble_eq_true rfl) dX9_wantCond_109 112 rfl ?_
                    refine v_mgr [(36, c85), (40, c4), (39, s81), (42, (c6 + (1 : Int32))), (41, c83), (35, c86), (37, c87), (38, c88)] rfl ?_
                    refine v_mgu [(0, c89)] rfl ?_
                    refine v_goto hX dX9_wantCond_112 16 rfl ?_
                    exact ih _ _ _ _ _ _ _ _ _ _ _ _ _ hf
                refine v_icmp_ge hX dX9_wantCond_74 81 rfl 77 rfl (fun h91 => ?_) (fun h91 => ?_)
                · replace hf := it_p h91 hf
                  refine v_iconst (v := (0 : Int32)) hX dX9_wantCond_81 (by decide) 82 rfl ?_
                  exact HJ80 _ hf
                · replace hf := it_n h91 hf
                  refine v_iconst (v := (1 : Int32)) hX dX9_wantCond_77 (by decide) 78 rfl ?_
                  refine v_goto hX dX9_wantCond_78 82 rfl ?_
                  exact HJ80 _ hf
          refine v_if_eq hX dX9_wantCond_30 54 rfl 33 rfl (fun h103 => ?_) (fun h103 => ?_)
          · replace hf := it_p h103 hf
            exact HJ16  hf
          · replace hf := it_n h103 hf
            refine v_aload_n hX dX9_wantCond_33 rfl 0 rfl 34 rfl ?_
            refine v_lload_n hX dX9_wantCond_34 rfl 1 rfl 35 rfl ?_
            obtain ⟨v94, hv94, hf⟩ := bn1_e hf
            refine cv_i hX (c9_isWord (lkp r [(36, c3), (40, c4), (39, c5), (42, c6), (41, c7), (35, c8), (37, c9), (38, c10)]) (lkp g [(64, c11), (65, c12)]) (lkp u [(0, c13)]) h _ hv94) wvX9_isWord q_331 rc_52 (Nat.le_of_ble_eq_true rfl) (Nat.le_of_ble_eq_true rfl) (fun _ => rfl) [] rfl (Nat.le_of_ble_eq_true rfl) dX9_wantCond_35 38 rfl ?_
            refine v_if_eq hX dX9_wantCond_38 54 rfl 41 rfl (fun h102 => ?_) (fun h102 => ?_)
            · replace hf := it_p h102 hf
              exact HJ16  hf
            · replace hf := it_n h102 hf
              refine v_aload_n hX dX9_wantCond_41 rfl 0 rfl 42 rfl ?_
              refine v_ldc (v := (40002 : Int32)) hX q_341 dX9_wantCond_42 44 rfl ?_
              obtain ⟨c95, c96, hc95, hf⟩ := bn2_e hf
              refine cv_v hX (c9_pend (lkp r [(36, c3), (40, c4), (39, c5), (42, c6), (41, c7), (35, c8), (37, c9), (38, c10)]) (lkp g [(64, c11), (65, c12)]) (lkp u [(0, c13)]) h _ hc95) wvX9_pend q_345 rc_52 (Nat.le_of_ble_eq_true rfl) (Nat.le_of_ble_eq_true rfl) (fun _ => rfl) [] rfl (Nat.le_of_ble_eq_true rfl) dX9_wantCond_44 47 rfl ?_
              refine v_mgr [(36, c3), (40, c4), (39, c5), (42, c6), (41, c95), (35, c8), (37, c9), (38, c10)] rfl ?_
              refine v_mgg [(64, c11), (65, c96)] rfl ?_
              refine v_aload_n hX dX9_wantCond_47 rfl 0 rfl 48 rfl ?_
              obtain ⟨c97, c98, c99, c100, c101, hc97, hf⟩ := bn5_e hf
              refine cv_v hX (c9_advance (lkp r [(36, c3), (40, c4), (39, c5), (42, c6), (41, c95), (35, c8), (37, c9), (38, c10)]) (lkp g [(64, c11), (65, c96)]) (lkp u [(0, c13)]) h hc97) wvX9_advance q_312 rc_52 (Nat.le_of_ble_eq_true rfl) (Nat.le_of_ble_eq_true rfl) (fun _ => rfl) [] rfl (Nat.le_of_ble_eq_true rfl) dX9_wantCond_48 51 rfl ?_
              refine v_mgr [(36, c97), (40, c4), (39, c5), (42, c6), (41, c95), (35, c98), (37, c99), (38, c100)] rfl ?_
              refine v_mgu [(0, c101)] rfl ?_
              refine v_goto hX dX9_wantCond_51 16 rfl ?_
              exact ih _ _ _ _ _ _ _ _ _ _ _ _ _ hf
  refine v_sub [(0, .ref (aX X 52)), (1, .long p1), (3, .long p3), (5, .long p5), (7, .int (1 : Int32)), (8, .int (1 : Int32))] (sbc 2 rfl (sbc 3 rfl (sbc 4 rfl (sbc 5 rfl (sbc 1 rfl (sbc 0 rfl sbn)))))) ?_
  exact HLK14 _ _ _ _ _ _ _ _ _ _ _ _ _ _ hf
set_option maxRecDepth 100000 in
set_option maxHeartbeats 4000000 in
theorem c9_rules (r : Nat → Int32) (g : Nat → Nat → Int32) (u : Nat → Int64) (h : Nat → Nat → Int64)  {res : Int32 × Int32 × Int32 × Int32 × Int32 × Int32 × Int32 × Int32 × Int32 × Int32 × Int32 × (Nat → Int32) × (Nat → Int32) × (Nat → Int32) × (Nat → Int32) × (Nat → Int32) × Int64} (hf : f9_rules (r 36) (r 32) (r 40) (r 39) (r 42) (r 41) (r 35) (r 34) (r 37) (r 38) (g 60) (g 64) (g 67) (g 65) (g 61) (g 62) (u 0) = some res) : MAi yX9_rules cX9_rules 3 (some .int) 6 (fun a => [.ref (a 52)]) r g u h res.1 (lkp r [(36, res.2.1), (32, res.2.2.1), (40, res.2.2.2.1), (39, res.2.2.2.2.1), (42, res.2.2.2.2.2.1), (41, res.2.2.2.2.2.2.1), (35, res.2.2.2.2.2.2.2.1), (34, res.2.2.2.2.2.2.2.2.1), (37, res.2.2.2.2.2.2.2.2.2.1), (38, res.2.2.2.2.2.2.2.2.2.2.1)]) (lkp g [(60, res.2.2.2.2.2.2.2.2.2.2.2.1), (64, res.2.2.2.2.2.2.2.2.2.2.2.2.1), (67, res.2.2.2.2.2.2.2.2.2.2.2.2.2.1), (65, res.2.2.2.2.2.2.2.2.2.2.2.2.2.2.1), (61, res.2.2.2.2.2.2.2.2.2.2.2.2.2.2.2.1)]) (lkp u [(0, res.2.2.2.2.2.2.2.2.2.2.2.2.2.2.2.2)]) h := by
  refine mi_i (by decide +kernel) (fun a => Nat.le_of_ble_eq_true rfl) (fun X hX hn hR => ?_)
  replace hR : ∀ q : Int32 × Int32 × Int32 × Int32 × Int32 × Int32 × Int32 × Int32 × Int32 × Int32 × Int32 × (Nat → Int32) × (Nat → Int32) × (Nat → Int32) × (Nat → Int32) × (Nat → Int32) × Int64, some q = some res → ∀ lv pc, decode cX9_rules pc = .ok (.ireturn, 1) → narrow .int (.int q.1) = .int q.1 → VC X (lkp r [(36, q.2.1), (32, q.2.2.1), (40, q.2.2.2.1), (39, q.2.2.2.2.1), (42, q.2.2.2.2.2.1), (41, q.2.2.2.2.2.2.1), (35, q.2.2.2.2.2.2.2.1), (34, q.2.2.2.2.2.2.2.2.1), (37, q.2.2.2.2.2.2.2.2.2.1), (38, q.2.2.2.2.2.2.2.2.2.2.1)]) (lkp g [(60, q.2.2.2.2.2.2.2.2.2.2.2.1), (64, q.2.2.2.2.2.2.2.2.2.2.2.2.1), (67, q.2.2.2.2.2.2.2.2.2.2.2.2.2.1), (65, q.2.2.2.2.2.2.2.2.2.2.2.2.2.2.1), (61, q.2.2.2.2.2.2.2.2.2.2.2.2.2.2.2.1)]) (lkp u [(0, q.2.2.2.2.2.2.2.2.2.2.2.2.2.2.2.2)]) h lv [.int q.1] pc := fun q hq => by cases hq; exact hR
  replace hX : CX X RX9 cX9_rules 6 := hX
  refine v_opr [36, 32, 40, 39, 42, 41, 35, 34, 37, 38] [(36, r 36), (32, r 32), (40, r 40), (39, r 39), (42, r 42), (41, r 41), (35, r 35), (34, r 34), (37, r 37), (38, r 38)] rfl ?_
  refine v_opg [60, 64, 67, 65, 61] [(60, g 60), (64, g 64), (67, g 67), (65, g 65), (61, g 61)] rfl ?_
  refine v_opu [0] [(0, u 0)] rfl ?_
  show VC X (lkp r [(36, r 36), (32, r 32), (40, r 40), (39, r 39), (42, r 42), (41, r 41), (35, r 35), (34, r 34), (37, r 37), (38, r 38)]) (lkp g [(60, g 60), (64, g 64), (67, g 67), (65, g 65), (61, g 61)]) (lkp u [(0, u 0)]) h [(0, .ref (aX X 52))] [] 0
  rw [f9_rules] at hf
  refine v_aload_n hX dX9_rules_0 rfl 0 rfl 1 rfl ?_
  refine v_iconst (v := (0 : Int32)) hX dX9_rules_1 (by decide) 2 rfl ?_
  refine pf_52_17 hX q_300 dX9_rules_2 5 rfl [(36, (r 36)), (32, (r 32)), (40, (r 40)), (39, (r 39)), (42, (r 42)), (41, (r 41)), (35, (r 35)), (34, (r 34)), (37, (0 : Int32)), (38, (r 38))] rfl ?_
  refine v_aload_n hX dX9_rules_5 rfl 0 rfl 6 rfl ?_
  refine v_iconst (v := (1 : Int32)) hX dX9_rules_6 (by decide) 7 rfl ?_
  refine pf_52_20 hX q_301 dX9_rules_7 (by decide) 10 rfl [(36, (r 36)), (32, (r 32)), (40, (r 40)), (39, (1 : Int32)), (42, (r 42)), (41, (r 41)), (35, (r 35)), (34, (r 34)), (37, (0 : Int32)), (38, (r 38))] rfl ?_
  refine v_aload_n hX dX9_rules_10 rfl 0 rfl 11 rfl ?_
  refine v_iconst (v := (0 : Int32)) hX dX9_rules_11 (by decide) 12 rfl ?_
  refine pf_52_24 hX q_302 dX9_rules_12 15 rfl [(36, (r 36)), (32, (r 32)), (40, (0 : Int32)), (39, (1 : Int32)), (42, (r 42)), (41, (r 41)), (35, (r 35)), (34, (r 34)), (37, (0 : Int32)), (38, (r 38))] rfl ?_
  refine v_iconst (v := (0 : Int32)) hX dX9_rules_15 (by decide) 16 rfl ?_
  refine v_istore_n hX dX9_rules_16 rfl (ltn hn (by decide)) 17 rfl [(1, .int (0 : Int32)), (0, .ref (aX X 52))] rfl ?_
  refine v_aload_n hX dX9_rules_17 rfl 1 rfl 18 rfl ?_
  obtain ⟨c1, c2, c3, c4, c5, hc1, hf⟩ := bn5_e hf
  refine cv_v hX (c9_advance (lkp r [(36, (r 36)), (32, (r 32)), (40, (0 : Int32)), (39, (1 : Int32)), (42, (r 42)), (41, (r 41)), (35, (r 35)), (34, (r 34)), (37, (0 : Int32)), (38, (r 38))]) (lkp g [(60, (g 60)), (64, (g 64)), (67, (g 67)), (65, (g 65)), (61, (g 61))]) (lkp u [(0, (u 0))]) h hc1) wvX9_advance q_312 rc_52 (Nat.le_of_ble_eq_true rfl) (Nat.le_of_ble_eq_true rfl) (fun _ => rfl) [] rfl (Nat.le_of_ble_eq_true rfl) dX9_rules_18 21 rfl ?_
  refine v_mgr [(36, c1), (32, (r 32)), (40, (0 : Int32)), (39, (1 : Int32)), (42, (r 42)), (41, (r 41)), (35, c2), (34, (r 34)), (37, c3), (38, c4)] rfl ?_
  refine v_mgu [(0, c5)] rfl ?_
  obtain ⟨K19, hK19, hf⟩ := jn_x hf
  have HK19 : ∀ (x6 : Int32) (c7 : Int32) (c8 : Int32) (c9 : Int32) (c10 : Int32) (c11 : Int32) (c12 : Int32) (c13 : Int32) (c14 : Int32) (c15 : (Nat → Int32)) (c16 : (Nat → Int32)) (c17 : (Nat → Int32)) (c18 : Int64), K19 x6 c7 c8 c9 c10 c11 c12 c13 c14 c15 c16 c17 c18 = some res → VC X (lkp r [(36, c7), (32, (r 32)), (40, c8), (39, c9), (42, c10), (41, c11), (35, c12), (34, (r 34)), (37, c13), (38, c14)]) (lkp g [(60, (g 60)), (64, c15), (67, c16), (65, c17), (61, (g 61))]) (lkp u [(0, c18)]) h [(0, .ref (aX X 52)), (1, .int x6)] [] 197 := by
    intro x6 c7 c8 c9 c10 c11 c12 c13 c14 c15 c16 c17 c18 hf
    rw [hK19] at hf
    refine v_aload_n hX dX9_rules_197 rfl 0 rfl 198 rfl ?_
    refine v_iconst (v := (0 : Int32)) hX dX9_rules_198 (by decide) 199 rfl ?_
    refine pf_52_14 hX q_148 dX9_rules_199 202 rfl [(36, c7), (32, (r 32)), (40, c8), (39, c9), (42, c10), (41, c11), (35, c12), (34, (0 : Int32)), (37, c13), (38, c14)] rfl ?_
    refine v_aload_n hX dX9_rules_202 rfl 0 rfl 203 rfl ?_
    refine gf_52_20 hX q_301 dX9_rules_203 (c9) rfl 206 rfl ?_
    refine v_if_ne hX dX9_rules_206 217 rfl 209 rfl (fun h122 => ?_) (fun h122 => ?_)
    · replace hf := it_n h122 hf
      refine v_aload_n hX dX9_rules_217 rfl 0 rfl 218 rfl ?_
      refine v_iload_n hX dX9_rules_218 rfl 1 rfl 219 rfl ?_
      refine pf_52_9 hX q_311 dX9_rules_219 222 rfl [(36, c7), (32, x6), (40, c8), (39, c9), (42, c10), (41, c11), (35, c12), (34, (0 : Int32)), (37, c13), (38, c14)] rfl ?_
      refine v_iconst (v := (0 : Int32)) hX dX9_rules_222 (by decide) 223 rfl ?_
      refine v_istore_n hX dX9_rules_223 rfl (ltn hn (by decide)) 224 rfl [(2, .int (0 : Int32)), (0, .ref (aX X 52)), (1, .int x6)] rfl ?_
      obtain ⟨K110, hK110, hf⟩ := jn_x hf
      have HK110 : ∀ (x108 : Int32) (c109 : (Nat → Int32)), K110 x108 c109 = some res → VC X (lkp r [(36, c7), (32, x6), (40, c8), (39, c9), (42, c10), (41, c11), (35, c12), (34, (0 : Int32)), (37, c13), (38, c14)]) (lkp g [(60, c109), (64, c15), (67, c16), (65, c17), (61, (g 61))]) (lkp u [(0, c18)]) h [(0, .ref (aX X 52))] [] 248 := by
        intro x108 c109 hf
        rw [hK110] at hf
        refine v_iconst (v := (0 : Int32)) hX dX9_rules_248 (by decide) 249 rfl ?_
        refine v_istore_n hX dX9_rules_249 rfl (ltn hn (by decide)) 250 rfl [(2, .int (0 : Int32)), (0, .ref (aX X 52))] rfl ?_
        obtain ⟨K117, hK117, hf⟩ := jn_x hf
        have HK117 : ∀ (x115 : Int32) (c116 : (Nat → Int32)), K117 x115 c116 = some res → VC X (lkp r [(36, c7), (32, x6), (40, c8), (39, c9), (42, c10), (41, c11), (35, c12), (34, (0 : Int32)), (37, c13), (38, c14)]) (lkp g [(60, c109), (64, c15), (67, c16), (65, c17), (61, c116)]) (lkp u [(0, c18)]) h [(0, .ref (aX X 52))] [] 276 := by
          intro x115 c116 hf
          rw [hK117] at hf
          refine v_aload_n hX dX9_rules_276 rfl 0 rfl 277 rfl ?_
          refine gf_52_9 hX q_311 dX9_rules_277 (x6) rfl 280 rfl ?_
          exact hR _ hf _ _ dX9_rules_280 rfl
        have HLK117 : ∀ (n118 : Nat) (x115 : Int32) (c116 : (Nat → Int32)), f9_rules_L250 c8 c15 n118 x115 c116 K117 = some res → VC X (lkp r [(36, c7), (32, x6), (40, c8), (39, c9), (42, c10), (41, c11), (35, c12), (34, (0 : Int32)), (37, c13), (38, c14)]) (lkp g [(60, c109), (64, c15), (67, c16), (65, c17), (61, c116)]) (lkp u [(0, c18)]) h [(0, .ref (aX X 52)), (2, .int x115)] [] 250 := by
          intro n118
          induction n118 with
          | zero => intro x115 c116 hf; exact no_s hf
          | succ n118 ih =>
            intro x115 c116 hf
            rw [f9_rules_L250] at hf
            refine v_iload_n hX dX9_rules_250 rfl 1 rfl 251 rfl ?_
            refine v_aload_n hX dX9_rules_251 rfl 0 rfl 252 rfl ?_
            refine gf_52_24 hX q_302 dX9_rules_252 (c8) rfl 255 rfl ?_
            refine v_icmp_ge hX dX9_rules_255 276 rfl 258 rfl (fun h121 => ?_) (fun h121 => ?_)
            · replace hf := it_p h121 hf
              refine v_sub [(0, .ref (aX X 52))] (sbc 0 rfl sbn) ?_
              exact HK117 _ _ hf
            · replace hf := it_n h121 hf
              refine v_aload_n hX dX9_rules_258 rfl 0 rfl 259 rfl ?_
              refine gf_52_11 hX q_111 dX9_rules_259 262 rfl ?_
              refine v_iload_n hX dX9_rules_262 rfl 1 rfl 263 rfl ?_
              refine v_aload_n hX dX9_rules_263 rfl 0 rfl 264 rfl ?_
              refine gf_52_22 hX q_115 dX9_rules_264 267 rfl ?_
              refine v_iload_n hX dX9_rules_267 rfl 1 rfl 268 rfl ?_
              obtain ⟨hi119, hf⟩ := gd_e hf
              refine al_64 hX hi119 dX9_rules_268 (c15 x115.toNatClampNeg) rfl 269 rfl ?_
              obtain ⟨hi120, hf⟩ := gd_e hf
              refine as_61 hX hi120 dX9_rules_269 270 rfl c116 rfl [(60, c109), (64, c15), (67, c16), (65, c17), (61, (upd c116 x115.toNatClampNeg (c15 x115.toNatClampNeg)))] rfl ?_
              refine v_inc (c := (1 : Int32)) hX dX9_rules_270 1 rfl (by decide) (ltn hn (by decide)) 273 rfl [(2, .int (x115 + (1 : Int32))), (0, .ref (aX X 52))] rfl ?_
              refine v_goto hX dX9_rules_273 250 rfl ?_
              refine v_sub [(0, .ref (aX X 52)), (2, .int (x115 + (1 : Int32)))] (sbc 1 rfl (sbc 0 rfl sbn)) ?_
              exact ih _ _ hf
        refine v_sub [(0, .ref (aX X 52)), (2, .int (0 : Int32))] (sbc 1 rfl (sbc 0 rfl sbn)) ?_
        exact HLK117 _ _ _ hf
      have HLK110 : ∀ (n111 : Nat) (x108 : Int32) (c109 : (Nat → Int32)), f9_rules_L224 c16 n111 x108 c109 K110 = some res → VC X (lkp r [(36, c7), (32, x6), (40, c8), (39, c9), (42, c10), (41, c11), (35, c12), (34, (0 : Int32)), (37, c13), (38, c14)]) (lkp g [(60, c109), (64, c15), (67, c16), (65, c17), (61, (g 61))]) (lkp u [(0, c18)]) h [(0, .ref (aX X 52)), (2, .int x108)] [] 224 := by
        intro n111
        induction n111 with
        | zero => intro x108 c109 hf; exact no_s hf
        | succ n111 ih =>
          intro x108 c109 hf
          rw [f9_rules_L224] at hf
          refine v_iload_n hX dX9_rules_224 rfl 1 rfl 225 rfl ?_
          refine v_bipush (v := (24 : Int32)) hX dX9_rules_225 (by decide) 227 rfl ?_
          refine v_icmp_ge hX dX9_rules_227 248 rfl 230 rfl (fun h114 => ?_) (fun h114 => ?_)
          · replace hf := it_p h114 hf
            refine v_sub [(0, .ref (aX X 52))] (sbc 0 rfl sbn) ?_
            exact HK110 _ _ hf
          · replace hf := it_n h114 hf
            refine v_aload_n hX dX9_rules_230 rfl 0 rfl 231 rfl ?_
            refine gf_52_10 hX q_110 dX9_rules_231 234 rfl ?_
            refine v_iload_n hX dX9_rules_234 rfl 1 rfl 235 rfl ?_
            refine v_aload_n hX dX9_rules_235 rfl 0 rfl 236 rfl ?_
            refine gf_52_28 hX q_118 dX9_rules_236 239 rfl ?_
            refine v_iload_n hX dX9_rules_239 rfl 1 rfl 240 rfl ?_
            obtain ⟨hi112, hf⟩ := gd_e hf
            refine al_67 hX hi112 dX9_rules_240 (c16 x108.toNatClampNeg) rfl 241 rfl ?_
            obtain ⟨hi113, hf⟩ := gd_e hf
            refine as_60 hX hi113 dX9_rules_241 242 rfl c109 rfl [(60, (upd c109 x108.toNatClampNeg (c16 x108.toNatClampNeg))), (64, c15), (67, c16), (65, c17), (61, (g 61))] rfl ?_
            refine v_inc (c := (1 : Int32)) hX dX9_rules_242 1 rfl (by decide) (ltn hn (by decide)) 245 rfl [(2, .int (x108 + (1 : Int32))), (0, .ref (aX X 52))] rfl ?_
            refine v_goto hX dX9_rules_245 224 rfl ?_
            refine v_sub [(0, .ref (aX X 52)), (2, .int (x108 + (1 : Int32)))] (sbc 1 rfl (sbc 0 rfl sbn)) ?_
            exact ih _ _ hf
      refine v_sub [(0, .ref (aX X 52)), (2, .int (0 : Int32))] (sbc 1 rfl (sbc 0 rfl sbn)) ?_
      exact HLK110 _ _ _ hf
    · replace hf := it_p h122 hf
      refine v_bipush (v := (-100 : Int32)) hX dX9_rules_209 (by decide) 211 rfl ?_
      refine v_aload_n hX dX9_rules_211 rfl 0 rfl 212 rfl ?_
      refine gf_52_16 hX q_310 dX9_rules_212 (c7) rfl 215 rfl ?_
      refine v_isub hX dX9_rules_215 216 rfl ?_
      exact hR _ hf _ _ dX9_rules_216 rfl
  have HLK19 : ∀ (n20 : Nat) (x6 : Int32) (c7 : Int32) (c8 : Int32) (c9 : Int32) (c10 : Int32) (c11 : Int32) (c12 : Int32) (c13 : Int32) (c14 : Int32) (c15 : (Nat → Int32)) (c16 : (Nat → Int32)) (c17 : (Nat → Int32)) (c18 : Int64), f9_rules_L21 (r 34) (g 62) n20 x6 c7 c8 c9 c10 c11 c12 c13 c14 c15 c16 c17 c18 K19 = some res → VC X (lkp r [(36, c7), (32, (r 32)), (40, c8), (39, c9), (42, c10), (41, c11), (35, c12), (34, (r 34)), (37, c13), (38, c14)]) (lkp g [(60, (g 60)), (64, c15), (67, c16), (65, c17), (61, (g 61))]) (lkp u [(0, c18)]) h [(0, .ref (aX X 52)), (1, .int x6)] [] 21 := by
    intro n20
    induction n20 with
    | zero => intro x6 c7 c8 c9 c10 c11 c12 c13 c14 c15 c16 c17 c18 hf; exact no_s hf
    | succ n20 ih =>
      intro x6 c7 c8 c9 c10 c11 c12 c13 c14 c15 c16 c17 c18 hf
      rw [f9_rules_L21] at hf
      refine v_aload_n hX dX9_rules_21 rfl 0 rfl 22 rfl ?_
      refine gf_52_20 hX q_301 dX9_rules_22 (c9) rfl 25 rfl ?_
      refine v_if_eq hX dX9_rules_25 197 rfl 28 rfl (fun h107 => ?_) (fun h107 => ?_)
      · replace hf := it_p h107 hf
        exact HK19 _ _ _ _ _ _ _ _ _ _ _ _ _ hf
      · replace hf := it_n h107 hf
        refine v_aload_n hX dX9_rules_28 rfl 0 rfl 29 rfl ?_
        refine gf_52_15 hX q_303 dX9_rules_29 (c12) rfl 32 rfl ?_
        refine v_if_eq hX dX9_rules_32 197 rfl 35 rfl (fun h106 => ?_) (fun h106 => ?_)
        · replace hf := it_p h106 hf
          exact HK19 _ _ _ _ _ _ _ _ _ _ _ _ _ hf
        · replace hf := it_n h106 hf
          refine v_aload_n hX dX9_rules_35 rfl 0 rfl 36 rfl ?_
          refine v_ldc2 (v := (1253 : Int64)) hX q_304 dX9_rules_36 39 rfl ?_
          obtain ⟨v21, hv21, hf⟩ := bn1_e hf
          refine cv_i hX (c9_isWord (lkp r [(36, c7), (32, (r 32)), (40, c8), (39, c9), (42, c10), (41, c11), (35, c12), (34, (r 34)), (37, c13), (38, c14)]) (lkp g [(60, (g 60)), (64, c15), (67, c16), (65, c17), (61, (g 61))]) (lkp u [(0, c18)]) h _ hv21) wvX9_isWord q_331 rc_52 (Nat.le_of_ble_eq_true rfl) (Nat.le_of_ble_eq_true rfl) (fun _ => rfl) [] rfl (Nat.le_of_ble_eq_true rfl) dX9_rules_39 42 rfl ?_
          refine v_istore_n hX dX9_rules_42 rfl (ltn hn (by decide)) 43 rfl [(2, .int v21), (0, .ref (aX X 52)), (1, .int x6)] rfl ?_
          refine v_aload_n hX dX9_rules_43 rfl 1 rfl 44 rfl ?_
          refine v_iload_n hX dX9_rules_44 rfl 2 rfl 45 rfl ?_
          refine v_bipush (v := (8 : Int32)) hX dX9_rules_45 (by decide) 47 rfl ?_
          obtain ⟨J22, hJ22, hf⟩ := jn_x hf
          have HJ22 : ∀ (s23 : Int32), J22 s23 = some res → VC X (lkp r [(36, c7), (32, (r 32)), (40, c8), (39, c9), (42, c10), (41, c11), (35, c12), (34, (r 34)), (37, c13), (38, c14)]) (lkp g [(60, (g 60)), (64, c15), (67, c16), (65, c17), (61, (g 61))]) (lkp u [(0, c18)]) h [(0, .ref (aX X 52)), (1, .int x6), (2, .int v21)] [.int s23, .ref (aX X 52)] 69 := by
            intro s23 hf
            rw [hJ22] at hf
            obtain ⟨hb24, hf⟩ := gd_e hf
            refine pf_52_20 hX q_301 dX9_rules_69 hb24 72 rfl [(36, c7), (32, (r 32)), (40, c8), (39, s23), (42, c10), (41, c11), (35, c12), (34, (r 34)), (37, c13), (38, c14)] rfl ?_
            refine v_aload_n hX dX9_rules_72 rfl 0 rfl 73 rfl ?_
            refine gf_52_20 hX q_301 dX9_rules_73 (s23) rfl 76 rfl ?_
            obtain ⟨J25, hJ25, hf⟩ := jn_x hf
            have HJ25 : ∀ (y26 : Int32) (c27 : Int32) (c28 : Int32) (c29 : Int32) (c30 : Int32) (c31 : Int32) (c32 : Int32) (c33 : Int32) (c34 : Int32) (c35 : (Nat → Int32)) (c36 : (Nat → Int32)) (c37 : (Nat → Int32)) (c38 : Int64), J25 y26 c27 c28 c29 c30 c31 c32 c33 c34 c35 c36 c37 c38 = some res → VC X (lkp r [(36, c27), (32, (r 32)), (40, c28), (39, c29), (42, c30), (41, c31), (35, c32), (34, (r 34)), (37, c33), (38, c34)]) (lkp g [(60, (g 60)), (64, c35), (67, c36), (65, c37), (61, (g 61))]) (lkp u [(0, c38)]) h [(0, .ref (aX X 52)), (1, .int y26)] [] 183 := by
              intro y26 c27 c28 c29 c30 c31 c32 c33 c34 c35 c36 c37 c38 hf
              rw [hJ25] at hf
              refine v_aload_n hX dX9_rules_183 rfl 0 rfl 184 rfl ?_
              refine gf_52_20 hX q_301 dX9_rules_184 (c29) rfl 187 rfl ?_
              obtain ⟨J39, hJ39, hf⟩ := jn_x hf
              have HJ39 : ∀ (c40 : Int32) (c41 : Int32) (c42 : Int32) (c43 : Int32) (c44 : Int64), J39 c40 c41 c42 c43 c44 = some res → VC X (lkp r [(36, c40), (32, (r 32)), (40, c28), (39, c29), (42, c30), (41, c31), (35, c41), (34, (r 34)), (37, c42), (38, c43)]) (lkp g [(60, (g 60)), (64, c35), (67, c36), (65, c37), (61, (g 61))]) (lkp u [(0, c44)]) h [(0, .ref (aX X 52)), (1, .int y26)] [] 194 := by
                intro c40 c41 c42 c43 c44 hf
                rw [hJ39] at hf
                refine v_goto hX dX9_rules_194 21 rfl ?_
                exact ih _ _ _ _ _ _ _ _ _ _ _ _ _ hf
              refine v_if_eq hX dX9_rules_187 194 rfl 190 rfl (fun h50 => ?_) (fun h50 => ?_)
              · replace hf := it_p h50 hf
                exact HJ39 _ _ _ _ _ hf
              · replace hf := it_n h50 hf
                refine v_aload_n hX dX9_rules_190 rfl 0 rfl 191 rfl ?_
                obtain ⟨c45, c46, c47, c48, c49, hc45, hf⟩ := bn5_e hf
                refine cv_v hX (c9_advance (lkp r [(36, c27), (32, (r 32)), (40, c28), (39, c29), (42, c30), (41, c31), (35, c32), (34, (r 34)), (37, c33), (38, c34)]) (lkp g [(60, (g 60)), (64, c35), (67, c36), (65, c37), (61, (g 61))]) (lkp u [(0, c38)]) h hc45) wvX9_advance q_312 rc_52 (Nat.le_of_ble_eq_true rfl) (Nat.le_of_ble_eq_true rfl) (fun _ => rfl) [] rfl (Nat.le_of_ble_eq_true rfl) dX9_rules_191 194 rfl ?_
                refine v_mgr [(36, c45), (32, (r 32)), (40, c28), (39, c29), (42, c30), (41, c31), (35, c46), (34, (r 34)), (37, c47), (38, c48)] rfl ?_
                refine v_mgu [(0, c49)] rfl ?_
                exact HJ39 _ _ _ _ _ hf
            refine v_if_eq hX dX9_rules_76 183 rfl 79 rfl (fun h99 => ?_) (fun h99 => ?_)
            · replace hf := it_p h99 hf
              refine v_sub [(0, .ref (aX X 52)), (1, .int x6)] (sbc 0 rfl (sbc 1 rfl sbn)) ?_
              exact HJ25 _ _ _ _ _ _ _ _ _ _ _ _ _ hf
            · replace hf := it_n h99 hf
              refine v_aload_n hX dX9_rules_79 rfl 0 rfl 80 rfl ?_
              refine gf_52_28 hX q_118 dX9_rules_80 83 rfl ?_
              refine v_iconst (v := (3 : Int32)) hX dX9_rules_83 (by decide) 84 rfl ?_
              refine v_iload_n hX dX9_rules_84 rfl 1 rfl 85 rfl ?_
              refine v_imul hX dX9_rules_85 86 rfl ?_
              refine v_iload_n hX dX9_rules_86 rfl 2 rfl 87 rfl ?_
              obtain ⟨J51, hJ51, hf⟩ := jn_x hf
              have HJ51 : ∀ (s52 : Int32), J51 s52 = some res → VC X (lkp r [(36, c7), (32, (r 32)), (40, c8), (39, s23), (42, c10), (41, c11), (35, c12), (34, (r 34)), (37, c13), (38, c14)]) (lkp g [(60, (g 60)), (64, c15), (67, c16), (65, c17), (61, (g 61))]) (lkp u [(0, c18)]) h [(0, .ref (aX X 52)), (1, .int x6)] [.int s52, .int ((3 : Int32) * x6), .ref (aX X 67)] 95 := by
                intro s52 hf
                rw [hJ51] at hf
                obtain ⟨hi53, hf⟩ := gd_e hf
                refine as_67 hX hi53 dX9_rules_95 96 rfl c16 rfl [(60, (g 60)), (64, c15), (67, (upd c16 ((3 : Int32) * x6).toNatClampNeg s52)), (65, c17), (61, (g 61))] rfl ?_
                refine v_aload_n hX dX9_rules_96 rfl 0 rfl 97 rfl ?_
                refine gf_52_28 hX q_118 dX9_rules_97 100 rfl ?_
                refine v_iconst (v := (3 : Int32)) hX dX9_rules_100 (by decide) 101 rfl ?_
                refine v_iload_n hX dX9_rules_101 rfl 1 rfl 102 rfl ?_
                refine v_imul hX dX9_rules_102 103 rfl ?_
                refine v_iconst (v := (1 : Int32)) hX dX9_rules_103 (by decide) 104 rfl ?_
                refine v_iadd hX dX9_rules_104 105 rfl ?_
                refine v_aload_n hX dX9_rules_105 rfl 0 rfl 106 rfl ?_
                refine gf_52_24 hX q_302 dX9_rules_106 (c8) rfl 109 rfl ?_
                obtain ⟨hi54, hf⟩ := gd_e hf
                refine as_67 hX hi54 dX9_rules_109 110 rfl (upd c16 ((3 : Int32) * x6).toNatClampNeg s52) rfl [(60, (g 60)), (64, c15), (67, (upd (upd c16 ((3 : Int32) * x6).toNatClampNeg s52) (((3 : Int32) * x6) + (1 : Int32)).toNatClampNeg c8)), (65, c17), (61, (g 61))] rfl ?_
                refine v_aload_n hX dX9_rules_110 rfl 0 rfl 111 rfl ?_
                obtain ⟨c55, c56, c57, c58, c59, hc55, hf⟩ := bn5_e hf
                refine cv_v hX (c9_advance (lkp r [(36, c7), (32, (r 32)), (40, c8), (39, s23), (42, c10), (41, c11), (35, c12), (34, (r 34)), (37, c13), (38, c14)]) (lkp g [(60, (g 60)), (64, c15), (67, (upd (upd c16 ((3 : Int32) * x6).toNatClampNeg s52) (((3 : Int32) * x6) + (1 : Int32)).toNatClampNeg c8)), (65, c17), (61, (g 61))]) (lkp u [(0, c18)]) h hc55) wvX9_advance q_312 rc_52 (Nat.le_of_ble_eq_true rfl) (Nat.le_of_ble_eq_true rfl) (fun _ => rfl) [] rfl (Nat.le_of_ble_eq_true rfl) dX9_rules_111 114 rfl ?_
                refine v_mgr [(36, c55), (32, (r 32)), (40, c8), (39, s23), (42, c10), (41, c11), (35, c56), (34, (r 34)), (37, c57), (38, c58)] rfl ?_
                refine v_mgu [(0, c59)] rfl ?_
                refine v_aload_n hX dX9_rules_114 rfl 0 rfl 115 rfl ?_
                refine v_ldc2 (v := (249 : Int64)) hX q_306 dX9_rules_115 118 rfl ?_
                obtain ⟨v60, hv60, hf⟩ := bn1_e hf
                refine cv_i hX (c9_isWord (lkp r [(36, c55), (32, (r 32)), (40, c8), (39, s23), (42, c10), (41, c11), (35, c56), (34, (r 34)), (37, c57), (38, c58)]) (lkp g [(60, (g 60)), (64, c15), (67, (upd (upd c16 ((3 : Int32) * x6).toNatClampNeg s52) (((3 : Int32) * x6) + (1 : Int32)).toNatClampNeg c8)), (65, c17), (61, (g 61))]) (lkp u [(0, c59)]) h _ hv60) wvX9_isWord q_331 rc_52 (Nat.le_of_ble_eq_true rfl) (Nat.le_of_ble_eq_true rfl) (fun _ => rfl) [] rfl (Nat.le_of_ble_eq_true rfl) dX9_rules_118 121 rfl ?_
                obtain ⟨J61, hJ61, hf⟩ := jn_x hf
                have HJ61 : ∀ (c62 : Int32) (c63 : Int32) (c64 : Int32) (c65 : Int32) (c66 : Int32) (c67 : Int32) (c68 : Int32) (c69 : Int32) (c70 : (Nat → Int32)) (c71 : (Nat → Int32)) (c72 : Int64), J61 c62 c63 c64 c65 c66 c67 c68 c69 c70 c71 c72 = some res → VC X (lkp r [(36, c62), (32, (r 32)), (40, c63), (39, c64), (42, c65), (41, c66), (35, c67), (34, (r 34)), (37, c68), (38, c69)]) (lkp g [(60, (g 60)), (64, c70), (67, (upd (upd c16 ((3 : Int32) * x6).toNatClampNeg s52) (((3 : Int32) * x6) + (1 : Int32)).toNatClampNeg c8)), (65, c71), (61, (g 61))]) (lkp u [(0, c72)]) h [(0, .ref (aX X 52)), (1, .int x6)] [] 141 := by
                  intro c62 c63 c64 c65 c66 c67 c68 c69 c70 c71 c72 hf
                  rw [hJ61] at hf
                  refine v_aload_n hX dX9_rules_141 rfl 0 rfl 142 rfl ?_
                  refine gf_52_28 hX q_118 dX9_rules_142 145 rfl ?_
                  refine v_iconst (v := (3 : Int32)) hX dX9_rules_145 (by decide) 146 rfl ?_
                  refine v_iload_n hX dX9_rules_146 rfl 1 rfl 147 rfl ?_
                  refine v_imul hX dX9_rules_147 148 rfl ?_
                  refine v_iconst (v := (2 : Int32)) hX dX9_rules_148 (by decide) 149 rfl ?_
                  refine v_iadd hX dX9_rules_149 150 rfl ?_
                  refine v_aload_n hX dX9_rules_150 rfl 0 rfl 151 rfl ?_
                  refine gf_52_24 hX q_302 dX9_rules_151 (c63) rfl 154 rfl ?_
                  obtain ⟨hi73, hf⟩ := gd_e hf
                  refine as_67 hX hi73 dX9_rules_154 155 rfl (upd (upd c16 ((3 : Int32) * x6).toNatClampNeg s52) (((3 : Int32) * x6) + (1 : Int32)).toNatClampNeg c8) rfl [(60, (g 60)), (64, c70), (67, (upd (upd (upd c16 ((3 : Int32) * x6).toNatClampNeg s52) (((3 : Int32) * x6) + (1 : Int32)).toNatClampNeg c8) (((3 : Int32) * x6) + (2 : Int32)).toNatClampNeg c63)), (65, c71), (61, (g 61))] rfl ?_
                  refine v_inc (c := (1 : Int32)) hX dX9_rules_155 1 rfl (by decide) (ltn hn (by decide)) 158 rfl [(1, .int (x6 + (1 : Int32))), (0, .ref (aX X 52))] rfl ?_
                  refine v_aload_n hX dX9_rules_158 rfl 1 rfl 159 rfl ?_
                  refine v_aload_n hX dX9_rules_159 rfl 1 rfl 160 rfl ?_
                  refine gf_52_20 hX q_301 dX9_rules_160 (c64) rfl 163 rfl ?_
                  obtain ⟨J74, hJ74, hf⟩ := jn_x hf
                  have HJ74 : ∀ (s75 : Int32), J74 s75 = some res → VC X (lkp r [(36, c62), (32, (r 32)), (40, c63), (39, c64), (42, c65), (41, c66), (35, c67), (34, (r 34)), (37, c68), (38, c69)]) (lkp g [(60, (g 60)), (64, c70), (67, (upd (upd (upd c16 ((3 : Int32) * x6).toNatClampNeg s52) (((3 : Int32) * x6) + (1 : Int32)).toNatClampNeg c8) (((3 : Int32) * x6) + (2 : Int32)).toNatClampNeg c63)), (65, c71), (61, (g 61))]) (lkp u [(0, c72)]) h [(0, .ref (aX X 52)), (1, .int (x6 + (1 : Int32)))] [.int s75, .ref (aX X 52)] 180 := by
                    intro s75 hf
                    rw [hJ74] at hf
                    obtain ⟨hb76, hf⟩ := gd_e hf
                    refine pf_52_20 hX q_301 dX9_rules_180 hb76 183 rfl [(36, c62), (32, (r 32)), (40, c63), (39, s75), (42, c65), (41, c66), (35, c67), (34, (r 34)), (37, c68), (38, c69)] rfl ?_
                    exact HJ25 _ _ _ _ _ _ _ _ _ _ _ _ _ hf
                  obtain ⟨J77, hJ77, hf⟩ := jn_x hf
                  have HJ77 : J77 = some res → VC X (lkp r [(36, c62), (32, (r 32)), (40, c63), (39, c64), (42, c65), (41, c66), (35, c67), (34, (r 34)), (37, c68), (38, c69)]) (lkp g [(60, (g 60)), (64, c70), (67, (upd (upd (upd c16 ((3 : Int32) * x6).toNatClampNeg s52) (((3 : Int32) * x6) + (1 : Int32)).toNatClampNeg c8) (((3 : Int32) * x6) + (2 : Int32)).toNatClampNeg c63)), (65, c71), (61, (g 61))]) (lkp u [(0, c72)]) h [(0, .ref (aX X 52)), (1, .int (x6 + (1 : Int32)))] [.ref (aX X 52)] 179 := by
                    intro hf
                    rw [hJ77] at hf
                    refine v_iconst (v := (0 : Int32)) hX dX9_rules_179 (by decide) 180 rfl ?_
                    exact HJ74 _ hf
                  refine v_if_eq hX dX9_rules_163 179 rfl 166 rfl (fun h80 => ?_) (fun h80 => ?_)
                  · replace hf := it_p h80 hf
                    refine v_sub [(0, .ref (aX X 52)), (1, .int (x6 + (1 : Int32)))] (sbc 1 rfl (sbc 0 rfl sbn)) ?_
                    exact HJ77  hf
                  · replace hf := it_n h80 hf
                    refine v_aload_n hX dX9_rules_166 rfl 1 rfl 167 rfl ?_
                    refine v_bipush (v := (59 : Int32)) hX dX9_rules_167 (by decide) 169 rfl ?_
                    obtain ⟨v78, hv78, hf⟩ := bn1_e hf
                    refine cv_i hX (c9_isMark (lkp r [(36, c62), (32, (r 32)), (40, c63), (39, c64), (42, c65), (41, c66), (35, c67), (34, (r 34)), (37, c68), (38, c69)]) (lkp g [(60, (g 60)), (64, c70), (67, (upd (upd (upd c16 ((3 : Int32) * x6).toNatClampNeg s52) (((3 : Int32) * x6) + (1 : Int32)).toNatClampNeg c8) (((3 : Int32) * x6) + (2 : Int32)).toNatClampNeg c63)), (65, c71), (61, (g 61))]) (lkp u [(0, c72)]) h _ hv78) wvX9_isMark q_349 rc_52 (Nat.le_of_ble_eq_true rfl) (Nat.le_of_ble_eq_true rfl) (fun _ => rfl) [.ref (aX X 52)] rfl (Nat.le_of_ble_eq_true rfl) dX9_rules_169 172 rfl ?_
                    refine v_if_eq hX dX9_rules_172 179 rfl 175 rfl (fun h79 => ?_) (fun h79 => ?_)
                    · replace hf := it_p h79 hf
                      refine v_sub [(0, .ref (aX X 52)), (1, .int (x6 + (1 : Int32)))] (sbc 1 rfl (sbc 0 rfl sbn)) ?_
                      exact HJ77  hf
                    · replace hf := it_n h79 hf
                      refine v_iconst (v := (1 : Int32)) hX dX9_rules_175 (by decide) 176 rfl ?_
                      refine v_goto hX dX9_rules_176 180 rfl ?_
                      refine v_sub [(0, .ref (aX X 52)), (1, .int (x6 + (1 : Int32)))] (sbc 1 rfl (sbc 0 rfl sbn)) ?_
                      exact HJ74 _ hf
                refine v_if_eq hX dX9_rules_121 141 rfl 124 rfl (fun h97 => ?_) (fun h97 => ?_)
                · replace hf := it_p h97 hf
                  exact HJ61 _ _ _ _ _ _ _ _ _ _ _ hf
                · replace hf := it_n h97 hf
                  refine v_aload_n hX dX9_rules_124 rfl 0 rfl 125 rfl ?_
                  obtain ⟨c81, c82, c83, c84, c85, hc81, hf⟩ := bn5_e hf
                  refine cv_v hX (c9_advance (lkp r [(36, c55), (32, (r 32)), (40, c8), (39, s23), (42, c10), (41, c11), (35, c56), (34, (r 34)), (37, c57), (38, c58)]) (lkp g [(60, (g 60)), (64, c15), (67, (upd (upd c16 ((3 : Int32) * x6).toNatClampNeg s52) (((3 : Int32) * x6) + (1 : Int32)).toNatClampNeg c8)), (65, c17), (61, (g 61))]) (lkp u [(0, c59)]) h hc81) wvX9_advance q_312 rc_52 (Nat.le_of_ble_eq_true rfl) (Nat.le_of_ble_eq_true rfl) (fun _ => rfl) [] rfl (Nat.le_of_ble_eq_true rfl) dX9_rules_125 128 rfl ?_
                  refine v_mgr [(36, c81), (32, (r 32)), (40, c8), (39, s23), (42, c10), (41, c11), (35, c82), (34, (r 34)), (37, c83), (38, c84)] rfl ?_
                  refine v_mgu [(0, c85)] rfl ?_
                  refine v_aload_n hX dX9_rules_128 rfl 0 rfl 129 rfl ?_
                  refine v_ldc2 (v := (10631 : Int64)) hX q_307 dX9_rules_129 132 rfl ?_
                  refine v_ldc2 (v := (1111 : Int64)) hX q_308 dX9_rules_132 135 rfl ?_
                  refine v_ldc2 (v := (423 : Int64)) hX q_309 dX9_rules_135 138 rfl ?_
                  obtain ⟨c86, c87, c88, c89, c90, c91, c92, c93, c94, c95, c96, hc86, hf⟩ := bn11_e hf
                  refine cv_v hX (c9_wantCond (lkp r [(36, c81), (32, (r 32)), (40, c8), (39, s23), (42, c10), (41, c11), (35, c82), (34, (r 34)), (37, c83), (38, c84)]) (lkp g [(60, (g 60)), (64, c15), (67, (upd (upd c16 ((3 : Int32) * x6).toNatClampNeg s52) (((3 : Int32) * x6) + (1 : Int32)).toNatClampNeg c8)), (65, c17), (61, (g 61))]) (lkp u [(0, c85)]) h _ _ _ hc86) wvX9_wantCond q_335 rc_52 (Nat.le_of_ble_eq_true rfl) (Nat.le_of_ble_eq_true rfl) (fun _ => rfl) [] rfl (Nat.le_of_ble_eq_true rfl) dX9_rules_138 141 rfl ?_
                  refine v_mgr [(36, c86), (32, (r 32)), (40, c87), (39, c88), (42, c89), (41, c90), (35, c91), (34, (r 34)), (37, c92), (38, c93)] rfl ?_
                  refine v_mgg [(60, (g 60)), (64, c94), (67, (upd (upd c16 ((3 : Int32) * x6).toNatClampNeg s52) (((3 : Int32) * x6) + (1 : Int32)).toNatClampNeg c8)), (65, c95), (61, (g 61))] rfl ?_
                  refine v_mgu [(0, c96)] rfl ?_
                  exact HJ61 _ _ _ _ _ _ _ _ _ _ _ hf
              refine v_if_eq hX dX9_rules_87 94 rfl 90 rfl (fun h98 => ?_) (fun h98 => ?_)
              · replace hf := it_p h98 hf
                refine v_iconst (v := (0 : Int32)) hX dX9_rules_94 (by decide) 95 rfl ?_
                refine v_sub [(0, .ref (aX X 52)), (1, .int x6)] (sbc 0 rfl (sbc 1 rfl sbn)) ?_
                exact HJ51 _ hf
              · replace hf := it_n h98 hf
                refine v_iconst (v := (1 : Int32)) hX dX9_rules_90 (by decide) 91 rfl ?_
                refine v_goto hX dX9_rules_91 95 rfl ?_
                refine v_sub [(0, .ref (aX X 52)), (1, .int x6)] (sbc 0 rfl (sbc 1 rfl sbn)) ?_
                exact HJ51 _ hf
          obtain ⟨J100, hJ100, hf⟩ := jn_x hf
          have HJ100 : J100 = some res → VC X (lkp r [(36, c7), (32, (r 32)), (40, c8), (39, c9), (42, c10), (41, c11), (35, c12), (34, (r 34)), (37, c13), (38, c14)]) (lkp g [(60, (g 60)), (64, c15), (67, c16), (65, c17), (61, (g 61))]) (lkp u [(0, c18)]) h [(0, .ref (aX X 52)), (1, .int x6), (2, .int v21)] [.ref (aX X 52)] 68 := by
            intro hf
            rw [hJ100] at hf
            refine v_iconst (v := (0 : Int32)) hX dX9_rules_68 (by decide) 69 rfl ?_
            exact HJ22 _ hf
          refine v_icmp_ge hX dX9_rules_47 68 rfl 50 rfl (fun h105 => ?_) (fun h105 => ?_)
          · replace hf := it_p h105 hf
            refine v_sub [(0, .ref (aX X 52)), (1, .int x6), (2, .int v21)] (sbc 1 rfl (sbc 2 rfl (sbc 0 rfl sbn))) ?_
            exact HJ100  hf
          · replace hf := it_n h105 hf
            refine v_iload_n hX dX9_rules_50 rfl 0 rfl 51 rfl ?_
            obtain ⟨J101, hJ101, hf⟩ := jn_x hf
            have HJ101 : J101 = some res → VC X (lkp r [(36, c7), (32, (r 32)), (40, c8), (39, c9), (42, c10), (41, c11), (35, c12), (34, (r 34)), (37, c13), (38, c14)]) (lkp g [(60, (g 60)), (64, c15), (67, c16), (65, c17), (61, (g 61))]) (lkp u [(0, c18)]) h [(0, .ref (aX X 52)), (1, .int x6), (2, .int v21)] [.ref (aX X 52)] 64 := by
              intro hf
              rw [hJ101] at hf
              refine v_iconst (v := (1 : Int32)) hX dX9_rules_64 (by decide) 65 rfl ?_
              refine v_goto hX dX9_rules_65 69 rfl ?_
              exact HJ22 _ hf
            refine v_if_ne hX dX9_rules_51 64 rfl 54 rfl (fun h104 => ?_) (fun h104 => ?_)
            · replace hf := it_n h104 hf
              refine v_sub [(0, .ref (aX X 52)), (1, .int x6), (2, .int v21)] (sbc 1 rfl (sbc 2 rfl (sbc 0 rfl sbn))) ?_
              exact HJ101  hf
            · replace hf := it_p h104 hf
              refine v_aload_n hX dX9_rules_54 rfl 1 rfl 55 rfl ?_
              refine v_ldc2 (v := (11716 : Int64)) hX q_305 dX9_rules_55 58 rfl ?_
              obtain ⟨v102, hv102, hf⟩ := bn1_e hf
              refine cv_i hX (c9_isWord (lkp r [(36, c7), (32, (r 32)), (40, c8), (39, c9), (42, c10), (41, c11), (35, c12), (34, (r 34)), (37, c13), (38, c14)]) (lkp g [(60, (g 60)), (64, c15), (67, c16), (65, c17), (61, (g 61))]) (lkp u [(0, c18)]) h _ hv102) wvX9_isWord q_331 rc_52 (Nat.le_of_ble_eq_true rfl) (Nat.le_of_ble_eq_true rfl) (fun _ => rfl) [.ref (aX X 52)] rfl (Nat.le_of_ble_eq_true rfl) dX9_rules_58 61 rfl ?_
              refine v_if_eq hX dX9_rules_61 68 rfl 64 rfl (fun h103 => ?_) (fun h103 => ?_)
              · replace hf := it_p h103 hf
                refine v_sub [(0, .ref (aX X 52)), (1, .int x6), (2, .int v21)] (sbc 1 rfl (sbc 2 rfl (sbc 0 rfl sbn))) ?_
                exact HJ100  hf
              · replace hf := it_n h103 hf
                refine v_sub [(0, .ref (aX X 52)), (1, .int x6), (2, .int v21)] (sbc 1 rfl (sbc 2 rfl (sbc 0 rfl sbn))) ?_
                exact HJ101  hf
  refine v_sub [(0, .ref (aX X 52)), (1, .int (0 : Int32))] (sbc 1 rfl (sbc 0 rfl sbn)) ?_
  exact HLK19 _ _ _ _ _ _ _ _ _ _ _ _ _ _ hf
set_option maxRecDepth 100000 in
set_option maxHeartbeats 4000000 in
theorem c9_says (r : Nat → Int32) (g : Nat → Nat → Int32) (u : Nat → Int64) (h : Nat → Nat → Int64) (p1 : Int32) {res : Int32 × (Nat → Int32) × (Nat → Int32)} (hf : f9_says (r 31) (r 32) (r 30) (g 57) (g 60) (g 63) (g 55) (g 58) (g 56) (g 66) (g 61) p1 = some res) : MAi yX9_says cX9_says 2 (some .int) 5 (fun a => [.ref (a 52), .int p1]) r g u h res.1 r (lkp g [(63, res.2.1), (66, res.2.2)]) u h := by
  refine mi_i (by decide +kernel) (fun a => Nat.le_of_ble_eq_true rfl) (fun X hX hn hR => ?_)
  replace hR : ∀ q : Int32 × (Nat → Int32) × (Nat → Int32), some q = some res → ∀ lv pc, decode cX9_says pc = .ok (.ireturn, 1) → narrow .int (.int q.1) = .int q.1 → VC X r (lkp g [(63, q.2.1), (66, q.2.2)]) u h lv [.int q.1] pc := fun q hq => by cases hq; exact hR
  replace hX : CX X RX9 cX9_says 5 := hX
  refine v_opg [63, 66] [(63, g 63), (66, g 66)] rfl ?_
  show VC X r (lkp g [(63, g 63), (66, g 66)]) u h [(0, .ref (aX X 52)), (1, .int p1)] [] 0
  rw [f9_says] at hf
  refine v_aload_n hX dX9_says_0 rfl 0 rfl 1 rfl ?_
  refine v_iload_n hX dX9_says_1 rfl 1 rfl 2 rfl ?_
  obtain ⟨v1, hv1, hf⟩ := bn1_e hf
  refine cv_i hX (c9_isClaim r (lkp g [(63, (g 63)), (66, (g 66))]) u h _ hv1) wvX9_isClaim q_525 rc_52 (Nat.le_of_ble_eq_true rfl) (Nat.le_of_ble_eq_true rfl) (fun _ => rfl) [] rfl (Nat.le_of_ble_eq_true rfl) dX9_says_2 5 rfl ?_
  refine v_if_eq hX dX9_says_5 16 rfl 8 rfl (fun h5 => ?_) (fun h5 => ?_)
  · replace hf := it_p h5 hf
    refine v_iconst (v := (-1 : Int32)) hX dX9_says_16 (by decide) 17 rfl ?_
    exact hR _ hf _ _ dX9_says_17 rfl
  · replace hf := it_n h5 hf
    refine v_aload_n hX dX9_says_8 rfl 0 rfl 9 rfl ?_
    refine v_iload_n hX dX9_says_9 rfl 1 rfl 10 rfl ?_
    obtain ⟨v2, c3, c4, hv2, hf⟩ := bn3_e hf
    refine cv_i hX (c9_saysOf r (lkp g [(63, (g 63)), (66, (g 66))]) u h _ hv2) wvX9_saysOf q_878 rc_52 (Nat.le_of_ble_eq_true rfl) (Nat.le_of_ble_eq_true rfl) (fun _ => rfl) [] rfl (Nat.le_of_ble_eq_true rfl) dX9_says_10 13 rfl ?_
    refine v_mgg [(63, c3), (66, c4)] rfl ?_
    refine v_goto hX dX9_says_13 17 rfl ?_
    exact hR _ hf _ _ dX9_says_17 rfl
set_option maxRecDepth 100000 in
set_option maxHeartbeats 4000000 in
theorem c9_isSet (r : Nat → Int32) (g : Nat → Nat → Int32) (u : Nat → Int64) (h : Nat → Nat → Int64) (p1 : Int32) {res : Int32} (hf : f9_isSet (r 31) p1 = some res) : MAi yX9_isSet cX9_isSet 2 (some .boolean) 1 (fun a => [.ref (a 52), .int p1]) r g u h res r g u h := by
  refine mi_i (by decide +kernel) (fun a => Nat.le_of_ble_eq_true rfl) (fun X hX hn hR => ?_)
  replace hR : ∀ q : Int32, some q = some res → ∀ lv pc, decode cX9_isSet pc = .ok (.ireturn, 1) → narrow .boolean (.int q) = .int q → VC X r g u h lv [.int q] pc := fun q hq => by cases hq; exact hR
  replace hX : CX X RX9 cX9_isSet 1 := hX
  show VC X r g u h [(0, .ref (aX X 52)), (1, .int p1)] [] 0
  rw [f9_isSet] at hf
  refine v_iload_n hX dX9_isSet_0 rfl 1 rfl 1 rfl ?_
  refine v_iconst (v := (0 : Int32)) hX dX9_isSet_1 (by decide) 2 rfl ?_
  refine v_iconst (v := (1 : Int32)) hX dX9_isSet_2 (by decide) 3 rfl ?_
  refine v_aload_n hX dX9_isSet_3 rfl 0 rfl 4 rfl ?_
  refine gf_52_5 hX q_462 dX9_isSet_4 ((r 31)) rfl 7 rfl ?_
  refine v_ishl hX dX9_isSet_7 8 rfl ?_
  refine v_iconst (v := (1 : Int32)) hX dX9_isSet_8 (by decide) 9 rfl ?_
  refine v_isub hX dX9_isSet_9 10 rfl ?_
  obtain ⟨v1, hv1, hf⟩ := bn1_e hf
  refine cs_i hX (c9_in r g u h _ _ _ hv1) wvX9_in q_150 (Nat.le_of_ble_eq_true rfl) (Nat.le_of_ble_eq_true rfl) (fun _ => rfl) [] rfl (Nat.le_of_ble_eq_true rfl) dX9_isSet_10 13 rfl ?_
  obtain ⟨hb2, hf⟩ := gd_e hf
  exact hR _ hf _ _ dX9_isSet_13 (bz_nar hb2)
set_option maxRecDepth 100000 in
set_option maxHeartbeats 4000000 in
theorem c9_score (r : Nat → Int32) (g : Nat → Nat → Int32) (u : Nat → Int64) (h : Nat → Nat → Int64) (p1 : Int32) {res : Int32 × (Nat → Int32)} (hf : f9_score (r 31) (r 30) (g 57) (g 55) (g 58) (g 56) (g 68) p1 = some res) : MAi yX9_score cX9_score 2 (some .int) 4 (fun a => [.ref (a 52), .int p1]) r g u h res.1 r (lkp g [(68, res.2)]) u h := by
  refine mi_i (by decide +kernel) (fun a => Nat.le_of_ble_eq_true rfl) (fun X hX hn hR => ?_)
  replace hR : ∀ q : Int32 × (Nat → Int32), some q = some res → ∀ lv pc, decode cX9_score pc = .ok (.ireturn, 1) → narrow .int (.int q.1) = .int q.1 → VC X r (lkp g [(68, q.2)]) u h lv [.int q.1] pc := fun q hq => by cases hq; exact hR
  replace hX : CX X RX9 cX9_score 4 := hX
  refine v_opg [68] [(68, g 68)] rfl ?_
  show VC X r (lkp g [(68, g 68)]) u h [(0, .ref (aX X 52)), (1, .int p1)] [] 0
  rw [f9_score] at hf
  refine v_aload_n hX dX9_score_0 rfl 0 rfl 1 rfl ?_
  refine v_iload_n hX dX9_score_1 rfl 1 rfl 2 rfl ?_
  obtain ⟨v1, hv1, hf⟩ := bn1_e hf
  refine cv_i hX (c9_isSet r (lkp g [(68, (g 68))]) u h _ hv1) wvX9_isSet q_689 rc_52 (Nat.le_of_ble_eq_true rfl) (Nat.le_of_ble_eq_true rfl) (fun _ => rfl) [] rfl (Nat.le_of_ble_eq_true rfl) dX9_score_2 5 rfl ?_
  refine v_if_ne hX dX9_score_5 10 rfl 8 rfl (fun h4 => ?_) (fun h4 => ?_)
  · replace hf := it_n h4 hf
    refine v_aload_n hX dX9_score_10 rfl 0 rfl 11 rfl ?_
    obtain ⟨c2, hc2, hf⟩ := bn1_e hf
    refine cv_v hX (c9_findStrengths r (lkp g [(68, (g 68))]) u h hc2) wvX9_findStrengths q_693 rc_52 (Nat.le_of_ble_eq_true rfl) (Nat.le_of_ble_eq_true rfl) (fun _ => rfl) [] rfl (Nat.le_of_ble_eq_true rfl) dX9_score_11 14 rfl ?_
    refine v_mgg [(68, c2)] rfl ?_
    refine v_ldcw (v := (100000 : Int32)) hX q_688 dX9_score_14 17 rfl ?_
    refine v_aload_n hX dX9_score_17 rfl 0 rfl 18 rfl ?_
    refine v_iload_n hX dX9_score_18 rfl 1 rfl 19 rfl ?_
    obtain ⟨v3, hv3, hf⟩ := bn1_e hf
    refine cv_i hX (c9_scoreOf r (lkp g [(68, c2)]) u h _ hv3) wvX9_scoreOf q_697 rc_52 (Nat.le_of_ble_eq_true rfl) (Nat.le_of_ble_eq_true rfl) (fun _ => rfl) [.int (100000 : Int32)] rfl (Nat.le_of_ble_eq_true rfl) dX9_score_19 22 rfl ?_
    refine v_iadd hX dX9_score_22 23 rfl ?_
    exact hR _ hf _ _ dX9_score_23 rfl
  · replace hf := it_p h4 hf
    refine v_iconst (v := (-1 : Int32)) hX dX9_score_8 (by decide) 9 rfl ?_
    exact hR _ hf _ _ dX9_score_9 rfl
set_option maxRecDepth 100000 in
set_option maxHeartbeats 4000000 in
theorem c9_seat (r : Nat → Int32) (g : Nat → Nat → Int32) (u : Nat → Int64) (h : Nat → Nat → Int64) (p1 : Int32) (p2 : Int32) (p3 : Int32) {res : Int32 × (Nat → Int32)} (hf : f9_seat (r 31) (r 30) (g 57) (g 56) p1 p2 p3 = some res) : MAi yX9_seat cX9_seat 5 (some .int) 3 (fun a => [.ref (a 52), .int p1, .int p2, .int p3]) r g u h res.1 r (lkp g [(57, res.2)]) u h := by
  refine mi_i (by decide +kernel) (fun a => Nat.le_of_ble_eq_true rfl) (fun X hX hn hR => ?_)
  replace hR : ∀ q : Int32 × (Nat → Int32), some q = some res → ∀ lv pc, decode cX9_seat pc = .ok (.ireturn, 1) → narrow .int (.int q.1) = .int q.1 → VC X r (lkp g [(57, q.2)]) u h lv [.int q.1] pc := fun q hq => by cases hq; exact hR
  replace hX : CX X RX9 cX9_seat 3 := hX
  refine v_opg [57] [(57, g 57)] rfl ?_
  show VC X r (lkp g [(57, g 57)]) u h [(0, .ref (aX X 52)), (1, .int p1), (2, .int p2), (3, .int p3)] [] 0
  rw [f9_seat] at hf
  refine v_aload_n hX dX9_seat_0 rfl 0 rfl 1 rfl ?_
  refine v_iload_n hX dX9_seat_1 rfl 1 rfl 2 rfl ?_
  obtain ⟨v1, hv1, hf⟩ := bn1_e hf
  refine cv_i hX (c9_isClaim r (lkp g [(57, (g 57))]) u h _ hv1) wvX9_isClaim q_525 rc_52 (Nat.le_of_ble_eq_true rfl) (Nat.le_of_ble_eq_true rfl) (fun _ => rfl) [] rfl (Nat.le_of_ble_eq_true rfl) dX9_seat_2 5 rfl ?_
  refine v_if_eq hX dX9_seat_5 30 rfl 8 rfl (fun h19 => ?_) (fun h19 => ?_)
  · replace hf := it_p h19 hf
    refine v_iconst (v := (-1 : Int32)) hX dX9_seat_30 (by decide) 31 rfl ?_
    exact hR _ hf _ _ dX9_seat_31 rfl
  · replace hf := it_n h19 hf
    refine v_iload_n hX dX9_seat_8 rfl 2 rfl 9 rfl ?_
    refine v_iconst (v := (0 : Int32)) hX dX9_seat_9 (by decide) 10 rfl ?_
    refine v_iconst (v := (3 : Int32)) hX dX9_seat_10 (by decide) 11 rfl ?_
    obtain ⟨v2, hv2, hf⟩ := bn1_e hf
    refine cs_i hX (c9_in r (lkp g [(57, (g 57))]) u h _ _ _ hv2) wvX9_in q_150 (Nat.le_of_ble_eq_true rfl) (Nat.le_of_ble_eq_true rfl) (fun _ => rfl) [] rfl (Nat.le_of_ble_eq_true rfl) dX9_seat_11 14 rfl ?_
    refine v_if_eq hX dX9_seat_14 30 rfl 17 rfl (fun h18 => ?_) (fun h18 => ?_)
    · replace hf := it_p h18 hf
      refine v_iconst (v := (-1 : Int32)) hX dX9_seat_30 (by decide) 31 rfl ?_
      exact hR _ hf _ _ dX9_seat_31 rfl
    · replace hf := it_n h18 hf
      refine v_iload_n hX dX9_seat_17 rfl 3 rfl 18 rfl ?_
      refine v_iconst (v := (-1 : Int32)) hX dX9_seat_18 (by decide) 19 rfl ?_
      obtain ⟨J3, hJ3, hf⟩ := jn_x hf
      have HJ3 : J3 = some res → VC X r (lkp g [(57, (g 57))]) u h [(0, .ref (aX X 52)), (1, .int p1), (2, .int p2), (3, .int p3)] [] 32 := by
        intro hf
        rw [hJ3] at hf
        refine v_iload_n hX dX9_seat_32 rfl 3 rfl 33 rfl ?_
        obtain ⟨J4, hJ4, hf⟩ := jn_x hf
        have HJ4 : J4 = some res → VC X r (lkp g [(57, (g 57))]) u h [(0, .ref (aX X 52)), (1, .int p1), (2, .int p2), (3, .int p3)] [] 67 := by
          intro hf
          rw [hJ4] at hf
          refine v_aload_n hX dX9_seat_67 rfl 0 rfl 68 rfl ?_
          refine v_iload_n hX dX9_seat_68 rfl 1 rfl 69 rfl ?_
          refine v_iconst (v := (5 : Int32)) hX dX9_seat_69 (by decide) 70 rfl ?_
          refine v_iload_n hX dX9_seat_70 rfl 2 rfl 71 rfl ?_
          refine v_iadd hX dX9_seat_71 72 rfl ?_
          obtain ⟨v5, hv5, hf⟩ := bn1_e hf
          refine cv_i hX (c9_its r (lkp g [(57, (g 57))]) u h _ _ hv5) wvX9_its q_471 rc_52 (Nat.le_of_ble_eq_true rfl) (Nat.le_of_ble_eq_true rfl) (fun _ => rfl) [] rfl (Nat.le_of_ble_eq_true rfl) dX9_seat_72 75 rfl ?_
          refine v_istore hX dX9_seat_75 (ltn hn (by decide)) 77 rfl [(4, .int v5), (0, .ref (aX X 52)), (1, .int p1), (2, .int p2), (3, .int p3)] rfl ?_
          refine v_aload_n hX dX9_seat_77 rfl 1 rfl 78 rfl ?_
          refine gf_52_6 hX q_107 dX9_seat_78 81 rfl ?_
          refine v_bipush (v := (11 : Int32)) hX dX9_seat_81 (by decide) 83 rfl ?_
          refine v_iload_n hX dX9_seat_83 rfl 2 rfl 84 rfl ?_
          refine v_imul hX dX9_seat_84 85 rfl ?_
          refine v_iconst (v := (5 : Int32)) hX dX9_seat_85 (by decide) 86 rfl ?_
          refine v_iadd hX dX9_seat_86 87 rfl ?_
          refine v_iload_n hX dX9_seat_87 rfl 3 rfl 88 rfl ?_
          refine v_iadd hX dX9_seat_88 89 rfl ?_
          refine v_iload_n hX dX9_seat_89 rfl 4 rfl 90 rfl ?_
          obtain ⟨hi6, hf⟩ := gd_e hf
          refine as_57 hX hi6 dX9_seat_90 91 rfl (g 57) rfl [(57, (upd (g 57) ((((11 : Int32) * p1) + (5 : Int32)) + p2).toNatClampNeg p3))] rfl ?_
          refine v_iload hX dX9_seat_91 0 rfl 93 rfl ?_
          obtain ⟨v7, hv7, hf⟩ := bn1_e hf
          refine cs_i hX (c9_orNobody r (lkp g [(57, (upd (g 57) ((((11 : Int32) * p1) + (5 : Int32)) + p2).toNatClampNeg p3))]) u h _ hv7) wvX9_orNobody q_529 (Nat.le_of_ble_eq_true rfl) (Nat.le_of_ble_eq_true rfl) (fun _ => rfl) [] rfl (Nat.le_of_ble_eq_true rfl) dX9_seat_93 96 rfl ?_
          exact hR _ hf _ _ dX9_seat_96 rfl
        refine v_if_lt hX dX9_seat_33 67 rfl 36 rfl (fun h14 => ?_) (fun h14 => ?_)
        · replace hf := it_p h14 hf
          exact HJ4  hf
        · replace hf := it_n h14 hf
          refine v_aload_n hX dX9_seat_36 rfl 0 rfl 37 rfl ?_
          refine v_iload_n hX dX9_seat_37 rfl 1 rfl 38 rfl ?_
          refine v_aload_n hX dX9_seat_38 rfl 0 rfl 39 rfl ?_
          refine gf_52_4 hX q_106 dX9_seat_39 42 rfl ?_
          refine v_iload_n hX dX9_seat_42 rfl 3 rfl 43 rfl ?_
          obtain ⟨J8, hJ8, hf⟩ := jn_x hf
          have HJ8 : ∀ (s9 : Int32), J8 s9 = some res → VC X r (lkp g [(57, (g 57))]) u h [(0, .ref (aX X 52)), (1, .int p1), (2, .int p2), (3, .int p3)] [.int s9, .ref (aX X 56), .int p1, .ref (aX X 52)] 51 := by
            intro s9 hf
            rw [hJ8] at hf
            obtain ⟨hi10, hf⟩ := gd_e hf
            refine al_56 hX hi10 dX9_seat_51 ((g 56) s9.toNatClampNeg) rfl 52 rfl ?_
            obtain ⟨v11, hv11, hf⟩ := bn1_e hf
            refine cv_i hX (c9_placesOf r (lkp g [(57, (g 57))]) u h _ _ hv11) wvX9_placesOf q_463 rc_52 (Nat.le_of_ble_eq_true rfl) (Nat.le_of_ble_eq_true rfl) (fun _ => rfl) [] rfl (Nat.le_of_ble_eq_true rfl) dX9_seat_52 55 rfl ?_
            refine v_iconst (v := (1 : Int32)) hX dX9_seat_55 (by decide) 56 rfl ?_
            refine v_iload_n hX dX9_seat_56 rfl 2 rfl 57 rfl ?_
            refine v_ishl hX dX9_seat_57 58 rfl ?_
            refine v_iconst (v := (-1 : Int32)) hX dX9_seat_58 (by decide) 59 rfl ?_
            refine v_ixor hX dX9_seat_59 60 rfl ?_
            refine v_iand hX dX9_seat_60 61 rfl ?_
            refine v_if_eq hX dX9_seat_61 67 rfl 64 rfl (fun h12 => ?_) (fun h12 => ?_)
            · replace hf := it_p h12 hf
              exact HJ4  hf
            · replace hf := it_n h12 hf
              refine v_bipush (v := (-4 : Int32)) hX dX9_seat_64 (by decide) 66 rfl ?_
              exact hR _ hf _ _ dX9_seat_66 rfl
          refine v_if_ge hX dX9_seat_43 50 rfl 46 rfl (fun h13 => ?_) (fun h13 => ?_)
          · replace hf := it_p h13 hf
            refine v_iload_n hX dX9_seat_50 rfl 3 rfl 51 rfl ?_
            exact HJ8 _ hf
          · replace hf := it_n h13 hf
            refine v_iconst (v := (0 : Int32)) hX dX9_seat_46 (by decide) 47 rfl ?_
            refine v_goto hX dX9_seat_47 51 rfl ?_
            exact HJ8 _ hf
      refine v_icmp_eq hX dX9_seat_19 32 rfl 22 rfl (fun h17 => ?_) (fun h17 => ?_)
      · replace hf := it_p h17 hf
        exact HJ3  hf
      · replace hf := it_n h17 hf
        refine v_aload_n hX dX9_seat_22 rfl 0 rfl 23 rfl ?_
        refine v_iload_n hX dX9_seat_23 rfl 3 rfl 24 rfl ?_
        obtain ⟨v15, hv15, hf⟩ := bn1_e hf
        refine cv_i hX (c9_isPerson r (lkp g [(57, (g 57))]) u h _ hv15) wvX9_isPerson q_450 rc_52 (Nat.le_of_ble_eq_true rfl) (Nat.le_of_ble_eq_true rfl) (fun _ => rfl) [] rfl (Nat.le_of_ble_eq_true rfl) dX9_seat_24 27 rfl ?_
        refine v_if_ne hX dX9_seat_27 32 rfl 30 rfl (fun h16 => ?_) (fun h16 => ?_)
        · replace hf := it_n h16 hf
          exact HJ3  hf
        · replace hf := it_p h16 hf
          refine v_iconst (v := (-1 : Int32)) hX dX9_seat_30 (by decide) 31 rfl ?_
          exact hR _ hf _ _ dX9_seat_31 rfl
set_option maxRecDepth 100000 in
set_option maxHeartbeats 4000000 in
theorem c9_seed (r : Nat → Int32) (g : Nat → Nat → Int32) (u : Nat → Int64) (h : Nat → Nat → Int64) (p1 : Int32) {res : Int32 × Int32} (hf : f9_seed (r 33) p1 = some res) : MAi yX9_seed cX9_seed 3 (some .int) 0 (fun a => [.ref (a 52), .int p1]) r g u h res.1 (lkp r [(33, res.2)]) g u h := by
  refine mi_i (by decide +kernel) (fun a => Nat.le_of_ble_eq_true rfl) (fun X hX hn hR => ?_)
  replace hR : ∀ q : Int32 × Int32, some q = some res → ∀ lv pc, decode cX9_seed pc = .ok (.ireturn, 1) → narrow .int (.int q.1) = .int q.1 → VC X (lkp r [(33, q.2)]) g u h lv [.int q.1] pc := fun q hq => by cases hq; exact hR
  replace hX : CX X RX9 cX9_seed 0 := hX
  refine v_opr [33] [(33, r 33)] rfl ?_
  show VC X (lkp r [(33, r 33)]) g u h [(0, .ref (aX X 52)), (1, .int p1)] [] 0
  rw [f9_seed] at hf
  refine v_aload_n hX dX9_seed_0 rfl 0 rfl 1 rfl ?_
  refine gf_52_12 hX q_112 dX9_seed_1 ((r 33)) rfl 4 rfl ?_
  refine v_istore_n hX dX9_seed_4 rfl (ltn hn (by decide)) 5 rfl [(2, .int (r 33)), (0, .ref (aX X 52)), (1, .int p1)] rfl ?_
  refine v_aload_n hX dX9_seed_5 rfl 1 rfl 6 rfl ?_
  refine v_iload_n hX dX9_seed_6 rfl 2 rfl 7 rfl ?_
  refine pf_52_12 hX q_112 dX9_seed_7 10 rfl [(33, p1)] rfl ?_
  refine v_iload_n hX dX9_seed_10 rfl 0 rfl 11 rfl ?_
  exact hR _ hf _ _ dX9_seed_11 rfl
set_option maxRecDepth 100000 in
set_option maxHeartbeats 4000000 in
theorem c9_seen (r : Nat → Int32) (g : Nat → Nat → Int32) (u : Nat → Int64) (h : Nat → Nat → Int64) (p1 : Int32) {res : Int32 × (Nat → Int32)} (hf : f9_seen (r 31) (r 30) (g 57) (g 55) (g 58) (g 56) (g 68) p1 = some res) : MAi yX9_seen cX9_seen 6 (some .int) 4 (fun a => [.ref (a 52), .int p1]) r g u h res.1 r (lkp g [(68, res.2)]) u h := by
  refine mi_i (by decide +kernel) (fun a => Nat.le_of_ble_eq_true rfl) (fun X hX hn hR => ?_)
  replace hR : ∀ q : Int32 × (Nat → Int32), some q = some res → ∀ lv pc, decode cX9_seen pc = .ok (.ireturn, 1) → narrow .int (.int q.1) = .int q.1 → VC X r (lkp g [(68, q.2)]) u h lv [.int q.1] pc := fun q hq => by cases hq; exact hR
  replace hX : CX X RX9 cX9_seen 4 := hX
  refine v_opg [68] [(68, g 68)] rfl ?_
  show VC X r (lkp g [(68, g 68)]) u h [(0, .ref (aX X 52)), (1, .int p1)] [] 0
  rw [f9_seen] at hf
  refine v_iload_n hX dX9_seen_0 rfl 1 rfl 1 rfl ?_
  refine v_sipush (v := (-1000 : Int32)) hX dX9_seen_1 (by decide) 4 rfl ?_
  refine v_sipush (v := (1000 : Int32)) hX dX9_seen_4 (by decide) 7 rfl ?_
  obtain ⟨v1, hv1, hf⟩ := bn1_e hf
  refine cs_i hX (c9_in r (lkp g [(68, (g 68))]) u h _ _ _ hv1) wvX9_in q_150 (Nat.le_of_ble_eq_true rfl) (Nat.le_of_ble_eq_true rfl) (fun _ => rfl) [] rfl (Nat.le_of_ble_eq_true rfl) dX9_seen_7 10 rfl ?_
  refine v_if_ne hX dX9_seen_10 15 rfl 13 rfl (fun h33 => ?_) (fun h33 => ?_)
  · replace hf := it_n h33 hf
    refine v_aload_n hX dX9_seen_15 rfl 0 rfl 16 rfl ?_
    obtain ⟨c2, hc2, hf⟩ := bn1_e hf
    refine cv_v hX (c9_findStrengths r (lkp g [(68, (g 68))]) u h hc2) wvX9_findStrengths q_693 rc_52 (Nat.le_of_ble_eq_true rfl) (Nat.le_of_ble_eq_true rfl) (fun _ => rfl) [] rfl (Nat.le_of_ble_eq_true rfl) dX9_seen_16 19 rfl ?_
    refine v_mgg [(68, c2)] rfl ?_
    refine v_bipush (v := (-3 : Int32)) hX dX9_seen_19 (by decide) 21 rfl ?_
    refine v_istore_n hX dX9_seen_21 rfl (ltn hn (by decide)) 22 rfl [(2, .int (-3 : Int32)), (0, .ref (aX X 52)), (1, .int p1)] rfl ?_
    refine v_iconst (v := (0 : Int32)) hX dX9_seen_22 (by decide) 23 rfl ?_
    refine v_istore_n hX dX9_seen_23 rfl (ltn hn (by decide)) 24 rfl [(3, .int (0 : Int32)), (2, .int (-3 : Int32)), (0, .ref (aX X 52)), (1, .int p1)] rfl ?_
    obtain ⟨K5, hK5, hf⟩ := jn_x hf
    have HK5 : ∀ (x3 : Int32) (x4 : Int32), K5 x3 x4 = some res → VC X r (lkp g [(68, c2)]) u h [(2, .int x3)] [] 143 := by
      intro x3 x4 hf
      rw [hK5] at hf
      refine v_iload_n hX dX9_seen_143 rfl 0 rfl 144 rfl ?_
      exact hR _ hf _ _ dX9_seen_144 rfl
    have HLK5 : ∀ (n6 : Nat) (x3 : Int32) (x4 : Int32), f9_seen_L24 (r 31) (g 57) (g 58) p1 c2 n6 x3 x4 K5 = some res → VC X r (lkp g [(68, c2)]) u h [(0, .ref (aX X 52)), (1, .int p1), (2, .int x3), (3, .int x4)] [] 24 := by
      intro n6
      induction n6 with
      | zero => intro x3 x4 hf; exact no_s hf
      | succ n6 ih =>
        intro x3 x4 hf
        rw [f9_seen_L24] at hf
        refine v_iload_n hX dX9_seen_24 rfl 3 rfl 25 rfl ?_
        refine v_iconst (v := (1 : Int32)) hX dX9_seen_25 (by decide) 26 rfl ?_
        refine v_aload_n hX dX9_seen_26 rfl 0 rfl 27 rfl ?_
        refine gf_52_5 hX q_462 dX9_seen_27 ((r 31)) rfl 30 rfl ?_
        refine v_ishl hX dX9_seen_30 31 rfl ?_
        refine v_icmp_ge hX dX9_seen_31 143 rfl 34 rfl (fun h32 => ?_) (fun h32 => ?_)
        · replace hf := it_p h32 hf
          refine v_sub [(2, .int x3)] (sbc 2 rfl sbn) ?_
          exact HK5 _ _ hf
        · replace hf := it_n h32 hf
          refine v_iconst (v := (0 : Int32)) hX dX9_seen_34 (by decide) 35 rfl ?_
          refine v_istore hX dX9_seen_35 (ltn hn (by decide)) 37 rfl [(4, .int (0 : Int32)), (0, .ref (aX X 52)), (1, .int p1), (2, .int x3), (3, .int x4)] rfl ?_
          refine v_iconst (v := (0 : Int32)) hX dX9_seen_37 (by decide) 38 rfl ?_
          refine v_istore hX dX9_seen_38 (ltn hn (by decide)) 40 rfl [(5, .int (0 : Int32)), (4, .int (0 : Int32)), (0, .ref (aX X 52)), (1, .int p1), (2, .int x3), (3, .int x4)] rfl ?_
          obtain ⟨K9, hK9, hf⟩ := jn_x hf
          have HK9 : ∀ (x7 : Int32) (x8 : Int32), K9 x7 x8 = some res → VC X r (lkp g [(68, c2)]) u h [(0, .ref (aX X 52)), (1, .int p1), (2, .int x3), (3, .int x4), (4, .int x7)] [] 91 := by
            intro x7 x8 hf
            rw [hK9] at hf
            refine v_iload_n hX dX9_seen_91 rfl 3 rfl 92 rfl ?_
            obtain ⟨v19, hv19, hf⟩ := bn1_e hf
            refine cs_i hX (c9_ones r (lkp g [(68, c2)]) u h _ hv19) wvX9_ones q_701 (Nat.le_of_ble_eq_true rfl) (Nat.le_of_ble_eq_true rfl) (fun _ => rfl) [] rfl (Nat.le_of_ble_eq_true rfl) dX9_seen_92 95 rfl ?_
            refine v_iconst (v := (1 : Int32)) hX dX9_seen_95 (by decide) 96 rfl ?_
            obtain ⟨J20, hJ20, hf⟩ := jn_x hf
            have HJ20 : ∀ (s21 : Int32), J20 s21 = some res → VC X r (lkp g [(68, c2)]) u h [(0, .ref (aX X 52)), (1, .int p1), (2, .int x3), (3, .int x4), (4, .int x7)] [.int s21] 123 := by
              intro s21 hf
              rw [hJ20] at hf
              refine v_istore hX dX9_seen_123 (ltn hn (by decide)) 125 rfl [(5, .int s21), (0, .ref (aX X 52)), (1, .int p1), (2, .int x3), (3, .int x4), (4, .int x7)] rfl ?_
              refine v_iload hX dX9_seen_125 0 rfl 127 rfl ?_
              obtain ⟨J22, hJ22, hf⟩ := jn_x hf
              have HJ22 : ∀ (s23 : Int32), J22 s23 = some res → VC X r (lkp g [(68, c2)]) u h [(0, .ref (aX X 52)), (1, .int p1), (3, .int x4)] [.int s23] 136 := by
                intro s23 hf
                rw [hJ22] at hf
                refine v_istore_n hX dX9_seen_136 rfl (ltn hn (by decide)) 137 rfl [(2, .int s23), (0, .ref (aX X 52)), (1, .int p1), (3, .int x4)] rfl ?_
                refine v_inc (c := (1 : Int32)) hX dX9_seen_137 3 rfl (by decide) (ltn hn (by decide)) 140 rfl [(3, .int (x4 + (1 : Int32))), (2, .int s23), (0, .ref (aX X 52)), (1, .int p1)] rfl ?_
                refine v_goto hX dX9_seen_140 24 rfl ?_
                refine v_sub [(0, .ref (aX X 52)), (1, .int p1), (2, .int s23), (3, .int (x4 + (1 : Int32)))] (sbc 2 rfl (sbc 3 rfl (sbc 1 rfl (sbc 0 rfl sbn)))) ?_
                exact ih _ _ hf
              refine v_if_eq hX dX9_seen_127 135 rfl 130 rfl (fun h24 => ?_) (fun h24 => ?_)
              · replace hf := it_p h24 hf
                refine v_iload_n hX dX9_seen_135 rfl 3 rfl 136 rfl ?_
                refine v_sub [(0, .ref (aX X 52)), (1, .int p1), (3, .int x4)] (sbc 1 rfl (sbc 2 rfl (sbc 4 rfl sbn))) ?_
                exact HJ22 _ hf
              · replace hf := it_n h24 hf
                refine v_iload hX dX9_seen_130 5 rfl 132 rfl ?_
                refine v_goto hX dX9_seen_132 136 rfl ?_
                refine v_sub [(0, .ref (aX X 52)), (1, .int p1), (3, .int x4)] (sbc 1 rfl (sbc 2 rfl (sbc 4 rfl sbn))) ?_
                exact HJ22 _ hf
            obtain ⟨J25, hJ25, hf⟩ := jn_x hf
            have HJ25 : J25 = some res → VC X r (lkp g [(68, c2)]) u h [(0, .ref (aX X 52)), (1, .int p1), (2, .int x3), (3, .int x4), (4, .int x7)] [] 122 := by
              intro hf
              rw [hJ25] at hf
              refine v_iconst (v := (0 : Int32)) hX dX9_seen_122 (by decide) 123 rfl ?_
              exact HJ20 _ hf
            refine v_icmp_le hX dX9_seen_96 122 rfl 99 rfl (fun h31 => ?_) (fun h31 => ?_)
            · replace hf := it_p h31 hf
              exact HJ25  hf
            · replace hf := it_n h31 hf
              refine v_iload_n hX dX9_seen_99 rfl 2 rfl 100 rfl ?_
              obtain ⟨J26, hJ26, hf⟩ := jn_x hf
              have HJ26 : J26 = some res → VC X r (lkp g [(68, c2)]) u h [(0, .ref (aX X 52)), (1, .int p1), (2, .int x3), (3, .int x4), (4, .int x7)] [] 109 := by
                intro hf
                rw [hJ26] at hf
                refine v_aload_n hX dX9_seen_109 rfl 0 rfl 110 rfl ?_
                refine v_iload_n hX dX9_seen_110 rfl 3 rfl 111 rfl ?_
                obtain ⟨v27, hv27, hf⟩ := bn1_e hf
                refine cv_i hX (c9_scoreOf r (lkp g [(68, c2)]) u h _ hv27) wvX9_scoreOf q_697 rc_52 (Nat.le_of_ble_eq_true rfl) (Nat.le_of_ble_eq_true rfl) (fun _ => rfl) [] rfl (Nat.le_of_ble_eq_true rfl) dX9_seen_111 114 rfl ?_
                refine v_iload_n hX dX9_seen_114 rfl 1 rfl 115 rfl ?_
                refine v_icmp_lt hX dX9_seen_115 122 rfl 118 rfl (fun h28 => ?_) (fun h28 => ?_)
                · replace hf := it_p h28 hf
                  exact HJ25  hf
                · replace hf := it_n h28 hf
                  refine v_iconst (v := (1 : Int32)) hX dX9_seen_118 (by decide) 119 rfl ?_
                  refine v_goto hX dX9_seen_119 123 rfl ?_
                  exact HJ20 _ hf
              refine v_if_lt hX dX9_seen_100 109 rfl 103 rfl (fun h30 => ?_) (fun h30 => ?_)
              · replace hf := it_p h30 hf
                exact HJ26  hf
              · replace hf := it_n h30 hf
                refine v_iload hX dX9_seen_103 4 rfl 105 rfl ?_
                refine v_iload_n hX dX9_seen_105 rfl 2 rfl 106 rfl ?_
                refine v_icmp_ge hX dX9_seen_106 122 rfl 109 rfl (fun h29 => ?_) (fun h29 => ?_)
                · replace hf := it_p h29 hf
                  exact HJ25  hf
                · replace hf := it_n h29 hf
                  exact HJ26  hf
          have HLK9 : ∀ (n10 : Nat) (x7 : Int32) (x8 : Int32), f9_seen_L40 (r 31) (g 57) x4 n10 x7 x8 K9 = some res → VC X r (lkp g [(68, c2)]) u h [(0, .ref (aX X 52)), (1, .int p1), (2, .int x3), (3, .int x4), (4, .int x7), (5, .int x8)] [] 40 := by
            intro n10
            induction n10 with
            | zero => intro x7 x8 hf; exact no_s hf
            | succ n10 ih =>
              intro x7 x8 hf
              rw [f9_seen_L40] at hf
              refine v_iload hX dX9_seen_40 5 rfl 42 rfl ?_
              refine v_aload_n hX dX9_seen_42 rfl 0 rfl 43 rfl ?_
              refine gf_52_5 hX q_462 dX9_seen_43 ((r 31)) rfl 46 rfl ?_
              refine v_icmp_ge hX dX9_seen_46 91 rfl 49 rfl (fun h18 => ?_) (fun h18 => ?_)
              · replace hf := it_p h18 hf
                refine v_sub [(0, .ref (aX X 52)), (1, .int p1), (2, .int x3), (3, .int x4), (4, .int x7)] (sbc 0 rfl (sbc 1 rfl (sbc 2 rfl (sbc 3 rfl (sbc 4 rfl sbn))))) ?_
                exact HK9 _ _ hf
              · replace hf := it_n h18 hf
                refine v_iload_n hX dX9_seen_49 rfl 3 rfl 50 rfl ?_
                refine v_iload hX dX9_seen_50 5 rfl 52 rfl ?_
                refine v_ishr hX dX9_seen_52 53 rfl ?_
                refine v_iconst (v := (1 : Int32)) hX dX9_seen_53 (by decide) 54 rfl ?_
                refine v_iand hX dX9_seen_54 55 rfl ?_
                refine v_iconst (v := (1 : Int32)) hX dX9_seen_55 (by decide) 56 rfl ?_
                obtain ⟨J11, hJ11, hf⟩ := jn_x hf
                have HJ11 : ∀ (s12 : Int32), J11 s12 = some res → VC X r (lkp g [(68, c2)]) u h [(0, .ref (aX X 52)), (1, .int p1), (2, .int x3), (3, .int x4), (5, .int x8)] [.int s12] 83 := by
                  intro s12 hf
                  rw [hJ11] at hf
                  refine v_istore hX dX9_seen_83 (ltn hn (by decide)) 85 rfl [(4, .int s12), (0, .ref (aX X 52)), (1, .int p1), (2, .int x3), (3, .int x4), (5, .int x8)] rfl ?_
                  refine v_inc (c := (1 : Int32)) hX dX9_seen_85 5 rfl (by decide) (ltn hn (by decide)) 88 rfl [(5, .int (x8 + (1 : Int32))), (4, .int s12), (0, .ref (aX X 52)), (1, .int p1), (2, .int x3), (3, .int x4)] rfl ?_
                  refine v_goto hX dX9_seen_88 40 rfl ?_
                  refine v_sub [(0, .ref (aX X 52)), (1, .int p1), (2, .int x3), (3, .int x4), (4, .int s12), (5, .int (x8 + (1 : Int32)))] (sbc 2 rfl (sbc 3 rfl (sbc 4 rfl (sbc 5 rfl (sbc 1 rfl (sbc 0 rfl sbn)))))) ?_
                  exact ih _ _ hf
                obtain ⟨J13, hJ13, hf⟩ := jn_x hf
                have HJ13 : J13 = some res → VC X r (lkp g [(68, c2)]) u h [(0, .ref (aX X 52)), (1, .int p1), (2, .int x3), (3, .int x4), (4, .int x7), (5, .int x8)] [] 81 := by
                  intro hf
                  rw [hJ13] at hf
                  refine v_iload hX dX9_seen_81 4 rfl 83 rfl ?_
                  refine v_sub [(0, .ref (aX X 52)), (1, .int p1), (2, .int x3), (3, .int x4), (5, .int x8)] (sbc 0 rfl (sbc 1 rfl (sbc 2 rfl (sbc 3 rfl (sbc 5 rfl sbn))))) ?_
                  exact HJ11 _ hf
                refine v_icmp_ne hX dX9_seen_56 81 rfl 59 rfl (fun h17 => ?_) (fun h17 => ?_)
                · replace hf := it_n h17 hf
                  exact HJ13  hf
                · replace hf := it_p h17 hf
                  refine v_aload_n hX dX9_seen_59 rfl 0 rfl 60 rfl ?_
                  refine v_iload hX dX9_seen_60 5 rfl 62 rfl ?_
                  refine v_iconst (v := (1 : Int32)) hX dX9_seen_62 (by decide) 63 rfl ?_
                  obtain ⟨v14, hv14, hf⟩ := bn1_e hf
                  refine cv_i hX (c9_its r (lkp g [(68, c2)]) u h _ _ hv14) wvX9_its q_471 rc_52 (Nat.le_of_ble_eq_true rfl) (Nat.le_of_ble_eq_true rfl) (fun _ => rfl) [] rfl (Nat.le_of_ble_eq_true rfl) dX9_seen_63 66 rfl ?_
                  refine v_iload hX dX9_seen_66 4 rfl 68 rfl ?_
                  refine v_icmp_le hX dX9_seen_68 81 rfl 71 rfl (fun h16 => ?_) (fun h16 => ?_)
                  · replace hf := it_p h16 hf
                    exact HJ13  hf
                  · replace hf := it_n h16 hf
                    refine v_aload_n hX dX9_seen_71 rfl 0 rfl 72 rfl ?_
                    refine v_iload hX dX9_seen_72 5 rfl 74 rfl ?_
                    refine v_iconst (v := (1 : Int32)) hX dX9_seen_74 (by decide) 75 rfl ?_
                    obtain ⟨v15, hv15, hf⟩ := bn1_e hf
                    refine cv_i hX (c9_its r (lkp g [(68, c2)]) u h _ _ hv15) wvX9_its q_471 rc_52 (Nat.le_of_ble_eq_true rfl) (Nat.le_of_ble_eq_true rfl) (fun _ => rfl) [] rfl (Nat.le_of_ble_eq_true rfl) dX9_seen_75 78 rfl ?_
                    refine v_goto hX dX9_seen_78 83 rfl ?_
                    refine v_sub [(0, .ref (aX X 52)), (1, .int p1), (2, .int x3), (3, .int x4), (5, .int x8)] (sbc 0 rfl (sbc 1 rfl (sbc 2 rfl (sbc 3 rfl (sbc 5 rfl sbn))))) ?_
                    exact HJ11 _ hf
          refine v_sub [(0, .ref (aX X 52)), (1, .int p1), (2, .int x3), (3, .int x4), (4, .int (0 : Int32)), (5, .int (0 : Int32))] (sbc 2 rfl (sbc 3 rfl (sbc 4 rfl (sbc 5 rfl (sbc 1 rfl (sbc 0 rfl sbn)))))) ?_
          exact HLK9 _ _ _ hf
    refine v_sub [(0, .ref (aX X 52)), (1, .int p1), (2, .int (-3 : Int32)), (3, .int (0 : Int32))] (sbc 2 rfl (sbc 3 rfl (sbc 1 rfl (sbc 0 rfl sbn)))) ?_
    exact HLK5 _ _ _ hf
  · replace hf := it_p h33 hf
    refine v_iconst (v := (-1 : Int32)) hX dX9_seen_13 (by decide) 14 rfl ?_
    exact hR _ hf _ _ dX9_seen_14 rfl
set_option maxRecDepth 100000 in
set_option maxHeartbeats 4000000 in
theorem c9_set (r : Nat → Int32) (g : Nat → Nat → Int32) (u : Nat → Int64) (h : Nat → Nat → Int64) (p1 : Int32) (p2 : Int32) {res : Int32 × (Nat → Int32)} (hf : f9_set (g 58) (g 59) p1 p2 = some res) : MAi yX9_set cX9_set 4 (some .int) 1 (fun a => [.ref (a 52), .int p1, .int p2]) r g u h res.1 r (lkp g [(58, res.2)]) u h := by
  refine mi_i (by decide +kernel) (fun a => Nat.le_of_ble_eq_true rfl) (fun X hX hn hR => ?_)
  replace hR : ∀ q : Int32 × (Nat → Int32), some q = some res → ∀ lv pc, decode cX9_set pc = .ok (.ireturn, 1) → narrow .int (.int q.1) = .int q.1 → VC X r (lkp g [(58, q.2)]) u h lv [.int q.1] pc := fun q hq => by cases hq; exact hR
  replace hX : CX X RX9 cX9_set 1 := hX
  refine v_opg [58] [(58, g 58)] rfl ?_
  show VC X r (lkp g [(58, g 58)]) u h [(0, .ref (aX X 52)), (1, .int p1), (2, .int p2)] [] 0
  rw [f9_set] at hf
  refine v_iload_n hX dX9_set_0 rfl 1 rfl 1 rfl ?_
  refine v_iconst (v := (0 : Int32)) hX dX9_set_1 (by decide) 2 rfl ?_
  refine v_bipush (v := (6 : Int32)) hX dX9_set_2 (by decide) 4 rfl ?_
  obtain ⟨v1, hv1, hf⟩ := bn1_e hf
  refine cs_i hX (c9_in r (lkp g [(58, (g 58))]) u h _ _ _ hv1) wvX9_in q_150 (Nat.le_of_ble_eq_true rfl) (Nat.le_of_ble_eq_true rfl) (fun _ => rfl) [] rfl (Nat.le_of_ble_eq_true rfl) dX9_set_4 7 rfl ?_
  refine v_if_eq hX dX9_set_7 38 rfl 10 rfl (fun h11 => ?_) (fun h11 => ?_)
  · replace hf := it_p h11 hf
    refine v_iconst (v := (-1 : Int32)) hX dX9_set_38 (by decide) 39 rfl ?_
    exact hR _ hf _ _ dX9_set_39 rfl
  · replace hf := it_n h11 hf
    refine v_iload_n hX dX9_set_10 rfl 2 rfl 11 rfl ?_
    refine v_iconst (v := (0 : Int32)) hX dX9_set_11 (by decide) 12 rfl ?_
    refine v_aload_n hX dX9_set_12 rfl 0 rfl 13 rfl ?_
    refine gf_52_8 hX q_109 dX9_set_13 16 rfl ?_
    refine v_iload_n hX dX9_set_16 rfl 1 rfl 17 rfl ?_
    refine v_iconst (v := (0 : Int32)) hX dX9_set_17 (by decide) 18 rfl ?_
    refine v_bipush (v := (6 : Int32)) hX dX9_set_18 (by decide) 20 rfl ?_
    obtain ⟨v2, hv2, hf⟩ := bn1_e hf
    refine cs_i hX (c9_in r (lkp g [(58, (g 58))]) u h _ _ _ hv2) wvX9_in q_150 (Nat.le_of_ble_eq_true rfl) (Nat.le_of_ble_eq_true rfl) (fun _ => rfl) [.ref (aX X 59), .int (0 : Int32), .int p2] rfl (Nat.le_of_ble_eq_true rfl) dX9_set_20 23 rfl ?_
    obtain ⟨J3, hJ3, hf⟩ := jn_x hf
    have HJ3 : ∀ (s4 : Int32), J3 s4 = some res → VC X r (lkp g [(58, (g 58))]) u h [(0, .ref (aX X 52)), (1, .int p1), (2, .int p2)] [.int s4, .ref (aX X 59), .int (0 : Int32), .int p2] 31 := by
      intro s4 hf
      rw [hJ3] at hf
      obtain ⟨hi5, hf⟩ := gd_e hf
      refine al_59 hX hi5 dX9_set_31 ((g 59) s4.toNatClampNeg) rfl 32 rfl ?_
      obtain ⟨v6, hv6, hf⟩ := bn1_e hf
      refine cs_i hX (c9_in r (lkp g [(58, (g 58))]) u h _ _ _ hv6) wvX9_in q_150 (Nat.le_of_ble_eq_true rfl) (Nat.le_of_ble_eq_true rfl) (fun _ => rfl) [] rfl (Nat.le_of_ble_eq_true rfl) dX9_set_32 35 rfl ?_
      refine v_if_ne hX dX9_set_35 40 rfl 38 rfl (fun h9 => ?_) (fun h9 => ?_)
      · replace hf := it_n h9 hf
        refine v_aload_n hX dX9_set_40 rfl 0 rfl 41 rfl ?_
        refine gf_52_7 hX q_108 dX9_set_41 44 rfl ?_
        refine v_iload_n hX dX9_set_44 rfl 1 rfl 45 rfl ?_
        obtain ⟨hi7, hf⟩ := gd_e hf
        refine al_58 hX hi7 dX9_set_45 ((g 58) p1.toNatClampNeg) rfl 46 rfl ?_
        refine v_istore_n hX dX9_set_46 rfl (ltn hn (by decide)) 47 rfl [(3, .int ((g 58) p1.toNatClampNeg)), (0, .ref (aX X 52)), (1, .int p1), (2, .int p2)] rfl ?_
        refine v_aload_n hX dX9_set_47 rfl 1 rfl 48 rfl ?_
        refine gf_52_7 hX q_108 dX9_set_48 51 rfl ?_
        refine v_iload_n hX dX9_set_51 rfl 2 rfl 52 rfl ?_
        refine v_iload_n hX dX9_set_52 rfl 3 rfl 53 rfl ?_
        obtain ⟨hi8, hf⟩ := gd_e hf
        refine as_58 hX hi8 dX9_set_53 54 rfl (g 58) rfl [(58, (upd (g 58) p1.toNatClampNeg p2))] rfl ?_
        refine v_iload_n hX dX9_set_54 rfl 0 rfl 55 rfl ?_
        exact hR _ hf _ _ dX9_set_55 rfl
      · replace hf := it_p h9 hf
        refine v_iconst (v := (-1 : Int32)) hX dX9_set_38 (by decide) 39 rfl ?_
        exact hR _ hf _ _ dX9_set_39 rfl
    refine v_if_eq hX dX9_set_23 30 rfl 26 rfl (fun h10 => ?_) (fun h10 => ?_)
    · replace hf := it_p h10 hf
      refine v_iconst (v := (0 : Int32)) hX dX9_set_30 (by decide) 31 rfl ?_
      exact HJ3 _ hf
    · replace hf := it_n h10 hf
      refine v_iload_n hX dX9_set_26 rfl 1 rfl 27 rfl ?_
      refine v_goto hX dX9_set_27 31 rfl ?_
      exact HJ3 _ hf
set_option maxRecDepth 100000 in
set_option maxHeartbeats 4000000 in
theorem c9_sheet (r : Nat → Int32) (g : Nat → Nat → Int32) (u : Nat → Int64) (h : Nat → Nat → Int64) (p1 : Int32) (p2 : Int32) (p3 : Int32) {res : Int32 × (Nat → Int32) × (Nat → Int32) × (Nat → Int64)} (hf : f9_sheet (g 75) (g 74) (h 76) p1 p2 p3 = some res) : MAi yX9_sheet cX9_sheet 5 (some .int) 2 (fun a => [.ref (a 52), .int p1, .int p2, .int p3]) r g u h res.1 r (lkp g [(75, res.2.1), (74, res.2.2.1)]) u (lkp h [(76, res.2.2.2)]) := by
  refine mi_i (by decide +kernel) (fun a => Nat.le_of_ble_eq_true rfl) (fun X hX hn hR => ?_)
  replace hR : ∀ q : Int32 × (Nat → Int32) × (Nat → Int32) × (Nat → Int64), some q = some res → ∀ lv pc, decode cX9_sheet pc = .ok (.ireturn, 1) → narrow .int (.int q.1) = .int q.1 → VC X r (lkp g [(75, q.2.1), (74, q.2.2.1)]) u (lkp h [(76, q.2.2.2)]) lv [.int q.1] pc := fun q hq => by cases hq; exact hR
  replace hX : CX X RX9 cX9_sheet 2 := hX
  refine v_opg [75, 74] [(75, g 75), (74, g 74)] rfl ?_
  refine v_oph [76] [(76, h 76)] rfl ?_
  show VC X r (lkp g [(75, g 75), (74, g 74)]) u (lkp h [(76, h 76)]) [(0, .ref (aX X 52)), (1, .int p1), (2, .int p2), (3, .int p3)] [] 0
  rw [f9_sheet] at hf
  refine v_iload_n hX dX9_sheet_0 rfl 1 rfl 1 rfl ?_
  obtain ⟨v1, hv1, hf⟩ := bn1_e hf
  refine cs_i hX (c9_isShelf r (lkp g [(75, (g 75)), (74, (g 74))]) u (lkp h [(76, (h 76))]) _ hv1) wvX9_isShelf q_1028 (Nat.le_of_ble_eq_true rfl) (Nat.le_of_ble_eq_true rfl) (fun _ => rfl) [] rfl (Nat.le_of_ble_eq_true rfl) dX9_sheet_1 4 rfl ?_
  refine v_if_eq hX dX9_sheet_4 26 rfl 7 rfl (fun h21 => ?_) (fun h21 => ?_)
  · replace hf := it_p h21 hf
    refine v_iconst (v := (-1 : Int32)) hX dX9_sheet_26 (by decide) 27 rfl ?_
    exact hR _ hf _ _ dX9_sheet_27 rfl
  · replace hf := it_n h21 hf
    refine v_iload_n hX dX9_sheet_7 rfl 2 rfl 8 rfl ?_
    refine v_iconst (v := (-1 : Int32)) hX dX9_sheet_8 (by decide) 9 rfl ?_
    refine v_iconst (v := (3 : Int32)) hX dX9_sheet_9 (by decide) 10 rfl ?_
    obtain ⟨v2, hv2, hf⟩ := bn1_e hf
    refine cs_i hX (c9_in r (lkp g [(75, (g 75)), (74, (g 74))]) u (lkp h [(76, (h 76))]) _ _ _ hv2) wvX9_in q_150 (Nat.le_of_ble_eq_true rfl) (Nat.le_of_ble_eq_true rfl) (fun _ => rfl) [] rfl (Nat.le_of_ble_eq_true rfl) dX9_sheet_10 13 rfl ?_
    refine v_if_eq hX dX9_sheet_13 26 rfl 16 rfl (fun h20 => ?_) (fun h20 => ?_)
    · replace hf := it_p h20 hf
      refine v_iconst (v := (-1 : Int32)) hX dX9_sheet_26 (by decide) 27 rfl ?_
      exact hR _ hf _ _ dX9_sheet_27 rfl
    · replace hf := it_n h20 hf
      refine v_iload_n hX dX9_sheet_16 rfl 2 rfl 17 rfl ?_
      obtain ⟨J3, hJ3, hf⟩ := jn_x hf
      have HJ3 : J3 = some res → VC X r (lkp g [(75, (g 75)), (74, (g 74))]) u (lkp h [(76, (h 76))]) [(0, .ref (aX X 52)), (1, .int p1), (2, .int p2), (3, .int p3)] [] 28 := by
        intro hf
        rw [hJ3] at hf
        refine v_iload_n hX dX9_sheet_28 rfl 2 rfl 29 rfl ?_
        obtain ⟨J4, hJ4, hf⟩ := jn_x hf
        have HJ4 : J4 = some res → VC X r (lkp g [(75, (g 75)), (74, (g 74))]) u (lkp h [(76, (h 76))]) [(0, .ref (aX X 52)), (1, .int p1), (2, .int p2), (3, .int p3)] [] 39 := by
          intro hf
          rw [hJ4] at hf
          refine v_aload_n hX dX9_sheet_39 rfl 0 rfl 40 rfl ?_
          refine gf_52_40 hX q_125 dX9_sheet_40 43 rfl ?_
          refine v_iload_n hX dX9_sheet_43 rfl 1 rfl 44 rfl ?_
          refine v_iload_n hX dX9_sheet_44 rfl 2 rfl 45 rfl ?_
          obtain ⟨hi5, hf⟩ := gd_e hf
          refine as_74 hX hi5 dX9_sheet_45 46 rfl (g 74) rfl [(75, (g 75)), (74, (upd (g 74) p1.toNatClampNeg p2))] rfl ?_
          refine v_aload_n hX dX9_sheet_46 rfl 0 rfl 47 rfl ?_
          refine gf_52_41 hX q_126 dX9_sheet_47 50 rfl ?_
          refine v_iload_n hX dX9_sheet_50 rfl 1 rfl 51 rfl ?_
          refine v_iload_n hX dX9_sheet_51 rfl 2 rfl 52 rfl ?_
          obtain ⟨J6, hJ6, hf⟩ := jn_x hf
          have HJ6 : ∀ (s7 : Int32), J6 s7 = some res → VC X r (lkp g [(75, (g 75)), (74, (upd (g 74) p1.toNatClampNeg p2))]) u (lkp h [(76, (h 76))]) [(0, .ref (aX X 52)), (1, .int p1)] [.int s7, .int p1, .ref (aX X 75)] 60 := by
            intro s7 hf
            rw [hJ6] at hf
            obtain ⟨hi8, hf⟩ := gd_e hf
            refine as_75 hX hi8 dX9_sheet_60 61 rfl (g 75) rfl [(75, (upd (g 75) p1.toNatClampNeg s7)), (74, (upd (g 74) p1.toNatClampNeg p2))] rfl ?_
            refine v_iconst (v := (0 : Int32)) hX dX9_sheet_61 (by decide) 62 rfl ?_
            refine v_istore hX dX9_sheet_62 (ltn hn (by decide)) 64 rfl [(4, .int (0 : Int32)), (0, .ref (aX X 52)), (1, .int p1)] rfl ?_
            obtain ⟨K11, hK11, hf⟩ := jn_x hf
            have HK11 : ∀ (x9 : Int32) (c10 : (Nat → Int64)), K11 x9 c10 = some res → VC X r (lkp g [(75, (upd (g 75) p1.toNatClampNeg s7)), (74, (upd (g 74) p1.toNatClampNeg p2))]) u (lkp h [(76, c10)]) [] [] 90 := by
              intro x9 c10 hf
              rw [hK11] at hf
              refine v_iconst (v := (1 : Int32)) hX dX9_sheet_90 (by decide) 91 rfl ?_
              exact hR _ hf _ _ dX9_sheet_91 rfl
            have HLK11 : ∀ (n12 : Nat) (x9 : Int32) (c10 : (Nat → Int64)), f9_sheet_L64 p1 n12 x9 c10 K11 = some res → VC X r (lkp g [(75, (upd (g 75) p1.toNatClampNeg s7)), (74, (upd (g 74) p1.toNatClampNeg p2))]) u (lkp h [(76, c10)]) [(0, .ref (aX X 52)), (1, .int p1), (4, .int x9)] [] 64 := by
              intro n12
              induction n12 with
              | zero => intro x9 c10 hf; exact no_s hf
              | succ n12 ih =>
                intro x9 c10 hf
                rw [f9_sheet_L64] at hf
                refine v_iload hX dX9_sheet_64 2 rfl 66 rfl ?_
                refine v_bipush (v := (40 : Int32)) hX dX9_sheet_66 (by decide) 68 rfl ?_
                refine v_icmp_ge hX dX9_sheet_68 90 rfl 71 rfl (fun h14 => ?_) (fun h14 => ?_)
                · replace hf := it_p h14 hf
                  refine v_sub [] sbn ?_
                  exact HK11 _ _ hf
                · replace hf := it_n h14 hf
                  refine v_aload_n hX dX9_sheet_71 rfl 0 rfl 72 rfl ?_
                  refine gf_52_42 hX q_127 dX9_sheet_72 75 rfl ?_
                  refine v_bipush (v := (40 : Int32)) hX dX9_sheet_75 (by decide) 77 rfl ?_
                  refine v_iload_n hX dX9_sheet_77 rfl 1 rfl 78 rfl ?_
                  refine v_imul hX dX9_sheet_78 79 rfl ?_
                  refine v_iload hX dX9_sheet_79 2 rfl 81 rfl ?_
                  refine v_iadd hX dX9_sheet_81 82 rfl ?_
                  refine v_lconst (v := (0 : Int64)) hX dX9_sheet_82 (by decide) 83 rfl ?_
                  obtain ⟨hi13, hf⟩ := gd_e hf
                  refine as_76 hX hi13 dX9_sheet_83 84 rfl c10 rfl [(76, (vp_updL c10 (((40 : Int32) * p1) + x9).toNatClampNeg (0 : Int64)))] rfl ?_
                  refine v_inc (c := (1 : Int32)) hX dX9_sheet_84 2 rfl (by decide) (ltn hn (by decide)) 87 rfl [(4, .int (x9 + (1 : Int32))), (0, .ref (aX X 52)), (1, .int p1)] rfl ?_
                  refine v_goto hX dX9_sheet_87 64 rfl ?_
                  refine v_sub [(0, .ref (aX X 52)), (1, .int p1), (4, .int (x9 + (1 : Int32)))] (sbc 1 rfl (sbc 2 rfl (sbc 0 rfl sbn))) ?_
                  exact ih _ _ hf
            refine v_sub [(0, .ref (aX X 52)), (1, .int p1), (4, .int (0 : Int32))] (sbc 1 rfl (sbc 2 rfl (sbc 0 rfl sbn))) ?_
            exact HLK11 _ _ _ hf
          refine v_if_ge hX dX9_sheet_52 59 rfl 55 rfl (fun h15 => ?_) (fun h15 => ?_)
          · replace hf := it_p h15 hf
            refine v_iload_n hX dX9_sheet_59 rfl 3 rfl 60 rfl ?_
            refine v_sub [(0, .ref (aX X 52)), (1, .int p1)] (sbc 0 rfl (sbc 1 rfl sbn)) ?_
            exact HJ6 _ hf
          · replace hf := it_n h15 hf
            refine v_iconst (v := (0 : Int32)) hX dX9_sheet_55 (by decide) 56 rfl ?_
            refine v_goto hX dX9_sheet_56 60 rfl ?_
            refine v_sub [(0, .ref (aX X 52)), (1, .int p1)] (sbc 0 rfl (sbc 1 rfl sbn)) ?_
            exact HJ6 _ hf
        refine v_if_lt hX dX9_sheet_29 39 rfl 32 rfl (fun h17 => ?_) (fun h17 => ?_)
        · replace hf := it_p h17 hf
          exact HJ4  hf
        · replace hf := it_n h17 hf
          refine v_iload_n hX dX9_sheet_32 rfl 3 rfl 33 rfl ?_
          refine v_if_ge hX dX9_sheet_33 39 rfl 36 rfl (fun h16 => ?_) (fun h16 => ?_)
          · replace hf := it_p h16 hf
            exact HJ4  hf
          · replace hf := it_n h16 hf
            refine v_bipush (v := (-14 : Int32)) hX dX9_sheet_36 (by decide) 38 rfl ?_
            exact hR _ hf _ _ dX9_sheet_38 rfl
      refine v_if_lt hX dX9_sheet_17 28 rfl 20 rfl (fun h19 => ?_) (fun h19 => ?_)
      · replace hf := it_p h19 hf
        exact HJ3  hf
      · replace hf := it_n h19 hf
        refine v_iload_n hX dX9_sheet_20 rfl 3 rfl 21 rfl ?_
        refine v_bipush (v := (40 : Int32)) hX dX9_sheet_21 (by decide) 23 rfl ?_
        refine v_icmp_le hX dX9_sheet_23 28 rfl 26 rfl (fun h18 => ?_) (fun h18 => ?_)
        · replace hf := it_p h18 hf
          exact HJ3  hf
        · replace hf := it_n h18 hf
          refine v_iconst (v := (-1 : Int32)) hX dX9_sheet_26 (by decide) 27 rfl ?_
          exact hR _ hf _ _ dX9_sheet_27 rfl
set_option maxRecDepth 100000 in
set_option maxHeartbeats 4000000 in
theorem c9_isHeld (r : Nat → Int32) (g : Nat → Nat → Int32) (u : Nat → Int64) (h : Nat → Nat → Int64) (p1 : Int32) (p2 : Int32) {res : Int32} (hf : f9_isHeld (r 31) p1 p2 = some res) : MAi yX9_isHeld cX9_isHeld 3 (some .boolean) 2 (fun a => [.ref (a 52), .int p1, .int p2]) r g u h res r g u h := by
  refine mi_i (by decide +kernel) (fun a => Nat.le_of_ble_eq_true rfl) (fun X hX hn hR => ?_)
  replace hR : ∀ q : Int32, some q = some res → ∀ lv pc, decode cX9_isHeld pc = .ok (.ireturn, 1) → narrow .boolean (.int q) = .int q → VC X r g u h lv [.int q] pc := fun q hq => by cases hq; exact hR
  replace hX : CX X RX9 cX9_isHeld 2 := hX
  show VC X r g u h [(0, .ref (aX X 52)), (1, .int p1), (2, .int p2)] [] 0
  rw [f9_isHeld] at hf
  refine v_iload_n hX dX9_isHeld_0 rfl 1 rfl 1 rfl ?_
  refine v_if_ne hX dX9_isHeld_1 12 rfl 4 rfl (fun h7 => ?_) (fun h7 => ?_)
  · replace hf := it_n h7 hf
    refine v_iload_n hX dX9_isHeld_12 rfl 1 rfl 13 rfl ?_
    refine v_iconst (v := (1 : Int32)) hX dX9_isHeld_13 (by decide) 14 rfl ?_
    refine v_icmp_ne hX dX9_isHeld_14 24 rfl 17 rfl (fun h4 => ?_) (fun h4 => ?_)
    · replace hf := it_n h4 hf
      refine v_iload_n hX dX9_isHeld_24 rfl 1 rfl 25 rfl ?_
      refine v_iconst (v := (2 : Int32)) hX dX9_isHeld_25 (by decide) 26 rfl ?_
      refine v_icmp_ne hX dX9_isHeld_26 33 rfl 29 rfl (fun h1 => ?_) (fun h1 => ?_)
      · replace hf := it_n h1 hf
        refine v_iconst (v := (0 : Int32)) hX dX9_isHeld_33 (by decide) 34 rfl ?_
        exact hR _ hf _ _ dX9_isHeld_34 (bz_nar (v := (0 : Int32)) (by decide))
      · replace hf := it_p h1 hf
        refine v_iconst (v := (1 : Int32)) hX dX9_isHeld_29 (by decide) 30 rfl ?_
        refine v_goto hX dX9_isHeld_30 34 rfl ?_
        exact hR _ hf _ _ dX9_isHeld_34 (bz_nar (v := (1 : Int32)) (by decide))
    · replace hf := it_p h4 hf
      refine v_iload_n hX dX9_isHeld_17 rfl 2 rfl 18 rfl ?_
      obtain ⟨v2, hv2, hf⟩ := bn1_e hf
      refine cs_i hX (c9_isShelf r g u h _ hv2) wvX9_isShelf q_1028 (Nat.le_of_ble_eq_true rfl) (Nat.le_of_ble_eq_true rfl) (fun _ => rfl) [] rfl (Nat.le_of_ble_eq_true rfl) dX9_isHeld_18 21 rfl ?_
      refine v_goto hX dX9_isHeld_21 34 rfl ?_
      obtain ⟨hb3, hf⟩ := gd_e hf
      exact hR _ hf _ _ dX9_isHeld_34 (bz_nar hb3)
  · replace hf := it_p h7 hf
    refine v_aload_n hX dX9_isHeld_4 rfl 0 rfl 5 rfl ?_
    refine v_iload_n hX dX9_isHeld_5 rfl 2 rfl 6 rfl ?_
    obtain ⟨v5, hv5, hf⟩ := bn1_e hf
    refine cv_i hX (c9_isClaim r g u h _ hv5) wvX9_isClaim q_525 rc_52 (Nat.le_of_ble_eq_true rfl) (Nat.le_of_ble_eq_true rfl) (fun _ => rfl) [] rfl (Nat.le_of_ble_eq_true rfl) dX9_isHeld_6 9 rfl ?_
    refine v_goto hX dX9_isHeld_9 34 rfl ?_
    obtain ⟨hb6, hf⟩ := gd_e hf
    exact hR _ hf _ _ dX9_isHeld_34 (bz_nar hb6)
set_option maxRecDepth 100000 in
set_option maxHeartbeats 4000000 in
theorem c9_shelf (r : Nat → Int32) (g : Nat → Nat → Int32) (u : Nat → Int64) (h : Nat → Nat → Int64) (p1 : Int32) (p2 : Int32) (p3 : Int32) {res : Int32 × (Nat → Int32) × (Nat → Int32) × (Nat → Int32)} (hf : f9_shelf (r 31) (g 77) (g 78) (g 79) (g 75) (g 74) p1 p2 p3 = some res) : MAi yX9_shelf cX9_shelf 4 (some .int) 3 (fun a => [.ref (a 52), .int p1, .int p2, .int p3]) r g u h res.1 r (lkp g [(77, res.2.1), (78, res.2.2.1), (79, res.2.2.2)]) u h := by
  refine mi_i (by decide +kernel) (fun a => Nat.le_of_ble_eq_true rfl) (fun X hX hn hR => ?_)
  replace hR : ∀ q : Int32 × (Nat → Int32) × (Nat → Int32) × (Nat → Int32), some q = some res → ∀ lv pc, decode cX9_shelf pc = .ok (.ireturn, 1) → narrow .int (.int q.1) = .int q.1 → VC X r (lkp g [(77, q.2.1), (78, q.2.2.1), (79, q.2.2.2)]) u h lv [.int q.1] pc := fun q hq => by cases hq; exact hR
  replace hX : CX X RX9 cX9_shelf 3 := hX
  refine v_opg [77, 78, 79] [(77, g 77), (78, g 78), (79, g 79)] rfl ?_
  show VC X r (lkp g [(77, g 77), (78, g 78), (79, g 79)]) u h [(0, .ref (aX X 52)), (1, .int p1), (2, .int p2), (3, .int p3)] [] 0
  rw [f9_shelf] at hf
  refine v_iload_n hX dX9_shelf_0 rfl 1 rfl 1 rfl ?_
  obtain ⟨v1, hv1, hf⟩ := bn1_e hf
  refine cs_i hX (c9_isShelf r (lkp g [(77, (g 77)), (78, (g 78)), (79, (g 79))]) u h _ hv1) wvX9_isShelf q_1028 (Nat.le_of_ble_eq_true rfl) (Nat.le_of_ble_eq_true rfl) (fun _ => rfl) [] rfl (Nat.le_of_ble_eq_true rfl) dX9_shelf_1 4 rfl ?_
  refine v_if_eq hX dX9_shelf_4 16 rfl 7 rfl (fun h23 => ?_) (fun h23 => ?_)
  · replace hf := it_p h23 hf
    refine v_iconst (v := (-1 : Int32)) hX dX9_shelf_16 (by decide) 17 rfl ?_
    exact hR _ hf _ _ dX9_shelf_17 rfl
  · replace hf := it_n h23 hf
    refine v_aload_n hX dX9_shelf_7 rfl 0 rfl 8 rfl ?_
    refine v_iload_n hX dX9_shelf_8 rfl 2 rfl 9 rfl ?_
    refine v_iload_n hX dX9_shelf_9 rfl 3 rfl 10 rfl ?_
    obtain ⟨v2, hv2, hf⟩ := bn1_e hf
    refine cv_i hX (c9_isHeld r (lkp g [(77, (g 77)), (78, (g 78)), (79, (g 79))]) u h _ _ hv2) wvX9_isHeld q_1094 rc_52 (Nat.le_of_ble_eq_true rfl) (Nat.le_of_ble_eq_true rfl) (fun _ => rfl) [] rfl (Nat.le_of_ble_eq_true rfl) dX9_shelf_10 13 rfl ?_
    refine v_if_ne hX dX9_shelf_13 18 rfl 16 rfl (fun h22 => ?_) (fun h22 => ?_)
    · replace hf := it_n h22 hf
      refine v_aload_n hX dX9_shelf_18 rfl 0 rfl 19 rfl ?_
      refine gf_52_43 hX q_128 dX9_shelf_19 22 rfl ?_
      refine v_iload_n hX dX9_shelf_22 rfl 1 rfl 23 rfl ?_
      refine v_iload_n hX dX9_shelf_23 rfl 2 rfl 24 rfl ?_
      refine v_iconst (v := (2 : Int32)) hX dX9_shelf_24 (by decide) 25 rfl ?_
      obtain ⟨J3, hJ3, hf⟩ := jn_x hf
      have HJ3 : ∀ (s4 : Int32), J3 s4 = some res → VC X r (lkp g [(77, (g 77)), (78, (g 78)), (79, (g 79))]) u h [(0, .ref (aX X 52)), (1, .int p1), (2, .int p2), (3, .int p3)] [.int s4, .int p1, .ref (aX X 77)] 47 := by
        intro s4 hf
        rw [hJ3] at hf
        obtain ⟨hi5, hf⟩ := gd_e hf
        refine as_77 hX hi5 dX9_shelf_47 48 rfl (g 77) rfl [(77, (upd (g 77) p1.toNatClampNeg s4)), (78, (g 78)), (79, (g 79))] rfl ?_
        refine v_aload_n hX dX9_shelf_48 rfl 0 rfl 49 rfl ?_
        refine gf_52_44 hX q_129 dX9_shelf_49 52 rfl ?_
        refine v_iload_n hX dX9_shelf_52 rfl 1 rfl 53 rfl ?_
        refine v_iload_n hX dX9_shelf_53 rfl 2 rfl 54 rfl ?_
        refine v_iconst (v := (1 : Int32)) hX dX9_shelf_54 (by decide) 55 rfl ?_
        obtain ⟨J6, hJ6, hf⟩ := jn_x hf
        have HJ6 : ∀ (s7 : Int32), J6 s7 = some res → VC X r (lkp g [(77, (upd (g 77) p1.toNatClampNeg s4)), (78, (g 78)), (79, (g 79))]) u h [(0, .ref (aX X 52)), (1, .int p1), (2, .int p2), (3, .int p3)] [.int s7, .int p1, .ref (aX X 78)] 68 := by
          intro s7 hf
          rw [hJ6] at hf
          obtain ⟨hi8, hf⟩ := gd_e hf
          refine as_78 hX hi8 dX9_shelf_68 69 rfl (g 78) rfl [(77, (upd (g 77) p1.toNatClampNeg s4)), (78, (upd (g 78) p1.toNatClampNeg s7)), (79, (g 79))] rfl ?_
          refine v_aload_n hX dX9_shelf_69 rfl 0 rfl 70 rfl ?_
          refine gf_52_45 hX q_130 dX9_shelf_70 73 rfl ?_
          refine v_iload_n hX dX9_shelf_73 rfl 1 rfl 74 rfl ?_
          refine v_iload_n hX dX9_shelf_74 rfl 2 rfl 75 rfl ?_
          refine v_iconst (v := (1 : Int32)) hX dX9_shelf_75 (by decide) 76 rfl ?_
          obtain ⟨J9, hJ9, hf⟩ := jn_x hf
          have HJ9 : ∀ (s10 : Int32), J9 s10 = some res → VC X r (lkp g [(77, (upd (g 77) p1.toNatClampNeg s4)), (78, (upd (g 78) p1.toNatClampNeg s7)), (79, (g 79))]) u h [] [.int s10, .int p1, .ref (aX X 79)] 89 := by
            intro s10 hf
            rw [hJ9] at hf
            obtain ⟨hi11, hf⟩ := gd_e hf
            refine as_79 hX hi11 dX9_shelf_89 90 rfl (g 79) rfl [(77, (upd (g 77) p1.toNatClampNeg s4)), (78, (upd (g 78) p1.toNatClampNeg s7)), (79, (upd (g 79) p1.toNatClampNeg s10))] rfl ?_
            refine v_iconst (v := (1 : Int32)) hX dX9_shelf_90 (by decide) 91 rfl ?_
            exact hR _ hf _ _ dX9_shelf_91 rfl
          refine v_icmp_ne hX dX9_shelf_76 88 rfl 79 rfl (fun h13 => ?_) (fun h13 => ?_)
          · replace hf := it_n h13 hf
            refine v_iconst (v := (0 : Int32)) hX dX9_shelf_88 (by decide) 89 rfl ?_
            refine v_sub [] sbn ?_
            exact HJ9 _ hf
          · replace hf := it_p h13 hf
            refine v_aload_n hX dX9_shelf_79 rfl 0 rfl 80 rfl ?_
            refine gf_52_41 hX q_126 dX9_shelf_80 83 rfl ?_
            refine v_iload_n hX dX9_shelf_83 rfl 3 rfl 84 rfl ?_
            obtain ⟨hi12, hf⟩ := gd_e hf
            refine al_75 hX hi12 dX9_shelf_84 ((g 75) p3.toNatClampNeg) rfl 85 rfl ?_
            refine v_goto hX dX9_shelf_85 89 rfl ?_
            refine v_sub [] sbn ?_
            exact HJ9 _ hf
        refine v_icmp_ne hX dX9_shelf_55 67 rfl 58 rfl (fun h15 => ?_) (fun h15 => ?_)
        · replace hf := it_n h15 hf
          refine v_iload_n hX dX9_shelf_67 rfl 3 rfl 68 rfl ?_
          exact HJ6 _ hf
        · replace hf := it_p h15 hf
          refine v_aload_n hX dX9_shelf_58 rfl 0 rfl 59 rfl ?_
          refine gf_52_40 hX q_125 dX9_shelf_59 62 rfl ?_
          refine v_iload_n hX dX9_shelf_62 rfl 3 rfl 63 rfl ?_
          obtain ⟨hi14, hf⟩ := gd_e hf
          refine al_74 hX hi14 dX9_shelf_63 ((g 74) p3.toNatClampNeg) rfl 64 rfl ?_
          refine v_goto hX dX9_shelf_64 68 rfl ?_
          exact HJ6 _ hf
      obtain ⟨J16, hJ16, hf⟩ := jn_x hf
      have HJ16 : J16 = some res → VC X r (lkp g [(77, (g 77)), (78, (g 78)), (79, (g 79))]) u h [(0, .ref (aX X 52)), (1, .int p1), (2, .int p2), (3, .int p3)] [.int p1, .ref (aX X 77)] 42 := by
        intro hf
        rw [hJ16] at hf
        refine v_iconst (v := (-1 : Int32)) hX dX9_shelf_42 (by decide) 43 rfl ?_
        refine v_goto hX dX9_shelf_43 47 rfl ?_
        exact HJ3 _ hf
      refine v_icmp_eq hX dX9_shelf_25 42 rfl 28 rfl (fun h21 => ?_) (fun h21 => ?_)
      · replace hf := it_p h21 hf
        exact HJ16  hf
      · replace hf := it_n h21 hf
        refine v_iload_n hX dX9_shelf_28 rfl 2 rfl 29 rfl ?_
        refine v_iconst (v := (1 : Int32)) hX dX9_shelf_29 (by decide) 30 rfl ?_
        obtain ⟨J17, hJ17, hf⟩ := jn_x hf
        have HJ17 : J17 = some res → VC X r (lkp g [(77, (g 77)), (78, (g 78)), (79, (g 79))]) u h [(0, .ref (aX X 52)), (1, .int p1), (2, .int p2), (3, .int p3)] [.int p1, .ref (aX X 77)] 46 := by
          intro hf
          rw [hJ17] at hf
          refine v_iload_n hX dX9_shelf_46 rfl 2 rfl 47 rfl ?_
          exact HJ3 _ hf
        refine v_icmp_ne hX dX9_shelf_30 46 rfl 33 rfl (fun h20 => ?_) (fun h20 => ?_)
        · replace hf := it_n h20 hf
          exact HJ17  hf
        · replace hf := it_p h20 hf
          refine v_aload_n hX dX9_shelf_33 rfl 0 rfl 34 rfl ?_
          refine gf_52_40 hX q_125 dX9_shelf_34 37 rfl ?_
          refine v_iload_n hX dX9_shelf_37 rfl 3 rfl 38 rfl ?_
          obtain ⟨hi18, hf⟩ := gd_e hf
          refine al_74 hX hi18 dX9_shelf_38 ((g 74) p3.toNatClampNeg) rfl 39 rfl ?_
          refine v_if_ge hX dX9_shelf_39 46 rfl 42 rfl (fun h19 => ?_) (fun h19 => ?_)
          · replace hf := it_p h19 hf
            exact HJ17  hf
          · replace hf := it_n h19 hf
            exact HJ16  hf
    · replace hf := it_p h22 hf
      refine v_iconst (v := (-1 : Int32)) hX dX9_shelf_16 (by decide) 17 rfl ?_
      exact hR _ hf _ _ dX9_shelf_17 rfl
set_option maxRecDepth 100000 in
set_option maxHeartbeats 4000000 in
theorem c9_size (r : Nat → Int32) (g : Nat → Nat → Int32) (u : Nat → Int64) (h : Nat → Nat → Int64) (p1 : Int32) (p2 : Int32) {res : Int32 × (Nat → Int32)} (hf : f9_size (g 53) p1 p2 = some res) : MAi yX9_size cX9_size 4 (some .int) 1 (fun a => [.ref (a 52), .int p1, .int p2]) r g u h res.1 r (lkp g [(53, res.2)]) u h := by
  refine mi_i (by decide +kernel) (fun a => Nat.le_of_ble_eq_true rfl) (fun X hX hn hR => ?_)
  replace hR : ∀ q : Int32 × (Nat → Int32), some q = some res → ∀ lv pc, decode cX9_size pc = .ok (.ireturn, 1) → narrow .int (.int q.1) = .int q.1 → VC X r (lkp g [(53, q.2)]) u h lv [.int q.1] pc := fun q hq => by cases hq; exact hR
  replace hX : CX X RX9 cX9_size 1 := hX
  refine v_opg [53] [(53, g 53)] rfl ?_
  show VC X r (lkp g [(53, g 53)]) u h [(0, .ref (aX X 52)), (1, .int p1), (2, .int p2)] [] 0
  rw [f9_size] at hf
  refine v_iload_n hX dX9_size_0 rfl 1 rfl 1 rfl ?_
  refine v_iconst (v := (0 : Int32)) hX dX9_size_1 (by decide) 2 rfl ?_
  refine v_iconst (v := (3 : Int32)) hX dX9_size_2 (by decide) 3 rfl ?_
  obtain ⟨v1, hv1, hf⟩ := bn1_e hf
  refine cs_i hX (c9_in r (lkp g [(53, (g 53))]) u h _ _ _ hv1) wvX9_in q_150 (Nat.le_of_ble_eq_true rfl) (Nat.le_of_ble_eq_true rfl) (fun _ => rfl) [] rfl (Nat.le_of_ble_eq_true rfl) dX9_size_3 6 rfl ?_
  refine v_if_eq hX dX9_size_6 20 rfl 9 rfl (fun h6 => ?_) (fun h6 => ?_)
  · replace hf := it_p h6 hf
    refine v_iconst (v := (-1 : Int32)) hX dX9_size_20 (by decide) 21 rfl ?_
    exact hR _ hf _ _ dX9_size_21 rfl
  · replace hf := it_n h6 hf
    refine v_iload_n hX dX9_size_9 rfl 2 rfl 10 rfl ?_
    refine v_bipush (v := (10 : Int32)) hX dX9_size_10 (by decide) 12 rfl ?_
    refine v_bipush (v := (99 : Int32)) hX dX9_size_12 (by decide) 14 rfl ?_
    obtain ⟨v2, hv2, hf⟩ := bn1_e hf
    refine cs_i hX (c9_in r (lkp g [(53, (g 53))]) u h _ _ _ hv2) wvX9_in q_150 (Nat.le_of_ble_eq_true rfl) (Nat.le_of_ble_eq_true rfl) (fun _ => rfl) [] rfl (Nat.le_of_ble_eq_true rfl) dX9_size_14 17 rfl ?_
    refine v_if_ne hX dX9_size_17 22 rfl 20 rfl (fun h5 => ?_) (fun h5 => ?_)
    · replace hf := it_n h5 hf
      refine v_aload_n hX dX9_size_22 rfl 0 rfl 23 rfl ?_
      refine gf_52_0 hX q_103 dX9_size_23 26 rfl ?_
      refine v_iload_n hX dX9_size_26 rfl 1 rfl 27 rfl ?_
      obtain ⟨hi3, hf⟩ := gd_e hf
      refine al_53 hX hi3 dX9_size_27 ((g 53) p1.toNatClampNeg) rfl 28 rfl ?_
      refine v_istore_n hX dX9_size_28 rfl (ltn hn (by decide)) 29 rfl [(3, .int ((g 53) p1.toNatClampNeg)), (0, .ref (aX X 52)), (1, .int p1), (2, .int p2)] rfl ?_
      refine v_aload_n hX dX9_size_29 rfl 1 rfl 30 rfl ?_
      refine gf_52_0 hX q_103 dX9_size_30 33 rfl ?_
      refine v_iload_n hX dX9_size_33 rfl 2 rfl 34 rfl ?_
      refine v_iload_n hX dX9_size_34 rfl 3 rfl 35 rfl ?_
      obtain ⟨hi4, hf⟩ := gd_e hf
      refine as_53 hX hi4 dX9_size_35 36 rfl (g 53) rfl [(53, (upd (g 53) p1.toNatClampNeg p2))] rfl ?_
      refine v_iload_n hX dX9_size_36 rfl 0 rfl 37 rfl ?_
      exact hR _ hf _ _ dX9_size_37 rfl
    · replace hf := it_p h5 hf
      refine v_iconst (v := (-1 : Int32)) hX dX9_size_20 (by decide) 21 rfl ?_
      exact hR _ hf _ _ dX9_size_21 rfl
set_option maxRecDepth 100000 in
set_option maxHeartbeats 4000000 in
theorem c9_onesIn (r : Nat → Int32) (g : Nat → Nat → Int32) (u : Nat → Int64) (h : Nat → Nat → Int64) (p1 : Int32) {res : Int32} (hf : f9_onesIn (g 57) (g 56) p1 = some res) : MAi yX9_onesIn cX9_onesIn 4 (some .int) 2 (fun a => [.ref (a 52), .int p1]) r g u h res r g u h := by
  refine mi_i (by decide +kernel) (fun a => Nat.le_of_ble_eq_true rfl) (fun X hX hn hR => ?_)
  replace hR : ∀ q : Int32, some q = some res → ∀ lv pc, decode cX9_onesIn pc = .ok (.ireturn, 1) → narrow .int (.int q) = .int q → VC X r g u h lv [.int q] pc := fun q hq => by cases hq; exact hR
  replace hX : CX X RX9 cX9_onesIn 2 := hX
  show VC X r g u h [(0, .ref (aX X 52)), (1, .int p1)] [] 0
  rw [f9_onesIn] at hf
  refine v_iconst (v := (0 : Int32)) hX dX9_onesIn_0 (by decide) 1 rfl ?_
  refine v_istore_n hX dX9_onesIn_1 rfl (ltn hn (by decide)) 2 rfl [(2, .int (0 : Int32)), (0, .ref (aX X 52)), (1, .int p1)] rfl ?_
  refine v_iconst (v := (0 : Int32)) hX dX9_onesIn_2 (by decide) 3 rfl ?_
  refine v_istore_n hX dX9_onesIn_3 rfl (ltn hn (by decide)) 4 rfl [(3, .int (0 : Int32)), (2, .int (0 : Int32)), (0, .ref (aX X 52)), (1, .int p1)] rfl ?_
  obtain ⟨K3, hK3, hf⟩ := jn_x hf
  have HK3 : ∀ (x1 : Int32) (x2 : Int32), K3 x1 x2 = some res → VC X r g u h [(2, .int x1)] [] 39 := by
    intro x1 x2 hf
    rw [hK3] at hf
    refine v_iload_n hX dX9_onesIn_39 rfl 0 rfl 40 rfl ?_
    exact hR _ hf _ _ dX9_onesIn_40 rfl
  have HLK3 : ∀ (n4 : Nat) (x1 : Int32) (x2 : Int32), f9_onesIn_L4 (g 57) (g 56) p1 n4 x1 x2 K3 = some res → VC X r g u h [(0, .ref (aX X 52)), (1, .int p1), (2, .int x1), (3, .int x2)] [] 4 := by
    intro n4
    induction n4 with
    | zero => intro x1 x2 hf; exact no_s hf
    | succ n4 ih =>
      intro x1 x2 hf
      rw [f9_onesIn_L4] at hf
      refine v_iload_n hX dX9_onesIn_4 rfl 3 rfl 5 rfl ?_
      refine v_iconst (v := (4 : Int32)) hX dX9_onesIn_5 (by decide) 6 rfl ?_
      refine v_icmp_ge hX dX9_onesIn_6 39 rfl 9 rfl (fun h10 => ?_) (fun h10 => ?_)
      · replace hf := it_p h10 hf
        refine v_sub [(2, .int x1)] (sbc 2 rfl sbn) ?_
        exact HK3 _ _ hf
      · replace hf := it_n h10 hf
        refine v_iload_n hX dX9_onesIn_9 rfl 2 rfl 10 rfl ?_
        refine v_aload_n hX dX9_onesIn_10 rfl 0 rfl 11 rfl ?_
        refine v_iload_n hX dX9_onesIn_11 rfl 1 rfl 12 rfl ?_
        refine v_iload_n hX dX9_onesIn_12 rfl 3 rfl 13 rfl ?_
        obtain ⟨v5, hv5, hf⟩ := bn1_e hf
        refine cv_i hX (c9_oneIn r g u h _ _ hv5) wvX9_oneIn q_467 rc_52 (Nat.le_of_ble_eq_true rfl) (Nat.le_of_ble_eq_true rfl) (fun _ => rfl) [.int x1] rfl (Nat.le_of_ble_eq_true rfl) dX9_onesIn_13 16 rfl ?_
        obtain ⟨J6, hJ6, hf⟩ := jn_x hf
        have HJ6 : ∀ (s7 : Int32), J6 s7 = some res → VC X r g u h [(0, .ref (aX X 52)), (1, .int p1), (3, .int x2)] [.int s7, .int x1] 31 := by
          intro s7 hf
          rw [hJ6] at hf
          refine v_ior hX dX9_onesIn_31 32 rfl ?_
          refine v_istore_n hX dX9_onesIn_32 rfl (ltn hn (by decide)) 33 rfl [(2, .int (x1 ||| s7)), (0, .ref (aX X 52)), (1, .int p1), (3, .int x2)] rfl ?_
          refine v_inc (c := (1 : Int32)) hX dX9_onesIn_33 3 rfl (by decide) (ltn hn (by decide)) 36 rfl [(3, .int (x2 + (1 : Int32))), (2, .int (x1 ||| s7)), (0, .ref (aX X 52)), (1, .int p1)] rfl ?_
          refine v_goto hX dX9_onesIn_36 4 rfl ?_
          refine v_sub [(0, .ref (aX X 52)), (1, .int p1), (2, .int (x1 ||| s7)), (3, .int (x2 + (1 : Int32)))] (sbc 2 rfl (sbc 3 rfl (sbc 1 rfl (sbc 0 rfl sbn)))) ?_
          exact ih _ _ hf
        refine v_if_lt hX dX9_onesIn_16 30 rfl 19 rfl (fun h9 => ?_) (fun h9 => ?_)
        · replace hf := it_p h9 hf
          refine v_iconst (v := (0 : Int32)) hX dX9_onesIn_30 (by decide) 31 rfl ?_
          refine v_sub [(0, .ref (aX X 52)), (1, .int p1), (3, .int x2)] (sbc 0 rfl (sbc 1 rfl (sbc 3 rfl sbn))) ?_
          exact HJ6 _ hf
        · replace hf := it_n h9 hf
          refine v_iconst (v := (1 : Int32)) hX dX9_onesIn_19 (by decide) 20 rfl ?_
          refine v_aload_n hX dX9_onesIn_20 rfl 0 rfl 21 rfl ?_
          refine v_iload_n hX dX9_onesIn_21 rfl 1 rfl 22 rfl ?_
          refine v_iload_n hX dX9_onesIn_22 rfl 3 rfl 23 rfl ?_
          obtain ⟨v8, hv8, hf⟩ := bn1_e hf
          refine cv_i hX (c9_oneIn r g u h _ _ hv8) wvX9_oneIn q_467 rc_52 (Nat.le_of_ble_eq_true rfl) (Nat.le_of_ble_eq_true rfl) (fun _ => rfl) [.int (1 : Int32), .int x1] rfl (Nat.le_of_ble_eq_true rfl) dX9_onesIn_23 26 rfl ?_
          refine v_ishl hX dX9_onesIn_26 27 rfl ?_
          refine v_goto hX dX9_onesIn_27 31 rfl ?_
          refine v_sub [(0, .ref (aX X 52)), (1, .int p1), (3, .int x2)] (sbc 0 rfl (sbc 1 rfl (sbc 3 rfl sbn))) ?_
          exact HJ6 _ hf
  refine v_sub [(0, .ref (aX X 52)), (1, .int p1), (2, .int (0 : Int32)), (3, .int (0 : Int32))] (sbc 2 rfl (sbc 3 rfl (sbc 1 rfl (sbc 0 rfl sbn)))) ?_
  exact HLK3 _ _ _ hf
set_option maxRecDepth 100000 in
set_option maxHeartbeats 4000000 in
theorem c9_steps (r : Nat → Int32) (g : Nat → Nat → Int32) (u : Nat → Int64) (h : Nat → Nat → Int64) (p1 : Int32) (p2 : Int32) {res : Int32} (hf : f9_steps (r 31) (r 30) (g 57) (g 55) (g 56) p1 p2 = some res) : MAi yX9_steps cX9_steps 10 (some .int) 3 (fun a => [.ref (a 52), .int p1, .int p2]) r g u h res r g u h := by
  refine mi_i (by decide +kernel) (fun a => Nat.le_of_ble_eq_true rfl) (fun X hX hn hR => ?_)
  replace hR : ∀ q : Int32, some q = some res → ∀ lv pc, decode cX9_steps pc = .ok (.ireturn, 1) → narrow .int (.int q) = .int q → VC X r g u h lv [.int q] pc := fun q hq => by cases hq; exact hR
  replace hX : CX X RX9 cX9_steps 3 := hX
  show VC X r g u h [(0, .ref (aX X 52)), (1, .int p1), (2, .int p2)] [] 0
  rw [f9_steps] at hf
  refine v_aload_n hX dX9_steps_0 rfl 0 rfl 1 rfl ?_
  refine v_iload_n hX dX9_steps_1 rfl 1 rfl 2 rfl ?_
  obtain ⟨v1, hv1, hf⟩ := bn1_e hf
  refine cv_i hX (c9_isPerson r g u h _ hv1) wvX9_isPerson q_450 rc_52 (Nat.le_of_ble_eq_true rfl) (Nat.le_of_ble_eq_true rfl) (fun _ => rfl) [] rfl (Nat.le_of_ble_eq_true rfl) dX9_steps_2 5 rfl ?_
  refine v_if_eq hX dX9_steps_5 16 rfl 8 rfl (fun h35 => ?_) (fun h35 => ?_)
  · replace hf := it_p h35 hf
    refine v_iconst (v := (-1 : Int32)) hX dX9_steps_16 (by decide) 17 rfl ?_
    exact hR _ hf _ _ dX9_steps_17 rfl
  · replace hf := it_n h35 hf
    refine v_aload_n hX dX9_steps_8 rfl 0 rfl 9 rfl ?_
    refine v_iload_n hX dX9_steps_9 rfl 2 rfl 10 rfl ?_
    obtain ⟨v2, hv2, hf⟩ := bn1_e hf
    refine cv_i hX (c9_isPerson r g u h _ hv2) wvX9_isPerson q_450 rc_52 (Nat.le_of_ble_eq_true rfl) (Nat.le_of_ble_eq_true rfl) (fun _ => rfl) [] rfl (Nat.le_of_ble_eq_true rfl) dX9_steps_10 13 rfl ?_
    refine v_if_ne hX dX9_steps_13 18 rfl 16 rfl (fun h34 => ?_) (fun h34 => ?_)
    · replace hf := it_n h34 hf
      refine v_aload_n hX dX9_steps_18 rfl 0 rfl 19 rfl ?_
      refine gf_52_4 hX q_106 dX9_steps_19 22 rfl ?_
      refine v_iload_n hX dX9_steps_22 rfl 1 rfl 23 rfl ?_
      obtain ⟨hi3, hf⟩ := gd_e hf
      refine al_56 hX hi3 dX9_steps_23 ((g 56) p1.toNatClampNeg) rfl 24 rfl ?_
      refine v_istore_n hX dX9_steps_24 rfl (ltn hn (by decide)) 25 rfl [(3, .int ((g 56) p1.toNatClampNeg)), (0, .ref (aX X 52)), (1, .int p1), (2, .int p2)] rfl ?_
      refine v_aload_n hX dX9_steps_25 rfl 1 rfl 26 rfl ?_
      refine gf_52_4 hX q_106 dX9_steps_26 29 rfl ?_
      refine v_iload_n hX dX9_steps_29 rfl 3 rfl 30 rfl ?_
      obtain ⟨hi4, hf⟩ := gd_e hf
      refine al_56 hX hi4 dX9_steps_30 ((g 56) p2.toNatClampNeg) rfl 31 rfl ?_
      refine v_istore hX dX9_steps_31 (ltn hn (by decide)) 33 rfl [(4, .int ((g 56) p2.toNatClampNeg)), (3, .int ((g 56) p1.toNatClampNeg)), (0, .ref (aX X 52)), (1, .int p1), (2, .int p2)] rfl ?_
      refine v_iload_n hX dX9_steps_33 rfl 1 rfl 34 rfl ?_
      refine v_iload hX dX9_steps_34 0 rfl 36 rfl ?_
      refine v_icmp_ne hX dX9_steps_36 41 rfl 39 rfl (fun h33 => ?_) (fun h33 => ?_)
      · replace hf := it_n h33 hf
        refine v_iconst (v := (0 : Int32)) hX dX9_steps_41 (by decide) 42 rfl ?_
        refine v_istore hX dX9_steps_42 (ltn hn (by decide)) 44 rfl [(5, .int (0 : Int32)), (4, .int ((g 56) p2.toNatClampNeg)), (3, .int ((g 56) p1.toNatClampNeg)), (0, .ref (aX X 52)), (1, .int p1), (2, .int p2)] rfl ?_
        refine v_iconst (v := (0 : Int32)) hX dX9_steps_44 (by decide) 45 rfl ?_
        refine v_istore hX dX9_steps_45 (ltn hn (by decide)) 47 rfl [(6, .int (0 : Int32)), (5, .int (0 : Int32)), (4, .int ((g 56) p2.toNatClampNeg)), (3, .int ((g 56) p1.toNatClampNeg)), (0, .ref (aX X 52)), (1, .int p1), (2, .int p2)] rfl ?_
        obtain ⟨K7, hK7, hf⟩ := jn_x hf
        have HK7 : ∀ (x5 : Int32) (x6 : Int32), K7 x5 x6 = some res → VC X r g u h [(0, .ref (aX X 52)), (3, .int ((g 56) p1.toNatClampNeg)), (4, .int ((g 56) p2.toNatClampNeg)), (5, .int x5)] [] 84 := by
          intro x5 x6 hf
          rw [hK7] at hf
          refine v_iconst (v := (1 : Int32)) hX dX9_steps_84 (by decide) 85 rfl ?_
          refine v_iload_n hX dX9_steps_85 rfl 1 rfl 86 rfl ?_
          refine v_ishl hX dX9_steps_86 87 rfl ?_
          refine v_istore hX dX9_steps_87 (ltn hn (by decide)) 89 rfl [(6, .int ((1 : Int32) <<< (((g 56) p1.toNatClampNeg) &&& 31))), (0, .ref (aX X 52)), (3, .int ((g 56) p1.toNatClampNeg)), (4, .int ((g 56) p2.toNatClampNeg)), (5, .int x5)] rfl ?_
          refine v_iconst (v := (1 : Int32)) hX dX9_steps_89 (by decide) 90 rfl ?_
          refine v_istore hX dX9_steps_90 (ltn hn (by decide)) 92 rfl [(7, .int (1 : Int32)), (6, .int ((1 : Int32) <<< (((g 56) p1.toNatClampNeg) &&& 31))), (0, .ref (aX X 52)), (3, .int ((g 56) p1.toNatClampNeg)), (4, .int ((g 56) p2.toNatClampNeg)), (5, .int x5)] rfl ?_
          obtain ⟨K16, hK16, hf⟩ := jn_x hf
          have HK16 : ∀ (x14 : Int32) (x15 : Int32), K16 x14 x15 = some res → VC X r g u h [] [] 184 := by
            intro x14 x15 hf
            rw [hK16] at hf
            refine v_bipush (v := (-3 : Int32)) hX dX9_steps_184 (by decide) 186 rfl ?_
            exact hR _ hf _ _ dX9_steps_186 rfl
          have HLK16 : ∀ (n17 : Nat) (x14 : Int32) (x15 : Int32), f9_steps_L92 (r 31) (g 57) (g 56) p2 x5 n17 x14 x15 K16 = some res → VC X r g u h [(0, .ref (aX X 52)), (4, .int ((g 56) p2.toNatClampNeg)), (5, .int x5), (6, .int x14), (7, .int x15)] [] 92 := by
            intro n17
            induction n17 with
            | zero => intro x14 x15 hf; exact no_s hf
            | succ n17 ih =>
              intro x14 x15 hf
              rw [f9_steps_L92] at hf
              refine v_iload hX dX9_steps_92 4 rfl 94 rfl ?_
              refine v_bipush (v := (12 : Int32)) hX dX9_steps_94 (by decide) 96 rfl ?_
              refine v_icmp_ge hX dX9_steps_96 184 rfl 99 rfl (fun h32 => ?_) (fun h32 => ?_)
              · replace hf := it_p h32 hf
                refine v_sub [] sbn ?_
                exact HK16 _ _ hf
              · replace hf := it_n h32 hf
                refine v_iload hX dX9_steps_99 4 rfl 101 rfl ?_
                refine v_iconst (v := (1 : Int32)) hX dX9_steps_101 (by decide) 102 rfl ?_
                obtain ⟨J18, hJ18, hf⟩ := jn_x hf
                have HJ18 : ∀ (s19 : Int32), J18 s19 = some res → VC X r g u h [(0, .ref (aX X 52)), (4, .int ((g 56) p2.toNatClampNeg)), (5, .int x5), (6, .int x14), (7, .int x15)] [.int s19] 117 := by
                  intro s19 hf
                  rw [hJ18] at hf
                  refine v_istore hX dX9_steps_117 (ltn hn (by decide)) 119 rfl [(8, .int s19), (0, .ref (aX X 52)), (4, .int ((g 56) p2.toNatClampNeg)), (5, .int x5), (6, .int x14), (7, .int x15)] rfl ?_
                  refine v_iconst (v := (0 : Int32)) hX dX9_steps_119 (by decide) 120 rfl ?_
                  refine v_istore hX dX9_steps_120 (ltn hn (by decide)) 122 rfl [(9, .int (0 : Int32)), (8, .int s19), (0, .ref (aX X 52)), (4, .int ((g 56) p2.toNatClampNeg)), (5, .int x5), (6, .int x14), (7, .int x15)] rfl ?_
                  obtain ⟨K22, hK22, hf⟩ := jn_x hf
                  have HK22 : ∀ (x20 : Int32) (x21 : Int32), K22 x20 x21 = some res → VC X r g u h [(0, .ref (aX X 52)), (4, .int ((g 56) p2.toNatClampNeg)), (5, .int x5), (6, .int x20), (7, .int x15)] [] 164 := by
                    intro x20 x21 hf
                    rw [hK22] at hf
                    refine v_iload hX dX9_steps_164 3 rfl 166 rfl ?_
                    refine v_iload hX dX9_steps_166 1 rfl 168 rfl ?_
                    refine v_ishr hX dX9_steps_168 169 rfl ?_
                    refine v_iconst (v := (1 : Int32)) hX dX9_steps_169 (by decide) 170 rfl ?_
                    refine v_iand hX dX9_steps_170 171 rfl ?_
                    refine v_iconst (v := (1 : Int32)) hX dX9_steps_171 (by decide) 172 rfl ?_
                    refine v_icmp_ne hX dX9_steps_172 178 rfl 175 rfl (fun h30 => ?_) (fun h30 => ?_)
                    · replace hf := it_n h30 hf
                      refine v_inc (c := (1 : Int32)) hX dX9_steps_178 4 rfl (by decide) (ltn hn (by decide)) 181 rfl [(7, .int (x15 + (1 : Int32))), (0, .ref (aX X 52)), (4, .int ((g 56) p2.toNatClampNeg)), (5, .int x5), (6, .int x20)] rfl ?_
                      refine v_goto hX dX9_steps_181 92 rfl ?_
                      refine v_sub [(0, .ref (aX X 52)), (4, .int ((g 56) p2.toNatClampNeg)), (5, .int x5), (6, .int x20), (7, .int (x15 + (1 : Int32)))] (sbc 1 rfl (sbc 2 rfl (sbc 3 rfl (sbc 4 rfl (sbc 0 rfl sbn))))) ?_
                      exact ih _ _ hf
                    · replace hf := it_p h30 hf
                      refine v_iload hX dX9_steps_175 4 rfl 177 rfl ?_
                      exact hR _ hf _ _ dX9_steps_177 rfl
                  have HLK22 : ∀ (n23 : Nat) (x20 : Int32) (x21 : Int32), f9_steps_L122 (r 31) (g 57) (g 56) s19 n23 x20 x21 K22 = some res → VC X r g u h [(0, .ref (aX X 52)), (4, .int ((g 56) p2.toNatClampNeg)), (5, .int x5), (6, .int x20), (7, .int x15), (8, .int s19), (9, .int x21)] [] 122 := by
                    intro n23
                    induction n23 with
                    | zero => intro x20 x21 hf; exact no_s hf
                    | succ n23 ih =>
                      intro x20 x21 hf
                      rw [f9_steps_L122] at hf
                      refine v_iload hX dX9_steps_122 6 rfl 124 rfl ?_
                      refine v_aload_n hX dX9_steps_124 rfl 0 rfl 125 rfl ?_
                      refine gf_52_5 hX q_462 dX9_steps_125 ((r 31)) rfl 128 rfl ?_
                      refine v_icmp_ge hX dX9_steps_128 164 rfl 131 rfl (fun h29 => ?_) (fun h29 => ?_)
                      · replace hf := it_p h29 hf
                        refine v_sub [(0, .ref (aX X 52)), (4, .int ((g 56) p2.toNatClampNeg)), (5, .int x5), (6, .int x20), (7, .int x15)] (sbc 0 rfl (sbc 1 rfl (sbc 2 rfl (sbc 3 rfl (sbc 4 rfl sbn))))) ?_
                        exact HK22 _ _ hf
                      · replace hf := it_n h29 hf
                        refine v_iload hX dX9_steps_131 3 rfl 133 rfl ?_
                        refine v_aload_n hX dX9_steps_133 rfl 0 rfl 134 rfl ?_
                        refine v_iload hX dX9_steps_134 6 rfl 136 rfl ?_
                        obtain ⟨v24, hv24, hf⟩ := bn1_e hf
                        refine cv_i hX (c9_onesIn r g u h _ hv24) wvX9_onesIn q_650 rc_52 (Nat.le_of_ble_eq_true rfl) (Nat.le_of_ble_eq_true rfl) (fun _ => rfl) [.int x20] rfl (Nat.le_of_ble_eq_true rfl) dX9_steps_136 139 rfl ?_
                        refine v_iload hX dX9_steps_139 5 rfl 141 rfl ?_
                        refine v_iand hX dX9_steps_141 142 rfl ?_
                        obtain ⟨J25, hJ25, hf⟩ := jn_x hf
                        have HJ25 : ∀ (s26 : Int32), J25 s26 = some res → VC X r g u h [(0, .ref (aX X 52)), (4, .int ((g 56) p2.toNatClampNeg)), (5, .int x5), (7, .int x15), (8, .int s19), (9, .int x21)] [.int s26, .int x20] 155 := by
                          intro s26 hf
                          rw [hJ25] at hf
                          refine v_ior hX dX9_steps_155 156 rfl ?_
                          refine v_istore hX dX9_steps_156 (ltn hn (by decide)) 158 rfl [(6, .int (x20 ||| s26)), (0, .ref (aX X 52)), (4, .int ((g 56) p2.toNatClampNeg)), (5, .int x5), (7, .int x15), (8, .int s19), (9, .int x21)] rfl ?_
                          refine v_inc (c := (1 : Int32)) hX dX9_steps_158 6 rfl (by decide) (ltn hn (by decide)) 161 rfl [(9, .int (x21 + (1 : Int32))), (6, .int (x20 ||| s26)), (0, .ref (aX X 52)), (4, .int ((g 56) p2.toNatClampNeg)), (5, .int x5), (7, .int x15), (8, .int s19)] rfl ?_
                          refine v_goto hX dX9_steps_161 122 rfl ?_
                          refine v_sub [(0, .ref (aX X 52)), (4, .int ((g 56) p2.toNatClampNeg)), (5, .int x5), (6, .int (x20 ||| s26)), (7, .int x15), (8, .int s19), (9, .int (x21 + (1 : Int32)))] (sbc 2 rfl (sbc 3 rfl (sbc 4 rfl (sbc 1 rfl (sbc 5 rfl (sbc 6 rfl (sbc 0 rfl sbn))))))) ?_
                          exact ih _ _ hf
                        refine v_if_eq hX dX9_steps_142 154 rfl 145 rfl (fun h28 => ?_) (fun h28 => ?_)
                        · replace hf := it_p h28 hf
                          refine v_iconst (v := (0 : Int32)) hX dX9_steps_154 (by decide) 155 rfl ?_
                          refine v_sub [(0, .ref (aX X 52)), (4, .int ((g 56) p2.toNatClampNeg)), (5, .int x5), (7, .int x15), (8, .int s19), (9, .int x21)] (sbc 0 rfl (sbc 1 rfl (sbc 2 rfl (sbc 4 rfl (sbc 5 rfl (sbc 6 rfl sbn)))))) ?_
                          exact HJ25 _ hf
                        · replace hf := it_n h28 hf
                          refine v_aload_n hX dX9_steps_145 rfl 0 rfl 146 rfl ?_
                          refine v_iload hX dX9_steps_146 6 rfl 148 rfl ?_
                          obtain ⟨v27, hv27, hf⟩ := bn1_e hf
                          refine cv_i hX (c9_onesIn r g u h _ hv27) wvX9_onesIn q_650 rc_52 (Nat.le_of_ble_eq_true rfl) (Nat.le_of_ble_eq_true rfl) (fun _ => rfl) [.int x20] rfl (Nat.le_of_ble_eq_true rfl) dX9_steps_148 151 rfl ?_
                          refine v_goto hX dX9_steps_151 155 rfl ?_
                          refine v_sub [(0, .ref (aX X 52)), (4, .int ((g 56) p2.toNatClampNeg)), (5, .int x5), (7, .int x15), (8, .int s19), (9, .int x21)] (sbc 0 rfl (sbc 1 rfl (sbc 2 rfl (sbc 4 rfl (sbc 5 rfl (sbc 6 rfl sbn)))))) ?_
                          exact HJ25 _ hf
                  refine v_sub [(0, .ref (aX X 52)), (4, .int ((g 56) p2.toNatClampNeg)), (5, .int x5), (6, .int x14), (7, .int x15), (8, .int s19), (9, .int (0 : Int32))] (sbc 2 rfl (sbc 3 rfl (sbc 4 rfl (sbc 5 rfl (sbc 6 rfl (sbc 1 rfl (sbc 0 rfl sbn))))))) ?_
                  exact HLK22 _ _ _ hf
                refine v_icmp_ne hX dX9_steps_102 110 rfl 105 rfl (fun h31 => ?_) (fun h31 => ?_)
                · replace hf := it_n h31 hf
                  refine v_iload hX dX9_steps_110 3 rfl 112 rfl ?_
                  refine v_iload hX dX9_steps_112 2 rfl 114 rfl ?_
                  refine v_iconst (v := (-1 : Int32)) hX dX9_steps_114 (by decide) 115 rfl ?_
                  refine v_ixor hX dX9_steps_115 116 rfl ?_
                  refine v_iand hX dX9_steps_116 117 rfl ?_
                  exact HJ18 _ hf
                · replace hf := it_p h31 hf
                  refine v_iload hX dX9_steps_105 3 rfl 107 rfl ?_
                  refine v_goto hX dX9_steps_107 117 rfl ?_
                  exact HJ18 _ hf
          refine v_sub [(0, .ref (aX X 52)), (4, .int ((g 56) p2.toNatClampNeg)), (5, .int x5), (6, .int ((1 : Int32) <<< (((g 56) p1.toNatClampNeg) &&& 31))), (7, .int (1 : Int32))] (sbc 2 rfl (sbc 4 rfl (sbc 5 rfl (sbc 1 rfl (sbc 0 rfl sbn))))) ?_
          exact HLK16 _ _ _ hf
        have HLK7 : ∀ (n8 : Nat) (x5 : Int32) (x6 : Int32), f9_steps_L47 (r 30) (g 55) (g 56) n8 x5 x6 K7 = some res → VC X r g u h [(0, .ref (aX X 52)), (3, .int ((g 56) p1.toNatClampNeg)), (4, .int ((g 56) p2.toNatClampNeg)), (5, .int x5), (6, .int x6)] [] 47 := by
          intro n8
          induction n8 with
          | zero => intro x5 x6 hf; exact no_s hf
          | succ n8 ih =>
            intro x5 x6 hf
            rw [f9_steps_L47] at hf
            refine v_iload hX dX9_steps_47 4 rfl 49 rfl ?_
            refine v_aload_n hX dX9_steps_49 rfl 0 rfl 50 rfl ?_
            refine gf_52_1 hX q_409 dX9_steps_50 ((r 30)) rfl 53 rfl ?_
            refine v_icmp_ge hX dX9_steps_53 84 rfl 56 rfl (fun h13 => ?_) (fun h13 => ?_)
            · replace hf := it_p h13 hf
              refine v_sub [(0, .ref (aX X 52)), (3, .int ((g 56) p1.toNatClampNeg)), (4, .int ((g 56) p2.toNatClampNeg)), (5, .int x5)] (sbc 0 rfl (sbc 1 rfl (sbc 2 rfl (sbc 3 rfl sbn)))) ?_
              exact HK7 _ _ hf
            · replace hf := it_n h13 hf
              refine v_iload hX dX9_steps_56 3 rfl 58 rfl ?_
              refine v_aload_n hX dX9_steps_58 rfl 0 rfl 59 rfl ?_
              refine v_iload hX dX9_steps_59 4 rfl 61 rfl ?_
              obtain ⟨v9, hv9, hf⟩ := bn1_e hf
              refine cv_i hX (c9_isHubOne r g u h _ hv9) wvX9_isHubOne q_454 rc_52 (Nat.le_of_ble_eq_true rfl) (Nat.le_of_ble_eq_true rfl) (fun _ => rfl) [.int x5] rfl (Nat.le_of_ble_eq_true rfl) dX9_steps_61 64 rfl ?_
              obtain ⟨J10, hJ10, hf⟩ := jn_x hf
              have HJ10 : ∀ (s11 : Int32), J10 s11 = some res → VC X r g u h [(0, .ref (aX X 52)), (3, .int ((g 56) p1.toNatClampNeg)), (4, .int ((g 56) p2.toNatClampNeg)), (6, .int x6)] [.int s11, .int x5] 75 := by
                intro s11 hf
                rw [hJ10] at hf
                refine v_ior hX dX9_steps_75 76 rfl ?_
                refine v_istore hX dX9_steps_76 (ltn hn (by decide)) 78 rfl [(5, .int (x5 ||| s11)), (0, .ref (aX X 52)), (3, .int ((g 56) p1.toNatClampNeg)), (4, .int ((g 56) p2.toNatClampNeg)), (6, .int x6)] rfl ?_
                refine v_inc (c := (1 : Int32)) hX dX9_steps_78 4 rfl (by decide) (ltn hn (by decide)) 81 rfl [(6, .int (x6 + (1 : Int32))), (5, .int (x5 ||| s11)), (0, .ref (aX X 52)), (3, .int ((g 56) p1.toNatClampNeg)), (4, .int ((g 56) p2.toNatClampNeg))] rfl ?_
                refine v_goto hX dX9_steps_81 47 rfl ?_
                refine v_sub [(0, .ref (aX X 52)), (3, .int ((g 56) p1.toNatClampNeg)), (4, .int ((g 56) p2.toNatClampNeg)), (5, .int (x5 ||| s11)), (6, .int (x6 + (1 : Int32)))] (sbc 2 rfl (sbc 3 rfl (sbc 4 rfl (sbc 1 rfl (sbc 0 rfl sbn))))) ?_
                exact ih _ _ hf
              refine v_if_eq hX dX9_steps_64 74 rfl 67 rfl (fun h12 => ?_) (fun h12 => ?_)
              · replace hf := it_p h12 hf
                refine v_iconst (v := (0 : Int32)) hX dX9_steps_74 (by decide) 75 rfl ?_
                refine v_sub [(0, .ref (aX X 52)), (3, .int ((g 56) p1.toNatClampNeg)), (4, .int ((g 56) p2.toNatClampNeg)), (6, .int x6)] (sbc 0 rfl (sbc 1 rfl (sbc 2 rfl (sbc 4 rfl sbn)))) ?_
                exact HJ10 _ hf
              · replace hf := it_n h12 hf
                refine v_iconst (v := (1 : Int32)) hX dX9_steps_67 (by decide) 68 rfl ?_
                refine v_iload hX dX9_steps_68 4 rfl 70 rfl ?_
                refine v_ishl hX dX9_steps_70 71 rfl ?_
                refine v_goto hX dX9_steps_71 75 rfl ?_
                refine v_sub [(0, .ref (aX X 52)), (3, .int ((g 56) p1.toNatClampNeg)), (4, .int ((g 56) p2.toNatClampNeg)), (6, .int x6)] (sbc 0 rfl (sbc 1 rfl (sbc 2 rfl (sbc 4 rfl sbn)))) ?_
                exact HJ10 _ hf
        refine v_sub [(0, .ref (aX X 52)), (3, .int ((g 56) p1.toNatClampNeg)), (4, .int ((g 56) p2.toNatClampNeg)), (5, .int (0 : Int32)), (6, .int (0 : Int32))] (sbc 4 rfl (sbc 3 rfl (sbc 2 rfl (sbc 1 rfl (sbc 0 rfl sbn))))) ?_
        exact HLK7 _ _ _ hf
      · replace hf := it_p h33 hf
        refine v_iconst (v := (0 : Int32)) hX dX9_steps_39 (by decide) 40 rfl ?_
        exact hR _ hf _ _ dX9_steps_40 rfl
    · replace hf := it_p h34 hf
      refine v_iconst (v := (-1 : Int32)) hX dX9_steps_16 (by decide) 17 rfl ?_
      exact hR _ hf _ _ dX9_steps_17 rfl
set_option maxRecDepth 100000 in
set_option maxHeartbeats 4000000 in
theorem c9_isUnder (r : Nat → Int32) (g : Nat → Nat → Int32) (u : Nat → Int64) (h : Nat → Nat → Int64) (p0 : Int32) (p1 : Int32) {res : Int32} (hf : f9_isUnder p0 p1 = some res) : MAi yX9_isUnder cX9_isUnder 2 (some .boolean) 0 (fun a => [.int p0, .int p1]) r g u h res r g u h := by
  refine mi_i (by decide +kernel) (fun a => Nat.le_of_ble_eq_true rfl) (fun X hX hn hR => ?_)
  replace hR : ∀ q : Int32, some q = some res → ∀ lv pc, decode cX9_isUnder pc = .ok (.ireturn, 1) → narrow .boolean (.int q) = .int q → VC X r g u h lv [.int q] pc := fun q hq => by cases hq; exact hR
  replace hX : CX X RX9 cX9_isUnder 0 := hX
  show VC X r g u h [(0, .int p0), (1, .int p1)] [] 0
  rw [f9_isUnder] at hf
  refine v_iload_n hX dX9_isUnder_0 rfl 1 rfl 1 rfl ?_
  refine v_if_eq hX dX9_isUnder_1 29 rfl 4 rfl (fun h7 => ?_) (fun h7 => ?_)
  · replace hf := it_p h7 hf
    refine v_iconst (v := (1 : Int32)) hX dX9_isUnder_29 (by decide) 30 rfl ?_
    refine v_goto hX dX9_isUnder_30 34 rfl ?_
    exact hR _ hf _ _ dX9_isUnder_34 (bz_nar (v := (1 : Int32)) (by decide))
  · replace hf := it_n h7 hf
    refine v_iload_n hX dX9_isUnder_4 rfl 1 rfl 5 rfl ?_
    refine v_iload_n hX dX9_isUnder_5 rfl 0 rfl 6 rfl ?_
    refine v_icmp_eq hX dX9_isUnder_6 29 rfl 9 rfl (fun h6 => ?_) (fun h6 => ?_)
    · replace hf := it_p h6 hf
      refine v_iconst (v := (1 : Int32)) hX dX9_isUnder_29 (by decide) 30 rfl ?_
      refine v_goto hX dX9_isUnder_30 34 rfl ?_
      exact hR _ hf _ _ dX9_isUnder_34 (bz_nar (v := (1 : Int32)) (by decide))
    · replace hf := it_n h6 hf
      refine v_iload_n hX dX9_isUnder_9 rfl 1 rfl 10 rfl ?_
      refine v_iconst (v := (1 : Int32)) hX dX9_isUnder_10 (by decide) 11 rfl ?_
      obtain ⟨J1, hJ1, hf⟩ := jn_x hf
      have HJ1 : J1 = some res → VC X r g u h [(0, .int p0), (1, .int p1)] [] 19 := by
        intro hf
        rw [hJ1] at hf
        refine v_iload_n hX dX9_isUnder_19 rfl 1 rfl 20 rfl ?_
        refine v_iconst (v := (2 : Int32)) hX dX9_isUnder_20 (by decide) 21 rfl ?_
        refine v_icmp_ne hX dX9_isUnder_21 33 rfl 24 rfl (fun h3 => ?_) (fun h3 => ?_)
        · replace hf := it_n h3 hf
          refine v_iconst (v := (0 : Int32)) hX dX9_isUnder_33 (by decide) 34 rfl ?_
          exact hR _ hf _ _ dX9_isUnder_34 (bz_nar (v := (0 : Int32)) (by decide))
        · replace hf := it_p h3 hf
          refine v_iload_n hX dX9_isUnder_24 rfl 0 rfl 25 rfl ?_
          refine v_iconst (v := (4 : Int32)) hX dX9_isUnder_25 (by decide) 26 rfl ?_
          refine v_icmp_ne hX dX9_isUnder_26 33 rfl 29 rfl (fun h2 => ?_) (fun h2 => ?_)
          · replace hf := it_n h2 hf
            refine v_iconst (v := (0 : Int32)) hX dX9_isUnder_33 (by decide) 34 rfl ?_
            exact hR _ hf _ _ dX9_isUnder_34 (bz_nar (v := (0 : Int32)) (by decide))
          · replace hf := it_p h2 hf
            refine v_iconst (v := (1 : Int32)) hX dX9_isUnder_29 (by decide) 30 rfl ?_
            refine v_goto hX dX9_isUnder_30 34 rfl ?_
            exact hR _ hf _ _ dX9_isUnder_34 (bz_nar (v := (1 : Int32)) (by decide))
      refine v_icmp_ne hX dX9_isUnder_11 19 rfl 14 rfl (fun h5 => ?_) (fun h5 => ?_)
      · replace hf := it_n h5 hf
        exact HJ1  hf
      · replace hf := it_p h5 hf
        refine v_iload_n hX dX9_isUnder_14 rfl 0 rfl 15 rfl ?_
        refine v_iconst (v := (3 : Int32)) hX dX9_isUnder_15 (by decide) 16 rfl ?_
        refine v_icmp_eq hX dX9_isUnder_16 29 rfl 19 rfl (fun h4 => ?_) (fun h4 => ?_)
        · replace hf := it_p h4 hf
          refine v_iconst (v := (1 : Int32)) hX dX9_isUnder_29 (by decide) 30 rfl ?_
          refine v_goto hX dX9_isUnder_30 34 rfl ?_
          exact hR _ hf _ _ dX9_isUnder_34 (bz_nar (v := (1 : Int32)) (by decide))
        · replace hf := it_n h4 hf
          exact HJ1  hf
set_option maxRecDepth 100000 in
set_option maxHeartbeats 4000000 in
theorem c9_taken (r : Nat → Int32) (g : Nat → Nat → Int32) (u : Nat → Int64) (h : Nat → Nat → Int64) (p1 : Int32) (p2 : Int32) {res : Int32} (hf : f9_taken (r 31) (g 57) (g 77) (g 78) (g 79) p1 p2 = some res) : MAi yX9_taken cX9_taken 4 (some .int) 3 (fun a => [.ref (a 52), .int p1, .int p2]) r g u h res r g u h := by
  refine mi_i (by decide +kernel) (fun a => Nat.le_of_ble_eq_true rfl) (fun X hX hn hR => ?_)
  replace hR : ∀ q : Int32, some q = some res → ∀ lv pc, decode cX9_taken pc = .ok (.ireturn, 1) → narrow .int (.int q) = .int q → VC X r g u h lv [.int q] pc := fun q hq => by cases hq; exact hR
  replace hX : CX X RX9 cX9_taken 3 := hX
  show VC X r g u h [(0, .ref (aX X 52)), (1, .int p1), (2, .int p2)] [] 0
  rw [f9_taken] at hf
  refine v_iload_n hX dX9_taken_0 rfl 1 rfl 1 rfl ?_
  obtain ⟨v1, hv1, hf⟩ := bn1_e hf
  refine cs_i hX (c9_isShelf r g u h _ hv1) wvX9_isShelf q_1028 (Nat.le_of_ble_eq_true rfl) (Nat.le_of_ble_eq_true rfl) (fun _ => rfl) [] rfl (Nat.le_of_ble_eq_true rfl) dX9_taken_1 4 rfl ?_
  refine v_if_eq hX dX9_taken_4 27 rfl 7 rfl (fun h17 => ?_) (fun h17 => ?_)
  · replace hf := it_p h17 hf
    refine v_iconst (v := (-1 : Int32)) hX dX9_taken_27 (by decide) 28 rfl ?_
    exact hR _ hf _ _ dX9_taken_28 rfl
  · replace hf := it_n h17 hf
    refine v_iload_n hX dX9_taken_7 rfl 2 rfl 8 rfl ?_
    refine v_iconst (v := (0 : Int32)) hX dX9_taken_8 (by decide) 9 rfl ?_
    refine v_iconst (v := (5 : Int32)) hX dX9_taken_9 (by decide) 10 rfl ?_
    obtain ⟨v2, hv2, hf⟩ := bn1_e hf
    refine cs_i hX (c9_in r g u h _ _ _ hv2) wvX9_in q_150 (Nat.le_of_ble_eq_true rfl) (Nat.le_of_ble_eq_true rfl) (fun _ => rfl) [] rfl (Nat.le_of_ble_eq_true rfl) dX9_taken_10 13 rfl ?_
    obtain ⟨J3, hJ3, hf⟩ := jn_x hf
    have HJ3 : J3 = some res → VC X r g u h [(0, .ref (aX X 52)), (1, .int p1), (2, .int p2)] [] 29 := by
      intro hf
      rw [hJ3] at hf
      refine v_aload_n hX dX9_taken_29 rfl 0 rfl 30 rfl ?_
      refine v_iload_n hX dX9_taken_30 rfl 1 rfl 31 rfl ?_
      obtain ⟨v4, hv4, hf⟩ := bn1_e hf
      refine cv_i hX (c9_kindOn r g u h _ hv4) wvX9_kindOn q_1115 rc_52 (Nat.le_of_ble_eq_true rfl) (Nat.le_of_ble_eq_true rfl) (fun _ => rfl) [] rfl (Nat.le_of_ble_eq_true rfl) dX9_taken_31 34 rfl ?_
      refine v_istore_n hX dX9_taken_34 rfl (ltn hn (by decide)) 35 rfl [(3, .int v4), (0, .ref (aX X 52)), (1, .int p1), (2, .int p2)] rfl ?_
      refine v_iload_n hX dX9_taken_35 rfl 0 rfl 36 rfl ?_
      refine v_if_ge hX dX9_taken_36 42 rfl 39 rfl (fun h13 => ?_) (fun h13 => ?_)
      · replace hf := it_p h13 hf
        refine v_iload_n hX dX9_taken_42 rfl 0 rfl 43 rfl ?_
        refine v_bipush (v := (9 : Int32)) hX dX9_taken_43 (by decide) 45 rfl ?_
        refine v_icmp_ne hX dX9_taken_45 73 rfl 48 rfl (fun h12 => ?_) (fun h12 => ?_)
        · replace hf := it_n h12 hf
          refine v_iload_n hX dX9_taken_73 rfl 3 rfl 74 rfl ?_
          refine v_bipush (v := (10 : Int32)) hX dX9_taken_74 (by decide) 76 rfl ?_
          refine v_icmp_ge hX dX9_taken_76 96 rfl 79 rfl (fun h8 => ?_) (fun h8 => ?_)
          · replace hf := it_p h8 hf
            refine v_bipush (v := (-13 : Int32)) hX dX9_taken_96 (by decide) 98 rfl ?_
            exact hR _ hf _ _ dX9_taken_98 rfl
          · replace hf := it_n h8 hf
            refine v_iload_n hX dX9_taken_79 rfl 0 rfl 80 rfl ?_
            refine v_iload_n hX dX9_taken_80 rfl 3 rfl 81 rfl ?_
            obtain ⟨v5, hv5, hf⟩ := bn1_e hf
            refine cs_i hX (c9_isUnder r g u h _ _ hv5) wvX9_isUnder q_1119 (Nat.le_of_ble_eq_true rfl) (Nat.le_of_ble_eq_true rfl) (fun _ => rfl) [] rfl (Nat.le_of_ble_eq_true rfl) dX9_taken_81 84 rfl ?_
            refine v_if_eq hX dX9_taken_84 96 rfl 87 rfl (fun h7 => ?_) (fun h7 => ?_)
            · replace hf := it_p h7 hf
              refine v_bipush (v := (-13 : Int32)) hX dX9_taken_96 (by decide) 98 rfl ?_
              exact hR _ hf _ _ dX9_taken_98 rfl
            · replace hf := it_n h7 hf
              refine v_aload_n hX dX9_taken_87 rfl 1 rfl 88 rfl ?_
              refine gf_52_44 hX q_129 dX9_taken_88 91 rfl ?_
              refine v_iload_n hX dX9_taken_91 rfl 2 rfl 92 rfl ?_
              obtain ⟨hi6, hf⟩ := gd_e hf
              refine al_78 hX hi6 dX9_taken_92 ((g 78) p1.toNatClampNeg) rfl 93 rfl ?_
              refine v_goto hX dX9_taken_93 98 rfl ?_
              exact hR _ hf _ _ dX9_taken_98 rfl
        · replace hf := it_p h12 hf
          refine v_iload_n hX dX9_taken_48 rfl 3 rfl 49 rfl ?_
          refine v_bipush (v := (10 : Int32)) hX dX9_taken_49 (by decide) 51 rfl ?_
          refine v_aload_n hX dX9_taken_51 rfl 1 rfl 52 rfl ?_
          refine gf_52_44 hX q_129 dX9_taken_52 55 rfl ?_
          refine v_iload_n hX dX9_taken_55 rfl 2 rfl 56 rfl ?_
          obtain ⟨hi9, hf⟩ := gd_e hf
          refine al_78 hX hi9 dX9_taken_56 ((g 78) p1.toNatClampNeg) rfl 57 rfl ?_
          refine v_iadd hX dX9_taken_57 58 rfl ?_
          refine v_icmp_ne hX dX9_taken_58 70 rfl 61 rfl (fun h11 => ?_) (fun h11 => ?_)
          · replace hf := it_n h11 hf
            refine v_bipush (v := (-13 : Int32)) hX dX9_taken_70 (by decide) 72 rfl ?_
            exact hR _ hf _ _ dX9_taken_72 rfl
          · replace hf := it_p h11 hf
            refine v_aload_n hX dX9_taken_61 rfl 1 rfl 62 rfl ?_
            refine gf_52_45 hX q_130 dX9_taken_62 65 rfl ?_
            refine v_iload_n hX dX9_taken_65 rfl 2 rfl 66 rfl ?_
            obtain ⟨hi10, hf⟩ := gd_e hf
            refine al_79 hX hi10 dX9_taken_66 ((g 79) p1.toNatClampNeg) rfl 67 rfl ?_
            refine v_goto hX dX9_taken_67 72 rfl ?_
            exact hR _ hf _ _ dX9_taken_72 rfl
      · replace hf := it_n h13 hf
        refine v_bipush (v := (-11 : Int32)) hX dX9_taken_39 (by decide) 41 rfl ?_
        exact hR _ hf _ _ dX9_taken_41 rfl
    refine v_if_ne hX dX9_taken_13 29 rfl 16 rfl (fun h16 => ?_) (fun h16 => ?_)
    · replace hf := it_n h16 hf
      exact HJ3  hf
    · replace hf := it_p h16 hf
      refine v_iload_n hX dX9_taken_16 rfl 2 rfl 17 rfl ?_
      refine v_bipush (v := (10 : Int32)) hX dX9_taken_17 (by decide) 19 rfl ?_
      refine v_bipush (v := (13 : Int32)) hX dX9_taken_19 (by decide) 21 rfl ?_
      obtain ⟨v14, hv14, hf⟩ := bn1_e hf
      refine cs_i hX (c9_in r g u h _ _ _ hv14) wvX9_in q_150 (Nat.le_of_ble_eq_true rfl) (Nat.le_of_ble_eq_true rfl) (fun _ => rfl) [] rfl (Nat.le_of_ble_eq_true rfl) dX9_taken_21 24 rfl ?_
      refine v_if_ne hX dX9_taken_24 29 rfl 27 rfl (fun h15 => ?_) (fun h15 => ?_)
      · replace hf := it_n h15 hf
        exact HJ3  hf
      · replace hf := it_p h15 hf
        refine v_iconst (v := (-1 : Int32)) hX dX9_taken_27 (by decide) 28 rfl ?_
        exact hR _ hf _ _ dX9_taken_28 rfl
set_option maxRecDepth 100000 in
set_option maxHeartbeats 4000000 in
theorem c9_tie (r : Nat → Int32) (g : Nat → Nat → Int32) (u : Nat → Int64) (h : Nat → Nat → Int64) (p1 : Int32) (p2 : Int32) {res : Int32} (hf : f9_tie (r 31) (r 30) (g 57) (g 55) (g 58) (g 56) p1 p2 = some res) : MAi yX9_tie cX9_tie 3 (some .int) 3 (fun a => [.ref (a 52), .int p1, .int p2]) r g u h res r g u h := by
  refine mi_i (by decide +kernel) (fun a => Nat.le_of_ble_eq_true rfl) (fun X hX hn hR => ?_)
  replace hR : ∀ q : Int32, some q = some res → ∀ lv pc, decode cX9_tie pc = .ok (.ireturn, 1) → narrow .int (.int q) = .int q → VC X r g u h lv [.int q] pc := fun q hq => by cases hq; exact hR
  replace hX : CX X RX9 cX9_tie 3 := hX
  show VC X r g u h [(0, .ref (aX X 52)), (1, .int p1), (2, .int p2)] [] 0
  rw [f9_tie] at hf
  refine v_aload_n hX dX9_tie_0 rfl 0 rfl 1 rfl ?_
  refine v_iload_n hX dX9_tie_1 rfl 1 rfl 2 rfl ?_
  obtain ⟨v1, hv1, hf⟩ := bn1_e hf
  refine cv_i hX (c9_isClaim r g u h _ hv1) wvX9_isClaim q_525 rc_52 (Nat.le_of_ble_eq_true rfl) (Nat.le_of_ble_eq_true rfl) (fun _ => rfl) [] rfl (Nat.le_of_ble_eq_true rfl) dX9_tie_2 5 rfl ?_
  refine v_if_eq hX dX9_tie_5 30 rfl 8 rfl (fun h6 => ?_) (fun h6 => ?_)
  · replace hf := it_p h6 hf
    refine v_iconst (v := (-1 : Int32)) hX dX9_tie_30 (by decide) 31 rfl ?_
    exact hR _ hf _ _ dX9_tie_31 rfl
  · replace hf := it_n h6 hf
    refine v_aload_n hX dX9_tie_8 rfl 0 rfl 9 rfl ?_
    refine v_iload_n hX dX9_tie_9 rfl 2 rfl 10 rfl ?_
    obtain ⟨v2, hv2, hf⟩ := bn1_e hf
    refine cv_i hX (c9_isClaim r g u h _ hv2) wvX9_isClaim q_525 rc_52 (Nat.le_of_ble_eq_true rfl) (Nat.le_of_ble_eq_true rfl) (fun _ => rfl) [] rfl (Nat.le_of_ble_eq_true rfl) dX9_tie_10 13 rfl ?_
    refine v_if_eq hX dX9_tie_13 30 rfl 16 rfl (fun h5 => ?_) (fun h5 => ?_)
    · replace hf := it_p h5 hf
      refine v_iconst (v := (-1 : Int32)) hX dX9_tie_30 (by decide) 31 rfl ?_
      exact hR _ hf _ _ dX9_tie_31 rfl
    · replace hf := it_n h5 hf
      refine v_iload_n hX dX9_tie_16 rfl 1 rfl 17 rfl ?_
      refine v_iload_n hX dX9_tie_17 rfl 2 rfl 18 rfl ?_
      refine v_icmp_eq hX dX9_tie_18 30 rfl 21 rfl (fun h4 => ?_) (fun h4 => ?_)
      · replace hf := it_p h4 hf
        refine v_iconst (v := (-1 : Int32)) hX dX9_tie_30 (by decide) 31 rfl ?_
        exact hR _ hf _ _ dX9_tie_31 rfl
      · replace hf := it_n h4 hf
        refine v_aload_n hX dX9_tie_21 rfl 0 rfl 22 rfl ?_
        refine v_iload_n hX dX9_tie_22 rfl 1 rfl 23 rfl ?_
        refine v_iload_n hX dX9_tie_23 rfl 2 rfl 24 rfl ?_
        obtain ⟨v3, hv3, hf⟩ := bn1_e hf
        refine cv_i hX (c9_strengthOf r g u h _ _ hv3) wvX9_strengthOf q_582 rc_52 (Nat.le_of_ble_eq_true rfl) (Nat.le_of_ble_eq_true rfl) (fun _ => rfl) [] rfl (Nat.le_of_ble_eq_true rfl) dX9_tie_24 27 rfl ?_
        refine v_goto hX dX9_tie_27 31 rfl ?_
        exact hR _ hf _ _ dX9_tie_31 rfl
set_option maxRecDepth 100000 in
set_option maxHeartbeats 4000000 in
theorem c9_tied (r : Nat → Int32) (g : Nat → Nat → Int32) (u : Nat → Int64) (h : Nat → Nat → Int64) (p1 : Int32) {res : Int32} (hf : f9_tied (r 31) (r 30) (g 57) (g 55) (g 58) (g 56) p1 = some res) : MAi yX9_tied cX9_tied 2 (some .int) 4 (fun a => [.ref (a 52), .int p1]) r g u h res r g u h := by
  refine mi_i (by decide +kernel) (fun a => Nat.le_of_ble_eq_true rfl) (fun X hX hn hR => ?_)
  replace hR : ∀ q : Int32, some q = some res → ∀ lv pc, decode cX9_tied pc = .ok (.ireturn, 1) → narrow .int (.int q) = .int q → VC X r g u h lv [.int q] pc := fun q hq => by cases hq; exact hR
  replace hX : CX X RX9 cX9_tied 4 := hX
  show VC X r g u h [(0, .ref (aX X 52)), (1, .int p1)] [] 0
  rw [f9_tied] at hf
  refine v_aload_n hX dX9_tied_0 rfl 0 rfl 1 rfl ?_
  refine v_iload_n hX dX9_tied_1 rfl 1 rfl 2 rfl ?_
  obtain ⟨v1, hv1, hf⟩ := bn1_e hf
  refine cv_i hX (c9_isClaim r g u h _ hv1) wvX9_isClaim q_525 rc_52 (Nat.le_of_ble_eq_true rfl) (Nat.le_of_ble_eq_true rfl) (fun _ => rfl) [] rfl (Nat.le_of_ble_eq_true rfl) dX9_tied_2 5 rfl ?_
  refine v_if_eq hX dX9_tied_5 16 rfl 8 rfl (fun h3 => ?_) (fun h3 => ?_)
  · replace hf := it_p h3 hf
    refine v_iconst (v := (-1 : Int32)) hX dX9_tied_16 (by decide) 17 rfl ?_
    exact hR _ hf _ _ dX9_tied_17 rfl
  · replace hf := it_n h3 hf
    refine v_aload_n hX dX9_tied_8 rfl 0 rfl 9 rfl ?_
    refine v_iload_n hX dX9_tied_9 rfl 1 rfl 10 rfl ?_
    obtain ⟨v2, hv2, hf⟩ := bn1_e hf
    refine cv_i hX (c9_tiedTo r g u h _ hv2) wvX9_tiedTo q_604 rc_52 (Nat.le_of_ble_eq_true rfl) (Nat.le_of_ble_eq_true rfl) (fun _ => rfl) [] rfl (Nat.le_of_ble_eq_true rfl) dX9_tied_10 13 rfl ?_
    refine v_goto hX dX9_tied_13 17 rfl ?_
    exact hR _ hf _ _ dX9_tied_17 rfl
set_option maxRecDepth 100000 in
set_option maxHeartbeats 4000000 in
theorem c9_trace (r : Nat → Int32) (g : Nat → Nat → Int32) (u : Nat → Int64) (h : Nat → Nat → Int64) (p1 : Int32) {res : Int32} (hf : f9_trace (r 49) (g 80) p1 = some res) : MAi yX9_trace cX9_trace 2 (some .int) 1 (fun a => [.ref (a 52), .int p1]) r g u h res r g u h := by
  refine mi_i (by decide +kernel) (fun a => Nat.le_of_ble_eq_true rfl) (fun X hX hn hR => ?_)
  replace hR : ∀ q : Int32, some q = some res → ∀ lv pc, decode cX9_trace pc = .ok (.ireturn, 1) → narrow .int (.int q) = .int q → VC X r g u h lv [.int q] pc := fun q hq => by cases hq; exact hR
  replace hX : CX X RX9 cX9_trace 1 := hX
  show VC X r g u h [(0, .ref (aX X 52)), (1, .int p1)] [] 0
  rw [f9_trace] at hf
  refine v_iload_n hX dX9_trace_0 rfl 1 rfl 1 rfl ?_
  refine v_iconst (v := (0 : Int32)) hX dX9_trace_1 (by decide) 2 rfl ?_
  refine v_aload_n hX dX9_trace_2 rfl 0 rfl 3 rfl ?_
  refine gf_52_50 hX q_1153 dX9_trace_3 ((r 49)) rfl 6 rfl ?_
  refine v_iconst (v := (1 : Int32)) hX dX9_trace_6 (by decide) 7 rfl ?_
  refine v_isub hX dX9_trace_7 8 rfl ?_
  obtain ⟨v1, hv1, hf⟩ := bn1_e hf
  refine cs_i hX (c9_in r g u h _ _ _ hv1) wvX9_in q_150 (Nat.le_of_ble_eq_true rfl) (Nat.le_of_ble_eq_true rfl) (fun _ => rfl) [] rfl (Nat.le_of_ble_eq_true rfl) dX9_trace_8 11 rfl ?_
  refine v_if_eq hX dX9_trace_11 23 rfl 14 rfl (fun h3 => ?_) (fun h3 => ?_)
  · replace hf := it_p h3 hf
    refine v_bipush (v := (-3 : Int32)) hX dX9_trace_23 (by decide) 25 rfl ?_
    exact hR _ hf _ _ dX9_trace_25 rfl
  · replace hf := it_n h3 hf
    refine v_aload_n hX dX9_trace_14 rfl 0 rfl 15 rfl ?_
    refine gf_52_49 hX q_131 dX9_trace_15 18 rfl ?_
    refine v_iload_n hX dX9_trace_18 rfl 1 rfl 19 rfl ?_
    obtain ⟨hi2, hf⟩ := gd_e hf
    refine al_80 hX hi2 dX9_trace_19 ((g 80) p1.toNatClampNeg) rfl 20 rfl ?_
    refine v_goto hX dX9_trace_20 25 rfl ?_
    exact hR _ hf _ _ dX9_trace_25 rfl
set_option maxRecDepth 100000 in
set_option maxHeartbeats 4000000 in
theorem c9_turned (r : Nat → Int32) (g : Nat → Nat → Int32) (u : Nat → Int64) (h : Nat → Nat → Int64) (p1 : Int32) {res : Int32} (hf : f9_turned (r 31) (r 30) (g 57) (g 56) p1 = some res) : MAi yX9_turned cX9_turned 7 (some .int) 3 (fun a => [.ref (a 52), .int p1]) r g u h res r g u h := by
  refine mi_i (by decide +kernel) (fun a => Nat.le_of_ble_eq_true rfl) (fun X hX hn hR => ?_)
  replace hR : ∀ q : Int32, some q = some res → ∀ lv pc, decode cX9_turned pc = .ok (.ireturn, 1) → narrow .int (.int q) = .int q → VC X r g u h lv [.int q] pc := fun q hq => by cases hq; exact hR
  replace hX : CX X RX9 cX9_turned 3 := hX
  show VC X r g u h [(0, .ref (aX X 52)), (1, .int p1)] [] 0
  rw [f9_turned] at hf
  refine v_aload_n hX dX9_turned_0 rfl 0 rfl 1 rfl ?_
  refine v_iload_n hX dX9_turned_1 rfl 1 rfl 2 rfl ?_
  obtain ⟨v1, hv1, hf⟩ := bn1_e hf
  refine cv_i hX (c9_isPerson r g u h _ hv1) wvX9_isPerson q_450 rc_52 (Nat.le_of_ble_eq_true rfl) (Nat.le_of_ble_eq_true rfl) (fun _ => rfl) [] rfl (Nat.le_of_ble_eq_true rfl) dX9_turned_2 5 rfl ?_
  refine v_if_ne hX dX9_turned_5 10 rfl 8 rfl (fun h25 => ?_) (fun h25 => ?_)
  · replace hf := it_n h25 hf
    refine v_iconst (v := (0 : Int32)) hX dX9_turned_10 (by decide) 11 rfl ?_
    refine v_istore_n hX dX9_turned_11 rfl (ltn hn (by decide)) 12 rfl [(2, .int (0 : Int32)), (0, .ref (aX X 52)), (1, .int p1)] rfl ?_
    refine v_iconst (v := (0 : Int32)) hX dX9_turned_12 (by decide) 13 rfl ?_
    refine v_istore_n hX dX9_turned_13 rfl (ltn hn (by decide)) 14 rfl [(3, .int (0 : Int32)), (2, .int (0 : Int32)), (0, .ref (aX X 52)), (1, .int p1)] rfl ?_
    obtain ⟨K4, hK4, hf⟩ := jn_x hf
    have HK4 : ∀ (x2 : Int32) (x3 : Int32), K4 x2 x3 = some res → VC X r g u h [(2, .int x2)] [] 115 := by
      intro x2 x3 hf
      rw [hK4] at hf
      refine v_iload_n hX dX9_turned_115 rfl 0 rfl 116 rfl ?_
      exact hR _ hf _ _ dX9_turned_116 rfl
    have HLK4 : ∀ (n5 : Nat) (x2 : Int32) (x3 : Int32), f9_turned_L14 (r 31) (g 57) (g 56) p1 n5 x2 x3 K4 = some res → VC X r g u h [(0, .ref (aX X 52)), (1, .int p1), (2, .int x2), (3, .int x3)] [] 14 := by
      intro n5
      induction n5 with
      | zero => intro x2 x3 hf; exact no_s hf
      | succ n5 ih =>
        intro x2 x3 hf
        rw [f9_turned_L14] at hf
        refine v_iload_n hX dX9_turned_14 rfl 3 rfl 15 rfl ?_
        refine v_aload_n hX dX9_turned_15 rfl 0 rfl 16 rfl ?_
        refine gf_52_5 hX q_462 dX9_turned_16 ((r 31)) rfl 19 rfl ?_
        refine v_icmp_ge hX dX9_turned_19 115 rfl 22 rfl (fun h24 => ?_) (fun h24 => ?_)
        · replace hf := it_p h24 hf
          refine v_sub [(2, .int x2)] (sbc 2 rfl sbn) ?_
          exact HK4 _ _ hf
        · replace hf := it_n h24 hf
          refine v_iload_n hX dX9_turned_22 rfl 3 rfl 23 rfl ?_
          refine v_iconst (v := (1 : Int32)) hX dX9_turned_23 (by decide) 24 rfl ?_
          refine v_iadd hX dX9_turned_24 25 rfl ?_
          refine v_istore hX dX9_turned_25 (ltn hn (by decide)) 27 rfl [(4, .int (x3 + (1 : Int32))), (0, .ref (aX X 52)), (1, .int p1), (2, .int x2), (3, .int x3)] rfl ?_
          obtain ⟨K8, hK8, hf⟩ := jn_x hf
          have HK8 : ∀ (x6 : Int32) (x7 : Int32), K8 x6 x7 = some res → VC X r g u h [(0, .ref (aX X 52)), (1, .int p1), (2, .int x6), (3, .int x3)] [] 109 := by
            intro x6 x7 hf
            rw [hK8] at hf
            refine v_inc (c := (1 : Int32)) hX dX9_turned_109 3 rfl (by decide) (ltn hn (by decide)) 112 rfl [(3, .int (x3 + (1 : Int32))), (0, .ref (aX X 52)), (1, .int p1), (2, .int x6)] rfl ?_
            refine v_goto hX dX9_turned_112 14 rfl ?_
            refine v_sub [(0, .ref (aX X 52)), (1, .int p1), (2, .int x6), (3, .int (x3 + (1 : Int32)))] (sbc 1 rfl (sbc 2 rfl (sbc 3 rfl (sbc 0 rfl sbn)))) ?_
            exact ih _ _ hf
          have HLK8 : ∀ (n9 : Nat) (x6 : Int32) (x7 : Int32), f9_turned_L27 (r 31) (g 57) (g 56) p1 x3 n9 x6 x7 K8 = some res → VC X r g u h [(0, .ref (aX X 52)), (1, .int p1), (2, .int x6), (3, .int x3), (4, .int x7)] [] 27 := by
            intro n9
            induction n9 with
            | zero => intro x6 x7 hf; exact no_s hf
            | succ n9 ih =>
              intro x6 x7 hf
              rw [f9_turned_L27] at hf
              refine v_iload hX dX9_turned_27 4 rfl 29 rfl ?_
              refine v_aload_n hX dX9_turned_29 rfl 0 rfl 30 rfl ?_
              refine gf_52_5 hX q_462 dX9_turned_30 ((r 31)) rfl 33 rfl ?_
              refine v_icmp_ge hX dX9_turned_33 109 rfl 36 rfl (fun h23 => ?_) (fun h23 => ?_)
              · replace hf := it_p h23 hf
                refine v_sub [(0, .ref (aX X 52)), (1, .int p1), (2, .int x6), (3, .int x3)] (sbc 0 rfl (sbc 1 rfl (sbc 2 rfl (sbc 3 rfl sbn)))) ?_
                exact HK8 _ _ hf
              · replace hf := it_n h23 hf
                refine v_aload_n hX dX9_turned_36 rfl 0 rfl 37 rfl ?_
                refine v_iload_n hX dX9_turned_37 rfl 3 rfl 38 rfl ?_
                refine v_aload_n hX dX9_turned_38 rfl 0 rfl 39 rfl ?_
                refine gf_52_4 hX q_106 dX9_turned_39 42 rfl ?_
                refine v_iload_n hX dX9_turned_42 rfl 1 rfl 43 rfl ?_
                obtain ⟨hi10, hf⟩ := gd_e hf
                refine al_56 hX hi10 dX9_turned_43 ((g 56) p1.toNatClampNeg) rfl 44 rfl ?_
                obtain ⟨v11, hv11, hf⟩ := bn1_e hf
                refine cv_i hX (c9_placesOf r g u h _ _ hv11) wvX9_placesOf q_463 rc_52 (Nat.le_of_ble_eq_true rfl) (Nat.le_of_ble_eq_true rfl) (fun _ => rfl) [] rfl (Nat.le_of_ble_eq_true rfl) dX9_turned_44 47 rfl ?_
                refine v_istore hX dX9_turned_47 (ltn hn (by decide)) 49 rfl [(5, .int v11), (0, .ref (aX X 52)), (1, .int p1), (2, .int x6), (3, .int x3), (4, .int x7)] rfl ?_
                refine v_aload_n hX dX9_turned_49 rfl 1 rfl 50 rfl ?_
                refine v_iload hX dX9_turned_50 5 rfl 52 rfl ?_
                refine v_aload_n hX dX9_turned_52 rfl 1 rfl 53 rfl ?_
                refine gf_52_4 hX q_106 dX9_turned_53 56 rfl ?_
                refine v_iload_n hX dX9_turned_56 rfl 2 rfl 57 rfl ?_
                obtain ⟨hi12, hf⟩ := gd_e hf
                refine al_56 hX hi12 dX9_turned_57 ((g 56) p1.toNatClampNeg) rfl 58 rfl ?_
                obtain ⟨v13, hv13, hf⟩ := bn1_e hf
                refine cv_i hX (c9_placesOf r g u h _ _ hv13) wvX9_placesOf q_463 rc_52 (Nat.le_of_ble_eq_true rfl) (Nat.le_of_ble_eq_true rfl) (fun _ => rfl) [] rfl (Nat.le_of_ble_eq_true rfl) dX9_turned_58 61 rfl ?_
                refine v_istore hX dX9_turned_61 (ltn hn (by decide)) 63 rfl [(6, .int v13), (5, .int v11), (0, .ref (aX X 52)), (1, .int p1), (2, .int x6), (3, .int x3), (4, .int x7)] rfl ?_
                refine v_iload_n hX dX9_turned_63 rfl 4 rfl 64 rfl ?_
                refine v_iload hX dX9_turned_64 1 rfl 66 rfl ?_
                refine v_iconst (v := (1 : Int32)) hX dX9_turned_66 (by decide) 67 rfl ?_
                refine v_iand hX dX9_turned_67 68 rfl ?_
                refine v_iconst (v := (1 : Int32)) hX dX9_turned_68 (by decide) 69 rfl ?_
                obtain ⟨J14, hJ14, hf⟩ := jn_x hf
                have HJ14 : ∀ (s15 : Int32), J14 s15 = some res → VC X r g u h [(0, .ref (aX X 52)), (1, .int p1), (3, .int x3), (4, .int x7)] [.int s15, .int x6] 101 := by
                  intro s15 hf
                  rw [hJ14] at hf
                  refine v_iadd hX dX9_turned_101 102 rfl ?_
                  refine v_istore_n hX dX9_turned_102 rfl (ltn hn (by decide)) 103 rfl [(2, .int (x6 + s15)), (0, .ref (aX X 52)), (1, .int p1), (3, .int x3), (4, .int x7)] rfl ?_
                  refine v_inc (c := (1 : Int32)) hX dX9_turned_103 4 rfl (by decide) (ltn hn (by decide)) 106 rfl [(4, .int (x7 + (1 : Int32))), (2, .int (x6 + s15)), (0, .ref (aX X 52)), (1, .int p1), (3, .int x3)] rfl ?_
                  refine v_goto hX dX9_turned_106 27 rfl ?_
                  refine v_sub [(0, .ref (aX X 52)), (1, .int p1), (2, .int (x6 + s15)), (3, .int x3), (4, .int (x7 + (1 : Int32)))] (sbc 2 rfl (sbc 3 rfl (sbc 1 rfl (sbc 4 rfl (sbc 0 rfl sbn))))) ?_
                  exact ih _ _ hf
                obtain ⟨J16, hJ16, hf⟩ := jn_x hf
                have HJ16 : J16 = some res → VC X r g u h [(0, .ref (aX X 52)), (1, .int p1), (3, .int x3), (4, .int x7)] [.int x6] 96 := by
                  intro hf
                  rw [hJ16] at hf
                  refine v_iconst (v := (1 : Int32)) hX dX9_turned_96 (by decide) 97 rfl ?_
                  refine v_goto hX dX9_turned_97 101 rfl ?_
                  exact HJ14 _ hf
                obtain ⟨J17, hJ17, hf⟩ := jn_x hf
                have HJ17 : J17 = some res → VC X r g u h [(0, .ref (aX X 52)), (1, .int p1), (3, .int x3), (4, .int x7), (5, .int v11), (6, .int v13)] [.int x6] 80 := by
                  intro hf
                  rw [hJ17] at hf
                  refine v_iload hX dX9_turned_80 4 rfl 82 rfl ?_
                  refine v_iconst (v := (2 : Int32)) hX dX9_turned_82 (by decide) 83 rfl ?_
                  refine v_iand hX dX9_turned_83 84 rfl ?_
                  refine v_iconst (v := (2 : Int32)) hX dX9_turned_84 (by decide) 85 rfl ?_
                  obtain ⟨J18, hJ18, hf⟩ := jn_x hf
                  have HJ18 : J18 = some res → VC X r g u h [(0, .ref (aX X 52)), (1, .int p1), (3, .int x3), (4, .int x7)] [.int x6] 100 := by
                    intro hf
                    rw [hJ18] at hf
                    refine v_iconst (v := (0 : Int32)) hX dX9_turned_100 (by decide) 101 rfl ?_
                    exact HJ14 _ hf
                  refine v_icmp_ne hX dX9_turned_85 100 rfl 88 rfl (fun h20 => ?_) (fun h20 => ?_)
                  · replace hf := it_n h20 hf
                    refine v_sub [(0, .ref (aX X 52)), (1, .int p1), (3, .int x3), (4, .int x7)] (sbc 0 rfl (sbc 1 rfl (sbc 2 rfl (sbc 3 rfl sbn)))) ?_
                    exact HJ18  hf
                  · replace hf := it_p h20 hf
                    refine v_iload hX dX9_turned_88 5 rfl 90 rfl ?_
                    refine v_iconst (v := (1 : Int32)) hX dX9_turned_90 (by decide) 91 rfl ?_
                    refine v_iand hX dX9_turned_91 92 rfl ?_
                    refine v_iconst (v := (1 : Int32)) hX dX9_turned_92 (by decide) 93 rfl ?_
                    refine v_icmp_ne hX dX9_turned_93 100 rfl 96 rfl (fun h19 => ?_) (fun h19 => ?_)
                    · replace hf := it_n h19 hf
                      refine v_sub [(0, .ref (aX X 52)), (1, .int p1), (3, .int x3), (4, .int x7)] (sbc 0 rfl (sbc 1 rfl (sbc 2 rfl (sbc 3 rfl sbn)))) ?_
                      exact HJ18  hf
                    · replace hf := it_p h19 hf
                      refine v_sub [(0, .ref (aX X 52)), (1, .int p1), (3, .int x3), (4, .int x7)] (sbc 0 rfl (sbc 1 rfl (sbc 2 rfl (sbc 3 rfl sbn)))) ?_
                      exact HJ16  hf
                refine v_icmp_ne hX dX9_turned_69 80 rfl 72 rfl (fun h22 => ?_) (fun h22 => ?_)
                · replace hf := it_n h22 hf
                  refine v_sub [(0, .ref (aX X 52)), (1, .int p1), (3, .int x3), (4, .int x7), (5, .int v11), (6, .int v13)] (sbc 2 rfl (sbc 3 rfl (sbc 5 rfl (sbc 6 rfl (sbc 1 rfl (sbc 0 rfl sbn)))))) ?_
                  exact HJ17  hf
                · replace hf := it_p h22 hf
                  refine v_iload hX dX9_turned_72 0 rfl 74 rfl ?_
                  refine v_iconst (v := (2 : Int32)) hX dX9_turned_74 (by decide) 75 rfl ?_
                  refine v_iand hX dX9_turned_75 76 rfl ?_
                  refine v_iconst (v := (2 : Int32)) hX dX9_turned_76 (by decide) 77 rfl ?_
                  refine v_icmp_eq hX dX9_turned_77 96 rfl 80 rfl (fun h21 => ?_) (fun h21 => ?_)
                  · replace hf := it_p h21 hf
                    refine v_sub [(0, .ref (aX X 52)), (1, .int p1), (3, .int x3), (4, .int x7)] (sbc 2 rfl (sbc 3 rfl (sbc 5 rfl (sbc 6 rfl sbn)))) ?_
                    exact HJ16  hf
                  · replace hf := it_n h21 hf
                    refine v_sub [(0, .ref (aX X 52)), (1, .int p1), (3, .int x3), (4, .int x7), (5, .int v11), (6, .int v13)] (sbc 2 rfl (sbc 3 rfl (sbc 5 rfl (sbc 6 rfl (sbc 1 rfl (sbc 0 rfl sbn)))))) ?_
                    exact HJ17  hf
          refine v_sub [(0, .ref (aX X 52)), (1, .int p1), (2, .int x2), (3, .int x3), (4, .int (x3 + (1 : Int32)))] (sbc 1 rfl (sbc 2 rfl (sbc 3 rfl (sbc 4 rfl (sbc 0 rfl sbn))))) ?_
          exact HLK8 _ _ _ hf
    refine v_sub [(0, .ref (aX X 52)), (1, .int p1), (2, .int (0 : Int32)), (3, .int (0 : Int32))] (sbc 2 rfl (sbc 3 rfl (sbc 1 rfl (sbc 0 rfl sbn)))) ?_
    exact HLK4 _ _ _ hf
  · replace hf := it_p h25 hf
    refine v_iconst (v := (-1 : Int32)) hX dX9_turned_8 (by decide) 9 rfl ?_
    exact hR _ hf _ _ dX9_turned_9 rfl
set_option maxRecDepth 100000 in
set_option maxHeartbeats 4000000 in
theorem c9_without (r : Nat → Int32) (g : Nat → Nat → Int32) (u : Nat → Int64) (h : Nat → Nat → Int64) (p1 : Int32) {res : Int32 × Int32 × (Nat → Int32) × (Nat → Int32)} (hf : f9_without (r 31) (r 43) (r 30) (g 57) (g 55) (g 58) (g 56) (g 68) p1 = some res) : MAi yX9_without cX9_without 2 (some .int) 6 (fun a => [.ref (a 52), .int p1]) r g u h res.1 (lkp r [(43, res.2.1)]) (lkp g [(58, res.2.2.1), (68, res.2.2.2)]) u h := by
  refine mi_i (by decide +kernel) (fun a => Nat.le_of_ble_eq_true rfl) (fun X hX hn hR => ?_)
  replace hR : ∀ q : Int32 × Int32 × (Nat → Int32) × (Nat → Int32), some q = some res → ∀ lv pc, decode cX9_without pc = .ok (.ireturn, 1) → narrow .int (.int q.1) = .int q.1 → VC X (lkp r [(43, q.2.1)]) (lkp g [(58, q.2.2.1), (68, q.2.2.2)]) u h lv [.int q.1] pc := fun q hq => by cases hq; exact hR
  replace hX : CX X RX9 cX9_without 6 := hX
  refine v_opr [43] [(43, r 43)] rfl ?_
  refine v_opg [58, 68] [(58, g 58), (68, g 68)] rfl ?_
  show VC X (lkp r [(43, r 43)]) (lkp g [(58, g 58), (68, g 68)]) u h [(0, .ref (aX X 52)), (1, .int p1)] [] 0
  rw [f9_without] at hf
  refine v_iload_n hX dX9_without_0 rfl 1 rfl 1 rfl ?_
  refine v_iconst (v := (0 : Int32)) hX dX9_without_1 (by decide) 2 rfl ?_
  refine v_iconst (v := (3 : Int32)) hX dX9_without_2 (by decide) 3 rfl ?_
  obtain ⟨v1, hv1, hf⟩ := bn1_e hf
  refine cs_i hX (c9_in (lkp r [(43, (r 43))]) (lkp g [(58, (g 58)), (68, (g 68))]) u h _ _ _ hv1) wvX9_in q_150 (Nat.le_of_ble_eq_true rfl) (Nat.le_of_ble_eq_true rfl) (fun _ => rfl) [] rfl (Nat.le_of_ble_eq_true rfl) dX9_without_3 6 rfl ?_
  refine v_if_eq hX dX9_without_6 17 rfl 9 rfl (fun h6 => ?_) (fun h6 => ?_)
  · replace hf := it_p h6 hf
    refine v_iconst (v := (-1 : Int32)) hX dX9_without_17 (by decide) 18 rfl ?_
    exact hR _ hf _ _ dX9_without_18 rfl
  · replace hf := it_n h6 hf
    refine v_aload_n hX dX9_without_9 rfl 0 rfl 10 rfl ?_
    refine v_iload_n hX dX9_without_10 rfl 1 rfl 11 rfl ?_
    obtain ⟨v2, c3, c4, c5, hv2, hf⟩ := bn4_e hf
    refine cv_i hX (c9_lotWithout (lkp r [(43, (r 43))]) (lkp g [(58, (g 58)), (68, (g 68))]) u h _ hv2) wvX9_lotWithout q_761 rc_52 (Nat.le_of_ble_eq_true rfl) (Nat.le_of_ble_eq_true rfl) (fun _ => rfl) [] rfl (Nat.le_of_ble_eq_true rfl) dX9_without_11 14 rfl ?_
    refine v_mgr [(43, c3)] rfl ?_
    refine v_mgg [(58, c4), (68, c5)] rfl ?_
    refine v_goto hX dX9_without_14 18 rfl ?_
    exact hR _ hf _ _ dX9_without_18 rfl
