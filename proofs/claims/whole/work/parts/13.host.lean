set_option maxRecDepth 100000 in
set_option maxHeartbeats 4000000 in
theorem c1_isShelf (r : Nat → Int32) (g : Nat → Nat → Int32) (u : Nat → Int64) (h : Nat → Nat → Int64) (p0 : Int32) {res : Int32} (hf : f1_isShelf p0 = some res) : MAi yX1_isShelf cX1_isShelf 1 (some .boolean) 0 (fun a => [.int p0]) r g u h res r g u h := by
  refine mi_i (by decide +kernel) (fun a => Nat.le_of_ble_eq_true rfl) (fun X hX hn hR => ?_)
  replace hR : ∀ q : Int32, some q = some res → ∀ lv pc, decode cX1_isShelf pc = .ok (.ireturn, 1) → narrow .boolean (.int q) = .int q → VC X r g u h lv [.int q] pc := fun q hq => by cases hq; exact hR
  replace hX : CX X RX1 cX1_isShelf 0 := hX
  show VC X r g u h [(0, .int p0)] [] 0
  rw [f1_isShelf] at hf
  refine v_iload_n hX dX1_isShelf_0 rfl 0 rfl 1 rfl ?_
  refine v_if_lt hX dX1_isShelf_1 13 rfl 4 rfl (fun h2 => ?_) (fun h2 => ?_)
  · replace hf := it_p h2 hf
    refine v_iconst (v := (0 : Int32)) hX dX1_isShelf_13 (by decide) 14 rfl ?_
    exact hR _ hf _ _ dX1_isShelf_14 (bz_nar (v := (0 : Int32)) (by decide))
  · replace hf := it_n h2 hf
    refine v_iload_n hX dX1_isShelf_4 rfl 0 rfl 5 rfl ?_
    refine v_iconst (v := (4 : Int32)) hX dX1_isShelf_5 (by decide) 6 rfl ?_
    refine v_icmp_ge hX dX1_isShelf_6 13 rfl 9 rfl (fun h1 => ?_) (fun h1 => ?_)
    · replace hf := it_p h1 hf
      refine v_iconst (v := (0 : Int32)) hX dX1_isShelf_13 (by decide) 14 rfl ?_
      exact hR _ hf _ _ dX1_isShelf_14 (bz_nar (v := (0 : Int32)) (by decide))
    · replace hf := it_n h1 hf
      refine v_iconst (v := (1 : Int32)) hX dX1_isShelf_9 (by decide) 10 rfl ?_
      refine v_goto hX dX1_isShelf_10 14 rfl ?_
      exact hR _ hf _ _ dX1_isShelf_14 (bz_nar (v := (1 : Int32)) (by decide))
set_option maxRecDepth 100000 in
set_option maxHeartbeats 4000000 in
theorem c1_heldOn (r : Nat → Int32) (g : Nat → Nat → Int32) (u : Nat → Int64) (h : Nat → Nat → Int64) (p1 : Int32) (p2 : Int32) {res : Int32} (hf : f1_heldOn (g 47) (g 48) p1 p2 = some res) : MAi yX1_heldOn cX1_heldOn 4 (some .int) 1 (fun a => [.ref (a 43), .int p1, .int p2]) r g u h res r g u h := by
  refine mi_i (by decide +kernel) (fun a => Nat.le_of_ble_eq_true rfl) (fun X hX hn hR => ?_)
  replace hR : ∀ q : Int32, some q = some res → ∀ lv pc, decode cX1_heldOn pc = .ok (.ireturn, 1) → narrow .int (.int q) = .int q → VC X r g u h lv [.int q] pc := fun q hq => by cases hq; exact hR
  replace hX : CX X RX1 cX1_heldOn 1 := hX
  show VC X r g u h [(0, .ref (aX X 43)), (1, .int p1), (2, .int p2)] [] 0
  rw [f1_heldOn] at hf
  refine v_iload_n hX dX1_heldOn_0 rfl 1 rfl 1 rfl ?_
  obtain ⟨v1, hv1, hf⟩ := bn1_e hf
  refine cs_i hX (c1_isShelf r g u h _ hv1) wvX1_isShelf q_1081 (Nat.le_of_ble_eq_true rfl) (Nat.le_of_ble_eq_true rfl) (fun _ => rfl) [] rfl (Nat.le_of_ble_eq_true rfl) dX1_heldOn_1 4 rfl ?_
  refine v_if_ne hX dX1_heldOn_4 9 rfl 7 rfl (fun h11 => ?_) (fun h11 => ?_)
  · replace hf := it_n h11 hf
    refine v_aload_n hX dX1_heldOn_9 rfl 0 rfl 10 rfl ?_
    refine gf_43_3 hX q_93 dX1_heldOn_10 13 rfl ?_
    refine v_iload_n hX dX1_heldOn_13 rfl 1 rfl 14 rfl ?_
    obtain ⟨hi2, hf⟩ := gd_e hf
    refine al_47 hX hi2 dX1_heldOn_14 ((g 47) p1.toNatClampNeg) rfl 15 rfl ?_
    obtain ⟨J3, hJ3, hf⟩ := jn_x hf
    have HJ3 : ∀ (s4 : Int32), J3 s4 = some res → VC X r g u h [(0, .ref (aX X 43)), (1, .int p1)] [.int s4] 33 := by
      intro s4 hf
      rw [hJ3] at hf
      refine v_istore_n hX dX1_heldOn_33 rfl (ltn hn (by decide)) 34 rfl [(3, .int s4), (0, .ref (aX X 43)), (1, .int p1)] rfl ?_
      refine v_iload_n hX dX1_heldOn_34 rfl 0 rfl 35 rfl ?_
      refine v_if_eq hX dX1_heldOn_35 42 rfl 38 rfl (fun h6 => ?_) (fun h6 => ?_)
      · replace hf := it_p h6 hf
        refine v_aload_n hX dX1_heldOn_42 rfl 1 rfl 43 rfl ?_
        refine gf_43_3 hX q_93 dX1_heldOn_43 46 rfl ?_
        refine v_iload_n hX dX1_heldOn_46 rfl 2 rfl 47 rfl ?_
        obtain ⟨hi5, hf⟩ := gd_e hf
        refine al_47 hX hi5 dX1_heldOn_47 ((g 47) p1.toNatClampNeg) rfl 48 rfl ?_
        exact hR _ hf _ _ dX1_heldOn_48 rfl
      · replace hf := it_n h6 hf
        refine v_iconst (v := (-1 : Int32)) hX dX1_heldOn_38 (by decide) 39 rfl ?_
        refine v_goto hX dX1_heldOn_39 48 rfl ?_
        exact hR _ hf _ _ dX1_heldOn_48 rfl
    obtain ⟨J7, hJ7, hf⟩ := jn_x hf
    have HJ7 : J7 = some res → VC X r g u h [(0, .ref (aX X 43)), (1, .int p1)] [] 32 := by
      intro hf
      rw [hJ7] at hf
      refine v_iconst (v := (0 : Int32)) hX dX1_heldOn_32 (by decide) 33 rfl ?_
      exact HJ3 _ hf
    refine v_if_ne hX dX1_heldOn_15 32 rfl 18 rfl (fun h10 => ?_) (fun h10 => ?_)
    · replace hf := it_n h10 hf
      refine v_sub [(0, .ref (aX X 43)), (1, .int p1)] (sbc 0 rfl (sbc 1 rfl sbn)) ?_
      exact HJ7  hf
    · replace hf := it_p h10 hf
      refine v_aload_n hX dX1_heldOn_18 rfl 0 rfl 19 rfl ?_
      refine gf_43_4 hX q_94 dX1_heldOn_19 22 rfl ?_
      refine v_iload_n hX dX1_heldOn_22 rfl 1 rfl 23 rfl ?_
      obtain ⟨hi8, hf⟩ := gd_e hf
      refine al_48 hX hi8 dX1_heldOn_23 ((g 48) p1.toNatClampNeg) rfl 24 rfl ?_
      refine v_iload_n hX dX1_heldOn_24 rfl 2 rfl 25 rfl ?_
      refine v_icmp_lt hX dX1_heldOn_25 32 rfl 28 rfl (fun h9 => ?_) (fun h9 => ?_)
      · replace hf := it_p h9 hf
        refine v_sub [(0, .ref (aX X 43)), (1, .int p1)] (sbc 0 rfl (sbc 1 rfl sbn)) ?_
        exact HJ7  hf
      · replace hf := it_n h9 hf
        refine v_iconst (v := (1 : Int32)) hX dX1_heldOn_28 (by decide) 29 rfl ?_
        refine v_goto hX dX1_heldOn_29 33 rfl ?_
        refine v_sub [(0, .ref (aX X 43)), (1, .int p1)] (sbc 0 rfl (sbc 1 rfl sbn)) ?_
        exact HJ3 _ hf
  · replace hf := it_p h11 hf
    refine v_iconst (v := (-1 : Int32)) hX dX1_heldOn_7 (by decide) 8 rfl ?_
    exact hR _ hf _ _ dX1_heldOn_8 rfl
set_option maxRecDepth 100000 in
set_option maxHeartbeats 4000000 in
theorem c3_bodyOf (r : Nat → Int32) (g : Nat → Nat → Int32) (u : Nat → Int64) (h : Nat → Nat → Int64) (p1 : Int32) {res : Int32} (hf : f3_bodyOf (r 26) p1 = some res) : MAi yX3_bodyOf cX3_bodyOf 3 (some .int) 0 (fun a => [.ref (a 49), .int p1]) r g u h res r g u h := by
  refine mi_i (by decide +kernel) (fun a => Nat.le_of_ble_eq_true rfl) (fun X hX hn hR => ?_)
  replace hR : ∀ q : Int32, some q = some res → ∀ lv pc, decode cX3_bodyOf pc = .ok (.ireturn, 1) → narrow .int (.int q) = .int q → VC X r g u h lv [.int q] pc := fun q hq => by cases hq; exact hR
  replace hX : CX X RX3 cX3_bodyOf 0 := hX
  show VC X r g u h [(0, .ref (aX X 49)), (1, .int p1)] [] 0
  rw [f3_bodyOf] at hf
  refine v_aload_n hX dX3_bodyOf_0 rfl 0 rfl 1 rfl ?_
  refine gf_49_2 hX q_1131 dX3_bodyOf_1 ((r 26)) rfl 4 rfl ?_
  refine v_iconst (v := (4 : Int32)) hX dX3_bodyOf_4 (by decide) 5 rfl ?_
  refine v_imul hX dX3_bodyOf_5 6 rfl ?_
  refine v_iload_n hX dX3_bodyOf_6 rfl 1 rfl 7 rfl ?_
  refine v_iadd hX dX3_bodyOf_7 8 rfl ?_
  refine v_istore_n hX dX3_bodyOf_8 rfl (ltn hn (by decide)) 9 rfl [(2, .int (((r 26) * (4 : Int32)) + p1)), (0, .ref (aX X 49)), (1, .int p1)] rfl ?_
  refine v_iload_n hX dX3_bodyOf_9 rfl 2 rfl 10 rfl ?_
  refine v_if_lt hX dX3_bodyOf_10 38 rfl 13 rfl (fun h5 => ?_) (fun h5 => ?_)
  · replace hf := it_p h5 hf
    refine v_iconst (v := (0 : Int32)) hX dX3_bodyOf_38 (by decide) 39 rfl ?_
    exact hR _ hf _ _ dX3_bodyOf_39 rfl
  · replace hf := it_n h5 hf
    refine v_iload_n hX dX3_bodyOf_13 rfl 2 rfl 14 rfl ?_
    refine v_iconst (v := (4 : Int32)) hX dX3_bodyOf_14 (by decide) 15 rfl ?_
    refine v_icmp_ge hX dX3_bodyOf_15 38 rfl 18 rfl (fun h4 => ?_) (fun h4 => ?_)
    · replace hf := it_p h4 hf
      refine v_iconst (v := (0 : Int32)) hX dX3_bodyOf_38 (by decide) 39 rfl ?_
      exact hR _ hf _ _ dX3_bodyOf_39 rfl
    · replace hf := it_n h4 hf
      refine v_iload_n hX dX3_bodyOf_18 rfl 0 rfl 19 rfl ?_
      refine v_if_lt hX dX3_bodyOf_19 38 rfl 22 rfl (fun h3 => ?_) (fun h3 => ?_)
      · replace hf := it_p h3 hf
        refine v_iconst (v := (0 : Int32)) hX dX3_bodyOf_38 (by decide) 39 rfl ?_
        exact hR _ hf _ _ dX3_bodyOf_39 rfl
      · replace hf := it_n h3 hf
        refine v_iload_n hX dX3_bodyOf_22 rfl 0 rfl 23 rfl ?_
        refine gs_202 hX q_1140 dX3_bodyOf_23 26 rfl ?_
        refine len_202 hX dX3_bodyOf_26 27 rfl ?_
        refine v_icmp_ge hX dX3_bodyOf_27 38 rfl 30 rfl (fun h2 => ?_) (fun h2 => ?_)
        · replace hf := it_p h2 hf
          refine v_iconst (v := (0 : Int32)) hX dX3_bodyOf_38 (by decide) 39 rfl ?_
          exact hR _ hf _ _ dX3_bodyOf_39 rfl
        · replace hf := it_n h2 hf
          refine gs_202 hX q_1140 dX3_bodyOf_30 33 rfl ?_
          refine v_iload_n hX dX3_bodyOf_33 rfl 0 rfl 34 rfl ?_
          obtain ⟨hi1, hf⟩ := gd_e hf
          refine al_202 hX hi1 dX3_bodyOf_34 35 rfl ?_
          refine v_goto hX dX3_bodyOf_35 39 rfl ?_
          exact hR _ hf _ _ dX3_bodyOf_39 rfl
set_option maxRecDepth 100000 in
set_option maxHeartbeats 4000000 in
theorem c3_share (r : Nat → Int32) (g : Nat → Nat → Int32) (u : Nat → Int64) (h : Nat → Nat → Int64) (p1 : Int32) {res : Int32 × Int32} (hf : f3_share (r 28) (r 27) (r 29) p1 = some res) : MAi yX3_share cX3_share 3 (some .int) 0 (fun a => [.ref (a 49), .int p1]) r g u h res.1 (lkp r [(29, res.2)]) g u h := by
  refine mi_i (by decide +kernel) (fun a => Nat.le_of_ble_eq_true rfl) (fun X hX hn hR => ?_)
  replace hR : ∀ q : Int32 × Int32, some q = some res → ∀ lv pc, decode cX3_share pc = .ok (.ireturn, 1) → narrow .int (.int q.1) = .int q.1 → VC X (lkp r [(29, q.2)]) g u h lv [.int q.1] pc := fun q hq => by cases hq; exact hR
  replace hX : CX X RX3 cX3_share 0 := hX
  refine v_opr [29] [(29, r 29)] rfl ?_
  show VC X (lkp r [(29, r 29)]) g u h [(0, .ref (aX X 49)), (1, .int p1)] [] 0
  rw [f3_share] at hf
  refine v_aload_n hX dX3_share_0 rfl 0 rfl 1 rfl ?_
  refine gf_49_4 hX q_1133 dX3_share_1 ((r 28)) rfl 4 rfl ?_
  refine v_aload_n hX dX3_share_4 rfl 0 rfl 5 rfl ?_
  refine gf_49_3 hX q_1132 dX3_share_5 ((r 27)) rfl 8 rfl ?_
  refine v_isub hX dX3_share_8 9 rfl ?_
  refine v_istore_n hX dX3_share_9 rfl (ltn hn (by decide)) 10 rfl [(2, .int ((r 28) - (r 27))), (0, .ref (aX X 49)), (1, .int p1)] rfl ?_
  refine v_iload_n hX dX3_share_10 rfl 0 rfl 11 rfl ?_
  refine v_if_ne hX dX3_share_11 21 rfl 14 rfl (fun h2 => ?_) (fun h2 => ?_)
  · replace hf := it_n h2 hf
    refine v_iload_n hX dX3_share_21 rfl 2 rfl 22 rfl ?_
    refine v_iload_n hX dX3_share_22 rfl 0 rfl 23 rfl ?_
    obtain ⟨hz1, hf⟩ := gd_e hf
    refine v_idiv hX dX3_share_23 (of_decide_eq_true hz1) 24 rfl ?_
    exact hR _ hf _ _ dX3_share_24 rfl
  · replace hf := it_p h2 hf
    refine v_aload_n hX dX3_share_14 rfl 1 rfl 15 rfl ?_
    refine v_iconst (v := (1 : Int32)) hX dX3_share_15 (by decide) 16 rfl ?_
    refine pf_49_5 hX q_1135 dX3_share_16 (by decide) 19 rfl [(29, (1 : Int32))] rfl ?_
    refine v_iconst (v := (0 : Int32)) hX dX3_share_19 (by decide) 20 rfl ?_
    exact hR _ hf _ _ dX3_share_20 rfl
set_option maxRecDepth 100000 in
set_option maxHeartbeats 4000000 in
theorem c3_run_ (rc : Int32 → Int32 → Int32 → Int32 → Int32 → (Nat → Int32) → Int32 → Int32 → Int32 → Option (Int32 × Int32 × Int32 × (Nat → Int32))) (d0 : Nat) (hd0 : 10 ≤ d0) (hrc : ∀ (r : Nat → Int32) (g : Nat → Nat → Int32) (u : Nat → Int64) (h : Nat → Nat → Int64) (p1 : Int32) (p2 : Int32) (p3 : Int32) (res : Int32 × Int32 × Int32 × (Nat → Int32)), rc (r 28) (r 25) (r 26) (r 27) (r 29) (g 50) p1 p2 p3 = some res → MAi yX3_run cX3_run 5 (some .int) d0 (fun a => [.ref (a 49), .int p1, .int p2, .int p3]) r g u h res.1 (lkp r [(25, res.2.1), (29, res.2.2.1)]) (lkp g [(50, res.2.2.2)]) u h) (r : Nat → Int32) (g : Nat → Nat → Int32) (u : Nat → Int64) (h : Nat → Nat → Int64) (p1 : Int32) (p2 : Int32) (p3 : Int32) {res : Int32 × Int32 × Int32 × (Nat → Int32)} (hf : f3_run_ rc (r 28) (r 25) (r 26) (r 27) (r 29) (g 50) p1 p2 p3 = some res) : MAi yX3_run cX3_run 5 (some .int) (d0 + 1) (fun a => [.ref (a 49), .int p1, .int p2, .int p3]) r g u h res.1 (lkp r [(25, res.2.1), (29, res.2.2.1)]) (lkp g [(50, res.2.2.2)]) u h := by
  refine mi_i (by decide +kernel) (fun a => Nat.le_of_ble_eq_true rfl) (fun X hX hn hR => ?_)
  replace hR : ∀ q : Int32 × Int32 × Int32 × (Nat → Int32), some q = some res → ∀ lv pc, decode cX3_run pc = .ok (.ireturn, 1) → narrow .int (.int q.1) = .int q.1 → VC X (lkp r [(25, q.2.1), (29, q.2.2.1)]) (lkp g [(50, q.2.2.2)]) u h lv [.int q.1] pc := fun q hq => by cases hq; exact hR
  replace hX : CX X RX3 cX3_run (d0 + 1) := hX
  refine v_opr [25, 29] [(25, r 25), (29, r 29)] rfl ?_
  refine v_opg [50] [(50, g 50)] rfl ?_
  show VC X (lkp r [(25, r 25), (29, r 29)]) (lkp g [(50, g 50)]) u h [(0, .ref (aX X 49)), (1, .int p1), (2, .int p2), (3, .int p3)] [] 0
  rw [f3_run_] at hf
  refine v_aload_n hX dX3_run_0 rfl 0 rfl 1 rfl ?_
  refine gf_49_5 hX q_1135 dX3_run_1 ((r 29)) rfl 4 rfl ?_
  refine v_if_ne hX dX3_run_4 13 rfl 7 rfl (fun h83 => ?_) (fun h83 => ?_)
  · replace hf := it_n h83 hf
    refine v_iconst (v := (0 : Int32)) hX dX3_run_13 (by decide) 14 rfl ?_
    exact hR _ hf _ _ dX3_run_14 rfl
  · replace hf := it_p h83 hf
    refine v_iload_n hX dX3_run_7 rfl 3 rfl 8 rfl ?_
    refine v_bipush (v := (40 : Int32)) hX dX3_run_8 (by decide) 10 rfl ?_
    refine v_icmp_le hX dX3_run_10 15 rfl 13 rfl (fun h82 => ?_) (fun h82 => ?_)
    · replace hf := it_p h82 hf
      refine v_aload_n hX dX3_run_15 rfl 0 rfl 16 rfl ?_
      refine gf_49_1 hX q_1134 dX3_run_16 ((r 25)) rfl 19 rfl ?_
      refine v_bipush (v := (30 : Int32)) hX dX3_run_19 (by decide) 21 rfl ?_
      obtain ⟨J1, hJ1, hf⟩ := jn_x hf
      have HJ1 : ∀ (c2 : Int32) (c3 : (Nat → Int32)), J1 c2 c3 = some res → VC X (lkp r [(25, c2), (29, (r 29))]) (lkp g [(50, c3)]) u h [(0, .ref (aX X 49)), (1, .int p1), (2, .int p2), (3, .int p3)] [] 41 := by
        intro c2 c3 hf
        rw [hJ1] at hf
        refine v_iload_n hX dX3_run_41 rfl 3 rfl 42 rfl ?_
        refine v_iconst (v := (1 : Int32)) hX dX3_run_42 (by decide) 43 rfl ?_
        refine v_iadd hX dX3_run_43 44 rfl ?_
        refine v_istore hX dX3_run_44 (ltn hn (by decide)) 46 rfl [(4, .int (p3 + (1 : Int32))), (0, .ref (aX X 49)), (1, .int p1), (2, .int p2), (3, .int p3)] rfl ?_
        refine v_iload_n hX dX3_run_46 rfl 2 rfl 47 rfl ?_
        rcases Decidable.em (p1 = (10 : Int32)) with h4 | h4
        · replace hf := it_p h4 hf
          refine v_tsIn hX dX3_run_47 (10 : Int32) h4 (by decide) (by decide) (221) (by decide +kernel) 268 rfl ?_
          refine v_iload_n hX dX3_run_268 rfl 3 rfl 269 rfl ?_
          refine v_aload_n hX dX3_run_269 rfl 1 rfl 270 rfl ?_
          refine gf_49_3 hX q_1132 dX3_run_270 ((r 27)) rfl 273 rfl ?_
          refine v_iadd hX dX3_run_273 274 rfl ?_
          exact hR _ hf _ _ dX3_run_274 rfl
        · replace hf := it_n h4 hf
          rcases Decidable.em (p1 = (11 : Int32)) with h5 | h5
          · replace hf := it_p h5 hf
            refine v_tsIn hX dX3_run_47 (11 : Int32) h5 (by decide) (by decide) (228) (by decide +kernel) 275 rfl ?_
            refine v_aload_n hX dX3_run_275 rfl 1 rfl 276 rfl ?_
            refine v_aload_n hX dX3_run_276 rfl 1 rfl 277 rfl ?_
            refine v_iconst (v := (0 : Int32)) hX dX3_run_277 (by decide) 278 rfl ?_
            obtain ⟨v6, hv6, hf⟩ := bn1_e hf
            refine cv_i hX (c3_bodyOf (lkp r [(25, c2), (29, (r 29))]) (lkp g [(50, c3)]) u h _ hv6) wvX3_bodyOf q_1136 rc_49 (by omega) (Nat.le_of_ble_eq_true rfl) (fun _ => rfl) [.ref (aX X 49)] rfl (Nat.le_of_ble_eq_true rfl) dX3_run_278 281 rfl ?_
            refine v_iload_n hX dX3_run_281 rfl 3 rfl 282 rfl ?_
            refine v_iload hX dX3_run_282 0 rfl 284 rfl ?_
            obtain ⟨v7, c8, c9, c10, hv7, hf⟩ := bn4_e hf
            refine cv_i hX (hrc (lkp r [(25, c2), (29, (r 29))]) (lkp g [(50, c3)]) u h _ _ _ _ hv7) wvX3_run q_1141 rc_49 (by omega) (Nat.le_of_ble_eq_true rfl) (fun _ => rfl) [] rfl (Nat.le_of_ble_eq_true rfl) dX3_run_284 287 rfl ?_
            refine v_mgr [(25, c8), (29, c9)] rfl ?_
            refine v_mgg [(50, c10)] rfl ?_
            refine v_iconst (v := (2 : Int32)) hX dX3_run_287 (by decide) 288 rfl ?_
            refine v_imul hX dX3_run_288 289 rfl ?_
            exact hR _ hf _ _ dX3_run_289 rfl
          · replace hf := it_n h5 hf
            rcases Decidable.em (p1 = (12 : Int32)) with h11 | h11
            · replace hf := it_p h11 hf
              refine v_tsIn hX dX3_run_47 (12 : Int32) h11 (by decide) (by decide) (243) (by decide +kernel) 290 rfl ?_
              refine v_aload_n hX dX3_run_290 rfl 1 rfl 291 rfl ?_
              refine v_iload_n hX dX3_run_291 rfl 3 rfl 292 rfl ?_
              obtain ⟨v12, c13, hv12, hf⟩ := bn2_e hf
              refine cv_i hX (c3_share (lkp r [(25, c2), (29, (r 29))]) (lkp g [(50, c3)]) u h _ hv12) wvX3_share q_1145 rc_49 (by omega) (Nat.le_of_ble_eq_true rfl) (fun _ => rfl) [] rfl (Nat.le_of_ble_eq_true rfl) dX3_run_292 295 rfl ?_
              refine v_mgr [(25, c2), (29, c13)] rfl ?_
              exact hR _ hf _ _ dX3_run_295 rfl
            · replace hf := it_n h11 hf
              rcases Decidable.em (p1 = (13 : Int32)) with h14 | h14
              · replace hf := it_p h14 hf
                refine v_tsIn hX dX3_run_47 (13 : Int32) h14 (by decide) (by decide) (249) (by decide +kernel) 296 rfl ?_
                refine v_aload_n hX dX3_run_296 rfl 1 rfl 297 rfl ?_
                refine v_aload_n hX dX3_run_297 rfl 1 rfl 298 rfl ?_
                refine v_iconst (v := (1 : Int32)) hX dX3_run_298 (by decide) 299 rfl ?_
                obtain ⟨v15, hv15, hf⟩ := bn1_e hf
                refine cv_i hX (c3_bodyOf (lkp r [(25, c2), (29, (r 29))]) (lkp g [(50, c3)]) u h _ hv15) wvX3_bodyOf q_1136 rc_49 (by omega) (Nat.le_of_ble_eq_true rfl) (fun _ => rfl) [.ref (aX X 49)] rfl (Nat.le_of_ble_eq_true rfl) dX3_run_299 302 rfl ?_
                refine v_iload_n hX dX3_run_302 rfl 3 rfl 303 rfl ?_
                refine v_iload hX dX3_run_303 0 rfl 305 rfl ?_
                obtain ⟨v16, c17, c18, c19, hv16, hf⟩ := bn4_e hf
                refine cv_i hX (hrc (lkp r [(25, c2), (29, (r 29))]) (lkp g [(50, c3)]) u h _ _ _ _ hv16) wvX3_run q_1141 rc_49 (by omega) (Nat.le_of_ble_eq_true rfl) (fun _ => rfl) [] rfl (Nat.le_of_ble_eq_true rfl) dX3_run_305 308 rfl ?_
                refine v_mgr [(25, c17), (29, c18)] rfl ?_
                refine v_mgg [(50, c19)] rfl ?_
                refine v_aload_n hX dX3_run_308 rfl 1 rfl 309 rfl ?_
                refine gf_49_4 hX q_1133 dX3_run_309 ((r 28)) rfl 312 rfl ?_
                refine v_ixor hX dX3_run_312 313 rfl ?_
                exact hR _ hf _ _ dX3_run_313 rfl
              · replace hf := it_n h14 hf
                rcases Decidable.em (p1 = (20 : Int32)) with h20 | h20
                · replace hf := it_p h20 hf
                  refine v_tsIn hX dX3_run_47 (20 : Int32) h20 (by decide) (by decide) (267) (by decide +kernel) 314 rfl ?_
                  refine v_aload_n hX dX3_run_314 rfl 1 rfl 315 rfl ?_
                  refine v_bipush (v := (11 : Int32)) hX dX3_run_315 (by decide) 317 rfl ?_
                  refine v_iload_n hX dX3_run_317 rfl 3 rfl 318 rfl ?_
                  refine v_iload hX dX3_run_318 0 rfl 320 rfl ?_
                  obtain ⟨v21, c22, c23, c24, hv21, hf⟩ := bn4_e hf
                  refine cv_i hX (hrc (lkp r [(25, c2), (29, (r 29))]) (lkp g [(50, c3)]) u h _ _ _ _ hv21) wvX3_run q_1141 rc_49 (by omega) (Nat.le_of_ble_eq_true rfl) (fun _ => rfl) [] rfl (Nat.le_of_ble_eq_true rfl) dX3_run_320 323 rfl ?_
                  refine v_mgr [(25, c22), (29, c23)] rfl ?_
                  refine v_mgg [(50, c24)] rfl ?_
                  refine v_aload_n hX dX3_run_323 rfl 1 rfl 324 rfl ?_
                  refine gf_49_4 hX q_1133 dX3_run_324 ((r 28)) rfl 327 rfl ?_
                  refine v_isub hX dX3_run_327 328 rfl ?_
                  exact hR _ hf _ _ dX3_run_328 rfl
                · replace hf := it_n h20 hf
                  rcases Decidable.em (p1 = (30 : Int32)) with h25 | h25
                  · replace hf := it_p h25 hf
                    refine v_tsIn hX dX3_run_47 (30 : Int32) h25 (by decide) (by decide) (282) (by decide +kernel) 329 rfl ?_
                    refine v_aload_n hX dX3_run_329 rfl 1 rfl 330 rfl ?_
                    refine v_bipush (v := (10 : Int32)) hX dX3_run_330 (by decide) 332 rfl ?_
                    refine v_iload_n hX dX3_run_332 rfl 3 rfl 333 rfl ?_
                    refine v_iload hX dX3_run_333 0 rfl 335 rfl ?_
                    obtain ⟨v26, c27, c28, c29, hv26, hf⟩ := bn4_e hf
                    refine cv_i hX (hrc (lkp r [(25, c2), (29, (r 29))]) (lkp g [(50, c3)]) u h _ _ _ _ hv26) wvX3_run q_1141 rc_49 (by omega) (Nat.le_of_ble_eq_true rfl) (fun _ => rfl) [] rfl (Nat.le_of_ble_eq_true rfl) dX3_run_335 338 rfl ?_
                    refine v_mgr [(25, c27), (29, c28)] rfl ?_
                    refine v_mgg [(50, c29)] rfl ?_
                    refine v_iconst (v := (3 : Int32)) hX dX3_run_338 (by decide) 339 rfl ?_
                    refine v_imul hX dX3_run_339 340 rfl ?_
                    exact hR _ hf _ _ dX3_run_340 rfl
                  · replace hf := it_n h25 hf
                    rcases Decidable.em (p1 = (31 : Int32)) with h30 | h30
                    · replace hf := it_p h30 hf
                      refine v_tsIn hX dX3_run_47 (31 : Int32) h30 (by decide) (by decide) (294) (by decide +kernel) 341 rfl ?_
                      refine v_aload_n hX dX3_run_341 rfl 1 rfl 342 rfl ?_
                      refine v_bipush (v := (13 : Int32)) hX dX3_run_342 (by decide) 344 rfl ?_
                      refine v_iload_n hX dX3_run_344 rfl 3 rfl 345 rfl ?_
                      refine v_iload hX dX3_run_345 0 rfl 347 rfl ?_
                      obtain ⟨v31, c32, c33, c34, hv31, hf⟩ := bn4_e hf
                      refine cv_i hX (hrc (lkp r [(25, c2), (29, (r 29))]) (lkp g [(50, c3)]) u h _ _ _ _ hv31) wvX3_run q_1141 rc_49 (by omega) (Nat.le_of_ble_eq_true rfl) (fun _ => rfl) [] rfl (Nat.le_of_ble_eq_true rfl) dX3_run_347 350 rfl ?_
                      refine v_mgr [(25, c32), (29, c33)] rfl ?_
                      refine v_mgg [(50, c34)] rfl ?_
                      refine v_aload_n hX dX3_run_350 rfl 1 rfl 351 rfl ?_
                      refine v_aload_n hX dX3_run_351 rfl 1 rfl 352 rfl ?_
                      refine v_iconst (v := (2 : Int32)) hX dX3_run_352 (by decide) 353 rfl ?_
                      obtain ⟨v35, hv35, hf⟩ := bn1_e hf
                      refine cv_i hX (c3_bodyOf (lkp r [(25, c32), (29, c33)]) (lkp g [(50, c34)]) u h _ hv35) wvX3_bodyOf q_1136 rc_49 (by omega) (Nat.le_of_ble_eq_true rfl) (fun _ => rfl) [.ref (aX X 49), .int v31] rfl (Nat.le_of_ble_eq_true rfl) dX3_run_353 356 rfl ?_
                      refine v_aload_n hX dX3_run_356 rfl 1 rfl 357 rfl ?_
                      refine gf_49_3 hX q_1132 dX3_run_357 ((r 27)) rfl 360 rfl ?_
                      refine v_iload hX dX3_run_360 0 rfl 362 rfl ?_
                      obtain ⟨v36, c37, c38, c39, hv36, hf⟩ := bn4_e hf
                      refine cv_i hX (hrc (lkp r [(25, c32), (29, c33)]) (lkp g [(50, c34)]) u h _ _ _ _ hv36) wvX3_run q_1141 rc_49 (by omega) (Nat.le_of_ble_eq_true rfl) (fun _ => rfl) [.int v31] rfl (Nat.le_of_ble_eq_true rfl) dX3_run_362 365 rfl ?_
                      refine v_mgr [(25, c37), (29, c38)] rfl ?_
                      refine v_mgg [(50, c39)] rfl ?_
                      refine v_iadd hX dX3_run_365 366 rfl ?_
                      exact hR _ hf _ _ dX3_run_366 rfl
                    · replace hf := it_n h30 hf
                      rcases Decidable.em (p1 = (40 : Int32)) with h40 | h40
                      · replace hf := it_p h40 hf
                        refine v_tsIn hX dX3_run_47 (40 : Int32) h40 (by decide) (by decide) (320) (by decide +kernel) 367 rfl ?_
                        refine v_iconst (v := (0 : Int32)) hX dX3_run_367 (by decide) 368 rfl ?_
                        refine v_aload_n hX dX3_run_368 rfl 1 rfl 369 rfl ?_
                        refine v_bipush (v := (10 : Int32)) hX dX3_run_369 (by decide) 371 rfl ?_
                        refine v_iload_n hX dX3_run_371 rfl 3 rfl 372 rfl ?_
                        refine v_iload hX dX3_run_372 0 rfl 374 rfl ?_
                        obtain ⟨v41, c42, c43, c44, hv41, hf⟩ := bn4_e hf
                        refine cv_i hX (hrc (lkp r [(25, c2), (29, (r 29))]) (lkp g [(50, c3)]) u h _ _ _ _ hv41) wvX3_run q_1141 rc_49 (by omega) (Nat.le_of_ble_eq_true rfl) (fun _ => rfl) [.int (0 : Int32)] rfl (Nat.le_of_ble_eq_true rfl) dX3_run_374 377 rfl ?_
                        refine v_mgr [(25, c42), (29, c43)] rfl ?_
                        refine v_mgg [(50, c44)] rfl ?_
                        refine v_isub hX dX3_run_377 378 rfl ?_
                        exact hR _ hf _ _ dX3_run_378 rfl
                      · replace hf := it_n h40 hf
                        rcases Decidable.em (p1 = (41 : Int32)) with h45 | h45
                        · replace hf := it_p h45 hf
                          refine v_tsIn hX dX3_run_47 (41 : Int32) h45 (by decide) (by decide) (332) (by decide +kernel) 379 rfl ?_
                          refine v_aload_n hX dX3_run_379 rfl 1 rfl 380 rfl ?_
                          refine v_bipush (v := (20 : Int32)) hX dX3_run_380 (by decide) 382 rfl ?_
                          refine v_iload_n hX dX3_run_382 rfl 3 rfl 383 rfl ?_
                          refine v_iload hX dX3_run_383 0 rfl 385 rfl ?_
                          obtain ⟨v46, c47, c48, c49, hv46, hf⟩ := bn4_e hf
                          refine cv_i hX (hrc (lkp r [(25, c2), (29, (r 29))]) (lkp g [(50, c3)]) u h _ _ _ _ hv46) wvX3_run q_1141 rc_49 (by omega) (Nat.le_of_ble_eq_true rfl) (fun _ => rfl) [] rfl (Nat.le_of_ble_eq_true rfl) dX3_run_385 388 rfl ?_
                          refine v_mgr [(25, c47), (29, c48)] rfl ?_
                          refine v_mgg [(50, c49)] rfl ?_
                          refine v_aload_n hX dX3_run_388 rfl 1 rfl 389 rfl ?_
                          refine v_aload_n hX dX3_run_389 rfl 1 rfl 390 rfl ?_
                          refine v_iconst (v := (0 : Int32)) hX dX3_run_390 (by decide) 391 rfl ?_
                          obtain ⟨v50, hv50, hf⟩ := bn1_e hf
                          refine cv_i hX (c3_bodyOf (lkp r [(25, c47), (29, c48)]) (lkp g [(50, c49)]) u h _ hv50) wvX3_bodyOf q_1136 rc_49 (by omega) (Nat.le_of_ble_eq_true rfl) (fun _ => rfl) [.ref (aX X 49), .int v46] rfl (Nat.le_of_ble_eq_true rfl) dX3_run_391 394 rfl ?_
                          refine v_aload_n hX dX3_run_394 rfl 1 rfl 395 rfl ?_
                          refine gf_49_3 hX q_1132 dX3_run_395 ((r 27)) rfl 398 rfl ?_
                          refine v_iload hX dX3_run_398 0 rfl 400 rfl ?_
                          obtain ⟨v51, c52, c53, c54, hv51, hf⟩ := bn4_e hf
                          refine cv_i hX (hrc (lkp r [(25, c47), (29, c48)]) (lkp g [(50, c49)]) u h _ _ _ _ hv51) wvX3_run q_1141 rc_49 (by omega) (Nat.le_of_ble_eq_true rfl) (fun _ => rfl) [.int v46] rfl (Nat.le_of_ble_eq_true rfl) dX3_run_400 403 rfl ?_
                          refine v_mgr [(25, c52), (29, c53)] rfl ?_
                          refine v_mgg [(50, c54)] rfl ?_
                          refine v_iadd hX dX3_run_403 404 rfl ?_
                          exact hR _ hf _ _ dX3_run_404 rfl
                        · replace hf := it_n h45 hf
                          rcases Decidable.em (p1 = (50 : Int32)) with h55 | h55
                          · replace hf := it_p h55 hf
                            refine v_tsIn hX dX3_run_47 (50 : Int32) h55 (by decide) (by decide) (358) (by decide +kernel) 405 rfl ?_
                            refine v_aload_n hX dX3_run_405 rfl 1 rfl 406 rfl ?_
                            refine v_bipush (v := (12 : Int32)) hX dX3_run_406 (by decide) 408 rfl ?_
                            refine v_iload_n hX dX3_run_408 rfl 3 rfl 409 rfl ?_
                            refine v_iconst (v := (2 : Int32)) hX dX3_run_409 (by decide) 410 rfl ?_
                            refine v_iadd hX dX3_run_410 411 rfl ?_
                            refine v_iload hX dX3_run_411 0 rfl 413 rfl ?_
                            obtain ⟨v56, c57, c58, c59, hv56, hf⟩ := bn4_e hf
                            refine cv_i hX (hrc (lkp r [(25, c2), (29, (r 29))]) (lkp g [(50, c3)]) u h _ _ _ _ hv56) wvX3_run q_1141 rc_49 (by omega) (Nat.le_of_ble_eq_true rfl) (fun _ => rfl) [] rfl (Nat.le_of_ble_eq_true rfl) dX3_run_413 416 rfl ?_
                            refine v_mgr [(25, c57), (29, c58)] rfl ?_
                            refine v_mgg [(50, c59)] rfl ?_
                            refine v_iconst (v := (1 : Int32)) hX dX3_run_416 (by decide) 417 rfl ?_
                            refine v_ixor hX dX3_run_417 418 rfl ?_
                            exact hR _ hf _ _ dX3_run_418 rfl
                          · replace hf := it_n h55 hf
                            rcases Decidable.em (p1 = (51 : Int32)) with h60 | h60
                            · replace hf := it_p h60 hf
                              refine v_tsIn hX dX3_run_47 (51 : Int32) h60 (by decide) (by decide) (372) (by decide +kernel) 419 rfl ?_
                              refine v_aload_n hX dX3_run_419 rfl 1 rfl 420 rfl ?_
                              refine v_bipush (v := (30 : Int32)) hX dX3_run_420 (by decide) 422 rfl ?_
                              refine v_iload_n hX dX3_run_422 rfl 3 rfl 423 rfl ?_
                              refine v_iload hX dX3_run_423 0 rfl 425 rfl ?_
                              obtain ⟨v61, c62, c63, c64, hv61, hf⟩ := bn4_e hf
                              refine cv_i hX (hrc (lkp r [(25, c2), (29, (r 29))]) (lkp g [(50, c3)]) u h _ _ _ _ hv61) wvX3_run q_1141 rc_49 (by omega) (Nat.le_of_ble_eq_true rfl) (fun _ => rfl) [] rfl (Nat.le_of_ble_eq_true rfl) dX3_run_425 428 rfl ?_
                              refine v_mgr [(25, c62), (29, c63)] rfl ?_
                              refine v_mgg [(50, c64)] rfl ?_
                              refine v_aload_n hX dX3_run_428 rfl 1 rfl 429 rfl ?_
                              refine gf_49_3 hX q_1132 dX3_run_429 ((r 27)) rfl 432 rfl ?_
                              refine v_isub hX dX3_run_432 433 rfl ?_
                              exact hR _ hf _ _ dX3_run_433 rfl
                            · replace hf := it_n h60 hf
                              rcases Decidable.em (p1 = (60 : Int32)) with h65 | h65
                              · replace hf := it_p h65 hf
                                refine v_tsIn hX dX3_run_47 (60 : Int32) h65 (by decide) (by decide) (387) (by decide +kernel) 434 rfl ?_
                                refine v_aload_n hX dX3_run_434 rfl 1 rfl 435 rfl ?_
                                refine v_bipush (v := (13 : Int32)) hX dX3_run_435 (by decide) 437 rfl ?_
                                refine v_iload_n hX dX3_run_437 rfl 3 rfl 438 rfl ?_
                                refine v_iload hX dX3_run_438 0 rfl 440 rfl ?_
                                obtain ⟨v66, c67, c68, c69, hv66, hf⟩ := bn4_e hf
                                refine cv_i hX (hrc (lkp r [(25, c2), (29, (r 29))]) (lkp g [(50, c3)]) u h _ _ _ _ hv66) wvX3_run q_1141 rc_49 (by omega) (Nat.le_of_ble_eq_true rfl) (fun _ => rfl) [] rfl (Nat.le_of_ble_eq_true rfl) dX3_run_440 443 rfl ?_
                                refine v_mgr [(25, c67), (29, c68)] rfl ?_
                                refine v_mgg [(50, c69)] rfl ?_
                                refine v_iconst (v := (2 : Int32)) hX dX3_run_443 (by decide) 444 rfl ?_
                                refine v_imul hX dX3_run_444 445 rfl ?_
                                exact hR _ hf _ _ dX3_run_445 rfl
                              · replace hf := it_n h65 hf
                                rcases Decidable.em (p1 = (61 : Int32)) with h70 | h70
                                · replace hf := it_p h70 hf
                                  refine v_tsIn hX dX3_run_47 (61 : Int32) h70 (by decide) (by decide) (399) (by decide +kernel) 446 rfl ?_
                                  refine v_aload_n hX dX3_run_446 rfl 1 rfl 447 rfl ?_
                                  refine v_bipush (v := (12 : Int32)) hX dX3_run_447 (by decide) 449 rfl ?_
                                  refine v_iload_n hX dX3_run_449 rfl 3 rfl 450 rfl ?_
                                  refine v_iload hX dX3_run_450 0 rfl 452 rfl ?_
                                  obtain ⟨v71, c72, c73, c74, hv71, hf⟩ := bn4_e hf
                                  refine cv_i hX (hrc (lkp r [(25, c2), (29, (r 29))]) (lkp g [(50, c3)]) u h _ _ _ _ hv71) wvX3_run q_1141 rc_49 (by omega) (Nat.le_of_ble_eq_true rfl) (fun _ => rfl) [] rfl (Nat.le_of_ble_eq_true rfl) dX3_run_452 455 rfl ?_
                                  refine v_mgr [(25, c72), (29, c73)] rfl ?_
                                  refine v_mgg [(50, c74)] rfl ?_
                                  refine v_aload_n hX dX3_run_455 rfl 1 rfl 456 rfl ?_
                                  refine v_aload_n hX dX3_run_456 rfl 1 rfl 457 rfl ?_
                                  refine v_iconst (v := (0 : Int32)) hX dX3_run_457 (by decide) 458 rfl ?_
                                  obtain ⟨v75, hv75, hf⟩ := bn1_e hf
                                  refine cv_i hX (c3_bodyOf (lkp r [(25, c72), (29, c73)]) (lkp g [(50, c74)]) u h _ hv75) wvX3_bodyOf q_1136 rc_49 (by omega) (Nat.le_of_ble_eq_true rfl) (fun _ => rfl) [.ref (aX X 49), .int v71] rfl (Nat.le_of_ble_eq_true rfl) dX3_run_458 461 rfl ?_
                                  refine v_aload_n hX dX3_run_461 rfl 1 rfl 462 rfl ?_
                                  refine gf_49_4 hX q_1133 dX3_run_462 ((r 28)) rfl 465 rfl ?_
                                  refine v_iload hX dX3_run_465 0 rfl 467 rfl ?_
                                  obtain ⟨v76, c77, c78, c79, hv76, hf⟩ := bn4_e hf
                                  refine cv_i hX (hrc (lkp r [(25, c72), (29, c73)]) (lkp g [(50, c74)]) u h _ _ _ _ hv76) wvX3_run q_1141 rc_49 (by omega) (Nat.le_of_ble_eq_true rfl) (fun _ => rfl) [.int v71] rfl (Nat.le_of_ble_eq_true rfl) dX3_run_467 470 rfl ?_
                                  refine v_mgr [(25, c77), (29, c78)] rfl ?_
                                  refine v_mgg [(50, c79)] rfl ?_
                                  refine v_iadd hX dX3_run_470 471 rfl ?_
                                  exact hR _ hf _ _ dX3_run_471 rfl
                                · replace hf := it_n h70 hf
                                  refine v_tsD hX dX3_run_47 [10, 11, 12, 13, 20, 30, 31, 40, 41, 50, 51, 60, 61] (sw_c h4 (by decide) (sw_c h5 (by decide) (sw_c h11 (by decide) (sw_c h14 (by decide) (sw_c h20 (by decide) (sw_c h25 (by decide) (sw_c h30 (by decide) (sw_c h40 (by decide) (sw_c h45 (by decide) (sw_c h55 (by decide) (sw_c h60 (by decide) (sw_c h65 (by decide) (sw_c h70 (by decide) sw_n))))))))))))) (by decide) (by decide +kernel) 472 rfl ?_
                                  refine v_iconst (v := (0 : Int32)) hX dX3_run_472 (by decide) 473 rfl ?_
                                  exact hR _ hf _ _ dX3_run_473 rfl
      refine v_icmp_ge hX dX3_run_21 41 rfl 24 rfl (fun h81 => ?_) (fun h81 => ?_)
      · replace hf := it_p h81 hf
        exact HJ1 _ _ hf
      · replace hf := it_n h81 hf
        refine v_aload_n hX dX3_run_24 rfl 0 rfl 25 rfl ?_
        refine gf_49_0 hX q_98 dX3_run_25 28 rfl ?_
        refine v_aload_n hX dX3_run_28 rfl 0 rfl 29 rfl ?_
        refine v_dup hX dX3_run_29 rfl 30 rfl ?_
        refine gf_49_1 hX q_1134 dX3_run_30 ((r 25)) rfl 33 rfl ?_
        refine v_dup_x1 hX dX3_run_33 rfl rfl 34 rfl ?_
        refine v_iconst (v := (1 : Int32)) hX dX3_run_34 (by decide) 35 rfl ?_
        refine v_iadd hX dX3_run_35 36 rfl ?_
        refine pf_49_1 hX q_1134 dX3_run_36 39 rfl [(25, ((r 25) + (1 : Int32))), (29, (r 29))] rfl ?_
        refine v_iload_n hX dX3_run_39 rfl 1 rfl 40 rfl ?_
        obtain ⟨hi80, hf⟩ := gd_e hf
        refine as_50 hX hi80 dX3_run_40 41 rfl (g 50) rfl [(50, (upd (g 50) (r 25).toNatClampNeg p1))] rfl ?_
        exact HJ1 _ _ hf
    · replace hf := it_n h82 hf
      refine v_iconst (v := (0 : Int32)) hX dX3_run_13 (by decide) 14 rfl ?_
      exact hR _ hf _ _ dX3_run_14 rfl
theorem c3_run_all : ∀ n : Nat, ∀ (r : Nat → Int32) (g : Nat → Nat → Int32) (u : Nat → Int64) (h : Nat → Nat → Int64) (p1 : Int32) (p2 : Int32) (p3 : Int32) (res : Int32 × Int32 × Int32 × (Nat → Int32)), f3_run n (r 28) (r 25) (r 26) (r 27) (r 29) (g 50) p1 p2 p3 = some res → MAi yX3_run cX3_run 5 (some .int) (depR 1 n) (fun a => [.ref (a 49), .int p1, .int p2, .int p3]) r g u h res.1 (lkp r [(25, res.2.1), (29, res.2.2.1)]) (lkp g [(50, res.2.2.2)]) u h := by
  intro n
  induction n with
  | zero => intro r g u h p1 p2 p3 res hf; exact no_s hf
  | succ n ih => intro r g u h p1 p2 p3 res hf; exact c3_run_ (f3_run n) (depR 1 n) (depR_ge 1 n) ih r g u h _ _ _ hf
theorem c3_run : ∀ n : Nat, ∀ (r : Nat → Int32) (g : Nat → Nat → Int32) (u : Nat → Int64) (h : Nat → Nat → Int64) (p1 : Int32) (p2 : Int32) (p3 : Int32) (res : Int32 × Int32 × Int32 × (Nat → Int32)), f3_run n (r 28) (r 25) (r 26) (r 27) (r 29) (g 50) p1 p2 p3 = some res → MAi yX3_run cX3_run 5 (some .int) (depR 1 n) (fun a => [.ref (a 49), .int p1, .int p2, .int p3]) r g u h res.1 (lkp r [(25, res.2.1), (29, res.2.2.1)]) (lkp g [(50, res.2.2.2)]) u h := c3_run_all
set_option maxRecDepth 100000 in
set_option maxHeartbeats 4000000 in
theorem c3_perform (r : Nat → Int32) (g : Nat → Nat → Int32) (u : Nat → Int64) (h : Nat → Nat → Int64) (p1 : Int32) (p2 : Int32) (p3 : Int32) (p4 : Int32) (p5 : Int32) {res : Int32 × Int32 × Int32 × Int32 × Int32 × Int32 × (Nat → Int32)} (hf : f3_perform (r 28) (r 25) (r 26) (r 27) (r 29) (g 50) p1 p2 p3 p4 p5 = some res) : MAi yX3_perform cX3_perform 7 (some .int) 21 (fun a => [.ref (a 49), .int p1, .int p2, .int p3, .int p4, .int p5]) r g u h res.1 (lkp r [(28, res.2.1), (25, res.2.2.1), (26, res.2.2.2.1), (27, res.2.2.2.2.1), (29, res.2.2.2.2.2.1)]) (lkp g [(50, res.2.2.2.2.2.2)]) u h := by
  refine mi_i (by decide +kernel) (fun a => Nat.le_of_ble_eq_true rfl) (fun X hX hn hR => ?_)
  replace hR : ∀ q : Int32 × Int32 × Int32 × Int32 × Int32 × Int32 × (Nat → Int32), some q = some res → ∀ lv pc, decode cX3_perform pc = .ok (.ireturn, 1) → narrow .int (.int q.1) = .int q.1 → VC X (lkp r [(28, q.2.1), (25, q.2.2.1), (26, q.2.2.2.1), (27, q.2.2.2.2.1), (29, q.2.2.2.2.2.1)]) (lkp g [(50, q.2.2.2.2.2.2)]) u h lv [.int q.1] pc := fun q hq => by cases hq; exact hR
  replace hX : CX X RX3 cX3_perform 21 := hX
  refine v_opr [28, 25, 26, 27, 29] [(28, r 28), (25, r 25), (26, r 26), (27, r 27), (29, r 29)] rfl ?_
  refine v_opg [50] [(50, g 50)] rfl ?_
  show VC X (lkp r [(28, r 28), (25, r 25), (26, r 26), (27, r 27), (29, r 29)]) (lkp g [(50, g 50)]) u h [(0, .ref (aX X 49)), (1, .int p1), (2, .int p2), (3, .int p3), (4, .int p4), (5, .int p5)] [] 0
  rw [f3_perform] at hf
  refine v_aload_n hX dX3_perform_0 rfl 0 rfl 1 rfl ?_
  refine v_iload_n hX dX3_perform_1 rfl 1 rfl 2 rfl ?_
  refine pf_49_2 hX q_1131 dX3_perform_2 5 rfl [(28, (r 28)), (25, (r 25)), (26, p1), (27, (r 27)), (29, (r 29))] rfl ?_
  refine v_aload_n hX dX3_perform_5 rfl 0 rfl 6 rfl ?_
  refine v_iload_n hX dX3_perform_6 rfl 2 rfl 7 rfl ?_
  refine pf_49_3 hX q_1132 dX3_perform_7 10 rfl [(28, (r 28)), (25, (r 25)), (26, p1), (27, p2), (29, (r 29))] rfl ?_
  refine v_aload_n hX dX3_perform_10 rfl 0 rfl 11 rfl ?_
  refine v_iload_n hX dX3_perform_11 rfl 3 rfl 12 rfl ?_
  refine pf_49_4 hX q_1133 dX3_perform_12 15 rfl [(28, p3), (25, (r 25)), (26, p1), (27, p2), (29, (r 29))] rfl ?_
  refine v_aload_n hX dX3_perform_15 rfl 0 rfl 16 rfl ?_
  refine v_iconst (v := (0 : Int32)) hX dX3_perform_16 (by decide) 17 rfl ?_
  refine pf_49_1 hX q_1134 dX3_perform_17 20 rfl [(28, p3), (25, (0 : Int32)), (26, p1), (27, p2), (29, (r 29))] rfl ?_
  refine v_aload_n hX dX3_perform_20 rfl 0 rfl 21 rfl ?_
  refine v_iconst (v := (0 : Int32)) hX dX3_perform_21 (by decide) 22 rfl ?_
  refine pf_49_5 hX q_1135 dX3_perform_22 (by decide) 25 rfl [(28, p3), (25, (0 : Int32)), (26, p1), (27, p2), (29, (0 : Int32))] rfl ?_
  refine v_aload_n hX dX3_perform_25 rfl 0 rfl 26 rfl ?_
  refine v_aload_n hX dX3_perform_26 rfl 0 rfl 27 rfl ?_
  refine v_iload hX dX3_perform_27 4 rfl 29 rfl ?_
  obtain ⟨v1, hv1, hf⟩ := bn1_e hf
  refine cv_i hX (c3_bodyOf (lkp r [(28, p3), (25, (0 : Int32)), (26, p1), (27, p2), (29, (0 : Int32))]) (lkp g [(50, (g 50))]) u h _ hv1) wvX3_bodyOf q_1136 rc_49 (Nat.le_of_ble_eq_true rfl) (Nat.le_of_ble_eq_true rfl) (fun _ => rfl) [.ref (aX X 49)] rfl (Nat.le_of_ble_eq_true rfl) dX3_perform_29 32 rfl ?_
  refine v_iload hX dX3_perform_32 5 rfl 34 rfl ?_
  refine v_iconst (v := (0 : Int32)) hX dX3_perform_34 (by decide) 35 rfl ?_
  obtain ⟨v2, c3, c4, c5, hv2, hf⟩ := bn4_e hf
  refine cv_i hX (c3_run 10 (lkp r [(28, p3), (25, (0 : Int32)), (26, p1), (27, p2), (29, (0 : Int32))]) (lkp g [(50, (g 50))]) u h _ _ _ _ hv2) wvX3_run q_1141 rc_49 (Nat.le_of_ble_eq_true rfl) (Nat.le_of_ble_eq_true rfl) (fun _ => rfl) [] rfl (Nat.le_of_ble_eq_true rfl) dX3_perform_35 38 rfl ?_
  refine v_mgr [(28, p3), (25, c3), (26, p1), (27, p2), (29, c4)] rfl ?_
  refine v_mgg [(50, c5)] rfl ?_
  refine v_istore hX dX3_perform_38 (ltn hn (by decide)) 40 rfl [(6, .int v2), (0, .ref (aX X 49)), (1, .int p1), (2, .int p2), (3, .int p3), (4, .int p4), (5, .int p5)] rfl ?_
  refine v_aload_n hX dX3_perform_40 rfl 1 rfl 41 rfl ?_
  refine gf_49_5 hX q_1135 dX3_perform_41 (c4) rfl 44 rfl ?_
  refine v_if_eq hX dX3_perform_44 52 rfl 47 rfl (fun h6 => ?_) (fun h6 => ?_)
  · replace hf := it_p h6 hf
    refine v_iload hX dX3_perform_52 0 rfl 54 rfl ?_
    exact hR _ hf _ _ dX3_perform_54 rfl
  · replace hf := it_n h6 hf
    refine v_bipush (v := (-15 : Int32)) hX dX3_perform_47 (by decide) 49 rfl ?_
    refine v_goto hX dX3_perform_49 54 rfl ?_
    exact hR _ hf _ _ dX3_perform_54 rfl
set_option maxRecDepth 100000 in
set_option maxHeartbeats 4000000 in
theorem c1_isSheet (r : Nat → Int32) (g : Nat → Nat → Int32) (u : Nat → Int64) (h : Nat → Nat → Int64) (p0 : Int32) {res : Int32} (hf : f1_isSheet p0 = some res) : MAi yX1_isSheet cX1_isSheet 1 (some .boolean) 0 (fun a => [.int p0]) r g u h res r g u h := by
  refine mi_i (by decide +kernel) (fun a => Nat.le_of_ble_eq_true rfl) (fun X hX hn hR => ?_)
  replace hR : ∀ q : Int32, some q = some res → ∀ lv pc, decode cX1_isSheet pc = .ok (.ireturn, 1) → narrow .boolean (.int q) = .int q → VC X r g u h lv [.int q] pc := fun q hq => by cases hq; exact hR
  replace hX : CX X RX1 cX1_isSheet 0 := hX
  show VC X r g u h [(0, .int p0)] [] 0
  rw [f1_isSheet] at hf
  refine v_iload_n hX dX1_isSheet_0 rfl 0 rfl 1 rfl ?_
  refine v_if_lt hX dX1_isSheet_1 13 rfl 4 rfl (fun h2 => ?_) (fun h2 => ?_)
  · replace hf := it_p h2 hf
    refine v_iconst (v := (0 : Int32)) hX dX1_isSheet_13 (by decide) 14 rfl ?_
    exact hR _ hf _ _ dX1_isSheet_14 (bz_nar (v := (0 : Int32)) (by decide))
  · replace hf := it_n h2 hf
    refine v_iload_n hX dX1_isSheet_4 rfl 0 rfl 5 rfl ?_
    refine v_iconst (v := (4 : Int32)) hX dX1_isSheet_5 (by decide) 6 rfl ?_
    refine v_icmp_ge hX dX1_isSheet_6 13 rfl 9 rfl (fun h1 => ?_) (fun h1 => ?_)
    · replace hf := it_p h1 hf
      refine v_iconst (v := (0 : Int32)) hX dX1_isSheet_13 (by decide) 14 rfl ?_
      exact hR _ hf _ _ dX1_isSheet_14 (bz_nar (v := (0 : Int32)) (by decide))
    · replace hf := it_n h1 hf
      refine v_iconst (v := (1 : Int32)) hX dX1_isSheet_9 (by decide) 10 rfl ?_
      refine v_goto hX dX1_isSheet_10 14 rfl ?_
      exact hR _ hf _ _ dX1_isSheet_14 (bz_nar (v := (1 : Int32)) (by decide))
set_option maxRecDepth 100000 in
set_option maxHeartbeats 4000000 in
theorem c1_isMissing (r : Nat → Int32) (g : Nat → Nat → Int32) (u : Nat → Int64) (h : Nat → Nat → Int64) (p1 : Int32) {res : Int32} (hf : f1_isMissing (g 44) p1 = some res) : MAi yX1_isMissing cX1_isMissing 2 (some .boolean) 1 (fun a => [.ref (a 43), .int p1]) r g u h res r g u h := by
  refine mi_i (by decide +kernel) (fun a => Nat.le_of_ble_eq_true rfl) (fun X hX hn hR => ?_)
  replace hR : ∀ q : Int32, some q = some res → ∀ lv pc, decode cX1_isMissing pc = .ok (.ireturn, 1) → narrow .boolean (.int q) = .int q → VC X r g u h lv [.int q] pc := fun q hq => by cases hq; exact hR
  replace hX : CX X RX1 cX1_isMissing 1 := hX
  show VC X r g u h [(0, .ref (aX X 43)), (1, .int p1)] [] 0
  rw [f1_isMissing] at hf
  refine v_iload_n hX dX1_isMissing_0 rfl 1 rfl 1 rfl ?_
  obtain ⟨v1, hv1, hf⟩ := bn1_e hf
  refine cs_i hX (c1_isSheet r g u h _ hv1) wvX1_isSheet q_1019 (Nat.le_of_ble_eq_true rfl) (Nat.le_of_ble_eq_true rfl) (fun _ => rfl) [] rfl (Nat.le_of_ble_eq_true rfl) dX1_isMissing_1 4 rfl ?_
  refine v_if_eq hX dX1_isMissing_4 17 rfl 7 rfl (fun h4 => ?_) (fun h4 => ?_)
  · replace hf := it_p h4 hf
    refine v_iconst (v := (1 : Int32)) hX dX1_isMissing_17 (by decide) 18 rfl ?_
    refine v_goto hX dX1_isMissing_18 22 rfl ?_
    exact hR _ hf _ _ dX1_isMissing_22 (bz_nar (v := (1 : Int32)) (by decide))
  · replace hf := it_n h4 hf
    refine v_aload_n hX dX1_isMissing_7 rfl 0 rfl 8 rfl ?_
    refine gf_43_0 hX q_89 dX1_isMissing_8 11 rfl ?_
    refine v_iload_n hX dX1_isMissing_11 rfl 1 rfl 12 rfl ?_
    obtain ⟨hi2, hf⟩ := gd_e hf
    refine al_44 hX hi2 dX1_isMissing_12 ((g 44) p1.toNatClampNeg) rfl 13 rfl ?_
    refine v_iconst (v := (-1 : Int32)) hX dX1_isMissing_13 (by decide) 14 rfl ?_
    refine v_icmp_ne hX dX1_isMissing_14 21 rfl 17 rfl (fun h3 => ?_) (fun h3 => ?_)
    · replace hf := it_n h3 hf
      refine v_iconst (v := (0 : Int32)) hX dX1_isMissing_21 (by decide) 22 rfl ?_
      exact hR _ hf _ _ dX1_isMissing_22 (bz_nar (v := (0 : Int32)) (by decide))
    · replace hf := it_p h3 hf
      refine v_iconst (v := (1 : Int32)) hX dX1_isMissing_17 (by decide) 18 rfl ?_
      refine v_goto hX dX1_isMissing_18 22 rfl ?_
      exact hR _ hf _ _ dX1_isMissing_22 (bz_nar (v := (1 : Int32)) (by decide))
set_option maxRecDepth 100000 in
set_option maxHeartbeats 4000000 in
theorem c1_isInside (r : Nat → Int32) (g : Nat → Nat → Int32) (u : Nat → Int64) (h : Nat → Nat → Int64) (p1 : Int32) (p2 : Int32) {res : Int32} (hf : f1_isInside (g 45) (g 44) p1 p2 = some res) : MAi yX1_isInside cX1_isInside 3 (some .boolean) 2 (fun a => [.ref (a 43), .int p1, .int p2]) r g u h res r g u h := by
  refine mi_i (by decide +kernel) (fun a => Nat.le_of_ble_eq_true rfl) (fun X hX hn hR => ?_)
  replace hR : ∀ q : Int32, some q = some res → ∀ lv pc, decode cX1_isInside pc = .ok (.ireturn, 1) → narrow .boolean (.int q) = .int q → VC X r g u h lv [.int q] pc := fun q hq => by cases hq; exact hR
  replace hX : CX X RX1 cX1_isInside 2 := hX
  show VC X r g u h [(0, .ref (aX X 43)), (1, .int p1), (2, .int p2)] [] 0
  rw [f1_isInside] at hf
  refine v_aload_n hX dX1_isInside_0 rfl 0 rfl 1 rfl ?_
  refine v_iload_n hX dX1_isInside_1 rfl 1 rfl 2 rfl ?_
  obtain ⟨v1, hv1, hf⟩ := bn1_e hf
  refine cv_i hX (c1_isMissing r g u h _ hv1) wvX1_isMissing q_1043 rc_43 (Nat.le_of_ble_eq_true rfl) (Nat.le_of_ble_eq_true rfl) (fun _ => rfl) [] rfl (Nat.le_of_ble_eq_true rfl) dX1_isInside_2 5 rfl ?_
  refine v_if_ne hX dX1_isInside_5 32 rfl 8 rfl (fun h6 => ?_) (fun h6 => ?_)
  · replace hf := it_n h6 hf
    refine v_iconst (v := (0 : Int32)) hX dX1_isInside_32 (by decide) 33 rfl ?_
    exact hR _ hf _ _ dX1_isInside_33 (bz_nar (v := (0 : Int32)) (by decide))
  · replace hf := it_p h6 hf
    refine v_iload_n hX dX1_isInside_8 rfl 2 rfl 9 rfl ?_
    refine v_if_lt hX dX1_isInside_9 32 rfl 12 rfl (fun h5 => ?_) (fun h5 => ?_)
    · replace hf := it_p h5 hf
      refine v_iconst (v := (0 : Int32)) hX dX1_isInside_32 (by decide) 33 rfl ?_
      exact hR _ hf _ _ dX1_isInside_33 (bz_nar (v := (0 : Int32)) (by decide))
    · replace hf := it_n h5 hf
      refine v_iload_n hX dX1_isInside_12 rfl 2 rfl 13 rfl ?_
      refine v_aload_n hX dX1_isInside_13 rfl 0 rfl 14 rfl ?_
      refine gf_43_1 hX q_90 dX1_isInside_14 17 rfl ?_
      refine v_iload_n hX dX1_isInside_17 rfl 1 rfl 18 rfl ?_
      obtain ⟨hi2, hf⟩ := gd_e hf
      refine al_45 hX hi2 dX1_isInside_18 ((g 45) p1.toNatClampNeg) rfl 19 rfl ?_
      refine v_icmp_ge hX dX1_isInside_19 32 rfl 22 rfl (fun h4 => ?_) (fun h4 => ?_)
      · replace hf := it_p h4 hf
        refine v_iconst (v := (0 : Int32)) hX dX1_isInside_32 (by decide) 33 rfl ?_
        exact hR _ hf _ _ dX1_isInside_33 (bz_nar (v := (0 : Int32)) (by decide))
      · replace hf := it_n h4 hf
        refine v_iload_n hX dX1_isInside_22 rfl 2 rfl 23 rfl ?_
        refine v_bipush (v := (40 : Int32)) hX dX1_isInside_23 (by decide) 25 rfl ?_
        refine v_icmp_ge hX dX1_isInside_25 32 rfl 28 rfl (fun h3 => ?_) (fun h3 => ?_)
        · replace hf := it_p h3 hf
          refine v_iconst (v := (0 : Int32)) hX dX1_isInside_32 (by decide) 33 rfl ?_
          exact hR _ hf _ _ dX1_isInside_33 (bz_nar (v := (0 : Int32)) (by decide))
        · replace hf := it_n h3 hf
          refine v_iconst (v := (1 : Int32)) hX dX1_isInside_28 (by decide) 29 rfl ?_
          refine v_goto hX dX1_isInside_29 33 rfl ?_
          exact hR _ hf _ _ dX1_isInside_33 (bz_nar (v := (1 : Int32)) (by decide))
set_option maxRecDepth 100000 in
set_option maxHeartbeats 4000000 in
theorem c1_read (r : Nat → Int32) (g : Nat → Nat → Int32) (u : Nat → Int64) (h : Nat → Nat → Int64) (p1 : Int32) (p2 : Int32) {res : Int32} (hf : f1_read (g 45) (g 44) (h 46) p1 p2 = some res) : MAi yX1_read cX1_read 3 (some .int) 3 (fun a => [.ref (a 43), .int p1, .int p2]) r g u h res r g u h := by
  refine mi_i (by decide +kernel) (fun a => Nat.le_of_ble_eq_true rfl) (fun X hX hn hR => ?_)
  replace hR : ∀ q : Int32, some q = some res → ∀ lv pc, decode cX1_read pc = .ok (.ireturn, 1) → narrow .int (.int q) = .int q → VC X r g u h lv [.int q] pc := fun q hq => by cases hq; exact hR
  replace hX : CX X RX1 cX1_read 3 := hX
  show VC X r g u h [(0, .ref (aX X 43)), (1, .int p1), (2, .int p2)] [] 0
  rw [f1_read] at hf
  refine v_aload_n hX dX1_read_0 rfl 0 rfl 1 rfl ?_
  refine v_iload_n hX dX1_read_1 rfl 1 rfl 2 rfl ?_
  refine v_iload_n hX dX1_read_2 rfl 2 rfl 3 rfl ?_
  obtain ⟨v1, hv1, hf⟩ := bn1_e hf
  refine cv_i hX (c1_isInside r g u h _ _ hv1) wvX1_isInside q_1048 rc_43 (Nat.le_of_ble_eq_true rfl) (Nat.le_of_ble_eq_true rfl) (fun _ => rfl) [] rfl (Nat.le_of_ble_eq_true rfl) dX1_read_3 6 rfl ?_
  refine v_if_eq hX dX1_read_6 24 rfl 9 rfl (fun h3 => ?_) (fun h3 => ?_)
  · replace hf := it_p h3 hf
    refine v_iconst (v := (0 : Int32)) hX dX1_read_24 (by decide) 25 rfl ?_
    exact hR _ hf _ _ dX1_read_25 rfl
  · replace hf := it_n h3 hf
    refine v_aload_n hX dX1_read_9 rfl 0 rfl 10 rfl ?_
    refine gf_43_2 hX q_92 dX1_read_10 13 rfl ?_
    refine v_iload_n hX dX1_read_13 rfl 1 rfl 14 rfl ?_
    refine v_bipush (v := (40 : Int32)) hX dX1_read_14 (by decide) 16 rfl ?_
    refine v_imul hX dX1_read_16 17 rfl ?_
    refine v_iload_n hX dX1_read_17 rfl 2 rfl 18 rfl ?_
    refine v_iadd hX dX1_read_18 19 rfl ?_
    obtain ⟨hi2, hf⟩ := gd_e hf
    refine al_46 hX hi2 dX1_read_19 ((h 46) ((p1 * (40 : Int32)) + p2).toNatClampNeg) rfl 20 rfl ?_
    refine v_l2i hX dX1_read_20 21 rfl ?_
    refine v_goto hX dX1_read_21 25 rfl ?_
    exact hR _ hf _ _ dX1_read_25 rfl
set_option maxRecDepth 100000 in
set_option maxHeartbeats 4000000 in
theorem c1_write (r : Nat → Int32) (g : Nat → Nat → Int32) (u : Nat → Int64) (h : Nat → Nat → Int64) (p1 : Int32) (p2 : Int32) (p3 : Int32) {res : (Nat → Int64)} (hf : f1_write (g 45) (g 44) (h 46) p1 p2 p3 = some res) : MAv yX1_write cX1_write 5 none 3 (fun a => [.ref (a 43), .int p1, .int p2, .int p3]) r g u h r g u (lkp h [(46, res)]) := by
  refine mi_v (by decide +kernel) (fun a => Nat.le_of_ble_eq_true rfl) (fun X hX hn hR => ?_)
  replace hR : ∀ q : (Nat → Int64), some q = some res → ∀ lv pc, decode cX1_write pc = .ok (.return_, 1) → VC X r g u (lkp h [(46, q)]) lv [] pc := fun q hq => by cases hq; exact hR
  replace hX : CX X RX1 cX1_write 3 := hX
  refine v_oph [46] [(46, h 46)] rfl ?_
  show VC X r g u (lkp h [(46, h 46)]) [(0, .ref (aX X 43)), (1, .int p1), (2, .int p2), (3, .int p3)] [] 0
  rw [f1_write] at hf
  refine v_aload_n hX dX1_write_0 rfl 0 rfl 1 rfl ?_
  refine v_iload_n hX dX1_write_1 rfl 1 rfl 2 rfl ?_
  refine v_iload_n hX dX1_write_2 rfl 2 rfl 3 rfl ?_
  obtain ⟨v1, hv1, hf⟩ := bn1_e hf
  refine cv_i hX (c1_isInside r g u (lkp h [(46, (h 46))]) _ _ hv1) wvX1_isInside q_1048 rc_43 (Nat.le_of_ble_eq_true rfl) (Nat.le_of_ble_eq_true rfl) (fun _ => rfl) [] rfl (Nat.le_of_ble_eq_true rfl) dX1_write_3 6 rfl ?_
  refine v_if_ne hX dX1_write_6 10 rfl 9 rfl (fun h9 => ?_) (fun h9 => ?_)
  · replace hf := it_n h9 hf
    refine v_aload_n hX dX1_write_10 rfl 0 rfl 11 rfl ?_
    refine gf_43_0 hX q_89 dX1_write_11 14 rfl ?_
    refine v_iload_n hX dX1_write_14 rfl 1 rfl 15 rfl ?_
    obtain ⟨hi2, hf⟩ := gd_e hf
    refine al_44 hX hi2 dX1_write_15 ((g 44) p1.toNatClampNeg) rfl 16 rfl ?_
    obtain ⟨J3, hJ3, hf⟩ := jn_x hf
    have HJ3 : ∀ (s4 : Int32), J3 s4 = some res → VC X r g u (lkp h [(46, (h 46))]) [(0, .ref (aX X 43)), (1, .int p1), (2, .int p2)] [.int s4] 40 := by
      intro s4 hf
      rw [hJ3] at hf
      refine v_istore hX dX1_write_40 (ltn hn (by decide)) 42 rfl [(4, .int s4), (0, .ref (aX X 43)), (1, .int p1), (2, .int p2)] rfl ?_
      refine v_aload_n hX dX1_write_42 rfl 1 rfl 43 rfl ?_
      refine gf_43_2 hX q_92 dX1_write_43 46 rfl ?_
      refine v_iload_n hX dX1_write_46 rfl 2 rfl 47 rfl ?_
      refine v_bipush (v := (40 : Int32)) hX dX1_write_47 (by decide) 49 rfl ?_
      refine v_imul hX dX1_write_49 50 rfl ?_
      refine v_iload_n hX dX1_write_50 rfl 3 rfl 51 rfl ?_
      refine v_iadd hX dX1_write_51 52 rfl ?_
      refine v_iload hX dX1_write_52 0 rfl 54 rfl ?_
      refine v_i2l hX dX1_write_54 55 rfl ?_
      obtain ⟨hi5, hf⟩ := gd_e hf
      refine as_46 hX hi5 dX1_write_55 56 rfl (h 46) rfl [(46, (vp_updL (h 46) ((p1 * (40 : Int32)) + p2).toNatClampNeg (s4).toInt64))] rfl ?_
      exact hR _ hf _ _ dX1_write_56
    refine v_if_ne hX dX1_write_16 24 rfl 19 rfl (fun h8 => ?_) (fun h8 => ?_)
    · replace hf := it_n h8 hf
      refine v_aload_n hX dX1_write_24 rfl 0 rfl 25 rfl ?_
      refine gf_43_0 hX q_89 dX1_write_25 28 rfl ?_
      refine v_iload_n hX dX1_write_28 rfl 1 rfl 29 rfl ?_
      obtain ⟨hi6, hf⟩ := gd_e hf
      refine al_44 hX hi6 dX1_write_29 ((g 44) p1.toNatClampNeg) rfl 30 rfl ?_
      refine v_iconst (v := (1 : Int32)) hX dX1_write_30 (by decide) 31 rfl ?_
      refine v_icmp_ne hX dX1_write_31 39 rfl 34 rfl (fun h7 => ?_) (fun h7 => ?_)
      · replace hf := it_n h7 hf
        refine v_iload_n hX dX1_write_39 rfl 3 rfl 40 rfl ?_
        refine v_sub [(0, .ref (aX X 43)), (1, .int p1), (2, .int p2)] (sbc 0 rfl (sbc 1 rfl (sbc 2 rfl sbn))) ?_
        exact HJ3 _ hf
      · replace hf := it_p h7 hf
        refine v_iload_n hX dX1_write_34 rfl 3 rfl 35 rfl ?_
        refine v_i2s hX dX1_write_35 36 rfl ?_
        refine v_goto hX dX1_write_36 40 rfl ?_
        refine v_sub [(0, .ref (aX X 43)), (1, .int p1), (2, .int p2)] (sbc 0 rfl (sbc 1 rfl (sbc 2 rfl sbn))) ?_
        exact HJ3 _ hf
    · replace hf := it_p h8 hf
      refine v_iload_n hX dX1_write_19 rfl 3 rfl 20 rfl ?_
      refine v_i2b hX dX1_write_20 21 rfl ?_
      refine v_goto hX dX1_write_21 40 rfl ?_
      refine v_sub [(0, .ref (aX X 43)), (1, .int p1), (2, .int p2)] (sbc 0 rfl (sbc 1 rfl (sbc 2 rfl sbn))) ?_
      exact HJ3 _ hf
  · replace hf := it_p h9 hf
    exact hR _ hf _ _ dX1_write_9
set_option maxRecDepth 100000 in
set_option maxHeartbeats 4000000 in
theorem c1_drop (r : Nat → Int32) (g : Nat → Nat → Int32) (u : Nat → Int64) (h : Nat → Nat → Int64) (p1 : Int32) {res : (Nat → Int32)} (hf : f1_drop (g 44) p1 = some res) : MAv yX1_drop cX1_drop 2 none 1 (fun a => [.ref (a 43), .int p1]) r g u h r (lkp g [(44, res)]) u h := by
  refine mi_v (by decide +kernel) (fun a => Nat.le_of_ble_eq_true rfl) (fun X hX hn hR => ?_)
  replace hR : ∀ q : (Nat → Int32), some q = some res → ∀ lv pc, decode cX1_drop pc = .ok (.return_, 1) → VC X r (lkp g [(44, q)]) u h lv [] pc := fun q hq => by cases hq; exact hR
  replace hX : CX X RX1 cX1_drop 1 := hX
  refine v_opg [44] [(44, g 44)] rfl ?_
  show VC X r (lkp g [(44, g 44)]) u h [(0, .ref (aX X 43)), (1, .int p1)] [] 0
  rw [f1_drop] at hf
  refine v_iload_n hX dX1_drop_0 rfl 1 rfl 1 rfl ?_
  obtain ⟨v1, hv1, hf⟩ := bn1_e hf
  refine cs_i hX (c1_isSheet r (lkp g [(44, (g 44))]) u h _ hv1) wvX1_isSheet q_1019 (Nat.le_of_ble_eq_true rfl) (Nat.le_of_ble_eq_true rfl) (fun _ => rfl) [] rfl (Nat.le_of_ble_eq_true rfl) dX1_drop_1 4 rfl ?_
  refine v_if_eq hX dX1_drop_4 14 rfl 7 rfl (fun h3 => ?_) (fun h3 => ?_)
  · replace hf := it_p h3 hf
    exact hR _ hf _ _ dX1_drop_14
  · replace hf := it_n h3 hf
    refine v_aload_n hX dX1_drop_7 rfl 0 rfl 8 rfl ?_
    refine gf_43_0 hX q_89 dX1_drop_8 11 rfl ?_
    refine v_iload_n hX dX1_drop_11 rfl 1 rfl 12 rfl ?_
    refine v_iconst (v := (-1 : Int32)) hX dX1_drop_12 (by decide) 13 rfl ?_
    obtain ⟨hi2, hf⟩ := gd_e hf
    refine as_44 hX hi2 dX1_drop_13 14 rfl (g 44) rfl [(44, (upd (g 44) p1.toNatClampNeg (-1 : Int32)))] rfl ?_
    exact hR _ hf _ _ dX1_drop_14
set_option maxRecDepth 100000 in
set_option maxHeartbeats 4000000 in
theorem c1_lay (r : Nat → Int32) (g : Nat → Nat → Int32) (u : Nat → Int64) (h : Nat → Nat → Int64) (p1 : Int32) (p2 : Int32) (p3 : Int32) {res : (Nat → Int32) × (Nat → Int32) × (Nat → Int64)} (hf : f1_lay (g 45) (g 44) (h 46) p1 p2 p3 = some res) : MAv yX1_lay cX1_lay 5 none 1 (fun a => [.ref (a 43), .int p1, .int p2, .int p3]) r g u h r (lkp g [(45, res.1), (44, res.2.1)]) u (lkp h [(46, res.2.2)]) := by
  refine mi_v (by decide +kernel) (fun a => Nat.le_of_ble_eq_true rfl) (fun X hX hn hR => ?_)
  replace hR : ∀ q : (Nat → Int32) × (Nat → Int32) × (Nat → Int64), some q = some res → ∀ lv pc, decode cX1_lay pc = .ok (.return_, 1) → VC X r (lkp g [(45, q.1), (44, q.2.1)]) u (lkp h [(46, q.2.2)]) lv [] pc := fun q hq => by cases hq; exact hR
  replace hX : CX X RX1 cX1_lay 1 := hX
  refine v_opg [45, 44] [(45, g 45), (44, g 44)] rfl ?_
  refine v_oph [46] [(46, h 46)] rfl ?_
  show VC X r (lkp g [(45, g 45), (44, g 44)]) u (lkp h [(46, h 46)]) [(0, .ref (aX X 43)), (1, .int p1), (2, .int p2), (3, .int p3)] [] 0
  rw [f1_lay] at hf
  refine v_iload_n hX dX1_lay_0 rfl 1 rfl 1 rfl ?_
  obtain ⟨v1, hv1, hf⟩ := bn1_e hf
  refine cs_i hX (c1_isSheet r (lkp g [(45, (g 45)), (44, (g 44))]) u (lkp h [(46, (h 46))]) _ hv1) wvX1_isSheet q_1019 (Nat.le_of_ble_eq_true rfl) (Nat.le_of_ble_eq_true rfl) (fun _ => rfl) [] rfl (Nat.le_of_ble_eq_true rfl) dX1_lay_1 4 rfl ?_
  refine v_if_ne hX dX1_lay_4 8 rfl 7 rfl (fun h10 => ?_) (fun h10 => ?_)
  · replace hf := it_n h10 hf
    refine v_aload_n hX dX1_lay_8 rfl 0 rfl 9 rfl ?_
    refine gf_43_0 hX q_89 dX1_lay_9 12 rfl ?_
    refine v_iload_n hX dX1_lay_12 rfl 1 rfl 13 rfl ?_
    refine v_iload_n hX dX1_lay_13 rfl 2 rfl 14 rfl ?_
    obtain ⟨hi2, hf⟩ := gd_e hf
    refine as_44 hX hi2 dX1_lay_14 15 rfl (g 44) rfl [(45, (g 45)), (44, (upd (g 44) p1.toNatClampNeg p2))] rfl ?_
    refine v_aload_n hX dX1_lay_15 rfl 0 rfl 16 rfl ?_
    refine gf_43_1 hX q_90 dX1_lay_16 19 rfl ?_
    refine v_iload_n hX dX1_lay_19 rfl 1 rfl 20 rfl ?_
    refine v_iload_n hX dX1_lay_20 rfl 3 rfl 21 rfl ?_
    obtain ⟨hi3, hf⟩ := gd_e hf
    refine as_45 hX hi3 dX1_lay_21 22 rfl (g 45) rfl [(45, (upd (g 45) p1.toNatClampNeg p3)), (44, (upd (g 44) p1.toNatClampNeg p2))] rfl ?_
    refine v_iconst (v := (0 : Int32)) hX dX1_lay_22 (by decide) 23 rfl ?_
    refine v_istore hX dX1_lay_23 (ltn hn (by decide)) 25 rfl [(4, .int (0 : Int32)), (0, .ref (aX X 43)), (1, .int p1), (2, .int p2), (3, .int p3)] rfl ?_
    obtain ⟨K6, hK6, hf⟩ := jn_x hf
    have HK6 : ∀ (x4 : Int32) (c5 : (Nat → Int64)), K6 x4 c5 = some res → VC X r (lkp g [(45, (upd (g 45) p1.toNatClampNeg p3)), (44, (upd (g 44) p1.toNatClampNeg p2))]) u (lkp h [(46, c5)]) [] [] 51 := by
      intro x4 c5 hf
      rw [hK6] at hf
      exact hR _ hf _ _ dX1_lay_51
    have HLK6 : ∀ (n7 : Nat) (x4 : Int32) (c5 : (Nat → Int64)), f1_lay_L25 p1 n7 x4 c5 K6 = some res → VC X r (lkp g [(45, (upd (g 45) p1.toNatClampNeg p3)), (44, (upd (g 44) p1.toNatClampNeg p2))]) u (lkp h [(46, c5)]) [(0, .ref (aX X 43)), (1, .int p1), (4, .int x4)] [] 25 := by
      intro n7
      induction n7 with
      | zero => intro x4 c5 hf; exact no_s hf
      | succ n7 ih =>
        intro x4 c5 hf
        rw [f1_lay_L25] at hf
        refine v_iload hX dX1_lay_25 2 rfl 27 rfl ?_
        refine v_bipush (v := (40 : Int32)) hX dX1_lay_27 (by decide) 29 rfl ?_
        refine v_icmp_ge hX dX1_lay_29 51 rfl 32 rfl (fun h9 => ?_) (fun h9 => ?_)
        · replace hf := it_p h9 hf
          refine v_sub [] sbn ?_
          exact HK6 _ _ hf
        · replace hf := it_n h9 hf
          refine v_aload_n hX dX1_lay_32 rfl 0 rfl 33 rfl ?_
          refine gf_43_2 hX q_92 dX1_lay_33 36 rfl ?_
          refine v_iload_n hX dX1_lay_36 rfl 1 rfl 37 rfl ?_
          refine v_bipush (v := (40 : Int32)) hX dX1_lay_37 (by decide) 39 rfl ?_
          refine v_imul hX dX1_lay_39 40 rfl ?_
          refine v_iload hX dX1_lay_40 2 rfl 42 rfl ?_
          refine v_iadd hX dX1_lay_42 43 rfl ?_
          refine v_lconst (v := (0 : Int64)) hX dX1_lay_43 (by decide) 44 rfl ?_
          obtain ⟨hi8, hf⟩ := gd_e hf
          refine as_46 hX hi8 dX1_lay_44 45 rfl c5 rfl [(46, (vp_updL c5 ((p1 * (40 : Int32)) + x4).toNatClampNeg (0 : Int64)))] rfl ?_
          refine v_inc (c := (1 : Int32)) hX dX1_lay_45 2 rfl (by decide) (ltn hn (by decide)) 48 rfl [(4, .int (x4 + (1 : Int32))), (0, .ref (aX X 43)), (1, .int p1)] rfl ?_
          refine v_goto hX dX1_lay_48 25 rfl ?_
          refine v_sub [(0, .ref (aX X 43)), (1, .int p1), (4, .int (x4 + (1 : Int32)))] (sbc 1 rfl (sbc 2 rfl (sbc 0 rfl sbn))) ?_
          exact ih _ _ hf
    refine v_sub [(0, .ref (aX X 43)), (1, .int p1), (4, .int (0 : Int32))] (sbc 1 rfl (sbc 2 rfl (sbc 0 rfl sbn))) ?_
    exact HLK6 _ _ _ hf
  · replace hf := it_p h10 hf
    exact hR _ hf _ _ dX1_lay_7
set_option maxRecDepth 100000 in
set_option maxHeartbeats 4000000 in
theorem c1_holdClaim (r : Nat → Int32) (g : Nat → Nat → Int32) (u : Nat → Int64) (h : Nat → Nat → Int64) (p1 : Int32) (p2 : Int32) {res : (Nat → Int32) × (Nat → Int32)} (hf : f1_holdClaim (g 47) (g 48) p1 p2 = some res) : MAv yX1_holdClaim cX1_holdClaim 3 none 1 (fun a => [.ref (a 43), .int p1, .int p2]) r g u h r (lkp g [(47, res.1), (48, res.2)]) u h := by
  refine mi_v (by decide +kernel) (fun a => Nat.le_of_ble_eq_true rfl) (fun X hX hn hR => ?_)
  replace hR : ∀ q : (Nat → Int32) × (Nat → Int32), some q = some res → ∀ lv pc, decode cX1_holdClaim pc = .ok (.return_, 1) → VC X r (lkp g [(47, q.1), (48, q.2)]) u h lv [] pc := fun q hq => by cases hq; exact hR
  replace hX : CX X RX1 cX1_holdClaim 1 := hX
  refine v_opg [47, 48] [(47, g 47), (48, g 48)] rfl ?_
  show VC X r (lkp g [(47, g 47), (48, g 48)]) u h [(0, .ref (aX X 43)), (1, .int p1), (2, .int p2)] [] 0
  rw [f1_holdClaim] at hf
  refine v_iload_n hX dX1_holdClaim_0 rfl 1 rfl 1 rfl ?_
  obtain ⟨v1, hv1, hf⟩ := bn1_e hf
  refine cs_i hX (c1_isShelf r (lkp g [(47, (g 47)), (48, (g 48))]) u h _ hv1) wvX1_isShelf q_1081 (Nat.le_of_ble_eq_true rfl) (Nat.le_of_ble_eq_true rfl) (fun _ => rfl) [] rfl (Nat.le_of_ble_eq_true rfl) dX1_holdClaim_1 4 rfl ?_
  refine v_if_ne hX dX1_holdClaim_4 8 rfl 7 rfl (fun h4 => ?_) (fun h4 => ?_)
  · replace hf := it_n h4 hf
    refine v_aload_n hX dX1_holdClaim_8 rfl 0 rfl 9 rfl ?_
    refine gf_43_3 hX q_93 dX1_holdClaim_9 12 rfl ?_
    refine v_iload_n hX dX1_holdClaim_12 rfl 1 rfl 13 rfl ?_
    refine v_iconst (v := (0 : Int32)) hX dX1_holdClaim_13 (by decide) 14 rfl ?_
    obtain ⟨hi2, hf⟩ := gd_e hf
    refine as_47 hX hi2 dX1_holdClaim_14 15 rfl (g 47) rfl [(47, (upd (g 47) p1.toNatClampNeg (0 : Int32))), (48, (g 48))] rfl ?_
    refine v_aload_n hX dX1_holdClaim_15 rfl 0 rfl 16 rfl ?_
    refine gf_43_4 hX q_94 dX1_holdClaim_16 19 rfl ?_
    refine v_iload_n hX dX1_holdClaim_19 rfl 1 rfl 20 rfl ?_
    refine v_iload_n hX dX1_holdClaim_20 rfl 2 rfl 21 rfl ?_
    obtain ⟨hi3, hf⟩ := gd_e hf
    refine as_48 hX hi3 dX1_holdClaim_21 22 rfl (g 48) rfl [(47, (upd (g 47) p1.toNatClampNeg (0 : Int32))), (48, (upd (g 48) p1.toNatClampNeg p2))] rfl ?_
    exact hR _ hf _ _ dX1_holdClaim_22
  · replace hf := it_p h4 hf
    exact hR _ hf _ _ dX1_holdClaim_7
set_option maxRecDepth 100000 in
set_option maxHeartbeats 4000000 in
theorem c1_holdRow (r : Nat → Int32) (g : Nat → Nat → Int32) (u : Nat → Int64) (h : Nat → Nat → Int64) (p1 : Int32) (p2 : Int32) {res : (Nat → Int32) × (Nat → Int32)} (hf : f1_holdRow (g 47) (g 45) (g 48) (g 44) p1 p2 = some res) : MAv yX1_holdRow cX1_holdRow 3 none 2 (fun a => [.ref (a 43), .int p1, .int p2]) r g u h r (lkp g [(47, res.1), (48, res.2)]) u h := by
  refine mi_v (by decide +kernel) (fun a => Nat.le_of_ble_eq_true rfl) (fun X hX hn hR => ?_)
  replace hR : ∀ q : (Nat → Int32) × (Nat → Int32), some q = some res → ∀ lv pc, decode cX1_holdRow pc = .ok (.return_, 1) → VC X r (lkp g [(47, q.1), (48, q.2)]) u h lv [] pc := fun q hq => by cases hq; exact hR
  replace hX : CX X RX1 cX1_holdRow 2 := hX
  refine v_opg [47, 48] [(47, g 47), (48, g 48)] rfl ?_
  show VC X r (lkp g [(47, g 47), (48, g 48)]) u h [(0, .ref (aX X 43)), (1, .int p1), (2, .int p2)] [] 0
  rw [f1_holdRow] at hf
  refine v_iload_n hX dX1_holdRow_0 rfl 1 rfl 1 rfl ?_
  obtain ⟨v1, hv1, hf⟩ := bn1_e hf
  refine cs_i hX (c1_isShelf r (lkp g [(47, (g 47)), (48, (g 48))]) u h _ hv1) wvX1_isShelf q_1081 (Nat.le_of_ble_eq_true rfl) (Nat.le_of_ble_eq_true rfl) (fun _ => rfl) [] rfl (Nat.le_of_ble_eq_true rfl) dX1_holdRow_1 4 rfl ?_
  refine v_if_eq hX dX1_holdRow_4 14 rfl 7 rfl (fun h12 => ?_) (fun h12 => ?_)
  · replace hf := it_p h12 hf
    exact hR _ hf _ _ dX1_holdRow_14
  · replace hf := it_n h12 hf
    refine v_iload_n hX dX1_holdRow_7 rfl 2 rfl 8 rfl ?_
    obtain ⟨v2, hv2, hf⟩ := bn1_e hf
    refine cs_i hX (c1_isSheet r (lkp g [(47, (g 47)), (48, (g 48))]) u h _ hv2) wvX1_isSheet q_1019 (Nat.le_of_ble_eq_true rfl) (Nat.le_of_ble_eq_true rfl) (fun _ => rfl) [] rfl (Nat.le_of_ble_eq_true rfl) dX1_holdRow_8 11 rfl ?_
    refine v_if_ne hX dX1_holdRow_11 15 rfl 14 rfl (fun h11 => ?_) (fun h11 => ?_)
    · replace hf := it_n h11 hf
      refine v_aload_n hX dX1_holdRow_15 rfl 0 rfl 16 rfl ?_
      refine gf_43_3 hX q_93 dX1_holdRow_16 19 rfl ?_
      refine v_iload_n hX dX1_holdRow_19 rfl 1 rfl 20 rfl ?_
      refine v_aload_n hX dX1_holdRow_20 rfl 0 rfl 21 rfl ?_
      refine v_iload_n hX dX1_holdRow_21 rfl 2 rfl 22 rfl ?_
      obtain ⟨v3, hv3, hf⟩ := bn1_e hf
      refine cv_i hX (c1_isMissing r (lkp g [(47, (g 47)), (48, (g 48))]) u h _ hv3) wvX1_isMissing q_1043 rc_43 (Nat.le_of_ble_eq_true rfl) (Nat.le_of_ble_eq_true rfl) (fun _ => rfl) [.int p1, .ref (aX X 47)] rfl (Nat.le_of_ble_eq_true rfl) dX1_holdRow_22 25 rfl ?_
      obtain ⟨J4, hJ4, hf⟩ := jn_x hf
      have HJ4 : ∀ (s5 : Int32), J4 s5 = some res → VC X r (lkp g [(47, (g 47)), (48, (g 48))]) u h [(0, .ref (aX X 43)), (1, .int p1), (2, .int p2)] [.int s5, .int p1, .ref (aX X 47)] 41 := by
        intro s5 hf
        rw [hJ4] at hf
        obtain ⟨hi6, hf⟩ := gd_e hf
        refine as_47 hX hi6 dX1_holdRow_41 42 rfl (g 47) rfl [(47, (upd (g 47) p1.toNatClampNeg s5)), (48, (g 48))] rfl ?_
        refine v_aload_n hX dX1_holdRow_42 rfl 0 rfl 43 rfl ?_
        refine gf_43_4 hX q_94 dX1_holdRow_43 46 rfl ?_
        refine v_iload_n hX dX1_holdRow_46 rfl 1 rfl 47 rfl ?_
        refine v_aload_n hX dX1_holdRow_47 rfl 0 rfl 48 rfl ?_
        refine gf_43_1 hX q_90 dX1_holdRow_48 51 rfl ?_
        refine v_iload_n hX dX1_holdRow_51 rfl 2 rfl 52 rfl ?_
        obtain ⟨hi7, hf⟩ := gd_e hf
        refine al_45 hX hi7 dX1_holdRow_52 ((g 45) p2.toNatClampNeg) rfl 53 rfl ?_
        obtain ⟨hi8, hf⟩ := gd_e hf
        refine as_48 hX hi8 dX1_holdRow_53 54 rfl (g 48) rfl [(47, (upd (g 47) p1.toNatClampNeg s5)), (48, (upd (g 48) p1.toNatClampNeg ((g 45) p2.toNatClampNeg)))] rfl ?_
        exact hR _ hf _ _ dX1_holdRow_54
      refine v_if_eq hX dX1_holdRow_25 32 rfl 28 rfl (fun h10 => ?_) (fun h10 => ?_)
      · replace hf := it_p h10 hf
        refine v_bipush (v := (10 : Int32)) hX dX1_holdRow_32 (by decide) 34 rfl ?_
        refine v_aload_n hX dX1_holdRow_34 rfl 0 rfl 35 rfl ?_
        refine gf_43_0 hX q_89 dX1_holdRow_35 38 rfl ?_
        refine v_iload_n hX dX1_holdRow_38 rfl 2 rfl 39 rfl ?_
        obtain ⟨hi9, hf⟩ := gd_e hf
        refine al_44 hX hi9 dX1_holdRow_39 ((g 44) p2.toNatClampNeg) rfl 40 rfl ?_
        refine v_iadd hX dX1_holdRow_40 41 rfl ?_
        exact HJ4 _ hf
      · replace hf := it_n h10 hf
        refine v_iconst (v := (-1 : Int32)) hX dX1_holdRow_28 (by decide) 29 rfl ?_
        refine v_goto hX dX1_holdRow_29 41 rfl ?_
        exact HJ4 _ hf
    · replace hf := it_p h11 hf
      exact hR _ hf _ _ dX1_holdRow_14
set_option maxRecDepth 100000 in
set_option maxHeartbeats 4000000 in
theorem c1_holdNothing (r : Nat → Int32) (g : Nat → Nat → Int32) (u : Nat → Int64) (h : Nat → Nat → Int64) (p1 : Int32) {res : (Nat → Int32)} (hf : f1_holdNothing (g 47) p1 = some res) : MAv yX1_holdNothing cX1_holdNothing 2 none 1 (fun a => [.ref (a 43), .int p1]) r g u h r (lkp g [(47, res)]) u h := by
  refine mi_v (by decide +kernel) (fun a => Nat.le_of_ble_eq_true rfl) (fun X hX hn hR => ?_)
  replace hR : ∀ q : (Nat → Int32), some q = some res → ∀ lv pc, decode cX1_holdNothing pc = .ok (.return_, 1) → VC X r (lkp g [(47, q)]) u h lv [] pc := fun q hq => by cases hq; exact hR
  replace hX : CX X RX1 cX1_holdNothing 1 := hX
  refine v_opg [47] [(47, g 47)] rfl ?_
  show VC X r (lkp g [(47, g 47)]) u h [(0, .ref (aX X 43)), (1, .int p1)] [] 0
  rw [f1_holdNothing] at hf
  refine v_iload_n hX dX1_holdNothing_0 rfl 1 rfl 1 rfl ?_
  obtain ⟨v1, hv1, hf⟩ := bn1_e hf
  refine cs_i hX (c1_isShelf r (lkp g [(47, (g 47))]) u h _ hv1) wvX1_isShelf q_1081 (Nat.le_of_ble_eq_true rfl) (Nat.le_of_ble_eq_true rfl) (fun _ => rfl) [] rfl (Nat.le_of_ble_eq_true rfl) dX1_holdNothing_1 4 rfl ?_
  refine v_if_eq hX dX1_holdNothing_4 14 rfl 7 rfl (fun h3 => ?_) (fun h3 => ?_)
  · replace hf := it_p h3 hf
    exact hR _ hf _ _ dX1_holdNothing_14
  · replace hf := it_n h3 hf
    refine v_aload_n hX dX1_holdNothing_7 rfl 0 rfl 8 rfl ?_
    refine gf_43_3 hX q_93 dX1_holdNothing_8 11 rfl ?_
    refine v_iload_n hX dX1_holdNothing_11 rfl 1 rfl 12 rfl ?_
    refine v_iconst (v := (-1 : Int32)) hX dX1_holdNothing_12 (by decide) 13 rfl ?_
    obtain ⟨hi2, hf⟩ := gd_e hf
    refine as_47 hX hi2 dX1_holdNothing_13 14 rfl (g 47) rfl [(47, (upd (g 47) p1.toNatClampNeg (-1 : Int32)))] rfl ?_
    exact hR _ hf _ _ dX1_holdNothing_14
