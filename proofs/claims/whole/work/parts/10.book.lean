set_option maxRecDepth 100000 in
set_option maxHeartbeats 4000000 in
theorem c0_isClaim (r : Nat → Int32) (g : Nat → Nat → Int32) (u : Nat → Int64) (h : Nat → Nat → Int64) (p1 : Int32) {res : Int32} (hf : f0_isClaim (r 1) p1 = some res) : MAi yX0_isClaim cX0_isClaim 2 (some .boolean) 0 (fun a => [.ref (a 1), .int p1]) r g u h res r g u h := by
  refine mi_i (by decide +kernel) (fun a => Nat.le_of_ble_eq_true rfl) (fun X hX hn hR => ?_)
  replace hR : ∀ q : Int32, some q = some res → ∀ lv pc, decode cX0_isClaim pc = .ok (.ireturn, 1) → narrow .boolean (.int q) = .int q → VC X r g u h lv [.int q] pc := fun q hq => by cases hq; exact hR
  replace hX : CX X RX0 cX0_isClaim 0 := hX
  show VC X r g u h [(0, .ref (aX X 1)), (1, .int p1)] [] 0
  rw [f0_isClaim] at hf
  refine v_iload_n hX dX0_isClaim_0 rfl 1 rfl 1 rfl ?_
  refine v_if_lt hX dX0_isClaim_1 16 rfl 4 rfl (fun h2 => ?_) (fun h2 => ?_)
  · replace hf := it_p h2 hf
    refine v_iconst (v := (0 : Int32)) hX dX0_isClaim_16 (by decide) 17 rfl ?_
    exact hR _ hf _ _ dX0_isClaim_17 (bz_nar (v := (0 : Int32)) (by decide))
  · replace hf := it_n h2 hf
    refine v_iload_n hX dX0_isClaim_4 rfl 1 rfl 5 rfl ?_
    refine v_aload_n hX dX0_isClaim_5 rfl 0 rfl 6 rfl ?_
    refine gf_1_6 hX q_428 dX0_isClaim_6 ((r 1)) rfl 9 rfl ?_
    refine v_icmp_ge hX dX0_isClaim_9 16 rfl 12 rfl (fun h1 => ?_) (fun h1 => ?_)
    · replace hf := it_p h1 hf
      refine v_iconst (v := (0 : Int32)) hX dX0_isClaim_16 (by decide) 17 rfl ?_
      exact hR _ hf _ _ dX0_isClaim_17 (bz_nar (v := (0 : Int32)) (by decide))
    · replace hf := it_n h1 hf
      refine v_iconst (v := (1 : Int32)) hX dX0_isClaim_12 (by decide) 13 rfl ?_
      refine v_goto hX dX0_isClaim_13 17 rfl ?_
      exact hR _ hf _ _ dX0_isClaim_17 (bz_nar (v := (1 : Int32)) (by decide))
set_option maxRecDepth 100000 in
set_option maxHeartbeats 4000000 in
theorem c0_fact (r : Nat → Int32) (g : Nat → Nat → Int32) (u : Nat → Int64) (h : Nat → Nat → Int64) (p1 : Int32) (p2 : Int32) {res : Int32} (hf : f0_fact (r 1) (g 7) p1 p2 = some res) : MAi yX0_fact cX0_fact 3 (some .int) 1 (fun a => [.ref (a 1), .int p1, .int p2]) r g u h res r g u h := by
  refine mi_i (by decide +kernel) (fun a => Nat.le_of_ble_eq_true rfl) (fun X hX hn hR => ?_)
  replace hR : ∀ q : Int32, some q = some res → ∀ lv pc, decode cX0_fact pc = .ok (.ireturn, 1) → narrow .int (.int q) = .int q → VC X r g u h lv [.int q] pc := fun q hq => by cases hq; exact hR
  replace hX : CX X RX0 cX0_fact 1 := hX
  show VC X r g u h [(0, .ref (aX X 1)), (1, .int p1), (2, .int p2)] [] 0
  rw [f0_fact] at hf
  refine v_aload_n hX dX0_fact_0 rfl 0 rfl 1 rfl ?_
  refine v_iload_n hX dX0_fact_1 rfl 1 rfl 2 rfl ?_
  obtain ⟨v1, hv1, hf⟩ := bn1_e hf
  refine cv_i hX (c0_isClaim r g u h _ hv1) wvX0_isClaim q_519 rc_1 (Nat.le_of_ble_eq_true rfl) (Nat.le_of_ble_eq_true rfl) (fun _ => rfl) [] rfl (Nat.le_of_ble_eq_true rfl) dX0_fact_2 5 rfl ?_
  refine v_if_eq hX dX0_fact_5 17 rfl 8 rfl (fun h5 => ?_) (fun h5 => ?_)
  · replace hf := it_p h5 hf
    refine v_iconst (v := (0 : Int32)) hX dX0_fact_17 (by decide) 18 rfl ?_
    exact hR _ hf _ _ dX0_fact_18 rfl
  · replace hf := it_n h5 hf
    refine v_iload_n hX dX0_fact_8 rfl 2 rfl 9 rfl ?_
    refine v_if_lt hX dX0_fact_9 17 rfl 12 rfl (fun h4 => ?_) (fun h4 => ?_)
    · replace hf := it_p h4 hf
      refine v_iconst (v := (0 : Int32)) hX dX0_fact_17 (by decide) 18 rfl ?_
      exact hR _ hf _ _ dX0_fact_18 rfl
    · replace hf := it_n h4 hf
      refine v_iload_n hX dX0_fact_12 rfl 2 rfl 13 rfl ?_
      refine v_iconst (v := (5 : Int32)) hX dX0_fact_13 (by decide) 14 rfl ?_
      refine v_icmp_lt hX dX0_fact_14 19 rfl 17 rfl (fun h3 => ?_) (fun h3 => ?_)
      · replace hf := it_p h3 hf
        refine v_aload_n hX dX0_fact_19 rfl 0 rfl 20 rfl ?_
        refine gf_1_7 hX q_52 dX0_fact_20 23 rfl ?_
        refine v_iload_n hX dX0_fact_23 rfl 1 rfl 24 rfl ?_
        refine v_iconst (v := (5 : Int32)) hX dX0_fact_24 (by decide) 25 rfl ?_
        refine v_imul hX dX0_fact_25 26 rfl ?_
        refine v_iload_n hX dX0_fact_26 rfl 2 rfl 27 rfl ?_
        refine v_iadd hX dX0_fact_27 28 rfl ?_
        obtain ⟨hi2, hf⟩ := gd_e hf
        refine al_7 hX hi2 dX0_fact_28 ((g 7) ((p1 * (5 : Int32)) + p2).toNatClampNeg) rfl 29 rfl ?_
        exact hR _ hf _ _ dX0_fact_29 rfl
      · replace hf := it_n h3 hf
        refine v_iconst (v := (0 : Int32)) hX dX0_fact_17 (by decide) 18 rfl ?_
        exact hR _ hf _ _ dX0_fact_18 rfl
set_option maxRecDepth 100000 in
set_option maxHeartbeats 4000000 in
theorem c6_copyFrom_t11_a24 (r : Nat → Int32) (g : Nat → Nat → Int32) (u : Nat → Int64) (h : Nat → Nat → Int64)  {res : Int32 × Int32 × (Nat → Int32)} (hf : f6_copyFrom (r 10) (r 9) (r 3) (r 2) (g 25) (g 12) = some res) : MAv yX6_copyFrom cX6_copyFrom 3 none 0 (fun a => [.ref (a 11), .ref (a 24)]) r g u h (lkp r [(3, res.1), (2, res.2.1)]) (lkp g [(12, res.2.2)]) u h := by
  refine mi_v (by decide +kernel) (fun a => Nat.le_of_ble_eq_true rfl) (fun X hX hn hR => ?_)
  replace hR : ∀ q : Int32 × Int32 × (Nat → Int32), some q = some res → ∀ lv pc, decode cX6_copyFrom pc = .ok (.return_, 1) → VC X (lkp r [(3, q.1), (2, q.2.1)]) (lkp g [(12, q.2.2)]) u h lv [] pc := fun q hq => by cases hq; exact hR
  replace hX : CX X RX6 cX6_copyFrom 0 := hX
  refine v_opr [3, 2] [(3, r 3), (2, r 2)] rfl ?_
  refine v_opg [12] [(12, g 12)] rfl ?_
  show VC X (lkp r [(3, r 3), (2, r 2)]) (lkp g [(12, g 12)]) u h [(0, .ref (aX X 11)), (1, .ref (aX X 24))] [] 0
  rw [f6_copyFrom] at hf
  refine v_aload_n hX dX6_copyFrom_0 rfl 0 rfl 1 rfl ?_
  refine v_aload_n hX dX6_copyFrom_1 rfl 1 rfl 2 rfl ?_
  refine gf_24_2 hX q_274 dX6_copyFrom_2 ((r 9)) rfl 5 rfl ?_
  refine pf_11_2 hX q_274 dX6_copyFrom_5 8 rfl [(3, (r 3)), (2, (r 9))] rfl ?_
  refine v_aload_n hX dX6_copyFrom_8 rfl 0 rfl 9 rfl ?_
  refine v_aload_n hX dX6_copyFrom_9 rfl 1 rfl 10 rfl ?_
  refine gf_24_3 hX q_295 dX6_copyFrom_10 ((r 10)) rfl 13 rfl ?_
  refine pf_11_3 hX q_295 dX6_copyFrom_13 16 rfl [(3, (r 10)), (2, (r 9))] rfl ?_
  refine v_iconst (v := (0 : Int32)) hX dX6_copyFrom_16 (by decide) 17 rfl ?_
  refine v_istore_n hX dX6_copyFrom_17 rfl (ltn hn (by decide)) 18 rfl [(2, .int (0 : Int32)), (0, .ref (aX X 11)), (1, .ref (aX X 24))] rfl ?_
  obtain ⟨K3, hK3, hf⟩ := jn_x hf
  have HK3 : ∀ (x1 : Int32) (c2 : (Nat → Int32)), K3 x1 c2 = some res → VC X (lkp r [(3, (r 10)), (2, (r 9))]) (lkp g [(12, c2)]) u h [] [] 51 := by
    intro x1 c2 hf
    rw [hK3] at hf
    exact hR _ hf _ _ dX6_copyFrom_51
  have HLK3 : ∀ (n4 : Nat) (x1 : Int32) (c2 : (Nat → Int32)), f6_copyFrom_L18 (r 9) (g 25) n4 x1 c2 K3 = some res → VC X (lkp r [(3, (r 10)), (2, (r 9))]) (lkp g [(12, c2)]) u h [(0, .ref (aX X 11)), (1, .ref (aX X 24)), (2, .int x1)] [] 18 := by
    intro n4
    induction n4 with
    | zero => intro x1 c2 hf; exact no_s hf
    | succ n4 ih =>
      intro x1 c2 hf
      rw [f6_copyFrom_L18] at hf
      refine v_iload_n hX dX6_copyFrom_18 rfl 2 rfl 19 rfl ?_
      refine v_aload_n hX dX6_copyFrom_19 rfl 0 rfl 20 rfl ?_
      refine gf_11_2 hX q_274 dX6_copyFrom_20 ((r 9)) rfl 23 rfl ?_
      refine v_icmp_ge hX dX6_copyFrom_23 51 rfl 26 rfl (fun h8 => ?_) (fun h8 => ?_)
      · replace hf := it_p h8 hf
        refine v_sub [] sbn ?_
        exact HK3 _ _ hf
      · replace hf := it_n h8 hf
        refine v_iload_n hX dX6_copyFrom_26 rfl 2 rfl 27 rfl ?_
        refine v_sipush (v := (210 : Int32)) hX dX6_copyFrom_27 (by decide) 30 rfl ?_
        refine v_icmp_ge hX dX6_copyFrom_30 51 rfl 33 rfl (fun h7 => ?_) (fun h7 => ?_)
        · replace hf := it_p h7 hf
          refine v_sub [] sbn ?_
          exact HK3 _ _ hf
        · replace hf := it_n h7 hf
          refine v_aload_n hX dX6_copyFrom_33 rfl 0 rfl 34 rfl ?_
          refine gf_11_0 hX q_64 dX6_copyFrom_34 37 rfl ?_
          refine v_iload_n hX dX6_copyFrom_37 rfl 2 rfl 38 rfl ?_
          refine v_aload_n hX dX6_copyFrom_38 rfl 1 rfl 39 rfl ?_
          refine gf_24_0 hX q_64 dX6_copyFrom_39 42 rfl ?_
          refine v_iload_n hX dX6_copyFrom_42 rfl 2 rfl 43 rfl ?_
          obtain ⟨hi5, hf⟩ := gd_e hf
          refine al_25 hX hi5 dX6_copyFrom_43 ((g 25) x1.toNatClampNeg) rfl 44 rfl ?_
          obtain ⟨hi6, hf⟩ := gd_e hf
          refine as_12 hX hi6 dX6_copyFrom_44 45 rfl c2 rfl [(12, (upd c2 x1.toNatClampNeg ((g 25) x1.toNatClampNeg)))] rfl ?_
          refine v_inc (c := (1 : Int32)) hX dX6_copyFrom_45 2 rfl (by decide) (ltn hn (by decide)) 48 rfl [(2, .int (x1 + (1 : Int32))), (0, .ref (aX X 11)), (1, .ref (aX X 24))] rfl ?_
          refine v_goto hX dX6_copyFrom_48 18 rfl ?_
          refine v_sub [(0, .ref (aX X 11)), (1, .ref (aX X 24)), (2, .int (x1 + (1 : Int32)))] (sbc 1 rfl (sbc 2 rfl (sbc 0 rfl sbn))) ?_
          exact ih _ _ hf
  refine v_sub [(0, .ref (aX X 11)), (1, .ref (aX X 24)), (2, .int (0 : Int32))] (sbc 1 rfl (sbc 2 rfl (sbc 0 rfl sbn))) ?_
  exact HLK3 _ _ _ hf
set_option maxRecDepth 100000 in
set_option maxHeartbeats 4000000 in
theorem c0_copyFrom_t1_a14 (r : Nat → Int32) (g : Nat → Nat → Int32) (u : Nat → Int64) (h : Nat → Nat → Int64)  {res : Int32 × Int32 × Int32 × Int32 × Int32 × (Nat → Int32) × (Nat → Int32) × (Nat → Int32) × (Nat → Int32) × (Nat → Int32) × (Nat → Int32) × (Nat → Int32) × (Nat → Int32) × (Nat → Int32) × (Nat → Int32)} (hf : f0_copyFrom (r 8) (r 7) (r 10) (r 9) (r 13) (r 1) (r 0) (r 3) (r 2) (r 6) (g 23) (g 20) (g 22) (g 17) (g 18) (g 16) (g 19) (g 25) (g 21) (g 15) (g 10) (g 7) (g 9) (g 4) (g 5) (g 3) (g 6) (g 12) (g 8) (g 2) = some res) : MAv yX0_copyFrom cX0_copyFrom 3 none 1 (fun a => [.ref (a 1), .ref (a 14)]) r g u h (lkp r [(1, res.1), (0, res.2.1), (3, res.2.2.1), (2, res.2.2.2.1), (6, res.2.2.2.2.1)]) (lkp g [(10, res.2.2.2.2.2.1), (7, res.2.2.2.2.2.2.1), (9, res.2.2.2.2.2.2.2.1), (4, res.2.2.2.2.2.2.2.2.1), (5, res.2.2.2.2.2.2.2.2.2.1), (3, res.2.2.2.2.2.2.2.2.2.2.1), (6, res.2.2.2.2.2.2.2.2.2.2.2.1), (12, res.2.2.2.2.2.2.2.2.2.2.2.2.1), (8, res.2.2.2.2.2.2.2.2.2.2.2.2.2.1), (2, res.2.2.2.2.2.2.2.2.2.2.2.2.2.2)]) u h := by
  refine mi_v (by decide +kernel) (fun a => Nat.le_of_ble_eq_true rfl) (fun X hX hn hR => ?_)
  replace hR : ∀ q : Int32 × Int32 × Int32 × Int32 × Int32 × (Nat → Int32) × (Nat → Int32) × (Nat → Int32) × (Nat → Int32) × (Nat → Int32) × (Nat → Int32) × (Nat → Int32) × (Nat → Int32) × (Nat → Int32) × (Nat → Int32), some q = some res → ∀ lv pc, decode cX0_copyFrom pc = .ok (.return_, 1) → VC X (lkp r [(1, q.1), (0, q.2.1), (3, q.2.2.1), (2, q.2.2.2.1), (6, q.2.2.2.2.1)]) (lkp g [(10, q.2.2.2.2.2.1), (7, q.2.2.2.2.2.2.1), (9, q.2.2.2.2.2.2.2.1), (4, q.2.2.2.2.2.2.2.2.1), (5, q.2.2.2.2.2.2.2.2.2.1), (3, q.2.2.2.2.2.2.2.2.2.2.1), (6, q.2.2.2.2.2.2.2.2.2.2.2.1), (12, q.2.2.2.2.2.2.2.2.2.2.2.2.1), (8, q.2.2.2.2.2.2.2.2.2.2.2.2.2.1), (2, q.2.2.2.2.2.2.2.2.2.2.2.2.2.2)]) u h lv [] pc := fun q hq => by cases hq; exact hR
  replace hX : CX X RX0 cX0_copyFrom 1 := hX
  refine v_opr [1, 0, 3, 2, 6] [(1, r 1), (0, r 0), (3, r 3), (2, r 2), (6, r 6)] rfl ?_
  refine v_opg [10, 7, 9, 4, 5, 3, 6, 12, 8, 2] [(10, g 10), (7, g 7), (9, g 9), (4, g 4), (5, g 5), (3, g 3), (6, g 6), (12, g 12), (8, g 8), (2, g 2)] rfl ?_
  show VC X (lkp r [(1, r 1), (0, r 0), (3, r 3), (2, r 2), (6, r 6)]) (lkp g [(10, g 10), (7, g 7), (9, g 9), (4, g 4), (5, g 5), (3, g 3), (6, g 6), (12, g 12), (8, g 8), (2, g 2)]) u h [(0, .ref (aX X 1)), (1, .ref (aX X 14))] [] 0
  rw [f0_copyFrom] at hf
  refine v_aload_n hX dX0_copyFrom_0 rfl 1 rfl 1 rfl ?_
  refine gf_14_0 hX q_46 dX0_copyFrom_1 4 rfl ?_
  refine v_iconst (v := (0 : Int32)) hX dX0_copyFrom_4 (by decide) 5 rfl ?_
  refine v_aload_n hX dX0_copyFrom_5 rfl 0 rfl 6 rfl ?_
  refine gf_1_0 hX q_46 dX0_copyFrom_6 9 rfl ?_
  refine v_iconst (v := (0 : Int32)) hX dX0_copyFrom_9 (by decide) 10 rfl ?_
  refine v_iconst (v := (4 : Int32)) hX dX0_copyFrom_10 (by decide) 11 rfl ?_
  refine cp_15_2 hX (Nat.le_of_ble_eq_true rfl) q_1231 (Nat.le_of_ble_eq_true rfl) dX0_copyFrom_11 14 rfl [(10, (g 10)), (7, (g 7)), (9, (g 9)), (4, (g 4)), (5, (g 5)), (3, (g 3)), (6, (g 6)), (12, (g 12)), (8, (g 8)), (2, (va_cpy (g 15) (g 2) 0 0 4))] rfl ?_
  refine v_aload_n hX dX0_copyFrom_14 rfl 1 rfl 15 rfl ?_
  refine gf_14_1 hX q_47 dX0_copyFrom_15 18 rfl ?_
  refine v_iconst (v := (0 : Int32)) hX dX0_copyFrom_18 (by decide) 19 rfl ?_
  refine v_aload_n hX dX0_copyFrom_19 rfl 0 rfl 20 rfl ?_
  refine gf_1_1 hX q_47 dX0_copyFrom_20 23 rfl ?_
  refine v_iconst (v := (0 : Int32)) hX dX0_copyFrom_23 (by decide) 24 rfl ?_
  refine v_bipush (v := (7 : Int32)) hX dX0_copyFrom_24 (by decide) 26 rfl ?_
  refine cp_16_3 hX (Nat.le_of_ble_eq_true rfl) q_1231 (Nat.le_of_ble_eq_true rfl) dX0_copyFrom_26 29 rfl [(10, (g 10)), (7, (g 7)), (9, (g 9)), (4, (g 4)), (5, (g 5)), (3, (va_cpy (g 16) (g 3) 0 0 7)), (6, (g 6)), (12, (g 12)), (8, (g 8)), (2, (va_cpy (g 15) (g 2) 0 0 4))] rfl ?_
  refine v_aload_n hX dX0_copyFrom_29 rfl 0 rfl 30 rfl ?_
  refine v_aload_n hX dX0_copyFrom_30 rfl 1 rfl 31 rfl ?_
  refine gf_14_2 hX q_404 dX0_copyFrom_31 ((r 7)) rfl 34 rfl ?_
  refine pf_1_2 hX q_404 dX0_copyFrom_34 37 rfl [(1, (r 1)), (0, (r 7)), (3, (r 3)), (2, (r 2)), (6, (r 6))] rfl ?_
  refine v_aload_n hX dX0_copyFrom_37 rfl 1 rfl 38 rfl ?_
  refine gf_14_3 hX q_48 dX0_copyFrom_38 41 rfl ?_
  refine v_iconst (v := (0 : Int32)) hX dX0_copyFrom_41 (by decide) 42 rfl ?_
  refine v_aload_n hX dX0_copyFrom_42 rfl 0 rfl 43 rfl ?_
  refine gf_1_3 hX q_48 dX0_copyFrom_43 46 rfl ?_
  refine v_iconst (v := (0 : Int32)) hX dX0_copyFrom_46 (by decide) 47 rfl ?_
  refine v_bipush (v := (10 : Int32)) hX dX0_copyFrom_47 (by decide) 49 rfl ?_
  refine cp_17_4 hX (Nat.le_of_ble_eq_true rfl) q_1231 (Nat.le_of_ble_eq_true rfl) dX0_copyFrom_49 52 rfl [(10, (g 10)), (7, (g 7)), (9, (g 9)), (4, (va_cpy (g 17) (g 4) 0 0 10)), (5, (g 5)), (3, (va_cpy (g 16) (g 3) 0 0 7)), (6, (g 6)), (12, (g 12)), (8, (g 8)), (2, (va_cpy (g 15) (g 2) 0 0 4))] rfl ?_
  refine v_aload_n hX dX0_copyFrom_52 rfl 1 rfl 53 rfl ?_
  refine gf_14_5 hX q_51 dX0_copyFrom_53 56 rfl ?_
  refine v_iconst (v := (0 : Int32)) hX dX0_copyFrom_56 (by decide) 57 rfl ?_
  refine v_aload_n hX dX0_copyFrom_57 rfl 0 rfl 58 rfl ?_
  refine gf_1_5 hX q_51 dX0_copyFrom_58 61 rfl ?_
  refine v_iconst (v := (0 : Int32)) hX dX0_copyFrom_61 (by decide) 62 rfl ?_
  refine v_bipush (v := (10 : Int32)) hX dX0_copyFrom_62 (by decide) 64 rfl ?_
  refine cp_19_6 hX (Nat.le_of_ble_eq_true rfl) q_1231 (Nat.le_of_ble_eq_true rfl) dX0_copyFrom_64 67 rfl [(10, (g 10)), (7, (g 7)), (9, (g 9)), (4, (va_cpy (g 17) (g 4) 0 0 10)), (5, (g 5)), (3, (va_cpy (g 16) (g 3) 0 0 7)), (6, (va_cpy (g 19) (g 6) 0 0 10)), (12, (g 12)), (8, (g 8)), (2, (va_cpy (g 15) (g 2) 0 0 4))] rfl ?_
  refine v_aload_n hX dX0_copyFrom_67 rfl 0 rfl 68 rfl ?_
  refine v_aload_n hX dX0_copyFrom_68 rfl 1 rfl 69 rfl ?_
  refine gf_14_6 hX q_428 dX0_copyFrom_69 ((r 8)) rfl 72 rfl ?_
  refine pf_1_6 hX q_428 dX0_copyFrom_72 75 rfl [(1, (r 8)), (0, (r 7)), (3, (r 3)), (2, (r 2)), (6, (r 6))] rfl ?_
  refine v_aload_n hX dX0_copyFrom_75 rfl 1 rfl 76 rfl ?_
  refine gf_14_7 hX q_52 dX0_copyFrom_76 79 rfl ?_
  refine v_iconst (v := (0 : Int32)) hX dX0_copyFrom_79 (by decide) 80 rfl ?_
  refine v_aload_n hX dX0_copyFrom_80 rfl 0 rfl 81 rfl ?_
  refine gf_1_7 hX q_52 dX0_copyFrom_81 84 rfl ?_
  refine v_iconst (v := (0 : Int32)) hX dX0_copyFrom_84 (by decide) 85 rfl ?_
  refine v_bipush (v := (45 : Int32)) hX dX0_copyFrom_85 (by decide) 87 rfl ?_
  refine cp_20_7 hX (Nat.le_of_ble_eq_true rfl) q_1231 (Nat.le_of_ble_eq_true rfl) dX0_copyFrom_87 90 rfl [(10, (g 10)), (7, (va_cpy (g 20) (g 7) 0 0 45)), (9, (g 9)), (4, (va_cpy (g 17) (g 4) 0 0 10)), (5, (g 5)), (3, (va_cpy (g 16) (g 3) 0 0 7)), (6, (va_cpy (g 19) (g 6) 0 0 10)), (12, (g 12)), (8, (g 8)), (2, (va_cpy (g 15) (g 2) 0 0 4))] rfl ?_
  refine v_aload_n hX dX0_copyFrom_90 rfl 1 rfl 91 rfl ?_
  refine gf_14_8 hX q_53 dX0_copyFrom_91 94 rfl ?_
  refine v_iconst (v := (0 : Int32)) hX dX0_copyFrom_94 (by decide) 95 rfl ?_
  refine v_aload_n hX dX0_copyFrom_95 rfl 0 rfl 96 rfl ?_
  refine gf_1_8 hX q_53 dX0_copyFrom_96 99 rfl ?_
  refine v_iconst (v := (0 : Int32)) hX dX0_copyFrom_99 (by decide) 100 rfl ?_
  refine v_bipush (v := (36 : Int32)) hX dX0_copyFrom_100 (by decide) 102 rfl ?_
  refine cp_21_8 hX (Nat.le_of_ble_eq_true rfl) q_1231 (Nat.le_of_ble_eq_true rfl) dX0_copyFrom_102 105 rfl [(10, (g 10)), (7, (va_cpy (g 20) (g 7) 0 0 45)), (9, (g 9)), (4, (va_cpy (g 17) (g 4) 0 0 10)), (5, (g 5)), (3, (va_cpy (g 16) (g 3) 0 0 7)), (6, (va_cpy (g 19) (g 6) 0 0 10)), (12, (g 12)), (8, (va_cpy (g 21) (g 8) 0 0 36)), (2, (va_cpy (g 15) (g 2) 0 0 4))] rfl ?_
  refine v_aload_n hX dX0_copyFrom_105 rfl 1 rfl 106 rfl ?_
  refine gf_14_9 hX q_54 dX0_copyFrom_106 109 rfl ?_
  refine v_iconst (v := (0 : Int32)) hX dX0_copyFrom_109 (by decide) 110 rfl ?_
  refine v_aload_n hX dX0_copyFrom_110 rfl 0 rfl 111 rfl ?_
  refine gf_1_9 hX q_54 dX0_copyFrom_111 114 rfl ?_
  refine v_iconst (v := (0 : Int32)) hX dX0_copyFrom_114 (by decide) 115 rfl ?_
  refine v_bipush (v := (9 : Int32)) hX dX0_copyFrom_115 (by decide) 117 rfl ?_
  refine cp_22_9 hX (Nat.le_of_ble_eq_true rfl) q_1231 (Nat.le_of_ble_eq_true rfl) dX0_copyFrom_117 120 rfl [(10, (g 10)), (7, (va_cpy (g 20) (g 7) 0 0 45)), (9, (va_cpy (g 22) (g 9) 0 0 9)), (4, (va_cpy (g 17) (g 4) 0 0 10)), (5, (g 5)), (3, (va_cpy (g 16) (g 3) 0 0 7)), (6, (va_cpy (g 19) (g 6) 0 0 10)), (12, (g 12)), (8, (va_cpy (g 21) (g 8) 0 0 36)), (2, (va_cpy (g 15) (g 2) 0 0 4))] rfl ?_
  refine v_iconst (v := (0 : Int32)) hX dX0_copyFrom_120 (by decide) 121 rfl ?_
  refine v_istore_n hX dX0_copyFrom_121 rfl (ltn hn (by decide)) 122 rfl [(2, .int (0 : Int32)), (0, .ref (aX X 1)), (1, .ref (aX X 14))] rfl ?_
  obtain ⟨K3, hK3, hf⟩ := jn_x hf
  have HK3 : ∀ (x1 : Int32) (c2 : (Nat → Int32)), K3 x1 c2 = some res → VC X (lkp r [(1, (r 8)), (0, (r 7)), (3, (r 3)), (2, (r 2)), (6, (r 6))]) (lkp g [(10, (g 10)), (7, (va_cpy (g 20) (g 7) 0 0 45)), (9, (va_cpy (g 22) (g 9) 0 0 9)), (4, (va_cpy (g 17) (g 4) 0 0 10)), (5, c2), (3, (va_cpy (g 16) (g 3) 0 0 7)), (6, (va_cpy (g 19) (g 6) 0 0 10)), (12, (g 12)), (8, (va_cpy (g 21) (g 8) 0 0 36)), (2, (va_cpy (g 15) (g 2) 0 0 4))]) u h [(0, .ref (aX X 1)), (1, .ref (aX X 14))] [] 146 := by
    intro x1 c2 hf
    rw [hK3] at hf
    refine v_iconst (v := (0 : Int32)) hX dX0_copyFrom_146 (by decide) 147 rfl ?_
    refine v_istore_n hX dX0_copyFrom_147 rfl (ltn hn (by decide)) 148 rfl [(2, .int (0 : Int32)), (0, .ref (aX X 1)), (1, .ref (aX X 14))] rfl ?_
    obtain ⟨K10, hK10, hf⟩ := jn_x hf
    have HK10 : ∀ (x8 : Int32) (c9 : (Nat → Int32)), K10 x8 c9 = some res → VC X (lkp r [(1, (r 8)), (0, (r 7)), (3, (r 3)), (2, (r 2)), (6, (r 6))]) (lkp g [(10, c9), (7, (va_cpy (g 20) (g 7) 0 0 45)), (9, (va_cpy (g 22) (g 9) 0 0 9)), (4, (va_cpy (g 17) (g 4) 0 0 10)), (5, c2), (3, (va_cpy (g 16) (g 3) 0 0 7)), (6, (va_cpy (g 19) (g 6) 0 0 10)), (12, (g 12)), (8, (va_cpy (g 21) (g 8) 0 0 36)), (2, (va_cpy (g 15) (g 2) 0 0 4))]) u h [(0, .ref (aX X 1)), (1, .ref (aX X 14))] [] 172 := by
      intro x8 c9 hf
      rw [hK10] at hf
      refine v_aload_n hX dX0_copyFrom_172 rfl 0 rfl 173 rfl ?_
      refine gf_1_11 hX q_59 dX0_copyFrom_173 176 rfl ?_
      refine v_aload_n hX dX0_copyFrom_176 rfl 1 rfl 177 rfl ?_
      refine gf_14_11 hX q_59 dX0_copyFrom_177 180 rfl ?_
      obtain ⟨c15, c16, c17, hc15, hf⟩ := bn3_e hf
      refine cv_v hX (c6_copyFrom_t11_a24 (lkp r [(1, (r 8)), (0, (r 7)), (3, (r 3)), (2, (r 2)), (6, (r 6))]) (lkp g [(10, c9), (7, (va_cpy (g 20) (g 7) 0 0 45)), (9, (va_cpy (g 22) (g 9) 0 0 9)), (4, (va_cpy (g 17) (g 4) 0 0 10)), (5, c2), (3, (va_cpy (g 16) (g 3) 0 0 7)), (6, (va_cpy (g 19) (g 6) 0 0 10)), (12, (g 12)), (8, (va_cpy (g 21) (g 8) 0 0 36)), (2, (va_cpy (g 15) (g 2) 0 0 4))]) u h hc15) wvX6_copyFrom q_1235 rc_11 (Nat.le_of_ble_eq_true rfl) (Nat.le_of_ble_eq_true rfl) (fun _ => rfl) [] rfl (Nat.le_of_ble_eq_true rfl) dX0_copyFrom_180 183 rfl ?_
      refine v_mgr [(1, (r 8)), (0, (r 7)), (3, c15), (2, c16), (6, (r 6))] rfl ?_
      refine v_mgg [(10, c9), (7, (va_cpy (g 20) (g 7) 0 0 45)), (9, (va_cpy (g 22) (g 9) 0 0 9)), (4, (va_cpy (g 17) (g 4) 0 0 10)), (5, c2), (3, (va_cpy (g 16) (g 3) 0 0 7)), (6, (va_cpy (g 19) (g 6) 0 0 10)), (12, c17), (8, (va_cpy (g 21) (g 8) 0 0 36)), (2, (va_cpy (g 15) (g 2) 0 0 4))] rfl ?_
      refine v_aload_n hX dX0_copyFrom_183 rfl 0 rfl 184 rfl ?_
      refine v_aload_n hX dX0_copyFrom_184 rfl 1 rfl 185 rfl ?_
      refine gf_14_12 hX q_60 dX0_copyFrom_185 ((r 13)) rfl 188 rfl ?_
      refine pf_1_12 hX q_60 dX0_copyFrom_188 191 rfl [(1, (r 8)), (0, (r 7)), (3, c15), (2, c16), (6, (r 13))] rfl ?_
      exact hR _ hf _ _ dX0_copyFrom_191
    have HLK10 : ∀ (n11 : Nat) (x8 : Int32) (c9 : (Nat → Int32)), f0_copyFrom_L148 (g 23) n11 x8 c9 K10 = some res → VC X (lkp r [(1, (r 8)), (0, (r 7)), (3, (r 3)), (2, (r 2)), (6, (r 6))]) (lkp g [(10, c9), (7, (va_cpy (g 20) (g 7) 0 0 45)), (9, (va_cpy (g 22) (g 9) 0 0 9)), (4, (va_cpy (g 17) (g 4) 0 0 10)), (5, c2), (3, (va_cpy (g 16) (g 3) 0 0 7)), (6, (va_cpy (g 19) (g 6) 0 0 10)), (12, (g 12)), (8, (va_cpy (g 21) (g 8) 0 0 36)), (2, (va_cpy (g 15) (g 2) 0 0 4))]) u h [(0, .ref (aX X 1)), (1, .ref (aX X 14)), (2, .int x8)] [] 148 := by
      intro n11
      induction n11 with
      | zero => intro x8 c9 hf; exact no_s hf
      | succ n11 ih =>
        intro x8 c9 hf
        rw [f0_copyFrom_L148] at hf
        refine v_iload_n hX dX0_copyFrom_148 rfl 2 rfl 149 rfl ?_
        refine v_bipush (v := (9 : Int32)) hX dX0_copyFrom_149 (by decide) 151 rfl ?_
        refine v_icmp_ge hX dX0_copyFrom_151 172 rfl 154 rfl (fun h14 => ?_) (fun h14 => ?_)
        · replace hf := it_p h14 hf
          refine v_sub [(0, .ref (aX X 1)), (1, .ref (aX X 14))] (sbc 0 rfl (sbc 1 rfl sbn)) ?_
          exact HK10 _ _ hf
        · replace hf := it_n h14 hf
          refine v_aload_n hX dX0_copyFrom_154 rfl 0 rfl 155 rfl ?_
          refine gf_1_10 hX q_55 dX0_copyFrom_155 158 rfl ?_
          refine v_iload_n hX dX0_copyFrom_158 rfl 2 rfl 159 rfl ?_
          refine v_aload_n hX dX0_copyFrom_159 rfl 1 rfl 160 rfl ?_
          refine gf_14_10 hX q_55 dX0_copyFrom_160 163 rfl ?_
          refine v_iload_n hX dX0_copyFrom_163 rfl 2 rfl 164 rfl ?_
          obtain ⟨hi12, hf⟩ := gd_e hf
          refine al_23 hX hi12 dX0_copyFrom_164 ((g 23) x8.toNatClampNeg) rfl 165 rfl ?_
          obtain ⟨hi13, hf⟩ := gd_e hf
          refine as_10 hX hi13 dX0_copyFrom_165 166 rfl c9 rfl [(10, (upd c9 x8.toNatClampNeg (vp_nar .boolean ((g 23) x8.toNatClampNeg)))), (7, (va_cpy (g 20) (g 7) 0 0 45)), (9, (va_cpy (g 22) (g 9) 0 0 9)), (4, (va_cpy (g 17) (g 4) 0 0 10)), (5, c2), (3, (va_cpy (g 16) (g 3) 0 0 7)), (6, (va_cpy (g 19) (g 6) 0 0 10)), (12, (g 12)), (8, (va_cpy (g 21) (g 8) 0 0 36)), (2, (va_cpy (g 15) (g 2) 0 0 4))] rfl ?_
          refine v_inc (c := (1 : Int32)) hX dX0_copyFrom_166 2 rfl (by decide) (ltn hn (by decide)) 169 rfl [(2, .int (x8 + (1 : Int32))), (0, .ref (aX X 1)), (1, .ref (aX X 14))] rfl ?_
          refine v_goto hX dX0_copyFrom_169 148 rfl ?_
          refine v_sub [(0, .ref (aX X 1)), (1, .ref (aX X 14)), (2, .int (x8 + (1 : Int32)))] (sbc 1 rfl (sbc 2 rfl (sbc 0 rfl sbn))) ?_
          exact ih _ _ hf
    refine v_sub [(0, .ref (aX X 1)), (1, .ref (aX X 14)), (2, .int (0 : Int32))] (sbc 1 rfl (sbc 2 rfl (sbc 0 rfl sbn))) ?_
    exact HLK10 _ _ _ hf
  have HLK3 : ∀ (n4 : Nat) (x1 : Int32) (c2 : (Nat → Int32)), f0_copyFrom_L122 (g 18) n4 x1 c2 K3 = some res → VC X (lkp r [(1, (r 8)), (0, (r 7)), (3, (r 3)), (2, (r 2)), (6, (r 6))]) (lkp g [(10, (g 10)), (7, (va_cpy (g 20) (g 7) 0 0 45)), (9, (va_cpy (g 22) (g 9) 0 0 9)), (4, (va_cpy (g 17) (g 4) 0 0 10)), (5, c2), (3, (va_cpy (g 16) (g 3) 0 0 7)), (6, (va_cpy (g 19) (g 6) 0 0 10)), (12, (g 12)), (8, (va_cpy (g 21) (g 8) 0 0 36)), (2, (va_cpy (g 15) (g 2) 0 0 4))]) u h [(0, .ref (aX X 1)), (1, .ref (aX X 14)), (2, .int x1)] [] 122 := by
    intro n4
    induction n4 with
    | zero => intro x1 c2 hf; exact no_s hf
    | succ n4 ih =>
      intro x1 c2 hf
      rw [f0_copyFrom_L122] at hf
      refine v_iload_n hX dX0_copyFrom_122 rfl 2 rfl 123 rfl ?_
      refine v_bipush (v := (10 : Int32)) hX dX0_copyFrom_123 (by decide) 125 rfl ?_
      refine v_icmp_ge hX dX0_copyFrom_125 146 rfl 128 rfl (fun h7 => ?_) (fun h7 => ?_)
      · replace hf := it_p h7 hf
        refine v_sub [(0, .ref (aX X 1)), (1, .ref (aX X 14))] (sbc 0 rfl (sbc 1 rfl sbn)) ?_
        exact HK3 _ _ hf
      · replace hf := it_n h7 hf
        refine v_aload_n hX dX0_copyFrom_128 rfl 0 rfl 129 rfl ?_
        refine gf_1_4 hX q_50 dX0_copyFrom_129 132 rfl ?_
        refine v_iload_n hX dX0_copyFrom_132 rfl 2 rfl 133 rfl ?_
        refine v_aload_n hX dX0_copyFrom_133 rfl 1 rfl 134 rfl ?_
        refine gf_14_4 hX q_50 dX0_copyFrom_134 137 rfl ?_
        refine v_iload_n hX dX0_copyFrom_137 rfl 2 rfl 138 rfl ?_
        obtain ⟨hi5, hf⟩ := gd_e hf
        refine al_18 hX hi5 dX0_copyFrom_138 ((g 18) x1.toNatClampNeg) rfl 139 rfl ?_
        obtain ⟨hi6, hf⟩ := gd_e hf
        refine as_5 hX hi6 dX0_copyFrom_139 140 rfl c2 rfl [(10, (g 10)), (7, (va_cpy (g 20) (g 7) 0 0 45)), (9, (va_cpy (g 22) (g 9) 0 0 9)), (4, (va_cpy (g 17) (g 4) 0 0 10)), (5, (upd c2 x1.toNatClampNeg (vp_nar .boolean ((g 18) x1.toNatClampNeg)))), (3, (va_cpy (g 16) (g 3) 0 0 7)), (6, (va_cpy (g 19) (g 6) 0 0 10)), (12, (g 12)), (8, (va_cpy (g 21) (g 8) 0 0 36)), (2, (va_cpy (g 15) (g 2) 0 0 4))] rfl ?_
        refine v_inc (c := (1 : Int32)) hX dX0_copyFrom_140 2 rfl (by decide) (ltn hn (by decide)) 143 rfl [(2, .int (x1 + (1 : Int32))), (0, .ref (aX X 1)), (1, .ref (aX X 14))] rfl ?_
        refine v_goto hX dX0_copyFrom_143 122 rfl ?_
        refine v_sub [(0, .ref (aX X 1)), (1, .ref (aX X 14)), (2, .int (x1 + (1 : Int32)))] (sbc 1 rfl (sbc 2 rfl (sbc 0 rfl sbn))) ?_
        exact ih _ _ hf
  refine v_sub [(0, .ref (aX X 1)), (1, .ref (aX X 14)), (2, .int (0 : Int32))] (sbc 1 rfl (sbc 2 rfl (sbc 0 rfl sbn))) ?_
  exact HLK3 _ _ _ hf
set_option maxRecDepth 100000 in
set_option maxHeartbeats 4000000 in
theorem c0_sitter (r : Nat → Int32) (g : Nat → Nat → Int32) (u : Nat → Int64) (h : Nat → Nat → Int64) (p1 : Int32) (p2 : Int32) {res : Int32} (hf : f0_sitter (r 1) (g 8) p1 p2 = some res) : MAi yX0_sitter cX0_sitter 3 (some .int) 0 (fun a => [.ref (a 1), .int p1, .int p2]) r g u h res r g u h := by
  refine mi_i (by decide +kernel) (fun a => Nat.le_of_ble_eq_true rfl) (fun X hX hn hR => ?_)
  replace hR : ∀ q : Int32, some q = some res → ∀ lv pc, decode cX0_sitter pc = .ok (.ireturn, 1) → narrow .int (.int q) = .int q → VC X r g u h lv [.int q] pc := fun q hq => by cases hq; exact hR
  replace hX : CX X RX0 cX0_sitter 0 := hX
  show VC X r g u h [(0, .ref (aX X 1)), (1, .int p1), (2, .int p2)] [] 0
  rw [f0_sitter] at hf
  refine v_iload_n hX dX0_sitter_0 rfl 1 rfl 1 rfl ?_
  refine v_if_lt hX dX0_sitter_1 21 rfl 4 rfl (fun h5 => ?_) (fun h5 => ?_)
  · replace hf := it_p h5 hf
    refine v_bipush (v := (-9 : Int32)) hX dX0_sitter_21 (by decide) 23 rfl ?_
    exact hR _ hf _ _ dX0_sitter_23 rfl
  · replace hf := it_n h5 hf
    refine v_iload_n hX dX0_sitter_4 rfl 1 rfl 5 rfl ?_
    refine v_aload_n hX dX0_sitter_5 rfl 0 rfl 6 rfl ?_
    refine gf_1_6 hX q_428 dX0_sitter_6 ((r 1)) rfl 9 rfl ?_
    refine v_icmp_ge hX dX0_sitter_9 21 rfl 12 rfl (fun h4 => ?_) (fun h4 => ?_)
    · replace hf := it_p h4 hf
      refine v_bipush (v := (-9 : Int32)) hX dX0_sitter_21 (by decide) 23 rfl ?_
      exact hR _ hf _ _ dX0_sitter_23 rfl
    · replace hf := it_n h4 hf
      refine v_iload_n hX dX0_sitter_12 rfl 2 rfl 13 rfl ?_
      refine v_if_lt hX dX0_sitter_13 21 rfl 16 rfl (fun h3 => ?_) (fun h3 => ?_)
      · replace hf := it_p h3 hf
        refine v_bipush (v := (-9 : Int32)) hX dX0_sitter_21 (by decide) 23 rfl ?_
        exact hR _ hf _ _ dX0_sitter_23 rfl
      · replace hf := it_n h3 hf
        refine v_iload_n hX dX0_sitter_16 rfl 2 rfl 17 rfl ?_
        refine v_iconst (v := (4 : Int32)) hX dX0_sitter_17 (by decide) 18 rfl ?_
        refine v_icmp_lt hX dX0_sitter_18 24 rfl 21 rfl (fun h2 => ?_) (fun h2 => ?_)
        · replace hf := it_p h2 hf
          refine v_aload_n hX dX0_sitter_24 rfl 0 rfl 25 rfl ?_
          refine gf_1_8 hX q_53 dX0_sitter_25 28 rfl ?_
          refine v_iload_n hX dX0_sitter_28 rfl 1 rfl 29 rfl ?_
          refine v_iconst (v := (4 : Int32)) hX dX0_sitter_29 (by decide) 30 rfl ?_
          refine v_imul hX dX0_sitter_30 31 rfl ?_
          refine v_iload_n hX dX0_sitter_31 rfl 2 rfl 32 rfl ?_
          refine v_iadd hX dX0_sitter_32 33 rfl ?_
          obtain ⟨hi1, hf⟩ := gd_e hf
          refine al_8 hX hi1 dX0_sitter_33 ((g 8) ((p1 * (4 : Int32)) + p2).toNatClampNeg) rfl 34 rfl ?_
          exact hR _ hf _ _ dX0_sitter_34 rfl
        · replace hf := it_n h2 hf
          refine v_bipush (v := (-9 : Int32)) hX dX0_sitter_21 (by decide) 23 rfl ?_
          exact hR _ hf _ _ dX0_sitter_23 rfl
set_option maxRecDepth 100000 in
set_option maxHeartbeats 4000000 in
theorem c0_isPerson (r : Nat → Int32) (g : Nat → Nat → Int32) (u : Nat → Int64) (h : Nat → Nat → Int64) (p1 : Int32) {res : Int32} (hf : f0_isPerson (r 0) p1 = some res) : MAi yX0_isPerson cX0_isPerson 2 (some .boolean) 0 (fun a => [.ref (a 1), .int p1]) r g u h res r g u h := by
  refine mi_i (by decide +kernel) (fun a => Nat.le_of_ble_eq_true rfl) (fun X hX hn hR => ?_)
  replace hR : ∀ q : Int32, some q = some res → ∀ lv pc, decode cX0_isPerson pc = .ok (.ireturn, 1) → narrow .boolean (.int q) = .int q → VC X r g u h lv [.int q] pc := fun q hq => by cases hq; exact hR
  replace hX : CX X RX0 cX0_isPerson 0 := hX
  show VC X r g u h [(0, .ref (aX X 1)), (1, .int p1)] [] 0
  rw [f0_isPerson] at hf
  refine v_iload_n hX dX0_isPerson_0 rfl 1 rfl 1 rfl ?_
  refine v_if_lt hX dX0_isPerson_1 16 rfl 4 rfl (fun h2 => ?_) (fun h2 => ?_)
  · replace hf := it_p h2 hf
    refine v_iconst (v := (0 : Int32)) hX dX0_isPerson_16 (by decide) 17 rfl ?_
    exact hR _ hf _ _ dX0_isPerson_17 (bz_nar (v := (0 : Int32)) (by decide))
  · replace hf := it_n h2 hf
    refine v_iload_n hX dX0_isPerson_4 rfl 1 rfl 5 rfl ?_
    refine v_aload_n hX dX0_isPerson_5 rfl 0 rfl 6 rfl ?_
    refine gf_1_2 hX q_404 dX0_isPerson_6 ((r 0)) rfl 9 rfl ?_
    refine v_icmp_ge hX dX0_isPerson_9 16 rfl 12 rfl (fun h1 => ?_) (fun h1 => ?_)
    · replace hf := it_p h1 hf
      refine v_iconst (v := (0 : Int32)) hX dX0_isPerson_16 (by decide) 17 rfl ?_
      exact hR _ hf _ _ dX0_isPerson_17 (bz_nar (v := (0 : Int32)) (by decide))
    · replace hf := it_n h1 hf
      refine v_iconst (v := (1 : Int32)) hX dX0_isPerson_12 (by decide) 13 rfl ?_
      refine v_goto hX dX0_isPerson_13 17 rfl ?_
      exact hR _ hf _ _ dX0_isPerson_17 (bz_nar (v := (1 : Int32)) (by decide))
set_option maxRecDepth 100000 in
set_option maxHeartbeats 4000000 in
theorem c0_oneAt (r : Nat → Int32) (g : Nat → Nat → Int32) (u : Nat → Int64) (h : Nat → Nat → Int64) (p1 : Int32) (p2 : Int32) {res : Int32} (hf : f0_oneAt (r 1) (r 0) (g 6) (g 8) p1 p2 = some res) : MAi yX0_oneAt cX0_oneAt 4 (some .int) 1 (fun a => [.ref (a 1), .int p1, .int p2]) r g u h res r g u h := by
  refine mi_i (by decide +kernel) (fun a => Nat.le_of_ble_eq_true rfl) (fun X hX hn hR => ?_)
  replace hR : ∀ q : Int32, some q = some res → ∀ lv pc, decode cX0_oneAt pc = .ok (.ireturn, 1) → narrow .int (.int q) = .int q → VC X r g u h lv [.int q] pc := fun q hq => by cases hq; exact hR
  replace hX : CX X RX0 cX0_oneAt 1 := hX
  show VC X r g u h [(0, .ref (aX X 1)), (1, .int p1), (2, .int p2)] [] 0
  rw [f0_oneAt] at hf
  refine v_aload_n hX dX0_oneAt_0 rfl 0 rfl 1 rfl ?_
  refine v_iload_n hX dX0_oneAt_1 rfl 1 rfl 2 rfl ?_
  refine v_iload_n hX dX0_oneAt_2 rfl 2 rfl 3 rfl ?_
  obtain ⟨v1, hv1, hf⟩ := bn1_e hf
  refine cv_i hX (c0_sitter r g u h _ _ hv1) wvX0_sitter q_441 rc_1 (Nat.le_of_ble_eq_true rfl) (Nat.le_of_ble_eq_true rfl) (fun _ => rfl) [] rfl (Nat.le_of_ble_eq_true rfl) dX0_oneAt_3 6 rfl ?_
  refine v_istore_n hX dX0_oneAt_6 rfl (ltn hn (by decide)) 7 rfl [(3, .int v1), (0, .ref (aX X 1)), (1, .int p1), (2, .int p2)] rfl ?_
  refine v_aload_n hX dX0_oneAt_7 rfl 1 rfl 8 rfl ?_
  refine v_iload_n hX dX0_oneAt_8 rfl 0 rfl 9 rfl ?_
  obtain ⟨v2, hv2, hf⟩ := bn1_e hf
  refine cv_i hX (c0_isPerson r g u h _ hv2) wvX0_isPerson q_445 rc_1 (Nat.le_of_ble_eq_true rfl) (Nat.le_of_ble_eq_true rfl) (fun _ => rfl) [] rfl (Nat.le_of_ble_eq_true rfl) dX0_oneAt_9 12 rfl ?_
  refine v_if_eq hX dX0_oneAt_12 24 rfl 15 rfl (fun h4 => ?_) (fun h4 => ?_)
  · replace hf := it_p h4 hf
    refine v_bipush (v := (-9 : Int32)) hX dX0_oneAt_24 (by decide) 26 rfl ?_
    exact hR _ hf _ _ dX0_oneAt_26 rfl
  · replace hf := it_n h4 hf
    refine v_aload_n hX dX0_oneAt_15 rfl 1 rfl 16 rfl ?_
    refine gf_1_5 hX q_51 dX0_oneAt_16 19 rfl ?_
    refine v_iload_n hX dX0_oneAt_19 rfl 0 rfl 20 rfl ?_
    obtain ⟨hi3, hf⟩ := gd_e hf
    refine al_6 hX hi3 dX0_oneAt_20 ((g 6) v1.toNatClampNeg) rfl 21 rfl ?_
    refine v_goto hX dX0_oneAt_21 26 rfl ?_
    exact hR _ hf _ _ dX0_oneAt_26 rfl
set_option maxRecDepth 100000 in
set_option maxHeartbeats 4000000 in
theorem c0_isHub (r : Nat → Int32) (g : Nat → Nat → Int32) (u : Nat → Int64) (h : Nat → Nat → Int64) (p1 : Int32) {res : Int32} (hf : f0_isHub (r 0) (g 5) (g 6) p1 = some res) : MAi yX0_isHub cX0_isHub 3 (some .boolean) 0 (fun a => [.ref (a 1), .int p1]) r g u h res r g u h := by
  refine mi_i (by decide +kernel) (fun a => Nat.le_of_ble_eq_true rfl) (fun X hX hn hR => ?_)
  replace hR : ∀ q : Int32, some q = some res → ∀ lv pc, decode cX0_isHub pc = .ok (.ireturn, 1) → narrow .boolean (.int q) = .int q → VC X r g u h lv [.int q] pc := fun q hq => by cases hq; exact hR
  replace hX : CX X RX0 cX0_isHub 0 := hX
  show VC X r g u h [(0, .ref (aX X 1)), (1, .int p1)] [] 0
  rw [f0_isHub] at hf
  refine v_iconst (v := (0 : Int32)) hX dX0_isHub_0 (by decide) 1 rfl ?_
  refine v_istore_n hX dX0_isHub_1 rfl (ltn hn (by decide)) 2 rfl [(2, .int (0 : Int32)), (0, .ref (aX X 1)), (1, .int p1)] rfl ?_
  obtain ⟨K2, hK2, hf⟩ := jn_x hf
  have HK2 : ∀ (x1 : Int32), K2 x1 = some res → VC X r g u h [] [] 37 := by
    intro x1 hf
    rw [hK2] at hf
    refine v_iconst (v := (0 : Int32)) hX dX0_isHub_37 (by decide) 38 rfl ?_
    exact hR _ hf _ _ dX0_isHub_38 (bz_nar (v := (0 : Int32)) (by decide))
  have HLK2 : ∀ (n3 : Nat) (x1 : Int32), f0_isHub_L2 (r 0) (g 5) (g 6) p1 n3 x1 K2 = some res → VC X r g u h [(0, .ref (aX X 1)), (1, .int p1), (2, .int x1)] [] 2 := by
    intro n3
    induction n3 with
    | zero => intro x1 hf; exact no_s hf
    | succ n3 ih =>
      intro x1 hf
      rw [f0_isHub_L2] at hf
      refine v_iload_n hX dX0_isHub_2 rfl 2 rfl 3 rfl ?_
      refine v_aload_n hX dX0_isHub_3 rfl 0 rfl 4 rfl ?_
      refine gf_1_2 hX q_404 dX0_isHub_4 ((r 0)) rfl 7 rfl ?_
      refine v_icmp_ge hX dX0_isHub_7 37 rfl 10 rfl (fun h9 => ?_) (fun h9 => ?_)
      · replace hf := it_p h9 hf
        refine v_sub [] sbn ?_
        exact HK2 _ hf
      · replace hf := it_n h9 hf
        refine v_aload_n hX dX0_isHub_10 rfl 0 rfl 11 rfl ?_
        refine gf_1_5 hX q_51 dX0_isHub_11 14 rfl ?_
        refine v_iload_n hX dX0_isHub_14 rfl 2 rfl 15 rfl ?_
        obtain ⟨hi4, hf⟩ := gd_e hf
        refine al_6 hX hi4 dX0_isHub_15 ((g 6) x1.toNatClampNeg) rfl 16 rfl ?_
        refine v_iload_n hX dX0_isHub_16 rfl 1 rfl 17 rfl ?_
        obtain ⟨J5, hJ5, hf⟩ := jn_x hf
        have HJ5 : J5 = some res → VC X r g u h [(0, .ref (aX X 1)), (1, .int p1), (2, .int x1)] [] 31 := by
          intro hf
          rw [hJ5] at hf
          refine v_inc (c := (1 : Int32)) hX dX0_isHub_31 2 rfl (by decide) (ltn hn (by decide)) 34 rfl [(2, .int (x1 + (1 : Int32))), (0, .ref (aX X 1)), (1, .int p1)] rfl ?_
          refine v_goto hX dX0_isHub_34 2 rfl ?_
          refine v_sub [(0, .ref (aX X 1)), (1, .int p1), (2, .int (x1 + (1 : Int32)))] (sbc 1 rfl (sbc 2 rfl (sbc 0 rfl sbn))) ?_
          exact ih _ hf
        refine v_icmp_ne hX dX0_isHub_17 31 rfl 20 rfl (fun h8 => ?_) (fun h8 => ?_)
        · replace hf := it_n h8 hf
          exact HJ5  hf
        · replace hf := it_p h8 hf
          refine v_aload_n hX dX0_isHub_20 rfl 0 rfl 21 rfl ?_
          refine gf_1_4 hX q_50 dX0_isHub_21 24 rfl ?_
          refine v_iload_n hX dX0_isHub_24 rfl 2 rfl 25 rfl ?_
          obtain ⟨hi6, hf⟩ := gd_e hf
          refine al_5 hX hi6 dX0_isHub_25 ((g 5) x1.toNatClampNeg) rfl 26 rfl ?_
          refine v_if_eq hX dX0_isHub_26 31 rfl 29 rfl (fun h7 => ?_) (fun h7 => ?_)
          · replace hf := it_p h7 hf
            exact HJ5  hf
          · replace hf := it_n h7 hf
            refine v_iconst (v := (1 : Int32)) hX dX0_isHub_29 (by decide) 30 rfl ?_
            exact hR _ hf _ _ dX0_isHub_30 (bz_nar (v := (1 : Int32)) (by decide))
  refine v_sub [(0, .ref (aX X 1)), (1, .int p1), (2, .int (0 : Int32))] (sbc 1 rfl (sbc 2 rfl (sbc 0 rfl sbn))) ?_
  exact HLK2 _ _ hf
set_option maxRecDepth 100000 in
set_option maxHeartbeats 4000000 in
theorem c0_law (r : Nat → Int32) (g : Nat → Nat → Int32) (u : Nat → Int64) (h : Nat → Nat → Int64) (p1 : Int32) {res : Int32} (hf : f0_law (g 3) p1 = some res) : MAi yX0_law cX0_law 2 (some .int) 0 (fun a => [.ref (a 1), .int p1]) r g u h res r g u h := by
  refine mi_i (by decide +kernel) (fun a => Nat.le_of_ble_eq_true rfl) (fun X hX hn hR => ?_)
  replace hR : ∀ q : Int32, some q = some res → ∀ lv pc, decode cX0_law pc = .ok (.ireturn, 1) → narrow .int (.int q) = .int q → VC X r g u h lv [.int q] pc := fun q hq => by cases hq; exact hR
  replace hX : CX X RX0 cX0_law 0 := hX
  show VC X r g u h [(0, .ref (aX X 1)), (1, .int p1)] [] 0
  rw [f0_law] at hf
  refine v_iload_n hX dX0_law_0 rfl 1 rfl 1 rfl ?_
  refine v_if_lt hX dX0_law_1 19 rfl 4 rfl (fun h3 => ?_) (fun h3 => ?_)
  · replace hf := it_p h3 hf
    refine v_iconst (v := (0 : Int32)) hX dX0_law_19 (by decide) 20 rfl ?_
    exact hR _ hf _ _ dX0_law_20 rfl
  · replace hf := it_n h3 hf
    refine v_iload_n hX dX0_law_4 rfl 1 rfl 5 rfl ?_
    refine v_bipush (v := (7 : Int32)) hX dX0_law_5 (by decide) 7 rfl ?_
    refine v_icmp_ge hX dX0_law_7 19 rfl 10 rfl (fun h2 => ?_) (fun h2 => ?_)
    · replace hf := it_p h2 hf
      refine v_iconst (v := (0 : Int32)) hX dX0_law_19 (by decide) 20 rfl ?_
      exact hR _ hf _ _ dX0_law_20 rfl
    · replace hf := it_n h2 hf
      refine v_aload_n hX dX0_law_10 rfl 0 rfl 11 rfl ?_
      refine gf_1_1 hX q_47 dX0_law_11 14 rfl ?_
      refine v_iload_n hX dX0_law_14 rfl 1 rfl 15 rfl ?_
      obtain ⟨hi1, hf⟩ := gd_e hf
      refine al_3 hX hi1 dX0_law_15 ((g 3) p1.toNatClampNeg) rfl 16 rfl ?_
      refine v_goto hX dX0_law_16 20 rfl ?_
      exact hR _ hf _ _ dX0_law_20 rfl
set_option maxRecDepth 100000 in
set_option maxHeartbeats 4000000 in
theorem c0_seated (r : Nat → Int32) (g : Nat → Nat → Int32) (u : Nat → Int64) (h : Nat → Nat → Int64) (p1 : Int32) {res : Int32} (hf : f0_seated (r 1) (g 8) p1 = some res) : MAi yX0_seated cX0_seated 4 (some .int) 1 (fun a => [.ref (a 1), .int p1]) r g u h res r g u h := by
  refine mi_i (by decide +kernel) (fun a => Nat.le_of_ble_eq_true rfl) (fun X hX hn hR => ?_)
  replace hR : ∀ q : Int32, some q = some res → ∀ lv pc, decode cX0_seated pc = .ok (.ireturn, 1) → narrow .int (.int q) = .int q → VC X r g u h lv [.int q] pc := fun q hq => by cases hq; exact hR
  replace hX : CX X RX0 cX0_seated 1 := hX
  show VC X r g u h [(0, .ref (aX X 1)), (1, .int p1)] [] 0
  rw [f0_seated] at hf
  refine v_iconst (v := (0 : Int32)) hX dX0_seated_0 (by decide) 1 rfl ?_
  refine v_istore_n hX dX0_seated_1 rfl (ltn hn (by decide)) 2 rfl [(2, .int (0 : Int32)), (0, .ref (aX X 1)), (1, .int p1)] rfl ?_
  refine v_iconst (v := (0 : Int32)) hX dX0_seated_2 (by decide) 3 rfl ?_
  refine v_istore_n hX dX0_seated_3 rfl (ltn hn (by decide)) 4 rfl [(3, .int (0 : Int32)), (2, .int (0 : Int32)), (0, .ref (aX X 1)), (1, .int p1)] rfl ?_
  obtain ⟨K3, hK3, hf⟩ := jn_x hf
  have HK3 : ∀ (x1 : Int32) (x2 : Int32), K3 x1 x2 = some res → VC X r g u h [(2, .int x1)] [] 29 := by
    intro x1 x2 hf
    rw [hK3] at hf
    refine v_iload_n hX dX0_seated_29 rfl 0 rfl 30 rfl ?_
    exact hR _ hf _ _ dX0_seated_30 rfl
  have HLK3 : ∀ (n4 : Nat) (x1 : Int32) (x2 : Int32), f0_seated_L4 (r 1) (g 8) p1 n4 x1 x2 K3 = some res → VC X r g u h [(0, .ref (aX X 1)), (1, .int p1), (2, .int x1), (3, .int x2)] [] 4 := by
    intro n4
    induction n4 with
    | zero => intro x1 x2 hf; exact no_s hf
    | succ n4 ih =>
      intro x1 x2 hf
      rw [f0_seated_L4] at hf
      refine v_iload_n hX dX0_seated_4 rfl 3 rfl 5 rfl ?_
      refine v_iconst (v := (4 : Int32)) hX dX0_seated_5 (by decide) 6 rfl ?_
      refine v_icmp_ge hX dX0_seated_6 29 rfl 9 rfl (fun h9 => ?_) (fun h9 => ?_)
      · replace hf := it_p h9 hf
        refine v_sub [(2, .int x1)] (sbc 2 rfl sbn) ?_
        exact HK3 _ _ hf
      · replace hf := it_n h9 hf
        refine v_aload_n hX dX0_seated_9 rfl 0 rfl 10 rfl ?_
        refine v_iload_n hX dX0_seated_10 rfl 1 rfl 11 rfl ?_
        refine v_iload_n hX dX0_seated_11 rfl 3 rfl 12 rfl ?_
        obtain ⟨v5, hv5, hf⟩ := bn1_e hf
        refine cv_i hX (c0_sitter r g u h _ _ hv5) wvX0_sitter q_441 rc_1 (Nat.le_of_ble_eq_true rfl) (Nat.le_of_ble_eq_true rfl) (fun _ => rfl) [] rfl (Nat.le_of_ble_eq_true rfl) dX0_seated_12 15 rfl ?_
        refine v_bipush (v := (-9 : Int32)) hX dX0_seated_15 (by decide) 17 rfl ?_
        obtain ⟨J6, hJ6, hf⟩ := jn_x hf
        have HJ6 : ∀ (y7 : Int32), J6 y7 = some res → VC X r g u h [(0, .ref (aX X 1)), (1, .int p1), (2, .int y7), (3, .int x2)] [] 23 := by
          intro y7 hf
          rw [hJ6] at hf
          refine v_inc (c := (1 : Int32)) hX dX0_seated_23 3 rfl (by decide) (ltn hn (by decide)) 26 rfl [(3, .int (x2 + (1 : Int32))), (0, .ref (aX X 1)), (1, .int p1), (2, .int y7)] rfl ?_
          refine v_goto hX dX0_seated_26 4 rfl ?_
          refine v_sub [(0, .ref (aX X 1)), (1, .int p1), (2, .int y7), (3, .int (x2 + (1 : Int32)))] (sbc 1 rfl (sbc 2 rfl (sbc 3 rfl (sbc 0 rfl sbn)))) ?_
          exact ih _ _ hf
        refine v_icmp_eq hX dX0_seated_17 23 rfl 20 rfl (fun h8 => ?_) (fun h8 => ?_)
        · replace hf := it_p h8 hf
          exact HJ6 _ hf
        · replace hf := it_n h8 hf
          refine v_inc (c := (1 : Int32)) hX dX0_seated_20 2 rfl (by decide) (ltn hn (by decide)) 23 rfl [(2, .int (x1 + (1 : Int32))), (0, .ref (aX X 1)), (1, .int p1), (3, .int x2)] rfl ?_
          refine v_sub [(0, .ref (aX X 1)), (1, .int p1), (2, .int (x1 + (1 : Int32))), (3, .int x2)] (sbc 1 rfl (sbc 2 rfl (sbc 0 rfl (sbc 3 rfl sbn)))) ?_
          exact HJ6 _ hf
  refine v_sub [(0, .ref (aX X 1)), (1, .int p1), (2, .int (0 : Int32)), (3, .int (0 : Int32))] (sbc 2 rfl (sbc 3 rfl (sbc 1 rfl (sbc 0 rfl sbn)))) ?_
  exact HLK3 _ _ _ hf
set_option maxRecDepth 100000 in
set_option maxHeartbeats 4000000 in
theorem c0_allClaims (r : Nat → Int32) (g : Nat → Nat → Int32) (u : Nat → Int64) (h : Nat → Nat → Int64)  {res : Int32} (hf : f0_allClaims (r 1) = some res) : MAi yX0_allClaims cX0_allClaims 1 (some .int) 0 (fun a => [.ref (a 1)]) r g u h res r g u h := by
  refine mi_i (by decide +kernel) (fun a => Nat.le_of_ble_eq_true rfl) (fun X hX hn hR => ?_)
  replace hR : ∀ q : Int32, some q = some res → ∀ lv pc, decode cX0_allClaims pc = .ok (.ireturn, 1) → narrow .int (.int q) = .int q → VC X r g u h lv [.int q] pc := fun q hq => by cases hq; exact hR
  replace hX : CX X RX0 cX0_allClaims 0 := hX
  show VC X r g u h [(0, .ref (aX X 1))] [] 0
  rw [f0_allClaims] at hf
  refine v_iconst (v := (1 : Int32)) hX dX0_allClaims_0 (by decide) 1 rfl ?_
  refine v_aload_n hX dX0_allClaims_1 rfl 0 rfl 2 rfl ?_
  refine gf_1_6 hX q_428 dX0_allClaims_2 ((r 1)) rfl 5 rfl ?_
  refine v_ishl hX dX0_allClaims_5 6 rfl ?_
  refine v_iconst (v := (1 : Int32)) hX dX0_allClaims_6 (by decide) 7 rfl ?_
  refine v_isub hX dX0_allClaims_7 8 rfl ?_
  exact hR _ hf _ _ dX0_allClaims_8 rfl
set_option maxRecDepth 100000 in
set_option maxHeartbeats 4000000 in
theorem c0_addClaim (r : Nat → Int32) (g : Nat → Nat → Int32) (u : Nat → Int64) (h : Nat → Nat → Int64) (p1 : Int32) (p2 : Int32) (p3 : Int32) (p4 : Int32) (p5 : Int32) {res : Int32 × Int32 × (Nat → Int32) × (Nat → Int32) × (Nat → Int32) × (Nat → Int32)} (hf : f0_addClaim (r 1) (g 10) (g 7) (g 9) (g 8) p1 p2 p3 p4 p5 = some res) : MAi yX0_addClaim cX0_addClaim 8 (some .int) 0 (fun a => [.ref (a 1), .int p1, .int p2, .int p3, .int p4, .int p5]) r g u h res.1 (lkp r [(1, res.2.1)]) (lkp g [(10, res.2.2.1), (7, res.2.2.2.1), (9, res.2.2.2.2.1), (8, res.2.2.2.2.2)]) u h := by
  refine mi_i (by decide +kernel) (fun a => Nat.le_of_ble_eq_true rfl) (fun X hX hn hR => ?_)
  replace hR : ∀ q : Int32 × Int32 × (Nat → Int32) × (Nat → Int32) × (Nat → Int32) × (Nat → Int32), some q = some res → ∀ lv pc, decode cX0_addClaim pc = .ok (.ireturn, 1) → narrow .int (.int q.1) = .int q.1 → VC X (lkp r [(1, q.2.1)]) (lkp g [(10, q.2.2.1), (7, q.2.2.2.1), (9, q.2.2.2.2.1), (8, q.2.2.2.2.2)]) u h lv [.int q.1] pc := fun q hq => by cases hq; exact hR
  replace hX : CX X RX0 cX0_addClaim 0 := hX
  refine v_opr [1] [(1, r 1)] rfl ?_
  refine v_opg [10, 7, 9, 8] [(10, g 10), (7, g 7), (9, g 9), (8, g 8)] rfl ?_
  show VC X (lkp r [(1, r 1)]) (lkp g [(10, g 10), (7, g 7), (9, g 9), (8, g 8)]) u h [(0, .ref (aX X 1)), (1, .int p1), (2, .int p2), (3, .int p3), (4, .int p4), (5, .int p5)] [] 0
  rw [f0_addClaim] at hf
  refine v_aload_n hX dX0_addClaim_0 rfl 0 rfl 1 rfl ?_
  refine gf_1_6 hX q_428 dX0_addClaim_1 ((r 1)) rfl 4 rfl ?_
  refine v_bipush (v := (9 : Int32)) hX dX0_addClaim_4 (by decide) 6 rfl ?_
  refine v_icmp_lt hX dX0_addClaim_6 12 rfl 9 rfl (fun h14 => ?_) (fun h14 => ?_)
  · replace hf := it_p h14 hf
    refine v_aload_n hX dX0_addClaim_12 rfl 0 rfl 13 rfl ?_
    refine gf_1_6 hX q_428 dX0_addClaim_13 ((r 1)) rfl 16 rfl ?_
    refine v_iconst (v := (5 : Int32)) hX dX0_addClaim_16 (by decide) 17 rfl ?_
    refine v_imul hX dX0_addClaim_17 18 rfl ?_
    refine v_istore hX dX0_addClaim_18 (ltn hn (by decide)) 20 rfl [(6, .int ((r 1) * (5 : Int32))), (0, .ref (aX X 1)), (1, .int p1), (2, .int p2), (3, .int p3), (4, .int p4), (5, .int p5)] rfl ?_
    refine v_aload_n hX dX0_addClaim_20 rfl 1 rfl 21 rfl ?_
    refine gf_1_7 hX q_52 dX0_addClaim_21 24 rfl ?_
    refine v_iload hX dX0_addClaim_24 0 rfl 26 rfl ?_
    refine v_iconst (v := (0 : Int32)) hX dX0_addClaim_26 (by decide) 27 rfl ?_
    refine v_iadd hX dX0_addClaim_27 28 rfl ?_
    refine v_iload_n hX dX0_addClaim_28 rfl 2 rfl 29 rfl ?_
    obtain ⟨hi1, hf⟩ := gd_e hf
    refine as_7 hX hi1 dX0_addClaim_29 30 rfl (g 7) rfl [(10, (g 10)), (7, (upd (g 7) (((r 1) * (5 : Int32)) + (0 : Int32)).toNatClampNeg p1)), (9, (g 9)), (8, (g 8))] rfl ?_
    refine v_aload_n hX dX0_addClaim_30 rfl 1 rfl 31 rfl ?_
    refine gf_1_7 hX q_52 dX0_addClaim_31 34 rfl ?_
    refine v_iload hX dX0_addClaim_34 0 rfl 36 rfl ?_
    refine v_iconst (v := (1 : Int32)) hX dX0_addClaim_36 (by decide) 37 rfl ?_
    refine v_iadd hX dX0_addClaim_37 38 rfl ?_
    refine v_iload_n hX dX0_addClaim_38 rfl 3 rfl 39 rfl ?_
    obtain ⟨hi2, hf⟩ := gd_e hf
    refine as_7 hX hi2 dX0_addClaim_39 40 rfl (upd (g 7) (((r 1) * (5 : Int32)) + (0 : Int32)).toNatClampNeg p1) rfl [(10, (g 10)), (7, (upd (upd (g 7) (((r 1) * (5 : Int32)) + (0 : Int32)).toNatClampNeg p1) (((r 1) * (5 : Int32)) + (1 : Int32)).toNatClampNeg p2)), (9, (g 9)), (8, (g 8))] rfl ?_
    refine v_aload_n hX dX0_addClaim_40 rfl 1 rfl 41 rfl ?_
    refine gf_1_7 hX q_52 dX0_addClaim_41 44 rfl ?_
    refine v_iload hX dX0_addClaim_44 0 rfl 46 rfl ?_
    refine v_iconst (v := (2 : Int32)) hX dX0_addClaim_46 (by decide) 47 rfl ?_
    refine v_iadd hX dX0_addClaim_47 48 rfl ?_
    refine v_iload_n hX dX0_addClaim_48 rfl 4 rfl 49 rfl ?_
    obtain ⟨hi3, hf⟩ := gd_e hf
    refine as_7 hX hi3 dX0_addClaim_49 50 rfl (upd (upd (g 7) (((r 1) * (5 : Int32)) + (0 : Int32)).toNatClampNeg p1) (((r 1) * (5 : Int32)) + (1 : Int32)).toNatClampNeg p2) rfl [(10, (g 10)), (7, (upd (upd (upd (g 7) (((r 1) * (5 : Int32)) + (0 : Int32)).toNatClampNeg p1) (((r 1) * (5 : Int32)) + (1 : Int32)).toNatClampNeg p2) (((r 1) * (5 : Int32)) + (2 : Int32)).toNatClampNeg p3)), (9, (g 9)), (8, (g 8))] rfl ?_
    refine v_aload_n hX dX0_addClaim_50 rfl 1 rfl 51 rfl ?_
    refine gf_1_7 hX q_52 dX0_addClaim_51 54 rfl ?_
    refine v_iload hX dX0_addClaim_54 0 rfl 56 rfl ?_
    refine v_iconst (v := (3 : Int32)) hX dX0_addClaim_56 (by decide) 57 rfl ?_
    refine v_iadd hX dX0_addClaim_57 58 rfl ?_
    refine v_iload hX dX0_addClaim_58 5 rfl 60 rfl ?_
    obtain ⟨hi4, hf⟩ := gd_e hf
    refine as_7 hX hi4 dX0_addClaim_60 61 rfl (upd (upd (upd (g 7) (((r 1) * (5 : Int32)) + (0 : Int32)).toNatClampNeg p1) (((r 1) * (5 : Int32)) + (1 : Int32)).toNatClampNeg p2) (((r 1) * (5 : Int32)) + (2 : Int32)).toNatClampNeg p3) rfl [(10, (g 10)), (7, (upd (upd (upd (upd (g 7) (((r 1) * (5 : Int32)) + (0 : Int32)).toNatClampNeg p1) (((r 1) * (5 : Int32)) + (1 : Int32)).toNatClampNeg p2) (((r 1) * (5 : Int32)) + (2 : Int32)).toNatClampNeg p3) (((r 1) * (5 : Int32)) + (3 : Int32)).toNatClampNeg p4)), (9, (g 9)), (8, (g 8))] rfl ?_
    refine v_aload_n hX dX0_addClaim_61 rfl 1 rfl 62 rfl ?_
    refine gf_1_7 hX q_52 dX0_addClaim_62 65 rfl ?_
    refine v_iload hX dX0_addClaim_65 0 rfl 67 rfl ?_
    refine v_iconst (v := (4 : Int32)) hX dX0_addClaim_67 (by decide) 68 rfl ?_
    refine v_iadd hX dX0_addClaim_68 69 rfl ?_
    refine v_iload hX dX0_addClaim_69 6 rfl 71 rfl ?_
    obtain ⟨hi5, hf⟩ := gd_e hf
    refine as_7 hX hi5 dX0_addClaim_71 72 rfl (upd (upd (upd (upd (g 7) (((r 1) * (5 : Int32)) + (0 : Int32)).toNatClampNeg p1) (((r 1) * (5 : Int32)) + (1 : Int32)).toNatClampNeg p2) (((r 1) * (5 : Int32)) + (2 : Int32)).toNatClampNeg p3) (((r 1) * (5 : Int32)) + (3 : Int32)).toNatClampNeg p4) rfl [(10, (g 10)), (7, (upd (upd (upd (upd (upd (g 7) (((r 1) * (5 : Int32)) + (0 : Int32)).toNatClampNeg p1) (((r 1) * (5 : Int32)) + (1 : Int32)).toNatClampNeg p2) (((r 1) * (5 : Int32)) + (2 : Int32)).toNatClampNeg p3) (((r 1) * (5 : Int32)) + (3 : Int32)).toNatClampNeg p4) (((r 1) * (5 : Int32)) + (4 : Int32)).toNatClampNeg p5)), (9, (g 9)), (8, (g 8))] rfl ?_
    refine v_iconst (v := (0 : Int32)) hX dX0_addClaim_72 (by decide) 73 rfl ?_
    refine v_istore hX dX0_addClaim_73 (ltn hn (by decide)) 75 rfl [(7, .int (0 : Int32)), (6, .int ((r 1) * (5 : Int32))), (0, .ref (aX X 1)), (1, .int p1), (2, .int p2), (3, .int p3), (4, .int p4), (5, .int p5)] rfl ?_
    obtain ⟨K8, hK8, hf⟩ := jn_x hf
    have HK8 : ∀ (x6 : Int32) (c7 : (Nat → Int32)), K8 x6 c7 = some res → VC X (lkp r [(1, (r 1))]) (lkp g [(10, (g 10)), (7, (upd (upd (upd (upd (upd (g 7) (((r 1) * (5 : Int32)) + (0 : Int32)).toNatClampNeg p1) (((r 1) * (5 : Int32)) + (1 : Int32)).toNatClampNeg p2) (((r 1) * (5 : Int32)) + (2 : Int32)).toNatClampNeg p3) (((r 1) * (5 : Int32)) + (3 : Int32)).toNatClampNeg p4) (((r 1) * (5 : Int32)) + (4 : Int32)).toNatClampNeg p5)), (9, (g 9)), (8, c7)]) u h [(0, .ref (aX X 1))] [] 103 := by
      intro x6 c7 hf
      rw [hK8] at hf
      refine v_aload_n hX dX0_addClaim_103 rfl 0 rfl 104 rfl ?_
      refine gf_1_9 hX q_54 dX0_addClaim_104 107 rfl ?_
      refine v_aload_n hX dX0_addClaim_107 rfl 0 rfl 108 rfl ?_
      refine gf_1_6 hX q_428 dX0_addClaim_108 ((r 1)) rfl 111 rfl ?_
      refine v_bipush (v := (-9 : Int32)) hX dX0_addClaim_111 (by decide) 113 rfl ?_
      obtain ⟨hi12, hf⟩ := gd_e hf
      refine as_9 hX hi12 dX0_addClaim_113 114 rfl (g 9) rfl [(10, (g 10)), (7, (upd (upd (upd (upd (upd (g 7) (((r 1) * (5 : Int32)) + (0 : Int32)).toNatClampNeg p1) (((r 1) * (5 : Int32)) + (1 : Int32)).toNatClampNeg p2) (((r 1) * (5 : Int32)) + (2 : Int32)).toNatClampNeg p3) (((r 1) * (5 : Int32)) + (3 : Int32)).toNatClampNeg p4) (((r 1) * (5 : Int32)) + (4 : Int32)).toNatClampNeg p5)), (9, (upd (g 9) (r 1).toNatClampNeg (-9 : Int32))), (8, c7)] rfl ?_
      refine v_aload_n hX dX0_addClaim_114 rfl 0 rfl 115 rfl ?_
      refine gf_1_10 hX q_55 dX0_addClaim_115 118 rfl ?_
      refine v_aload_n hX dX0_addClaim_118 rfl 0 rfl 119 rfl ?_
      refine gf_1_6 hX q_428 dX0_addClaim_119 ((r 1)) rfl 122 rfl ?_
      refine v_iconst (v := (0 : Int32)) hX dX0_addClaim_122 (by decide) 123 rfl ?_
      obtain ⟨hi13, hf⟩ := gd_e hf
      refine as_10 hX hi13 dX0_addClaim_123 124 rfl (g 10) rfl [(10, (upd (g 10) (r 1).toNatClampNeg (vp_nar .boolean (0 : Int32)))), (7, (upd (upd (upd (upd (upd (g 7) (((r 1) * (5 : Int32)) + (0 : Int32)).toNatClampNeg p1) (((r 1) * (5 : Int32)) + (1 : Int32)).toNatClampNeg p2) (((r 1) * (5 : Int32)) + (2 : Int32)).toNatClampNeg p3) (((r 1) * (5 : Int32)) + (3 : Int32)).toNatClampNeg p4) (((r 1) * (5 : Int32)) + (4 : Int32)).toNatClampNeg p5)), (9, (upd (g 9) (r 1).toNatClampNeg (-9 : Int32))), (8, c7)] rfl ?_
      refine v_aload_n hX dX0_addClaim_124 rfl 0 rfl 125 rfl ?_
      refine v_dup hX dX0_addClaim_125 rfl 126 rfl ?_
      refine gf_1_6 hX q_428 dX0_addClaim_126 ((r 1)) rfl 129 rfl ?_
      refine v_dup_x1 hX dX0_addClaim_129 rfl rfl 130 rfl ?_
      refine v_iconst (v := (1 : Int32)) hX dX0_addClaim_130 (by decide) 131 rfl ?_
      refine v_iadd hX dX0_addClaim_131 132 rfl ?_
      refine pf_1_6 hX q_428 dX0_addClaim_132 135 rfl [(1, ((r 1) + (1 : Int32)))] rfl ?_
      exact hR _ hf _ _ dX0_addClaim_135 rfl
    have HLK8 : ∀ (n9 : Nat) (x6 : Int32) (c7 : (Nat → Int32)), f0_addClaim_L75 (r 1) n9 x6 c7 K8 = some res → VC X (lkp r [(1, (r 1))]) (lkp g [(10, (g 10)), (7, (upd (upd (upd (upd (upd (g 7) (((r 1) * (5 : Int32)) + (0 : Int32)).toNatClampNeg p1) (((r 1) * (5 : Int32)) + (1 : Int32)).toNatClampNeg p2) (((r 1) * (5 : Int32)) + (2 : Int32)).toNatClampNeg p3) (((r 1) * (5 : Int32)) + (3 : Int32)).toNatClampNeg p4) (((r 1) * (5 : Int32)) + (4 : Int32)).toNatClampNeg p5)), (9, (g 9)), (8, c7)]) u h [(0, .ref (aX X 1)), (7, .int x6)] [] 75 := by
      intro n9
      induction n9 with
      | zero => intro x6 c7 hf; exact no_s hf
      | succ n9 ih =>
        intro x6 c7 hf
        rw [f0_addClaim_L75] at hf
        refine v_iload hX dX0_addClaim_75 1 rfl 77 rfl ?_
        refine v_iconst (v := (4 : Int32)) hX dX0_addClaim_77 (by decide) 78 rfl ?_
        refine v_icmp_ge hX dX0_addClaim_78 103 rfl 81 rfl (fun h11 => ?_) (fun h11 => ?_)
        · replace hf := it_p h11 hf
          refine v_sub [(0, .ref (aX X 1))] (sbc 0 rfl sbn) ?_
          exact HK8 _ _ hf
        · replace hf := it_n h11 hf
          refine v_aload_n hX dX0_addClaim_81 rfl 0 rfl 82 rfl ?_
          refine gf_1_8 hX q_53 dX0_addClaim_82 85 rfl ?_
          refine v_aload_n hX dX0_addClaim_85 rfl 0 rfl 86 rfl ?_
          refine gf_1_6 hX q_428 dX0_addClaim_86 ((r 1)) rfl 89 rfl ?_
          refine v_iconst (v := (4 : Int32)) hX dX0_addClaim_89 (by decide) 90 rfl ?_
          refine v_imul hX dX0_addClaim_90 91 rfl ?_
          refine v_iload hX dX0_addClaim_91 1 rfl 93 rfl ?_
          refine v_iadd hX dX0_addClaim_93 94 rfl ?_
          refine v_bipush (v := (-9 : Int32)) hX dX0_addClaim_94 (by decide) 96 rfl ?_
          obtain ⟨hi10, hf⟩ := gd_e hf
          refine as_8 hX hi10 dX0_addClaim_96 97 rfl c7 rfl [(10, (g 10)), (7, (upd (upd (upd (upd (upd (g 7) (((r 1) * (5 : Int32)) + (0 : Int32)).toNatClampNeg p1) (((r 1) * (5 : Int32)) + (1 : Int32)).toNatClampNeg p2) (((r 1) * (5 : Int32)) + (2 : Int32)).toNatClampNeg p3) (((r 1) * (5 : Int32)) + (3 : Int32)).toNatClampNeg p4) (((r 1) * (5 : Int32)) + (4 : Int32)).toNatClampNeg p5)), (9, (g 9)), (8, (upd c7 (((r 1) * (4 : Int32)) + x6).toNatClampNeg (-9 : Int32)))] rfl ?_
          refine v_inc (c := (1 : Int32)) hX dX0_addClaim_97 1 rfl (by decide) (ltn hn (by decide)) 100 rfl [(7, .int (x6 + (1 : Int32))), (0, .ref (aX X 1))] rfl ?_
          refine v_goto hX dX0_addClaim_100 75 rfl ?_
          refine v_sub [(0, .ref (aX X 1)), (7, .int (x6 + (1 : Int32)))] (sbc 1 rfl (sbc 0 rfl sbn)) ?_
          exact ih _ _ hf
    refine v_sub [(0, .ref (aX X 1)), (7, .int (0 : Int32))] (sbc 2 rfl (sbc 0 rfl sbn)) ?_
    exact HLK8 _ _ _ hf
  · replace hf := it_n h14 hf
    refine v_bipush (v := (-2 : Int32)) hX dX0_addClaim_9 (by decide) 11 rfl ?_
    exact hR _ hf _ _ dX0_addClaim_11 rfl
set_option maxRecDepth 100000 in
set_option maxHeartbeats 4000000 in
theorem c0_countFound (r : Nat → Int32) (g : Nat → Nat → Int32) (u : Nat → Int64) (h : Nat → Nat → Int64)  {res : Int32} (hf : f0_countFound (r 1) (g 9) = some res) : MAi yX0_countFound cX0_countFound 3 (some .int) 0 (fun a => [.ref (a 1)]) r g u h res r g u h := by
  refine mi_i (by decide +kernel) (fun a => Nat.le_of_ble_eq_true rfl) (fun X hX hn hR => ?_)
  replace hR : ∀ q : Int32, some q = some res → ∀ lv pc, decode cX0_countFound pc = .ok (.ireturn, 1) → narrow .int (.int q) = .int q → VC X r g u h lv [.int q] pc := fun q hq => by cases hq; exact hR
  replace hX : CX X RX0 cX0_countFound 0 := hX
  show VC X r g u h [(0, .ref (aX X 1))] [] 0
  rw [f0_countFound] at hf
  refine v_iconst (v := (0 : Int32)) hX dX0_countFound_0 (by decide) 1 rfl ?_
  refine v_istore_n hX dX0_countFound_1 rfl (ltn hn (by decide)) 2 rfl [(1, .int (0 : Int32)), (0, .ref (aX X 1))] rfl ?_
  refine v_iconst (v := (0 : Int32)) hX dX0_countFound_2 (by decide) 3 rfl ?_
  refine v_istore_n hX dX0_countFound_3 rfl (ltn hn (by decide)) 4 rfl [(2, .int (0 : Int32)), (1, .int (0 : Int32)), (0, .ref (aX X 1))] rfl ?_
  obtain ⟨K3, hK3, hf⟩ := jn_x hf
  have HK3 : ∀ (x1 : Int32) (x2 : Int32), K3 x1 x2 = some res → VC X r g u h [(1, .int x1)] [] 32 := by
    intro x1 x2 hf
    rw [hK3] at hf
    refine v_iload_n hX dX0_countFound_32 rfl 0 rfl 33 rfl ?_
    exact hR _ hf _ _ dX0_countFound_33 rfl
  have HLK3 : ∀ (n4 : Nat) (x1 : Int32) (x2 : Int32), f0_countFound_L4 (r 1) (g 9) n4 x1 x2 K3 = some res → VC X r g u h [(0, .ref (aX X 1)), (1, .int x1), (2, .int x2)] [] 4 := by
    intro n4
    induction n4 with
    | zero => intro x1 x2 hf; exact no_s hf
    | succ n4 ih =>
      intro x1 x2 hf
      rw [f0_countFound_L4] at hf
      refine v_iload_n hX dX0_countFound_4 rfl 2 rfl 5 rfl ?_
      refine v_aload_n hX dX0_countFound_5 rfl 0 rfl 6 rfl ?_
      refine gf_1_6 hX q_428 dX0_countFound_6 ((r 1)) rfl 9 rfl ?_
      refine v_icmp_ge hX dX0_countFound_9 32 rfl 12 rfl (fun h9 => ?_) (fun h9 => ?_)
      · replace hf := it_p h9 hf
        refine v_sub [(1, .int x1)] (sbc 1 rfl sbn) ?_
        exact HK3 _ _ hf
      · replace hf := it_n h9 hf
        refine v_aload_n hX dX0_countFound_12 rfl 0 rfl 13 rfl ?_
        refine gf_1_9 hX q_54 dX0_countFound_13 16 rfl ?_
        refine v_iload_n hX dX0_countFound_16 rfl 2 rfl 17 rfl ?_
        obtain ⟨hi5, hf⟩ := gd_e hf
        refine al_9 hX hi5 dX0_countFound_17 ((g 9) x2.toNatClampNeg) rfl 18 rfl ?_
        refine v_bipush (v := (-9 : Int32)) hX dX0_countFound_18 (by decide) 20 rfl ?_
        obtain ⟨J6, hJ6, hf⟩ := jn_x hf
        have HJ6 : ∀ (y7 : Int32), J6 y7 = some res → VC X r g u h [(0, .ref (aX X 1)), (1, .int y7), (2, .int x2)] [] 26 := by
          intro y7 hf
          rw [hJ6] at hf
          refine v_inc (c := (1 : Int32)) hX dX0_countFound_26 2 rfl (by decide) (ltn hn (by decide)) 29 rfl [(2, .int (x2 + (1 : Int32))), (0, .ref (aX X 1)), (1, .int y7)] rfl ?_
          refine v_goto hX dX0_countFound_29 4 rfl ?_
          refine v_sub [(0, .ref (aX X 1)), (1, .int y7), (2, .int (x2 + (1 : Int32)))] (sbc 1 rfl (sbc 2 rfl (sbc 0 rfl sbn))) ?_
          exact ih _ _ hf
        refine v_icmp_eq hX dX0_countFound_20 26 rfl 23 rfl (fun h8 => ?_) (fun h8 => ?_)
        · replace hf := it_p h8 hf
          exact HJ6 _ hf
        · replace hf := it_n h8 hf
          refine v_inc (c := (1 : Int32)) hX dX0_countFound_23 1 rfl (by decide) (ltn hn (by decide)) 26 rfl [(1, .int (x1 + (1 : Int32))), (0, .ref (aX X 1)), (2, .int x2)] rfl ?_
          refine v_sub [(0, .ref (aX X 1)), (1, .int (x1 + (1 : Int32))), (2, .int x2)] (sbc 1 rfl (sbc 0 rfl (sbc 2 rfl sbn))) ?_
          exact HJ6 _ hf
  refine v_sub [(0, .ref (aX X 1)), (1, .int (0 : Int32)), (2, .int (0 : Int32))] (sbc 2 rfl (sbc 1 rfl (sbc 0 rfl sbn))) ?_
  exact HLK3 _ _ _ hf
set_option maxRecDepth 100000 in
set_option maxHeartbeats 4000000 in
theorem ctJ6_bitCount_0f7a4 (r : Nat → Int32) (g : Nat → Nat → Int32) (u : Nat → Int64) (h : Nat → Nat → Int64) (p0 : Int32) {res : Int32} (hf : fJ6_bitCount_0f7a4 p0 = some res) : MAi yJ6_bitCount_0f7a4 cJ6_bitCount_0f7a4 1 (some .int) 0 (fun a => [.int p0]) r g u h res r g u h := by
  refine mi_i (by decide +kernel) (fun a => Nat.le_of_ble_eq_true rfl) (fun X hX hn hR => ?_)
  replace hR : ∀ q : Int32, some q = some res → ∀ lv pc, decode cJ6_bitCount_0f7a4 pc = .ok (.ireturn, 1) → narrow .int (.int q) = .int q → VC X r g u h lv [.int q] pc := fun q hq => by cases hq; exact hR
  replace hX : CX X RJ6 cJ6_bitCount_0f7a4 0 := hX
  show VC X r g u h [(0, .int p0)] [] 0
  rw [fJ6_bitCount_0f7a4] at hf
  refine v_iload_n hX dJ6_bitCount_0f7a4_0 rfl 0 rfl 1 rfl ?_
  refine v_iload_n hX dJ6_bitCount_0f7a4_1 rfl 0 rfl 2 rfl ?_
  refine v_iconst (v := (1 : Int32)) hX dJ6_bitCount_0f7a4_2 (by decide) 3 rfl ?_
  refine v_iushr hX dJ6_bitCount_0f7a4_3 4 rfl ?_
  refine v_ldcw (v := (1431655765 : Int32)) hX q_718 dJ6_bitCount_0f7a4_4 7 rfl ?_
  refine v_iand hX dJ6_bitCount_0f7a4_7 8 rfl ?_
  refine v_isub hX dJ6_bitCount_0f7a4_8 9 rfl ?_
  refine v_istore_n hX dJ6_bitCount_0f7a4_9 rfl (ltn hn (by decide)) 10 rfl [(0, .int (p0 - ((p0.toUInt32 >>> ((1 : Int32).toUInt32 &&& Int32.toUInt32 31)).toInt32 &&& (1431655765 : Int32))))] rfl ?_
  refine v_iload_n hX dJ6_bitCount_0f7a4_10 rfl 0 rfl 11 rfl ?_
  refine v_ldcw (v := (858993459 : Int32)) hX q_719 dJ6_bitCount_0f7a4_11 14 rfl ?_
  refine v_iand hX dJ6_bitCount_0f7a4_14 15 rfl ?_
  refine v_iload_n hX dJ6_bitCount_0f7a4_15 rfl 0 rfl 16 rfl ?_
  refine v_iconst (v := (2 : Int32)) hX dJ6_bitCount_0f7a4_16 (by decide) 17 rfl ?_
  refine v_iushr hX dJ6_bitCount_0f7a4_17 18 rfl ?_
  refine v_ldcw (v := (858993459 : Int32)) hX q_719 dJ6_bitCount_0f7a4_18 21 rfl ?_
  refine v_iand hX dJ6_bitCount_0f7a4_21 22 rfl ?_
  refine v_iadd hX dJ6_bitCount_0f7a4_22 23 rfl ?_
  refine v_istore_n hX dJ6_bitCount_0f7a4_23 rfl (ltn hn (by decide)) 24 rfl [(0, .int (((p0 - ((p0.toUInt32 >>> ((1 : Int32).toUInt32 &&& Int32.toUInt32 31)).toInt32 &&& (1431655765 : Int32))) &&& (858993459 : Int32)) + (((p0 - ((p0.toUInt32 >>> ((1 : Int32).toUInt32 &&& Int32.toUInt32 31)).toInt32 &&& (1431655765 : Int32))).toUInt32 >>> ((2 : Int32).toUInt32 &&& Int32.toUInt32 31)).toInt32 &&& (858993459 : Int32))))] rfl ?_
  refine v_iload_n hX dJ6_bitCount_0f7a4_24 rfl 0 rfl 25 rfl ?_
  refine v_iload_n hX dJ6_bitCount_0f7a4_25 rfl 0 rfl 26 rfl ?_
  refine v_iconst (v := (4 : Int32)) hX dJ6_bitCount_0f7a4_26 (by decide) 27 rfl ?_
  refine v_iushr hX dJ6_bitCount_0f7a4_27 28 rfl ?_
  refine v_iadd hX dJ6_bitCount_0f7a4_28 29 rfl ?_
  refine v_ldcw (v := (252645135 : Int32)) hX q_720 dJ6_bitCount_0f7a4_29 32 rfl ?_
  refine v_iand hX dJ6_bitCount_0f7a4_32 33 rfl ?_
  refine v_istore_n hX dJ6_bitCount_0f7a4_33 rfl (ltn hn (by decide)) 34 rfl [(0, .int (((((p0 - ((p0.toUInt32 >>> ((1 : Int32).toUInt32 &&& Int32.toUInt32 31)).toInt32 &&& (1431655765 : Int32))) &&& (858993459 : Int32)) + (((p0 - ((p0.toUInt32 >>> ((1 : Int32).toUInt32 &&& Int32.toUInt32 31)).toInt32 &&& (1431655765 : Int32))).toUInt32 >>> ((2 : Int32).toUInt32 &&& Int32.toUInt32 31)).toInt32 &&& (858993459 : Int32))) + ((((p0 - ((p0.toUInt32 >>> ((1 : Int32).toUInt32 &&& Int32.toUInt32 31)).toInt32 &&& (1431655765 : Int32))) &&& (858993459 : Int32)) + (((p0 - ((p0.toUInt32 >>> ((1 : Int32).toUInt32 &&& Int32.toUInt32 31)).toInt32 &&& (1431655765 : Int32))).toUInt32 >>> ((2 : Int32).toUInt32 &&& Int32.toUInt32 31)).toInt32 &&& (858993459 : Int32))).toUInt32 >>> ((4 : Int32).toUInt32 &&& Int32.toUInt32 31)).toInt32) &&& (252645135 : Int32)))] rfl ?_
  refine v_iload_n hX dJ6_bitCount_0f7a4_34 rfl 0 rfl 35 rfl ?_
  refine v_iload_n hX dJ6_bitCount_0f7a4_35 rfl 0 rfl 36 rfl ?_
  refine v_bipush (v := (8 : Int32)) hX dJ6_bitCount_0f7a4_36 (by decide) 38 rfl ?_
  refine v_iushr hX dJ6_bitCount_0f7a4_38 39 rfl ?_
  refine v_iadd hX dJ6_bitCount_0f7a4_39 40 rfl ?_
  refine v_istore_n hX dJ6_bitCount_0f7a4_40 rfl (ltn hn (by decide)) 41 rfl [(0, .int ((((((p0 - ((p0.toUInt32 >>> ((1 : Int32).toUInt32 &&& Int32.toUInt32 31)).toInt32 &&& (1431655765 : Int32))) &&& (858993459 : Int32)) + (((p0 - ((p0.toUInt32 >>> ((1 : Int32).toUInt32 &&& Int32.toUInt32 31)).toInt32 &&& (1431655765 : Int32))).toUInt32 >>> ((2 : Int32).toUInt32 &&& Int32.toUInt32 31)).toInt32 &&& (858993459 : Int32))) + ((((p0 - ((p0.toUInt32 >>> ((1 : Int32).toUInt32 &&& Int32.toUInt32 31)).toInt32 &&& (1431655765 : Int32))) &&& (858993459 : Int32)) + (((p0 - ((p0.toUInt32 >>> ((1 : Int32).toUInt32 &&& Int32.toUInt32 31)).toInt32 &&& (1431655765 : Int32))).toUInt32 >>> ((2 : Int32).toUInt32 &&& Int32.toUInt32 31)).toInt32 &&& (858993459 : Int32))).toUInt32 >>> ((4 : Int32).toUInt32 &&& Int32.toUInt32 31)).toInt32) &&& (252645135 : Int32)) + ((((((p0 - ((p0.toUInt32 >>> ((1 : Int32).toUInt32 &&& Int32.toUInt32 31)).toInt32 &&& (1431655765 : Int32))) &&& (858993459 : Int32)) + (((p0 - ((p0.toUInt32 >>> ((1 : Int32).toUInt32 &&& Int32.toUInt32 31)).toInt32 &&& (1431655765 : Int32))).toUInt32 >>> ((2 : Int32).toUInt32 &&& Int32.toUInt32 31)).toInt32 &&& (858993459 : Int32))) + ((((p0 - ((p0.toUInt32 >>> ((1 : Int32).toUInt32 &&& Int32.toUInt32 31)).toInt32 &&& (1431655765 : Int32))) &&& (858993459 : Int32)) + (((p0 - ((p0.toUInt32 >>> ((1 : Int32).toUInt32 &&& Int32.toUInt32 31)).toInt32 &&& (1431655765 : Int32))).toUInt32 >>> ((2 : Int32).toUInt32 &&& Int32.toUInt32 31)).toInt32 &&& (858993459 : Int32))).toUInt32 >>> ((4 : Int32).toUInt32 &&& Int32.toUInt32 31)).toInt32) &&& (252645135 : Int32)).toUInt32 >>> ((8 : Int32).toUInt32 &&& Int32.toUInt32 31)).toInt32))] rfl ?_
  refine v_iload_n hX dJ6_bitCount_0f7a4_41 rfl 0 rfl 42 rfl ?_
  refine v_iload_n hX dJ6_bitCount_0f7a4_42 rfl 0 rfl 43 rfl ?_
  refine v_bipush (v := (16 : Int32)) hX dJ6_bitCount_0f7a4_43 (by decide) 45 rfl ?_
  refine v_iushr hX dJ6_bitCount_0f7a4_45 46 rfl ?_
  refine v_iadd hX dJ6_bitCount_0f7a4_46 47 rfl ?_
  refine v_istore_n hX dJ6_bitCount_0f7a4_47 rfl (ltn hn (by decide)) 48 rfl [(0, .int (((((((p0 - ((p0.toUInt32 >>> ((1 : Int32).toUInt32 &&& Int32.toUInt32 31)).toInt32 &&& (1431655765 : Int32))) &&& (858993459 : Int32)) + (((p0 - ((p0.toUInt32 >>> ((1 : Int32).toUInt32 &&& Int32.toUInt32 31)).toInt32 &&& (1431655765 : Int32))).toUInt32 >>> ((2 : Int32).toUInt32 &&& Int32.toUInt32 31)).toInt32 &&& (858993459 : Int32))) + ((((p0 - ((p0.toUInt32 >>> ((1 : Int32).toUInt32 &&& Int32.toUInt32 31)).toInt32 &&& (1431655765 : Int32))) &&& (858993459 : Int32)) + (((p0 - ((p0.toUInt32 >>> ((1 : Int32).toUInt32 &&& Int32.toUInt32 31)).toInt32 &&& (1431655765 : Int32))).toUInt32 >>> ((2 : Int32).toUInt32 &&& Int32.toUInt32 31)).toInt32 &&& (858993459 : Int32))).toUInt32 >>> ((4 : Int32).toUInt32 &&& Int32.toUInt32 31)).toInt32) &&& (252645135 : Int32)) + ((((((p0 - ((p0.toUInt32 >>> ((1 : Int32).toUInt32 &&& Int32.toUInt32 31)).toInt32 &&& (1431655765 : Int32))) &&& (858993459 : Int32)) + (((p0 - ((p0.toUInt32 >>> ((1 : Int32).toUInt32 &&& Int32.toUInt32 31)).toInt32 &&& (1431655765 : Int32))).toUInt32 >>> ((2 : Int32).toUInt32 &&& Int32.toUInt32 31)).toInt32 &&& (858993459 : Int32))) + ((((p0 - ((p0.toUInt32 >>> ((1 : Int32).toUInt32 &&& Int32.toUInt32 31)).toInt32 &&& (1431655765 : Int32))) &&& (858993459 : Int32)) + (((p0 - ((p0.toUInt32 >>> ((1 : Int32).toUInt32 &&& Int32.toUInt32 31)).toInt32 &&& (1431655765 : Int32))).toUInt32 >>> ((2 : Int32).toUInt32 &&& Int32.toUInt32 31)).toInt32 &&& (858993459 : Int32))).toUInt32 >>> ((4 : Int32).toUInt32 &&& Int32.toUInt32 31)).toInt32) &&& (252645135 : Int32)).toUInt32 >>> ((8 : Int32).toUInt32 &&& Int32.toUInt32 31)).toInt32) + (((((((p0 - ((p0.toUInt32 >>> ((1 : Int32).toUInt32 &&& Int32.toUInt32 31)).toInt32 &&& (1431655765 : Int32))) &&& (858993459 : Int32)) + (((p0 - ((p0.toUInt32 >>> ((1 : Int32).toUInt32 &&& Int32.toUInt32 31)).toInt32 &&& (1431655765 : Int32))).toUInt32 >>> ((2 : Int32).toUInt32 &&& Int32.toUInt32 31)).toInt32 &&& (858993459 : Int32))) + ((((p0 - ((p0.toUInt32 >>> ((1 : Int32).toUInt32 &&& Int32.toUInt32 31)).toInt32 &&& (1431655765 : Int32))) &&& (858993459 : Int32)) + (((p0 - ((p0.toUInt32 >>> ((1 : Int32).toUInt32 &&& Int32.toUInt32 31)).toInt32 &&& (1431655765 : Int32))).toUInt32 >>> ((2 : Int32).toUInt32 &&& Int32.toUInt32 31)).toInt32 &&& (858993459 : Int32))).toUInt32 >>> ((4 : Int32).toUInt32 &&& Int32.toUInt32 31)).toInt32) &&& (252645135 : Int32)) + ((((((p0 - ((p0.toUInt32 >>> ((1 : Int32).toUInt32 &&& Int32.toUInt32 31)).toInt32 &&& (1431655765 : Int32))) &&& (858993459 : Int32)) + (((p0 - ((p0.toUInt32 >>> ((1 : Int32).toUInt32 &&& Int32.toUInt32 31)).toInt32 &&& (1431655765 : Int32))).toUInt32 >>> ((2 : Int32).toUInt32 &&& Int32.toUInt32 31)).toInt32 &&& (858993459 : Int32))) + ((((p0 - ((p0.toUInt32 >>> ((1 : Int32).toUInt32 &&& Int32.toUInt32 31)).toInt32 &&& (1431655765 : Int32))) &&& (858993459 : Int32)) + (((p0 - ((p0.toUInt32 >>> ((1 : Int32).toUInt32 &&& Int32.toUInt32 31)).toInt32 &&& (1431655765 : Int32))).toUInt32 >>> ((2 : Int32).toUInt32 &&& Int32.toUInt32 31)).toInt32 &&& (858993459 : Int32))).toUInt32 >>> ((4 : Int32).toUInt32 &&& Int32.toUInt32 31)).toInt32) &&& (252645135 : Int32)).toUInt32 >>> ((8 : Int32).toUInt32 &&& Int32.toUInt32 31)).toInt32).toUInt32 >>> ((16 : Int32).toUInt32 &&& Int32.toUInt32 31)).toInt32))] rfl ?_
  refine v_iload_n hX dJ6_bitCount_0f7a4_48 rfl 0 rfl 49 rfl ?_
  refine v_bipush (v := (63 : Int32)) hX dJ6_bitCount_0f7a4_49 (by decide) 51 rfl ?_
  refine v_iand hX dJ6_bitCount_0f7a4_51 52 rfl ?_
  exact hR _ hf _ _ dJ6_bitCount_0f7a4_52 rfl
set_option maxRecDepth 100000 in
set_option maxHeartbeats 4000000 in
theorem c0_joinOnes (r : Nat → Int32) (g : Nat → Nat → Int32) (u : Nat → Int64) (h : Nat → Nat → Int64) (p1 : Int32) (p2 : Int32) {res : Int32 × (Nat → Int32)} (hf : f0_joinOnes (r 0) (g 6) p1 p2 = some res) : MAi yX0_joinOnes cX0_joinOnes 6 (some .boolean) 1 (fun a => [.ref (a 1), .int p1, .int p2]) r g u h res.1 r (lkp g [(6, res.2)]) u h := by
  refine mi_i (by decide +kernel) (fun a => Nat.le_of_ble_eq_true rfl) (fun X hX hn hR => ?_)
  replace hR : ∀ q : Int32 × (Nat → Int32), some q = some res → ∀ lv pc, decode cX0_joinOnes pc = .ok (.ireturn, 1) → narrow .boolean (.int q.1) = .int q.1 → VC X r (lkp g [(6, q.2)]) u h lv [.int q.1] pc := fun q hq => by cases hq; exact hR
  replace hX : CX X RX0 cX0_joinOnes 1 := hX
  refine v_opg [6] [(6, g 6)] rfl ?_
  show VC X r (lkp g [(6, g 6)]) u h [(0, .ref (aX X 1)), (1, .int p1), (2, .int p2)] [] 0
  rw [f0_joinOnes] at hf
  refine v_iload_n hX dX0_joinOnes_0 rfl 1 rfl 1 rfl ?_
  refine v_iload_n hX dX0_joinOnes_1 rfl 2 rfl 2 rfl ?_
  refine v_icmp_ne hX dX0_joinOnes_2 7 rfl 5 rfl (fun h11 => ?_) (fun h11 => ?_)
  · replace hf := it_n h11 hf
    refine v_iload_n hX dX0_joinOnes_7 rfl 1 rfl 8 rfl ?_
    refine v_iload_n hX dX0_joinOnes_8 rfl 2 rfl 9 rfl ?_
    refine v_mmin hX (Nat.le_of_ble_eq_true rfl) q_483 (Nat.le_of_ble_eq_true rfl) dX0_joinOnes_9 12 rfl ?_
    refine v_istore_n hX dX0_joinOnes_12 rfl (ltn hn (by decide)) 13 rfl [(3, .int (if p2 < p1 then p2 else p1)), (0, .ref (aX X 1)), (1, .int p1), (2, .int p2)] rfl ?_
    refine v_iload_n hX dX0_joinOnes_13 rfl 2 rfl 14 rfl ?_
    refine v_iload_n hX dX0_joinOnes_14 rfl 3 rfl 15 rfl ?_
    refine v_mmax hX (Nat.le_of_ble_eq_true rfl) q_487 (Nat.le_of_ble_eq_true rfl) dX0_joinOnes_15 18 rfl ?_
    refine v_istore hX dX0_joinOnes_18 (ltn hn (by decide)) 20 rfl [(4, .int (if p1 < p2 then p2 else p1)), (3, .int (if p2 < p1 then p2 else p1)), (0, .ref (aX X 1)), (1, .int p1), (2, .int p2)] rfl ?_
    refine v_iconst (v := (0 : Int32)) hX dX0_joinOnes_20 (by decide) 21 rfl ?_
    refine v_istore hX dX0_joinOnes_21 (ltn hn (by decide)) 23 rfl [(5, .int (0 : Int32)), (4, .int (if p1 < p2 then p2 else p1)), (3, .int (if p2 < p1 then p2 else p1)), (0, .ref (aX X 1)), (1, .int p1), (2, .int p2)] rfl ?_
    obtain ⟨K3, hK3, hf⟩ := jn_x hf
    have HK3 : ∀ (x1 : Int32) (c2 : (Nat → Int32)), K3 x1 c2 = some res → VC X r (lkp g [(6, c2)]) u h [] [] 58 := by
      intro x1 c2 hf
      rw [hK3] at hf
      refine v_iconst (v := (1 : Int32)) hX dX0_joinOnes_58 (by decide) 59 rfl ?_
      exact hR _ hf _ _ dX0_joinOnes_59 (bz_nar (v := (1 : Int32)) (by decide))
    have HLK3 : ∀ (n4 : Nat) (x1 : Int32) (c2 : (Nat → Int32)), f0_joinOnes_L23 (r 0) p1 p2 n4 x1 c2 K3 = some res → VC X r (lkp g [(6, c2)]) u h [(0, .ref (aX X 1)), (3, .int (if p2 < p1 then p2 else p1)), (4, .int (if p1 < p2 then p2 else p1)), (5, .int x1)] [] 23 := by
      intro n4
      induction n4 with
      | zero => intro x1 c2 hf; exact no_s hf
      | succ n4 ih =>
        intro x1 c2 hf
        rw [f0_joinOnes_L23] at hf
        refine v_iload hX dX0_joinOnes_23 3 rfl 25 rfl ?_
        refine v_aload_n hX dX0_joinOnes_25 rfl 0 rfl 26 rfl ?_
        refine gf_1_2 hX q_404 dX0_joinOnes_26 ((r 0)) rfl 29 rfl ?_
        refine v_icmp_ge hX dX0_joinOnes_29 58 rfl 32 rfl (fun h10 => ?_) (fun h10 => ?_)
        · replace hf := it_p h10 hf
          refine v_sub [] sbn ?_
          exact HK3 _ _ hf
        · replace hf := it_n h10 hf
          refine v_aload_n hX dX0_joinOnes_32 rfl 0 rfl 33 rfl ?_
          refine gf_1_5 hX q_51 dX0_joinOnes_33 36 rfl ?_
          refine v_iload hX dX0_joinOnes_36 3 rfl 38 rfl ?_
          obtain ⟨hi5, hf⟩ := gd_e hf
          refine al_6 hX hi5 dX0_joinOnes_38 (c2 x1.toNatClampNeg) rfl 39 rfl ?_
          refine v_iload hX dX0_joinOnes_39 2 rfl 41 rfl ?_
          obtain ⟨J6, hJ6, hf⟩ := jn_x hf
          have HJ6 : ∀ (c7 : (Nat → Int32)), J6 c7 = some res → VC X r (lkp g [(6, c7)]) u h [(0, .ref (aX X 1)), (3, .int (if p2 < p1 then p2 else p1)), (4, .int (if p1 < p2 then p2 else p1)), (5, .int x1)] [] 52 := by
            intro c7 hf
            rw [hJ6] at hf
            refine v_inc (c := (1 : Int32)) hX dX0_joinOnes_52 3 rfl (by decide) (ltn hn (by decide)) 55 rfl [(5, .int (x1 + (1 : Int32))), (0, .ref (aX X 1)), (3, .int (if p2 < p1 then p2 else p1)), (4, .int (if p1 < p2 then p2 else p1))] rfl ?_
            refine v_goto hX dX0_joinOnes_55 23 rfl ?_
            refine v_sub [(0, .ref (aX X 1)), (3, .int (if p2 < p1 then p2 else p1)), (4, .int (if p1 < p2 then p2 else p1)), (5, .int (x1 + (1 : Int32)))] (sbc 1 rfl (sbc 2 rfl (sbc 3 rfl (sbc 0 rfl sbn)))) ?_
            exact ih _ _ hf
          refine v_icmp_ne hX dX0_joinOnes_41 52 rfl 44 rfl (fun h9 => ?_) (fun h9 => ?_)
          · replace hf := it_n h9 hf
            exact HJ6 _ hf
          · replace hf := it_p h9 hf
            refine v_aload_n hX dX0_joinOnes_44 rfl 0 rfl 45 rfl ?_
            refine gf_1_5 hX q_51 dX0_joinOnes_45 48 rfl ?_
            refine v_iload hX dX0_joinOnes_48 3 rfl 50 rfl ?_
            refine v_iload_n hX dX0_joinOnes_50 rfl 1 rfl 51 rfl ?_
            obtain ⟨hi8, hf⟩ := gd_e hf
            refine as_6 hX hi8 dX0_joinOnes_51 52 rfl c2 rfl [(6, (upd c2 x1.toNatClampNeg (if p2 < p1 then p2 else p1)))] rfl ?_
            exact HJ6 _ hf
    refine v_sub [(0, .ref (aX X 1)), (3, .int (if p2 < p1 then p2 else p1)), (4, .int (if p1 < p2 then p2 else p1)), (5, .int (0 : Int32))] (sbc 3 rfl (sbc 2 rfl (sbc 1 rfl (sbc 0 rfl sbn)))) ?_
    exact HLK3 _ _ _ hf
  · replace hf := it_p h11 hf
    refine v_iconst (v := (0 : Int32)) hX dX0_joinOnes_5 (by decide) 6 rfl ?_
    exact hR _ hf _ _ dX0_joinOnes_6 (bz_nar (v := (0 : Int32)) (by decide))
set_option maxRecDepth 100000 in
set_option maxHeartbeats 4000000 in
theorem c6_copyFrom_t24_a11 (r : Nat → Int32) (g : Nat → Nat → Int32) (u : Nat → Int64) (h : Nat → Nat → Int64)  {res : Int32 × Int32 × (Nat → Int32)} (hf : f6_copyFrom (r 3) (r 2) (r 10) (r 9) (g 12) (g 25) = some res) : MAv yX6_copyFrom cX6_copyFrom 3 none 0 (fun a => [.ref (a 24), .ref (a 11)]) r g u h (lkp r [(10, res.1), (9, res.2.1)]) (lkp g [(25, res.2.2)]) u h := by
  refine mi_v (by decide +kernel) (fun a => Nat.le_of_ble_eq_true rfl) (fun X hX hn hR => ?_)
  replace hR : ∀ q : Int32 × Int32 × (Nat → Int32), some q = some res → ∀ lv pc, decode cX6_copyFrom pc = .ok (.return_, 1) → VC X (lkp r [(10, q.1), (9, q.2.1)]) (lkp g [(25, q.2.2)]) u h lv [] pc := fun q hq => by cases hq; exact hR
  replace hX : CX X RX6 cX6_copyFrom 0 := hX
  refine v_opr [10, 9] [(10, r 10), (9, r 9)] rfl ?_
  refine v_opg [25] [(25, g 25)] rfl ?_
  show VC X (lkp r [(10, r 10), (9, r 9)]) (lkp g [(25, g 25)]) u h [(0, .ref (aX X 24)), (1, .ref (aX X 11))] [] 0
  rw [f6_copyFrom] at hf
  refine v_aload_n hX dX6_copyFrom_0 rfl 0 rfl 1 rfl ?_
  refine v_aload_n hX dX6_copyFrom_1 rfl 1 rfl 2 rfl ?_
  refine gf_11_2 hX q_274 dX6_copyFrom_2 ((r 2)) rfl 5 rfl ?_
  refine pf_24_2 hX q_274 dX6_copyFrom_5 8 rfl [(10, (r 10)), (9, (r 2))] rfl ?_
  refine v_aload_n hX dX6_copyFrom_8 rfl 0 rfl 9 rfl ?_
  refine v_aload_n hX dX6_copyFrom_9 rfl 1 rfl 10 rfl ?_
  refine gf_11_3 hX q_295 dX6_copyFrom_10 ((r 3)) rfl 13 rfl ?_
  refine pf_24_3 hX q_295 dX6_copyFrom_13 16 rfl [(10, (r 3)), (9, (r 2))] rfl ?_
  refine v_iconst (v := (0 : Int32)) hX dX6_copyFrom_16 (by decide) 17 rfl ?_
  refine v_istore_n hX dX6_copyFrom_17 rfl (ltn hn (by decide)) 18 rfl [(2, .int (0 : Int32)), (0, .ref (aX X 24)), (1, .ref (aX X 11))] rfl ?_
  obtain ⟨K3, hK3, hf⟩ := jn_x hf
  have HK3 : ∀ (x1 : Int32) (c2 : (Nat → Int32)), K3 x1 c2 = some res → VC X (lkp r [(10, (r 3)), (9, (r 2))]) (lkp g [(25, c2)]) u h [] [] 51 := by
    intro x1 c2 hf
    rw [hK3] at hf
    exact hR _ hf _ _ dX6_copyFrom_51
  have HLK3 : ∀ (n4 : Nat) (x1 : Int32) (c2 : (Nat → Int32)), f6_copyFrom_L18 (r 2) (g 12) n4 x1 c2 K3 = some res → VC X (lkp r [(10, (r 3)), (9, (r 2))]) (lkp g [(25, c2)]) u h [(0, .ref (aX X 24)), (1, .ref (aX X 11)), (2, .int x1)] [] 18 := by
    intro n4
    induction n4 with
    | zero => intro x1 c2 hf; exact no_s hf
    | succ n4 ih =>
      intro x1 c2 hf
      rw [f6_copyFrom_L18] at hf
      refine v_iload_n hX dX6_copyFrom_18 rfl 2 rfl 19 rfl ?_
      refine v_aload_n hX dX6_copyFrom_19 rfl 0 rfl 20 rfl ?_
      refine gf_24_2 hX q_274 dX6_copyFrom_20 ((r 2)) rfl 23 rfl ?_
      refine v_icmp_ge hX dX6_copyFrom_23 51 rfl 26 rfl (fun h8 => ?_) (fun h8 => ?_)
      · replace hf := it_p h8 hf
        refine v_sub [] sbn ?_
        exact HK3 _ _ hf
      · replace hf := it_n h8 hf
        refine v_iload_n hX dX6_copyFrom_26 rfl 2 rfl 27 rfl ?_
        refine v_sipush (v := (210 : Int32)) hX dX6_copyFrom_27 (by decide) 30 rfl ?_
        refine v_icmp_ge hX dX6_copyFrom_30 51 rfl 33 rfl (fun h7 => ?_) (fun h7 => ?_)
        · replace hf := it_p h7 hf
          refine v_sub [] sbn ?_
          exact HK3 _ _ hf
        · replace hf := it_n h7 hf
          refine v_aload_n hX dX6_copyFrom_33 rfl 0 rfl 34 rfl ?_
          refine gf_24_0 hX q_64 dX6_copyFrom_34 37 rfl ?_
          refine v_iload_n hX dX6_copyFrom_37 rfl 2 rfl 38 rfl ?_
          refine v_aload_n hX dX6_copyFrom_38 rfl 1 rfl 39 rfl ?_
          refine gf_11_0 hX q_64 dX6_copyFrom_39 42 rfl ?_
          refine v_iload_n hX dX6_copyFrom_42 rfl 2 rfl 43 rfl ?_
          obtain ⟨hi5, hf⟩ := gd_e hf
          refine al_12 hX hi5 dX6_copyFrom_43 ((g 12) x1.toNatClampNeg) rfl 44 rfl ?_
          obtain ⟨hi6, hf⟩ := gd_e hf
          refine as_25 hX hi6 dX6_copyFrom_44 45 rfl c2 rfl [(25, (upd c2 x1.toNatClampNeg ((g 12) x1.toNatClampNeg)))] rfl ?_
          refine v_inc (c := (1 : Int32)) hX dX6_copyFrom_45 2 rfl (by decide) (ltn hn (by decide)) 48 rfl [(2, .int (x1 + (1 : Int32))), (0, .ref (aX X 24)), (1, .ref (aX X 11))] rfl ?_
          refine v_goto hX dX6_copyFrom_48 18 rfl ?_
          refine v_sub [(0, .ref (aX X 24)), (1, .ref (aX X 11)), (2, .int (x1 + (1 : Int32)))] (sbc 1 rfl (sbc 2 rfl (sbc 0 rfl sbn))) ?_
          exact ih _ _ hf
  refine v_sub [(0, .ref (aX X 24)), (1, .ref (aX X 11)), (2, .int (0 : Int32))] (sbc 1 rfl (sbc 2 rfl (sbc 0 rfl sbn))) ?_
  exact HLK3 _ _ _ hf
set_option maxRecDepth 100000 in
set_option maxHeartbeats 4000000 in
theorem c0_copyFrom_t14_a1 (r : Nat → Int32) (g : Nat → Nat → Int32) (u : Nat → Int64) (h : Nat → Nat → Int64)  {res : Int32 × Int32 × Int32 × Int32 × Int32 × (Nat → Int32) × (Nat → Int32) × (Nat → Int32) × (Nat → Int32) × (Nat → Int32) × (Nat → Int32) × (Nat → Int32) × (Nat → Int32) × (Nat → Int32) × (Nat → Int32)} (hf : f0_copyFrom (r 1) (r 0) (r 3) (r 2) (r 6) (r 8) (r 7) (r 10) (r 9) (r 13) (g 10) (g 7) (g 9) (g 4) (g 5) (g 3) (g 6) (g 12) (g 8) (g 2) (g 23) (g 20) (g 22) (g 17) (g 18) (g 16) (g 19) (g 25) (g 21) (g 15) = some res) : MAv yX0_copyFrom cX0_copyFrom 3 none 1 (fun a => [.ref (a 14), .ref (a 1)]) r g u h (lkp r [(8, res.1), (7, res.2.1), (10, res.2.2.1), (9, res.2.2.2.1), (13, res.2.2.2.2.1)]) (lkp g [(23, res.2.2.2.2.2.1), (20, res.2.2.2.2.2.2.1), (22, res.2.2.2.2.2.2.2.1), (17, res.2.2.2.2.2.2.2.2.1), (18, res.2.2.2.2.2.2.2.2.2.1), (16, res.2.2.2.2.2.2.2.2.2.2.1), (19, res.2.2.2.2.2.2.2.2.2.2.2.1), (25, res.2.2.2.2.2.2.2.2.2.2.2.2.1), (21, res.2.2.2.2.2.2.2.2.2.2.2.2.2.1), (15, res.2.2.2.2.2.2.2.2.2.2.2.2.2.2)]) u h := by
  refine mi_v (by decide +kernel) (fun a => Nat.le_of_ble_eq_true rfl) (fun X hX hn hR => ?_)
  replace hR : ∀ q : Int32 × Int32 × Int32 × Int32 × Int32 × (Nat → Int32) × (Nat → Int32) × (Nat → Int32) × (Nat → Int32) × (Nat → Int32) × (Nat → Int32) × (Nat → Int32) × (Nat → Int32) × (Nat → Int32) × (Nat → Int32), some q = some res → ∀ lv pc, decode cX0_copyFrom pc = .ok (.return_, 1) → VC X (lkp r [(8, q.1), (7, q.2.1), (10, q.2.2.1), (9, q.2.2.2.1), (13, q.2.2.2.2.1)]) (lkp g [(23, q.2.2.2.2.2.1), (20, q.2.2.2.2.2.2.1), (22, q.2.2.2.2.2.2.2.1), (17, q.2.2.2.2.2.2.2.2.1), (18, q.2.2.2.2.2.2.2.2.2.1), (16, q.2.2.2.2.2.2.2.2.2.2.1), (19, q.2.2.2.2.2.2.2.2.2.2.2.1), (25, q.2.2.2.2.2.2.2.2.2.2.2.2.1), (21, q.2.2.2.2.2.2.2.2.2.2.2.2.2.1), (15, q.2.2.2.2.2.2.2.2.2.2.2.2.2.2)]) u h lv [] pc := fun q hq => by cases hq; exact hR
  replace hX : CX X RX0 cX0_copyFrom 1 := hX
  refine v_opr [8, 7, 10, 9, 13] [(8, r 8), (7, r 7), (10, r 10), (9, r 9), (13, r 13)] rfl ?_
  refine v_opg [23, 20, 22, 17, 18, 16, 19, 25, 21, 15] [(23, g 23), (20, g 20), (22, g 22), (17, g 17), (18, g 18), (16, g 16), (19, g 19), (25, g 25), (21, g 21), (15, g 15)] rfl ?_
  show VC X (lkp r [(8, r 8), (7, r 7), (10, r 10), (9, r 9), (13, r 13)]) (lkp g [(23, g 23), (20, g 20), (22, g 22), (17, g 17), (18, g 18), (16, g 16), (19, g 19), (25, g 25), (21, g 21), (15, g 15)]) u h [(0, .ref (aX X 14)), (1, .ref (aX X 1))] [] 0
  rw [f0_copyFrom] at hf
  refine v_aload_n hX dX0_copyFrom_0 rfl 1 rfl 1 rfl ?_
  refine gf_1_0 hX q_46 dX0_copyFrom_1 4 rfl ?_
  refine v_iconst (v := (0 : Int32)) hX dX0_copyFrom_4 (by decide) 5 rfl ?_
  refine v_aload_n hX dX0_copyFrom_5 rfl 0 rfl 6 rfl ?_
  refine gf_14_0 hX q_46 dX0_copyFrom_6 9 rfl ?_
  refine v_iconst (v := (0 : Int32)) hX dX0_copyFrom_9 (by decide) 10 rfl ?_
  refine v_iconst (v := (4 : Int32)) hX dX0_copyFrom_10 (by decide) 11 rfl ?_
  refine cp_2_15 hX (Nat.le_of_ble_eq_true rfl) q_1231 (Nat.le_of_ble_eq_true rfl) dX0_copyFrom_11 14 rfl [(23, (g 23)), (20, (g 20)), (22, (g 22)), (17, (g 17)), (18, (g 18)), (16, (g 16)), (19, (g 19)), (25, (g 25)), (21, (g 21)), (15, (va_cpy (g 2) (g 15) 0 0 4))] rfl ?_
  refine v_aload_n hX dX0_copyFrom_14 rfl 1 rfl 15 rfl ?_
  refine gf_1_1 hX q_47 dX0_copyFrom_15 18 rfl ?_
  refine v_iconst (v := (0 : Int32)) hX dX0_copyFrom_18 (by decide) 19 rfl ?_
  refine v_aload_n hX dX0_copyFrom_19 rfl 0 rfl 20 rfl ?_
  refine gf_14_1 hX q_47 dX0_copyFrom_20 23 rfl ?_
  refine v_iconst (v := (0 : Int32)) hX dX0_copyFrom_23 (by decide) 24 rfl ?_
  refine v_bipush (v := (7 : Int32)) hX dX0_copyFrom_24 (by decide) 26 rfl ?_
  refine cp_3_16 hX (Nat.le_of_ble_eq_true rfl) q_1231 (Nat.le_of_ble_eq_true rfl) dX0_copyFrom_26 29 rfl [(23, (g 23)), (20, (g 20)), (22, (g 22)), (17, (g 17)), (18, (g 18)), (16, (va_cpy (g 3) (g 16) 0 0 7)), (19, (g 19)), (25, (g 25)), (21, (g 21)), (15, (va_cpy (g 2) (g 15) 0 0 4))] rfl ?_
  refine v_aload_n hX dX0_copyFrom_29 rfl 0 rfl 30 rfl ?_
  refine v_aload_n hX dX0_copyFrom_30 rfl 1 rfl 31 rfl ?_
  refine gf_1_2 hX q_404 dX0_copyFrom_31 ((r 0)) rfl 34 rfl ?_
  refine pf_14_2 hX q_404 dX0_copyFrom_34 37 rfl [(8, (r 8)), (7, (r 0)), (10, (r 10)), (9, (r 9)), (13, (r 13))] rfl ?_
  refine v_aload_n hX dX0_copyFrom_37 rfl 1 rfl 38 rfl ?_
  refine gf_1_3 hX q_48 dX0_copyFrom_38 41 rfl ?_
  refine v_iconst (v := (0 : Int32)) hX dX0_copyFrom_41 (by decide) 42 rfl ?_
  refine v_aload_n hX dX0_copyFrom_42 rfl 0 rfl 43 rfl ?_
  refine gf_14_3 hX q_48 dX0_copyFrom_43 46 rfl ?_
  refine v_iconst (v := (0 : Int32)) hX dX0_copyFrom_46 (by decide) 47 rfl ?_
  refine v_bipush (v := (10 : Int32)) hX dX0_copyFrom_47 (by decide) 49 rfl ?_
  refine cp_4_17 hX (Nat.le_of_ble_eq_true rfl) q_1231 (Nat.le_of_ble_eq_true rfl) dX0_copyFrom_49 52 rfl [(23, (g 23)), (20, (g 20)), (22, (g 22)), (17, (va_cpy (g 4) (g 17) 0 0 10)), (18, (g 18)), (16, (va_cpy (g 3) (g 16) 0 0 7)), (19, (g 19)), (25, (g 25)), (21, (g 21)), (15, (va_cpy (g 2) (g 15) 0 0 4))] rfl ?_
  refine v_aload_n hX dX0_copyFrom_52 rfl 1 rfl 53 rfl ?_
  refine gf_1_5 hX q_51 dX0_copyFrom_53 56 rfl ?_
  refine v_iconst (v := (0 : Int32)) hX dX0_copyFrom_56 (by decide) 57 rfl ?_
  refine v_aload_n hX dX0_copyFrom_57 rfl 0 rfl 58 rfl ?_
  refine gf_14_5 hX q_51 dX0_copyFrom_58 61 rfl ?_
  refine v_iconst (v := (0 : Int32)) hX dX0_copyFrom_61 (by decide) 62 rfl ?_
  refine v_bipush (v := (10 : Int32)) hX dX0_copyFrom_62 (by decide) 64 rfl ?_
  refine cp_6_19 hX (Nat.le_of_ble_eq_true rfl) q_1231 (Nat.le_of_ble_eq_true rfl) dX0_copyFrom_64 67 rfl [(23, (g 23)), (20, (g 20)), (22, (g 22)), (17, (va_cpy (g 4) (g 17) 0 0 10)), (18, (g 18)), (16, (va_cpy (g 3) (g 16) 0 0 7)), (19, (va_cpy (g 6) (g 19) 0 0 10)), (25, (g 25)), (21, (g 21)), (15, (va_cpy (g 2) (g 15) 0 0 4))] rfl ?_
  refine v_aload_n hX dX0_copyFrom_67 rfl 0 rfl 68 rfl ?_
  refine v_aload_n hX dX0_copyFrom_68 rfl 1 rfl 69 rfl ?_
  refine gf_1_6 hX q_428 dX0_copyFrom_69 ((r 1)) rfl 72 rfl ?_
  refine pf_14_6 hX q_428 dX0_copyFrom_72 75 rfl [(8, (r 1)), (7, (r 0)), (10, (r 10)), (9, (r 9)), (13, (r 13))] rfl ?_
  refine v_aload_n hX dX0_copyFrom_75 rfl 1 rfl 76 rfl ?_
  refine gf_1_7 hX q_52 dX0_copyFrom_76 79 rfl ?_
  refine v_iconst (v := (0 : Int32)) hX dX0_copyFrom_79 (by decide) 80 rfl ?_
  refine v_aload_n hX dX0_copyFrom_80 rfl 0 rfl 81 rfl ?_
  refine gf_14_7 hX q_52 dX0_copyFrom_81 84 rfl ?_
  refine v_iconst (v := (0 : Int32)) hX dX0_copyFrom_84 (by decide) 85 rfl ?_
  refine v_bipush (v := (45 : Int32)) hX dX0_copyFrom_85 (by decide) 87 rfl ?_
  refine cp_7_20 hX (Nat.le_of_ble_eq_true rfl) q_1231 (Nat.le_of_ble_eq_true rfl) dX0_copyFrom_87 90 rfl [(23, (g 23)), (20, (va_cpy (g 7) (g 20) 0 0 45)), (22, (g 22)), (17, (va_cpy (g 4) (g 17) 0 0 10)), (18, (g 18)), (16, (va_cpy (g 3) (g 16) 0 0 7)), (19, (va_cpy (g 6) (g 19) 0 0 10)), (25, (g 25)), (21, (g 21)), (15, (va_cpy (g 2) (g 15) 0 0 4))] rfl ?_
  refine v_aload_n hX dX0_copyFrom_90 rfl 1 rfl 91 rfl ?_
  refine gf_1_8 hX q_53 dX0_copyFrom_91 94 rfl ?_
  refine v_iconst (v := (0 : Int32)) hX dX0_copyFrom_94 (by decide) 95 rfl ?_
  refine v_aload_n hX dX0_copyFrom_95 rfl 0 rfl 96 rfl ?_
  refine gf_14_8 hX q_53 dX0_copyFrom_96 99 rfl ?_
  refine v_iconst (v := (0 : Int32)) hX dX0_copyFrom_99 (by decide) 100 rfl ?_
  refine v_bipush (v := (36 : Int32)) hX dX0_copyFrom_100 (by decide) 102 rfl ?_
  refine cp_8_21 hX (Nat.le_of_ble_eq_true rfl) q_1231 (Nat.le_of_ble_eq_true rfl) dX0_copyFrom_102 105 rfl [(23, (g 23)), (20, (va_cpy (g 7) (g 20) 0 0 45)), (22, (g 22)), (17, (va_cpy (g 4) (g 17) 0 0 10)), (18, (g 18)), (16, (va_cpy (g 3) (g 16) 0 0 7)), (19, (va_cpy (g 6) (g 19) 0 0 10)), (25, (g 25)), (21, (va_cpy (g 8) (g 21) 0 0 36)), (15, (va_cpy (g 2) (g 15) 0 0 4))] rfl ?_
  refine v_aload_n hX dX0_copyFrom_105 rfl 1 rfl 106 rfl ?_
  refine gf_1_9 hX q_54 dX0_copyFrom_106 109 rfl ?_
  refine v_iconst (v := (0 : Int32)) hX dX0_copyFrom_109 (by decide) 110 rfl ?_
  refine v_aload_n hX dX0_copyFrom_110 rfl 0 rfl 111 rfl ?_
  refine gf_14_9 hX q_54 dX0_copyFrom_111 114 rfl ?_
  refine v_iconst (v := (0 : Int32)) hX dX0_copyFrom_114 (by decide) 115 rfl ?_
  refine v_bipush (v := (9 : Int32)) hX dX0_copyFrom_115 (by decide) 117 rfl ?_
  refine cp_9_22 hX (Nat.le_of_ble_eq_true rfl) q_1231 (Nat.le_of_ble_eq_true rfl) dX0_copyFrom_117 120 rfl [(23, (g 23)), (20, (va_cpy (g 7) (g 20) 0 0 45)), (22, (va_cpy (g 9) (g 22) 0 0 9)), (17, (va_cpy (g 4) (g 17) 0 0 10)), (18, (g 18)), (16, (va_cpy (g 3) (g 16) 0 0 7)), (19, (va_cpy (g 6) (g 19) 0 0 10)), (25, (g 25)), (21, (va_cpy (g 8) (g 21) 0 0 36)), (15, (va_cpy (g 2) (g 15) 0 0 4))] rfl ?_
  refine v_iconst (v := (0 : Int32)) hX dX0_copyFrom_120 (by decide) 121 rfl ?_
  refine v_istore_n hX dX0_copyFrom_121 rfl (ltn hn (by decide)) 122 rfl [(2, .int (0 : Int32)), (0, .ref (aX X 14)), (1, .ref (aX X 1))] rfl ?_
  obtain ⟨K3, hK3, hf⟩ := jn_x hf
  have HK3 : ∀ (x1 : Int32) (c2 : (Nat → Int32)), K3 x1 c2 = some res → VC X (lkp r [(8, (r 1)), (7, (r 0)), (10, (r 10)), (9, (r 9)), (13, (r 13))]) (lkp g [(23, (g 23)), (20, (va_cpy (g 7) (g 20) 0 0 45)), (22, (va_cpy (g 9) (g 22) 0 0 9)), (17, (va_cpy (g 4) (g 17) 0 0 10)), (18, c2), (16, (va_cpy (g 3) (g 16) 0 0 7)), (19, (va_cpy (g 6) (g 19) 0 0 10)), (25, (g 25)), (21, (va_cpy (g 8) (g 21) 0 0 36)), (15, (va_cpy (g 2) (g 15) 0 0 4))]) u h [(0, .ref (aX X 14)), (1, .ref (aX X 1))] [] 146 := by
    intro x1 c2 hf
    rw [hK3] at hf
    refine v_iconst (v := (0 : Int32)) hX dX0_copyFrom_146 (by decide) 147 rfl ?_
    refine v_istore_n hX dX0_copyFrom_147 rfl (ltn hn (by decide)) 148 rfl [(2, .int (0 : Int32)), (0, .ref (aX X 14)), (1, .ref (aX X 1))] rfl ?_
    obtain ⟨K10, hK10, hf⟩ := jn_x hf
    have HK10 : ∀ (x8 : Int32) (c9 : (Nat → Int32)), K10 x8 c9 = some res → VC X (lkp r [(8, (r 1)), (7, (r 0)), (10, (r 10)), (9, (r 9)), (13, (r 13))]) (lkp g [(23, c9), (20, (va_cpy (g 7) (g 20) 0 0 45)), (22, (va_cpy (g 9) (g 22) 0 0 9)), (17, (va_cpy (g 4) (g 17) 0 0 10)), (18, c2), (16, (va_cpy (g 3) (g 16) 0 0 7)), (19, (va_cpy (g 6) (g 19) 0 0 10)), (25, (g 25)), (21, (va_cpy (g 8) (g 21) 0 0 36)), (15, (va_cpy (g 2) (g 15) 0 0 4))]) u h [(0, .ref (aX X 14)), (1, .ref (aX X 1))] [] 172 := by
      intro x8 c9 hf
      rw [hK10] at hf
      refine v_aload_n hX dX0_copyFrom_172 rfl 0 rfl 173 rfl ?_
      refine gf_14_11 hX q_59 dX0_copyFrom_173 176 rfl ?_
      refine v_aload_n hX dX0_copyFrom_176 rfl 1 rfl 177 rfl ?_
      refine gf_1_11 hX q_59 dX0_copyFrom_177 180 rfl ?_
      obtain ⟨c15, c16, c17, hc15, hf⟩ := bn3_e hf
      refine cv_v hX (c6_copyFrom_t24_a11 (lkp r [(8, (r 1)), (7, (r 0)), (10, (r 10)), (9, (r 9)), (13, (r 13))]) (lkp g [(23, c9), (20, (va_cpy (g 7) (g 20) 0 0 45)), (22, (va_cpy (g 9) (g 22) 0 0 9)), (17, (va_cpy (g 4) (g 17) 0 0 10)), (18, c2), (16, (va_cpy (g 3) (g 16) 0 0 7)), (19, (va_cpy (g 6) (g 19) 0 0 10)), (25, (g 25)), (21, (va_cpy (g 8) (g 21) 0 0 36)), (15, (va_cpy (g 2) (g 15) 0 0 4))]) u h hc15) wvX6_copyFrom q_1235 rc_24 (Nat.le_of_ble_eq_true rfl) (Nat.le_of_ble_eq_true rfl) (fun _ => rfl) [] rfl (Nat.le_of_ble_eq_true rfl) dX0_copyFrom_180 183 rfl ?_
      refine v_mgr [(8, (r 1)), (7, (r 0)), (10, c15), (9, c16), (13, (r 13))] rfl ?_
      refine v_mgg [(23, c9), (20, (va_cpy (g 7) (g 20) 0 0 45)), (22, (va_cpy (g 9) (g 22) 0 0 9)), (17, (va_cpy (g 4) (g 17) 0 0 10)), (18, c2), (16, (va_cpy (g 3) (g 16) 0 0 7)), (19, (va_cpy (g 6) (g 19) 0 0 10)), (25, c17), (21, (va_cpy (g 8) (g 21) 0 0 36)), (15, (va_cpy (g 2) (g 15) 0 0 4))] rfl ?_
      refine v_aload_n hX dX0_copyFrom_183 rfl 0 rfl 184 rfl ?_
      refine v_aload_n hX dX0_copyFrom_184 rfl 1 rfl 185 rfl ?_
      refine gf_1_12 hX q_60 dX0_copyFrom_185 ((r 6)) rfl 188 rfl ?_
      refine pf_14_12 hX q_60 dX0_copyFrom_188 191 rfl [(8, (r 1)), (7, (r 0)), (10, c15), (9, c16), (13, (r 6))] rfl ?_
      exact hR _ hf _ _ dX0_copyFrom_191
    have HLK10 : ∀ (n11 : Nat) (x8 : Int32) (c9 : (Nat → Int32)), f0_copyFrom_L148 (g 10) n11 x8 c9 K10 = some res → VC X (lkp r [(8, (r 1)), (7, (r 0)), (10, (r 10)), (9, (r 9)), (13, (r 13))]) (lkp g [(23, c9), (20, (va_cpy (g 7) (g 20) 0 0 45)), (22, (va_cpy (g 9) (g 22) 0 0 9)), (17, (va_cpy (g 4) (g 17) 0 0 10)), (18, c2), (16, (va_cpy (g 3) (g 16) 0 0 7)), (19, (va_cpy (g 6) (g 19) 0 0 10)), (25, (g 25)), (21, (va_cpy (g 8) (g 21) 0 0 36)), (15, (va_cpy (g 2) (g 15) 0 0 4))]) u h [(0, .ref (aX X 14)), (1, .ref (aX X 1)), (2, .int x8)] [] 148 := by
      intro n11
      induction n11 with
      | zero => intro x8 c9 hf; exact no_s hf
      | succ n11 ih =>
        intro x8 c9 hf
        rw [f0_copyFrom_L148] at hf
        refine v_iload_n hX dX0_copyFrom_148 rfl 2 rfl 149 rfl ?_
        refine v_bipush (v := (9 : Int32)) hX dX0_copyFrom_149 (by decide) 151 rfl ?_
        refine v_icmp_ge hX dX0_copyFrom_151 172 rfl 154 rfl (fun h14 => ?_) (fun h14 => ?_)
        · replace hf := it_p h14 hf
          refine v_sub [(0, .ref (aX X 14)), (1, .ref (aX X 1))] (sbc 0 rfl (sbc 1 rfl sbn)) ?_
          exact HK10 _ _ hf
        · replace hf := it_n h14 hf
          refine v_aload_n hX dX0_copyFrom_154 rfl 0 rfl 155 rfl ?_
          refine gf_14_10 hX q_55 dX0_copyFrom_155 158 rfl ?_
          refine v_iload_n hX dX0_copyFrom_158 rfl 2 rfl 159 rfl ?_
          refine v_aload_n hX dX0_copyFrom_159 rfl 1 rfl 160 rfl ?_
          refine gf_1_10 hX q_55 dX0_copyFrom_160 163 rfl ?_
          refine v_iload_n hX dX0_copyFrom_163 rfl 2 rfl 164 rfl ?_
          obtain ⟨hi12, hf⟩ := gd_e hf
          refine al_10 hX hi12 dX0_copyFrom_164 ((g 10) x8.toNatClampNeg) rfl 165 rfl ?_
          obtain ⟨hi13, hf⟩ := gd_e hf
          refine as_23 hX hi13 dX0_copyFrom_165 166 rfl c9 rfl [(23, (upd c9 x8.toNatClampNeg (vp_nar .boolean ((g 10) x8.toNatClampNeg)))), (20, (va_cpy (g 7) (g 20) 0 0 45)), (22, (va_cpy (g 9) (g 22) 0 0 9)), (17, (va_cpy (g 4) (g 17) 0 0 10)), (18, c2), (16, (va_cpy (g 3) (g 16) 0 0 7)), (19, (va_cpy (g 6) (g 19) 0 0 10)), (25, (g 25)), (21, (va_cpy (g 8) (g 21) 0 0 36)), (15, (va_cpy (g 2) (g 15) 0 0 4))] rfl ?_
          refine v_inc (c := (1 : Int32)) hX dX0_copyFrom_166 2 rfl (by decide) (ltn hn (by decide)) 169 rfl [(2, .int (x8 + (1 : Int32))), (0, .ref (aX X 14)), (1, .ref (aX X 1))] rfl ?_
          refine v_goto hX dX0_copyFrom_169 148 rfl ?_
          refine v_sub [(0, .ref (aX X 14)), (1, .ref (aX X 1)), (2, .int (x8 + (1 : Int32)))] (sbc 1 rfl (sbc 2 rfl (sbc 0 rfl sbn))) ?_
          exact ih _ _ hf
    refine v_sub [(0, .ref (aX X 14)), (1, .ref (aX X 1)), (2, .int (0 : Int32))] (sbc 1 rfl (sbc 2 rfl (sbc 0 rfl sbn))) ?_
    exact HLK10 _ _ _ hf
  have HLK3 : ∀ (n4 : Nat) (x1 : Int32) (c2 : (Nat → Int32)), f0_copyFrom_L122 (g 5) n4 x1 c2 K3 = some res → VC X (lkp r [(8, (r 1)), (7, (r 0)), (10, (r 10)), (9, (r 9)), (13, (r 13))]) (lkp g [(23, (g 23)), (20, (va_cpy (g 7) (g 20) 0 0 45)), (22, (va_cpy (g 9) (g 22) 0 0 9)), (17, (va_cpy (g 4) (g 17) 0 0 10)), (18, c2), (16, (va_cpy (g 3) (g 16) 0 0 7)), (19, (va_cpy (g 6) (g 19) 0 0 10)), (25, (g 25)), (21, (va_cpy (g 8) (g 21) 0 0 36)), (15, (va_cpy (g 2) (g 15) 0 0 4))]) u h [(0, .ref (aX X 14)), (1, .ref (aX X 1)), (2, .int x1)] [] 122 := by
    intro n4
    induction n4 with
    | zero => intro x1 c2 hf; exact no_s hf
    | succ n4 ih =>
      intro x1 c2 hf
      rw [f0_copyFrom_L122] at hf
      refine v_iload_n hX dX0_copyFrom_122 rfl 2 rfl 123 rfl ?_
      refine v_bipush (v := (10 : Int32)) hX dX0_copyFrom_123 (by decide) 125 rfl ?_
      refine v_icmp_ge hX dX0_copyFrom_125 146 rfl 128 rfl (fun h7 => ?_) (fun h7 => ?_)
      · replace hf := it_p h7 hf
        refine v_sub [(0, .ref (aX X 14)), (1, .ref (aX X 1))] (sbc 0 rfl (sbc 1 rfl sbn)) ?_
        exact HK3 _ _ hf
      · replace hf := it_n h7 hf
        refine v_aload_n hX dX0_copyFrom_128 rfl 0 rfl 129 rfl ?_
        refine gf_14_4 hX q_50 dX0_copyFrom_129 132 rfl ?_
        refine v_iload_n hX dX0_copyFrom_132 rfl 2 rfl 133 rfl ?_
        refine v_aload_n hX dX0_copyFrom_133 rfl 1 rfl 134 rfl ?_
        refine gf_1_4 hX q_50 dX0_copyFrom_134 137 rfl ?_
        refine v_iload_n hX dX0_copyFrom_137 rfl 2 rfl 138 rfl ?_
        obtain ⟨hi5, hf⟩ := gd_e hf
        refine al_5 hX hi5 dX0_copyFrom_138 ((g 5) x1.toNatClampNeg) rfl 139 rfl ?_
        obtain ⟨hi6, hf⟩ := gd_e hf
        refine as_18 hX hi6 dX0_copyFrom_139 140 rfl c2 rfl [(23, (g 23)), (20, (va_cpy (g 7) (g 20) 0 0 45)), (22, (va_cpy (g 9) (g 22) 0 0 9)), (17, (va_cpy (g 4) (g 17) 0 0 10)), (18, (upd c2 x1.toNatClampNeg (vp_nar .boolean ((g 5) x1.toNatClampNeg)))), (16, (va_cpy (g 3) (g 16) 0 0 7)), (19, (va_cpy (g 6) (g 19) 0 0 10)), (25, (g 25)), (21, (va_cpy (g 8) (g 21) 0 0 36)), (15, (va_cpy (g 2) (g 15) 0 0 4))] rfl ?_
        refine v_inc (c := (1 : Int32)) hX dX0_copyFrom_140 2 rfl (by decide) (ltn hn (by decide)) 143 rfl [(2, .int (x1 + (1 : Int32))), (0, .ref (aX X 14)), (1, .ref (aX X 1))] rfl ?_
        refine v_goto hX dX0_copyFrom_143 122 rfl ?_
        refine v_sub [(0, .ref (aX X 14)), (1, .ref (aX X 1)), (2, .int (x1 + (1 : Int32)))] (sbc 1 rfl (sbc 2 rfl (sbc 0 rfl sbn))) ?_
        exact ih _ _ hf
  refine v_sub [(0, .ref (aX X 14)), (1, .ref (aX X 1)), (2, .int (0 : Int32))] (sbc 1 rfl (sbc 2 rfl (sbc 0 rfl sbn))) ?_
  exact HLK3 _ _ _ hf
set_option maxRecDepth 100000 in
set_option maxHeartbeats 4000000 in
theorem c0_countOnes (r : Nat → Int32) (g : Nat → Nat → Int32) (u : Nat → Int64) (h : Nat → Nat → Int64)  {res : Int32} (hf : f0_countOnes (r 0) (g 6) = some res) : MAi yX0_countOnes cX0_countOnes 3 (some .int) 0 (fun a => [.ref (a 1)]) r g u h res r g u h := by
  refine mi_i (by decide +kernel) (fun a => Nat.le_of_ble_eq_true rfl) (fun X hX hn hR => ?_)
  replace hR : ∀ q : Int32, some q = some res → ∀ lv pc, decode cX0_countOnes pc = .ok (.ireturn, 1) → narrow .int (.int q) = .int q → VC X r g u h lv [.int q] pc := fun q hq => by cases hq; exact hR
  replace hX : CX X RX0 cX0_countOnes 0 := hX
  show VC X r g u h [(0, .ref (aX X 1))] [] 0
  rw [f0_countOnes] at hf
  refine v_iconst (v := (0 : Int32)) hX dX0_countOnes_0 (by decide) 1 rfl ?_
  refine v_istore_n hX dX0_countOnes_1 rfl (ltn hn (by decide)) 2 rfl [(1, .int (0 : Int32)), (0, .ref (aX X 1))] rfl ?_
  refine v_iconst (v := (0 : Int32)) hX dX0_countOnes_2 (by decide) 3 rfl ?_
  refine v_istore_n hX dX0_countOnes_3 rfl (ltn hn (by decide)) 4 rfl [(2, .int (0 : Int32)), (1, .int (0 : Int32)), (0, .ref (aX X 1))] rfl ?_
  obtain ⟨K3, hK3, hf⟩ := jn_x hf
  have HK3 : ∀ (x1 : Int32) (x2 : Int32), K3 x1 x2 = some res → VC X r g u h [(1, .int x1)] [] 31 := by
    intro x1 x2 hf
    rw [hK3] at hf
    refine v_iload_n hX dX0_countOnes_31 rfl 0 rfl 32 rfl ?_
    exact hR _ hf _ _ dX0_countOnes_32 rfl
  have HLK3 : ∀ (n4 : Nat) (x1 : Int32) (x2 : Int32), f0_countOnes_L4 (r 0) (g 6) n4 x1 x2 K3 = some res → VC X r g u h [(0, .ref (aX X 1)), (1, .int x1), (2, .int x2)] [] 4 := by
    intro n4
    induction n4 with
    | zero => intro x1 x2 hf; exact no_s hf
    | succ n4 ih =>
      intro x1 x2 hf
      rw [f0_countOnes_L4] at hf
      refine v_iload_n hX dX0_countOnes_4 rfl 2 rfl 5 rfl ?_
      refine v_aload_n hX dX0_countOnes_5 rfl 0 rfl 6 rfl ?_
      refine gf_1_2 hX q_404 dX0_countOnes_6 ((r 0)) rfl 9 rfl ?_
      refine v_icmp_ge hX dX0_countOnes_9 31 rfl 12 rfl (fun h9 => ?_) (fun h9 => ?_)
      · replace hf := it_p h9 hf
        refine v_sub [(1, .int x1)] (sbc 1 rfl sbn) ?_
        exact HK3 _ _ hf
      · replace hf := it_n h9 hf
        refine v_aload_n hX dX0_countOnes_12 rfl 0 rfl 13 rfl ?_
        refine gf_1_5 hX q_51 dX0_countOnes_13 16 rfl ?_
        refine v_iload_n hX dX0_countOnes_16 rfl 2 rfl 17 rfl ?_
        obtain ⟨hi5, hf⟩ := gd_e hf
        refine al_6 hX hi5 dX0_countOnes_17 ((g 6) x2.toNatClampNeg) rfl 18 rfl ?_
        refine v_iload_n hX dX0_countOnes_18 rfl 2 rfl 19 rfl ?_
        obtain ⟨J6, hJ6, hf⟩ := jn_x hf
        have HJ6 : ∀ (y7 : Int32), J6 y7 = some res → VC X r g u h [(0, .ref (aX X 1)), (1, .int y7), (2, .int x2)] [] 25 := by
          intro y7 hf
          rw [hJ6] at hf
          refine v_inc (c := (1 : Int32)) hX dX0_countOnes_25 2 rfl (by decide) (ltn hn (by decide)) 28 rfl [(2, .int (x2 + (1 : Int32))), (0, .ref (aX X 1)), (1, .int y7)] rfl ?_
          refine v_goto hX dX0_countOnes_28 4 rfl ?_
          refine v_sub [(0, .ref (aX X 1)), (1, .int y7), (2, .int (x2 + (1 : Int32)))] (sbc 1 rfl (sbc 2 rfl (sbc 0 rfl sbn))) ?_
          exact ih _ _ hf
        refine v_icmp_ne hX dX0_countOnes_19 25 rfl 22 rfl (fun h8 => ?_) (fun h8 => ?_)
        · replace hf := it_n h8 hf
          exact HJ6 _ hf
        · replace hf := it_p h8 hf
          refine v_inc (c := (1 : Int32)) hX dX0_countOnes_22 1 rfl (by decide) (ltn hn (by decide)) 25 rfl [(1, .int (x1 + (1 : Int32))), (0, .ref (aX X 1)), (2, .int x2)] rfl ?_
          refine v_sub [(0, .ref (aX X 1)), (1, .int (x1 + (1 : Int32))), (2, .int x2)] (sbc 1 rfl (sbc 0 rfl (sbc 2 rfl sbn))) ?_
          exact HJ6 _ hf
  refine v_sub [(0, .ref (aX X 1)), (1, .int (0 : Int32)), (2, .int (0 : Int32))] (sbc 2 rfl (sbc 1 rfl (sbc 0 rfl sbn))) ?_
  exact HLK3 _ _ _ hf
set_option maxRecDepth 100000 in
set_option maxHeartbeats 4000000 in
theorem c0_isElsewhere (r : Nat → Int32) (g : Nat → Nat → Int32) (u : Nat → Int64) (h : Nat → Nat → Int64) (p1 : Int32) (p2 : Int32) (p3 : Int32) {res : Int32} (hf : f0_isElsewhere (r 1) (r 0) (g 6) (g 8) p1 p2 p3 = some res) : MAi yX0_isElsewhere cX0_isElsewhere 5 (some .boolean) 2 (fun a => [.ref (a 1), .int p1, .int p2, .int p3]) r g u h res r g u h := by
  refine mi_i (by decide +kernel) (fun a => Nat.le_of_ble_eq_true rfl) (fun X hX hn hR => ?_)
  replace hR : ∀ q : Int32, some q = some res → ∀ lv pc, decode cX0_isElsewhere pc = .ok (.ireturn, 1) → narrow .boolean (.int q) = .int q → VC X r g u h lv [.int q] pc := fun q hq => by cases hq; exact hR
  replace hX : CX X RX0 cX0_isElsewhere 2 := hX
  show VC X r g u h [(0, .ref (aX X 1)), (1, .int p1), (2, .int p2), (3, .int p3)] [] 0
  rw [f0_isElsewhere] at hf
  refine v_iconst (v := (0 : Int32)) hX dX0_isElsewhere_0 (by decide) 1 rfl ?_
  refine v_istore hX dX0_isElsewhere_1 (ltn hn (by decide)) 3 rfl [(4, .int (0 : Int32)), (0, .ref (aX X 1)), (1, .int p1), (2, .int p2), (3, .int p3)] rfl ?_
  obtain ⟨K2, hK2, hf⟩ := jn_x hf
  have HK2 : ∀ (x1 : Int32), K2 x1 = some res → VC X r g u h [] [] 34 := by
    intro x1 hf
    rw [hK2] at hf
    refine v_iconst (v := (0 : Int32)) hX dX0_isElsewhere_34 (by decide) 35 rfl ?_
    exact hR _ hf _ _ dX0_isElsewhere_35 (bz_nar (v := (0 : Int32)) (by decide))
  have HLK2 : ∀ (n3 : Nat) (x1 : Int32), f0_isElsewhere_L3 (r 1) (r 0) (g 6) (g 8) p1 p2 p3 n3 x1 K2 = some res → VC X r g u h [(0, .ref (aX X 1)), (1, .int p1), (2, .int p2), (3, .int p3), (4, .int x1)] [] 3 := by
    intro n3
    induction n3 with
    | zero => intro x1 hf; exact no_s hf
    | succ n3 ih =>
      intro x1 hf
      rw [f0_isElsewhere_L3] at hf
      refine v_iload hX dX0_isElsewhere_3 4 rfl 5 rfl ?_
      refine v_iconst (v := (4 : Int32)) hX dX0_isElsewhere_5 (by decide) 6 rfl ?_
      refine v_icmp_ge hX dX0_isElsewhere_6 34 rfl 9 rfl (fun h8 => ?_) (fun h8 => ?_)
      · replace hf := it_p h8 hf
        refine v_sub [] sbn ?_
        exact HK2 _ hf
      · replace hf := it_n h8 hf
        refine v_iload hX dX0_isElsewhere_9 4 rfl 11 rfl ?_
        refine v_iload_n hX dX0_isElsewhere_11 rfl 2 rfl 12 rfl ?_
        obtain ⟨J4, hJ4, hf⟩ := jn_x hf
        have HJ4 : J4 = some res → VC X r g u h [(0, .ref (aX X 1)), (1, .int p1), (2, .int p2), (3, .int p3), (4, .int x1)] [] 28 := by
          intro hf
          rw [hJ4] at hf
          refine v_inc (c := (1 : Int32)) hX dX0_isElsewhere_28 4 rfl (by decide) (ltn hn (by decide)) 31 rfl [(4, .int (x1 + (1 : Int32))), (0, .ref (aX X 1)), (1, .int p1), (2, .int p2), (3, .int p3)] rfl ?_
          refine v_goto hX dX0_isElsewhere_31 3 rfl ?_
          refine v_sub [(0, .ref (aX X 1)), (1, .int p1), (2, .int p2), (3, .int p3), (4, .int (x1 + (1 : Int32)))] (sbc 1 rfl (sbc 2 rfl (sbc 3 rfl (sbc 4 rfl (sbc 0 rfl sbn))))) ?_
          exact ih _ hf
        refine v_icmp_eq hX dX0_isElsewhere_12 28 rfl 15 rfl (fun h7 => ?_) (fun h7 => ?_)
        · replace hf := it_p h7 hf
          exact HJ4  hf
        · replace hf := it_n h7 hf
          refine v_aload_n hX dX0_isElsewhere_15 rfl 0 rfl 16 rfl ?_
          refine v_iload_n hX dX0_isElsewhere_16 rfl 1 rfl 17 rfl ?_
          refine v_iload hX dX0_isElsewhere_17 4 rfl 19 rfl ?_
          obtain ⟨v5, hv5, hf⟩ := bn1_e hf
          refine cv_i hX (c0_oneAt r g u h _ _ hv5) wvX0_oneAt q_437 rc_1 (Nat.le_of_ble_eq_true rfl) (Nat.le_of_ble_eq_true rfl) (fun _ => rfl) [] rfl (Nat.le_of_ble_eq_true rfl) dX0_isElsewhere_19 22 rfl ?_
          refine v_iload_n hX dX0_isElsewhere_22 rfl 3 rfl 23 rfl ?_
          refine v_icmp_ne hX dX0_isElsewhere_23 28 rfl 26 rfl (fun h6 => ?_) (fun h6 => ?_)
          · replace hf := it_n h6 hf
            exact HJ4  hf
          · replace hf := it_p h6 hf
            refine v_iconst (v := (1 : Int32)) hX dX0_isElsewhere_26 (by decide) 27 rfl ?_
            exact hR _ hf _ _ dX0_isElsewhere_27 (bz_nar (v := (1 : Int32)) (by decide))
  refine v_sub [(0, .ref (aX X 1)), (1, .int p1), (2, .int p2), (3, .int p3), (4, .int (0 : Int32))] (sbc 1 rfl (sbc 2 rfl (sbc 3 rfl (sbc 4 rfl (sbc 0 rfl sbn))))) ?_
  exact HLK2 _ _ hf
set_option maxRecDepth 100000 in
set_option maxHeartbeats 4000000 in
theorem c0_isIn (r : Nat → Int32) (g : Nat → Nat → Int32) (u : Nat → Int64) (h : Nat → Nat → Int64) (p1 : Int32) (p2 : Int32) {res : Int32} (hf : f0_isIn (r 1) (r 0) (g 6) (g 8) p1 p2 = some res) : MAi yX0_isIn cX0_isIn 3 (some .boolean) 3 (fun a => [.ref (a 1), .int p1, .int p2]) r g u h res r g u h := by
  refine mi_i (by decide +kernel) (fun a => Nat.le_of_ble_eq_true rfl) (fun X hX hn hR => ?_)
  replace hR : ∀ q : Int32, some q = some res → ∀ lv pc, decode cX0_isIn pc = .ok (.ireturn, 1) → narrow .boolean (.int q) = .int q → VC X r g u h lv [.int q] pc := fun q hq => by cases hq; exact hR
  replace hX : CX X RX0 cX0_isIn 3 := hX
  show VC X r g u h [(0, .ref (aX X 1)), (1, .int p1), (2, .int p2)] [] 0
  rw [f0_isIn] at hf
  refine v_aload_n hX dX0_isIn_0 rfl 0 rfl 1 rfl ?_
  refine v_iload_n hX dX0_isIn_1 rfl 1 rfl 2 rfl ?_
  refine v_iconst (v := (-1 : Int32)) hX dX0_isIn_2 (by decide) 3 rfl ?_
  refine v_iload_n hX dX0_isIn_3 rfl 2 rfl 4 rfl ?_
  obtain ⟨v1, hv1, hf⟩ := bn1_e hf
  refine cv_i hX (c0_isElsewhere r g u h _ _ _ hv1) wvX0_isElsewhere q_433 rc_1 (Nat.le_of_ble_eq_true rfl) (Nat.le_of_ble_eq_true rfl) (fun _ => rfl) [] rfl (Nat.le_of_ble_eq_true rfl) dX0_isIn_4 7 rfl ?_
  obtain ⟨hb2, hf⟩ := gd_e hf
  exact hR _ hf _ _ dX0_isIn_7 (bz_nar hb2)
set_option maxRecDepth 100000 in
set_option maxHeartbeats 4000000 in
theorem c2_power (r : Nat → Int32) (g : Nat → Nat → Int32) (u : Nat → Int64) (h : Nat → Nat → Int64) (p0 : Int64) (p2 : Int32) {res : Int64} (hf : f2_power p0 p2 = some res) : MAl yX2_power cX2_power 6 (some .long) 0 (fun a => [.long p0, .int p2]) r g u h res r g u h := by
  refine mi_l (by decide +kernel) (fun a => Nat.le_of_ble_eq_true rfl) (fun X hX hn hR => ?_)
  replace hR : ∀ q : Int64, some q = some res → ∀ lv pc, decode cX2_power pc = .ok (.lreturn, 1) → VC X r g u h lv [.long q] pc := fun q hq => by cases hq; exact hR
  replace hX : CX X RX2 cX2_power 0 := hX
  show VC X r g u h [(0, .long p0), (2, .int p2)] [] 0
  rw [f2_power] at hf
  refine v_lconst (v := (1 : Int64)) hX dX2_power_0 (by decide) 1 rfl ?_
  refine v_lstore_n hX dX2_power_1 rfl (ltn hn (by decide)) 2 rfl [(3, .long (1 : Int64)), (0, .long p0), (2, .int p2)] rfl ?_
  refine v_iconst (v := (0 : Int32)) hX dX2_power_2 (by decide) 3 rfl ?_
  refine v_istore hX dX2_power_3 (ltn hn (by decide)) 5 rfl [(5, .int (0 : Int32)), (3, .long (1 : Int64)), (0, .long p0), (2, .int p2)] rfl ?_
  obtain ⟨K3, hK3, hf⟩ := jn_x hf
  have HK3 : ∀ (x1 : Int64) (x2 : Int32), K3 x1 x2 = some res → VC X r g u h [(3, .long x1)] [] 21 := by
    intro x1 x2 hf
    rw [hK3] at hf
    refine v_lload_n hX dX2_power_21 rfl 0 rfl 22 rfl ?_
    exact hR _ hf _ _ dX2_power_22
  have HLK3 : ∀ (n4 : Nat) (x1 : Int64) (x2 : Int32), f2_power_L5 p0 p2 n4 x1 x2 K3 = some res → VC X r g u h [(0, .long p0), (2, .int p2), (3, .long x1), (5, .int x2)] [] 5 := by
    intro n4
    induction n4 with
    | zero => intro x1 x2 hf; exact no_s hf
    | succ n4 ih =>
      intro x1 x2 hf
      rw [f2_power_L5] at hf
      refine v_iload hX dX2_power_5 3 rfl 7 rfl ?_
      refine v_iload_n hX dX2_power_7 rfl 1 rfl 8 rfl ?_
      refine v_icmp_ge hX dX2_power_8 21 rfl 11 rfl (fun h5 => ?_) (fun h5 => ?_)
      · replace hf := it_p h5 hf
        refine v_sub [(3, .long x1)] (sbc 2 rfl sbn) ?_
        exact HK3 _ _ hf
      · replace hf := it_n h5 hf
        refine v_lload_n hX dX2_power_11 rfl 2 rfl 12 rfl ?_
        refine v_lload_n hX dX2_power_12 rfl 0 rfl 13 rfl ?_
        refine v_lmul hX dX2_power_13 14 rfl ?_
        refine v_lstore_n hX dX2_power_14 rfl (ltn hn (by decide)) 15 rfl [(3, .long (x1 * p0)), (0, .long p0), (2, .int p2), (5, .int x2)] rfl ?_
        refine v_inc (c := (1 : Int32)) hX dX2_power_15 3 rfl (by decide) (ltn hn (by decide)) 18 rfl [(5, .int (x2 + (1 : Int32))), (3, .long (x1 * p0)), (0, .long p0), (2, .int p2)] rfl ?_
        refine v_goto hX dX2_power_18 5 rfl ?_
        refine v_sub [(0, .long p0), (2, .int p2), (3, .long (x1 * p0)), (5, .int (x2 + (1 : Int32)))] (sbc 2 rfl (sbc 3 rfl (sbc 1 rfl (sbc 0 rfl sbn)))) ?_
        exact ih _ _ hf
  refine v_sub [(0, .long p0), (2, .int p2), (3, .long (1 : Int64)), (5, .int (0 : Int32))] (sbc 2 rfl (sbc 3 rfl (sbc 1 rfl (sbc 0 rfl sbn)))) ?_
  exact HLK3 _ _ _ hf
set_option maxRecDepth 100000 in
set_option maxHeartbeats 4000000 in
theorem c2_asManyOrMore (r : Nat → Int32) (g : Nat → Nat → Int32) (u : Nat → Int64) (h : Nat → Nat → Int64) (p0 : Int32) (p1 : Int32) (p2 : Int64) {res : Int64} (hf : f2_asManyOrMore p0 p1 p2 = some res) : MAl yX2_asManyOrMore cX2_asManyOrMore 9 (some .long) 1 (fun a => [.int p0, .int p1, .long p2]) r g u h res r g u h := by
  refine mi_l (by decide +kernel) (fun a => Nat.le_of_ble_eq_true rfl) (fun X hX hn hR => ?_)
  replace hR : ∀ q : Int64, some q = some res → ∀ lv pc, decode cX2_asManyOrMore pc = .ok (.lreturn, 1) → VC X r g u h lv [.long q] pc := fun q hq => by cases hq; exact hR
  replace hX : CX X RX2 cX2_asManyOrMore 1 := hX
  show VC X r g u h [(0, .int p0), (1, .int p1), (2, .long p2)] [] 0
  rw [f2_asManyOrMore] at hf
  refine v_lconst (v := (0 : Int64)) hX dX2_asManyOrMore_0 (by decide) 1 rfl ?_
  refine v_lstore hX dX2_asManyOrMore_1 (ltn hn (by decide)) 3 rfl [(4, .long (0 : Int64)), (0, .int p0), (1, .int p1), (2, .long p2)] rfl ?_
  refine v_lconst (v := (1 : Int64)) hX dX2_asManyOrMore_3 (by decide) 4 rfl ?_
  refine v_lstore hX dX2_asManyOrMore_4 (ltn hn (by decide)) 6 rfl [(6, .long (1 : Int64)), (4, .long (0 : Int64)), (0, .int p0), (1, .int p1), (2, .long p2)] rfl ?_
  refine v_iconst (v := (0 : Int32)) hX dX2_asManyOrMore_6 (by decide) 7 rfl ?_
  refine v_istore hX dX2_asManyOrMore_7 (ltn hn (by decide)) 9 rfl [(8, .int (0 : Int32)), (6, .long (1 : Int64)), (4, .long (0 : Int64)), (0, .int p0), (1, .int p1), (2, .long p2)] rfl ?_
  obtain ⟨K4, hK4, hf⟩ := jn_x hf
  have HK4 : ∀ (x1 : Int64) (x2 : Int64) (x3 : Int32), K4 x1 x2 x3 = some res → VC X r g u h [(4, .long x1)] [] 72 := by
    intro x1 x2 x3 hf
    rw [hK4] at hf
    refine v_lload hX dX2_asManyOrMore_72 0 rfl 74 rfl ?_
    exact hR _ hf _ _ dX2_asManyOrMore_74
  have HLK4 : ∀ (n5 : Nat) (x1 : Int64) (x2 : Int64) (x3 : Int32), f2_asManyOrMore_L9 p0 p1 p2 n5 x1 x2 x3 K4 = some res → VC X r g u h [(0, .int p0), (1, .int p1), (2, .long p2), (4, .long x1), (6, .long x2), (8, .int x3)] [] 9 := by
    intro n5
    induction n5 with
    | zero => intro x1 x2 x3 hf; exact no_s hf
    | succ n5 ih =>
      intro x1 x2 x3 hf
      rw [f2_asManyOrMore_L9] at hf
      refine v_iload hX dX2_asManyOrMore_9 5 rfl 11 rfl ?_
      refine v_iload_n hX dX2_asManyOrMore_11 rfl 0 rfl 12 rfl ?_
      refine v_icmp_gt hX dX2_asManyOrMore_12 72 rfl 15 rfl (fun h12 => ?_) (fun h12 => ?_)
      · replace hf := it_p h12 hf
        refine v_sub [(4, .long x1)] (sbc 3 rfl sbn) ?_
        exact HK4 _ _ _ hf
      · replace hf := it_n h12 hf
        refine v_iload hX dX2_asManyOrMore_15 5 rfl 17 rfl ?_
        refine v_iload_n hX dX2_asManyOrMore_17 rfl 1 rfl 18 rfl ?_
        obtain ⟨J6, hJ6, hf⟩ := jn_x hf
        have HJ6 : ∀ (y7 : Int64), J6 y7 = some res → VC X r g u h [(0, .int p0), (1, .int p1), (2, .long p2), (4, .long y7), (6, .long x2), (8, .int x3)] [] 50 := by
          intro y7 hf
          rw [hJ6] at hf
          refine v_lload hX dX2_asManyOrMore_50 4 rfl 52 rfl ?_
          refine v_iload_n hX dX2_asManyOrMore_52 rfl 0 rfl 53 rfl ?_
          refine v_iload hX dX2_asManyOrMore_53 5 rfl 55 rfl ?_
          refine v_isub hX dX2_asManyOrMore_55 56 rfl ?_
          refine v_i2l hX dX2_asManyOrMore_56 57 rfl ?_
          refine v_lmul hX dX2_asManyOrMore_57 58 rfl ?_
          refine v_iload hX dX2_asManyOrMore_58 5 rfl 60 rfl ?_
          refine v_iconst (v := (1 : Int32)) hX dX2_asManyOrMore_60 (by decide) 61 rfl ?_
          refine v_iadd hX dX2_asManyOrMore_61 62 rfl ?_
          refine v_i2l hX dX2_asManyOrMore_62 63 rfl ?_
          obtain ⟨hz8, hf⟩ := gd_e hf
          refine v_ldiv hX dX2_asManyOrMore_63 (of_decide_eq_true hz8) 64 rfl ?_
          refine v_lstore hX dX2_asManyOrMore_64 (ltn hn (by decide)) 66 rfl [(6, .long ((x2 * ((p0 - x3)).toInt64) / ((x3 + (1 : Int32))).toInt64)), (0, .int p0), (1, .int p1), (2, .long p2), (4, .long y7), (8, .int x3)] rfl ?_
          refine v_inc (c := (1 : Int32)) hX dX2_asManyOrMore_66 5 rfl (by decide) (ltn hn (by decide)) 69 rfl [(8, .int (x3 + (1 : Int32))), (6, .long ((x2 * ((p0 - x3)).toInt64) / ((x3 + (1 : Int32))).toInt64)), (0, .int p0), (1, .int p1), (2, .long p2), (4, .long y7)] rfl ?_
          refine v_goto hX dX2_asManyOrMore_69 9 rfl ?_
          refine v_sub [(0, .int p0), (1, .int p1), (2, .long p2), (4, .long y7), (6, .long ((x2 * ((p0 - x3)).toInt64) / ((x3 + (1 : Int32))).toInt64)), (8, .int (x3 + (1 : Int32)))] (sbc 2 rfl (sbc 3 rfl (sbc 4 rfl (sbc 5 rfl (sbc 1 rfl (sbc 0 rfl sbn)))))) ?_
          exact ih _ _ _ hf
        refine v_icmp_lt hX dX2_asManyOrMore_18 50 rfl 21 rfl (fun h11 => ?_) (fun h11 => ?_)
        · replace hf := it_p h11 hf
          exact HJ6 _ hf
        · replace hf := it_n h11 hf
          refine v_lload hX dX2_asManyOrMore_21 3 rfl 23 rfl ?_
          refine v_lload hX dX2_asManyOrMore_23 4 rfl 25 rfl ?_
          refine v_ldc2 (v := (4 : Int64)) hX q_783 dX2_asManyOrMore_25 28 rfl ?_
          refine v_iload hX dX2_asManyOrMore_28 5 rfl 30 rfl ?_
          obtain ⟨v9, hv9, hf⟩ := bn1_e hf
          refine cs_l hX (c2_power r g u h _ _ hv9) wvX2_power q_784 (Nat.le_of_ble_eq_true rfl) (Nat.le_of_ble_eq_true rfl) (fun _ => rfl) [.long x2, .long x1] rfl (Nat.le_of_ble_eq_true rfl) dX2_asManyOrMore_30 33 rfl ?_
          refine v_lmul hX dX2_asManyOrMore_33 34 rfl ?_
          refine v_lload_n hX dX2_asManyOrMore_34 rfl 2 rfl 35 rfl ?_
          refine v_ldc2 (v := (4 : Int64)) hX q_783 dX2_asManyOrMore_35 38 rfl ?_
          refine v_lsub hX dX2_asManyOrMore_38 39 rfl ?_
          refine v_iload_n hX dX2_asManyOrMore_39 rfl 0 rfl 40 rfl ?_
          refine v_iload hX dX2_asManyOrMore_40 5 rfl 42 rfl ?_
          refine v_isub hX dX2_asManyOrMore_42 43 rfl ?_
          obtain ⟨v10, hv10, hf⟩ := bn1_e hf
          refine cs_l hX (c2_power r g u h _ _ hv10) wvX2_power q_784 (Nat.le_of_ble_eq_true rfl) (Nat.le_of_ble_eq_true rfl) (fun _ => rfl) [.long (x2 * v9), .long x1] rfl (Nat.le_of_ble_eq_true rfl) dX2_asManyOrMore_43 46 rfl ?_
          refine v_lmul hX dX2_asManyOrMore_46 47 rfl ?_
          refine v_ladd hX dX2_asManyOrMore_47 48 rfl ?_
          refine v_lstore hX dX2_asManyOrMore_48 (ltn hn (by decide)) 50 rfl [(4, .long (x1 + ((x2 * v9) * v10))), (0, .int p0), (1, .int p1), (2, .long p2), (6, .long x2), (8, .int x3)] rfl ?_
          refine v_sub [(0, .int p0), (1, .int p1), (2, .long p2), (4, .long (x1 + ((x2 * v9) * v10))), (6, .long x2), (8, .int x3)] (sbc 1 rfl (sbc 2 rfl (sbc 3 rfl (sbc 0 rfl (sbc 4 rfl (sbc 5 rfl sbn)))))) ?_
          exact HJ6 _ hf
  refine v_sub [(0, .int p0), (1, .int p1), (2, .long p2), (4, .long (0 : Int64)), (6, .long (1 : Int64)), (8, .int (0 : Int32))] (sbc 3 rfl (sbc 4 rfl (sbc 5 rfl (sbc 2 rfl (sbc 1 rfl (sbc 0 rfl sbn)))))) ?_
  exact HLK4 _ _ _ _ hf
set_option maxRecDepth 100000 in
set_option maxHeartbeats 4000000 in
theorem c2_commonDivisor (r : Nat → Int32) (g : Nat → Nat → Int32) (u : Nat → Int64) (h : Nat → Nat → Int64) (p0 : Int64) (p2 : Int64) {res : Int64} (hf : f2_commonDivisor p0 p2 = some res) : MAl yX2_commonDivisor cX2_commonDivisor 11 (some .long) 0 (fun a => [.long p0, .long p2]) r g u h res r g u h := by
  refine mi_l (by decide +kernel) (fun a => Nat.le_of_ble_eq_true rfl) (fun X hX hn hR => ?_)
  replace hR : ∀ q : Int64, some q = some res → ∀ lv pc, decode cX2_commonDivisor pc = .ok (.lreturn, 1) → VC X r g u h lv [.long q] pc := fun q hq => by cases hq; exact hR
  replace hX : CX X RX2 cX2_commonDivisor 0 := hX
  show VC X r g u h [(0, .long p0), (2, .long p2)] [] 0
  rw [f2_commonDivisor] at hf
  refine v_lload_n hX dX2_commonDivisor_0 rfl 0 rfl 1 rfl ?_
  refine v_lstore hX dX2_commonDivisor_1 (ltn hn (by decide)) 3 rfl [(4, .long p0), (0, .long p0), (2, .long p2)] rfl ?_
  refine v_lload_n hX dX2_commonDivisor_3 rfl 2 rfl 4 rfl ?_
  refine v_lstore hX dX2_commonDivisor_4 (ltn hn (by decide)) 6 rfl [(6, .long p2), (4, .long p0), (0, .long p0), (2, .long p2)] rfl ?_
  refine v_iconst (v := (0 : Int32)) hX dX2_commonDivisor_6 (by decide) 7 rfl ?_
  refine v_istore hX dX2_commonDivisor_7 (ltn hn (by decide)) 9 rfl [(8, .int (0 : Int32)), (6, .long p2), (4, .long p0), (0, .long p0), (2, .long p2)] rfl ?_
  obtain ⟨K4, hK4, hf⟩ := jn_x hf
  have HK4 : ∀ (x1 : Int64) (x2 : Int64) (x3 : Int32), K4 x1 x2 x3 = some res → VC X r g u h [(4, .long x1)] [] 45 := by
    intro x1 x2 x3 hf
    rw [hK4] at hf
    refine v_lload hX dX2_commonDivisor_45 0 rfl 47 rfl ?_
    exact hR _ hf _ _ dX2_commonDivisor_47
  have HLK4 : ∀ (n5 : Nat) (x1 : Int64) (x2 : Int64) (x3 : Int32), f2_commonDivisor_L9 n5 x1 x2 x3 K4 = some res → VC X r g u h [(4, .long x1), (6, .long x2), (8, .int x3)] [] 9 := by
    intro n5
    induction n5 with
    | zero => intro x1 x2 x3 hf; exact no_s hf
    | succ n5 ih =>
      intro x1 x2 x3 hf
      rw [f2_commonDivisor_L9] at hf
      refine v_iload hX dX2_commonDivisor_9 2 rfl 11 rfl ?_
      refine v_sipush (v := (200 : Int32)) hX dX2_commonDivisor_11 (by decide) 14 rfl ?_
      refine v_icmp_ge hX dX2_commonDivisor_14 45 rfl 17 rfl (fun h8 => ?_) (fun h8 => ?_)
      · replace hf := it_p h8 hf
        refine v_sub [(4, .long x1)] (sbc 0 rfl sbn) ?_
        exact HK4 _ _ _ hf
      · replace hf := it_n h8 hf
        refine v_lload hX dX2_commonDivisor_17 1 rfl 19 rfl ?_
        refine v_lconst (v := (0 : Int64)) hX dX2_commonDivisor_19 (by decide) 20 rfl ?_
        refine v_lcmp hX dX2_commonDivisor_20 21 rfl ?_
        refine v_if_eq hX dX2_commonDivisor_21 45 rfl 24 rfl (fun h7 => ?_) (fun h7 => ?_)
        · replace hf := it_p h7 hf
          refine v_sub [(4, .long x1)] (sbc 0 rfl sbn) ?_
          exact HK4 _ _ _ hf
        · replace hf := it_n h7 hf
          refine v_lload hX dX2_commonDivisor_24 0 rfl 26 rfl ?_
          refine v_lload hX dX2_commonDivisor_26 1 rfl 28 rfl ?_
          obtain ⟨hz6, hf⟩ := gd_e hf
          refine v_lrem hX dX2_commonDivisor_28 (of_decide_eq_true hz6) 29 rfl ?_
          refine v_lstore hX dX2_commonDivisor_29 (ltn hn (by decide)) 31 rfl [(9, .long (x1 - x1 / x2 * x2)), (4, .long x1), (6, .long x2), (8, .int x3)] rfl ?_
          refine v_lload hX dX2_commonDivisor_31 2 rfl 33 rfl ?_
          refine v_lstore hX dX2_commonDivisor_33 (ltn hn (by decide)) 35 rfl [(4, .long x2), (9, .long (x1 - x1 / x2 * x2)), (6, .long x2), (8, .int x3)] rfl ?_
          refine v_lload hX dX2_commonDivisor_35 1 rfl 37 rfl ?_
          refine v_lstore hX dX2_commonDivisor_37 (ltn hn (by decide)) 39 rfl [(6, .long (x1 - x1 / x2 * x2)), (4, .long x2), (9, .long (x1 - x1 / x2 * x2)), (8, .int x3)] rfl ?_
          refine v_inc (c := (1 : Int32)) hX dX2_commonDivisor_39 3 rfl (by decide) (ltn hn (by decide)) 42 rfl [(8, .int (x3 + (1 : Int32))), (6, .long (x1 - x1 / x2 * x2)), (4, .long x2), (9, .long (x1 - x1 / x2 * x2))] rfl ?_
          refine v_goto hX dX2_commonDivisor_42 9 rfl ?_
          refine v_sub [(4, .long x2), (6, .long (x1 - x1 / x2 * x2)), (8, .int (x3 + (1 : Int32)))] (sbc 2 rfl (sbc 1 rfl (sbc 0 rfl sbn))) ?_
          exact ih _ _ _ hf
  refine v_sub [(4, .long p0), (6, .long p2), (8, .int (0 : Int32))] (sbc 2 rfl (sbc 1 rfl (sbc 0 rfl sbn))) ?_
  exact HLK4 _ _ _ _ hf
set_option maxRecDepth 100000 in
set_option maxHeartbeats 4000000 in
theorem c2_part (r : Nat → Int32) (g : Nat → Nat → Int32) (u : Nat → Int64) (h : Nat → Nat → Int64) (p0 : Int64) (p2 : Int64) (p4 : Int32) {res : Int64} (hf : f2_part p0 p2 p4 = some res) : MAl yX2_part cX2_part 7 (some .long) 1 (fun a => [.long p0, .long p2, .int p4]) r g u h res r g u h := by
  refine mi_l (by decide +kernel) (fun a => Nat.le_of_ble_eq_true rfl) (fun X hX hn hR => ?_)
  replace hR : ∀ q : Int64, some q = some res → ∀ lv pc, decode cX2_part pc = .ok (.lreturn, 1) → VC X r g u h lv [.long q] pc := fun q hq => by cases hq; exact hR
  replace hX : CX X RX2 cX2_part 1 := hX
  show VC X r g u h [(0, .long p0), (2, .long p2), (4, .int p4)] [] 0
  rw [f2_part] at hf
  refine v_lload_n hX dX2_part_0 rfl 0 rfl 1 rfl ?_
  refine v_lload_n hX dX2_part_1 rfl 1 rfl 2 rfl ?_
  obtain ⟨v1, hv1, hf⟩ := bn1_e hf
  refine cs_l hX (c2_commonDivisor r g u h _ _ hv1) wvX2_commonDivisor q_791 (Nat.le_of_ble_eq_true rfl) (Nat.le_of_ble_eq_true rfl) (fun _ => rfl) [] rfl (Nat.le_of_ble_eq_true rfl) dX2_part_2 5 rfl ?_
  refine v_lstore hX dX2_part_5 (ltn hn (by decide)) 7 rfl [(5, .long v1), (0, .long p0), (2, .long p2), (4, .int p4)] rfl ?_
  refine v_lload hX dX2_part_7 0 rfl 9 rfl ?_
  refine v_lconst (v := (0 : Int64)) hX dX2_part_9 (by decide) 10 rfl ?_
  refine v_lcmp hX dX2_part_10 11 rfl ?_
  refine v_if_ne hX dX2_part_11 16 rfl 14 rfl (fun h6 => ?_) (fun h6 => ?_)
  · replace hf := it_n h6 hf
    refine v_iload hX dX2_part_16 3 rfl 18 rfl ?_
    obtain ⟨J2, hJ2, hf⟩ := jn_x hf
    have HJ2 : ∀ (s3 : Int64), J2 s3 = some res → VC X r g u h [(5, .long v1)] [.long s3] 26 := by
      intro s3 hf
      rw [hJ2] at hf
      refine v_lload hX dX2_part_26 0 rfl 28 rfl ?_
      obtain ⟨hz4, hf⟩ := gd_e hf
      refine v_ldiv hX dX2_part_28 (of_decide_eq_true hz4) 29 rfl ?_
      exact hR _ hf _ _ dX2_part_29
    refine v_if_ne hX dX2_part_18 25 rfl 21 rfl (fun h5 => ?_) (fun h5 => ?_)
    · replace hf := it_n h5 hf
      refine v_lload_n hX dX2_part_25 rfl 2 rfl 26 rfl ?_
      refine v_sub [(5, .long v1)] (sbc 0 rfl sbn) ?_
      exact HJ2 _ hf
    · replace hf := it_p h5 hf
      refine v_lload_n hX dX2_part_21 rfl 1 rfl 22 rfl ?_
      refine v_goto hX dX2_part_22 26 rfl ?_
      refine v_sub [(5, .long v1)] (sbc 0 rfl sbn) ?_
      exact HJ2 _ hf
  · replace hf := it_p h6 hf
    refine v_lconst (v := (0 : Int64)) hX dX2_part_14 (by decide) 15 rfl ?_
    exact hR _ hf _ _ dX2_part_15
set_option maxRecDepth 100000 in
set_option maxHeartbeats 4000000 in
theorem c0_addPerson (r : Nat → Int32) (g : Nat → Nat → Int32) (u : Nat → Int64) (h : Nat → Nat → Int64) (p1 : Int32) (p2 : Int32) {res : Int32 × Int32 × (Nat → Int32) × (Nat → Int32) × (Nat → Int32)} (hf : f0_addPerson (r 0) (g 4) (g 5) (g 6) p1 p2 = some res) : MAi yX0_addPerson cX0_addPerson 3 (some .int) 0 (fun a => [.ref (a 1), .int p1, .int p2]) r g u h res.1 (lkp r [(0, res.2.1)]) (lkp g [(4, res.2.2.1), (5, res.2.2.2.1), (6, res.2.2.2.2)]) u h := by
  refine mi_i (by decide +kernel) (fun a => Nat.le_of_ble_eq_true rfl) (fun X hX hn hR => ?_)
  replace hR : ∀ q : Int32 × Int32 × (Nat → Int32) × (Nat → Int32) × (Nat → Int32), some q = some res → ∀ lv pc, decode cX0_addPerson pc = .ok (.ireturn, 1) → narrow .int (.int q.1) = .int q.1 → VC X (lkp r [(0, q.2.1)]) (lkp g [(4, q.2.2.1), (5, q.2.2.2.1), (6, q.2.2.2.2)]) u h lv [.int q.1] pc := fun q hq => by cases hq; exact hR
  replace hX : CX X RX0 cX0_addPerson 0 := hX
  refine v_opr [0] [(0, r 0)] rfl ?_
  refine v_opg [4, 5, 6] [(4, g 4), (5, g 5), (6, g 6)] rfl ?_
  show VC X (lkp r [(0, r 0)]) (lkp g [(4, g 4), (5, g 5), (6, g 6)]) u h [(0, .ref (aX X 1)), (1, .int p1), (2, .int p2)] [] 0
  rw [f0_addPerson] at hf
  refine v_aload_n hX dX0_addPerson_0 rfl 0 rfl 1 rfl ?_
  refine gf_1_2 hX q_404 dX0_addPerson_1 ((r 0)) rfl 4 rfl ?_
  refine v_bipush (v := (10 : Int32)) hX dX0_addPerson_4 (by decide) 6 rfl ?_
  refine v_icmp_lt hX dX0_addPerson_6 12 rfl 9 rfl (fun h4 => ?_) (fun h4 => ?_)
  · replace hf := it_p h4 hf
    refine v_aload_n hX dX0_addPerson_12 rfl 0 rfl 13 rfl ?_
    refine gf_1_3 hX q_48 dX0_addPerson_13 16 rfl ?_
    refine v_aload_n hX dX0_addPerson_16 rfl 0 rfl 17 rfl ?_
    refine gf_1_2 hX q_404 dX0_addPerson_17 ((r 0)) rfl 20 rfl ?_
    refine v_iload_n hX dX0_addPerson_20 rfl 1 rfl 21 rfl ?_
    obtain ⟨hi1, hf⟩ := gd_e hf
    refine as_4 hX hi1 dX0_addPerson_21 22 rfl (g 4) rfl [(4, (upd (g 4) (r 0).toNatClampNeg p1)), (5, (g 5)), (6, (g 6))] rfl ?_
    refine v_aload_n hX dX0_addPerson_22 rfl 0 rfl 23 rfl ?_
    refine gf_1_4 hX q_50 dX0_addPerson_23 26 rfl ?_
    refine v_aload_n hX dX0_addPerson_26 rfl 0 rfl 27 rfl ?_
    refine gf_1_2 hX q_404 dX0_addPerson_27 ((r 0)) rfl 30 rfl ?_
    refine v_iload_n hX dX0_addPerson_30 rfl 2 rfl 31 rfl ?_
    obtain ⟨hi2, hf⟩ := gd_e hf
    refine as_5 hX hi2 dX0_addPerson_31 32 rfl (g 5) rfl [(4, (upd (g 4) (r 0).toNatClampNeg p1)), (5, (upd (g 5) (r 0).toNatClampNeg (vp_nar .boolean p2))), (6, (g 6))] rfl ?_
    refine v_aload_n hX dX0_addPerson_32 rfl 0 rfl 33 rfl ?_
    refine gf_1_5 hX q_51 dX0_addPerson_33 36 rfl ?_
    refine v_aload_n hX dX0_addPerson_36 rfl 0 rfl 37 rfl ?_
    refine gf_1_2 hX q_404 dX0_addPerson_37 ((r 0)) rfl 40 rfl ?_
    refine v_aload_n hX dX0_addPerson_40 rfl 0 rfl 41 rfl ?_
    refine gf_1_2 hX q_404 dX0_addPerson_41 ((r 0)) rfl 44 rfl ?_
    obtain ⟨hi3, hf⟩ := gd_e hf
    refine as_6 hX hi3 dX0_addPerson_44 45 rfl (g 6) rfl [(4, (upd (g 4) (r 0).toNatClampNeg p1)), (5, (upd (g 5) (r 0).toNatClampNeg (vp_nar .boolean p2))), (6, (upd (g 6) (r 0).toNatClampNeg (r 0)))] rfl ?_
    refine v_aload_n hX dX0_addPerson_45 rfl 0 rfl 46 rfl ?_
    refine v_dup hX dX0_addPerson_46 rfl 47 rfl ?_
    refine gf_1_2 hX q_404 dX0_addPerson_47 ((r 0)) rfl 50 rfl ?_
    refine v_dup_x1 hX dX0_addPerson_50 rfl rfl 51 rfl ?_
    refine v_iconst (v := (1 : Int32)) hX dX0_addPerson_51 (by decide) 52 rfl ?_
    refine v_iadd hX dX0_addPerson_52 53 rfl ?_
    refine pf_1_2 hX q_404 dX0_addPerson_53 56 rfl [(0, ((r 0) + (1 : Int32)))] rfl ?_
    exact hR _ hf _ _ dX0_addPerson_56 rfl
  · replace hf := it_n h4 hf
    refine v_bipush (v := (-2 : Int32)) hX dX0_addPerson_9 (by decide) 11 rfl ?_
    exact hR _ hf _ _ dX0_addPerson_11 rfl
set_option maxRecDepth 100000 in
set_option maxHeartbeats 4000000 in
theorem c0_claimsWith (r : Nat → Int32) (g : Nat → Nat → Int32) (u : Nat → Int64) (h : Nat → Nat → Int64) (p1 : Int32) {res : Int32} (hf : f0_claimsWith (r 1) (r 0) (g 6) (g 8) p1 = some res) : MAi yX0_claimsWith cX0_claimsWith 4 (some .int) 4 (fun a => [.ref (a 1), .int p1]) r g u h res r g u h := by
  refine mi_i (by decide +kernel) (fun a => Nat.le_of_ble_eq_true rfl) (fun X hX hn hR => ?_)
  replace hR : ∀ q : Int32, some q = some res → ∀ lv pc, decode cX0_claimsWith pc = .ok (.ireturn, 1) → narrow .int (.int q) = .int q → VC X r g u h lv [.int q] pc := fun q hq => by cases hq; exact hR
  replace hX : CX X RX0 cX0_claimsWith 4 := hX
  show VC X r g u h [(0, .ref (aX X 1)), (1, .int p1)] [] 0
  rw [f0_claimsWith] at hf
  refine v_iconst (v := (0 : Int32)) hX dX0_claimsWith_0 (by decide) 1 rfl ?_
  refine v_istore_n hX dX0_claimsWith_1 rfl (ltn hn (by decide)) 2 rfl [(2, .int (0 : Int32)), (0, .ref (aX X 1)), (1, .int p1)] rfl ?_
  refine v_iconst (v := (0 : Int32)) hX dX0_claimsWith_2 (by decide) 3 rfl ?_
  refine v_istore_n hX dX0_claimsWith_3 rfl (ltn hn (by decide)) 4 rfl [(3, .int (0 : Int32)), (2, .int (0 : Int32)), (0, .ref (aX X 1)), (1, .int p1)] rfl ?_
  obtain ⟨K3, hK3, hf⟩ := jn_x hf
  have HK3 : ∀ (x1 : Int32) (x2 : Int32), K3 x1 x2 = some res → VC X r g u h [(2, .int x1)] [] 30 := by
    intro x1 x2 hf
    rw [hK3] at hf
    refine v_iload_n hX dX0_claimsWith_30 rfl 0 rfl 31 rfl ?_
    exact hR _ hf _ _ dX0_claimsWith_31 rfl
  have HLK3 : ∀ (n4 : Nat) (x1 : Int32) (x2 : Int32), f0_claimsWith_L4 (r 1) (r 0) (g 6) (g 8) p1 n4 x1 x2 K3 = some res → VC X r g u h [(0, .ref (aX X 1)), (1, .int p1), (2, .int x1), (3, .int x2)] [] 4 := by
    intro n4
    induction n4 with
    | zero => intro x1 x2 hf; exact no_s hf
    | succ n4 ih =>
      intro x1 x2 hf
      rw [f0_claimsWith_L4] at hf
      refine v_iload_n hX dX0_claimsWith_4 rfl 3 rfl 5 rfl ?_
      refine v_aload_n hX dX0_claimsWith_5 rfl 0 rfl 6 rfl ?_
      refine gf_1_6 hX q_428 dX0_claimsWith_6 ((r 1)) rfl 9 rfl ?_
      refine v_icmp_ge hX dX0_claimsWith_9 30 rfl 12 rfl (fun h9 => ?_) (fun h9 => ?_)
      · replace hf := it_p h9 hf
        refine v_sub [(2, .int x1)] (sbc 2 rfl sbn) ?_
        exact HK3 _ _ hf
      · replace hf := it_n h9 hf
        refine v_aload_n hX dX0_claimsWith_12 rfl 0 rfl 13 rfl ?_
        refine v_iload_n hX dX0_claimsWith_13 rfl 3 rfl 14 rfl ?_
        refine v_iload_n hX dX0_claimsWith_14 rfl 1 rfl 15 rfl ?_
        obtain ⟨v5, hv5, hf⟩ := bn1_e hf
        refine cv_i hX (c0_isIn r g u h _ _ hv5) wvX0_isIn q_429 rc_1 (Nat.le_of_ble_eq_true rfl) (Nat.le_of_ble_eq_true rfl) (fun _ => rfl) [] rfl (Nat.le_of_ble_eq_true rfl) dX0_claimsWith_15 18 rfl ?_
        obtain ⟨J6, hJ6, hf⟩ := jn_x hf
        have HJ6 : ∀ (y7 : Int32), J6 y7 = some res → VC X r g u h [(0, .ref (aX X 1)), (1, .int p1), (2, .int y7), (3, .int x2)] [] 24 := by
          intro y7 hf
          rw [hJ6] at hf
          refine v_inc (c := (1 : Int32)) hX dX0_claimsWith_24 3 rfl (by decide) (ltn hn (by decide)) 27 rfl [(3, .int (x2 + (1 : Int32))), (0, .ref (aX X 1)), (1, .int p1), (2, .int y7)] rfl ?_
          refine v_goto hX dX0_claimsWith_27 4 rfl ?_
          refine v_sub [(0, .ref (aX X 1)), (1, .int p1), (2, .int y7), (3, .int (x2 + (1 : Int32)))] (sbc 1 rfl (sbc 2 rfl (sbc 3 rfl (sbc 0 rfl sbn)))) ?_
          exact ih _ _ hf
        refine v_if_eq hX dX0_claimsWith_18 24 rfl 21 rfl (fun h8 => ?_) (fun h8 => ?_)
        · replace hf := it_p h8 hf
          exact HJ6 _ hf
        · replace hf := it_n h8 hf
          refine v_inc (c := (1 : Int32)) hX dX0_claimsWith_21 2 rfl (by decide) (ltn hn (by decide)) 24 rfl [(2, .int (x1 + (1 : Int32))), (0, .ref (aX X 1)), (1, .int p1), (3, .int x2)] rfl ?_
          refine v_sub [(0, .ref (aX X 1)), (1, .int p1), (2, .int (x1 + (1 : Int32))), (3, .int x2)] (sbc 1 rfl (sbc 2 rfl (sbc 0 rfl (sbc 3 rfl sbn)))) ?_
          exact HJ6 _ hf
  refine v_sub [(0, .ref (aX X 1)), (1, .int p1), (2, .int (0 : Int32)), (3, .int (0 : Int32))] (sbc 2 rfl (sbc 3 rfl (sbc 1 rfl (sbc 0 rfl sbn)))) ?_
  exact HLK3 _ _ _ hf
set_option maxRecDepth 100000 in
set_option maxHeartbeats 4000000 in
theorem c6_push (r : Nat → Int32) (g : Nat → Nat → Int32) (u : Nat → Int64) (h : Nat → Nat → Int64) (p1 : Int32) {res : Int32 × (Nat → Int32)} (hf : f6_push (r 4) (g 13) p1 = some res) : MAv yX6_push cX6_push 2 none 0 (fun a => [.ref (a 11), .int p1]) r g u h (lkp r [(4, res.1)]) (lkp g [(13, res.2)]) u h := by
  refine mi_v (by decide +kernel) (fun a => Nat.le_of_ble_eq_true rfl) (fun X hX hn hR => ?_)
  replace hR : ∀ q : Int32 × (Nat → Int32), some q = some res → ∀ lv pc, decode cX6_push pc = .ok (.return_, 1) → VC X (lkp r [(4, q.1)]) (lkp g [(13, q.2)]) u h lv [] pc := fun q hq => by cases hq; exact hR
  replace hX : CX X RX6 cX6_push 0 := hX
  refine v_opr [4] [(4, r 4)] rfl ?_
  refine v_opg [13] [(13, g 13)] rfl ?_
  show VC X (lkp r [(4, r 4)]) (lkp g [(13, g 13)]) u h [(0, .ref (aX X 11)), (1, .int p1)] [] 0
  rw [f6_push] at hf
  refine v_aload_n hX dX6_push_0 rfl 0 rfl 1 rfl ?_
  refine gf_11_4 hX q_856 dX6_push_1 ((r 4)) rfl 4 rfl ?_
  refine v_sipush (v := (210 : Int32)) hX dX6_push_4 (by decide) 7 rfl ?_
  refine v_icmp_ge hX dX6_push_7 27 rfl 10 rfl (fun h2 => ?_) (fun h2 => ?_)
  · replace hf := it_p h2 hf
    exact hR _ hf _ _ dX6_push_27
  · replace hf := it_n h2 hf
    refine v_aload_n hX dX6_push_10 rfl 0 rfl 11 rfl ?_
    refine gf_11_1 hX q_65 dX6_push_11 14 rfl ?_
    refine v_aload_n hX dX6_push_14 rfl 0 rfl 15 rfl ?_
    refine v_dup hX dX6_push_15 rfl 16 rfl ?_
    refine gf_11_4 hX q_856 dX6_push_16 ((r 4)) rfl 19 rfl ?_
    refine v_dup_x1 hX dX6_push_19 rfl rfl 20 rfl ?_
    refine v_iconst (v := (1 : Int32)) hX dX6_push_20 (by decide) 21 rfl ?_
    refine v_iadd hX dX6_push_21 22 rfl ?_
    refine pf_11_4 hX q_856 dX6_push_22 25 rfl [(4, ((r 4) + (1 : Int32)))] rfl ?_
    refine v_iload_n hX dX6_push_25 rfl 1 rfl 26 rfl ?_
    obtain ⟨hi1, hf⟩ := gd_e hf
    refine as_13 hX hi1 dX6_push_26 27 rfl (g 13) rfl [(13, (upd (g 13) (r 4).toNatClampNeg p1))] rfl ?_
    exact hR _ hf _ _ dX6_push_27
set_option maxRecDepth 100000 in
set_option maxHeartbeats 4000000 in
theorem c6_pop (r : Nat → Int32) (g : Nat → Nat → Int32) (u : Nat → Int64) (h : Nat → Nat → Int64)  {res : Int32 × Int32} (hf : f6_pop (r 4) (g 13) = some res) : MAi yX6_pop cX6_pop 1 (some .int) 0 (fun a => [.ref (a 11)]) r g u h res.1 (lkp r [(4, res.2)]) g u h := by
  refine mi_i (by decide +kernel) (fun a => Nat.le_of_ble_eq_true rfl) (fun X hX hn hR => ?_)
  replace hR : ∀ q : Int32 × Int32, some q = some res → ∀ lv pc, decode cX6_pop pc = .ok (.ireturn, 1) → narrow .int (.int q.1) = .int q.1 → VC X (lkp r [(4, q.2)]) g u h lv [.int q.1] pc := fun q hq => by cases hq; exact hR
  replace hX : CX X RX6 cX6_pop 0 := hX
  refine v_opr [4] [(4, r 4)] rfl ?_
  show VC X (lkp r [(4, r 4)]) g u h [(0, .ref (aX X 11))] [] 0
  rw [f6_pop] at hf
  refine v_aload_n hX dX6_pop_0 rfl 0 rfl 1 rfl ?_
  refine gf_11_4 hX q_856 dX6_pop_1 ((r 4)) rfl 4 rfl ?_
  refine v_if_le hX dX6_pop_4 26 rfl 7 rfl (fun h2 => ?_) (fun h2 => ?_)
  · replace hf := it_p h2 hf
    refine v_iconst (v := (0 : Int32)) hX dX6_pop_26 (by decide) 27 rfl ?_
    exact hR _ hf _ _ dX6_pop_27 rfl
  · replace hf := it_n h2 hf
    refine v_aload_n hX dX6_pop_7 rfl 0 rfl 8 rfl ?_
    refine gf_11_1 hX q_65 dX6_pop_8 11 rfl ?_
    refine v_aload_n hX dX6_pop_11 rfl 0 rfl 12 rfl ?_
    refine v_dup hX dX6_pop_12 rfl 13 rfl ?_
    refine gf_11_4 hX q_856 dX6_pop_13 ((r 4)) rfl 16 rfl ?_
    refine v_iconst (v := (1 : Int32)) hX dX6_pop_16 (by decide) 17 rfl ?_
    refine v_isub hX dX6_pop_17 18 rfl ?_
    refine v_dup_x1 hX dX6_pop_18 rfl rfl 19 rfl ?_
    refine pf_11_4 hX q_856 dX6_pop_19 22 rfl [(4, ((r 4) - (1 : Int32)))] rfl ?_
    obtain ⟨hi1, hf⟩ := gd_e hf
    refine al_13 hX hi1 dX6_pop_22 ((g 13) ((r 4) - (1 : Int32)).toNatClampNeg) rfl 23 rfl ?_
    refine v_goto hX dX6_pop_23 27 rfl ?_
    exact hR _ hf _ _ dX6_pop_27 rfl
set_option maxRecDepth 100000 in
set_option maxHeartbeats 4000000 in
theorem c6_compare (r : Nat → Int32) (g : Nat → Nat → Int32) (u : Nat → Int64) (h : Nat → Nat → Int64) (p1 : Int32) {res : Int32 × (Nat → Int32)} (hf : f6_compare (r 4) (g 13) p1 = some res) : MAv yX6_compare cX6_compare 5 none 1 (fun a => [.ref (a 11), .int p1]) r g u h (lkp r [(4, res.1)]) (lkp g [(13, res.2)]) u h := by
  refine mi_v (by decide +kernel) (fun a => Nat.le_of_ble_eq_true rfl) (fun X hX hn hR => ?_)
  replace hR : ∀ q : Int32 × (Nat → Int32), some q = some res → ∀ lv pc, decode cX6_compare pc = .ok (.return_, 1) → VC X (lkp r [(4, q.1)]) (lkp g [(13, q.2)]) u h lv [] pc := fun q hq => by cases hq; exact hR
  replace hX : CX X RX6 cX6_compare 1 := hX
  refine v_opr [4] [(4, r 4)] rfl ?_
  refine v_opg [13] [(13, g 13)] rfl ?_
  show VC X (lkp r [(4, r 4)]) (lkp g [(13, g 13)]) u h [(0, .ref (aX X 11)), (1, .int p1)] [] 0
  rw [f6_compare] at hf
  refine v_aload_n hX dX6_compare_0 rfl 0 rfl 1 rfl ?_
  obtain ⟨v1, c2, hv1, hf⟩ := bn2_e hf
  refine cv_i hX (c6_pop (lkp r [(4, (r 4))]) (lkp g [(13, (g 13))]) u h hv1) wvX6_pop q_870 rc_11 (Nat.le_of_ble_eq_true rfl) (Nat.le_of_ble_eq_true rfl) (fun _ => rfl) [] rfl (Nat.le_of_ble_eq_true rfl) dX6_compare_1 4 rfl ?_
  refine v_mgr [(4, c2)] rfl ?_
  refine v_istore_n hX dX6_compare_4 rfl (ltn hn (by decide)) 5 rfl [(2, .int v1), (0, .ref (aX X 11)), (1, .int p1)] rfl ?_
  refine v_aload_n hX dX6_compare_5 rfl 1 rfl 6 rfl ?_
  obtain ⟨v3, c4, hv3, hf⟩ := bn2_e hf
  refine cv_i hX (c6_pop (lkp r [(4, c2)]) (lkp g [(13, (g 13))]) u h hv3) wvX6_pop q_870 rc_11 (Nat.le_of_ble_eq_true rfl) (Nat.le_of_ble_eq_true rfl) (fun _ => rfl) [] rfl (Nat.le_of_ble_eq_true rfl) dX6_compare_6 9 rfl ?_
  refine v_mgr [(4, c4)] rfl ?_
  refine v_istore_n hX dX6_compare_9 rfl (ltn hn (by decide)) 10 rfl [(3, .int v3), (2, .int v1), (0, .ref (aX X 11)), (1, .int p1)] rfl ?_
  refine v_iload_n hX dX6_compare_10 rfl 3 rfl 11 rfl ?_
  refine v_sipush (v := (2000 : Int32)) hX dX6_compare_11 (by decide) 14 rfl ?_
  obtain ⟨J5, hJ5, hf⟩ := jn_x hf
  have HJ5 : ∀ (s6 : Int32), J5 s6 = some res → VC X (lkp r [(4, c4)]) (lkp g [(13, (g 13))]) u h [(0, .ref (aX X 11))] [.int s6] 60 := by
    intro s6 hf
    rw [hJ5] at hf
    refine v_istore hX dX6_compare_60 (ltn hn (by decide)) 62 rfl [(4, .int s6), (0, .ref (aX X 11))] rfl ?_
    refine v_aload_n hX dX6_compare_62 rfl 1 rfl 63 rfl ?_
    refine v_iload hX dX6_compare_63 0 rfl 65 rfl ?_
    obtain ⟨J7, hJ7, hf⟩ := jn_x hf
    have HJ7 : ∀ (s8 : Int32), J7 s8 = some res → VC X (lkp r [(4, c4)]) (lkp g [(13, (g 13))]) u h [] [.int s8, .ref (aX X 11)] 73 := by
      intro s8 hf
      rw [hJ7] at hf
      obtain ⟨c9, c10, hc9, hf⟩ := bn2_e hf
      refine cv_v hX (c6_push (lkp r [(4, c4)]) (lkp g [(13, (g 13))]) u h _ hc9) wvX6_push q_862 rc_11 (Nat.le_of_ble_eq_true rfl) (Nat.le_of_ble_eq_true rfl) (fun _ => rfl) [] rfl (Nat.le_of_ble_eq_true rfl) dX6_compare_73 76 rfl ?_
      refine v_mgr [(4, c9)] rfl ?_
      refine v_mgg [(13, c10)] rfl ?_
      exact hR _ hf _ _ dX6_compare_76
    refine v_if_eq hX dX6_compare_65 72 rfl 68 rfl (fun h11 => ?_) (fun h11 => ?_)
    · replace hf := it_p h11 hf
      refine v_iconst (v := (0 : Int32)) hX dX6_compare_72 (by decide) 73 rfl ?_
      refine v_sub [] sbn ?_
      exact HJ7 _ hf
    · replace hf := it_n h11 hf
      refine v_iconst (v := (1 : Int32)) hX dX6_compare_68 (by decide) 69 rfl ?_
      refine v_goto hX dX6_compare_69 73 rfl ?_
      refine v_sub [] sbn ?_
      exact HJ7 _ hf
  refine v_icmp_ne hX dX6_compare_14 30 rfl 17 rfl (fun h16 => ?_) (fun h16 => ?_)
  · replace hf := it_n h16 hf
    refine v_iload_n hX dX6_compare_30 rfl 3 rfl 31 rfl ?_
    refine v_sipush (v := (2001 : Int32)) hX dX6_compare_31 (by decide) 34 rfl ?_
    refine v_icmp_ne hX dX6_compare_34 50 rfl 37 rfl (fun h14 => ?_) (fun h14 => ?_)
    · replace hf := it_n h14 hf
      refine v_iload_n hX dX6_compare_50 rfl 0 rfl 51 rfl ?_
      refine v_iload_n hX dX6_compare_51 rfl 1 rfl 52 rfl ?_
      refine v_icmp_le hX dX6_compare_52 59 rfl 55 rfl (fun h12 => ?_) (fun h12 => ?_)
      · replace hf := it_p h12 hf
        refine v_iconst (v := (0 : Int32)) hX dX6_compare_59 (by decide) 60 rfl ?_
        refine v_sub [(0, .ref (aX X 11))] (sbc 2 rfl sbn) ?_
        exact HJ5 _ hf
      · replace hf := it_n h12 hf
        refine v_iconst (v := (1 : Int32)) hX dX6_compare_55 (by decide) 56 rfl ?_
        refine v_goto hX dX6_compare_56 60 rfl ?_
        refine v_sub [(0, .ref (aX X 11))] (sbc 2 rfl sbn) ?_
        exact HJ5 _ hf
    · replace hf := it_p h14 hf
      refine v_iload_n hX dX6_compare_37 rfl 0 rfl 38 rfl ?_
      refine v_iload_n hX dX6_compare_38 rfl 1 rfl 39 rfl ?_
      refine v_icmp_ne hX dX6_compare_39 46 rfl 42 rfl (fun h13 => ?_) (fun h13 => ?_)
      · replace hf := it_n h13 hf
        refine v_iconst (v := (0 : Int32)) hX dX6_compare_46 (by decide) 47 rfl ?_
        refine v_goto hX dX6_compare_47 60 rfl ?_
        refine v_sub [(0, .ref (aX X 11))] (sbc 2 rfl sbn) ?_
        exact HJ5 _ hf
      · replace hf := it_p h13 hf
        refine v_iconst (v := (1 : Int32)) hX dX6_compare_42 (by decide) 43 rfl ?_
        refine v_goto hX dX6_compare_43 60 rfl ?_
        refine v_sub [(0, .ref (aX X 11))] (sbc 2 rfl sbn) ?_
        exact HJ5 _ hf
  · replace hf := it_p h16 hf
    refine v_iload_n hX dX6_compare_17 rfl 0 rfl 18 rfl ?_
    refine v_iload_n hX dX6_compare_18 rfl 1 rfl 19 rfl ?_
    refine v_icmp_ge hX dX6_compare_19 26 rfl 22 rfl (fun h15 => ?_) (fun h15 => ?_)
    · replace hf := it_p h15 hf
      refine v_iconst (v := (0 : Int32)) hX dX6_compare_26 (by decide) 27 rfl ?_
      refine v_goto hX dX6_compare_27 60 rfl ?_
      refine v_sub [(0, .ref (aX X 11))] (sbc 2 rfl sbn) ?_
      exact HJ5 _ hf
    · replace hf := it_n h15 hf
      refine v_iconst (v := (1 : Int32)) hX dX6_compare_22 (by decide) 23 rfl ?_
      refine v_goto hX dX6_compare_23 60 rfl ?_
      refine v_sub [(0, .ref (aX X 11))] (sbc 2 rfl sbn) ?_
      exact HJ5 _ hf
set_option maxRecDepth 100000 in
set_option maxHeartbeats 4000000 in
theorem c6_obey (r : Nat → Int32) (g : Nat → Nat → Int32) (u : Nat → Int64) (h : Nat → Nat → Int64) (p1 : Int32) {res : Int32 × Int32 × (Nat → Int32)} (hf : f6_obey (r 5) (r 4) (g 51) (g 13) p1 = some res) : MAv yX6_obey cX6_obey 3 none 2 (fun a => [.ref (a 11), .int p1, .ref (a 51)]) r g u h (lkp r [(5, res.1), (4, res.2.1)]) (lkp g [(13, res.2.2)]) u h := by
  refine mi_v (by decide +kernel) (fun a => Nat.le_of_ble_eq_true rfl) (fun X hX hn hR => ?_)
  replace hR : ∀ q : Int32 × Int32 × (Nat → Int32), some q = some res → ∀ lv pc, decode cX6_obey pc = .ok (.return_, 1) → VC X (lkp r [(5, q.1), (4, q.2.1)]) (lkp g [(13, q.2.2)]) u h lv [] pc := fun q hq => by cases hq; exact hR
  replace hX : CX X RX6 cX6_obey 2 := hX
  refine v_opr [5, 4] [(5, r 5), (4, r 4)] rfl ?_
  refine v_opg [13] [(13, g 13)] rfl ?_
  show VC X (lkp r [(5, r 5), (4, r 4)]) (lkp g [(13, g 13)]) u h [(0, .ref (aX X 11)), (1, .int p1), (2, .ref (aX X 51))] [] 0
  rw [f6_obey] at hf
  refine v_iload_n hX dX6_obey_0 rfl 1 rfl 1 rfl ?_
  refine v_sipush (v := (1000 : Int32)) hX dX6_obey_1 (by decide) 4 rfl ?_
  refine v_icmp_ge hX dX6_obey_4 15 rfl 7 rfl (fun h46 => ?_) (fun h46 => ?_)
  · replace hf := it_p h46 hf
    refine v_iload_n hX dX6_obey_15 rfl 1 rfl 16 rfl ?_
    refine v_sipush (v := (2000 : Int32)) hX dX6_obey_16 (by decide) 19 rfl ?_
    refine v_icmp_ge hX dX6_obey_19 50 rfl 22 rfl (fun h43 => ?_) (fun h43 => ?_)
    · replace hf := it_p h43 hf
      refine v_iload_n hX dX6_obey_50 rfl 1 rfl 51 rfl ?_
      refine v_sipush (v := (2003 : Int32)) hX dX6_obey_51 (by decide) 54 rfl ?_
      refine v_icmp_ge hX dX6_obey_54 65 rfl 57 rfl (fun h36 => ?_) (fun h36 => ?_)
      · replace hf := it_p h36 hf
        refine v_iload_n hX dX6_obey_65 rfl 1 rfl 66 rfl ?_
        refine v_sipush (v := (2003 : Int32)) hX dX6_obey_66 (by decide) 69 rfl ?_
        refine v_icmp_ne hX dX6_obey_69 85 rfl 72 rfl (fun h33 => ?_) (fun h33 => ?_)
        · replace hf := it_n h33 hf
          refine v_iload_n hX dX6_obey_85 rfl 1 rfl 86 rfl ?_
          refine v_sipush (v := (2004 : Int32)) hX dX6_obey_86 (by decide) 89 rfl ?_
          refine v_icmp_ne hX dX6_obey_89 108 rfl 92 rfl (fun h28 => ?_) (fun h28 => ?_)
          · replace hf := it_n h28 hf
            refine v_iload_n hX dX6_obey_108 rfl 1 rfl 109 rfl ?_
            refine v_sipush (v := (2005 : Int32)) hX dX6_obey_109 (by decide) 112 rfl ?_
            refine v_icmp_ne hX dX6_obey_112 131 rfl 115 rfl (fun h21 => ?_) (fun h21 => ?_)
            · replace hf := it_n h21 hf
              refine v_iload_n hX dX6_obey_131 rfl 1 rfl 132 rfl ?_
              refine v_sipush (v := (2010 : Int32)) hX dX6_obey_132 (by decide) 135 rfl ?_
              obtain ⟨J1, hJ1, hf⟩ := jn_x hf
              have HJ1 : J1 = some res → VC X (lkp r [(5, (r 5)), (4, (r 4))]) (lkp g [(13, (g 13))]) u h [(0, .ref (aX X 11)), (1, .int p1)] [] 145 := by
                intro hf
                rw [hJ1] at hf
                refine v_aload_n hX dX6_obey_145 rfl 0 rfl 146 rfl ?_
                refine v_iload_n hX dX6_obey_146 rfl 1 rfl 147 rfl ?_
                refine v_sipush (v := (2011 : Int32)) hX dX6_obey_147 (by decide) 150 rfl ?_
                obtain ⟨J2, hJ2, hf⟩ := jn_x hf
                have HJ2 : ∀ (s3 : Int32), J2 s3 = some res → VC X (lkp r [(5, (r 5)), (4, (r 4))]) (lkp g [(13, (g 13))]) u h [] [.int s3, .ref (aX X 11)] 158 := by
                  intro s3 hf
                  rw [hJ2] at hf
                  obtain ⟨hb4, hf⟩ := gd_e hf
                  refine pf_11_5 hX q_857 dX6_obey_158 hb4 161 rfl [(5, s3), (4, (r 4))] rfl ?_
                  refine v_goto hX dX6_obey_161 188 rfl ?_
                  exact hR _ hf _ _ dX6_obey_188
                refine v_icmp_ne hX dX6_obey_150 157 rfl 153 rfl (fun h5 => ?_) (fun h5 => ?_)
                · replace hf := it_n h5 hf
                  refine v_iconst (v := (0 : Int32)) hX dX6_obey_157 (by decide) 158 rfl ?_
                  refine v_sub [] sbn ?_
                  exact HJ2 _ hf
                · replace hf := it_p h5 hf
                  refine v_iconst (v := (1 : Int32)) hX dX6_obey_153 (by decide) 154 rfl ?_
                  refine v_goto hX dX6_obey_154 158 rfl ?_
                  refine v_sub [] sbn ?_
                  exact HJ2 _ hf
              refine v_icmp_eq hX dX6_obey_135 145 rfl 138 rfl (fun h14 => ?_) (fun h14 => ?_)
              · replace hf := it_p h14 hf
                refine v_sub [(0, .ref (aX X 11)), (1, .int p1)] (sbc 0 rfl (sbc 1 rfl sbn)) ?_
                exact HJ1  hf
              · replace hf := it_n h14 hf
                refine v_iload_n hX dX6_obey_138 rfl 1 rfl 139 rfl ?_
                refine v_sipush (v := (2011 : Int32)) hX dX6_obey_139 (by decide) 142 rfl ?_
                refine v_icmp_ne hX dX6_obey_142 164 rfl 145 rfl (fun h13 => ?_) (fun h13 => ?_)
                · replace hf := it_n h13 hf
                  refine v_aload_n hX dX6_obey_164 rfl 0 rfl 165 rfl ?_
                  obtain ⟨v6, c7, hv6, hf⟩ := bn2_e hf
                  refine cv_i hX (c6_pop (lkp r [(5, (r 5)), (4, (r 4))]) (lkp g [(13, (g 13))]) u h hv6) wvX6_pop q_870 rc_11 (Nat.le_of_ble_eq_true rfl) (Nat.le_of_ble_eq_true rfl) (fun _ => rfl) [] rfl (Nat.le_of_ble_eq_true rfl) dX6_obey_165 168 rfl ?_
                  refine v_mgr [(5, (r 5)), (4, c7)] rfl ?_
                  refine v_iconst (v := (1 : Int32)) hX dX6_obey_168 (by decide) 169 rfl ?_
                  refine v_icmp_ne hX dX6_obey_169 188 rfl 172 rfl (fun h12 => ?_) (fun h12 => ?_)
                  · replace hf := it_n h12 hf
                    exact hR _ hf _ _ dX6_obey_188
                  · replace hf := it_p h12 hf
                    refine v_aload_n hX dX6_obey_172 rfl 0 rfl 173 rfl ?_
                    refine v_iload_n hX dX6_obey_173 rfl 1 rfl 174 rfl ?_
                    refine v_sipush (v := (2013 : Int32)) hX dX6_obey_174 (by decide) 177 rfl ?_
                    obtain ⟨J8, hJ8, hf⟩ := jn_x hf
                    have HJ8 : ∀ (s9 : Int32), J8 s9 = some res → VC X (lkp r [(5, (r 5)), (4, c7)]) (lkp g [(13, (g 13))]) u h [] [.int s9, .ref (aX X 11)] 185 := by
                      intro s9 hf
                      rw [hJ8] at hf
                      obtain ⟨hb10, hf⟩ := gd_e hf
                      refine pf_11_5 hX q_857 dX6_obey_185 hb10 188 rfl [(5, s9), (4, c7)] rfl ?_
                      exact hR _ hf _ _ dX6_obey_188
                    refine v_icmp_ne hX dX6_obey_177 184 rfl 180 rfl (fun h11 => ?_) (fun h11 => ?_)
                    · replace hf := it_n h11 hf
                      refine v_iconst (v := (0 : Int32)) hX dX6_obey_184 (by decide) 185 rfl ?_
                      refine v_sub [] sbn ?_
                      exact HJ8 _ hf
                    · replace hf := it_p h11 hf
                      refine v_iconst (v := (1 : Int32)) hX dX6_obey_180 (by decide) 181 rfl ?_
                      refine v_goto hX dX6_obey_181 185 rfl ?_
                      refine v_sub [] sbn ?_
                      exact HJ8 _ hf
                · replace hf := it_p h13 hf
                  refine v_sub [(0, .ref (aX X 11)), (1, .int p1)] (sbc 0 rfl (sbc 1 rfl sbn)) ?_
                  exact HJ1  hf
            · replace hf := it_p h21 hf
              refine v_aload_n hX dX6_obey_115 rfl 0 rfl 116 rfl ?_
              refine v_aload_n hX dX6_obey_116 rfl 0 rfl 117 rfl ?_
              obtain ⟨v15, c16, hv15, hf⟩ := bn2_e hf
              refine cv_i hX (c6_pop (lkp r [(5, (r 5)), (4, (r 4))]) (lkp g [(13, (g 13))]) u h hv15) wvX6_pop q_870 rc_11 (Nat.le_of_ble_eq_true rfl) (Nat.le_of_ble_eq_true rfl) (fun _ => rfl) [.ref (aX X 11)] rfl (Nat.le_of_ble_eq_true rfl) dX6_obey_117 120 rfl ?_
              refine v_mgr [(5, (r 5)), (4, c16)] rfl ?_
              refine v_aload_n hX dX6_obey_120 rfl 0 rfl 121 rfl ?_
              obtain ⟨v17, c18, hv17, hf⟩ := bn2_e hf
              refine cv_i hX (c6_pop (lkp r [(5, (r 5)), (4, c16)]) (lkp g [(13, (g 13))]) u h hv17) wvX6_pop q_870 rc_11 (Nat.le_of_ble_eq_true rfl) (Nat.le_of_ble_eq_true rfl) (fun _ => rfl) [.int v15, .ref (aX X 11)] rfl (Nat.le_of_ble_eq_true rfl) dX6_obey_121 124 rfl ?_
              refine v_mgr [(5, (r 5)), (4, c18)] rfl ?_
              refine v_ior hX dX6_obey_124 125 rfl ?_
              obtain ⟨c19, c20, hc19, hf⟩ := bn2_e hf
              refine cv_v hX (c6_push (lkp r [(5, (r 5)), (4, c18)]) (lkp g [(13, (g 13))]) u h _ hc19) wvX6_push q_862 rc_11 (Nat.le_of_ble_eq_true rfl) (Nat.le_of_ble_eq_true rfl) (fun _ => rfl) [] rfl (Nat.le_of_ble_eq_true rfl) dX6_obey_125 128 rfl ?_
              refine v_mgr [(5, (r 5)), (4, c19)] rfl ?_
              refine v_mgg [(13, c20)] rfl ?_
              refine v_goto hX dX6_obey_128 188 rfl ?_
              exact hR _ hf _ _ dX6_obey_188
          · replace hf := it_p h28 hf
            refine v_aload_n hX dX6_obey_92 rfl 0 rfl 93 rfl ?_
            refine v_aload_n hX dX6_obey_93 rfl 0 rfl 94 rfl ?_
            obtain ⟨v22, c23, hv22, hf⟩ := bn2_e hf
            refine cv_i hX (c6_pop (lkp r [(5, (r 5)), (4, (r 4))]) (lkp g [(13, (g 13))]) u h hv22) wvX6_pop q_870 rc_11 (Nat.le_of_ble_eq_true rfl) (Nat.le_of_ble_eq_true rfl) (fun _ => rfl) [.ref (aX X 11)] rfl (Nat.le_of_ble_eq_true rfl) dX6_obey_94 97 rfl ?_
            refine v_mgr [(5, (r 5)), (4, c23)] rfl ?_
            refine v_aload_n hX dX6_obey_97 rfl 0 rfl 98 rfl ?_
            obtain ⟨v24, c25, hv24, hf⟩ := bn2_e hf
            refine cv_i hX (c6_pop (lkp r [(5, (r 5)), (4, c23)]) (lkp g [(13, (g 13))]) u h hv24) wvX6_pop q_870 rc_11 (Nat.le_of_ble_eq_true rfl) (Nat.le_of_ble_eq_true rfl) (fun _ => rfl) [.int v22, .ref (aX X 11)] rfl (Nat.le_of_ble_eq_true rfl) dX6_obey_98 101 rfl ?_
            refine v_mgr [(5, (r 5)), (4, c25)] rfl ?_
            refine v_iand hX dX6_obey_101 102 rfl ?_
            obtain ⟨c26, c27, hc26, hf⟩ := bn2_e hf
            refine cv_v hX (c6_push (lkp r [(5, (r 5)), (4, c25)]) (lkp g [(13, (g 13))]) u h _ hc26) wvX6_push q_862 rc_11 (Nat.le_of_ble_eq_true rfl) (Nat.le_of_ble_eq_true rfl) (fun _ => rfl) [] rfl (Nat.le_of_ble_eq_true rfl) dX6_obey_102 105 rfl ?_
            refine v_mgr [(5, (r 5)), (4, c26)] rfl ?_
            refine v_mgg [(13, c27)] rfl ?_
            refine v_goto hX dX6_obey_105 188 rfl ?_
            exact hR _ hf _ _ dX6_obey_188
        · replace hf := it_p h33 hf
          refine v_aload_n hX dX6_obey_72 rfl 0 rfl 73 rfl ?_
          refine v_iconst (v := (1 : Int32)) hX dX6_obey_73 (by decide) 74 rfl ?_
          refine v_aload_n hX dX6_obey_74 rfl 0 rfl 75 rfl ?_
          obtain ⟨v29, c30, hv29, hf⟩ := bn2_e hf
          refine cv_i hX (c6_pop (lkp r [(5, (r 5)), (4, (r 4))]) (lkp g [(13, (g 13))]) u h hv29) wvX6_pop q_870 rc_11 (Nat.le_of_ble_eq_true rfl) (Nat.le_of_ble_eq_true rfl) (fun _ => rfl) [.int (1 : Int32), .ref (aX X 11)] rfl (Nat.le_of_ble_eq_true rfl) dX6_obey_75 78 rfl ?_
          refine v_mgr [(5, (r 5)), (4, c30)] rfl ?_
          refine v_isub hX dX6_obey_78 79 rfl ?_
          obtain ⟨c31, c32, hc31, hf⟩ := bn2_e hf
          refine cv_v hX (c6_push (lkp r [(5, (r 5)), (4, c30)]) (lkp g [(13, (g 13))]) u h _ hc31) wvX6_push q_862 rc_11 (Nat.le_of_ble_eq_true rfl) (Nat.le_of_ble_eq_true rfl) (fun _ => rfl) [] rfl (Nat.le_of_ble_eq_true rfl) dX6_obey_79 82 rfl ?_
          refine v_mgr [(5, (r 5)), (4, c31)] rfl ?_
          refine v_mgg [(13, c32)] rfl ?_
          refine v_goto hX dX6_obey_82 188 rfl ?_
          exact hR _ hf _ _ dX6_obey_188
      · replace hf := it_n h36 hf
        refine v_aload_n hX dX6_obey_57 rfl 0 rfl 58 rfl ?_
        refine v_iload_n hX dX6_obey_58 rfl 1 rfl 59 rfl ?_
        obtain ⟨c34, c35, hc34, hf⟩ := bn2_e hf
        refine cv_v hX (c6_compare (lkp r [(5, (r 5)), (4, (r 4))]) (lkp g [(13, (g 13))]) u h _ hc34) wvX6_compare q_866 rc_11 (Nat.le_of_ble_eq_true rfl) (Nat.le_of_ble_eq_true rfl) (fun _ => rfl) [] rfl (Nat.le_of_ble_eq_true rfl) dX6_obey_59 62 rfl ?_
        refine v_mgr [(5, (r 5)), (4, c34)] rfl ?_
        refine v_mgg [(13, c35)] rfl ?_
        refine v_goto hX dX6_obey_62 188 rfl ?_
        exact hR _ hf _ _ dX6_obey_188
    · replace hf := it_n h43 hf
      refine v_aload_n hX dX6_obey_22 rfl 0 rfl 23 rfl ?_
      refine v_iload_n hX dX6_obey_23 rfl 1 rfl 24 rfl ?_
      refine v_sipush (v := (1000 : Int32)) hX dX6_obey_24 (by decide) 27 rfl ?_
      refine v_isub hX dX6_obey_27 28 rfl ?_
      refine v_bipush (v := (6 : Int32)) hX dX6_obey_28 (by decide) 30 rfl ?_
      obtain ⟨J37, hJ37, hf⟩ := jn_x hf
      have HJ37 : ∀ (s38 : Int32), J37 s38 = some res → VC X (lkp r [(5, (r 5)), (4, (r 4))]) (lkp g [(13, (g 13))]) u h [] [.int s38, .ref (aX X 11)] 44 := by
        intro s38 hf
        rw [hJ37] at hf
        obtain ⟨c39, c40, hc39, hf⟩ := bn2_e hf
        refine cv_v hX (c6_push (lkp r [(5, (r 5)), (4, (r 4))]) (lkp g [(13, (g 13))]) u h _ hc39) wvX6_push q_862 rc_11 (Nat.le_of_ble_eq_true rfl) (Nat.le_of_ble_eq_true rfl) (fun _ => rfl) [] rfl (Nat.le_of_ble_eq_true rfl) dX6_obey_44 47 rfl ?_
        refine v_mgr [(5, (r 5)), (4, c39)] rfl ?_
        refine v_mgg [(13, c40)] rfl ?_
        refine v_goto hX dX6_obey_47 188 rfl ?_
        exact hR _ hf _ _ dX6_obey_188
      refine v_icmp_ge hX dX6_obey_30 43 rfl 33 rfl (fun h42 => ?_) (fun h42 => ?_)
      · replace hf := it_p h42 hf
        refine v_iconst (v := (0 : Int32)) hX dX6_obey_43 (by decide) 44 rfl ?_
        refine v_sub [] sbn ?_
        exact HJ37 _ hf
      · replace hf := it_n h42 hf
        refine v_aload_n hX dX6_obey_33 rfl 2 rfl 34 rfl ?_
        refine v_iload_n hX dX6_obey_34 rfl 1 rfl 35 rfl ?_
        refine v_sipush (v := (1000 : Int32)) hX dX6_obey_35 (by decide) 38 rfl ?_
        refine v_isub hX dX6_obey_38 39 rfl ?_
        obtain ⟨hi41, hf⟩ := gd_e hf
        refine al_51 hX hi41 dX6_obey_39 ((g 51) (p1 - (1000 : Int32)).toNatClampNeg) rfl 40 rfl ?_
        refine v_goto hX dX6_obey_40 44 rfl ?_
        refine v_sub [] sbn ?_
        exact HJ37 _ hf
  · replace hf := it_n h46 hf
    refine v_aload_n hX dX6_obey_7 rfl 0 rfl 8 rfl ?_
    refine v_iload_n hX dX6_obey_8 rfl 1 rfl 9 rfl ?_
    obtain ⟨c44, c45, hc44, hf⟩ := bn2_e hf
    refine cv_v hX (c6_push (lkp r [(5, (r 5)), (4, (r 4))]) (lkp g [(13, (g 13))]) u h _ hc44) wvX6_push q_862 rc_11 (Nat.le_of_ble_eq_true rfl) (Nat.le_of_ble_eq_true rfl) (fun _ => rfl) [] rfl (Nat.le_of_ble_eq_true rfl) dX6_obey_9 12 rfl ?_
    refine v_mgr [(5, (r 5)), (4, c44)] rfl ?_
    refine v_mgg [(13, c45)] rfl ?_
    refine v_goto hX dX6_obey_12 188 rfl ?_
    exact hR _ hf _ _ dX6_obey_188
set_option maxRecDepth 100000 in
set_option maxHeartbeats 4000000 in
theorem c6_ask (r : Nat → Int32) (g : Nat → Nat → Int32) (u : Nat → Int64) (h : Nat → Nat → Int64)  {res : Int32 × Int32 × Int32 × (Nat → Int32)} (hf : f6_ask (r 5) (r 2) (r 4) (g 51) (g 12) (g 13) = some res) : MAi yX6_ask cX6_ask 3 (some .boolean) 3 (fun a => [.ref (a 11), .ref (a 51)]) r g u h res.1 (lkp r [(5, res.2.1), (4, res.2.2.1)]) (lkp g [(13, res.2.2.2)]) u h := by
  refine mi_i (by decide +kernel) (fun a => Nat.le_of_ble_eq_true rfl) (fun X hX hn hR => ?_)
  replace hR : ∀ q : Int32 × Int32 × Int32 × (Nat → Int32), some q = some res → ∀ lv pc, decode cX6_ask pc = .ok (.ireturn, 1) → narrow .boolean (.int q.1) = .int q.1 → VC X (lkp r [(5, q.2.1), (4, q.2.2.1)]) (lkp g [(13, q.2.2.2)]) u h lv [.int q.1] pc := fun q hq => by cases hq; exact hR
  replace hX : CX X RX6 cX6_ask 3 := hX
  refine v_opr [5, 4] [(5, r 5), (4, r 4)] rfl ?_
  refine v_opg [13] [(13, g 13)] rfl ?_
  show VC X (lkp r [(5, r 5), (4, r 4)]) (lkp g [(13, g 13)]) u h [(0, .ref (aX X 11)), (1, .ref (aX X 51))] [] 0
  rw [f6_ask] at hf
  refine v_aload_n hX dX6_ask_0 rfl 0 rfl 1 rfl ?_
  refine v_iconst (v := (0 : Int32)) hX dX6_ask_1 (by decide) 2 rfl ?_
  refine pf_11_4 hX q_856 dX6_ask_2 5 rfl [(5, (r 5)), (4, (0 : Int32))] rfl ?_
  refine v_aload_n hX dX6_ask_5 rfl 0 rfl 6 rfl ?_
  refine v_iconst (v := (0 : Int32)) hX dX6_ask_6 (by decide) 7 rfl ?_
  refine pf_11_5 hX q_857 dX6_ask_7 (by decide) 10 rfl [(5, (0 : Int32)), (4, (0 : Int32))] rfl ?_
  refine v_iconst (v := (0 : Int32)) hX dX6_ask_10 (by decide) 11 rfl ?_
  refine v_istore_n hX dX6_ask_11 rfl (ltn hn (by decide)) 12 rfl [(2, .int (0 : Int32)), (0, .ref (aX X 11)), (1, .ref (aX X 51))] rfl ?_
  obtain ⟨K5, hK5, hf⟩ := jn_x hf
  have HK5 : ∀ (x1 : Int32) (c2 : Int32) (c3 : Int32) (c4 : (Nat → Int32)), K5 x1 c2 c3 c4 = some res → VC X (lkp r [(5, c2), (4, c3)]) (lkp g [(13, c4)]) u h [(0, .ref (aX X 11))] [] 44 := by
    intro x1 c2 c3 c4 hf
    rw [hK5] at hf
    refine v_aload_n hX dX6_ask_44 rfl 0 rfl 45 rfl ?_
    refine gf_11_5 hX q_857 dX6_ask_45 (c2) rfl 48 rfl ?_
    obtain ⟨hb13, hf⟩ := gd_e hf
    exact hR _ hf _ _ dX6_ask_48 (bz_nar hb13)
  have HLK5 : ∀ (n6 : Nat) (x1 : Int32) (c2 : Int32) (c3 : Int32) (c4 : (Nat → Int32)), f6_ask_L12 (r 2) (g 51) (g 12) n6 x1 c2 c3 c4 K5 = some res → VC X (lkp r [(5, c2), (4, c3)]) (lkp g [(13, c4)]) u h [(0, .ref (aX X 11)), (1, .ref (aX X 51)), (2, .int x1)] [] 12 := by
    intro n6
    induction n6 with
    | zero => intro x1 c2 c3 c4 hf; exact no_s hf
    | succ n6 ih =>
      intro x1 c2 c3 c4 hf
      rw [f6_ask_L12] at hf
      refine v_iload_n hX dX6_ask_12 rfl 2 rfl 13 rfl ?_
      refine v_aload_n hX dX6_ask_13 rfl 0 rfl 14 rfl ?_
      refine gf_11_2 hX q_274 dX6_ask_14 ((r 2)) rfl 17 rfl ?_
      refine v_icmp_ge hX dX6_ask_17 44 rfl 20 rfl (fun h12 => ?_) (fun h12 => ?_)
      · replace hf := it_p h12 hf
        refine v_sub [(0, .ref (aX X 11))] (sbc 0 rfl sbn) ?_
        exact HK5 _ _ _ _ hf
      · replace hf := it_n h12 hf
        refine v_iload_n hX dX6_ask_20 rfl 2 rfl 21 rfl ?_
        refine v_sipush (v := (210 : Int32)) hX dX6_ask_21 (by decide) 24 rfl ?_
        refine v_icmp_ge hX dX6_ask_24 44 rfl 27 rfl (fun h11 => ?_) (fun h11 => ?_)
        · replace hf := it_p h11 hf
          refine v_sub [(0, .ref (aX X 11))] (sbc 0 rfl sbn) ?_
          exact HK5 _ _ _ _ hf
        · replace hf := it_n h11 hf
          refine v_aload_n hX dX6_ask_27 rfl 0 rfl 28 rfl ?_
          refine v_aload_n hX dX6_ask_28 rfl 0 rfl 29 rfl ?_
          refine gf_11_0 hX q_64 dX6_ask_29 32 rfl ?_
          refine v_iload_n hX dX6_ask_32 rfl 2 rfl 33 rfl ?_
          obtain ⟨hi7, hf⟩ := gd_e hf
          refine al_12 hX hi7 dX6_ask_33 ((g 12) x1.toNatClampNeg) rfl 34 rfl ?_
          refine v_aload_n hX dX6_ask_34 rfl 1 rfl 35 rfl ?_
          obtain ⟨c8, c9, c10, hc8, hf⟩ := bn3_e hf
          refine cv_v hX (c6_obey (lkp r [(5, c2), (4, c3)]) (lkp g [(13, c4)]) u h _ hc8) wvX6_obey q_858 rc_11 (Nat.le_of_ble_eq_true rfl) (Nat.le_of_ble_eq_true rfl) (fun _ => rfl) [] rfl (Nat.le_of_ble_eq_true rfl) dX6_ask_35 38 rfl ?_
          refine v_mgr [(5, c8), (4, c9)] rfl ?_
          refine v_mgg [(13, c10)] rfl ?_
          refine v_inc (c := (1 : Int32)) hX dX6_ask_38 2 rfl (by decide) (ltn hn (by decide)) 41 rfl [(2, .int (x1 + (1 : Int32))), (0, .ref (aX X 11)), (1, .ref (aX X 51))] rfl ?_
          refine v_goto hX dX6_ask_41 12 rfl ?_
          refine v_sub [(0, .ref (aX X 11)), (1, .ref (aX X 51)), (2, .int (x1 + (1 : Int32)))] (sbc 1 rfl (sbc 2 rfl (sbc 0 rfl sbn))) ?_
          exact ih _ _ _ _ hf
  refine v_sub [(0, .ref (aX X 11)), (1, .ref (aX X 51)), (2, .int (0 : Int32))] (sbc 1 rfl (sbc 2 rfl (sbc 0 rfl sbn))) ?_
  exact HLK5 _ _ _ _ _ hf
set_option maxRecDepth 100000 in
set_option maxHeartbeats 4000000 in
theorem c6_emit (r : Nat → Int32) (g : Nat → Nat → Int32) (u : Nat → Int64) (h : Nat → Nat → Int64) (p1 : Int32) {res : Int32 × (Nat → Int32)} (hf : f6_emit (r 18) (g 37) p1 = some res) : MAv yX6_emit cX6_emit 2 none 0 (fun a => [.ref (a 36), .int p1]) r g u h (lkp r [(18, res.1)]) (lkp g [(37, res.2)]) u h := by
  refine mi_v (by decide +kernel) (fun a => Nat.le_of_ble_eq_true rfl) (fun X hX hn hR => ?_)
  replace hR : ∀ q : Int32 × (Nat → Int32), some q = some res → ∀ lv pc, decode cX6_emit pc = .ok (.return_, 1) → VC X (lkp r [(18, q.1)]) (lkp g [(37, q.2)]) u h lv [] pc := fun q hq => by cases hq; exact hR
  replace hX : CX X RX6 cX6_emit 0 := hX
  refine v_opr [18] [(18, r 18)] rfl ?_
  refine v_opg [37] [(37, g 37)] rfl ?_
  show VC X (lkp r [(18, r 18)]) (lkp g [(37, g 37)]) u h [(0, .ref (aX X 36)), (1, .int p1)] [] 0
  rw [f6_emit] at hf
  refine v_aload_n hX dX6_emit_0 rfl 0 rfl 1 rfl ?_
  refine gf_36_2 hX q_274 dX6_emit_1 ((r 18)) rfl 4 rfl ?_
  refine v_sipush (v := (210 : Int32)) hX dX6_emit_4 (by decide) 7 rfl ?_
  refine v_icmp_ge hX dX6_emit_7 27 rfl 10 rfl (fun h2 => ?_) (fun h2 => ?_)
  · replace hf := it_p h2 hf
    exact hR _ hf _ _ dX6_emit_27
  · replace hf := it_n h2 hf
    refine v_aload_n hX dX6_emit_10 rfl 0 rfl 11 rfl ?_
    refine gf_36_0 hX q_64 dX6_emit_11 14 rfl ?_
    refine v_aload_n hX dX6_emit_14 rfl 0 rfl 15 rfl ?_
    refine v_dup hX dX6_emit_15 rfl 16 rfl ?_
    refine gf_36_2 hX q_274 dX6_emit_16 ((r 18)) rfl 19 rfl ?_
    refine v_dup_x1 hX dX6_emit_19 rfl rfl 20 rfl ?_
    refine v_iconst (v := (1 : Int32)) hX dX6_emit_20 (by decide) 21 rfl ?_
    refine v_iadd hX dX6_emit_21 22 rfl ?_
    refine pf_36_2 hX q_274 dX6_emit_22 25 rfl [(18, ((r 18) + (1 : Int32)))] rfl ?_
    refine v_iload_n hX dX6_emit_25 rfl 1 rfl 26 rfl ?_
    obtain ⟨hi1, hf⟩ := gd_e hf
    refine as_37 hX hi1 dX6_emit_26 27 rfl (g 37) rfl [(37, (upd (g 37) (r 18).toNatClampNeg p1))] rfl ?_
    exact hR _ hf _ _ dX6_emit_27
set_option maxRecDepth 100000 in
set_option maxHeartbeats 4000000 in
theorem c6_copyFrom_t11_a36 (r : Nat → Int32) (g : Nat → Nat → Int32) (u : Nat → Int64) (h : Nat → Nat → Int64)  {res : Int32 × Int32 × (Nat → Int32)} (hf : f6_copyFrom (r 19) (r 18) (r 3) (r 2) (g 37) (g 12) = some res) : MAv yX6_copyFrom cX6_copyFrom 3 none 0 (fun a => [.ref (a 11), .ref (a 36)]) r g u h (lkp r [(3, res.1), (2, res.2.1)]) (lkp g [(12, res.2.2)]) u h := by
  refine mi_v (by decide +kernel) (fun a => Nat.le_of_ble_eq_true rfl) (fun X hX hn hR => ?_)
  replace hR : ∀ q : Int32 × Int32 × (Nat → Int32), some q = some res → ∀ lv pc, decode cX6_copyFrom pc = .ok (.return_, 1) → VC X (lkp r [(3, q.1), (2, q.2.1)]) (lkp g [(12, q.2.2)]) u h lv [] pc := fun q hq => by cases hq; exact hR
  replace hX : CX X RX6 cX6_copyFrom 0 := hX
  refine v_opr [3, 2] [(3, r 3), (2, r 2)] rfl ?_
  refine v_opg [12] [(12, g 12)] rfl ?_
  show VC X (lkp r [(3, r 3), (2, r 2)]) (lkp g [(12, g 12)]) u h [(0, .ref (aX X 11)), (1, .ref (aX X 36))] [] 0
  rw [f6_copyFrom] at hf
  refine v_aload_n hX dX6_copyFrom_0 rfl 0 rfl 1 rfl ?_
  refine v_aload_n hX dX6_copyFrom_1 rfl 1 rfl 2 rfl ?_
  refine gf_36_2 hX q_274 dX6_copyFrom_2 ((r 18)) rfl 5 rfl ?_
  refine pf_11_2 hX q_274 dX6_copyFrom_5 8 rfl [(3, (r 3)), (2, (r 18))] rfl ?_
  refine v_aload_n hX dX6_copyFrom_8 rfl 0 rfl 9 rfl ?_
  refine v_aload_n hX dX6_copyFrom_9 rfl 1 rfl 10 rfl ?_
  refine gf_36_3 hX q_295 dX6_copyFrom_10 ((r 19)) rfl 13 rfl ?_
  refine pf_11_3 hX q_295 dX6_copyFrom_13 16 rfl [(3, (r 19)), (2, (r 18))] rfl ?_
  refine v_iconst (v := (0 : Int32)) hX dX6_copyFrom_16 (by decide) 17 rfl ?_
  refine v_istore_n hX dX6_copyFrom_17 rfl (ltn hn (by decide)) 18 rfl [(2, .int (0 : Int32)), (0, .ref (aX X 11)), (1, .ref (aX X 36))] rfl ?_
  obtain ⟨K3, hK3, hf⟩ := jn_x hf
  have HK3 : ∀ (x1 : Int32) (c2 : (Nat → Int32)), K3 x1 c2 = some res → VC X (lkp r [(3, (r 19)), (2, (r 18))]) (lkp g [(12, c2)]) u h [] [] 51 := by
    intro x1 c2 hf
    rw [hK3] at hf
    exact hR _ hf _ _ dX6_copyFrom_51
  have HLK3 : ∀ (n4 : Nat) (x1 : Int32) (c2 : (Nat → Int32)), f6_copyFrom_L18 (r 18) (g 37) n4 x1 c2 K3 = some res → VC X (lkp r [(3, (r 19)), (2, (r 18))]) (lkp g [(12, c2)]) u h [(0, .ref (aX X 11)), (1, .ref (aX X 36)), (2, .int x1)] [] 18 := by
    intro n4
    induction n4 with
    | zero => intro x1 c2 hf; exact no_s hf
    | succ n4 ih =>
      intro x1 c2 hf
      rw [f6_copyFrom_L18] at hf
      refine v_iload_n hX dX6_copyFrom_18 rfl 2 rfl 19 rfl ?_
      refine v_aload_n hX dX6_copyFrom_19 rfl 0 rfl 20 rfl ?_
      refine gf_11_2 hX q_274 dX6_copyFrom_20 ((r 18)) rfl 23 rfl ?_
      refine v_icmp_ge hX dX6_copyFrom_23 51 rfl 26 rfl (fun h8 => ?_) (fun h8 => ?_)
      · replace hf := it_p h8 hf
        refine v_sub [] sbn ?_
        exact HK3 _ _ hf
      · replace hf := it_n h8 hf
        refine v_iload_n hX dX6_copyFrom_26 rfl 2 rfl 27 rfl ?_
        refine v_sipush (v := (210 : Int32)) hX dX6_copyFrom_27 (by decide) 30 rfl ?_
        refine v_icmp_ge hX dX6_copyFrom_30 51 rfl 33 rfl (fun h7 => ?_) (fun h7 => ?_)
        · replace hf := it_p h7 hf
          refine v_sub [] sbn ?_
          exact HK3 _ _ hf
        · replace hf := it_n h7 hf
          refine v_aload_n hX dX6_copyFrom_33 rfl 0 rfl 34 rfl ?_
          refine gf_11_0 hX q_64 dX6_copyFrom_34 37 rfl ?_
          refine v_iload_n hX dX6_copyFrom_37 rfl 2 rfl 38 rfl ?_
          refine v_aload_n hX dX6_copyFrom_38 rfl 1 rfl 39 rfl ?_
          refine gf_36_0 hX q_64 dX6_copyFrom_39 42 rfl ?_
          refine v_iload_n hX dX6_copyFrom_42 rfl 2 rfl 43 rfl ?_
          obtain ⟨hi5, hf⟩ := gd_e hf
          refine al_37 hX hi5 dX6_copyFrom_43 ((g 37) x1.toNatClampNeg) rfl 44 rfl ?_
          obtain ⟨hi6, hf⟩ := gd_e hf
          refine as_12 hX hi6 dX6_copyFrom_44 45 rfl c2 rfl [(12, (upd c2 x1.toNatClampNeg ((g 37) x1.toNatClampNeg)))] rfl ?_
          refine v_inc (c := (1 : Int32)) hX dX6_copyFrom_45 2 rfl (by decide) (ltn hn (by decide)) 48 rfl [(2, .int (x1 + (1 : Int32))), (0, .ref (aX X 11)), (1, .ref (aX X 36))] rfl ?_
          refine v_goto hX dX6_copyFrom_48 18 rfl ?_
          refine v_sub [(0, .ref (aX X 11)), (1, .ref (aX X 36)), (2, .int (x1 + (1 : Int32)))] (sbc 1 rfl (sbc 2 rfl (sbc 0 rfl sbn))) ?_
          exact ih _ _ hf
  refine v_sub [(0, .ref (aX X 11)), (1, .ref (aX X 36)), (2, .int (0 : Int32))] (sbc 1 rfl (sbc 2 rfl (sbc 0 rfl sbn))) ?_
  exact HLK3 _ _ _ hf
