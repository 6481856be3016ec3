/-! THE CLAIM OUT OF ONE WALK OF THE LAW'S BODY. Your part is whole_start (and what it stands on); all else here is the same for every law, but numbers. -/
def R_law : String := "CrashTiesLaw"
def lw_P (b : Addr) (xs : List Int32) (args : Array Value) (s : State) : Prop := args = #[.ref b] ∧ s.IntsAt b xs ∧ xs.length ≤ 384 ∧ (Jvm.Cond.and given_1 narrow_1).before args s = true
def lw_Q (_ : Array Value) (s : State) (o : Outcome) (t : State) : Prop := o = .returned (some (.int 1)) ∧ Framed s o t [] 600000 7302250
def lw_Z (below : List Frame) (a : Array Value) (s : State) : State → Prop := fun t => ∃ o, t.status = .running ∧ Ended t below o ∧ lw_Q a s o t
/-- the law's own end, with 1 on the stack, nothing written that was there before, its room as the claim has it -/
theorem lw_ret {p : Program} {l : Launch} {e : Env} {s : State} {m : MethodId} {below : List Frame} {meth : Method} {c : Code} {b : Nat} (hx : p.tables.exec = Jvm.exec) (hb : c.code = code) (hr : meth.sig.returnType = ret) (hlocks : meth.locks = false) {pc : Nat} {H : Heap} {ls : Array Slot} (hdg : decode code pc = .ok (.ireturn, 1)) : W p l e room_1 s m #[Value.ref b] below meth c H [] 600000 7302250 (lw_Z below #[Value.ref b] s) (F0 m pc ls [.int 1]) := by
  intro T hT X
  obtain ⟨fs, hret, hrun, hended, hW, hframe⟩ := X.leave (v := some (.int 1)) (hlocks := hlocks) (fun h => by rw [hr] at h; cases h)
  have hmeth' : T.vm.method? m = some meth := X.method'
  refine ⟨T.setFrames fs, ?_, .returned (some (.int 1)), hrun, hended, rfl, ⟨_, rfl⟩, hW, hframe⟩
  jvm_step X.here [X.here.top, hx, hb, hdg, hmeth', hr, ret, narrow_b1]
  (try refine ⟨rfl, ?_⟩); (try refine ⟨rfl, ?_⟩)
  first | (intro acts; rw [hret _ acts rfl rfl rfl]) | rw [hret _ _ rfl rfl rfl]
  exact Steps.refl _
/-- what holds at the law's entry: the machine, the code, the tables' words (any of lw_tbl by 'hts w (by decide +kernel)'), the script of L ints xs at the cell b, what the Statement gives of the start (any of its parts by flat_of_before) -/
def lw_At (p : Program) (s : State) (m : MethodId) (meth : Method) (c : Code) (b L : Nat) (xs : Nat → Int32) : Prop :=
  p.tables.exec = Jvm.exec ∧ c.code = code ∧ meth.sig.returnType = ret ∧ c.maxLocals = 4 ∧ s.vm.findClass R_law = some m.cls ∧ (∀ w ∈ lw_tbl, w.before #[Value.ref b] s = true) ∧ va_X b L xs s s.heap ∧ b < s.heap.size ∧ meth.locks = false ∧ (Jvm.Cond.and given_1 narrow_1).before #[Value.ref b] s = true
def r0 : Nat → Int32 := fun i => bif Nat.beq i 6 then 1 else bif Nat.beq i 13 then 1 else bif Nat.beq i 33 then 1 else 0
def g0 : Nat → Nat → Int32 := fun k => bif Nat.beq k 2 then (upd (upd (upd (upd (fun _ => (0 : Int32)) (0 : Int32).toNatClampNeg (50 : Int32)) (1 : Int32).toNatClampNeg (50 : Int32)) (2 : Int32).toNatClampNeg (50 : Int32)) (3 : Int32).toNatClampNeg (50 : Int32)) else bif Nat.beq k 3 then (upd (upd (upd (upd (upd (upd (upd (fun _ => (0 : Int32)) (0 : Int32).toNatClampNeg (2 : Int32)) (1 : Int32).toNatClampNeg (4 : Int32)) (2 : Int32).toNatClampNeg (1 : Int32)) (3 : Int32).toNatClampNeg (3 : Int32)) (4 : Int32).toNatClampNeg (3 : Int32)) (5 : Int32).toNatClampNeg (5 : Int32)) (6 : Int32).toNatClampNeg (2 : Int32)) else bif Nat.beq k 15 then (upd (upd (upd (upd (fun _ => (0 : Int32)) (0 : Int32).toNatClampNeg (50 : Int32)) (1 : Int32).toNatClampNeg (50 : Int32)) (2 : Int32).toNatClampNeg (50 : Int32)) (3 : Int32).toNatClampNeg (50 : Int32)) else bif Nat.beq k 16 then (upd (upd (upd (upd (upd (upd (upd (fun _ => (0 : Int32)) (0 : Int32).toNatClampNeg (2 : Int32)) (1 : Int32).toNatClampNeg (4 : Int32)) (2 : Int32).toNatClampNeg (1 : Int32)) (3 : Int32).toNatClampNeg (3 : Int32)) (4 : Int32).toNatClampNeg (3 : Int32)) (5 : Int32).toNatClampNeg (5 : Int32)) (6 : Int32).toNatClampNeg (2 : Int32)) else bif Nat.beq k 44 then (upd (upd (upd (upd (fun _ => (0 : Int32)) (0 : Int32).toNatClampNeg (-1 : Int32)) (1 : Int32).toNatClampNeg (-1 : Int32)) (2 : Int32).toNatClampNeg (-1 : Int32)) (3 : Int32).toNatClampNeg (-1 : Int32)) else bif Nat.beq k 47 then (upd (upd (upd (upd (fun _ => (0 : Int32)) (0 : Int32).toNatClampNeg (-1 : Int32)) (1 : Int32).toNatClampNeg (-1 : Int32)) (2 : Int32).toNatClampNeg (-1 : Int32)) (3 : Int32).toNatClampNeg (-1 : Int32)) else bif Nat.beq k 53 then (upd (upd (upd (upd (fun _ => (0 : Int32)) (0 : Int32).toNatClampNeg (50 : Int32)) (1 : Int32).toNatClampNeg (50 : Int32)) (2 : Int32).toNatClampNeg (50 : Int32)) (3 : Int32).toNatClampNeg (50 : Int32)) else bif Nat.beq k 58 then (upd (upd (upd (upd (upd (upd (upd (fun _ => (0 : Int32)) (0 : Int32).toNatClampNeg (2 : Int32)) (1 : Int32).toNatClampNeg (4 : Int32)) (2 : Int32).toNatClampNeg (1 : Int32)) (3 : Int32).toNatClampNeg (3 : Int32)) (4 : Int32).toNatClampNeg (3 : Int32)) (5 : Int32).toNatClampNeg (5 : Int32)) (6 : Int32).toNatClampNeg (2 : Int32)) else bif Nat.beq k 59 then (upd (upd (upd (upd (upd (upd (upd (fun _ => (0 : Int32)) (0 : Int32).toNatClampNeg (9 : Int32)) (1 : Int32).toNatClampNeg (9 : Int32)) (2 : Int32).toNatClampNeg (9 : Int32)) (3 : Int32).toNatClampNeg (9 : Int32)) (4 : Int32).toNatClampNeg (20 : Int32)) (5 : Int32).toNatClampNeg (30 : Int32)) (6 : Int32).toNatClampNeg (20 : Int32)) else bif Nat.beq k 74 then (upd (upd (upd (upd (fun _ => (0 : Int32)) (0 : Int32).toNatClampNeg (-1 : Int32)) (1 : Int32).toNatClampNeg (-1 : Int32)) (2 : Int32).toNatClampNeg (-1 : Int32)) (3 : Int32).toNatClampNeg (-1 : Int32)) else bif Nat.beq k 77 then (upd (upd (upd (upd (fun _ => (0 : Int32)) (0 : Int32).toNatClampNeg (-1 : Int32)) (1 : Int32).toNatClampNeg (-1 : Int32)) (2 : Int32).toNatClampNeg (-1 : Int32)) (3 : Int32).toNatClampNeg (-1 : Int32)) else (fun _ => (0 : Int32))
def u0 : Nat → Int64 := fun _ => 0
def h0m : Nat → Nat → Int64 := fun _ _ => 0
def adr (q0 q1 : Nat) (qx qm : Nat → Nat) (tM tO tB : Nat) (aK aV : Nat → Nat) : Nat → Nat := fun k => bif Nat.blt k 52 then (bif Nat.beq k 0 then q0 else qx (k - 1)) else bif Nat.blt k 83 then (bif Nat.beq k 52 then q1 else qm (k - 53)) else bif Nat.beq k 200 then tM else bif Nat.beq k 201 then tO else bif Nat.beq k 202 then tB else bif Nat.blt k 230 then aK (k - 210) else aV (k - 230)
set_option maxRecDepth 100000 in
set_option maxHeartbeats 8000000 in
theorem CW_start (D : va_G) (q0 q1 : Nat) (qx qm : Nat → Nat) (tM tO tB : Nat) (aK aV : Nat → Nat) : CW D (adr q0 q1 qx qm tM tO tB aK aV) r0 g0 u0 h0m = po_X8 D q0 qx ++ po_X9 D q1 qm := rfl
theorem adr_K (q0 q1 : Nat) (qx qm : Nat → Nat) (tM tO tB : Nat) (aK aV : Nat → Nat) : ∀ i, i < 12 → adr q0 q1 qx qm tM tO tB aK aV (210 + i) = aK i := by
  intro i hi
  match i, hi with
  | 0, _ => rfl
  | 1, _ => rfl
  | 2, _ => rfl
  | 3, _ => rfl
  | 4, _ => rfl
  | 5, _ => rfl
  | 6, _ => rfl
  | 7, _ => rfl
  | 8, _ => rfl
  | 9, _ => rfl
  | 10, _ => rfl
  | 11, _ => rfl
  | i + 12, h => exact absurd h (by omega)
theorem adr_V (q0 q1 : Nat) (qx qm : Nat → Nat) (tM tO tB : Nat) (aK aV : Nat → Nat) : ∀ i, i < 12 → adr q0 q1 qx qm tM tO tB aK aV (230 + i) = aV i := by
  intro i hi
  match i, hi with
  | 0, _ => rfl
  | 1, _ => rfl
  | 2, _ => rfl
  | 3, _ => rfl
  | 4, _ => rfl
  | 5, _ => rfl
  | 6, _ => rfl
  | 7, _ => rfl
  | 8, _ => rfl
  | 9, _ => rfl
  | 10, _ => rfl
  | 11, _ => rfl
  | i + 12, h => exact absurd h (by omega)
theorem vkS_congr {len : List Nat} {byt : List (List Int32)} {aK aV bK bV : Nat → Nat} {A : Nat → Prop} {U : State} {H : Heap} (h : vk_S 12 len byt aK aV A U H) (hK : ∀ i, i < 12 → bK i = aK i) (hV : ∀ i, i < 12 → bV i = aV i) : vk_S 12 len byt bK bV A U H :=
  ⟨fun i hi => by rw [hK i hi, hV i hi]; exact h.1 i hi, fun i j hi hj e => h.2 i j hi hj (by rw [← hK i hi, ← hK j hj]; exact e)⟩
theorem arr_known {args : Array Value} {s : State} {ty : FieldType} (h : (Cond.arrayClass ty).before args s = true) (ht : ∀ C, ty ≠ .object C) : ∃ cA : ClassId, ArrOfT s cA ty ∧ va_RA s cA ty := by
  obtain ⟨cA, kA, comp, h1, h2, h3⟩ := Cond.arrayClass_spec h
  refine ⟨cA, fun n z => ⟨fun k h => (by cases h), kA, h2, comp, h3⟩, ?_⟩
  cases ty with
  | object C => exact absurd rfl (ht C)
  | _ => exact h1
theorem known_cl {args : Array Value} {s : State} (hts : ∀ w ∈ AL, w.before args s = true) : ∃ D : va_G, va_K D vwCl (TYS D) s := by
  obtain ⟨c0, i0, k0⟩ := u_known (C := RX0) (T := TX0) (N := 13) (n := 13) hts inX0 (hts _ q_14)
  obtain ⟨c1, i1, k1⟩ := u_known (C := RX1) (T := TX1) (N := 5) (n := 5) hts inX1 (hts _ q_33)
  obtain ⟨c2, i2, k2⟩ := u_known (C := RX3) (T := TX3) (N := 6) (n := 6) hts inX3 (hts _ q_37)
  obtain ⟨c3, i3, k3⟩ := u_known (C := RX4) (T := TX4) (N := 8) (n := 8) hts inX4 (hts _ q_24)
  obtain ⟨c4, i4, k4⟩ := u_known (C := RX5) (T := TX5) (N := 2) (n := 2) hts inX5 (hts _ q_28)
  obtain ⟨c5, i5, k5⟩ := u_known (C := RX6) (T := TX6) (N := 6) (n := 6) hts inX6 (hts _ q_57)
  obtain ⟨c6, i6, k6⟩ := u_known (C := RX7) (T := TX7) (N := 4) (n := 4) hts inX7 (hts _ q_20)
  obtain ⟨c7, i7, k7⟩ := u_known (C := RX8) (T := TX8) (N := 10) (n := 10) hts inX8 (hts _ q_1)
  obtain ⟨c8, i8, k8⟩ := u_known (C := RX9) (T := TX9) (N := 56) (n := 56) hts inX9 (hts _ q_4)
  obtain ⟨eI, aI⟩ := arr_known (hts _ q_40) (fun C h => by cases h)
  obtain ⟨eZ, aZ⟩ := arr_known (hts _ q_49) (fun C h => by cases h)
  obtain ⟨eJ, aJ⟩ := arr_known (hts _ q_91) (fun C h => by cases h)
  refine ⟨(fun k => if k = 0 then c0 else if k = 1 then c1 else if k = 2 then c2 else if k = 3 then c3 else if k = 4 then c4 else if k = 5 then c5 else if k = 6 then c6 else if k = 7 then c7 else if k = 8 then c8 else if k = 20 then eI else if k = 21 then eZ else eJ, fun k => if k = 0 then i0 else if k = 1 then i1 else if k = 2 then i2 else if k = 3 then i3 else if k = 4 then i4 else if k = 5 then i5 else if k = 6 then i6 else if k = 7 then i7 else i8), fun k q hq => ?_, fun k q hq => ?_⟩
  · match k, hq with
    | 0, hq => cases hq; exact k0
    | 1, hq => cases hq; exact k1
    | 2, hq => cases hq; exact k2
    | 3, hq => cases hq; exact k3
    | 4, hq => cases hq; exact k4
    | 5, hq => cases hq; exact k5
    | 6, hq => cases hq; exact k6
    | 7, hq => cases hq; exact k7
    | 8, hq => cases hq; exact k8
    | k + 9, hq => cases hq
  · match k, hq with
    | 0, hq => cases hq; exact aI
    | 1, hq => cases hq; exact aZ
    | 2, hq => cases hq; exact aJ
    | k + 3, hq => cases hq
theorem known_sr : ∀ i, i < 12 → Cond.stringRef "CrashTies$Reader" (sEnt.getD i 0) (sTxt.getD i "") ∈ lw_tbl := by
  intro i hi
  match i, hi with
  | 0, _ => exact q_1369
  | 1, _ => exact q_1375
  | 2, _ => exact q_1376
  | 3, _ => exact q_1377
  | 4, _ => exact q_1378
  | 5, _ => exact q_1379
  | 6, _ => exact q_1380
  | 7, _ => exact q_1381
  | 8, _ => exact q_1382
  | 9, _ => exact q_1383
  | 10, _ => exact q_1384
  | 11, _ => exact q_1385
  | i + 12, h => exact absurd h (by omega)
set_option maxRecDepth 100000 in
set_option maxHeartbeats 8000000 in
theorem known_st {args : Array Value} {s : State} {A : Nat → Prop} (hts : ∀ w ∈ lw_tbl, w.before args s = true) (hg : (Jvm.Cond.and given_1 narrow_1).before args s = true) (hA : ∀ a : Nat, a < s.heap.size → ¬ A a) : ∃ (tF tM tO tB : Nat) (aK aV : Nat → Nat), SXF tF A s s.heap ∧ SX "CrashTies" "LAW_MOST" tM 7 lawMost A s s.heap ∧ SX "CrashTies" "OVER" tO 6 overK A s s.heap ∧ SX "CrashTies$Play" "BODIES" tB 24 bodTab A s s.heap ∧ SZ "java/lang/String" "COMPACT_STRINGS" "Z" 1 A s s.heap ∧ va_Zq "jdk/internal/util/Preconditions" "SIOOBE_FORMATTER" "Ljava/util/function/BiFunction;" A s s.heap ∧ vk_S 12 sLen sByt aK aV A s s.heap ∧ ∀ i, i < 12 → vk_R "CrashTies$Reader" (sEnt.getD i 0) (sTxt.getD i "") (aK i) s := by
  have hs := flat_of_before _ hg
  obtain ⟨tF, htF, TtF⟩ := va_Tof (A := A) (tm := .static "CrashTies" "LAW_FIRST" "[I") (ty := .int) (N := 7) (f := fun j => .int (lawFirst j)) (by decide) (hs _ (by decide +kernel)) (va_eqt (hs _ (by decide +kernel))) (fun j hj => va_eqt (hs _ ((by decide +kernel : ∀ j, j < 7 → Cond.eq (.elem (.static "CrashTies" "LAW_FIRST" "[I") (.int (Int32.ofNat j))) (.int (lawFirst j)) ∈ flatC (Jvm.Cond.and given_1 narrow_1)) j hj))) hA
  have ZtF := va_Zref (A := A) (hts _ q_1368) (hts _ (AL_in q_2)) htF hA
  obtain ⟨tM, htM, TtM⟩ := va_Tof (A := A) (tm := .static "CrashTies" "LAW_MOST" "[I") (ty := .int) (N := 7) (f := fun j => .int (lawMost j)) (by decide) (hs _ (by decide +kernel)) (va_eqt (hs _ (by decide +kernel))) (fun j hj => va_eqt (hs _ ((by decide +kernel : ∀ j, j < 7 → Cond.eq (.elem (.static "CrashTies" "LAW_MOST" "[I") (.int (Int32.ofNat j))) (.int (lawMost j)) ∈ flatC (Jvm.Cond.and given_1 narrow_1)) j hj))) hA
  have ZtM := va_Zref (A := A) (hts _ q_1386) (hts _ (AL_in q_2)) htM hA
  obtain ⟨tO, htO, TtO⟩ := va_Tof (A := A) (tm := .static "CrashTies" "OVER" "[I") (ty := .int) (N := 6) (f := fun j => .int (overK j)) (by decide) (hs _ (by decide +kernel)) (va_eqt (hs _ (by decide +kernel))) (fun j hj => va_eqt (hs _ ((by decide +kernel : ∀ j, j < 6 → Cond.eq (.elem (.static "CrashTies" "OVER" "[I") (.int (Int32.ofNat j))) (.int (overK j)) ∈ flatC (Jvm.Cond.and given_1 narrow_1)) j hj))) hA
  have ZtO := va_Zref (A := A) (hts _ q_1387) (hts _ (AL_in q_2)) htO hA
  obtain ⟨tB, htB, TtB⟩ := va_Tof (A := A) (tm := .static "CrashTies$Play" "BODIES" "[I") (ty := .int) (N := 24) (f := fun j => .int (bodTab j)) (by decide) (hs _ (by decide +kernel)) (va_eqt (hs _ (by decide +kernel))) (fun j hj => va_eqt (hs _ ((by decide +kernel : ∀ j, j < 24 → Cond.eq (.elem (.static "CrashTies$Play" "BODIES" "[I") (.int (Int32.ofNat j))) (.int (bodTab j)) ∈ flatC (Jvm.Cond.and given_1 narrow_1)) j hj))) hA
  have ZtB := va_Zref (A := A) (hts _ q_1388) (hts _ (AL_in q_38)) htB hA
  have ZC := va_Zof (A := A) (hts _ q_1370) (hts _ (AL_in q_197)) (va_eqi (hs _ (by decide +kernel : Cond.eq (.static "java/lang/String" "COMPACT_STRINGS" "Z") (.int 1) ∈ flatC (Jvm.Cond.and given_1 narrow_1)))) hA
  have ZQ := va_Zqof (A := A) (hts _ q_1371) (hts _ (AL_in q_224)) (hs _ (by decide +kernel)) hA
  obtain ⟨aK, aV, hS, hE⟩ := vk_Sof (A := A) (tm := fun i => .string "CrashTies$Reader" (sEnt.getD i 0)) (N := 12) (len := sLen) (byt := sByt) (s := s) (args := args) (by decide +kernel)
    (fun i hi => hs _ ((by decide +kernel : ∀ i, i < 12 → Cond.exactly (.string "CrashTies$Reader" (sEnt.getD i 0)) "java/lang/String" ∈ flatC (Jvm.Cond.and given_1 narrow_1)) i hi))
    (fun i hi => hs _ ((by decide +kernel : ∀ i, i < 12 → Cond.eq (.field (.string "CrashTies$Reader" (sEnt.getD i 0)) "java/lang/String" "coder" "B") (.int 0) ∈ flatC (Jvm.Cond.and given_1 narrow_1)) i hi))
    (fun i hi => hs _ ((by decide +kernel : ∀ i, i < 12 → Cond.arrayOf (.field (.string "CrashTies$Reader" (sEnt.getD i 0)) "java/lang/String" "value" "[B") .byte ∈ flatC (Jvm.Cond.and given_1 narrow_1)) i hi))
    (fun i hi => hs _ ((by decide +kernel : ∀ i, i < 12 → Cond.eq (.length (.field (.string "CrashTies$Reader" (sEnt.getD i 0)) "java/lang/String" "value" "[B")) (.int (Int32.ofNat (sLen.getD i 0))) ∈ flatC (Jvm.Cond.and given_1 narrow_1)) i hi))
    (fun i hi j hj => hs _ ((by decide +kernel : ∀ i, i < 12 → ∀ j, j < sLen.getD i 0 → Cond.eq (.elem (.field (.string "CrashTies$Reader" (sEnt.getD i 0)) "java/lang/String" "value" "[B") (.int (Int32.ofNat j))) (.int ((sByt.getD i []).getD j 0)) ∈ flatC (Jvm.Cond.and given_1 narrow_1)) i hi j hj))
    (fun i j hi hj hij => ((by decide +kernel : ∀ i, i < 12 → ∀ j, j < 12 → i ≠ j → Cond.not (Cond.eq (.string "CrashTies$Reader" (sEnt.getD i 0)) (.string "CrashTies$Reader" (sEnt.getD j 0))) ∈ flatC (Jvm.Cond.and given_1 narrow_1) ∨ Cond.not (Cond.eq (.string "CrashTies$Reader" (sEnt.getD j 0)) (.string "CrashTies$Reader" (sEnt.getD i 0))) ∈ flatC (Jvm.Cond.and given_1 narrow_1)) i hi j hj hij).elim (fun h => Or.inl (hs _ h)) (fun h => Or.inr (hs _ h))) hA
  refine ⟨tF, tM, tO, tB, aK, aV, ⟨ZtF, TtF⟩, ⟨ZtM, TtM⟩, ⟨ZtO, TtO⟩, ⟨ZtB, TtB⟩, ZC, ZQ, hS, fun i hi => vk_R.of (hts _ (known_sr i hi)) (hE i hi)⟩
theorem nw_0 : Cond.methodLinkNest "CrashTies" 25 yX7_init "CrashTies" ∈ lw_tbl := (fun (h : Cond.methodLinkNest "CrashTies" 25 yX7_init "CrashTies" ∈ tables_1_1) => List.mem_append_right _ (List.mem_append_left _ h)) (List.mem_of_getElem? (i := 120) (by decide +kernel))
theorem nw_1 : Cond.methodLinkNest "CrashTies" 32 yX4_init "CrashTies" ∈ lw_tbl := (fun (h : Cond.methodLinkNest "CrashTies" 32 yX4_init "CrashTies" ∈ tables_1_1) => List.mem_append_right _ (List.mem_append_left _ h)) (List.mem_of_getElem? (i := 139) (by decide +kernel))
theorem nw_2 : Cond.methodLinkNest "CrashTies" 39 yX5_init "CrashTies" ∈ lw_tbl := (fun (h : Cond.methodLinkNest "CrashTies" 39 yX5_init "CrashTies" ∈ tables_1_1) => List.mem_append_right _ (List.mem_append_left _ h)) (List.mem_of_getElem? (i := 175) (by decide +kernel))
theorem nw_3 : Cond.methodLinkNest "CrashTies" 56 yX3_init "CrashTies" ∈ lw_tbl := (fun (h : Cond.methodLinkNest "CrashTies" 56 yX3_init "CrashTies" ∈ tables_1_1) => List.mem_append_right _ (List.mem_append_left _ h)) (List.mem_of_getElem? (i := 215) (by decide +kernel))
theorem nw_4 : Cond.methodLinkNest "CrashTies$Book" 42 yX6_init "CrashTies" ∈ lw_tbl := (fun (h : Cond.methodLinkNest "CrashTies$Book" 42 yX6_init "CrashTies" ∈ tables_1_1) => List.mem_append_right _ (List.mem_append_left _ h)) (List.mem_of_getElem? (i := 34) (by decide +kernel))
theorem nw_5 : Cond.methodLinkNest "CrashTies$Reader" 23 yX6_init "CrashTies" ∈ lw_tbl := (fun (h : Cond.methodLinkNest "CrashTies$Reader" 23 yX6_init "CrashTies" ∈ tables_1_1) => List.mem_append_right _ (List.mem_append_left _ h)) (List.mem_of_getElem? (i := 144) (by decide +kernel))
theorem nw_6 : Cond.fieldLinkNest "CrashTies$Book" 51 "CrashTies" "LAW_FIRST" "[I" "CrashTies" ∈ lw_tbl := (fun (h : Cond.fieldLinkNest "CrashTies$Book" 51 "CrashTies" "LAW_FIRST" "[I" "CrashTies" ∈ tables_1_1) => List.mem_append_right _ (List.mem_append_left _ h)) (List.mem_of_getElem? (i := 62) (by decide +kernel))
theorem known_nw {args : Array Value} {s : State} (hts : ∀ w ∈ lw_tbl, w.before args s = true) : NW s := ⟨va_Nw.of rfl (hts _ nw_0), va_Nw.of rfl (hts _ nw_1), va_Nw.of rfl (hts _ nw_2), va_Nw.of rfl (hts _ nw_3), va_Nw.of rfl (hts _ nw_4), va_Nw.of rfl (hts _ nw_5), va_Nw.of rfl (hts _ nw_6)⟩
theorem wX8_7 : Cond.methodLink RL 9 yX8_init ∈ AL := q_7
set_option maxRecDepth 100000 in
set_option maxHeartbeats 16000000 in
theorem whole_open (Rl : (Nat → Int32) → (Nat → Nat → Int32) → (Nat → Int64) → (Nat → Nat → Int64) → Prop) (hops : Ops Rl) (hinit : Rl r0 g0 u0 h0m) {p : Program} {e : Env} {s : State} {m : MethodId} {below : List Frame} {meth : Method} {c : Code} (l : Launch) {b L : Nat} {xs : Nat → Int32} (hL : L ≤ 384) (C0 : lw_At p s m meth c b L xs) : W p l e room_1 s m #[Value.ref b] below meth c s.heap [] 0 0 (lw_Z below #[Value.ref b] s) (entryFrame m ([Value.ref b] : List Value).toArray 4) := by
  obtain ⟨hx, hb, hr, hml, hown, hts, hXs, hbl, hlocks, hgv⟩ := C0
  have hA : ∀ q : Nat, s.heap.size ≤ q → (fun q : Nat => s.heap.size ≤ q) q := fun _ h => h
  have hA0 : ∀ a : Nat, a < s.heap.size → ¬ (fun q : Nat => s.heap.size ≤ q) a := fun a h => Nat.not_le.mpr h
  have htA : ∀ w ∈ AL, w.before #[Value.ref b] s = true := fun w hw => hts w (AL_in hw)
  obtain ⟨D, hK⟩ := known_cl htA
  obtain ⟨tF, tM, tO, tB, aK, aV, hF, hM, hO, hB, hZC, hZQ, hVS, hVR⟩ := known_st hts hgv hA0
  have hN := known_nw hts
  have hl := lv_entry ([.ref b]) (n := 4) (Nat.le_of_ble_eq_true rfl)
  rw [lg_entry_eq]
  generalize (lg_sl ([.ref b]) ++ List.replicate (4 - (lg_sl ([.ref b])).length) Slot.unset).toArray = ls0 at hl ⊢
  have hl : lv_has ls0 4 [(0, .ref b)] := hl
  suffices key : ∀ X : CT, X = (l, p, e, room_1, s, m, #[Value.ref b], below, meth, c, 4, D, (fun _ => 0), 0, 0, lw_Z below #[Value.ref b] s) → VN X (fun q : Nat => s.heap.size ≤ q) [] 0 0 [(0, .ref b)] [] 0 from
    key _ rfl s.heap [] ls0 (fun k q h => (by cases h)) ⟨fun i j p q h => (by cases h), fun k q h => (by cases h)⟩ va_S.rf hl
  intro X eX
  have hC : CN X (fun q : Nat => s.heap.size ≤ q) RL cL_law 100 1000 10000 tF := by
    subst eX
    exact ⟨hx, hb, hml, hown, htA, hK, hA, hF, hN, by decide, by decide, by decide, by decide⟩
  have hn : nX X = 4 := by subst eX; rfl
  refine n_new (C := RX8) (T := TX8) (N := 10) (ci := 7) (fs := [.null, .null, .int 0, .null, .null, .null, .null, .null, .null, .null]) hC inX8 tyX8 tyX8_ok q_0 q_1 q_2 rfl (fun j hj => match j, hj with | 0, _ => rfl | 1, _ => rfl | 2, _ => rfl | 3, _ => rfl | 4, _ => rfl | 5, _ => rfl | 6, _ => rfl | 7, _ => rfl | 8, _ => rfl | 9, _ => rfl | j + 10, hj => absurd hj (by omega)) 1 10 rfl rfl (by decide) (by decide) dL_law_0 3 rfl (fun q0 => ?_)
  refine n_ret_sub [(q0, .inr (7, [.null, .null, .int 0, .null, .null, .null, .null, .null, .null, .null]))] rfl ?_
  refine n_dup hC dL_law_3 rfl 4 rfl ?_
  refine n_call (wr := []) hC mc_X8 q_9 q_8 q_2 rfl (by decide +kernel) q_7 (by decide) (by decide) [0] [] rfl rfl (by decide) (by decide) (Nat.le_of_ble_eq_true rfl) 52 3766 rfl rfl (by decide) (by decide) dL_law_4 7 rfl (fun qx => ?_)
  refine n_astore_n hC dL_law_7 rfl (ltn hn (by decide)) 8 rfl [(1, .ref q0), (0, .ref b)] rfl ?_
  refine n_ret_sub (po_X8 (DX X) q0 qx) rfl ?_
  refine n_new (C := RX9) (T := TX9) (N := 56) (ci := 8) (fs := [.null, .int 0, .null, .null, .null, .int 0, .null, .null, .null, .int 0, .null, .null, .int 0, .null, .int 0, .int 0, .int 0, .int 0, .long 0, .int 0, .int 0, .null, .null, .null, .int 0, .int 0, .int 0, .null, .null, .null, .int 0, .long 0, .long 0, .null, .null, .null, .null, .null, .int 0, .int 0, .null, .null, .null, .null, .null, .null, .int 0, .int 0, .int 0, .null, .int 0, .int 0, .int 0, .null, .int 0, .null]) hC inX9 tyX9 tyX9_ok q_3 q_4 q_5 rfl (fun j hj => match j, hj with | 0, _ => rfl | 1, _ => rfl | 2, _ => rfl | 3, _ => rfl | 4, _ => rfl | 5, _ => rfl | 6, _ => rfl | 7, _ => rfl | 8, _ => rfl | 9, _ => rfl | 10, _ => rfl | 11, _ => rfl | 12, _ => rfl | 13, _ => rfl | 14, _ => rfl | 15, _ => rfl | 16, _ => rfl | 17, _ => rfl | 18, _ => rfl | 19, _ => rfl | 20, _ => rfl | 21, _ => rfl | 22, _ => rfl | 23, _ => rfl | 24, _ => rfl | 25, _ => rfl | 26, _ => rfl | 27, _ => rfl | 28, _ => rfl | 29, _ => rfl | 30, _ => rfl | 31, _ => rfl | 32, _ => rfl | 33, _ => rfl | 34, _ => rfl | 35, _ => rfl | 36, _ => rfl | 37, _ => rfl | 38, _ => rfl | 39, _ => rfl | 40, _ => rfl | 41, _ => rfl | 42, _ => rfl | 43, _ => rfl | 44, _ => rfl | 45, _ => rfl | 46, _ => rfl | 47, _ => rfl | 48, _ => rfl | 49, _ => rfl | 50, _ => rfl | 51, _ => rfl | 52, _ => rfl | 53, _ => rfl | 54, _ => rfl | 55, _ => rfl | j + 56, hj => absurd hj (by omega)) 53 3822 rfl rfl (by decide) (by decide) dL_law_8 11 rfl (fun q1 => ?_)
  refine n_dup hC dL_law_11 rfl 12 rfl ?_
  refine n_call (wr := po_X8 (DX X) q0 qx) hC mc_X9 q_101 q_100 q_5 rfl (by decide +kernel) q_99 (by decide) (by decide) [52] (List.range 52) rfl rfl (by decide +kernel) (by decide +kernel) (Nat.le_of_ble_eq_true rfl) 83 5842 rfl rfl (by decide) (by decide) dL_law_12 15 rfl (fun qm => ?_)
  refine n_astore_n hC dL_law_15 rfl (ltn hn (by decide)) 16 rfl [(2, .ref q1), (1, .ref q0), (0, .ref b)] rfl ?_
  refine n_iconst (v := (0 : Int32)) hC dL_law_16 (by decide) 17 rfl ?_
  refine n_istore_n hC dL_law_17 rfl (ltn hn (by decide)) 18 rfl [(3, .int (0 : Int32)), (2, .ref q1), (1, .ref q0), (0, .ref b)] rfl ?_
  subst eX
  intro H locs ls hP hD hS hl
  have hP : va_P D vwCl (po_X8 D q0 qx ++ po_X9 D q1 qm) H := hP
  have hD : va_D (fun q : Nat => s.heap.size ≤ q) (po_X8 D q0 qx ++ po_X9 D q1 qm) := hD
  rw [← CW_start D q0 q1 qx qm tM tO tB aK aV] at hP hD
  generalize ha : adr q0 q1 qx qm tM tO tB aK aV = a at hP hD
  have hge : ∀ k, k < NCW → s.heap.size ≤ a k := fun k hk => by
    have e : ((CW D a r0 g0 u0 h0m).map (fun q => q.1))[k]? = some (a k) := by rw [CW_keys, List.getElem?_map, List.getElem?_range hk]; rfl
    rw [List.getElem?_map] at e
    cases hq : (CW D a r0 g0 u0 h0m)[k]? with
    | none => rw [hq] at e; cases e
    | some q => rw [hq] at e; have h2 : s.heap.size ≤ q.1 := hD.2 k q hq; have e2 : q.1 = a k := Option.some.inj e; rw [e2] at h2; exact h2
  have hAP : AP a := fun i j hi hj e => by
    have key : ∀ k, k < NCW → ∃ q, (CW D a r0 g0 u0 h0m)[k]? = some q ∧ q.1 = a k := fun k hk => by
      have e : ((CW D a r0 g0 u0 h0m).map (fun q => q.1))[k]? = some (a k) := by rw [CW_keys, List.getElem?_map, List.getElem?_range hk]; rfl
      rw [List.getElem?_map] at e
      cases hq : (CW D a r0 g0 u0 h0m)[k]? with
      | none => rw [hq] at e; cases e
      | some q => rw [hq] at e; exact ⟨q, rfl, Option.some.inj e⟩
    obtain ⟨p1, h1, h2⟩ := key i hi
    obtain ⟨p2, h3, h4⟩ := key j hj
    exact hD.1 i j p1 p2 h1 h3 (by rw [h2, h4]; exact e)
  have hFA : ∀ q, FR a s.heap.size q → s.heap.size ≤ q := fun q h => h.elim (fun ⟨k, hk, e⟩ => e ▸ hge k hk) id
  have hS' : va_S (FR a s.heap.size) s.heap H locs := ⟨hS.1, fun q h1 h2 => hS.2.1 q h1 (hA0 q h1), fun l hl => Or.inr (hS.2.2 l hl)⟩
  have nar : ∀ q, FR a s.heap.size q → (fun q : Nat => s.heap.size ≤ q) q := hFA
  have hST : ST a (FR a s.heap.size) s s.heap := by
    refine ⟨?_, ?_, ?_, hZC.narrow nar, hZQ.narrow nar, (vkS_congr hVS (fun i hi => by rw [← ha]; exact adr_K q0 q1 qx qm tM tO tB aK aV i hi) (fun i hi => by rw [← ha]; exact adr_V q0 q1 qx qm tM tO tB aK aV i hi)).narrow nar, fun i hi => ?_⟩
    · rw [show a 200 = tM from by rw [← ha]; rfl]; exact ⟨hM.1.narrow nar, hM.2.narrow nar⟩
    · rw [show a 201 = tO from by rw [← ha]; rfl]; exact ⟨hO.1.narrow nar, hO.2.narrow nar⟩
    · rw [show a 202 = tB from by rw [← ha]; rfl]; exact ⟨hB.1.narrow nar, hB.2.narrow nar⟩
    · rw [show a (210 + i) = aK i from by rw [← ha]; exact adr_K q0 q1 qx qm tM tO tB aK aV i hi]; exact hVR i hi
  have e0 : q0 = a 0 := by rw [← ha]; rfl
  have e1 : q1 = a 52 := by rw [← ha]; rfl
  refine W.widen (k := 600000) (n := 7302250) (Nat.le_of_ble_eq_true rfl) (Nat.le_of_ble_eq_true rfl) ?_
  refine law_loop (X := (l, p, e, room_1, s, m, #[Value.ref b], below, meth, c, 4, D, a, 600000, 7302250, lw_Z below #[Value.ref b] s)) Rl hops hL ⟨hx, hb, hml, hown, htA, hK, hAP, hST, by decide, by decide, by decide, by decide⟩ rfl ⟨hXs, hbl, fun h => absurd (hFA b h) (Nat.not_le.mpr hbl)⟩ ?_ (L + 1) 0 r0 g0 u0 h0m (by omega) (by omega) hinit H locs ls hP hS' (lv_has_sub hl ?_)
  · intro r g u h lv H locs ls hP hS hl
    exact va_forget (fun q hq => hFA _ (hS.2.2 q hq)) (lw_ret hx hb hr hlocks dL_law_1529)
  · intro q hq
    rw [e0, e1]
    simp only [List.mem_cons, List.not_mem_nil, or_false] at hq ⊢
    rcases hq with h | h | h | h
    · exact Or.inr (Or.inr (Or.inr h))
    · exact Or.inr (Or.inr (Or.inl h))
    · exact Or.inr (Or.inl h)
    · exact Or.inl h
