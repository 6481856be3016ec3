/-! ===== keep and again, the calls ===== -/
def sg4 (a b c d : Int32) (s : Nat → Int32) : Nat → Int32 := upd (upd (upd (upd s 0 a) 1 b) 2 c) 3 d
def lay (m n : Nat) (a k : Nat → Int32) : Nat → Int32 := fun j => if m ≤ j ∧ j < m + n then a (j - m) else k j
def fet (m n : Nat) (k a : Nat → Int32) : Nat → Int32 := fun j => if j < n then k (m + j) else a j
theorem lay_i {m n : Nat} {a k : Nat → Int32} {i : Nat} (h : i < n) : lay m n a k (m + i) = a i := by
  unfold lay
  rw [if_pos (by omega), Nat.add_sub_cancel_left]
theorem lay_o {m n : Nat} {a k : Nat → Int32} {j : Nat} (h : j < m) : lay m n a k j = k j := if_neg (by omega)
theorem fet_i {m n : Nat} {a k : Nat → Int32} {i : Nat} (h : i < n) : fet m n k a i = k (m + i) := if_pos h
def pack (s sz tw hb on cl lw cu sg k : Nat → Int32) : Nat → Int32 := lay 168 200 sg (lay 144 24 cu (lay 137 7 lw (lay 38 99 cl (lay 28 10 on (lay 18 10 hb (lay 8 10 tw (lay 4 4 sz (lay 0 4 s k))))))))
theorem bn3_s {A B C D : Type} (a : A) (b : B) (c : C) (f : A → B → C → Option D) : bn3 (some (a, b, c)) f = f a b c := rfl
theorem moveAll_k (cls cl mv pe z : Int32) (claim clause hub kept laws one signs single sz tw : Nat → Int32) : f9_moveAll cl cls mv pe z claim clause hub kept laws one signs single sz tw 1 = some (nI 368, claim, clause, hub, pack (sg4 pe cl cls z single) sz tw hub one claim laws clause signs kept, laws, one, signs, sg4 pe cl cls z single, sz, tw) := by
  have h1 := f9_move_a82_k (sg4 pe cl cls z single) kept (m := 0) (n := 4) (by omega) (by omega)
  have h2 := f9_move_a53_k sz (lay 0 4 (sg4 pe cl cls z single) kept) (m := 4) (n := 4) (by omega) (by omega)
  have h3 := f9_move_a54_k tw (lay 4 4 sz (lay 0 4 (sg4 pe cl cls z single) kept)) (m := 8) (n := 10) (by omega) (by omega)
  have h4 := f9_move_a55_k hub (lay 8 10 tw (lay 4 4 sz (lay 0 4 (sg4 pe cl cls z single) kept))) (m := 18) (n := 10) (by omega) (by omega)
  have h5 := f9_move_a56_k one (lay 18 10 hub (lay 8 10 tw (lay 4 4 sz (lay 0 4 (sg4 pe cl cls z single) kept)))) (m := 28) (n := 10) (by omega) (by omega)
  have h6 := f9_move_a57_k claim (lay 28 10 one (lay 18 10 hub (lay 8 10 tw (lay 4 4 sz (lay 0 4 (sg4 pe cl cls z single) kept))))) (m := 38) (n := 99) (by omega) (by omega)
  have h7 := f9_move_a58_k laws (lay 38 99 claim (lay 28 10 one (lay 18 10 hub (lay 8 10 tw (lay 4 4 sz (lay 0 4 (sg4 pe cl cls z single) kept)))))) (m := 137) (n := 7) (by omega) (by omega)
  have h8 := f9_move_a60_k clause (lay 137 7 laws (lay 38 99 claim (lay 28 10 one (lay 18 10 hub (lay 8 10 tw (lay 4 4 sz (lay 0 4 (sg4 pe cl cls z single) kept))))))) (m := 144) (n := 24) (by omega) (by omega)
  have h9 := f9_move_a61_k signs (lay 144 24 clause (lay 137 7 laws (lay 38 99 claim (lay 28 10 one (lay 18 10 hub (lay 8 10 tw (lay 4 4 sz (lay 0 4 (sg4 pe cl cls z single) kept)))))))) (m := 168) (n := 200) (by omega) (by omega)
  have i0 : ix (0 : Int32) 4 = true := by decide
  have i1 : ix (1 : Int32) 4 = true := by decide
  have i2 : ix (2 : Int32) 4 = true := by decide
  have i3 : ix (3 : Int32) 4 = true := by decide
  unfold f9_moveAll
  rw [i0, i1, i2, i3, gd_t, gd_t, gd_t, gd_t]
  refine (congrArg (fun o => bn3 o _) h1).trans ((bn3_s _ _ _ _).trans ?_)
  refine (congrArg (fun o => bn3 o _) h2).trans ((bn3_s _ _ _ _).trans ?_)
  refine (congrArg (fun o => bn3 o _) h3).trans ((bn3_s _ _ _ _).trans ?_)
  refine (congrArg (fun o => bn3 o _) h4).trans ((bn3_s _ _ _ _).trans ?_)
  refine (congrArg (fun o => bn3 o _) h5).trans ((bn3_s _ _ _ _).trans ?_)
  refine (congrArg (fun o => bn3 o _) h6).trans ((bn3_s _ _ _ _).trans ?_)
  refine (congrArg (fun o => bn3 o _) h7).trans ((bn3_s _ _ _ _).trans ?_)
  refine (congrArg (fun o => bn3 o _) h8).trans ((bn3_s _ _ _ _).trans ?_)
  refine (congrArg (fun o => bn3 o _) h9).trans ((bn3_s _ _ _ _).trans ?_)
  rfl
theorem moveAll_a (cls cl mv pe z : Int32) (claim clause hub k laws one signs single sz tw : Nat → Int32) : f9_moveAll cl cls mv pe z claim clause hub k laws one signs single sz tw 0 = some (nI 368, fet 38 99 k claim, fet 144 24 k clause, fet 18 10 k hub, k, fet 137 7 k laws, fet 28 10 k one, fet 168 200 k signs, fet 0 4 k (sg4 pe cl cls z single), fet 4 4 k sz, fet 8 10 k tw) := by
  have h1 := f9_move_a82_a (sg4 pe cl cls z single) k (m := 0) (n := 4) (by omega) (by omega)
  have h2 := f9_move_a53_a sz k (m := 4) (n := 4) (by omega) (by omega)
  have h3 := f9_move_a54_a tw k (m := 8) (n := 10) (by omega) (by omega)
  have h4 := f9_move_a55_a hub k (m := 18) (n := 10) (by omega) (by omega)
  have h5 := f9_move_a56_a one k (m := 28) (n := 10) (by omega) (by omega)
  have h6 := f9_move_a57_a claim k (m := 38) (n := 99) (by omega) (by omega)
  have h7 := f9_move_a58_a laws k (m := 137) (n := 7) (by omega) (by omega)
  have h8 := f9_move_a60_a clause k (m := 144) (n := 24) (by omega) (by omega)
  have h9 := f9_move_a61_a signs k (m := 168) (n := 200) (by omega) (by omega)
  have i0 : ix (0 : Int32) 4 = true := by decide
  have i1 : ix (1 : Int32) 4 = true := by decide
  have i2 : ix (2 : Int32) 4 = true := by decide
  have i3 : ix (3 : Int32) 4 = true := by decide
  unfold f9_moveAll
  rw [i0, i1, i2, i3, gd_t, gd_t, gd_t, gd_t]
  refine (congrArg (fun o => bn3 o _) h1).trans ((bn3_s _ _ _ _).trans ?_)
  refine (congrArg (fun o => bn3 o _) h2).trans ((bn3_s _ _ _ _).trans ?_)
  refine (congrArg (fun o => bn3 o _) h3).trans ((bn3_s _ _ _ _).trans ?_)
  refine (congrArg (fun o => bn3 o _) h4).trans ((bn3_s _ _ _ _).trans ?_)
  refine (congrArg (fun o => bn3 o _) h5).trans ((bn3_s _ _ _ _).trans ?_)
  refine (congrArg (fun o => bn3 o _) h6).trans ((bn3_s _ _ _ _).trans ?_)
  refine (congrArg (fun o => bn3 o _) h7).trans ((bn3_s _ _ _ _).trans ?_)
  refine (congrArg (fun o => bn3 o _) h8).trans ((bn3_s _ _ _ _).trans ?_)
  refine (congrArg (fun o => bn3 o _) h9).trans ((bn3_s _ _ _ _).trans ?_)
  rfl
