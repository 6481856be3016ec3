theorem no_s {α : Type} {r : α} {P : Prop} (h : none = some r) : P := nomatch h
theorem ltn {X : CT} {n i : Nat} (hn : nX X = n) (h : i < n) : i < nX X := hn ▸ h
theorem sw_n {x : Int32} : ∀ v ∈ ([] : List Int), ¬ x = Int32.ofInt v := fun _ h => absurd h List.not_mem_nil
theorem sw_c {x c : Int32} {v : Int} {l : List Int} (h : ¬ x = c) (e : Int32.ofInt v = c) (t : ∀ w ∈ l, ¬ x = Int32.ofInt w) : ∀ w ∈ v :: l, ¬ x = Int32.ofInt w := fun w hw => (List.mem_cons.mp hw).elim (fun q => by rw [q, e]; exact h) (t w)
def depR (k : Nat) : Nat → Nat
  | 0 => 10
  | n + 1 => depR k n + k
theorem depR_ge (k : Nat) : ∀ n, 10 ≤ depR k n
  | 0 => Nat.le_refl _
  | n + 1 => Nat.le_trans (depR_ge k n) (Nat.le_add_right _ _)
def strLen (i : Nat) : Int32 := Int32.ofNat (sLen.getD i 0)
def strCh (i : Nat) (k : Int32) : Int32 := (sByt.getD i []).getD k.toNatClampNeg 0
theorem v_ldcS {X : CT} {cc : ByteArray} {d : Nat} {r : Nat → Int32} {g : Nat → Nat → Int32} {u : Nat → Int64} {h : Nat → Nat → Int64} {lv : List (Nat × Value)} {st : List Value} {pc index : Nat} (hX : CX X RX4 cc d) (i : Nat) (hi : i < 12) (he : sEnt.getD i 0 = index) (hdg : decode cc pc = .ok (.ldc index, 2)) (n : Nat) (hn : pc + 2 = n) (k : VC X r g u h lv (.ref (aX X (210 + i)) :: st) n) : VC X r g u h lv st pc := by
  obtain ⟨l, p, e, R, s, m, args, below, meth, c, nL, D, a, cells, slots, Q⟩ := X
  obtain ⟨hx, hb, hml, hown, hts, hK, hAP, hST, hd, hd2, hc, hs⟩ := hX
  subst hn
  subst he
  intro H locs ls hP hS hl
  exact va_ldcS hx hb hown (hST.2.2.2.2.2.2 i hi) hdg (k H locs ls hP hS hl)
theorem v_inc {X : CT} {own : String} {cc : ByteArray} {d : Nat} {r : Nat → Int32} {g : Nat → Nat → Int32} {u : Nat → Int64} {h : Nat → Nat → Int64} {lv : List (Nat × Value)} {st : List Value} {pc i : Nat} {z : Int} {x c : Int32} (hX : CX X own cc d) (hdg : decode cc pc = .ok (.iinc i z, 3)) (j : Nat) (hj : lv[j]? = some (i, .int x)) (hc : Int32.ofInt z = c) (hi2 : i < nX X) (n : Nat) (hn : pc + 3 = n) (lv' : List (Nat × Value)) (hlv : (i, Value.int (x + c)) :: rmv lv i = lv') (k : VC X r g u h lv' st n) : VC X r g u h lv st pc :=
  v_iinc hX hdg j hj (by rw [hc]) hi2 n hn lv' hlv k
theorem v_slen {X : CT} {own : String} {cc : ByteArray} {d : Nat} {r : Nat → Int32} {g : Nat → Nat → Int32} {u : Nat → Int64} {h : Nat → Nat → Int64} {lv : List (Nat × Value)} {st0 : List Value} {pc idx : Nat} (hX : CX X own cc d) (i : Nat) (hi : i < 12) (hd0 : 5 ≤ d) (hl : Cond.methodLink own idx yJ0_length_8abf5 ∈ AL) (st : List Value) (hst : st0 = .ref (aX X (210 + i)) :: st) (hcat : (st.map fun v => v.category).sum ≤ 8) (hdg : decode cc pc = .ok (.invokevirtual idx, 3)) (n : Nat) (hn : pc + 3 = n) (k : VC X r g u h lv (.int (strLen i) :: st) n) : VC X r g u h lv st0 pc := sorry
theorem v_scharAt {X : CT} {own : String} {cc : ByteArray} {d : Nat} {r : Nat → Int32} {g : Nat → Nat → Int32} {u : Nat → Int64} {h : Nat → Nat → Int64} {lv : List (Nat × Value)} {st0 : List Value} {pc idx : Nat} {j : Int32} (hX : CX X own cc d) (i : Nat) (hi : i < 12) (hj : ix j (sLen.getD i 0) = true) (hd0 : 5 ≤ d) (hl : Cond.methodLink own idx yJ0_charAt_5068e ∈ AL) (st : List Value) (hst : st0 = .int j :: .ref (aX X (210 + i)) :: st) (hcat : (st.map fun v => v.category).sum ≤ 8) (hdg : decode cc pc = .ok (.invokevirtual idx, 3)) (n : Nat) (hn : pc + 3 = n) (k : VC X r g u h lv (.int (strCh i j) :: st) n) : VC X r g u h lv st0 pc := sorry
