/-! ===== pure part: rules as lists, and the whole relation ===== -/
/-- an item of a condition: (t, x, y): t = 0, 1, 2: x < y, x = y, x > y (x, y: below 1000 a number, from 1000 on a fact); 3 not, 4 and, 5 or -/
abbrev It : Type := Nat × Nat × Nat
def valI (f : Nat → Int32) (x : Nat) : Int32 := if x < 1000 then nI x else f (x - 1000)
def cmpI (t : Nat) (a b : Int32) : Bool := if t = 0 then decide (a < b) else if t = 1 then decide (a = b) else decide (b < a)
def ev1 (f : Nat → Int32) (i : It) (s : List Bool) : Option (List Bool) :=
  if i.1 < 3 then some (cmpI i.1 (valI f i.2.1) (valI f i.2.2) :: s)
  else if i.1 = 3 then match s with
    | b :: s => some ((!b) :: s)
    | [] => none
  else match s with
    | b :: a :: s => some ((if i.1 = 4 then a && b else a || b) :: s)
    | _ => none
def evs (f : Nat → Int32) : List It → List Bool → Option (List Bool)
  | [], s => some s
  | i :: l, s => (ev1 f i s).bind (evs f l)
/-- the class's codes of an item, the reference's signs -/
def cC (i : It) : List Nat := if i.1 < 3 then [i.2.1, i.2.2, 2000 + i.1] else [2000 + i.1]
def vM (x : Nat) : Nat := if x < 1000 then x else 20000 + (x - 1000)
def cM (i : It) : List Nat := if i.1 < 3 then [vM i.2.1, 60 + i.1, vM i.2.2] else if i.1 = 3 then [40002] else if i.1 = 4 then [40000] else [40001]
def okI (i : It) : Prop := i.1 < 6 ∧ i.2.1 < 1006 ∧ i.2.2 < 1006
/-- a clause: ask or pay, its condition for the class and for the reference (none: []) -/
abbrev Cl : Type := Bool × List It × List It
def codC (c : Cl) : List Nat := c.2.1.flatMap cC ++ [if c.2.1 = [] then (bif c.1 then 2011 else 2010) else (bif c.1 then 2013 else 2012)]
def sgM (c : Cl) : List Nat := c.2.2.flatMap cM
def okC (c : Cl) : Prop := (c.2.1 = [] ↔ c.2.2 = []) ∧ (∀ i ∈ c.2.1, okI i) ∧ (∀ i ∈ c.2.2, okI i) ∧ (c.2.1 ≠ [] → ∀ f, ∃ b, evs f c.2.1 [] = some [b] ∧ evs f c.2.2 [] = some [b])
def RR (cnt cls : Int32) (codes : Nat → Int32) (mcls : Int32) (mclause msigns : Nat → Int32) : Prop := ∃ L : List Cl, L.length ≤ 8 ∧ (∀ c ∈ L, okC c) ∧ cls = nI L.length ∧ mcls = nI L.length ∧
  (L.flatMap codC).length ≤ 209 ∧ cnt = nI (L.flatMap codC).length ∧ (∀ i, i < (L.flatMap codC).length → codes i = nI ((L.flatMap codC).getD i 0)) ∧
  (L.flatMap sgM).length ≤ 200 ∧ (∀ i, i < (L.flatMap sgM).length → msigns i = nI ((L.flatMap sgM).getD i 0)) ∧
  ∀ j, j < L.length → mclause (3 * j) = (bif (L.getD j (false, [], [])).1 then 1 else 0) ∧ mclause (3 * j + 1) = nI ((L.take j).flatMap sgM).length ∧ mclause (3 * j + 2) = nI ((L.take (j + 1)).flatMap sgM).length
def RB (pe cl z : Int32) (siz law hom hub one fac sea fou byc : Nat → Int32) (mpe mcl mz : Int32) (msiz mtow mhub mone mcla mlaw : Nat → Int32) : Prop :=
  ∃ P C : Nat, pe = nI P ∧ mpe = nI P ∧ cl = nI C ∧ mcl = nI C ∧ mz = z ∧ RBx P C siz law hom hub one fac sea fou byc msiz mtow mhub mone mcla mlaw
def RT (len mlen : Int32) (tp mt : Nat → Int32) : Prop := ∃ n : Nat, n ≤ 200 ∧ len = nI n ∧ mlen = nI n ∧ ∀ i, i < n → mt i = tp i ∧ ∃ b : Nat, b < 256 ∧ tp i = nI b
def RW (cnt mcnt : Int32) (ent ment : Nat → Int32) : Prop := ∃ n : Nat, n ≤ 36 ∧ cnt = nI n ∧ mcnt = nI n ∧ ∀ i, i < 3 * n → ment i = ent i
/-- sheets -/
def RH (sor len : Nat → Int32) (ite : Nat → Int64) (msor msiz : Nat → Int32) (mshe : Nat → Int64) : Prop :=
  ∀ s, s < 4 → msor s = sor s ∧ (sor s = -1 ∨ ∃ t n : Nat, t < 4 ∧ n ≤ 40 ∧ sor s = nI t ∧ len s = nI n ∧ msiz s = nI n ∧ ∀ i, i < 40 → mshe (40 * s + i) = ite (s * 40 + i))
/-- shelves -/
def RS (hel num mhel mnum msze : Nat → Int32) : Prop :=
  ∀ s, s < 4 → (hel s = -1 ∧ mhel s = -1) ∨ (∃ n : Nat, n < 9 ∧ hel s = 0 ∧ mhel s = 0 ∧ num s = nI n ∧ mnum s = nI n) ∨ ∃ t n : Nat, t < 4 ∧ n ≤ 40 ∧ hel s = nI (10 + t) ∧ mhel s = 1 ∧ mnum s = nI t ∧ num s = nI n ∧ msze s = nI n
def RP (cnt mcnt : Int32) (bod mbod : Nat → Int32) : Prop := ∃ n : Nat, n ≤ 30 ∧ cnt = nI n ∧ mcnt = nI n ∧ ∀ i, i < n → mbod i = bod i
def RK (any many : Int32) (Bk Rk : Prop) : Prop := many = any ∧ (any = 0 ∨ (any = 1 ∧ Bk ∧ Rk))
def Rl (r : Nat → Int32) (g : Nat → Nat → Int32) (_ : Nat → Int64) (h : Nat → Nat → Int64) : Prop :=
  RB (r 0) (r 1) (r 6) (g 2) (g 3) (g 4) (g 5) (g 6) (g 7) (g 8) (g 9) (g 10) (r 30) (r 31) (r 33) (g 53) (g 54) (g 55) (g 56) (g 57) (g 58) ∧
  (∀ j, j < 7 → g 59 j = lawMost j) ∧
  RR (r 2) (r 3) (g 12) (r 32) (g 60) (g 61) ∧
  RK (r 14) (r 51) (RB (r 7) (r 8) (r 13) (g 15) (g 16) (g 17) (g 18) (g 19) (g 20) (g 21) (g 22) (g 23) (g 81 0) (g 81 1) (g 81 3) (fun i => g 81 (4 + i)) (fun i => g 81 (8 + i)) (fun i => g 81 (18 + i)) (fun i => g 81 (28 + i)) (fun i => g 81 (38 + i)) (fun i => g 81 (137 + i)))
    (RR (r 9) (r 10) (g 25) (g 81 2) (fun i => g 81 (144 + i)) (fun i => g 81 (168 + i))) ∧
  RT (r 15) (r 34) (g 33) (g 62) ∧
  RW (r 23) (r 44) (g 40) (g 72) ∧
  RH (g 44) (g 45) (h 46) (g 74) (g 75) (h 76) ∧
  RS (g 47) (g 48) (g 77) (g 78) (g 79) ∧
  RP (r 25) (r 49) (g 50) (g 80)
