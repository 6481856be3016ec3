def f1_isShelf (p0 : Int32) : Option (Int32) :=
  if p0 < (0 : Int32) then
    some (0 : Int32)
  else
  if (4 : Int32) ≤ p0 then
    some (0 : Int32)
  else
    some (1 : Int32)
def f1_heldOn (held_ : (Nat → Int32)) (numbers_ : (Nat → Int32)) (p1 : Int32) (p2 : Int32) : Option (Int32) :=
  Option.bind (f1_isShelf p1) fun (v1 : Int32) =>
  if v1 = (0 : Int32) then
    some (-1 : Int32)
  else
    gd (ix p1 4) <|
    jn (fun (s4 : Int32) =>
      if s4 = (0 : Int32) then
        gd (ix p1 4) <|
        some (held_ p1.toNatClampNeg)
      else
        some (-1 : Int32)) fun (J3 : Int32 → Option (Int32)) =>
    jn (
      J3 (0 : Int32)) fun (J7 : Option (Int32)) =>
    if (held_ p1.toNatClampNeg) = (0 : Int32) then
      gd (ix p1 4) <|
      if (numbers_ p1.toNatClampNeg) < p2 then
        J7
      else
        J3 (1 : Int32)
    else
      J7
def f0_isClaim (claims_ : Int32) (p1 : Int32) : Option (Int32) :=
  if p1 < (0 : Int32) then
    some (0 : Int32)
  else
  if claims_ ≤ p1 then
    some (0 : Int32)
  else
    some (1 : Int32)
def f0_fact (claims_ : Int32) (facts_ : (Nat → Int32)) (p1 : Int32) (p2 : Int32) : Option (Int32) :=
  Option.bind (f0_isClaim claims_ p1) fun (v1 : Int32) =>
  if v1 = (0 : Int32) then
    some (0 : Int32)
  else
  if p2 < (0 : Int32) then
    some (0 : Int32)
  else
  if p2 < (5 : Int32) then
    gd (ix ((p1 * (5 : Int32)) + p2) 45) <|
    some (facts_ ((p1 * (5 : Int32)) + p2).toNatClampNeg)
  else
    some (0 : Int32)
def f3_bodyOf (kind_ : Int32) (p1 : Int32) : Option (Int32) :=
  if p1 < (0 : Int32) then
    some (0 : Int32)
  else
  if (4 : Int32) ≤ p1 then
    some (0 : Int32)
  else
  if ((kind_ * (4 : Int32)) + p1) < (0 : Int32) then
    some (0 : Int32)
  else
  if (24 : Int32) ≤ ((kind_ * (4 : Int32)) + p1) then
    some (0 : Int32)
  else
    gd (ix ((kind_ * (4 : Int32)) + p1) 24) <|
    some (bodTab ((kind_ * (4 : Int32)) + p1).toNatClampNeg)
def f3_share (a_ : Int32) (n_ : Int32) (parted_ : Int32) (p1 : Int32) : Option (Int32 × Int32) :=
  if (a_ - n_) = (0 : Int32) then
    some ((0 : Int32), (1 : Int32))
  else
    gd (nz (a_ - n_)) <|
    some ((p1 / (a_ - n_)), parted_)
def f3_run_ (rc : Int32 → Int32 → Int32 → Int32 → Int32 → (Nat → Int32) → Int32 → Int32 → Int32 → Option (Int32 × Int32 × Int32 × (Nat → Int32))) (a_ : Int32) (count_ : Int32) (kind_ : Int32) (n_ : Int32) (parted_ : Int32) (bodies_ : (Nat → Int32)) (p1 : Int32) (p2 : Int32) (p3 : Int32) : Option (Int32 × Int32 × Int32 × (Nat → Int32)) :=
  if parted_ = (0 : Int32) then
    if p3 ≤ (40 : Int32) then
      jn (fun (c2 : Int32) (c3 : (Nat → Int32)) =>
        if p1 = (10 : Int32) then
          some ((p2 + n_), c2, parted_, c3)
        else
        if p1 = (11 : Int32) then
          Option.bind (f3_bodyOf kind_ (0 : Int32)) fun (v6 : Int32) =>
          bn4 (rc a_ c2 kind_ n_ parted_ c3 v6 p2 (p3 + (1 : Int32))) fun (v7 : Int32) (c8 : Int32) (c9 : Int32) (c10 : (Nat → Int32)) =>
          some ((v7 * (2 : Int32)), c8, c9, c10)
        else
        if p1 = (12 : Int32) then
          bn2 (f3_share a_ n_ parted_ p2) fun (v12 : Int32) (c13 : Int32) =>
          some (v12, c2, c13, c3)
        else
        if p1 = (13 : Int32) then
          Option.bind (f3_bodyOf kind_ (1 : Int32)) fun (v15 : Int32) =>
          bn4 (rc a_ c2 kind_ n_ parted_ c3 v15 p2 (p3 + (1 : Int32))) fun (v16 : Int32) (c17 : Int32) (c18 : Int32) (c19 : (Nat → Int32)) =>
          some ((v16 ^^^ a_), c17, c18, c19)
        else
        if p1 = (20 : Int32) then
          bn4 (rc a_ c2 kind_ n_ parted_ c3 (11 : Int32) p2 (p3 + (1 : Int32))) fun (v21 : Int32) (c22 : Int32) (c23 : Int32) (c24 : (Nat → Int32)) =>
          some ((v21 - a_), c22, c23, c24)
        else
        if p1 = (30 : Int32) then
          bn4 (rc a_ c2 kind_ n_ parted_ c3 (10 : Int32) p2 (p3 + (1 : Int32))) fun (v26 : Int32) (c27 : Int32) (c28 : Int32) (c29 : (Nat → Int32)) =>
          some ((v26 * (3 : Int32)), c27, c28, c29)
        else
        if p1 = (31 : Int32) then
          bn4 (rc a_ c2 kind_ n_ parted_ c3 (13 : Int32) p2 (p3 + (1 : Int32))) fun (v31 : Int32) (c32 : Int32) (c33 : Int32) (c34 : (Nat → Int32)) =>
          Option.bind (f3_bodyOf kind_ (2 : Int32)) fun (v35 : Int32) =>
          bn4 (rc a_ c32 kind_ n_ c33 c34 v35 n_ (p3 + (1 : Int32))) fun (v36 : Int32) (c37 : Int32) (c38 : Int32) (c39 : (Nat → Int32)) =>
          some ((v31 + v36), c37, c38, c39)
        else
        if p1 = (40 : Int32) then
          bn4 (rc a_ c2 kind_ n_ parted_ c3 (10 : Int32) p2 (p3 + (1 : Int32))) fun (v41 : Int32) (c42 : Int32) (c43 : Int32) (c44 : (Nat → Int32)) =>
          some (((0 : Int32) - v41), c42, c43, c44)
        else
        if p1 = (41 : Int32) then
          bn4 (rc a_ c2 kind_ n_ parted_ c3 (20 : Int32) p2 (p3 + (1 : Int32))) fun (v46 : Int32) (c47 : Int32) (c48 : Int32) (c49 : (Nat → Int32)) =>
          Option.bind (f3_bodyOf kind_ (0 : Int32)) fun (v50 : Int32) =>
          bn4 (rc a_ c47 kind_ n_ c48 c49 v50 n_ (p3 + (1 : Int32))) fun (v51 : Int32) (c52 : Int32) (c53 : Int32) (c54 : (Nat → Int32)) =>
          some ((v46 + v51), c52, c53, c54)
        else
        if p1 = (50 : Int32) then
          bn4 (rc a_ c2 kind_ n_ parted_ c3 (12 : Int32) (p2 + (2 : Int32)) (p3 + (1 : Int32))) fun (v56 : Int32) (c57 : Int32) (c58 : Int32) (c59 : (Nat → Int32)) =>
          some ((v56 ^^^ (1 : Int32)), c57, c58, c59)
        else
        if p1 = (51 : Int32) then
          bn4 (rc a_ c2 kind_ n_ parted_ c3 (30 : Int32) p2 (p3 + (1 : Int32))) fun (v61 : Int32) (c62 : Int32) (c63 : Int32) (c64 : (Nat → Int32)) =>
          some ((v61 - n_), c62, c63, c64)
        else
        if p1 = (60 : Int32) then
          bn4 (rc a_ c2 kind_ n_ parted_ c3 (13 : Int32) p2 (p3 + (1 : Int32))) fun (v66 : Int32) (c67 : Int32) (c68 : Int32) (c69 : (Nat → Int32)) =>
          some ((v66 * (2 : Int32)), c67, c68, c69)
        else
        if p1 = (61 : Int32) then
          bn4 (rc a_ c2 kind_ n_ parted_ c3 (12 : Int32) p2 (p3 + (1 : Int32))) fun (v71 : Int32) (c72 : Int32) (c73 : Int32) (c74 : (Nat → Int32)) =>
          Option.bind (f3_bodyOf kind_ (0 : Int32)) fun (v75 : Int32) =>
          bn4 (rc a_ c72 kind_ n_ c73 c74 v75 a_ (p3 + (1 : Int32))) fun (v76 : Int32) (c77 : Int32) (c78 : Int32) (c79 : (Nat → Int32)) =>
          some ((v71 + v76), c77, c78, c79)
        else
          some ((0 : Int32), c2, parted_, c3)) fun (J1 : Int32 → (Nat → Int32) → Option (Int32 × Int32 × Int32 × (Nat → Int32))) =>
      if (30 : Int32) ≤ count_ then
        J1 count_ bodies_
      else
        gd (ix count_ 30) <|
        J1 (count_ + (1 : Int32)) (upd bodies_ count_.toNatClampNeg p1)
    else
      some ((0 : Int32), count_, parted_, bodies_)
  else
    some ((0 : Int32), count_, parted_, bodies_)
def f3_run : Nat → Int32 → Int32 → Int32 → Int32 → Int32 → (Nat → Int32) → Int32 → Int32 → Int32 → Option (Int32 × Int32 × Int32 × (Nat → Int32))
  | 0, _, _, _, _, _, _, _, _, _ => none
  | n + 1, a0, a1, a2, a3, a4, a5, a6, a7, a8 => f3_run_ (f3_run n) a0 a1 a2 a3 a4 a5 a6 a7 a8
def f3_perform (a_ : Int32) (count_ : Int32) (kind_ : Int32) (n_ : Int32) (parted_ : Int32) (bodies_ : (Nat → Int32)) (p1 : Int32) (p2 : Int32) (p3 : Int32) (p4 : Int32) (p5 : Int32) : Option (Int32 × Int32 × Int32 × Int32 × Int32 × Int32 × (Nat → Int32)) :=
  Option.bind (f3_bodyOf p1 p4) fun (v1 : Int32) =>
  bn4 (f3_run 10 p3 (0 : Int32) p1 p2 (0 : Int32) bodies_ v1 p5 (0 : Int32)) fun (v2 : Int32) (c3 : Int32) (c4 : Int32) (c5 : (Nat → Int32)) =>
  if c4 = (0 : Int32) then
    some (v2, p3, c3, p1, p2, c4, c5)
  else
    some ((-15 : Int32), p3, c3, p1, p2, c4, c5)
def f8_act (book_claims_ : Int32) (play_a_ : Int32) (play_count_ : Int32) (play_kind_ : Int32) (play_n_ : Int32) (play_parted_ : Int32) (book_facts_ : (Nat → Int32)) (host_held_ : (Nat → Int32)) (host_numbers_ : (Nat → Int32)) (play_bodies_ : (Nat → Int32)) (p1 : Int32) (p2 : Int32) (p3 : Int32) : Option (Int32 × Int32 × Int32 × Int32 × Int32 × Int32 × (Nat → Int32)) :=
  Option.bind (f1_isShelf p1) fun (v1 : Int32) =>
  if v1 = (0 : Int32) then
    some ((0 : Int32), play_a_, (0 : Int32), play_kind_, play_n_, play_parted_, play_bodies_)
  else
  if p2 < (0 : Int32) then
    some ((0 : Int32), play_a_, (0 : Int32), play_kind_, play_n_, play_parted_, play_bodies_)
  else
  if p2 < (4 : Int32) then
    Option.bind (f1_heldOn host_held_ host_numbers_ p1 book_claims_) fun (v2 : Int32) =>
    if v2 = (0 : Int32) then
      gd (ix p1 4) <|
      Option.bind (f0_fact book_claims_ book_facts_ (host_numbers_ p1.toNatClampNeg) (0 : Int32)) fun (v4 : Int32) =>
      Option.bind (f0_fact book_claims_ book_facts_ (host_numbers_ p1.toNatClampNeg) (4 : Int32)) fun (v5 : Int32) =>
      bn7 (f3_perform play_a_ (0 : Int32) play_kind_ play_n_ play_parted_ play_bodies_ v4 (host_numbers_ p1.toNatClampNeg) v5 p2 p3) fun (v6 : Int32) (c7 : Int32) (c8 : Int32) (c9 : Int32) (c10 : Int32) (c11 : Int32) (c12 : (Nat → Int32)) =>
      some (v6, c7, c8, c9, c10, c11, c12)
    else
      some ((0 : Int32), play_a_, (0 : Int32), play_kind_, play_n_, play_parted_, play_bodies_)
  else
    some ((0 : Int32), play_a_, (0 : Int32), play_kind_, play_n_, play_parted_, play_bodies_)
def f6_copyFrom_L18 (count_ : Int32) (codes_ : (Nat → Int32)) : Nat → Int32 → (Nat → Int32) → (Int32 → (Nat → Int32) → Option (Int32 × Int32 × (Nat → Int32))) → Option (Int32 × Int32 × (Nat → Int32))
  | 0, _, _, _ => none
  | n4 + 1, x1, c2, K3 =>
    if count_ ≤ x1 then
      K3 x1 c2
    else
    if (210 : Int32) ≤ x1 then
      K3 x1 c2
    else
      gd (ix x1 210) <|
      gd (ix x1 210) <|
      f6_copyFrom_L18 count_ codes_ n4 (x1 + (1 : Int32)) (upd c2 x1.toNatClampNeg (codes_ x1.toNatClampNeg)) K3
def f6_copyFrom (clauses_ : Int32) (count_ : Int32) (this_clauses_ : Int32) (this_count_ : Int32) (codes_ : (Nat → Int32)) (this_codes_ : (Nat → Int32)) : Option (Int32 × Int32 × (Nat → Int32)) :=
  jn (fun (x1 : Int32) (c2 : (Nat → Int32)) =>
    some (clauses_, count_, c2)) fun (K3 : Int32 → (Nat → Int32) → Option (Int32 × Int32 × (Nat → Int32))) =>
  f6_copyFrom_L18 count_ codes_ FU (0 : Int32) this_codes_ K3
def f0_copyFrom_L148 (byChance_ : (Nat → Int32)) : Nat → Int32 → (Nat → Int32) → (Int32 → (Nat → Int32) → Option (Int32 × Int32 × Int32 × Int32 × Int32 × (Nat → Int32) × (Nat → Int32) × (Nat → Int32) × (Nat → Int32) × (Nat → Int32) × (Nat → Int32) × (Nat → Int32) × (Nat → Int32) × (Nat → Int32) × (Nat → Int32))) → Option (Int32 × Int32 × Int32 × Int32 × Int32 × (Nat → Int32) × (Nat → Int32) × (Nat → Int32) × (Nat → Int32) × (Nat → Int32) × (Nat → Int32) × (Nat → Int32) × (Nat → Int32) × (Nat → Int32) × (Nat → Int32))
  | 0, _, _, _ => none
  | n11 + 1, x8, c9, K10 =>
    if (9 : Int32) ≤ x8 then
      K10 x8 c9
    else
      gd (ix x8 9) <|
      gd (ix x8 9) <|
      f0_copyFrom_L148 byChance_ n11 (x8 + (1 : Int32)) (upd c9 x8.toNatClampNeg (vp_nar .boolean (byChance_ x8.toNatClampNeg))) K10
def f0_copyFrom_L122 (hubs_ : (Nat → Int32)) : Nat → Int32 → (Nat → Int32) → (Int32 → (Nat → Int32) → Option (Int32 × Int32 × Int32 × Int32 × Int32 × (Nat → Int32) × (Nat → Int32) × (Nat → Int32) × (Nat → Int32) × (Nat → Int32) × (Nat → Int32) × (Nat → Int32) × (Nat → Int32) × (Nat → Int32) × (Nat → Int32))) → Option (Int32 × Int32 × Int32 × Int32 × Int32 × (Nat → Int32) × (Nat → Int32) × (Nat → Int32) × (Nat → Int32) × (Nat → Int32) × (Nat → Int32) × (Nat → Int32) × (Nat → Int32) × (Nat → Int32) × (Nat → Int32))
  | 0, _, _, _ => none
  | n4 + 1, x1, c2, K3 =>
    if (10 : Int32) ≤ x1 then
      K3 x1 c2
    else
      gd (ix x1 10) <|
      gd (ix x1 10) <|
      f0_copyFrom_L122 hubs_ n4 (x1 + (1 : Int32)) (upd c2 x1.toNatClampNeg (vp_nar .boolean (hubs_ x1.toNatClampNeg))) K3
def f0_copyFrom (claims_ : Int32) (people_ : Int32) (rules_clauses_ : Int32) (rules_count_ : Int32) (z_ : Int32) (this_claims_ : Int32) (this_people_ : Int32) (this_rules_clauses_ : Int32) (this_rules_count_ : Int32) (this_z_ : Int32) (byChance_ : (Nat → Int32)) (facts_ : (Nat → Int32)) (found_ : (Nat → Int32)) (homes_ : (Nat → Int32)) (hubs_ : (Nat → Int32)) (laws_ : (Nat → Int32)) (ones_ : (Nat → Int32)) (rules_codes_ : (Nat → Int32)) (seats_ : (Nat → Int32)) (sizes_ : (Nat → Int32)) (this_byChance_ : (Nat → Int32)) (this_facts_ : (Nat → Int32)) (this_found_ : (Nat → Int32)) (this_homes_ : (Nat → Int32)) (this_hubs_ : (Nat → Int32)) (this_laws_ : (Nat → Int32)) (this_ones_ : (Nat → Int32)) (this_rules_codes_ : (Nat → Int32)) (this_seats_ : (Nat → Int32)) (this_sizes_ : (Nat → Int32)) : Option (Int32 × Int32 × Int32 × Int32 × Int32 × (Nat → Int32) × (Nat → Int32) × (Nat → Int32) × (Nat → Int32) × (Nat → Int32) × (Nat → Int32) × (Nat → Int32) × (Nat → Int32) × (Nat → Int32) × (Nat → Int32)) :=
  jn (fun (x1 : Int32) (c2 : (Nat → Int32)) =>
    jn (fun (x8 : Int32) (c9 : (Nat → Int32)) =>
      bn3 (f6_copyFrom rules_clauses_ rules_count_ this_rules_clauses_ this_rules_count_ rules_codes_ this_rules_codes_) fun (c15 : Int32) (c16 : Int32) (c17 : (Nat → Int32)) =>
      some (claims_, people_, c15, c16, z_, c9, (va_cpy facts_ this_facts_ 0 0 45), (va_cpy found_ this_found_ 0 0 9), (va_cpy homes_ this_homes_ 0 0 10), c2, (va_cpy laws_ this_laws_ 0 0 7), (va_cpy ones_ this_ones_ 0 0 10), c17, (va_cpy seats_ this_seats_ 0 0 36), (va_cpy sizes_ this_sizes_ 0 0 4))) fun (K10 : Int32 → (Nat → Int32) → Option (Int32 × Int32 × Int32 × Int32 × Int32 × (Nat → Int32) × (Nat → Int32) × (Nat → Int32) × (Nat → Int32) × (Nat → Int32) × (Nat → Int32) × (Nat → Int32) × (Nat → Int32) × (Nat → Int32) × (Nat → Int32))) =>
    f0_copyFrom_L148 byChance_ FU (0 : Int32) this_byChance_ K10) fun (K3 : Int32 → (Nat → Int32) → Option (Int32 × Int32 × Int32 × Int32 × Int32 × (Nat → Int32) × (Nat → Int32) × (Nat → Int32) × (Nat → Int32) × (Nat → Int32) × (Nat → Int32) × (Nat → Int32) × (Nat → Int32) × (Nat → Int32) × (Nat → Int32))) =>
  f0_copyFrom_L122 hubs_ FU (0 : Int32) this_hubs_ K3
def f8_again (anyKept_ : Int32) (book_claims_ : Int32) (book_people_ : Int32) (book_rules_clauses_ : Int32) (book_rules_count_ : Int32) (book_z_ : Int32) (kept_claims_ : Int32) (kept_people_ : Int32) (kept_rules_clauses_ : Int32) (kept_rules_count_ : Int32) (kept_z_ : Int32) (book_byChance_ : (Nat → Int32)) (book_facts_ : (Nat → Int32)) (book_found_ : (Nat → Int32)) (book_homes_ : (Nat → Int32)) (book_hubs_ : (Nat → Int32)) (book_laws_ : (Nat → Int32)) (book_ones_ : (Nat → Int32)) (book_rules_codes_ : (Nat → Int32)) (book_seats_ : (Nat → Int32)) (book_sizes_ : (Nat → Int32)) (kept_byChance_ : (Nat → Int32)) (kept_facts_ : (Nat → Int32)) (kept_found_ : (Nat → Int32)) (kept_homes_ : (Nat → Int32)) (kept_hubs_ : (Nat → Int32)) (kept_laws_ : (Nat → Int32)) (kept_ones_ : (Nat → Int32)) (kept_rules_codes_ : (Nat → Int32)) (kept_seats_ : (Nat → Int32)) (kept_sizes_ : (Nat → Int32)) : Option (Int32 × Int32 × Int32 × Int32 × Int32 × Int32 × (Nat → Int32) × (Nat → Int32) × (Nat → Int32) × (Nat → Int32) × (Nat → Int32) × (Nat → Int32) × (Nat → Int32) × (Nat → Int32) × (Nat → Int32) × (Nat → Int32)) :=
  if anyKept_ = (0 : Int32) then
    some ((-3 : Int32), book_claims_, book_people_, book_rules_clauses_, book_rules_count_, book_z_, book_byChance_, book_facts_, book_found_, book_homes_, book_hubs_, book_laws_, book_ones_, book_rules_codes_, book_seats_, book_sizes_)
  else
    bn15 (f0_copyFrom kept_claims_ kept_people_ kept_rules_clauses_ kept_rules_count_ kept_z_ book_claims_ book_people_ book_rules_clauses_ book_rules_count_ book_z_ kept_byChance_ kept_facts_ kept_found_ kept_homes_ kept_hubs_ kept_laws_ kept_ones_ kept_rules_codes_ kept_seats_ kept_sizes_ book_byChance_ book_facts_ book_found_ book_homes_ book_hubs_ book_laws_ book_ones_ book_rules_codes_ book_seats_ book_sizes_) fun (c1 : Int32) (c2 : Int32) (c3 : Int32) (c4 : Int32) (c5 : Int32) (c6 : (Nat → Int32)) (c7 : (Nat → Int32)) (c8 : (Nat → Int32)) (c9 : (Nat → Int32)) (c10 : (Nat → Int32)) (c11 : (Nat → Int32)) (c12 : (Nat → Int32)) (c13 : (Nat → Int32)) (c14 : (Nat → Int32)) (c15 : (Nat → Int32)) =>
    some (c1, c1, c2, c3, c4, c5, c6, c7, c8, c9, c10, c11, c12, c13, c14, c15)
def f5_holds (count_ : Int32) (p1 : Int32) (p2 : Int32) : Option (Int32) :=
  if p1 < (0 : Int32) then
    some (0 : Int32)
  else
  if count_ ≤ p1 then
    some (0 : Int32)
  else
  if p2 < (0 : Int32) then
    some (0 : Int32)
  else
  if (3 : Int32) ≤ p2 then
    some (0 : Int32)
  else
    some (1 : Int32)
def f5_entry (count_ : Int32) (entries_ : (Nat → Int32)) (p1 : Int32) (p2 : Int32) : Option (Int32) :=
  Option.bind (f5_holds count_ p1 p2) fun (v1 : Int32) =>
  if v1 = (0 : Int32) then
    some (-9 : Int32)
  else
    gd (ix ((p1 * (3 : Int32)) + p2) 108) <|
    some (entries_ ((p1 * (3 : Int32)) + p2).toNatClampNeg)
def f8_alterRow (rows_count_ : Int32) (rows_entries_ : (Nat → Int32)) (p1 : Int32) (p2 : Int32) (p3 : Int32) : Option (Int32 × (Nat → Int32)) :=
  Option.bind (f5_holds rows_count_ p1 p2) fun (v1 : Int32) =>
  if v1 = (0 : Int32) then
    some ((-9 : Int32), rows_entries_)
  else
    Option.bind (f5_entry rows_count_ rows_entries_ p1 p2) fun (v2 : Int32) =>
    gd (ix ((p1 * (3 : Int32)) + p2) 108) <|
    some (v2, (upd rows_entries_ ((p1 * (3 : Int32)) + p2).toNatClampNeg p3))
def f0_sitter (claims_ : Int32) (seats_ : (Nat → Int32)) (p1 : Int32) (p2 : Int32) : Option (Int32) :=
  if p1 < (0 : Int32) then
    some (-9 : Int32)
  else
  if claims_ ≤ p1 then
    some (-9 : Int32)
  else
  if p2 < (0 : Int32) then
    some (-9 : Int32)
  else
  if p2 < (4 : Int32) then
    gd (ix ((p1 * (4 : Int32)) + p2) 36) <|
    some (seats_ ((p1 * (4 : Int32)) + p2).toNatClampNeg)
  else
    some (-9 : Int32)
def f0_isPerson (people_ : Int32) (p1 : Int32) : Option (Int32) :=
  if p1 < (0 : Int32) then
    some (0 : Int32)
  else
  if people_ ≤ p1 then
    some (0 : Int32)
  else
    some (1 : Int32)
def f0_oneAt (claims_ : Int32) (people_ : Int32) (ones_ : (Nat → Int32)) (seats_ : (Nat → Int32)) (p1 : Int32) (p2 : Int32) : Option (Int32) :=
  Option.bind (f0_sitter claims_ seats_ p1 p2) fun (v1 : Int32) =>
  Option.bind (f0_isPerson people_ v1) fun (v2 : Int32) =>
  if v2 = (0 : Int32) then
    some (-9 : Int32)
  else
    gd (ix v1 10) <|
    some (ones_ v1.toNatClampNeg)
def f0_isHub_L2 (people_ : Int32) (hubs_ : (Nat → Int32)) (ones_ : (Nat → Int32)) (p1 : Int32) : Nat → Int32 → (Int32 → Option (Int32)) → Option (Int32)
  | 0, _, _ => none
  | n3 + 1, x1, K2 =>
    if people_ ≤ x1 then
      K2 x1
    else
      gd (ix x1 10) <|
      jn (
        f0_isHub_L2 people_ hubs_ ones_ p1 n3 (x1 + (1 : Int32)) K2) fun (J5 : Option (Int32)) =>
      if (ones_ x1.toNatClampNeg) = p1 then
        gd (ix x1 10) <|
        if (hubs_ x1.toNatClampNeg) = (0 : Int32) then
          J5
        else
          some (1 : Int32)
      else
        J5
def f0_isHub (people_ : Int32) (hubs_ : (Nat → Int32)) (ones_ : (Nat → Int32)) (p1 : Int32) : Option (Int32) :=
  jn (fun (x1 : Int32) =>
    some (0 : Int32)) fun (K2 : Int32 → Option (Int32)) =>
  f0_isHub_L2 people_ hubs_ ones_ p1 FU (0 : Int32) K2
def f0_law (laws_ : (Nat → Int32)) (p1 : Int32) : Option (Int32) :=
  if p1 < (0 : Int32) then
    some (0 : Int32)
  else
  if (7 : Int32) ≤ p1 then
    some (0 : Int32)
  else
    gd (ix p1 7) <|
    some (laws_ p1.toNatClampNeg)
def f7_sign (laws_ : (Nat → Int32)) (p1 : Int32) (p2 : Int32) : Option (Int32) :=
  if p1 = p2 then
    some (0 : Int32)
  else
    Option.bind (f0_law laws_ p1) fun (v1 : Int32) =>
    some v1
def f7_placeSign (claims_ : Int32) (people_ : Int32) (hubs_ : (Nat → Int32)) (laws_ : (Nat → Int32)) (ones_ : (Nat → Int32)) (seats_ : (Nat → Int32)) (p1 : Int32) (p2 : Int32) (p3 : Int32) (p4 : Int32) (p5 : Int32) : Option (Int32) :=
  Option.bind (f0_oneAt claims_ people_ ones_ seats_ p1 p2) fun (v1 : Int32) =>
  if v1 = (-9 : Int32) then
    some (0 : Int32)
  else
    Option.bind (f0_oneAt claims_ people_ ones_ seats_ p3 p4) fun (v2 : Int32) =>
    if v1 = v2 then
      Option.bind (f0_isHub people_ hubs_ ones_ v1) fun (v3 : Int32) =>
      if v3 = (0 : Int32) then
        if p2 = p4 then
          Option.bind (f7_sign laws_ (0 : Int32) p5) fun (v8 : Int32) =>
          some v8
        else
          jn (fun (s5 : Int32) =>
            Option.bind (f7_sign laws_ s5 p5) fun (v6 : Int32) =>
            some v6) fun (J4 : Int32 → Option (Int32)) =>
          if (p2 + p4) = (1 : Int32) then
            J4 (1 : Int32)
          else
            J4 (2 : Int32)
      else
        some (0 : Int32)
    else
      some (0 : Int32)
def f7_weigh (p0 : Int32) (p1 : Int32) (p2 : Int32) : Option (Int32) :=
  jn (fun (s2 : Int32) =>
    if p0 = (1 : Int32) then
      some s2
    else
    if p0 = (2 : Int32) then
      some (p1 / (2 : Int32))
    else
    if p0 = (3 : Int32) then
      some ((2 : Int32) * s2)
    else
    if p0 = (4 : Int32) then
      some (if (0 : Int32) < ((p1 / (2 : Int32)) - (1 : Int32)) then ((p1 / (2 : Int32)) - (1 : Int32)) else (0 : Int32))
    else
    if p0 = (5 : Int32) then
      some (p1 + (p2 / (10 : Int32)))
    else
      some p1) fun (J1 : Int32 → Option (Int32)) =>
  if p1 ≤ (0 : Int32) then
    J1 (0 : Int32)
  else
    J1 (p1 + (1 : Int32))
def f7_strength_L29 (claims_ : Int32) (people_ : Int32) (hubs_ : (Nat → Int32)) (laws_ : (Nat → Int32)) (ones_ : (Nat → Int32)) (seats_ : (Nat → Int32)) (p2 : Int32) (p3 : Int32) (p4 : Int32) (x2 : Int32) : Nat → Int32 → Int32 → (Int32 → Int32 → Option (Int32)) → Option (Int32)
  | 0, _, _, _ => none
  | n8 + 1, x5, x6, K7 =>
    if (4 : Int32) ≤ x6 then
      K7 x5 x6
    else
      Option.bind (f7_placeSign claims_ people_ hubs_ laws_ ones_ seats_ (if p3 < p2 then p3 else p2) x2 (if p2 < p3 then p3 else p2) x6 p4) fun (v9 : Int32) =>
      f7_strength_L29 claims_ people_ hubs_ laws_ ones_ seats_ p2 p3 p4 x2 n8 (x5 + v9) (x6 + (1 : Int32)) K7
def f7_strength_L20 (claims_ : Int32) (people_ : Int32) (hubs_ : (Nat → Int32)) (laws_ : (Nat → Int32)) (ones_ : (Nat → Int32)) (seats_ : (Nat → Int32)) (p2 : Int32) (p3 : Int32) (p4 : Int32) : Nat → Int32 → Int32 → (Int32 → Int32 → Option (Int32)) → Option (Int32)
  | 0, _, _, _ => none
  | n4 + 1, x1, x2, K3 =>
    if (4 : Int32) ≤ x2 then
      K3 x1 x2
    else
      jn (fun (x5 : Int32) (x6 : Int32) =>
        f7_strength_L20 claims_ people_ hubs_ laws_ ones_ seats_ p2 p3 p4 n4 x5 (x2 + (1 : Int32)) K3) fun (K7 : Int32 → Int32 → Option (Int32)) =>
      f7_strength_L29 claims_ people_ hubs_ laws_ ones_ seats_ p2 p3 p4 x2 FU x1 (0 : Int32) K7
def f7_strength (claims_ : Int32) (people_ : Int32) (facts_ : (Nat → Int32)) (hubs_ : (Nat → Int32)) (laws_ : (Nat → Int32)) (ones_ : (Nat → Int32)) (seats_ : (Nat → Int32)) (p2 : Int32) (p3 : Int32) (p4 : Int32) : Option (Int32) :=
  jn (fun (x1 : Int32) (x2 : Int32) =>
    Option.bind (f0_fact claims_ facts_ (if p3 < p2 then p3 else p2) (3 : Int32)) fun (v12 : Int32) =>
    jn (fun (y14 : Int32) =>
      Option.bind (f0_fact claims_ facts_ (if p3 < p2 then p3 else p2) (0 : Int32)) fun (v15 : Int32) =>
      Option.bind (f0_fact claims_ facts_ (if p3 < p2 then p3 else p2) (4 : Int32)) fun (v16 : Int32) =>
      Option.bind (f7_weigh v15 y14 v16) fun (v17 : Int32) =>
      Option.bind (f0_fact claims_ facts_ (if p2 < p3 then p3 else p2) (0 : Int32)) fun (v18 : Int32) =>
      Option.bind (f0_fact claims_ facts_ (if p2 < p3 then p3 else p2) (4 : Int32)) fun (v19 : Int32) =>
      Option.bind (f7_weigh v18 v17 v19) fun (v20 : Int32) =>
      some v20) fun (J13 : Int32 → Option (Int32)) =>
    if v12 = (0 : Int32) then
      J13 x1
    else
      Option.bind (f0_fact claims_ facts_ (if p2 < p3 then p3 else p2) (3 : Int32)) fun (v21 : Int32) =>
      if v12 = v21 then
        Option.bind (f7_sign laws_ (3 : Int32) p4) fun (v22 : Int32) =>
        J13 (x1 + v22)
      else
        J13 x1) fun (K3 : Int32 → Int32 → Option (Int32)) =>
  f7_strength_L20 claims_ people_ hubs_ laws_ ones_ seats_ p2 p3 p4 FU (0 : Int32) (0 : Int32) K3
def f7_likelihood_L5 (claims_ : Int32) (people_ : Int32) (facts_ : (Nat → Int32)) (hubs_ : (Nat → Int32)) (laws_ : (Nat → Int32)) (ones_ : (Nat → Int32)) (seats_ : (Nat → Int32)) (p2 : Int32) : Nat → Int32 → Int32 → (Int32 → Int32 → Option (Int32)) → Option (Int32)
  | 0, _, _, _ => none
  | n4 + 1, x1, x2, K3 =>
    if claims_ ≤ x2 then
      K3 x1 x2
    else
      jn (fun (y6 : Int32) =>
        f7_likelihood_L5 claims_ people_ facts_ hubs_ laws_ ones_ seats_ p2 n4 y6 (x2 + (1 : Int32)) K3) fun (J5 : Int32 → Option (Int32)) =>
      if x2 = p2 then
        J5 x1
      else
        Option.bind (f7_strength claims_ people_ facts_ hubs_ laws_ ones_ seats_ p2 x2 (-1 : Int32)) fun (v7 : Int32) =>
        J5 (x1 + v7)
def f7_likelihood (claims_ : Int32) (people_ : Int32) (facts_ : (Nat → Int32)) (hubs_ : (Nat → Int32)) (laws_ : (Nat → Int32)) (ones_ : (Nat → Int32)) (seats_ : (Nat → Int32)) (p2 : Int32) : Option (Int32) :=
  jn (fun (x1 : Int32) (x2 : Int32) =>
    some (if (9 : Int32) < x1 then (9 : Int32) else x1)) fun (K3 : Int32 → Int32 → Option (Int32)) =>
  f7_likelihood_L5 claims_ people_ facts_ hubs_ laws_ ones_ seats_ p2 FU (0 : Int32) (0 : Int32) K3
def f0_seated_L4 (claims_ : Int32) (seats_ : (Nat → Int32)) (p1 : Int32) : Nat → Int32 → Int32 → (Int32 → Int32 → Option (Int32)) → Option (Int32)
  | 0, _, _, _ => none
  | n4 + 1, x1, x2, K3 =>
    if (4 : Int32) ≤ x2 then
      K3 x1 x2
    else
      Option.bind (f0_sitter claims_ seats_ p1 x2) fun (v5 : Int32) =>
      jn (fun (y7 : Int32) =>
        f0_seated_L4 claims_ seats_ p1 n4 y7 (x2 + (1 : Int32)) K3) fun (J6 : Int32 → Option (Int32)) =>
      if v5 = (-9 : Int32) then
        J6 x1
      else
        J6 (x1 + (1 : Int32))
def f0_seated (claims_ : Int32) (seats_ : (Nat → Int32)) (p1 : Int32) : Option (Int32) :=
  jn (fun (x1 : Int32) (x2 : Int32) =>
    some x1) fun (K3 : Int32 → Int32 → Option (Int32)) =>
  f0_seated_L4 claims_ seats_ p1 FU (0 : Int32) (0 : Int32) K3
def f0_allClaims (claims_ : Int32) : Option (Int32) :=
  some (((1 : Int32) <<< (claims_ &&& 31)) - (1 : Int32))
def f7_scoreOf (scores_ : (Nat → Int32)) (p1 : Int32) : Option (Int32) :=
  if p1 < (0 : Int32) then
    some (0 : Int32)
  else
  if (512 : Int32) ≤ p1 then
    some (0 : Int32)
  else
    gd (ix p1 512) <|
    some (scores_ p1.toNatClampNeg)
def f7_findAsked_L65 (x3 : Int32) (v8 : Int32) (v9 : Int32) (v10 : Int32) (v11 : Int32) : Nat → Int32 → (Nat → Int32) → (Nat → Int32) → (Int32 → (Nat → Int32) → (Nat → Int32) → Option (Int32 × (Nat → Int32) × (Nat → Int32))) → Option (Int32 × (Nat → Int32) × (Nat → Int32))
  | 0, _, _, _, _ => none
  | n16 + 1, x12, c13, c14, K15 =>
    if ((1 : Int32) <<< (x3 &&& 31)) ≤ x12 then
      K15 x12 c13 c14
    else
      gd (ix x12 512) <|
      gd (ix (x12 ||| ((1 : Int32) <<< (x3 &&& 31))) 512) <|
      gd (ix x12 512) <|
      gd (ix (x12 ||| ((1 : Int32) <<< (x3 &&& 31))) 512) <|
      f7_findAsked_L65 x3 v8 v9 v10 v11 n16 (x12 + (1 : Int32)) (upd c13 (x12 ||| ((1 : Int32) <<< (x3 &&& 31))).toNatClampNeg ((c13 x12.toNatClampNeg) + ((1 : Int32) + v11))) (upd c14 (x12 ||| ((1 : Int32) <<< (x3 &&& 31))).toNatClampNeg ((c14 x12.toNatClampNeg) + ((v8 * v9) - (v10 * ((10 : Int32) - v8))))) K15
def f7_findAsked_L131 (claims_ : Int32) (laws_ : (Nat → Int32)) (c4 : (Nat → Int32)) (c5 : (Nat → Int32)) : Nat → Int32 → Int32 → (Int32 → Int32 → Option (Int32 × (Nat → Int32) × (Nat → Int32))) → Option (Int32 × (Nat → Int32) × (Nat → Int32))
  | 0, _, _, _ => none
  | n26 + 1, x23, x24, K25 =>
    Option.bind (f0_allClaims claims_) fun (v27 : Int32) =>
    if v27 < x24 then
      K25 x23 x24
    else
      gd (ix x24 512) <|
      Option.bind (f0_law laws_ (5 : Int32)) fun (v29 : Int32) =>
      jn (fun (y31 : Int32) =>
        f7_findAsked_L131 claims_ laws_ c4 c5 n26 y31 (x24 + (1 : Int32)) K25) fun (J30 : Int32 → Option (Int32 × (Nat → Int32) × (Nat → Int32))) =>
      if v29 < (c4 x24.toNatClampNeg) then
        J30 x23
      else
        Option.bind (f7_scoreOf c5 x24) fun (v32 : Int32) =>
        Option.bind (f7_scoreOf c5 x23) fun (v33 : Int32) =>
        if v32 ≤ v33 then
          J30 x23
        else
          J30 x24
def f7_findAsked_L16 (claims_ : Int32) (people_ : Int32) (facts_ : (Nat → Int32)) (hubs_ : (Nat → Int32)) (laws_ : (Nat → Int32)) (ones_ : (Nat → Int32)) (seats_ : (Nat → Int32)) : Nat → Int32 → (Nat → Int32) → (Nat → Int32) → (Int32 → (Nat → Int32) → (Nat → Int32) → Option (Int32 × (Nat → Int32) × (Nat → Int32))) → Option (Int32 × (Nat → Int32) × (Nat → Int32))
  | 0, _, _, _, _ => none
  | n7 + 1, x3, c4, c5, K6 =>
    if claims_ ≤ x3 then
      K6 x3 c4 c5
    else
      Option.bind (f7_likelihood claims_ people_ facts_ hubs_ laws_ ones_ seats_ x3) fun (v8 : Int32) =>
      Option.bind (f0_fact claims_ facts_ x3 (4 : Int32)) fun (v9 : Int32) =>
      Option.bind (f0_law laws_ (6 : Int32)) fun (v10 : Int32) =>
      Option.bind (f0_seated claims_ seats_ x3) fun (v11 : Int32) =>
      jn (fun (x12 : Int32) (c13 : (Nat → Int32)) (c14 : (Nat → Int32)) =>
        f7_findAsked_L16 claims_ people_ facts_ hubs_ laws_ ones_ seats_ n7 (x3 + (1 : Int32)) c13 c14 K6) fun (K15 : Int32 → (Nat → Int32) → (Nat → Int32) → Option (Int32 × (Nat → Int32) × (Nat → Int32))) =>
      f7_findAsked_L65 x3 v8 v9 v10 v11 FU (0 : Int32) c4 c5 K15
def f7_findAsked (claims_ : Int32) (people_ : Int32) (facts_ : (Nat → Int32)) (hubs_ : (Nat → Int32)) (laws_ : (Nat → Int32)) (ones_ : (Nat → Int32)) (seats_ : (Nat → Int32)) (hours_ : (Nat → Int32)) (scores_ : (Nat → Int32)) : Option (Int32 × (Nat → Int32) × (Nat → Int32)) :=
  gd (ix (0 : Int32) 512) <|
  gd (ix (0 : Int32) 512) <|
  jn (fun (x3 : Int32) (c4 : (Nat → Int32)) (c5 : (Nat → Int32)) =>
    jn (fun (x23 : Int32) (x24 : Int32) =>
      some (x23, c4, c5)) fun (K25 : Int32 → Int32 → Option (Int32 × (Nat → Int32) × (Nat → Int32))) =>
    f7_findAsked_L131 claims_ laws_ c4 c5 FU (0 : Int32) (1 : Int32) K25) fun (K6 : Int32 → (Nat → Int32) → (Nat → Int32) → Option (Int32 × (Nat → Int32) × (Nat → Int32))) =>
  f7_findAsked_L16 claims_ people_ facts_ hubs_ laws_ ones_ seats_ FU (0 : Int32) (upd hours_ (0 : Int32).toNatClampNeg (0 : Int32)) (upd scores_ (0 : Int32).toNatClampNeg (0 : Int32)) K6
def f8_best (book_claims_ : Int32) (book_people_ : Int32) (book_facts_ : (Nat → Int32)) (book_hubs_ : (Nat → Int32)) (book_laws_ : (Nat → Int32)) (book_ones_ : (Nat → Int32)) (book_seats_ : (Nat → Int32)) (ties_hours_ : (Nat → Int32)) (ties_scores_ : (Nat → Int32)) (p1 : Int32) : Option (Int32 × (Nat → Int32) × (Nat → Int32)) :=
  if p1 < (0 : Int32) then
    some ((-1 : Int32), ties_hours_, ties_scores_)
  else
  if p1 ≤ (1 : Int32) then
    bn3 (f7_findAsked book_claims_ book_people_ book_facts_ book_hubs_ book_laws_ book_ones_ book_seats_ ties_hours_ ties_scores_) fun (v1 : Int32) (c2 : (Nat → Int32)) (c3 : (Nat → Int32)) =>
    if p1 = (0 : Int32) then
      some (v1, c2, c3)
    else
      Option.bind (f7_scoreOf c3 v1) fun (v4 : Int32) =>
      some ((v4 + (100000 : Int32)), c2, c3)
  else
    some ((-1 : Int32), ties_hours_, ties_scores_)
def f8_isTown (p0 : Int32) : Option (Int32) :=
  if p0 < (0 : Int32) then
    some (0 : Int32)
  else
  if (4 : Int32) ≤ p0 then
    some (0 : Int32)
  else
    some (1 : Int32)
def f0_addClaim_L75 (claims_ : Int32) : Nat → Int32 → (Nat → Int32) → (Int32 → (Nat → Int32) → Option (Int32 × Int32 × (Nat → Int32) × (Nat → Int32) × (Nat → Int32) × (Nat → Int32))) → Option (Int32 × Int32 × (Nat → Int32) × (Nat → Int32) × (Nat → Int32) × (Nat → Int32))
  | 0, _, _, _ => none
  | n9 + 1, x6, c7, K8 =>
    if (4 : Int32) ≤ x6 then
      K8 x6 c7
    else
      gd (ix ((claims_ * (4 : Int32)) + x6) 36) <|
      f0_addClaim_L75 claims_ n9 (x6 + (1 : Int32)) (upd c7 ((claims_ * (4 : Int32)) + x6).toNatClampNeg (-9 : Int32)) K8
def f0_addClaim (claims_ : Int32) (byChance_ : (Nat → Int32)) (facts_ : (Nat → Int32)) (found_ : (Nat → Int32)) (seats_ : (Nat → Int32)) (p1 : Int32) (p2 : Int32) (p3 : Int32) (p4 : Int32) (p5 : Int32) : Option (Int32 × Int32 × (Nat → Int32) × (Nat → Int32) × (Nat → Int32) × (Nat → Int32)) :=
  if claims_ < (9 : Int32) then
    gd (ix ((claims_ * (5 : Int32)) + (0 : Int32)) 45) <|
    gd (ix ((claims_ * (5 : Int32)) + (1 : Int32)) 45) <|
    gd (ix ((claims_ * (5 : Int32)) + (2 : Int32)) 45) <|
    gd (ix ((claims_ * (5 : Int32)) + (3 : Int32)) 45) <|
    gd (ix ((claims_ * (5 : Int32)) + (4 : Int32)) 45) <|
    jn (fun (x6 : Int32) (c7 : (Nat → Int32)) =>
      gd (ix claims_ 9) <|
      gd (ix claims_ 9) <|
      some (claims_, (claims_ + (1 : Int32)), (upd byChance_ claims_.toNatClampNeg (vp_nar .boolean (0 : Int32))), (upd (upd (upd (upd (upd facts_ ((claims_ * (5 : Int32)) + (0 : Int32)).toNatClampNeg p1) ((claims_ * (5 : Int32)) + (1 : Int32)).toNatClampNeg p2) ((claims_ * (5 : Int32)) + (2 : Int32)).toNatClampNeg p3) ((claims_ * (5 : Int32)) + (3 : Int32)).toNatClampNeg p4) ((claims_ * (5 : Int32)) + (4 : Int32)).toNatClampNeg p5), (upd found_ claims_.toNatClampNeg (-9 : Int32)), c7)) fun (K8 : Int32 → (Nat → Int32) → Option (Int32 × Int32 × (Nat → Int32) × (Nat → Int32) × (Nat → Int32) × (Nat → Int32))) =>
    f0_addClaim_L75 claims_ FU (0 : Int32) seats_ K8
  else
    some ((-2 : Int32), claims_, byChance_, facts_, found_, seats_)
def f8_claim (book_claims_ : Int32) (book_byChance_ : (Nat → Int32)) (book_facts_ : (Nat → Int32)) (book_found_ : (Nat → Int32)) (book_seats_ : (Nat → Int32)) (p1 : Int32) (p2 : Int32) (p3 : Int32) (p4 : Int32) (p5 : Int32) : Option (Int32 × Int32 × (Nat → Int32) × (Nat → Int32) × (Nat → Int32) × (Nat → Int32)) :=
  if p1 < (0 : Int32) then
    some ((-1 : Int32), book_claims_, book_byChance_, book_facts_, book_found_, book_seats_)
  else
  if (6 : Int32) ≤ p1 then
    some ((-1 : Int32), book_claims_, book_byChance_, book_facts_, book_found_, book_seats_)
  else
  if p2 < (0 : Int32) then
    some ((-1 : Int32), book_claims_, book_byChance_, book_facts_, book_found_, book_seats_)
  else
  if (99 : Int32) < p2 then
    some ((-1 : Int32), book_claims_, book_byChance_, book_facts_, book_found_, book_seats_)
  else
    Option.bind (f8_isTown p3) fun (v1 : Int32) =>
    if v1 = (0 : Int32) then
      some ((-1 : Int32), book_claims_, book_byChance_, book_facts_, book_found_, book_seats_)
    else
    if p4 < (0 : Int32) then
      some ((-1 : Int32), book_claims_, book_byChance_, book_facts_, book_found_, book_seats_)
    else
    if (9 : Int32) < p4 then
      some ((-1 : Int32), book_claims_, book_byChance_, book_facts_, book_found_, book_seats_)
    else
    if p5 < (0 : Int32) then
      some ((-1 : Int32), book_claims_, book_byChance_, book_facts_, book_found_, book_seats_)
    else
    if p5 ≤ (99 : Int32) then
      if book_claims_ < (9 : Int32) then
        bn6 (f0_addClaim book_claims_ book_byChance_ book_facts_ book_found_ book_seats_ p1 p2 p3 p4 p5) fun (v2 : Int32) (c3 : Int32) (c4 : (Nat → Int32)) (c5 : (Nat → Int32)) (c6 : (Nat → Int32)) (c7 : (Nat → Int32)) =>
        some (v2, c3, c4, c5, c6, c7)
      else
        some ((-2 : Int32), book_claims_, book_byChance_, book_facts_, book_found_, book_seats_)
    else
      some ((-1 : Int32), book_claims_, book_byChance_, book_facts_, book_found_, book_seats_)
def f8_claimOf (book_claims_ : Int32) (book_facts_ : (Nat → Int32)) (book_seats_ : (Nat → Int32)) (p1 : Int32) (p2 : Int32) : Option (Int32) :=
  Option.bind (f0_isClaim book_claims_ p1) fun (v1 : Int32) =>
  if v1 = (0 : Int32) then
    some (-1 : Int32)
  else
    jn (
      if p2 < (10 : Int32) then
        some (-1 : Int32)
      else
      if p2 < (14 : Int32) then
        Option.bind (f0_sitter book_claims_ book_seats_ p1 (p2 - (10 : Int32))) fun (v3 : Int32) =>
        some v3
      else
        some (-1 : Int32)) fun (J2 : Option (Int32)) =>
    if p2 < (0 : Int32) then
      J2
    else
    if (5 : Int32) ≤ p2 then
      J2
    else
      Option.bind (f0_fact book_claims_ book_facts_ p1 p2) fun (v6 : Int32) =>
      some v6
def f0_countFound_L4 (claims_ : Int32) (found_ : (Nat → Int32)) : Nat → Int32 → Int32 → (Int32 → Int32 → Option (Int32)) → Option (Int32)
  | 0, _, _, _ => none
  | n4 + 1, x1, x2, K3 =>
    if claims_ ≤ x2 then
      K3 x1 x2
    else
      gd (ix x2 9) <|
      jn (fun (y7 : Int32) =>
        f0_countFound_L4 claims_ found_ n4 y7 (x2 + (1 : Int32)) K3) fun (J6 : Int32 → Option (Int32)) =>
      if (found_ x2.toNatClampNeg) = (-9 : Int32) then
        J6 x1
      else
        J6 (x1 + (1 : Int32))
def f0_countFound (claims_ : Int32) (found_ : (Nat → Int32)) : Option (Int32) :=
  jn (fun (x1 : Int32) (x2 : Int32) =>
    some x1) fun (K3 : Int32 → Int32 → Option (Int32)) =>
  f0_countFound_L4 claims_ found_ FU (0 : Int32) (0 : Int32) K3
def f8_draw_L59 (book_claims_ : Int32) (book_z_ : Int32) (book_found_ : (Nat → Int32)) : Nat → Int32 → Int32 → (Int32 → Int32 → Option (Int32 × Int32)) → Option (Int32 × Int32)
  | 0, _, _, _ => none
  | n6 + 1, x3, x4, K5 =>
    if book_claims_ ≤ x4 then
      K5 x3 x4
    else
      gd (ix x4 9) <|
      jn (fun (y9 : Int32) =>
        f8_draw_L59 book_claims_ book_z_ book_found_ n6 y9 (x4 + (1 : Int32)) K5) fun (J8 : Int32 → Option (Int32 × Int32)) =>
      if (book_found_ x4.toNatClampNeg) = (-9 : Int32) then
        if x3 = (0 : Int32) then
          some (x4, ((book_z_ * (1103515245 : Int32)) + (12345 : Int32)))
        else
          J8 (x3 + (-1 : Int32))
      else
        J8 x3
def f8_draw (book_claims_ : Int32) (book_z_ : Int32) (book_found_ : (Nat → Int32)) : Option (Int32 × Int32) :=
  Option.bind (f0_countFound book_claims_ book_found_) fun (v1 : Int32) =>
  if (0 : Int32) < (book_claims_ - v1) then
    gd (nz (book_claims_ - v1)) <|
    jn (fun (x3 : Int32) (x4 : Int32) =>
      some ((-3 : Int32), ((book_z_ * (1103515245 : Int32)) + (12345 : Int32)))) fun (K5 : Int32 → Int32 → Option (Int32 × Int32)) =>
    f8_draw_L59 book_claims_ book_z_ book_found_ FU ((((book_z_ * (1103515245 : Int32)) + (12345 : Int32)).toUInt32 >>> ((16 : Int32).toUInt32 &&& Int32.toUInt32 31)).toInt32 - (((book_z_ * (1103515245 : Int32)) + (12345 : Int32)).toUInt32 >>> ((16 : Int32).toUInt32 &&& Int32.toUInt32 31)).toInt32 / (book_claims_ - v1) * (book_claims_ - v1)) (0 : Int32) K5
  else
    some ((-3 : Int32), book_z_)
def f4_append (length_ : Int32) (tape_ : (Nat → Int32)) (p1 : Int32) : Option (Int32 × (Nat → Int32)) :=
  if (200 : Int32) ≤ length_ then
    some (length_, tape_)
  else
    gd (ix length_ 200) <|
    some ((length_ + (1 : Int32)), (upd tape_ length_.toNatClampNeg p1))
def f8_feed_L34 (p1 : Int64) (p3 : Int32) : Nat → Int32 → Int32 → (Nat → Int32) → (Int32 → Int32 → (Nat → Int32) → Option (Int32 × Int32 × (Nat → Int32))) → Option (Int32 × Int32 × (Nat → Int32))
  | 0, _, _, _, _ => none
  | n5 + 1, x1, c2, c3, K4 =>
    if p3 ≤ x1 then
      K4 x1 c2 c3
    else
      bn2 (f4_append c2 c3 (((p1.toUInt64 >>> (((8 : Int32) * x1).toInt64.toUInt64 &&& Int64.toUInt64 63)).toInt64).toInt32 &&& (255 : Int32))) fun (c6 : Int32) (c7 : (Nat → Int32)) =>
      f8_feed_L34 p1 p3 n5 (x1 + (1 : Int32)) c6 c7 K4
def f8_feed (reader_length_ : Int32) (reader_tape_ : (Nat → Int32)) (p1 : Int64) (p3 : Int32) : Option (Int32 × Int32 × (Nat → Int32)) :=
  if p3 < (1 : Int32) then
    some ((-1 : Int32), reader_length_, reader_tape_)
  else
  if p3 ≤ (8 : Int32) then
    if (reader_length_ + p3) ≤ (200 : Int32) then
      jn (fun (x1 : Int32) (c2 : Int32) (c3 : (Nat → Int32)) =>
        some (c2, c2, c3)) fun (K4 : Int32 → Int32 → (Nat → Int32) → Option (Int32 × Int32 × (Nat → Int32))) =>
      f8_feed_L34 p1 p3 FU (0 : Int32) reader_length_ reader_tape_ K4
    else
      some ((-2 : Int32), reader_length_, reader_tape_)
  else
    some ((-1 : Int32), reader_length_, reader_tape_)
def f8_found (book_claims_ : Int32) (book_byChance_ : (Nat → Int32)) (book_found_ : (Nat → Int32)) (p1 : Int32) (p2 : Int32) (p3 : Int32) : Option (Int32 × (Nat → Int32) × (Nat → Int32)) :=
  Option.bind (f0_isClaim book_claims_ p1) fun (v1 : Int32) =>
  if v1 = (0 : Int32) then
    some ((-1 : Int32), book_byChance_, book_found_)
  else
  if p2 < (-1 : Int32) then
    some ((-1 : Int32), book_byChance_, book_found_)
  else
  if p2 ≤ (1 : Int32) then
    gd (ix p1 9) <|
    jn (fun (s4 : Int32) =>
      gd (ix p1 9) <|
      gd (ix p1 9) <|
      some ((book_found_ p1.toNatClampNeg), (upd book_byChance_ p1.toNatClampNeg (vp_nar .boolean p3)), (upd book_found_ p1.toNatClampNeg s4))) fun (J3 : Int32 → Option (Int32 × (Nat → Int32) × (Nat → Int32))) =>
    if p2 = (-1 : Int32) then
      J3 (-9 : Int32)
    else
      J3 p2
  else
    some ((-1 : Int32), book_byChance_, book_found_)
def f7_weave_L27 (claims_ : Int32) (people_ : Int32) (facts_ : (Nat → Int32)) (hubs_ : (Nat → Int32)) (laws_ : (Nat → Int32)) (ones_ : (Nat → Int32)) (seats_ : (Nat → Int32)) (p2 : Int32) (x1 : Int32) : Nat → Int32 → (Nat → Int32) → (Int32 → (Nat → Int32) → Option ((Nat → Int32))) → Option ((Nat → Int32))
  | 0, _, _, _ => none
  | n9 + 1, x6, c7, K8 =>
    if claims_ ≤ x6 then
      K8 x6 c7
    else
      Option.bind (f7_strength claims_ people_ facts_ hubs_ laws_ ones_ seats_ x1 x6 p2) fun (v10 : Int32) =>
      gd (ix ((x1 * (9 : Int32)) + x6) 81) <|
      gd (ix ((x6 * (9 : Int32)) + x1) 81) <|
      f7_weave_L27 claims_ people_ facts_ hubs_ laws_ ones_ seats_ p2 x1 n9 (x6 + (1 : Int32)) (upd (upd c7 ((x1 * (9 : Int32)) + x6).toNatClampNeg v10) ((x6 * (9 : Int32)) + x1).toNatClampNeg v10) K8
def f7_weave_L2 (claims_ : Int32) (people_ : Int32) (facts_ : (Nat → Int32)) (hubs_ : (Nat → Int32)) (laws_ : (Nat → Int32)) (ones_ : (Nat → Int32)) (seats_ : (Nat → Int32)) (p2 : Int32) : Nat → Int32 → (Nat → Int32) → (Int32 → (Nat → Int32) → Option ((Nat → Int32))) → Option ((Nat → Int32))
  | 0, _, _, _ => none
  | n4 + 1, x1, c2, K3 =>
    if claims_ ≤ x1 then
      K3 x1 c2
    else
      gd (ix ((x1 * (9 : Int32)) + x1) 81) <|
      jn (fun (x6 : Int32) (c7 : (Nat → Int32)) =>
        f7_weave_L2 claims_ people_ facts_ hubs_ laws_ ones_ seats_ p2 n4 (x1 + (1 : Int32)) c7 K3) fun (K8 : Int32 → (Nat → Int32) → Option ((Nat → Int32))) =>
      f7_weave_L27 claims_ people_ facts_ hubs_ laws_ ones_ seats_ p2 x1 FU (x1 + (1 : Int32)) (upd c2 ((x1 * (9 : Int32)) + x1).toNatClampNeg (0 : Int32)) K8
def f7_weave (claims_ : Int32) (people_ : Int32) (facts_ : (Nat → Int32)) (hubs_ : (Nat → Int32)) (laws_ : (Nat → Int32)) (ones_ : (Nat → Int32)) (seats_ : (Nat → Int32)) (strengths_ : (Nat → Int32)) (p2 : Int32) : Option ((Nat → Int32)) :=
  jn (fun (x1 : Int32) (c2 : (Nat → Int32)) =>
    some c2) fun (K3 : Int32 → (Nat → Int32) → Option ((Nat → Int32))) =>
  f7_weave_L2 claims_ people_ facts_ hubs_ laws_ ones_ seats_ p2 FU (0 : Int32) strengths_ K3
def f7_woven (strengths_ : (Nat → Int32)) (p1 : Int32) (p2 : Int32) : Option (Int32) :=
  jn (fun (s2 : Int32) =>
    if s2 = (0 : Int32) then
      some (0 : Int32)
    else
      gd (ix ((p1 * (9 : Int32)) + p2) 81) <|
      some (strengths_ ((p1 * (9 : Int32)) + p2).toNatClampNeg)) fun (J1 : Int32 → Option (Int32)) =>
  jn (
    J1 (0 : Int32)) fun (J5 : Option (Int32)) =>
  if p1 < (0 : Int32) then
    J5
  else
  if (9 : Int32) ≤ p1 then
    J5
  else
  if p2 < (0 : Int32) then
    J5
  else
  if (9 : Int32) ≤ p2 then
    J5
  else
    J1 (1 : Int32)
def f7_tiedToAny_L29 (claims_ : Int32) (strengths_ : (Nat → Int32)) (x2 : Int32) : Nat → Int32 → Int32 → (Int32 → Int32 → Option (Int32)) → Option (Int32)
  | 0, _, _, _ => none
  | n10 + 1, x7, x8, K9 =>
    if claims_ ≤ x8 then
      K9 x7 x8
    else
      Option.bind (f7_woven strengths_ x2 x8) fun (v11 : Int32) =>
      jn (fun (y13 : Int32) =>
        f7_tiedToAny_L29 claims_ strengths_ x2 n10 y13 (x8 + (1 : Int32)) K9) fun (J12 : Int32 → Option (Int32)) =>
      if v11 ≤ (0 : Int32) then
        J12 x7
      else
        J12 (x7 ||| ((1 : Int32) <<< (x8 &&& 31)))
def f7_tiedToAny_L5 (claims_ : Int32) (strengths_ : (Nat → Int32)) (p2 : Int32) : Nat → Int32 → Int32 → (Int32 → Int32 → Option (Int32)) → Option (Int32)
  | 0, _, _, _ => none
  | n4 + 1, x1, x2, K3 =>
    if claims_ ≤ x2 then
      K3 x1 x2
    else
      jn (fun (y6 : Int32) =>
        f7_tiedToAny_L5 claims_ strengths_ p2 n4 y6 (x2 + (1 : Int32)) K3) fun (J5 : Int32 → Option (Int32)) =>
      if ((p2 >>> (x2 &&& 31)) &&& (1 : Int32)) = (0 : Int32) then
        J5 x1
      else
        jn (fun (x7 : Int32) (x8 : Int32) =>
          J5 x7) fun (K9 : Int32 → Int32 → Option (Int32)) =>
        f7_tiedToAny_L29 claims_ strengths_ x2 FU x1 (0 : Int32) K9
def f7_tiedToAny (claims_ : Int32) (strengths_ : (Nat → Int32)) (p2 : Int32) : Option (Int32) :=
  jn (fun (x1 : Int32) (x2 : Int32) =>
    some x1) fun (K3 : Int32 → Int32 → Option (Int32)) =>
  f7_tiedToAny_L5 claims_ strengths_ p2 FU (0 : Int32) (0 : Int32) K3
def f7_hanging_L13 (claims_ : Int32) (c1 : (Nat → Int32)) : Nat → Int32 → Int32 → (Int32 → Int32 → Option (Int32 × (Nat → Int32))) → Option (Int32 × (Nat → Int32))
  | 0, _, _, _ => none
  | n5 + 1, x2, x3, K4 =>
    if claims_ ≤ x3 then
      K4 x2 x3
    else
      Option.bind (f7_tiedToAny claims_ c1 x2) fun (v6 : Int32) =>
      f7_hanging_L13 claims_ c1 n5 (x2 ||| v6) (x3 + (1 : Int32)) K4
def f7_hanging (claims_ : Int32) (people_ : Int32) (facts_ : (Nat → Int32)) (hubs_ : (Nat → Int32)) (laws_ : (Nat → Int32)) (ones_ : (Nat → Int32)) (seats_ : (Nat → Int32)) (strengths_ : (Nat → Int32)) (p2 : Int32) : Option (Int32 × (Nat → Int32)) :=
  Option.bind (f7_weave claims_ people_ facts_ hubs_ laws_ ones_ seats_ strengths_ (-1 : Int32)) fun (c1 : (Nat → Int32)) =>
  jn (fun (x2 : Int32) (x3 : Int32) =>
    some (x2, c1)) fun (K4 : Int32 → Int32 → Option (Int32 × (Nat → Int32))) =>
  f7_hanging_L13 claims_ c1 FU ((1 : Int32) <<< (p2 &&& 31)) (0 : Int32) K4
def f8_hang (book_claims_ : Int32) (book_people_ : Int32) (book_facts_ : (Nat → Int32)) (book_hubs_ : (Nat → Int32)) (book_laws_ : (Nat → Int32)) (book_ones_ : (Nat → Int32)) (book_seats_ : (Nat → Int32)) (ties_strengths_ : (Nat → Int32)) (p1 : Int32) : Option (Int32 × (Nat → Int32)) :=
  Option.bind (f0_isClaim book_claims_ p1) fun (v1 : Int32) =>
  if v1 = (0 : Int32) then
    some ((-1 : Int32), ties_strengths_)
  else
    bn2 (f7_hanging book_claims_ book_people_ book_facts_ book_hubs_ book_laws_ book_ones_ book_seats_ ties_strengths_ p1) fun (v2 : Int32) (c3 : (Nat → Int32)) =>
    some (v2, c3)
def f7_bonds_L5 (strengths_ : (Nat → Int32)) (p1 : Int32) (p2 : Int32) : Nat → Int32 → Int32 → (Int32 → Int32 → Option (Int32)) → Option (Int32)
  | 0, _, _, _ => none
  | n4 + 1, x1, x2, K3 =>
    if p1 ≤ x2 then
      K3 x1 x2
    else
      jn (fun (y6 : Int32) =>
        f7_bonds_L5 strengths_ p1 p2 n4 y6 (x2 + (1 : Int32)) K3) fun (J5 : Int32 → Option (Int32)) =>
      if ((p2 >>> (x2 &&& 31)) &&& (1 : Int32)) = (0 : Int32) then
        J5 x1
      else
        Option.bind (f7_woven strengths_ x2 p1) fun (v7 : Int32) =>
        J5 (x1 + v7)
def f7_bonds (strengths_ : (Nat → Int32)) (p1 : Int32) (p2 : Int32) : Option (Int32) :=
  jn (fun (x1 : Int32) (x2 : Int32) =>
    some x1) fun (K3 : Int32 → Int32 → Option (Int32)) =>
  f7_bonds_L5 strengths_ p1 p2 FU (0 : Int32) (0 : Int32) K3
def f7_scoreSets_L34 (c1 : (Nat → Int32)) (v2 : Int32) (x4 : Int32) : Nat → Int32 → (Nat → Int32) → (Int32 → (Nat → Int32) → Option ((Nat → Int32) × (Nat → Int32))) → Option ((Nat → Int32) × (Nat → Int32))
  | 0, _, _, _ => none
  | n11 + 1, x8, c9, K10 =>
    if ((1 : Int32) <<< (x4 &&& 31)) ≤ x8 then
      K10 x8 c9
    else
      gd (ix x8 512) <|
      Option.bind (f7_bonds c1 x4 x8) fun (v13 : Int32) =>
      gd (ix (x8 ||| ((1 : Int32) <<< (x4 &&& 31))) 512) <|
      f7_scoreSets_L34 c1 v2 x4 n11 (x8 + (1 : Int32)) (upd c9 (x8 ||| ((1 : Int32) <<< (x4 &&& 31))).toNatClampNeg (((c9 x8.toNatClampNeg) + v13) - v2)) K10
def f7_scoreSets_L22 (claims_ : Int32) (c1 : (Nat → Int32)) (v2 : Int32) : Nat → Int32 → (Nat → Int32) → (Int32 → (Nat → Int32) → Option ((Nat → Int32) × (Nat → Int32))) → Option ((Nat → Int32) × (Nat → Int32))
  | 0, _, _, _ => none
  | n7 + 1, x4, c5, K6 =>
    if claims_ ≤ x4 then
      K6 x4 c5
    else
      jn (fun (x8 : Int32) (c9 : (Nat → Int32)) =>
        f7_scoreSets_L22 claims_ c1 v2 n7 (x4 + (1 : Int32)) c9 K6) fun (K10 : Int32 → (Nat → Int32) → Option ((Nat → Int32) × (Nat → Int32))) =>
      f7_scoreSets_L34 c1 v2 x4 FU (0 : Int32) c5 K10
def f7_scoreSets (claims_ : Int32) (people_ : Int32) (facts_ : (Nat → Int32)) (hubs_ : (Nat → Int32)) (laws_ : (Nat → Int32)) (ones_ : (Nat → Int32)) (seats_ : (Nat → Int32)) (scores_ : (Nat → Int32)) (strengths_ : (Nat → Int32)) (p2 : Int32) : Option ((Nat → Int32) × (Nat → Int32)) :=
  Option.bind (f7_weave claims_ people_ facts_ hubs_ laws_ ones_ seats_ strengths_ p2) fun (c1 : (Nat → Int32)) =>
  Option.bind (f0_law laws_ (4 : Int32)) fun (v2 : Int32) =>
  gd (ix (0 : Int32) 512) <|
  jn (fun (x4 : Int32) (c5 : (Nat → Int32)) =>
    some (c5, c1)) fun (K6 : Int32 → (Nat → Int32) → Option ((Nat → Int32) × (Nat → Int32))) =>
  f7_scoreSets_L22 claims_ c1 v2 FU (0 : Int32) (upd scores_ (0 : Int32).toNatClampNeg (0 : Int32)) K6
def fJ6_bitCount_0f7a4 (p0 : Int32) : Option (Int32) :=
  some ((((((((p0 - ((p0.toUInt32 >>> ((1 : Int32).toUInt32 &&& Int32.toUInt32 31)).toInt32 &&& (1431655765 : Int32))) &&& (858993459 : Int32)) + (((p0 - ((p0.toUInt32 >>> ((1 : Int32).toUInt32 &&& Int32.toUInt32 31)).toInt32 &&& (1431655765 : Int32))).toUInt32 >>> ((2 : Int32).toUInt32 &&& Int32.toUInt32 31)).toInt32 &&& (858993459 : Int32))) + ((((p0 - ((p0.toUInt32 >>> ((1 : Int32).toUInt32 &&& Int32.toUInt32 31)).toInt32 &&& (1431655765 : Int32))) &&& (858993459 : Int32)) + (((p0 - ((p0.toUInt32 >>> ((1 : Int32).toUInt32 &&& Int32.toUInt32 31)).toInt32 &&& (1431655765 : Int32))).toUInt32 >>> ((2 : Int32).toUInt32 &&& Int32.toUInt32 31)).toInt32 &&& (858993459 : Int32))).toUInt32 >>> ((4 : Int32).toUInt32 &&& Int32.toUInt32 31)).toInt32) &&& (252645135 : Int32)) + ((((((p0 - ((p0.toUInt32 >>> ((1 : Int32).toUInt32 &&& Int32.toUInt32 31)).toInt32 &&& (1431655765 : Int32))) &&& (858993459 : Int32)) + (((p0 - ((p0.toUInt32 >>> ((1 : Int32).toUInt32 &&& Int32.toUInt32 31)).toInt32 &&& (1431655765 : Int32))).toUInt32 >>> ((2 : Int32).toUInt32 &&& Int32.toUInt32 31)).toInt32 &&& (858993459 : Int32))) + ((((p0 - ((p0.toUInt32 >>> ((1 : Int32).toUInt32 &&& Int32.toUInt32 31)).toInt32 &&& (1431655765 : Int32))) &&& (858993459 : Int32)) + (((p0 - ((p0.toUInt32 >>> ((1 : Int32).toUInt32 &&& Int32.toUInt32 31)).toInt32 &&& (1431655765 : Int32))).toUInt32 >>> ((2 : Int32).toUInt32 &&& Int32.toUInt32 31)).toInt32 &&& (858993459 : Int32))).toUInt32 >>> ((4 : Int32).toUInt32 &&& Int32.toUInt32 31)).toInt32) &&& (252645135 : Int32)).toUInt32 >>> ((8 : Int32).toUInt32 &&& Int32.toUInt32 31)).toInt32) + (((((((p0 - ((p0.toUInt32 >>> ((1 : Int32).toUInt32 &&& Int32.toUInt32 31)).toInt32 &&& (1431655765 : Int32))) &&& (858993459 : Int32)) + (((p0 - ((p0.toUInt32 >>> ((1 : Int32).toUInt32 &&& Int32.toUInt32 31)).toInt32 &&& (1431655765 : Int32))).toUInt32 >>> ((2 : Int32).toUInt32 &&& Int32.toUInt32 31)).toInt32 &&& (858993459 : Int32))) + ((((p0 - ((p0.toUInt32 >>> ((1 : Int32).toUInt32 &&& Int32.toUInt32 31)).toInt32 &&& (1431655765 : Int32))) &&& (858993459 : Int32)) + (((p0 - ((p0.toUInt32 >>> ((1 : Int32).toUInt32 &&& Int32.toUInt32 31)).toInt32 &&& (1431655765 : Int32))).toUInt32 >>> ((2 : Int32).toUInt32 &&& Int32.toUInt32 31)).toInt32 &&& (858993459 : Int32))).toUInt32 >>> ((4 : Int32).toUInt32 &&& Int32.toUInt32 31)).toInt32) &&& (252645135 : Int32)) + ((((((p0 - ((p0.toUInt32 >>> ((1 : Int32).toUInt32 &&& Int32.toUInt32 31)).toInt32 &&& (1431655765 : Int32))) &&& (858993459 : Int32)) + (((p0 - ((p0.toUInt32 >>> ((1 : Int32).toUInt32 &&& Int32.toUInt32 31)).toInt32 &&& (1431655765 : Int32))).toUInt32 >>> ((2 : Int32).toUInt32 &&& Int32.toUInt32 31)).toInt32 &&& (858993459 : Int32))) + ((((p0 - ((p0.toUInt32 >>> ((1 : Int32).toUInt32 &&& Int32.toUInt32 31)).toInt32 &&& (1431655765 : Int32))) &&& (858993459 : Int32)) + (((p0 - ((p0.toUInt32 >>> ((1 : Int32).toUInt32 &&& Int32.toUInt32 31)).toInt32 &&& (1431655765 : Int32))).toUInt32 >>> ((2 : Int32).toUInt32 &&& Int32.toUInt32 31)).toInt32 &&& (858993459 : Int32))).toUInt32 >>> ((4 : Int32).toUInt32 &&& Int32.toUInt32 31)).toInt32) &&& (252645135 : Int32)).toUInt32 >>> ((8 : Int32).toUInt32 &&& Int32.toUInt32 31)).toInt32).toUInt32 >>> ((16 : Int32).toUInt32 &&& Int32.toUInt32 31)).toInt32) &&& (63 : Int32))
def f7_isBetterLot (scores_ : (Nat → Int32)) (p1 : Int32) (p2 : Int32) : Option (Int32) :=
  Option.bind (f7_scoreOf scores_ p1) fun (v1 : Int32) =>
  Option.bind (f7_scoreOf scores_ p2) fun (v2 : Int32) =>
  if v1 = v2 then
    Option.bind (fJ6_bitCount_0f7a4 p1) fun (v3 : Int32) =>
    Option.bind (fJ6_bitCount_0f7a4 p2) fun (v4 : Int32) =>
    if v4 ≤ v3 then
      some (0 : Int32)
    else
      some (1 : Int32)
  else
    Option.bind (f7_scoreOf scores_ p1) fun (v6 : Int32) =>
    Option.bind (f7_scoreOf scores_ p2) fun (v7 : Int32) =>
    if v6 ≤ v7 then
      some (0 : Int32)
    else
      some (1 : Int32)
def f7_findLot_L22 (claims_ : Int32) (c1 : (Nat → Int32)) : Nat → Int32 → Int32 → (Int32 → Int32 → Option (Int32 × (Nat → Int32) × (Nat → Int32))) → Option (Int32 × (Nat → Int32) × (Nat → Int32))
  | 0, _, _, _ => none
  | n6 + 1, x3, x4, K5 =>
    Option.bind (f0_allClaims claims_) fun (v7 : Int32) =>
    if v7 < x4 then
      K5 x3 x4
    else
      Option.bind (fJ6_bitCount_0f7a4 x4) fun (v8 : Int32) =>
      jn (fun (y10 : Int32) =>
        f7_findLot_L22 claims_ c1 n6 y10 (x4 + (1 : Int32)) K5) fun (J9 : Int32 → Option (Int32 × (Nat → Int32) × (Nat → Int32))) =>
      if v8 < (2 : Int32) then
        J9 x3
      else
        Option.bind (f7_isBetterLot c1 x4 x3) fun (v11 : Int32) =>
        if v11 = (0 : Int32) then
          J9 x3
        else
          J9 x4
def f7_findLot (claims_ : Int32) (people_ : Int32) (facts_ : (Nat → Int32)) (hubs_ : (Nat → Int32)) (laws_ : (Nat → Int32)) (ones_ : (Nat → Int32)) (seats_ : (Nat → Int32)) (scores_ : (Nat → Int32)) (strengths_ : (Nat → Int32)) (p2 : Int32) : Option (Int32 × (Nat → Int32) × (Nat → Int32)) :=
  if (2 : Int32) ≤ claims_ then
    bn2 (f7_scoreSets claims_ people_ facts_ hubs_ laws_ ones_ seats_ scores_ strengths_ p2) fun (c1 : (Nat → Int32)) (c2 : (Nat → Int32)) =>
    jn (fun (x3 : Int32) (x4 : Int32) =>
      some (x3, c1, c2)) fun (K5 : Int32 → Int32 → Option (Int32 × (Nat → Int32) × (Nat → Int32))) =>
    f7_findLot_L22 claims_ c1 FU (3 : Int32) (4 : Int32) K5
  else
    some ((-3 : Int32), scores_, strengths_)
def f8_hold_L24 (book_claims_ : Int32) (book_people_ : Int32) (book_facts_ : (Nat → Int32)) (book_hubs_ : (Nat → Int32)) (book_laws_ : (Nat → Int32)) (book_ones_ : (Nat → Int32)) (book_seats_ : (Nat → Int32)) (v1 : Int32) : Nat → Int32 → Int32 → (Nat → Int32) → (Nat → Int32) → (Int32 → Int32 → (Nat → Int32) → (Nat → Int32) → Option (Int32 × (Nat → Int32) × (Nat → Int32))) → Option (Int32 × (Nat → Int32) × (Nat → Int32))
  | 0, _, _, _, _, _ => none
  | n9 + 1, x4, x5, c6, c7, K8 =>
    if (4 : Int32) ≤ x5 then
      K8 x4 x5 c6 c7
    else
      bn3 (f7_findLot book_claims_ book_people_ book_facts_ book_hubs_ book_laws_ book_ones_ book_seats_ c6 c7 x5) fun (v10 : Int32) (c11 : (Nat → Int32)) (c12 : (Nat → Int32)) =>
      jn (fun (y14 : Int32) =>
        f8_hold_L24 book_claims_ book_people_ book_facts_ book_hubs_ book_laws_ book_ones_ book_seats_ v1 n9 y14 (x5 + (1 : Int32)) c11 c12 K8) fun (J13 : Int32 → Option (Int32 × (Nat → Int32) × (Nat → Int32))) =>
      if v10 = v1 then
        J13 (x4 ||| ((1 : Int32) <<< (x5 &&& 31)))
      else
        J13 x4
def f8_hold (book_claims_ : Int32) (book_people_ : Int32) (book_facts_ : (Nat → Int32)) (book_hubs_ : (Nat → Int32)) (book_laws_ : (Nat → Int32)) (book_ones_ : (Nat → Int32)) (book_seats_ : (Nat → Int32)) (ties_scores_ : (Nat → Int32)) (ties_strengths_ : (Nat → Int32)) : Option (Int32 × (Nat → Int32) × (Nat → Int32)) :=
  bn3 (f7_findLot book_claims_ book_people_ book_facts_ book_hubs_ book_laws_ book_ones_ book_seats_ ties_scores_ ties_strengths_ (-1 : Int32)) fun (v1 : Int32) (c2 : (Nat → Int32)) (c3 : (Nat → Int32)) =>
  if (0 : Int32) ≤ v1 then
    jn (fun (x4 : Int32) (x5 : Int32) (c6 : (Nat → Int32)) (c7 : (Nat → Int32)) =>
      some (x4, c6, c7)) fun (K8 : Int32 → Int32 → (Nat → Int32) → (Nat → Int32) → Option (Int32 × (Nat → Int32) × (Nat → Int32))) =>
    f8_hold_L24 book_claims_ book_people_ book_facts_ book_hubs_ book_laws_ book_ones_ book_seats_ v1 FU (0 : Int32) (0 : Int32) c2 c3 K8
  else
    some ((-3 : Int32), c2, c3)
def f1_isSheet (p0 : Int32) : Option (Int32) :=
  if p0 < (0 : Int32) then
    some (0 : Int32)
  else
  if (4 : Int32) ≤ p0 then
    some (0 : Int32)
  else
    some (1 : Int32)
def f1_isMissing (sorts_ : (Nat → Int32)) (p1 : Int32) : Option (Int32) :=
  Option.bind (f1_isSheet p1) fun (v1 : Int32) =>
  if v1 = (0 : Int32) then
    some (1 : Int32)
  else
    gd (ix p1 4) <|
    if (sorts_ p1.toNatClampNeg) = (-1 : Int32) then
      some (1 : Int32)
    else
      some (0 : Int32)
def f1_isInside (lengths_ : (Nat → Int32)) (sorts_ : (Nat → Int32)) (p1 : Int32) (p2 : Int32) : Option (Int32) :=
  Option.bind (f1_isMissing sorts_ p1) fun (v1 : Int32) =>
  if v1 = (0 : Int32) then
    if p2 < (0 : Int32) then
      some (0 : Int32)
    else
      gd (ix p1 4) <|
      if (lengths_ p1.toNatClampNeg) ≤ p2 then
        some (0 : Int32)
      else
      if (40 : Int32) ≤ p2 then
        some (0 : Int32)
      else
        some (1 : Int32)
  else
    some (0 : Int32)
def f1_read (lengths_ : (Nat → Int32)) (sorts_ : (Nat → Int32)) (items_ : (Nat → Int64)) (p1 : Int32) (p2 : Int32) : Option (Int32) :=
  Option.bind (f1_isInside lengths_ sorts_ p1 p2) fun (v1 : Int32) =>
  if v1 = (0 : Int32) then
    some (0 : Int32)
  else
    gd (ix ((p1 * (40 : Int32)) + p2) 160) <|
    some ((items_ ((p1 * (40 : Int32)) + p2).toNatClampNeg)).toInt32
def f8_item (host_lengths_ : (Nat → Int32)) (host_sorts_ : (Nat → Int32)) (host_items_ : (Nat → Int64)) (p1 : Int32) (p2 : Int32) (p3 : Int32) : Option (Int32) :=
  Option.bind (f1_isSheet p1) fun (v1 : Int32) =>
  if v1 = (0 : Int32) then
    some (-1 : Int32)
  else
  if p2 < (0 : Int32) then
    some (-1 : Int32)
  else
  if p2 < (4 : Int32) then
    Option.bind (f1_isMissing host_sorts_ p1) fun (v2 : Int32) =>
    if v2 = (0 : Int32) then
      gd (ix p1 4) <|
      if (host_sorts_ p1.toNatClampNeg) = p2 then
        Option.bind (f1_isInside host_lengths_ host_sorts_ p1 p3) fun (v4 : Int32) =>
        if v4 = (0 : Int32) then
          some (-12 : Int32)
        else
          Option.bind (f1_read host_lengths_ host_sorts_ host_items_ p1 p3) fun (v5 : Int32) =>
          some v5
      else
        some (-13 : Int32)
    else
      some (-11 : Int32)
  else
    some (-1 : Int32)
def f0_joinOnes_L23 (people_ : Int32) (p1 : Int32) (p2 : Int32) : Nat → Int32 → (Nat → Int32) → (Int32 → (Nat → Int32) → Option (Int32 × (Nat → Int32))) → Option (Int32 × (Nat → Int32))
  | 0, _, _, _ => none
  | n4 + 1, x1, c2, K3 =>
    if people_ ≤ x1 then
      K3 x1 c2
    else
      gd (ix x1 10) <|
      jn (fun (c7 : (Nat → Int32)) =>
        f0_joinOnes_L23 people_ p1 p2 n4 (x1 + (1 : Int32)) c7 K3) fun (J6 : (Nat → Int32) → Option (Int32 × (Nat → Int32))) =>
      if (c2 x1.toNatClampNeg) = (if p1 < p2 then p2 else p1) then
        gd (ix x1 10) <|
        J6 (upd c2 x1.toNatClampNeg (if p2 < p1 then p2 else p1))
      else
        J6 c2
def f0_joinOnes (people_ : Int32) (ones_ : (Nat → Int32)) (p1 : Int32) (p2 : Int32) : Option (Int32 × (Nat → Int32)) :=
  if p1 = p2 then
    some ((0 : Int32), ones_)
  else
    jn (fun (x1 : Int32) (c2 : (Nat → Int32)) =>
      some ((1 : Int32), c2)) fun (K3 : Int32 → (Nat → Int32) → Option (Int32 × (Nat → Int32))) =>
    f0_joinOnes_L23 people_ p1 p2 FU (0 : Int32) ones_ K3
def f8_join (book_people_ : Int32) (book_ones_ : (Nat → Int32)) (p1 : Int32) (p2 : Int32) : Option (Int32 × (Nat → Int32)) :=
  Option.bind (f0_isPerson book_people_ p1) fun (v1 : Int32) =>
  if v1 = (0 : Int32) then
    some ((-1 : Int32), book_ones_)
  else
    Option.bind (f0_isPerson book_people_ p2) fun (v2 : Int32) =>
    if v2 = (0 : Int32) then
      some ((-1 : Int32), book_ones_)
    else
      gd (ix p1 10) <|
      gd (ix p2 10) <|
      bn2 (f0_joinOnes book_people_ book_ones_ (book_ones_ p1.toNatClampNeg) (book_ones_ p2.toNatClampNeg)) fun (v5 : Int32) (c6 : (Nat → Int32)) =>
      if v5 = (0 : Int32) then
        some ((0 : Int32), c6)
      else
        some ((1 : Int32), c6)
def f5_append (count_ : Int32) (entries_ : (Nat → Int32)) (p1 : Int32) (p2 : Int32) (p3 : Int32) : Option (Int32 × (Nat → Int32)) :=
  if count_ < (36 : Int32) then
    gd (ix (count_ * (3 : Int32)) 108) <|
    gd (ix ((count_ * (3 : Int32)) + (1 : Int32)) 108) <|
    gd (ix ((count_ * (3 : Int32)) + (2 : Int32)) 108) <|
    some ((count_ + (1 : Int32)), (upd (upd (upd entries_ (count_ * (3 : Int32)).toNatClampNeg p1) ((count_ * (3 : Int32)) + (1 : Int32)).toNatClampNeg p2) ((count_ * (3 : Int32)) + (2 : Int32)).toNatClampNeg p3))
  else
    some (count_, entries_)
def f5_write_L23 (claims_ : Int32) (strengths_ : (Nat → Int32)) (p3 : Int32) (x1 : Int32) : Nat → Int32 → Int32 → (Nat → Int32) → (Int32 → Int32 → (Nat → Int32) → Option (Int32 × (Nat → Int32))) → Option (Int32 × (Nat → Int32))
  | 0, _, _, _, _ => none
  | n10 + 1, x6, c7, c8, K9 =>
    if claims_ ≤ x6 then
      K9 x6 c7 c8
    else
      jn (fun (s12 : Int32) =>
        Option.bind (f7_woven strengths_ x1 x6) fun (v13 : Int32) =>
        jn (fun (c15 : Int32) (c16 : (Nat → Int32)) =>
          f5_write_L23 claims_ strengths_ p3 x1 n10 (x6 + (1 : Int32)) c15 c16 K9) fun (J14 : Int32 → (Nat → Int32) → Option (Int32 × (Nat → Int32))) =>
        if s12 = (0 : Int32) then
          J14 c7 c8
        else
        if v13 ≤ (0 : Int32) then
          J14 c7 c8
        else
          bn2 (f5_append c7 c8 x1 x6 v13) fun (c17 : Int32) (c18 : (Nat → Int32)) =>
          J14 c17 c18) fun (J11 : Int32 → Option (Int32 × (Nat → Int32))) =>
      jn (
        J11 (0 : Int32)) fun (J21 : Option (Int32 × (Nat → Int32))) =>
      if ((p3 >>> (x1 &&& 31)) &&& (1 : Int32)) = (0 : Int32) then
        J21
      else
      if ((p3 >>> (x6 &&& 31)) &&& (1 : Int32)) = (0 : Int32) then
        J21
      else
        J11 (1 : Int32)
def f5_write_L8 (claims_ : Int32) (strengths_ : (Nat → Int32)) (p3 : Int32) : Nat → Int32 → Int32 → (Nat → Int32) → (Int32 → Int32 → (Nat → Int32) → Option (Int32 × (Nat → Int32))) → Option (Int32 × (Nat → Int32))
  | 0, _, _, _, _ => none
  | n5 + 1, x1, c2, c3, K4 =>
    if claims_ ≤ x1 then
      K4 x1 c2 c3
    else
      jn (fun (x6 : Int32) (c7 : Int32) (c8 : (Nat → Int32)) =>
        f5_write_L8 claims_ strengths_ p3 n5 (x1 + (1 : Int32)) c7 c8 K4) fun (K9 : Int32 → Int32 → (Nat → Int32) → Option (Int32 × (Nat → Int32))) =>
      f5_write_L23 claims_ strengths_ p3 x1 FU (x1 + (1 : Int32)) c2 c3 K9
def f5_write (claims_ : Int32) (count_ : Int32) (strengths_ : (Nat → Int32)) (entries_ : (Nat → Int32)) (p3 : Int32) : Option (Int32 × (Nat → Int32)) :=
  jn (fun (x1 : Int32) (c2 : Int32) (c3 : (Nat → Int32)) =>
    some (c2, c3)) fun (K4 : Int32 → Int32 → (Nat → Int32) → Option (Int32 × (Nat → Int32))) =>
  f5_write_L8 claims_ strengths_ p3 FU (0 : Int32) (0 : Int32) entries_ K4
def f5_hasSame_L24 (count_ : Int32) (this_count_ : Int32) (entries_ : (Nat → Int32)) (this_entries_ : (Nat → Int32)) (p2 : Int32) : Nat → Int32 → (Int32 → Option (Int32)) → Option (Int32)
  | 0, _, _ => none
  | n3 + 1, x1, K2 =>
    if (3 : Int32) ≤ x1 then
      K2 x1
    else
      Option.bind (f5_entry this_count_ this_entries_ p2 x1) fun (v4 : Int32) =>
      Option.bind (f5_entry count_ entries_ p2 x1) fun (v5 : Int32) =>
      if v4 = v5 then
        f5_hasSame_L24 count_ this_count_ entries_ this_entries_ p2 n3 (x1 + (1 : Int32)) K2
      else
        some (0 : Int32)
def f5_hasSame (count_ : Int32) (this_count_ : Int32) (entries_ : (Nat → Int32)) (this_entries_ : (Nat → Int32)) (p2 : Int32) : Option (Int32) :=
  if p2 < (0 : Int32) then
    some (0 : Int32)
  else
  if this_count_ ≤ p2 then
    some (0 : Int32)
  else
  if p2 < count_ then
    jn (fun (x1 : Int32) =>
      some (1 : Int32)) fun (K2 : Int32 → Option (Int32)) =>
    f5_hasSame_L24 count_ this_count_ entries_ this_entries_ p2 FU (0 : Int32) K2
  else
    some (0 : Int32)
def f8_judge_L38 (rows_count_ : Int32) (rows_entries_ : (Nat → Int32)) (c2 : (Nat → Int32)) (c3 : (Nat → Int32)) (c4 : Int32) (c5 : (Nat → Int32)) : Nat → Int32 → (Int32 → Option (Int32 × Int32 × (Nat → Int32) × (Nat → Int32) × (Nat → Int32))) → Option (Int32 × Int32 × (Nat → Int32) × (Nat → Int32) × (Nat → Int32))
  | 0, _, _ => none
  | n8 + 1, x6, K7 =>
    if rows_count_ ≤ x6 then
      K7 x6
    else
      Option.bind (f5_hasSame rows_count_ c4 rows_entries_ c5 x6) fun (v9 : Int32) =>
      if v9 = (0 : Int32) then
        some ((x6 + (1 : Int32)), c4, c5, c2, c3)
      else
        f8_judge_L38 rows_count_ rows_entries_ c2 c3 c4 c5 n8 (x6 + (1 : Int32)) K7
def f8_judge (book_claims_ : Int32) (book_people_ : Int32) (dueRows_count_ : Int32) (rows_count_ : Int32) (book_facts_ : (Nat → Int32)) (book_hubs_ : (Nat → Int32)) (book_laws_ : (Nat → Int32)) (book_ones_ : (Nat → Int32)) (book_seats_ : (Nat → Int32)) (dueRows_entries_ : (Nat → Int32)) (rows_entries_ : (Nat → Int32)) (ties_scores_ : (Nat → Int32)) (ties_strengths_ : (Nat → Int32)) : Option (Int32 × Int32 × (Nat → Int32) × (Nat → Int32) × (Nat → Int32)) :=
  bn3 (f7_findLot book_claims_ book_people_ book_facts_ book_hubs_ book_laws_ book_ones_ book_seats_ ties_scores_ ties_strengths_ (-1 : Int32)) fun (v1 : Int32) (c2 : (Nat → Int32)) (c3 : (Nat → Int32)) =>
  if (0 : Int32) ≤ v1 then
    bn2 (f5_write book_claims_ dueRows_count_ c3 dueRows_entries_ v1) fun (c4 : Int32) (c5 : (Nat → Int32)) =>
    jn (fun (x6 : Int32) =>
      if c4 ≤ rows_count_ then
        some ((0 : Int32), c4, c5, c2, c3)
      else
        some ((222 : Int32), c4, c5, c2, c3)) fun (K7 : Int32 → Option (Int32 × Int32 × (Nat → Int32) × (Nat → Int32) × (Nat → Int32))) =>
    f8_judge_L38 rows_count_ rows_entries_ c2 c3 c4 c5 FU (0 : Int32) K7
  else
    some ((-3 : Int32), dueRows_count_, dueRows_entries_, c2, c3)
def f8_keep (anyKept_ : Int32) (book_claims_ : Int32) (book_people_ : Int32) (book_rules_clauses_ : Int32) (book_rules_count_ : Int32) (book_z_ : Int32) (kept_claims_ : Int32) (kept_people_ : Int32) (kept_rules_clauses_ : Int32) (kept_rules_count_ : Int32) (kept_z_ : Int32) (book_byChance_ : (Nat → Int32)) (book_facts_ : (Nat → Int32)) (book_found_ : (Nat → Int32)) (book_homes_ : (Nat → Int32)) (book_hubs_ : (Nat → Int32)) (book_laws_ : (Nat → Int32)) (book_ones_ : (Nat → Int32)) (book_rules_codes_ : (Nat → Int32)) (book_seats_ : (Nat → Int32)) (book_sizes_ : (Nat → Int32)) (kept_byChance_ : (Nat → Int32)) (kept_facts_ : (Nat → Int32)) (kept_found_ : (Nat → Int32)) (kept_homes_ : (Nat → Int32)) (kept_hubs_ : (Nat → Int32)) (kept_laws_ : (Nat → Int32)) (kept_ones_ : (Nat → Int32)) (kept_rules_codes_ : (Nat → Int32)) (kept_seats_ : (Nat → Int32)) (kept_sizes_ : (Nat → Int32)) : Option (Int32 × Int32 × Int32 × Int32 × Int32 × Int32 × Int32 × (Nat → Int32) × (Nat → Int32) × (Nat → Int32) × (Nat → Int32) × (Nat → Int32) × (Nat → Int32) × (Nat → Int32) × (Nat → Int32) × (Nat → Int32) × (Nat → Int32)) :=
  bn15 (f0_copyFrom book_claims_ book_people_ book_rules_clauses_ book_rules_count_ book_z_ kept_claims_ kept_people_ kept_rules_clauses_ kept_rules_count_ kept_z_ book_byChance_ book_facts_ book_found_ book_homes_ book_hubs_ book_laws_ book_ones_ book_rules_codes_ book_seats_ book_sizes_ kept_byChance_ kept_facts_ kept_found_ kept_homes_ kept_hubs_ kept_laws_ kept_ones_ kept_rules_codes_ kept_seats_ kept_sizes_) fun (c1 : Int32) (c2 : Int32) (c3 : Int32) (c4 : Int32) (c5 : Int32) (c6 : (Nat → Int32)) (c7 : (Nat → Int32)) (c8 : (Nat → Int32)) (c9 : (Nat → Int32)) (c10 : (Nat → Int32)) (c11 : (Nat → Int32)) (c12 : (Nat → Int32)) (c13 : (Nat → Int32)) (c14 : (Nat → Int32)) (c15 : (Nat → Int32)) =>
  some ((1 : Int32), (1 : Int32), c1, c2, c3, c4, c5, c6, c7, c8, c9, c10, c11, c12, c13, c14, c15)
def f8_likely (book_claims_ : Int32) (book_people_ : Int32) (book_facts_ : (Nat → Int32)) (book_hubs_ : (Nat → Int32)) (book_laws_ : (Nat → Int32)) (book_ones_ : (Nat → Int32)) (book_seats_ : (Nat → Int32)) (p1 : Int32) : Option (Int32) :=
  Option.bind (f0_isClaim book_claims_ p1) fun (v1 : Int32) =>
  if v1 = (0 : Int32) then
    some (-1 : Int32)
  else
    Option.bind (f7_likelihood book_claims_ book_people_ book_facts_ book_hubs_ book_laws_ book_ones_ book_seats_ p1) fun (v2 : Int32) =>
    some v2
def f8_lot (book_claims_ : Int32) (book_people_ : Int32) (book_facts_ : (Nat → Int32)) (book_hubs_ : (Nat → Int32)) (book_laws_ : (Nat → Int32)) (book_ones_ : (Nat → Int32)) (book_seats_ : (Nat → Int32)) (ties_scores_ : (Nat → Int32)) (ties_strengths_ : (Nat → Int32)) (p1 : Int32) : Option (Int32 × (Nat → Int32) × (Nat → Int32)) :=
  if p1 < (0 : Int32) then
    some ((-1 : Int32), ties_scores_, ties_strengths_)
  else
  if p1 ≤ (1 : Int32) then
    bn3 (f7_findLot book_claims_ book_people_ book_facts_ book_hubs_ book_laws_ book_ones_ book_seats_ ties_scores_ ties_strengths_ (-1 : Int32)) fun (v1 : Int32) (c2 : (Nat → Int32)) (c3 : (Nat → Int32)) =>
    if (0 : Int32) ≤ v1 then
      if p1 = (0 : Int32) then
        some (v1, c2, c3)
      else
        Option.bind (f7_scoreOf c2 v1) fun (v4 : Int32) =>
        some ((v4 + (100000 : Int32)), c2, c3)
    else
      some ((-3 : Int32), c2, c3)
  else
    some ((-1 : Int32), ties_scores_, ties_strengths_)
def f0_countOnes_L4 (people_ : Int32) (ones_ : (Nat → Int32)) : Nat → Int32 → Int32 → (Int32 → Int32 → Option (Int32)) → Option (Int32)
  | 0, _, _, _ => none
  | n4 + 1, x1, x2, K3 =>
    if people_ ≤ x2 then
      K3 x1 x2
    else
      gd (ix x2 10) <|
      jn (fun (y7 : Int32) =>
        f0_countOnes_L4 people_ ones_ n4 y7 (x2 + (1 : Int32)) K3) fun (J6 : Int32 → Option (Int32)) =>
      if (ones_ x2.toNatClampNeg) = x2 then
        J6 (x1 + (1 : Int32))
      else
        J6 x1
def f0_countOnes (people_ : Int32) (ones_ : (Nat → Int32)) : Option (Int32) :=
  jn (fun (x1 : Int32) (x2 : Int32) =>
    some x1) fun (K3 : Int32 → Int32 → Option (Int32)) =>
  f0_countOnes_L4 people_ ones_ FU (0 : Int32) (0 : Int32) K3
def f8_many (book_claims_ : Int32) (book_people_ : Int32) (book_rules_clauses_ : Int32) (play_count_ : Int32) (reader_length_ : Int32) (rows_count_ : Int32) (book_found_ : (Nat → Int32)) (book_ones_ : (Nat → Int32)) (p1 : Int32) : Option (Int32) :=
  if p1 = (0 : Int32) then
    some book_people_
  else
  if p1 = (1 : Int32) then
    some book_claims_
  else
  if p1 = (2 : Int32) then
    some book_rules_clauses_
  else
  if p1 = (3 : Int32) then
    Option.bind (f0_countOnes book_people_ book_ones_) fun (v5 : Int32) =>
    some v5
  else
  if p1 = (4 : Int32) then
    Option.bind (f0_countFound book_claims_ book_found_) fun (v7 : Int32) =>
    some v7
  else
  if p1 = (5 : Int32) then
    some rows_count_
  else
  if p1 = (6 : Int32) then
    some reader_length_
  else
  if p1 = (7 : Int32) then
    some play_count_
  else
    some (-1 : Int32)
def f0_isElsewhere_L3 (claims_ : Int32) (people_ : Int32) (ones_ : (Nat → Int32)) (seats_ : (Nat → Int32)) (p1 : Int32) (p2 : Int32) (p3 : Int32) : Nat → Int32 → (Int32 → Option (Int32)) → Option (Int32)
  | 0, _, _ => none
  | n3 + 1, x1, K2 =>
    if (4 : Int32) ≤ x1 then
      K2 x1
    else
      jn (
        f0_isElsewhere_L3 claims_ people_ ones_ seats_ p1 p2 p3 n3 (x1 + (1 : Int32)) K2) fun (J4 : Option (Int32)) =>
      if x1 = p2 then
        J4
      else
        Option.bind (f0_oneAt claims_ people_ ones_ seats_ p1 x1) fun (v5 : Int32) =>
        if v5 = p3 then
          some (1 : Int32)
        else
          J4
def f0_isElsewhere (claims_ : Int32) (people_ : Int32) (ones_ : (Nat → Int32)) (seats_ : (Nat → Int32)) (p1 : Int32) (p2 : Int32) (p3 : Int32) : Option (Int32) :=
  jn (fun (x1 : Int32) =>
    some (0 : Int32)) fun (K2 : Int32 → Option (Int32)) =>
  f0_isElsewhere_L3 claims_ people_ ones_ seats_ p1 p2 p3 FU (0 : Int32) K2
def f0_isIn (claims_ : Int32) (people_ : Int32) (ones_ : (Nat → Int32)) (seats_ : (Nat → Int32)) (p1 : Int32) (p2 : Int32) : Option (Int32) :=
  Option.bind (f0_isElsewhere claims_ people_ ones_ seats_ p1 (-1 : Int32) p2) fun (v1 : Int32) =>
  gd (bz v1) <|
  some v1
def f2_power_L5 (p0 : Int64) (p2 : Int32) : Nat → Int64 → Int32 → (Int64 → Int32 → Option (Int64)) → Option (Int64)
  | 0, _, _, _ => none
  | n4 + 1, x1, x2, K3 =>
    if p2 ≤ x2 then
      K3 x1 x2
    else
      f2_power_L5 p0 p2 n4 (x1 * p0) (x2 + (1 : Int32)) K3
def f2_power (p0 : Int64) (p2 : Int32) : Option (Int64) :=
  jn (fun (x1 : Int64) (x2 : Int32) =>
    some x1) fun (K3 : Int64 → Int32 → Option (Int64)) =>
  f2_power_L5 p0 p2 FU (1 : Int64) (0 : Int32) K3
def f2_asManyOrMore_L9 (p0 : Int32) (p1 : Int32) (p2 : Int64) : Nat → Int64 → Int64 → Int32 → (Int64 → Int64 → Int32 → Option (Int64)) → Option (Int64)
  | 0, _, _, _, _ => none
  | n5 + 1, x1, x2, x3, K4 =>
    if p0 < x3 then
      K4 x1 x2 x3
    else
      jn (fun (y7 : Int64) =>
        gd (nzl ((x3 + (1 : Int32))).toInt64) <|
        f2_asManyOrMore_L9 p0 p1 p2 n5 y7 ((x2 * ((p0 - x3)).toInt64) / ((x3 + (1 : Int32))).toInt64) (x3 + (1 : Int32)) K4) fun (J6 : Int64 → Option (Int64)) =>
      if x3 < p1 then
        J6 x1
      else
        Option.bind (f2_power (4 : Int64) x3) fun (v9 : Int64) =>
        Option.bind (f2_power (p2 - (4 : Int64)) (p0 - x3)) fun (v10 : Int64) =>
        J6 (x1 + ((x2 * v9) * v10))
def f2_asManyOrMore (p0 : Int32) (p1 : Int32) (p2 : Int64) : Option (Int64) :=
  jn (fun (x1 : Int64) (x2 : Int64) (x3 : Int32) =>
    some x1) fun (K4 : Int64 → Int64 → Int32 → Option (Int64)) =>
  f2_asManyOrMore_L9 p0 p1 p2 FU (0 : Int64) (1 : Int64) (0 : Int32) K4
def f2_commonDivisor_L9  : Nat → Int64 → Int64 → Int32 → (Int64 → Int64 → Int32 → Option (Int64)) → Option (Int64)
  | 0, _, _, _, _ => none
  | n5 + 1, x1, x2, x3, K4 =>
    if (200 : Int32) ≤ x3 then
      K4 x1 x2 x3
    else
    if (lg_cmp x2 (0 : Int64)) = (0 : Int32) then
      K4 x1 x2 x3
    else
      gd (nzl x2) <|
      f2_commonDivisor_L9 n5 x2 (x1 - x1 / x2 * x2) (x3 + (1 : Int32)) K4
def f2_commonDivisor (p0 : Int64) (p2 : Int64) : Option (Int64) :=
  jn (fun (x1 : Int64) (x2 : Int64) (x3 : Int32) =>
    some x1) fun (K4 : Int64 → Int64 → Int32 → Option (Int64)) =>
  f2_commonDivisor_L9 FU p0 p2 (0 : Int32) K4
def f2_part (p0 : Int64) (p2 : Int64) (p4 : Int32) : Option (Int64) :=
  Option.bind (f2_commonDivisor p0 p2) fun (v1 : Int64) =>
  if (lg_cmp v1 (0 : Int64)) = (0 : Int32) then
    some (0 : Int64)
  else
    jn (fun (s3 : Int64) =>
      gd (nzl v1) <|
      some (s3 / v1)) fun (J2 : Int64 → Option (Int64)) =>
    if p4 = (0 : Int32) then
      J2 p0
    else
      J2 p2
def f8_odds_L43 (book_claims_ : Int32) (book_people_ : Int32) (book_facts_ : (Nat → Int32)) (book_homes_ : (Nat → Int32)) (book_ones_ : (Nat → Int32)) (book_seats_ : (Nat → Int32)) (p1 : Int32) : Nat → Int32 → Int32 → Int32 → (Int32 → Int32 → Int32 → Option (Int64)) → Option (Int64)
  | 0, _, _, _, _ => none
  | n7 + 1, x3, x4, x5, K6 =>
    if book_claims_ ≤ x5 then
      K6 x3 x4 x5
    else
      Option.bind (f0_fact book_claims_ book_facts_ x5 (2 : Int32)) fun (v8 : Int32) =>
      jn (fun (y10 : Int32) (y11 : Int32) =>
        f8_odds_L43 book_claims_ book_people_ book_facts_ book_homes_ book_ones_ book_seats_ p1 n7 y10 y11 (x5 + (1 : Int32)) K6) fun (J9 : Int32 → Int32 → Option (Int64)) =>
      if v8 = (book_homes_ p1.toNatClampNeg) then
        gd (ix p1 10) <|
        Option.bind (f0_isIn book_claims_ book_people_ book_ones_ book_seats_ x5 (book_ones_ p1.toNatClampNeg)) fun (v13 : Int32) =>
        if v13 = (0 : Int32) then
          J9 (x3 + (1 : Int32)) x4
        else
          J9 (x3 + (1 : Int32)) (x4 + (1 : Int32))
      else
        J9 x3 x4
def f8_odds (book_claims_ : Int32) (book_people_ : Int32) (book_facts_ : (Nat → Int32)) (book_homes_ : (Nat → Int32)) (book_ones_ : (Nat → Int32)) (book_seats_ : (Nat → Int32)) (book_sizes_ : (Nat → Int32)) (p1 : Int32) (p2 : Int32) : Option (Int64) :=
  Option.bind (f0_isPerson book_people_ p1) fun (v1 : Int32) =>
  if v1 = (0 : Int32) then
    some (-1 : Int64)
  else
  if p2 < (0 : Int32) then
    some (-1 : Int64)
  else
  if p2 ≤ (1 : Int32) then
    gd (ix p1 10) <|
    jn (fun (x3 : Int32) (x4 : Int32) (x5 : Int32) =>
      gd (ix (book_homes_ p1.toNatClampNeg) 4) <|
      Option.bind (f2_asManyOrMore x3 x4 ((book_sizes_ (book_homes_ p1.toNatClampNeg).toNatClampNeg)).toInt64) fun (v18 : Int64) =>
      Option.bind (f2_power ((book_sizes_ (book_homes_ p1.toNatClampNeg).toNatClampNeg)).toInt64 x3) fun (v19 : Int64) =>
      Option.bind (f2_part v18 v19 p2) fun (v20 : Int64) =>
      some v20) fun (K6 : Int32 → Int32 → Int32 → Option (Int64)) =>
    f8_odds_L43 book_claims_ book_people_ book_facts_ book_homes_ book_ones_ book_seats_ p1 FU (0 : Int32) (0 : Int32) (0 : Int32) K6
  else
    some (-1 : Int64)
def f0_addPerson (people_ : Int32) (homes_ : (Nat → Int32)) (hubs_ : (Nat → Int32)) (ones_ : (Nat → Int32)) (p1 : Int32) (p2 : Int32) : Option (Int32 × Int32 × (Nat → Int32) × (Nat → Int32) × (Nat → Int32)) :=
  if people_ < (10 : Int32) then
    gd (ix people_ 10) <|
    gd (ix people_ 10) <|
    gd (ix people_ 10) <|
    some (people_, (people_ + (1 : Int32)), (upd homes_ people_.toNatClampNeg p1), (upd hubs_ people_.toNatClampNeg (vp_nar .boolean p2)), (upd ones_ people_.toNatClampNeg people_))
  else
    some ((-2 : Int32), people_, homes_, hubs_, ones_)
def f8_person (book_people_ : Int32) (book_homes_ : (Nat → Int32)) (book_hubs_ : (Nat → Int32)) (book_ones_ : (Nat → Int32)) (p1 : Int32) (p2 : Int32) : Option (Int32 × Int32 × (Nat → Int32) × (Nat → Int32) × (Nat → Int32)) :=
  Option.bind (f8_isTown p1) fun (v1 : Int32) =>
  if v1 = (0 : Int32) then
    some ((-1 : Int32), book_people_, book_homes_, book_hubs_, book_ones_)
  else
  if book_people_ < (10 : Int32) then
    bn5 (f0_addPerson book_people_ book_homes_ book_hubs_ book_ones_ p1 p2) fun (v2 : Int32) (c3 : Int32) (c4 : (Nat → Int32)) (c5 : (Nat → Int32)) (c6 : (Nat → Int32)) =>
    some (v2, c3, c4, c5, c6)
  else
    some ((-2 : Int32), book_people_, book_homes_, book_hubs_, book_ones_)
def f0_claimsWith_L4 (claims_ : Int32) (people_ : Int32) (ones_ : (Nat → Int32)) (seats_ : (Nat → Int32)) (p1 : Int32) : Nat → Int32 → Int32 → (Int32 → Int32 → Option (Int32)) → Option (Int32)
  | 0, _, _, _ => none
  | n4 + 1, x1, x2, K3 =>
    if claims_ ≤ x2 then
      K3 x1 x2
    else
      Option.bind (f0_isIn claims_ people_ ones_ seats_ x2 p1) fun (v5 : Int32) =>
      jn (fun (y7 : Int32) =>
        f0_claimsWith_L4 claims_ people_ ones_ seats_ p1 n4 y7 (x2 + (1 : Int32)) K3) fun (J6 : Int32 → Option (Int32)) =>
      if v5 = (0 : Int32) then
        J6 x1
      else
        J6 (x1 + (1 : Int32))
def f0_claimsWith (claims_ : Int32) (people_ : Int32) (ones_ : (Nat → Int32)) (seats_ : (Nat → Int32)) (p1 : Int32) : Option (Int32) :=
  jn (fun (x1 : Int32) (x2 : Int32) =>
    some x1) fun (K3 : Int32 → Int32 → Option (Int32)) =>
  f0_claimsWith_L4 claims_ people_ ones_ seats_ p1 FU (0 : Int32) (0 : Int32) K3
def f8_personOf (book_claims_ : Int32) (book_people_ : Int32) (book_homes_ : (Nat → Int32)) (book_hubs_ : (Nat → Int32)) (book_ones_ : (Nat → Int32)) (book_seats_ : (Nat → Int32)) (p1 : Int32) (p2 : Int32) : Option (Int32) :=
  Option.bind (f0_isPerson book_people_ p1) fun (v1 : Int32) =>
  if v1 = (0 : Int32) then
    some (-1 : Int32)
  else
    gd (ix p1 10) <|
    if p2 = (0 : Int32) then
      gd (ix p1 10) <|
      some (book_homes_ p1.toNatClampNeg)
    else
    if p2 = (1 : Int32) then
      some (book_ones_ p1.toNatClampNeg)
    else
    if p2 = (2 : Int32) then
      Option.bind (f0_isHub book_people_ book_hubs_ book_ones_ (book_ones_ p1.toNatClampNeg)) fun (v7 : Int32) =>
      if v7 = (0 : Int32) then
        some (0 : Int32)
      else
        some (1 : Int32)
    else
    if p2 = (3 : Int32) then
      Option.bind (f0_claimsWith book_claims_ book_people_ book_ones_ book_seats_ (book_ones_ p1.toNatClampNeg)) fun (v10 : Int32) =>
      some v10
    else
      some (-1 : Int32)
def f8_prove (book_claims_ : Int32) (book_people_ : Int32) (rows_count_ : Int32) (book_facts_ : (Nat → Int32)) (book_hubs_ : (Nat → Int32)) (book_laws_ : (Nat → Int32)) (book_ones_ : (Nat → Int32)) (book_seats_ : (Nat → Int32)) (rows_entries_ : (Nat → Int32)) (ties_scores_ : (Nat → Int32)) (ties_strengths_ : (Nat → Int32)) : Option (Int32 × Int32 × (Nat → Int32) × (Nat → Int32) × (Nat → Int32)) :=
  bn3 (f7_findLot book_claims_ book_people_ book_facts_ book_hubs_ book_laws_ book_ones_ book_seats_ ties_scores_ ties_strengths_ (-1 : Int32)) fun (v1 : Int32) (c2 : (Nat → Int32)) (c3 : (Nat → Int32)) =>
  if (0 : Int32) ≤ v1 then
    bn2 (f5_write book_claims_ rows_count_ c3 rows_entries_ v1) fun (c4 : Int32) (c5 : (Nat → Int32)) =>
    some (c4, c4, c5, c2, c3)
  else
    some ((-3 : Int32), rows_count_, rows_entries_, c2, c3)
def f1_write (lengths_ : (Nat → Int32)) (sorts_ : (Nat → Int32)) (items_ : (Nat → Int64)) (p1 : Int32) (p2 : Int32) (p3 : Int32) : Option ((Nat → Int64)) :=
  Option.bind (f1_isInside lengths_ sorts_ p1 p2) fun (v1 : Int32) =>
  if v1 = (0 : Int32) then
    some items_
  else
    gd (ix p1 4) <|
    jn (fun (s4 : Int32) =>
      gd (ix ((p1 * (40 : Int32)) + p2) 160) <|
      some (vp_updL items_ ((p1 * (40 : Int32)) + p2).toNatClampNeg (s4).toInt64)) fun (J3 : Int32 → Option ((Nat → Int64))) =>
    if (sorts_ p1.toNatClampNeg) = (0 : Int32) then
      J3 (p3).toInt8.toInt32
    else
      gd (ix p1 4) <|
      if (sorts_ p1.toNatClampNeg) = (1 : Int32) then
        J3 (p3).toInt16.toInt32
      else
        J3 p3
def f8_put (host_lengths_ : (Nat → Int32)) (host_sorts_ : (Nat → Int32)) (host_items_ : (Nat → Int64)) (p1 : Int32) (p2 : Int32) (p3 : Int32) : Option (Int32 × (Nat → Int64)) :=
  Option.bind (f1_isSheet p1) fun (v1 : Int32) =>
  if v1 = (0 : Int32) then
    some ((-1 : Int32), host_items_)
  else
    Option.bind (f1_isMissing host_sorts_ p1) fun (v2 : Int32) =>
    if v2 = (0 : Int32) then
      Option.bind (f1_isInside host_lengths_ host_sorts_ p1 p2) fun (v3 : Int32) =>
      if v3 = (0 : Int32) then
        some ((-12 : Int32), host_items_)
      else
        Option.bind (f1_write host_lengths_ host_sorts_ host_items_ p1 p2 p3) fun (c4 : (Nat → Int64)) =>
        some ((1 : Int32), c4)
    else
      some ((-11 : Int32), host_items_)
def f8_rate_L18 (book_claims_ : Int32) (book_byChance_ : (Nat → Int32)) (book_found_ : (Nat → Int32)) : Nat → Int32 → Int32 → Int32 → (Int32 → Int32 → Int32 → Option (Int32)) → Option (Int32)
  | 0, _, _, _, _ => none
  | n5 + 1, x1, x2, x3, K4 =>
    if book_claims_ ≤ x3 then
      K4 x1 x2 x3
    else
      gd (ix x3 9) <|
      jn (fun (y8 : Int32) (y9 : Int32) =>
        f8_rate_L18 book_claims_ book_byChance_ book_found_ n5 y8 y9 (x3 + (1 : Int32)) K4) fun (J7 : Int32 → Int32 → Option (Int32)) =>
      if (book_found_ x3.toNatClampNeg) = (-9 : Int32) then
        J7 x1 x2
      else
        gd (ix x3 9) <|
        if (book_byChance_ x3.toNatClampNeg) = (0 : Int32) then
          J7 x1 x2
        else
          gd (ix x3 9) <|
          if (book_found_ x3.toNatClampNeg) = (1 : Int32) then
            J7 (x1 + (1 : Int32)) (x2 + (1 : Int32))
          else
            J7 (x1 + (1 : Int32)) x2
def f8_rate (book_claims_ : Int32) (book_byChance_ : (Nat → Int32)) (book_found_ : (Nat → Int32)) (p1 : Int32) : Option (Int32) :=
  if p1 < (0 : Int32) then
    some (-1 : Int32)
  else
  if p1 ≤ (1 : Int32) then
    jn (fun (x1 : Int32) (x2 : Int32) (x3 : Int32) =>
      if x1 = (0 : Int32) then
        some (-3 : Int32)
      else
        Option.bind (f2_part (x2).toInt64 (x1).toInt64 p1) fun (v16 : Int64) =>
        some (v16).toInt32) fun (K4 : Int32 → Int32 → Int32 → Option (Int32)) =>
    f8_rate_L18 book_claims_ book_byChance_ book_found_ FU (0 : Int32) (0 : Int32) (0 : Int32) K4
  else
    some (-1 : Int32)
def f7_tiedWith_L5 (claims_ : Int32) (people_ : Int32) (facts_ : (Nat → Int32)) (hubs_ : (Nat → Int32)) (laws_ : (Nat → Int32)) (ones_ : (Nat → Int32)) (seats_ : (Nat → Int32)) (p2 : Int32) : Nat → Int32 → Int32 → (Int32 → Int32 → Option (Int32)) → Option (Int32)
  | 0, _, _, _ => none
  | n4 + 1, x1, x2, K3 =>
    if claims_ ≤ x2 then
      K3 x1 x2
    else
      jn (fun (y6 : Int32) =>
        f7_tiedWith_L5 claims_ people_ facts_ hubs_ laws_ ones_ seats_ p2 n4 y6 (x2 + (1 : Int32)) K3) fun (J5 : Int32 → Option (Int32)) =>
      if x2 = p2 then
        J5 x1
      else
        Option.bind (f7_strength claims_ people_ facts_ hubs_ laws_ ones_ seats_ p2 x2 (-1 : Int32)) fun (v7 : Int32) =>
        if v7 ≤ (0 : Int32) then
          J5 x1
        else
          J5 (x1 ||| ((1 : Int32) <<< (x2 &&& 31)))
def f7_tiedWith (claims_ : Int32) (people_ : Int32) (facts_ : (Nat → Int32)) (hubs_ : (Nat → Int32)) (laws_ : (Nat → Int32)) (ones_ : (Nat → Int32)) (seats_ : (Nat → Int32)) (p2 : Int32) : Option (Int32) :=
  jn (fun (x1 : Int32) (x2 : Int32) =>
    some x1) fun (K3 : Int32 → Int32 → Option (Int32)) =>
  f7_tiedWith_L5 claims_ people_ facts_ hubs_ laws_ ones_ seats_ p2 FU (0 : Int32) (0 : Int32) K3
def f6_push (height_ : Int32) (stack_ : (Nat → Int32)) (p1 : Int32) : Option (Int32 × (Nat → Int32)) :=
  if (210 : Int32) ≤ height_ then
    some (height_, stack_)
  else
    gd (ix height_ 210) <|
    some ((height_ + (1 : Int32)), (upd stack_ height_.toNatClampNeg p1))
def f6_pop (height_ : Int32) (stack_ : (Nat → Int32)) : Option (Int32 × Int32) :=
  if height_ ≤ (0 : Int32) then
    some ((0 : Int32), height_)
  else
    gd (ix (height_ - (1 : Int32)) 210) <|
    some ((stack_ (height_ - (1 : Int32)).toNatClampNeg), (height_ - (1 : Int32)))
def f6_compare (height_ : Int32) (stack_ : (Nat → Int32)) (p1 : Int32) : Option (Int32 × (Nat → Int32)) :=
  bn2 (f6_pop height_ stack_) fun (v1 : Int32) (c2 : Int32) =>
  bn2 (f6_pop c2 stack_) fun (v3 : Int32) (c4 : Int32) =>
  jn (fun (s6 : Int32) =>
    jn (fun (s8 : Int32) =>
      bn2 (f6_push c4 stack_ s8) fun (c9 : Int32) (c10 : (Nat → Int32)) =>
      some (c9, c10)) fun (J7 : Int32 → Option (Int32 × (Nat → Int32))) =>
    if s6 = (0 : Int32) then
      J7 (0 : Int32)
    else
      J7 (1 : Int32)) fun (J5 : Int32 → Option (Int32 × (Nat → Int32))) =>
  if p1 = (2000 : Int32) then
    if v1 ≤ v3 then
      J5 (0 : Int32)
    else
      J5 (1 : Int32)
  else
  if p1 = (2001 : Int32) then
    if v3 = v1 then
      J5 (1 : Int32)
    else
      J5 (0 : Int32)
  else
  if v3 ≤ v1 then
    J5 (0 : Int32)
  else
    J5 (1 : Int32)
def f6_obey (asking_ : Int32) (height_ : Int32) (p2_ : (Nat → Int32)) (stack_ : (Nat → Int32)) (p1 : Int32) : Option (Int32 × Int32 × (Nat → Int32)) :=
  if (1000 : Int32) ≤ p1 then
    if (2000 : Int32) ≤ p1 then
      if (2003 : Int32) ≤ p1 then
        if p1 = (2003 : Int32) then
          bn2 (f6_pop height_ stack_) fun (v29 : Int32) (c30 : Int32) =>
          bn2 (f6_push c30 stack_ ((1 : Int32) - v29)) fun (c31 : Int32) (c32 : (Nat → Int32)) =>
          some (asking_, c31, c32)
        else
        if p1 = (2004 : Int32) then
          bn2 (f6_pop height_ stack_) fun (v22 : Int32) (c23 : Int32) =>
          bn2 (f6_pop c23 stack_) fun (v24 : Int32) (c25 : Int32) =>
          bn2 (f6_push c25 stack_ (v22 &&& v24)) fun (c26 : Int32) (c27 : (Nat → Int32)) =>
          some (asking_, c26, c27)
        else
        if p1 = (2005 : Int32) then
          bn2 (f6_pop height_ stack_) fun (v15 : Int32) (c16 : Int32) =>
          bn2 (f6_pop c16 stack_) fun (v17 : Int32) (c18 : Int32) =>
          bn2 (f6_push c18 stack_ (v15 ||| v17)) fun (c19 : Int32) (c20 : (Nat → Int32)) =>
          some (asking_, c19, c20)
        else
          jn (
            jn (fun (s3 : Int32) =>
              gd (bz s3) <|
              some (s3, height_, stack_)) fun (J2 : Int32 → Option (Int32 × Int32 × (Nat → Int32))) =>
            if p1 = (2011 : Int32) then
              J2 (1 : Int32)
            else
              J2 (0 : Int32)) fun (J1 : Option (Int32 × Int32 × (Nat → Int32))) =>
          if p1 = (2010 : Int32) then
            J1
          else
          if p1 = (2011 : Int32) then
            J1
          else
            bn2 (f6_pop height_ stack_) fun (v6 : Int32) (c7 : Int32) =>
            if v6 = (1 : Int32) then
              jn (fun (s9 : Int32) =>
                gd (bz s9) <|
                some (s9, c7, stack_)) fun (J8 : Int32 → Option (Int32 × Int32 × (Nat → Int32))) =>
              if p1 = (2013 : Int32) then
                J8 (1 : Int32)
              else
                J8 (0 : Int32)
            else
              some (asking_, c7, stack_)
      else
        bn2 (f6_compare height_ stack_ p1) fun (c34 : Int32) (c35 : (Nat → Int32)) =>
        some (asking_, c34, c35)
    else
      jn (fun (s38 : Int32) =>
        bn2 (f6_push height_ stack_ s38) fun (c39 : Int32) (c40 : (Nat → Int32)) =>
        some (asking_, c39, c40)) fun (J37 : Int32 → Option (Int32 × Int32 × (Nat → Int32))) =>
      if (6 : Int32) ≤ (p1 - (1000 : Int32)) then
        J37 (0 : Int32)
      else
        gd (ix (p1 - (1000 : Int32)) 6) <|
        J37 (p2_ (p1 - (1000 : Int32)).toNatClampNeg)
  else
    bn2 (f6_push height_ stack_ p1) fun (c44 : Int32) (c45 : (Nat → Int32)) =>
    some (asking_, c44, c45)
def f6_ask_L12 (count_ : Int32) (p1_ : (Nat → Int32)) (codes_ : (Nat → Int32)) : Nat → Int32 → Int32 → Int32 → (Nat → Int32) → (Int32 → Int32 → Int32 → (Nat → Int32) → Option (Int32 × Int32 × Int32 × (Nat → Int32))) → Option (Int32 × Int32 × Int32 × (Nat → Int32))
  | 0, _, _, _, _, _ => none
  | n6 + 1, x1, c2, c3, c4, K5 =>
    if count_ ≤ x1 then
      K5 x1 c2 c3 c4
    else
    if (210 : Int32) ≤ x1 then
      K5 x1 c2 c3 c4
    else
      gd (ix x1 210) <|
      bn3 (f6_obey c2 c3 p1_ c4 (codes_ x1.toNatClampNeg)) fun (c8 : Int32) (c9 : Int32) (c10 : (Nat → Int32)) =>
      f6_ask_L12 count_ p1_ codes_ n6 (x1 + (1 : Int32)) c8 c9 c10 K5
def f6_ask (asking_ : Int32) (count_ : Int32) (height_ : Int32) (p1_ : (Nat → Int32)) (codes_ : (Nat → Int32)) (stack_ : (Nat → Int32)) : Option (Int32 × Int32 × Int32 × (Nat → Int32)) :=
  jn (fun (x1 : Int32) (c2 : Int32) (c3 : Int32) (c4 : (Nat → Int32)) =>
    gd (bz c2) <|
    some (c2, c2, c3, c4)) fun (K5 : Int32 → Int32 → Int32 → (Nat → Int32) → Option (Int32 × Int32 × Int32 × (Nat → Int32))) =>
  f6_ask_L12 count_ p1_ codes_ FU (0 : Int32) (0 : Int32) (0 : Int32) stack_ K5
def f8_asks (book_claims_ : Int32) (book_people_ : Int32) (book_rules_asking_ : Int32) (book_rules_count_ : Int32) (book_rules_height_ : Int32) (book_facts_ : (Nat → Int32)) (book_hubs_ : (Nat → Int32)) (book_laws_ : (Nat → Int32)) (book_ones_ : (Nat → Int32)) (book_rules_codes_ : (Nat → Int32)) (book_rules_stack_ : (Nat → Int32)) (book_seats_ : (Nat → Int32)) (ruleFacts_ : (Nat → Int32)) (p1 : Int32) : Option (Int32 × Int32 × Int32 × (Nat → Int32) × (Nat → Int32)) :=
  Option.bind (f0_fact book_claims_ book_facts_ p1 (4 : Int32)) fun (v1 : Int32) =>
  gd (ix (0 : Int32) 6) <|
  Option.bind (f0_fact book_claims_ book_facts_ p1 (1 : Int32)) fun (v3 : Int32) =>
  gd (ix (1 : Int32) 6) <|
  Option.bind (f0_seated book_claims_ book_seats_ p1) fun (v5 : Int32) =>
  gd (ix (2 : Int32) 6) <|
  Option.bind (f7_tiedWith book_claims_ book_people_ book_facts_ book_hubs_ book_laws_ book_ones_ book_seats_ p1) fun (v7 : Int32) =>
  Option.bind (fJ6_bitCount_0f7a4 v7) fun (v8 : Int32) =>
  gd (ix (3 : Int32) 6) <|
  Option.bind (f0_fact book_claims_ book_facts_ p1 (3 : Int32)) fun (v10 : Int32) =>
  gd (ix (4 : Int32) 6) <|
  Option.bind (f0_fact book_claims_ book_facts_ p1 (0 : Int32)) fun (v12 : Int32) =>
  gd (ix (5 : Int32) 6) <|
  bn4 (f6_ask book_rules_asking_ book_rules_count_ book_rules_height_ (upd (upd (upd (upd (upd (upd ruleFacts_ (0 : Int32).toNatClampNeg v1) (1 : Int32).toNatClampNeg v3) (2 : Int32).toNatClampNeg v5) (3 : Int32).toNatClampNeg v8) (4 : Int32).toNatClampNeg v10) (5 : Int32).toNatClampNeg v12) book_rules_codes_ book_rules_stack_) fun (v14 : Int32) (c15 : Int32) (c16 : Int32) (c17 : (Nat → Int32)) =>
  gd (bz v14) <|
  some (v14, c15, c16, c17, (upd (upd (upd (upd (upd (upd ruleFacts_ (0 : Int32).toNatClampNeg v1) (1 : Int32).toNatClampNeg v3) (2 : Int32).toNatClampNeg v5) (3 : Int32).toNatClampNeg v8) (4 : Int32).toNatClampNeg v10) (5 : Int32).toNatClampNeg v12))
def f8_right_L15 (book_claims_ : Int32) (book_people_ : Int32) (book_rules_count_ : Int32) (book_facts_ : (Nat → Int32)) (book_found_ : (Nat → Int32)) (book_hubs_ : (Nat → Int32)) (book_laws_ : (Nat → Int32)) (book_ones_ : (Nat → Int32)) (book_rules_codes_ : (Nat → Int32)) (book_seats_ : (Nat → Int32)) (p1 : Int32) : Nat → Int32 → Int32 → Int32 → Int32 → (Nat → Int32) → (Nat → Int32) → (Int32 → Int32 → Int32 → Int32 → (Nat → Int32) → (Nat → Int32) → Option (Int32 × Int32 × Int32 × (Nat → Int32) × (Nat → Int32))) → Option (Int32 × Int32 × Int32 × (Nat → Int32) × (Nat → Int32))
  | 0, _, _, _, _, _, _, _ => none
  | n8 + 1, x1, x2, c3, c4, c5, c6, K7 =>
    if book_claims_ ≤ x2 then
      K7 x1 x2 c3 c4 c5 c6
    else
      gd (ix x2 9) <|
      jn (fun (y11 : Int32) (c12 : Int32) (c13 : Int32) (c14 : (Nat → Int32)) (c15 : (Nat → Int32)) =>
        f8_right_L15 book_claims_ book_people_ book_rules_count_ book_facts_ book_found_ book_hubs_ book_laws_ book_ones_ book_rules_codes_ book_seats_ p1 n8 y11 (x2 + (1 : Int32)) c12 c13 c14 c15 K7) fun (J10 : Int32 → Int32 → Int32 → (Nat → Int32) → (Nat → Int32) → Option (Int32 × Int32 × Int32 × (Nat → Int32) × (Nat → Int32))) =>
      if (book_found_ x2.toNatClampNeg) = (-9 : Int32) then
        J10 x1 c3 c4 c5 c6
      else
        bn5 (f8_asks book_claims_ book_people_ c3 book_rules_count_ c4 book_facts_ book_hubs_ book_laws_ book_ones_ book_rules_codes_ c5 book_seats_ c6 x2) fun (v16 : Int32) (c17 : Int32) (c18 : Int32) (c19 : (Nat → Int32)) (c20 : (Nat → Int32)) =>
        jn (fun (s22 : Int32) =>
          gd (ix x2 9) <|
          jn (fun (s25 : Int32) =>
            if (s22 + s25) = p1 then
              J10 (x1 + (1 : Int32)) c17 c18 c19 c20
            else
              J10 x1 c17 c18 c19 c20) fun (J24 : Int32 → Option (Int32 × Int32 × Int32 × (Nat → Int32) × (Nat → Int32))) =>
          if (book_found_ x2.toNatClampNeg) = (1 : Int32) then
            J24 (0 : Int32)
          else
            J24 (1 : Int32)) fun (J21 : Int32 → Option (Int32 × Int32 × Int32 × (Nat → Int32) × (Nat → Int32))) =>
        if v16 = (0 : Int32) then
          J21 (2 : Int32)
        else
          J21 (0 : Int32)
def f8_right (book_claims_ : Int32) (book_people_ : Int32) (book_rules_asking_ : Int32) (book_rules_count_ : Int32) (book_rules_height_ : Int32) (book_facts_ : (Nat → Int32)) (book_found_ : (Nat → Int32)) (book_hubs_ : (Nat → Int32)) (book_laws_ : (Nat → Int32)) (book_ones_ : (Nat → Int32)) (book_rules_codes_ : (Nat → Int32)) (book_rules_stack_ : (Nat → Int32)) (book_seats_ : (Nat → Int32)) (ruleFacts_ : (Nat → Int32)) (p1 : Int32) : Option (Int32 × Int32 × Int32 × (Nat → Int32) × (Nat → Int32)) :=
  if p1 < (0 : Int32) then
    some ((-1 : Int32), book_rules_asking_, book_rules_height_, book_rules_stack_, ruleFacts_)
  else
  if p1 ≤ (3 : Int32) then
    jn (fun (x1 : Int32) (x2 : Int32) (c3 : Int32) (c4 : Int32) (c5 : (Nat → Int32)) (c6 : (Nat → Int32)) =>
      some (x1, c3, c4, c5, c6)) fun (K7 : Int32 → Int32 → Int32 → Int32 → (Nat → Int32) → (Nat → Int32) → Option (Int32 × Int32 × Int32 × (Nat → Int32) × (Nat → Int32))) =>
    f8_right_L15 book_claims_ book_people_ book_rules_count_ book_facts_ book_found_ book_hubs_ book_laws_ book_ones_ book_rules_codes_ book_seats_ p1 FU (0 : Int32) (0 : Int32) book_rules_asking_ book_rules_height_ book_rules_stack_ ruleFacts_ K7
  else
    some ((-1 : Int32), book_rules_asking_, book_rules_height_, book_rules_stack_, ruleFacts_)
def f8_row (rows_count_ : Int32) (rows_entries_ : (Nat → Int32)) (p1 : Int32) (p2 : Int32) : Option (Int32) :=
  Option.bind (f5_holds rows_count_ p1 p2) fun (v1 : Int32) =>
  if v1 = (0 : Int32) then
    some (-9 : Int32)
  else
    Option.bind (f5_entry rows_count_ rows_entries_ p1 p2) fun (v2 : Int32) =>
    some v2
def f4_byteAt (length_ : Int32) (tape_ : (Nat → Int32)) (p1 : Int32) : Option (Int32) :=
  if p1 < (0 : Int32) then
    some (-1 : Int32)
  else
  if length_ ≤ p1 then
    some (-1 : Int32)
  else
  if (200 : Int32) ≤ p1 then
    some (-1 : Int32)
  else
    gd (ix p1 200) <|
    some (tape_ p1.toNatClampNeg)
def f4_sortAt (length_ : Int32) (tape_ : (Nat → Int32)) (p1 : Int32) : Option (Int32) :=
  Option.bind (f4_byteAt length_ tape_ p1) fun (v1 : Int32) =>
  jn (
    if v1 < (48 : Int32) then
      some (3 : Int32)
    else
    if (57 : Int32) < v1 then
      some (3 : Int32)
    else
      some (2 : Int32)) fun (J2 : Option (Int32)) =>
  if v1 < (97 : Int32) then
    J2
  else
  if (122 : Int32) < v1 then
    J2
  else
    some (1 : Int32)
def f4_isName_L15 (length_ : Int32) (tape_ : (Nat → Int32)) (p1 : Int32) (i : Nat) : Nat → Int32 → (Int32 → Option (Int32)) → Option (Int32)
  | 0, _, _ => none
  | n3 + 1, x1, K2 =>
    if (strLen i) ≤ x1 then
      K2 x1
    else
      Option.bind (f4_byteAt length_ tape_ (p1 + x1)) fun (v4 : Int32) =>
      gd (ix x1 (sLen.getD i 0)) <|
      if v4 = (strCh i x1) then
        f4_isName_L15 length_ tape_ p1 i n3 (x1 + (1 : Int32)) K2
      else
        some (0 : Int32)
def f4_isName (length_ : Int32) (tape_ : (Nat → Int32)) (p1 : Int32) (p2 : Int32) (i : Nat) : Option (Int32) :=
  if (p2 - p1) = (strLen i) then
    jn (fun (x1 : Int32) =>
      some (1 : Int32)) fun (K2 : Int32 → Option (Int32)) =>
    f4_isName_L15 length_ tape_ p1 i FU (0 : Int32) K2
  else
    some (0 : Int32)
def f4_nameToken (length_ : Int32) (tape_ : (Nat → Int32)) (p1 : Int32) (p2 : Int32) : Option (Int32) :=
  Option.bind (f4_isName length_ tape_ p1 p2 0) fun (v1 : Int32) =>
  if v1 = (0 : Int32) then
    Option.bind (f4_isName length_ tape_ p1 p2 1) fun (v2 : Int32) =>
    if v2 = (0 : Int32) then
      Option.bind (f4_isName length_ tape_ p1 p2 2) fun (v3 : Int32) =>
      if v3 = (0 : Int32) then
        Option.bind (f4_isName length_ tape_ p1 p2 3) fun (v4 : Int32) =>
        if v4 = (0 : Int32) then
          Option.bind (f4_isName length_ tape_ p1 p2 4) fun (v5 : Int32) =>
          if v5 = (0 : Int32) then
            Option.bind (f4_isName length_ tape_ p1 p2 5) fun (v6 : Int32) =>
            if v6 = (0 : Int32) then
              Option.bind (f4_isName length_ tape_ p1 p2 6) fun (v7 : Int32) =>
              if v7 = (0 : Int32) then
                Option.bind (f4_isName length_ tape_ p1 p2 7) fun (v8 : Int32) =>
                if v8 = (0 : Int32) then
                  Option.bind (f4_isName length_ tape_ p1 p2 8) fun (v9 : Int32) =>
                  if v9 = (0 : Int32) then
                    Option.bind (f4_isName length_ tape_ p1 p2 9) fun (v10 : Int32) =>
                    if v10 = (0 : Int32) then
                      Option.bind (f4_isName length_ tape_ p1 p2 10) fun (v11 : Int32) =>
                      if v11 = (0 : Int32) then
                        Option.bind (f4_isName length_ tape_ p1 p2 11) fun (v12 : Int32) =>
                        if v12 = (0 : Int32) then
                          some (3005 : Int32)
                        else
                          some (1005 : Int32)
                      else
                        some (1004 : Int32)
                    else
                      some (1003 : Int32)
                  else
                    some (1002 : Int32)
                else
                  some (1001 : Int32)
              else
                some (1000 : Int32)
            else
              some (2003 : Int32)
          else
            some (2004 : Int32)
        else
          some (2005 : Int32)
      else
        some (3000 : Int32)
    else
      some (2010 : Int32)
  else
    some (2011 : Int32)
def f4_numberToken_L16 (length_ : Int32) (tape_ : (Nat → Int32)) (p2 : Int32) : Nat → Int32 → Int32 → (Int32 → Int32 → Option (Int32)) → Option (Int32)
  | 0, _, _, _ => none
  | n4 + 1, x1, x2, K3 =>
    if p2 ≤ x2 then
      K3 x1 x2
    else
      Option.bind (f4_byteAt length_ tape_ x2) fun (v5 : Int32) =>
      f4_numberToken_L16 length_ tape_ p2 n4 (((x1 * (10 : Int32)) + v5) - (48 : Int32)) (x2 + (1 : Int32)) K3
def f4_numberToken (length_ : Int32) (tape_ : (Nat → Int32)) (p1 : Int32) (p2 : Int32) : Option (Int32) :=
  if (p2 - p1) ≤ (3 : Int32) then
    jn (fun (x1 : Int32) (x2 : Int32) =>
      some x1) fun (K3 : Int32 → Int32 → Option (Int32)) =>
    f4_numberToken_L16 length_ tape_ p2 FU (0 : Int32) p1 K3
  else
    some (3005 : Int32)
def f4_tokenOf (length_ : Int32) (tape_ : (Nat → Int32)) (p1 : Int32) (p2 : Int32) (p3 : Int32) : Option (Int32) :=
  if p1 = (1 : Int32) then
    Option.bind (f4_nameToken length_ tape_ p2 p3) fun (v10 : Int32) =>
    some v10
  else
  if p1 = (2 : Int32) then
    Option.bind (f4_numberToken length_ tape_ p2 p3) fun (v8 : Int32) =>
    some v8
  else
    Option.bind (f4_byteAt length_ tape_ p2) fun (v1 : Int32) =>
    if v1 = (40 : Int32) then
      some (3001 : Int32)
    else
    if v1 = (41 : Int32) then
      some (3002 : Int32)
    else
    if v1 = (59 : Int32) then
      some (3003 : Int32)
    else
    if v1 = (60 : Int32) then
      some (2000 : Int32)
    else
    if v1 = (61 : Int32) then
      some (2001 : Int32)
    else
    if v1 = (62 : Int32) then
      some (2002 : Int32)
    else
      some (3005 : Int32)
def f4_addToken (count_ : Int32) (starts_ : (Nat → Int32)) (tokens_ : (Nat → Int32)) (p1 : Int32) (p2 : Int32) : Option (Int32 × (Nat → Int32) × (Nat → Int32)) :=
  if count_ ≤ (200 : Int32) then
    gd (ix count_ 201) <|
    gd (ix count_ 201) <|
    some ((count_ + (1 : Int32)), (upd starts_ count_.toNatClampNeg p2), (upd tokens_ count_.toNatClampNeg p1))
  else
    some (count_, starts_, tokens_)
def f4_cut_L25 (length_ : Int32) (tape_ : (Nat → Int32)) (v7 : Int32) : Nat → Int32 → (Int32 → Option (Int32 × (Nat → Int32) × (Nat → Int32))) → Option (Int32 × (Nat → Int32) × (Nat → Int32))
  | 0, _, _ => none
  | n10 + 1, x8, K9 =>
    if length_ ≤ x8 then
      K9 x8
    else
    if v7 = (3 : Int32) then
      K9 x8
    else
      Option.bind (f4_sortAt length_ tape_ x8) fun (v11 : Int32) =>
      if v11 = v7 then
        f4_cut_L25 length_ tape_ v7 n10 (x8 + (1 : Int32)) K9
      else
        K9 x8
def f4_cut_L7 (length_ : Int32) (tape_ : (Nat → Int32)) : Nat → Int32 → Int32 → (Nat → Int32) → (Nat → Int32) → (Int32 → Int32 → (Nat → Int32) → (Nat → Int32) → Option (Int32 × (Nat → Int32) × (Nat → Int32))) → Option (Int32 × (Nat → Int32) × (Nat → Int32))
  | 0, _, _, _, _, _ => none
  | n6 + 1, x1, c2, c3, c4, K5 =>
    if length_ ≤ x1 then
      K5 x1 c2 c3 c4
    else
      Option.bind (f4_sortAt length_ tape_ x1) fun (v7 : Int32) =>
      jn (fun (x8 : Int32) =>
        Option.bind (f4_byteAt length_ tape_ x1) fun (v15 : Int32) =>
        jn (fun (c17 : Int32) (c18 : (Nat → Int32)) (c19 : (Nat → Int32)) =>
          f4_cut_L7 length_ tape_ n6 x8 c17 c18 c19 K5) fun (J16 : Int32 → (Nat → Int32) → (Nat → Int32) → Option (Int32 × (Nat → Int32) × (Nat → Int32))) =>
        if v15 = (32 : Int32) then
          J16 c2 c3 c4
        else
          Option.bind (f4_tokenOf length_ tape_ v7 x1 x8) fun (v20 : Int32) =>
          bn3 (f4_addToken c2 c3 c4 v20 x1) fun (c21 : Int32) (c22 : (Nat → Int32)) (c23 : (Nat → Int32)) =>
          J16 c21 c22 c23) fun (K9 : Int32 → Option (Int32 × (Nat → Int32) × (Nat → Int32))) =>
      f4_cut_L25 length_ tape_ v7 FU (x1 + (1 : Int32)) K9
def f4_cut (count_ : Int32) (length_ : Int32) (starts_ : (Nat → Int32)) (tape_ : (Nat → Int32)) (tokens_ : (Nat → Int32)) : Option (Int32 × (Nat → Int32) × (Nat → Int32)) :=
  jn (fun (x1 : Int32) (c2 : Int32) (c3 : (Nat → Int32)) (c4 : (Nat → Int32)) =>
    bn3 (f4_addToken c2 c3 c4 (3004 : Int32) length_) fun (c26 : Int32) (c27 : (Nat → Int32)) (c28 : (Nat → Int32)) =>
    some (c26, c27, c28)) fun (K5 : Int32 → Int32 → (Nat → Int32) → (Nat → Int32) → Option (Int32 × (Nat → Int32) × (Nat → Int32))) =>
  f4_cut_L7 length_ tape_ FU (0 : Int32) (0 : Int32) starts_ tokens_ K5
def f4_here (at_ : Int32) (count_ : Int32) (tokens_ : (Nat → Int32)) : Option (Int32) :=
  if at_ < (0 : Int32) then
    some (3004 : Int32)
  else
  if count_ ≤ at_ then
    some (3004 : Int32)
  else
    gd (ix at_ 201) <|
    some (tokens_ at_.toNatClampNeg)
def f4_refuse (at_ : Int32) (count_ : Int32) (fault_ : Int32) (length_ : Int32) (starts_ : (Nat → Int32)) : Option (Int32 × Int32) :=
  jn (fun (s2 : Int32) =>
    some ((0 : Int32), s2)) fun (J1 : Int32 → Option (Int32 × Int32)) =>
  jn (
    J1 length_) fun (J3 : Option (Int32 × Int32)) =>
  if at_ < (0 : Int32) then
    J3
  else
  if count_ ≤ at_ then
    J3
  else
    gd (ix at_ 201) <|
    J1 (starts_ at_.toNatClampNeg)
def f6_emit (count_ : Int32) (codes_ : (Nat → Int32)) (p1 : Int32) : Option (Int32 × (Nat → Int32)) :=
  if (210 : Int32) ≤ count_ then
    some (count_, codes_)
  else
    gd (ix count_ 210) <|
    some ((count_ + (1 : Int32)), (upd codes_ count_.toNatClampNeg p1))
def f4_isValue (p0 : Int32) : Option (Int32) :=
  if p0 < (0 : Int32) then
    some (0 : Int32)
  else
  if (2000 : Int32) ≤ p0 then
    some (0 : Int32)
  else
    some (1 : Int32)
def f4_readComparison (at_ : Int32) (count_ : Int32) (draft_count_ : Int32) (fault_ : Int32) (length_ : Int32) (draft_codes_ : (Nat → Int32)) (starts_ : (Nat → Int32)) (tokens_ : (Nat → Int32)) : Option (Int32 × Int32 × Int32 × Int32 × (Nat → Int32)) :=
  Option.bind (f4_here at_ count_ tokens_) fun (v1 : Int32) =>
  Option.bind (f4_isValue v1) fun (v2 : Int32) =>
  if v2 = (0 : Int32) then
    bn2 (f4_refuse at_ count_ fault_ length_ starts_) fun (v23 : Int32) (c24 : Int32) =>
    gd (bz v23) <|
    some (v23, at_, draft_count_, c24, draft_codes_)
  else
    Option.bind (f4_here (at_ + (1 : Int32)) count_ tokens_) fun (v3 : Int32) =>
    jn (
      Option.bind (f4_here ((at_ + (1 : Int32)) + (1 : Int32)) count_ tokens_) fun (v5 : Int32) =>
      Option.bind (f4_isValue v5) fun (v6 : Int32) =>
      if v6 = (0 : Int32) then
        bn2 (f4_refuse ((at_ + (1 : Int32)) + (1 : Int32)) count_ fault_ length_ starts_) fun (v13 : Int32) (c14 : Int32) =>
        gd (bz v13) <|
        some (v13, ((at_ + (1 : Int32)) + (1 : Int32)), draft_count_, c14, draft_codes_)
      else
        bn2 (f6_emit draft_count_ draft_codes_ v1) fun (c7 : Int32) (c8 : (Nat → Int32)) =>
        bn2 (f6_emit c7 c8 v5) fun (c9 : Int32) (c10 : (Nat → Int32)) =>
        bn2 (f6_emit c9 c10 v3) fun (c11 : Int32) (c12 : (Nat → Int32)) =>
        some ((1 : Int32), (((at_ + (1 : Int32)) + (1 : Int32)) + (1 : Int32)), c11, fault_, c12)) fun (J4 : Option (Int32 × Int32 × Int32 × Int32 × (Nat → Int32))) =>
    if v3 = (2000 : Int32) then
      J4
    else
    if v3 = (2001 : Int32) then
      J4
    else
    if v3 = (2002 : Int32) then
      J4
    else
      bn2 (f4_refuse (at_ + (1 : Int32)) count_ fault_ length_ starts_) fun (v17 : Int32) (c18 : Int32) =>
      gd (bz v17) <|
      some (v17, (at_ + (1 : Int32)), draft_count_, c18, draft_codes_)
def f4_readBracket (rc : Int32 → Int32 → Int32 → Int32 → Int32 → (Nat → Int32) → (Nat → Int32) → (Nat → Int32) → Int32 → Option (Int32 × Int32 × Int32 × Int32 × (Nat → Int32))) (at_ : Int32) (count_ : Int32) (draft_count_ : Int32) (fault_ : Int32) (length_ : Int32) (draft_codes_ : (Nat → Int32)) (starts_ : (Nat → Int32)) (tokens_ : (Nat → Int32)) (p1 : Int32) : Option (Int32 × Int32 × Int32 × Int32 × (Nat → Int32)) :=
  if p1 < (3 : Int32) then
    bn5 (rc (at_ + (1 : Int32)) count_ draft_count_ fault_ length_ draft_codes_ starts_ tokens_ (p1 + (1 : Int32))) fun (v1 : Int32) (c2 : Int32) (c3 : Int32) (c4 : Int32) (c5 : (Nat → Int32)) =>
    if v1 = (0 : Int32) then
      some ((0 : Int32), c2, c3, c4, c5)
    else
      Option.bind (f4_here c2 count_ tokens_) fun (v6 : Int32) =>
      if v6 = (3002 : Int32) then
        some ((1 : Int32), (c2 + (1 : Int32)), c3, c4, c5)
      else
        bn2 (f4_refuse c2 count_ c4 length_ starts_) fun (v7 : Int32) (c8 : Int32) =>
        gd (bz v7) <|
        some (v7, c2, c3, c8, c5)
  else
    bn2 (f4_refuse at_ count_ fault_ length_ starts_) fun (v12 : Int32) (c13 : Int32) =>
    gd (bz v12) <|
    some (v12, at_, draft_count_, c13, draft_codes_)
def f4_readOne_L4 (rc : Int32 → Int32 → Int32 → Int32 → Int32 → (Nat → Int32) → (Nat → Int32) → (Nat → Int32) → Int32 → Option (Int32 × Int32 × Int32 × Int32 × (Nat → Int32))) (count_ : Int32) (tokens_ : (Nat → Int32)) : Nat → Int32 → Int32 → Int32 → (Int32 → Int32 → Int32 → Option (Int32 × Int32 × Int32 × Int32 × (Nat → Int32))) → Option (Int32 × Int32 × Int32 × Int32 × (Nat → Int32))
  | 0, _, _, _, _ => none
  | n5 + 1, x1, x2, c3, K4 =>
    if (200 : Int32) ≤ x2 then
      K4 x1 x2 c3
    else
      Option.bind (f4_here c3 count_ tokens_) fun (v6 : Int32) =>
      if v6 = (2003 : Int32) then
        jn (fun (s8 : Int32) =>
          f4_readOne_L4 rc count_ tokens_ n5 s8 (x2 + (1 : Int32)) (c3 + (1 : Int32)) K4) fun (J7 : Int32 → Option (Int32 × Int32 × Int32 × Int32 × (Nat → Int32))) =>
        if x1 = (0 : Int32) then
          J7 (1 : Int32)
        else
          J7 (0 : Int32)
      else
        K4 x1 x2 c3
def f4_readOne (rc : Int32 → Int32 → Int32 → Int32 → Int32 → (Nat → Int32) → (Nat → Int32) → (Nat → Int32) → Int32 → Option (Int32 × Int32 × Int32 × Int32 × (Nat → Int32))) (at_ : Int32) (count_ : Int32) (draft_count_ : Int32) (fault_ : Int32) (length_ : Int32) (draft_codes_ : (Nat → Int32)) (starts_ : (Nat → Int32)) (tokens_ : (Nat → Int32)) (p1 : Int32) : Option (Int32 × Int32 × Int32 × Int32 × (Nat → Int32)) :=
  jn (fun (x1 : Int32) (x2 : Int32) (c3 : Int32) =>
    Option.bind (f4_here c3 count_ tokens_) fun (v12 : Int32) =>
    jn (fun (s14 : Int32) (c15 : Int32) (c16 : Int32) (c17 : Int32) (c18 : (Nat → Int32)) =>
      if s14 = (0 : Int32) then
        gd (bz s14) <|
        some (s14, c15, c16, c17, c18)
      else
      if x1 = (0 : Int32) then
        gd (bz s14) <|
        some (s14, c15, c16, c17, c18)
      else
        bn2 (f6_emit c16 c18 (2003 : Int32)) fun (c21 : Int32) (c22 : (Nat → Int32)) =>
        gd (bz s14) <|
        some (s14, c15, c21, c17, c22)) fun (J13 : Int32 → Int32 → Int32 → Int32 → (Nat → Int32) → Option (Int32 × Int32 × Int32 × Int32 × (Nat → Int32))) =>
    if v12 = (3001 : Int32) then
      bn5 (f4_readBracket rc c3 count_ draft_count_ fault_ length_ draft_codes_ starts_ tokens_ p1) fun (v31 : Int32) (c32 : Int32) (c33 : Int32) (c34 : Int32) (c35 : (Nat → Int32)) =>
      J13 v31 c32 c33 c34 c35
    else
      bn5 (f4_readComparison c3 count_ draft_count_ fault_ length_ draft_codes_ starts_ tokens_) fun (v26 : Int32) (c27 : Int32) (c28 : Int32) (c29 : Int32) (c30 : (Nat → Int32)) =>
      J13 v26 c27 c28 c29 c30) fun (K4 : Int32 → Int32 → Int32 → Option (Int32 × Int32 × Int32 × Int32 × (Nat → Int32))) =>
  f4_readOne_L4 rc count_ tokens_ FU (0 : Int32) (0 : Int32) at_ K4
def f4_readAll_L12 (rc : Int32 → Int32 → Int32 → Int32 → Int32 → (Nat → Int32) → (Nat → Int32) → (Nat → Int32) → Int32 → Option (Int32 × Int32 × Int32 × Int32 × (Nat → Int32))) (count_ : Int32) (length_ : Int32) (starts_ : (Nat → Int32)) (tokens_ : (Nat → Int32)) (p1 : Int32) : Nat → Int32 → Int32 → Int32 → Int32 → (Nat → Int32) → (Int32 → Int32 → Int32 → Int32 → (Nat → Int32) → Option (Int32 × Int32 × Int32 × Int32 × (Nat → Int32))) → Option (Int32 × Int32 × Int32 × Int32 × (Nat → Int32))
  | 0, _, _, _, _, _, _ => none
  | n12 + 1, x6, c7, c8, c9, c10, K11 =>
    if (200 : Int32) ≤ x6 then
      K11 x6 c7 c8 c9 c10
    else
      Option.bind (f4_here c7 count_ tokens_) fun (v13 : Int32) =>
      if v13 = (2004 : Int32) then
        bn5 (f4_readOne rc (c7 + (1 : Int32)) count_ c8 c9 length_ c10 starts_ tokens_ p1) fun (v14 : Int32) (c15 : Int32) (c16 : Int32) (c17 : Int32) (c18 : (Nat → Int32)) =>
        if v14 = (0 : Int32) then
          some ((0 : Int32), c15, c16, c17, c18)
        else
          bn2 (f6_emit c16 c18 (2004 : Int32)) fun (c19 : Int32) (c20 : (Nat → Int32)) =>
          f4_readAll_L12 rc count_ length_ starts_ tokens_ p1 n12 (x6 + (1 : Int32)) c15 c19 c17 c20 K11
      else
        K11 x6 c7 c8 c9 c10
def f4_readAll (rc : Int32 → Int32 → Int32 → Int32 → Int32 → (Nat → Int32) → (Nat → Int32) → (Nat → Int32) → Int32 → Option (Int32 × Int32 × Int32 × Int32 × (Nat → Int32))) (at_ : Int32) (count_ : Int32) (draft_count_ : Int32) (fault_ : Int32) (length_ : Int32) (draft_codes_ : (Nat → Int32)) (starts_ : (Nat → Int32)) (tokens_ : (Nat → Int32)) (p1 : Int32) : Option (Int32 × Int32 × Int32 × Int32 × (Nat → Int32)) :=
  bn5 (f4_readOne rc at_ count_ draft_count_ fault_ length_ draft_codes_ starts_ tokens_ p1) fun (v1 : Int32) (c2 : Int32) (c3 : Int32) (c4 : Int32) (c5 : (Nat → Int32)) =>
  if v1 = (0 : Int32) then
    some ((0 : Int32), c2, c3, c4, c5)
  else
    jn (fun (x6 : Int32) (c7 : Int32) (c8 : Int32) (c9 : Int32) (c10 : (Nat → Int32)) =>
      some ((1 : Int32), c7, c8, c9, c10)) fun (K11 : Int32 → Int32 → Int32 → Int32 → (Nat → Int32) → Option (Int32 × Int32 × Int32 × Int32 × (Nat → Int32))) =>
    f4_readAll_L12 rc count_ length_ starts_ tokens_ p1 FU (0 : Int32) c2 c3 c4 c5 K11
def f4_readCond_L12 (rc : Int32 → Int32 → Int32 → Int32 → Int32 → (Nat → Int32) → (Nat → Int32) → (Nat → Int32) → Int32 → Option (Int32 × Int32 × Int32 × Int32 × (Nat → Int32))) (count_ : Int32) (length_ : Int32) (starts_ : (Nat → Int32)) (tokens_ : (Nat → Int32)) (p1 : Int32) : Nat → Int32 → Int32 → Int32 → Int32 → (Nat → Int32) → (Int32 → Int32 → Int32 → Int32 → (Nat → Int32) → Option (Int32 × Int32 × Int32 × Int32 × (Nat → Int32))) → Option (Int32 × Int32 × Int32 × Int32 × (Nat → Int32))
  | 0, _, _, _, _, _, _ => none
  | n12 + 1, x6, c7, c8, c9, c10, K11 =>
    if (200 : Int32) ≤ x6 then
      K11 x6 c7 c8 c9 c10
    else
      Option.bind (f4_here c7 count_ tokens_) fun (v13 : Int32) =>
      if v13 = (2005 : Int32) then
        bn5 (f4_readAll rc (c7 + (1 : Int32)) count_ c8 c9 length_ c10 starts_ tokens_ p1) fun (v14 : Int32) (c15 : Int32) (c16 : Int32) (c17 : Int32) (c18 : (Nat → Int32)) =>
        if v14 = (0 : Int32) then
          some ((0 : Int32), c15, c16, c17, c18)
        else
          bn2 (f6_emit c16 c18 (2005 : Int32)) fun (c19 : Int32) (c20 : (Nat → Int32)) =>
          f4_readCond_L12 rc count_ length_ starts_ tokens_ p1 n12 (x6 + (1 : Int32)) c15 c19 c17 c20 K11
      else
        K11 x6 c7 c8 c9 c10
def f4_readCond_ (rc : Int32 → Int32 → Int32 → Int32 → Int32 → (Nat → Int32) → (Nat → Int32) → (Nat → Int32) → Int32 → Option (Int32 × Int32 × Int32 × Int32 × (Nat → Int32))) (at_ : Int32) (count_ : Int32) (draft_count_ : Int32) (fault_ : Int32) (length_ : Int32) (draft_codes_ : (Nat → Int32)) (starts_ : (Nat → Int32)) (tokens_ : (Nat → Int32)) (p1 : Int32) : Option (Int32 × Int32 × Int32 × Int32 × (Nat → Int32)) :=
  bn5 (f4_readAll rc at_ count_ draft_count_ fault_ length_ draft_codes_ starts_ tokens_ p1) fun (v1 : Int32) (c2 : Int32) (c3 : Int32) (c4 : Int32) (c5 : (Nat → Int32)) =>
  if v1 = (0 : Int32) then
    some ((0 : Int32), c2, c3, c4, c5)
  else
    jn (fun (x6 : Int32) (c7 : Int32) (c8 : Int32) (c9 : Int32) (c10 : (Nat → Int32)) =>
      some ((1 : Int32), c7, c8, c9, c10)) fun (K11 : Int32 → Int32 → Int32 → Int32 → (Nat → Int32) → Option (Int32 × Int32 × Int32 × Int32 × (Nat → Int32))) =>
    f4_readCond_L12 rc count_ length_ starts_ tokens_ p1 FU (0 : Int32) c2 c3 c4 c5 K11
def f4_readCond : Nat → Int32 → Int32 → Int32 → Int32 → Int32 → (Nat → Int32) → (Nat → Int32) → (Nat → Int32) → Int32 → Option (Int32 × Int32 × Int32 × Int32 × (Nat → Int32))
  | 0, _, _, _, _, _, _, _, _, _ => none
  | n + 1, a0, a1, a2, a3, a4, a5, a6, a7, a8 => f4_readCond_ (f4_readCond n) a0 a1 a2 a3 a4 a5 a6 a7 a8
def f4_readClause (at_ : Int32) (count_ : Int32) (draft_clauses_ : Int32) (draft_count_ : Int32) (fault_ : Int32) (length_ : Int32) (draft_codes_ : (Nat → Int32)) (starts_ : (Nat → Int32)) (tokens_ : (Nat → Int32)) : Option (Int32 × Int32 × Int32 × Int32 × Int32 × (Nat → Int32)) :=
  Option.bind (f4_here at_ count_ tokens_) fun (v1 : Int32) =>
  jn (
    Option.bind (f4_here (at_ + (1 : Int32)) count_ tokens_) fun (v3 : Int32) =>
    jn (fun (s5 : Int32) =>
      jn (fun (c7 : Int32) (c8 : Int32) (c9 : Int32) (c10 : (Nat → Int32)) =>
        Option.bind (f4_here c7 count_ tokens_) fun (v11 : Int32) =>
        if v11 = (3003 : Int32) then
          jn (fun (c13 : Int32) (c14 : (Nat → Int32)) =>
            some ((1 : Int32), (c7 + (1 : Int32)), (draft_clauses_ + (1 : Int32)), c13, c9, c14)) fun (J12 : Int32 → (Nat → Int32) → Option (Int32 × Int32 × Int32 × Int32 × Int32 × (Nat → Int32))) =>
          if s5 = (0 : Int32) then
            bn2 (f6_emit c8 c10 v1) fun (c15 : Int32) (c16 : (Nat → Int32)) =>
            J12 c15 c16
          else
            jn (fun (s18 : Int32) =>
              bn2 (f6_emit c8 c10 s18) fun (c19 : Int32) (c20 : (Nat → Int32)) =>
              J12 c19 c20) fun (J17 : Int32 → Option (Int32 × Int32 × Int32 × Int32 × Int32 × (Nat → Int32))) =>
            if v1 = (2011 : Int32) then
              J17 (2013 : Int32)
            else
              J17 (2012 : Int32)
        else
          bn2 (f4_refuse c7 count_ c9 length_ starts_) fun (v23 : Int32) (c24 : Int32) =>
          gd (bz v23) <|
          some (v23, c7, draft_clauses_, c8, c24, c10)) fun (J6 : Int32 → Int32 → Int32 → (Nat → Int32) → Option (Int32 × Int32 × Int32 × Int32 × Int32 × (Nat → Int32))) =>
      if s5 = (0 : Int32) then
        J6 (at_ + (1 : Int32)) draft_count_ fault_ draft_codes_
      else
        bn5 (f4_readCond 10 ((at_ + (1 : Int32)) + (1 : Int32)) count_ draft_count_ fault_ length_ draft_codes_ starts_ tokens_ (0 : Int32)) fun (v27 : Int32) (c28 : Int32) (c29 : Int32) (c30 : Int32) (c31 : (Nat → Int32)) =>
        if v27 = (0 : Int32) then
          some ((0 : Int32), c28, draft_clauses_, c29, c30, c31)
        else
          J6 c28 c29 c30 c31) fun (J4 : Int32 → Option (Int32 × Int32 × Int32 × Int32 × Int32 × (Nat → Int32))) =>
    if v3 = (3000 : Int32) then
      J4 (1 : Int32)
    else
      J4 (0 : Int32)) fun (J2 : Option (Int32 × Int32 × Int32 × Int32 × Int32 × (Nat → Int32))) =>
  if v1 = (2011 : Int32) then
    J2
  else
  if v1 = (2010 : Int32) then
    J2
  else
    bn2 (f4_refuse at_ count_ fault_ length_ starts_) fun (v35 : Int32) (c36 : Int32) =>
    gd (bz v35) <|
    some (v35, at_, draft_clauses_, draft_count_, c36, draft_codes_)
def f4_readText_L32 (length_ : Int32) (c1 : Int32) (c2 : (Nat → Int32)) (c3 : (Nat → Int32)) : Nat → Int32 → Int32 → Int32 → Int32 → Int32 → (Nat → Int32) → (Int32 → Int32 → Int32 → Int32 → Int32 → (Nat → Int32) → Option (Int32 × Int32 × Int32 × Int32 × Int32 × Int32 × (Nat → Int32) × (Nat → Int32) × (Nat → Int32))) → Option (Int32 × Int32 × Int32 × Int32 × Int32 × Int32 × (Nat → Int32) × (Nat → Int32) × (Nat → Int32))
  | 0, _, _, _, _, _, _, _ => none
  | n11 + 1, x4, c5, c6, c7, c8, c9, K10 =>
    if (8 : Int32) ≤ x4 then
      K10 x4 c5 c6 c7 c8 c9
    else
      Option.bind (f4_here c5 c1 c3) fun (v12 : Int32) =>
      if v12 = (3004 : Int32) then
        K10 x4 c5 c6 c7 c8 c9
      else
        bn6 (f4_readClause c5 c1 c6 c7 c8 length_ c9 c2 c3) fun (v13 : Int32) (c14 : Int32) (c15 : Int32) (c16 : Int32) (c17 : Int32) (c18 : (Nat → Int32)) =>
        if v13 = (0 : Int32) then
          some ((0 : Int32), c14, c1, c15, c16, c17, c18, c2, c3)
        else
          f4_readText_L32 length_ c1 c2 c3 n11 (x4 + (1 : Int32)) c14 c15 c16 c17 c18 K10
def f4_readText (at_ : Int32) (count_ : Int32) (draft_clauses_ : Int32) (draft_count_ : Int32) (fault_ : Int32) (length_ : Int32) (draft_codes_ : (Nat → Int32)) (starts_ : (Nat → Int32)) (tape_ : (Nat → Int32)) (tokens_ : (Nat → Int32)) : Option (Int32 × Int32 × Int32 × Int32 × Int32 × Int32 × (Nat → Int32) × (Nat → Int32) × (Nat → Int32)) :=
  bn3 (f4_cut count_ length_ starts_ tape_ tokens_) fun (c1 : Int32) (c2 : (Nat → Int32)) (c3 : (Nat → Int32)) =>
  jn (fun (x4 : Int32) (c5 : Int32) (c6 : Int32) (c7 : Int32) (c8 : Int32) (c9 : (Nat → Int32)) =>
    Option.bind (f4_here c5 c1 c3) fun (v22 : Int32) =>
    if v22 = (3004 : Int32) then
      some ((1 : Int32), c5, c1, c6, c7, c8, c9, c2, c3)
    else
      bn2 (f4_refuse c5 c1 c8 length_ c2) fun (v23 : Int32) (c24 : Int32) =>
      if v23 = (0 : Int32) then
        some ((0 : Int32), c5, c1, c6, c7, c24, c9, c2, c3)
      else
        some ((1 : Int32), c5, c1, c6, c7, c24, c9, c2, c3)) fun (K10 : Int32 → Int32 → Int32 → Int32 → Int32 → (Nat → Int32) → Option (Int32 × Int32 × Int32 × Int32 × Int32 × Int32 × (Nat → Int32) × (Nat → Int32) × (Nat → Int32))) =>
  f4_readText_L32 length_ c1 c2 c3 FU (0 : Int32) (0 : Int32) (0 : Int32) (0 : Int32) (0 : Int32) draft_codes_ K10
def f8_rules (book_rules_clauses_ : Int32) (book_rules_count_ : Int32) (reader_at_ : Int32) (reader_count_ : Int32) (reader_draft_clauses_ : Int32) (reader_draft_count_ : Int32) (reader_fault_ : Int32) (reader_length_ : Int32) (book_rules_codes_ : (Nat → Int32)) (reader_draft_codes_ : (Nat → Int32)) (reader_starts_ : (Nat → Int32)) (reader_tape_ : (Nat → Int32)) (reader_tokens_ : (Nat → Int32)) : Option (Int32 × Int32 × Int32 × Int32 × Int32 × Int32 × Int32 × Int32 × Int32 × (Nat → Int32) × (Nat → Int32) × (Nat → Int32) × (Nat → Int32)) :=
  bn9 (f4_readText reader_at_ reader_count_ reader_draft_clauses_ reader_draft_count_ reader_fault_ reader_length_ reader_draft_codes_ reader_starts_ reader_tape_ reader_tokens_) fun (v1 : Int32) (c2 : Int32) (c3 : Int32) (c4 : Int32) (c5 : Int32) (c6 : Int32) (c7 : (Nat → Int32)) (c8 : (Nat → Int32)) (c9 : (Nat → Int32)) =>
  if v1 = (0 : Int32) then
    some (((-100 : Int32) - c6), book_rules_clauses_, book_rules_count_, c2, c3, c4, c5, c6, (0 : Int32), book_rules_codes_, c7, c8, c9)
  else
    bn3 (f6_copyFrom c4 c5 book_rules_clauses_ book_rules_count_ c7 book_rules_codes_) fun (c10 : Int32) (c11 : Int32) (c12 : (Nat → Int32)) =>
    some (c10, c10, c11, c2, c3, c4, c5, c6, (0 : Int32), c12, c7, c8, c9)
def f8_says (book_claims_ : Int32) (book_people_ : Int32) (book_rules_asking_ : Int32) (book_rules_count_ : Int32) (book_rules_height_ : Int32) (book_facts_ : (Nat → Int32)) (book_hubs_ : (Nat → Int32)) (book_laws_ : (Nat → Int32)) (book_ones_ : (Nat → Int32)) (book_rules_codes_ : (Nat → Int32)) (book_rules_stack_ : (Nat → Int32)) (book_seats_ : (Nat → Int32)) (ruleFacts_ : (Nat → Int32)) (p1 : Int32) : Option (Int32 × Int32 × Int32 × (Nat → Int32) × (Nat → Int32)) :=
  Option.bind (f0_isClaim book_claims_ p1) fun (v1 : Int32) =>
  if v1 = (0 : Int32) then
    some ((-1 : Int32), book_rules_asking_, book_rules_height_, book_rules_stack_, ruleFacts_)
  else
    bn5 (f8_asks book_claims_ book_people_ book_rules_asking_ book_rules_count_ book_rules_height_ book_facts_ book_hubs_ book_laws_ book_ones_ book_rules_codes_ book_rules_stack_ book_seats_ ruleFacts_ p1) fun (v2 : Int32) (c3 : Int32) (c4 : Int32) (c5 : (Nat → Int32)) (c6 : (Nat → Int32)) =>
    if v2 = (0 : Int32) then
      some ((0 : Int32), c3, c4, c5, c6)
    else
      some ((1 : Int32), c3, c4, c5, c6)
def f8_score (book_claims_ : Int32) (book_people_ : Int32) (book_facts_ : (Nat → Int32)) (book_hubs_ : (Nat → Int32)) (book_laws_ : (Nat → Int32)) (book_ones_ : (Nat → Int32)) (book_seats_ : (Nat → Int32)) (ties_scores_ : (Nat → Int32)) (ties_strengths_ : (Nat → Int32)) (p1 : Int32) : Option (Int32 × (Nat → Int32) × (Nat → Int32)) :=
  Option.bind (f0_allClaims book_claims_) fun (v1 : Int32) =>
  if (p1 &&& (v1 ^^^ (-1 : Int32))) = (0 : Int32) then
    bn2 (f7_scoreSets book_claims_ book_people_ book_facts_ book_hubs_ book_laws_ book_ones_ book_seats_ ties_scores_ ties_strengths_ (-1 : Int32)) fun (c2 : (Nat → Int32)) (c3 : (Nat → Int32)) =>
    Option.bind (f7_scoreOf c2 p1) fun (v4 : Int32) =>
    some ((v4 + (100000 : Int32)), c2, c3)
  else
    some ((-1 : Int32), ties_scores_, ties_strengths_)
def f8_seat (book_claims_ : Int32) (book_people_ : Int32) (book_ones_ : (Nat → Int32)) (book_seats_ : (Nat → Int32)) (p1 : Int32) (p2 : Int32) (p3 : Int32) : Option (Int32 × (Nat → Int32)) :=
  Option.bind (f0_isClaim book_claims_ p1) fun (v1 : Int32) =>
  if v1 = (0 : Int32) then
    some ((-1 : Int32), book_seats_)
  else
  if p2 < (0 : Int32) then
    some ((-1 : Int32), book_seats_)
  else
  if p2 < (4 : Int32) then
    jn (
      jn (
        Option.bind (f0_sitter book_claims_ book_seats_ p1 p2) fun (v4 : Int32) =>
        jn (fun (s6 : Int32) =>
          gd (ix ((p1 * (4 : Int32)) + p2) 36) <|
          some (v4, (upd book_seats_ ((p1 * (4 : Int32)) + p2).toNatClampNeg s6))) fun (J5 : Int32 → Option (Int32 × (Nat → Int32))) =>
        if p3 = (-1 : Int32) then
          J5 (-9 : Int32)
        else
          J5 p3) fun (J3 : Option (Int32 × (Nat → Int32))) =>
      if p3 = (-1 : Int32) then
        J3
      else
        gd (ix p3 10) <|
        Option.bind (f0_isElsewhere book_claims_ book_people_ book_ones_ book_seats_ p1 p2 (book_ones_ p3.toNatClampNeg)) fun (v10 : Int32) =>
        if v10 = (0 : Int32) then
          J3
        else
          some ((-4 : Int32), book_seats_)) fun (J2 : Option (Int32 × (Nat → Int32))) =>
    if p3 = (-1 : Int32) then
      J2
    else
      Option.bind (f0_isPerson book_people_ p3) fun (v13 : Int32) =>
      if v13 = (0 : Int32) then
        some ((-1 : Int32), book_seats_)
      else
        J2
  else
    some ((-1 : Int32), book_seats_)
def f8_seed (book_z_ : Int32) (p1 : Int32) : Option (Int32 × Int32) :=
  some (book_z_, p1)
def f7_lastDay_L4 (claims_ : Int32) (facts_ : (Nat → Int32)) (p1 : Int32) : Nat → Int32 → Int32 → (Int32 → Int32 → Option (Int32)) → Option (Int32)
  | 0, _, _, _ => none
  | n4 + 1, x1, x2, K3 =>
    if claims_ ≤ x2 then
      K3 x1 x2
    else
      jn (fun (y6 : Int32) =>
        f7_lastDay_L4 claims_ facts_ p1 n4 y6 (x2 + (1 : Int32)) K3) fun (J5 : Int32 → Option (Int32)) =>
      if ((p1 >>> (x2 &&& 31)) &&& (1 : Int32)) = (0 : Int32) then
        J5 x1
      else
        Option.bind (f0_fact claims_ facts_ x2 (1 : Int32)) fun (v7 : Int32) =>
        J5 (if x1 < v7 then v7 else x1)
def f7_lastDay (claims_ : Int32) (facts_ : (Nat → Int32)) (p1 : Int32) : Option (Int32) :=
  jn (fun (x1 : Int32) (x2 : Int32) =>
    some x1) fun (K3 : Int32 → Int32 → Option (Int32)) =>
  f7_lastDay_L4 claims_ facts_ p1 FU (0 : Int32) (0 : Int32) K3
def f7_firstDay_L12 (claims_ : Int32) (facts_ : (Nat → Int32)) (p2 : Int32) (c1 : (Nat → Int32)) : Nat → Int32 → Int32 → (Int32 → Int32 → Option (Int32 × (Nat → Int32) × (Nat → Int32))) → Option (Int32 × (Nat → Int32) × (Nat → Int32))
  | 0, _, _, _ => none
  | n6 + 1, x3, x4, K5 =>
    Option.bind (f0_allClaims claims_) fun (v7 : Int32) =>
    if v7 < x4 then
      K5 x3 x4
    else
      Option.bind (fJ6_bitCount_0f7a4 x4) fun (v8 : Int32) =>
      jn (fun (y10 : Int32) =>
        f7_firstDay_L12 claims_ facts_ p2 c1 n6 y10 (x4 + (1 : Int32)) K5) fun (J9 : Int32 → Option (Int32 × (Nat → Int32) × (Nat → Int32))) =>
      if v8 < (2 : Int32) then
        J9 x3
      else
        Option.bind (f7_scoreOf c1 x4) fun (v11 : Int32) =>
        if p2 ≤ v11 then
          Option.bind (f7_lastDay claims_ facts_ x4) fun (v12 : Int32) =>
          jn (
            J9 v12) fun (J13 : Option (Int32 × (Nat → Int32) × (Nat → Int32))) =>
          if x3 = (-3 : Int32) then
            J13
          else
          if x3 ≤ v12 then
            J9 x3
          else
            J13
        else
          J9 x3
def f7_firstDay (claims_ : Int32) (people_ : Int32) (facts_ : (Nat → Int32)) (hubs_ : (Nat → Int32)) (laws_ : (Nat → Int32)) (ones_ : (Nat → Int32)) (seats_ : (Nat → Int32)) (scores_ : (Nat → Int32)) (strengths_ : (Nat → Int32)) (p2 : Int32) : Option (Int32 × (Nat → Int32) × (Nat → Int32)) :=
  bn2 (f7_scoreSets claims_ people_ facts_ hubs_ laws_ ones_ seats_ scores_ strengths_ (-1 : Int32)) fun (c1 : (Nat → Int32)) (c2 : (Nat → Int32)) =>
  jn (fun (x3 : Int32) (x4 : Int32) =>
    some (x3, c1, c2)) fun (K5 : Int32 → Int32 → Option (Int32 × (Nat → Int32) × (Nat → Int32))) =>
  f7_firstDay_L12 claims_ facts_ p2 c1 FU (-3 : Int32) (3 : Int32) K5
def f8_seen (book_claims_ : Int32) (book_people_ : Int32) (book_facts_ : (Nat → Int32)) (book_hubs_ : (Nat → Int32)) (book_laws_ : (Nat → Int32)) (book_ones_ : (Nat → Int32)) (book_seats_ : (Nat → Int32)) (ties_scores_ : (Nat → Int32)) (ties_strengths_ : (Nat → Int32)) (p1 : Int32) : Option (Int32 × (Nat → Int32) × (Nat → Int32)) :=
  if p1 < (-1000 : Int32) then
    some ((-1 : Int32), ties_scores_, ties_strengths_)
  else
  if p1 ≤ (1000 : Int32) then
    bn3 (f7_firstDay book_claims_ book_people_ book_facts_ book_hubs_ book_laws_ book_ones_ book_seats_ ties_scores_ ties_strengths_ p1) fun (v1 : Int32) (c2 : (Nat → Int32)) (c3 : (Nat → Int32)) =>
    some (v1, c2, c3)
  else
    some ((-1 : Int32), ties_scores_, ties_strengths_)
def f8_set (book_laws_ : (Nat → Int32)) (p1 : Int32) (p2 : Int32) : Option (Int32 × (Nat → Int32)) :=
  if p1 < (0 : Int32) then
    some ((-1 : Int32), book_laws_)
  else
  if (7 : Int32) ≤ p1 then
    some ((-1 : Int32), book_laws_)
  else
  if p2 < (0 : Int32) then
    some ((-1 : Int32), book_laws_)
  else
    gd (ix p1 7) <|
    if p2 ≤ (lawMost p1.toNatClampNeg) then
      gd (ix p1 7) <|
      gd (ix p1 7) <|
      some ((book_laws_ p1.toNatClampNeg), (upd book_laws_ p1.toNatClampNeg p2))
    else
      some ((-1 : Int32), book_laws_)
def f1_drop (sorts_ : (Nat → Int32)) (p1 : Int32) : Option ((Nat → Int32)) :=
  Option.bind (f1_isSheet p1) fun (v1 : Int32) =>
  if v1 = (0 : Int32) then
    some sorts_
  else
    gd (ix p1 4) <|
    some (upd sorts_ p1.toNatClampNeg (-1 : Int32))
def f1_lay_L25 (p1 : Int32) : Nat → Int32 → (Nat → Int64) → (Int32 → (Nat → Int64) → Option ((Nat → Int32) × (Nat → Int32) × (Nat → Int64))) → Option ((Nat → Int32) × (Nat → Int32) × (Nat → Int64))
  | 0, _, _, _ => none
  | n7 + 1, x4, c5, K6 =>
    if (40 : Int32) ≤ x4 then
      K6 x4 c5
    else
      gd (ix ((p1 * (40 : Int32)) + x4) 160) <|
      f1_lay_L25 p1 n7 (x4 + (1 : Int32)) (vp_updL c5 ((p1 * (40 : Int32)) + x4).toNatClampNeg (0 : Int64)) K6
def f1_lay (lengths_ : (Nat → Int32)) (sorts_ : (Nat → Int32)) (items_ : (Nat → Int64)) (p1 : Int32) (p2 : Int32) (p3 : Int32) : Option ((Nat → Int32) × (Nat → Int32) × (Nat → Int64)) :=
  Option.bind (f1_isSheet p1) fun (v1 : Int32) =>
  if v1 = (0 : Int32) then
    some (lengths_, sorts_, items_)
  else
    gd (ix p1 4) <|
    gd (ix p1 4) <|
    jn (fun (x4 : Int32) (c5 : (Nat → Int64)) =>
      some ((upd lengths_ p1.toNatClampNeg p3), (upd sorts_ p1.toNatClampNeg p2), c5)) fun (K6 : Int32 → (Nat → Int64) → Option ((Nat → Int32) × (Nat → Int32) × (Nat → Int64))) =>
    f1_lay_L25 p1 FU (0 : Int32) items_ K6
def f8_sheet (host_lengths_ : (Nat → Int32)) (host_sorts_ : (Nat → Int32)) (host_items_ : (Nat → Int64)) (p1 : Int32) (p2 : Int32) (p3 : Int32) : Option (Int32 × (Nat → Int32) × (Nat → Int32) × (Nat → Int64)) :=
  Option.bind (f1_isSheet p1) fun (v1 : Int32) =>
  if v1 = (0 : Int32) then
    some ((-1 : Int32), host_lengths_, host_sorts_, host_items_)
  else
  if p2 < (-1 : Int32) then
    some ((-1 : Int32), host_lengths_, host_sorts_, host_items_)
  else
  if p2 < (4 : Int32) then
    if p2 = (-1 : Int32) then
      Option.bind (f1_drop host_sorts_ p1) fun (c7 : (Nat → Int32)) =>
      some ((1 : Int32), host_lengths_, c7, host_items_)
    else
    if p3 ≤ (40 : Int32) then
      if (0 : Int32) ≤ p3 then
        bn3 (f1_lay host_lengths_ host_sorts_ host_items_ p1 p2 p3) fun (c2 : (Nat → Int32)) (c3 : (Nat → Int32)) (c4 : (Nat → Int64)) =>
        some ((1 : Int32), c2, c3, c4)
      else
        some ((-14 : Int32), host_lengths_, host_sorts_, host_items_)
    else
      some ((-1 : Int32), host_lengths_, host_sorts_, host_items_)
  else
    some ((-1 : Int32), host_lengths_, host_sorts_, host_items_)
def f1_holdClaim (held_ : (Nat → Int32)) (numbers_ : (Nat → Int32)) (p1 : Int32) (p2 : Int32) : Option ((Nat → Int32) × (Nat → Int32)) :=
  Option.bind (f1_isShelf p1) fun (v1 : Int32) =>
  if v1 = (0 : Int32) then
    some (held_, numbers_)
  else
    gd (ix p1 4) <|
    gd (ix p1 4) <|
    some ((upd held_ p1.toNatClampNeg (0 : Int32)), (upd numbers_ p1.toNatClampNeg p2))
def f1_holdRow (held_ : (Nat → Int32)) (lengths_ : (Nat → Int32)) (numbers_ : (Nat → Int32)) (sorts_ : (Nat → Int32)) (p1 : Int32) (p2 : Int32) : Option ((Nat → Int32) × (Nat → Int32)) :=
  Option.bind (f1_isShelf p1) fun (v1 : Int32) =>
  if v1 = (0 : Int32) then
    some (held_, numbers_)
  else
    Option.bind (f1_isSheet p2) fun (v2 : Int32) =>
    if v2 = (0 : Int32) then
      some (held_, numbers_)
    else
      Option.bind (f1_isMissing sorts_ p2) fun (v3 : Int32) =>
      jn (fun (s5 : Int32) =>
        gd (ix p1 4) <|
        gd (ix p2 4) <|
        gd (ix p1 4) <|
        some ((upd held_ p1.toNatClampNeg s5), (upd numbers_ p1.toNatClampNeg (lengths_ p2.toNatClampNeg)))) fun (J4 : Int32 → Option ((Nat → Int32) × (Nat → Int32))) =>
      if v3 = (0 : Int32) then
        gd (ix p2 4) <|
        J4 ((10 : Int32) + (sorts_ p2.toNatClampNeg))
      else
        J4 (-1 : Int32)
def f1_holdNothing (held_ : (Nat → Int32)) (p1 : Int32) : Option ((Nat → Int32)) :=
  Option.bind (f1_isShelf p1) fun (v1 : Int32) =>
  if v1 = (0 : Int32) then
    some held_
  else
    gd (ix p1 4) <|
    some (upd held_ p1.toNatClampNeg (-1 : Int32))
def f8_shelf (book_claims_ : Int32) (host_held_ : (Nat → Int32)) (host_lengths_ : (Nat → Int32)) (host_numbers_ : (Nat → Int32)) (host_sorts_ : (Nat → Int32)) (p1 : Int32) (p2 : Int32) (p3 : Int32) : Option (Int32 × (Nat → Int32) × (Nat → Int32)) :=
  Option.bind (f1_isShelf p1) fun (v1 : Int32) =>
  if v1 = (0 : Int32) then
    some ((-1 : Int32), host_held_, host_numbers_)
  else
  if p2 < (0 : Int32) then
    some ((-1 : Int32), host_held_, host_numbers_)
  else
  if p2 ≤ (2 : Int32) then
    jn (
      jn (
        if p2 = (0 : Int32) then
          bn2 (f1_holdClaim host_held_ host_numbers_ p1 p3) fun (c8 : (Nat → Int32)) (c9 : (Nat → Int32)) =>
          some ((1 : Int32), c8, c9)
        else
        if p2 = (1 : Int32) then
          bn2 (f1_holdRow host_held_ host_lengths_ host_numbers_ host_sorts_ p1 p3) fun (c5 : (Nat → Int32)) (c6 : (Nat → Int32)) =>
          some ((1 : Int32), c5, c6)
        else
          Option.bind (f1_holdNothing host_held_ p1) fun (c4 : (Nat → Int32)) =>
          some ((1 : Int32), c4, host_numbers_)) fun (J3 : Option (Int32 × (Nat → Int32) × (Nat → Int32))) =>
      if p2 = (1 : Int32) then
        Option.bind (f1_isSheet p3) fun (v11 : Int32) =>
        if v11 = (0 : Int32) then
          some ((-1 : Int32), host_held_, host_numbers_)
        else
          J3
      else
        J3) fun (J2 : Option (Int32 × (Nat → Int32) × (Nat → Int32))) =>
    if p2 = (0 : Int32) then
      Option.bind (f0_isClaim book_claims_ p3) fun (v14 : Int32) =>
      if v14 = (0 : Int32) then
        some ((-1 : Int32), host_held_, host_numbers_)
      else
        J2
    else
      J2
  else
    some ((-1 : Int32), host_held_, host_numbers_)
def f8_size (book_sizes_ : (Nat → Int32)) (p1 : Int32) (p2 : Int32) : Option (Int32 × (Nat → Int32)) :=
  Option.bind (f8_isTown p1) fun (v1 : Int32) =>
  if v1 = (0 : Int32) then
    some ((-1 : Int32), book_sizes_)
  else
  if p2 < (10 : Int32) then
    some ((-1 : Int32), book_sizes_)
  else
  if p2 ≤ (99 : Int32) then
    gd (ix p1 4) <|
    gd (ix p1 4) <|
    some ((book_sizes_ p1.toNatClampNeg), (upd book_sizes_ p1.toNatClampNeg p2))
  else
    some ((-1 : Int32), book_sizes_)
def f7_reachFrom_L28 (claims_ : Int32) (people_ : Int32) (ones_ : (Nat → Int32)) (seats_ : (Nat → Int32)) (p3 : Int32) (x1 : Int32) : Nat → Int32 → (Nat → Int32) → (Int32 → (Nat → Int32) → Option ((Nat → Int32))) → Option ((Nat → Int32))
  | 0, _, _, _ => none
  | n11 + 1, x8, c9, K10 =>
    if (4 : Int32) ≤ x8 then
      K10 x8 c9
    else
      Option.bind (f0_oneAt claims_ people_ ones_ seats_ x1 x8) fun (v12 : Int32) =>
      jn (fun (c14 : (Nat → Int32)) =>
        f7_reachFrom_L28 claims_ people_ ones_ seats_ p3 x1 n11 (x8 + (1 : Int32)) c14 K10) fun (J13 : (Nat → Int32) → Option ((Nat → Int32))) =>
      if v12 < (0 : Int32) then
        J13 c9
      else
      if (10 : Int32) ≤ v12 then
        J13 c9
      else
        gd (ix v12 10) <|
        if (c9 v12.toNatClampNeg) = (-9 : Int32) then
          gd (ix v12 10) <|
          J13 (upd c9 v12.toNatClampNeg p3)
        else
          J13 c9
def f7_reachFrom_L3 (claims_ : Int32) (people_ : Int32) (ones_ : (Nat → Int32)) (seats_ : (Nat → Int32)) (p2 : Int32) (p3 : Int32) : Nat → Int32 → (Nat → Int32) → (Int32 → (Nat → Int32) → Option ((Nat → Int32))) → Option ((Nat → Int32))
  | 0, _, _, _ => none
  | n4 + 1, x1, c2, K3 =>
    if claims_ ≤ x1 then
      K3 x1 c2
    else
      Option.bind (f0_isIn claims_ people_ ones_ seats_ x1 p2) fun (v5 : Int32) =>
      jn (fun (c7 : (Nat → Int32)) =>
        f7_reachFrom_L3 claims_ people_ ones_ seats_ p2 p3 n4 (x1 + (1 : Int32)) c7 K3) fun (J6 : (Nat → Int32) → Option ((Nat → Int32))) =>
      if v5 = (0 : Int32) then
        J6 c2
      else
        jn (fun (x8 : Int32) (c9 : (Nat → Int32)) =>
          J6 c9) fun (K10 : Int32 → (Nat → Int32) → Option ((Nat → Int32))) =>
        f7_reachFrom_L28 claims_ people_ ones_ seats_ p3 x1 FU (0 : Int32) c2 K10
def f7_reachFrom (claims_ : Int32) (people_ : Int32) (ones_ : (Nat → Int32)) (seats_ : (Nat → Int32)) (reached_ : (Nat → Int32)) (p2 : Int32) (p3 : Int32) : Option ((Nat → Int32)) :=
  jn (fun (x1 : Int32) (c2 : (Nat → Int32)) =>
    some c2) fun (K3 : Int32 → (Nat → Int32) → Option ((Nat → Int32))) =>
  f7_reachFrom_L3 claims_ people_ ones_ seats_ p2 p3 FU (0 : Int32) reached_ K3
def f7_stepsBetween_L55 (claims_ : Int32) (people_ : Int32) (hubs_ : (Nat → Int32)) (ones_ : (Nat → Int32)) (seats_ : (Nat → Int32)) (p2 : Int32) (x10 : Int32) : Nat → Int32 → (Nat → Int32) → (Int32 → (Nat → Int32) → Option (Int32 × (Nat → Int32))) → Option (Int32 × (Nat → Int32))
  | 0, _, _, _ => none
  | n17 + 1, x14, c15, K16 =>
    if people_ ≤ x14 then
      K16 x14 c15
    else
      jn (fun (s19 : Int32) =>
        gd (ix x14 10) <|
        jn (fun (c22 : (Nat → Int32)) =>
          f7_stepsBetween_L55 claims_ people_ hubs_ ones_ seats_ p2 x10 n17 (x14 + (1 : Int32)) c22 K16) fun (J21 : (Nat → Int32) → Option (Int32 × (Nat → Int32))) =>
        if (c15 x14.toNatClampNeg) = (x10 - (1 : Int32)) then
          if s19 = (0 : Int32) then
            J21 c15
          else
            Option.bind (f7_reachFrom claims_ people_ ones_ seats_ c15 x14 x10) fun (c23 : (Nat → Int32)) =>
            J21 c23
        else
          J21 c15) fun (J18 : Int32 → Option (Int32 × (Nat → Int32))) =>
      jn (
        J18 (1 : Int32)) fun (J26 : Option (Int32 × (Nat → Int32))) =>
      if x14 = p2 then
        J26
      else
        Option.bind (f0_isHub people_ hubs_ ones_ x14) fun (v27 : Int32) =>
        if v27 = (0 : Int32) then
          J26
        else
          J18 (0 : Int32)
def f7_stepsBetween_L45 (claims_ : Int32) (people_ : Int32) (hubs_ : (Nat → Int32)) (ones_ : (Nat → Int32)) (seats_ : (Nat → Int32)) (p2 : Int32) (p3 : Int32) : Nat → Int32 → (Nat → Int32) → (Int32 → (Nat → Int32) → Option (Int32 × (Nat → Int32))) → Option (Int32 × (Nat → Int32))
  | 0, _, _, _ => none
  | n13 + 1, x10, c11, K12 =>
    if (10 : Int32) < x10 then
      K12 x10 c11
    else
      jn (fun (x14 : Int32) (c15 : (Nat → Int32)) =>
        jn (
          f7_stepsBetween_L45 claims_ people_ hubs_ ones_ seats_ p2 p3 n13 (x10 + (1 : Int32)) c15 K12) fun (J31 : Option (Int32 × (Nat → Int32))) =>
        if p3 < (0 : Int32) then
          J31
        else
        if (10 : Int32) ≤ p3 then
          J31
        else
          gd (ix p3 10) <|
          if (c15 p3.toNatClampNeg) = x10 then
            some (x10, c15)
          else
            J31) fun (K16 : Int32 → (Nat → Int32) → Option (Int32 × (Nat → Int32))) =>
      f7_stepsBetween_L55 claims_ people_ hubs_ ones_ seats_ p2 x10 FU (0 : Int32) c11 K16
def f7_stepsBetween_L10 (p2 : Int32) : Nat → Int32 → (Nat → Int32) → (Int32 → (Nat → Int32) → Option (Int32 × (Nat → Int32))) → Option (Int32 × (Nat → Int32))
  | 0, _, _, _ => none
  | n4 + 1, x1, c2, K3 =>
    if (10 : Int32) ≤ x1 then
      K3 x1 c2
    else
      jn (fun (s6 : Int32) =>
        gd (ix x1 10) <|
        f7_stepsBetween_L10 p2 n4 (x1 + (1 : Int32)) (upd c2 x1.toNatClampNeg s6) K3) fun (J5 : Int32 → Option (Int32 × (Nat → Int32))) =>
      if x1 = p2 then
        J5 (0 : Int32)
      else
        J5 (-9 : Int32)
def f7_stepsBetween (claims_ : Int32) (people_ : Int32) (hubs_ : (Nat → Int32)) (ones_ : (Nat → Int32)) (seats_ : (Nat → Int32)) (reached_ : (Nat → Int32)) (p2 : Int32) (p3 : Int32) : Option (Int32 × (Nat → Int32)) :=
  if p2 = p3 then
    some ((0 : Int32), reached_)
  else
    jn (fun (x1 : Int32) (c2 : (Nat → Int32)) =>
      jn (fun (x10 : Int32) (c11 : (Nat → Int32)) =>
        some ((-3 : Int32), c11)) fun (K12 : Int32 → (Nat → Int32) → Option (Int32 × (Nat → Int32))) =>
      f7_stepsBetween_L45 claims_ people_ hubs_ ones_ seats_ p2 p3 FU (1 : Int32) c2 K12) fun (K3 : Int32 → (Nat → Int32) → Option (Int32 × (Nat → Int32))) =>
    f7_stepsBetween_L10 p2 FU (0 : Int32) reached_ K3
def f8_steps (book_claims_ : Int32) (book_people_ : Int32) (book_hubs_ : (Nat → Int32)) (book_ones_ : (Nat → Int32)) (book_seats_ : (Nat → Int32)) (ties_reached_ : (Nat → Int32)) (p1 : Int32) (p2 : Int32) : Option (Int32 × (Nat → Int32)) :=
  Option.bind (f0_isPerson book_people_ p1) fun (v1 : Int32) =>
  if v1 = (0 : Int32) then
    some ((-1 : Int32), ties_reached_)
  else
    Option.bind (f0_isPerson book_people_ p2) fun (v2 : Int32) =>
    if v2 = (0 : Int32) then
      some ((-1 : Int32), ties_reached_)
    else
      gd (ix p1 10) <|
      gd (ix p2 10) <|
      bn2 (f7_stepsBetween book_claims_ book_people_ book_hubs_ book_ones_ book_seats_ ties_reached_ (book_ones_ p1.toNatClampNeg) (book_ones_ p2.toNatClampNeg)) fun (v5 : Int32) (c6 : (Nat → Int32)) =>
      some (v5, c6)
def f8_isUnder_L4 (p1 : Int32) : Nat → Int32 → Int32 → (Int32 → Int32 → Option (Int32)) → Option (Int32)
  | 0, _, _, _ => none
  | n4 + 1, x1, x2, K3 =>
    if (6 : Int32) ≤ x2 then
      K3 x1 x2
    else
    if x1 < (0 : Int32) then
      K3 x1 x2
    else
    if (6 : Int32) ≤ x1 then
      K3 x1 x2
    else
    if x1 = p1 then
      some (1 : Int32)
    else
      gd (ix x1 6) <|
      f8_isUnder_L4 p1 n4 (overK x1.toNatClampNeg) (x2 + (1 : Int32)) K3
def f8_isUnder (p0 : Int32) (p1 : Int32) : Option (Int32) :=
  jn (fun (x1 : Int32) (x2 : Int32) =>
    some (0 : Int32)) fun (K3 : Int32 → Int32 → Option (Int32)) =>
  f8_isUnder_L4 p1 FU p0 (0 : Int32) K3
def f8_taken (book_claims_ : Int32) (book_facts_ : (Nat → Int32)) (host_held_ : (Nat → Int32)) (host_numbers_ : (Nat → Int32)) (p1 : Int32) (p2 : Int32) : Option (Int32) :=
  jn (fun (s2 : Int32) =>
    jn (fun (s4 : Int32) =>
      Option.bind (f1_isShelf p1) fun (v5 : Int32) =>
      if v5 = (0 : Int32) then
        some (-1 : Int32)
      else
        jn (
          Option.bind (f1_heldOn host_held_ host_numbers_ p1 book_claims_) fun (v7 : Int32) =>
          if v7 = (-1 : Int32) then
            some (-11 : Int32)
          else
            gd (ix p1 4) <|
            jn (fun (s10 : Int32) =>
              if s10 = (0 : Int32) then
                some (-13 : Int32)
              else
                some (host_numbers_ p1.toNatClampNeg)) fun (J9 : Int32 → Option (Int32)) =>
            if v7 = (0 : Int32) then
              jn (
                J9 (0 : Int32)) fun (J13 : Option (Int32)) =>
              if s2 = (0 : Int32) then
                J13
              else
                Option.bind (f0_fact book_claims_ book_facts_ (host_numbers_ p1.toNatClampNeg) (0 : Int32)) fun (v14 : Int32) =>
                Option.bind (f8_isUnder v14 p2) fun (v15 : Int32) =>
                if v15 = (0 : Int32) then
                  J13
                else
                  J9 (1 : Int32)
            else
            if v7 = p2 then
              J9 (1 : Int32)
            else
              J9 (0 : Int32)) fun (J6 : Option (Int32)) =>
        if s2 = (0 : Int32) then
          if s4 = (0 : Int32) then
            some (-1 : Int32)
          else
            J6
        else
          J6) fun (J3 : Int32 → Option (Int32)) =>
    jn (
      J3 (0 : Int32)) fun (J23 : Option (Int32)) =>
    if p2 < (10 : Int32) then
      J23
    else
    if (14 : Int32) ≤ p2 then
      J23
    else
      J3 (1 : Int32)) fun (J1 : Int32 → Option (Int32)) =>
  jn (
    J1 (0 : Int32)) fun (J26 : Option (Int32)) =>
  if p2 < (0 : Int32) then
    J26
  else
  if (6 : Int32) ≤ p2 then
    J26
  else
    J1 (1 : Int32)
def f8_tie (book_claims_ : Int32) (book_people_ : Int32) (book_facts_ : (Nat → Int32)) (book_hubs_ : (Nat → Int32)) (book_laws_ : (Nat → Int32)) (book_ones_ : (Nat → Int32)) (book_seats_ : (Nat → Int32)) (p1 : Int32) (p2 : Int32) : Option (Int32) :=
  Option.bind (f0_isClaim book_claims_ p1) fun (v1 : Int32) =>
  if v1 = (0 : Int32) then
    some (-1 : Int32)
  else
    Option.bind (f0_isClaim book_claims_ p2) fun (v2 : Int32) =>
    if v2 = (0 : Int32) then
      some (-1 : Int32)
    else
    if p1 = p2 then
      some (-1 : Int32)
    else
      Option.bind (f7_strength book_claims_ book_people_ book_facts_ book_hubs_ book_laws_ book_ones_ book_seats_ p1 p2 (-1 : Int32)) fun (v3 : Int32) =>
      some v3
def f8_tied (book_claims_ : Int32) (book_people_ : Int32) (book_facts_ : (Nat → Int32)) (book_hubs_ : (Nat → Int32)) (book_laws_ : (Nat → Int32)) (book_ones_ : (Nat → Int32)) (book_seats_ : (Nat → Int32)) (p1 : Int32) : Option (Int32) :=
  Option.bind (f0_isClaim book_claims_ p1) fun (v1 : Int32) =>
  if v1 = (0 : Int32) then
    some (-1 : Int32)
  else
    Option.bind (f7_tiedWith book_claims_ book_people_ book_facts_ book_hubs_ book_laws_ book_ones_ book_seats_ p1) fun (v2 : Int32) =>
    some v2
def f8_trace (play_count_ : Int32) (play_bodies_ : (Nat → Int32)) (p1 : Int32) : Option (Int32) :=
  if p1 < (0 : Int32) then
    some (-3 : Int32)
  else
  if p1 < play_count_ then
    gd (ix p1 30) <|
    some (play_bodies_ p1.toNatClampNeg)
  else
    some (-3 : Int32)
def f8_turned_L46 (book_claims_ : Int32) (book_people_ : Int32) (book_ones_ : (Nat → Int32)) (book_seats_ : (Nat → Int32)) (p1 : Int32) (x4 : Int32) : Nat → Int32 → Int32 → (Int32 → Int32 → Option (Int32)) → Option (Int32)
  | 0, _, _, _ => none
  | n10 + 1, x7, x8, K9 =>
    if book_claims_ ≤ x8 then
      K9 x7 x8
    else
      Option.bind (f0_oneAt book_claims_ book_people_ book_ones_ book_seats_ x4 (0 : Int32)) fun (v11 : Int32) =>
      jn (fun (s13 : Int32) =>
        Option.bind (f0_oneAt book_claims_ book_people_ book_ones_ book_seats_ x8 (0 : Int32)) fun (v14 : Int32) =>
        jn (fun (s16 : Int32) =>
          jn (fun (y18 : Int32) =>
            f8_turned_L46 book_claims_ book_people_ book_ones_ book_seats_ p1 x4 n10 y18 (x8 + (1 : Int32)) K9) fun (J17 : Int32 → Option (Int32)) =>
          jn (
            J17 (x7 + (1 : Int32))) fun (J19 : Option (Int32)) =>
          if s13 = (0 : Int32) then
            if s16 = (0 : Int32) then
              J17 x7
            else
              J19
          else
            J19) fun (J15 : Int32 → Option (Int32)) =>
        jn (
          J15 (0 : Int32)) fun (J22 : Option (Int32)) =>
        if v14 = (book_ones_ p1.toNatClampNeg) then
          Option.bind (f0_oneAt book_claims_ book_people_ book_ones_ book_seats_ x4 (1 : Int32)) fun (v23 : Int32) =>
          if v23 = (book_ones_ p1.toNatClampNeg) then
            J15 (1 : Int32)
          else
            J22
        else
          J22) fun (J12 : Int32 → Option (Int32)) =>
      jn (
        J12 (0 : Int32)) fun (J26 : Option (Int32)) =>
      if v11 = (book_ones_ p1.toNatClampNeg) then
        Option.bind (f0_oneAt book_claims_ book_people_ book_ones_ book_seats_ x8 (1 : Int32)) fun (v27 : Int32) =>
        if v27 = (book_ones_ p1.toNatClampNeg) then
          J12 (1 : Int32)
        else
          J26
      else
        J26
def f8_turned_L28 (book_claims_ : Int32) (book_people_ : Int32) (book_ones_ : (Nat → Int32)) (book_seats_ : (Nat → Int32)) (p1 : Int32) : Nat → Int32 → Int32 → (Int32 → Int32 → Option (Int32)) → Option (Int32)
  | 0, _, _, _ => none
  | n6 + 1, x3, x4, K5 =>
    if book_claims_ ≤ x4 then
      K5 x3 x4
    else
      jn (fun (x7 : Int32) (x8 : Int32) =>
        f8_turned_L28 book_claims_ book_people_ book_ones_ book_seats_ p1 n6 x7 (x4 + (1 : Int32)) K5) fun (K9 : Int32 → Int32 → Option (Int32)) =>
      f8_turned_L46 book_claims_ book_people_ book_ones_ book_seats_ p1 x4 FU x3 (x4 + (1 : Int32)) K9
def f8_turned (book_claims_ : Int32) (book_people_ : Int32) (book_ones_ : (Nat → Int32)) (book_seats_ : (Nat → Int32)) (p1 : Int32) : Option (Int32) :=
  Option.bind (f0_isPerson book_people_ p1) fun (v1 : Int32) =>
  if v1 = (0 : Int32) then
    some (-1 : Int32)
  else
    gd (ix p1 10) <|
    jn (fun (x3 : Int32) (x4 : Int32) =>
      some x3) fun (K5 : Int32 → Int32 → Option (Int32)) =>
    f8_turned_L28 book_claims_ book_people_ book_ones_ book_seats_ p1 FU (0 : Int32) (0 : Int32) K5
def f8_without (book_claims_ : Int32) (book_people_ : Int32) (book_facts_ : (Nat → Int32)) (book_hubs_ : (Nat → Int32)) (book_laws_ : (Nat → Int32)) (book_ones_ : (Nat → Int32)) (book_seats_ : (Nat → Int32)) (ties_scores_ : (Nat → Int32)) (ties_strengths_ : (Nat → Int32)) (p1 : Int32) : Option (Int32 × (Nat → Int32) × (Nat → Int32)) :=
  if p1 < (0 : Int32) then
    some ((-1 : Int32), ties_scores_, ties_strengths_)
  else
  if p1 < (4 : Int32) then
    bn3 (f7_findLot book_claims_ book_people_ book_facts_ book_hubs_ book_laws_ book_ones_ book_seats_ ties_scores_ ties_strengths_ p1) fun (v1 : Int32) (c2 : (Nat → Int32)) (c3 : (Nat → Int32)) =>
    some (v1, c2, c3)
  else
    some ((-1 : Int32), ties_scores_, ties_strengths_)
def f9_in (p0 : Int32) (p1 : Int32) (p2 : Int32) : Option (Int32) :=
  if p0 < p1 then
    some (0 : Int32)
  else
  if p2 < p0 then
    some (0 : Int32)
  else
    some (1 : Int32)
def f9_isShelf (p0 : Int32) : Option (Int32) :=
  Option.bind (f9_in p0 (0 : Int32) (3 : Int32)) fun (v1 : Int32) =>
  gd (bz v1) <|
  some v1
def f9_isClaim (claims_ : Int32) (p1 : Int32) : Option (Int32) :=
  Option.bind (f9_in p1 (0 : Int32) (claims_ - (1 : Int32))) fun (v1 : Int32) =>
  gd (bz v1) <|
  some v1
def f9_its (claim_ : (Nat → Int32)) (p1 : Int32) (p2 : Int32) : Option (Int32) :=
  gd (ix (((11 : Int32) * p1) + p2) 99) <|
  some (claim_ (((11 : Int32) * p1) + p2).toNatClampNeg)
def f9_kindOn (claims_ : Int32) (claim_ : (Nat → Int32)) (held_ : (Nat → Int32)) (heldNumber_ : (Nat → Int32)) (p1 : Int32) : Option (Int32) :=
  gd (ix p1 4) <|
  if (held_ p1.toNatClampNeg) = (0 : Int32) then
    gd (ix p1 4) <|
    Option.bind (f9_isClaim claims_ (heldNumber_ p1.toNatClampNeg)) fun (v3 : Int32) =>
    if v3 = (0 : Int32) then
      some (-1 : Int32)
    else
      gd (ix p1 4) <|
      Option.bind (f9_its claim_ (heldNumber_ p1.toNatClampNeg) (0 : Int32)) fun (v5 : Int32) =>
      some v5
  else
    gd (ix p1 4) <|
    if (0 : Int32) ≤ (held_ p1.toNatClampNeg) then
      some (9 : Int32)
    else
      some (-1 : Int32)
def f9_ran (bodies_ : Int32) (traced_ : (Nat → Int32)) (p1 : Int32) : Option (Int32 × (Nat → Int32)) :=
  if (30 : Int32) ≤ bodies_ then
    some (bodies_, traced_)
  else
    gd (ix bodies_ 30) <|
    some ((bodies_ + (1 : Int32)), (upd traced_ bodies_.toNatClampNeg p1))
def f9_plainHits (bodies_ : Int32) (number_ : Int32) (traced_ : (Nat → Int32)) (p1 : Int32) : Option (Int32 × Int32 × (Nat → Int32)) :=
  bn2 (f9_ran bodies_ traced_ (10 : Int32)) fun (c1 : Int32) (c2 : (Nat → Int32)) =>
  some ((p1 + number_), c1, c2)
def f9_glassHits (bodies_ : Int32) (number_ : Int32) (traced_ : (Nat → Int32)) (p1 : Int32) : Option (Int32 × Int32 × (Nat → Int32)) :=
  bn2 (f9_ran bodies_ traced_ (30 : Int32)) fun (c1 : Int32) (c2 : (Nat → Int32)) =>
  bn3 (f9_plainHits c1 number_ c2 p1) fun (v3 : Int32) (c4 : Int32) (c5 : (Nat → Int32)) =>
  some ((v3 * (3 : Int32)), c4, c5)
def f9_hitsIt (bodies_ : Int32) (kind_ : Int32) (number_ : Int32) (traced_ : (Nat → Int32)) (p1 : Int32) : Option (Int32 × Int32 × (Nat → Int32)) :=
  if kind_ = (2 : Int32) then
    bn3 (f9_glassHits bodies_ number_ traced_ p1) fun (v2 : Int32) (c3 : Int32) (c4 : (Nat → Int32)) =>
    some (v2, c3, c4)
  else
  if kind_ = (3 : Int32) then
    bn2 (f9_ran bodies_ traced_ (40 : Int32)) fun (c6 : Int32) (c7 : (Nat → Int32)) =>
    bn3 (f9_plainHits c6 number_ c7 p1) fun (v8 : Int32) (c9 : Int32) (c10 : (Nat → Int32)) =>
    some (((0 : Int32) - v8), c9, c10)
  else
  if kind_ = (4 : Int32) then
    bn2 (f9_ran bodies_ traced_ (51 : Int32)) fun (c12 : Int32) (c13 : (Nat → Int32)) =>
    bn3 (f9_glassHits c12 number_ c13 p1) fun (v14 : Int32) (c15 : Int32) (c16 : (Nat → Int32)) =>
    some ((v14 - number_), c15, c16)
  else
    bn3 (f9_plainHits bodies_ number_ traced_ p1) fun (v17 : Int32) (c18 : Int32) (c19 : (Nat → Int32)) =>
    some (v17, c18, c19)
def f9_plainPays (bodies_ : Int32) (kind_ : Int32) (number_ : Int32) (traced_ : (Nat → Int32)) (p1 : Int32) : Option (Int32 × Int32 × (Nat → Int32)) :=
  bn2 (f9_ran bodies_ traced_ (11 : Int32)) fun (c1 : Int32) (c2 : (Nat → Int32)) =>
  bn3 (f9_hitsIt c1 kind_ number_ c2 p1) fun (v3 : Int32) (c4 : Int32) (c5 : (Nat → Int32)) =>
  some ((v3 * (2 : Int32)), c4, c5)
def f9_bumpPays (bodies_ : Int32) (kind_ : Int32) (number_ : Int32) (own_ : Int32) (traced_ : (Nat → Int32)) (p1 : Int32) : Option (Int32 × Int32 × (Nat → Int32)) :=
  bn2 (f9_ran bodies_ traced_ (20 : Int32)) fun (c1 : Int32) (c2 : (Nat → Int32)) =>
  bn3 (f9_plainPays c1 kind_ number_ c2 p1) fun (v3 : Int32) (c4 : Int32) (c5 : (Nat → Int32)) =>
  some ((v3 - own_), c4, c5)
def f9_paysIt (bodies_ : Int32) (kind_ : Int32) (number_ : Int32) (own_ : Int32) (traced_ : (Nat → Int32)) (p1 : Int32) : Option (Int32 × Int32 × (Nat → Int32)) :=
  if kind_ = (3 : Int32) then
    bn2 (f9_ran bodies_ traced_ (41 : Int32)) fun (c8 : Int32) (c9 : (Nat → Int32)) =>
    bn3 (f9_bumpPays c8 kind_ number_ own_ c9 p1) fun (v10 : Int32) (c11 : Int32) (c12 : (Nat → Int32)) =>
    bn3 (f9_hitsIt c11 kind_ number_ c12 number_) fun (v13 : Int32) (c14 : Int32) (c15 : (Nat → Int32)) =>
    some ((v10 + v13), c14, c15)
  else
  if kind_ = (1 : Int32) then
    bn3 (f9_bumpPays bodies_ kind_ number_ own_ traced_ p1) fun (v4 : Int32) (c5 : Int32) (c6 : (Nat → Int32)) =>
    some (v4, c5, c6)
  else
    bn3 (f9_plainPays bodies_ kind_ number_ traced_ p1) fun (v1 : Int32) (c2 : Int32) (c3 : (Nat → Int32)) =>
    some (v1, c2, c3)
def f9_plainShares (bodies_ : Int32) (isParted_ : Int32) (number_ : Int32) (own_ : Int32) (traced_ : (Nat → Int32)) (p1 : Int32) : Option (Int32 × Int32 × Int32 × (Nat → Int32)) :=
  bn2 (f9_ran bodies_ traced_ (12 : Int32)) fun (c1 : Int32) (c2 : (Nat → Int32)) =>
  if own_ = number_ then
    some ((0 : Int32), c1, (1 : Int32), c2)
  else
    gd (nz (own_ - number_)) <|
    some ((p1 / (own_ - number_)), c1, isParted_, c2)
def f9_sharesIt (bodies_ : Int32) (isParted_ : Int32) (kind_ : Int32) (number_ : Int32) (own_ : Int32) (traced_ : (Nat → Int32)) (p1 : Int32) : Option (Int32 × Int32 × Int32 × (Nat → Int32)) :=
  if kind_ = (4 : Int32) then
    bn2 (f9_ran bodies_ traced_ (50 : Int32)) fun (c16 : Int32) (c17 : (Nat → Int32)) =>
    bn4 (f9_plainShares c16 isParted_ number_ own_ c17 (p1 + (2 : Int32))) fun (v18 : Int32) (c19 : Int32) (c20 : Int32) (c21 : (Nat → Int32)) =>
    some ((v18 ^^^ (1 : Int32)), c19, c20, c21)
  else
  if kind_ = (5 : Int32) then
    bn2 (f9_ran bodies_ traced_ (61 : Int32)) fun (c5 : Int32) (c6 : (Nat → Int32)) =>
    bn4 (f9_plainShares c5 isParted_ number_ own_ c6 p1) fun (v7 : Int32) (c8 : Int32) (c9 : Int32) (c10 : (Nat → Int32)) =>
    if c9 = (0 : Int32) then
      bn3 (f9_hitsIt c8 kind_ number_ c10 own_) fun (v11 : Int32) (c12 : Int32) (c13 : (Nat → Int32)) =>
      some ((v7 + v11), c12, c9, c13)
    else
      some ((0 : Int32), c8, c9, c10)
  else
    bn4 (f9_plainShares bodies_ isParted_ number_ own_ traced_ p1) fun (v1 : Int32) (c2 : Int32) (c3 : Int32) (c4 : (Nat → Int32)) =>
    some (v1, c2, c3, c4)
def f9_plainTells (bodies_ : Int32) (kind_ : Int32) (number_ : Int32) (own_ : Int32) (traced_ : (Nat → Int32)) (p1 : Int32) : Option (Int32 × Int32 × (Nat → Int32)) :=
  bn2 (f9_ran bodies_ traced_ (13 : Int32)) fun (c1 : Int32) (c2 : (Nat → Int32)) =>
  bn3 (f9_paysIt c1 kind_ number_ own_ c2 p1) fun (v3 : Int32) (c4 : Int32) (c5 : (Nat → Int32)) =>
  some ((v3 ^^^ own_), c4, c5)
def f9_tellsIt (bodies_ : Int32) (isParted_ : Int32) (kind_ : Int32) (number_ : Int32) (own_ : Int32) (traced_ : (Nat → Int32)) (p1 : Int32) : Option (Int32 × Int32 × Int32 × (Nat → Int32)) :=
  jn (
    bn2 (f9_ran bodies_ traced_ (31 : Int32)) fun (c2 : Int32) (c3 : (Nat → Int32)) =>
    bn3 (f9_plainTells c2 kind_ number_ own_ c3 p1) fun (v4 : Int32) (c5 : Int32) (c6 : (Nat → Int32)) =>
    bn4 (f9_sharesIt c5 isParted_ kind_ number_ own_ c6 number_) fun (v7 : Int32) (c8 : Int32) (c9 : Int32) (c10 : (Nat → Int32)) =>
    some ((v4 + v7), c8, c9, c10)) fun (J1 : Option (Int32 × Int32 × Int32 × (Nat → Int32))) =>
  if kind_ = (2 : Int32) then
    J1
  else
  if kind_ = (4 : Int32) then
    J1
  else
  if kind_ = (5 : Int32) then
    bn2 (f9_ran bodies_ traced_ (60 : Int32)) fun (c14 : Int32) (c15 : (Nat → Int32)) =>
    bn3 (f9_plainTells c14 kind_ number_ own_ c15 p1) fun (v16 : Int32) (c17 : Int32) (c18 : (Nat → Int32)) =>
    some ((v16 * (2 : Int32)), c17, isParted_, c18)
  else
    bn3 (f9_plainTells bodies_ kind_ number_ own_ traced_ p1) fun (v11 : Int32) (c12 : Int32) (c13 : (Nat → Int32)) =>
    some (v11, c12, isParted_, c13)
def f9_act (bodies_ : Int32) (claims_ : Int32) (isParted_ : Int32) (kind_ : Int32) (number_ : Int32) (own_ : Int32) (claim_ : (Nat → Int32)) (held_ : (Nat → Int32)) (heldNumber_ : (Nat → Int32)) (traced_ : (Nat → Int32)) (p1 : Int32) (p2 : Int32) (p3 : Int32) : Option (Int32 × Int32 × Int32 × Int32 × Int32 × Int32 × (Nat → Int32)) :=
  Option.bind (f9_isShelf p1) fun (v1 : Int32) =>
  jn (fun (s3 : Int32) =>
    Option.bind (f9_in p2 (0 : Int32) (3 : Int32)) fun (v4 : Int32) =>
    if v4 = (0 : Int32) then
      some ((0 : Int32), (0 : Int32), isParted_, kind_, number_, own_, traced_)
    else
      Option.bind (f9_in s3 (0 : Int32) (5 : Int32)) fun (v5 : Int32) =>
      if v5 = (0 : Int32) then
        some ((0 : Int32), (0 : Int32), isParted_, kind_, number_, own_, traced_)
      else
        gd (ix p1 4) <|
        Option.bind (f9_its claim_ (heldNumber_ p1.toNatClampNeg) (4 : Int32)) fun (v7 : Int32) =>
        jn (fun (s9 : Int32) (c10 : Int32) (c11 : Int32) (c12 : (Nat → Int32)) =>
          if c11 = (0 : Int32) then
            some (s9, c10, c11, s3, (heldNumber_ p1.toNatClampNeg), v7, c12)
          else
            some ((-15 : Int32), c10, c11, s3, (heldNumber_ p1.toNatClampNeg), v7, c12)) fun (J8 : Int32 → Int32 → Int32 → (Nat → Int32) → Option (Int32 × Int32 × Int32 × Int32 × Int32 × Int32 × (Nat → Int32))) =>
        if p2 = (0 : Int32) then
          bn3 (f9_hitsIt (0 : Int32) s3 (heldNumber_ p1.toNatClampNeg) traced_ p3) fun (v27 : Int32) (c28 : Int32) (c29 : (Nat → Int32)) =>
          J8 v27 c28 (0 : Int32) c29
        else
        if p2 = (1 : Int32) then
          bn3 (f9_paysIt (0 : Int32) s3 (heldNumber_ p1.toNatClampNeg) v7 traced_ p3) fun (v23 : Int32) (c24 : Int32) (c25 : (Nat → Int32)) =>
          J8 v23 c24 (0 : Int32) c25
        else
        if p2 = (2 : Int32) then
          bn4 (f9_sharesIt (0 : Int32) (0 : Int32) s3 (heldNumber_ p1.toNatClampNeg) v7 traced_ p3) fun (v18 : Int32) (c19 : Int32) (c20 : Int32) (c21 : (Nat → Int32)) =>
          J8 v18 c19 c20 c21
        else
          bn4 (f9_tellsIt (0 : Int32) (0 : Int32) s3 (heldNumber_ p1.toNatClampNeg) v7 traced_ p3) fun (v14 : Int32) (c15 : Int32) (c16 : Int32) (c17 : (Nat → Int32)) =>
          J8 v14 c15 c16 c17) fun (J2 : Int32 → Option (Int32 × Int32 × Int32 × Int32 × Int32 × Int32 × (Nat → Int32))) =>
  if v1 = (0 : Int32) then
    J2 (-1 : Int32)
  else
    Option.bind (f9_kindOn claims_ claim_ held_ heldNumber_ p1) fun (v33 : Int32) =>
    J2 v33
def f9_move_a82_L3 (p2 : Int32) (p3 : Int32) : Nat → Int32 → Int32 → (Nat → Int32) → (Nat → Int32) → (Int32 → Int32 → (Nat → Int32) → (Nat → Int32) → Option (Int32 × (Nat → Int32) × (Nat → Int32))) → Option (Int32 × (Nat → Int32) × (Nat → Int32))
  | 0, _, _, _, _, _ => none
  | n6 + 1, x1, c2, c3, c4, K5 =>
    if p2 ≤ x1 then
      K5 x1 c2 c3 c4
    else
      jn (fun (c8 : (Nat → Int32)) (c9 : (Nat → Int32)) =>
        f9_move_a82_L3 p2 p3 n6 (x1 + (1 : Int32)) (c2 + (1 : Int32)) c8 c9 K5) fun (J7 : (Nat → Int32) → (Nat → Int32) → Option (Int32 × (Nat → Int32) × (Nat → Int32))) =>
      if p3 = (0 : Int32) then
        gd (ix c2 380) <|
        gd (ix x1 4) <|
        J7 (upd c3 x1.toNatClampNeg (c4 c2.toNatClampNeg)) c4
      else
        gd (ix x1 4) <|
        gd (ix c2 380) <|
        J7 c3 (upd c4 c2.toNatClampNeg (c3 x1.toNatClampNeg))
def f9_move_a82 (movedTo_ : Int32) (p1_ : (Nat → Int32)) (kept_ : (Nat → Int32)) (p2 : Int32) (p3 : Int32) : Option (Int32 × (Nat → Int32) × (Nat → Int32)) :=
  jn (fun (x1 : Int32) (c2 : Int32) (c3 : (Nat → Int32)) (c4 : (Nat → Int32)) =>
    some (c2, c3, c4)) fun (K5 : Int32 → Int32 → (Nat → Int32) → (Nat → Int32) → Option (Int32 × (Nat → Int32) × (Nat → Int32))) =>
  f9_move_a82_L3 p2 p3 FU (0 : Int32) movedTo_ p1_ kept_ K5
def f9_move_a53_L3 (p2 : Int32) (p3 : Int32) : Nat → Int32 → Int32 → (Nat → Int32) → (Nat → Int32) → (Int32 → Int32 → (Nat → Int32) → (Nat → Int32) → Option (Int32 × (Nat → Int32) × (Nat → Int32))) → Option (Int32 × (Nat → Int32) × (Nat → Int32))
  | 0, _, _, _, _, _ => none
  | n6 + 1, x1, c2, c3, c4, K5 =>
    if p2 ≤ x1 then
      K5 x1 c2 c3 c4
    else
      jn (fun (c8 : (Nat → Int32)) (c9 : (Nat → Int32)) =>
        f9_move_a53_L3 p2 p3 n6 (x1 + (1 : Int32)) (c2 + (1 : Int32)) c8 c9 K5) fun (J7 : (Nat → Int32) → (Nat → Int32) → Option (Int32 × (Nat → Int32) × (Nat → Int32))) =>
      if p3 = (0 : Int32) then
        gd (ix c2 380) <|
        gd (ix x1 4) <|
        J7 (upd c3 x1.toNatClampNeg (c4 c2.toNatClampNeg)) c4
      else
        gd (ix x1 4) <|
        gd (ix c2 380) <|
        J7 c3 (upd c4 c2.toNatClampNeg (c3 x1.toNatClampNeg))
def f9_move_a53 (movedTo_ : Int32) (p1_ : (Nat → Int32)) (kept_ : (Nat → Int32)) (p2 : Int32) (p3 : Int32) : Option (Int32 × (Nat → Int32) × (Nat → Int32)) :=
  jn (fun (x1 : Int32) (c2 : Int32) (c3 : (Nat → Int32)) (c4 : (Nat → Int32)) =>
    some (c2, c3, c4)) fun (K5 : Int32 → Int32 → (Nat → Int32) → (Nat → Int32) → Option (Int32 × (Nat → Int32) × (Nat → Int32))) =>
  f9_move_a53_L3 p2 p3 FU (0 : Int32) movedTo_ p1_ kept_ K5
def f9_move_a54_L3 (p2 : Int32) (p3 : Int32) : Nat → Int32 → Int32 → (Nat → Int32) → (Nat → Int32) → (Int32 → Int32 → (Nat → Int32) → (Nat → Int32) → Option (Int32 × (Nat → Int32) × (Nat → Int32))) → Option (Int32 × (Nat → Int32) × (Nat → Int32))
  | 0, _, _, _, _, _ => none
  | n6 + 1, x1, c2, c3, c4, K5 =>
    if p2 ≤ x1 then
      K5 x1 c2 c3 c4
    else
      jn (fun (c8 : (Nat → Int32)) (c9 : (Nat → Int32)) =>
        f9_move_a54_L3 p2 p3 n6 (x1 + (1 : Int32)) (c2 + (1 : Int32)) c8 c9 K5) fun (J7 : (Nat → Int32) → (Nat → Int32) → Option (Int32 × (Nat → Int32) × (Nat → Int32))) =>
      if p3 = (0 : Int32) then
        gd (ix c2 380) <|
        gd (ix x1 10) <|
        J7 (upd c3 x1.toNatClampNeg (c4 c2.toNatClampNeg)) c4
      else
        gd (ix x1 10) <|
        gd (ix c2 380) <|
        J7 c3 (upd c4 c2.toNatClampNeg (c3 x1.toNatClampNeg))
def f9_move_a54 (movedTo_ : Int32) (p1_ : (Nat → Int32)) (kept_ : (Nat → Int32)) (p2 : Int32) (p3 : Int32) : Option (Int32 × (Nat → Int32) × (Nat → Int32)) :=
  jn (fun (x1 : Int32) (c2 : Int32) (c3 : (Nat → Int32)) (c4 : (Nat → Int32)) =>
    some (c2, c3, c4)) fun (K5 : Int32 → Int32 → (Nat → Int32) → (Nat → Int32) → Option (Int32 × (Nat → Int32) × (Nat → Int32))) =>
  f9_move_a54_L3 p2 p3 FU (0 : Int32) movedTo_ p1_ kept_ K5
def f9_move_a55_L3 (p2 : Int32) (p3 : Int32) : Nat → Int32 → Int32 → (Nat → Int32) → (Nat → Int32) → (Int32 → Int32 → (Nat → Int32) → (Nat → Int32) → Option (Int32 × (Nat → Int32) × (Nat → Int32))) → Option (Int32 × (Nat → Int32) × (Nat → Int32))
  | 0, _, _, _, _, _ => none
  | n6 + 1, x1, c2, c3, c4, K5 =>
    if p2 ≤ x1 then
      K5 x1 c2 c3 c4
    else
      jn (fun (c8 : (Nat → Int32)) (c9 : (Nat → Int32)) =>
        f9_move_a55_L3 p2 p3 n6 (x1 + (1 : Int32)) (c2 + (1 : Int32)) c8 c9 K5) fun (J7 : (Nat → Int32) → (Nat → Int32) → Option (Int32 × (Nat → Int32) × (Nat → Int32))) =>
      if p3 = (0 : Int32) then
        gd (ix c2 380) <|
        gd (ix x1 10) <|
        J7 (upd c3 x1.toNatClampNeg (c4 c2.toNatClampNeg)) c4
      else
        gd (ix x1 10) <|
        gd (ix c2 380) <|
        J7 c3 (upd c4 c2.toNatClampNeg (c3 x1.toNatClampNeg))
def f9_move_a55 (movedTo_ : Int32) (p1_ : (Nat → Int32)) (kept_ : (Nat → Int32)) (p2 : Int32) (p3 : Int32) : Option (Int32 × (Nat → Int32) × (Nat → Int32)) :=
  jn (fun (x1 : Int32) (c2 : Int32) (c3 : (Nat → Int32)) (c4 : (Nat → Int32)) =>
    some (c2, c3, c4)) fun (K5 : Int32 → Int32 → (Nat → Int32) → (Nat → Int32) → Option (Int32 × (Nat → Int32) × (Nat → Int32))) =>
  f9_move_a55_L3 p2 p3 FU (0 : Int32) movedTo_ p1_ kept_ K5
def f9_move_a56_L3 (p2 : Int32) (p3 : Int32) : Nat → Int32 → Int32 → (Nat → Int32) → (Nat → Int32) → (Int32 → Int32 → (Nat → Int32) → (Nat → Int32) → Option (Int32 × (Nat → Int32) × (Nat → Int32))) → Option (Int32 × (Nat → Int32) × (Nat → Int32))
  | 0, _, _, _, _, _ => none
  | n6 + 1, x1, c2, c3, c4, K5 =>
    if p2 ≤ x1 then
      K5 x1 c2 c3 c4
    else
      jn (fun (c8 : (Nat → Int32)) (c9 : (Nat → Int32)) =>
        f9_move_a56_L3 p2 p3 n6 (x1 + (1 : Int32)) (c2 + (1 : Int32)) c8 c9 K5) fun (J7 : (Nat → Int32) → (Nat → Int32) → Option (Int32 × (Nat → Int32) × (Nat → Int32))) =>
      if p3 = (0 : Int32) then
        gd (ix c2 380) <|
        gd (ix x1 10) <|
        J7 (upd c3 x1.toNatClampNeg (c4 c2.toNatClampNeg)) c4
      else
        gd (ix x1 10) <|
        gd (ix c2 380) <|
        J7 c3 (upd c4 c2.toNatClampNeg (c3 x1.toNatClampNeg))
def f9_move_a56 (movedTo_ : Int32) (p1_ : (Nat → Int32)) (kept_ : (Nat → Int32)) (p2 : Int32) (p3 : Int32) : Option (Int32 × (Nat → Int32) × (Nat → Int32)) :=
  jn (fun (x1 : Int32) (c2 : Int32) (c3 : (Nat → Int32)) (c4 : (Nat → Int32)) =>
    some (c2, c3, c4)) fun (K5 : Int32 → Int32 → (Nat → Int32) → (Nat → Int32) → Option (Int32 × (Nat → Int32) × (Nat → Int32))) =>
  f9_move_a56_L3 p2 p3 FU (0 : Int32) movedTo_ p1_ kept_ K5
def f9_move_a57_L3 (p2 : Int32) (p3 : Int32) : Nat → Int32 → Int32 → (Nat → Int32) → (Nat → Int32) → (Int32 → Int32 → (Nat → Int32) → (Nat → Int32) → Option (Int32 × (Nat → Int32) × (Nat → Int32))) → Option (Int32 × (Nat → Int32) × (Nat → Int32))
  | 0, _, _, _, _, _ => none
  | n6 + 1, x1, c2, c3, c4, K5 =>
    if p2 ≤ x1 then
      K5 x1 c2 c3 c4
    else
      jn (fun (c8 : (Nat → Int32)) (c9 : (Nat → Int32)) =>
        f9_move_a57_L3 p2 p3 n6 (x1 + (1 : Int32)) (c2 + (1 : Int32)) c8 c9 K5) fun (J7 : (Nat → Int32) → (Nat → Int32) → Option (Int32 × (Nat → Int32) × (Nat → Int32))) =>
      if p3 = (0 : Int32) then
        gd (ix c2 380) <|
        gd (ix x1 99) <|
        J7 (upd c3 x1.toNatClampNeg (c4 c2.toNatClampNeg)) c4
      else
        gd (ix x1 99) <|
        gd (ix c2 380) <|
        J7 c3 (upd c4 c2.toNatClampNeg (c3 x1.toNatClampNeg))
def f9_move_a57 (movedTo_ : Int32) (p1_ : (Nat → Int32)) (kept_ : (Nat → Int32)) (p2 : Int32) (p3 : Int32) : Option (Int32 × (Nat → Int32) × (Nat → Int32)) :=
  jn (fun (x1 : Int32) (c2 : Int32) (c3 : (Nat → Int32)) (c4 : (Nat → Int32)) =>
    some (c2, c3, c4)) fun (K5 : Int32 → Int32 → (Nat → Int32) → (Nat → Int32) → Option (Int32 × (Nat → Int32) × (Nat → Int32))) =>
  f9_move_a57_L3 p2 p3 FU (0 : Int32) movedTo_ p1_ kept_ K5
def f9_move_a58_L3 (p2 : Int32) (p3 : Int32) : Nat → Int32 → Int32 → (Nat → Int32) → (Nat → Int32) → (Int32 → Int32 → (Nat → Int32) → (Nat → Int32) → Option (Int32 × (Nat → Int32) × (Nat → Int32))) → Option (Int32 × (Nat → Int32) × (Nat → Int32))
  | 0, _, _, _, _, _ => none
  | n6 + 1, x1, c2, c3, c4, K5 =>
    if p2 ≤ x1 then
      K5 x1 c2 c3 c4
    else
      jn (fun (c8 : (Nat → Int32)) (c9 : (Nat → Int32)) =>
        f9_move_a58_L3 p2 p3 n6 (x1 + (1 : Int32)) (c2 + (1 : Int32)) c8 c9 K5) fun (J7 : (Nat → Int32) → (Nat → Int32) → Option (Int32 × (Nat → Int32) × (Nat → Int32))) =>
      if p3 = (0 : Int32) then
        gd (ix c2 380) <|
        gd (ix x1 7) <|
        J7 (upd c3 x1.toNatClampNeg (c4 c2.toNatClampNeg)) c4
      else
        gd (ix x1 7) <|
        gd (ix c2 380) <|
        J7 c3 (upd c4 c2.toNatClampNeg (c3 x1.toNatClampNeg))
def f9_move_a58 (movedTo_ : Int32) (p1_ : (Nat → Int32)) (kept_ : (Nat → Int32)) (p2 : Int32) (p3 : Int32) : Option (Int32 × (Nat → Int32) × (Nat → Int32)) :=
  jn (fun (x1 : Int32) (c2 : Int32) (c3 : (Nat → Int32)) (c4 : (Nat → Int32)) =>
    some (c2, c3, c4)) fun (K5 : Int32 → Int32 → (Nat → Int32) → (Nat → Int32) → Option (Int32 × (Nat → Int32) × (Nat → Int32))) =>
  f9_move_a58_L3 p2 p3 FU (0 : Int32) movedTo_ p1_ kept_ K5
def f9_move_a60_L3 (p2 : Int32) (p3 : Int32) : Nat → Int32 → Int32 → (Nat → Int32) → (Nat → Int32) → (Int32 → Int32 → (Nat → Int32) → (Nat → Int32) → Option (Int32 × (Nat → Int32) × (Nat → Int32))) → Option (Int32 × (Nat → Int32) × (Nat → Int32))
  | 0, _, _, _, _, _ => none
  | n6 + 1, x1, c2, c3, c4, K5 =>
    if p2 ≤ x1 then
      K5 x1 c2 c3 c4
    else
      jn (fun (c8 : (Nat → Int32)) (c9 : (Nat → Int32)) =>
        f9_move_a60_L3 p2 p3 n6 (x1 + (1 : Int32)) (c2 + (1 : Int32)) c8 c9 K5) fun (J7 : (Nat → Int32) → (Nat → Int32) → Option (Int32 × (Nat → Int32) × (Nat → Int32))) =>
      if p3 = (0 : Int32) then
        gd (ix c2 380) <|
        gd (ix x1 24) <|
        J7 (upd c3 x1.toNatClampNeg (c4 c2.toNatClampNeg)) c4
      else
        gd (ix x1 24) <|
        gd (ix c2 380) <|
        J7 c3 (upd c4 c2.toNatClampNeg (c3 x1.toNatClampNeg))
def f9_move_a60 (movedTo_ : Int32) (p1_ : (Nat → Int32)) (kept_ : (Nat → Int32)) (p2 : Int32) (p3 : Int32) : Option (Int32 × (Nat → Int32) × (Nat → Int32)) :=
  jn (fun (x1 : Int32) (c2 : Int32) (c3 : (Nat → Int32)) (c4 : (Nat → Int32)) =>
    some (c2, c3, c4)) fun (K5 : Int32 → Int32 → (Nat → Int32) → (Nat → Int32) → Option (Int32 × (Nat → Int32) × (Nat → Int32))) =>
  f9_move_a60_L3 p2 p3 FU (0 : Int32) movedTo_ p1_ kept_ K5
def f9_move_a61_L3 (p2 : Int32) (p3 : Int32) : Nat → Int32 → Int32 → (Nat → Int32) → (Nat → Int32) → (Int32 → Int32 → (Nat → Int32) → (Nat → Int32) → Option (Int32 × (Nat → Int32) × (Nat → Int32))) → Option (Int32 × (Nat → Int32) × (Nat → Int32))
  | 0, _, _, _, _, _ => none
  | n6 + 1, x1, c2, c3, c4, K5 =>
    if p2 ≤ x1 then
      K5 x1 c2 c3 c4
    else
      jn (fun (c8 : (Nat → Int32)) (c9 : (Nat → Int32)) =>
        f9_move_a61_L3 p2 p3 n6 (x1 + (1 : Int32)) (c2 + (1 : Int32)) c8 c9 K5) fun (J7 : (Nat → Int32) → (Nat → Int32) → Option (Int32 × (Nat → Int32) × (Nat → Int32))) =>
      if p3 = (0 : Int32) then
        gd (ix c2 380) <|
        gd (ix x1 200) <|
        J7 (upd c3 x1.toNatClampNeg (c4 c2.toNatClampNeg)) c4
      else
        gd (ix x1 200) <|
        gd (ix c2 380) <|
        J7 c3 (upd c4 c2.toNatClampNeg (c3 x1.toNatClampNeg))
def f9_move_a61 (movedTo_ : Int32) (p1_ : (Nat → Int32)) (kept_ : (Nat → Int32)) (p2 : Int32) (p3 : Int32) : Option (Int32 × (Nat → Int32) × (Nat → Int32)) :=
  jn (fun (x1 : Int32) (c2 : Int32) (c3 : (Nat → Int32)) (c4 : (Nat → Int32)) =>
    some (c2, c3, c4)) fun (K5 : Int32 → Int32 → (Nat → Int32) → (Nat → Int32) → Option (Int32 × (Nat → Int32) × (Nat → Int32))) =>
  f9_move_a61_L3 p2 p3 FU (0 : Int32) movedTo_ p1_ kept_ K5
def f9_moveAll (claims_ : Int32) (clauses_ : Int32) (movedTo_ : Int32) (people_ : Int32) (z_ : Int32) (claim_ : (Nat → Int32)) (clause_ : (Nat → Int32)) (isHub_ : (Nat → Int32)) (kept_ : (Nat → Int32)) (laws_ : (Nat → Int32)) (oneOf_ : (Nat → Int32)) (signs_ : (Nat → Int32)) (single_ : (Nat → Int32)) (sizeOf_ : (Nat → Int32)) (townOf_ : (Nat → Int32)) (p1 : Int32) : Option (Int32 × (Nat → Int32) × (Nat → Int32) × (Nat → Int32) × (Nat → Int32) × (Nat → Int32) × (Nat → Int32) × (Nat → Int32) × (Nat → Int32) × (Nat → Int32) × (Nat → Int32)) :=
  gd (ix (0 : Int32) 4) <|
  gd (ix (1 : Int32) 4) <|
  gd (ix (2 : Int32) 4) <|
  gd (ix (3 : Int32) 4) <|
  bn3 (f9_move_a82 (0 : Int32) (upd (upd (upd (upd single_ (0 : Int32).toNatClampNeg people_) (1 : Int32).toNatClampNeg claims_) (2 : Int32).toNatClampNeg clauses_) (3 : Int32).toNatClampNeg z_) kept_ (4 : Int32) p1) fun (c5 : Int32) (c6 : (Nat → Int32)) (c7 : (Nat → Int32)) =>
  bn3 (f9_move_a53 c5 sizeOf_ c7 (4 : Int32) p1) fun (c8 : Int32) (c9 : (Nat → Int32)) (c10 : (Nat → Int32)) =>
  bn3 (f9_move_a54 c8 townOf_ c10 (10 : Int32) p1) fun (c11 : Int32) (c12 : (Nat → Int32)) (c13 : (Nat → Int32)) =>
  bn3 (f9_move_a55 c11 isHub_ c13 (10 : Int32) p1) fun (c14 : Int32) (c15 : (Nat → Int32)) (c16 : (Nat → Int32)) =>
  bn3 (f9_move_a56 c14 oneOf_ c16 (10 : Int32) p1) fun (c17 : Int32) (c18 : (Nat → Int32)) (c19 : (Nat → Int32)) =>
  bn3 (f9_move_a57 c17 claim_ c19 (99 : Int32) p1) fun (c20 : Int32) (c21 : (Nat → Int32)) (c22 : (Nat → Int32)) =>
  bn3 (f9_move_a58 c20 laws_ c22 (7 : Int32) p1) fun (c23 : Int32) (c24 : (Nat → Int32)) (c25 : (Nat → Int32)) =>
  bn3 (f9_move_a60 c23 clause_ c25 (24 : Int32) p1) fun (c26 : Int32) (c27 : (Nat → Int32)) (c28 : (Nat → Int32)) =>
  bn3 (f9_move_a61 c26 signs_ c28 (200 : Int32) p1) fun (c29 : Int32) (c30 : (Nat → Int32)) (c31 : (Nat → Int32)) =>
  some (c29, c21, c27, c15, c31, c24, c18, c30, c6, c9, c12)
def f9_again (claims_ : Int32) (clauses_ : Int32) (isKept_ : Int32) (movedTo_ : Int32) (people_ : Int32) (z_ : Int32) (claim_ : (Nat → Int32)) (clause_ : (Nat → Int32)) (isHub_ : (Nat → Int32)) (kept_ : (Nat → Int32)) (laws_ : (Nat → Int32)) (oneOf_ : (Nat → Int32)) (signs_ : (Nat → Int32)) (single_ : (Nat → Int32)) (sizeOf_ : (Nat → Int32)) (townOf_ : (Nat → Int32)) : Option (Int32 × Int32 × Int32 × Int32 × Int32 × Int32 × (Nat → Int32) × (Nat → Int32) × (Nat → Int32) × (Nat → Int32) × (Nat → Int32) × (Nat → Int32) × (Nat → Int32) × (Nat → Int32) × (Nat → Int32) × (Nat → Int32)) :=
  if isKept_ = (0 : Int32) then
    some ((-3 : Int32), claims_, clauses_, movedTo_, people_, z_, claim_, clause_, isHub_, kept_, laws_, oneOf_, signs_, single_, sizeOf_, townOf_)
  else
    bn11 (f9_moveAll claims_ clauses_ movedTo_ people_ z_ claim_ clause_ isHub_ kept_ laws_ oneOf_ signs_ single_ sizeOf_ townOf_ (0 : Int32)) fun (c1 : Int32) (c2 : (Nat → Int32)) (c3 : (Nat → Int32)) (c4 : (Nat → Int32)) (c5 : (Nat → Int32)) (c6 : (Nat → Int32)) (c7 : (Nat → Int32)) (c8 : (Nat → Int32)) (c9 : (Nat → Int32)) (c10 : (Nat → Int32)) (c11 : (Nat → Int32)) =>
    gd (ix (0 : Int32) 4) <|
    gd (ix (1 : Int32) 4) <|
    gd (ix (2 : Int32) 4) <|
    gd (ix (3 : Int32) 4) <|
    some ((c9 (1 : Int32).toNatClampNeg), (c9 (1 : Int32).toNatClampNeg), (c9 (2 : Int32).toNatClampNeg), c1, (c9 (0 : Int32).toNatClampNeg), (c9 (3 : Int32).toNatClampNeg), c2, c3, c4, c5, c6, c7, c8, c9, c10, c11)
def f9_isRow (rowMany_ : Int32) (p1 : Int32) (p2 : Int32) : Option (Int32) :=
  Option.bind (f9_in p1 (0 : Int32) (rowMany_ - (1 : Int32))) fun (v1 : Int32) =>
  if v1 = (0 : Int32) then
    some (0 : Int32)
  else
    Option.bind (f9_in p2 (0 : Int32) (2 : Int32)) fun (v2 : Int32) =>
    if v2 = (0 : Int32) then
      some (0 : Int32)
    else
      some (1 : Int32)
def f9_alterRow (rowMany_ : Int32) (rows_ : (Nat → Int32)) (p1 : Int32) (p2 : Int32) (p3 : Int32) : Option (Int32 × (Nat → Int32)) :=
  Option.bind (f9_isRow rowMany_ p1 p2) fun (v1 : Int32) =>
  if v1 = (0 : Int32) then
    some ((-9 : Int32), rows_)
  else
    gd (ix (((3 : Int32) * p1) + p2) 108) <|
    gd (ix (((3 : Int32) * p1) + p2) 108) <|
    some ((rows_ (((3 : Int32) * p1) + p2).toNatClampNeg), (upd rows_ (((3 : Int32) * p1) + p2).toNatClampNeg p3))
def f9_isSide (p0 : Int32) : Option (Int32) :=
  Option.bind (f9_in p0 (0 : Int32) (1 : Int32)) fun (v1 : Int32) =>
  gd (bz v1) <|
  some v1
def f9_oneIn (claim_ : (Nat → Int32)) (oneOf_ : (Nat → Int32)) (p1 : Int32) (p2 : Int32) : Option (Int32) :=
  Option.bind (f9_its claim_ p1 ((5 : Int32) + p2)) fun (v1 : Int32) =>
  if (0 : Int32) ≤ v1 then
    gd (ix v1 10) <|
    some (oneOf_ v1.toNatClampNeg)
  else
    some (-1 : Int32)
def f9_isHubOne_L2 (people_ : Int32) (isHub_ : (Nat → Int32)) (oneOf_ : (Nat → Int32)) (p1 : Int32) : Nat → Int32 → (Int32 → Option (Int32)) → Option (Int32)
  | 0, _, _ => none
  | n3 + 1, x1, K2 =>
    if people_ ≤ x1 then
      K2 x1
    else
      gd (ix x1 10) <|
      jn (
        f9_isHubOne_L2 people_ isHub_ oneOf_ p1 n3 (x1 + (1 : Int32)) K2) fun (J5 : Option (Int32)) =>
      if (oneOf_ x1.toNatClampNeg) = p1 then
        gd (ix x1 10) <|
        if (isHub_ x1.toNatClampNeg) = (1 : Int32) then
          some (1 : Int32)
        else
          J5
      else
        J5
def f9_isHubOne (people_ : Int32) (isHub_ : (Nat → Int32)) (oneOf_ : (Nat → Int32)) (p1 : Int32) : Option (Int32) :=
  jn (fun (x1 : Int32) =>
    some (0 : Int32)) fun (K2 : Int32 → Option (Int32)) =>
  f9_isHubOne_L2 people_ isHub_ oneOf_ p1 FU (0 : Int32) K2
def f9_weighs (claim_ : (Nat → Int32)) (p1 : Int32) (p2 : Int32) : Option (Int32) :=
  jn (fun (s2 : Int32) =>
    Option.bind (f9_its claim_ p1 (0 : Int32)) fun (v3 : Int32) =>
    if v3 = (1 : Int32) then
      some s2
    else
    if v3 = (2 : Int32) then
      some (p2 / (2 : Int32))
    else
    if v3 = (3 : Int32) then
      some ((2 : Int32) * s2)
    else
    if v3 = (4 : Int32) then
      if (p2 / (2 : Int32)) ≤ (0 : Int32) then
        some (0 : Int32)
      else
        some ((p2 / (2 : Int32)) - (1 : Int32))
    else
    if v3 = (5 : Int32) then
      Option.bind (f9_its claim_ p1 (4 : Int32)) fun (v10 : Int32) =>
      some (p2 + (v10 / (10 : Int32)))
    else
      some p2) fun (J1 : Int32 → Option (Int32)) =>
  if p2 ≤ (0 : Int32) then
    J1 (0 : Int32)
  else
    J1 (p2 + (1 : Int32))
def f9_strengthOf_L38 (people_ : Int32) (claim_ : (Nat → Int32)) (isHub_ : (Nat → Int32)) (laws_ : (Nat → Int32)) (oneOf_ : (Nat → Int32)) (s2 : Int32) (s4 : Int32) (x6 : Int32) : Nat → Int32 → Int32 → (Int32 → Int32 → Option (Int32)) → Option (Int32)
  | 0, _, _, _ => none
  | n12 + 1, x9, x10, K11 =>
    if (4 : Int32) ≤ x10 then
      K11 x9 x10
    else
      Option.bind (f9_oneIn claim_ oneOf_ s2 x6) fun (v13 : Int32) =>
      jn (fun (s15 : Int32) =>
        jn (fun (y17 : Int32) =>
          f9_strengthOf_L38 people_ claim_ isHub_ laws_ oneOf_ s2 s4 x6 n12 y17 (x10 + (1 : Int32)) K11) fun (J16 : Int32 → Option (Int32)) =>
        if s15 = (0 : Int32) then
          J16 x9
        else
          Option.bind (f9_isHubOne people_ isHub_ oneOf_ v13) fun (v18 : Int32) =>
          if v18 = (0 : Int32) then
            jn (fun (s20 : Int32) =>
              gd (ix s20 7) <|
              J16 (x9 + (laws_ s20.toNatClampNeg))) fun (J19 : Int32 → Option (Int32)) =>
            if x6 = x10 then
              J19 (0 : Int32)
            else
            if (x6 + x10) = (1 : Int32) then
              J19 (1 : Int32)
            else
              J19 (2 : Int32)
          else
            J16 x9) fun (J14 : Int32 → Option (Int32)) =>
      jn (
        J14 (0 : Int32)) fun (J26 : Option (Int32)) =>
      if v13 < (0 : Int32) then
        J26
      else
        Option.bind (f9_oneIn claim_ oneOf_ s4 x10) fun (v27 : Int32) =>
        if v13 = v27 then
          J14 (1 : Int32)
        else
          J26
def f9_strengthOf_L29 (people_ : Int32) (claim_ : (Nat → Int32)) (isHub_ : (Nat → Int32)) (laws_ : (Nat → Int32)) (oneOf_ : (Nat → Int32)) (s2 : Int32) (s4 : Int32) : Nat → Int32 → Int32 → (Int32 → Int32 → Option (Int32)) → Option (Int32)
  | 0, _, _, _ => none
  | n8 + 1, x5, x6, K7 =>
    if (4 : Int32) ≤ x6 then
      K7 x5 x6
    else
      jn (fun (x9 : Int32) (x10 : Int32) =>
        f9_strengthOf_L29 people_ claim_ isHub_ laws_ oneOf_ s2 s4 n8 x9 (x6 + (1 : Int32)) K7) fun (K11 : Int32 → Int32 → Option (Int32)) =>
      f9_strengthOf_L38 people_ claim_ isHub_ laws_ oneOf_ s2 s4 x6 FU x5 (0 : Int32) K11
def f9_strengthOf (people_ : Int32) (claim_ : (Nat → Int32)) (isHub_ : (Nat → Int32)) (laws_ : (Nat → Int32)) (oneOf_ : (Nat → Int32)) (p1 : Int32) (p2 : Int32) : Option (Int32) :=
  jn (fun (s2 : Int32) =>
    jn (fun (s4 : Int32) =>
      jn (fun (x5 : Int32) (x6 : Int32) =>
        Option.bind (f9_its claim_ s2 (3 : Int32)) fun (v32 : Int32) =>
        jn (fun (s34 : Int32) =>
          Option.bind (f9_weighs claim_ s2 (x5 + s34)) fun (v35 : Int32) =>
          Option.bind (f9_weighs claim_ s4 v35) fun (v36 : Int32) =>
          some v36) fun (J33 : Int32 → Option (Int32)) =>
        jn (
          J33 (0 : Int32)) fun (J37 : Option (Int32)) =>
        if v32 = (0 : Int32) then
          J37
        else
          Option.bind (f9_its claim_ s2 (3 : Int32)) fun (v38 : Int32) =>
          Option.bind (f9_its claim_ s4 (3 : Int32)) fun (v39 : Int32) =>
          if v38 = v39 then
            gd (ix (3 : Int32) 7) <|
            J33 (laws_ (3 : Int32).toNatClampNeg)
          else
            J37) fun (K7 : Int32 → Int32 → Option (Int32)) =>
      f9_strengthOf_L29 people_ claim_ isHub_ laws_ oneOf_ s2 s4 FU (0 : Int32) (0 : Int32) K7) fun (J3 : Int32 → Option (Int32)) =>
    if p2 ≤ p1 then
      J3 p1
    else
      J3 p2) fun (J1 : Int32 → Option (Int32)) =>
  if p2 ≤ p1 then
    J1 p2
  else
    J1 p1
def f9_likelyOf_L4 (claims_ : Int32) (people_ : Int32) (claim_ : (Nat → Int32)) (isHub_ : (Nat → Int32)) (laws_ : (Nat → Int32)) (oneOf_ : (Nat → Int32)) (p1 : Int32) : Nat → Int32 → Int32 → (Int32 → Int32 → Option (Int32)) → Option (Int32)
  | 0, _, _, _ => none
  | n4 + 1, x1, x2, K3 =>
    if claims_ ≤ x2 then
      K3 x1 x2
    else
      jn (fun (s6 : Int32) =>
        f9_likelyOf_L4 claims_ people_ claim_ isHub_ laws_ oneOf_ p1 n4 (x1 + s6) (x2 + (1 : Int32)) K3) fun (J5 : Int32 → Option (Int32)) =>
      if x2 = p1 then
        J5 (0 : Int32)
      else
        Option.bind (f9_strengthOf people_ claim_ isHub_ laws_ oneOf_ x2 p1) fun (v7 : Int32) =>
        J5 v7
def f9_likelyOf (claims_ : Int32) (people_ : Int32) (claim_ : (Nat → Int32)) (isHub_ : (Nat → Int32)) (laws_ : (Nat → Int32)) (oneOf_ : (Nat → Int32)) (p1 : Int32) : Option (Int32) :=
  jn (fun (x1 : Int32) (x2 : Int32) =>
    if x1 ≤ (9 : Int32) then
      some x1
    else
      some (9 : Int32)) fun (K3 : Int32 → Int32 → Option (Int32)) =>
  f9_likelyOf_L4 claims_ people_ claim_ isHub_ laws_ oneOf_ p1 FU (0 : Int32) (0 : Int32) K3
def f9_peopleIn_L4 (claim_ : (Nat → Int32)) (p1 : Int32) : Nat → Int32 → Int32 → (Int32 → Int32 → Option (Int32)) → Option (Int32)
  | 0, _, _, _ => none
  | n4 + 1, x1, x2, K3 =>
    if (4 : Int32) ≤ x2 then
      K3 x1 x2
    else
      Option.bind (f9_its claim_ p1 ((5 : Int32) + x2)) fun (v5 : Int32) =>
      jn (fun (s7 : Int32) =>
        f9_peopleIn_L4 claim_ p1 n4 (x1 + s7) (x2 + (1 : Int32)) K3) fun (J6 : Int32 → Option (Int32)) =>
      if v5 < (0 : Int32) then
        J6 (0 : Int32)
      else
        J6 (1 : Int32)
def f9_peopleIn (claim_ : (Nat → Int32)) (p1 : Int32) : Option (Int32) :=
  jn (fun (x1 : Int32) (x2 : Int32) =>
    some x1) fun (K3 : Int32 → Int32 → Option (Int32)) =>
  f9_peopleIn_L4 claim_ p1 FU (0 : Int32) (0 : Int32) K3
def f9_best_L98 (claims_ : Int32) (c3 : (Nat → Int32)) (c4 : (Nat → Int32)) (x16 : Int32) : Nat → Int32 → Int32 → Int32 → (Int32 → Int32 → Int32 → Option (Int32 × (Nat → Int32) × (Nat → Int32))) → Option (Int32 × (Nat → Int32) × (Nat → Int32))
  | 0, _, _, _, _ => none
  | n23 + 1, x19, x20, x21, K22 =>
    if claims_ ≤ x21 then
      K22 x19 x20 x21
    else
      jn (fun (s25 : Int32) =>
        jn (fun (s27 : Int32) =>
          f9_best_L98 claims_ c3 c4 x16 n23 (x19 + s25) (x20 + s27) (x21 + (1 : Int32)) K22) fun (J26 : Int32 → Option (Int32 × (Nat → Int32) × (Nat → Int32))) =>
        if ((x16 >>> (x21 &&& 31)) &&& (1 : Int32)) = (1 : Int32) then
          gd (ix x21 9) <|
          J26 (c4 x21.toNatClampNeg)
        else
          J26 (0 : Int32)) fun (J24 : Int32 → Option (Int32 × (Nat → Int32) × (Nat → Int32))) =>
      if ((x16 >>> (x21 &&& 31)) &&& (1 : Int32)) = (1 : Int32) then
        gd (ix x21 9) <|
        J24 (c3 x21.toNatClampNeg)
      else
        J24 (0 : Int32)
def f9_best_L78 (claims_ : Int32) (laws_ : (Nat → Int32)) (c3 : (Nat → Int32)) (c4 : (Nat → Int32)) : Nat → Int32 → Int32 → Int32 → (Int32 → Int32 → Int32 → Option (Int32 × (Nat → Int32) × (Nat → Int32))) → Option (Int32 × (Nat → Int32) × (Nat → Int32))
  | 0, _, _, _, _ => none
  | n18 + 1, x14, x15, x16, K17 =>
    if ((1 : Int32) <<< (claims_ &&& 31)) ≤ x16 then
      K17 x14 x15 x16
    else
      jn (fun (x19 : Int32) (x20 : Int32) (x21 : Int32) =>
        gd (ix (5 : Int32) 7) <|
        jn (fun (y35 : Int32) (y36 : Int32) =>
          f9_best_L78 claims_ laws_ c3 c4 n18 y35 y36 (x16 + (1 : Int32)) K17) fun (J34 : Int32 → Int32 → Option (Int32 × (Nat → Int32) × (Nat → Int32))) =>
        if (laws_ (5 : Int32).toNatClampNeg) < x19 then
          J34 x14 x15
        else
        if x20 ≤ x15 then
          J34 x14 x15
        else
          J34 x16 x20) fun (K22 : Int32 → Int32 → Int32 → Option (Int32 × (Nat → Int32) × (Nat → Int32))) =>
      f9_best_L98 claims_ c3 c4 x16 FU (0 : Int32) (0 : Int32) (0 : Int32) K22
def f9_best_L11 (claims_ : Int32) (people_ : Int32) (claim_ : (Nat → Int32)) (isHub_ : (Nat → Int32)) (laws_ : (Nat → Int32)) (oneOf_ : (Nat → Int32)) : Nat → Int32 → (Nat → Int32) → (Nat → Int32) → (Int32 → (Nat → Int32) → (Nat → Int32) → Option (Int32 × (Nat → Int32) × (Nat → Int32))) → Option (Int32 × (Nat → Int32) × (Nat → Int32))
  | 0, _, _, _, _ => none
  | n6 + 1, x2, c3, c4, K5 =>
    if claims_ ≤ x2 then
      K5 x2 c3 c4
    else
      Option.bind (f9_likelyOf claims_ people_ claim_ isHub_ laws_ oneOf_ x2) fun (v7 : Int32) =>
      Option.bind (f9_peopleIn claim_ x2) fun (v8 : Int32) =>
      gd (ix x2 9) <|
      Option.bind (f9_its claim_ x2 (4 : Int32)) fun (v10 : Int32) =>
      gd (ix (6 : Int32) 7) <|
      gd (ix x2 9) <|
      f9_best_L11 claims_ people_ claim_ isHub_ laws_ oneOf_ n6 (x2 + (1 : Int32)) (upd c3 x2.toNatClampNeg ((1 : Int32) + v8)) (upd c4 x2.toNatClampNeg ((v7 * v10) - ((laws_ (6 : Int32).toNatClampNeg) * ((10 : Int32) - v7)))) K5
def f9_best (claims_ : Int32) (people_ : Int32) (claim_ : (Nat → Int32)) (hours_ : (Nat → Int32)) (isHub_ : (Nat → Int32)) (laws_ : (Nat → Int32)) (oneOf_ : (Nat → Int32)) (worth_ : (Nat → Int32)) (p1 : Int32) : Option (Int32 × (Nat → Int32) × (Nat → Int32)) :=
  Option.bind (f9_isSide p1) fun (v1 : Int32) =>
  if v1 = (0 : Int32) then
    some ((-1 : Int32), hours_, worth_)
  else
    jn (fun (x2 : Int32) (c3 : (Nat → Int32)) (c4 : (Nat → Int32)) =>
      jn (fun (x14 : Int32) (x15 : Int32) (x16 : Int32) =>
        if p1 = (0 : Int32) then
          some (x14, c3, c4)
        else
          some (((100000 : Int32) + x15), c3, c4)) fun (K17 : Int32 → Int32 → Int32 → Option (Int32 × (Nat → Int32) × (Nat → Int32))) =>
      f9_best_L78 claims_ laws_ c3 c4 FU (0 : Int32) (0 : Int32) (1 : Int32) K17) fun (K5 : Int32 → (Nat → Int32) → (Nat → Int32) → Option (Int32 × (Nat → Int32) × (Nat → Int32))) =>
    f9_best_L11 claims_ people_ claim_ isHub_ laws_ oneOf_ FU (0 : Int32) hours_ worth_ K5
def f9_claim_L126 (claims_ : Int32) : Nat → Int32 → (Nat → Int32) → (Int32 → (Nat → Int32) → Option (Int32 × Int32 × (Nat → Int32))) → Option (Int32 × Int32 × (Nat → Int32))
  | 0, _, _, _ => none
  | n14 + 1, x11, c12, K13 =>
    if (4 : Int32) ≤ x11 then
      K13 x11 c12
    else
      gd (ix ((((11 : Int32) * claims_) + (5 : Int32)) + x11) 99) <|
      f9_claim_L126 claims_ n14 (x11 + (1 : Int32)) (upd c12 ((((11 : Int32) * claims_) + (5 : Int32)) + x11).toNatClampNeg (-1 : Int32)) K13
def f9_claim (claims_ : Int32) (claim_ : (Nat → Int32)) (p1 : Int32) (p2 : Int32) (p3 : Int32) (p4 : Int32) (p5 : Int32) : Option (Int32 × Int32 × (Nat → Int32)) :=
  Option.bind (f9_in p1 (0 : Int32) (5 : Int32)) fun (v1 : Int32) =>
  if v1 = (0 : Int32) then
    some ((-1 : Int32), claims_, claim_)
  else
    Option.bind (f9_in p2 (0 : Int32) (99 : Int32)) fun (v2 : Int32) =>
    if v2 = (0 : Int32) then
      some ((-1 : Int32), claims_, claim_)
    else
      Option.bind (f9_in p3 (0 : Int32) (3 : Int32)) fun (v3 : Int32) =>
      if v3 = (0 : Int32) then
        some ((-1 : Int32), claims_, claim_)
      else
        Option.bind (f9_in p4 (0 : Int32) (9 : Int32)) fun (v4 : Int32) =>
        if v4 = (0 : Int32) then
          some ((-1 : Int32), claims_, claim_)
        else
          Option.bind (f9_in p5 (0 : Int32) (99 : Int32)) fun (v5 : Int32) =>
          if v5 = (0 : Int32) then
            some ((-1 : Int32), claims_, claim_)
          else
          if claims_ = (9 : Int32) then
            some ((-2 : Int32), claims_, claim_)
          else
            gd (ix ((11 : Int32) * claims_) 99) <|
            gd (ix (((11 : Int32) * claims_) + (1 : Int32)) 99) <|
            gd (ix (((11 : Int32) * claims_) + (2 : Int32)) 99) <|
            gd (ix (((11 : Int32) * claims_) + (3 : Int32)) 99) <|
            gd (ix (((11 : Int32) * claims_) + (4 : Int32)) 99) <|
            jn (fun (x11 : Int32) (c12 : (Nat → Int32)) =>
              gd (ix (((11 : Int32) * claims_) + (9 : Int32)) 99) <|
              gd (ix (((11 : Int32) * claims_) + (10 : Int32)) 99) <|
              some (((claims_ + (1 : Int32)) - (1 : Int32)), (claims_ + (1 : Int32)), (upd (upd c12 (((11 : Int32) * claims_) + (9 : Int32)).toNatClampNeg (0 : Int32)) (((11 : Int32) * claims_) + (10 : Int32)).toNatClampNeg (0 : Int32)))) fun (K13 : Int32 → (Nat → Int32) → Option (Int32 × Int32 × (Nat → Int32))) =>
            f9_claim_L126 claims_ FU (0 : Int32) (upd (upd (upd (upd (upd claim_ ((11 : Int32) * claims_).toNatClampNeg p1) (((11 : Int32) * claims_) + (1 : Int32)).toNatClampNeg p2) (((11 : Int32) * claims_) + (2 : Int32)).toNatClampNeg p3) (((11 : Int32) * claims_) + (3 : Int32)).toNatClampNeg p4) (((11 : Int32) * claims_) + (4 : Int32)).toNatClampNeg p5) K13
def f9_orNobody (p0 : Int32) : Option (Int32) :=
  if (0 : Int32) ≤ p0 then
    some p0
  else
    some (-9 : Int32)
def f9_claimOf (claims_ : Int32) (claim_ : (Nat → Int32)) (p1 : Int32) (p2 : Int32) : Option (Int32) :=
  Option.bind (f9_isClaim claims_ p1) fun (v1 : Int32) =>
  if v1 = (0 : Int32) then
    some (-1 : Int32)
  else
    Option.bind (f9_in p2 (0 : Int32) (4 : Int32)) fun (v2 : Int32) =>
    jn (
      if (10 : Int32) ≤ p2 then
        Option.bind (f9_its claim_ p1 (((5 : Int32) + p2) - (10 : Int32))) fun (v4 : Int32) =>
        Option.bind (f9_orNobody v4) fun (v5 : Int32) =>
        some v5
      else
        Option.bind (f9_its claim_ p1 p2) fun (v6 : Int32) =>
        some v6) fun (J3 : Option (Int32)) =>
    if v2 = (0 : Int32) then
      Option.bind (f9_in p2 (10 : Int32) (13 : Int32)) fun (v8 : Int32) =>
      if v8 = (0 : Int32) then
        some (-1 : Int32)
      else
        J3
    else
      J3
def f9_foundMany_L4 (claims_ : Int32) (claim_ : (Nat → Int32)) : Nat → Int32 → Int32 → (Int32 → Int32 → Option (Int32)) → Option (Int32)
  | 0, _, _, _ => none
  | n4 + 1, x1, x2, K3 =>
    if claims_ ≤ x2 then
      K3 x1 x2
    else
      Option.bind (f9_its claim_ x2 (9 : Int32)) fun (v5 : Int32) =>
      jn (fun (s7 : Int32) =>
        f9_foundMany_L4 claims_ claim_ n4 (x1 + s7) (x2 + (1 : Int32)) K3) fun (J6 : Int32 → Option (Int32)) =>
      if v5 ≤ (0 : Int32) then
        J6 (0 : Int32)
      else
        J6 (1 : Int32)
def f9_foundMany (claims_ : Int32) (claim_ : (Nat → Int32)) : Option (Int32) :=
  jn (fun (x1 : Int32) (x2 : Int32) =>
    some x1) fun (K3 : Int32 → Int32 → Option (Int32)) =>
  f9_foundMany_L4 claims_ claim_ FU (0 : Int32) (0 : Int32) K3
def f9_draw_L45 (claim_ : (Nat → Int32)) : Nat → Int32 → Int32 → (Int32 → Int32 → Option (Int32 × Int32)) → Option (Int32 × Int32)
  | 0, _, _, _ => none
  | n6 + 1, x3, x4, K5 =>
    Option.bind (f9_its claim_ x4 (9 : Int32)) fun (v7 : Int32) =>
    jn (
      Option.bind (f9_its claim_ x4 (9 : Int32)) fun (v9 : Int32) =>
      jn (fun (s11 : Int32) =>
        f9_draw_L45 claim_ n6 (x3 - s11) (x4 + (1 : Int32)) K5) fun (J10 : Int32 → Option (Int32 × Int32)) =>
      if v9 ≤ (0 : Int32) then
        J10 (1 : Int32)
      else
        J10 (0 : Int32)) fun (J8 : Option (Int32 × Int32)) =>
    if (0 : Int32) < v7 then
      J8
    else
    if x3 ≤ (0 : Int32) then
      K5 x3 x4
    else
      J8
def f9_draw (claims_ : Int32) (z_ : Int32) (claim_ : (Nat → Int32)) : Option (Int32 × Int32) :=
  Option.bind (f9_foundMany claims_ claim_) fun (v1 : Int32) =>
  if (claims_ - v1) = (0 : Int32) then
    some ((-3 : Int32), z_)
  else
    gd (nz (claims_ - v1)) <|
    jn (fun (x3 : Int32) (x4 : Int32) =>
      some (x4, ((z_ * (1103515245 : Int32)) + (12345 : Int32)))) fun (K5 : Int32 → Int32 → Option (Int32 × Int32)) =>
    f9_draw_L45 claim_ FU ((((z_ * (1103515245 : Int32)) + (12345 : Int32)).toUInt32 >>> ((16 : Int32).toUInt32 &&& Int32.toUInt32 31)).toInt32 - (((z_ * (1103515245 : Int32)) + (12345 : Int32)).toUInt32 >>> ((16 : Int32).toUInt32 &&& Int32.toUInt32 31)).toInt32 / (claims_ - v1) * (claims_ - v1)) (0 : Int32) K5
def f9_feed_L30 (p1 : Int64) (p3 : Int32) : Nat → Int32 → Int32 → (Nat → Int32) → (Int32 → Int32 → (Nat → Int32) → Option (Int32 × Int32 × (Nat → Int32))) → Option (Int32 × Int32 × (Nat → Int32))
  | 0, _, _, _, _ => none
  | n6 + 1, x2, c3, c4, K5 =>
    if p3 ≤ x2 then
      K5 x2 c3 c4
    else
      gd (ix c3 200) <|
      f9_feed_L30 p1 p3 n6 (x2 + (1 : Int32)) (c3 + (1 : Int32)) (upd c4 c3.toNatClampNeg (((p1 >>> (((8 : Int32) * x2).toInt64 &&& 63)) &&& (255 : Int64))).toInt32) K5
def f9_feed (tapeMany_ : Int32) (tape_ : (Nat → Int32)) (p1 : Int64) (p3 : Int32) : Option (Int32 × Int32 × (Nat → Int32)) :=
  Option.bind (f9_in p3 (1 : Int32) (8 : Int32)) fun (v1 : Int32) =>
  if v1 = (0 : Int32) then
    some ((-1 : Int32), tapeMany_, tape_)
  else
  if (tapeMany_ + p3) ≤ (200 : Int32) then
    jn (fun (x2 : Int32) (c3 : Int32) (c4 : (Nat → Int32)) =>
      some (c3, c3, c4)) fun (K5 : Int32 → Int32 → (Nat → Int32) → Option (Int32 × Int32 × (Nat → Int32))) =>
    f9_feed_L30 p1 p3 FU (0 : Int32) tapeMany_ tape_ K5
  else
    some ((-2 : Int32), tapeMany_, tape_)
def f9_found (claims_ : Int32) (claim_ : (Nat → Int32)) (p1 : Int32) (p2 : Int32) (p3 : Int32) : Option (Int32 × (Nat → Int32)) :=
  Option.bind (f9_isClaim claims_ p1) fun (v1 : Int32) =>
  if v1 = (0 : Int32) then
    some ((-1 : Int32), claim_)
  else
    Option.bind (f9_in p2 (-1 : Int32) (1 : Int32)) fun (v2 : Int32) =>
    if v2 = (0 : Int32) then
      some ((-1 : Int32), claim_)
    else
      Option.bind (f9_its claim_ p1 (9 : Int32)) fun (v3 : Int32) =>
      gd (ix (((11 : Int32) * p1) + (9 : Int32)) 99) <|
      jn (fun (s6 : Int32) =>
        gd (ix (((11 : Int32) * p1) + (10 : Int32)) 99) <|
        if v3 = (0 : Int32) then
          some ((-9 : Int32), (upd (upd claim_ (((11 : Int32) * p1) + (9 : Int32)).toNatClampNeg (p2 + (1 : Int32))) (((11 : Int32) * p1) + (10 : Int32)).toNatClampNeg s6))
        else
          some ((v3 - (1 : Int32)), (upd (upd claim_ (((11 : Int32) * p1) + (9 : Int32)).toNatClampNeg (p2 + (1 : Int32))) (((11 : Int32) * p1) + (10 : Int32)).toNatClampNeg s6))) fun (J5 : Int32 → Option (Int32 × (Nat → Int32))) =>
      if p3 = (0 : Int32) then
        J5 (0 : Int32)
      else
        J5 (1 : Int32)
def f9_tiedTo_L4 (claims_ : Int32) (people_ : Int32) (claim_ : (Nat → Int32)) (isHub_ : (Nat → Int32)) (laws_ : (Nat → Int32)) (oneOf_ : (Nat → Int32)) (p1 : Int32) : Nat → Int32 → Int32 → (Int32 → Int32 → Option (Int32)) → Option (Int32)
  | 0, _, _, _ => none
  | n4 + 1, x1, x2, K3 =>
    if claims_ ≤ x2 then
      K3 x1 x2
    else
      jn (fun (s6 : Int32) =>
        f9_tiedTo_L4 claims_ people_ claim_ isHub_ laws_ oneOf_ p1 n4 (x1 ||| s6) (x2 + (1 : Int32)) K3) fun (J5 : Int32 → Option (Int32)) =>
      jn (
        J5 (0 : Int32)) fun (J7 : Option (Int32)) =>
      if x2 = p1 then
        J7
      else
        Option.bind (f9_strengthOf people_ claim_ isHub_ laws_ oneOf_ x2 p1) fun (v8 : Int32) =>
        if v8 ≤ (0 : Int32) then
          J7
        else
          J5 ((1 : Int32) <<< (x2 &&& 31))
def f9_tiedTo (claims_ : Int32) (people_ : Int32) (claim_ : (Nat → Int32)) (isHub_ : (Nat → Int32)) (laws_ : (Nat → Int32)) (oneOf_ : (Nat → Int32)) (p1 : Int32) : Option (Int32) :=
  jn (fun (x1 : Int32) (x2 : Int32) =>
    some x1) fun (K3 : Int32 → Int32 → Option (Int32)) =>
  f9_tiedTo_L4 claims_ people_ claim_ isHub_ laws_ oneOf_ p1 FU (0 : Int32) (0 : Int32) K3
def f9_hang_L26 (claims_ : Int32) (people_ : Int32) (claim_ : (Nat → Int32)) (isHub_ : (Nat → Int32)) (laws_ : (Nat → Int32)) (oneOf_ : (Nat → Int32)) (x3 : Int32) : Nat → Int32 → Int32 → (Int32 → Int32 → Option (Int32)) → Option (Int32)
  | 0, _, _, _ => none
  | n9 + 1, x6, x7, K8 =>
    if claims_ ≤ x7 then
      K8 x6 x7
    else
      jn (fun (s11 : Int32) =>
        f9_hang_L26 claims_ people_ claim_ isHub_ laws_ oneOf_ x3 n9 (x6 ||| s11) (x7 + (1 : Int32)) K8) fun (J10 : Int32 → Option (Int32)) =>
      if ((x3 >>> (x7 &&& 31)) &&& (1 : Int32)) = (1 : Int32) then
        Option.bind (f9_tiedTo claims_ people_ claim_ isHub_ laws_ oneOf_ x7) fun (v12 : Int32) =>
        J10 v12
      else
        J10 (0 : Int32)
def f9_hang_L16 (claims_ : Int32) (people_ : Int32) (claim_ : (Nat → Int32)) (isHub_ : (Nat → Int32)) (laws_ : (Nat → Int32)) (oneOf_ : (Nat → Int32)) : Nat → Int32 → Int32 → (Int32 → Int32 → Option (Int32)) → Option (Int32)
  | 0, _, _, _ => none
  | n5 + 1, x2, x3, K4 =>
    if x3 = x2 then
      K4 x2 x3
    else
      jn (fun (x6 : Int32) (x7 : Int32) =>
        f9_hang_L16 claims_ people_ claim_ isHub_ laws_ oneOf_ n5 x3 x6 K4) fun (K8 : Int32 → Int32 → Option (Int32)) =>
      f9_hang_L26 claims_ people_ claim_ isHub_ laws_ oneOf_ x3 FU x3 (0 : Int32) K8
def f9_hang (claims_ : Int32) (people_ : Int32) (claim_ : (Nat → Int32)) (isHub_ : (Nat → Int32)) (laws_ : (Nat → Int32)) (oneOf_ : (Nat → Int32)) (p1 : Int32) : Option (Int32) :=
  Option.bind (f9_isClaim claims_ p1) fun (v1 : Int32) =>
  if v1 = (0 : Int32) then
    some (-1 : Int32)
  else
    jn (fun (x2 : Int32) (x3 : Int32) =>
      some x3) fun (K4 : Int32 → Int32 → Option (Int32)) =>
    f9_hang_L16 claims_ people_ claim_ isHub_ laws_ oneOf_ FU (0 : Int32) ((1 : Int32) <<< (p1 &&& 31)) K4
def f9_findStrengths_L14 (claims_ : Int32) (people_ : Int32) (claim_ : (Nat → Int32)) (isHub_ : (Nat → Int32)) (laws_ : (Nat → Int32)) (oneOf_ : (Nat → Int32)) (x1 : Int32) : Nat → Int32 → (Nat → Int32) → (Int32 → (Nat → Int32) → Option ((Nat → Int32))) → Option ((Nat → Int32))
  | 0, _, _, _ => none
  | n8 + 1, x5, c6, K7 =>
    if claims_ ≤ x5 then
      K7 x5 c6
    else
      Option.bind (f9_strengthOf people_ claim_ isHub_ laws_ oneOf_ x1 x5) fun (v9 : Int32) =>
      gd (ix (((9 : Int32) * x1) + x5) 81) <|
      f9_findStrengths_L14 claims_ people_ claim_ isHub_ laws_ oneOf_ x1 n8 (x5 + (1 : Int32)) (upd c6 (((9 : Int32) * x1) + x5).toNatClampNeg v9) K7
def f9_findStrengths_L2 (claims_ : Int32) (people_ : Int32) (claim_ : (Nat → Int32)) (isHub_ : (Nat → Int32)) (laws_ : (Nat → Int32)) (oneOf_ : (Nat → Int32)) : Nat → Int32 → (Nat → Int32) → (Int32 → (Nat → Int32) → Option ((Nat → Int32))) → Option ((Nat → Int32))
  | 0, _, _, _ => none
  | n4 + 1, x1, c2, K3 =>
    if claims_ ≤ x1 then
      K3 x1 c2
    else
      jn (fun (x5 : Int32) (c6 : (Nat → Int32)) =>
        f9_findStrengths_L2 claims_ people_ claim_ isHub_ laws_ oneOf_ n4 (x1 + (1 : Int32)) c6 K3) fun (K7 : Int32 → (Nat → Int32) → Option ((Nat → Int32))) =>
      f9_findStrengths_L14 claims_ people_ claim_ isHub_ laws_ oneOf_ x1 FU (x1 + (1 : Int32)) c2 K7
def f9_findStrengths (claims_ : Int32) (people_ : Int32) (claim_ : (Nat → Int32)) (isHub_ : (Nat → Int32)) (laws_ : (Nat → Int32)) (oneOf_ : (Nat → Int32)) (strength_ : (Nat → Int32)) : Option ((Nat → Int32)) :=
  jn (fun (x1 : Int32) (c2 : (Nat → Int32)) =>
    some c2) fun (K3 : Int32 → (Nat → Int32) → Option ((Nat → Int32))) =>
  f9_findStrengths_L2 claims_ people_ claim_ isHub_ laws_ oneOf_ FU (0 : Int32) strength_ K3
def f9_ones_L4  : Nat → Int32 → Int32 → (Int32 → Int32 → Option (Int32)) → Option (Int32)
  | 0, _, _, _ => none
  | n4 + 1, x1, x2, K3 =>
    if x2 = (0 : Int32) then
      K3 x1 x2
    else
      f9_ones_L4 n4 (x1 + (1 : Int32)) (x2 &&& (x2 - (1 : Int32))) K3
def f9_ones (p0 : Int32) : Option (Int32) :=
  jn (fun (x1 : Int32) (x2 : Int32) =>
    some x1) fun (K3 : Int32 → Int32 → Option (Int32)) =>
  f9_ones_L4 FU (0 : Int32) p0 K3
def f9_scoreOf_L29 (claims_ : Int32) (strength_ : (Nat → Int32)) (p1 : Int32) (x4 : Int32) : Nat → Int32 → Int32 → (Int32 → Int32 → Option (Int32)) → Option (Int32)
  | 0, _, _, _ => none
  | n10 + 1, x7, x8, K9 =>
    if claims_ ≤ x8 then
      K9 x7 x8
    else
      jn (fun (s12 : Int32) =>
        f9_scoreOf_L29 claims_ strength_ p1 x4 n10 (x7 + s12) (x8 + (1 : Int32)) K9) fun (J11 : Int32 → Option (Int32)) =>
      jn (
        J11 (0 : Int32)) fun (J13 : Option (Int32)) =>
      if ((p1 >>> (x4 &&& 31)) &&& (1 : Int32)) = (1 : Int32) then
        if ((p1 >>> (x8 &&& 31)) &&& (1 : Int32)) = (1 : Int32) then
          gd (ix (((9 : Int32) * x4) + x8) 81) <|
          J11 (strength_ (((9 : Int32) * x4) + x8).toNatClampNeg)
        else
          J13
      else
        J13
def f9_scoreOf_L16 (claims_ : Int32) (strength_ : (Nat → Int32)) (p1 : Int32) : Nat → Int32 → Int32 → (Int32 → Int32 → Option (Int32)) → Option (Int32)
  | 0, _, _, _ => none
  | n6 + 1, x3, x4, K5 =>
    if claims_ ≤ x4 then
      K5 x3 x4
    else
      jn (fun (x7 : Int32) (x8 : Int32) =>
        f9_scoreOf_L16 claims_ strength_ p1 n6 x7 (x4 + (1 : Int32)) K5) fun (K9 : Int32 → Int32 → Option (Int32)) =>
      f9_scoreOf_L29 claims_ strength_ p1 x4 FU x3 (x4 + (1 : Int32)) K9
def f9_scoreOf (claims_ : Int32) (laws_ : (Nat → Int32)) (strength_ : (Nat → Int32)) (p1 : Int32) : Option (Int32) :=
  gd (ix (4 : Int32) 7) <|
  Option.bind (f9_ones p1) fun (v2 : Int32) =>
  jn (fun (x3 : Int32) (x4 : Int32) =>
    some x3) fun (K5 : Int32 → Int32 → Option (Int32)) =>
  f9_scoreOf_L16 claims_ strength_ p1 FU ((0 : Int32) - ((laws_ (4 : Int32).toNatClampNeg) * v2)) (0 : Int32) K5
def f9_findLot_L14 (claims_ : Int32) (laws_ : (Nat → Int32)) (c1 : (Nat → Int32)) : Nat → Int32 → Int32 → Int32 → (Int32 → Int32 → Int32 → Option (Int32 × Int32 × (Nat → Int32))) → Option (Int32 × Int32 × (Nat → Int32))
  | 0, _, _, _, _ => none
  | n6 + 1, x2, x3, c4, K5 =>
    if ((1 : Int32) <<< (claims_ &&& 31)) ≤ x3 then
      K5 x2 x3 c4
    else
      Option.bind (f9_ones x3) fun (v7 : Int32) =>
      jn (fun (y9 : Int32) (c10 : Int32) =>
        f9_findLot_L14 claims_ laws_ c1 n6 y9 (x3 + (1 : Int32)) c10 K5) fun (J8 : Int32 → Int32 → Option (Int32 × Int32 × (Nat → Int32))) =>
      if (2 : Int32) ≤ v7 then
        Option.bind (f9_scoreOf claims_ laws_ c1 x3) fun (v11 : Int32) =>
        jn (fun (s13 : Int32) =>
          jn (fun (s15 : Int32) =>
            jn (fun (s17 : Int32) =>
              J8 s15 s17) fun (J16 : Int32 → Option (Int32 × Int32 × (Nat → Int32))) =>
            if s13 = (0 : Int32) then
              J16 c4
            else
              J16 v11) fun (J14 : Int32 → Option (Int32 × Int32 × (Nat → Int32))) =>
          if s13 = (0 : Int32) then
            J14 x2
          else
            J14 x3) fun (J12 : Int32 → Option (Int32 × Int32 × (Nat → Int32))) =>
        jn (
          J12 (1 : Int32)) fun (J20 : Option (Int32 × Int32 × (Nat → Int32))) =>
        if x2 < (0 : Int32) then
          J20
        else
        if c4 < v11 then
          J20
        else
          jn (
            J12 (0 : Int32)) fun (J21 : Option (Int32 × Int32 × (Nat → Int32))) =>
          if v11 = c4 then
            Option.bind (f9_ones x3) fun (v22 : Int32) =>
            Option.bind (f9_ones x2) fun (v23 : Int32) =>
            if v23 ≤ v22 then
              J21
            else
              J20
          else
            J21
      else
        J8 x2 c4
def f9_findLot (claims_ : Int32) (lotScore_ : Int32) (people_ : Int32) (claim_ : (Nat → Int32)) (isHub_ : (Nat → Int32)) (laws_ : (Nat → Int32)) (oneOf_ : (Nat → Int32)) (strength_ : (Nat → Int32)) : Option (Int32 × Int32 × (Nat → Int32)) :=
  Option.bind (f9_findStrengths claims_ people_ claim_ isHub_ laws_ oneOf_ strength_) fun (c1 : (Nat → Int32)) =>
  jn (fun (x2 : Int32) (x3 : Int32) (c4 : Int32) =>
    some (x2, c4, c1)) fun (K5 : Int32 → Int32 → Int32 → Option (Int32 × Int32 × (Nat → Int32))) =>
  f9_findLot_L14 claims_ laws_ c1 FU (-3 : Int32) (0 : Int32) (0 : Int32) K5
def f9_lotWithout (claims_ : Int32) (lotScore_ : Int32) (people_ : Int32) (claim_ : (Nat → Int32)) (isHub_ : (Nat → Int32)) (laws_ : (Nat → Int32)) (oneOf_ : (Nat → Int32)) (strength_ : (Nat → Int32)) (p1 : Int32) : Option (Int32 × Int32 × (Nat → Int32) × (Nat → Int32)) :=
  gd (ix p1 7) <|
  gd (ix p1 7) <|
  bn3 (f9_findLot claims_ lotScore_ people_ claim_ isHub_ (upd laws_ p1.toNatClampNeg (0 : Int32)) oneOf_ strength_) fun (v3 : Int32) (c4 : Int32) (c5 : (Nat → Int32)) =>
  gd (ix p1 7) <|
  some (v3, c4, (upd (upd laws_ p1.toNatClampNeg (0 : Int32)) p1.toNatClampNeg (laws_ p1.toNatClampNeg)), c5)
def f9_hold_L16 (claims_ : Int32) (people_ : Int32) (claim_ : (Nat → Int32)) (isHub_ : (Nat → Int32)) (oneOf_ : (Nat → Int32)) (v1 : Int32) : Nat → Int32 → Int32 → Int32 → (Nat → Int32) → (Nat → Int32) → (Int32 → Int32 → Int32 → (Nat → Int32) → (Nat → Int32) → Option (Int32 × Int32 × (Nat → Int32) × (Nat → Int32))) → Option (Int32 × Int32 × (Nat → Int32) × (Nat → Int32))
  | 0, _, _, _, _, _, _ => none
  | n10 + 1, x4, x5, c6, c7, c8, K9 =>
    if (3 : Int32) < x5 then
      K9 x4 x5 c6 c7 c8
    else
      bn4 (f9_lotWithout claims_ c6 people_ claim_ isHub_ c7 oneOf_ c8 x5) fun (v11 : Int32) (c12 : Int32) (c13 : (Nat → Int32)) (c14 : (Nat → Int32)) =>
      jn (fun (s16 : Int32) =>
        f9_hold_L16 claims_ people_ claim_ isHub_ oneOf_ v1 n10 (x4 ||| s16) (x5 + (1 : Int32)) c12 c13 c14 K9) fun (J15 : Int32 → Option (Int32 × Int32 × (Nat → Int32) × (Nat → Int32))) =>
      if v11 = v1 then
        J15 ((1 : Int32) <<< (x5 &&& 31))
      else
        J15 (0 : Int32)
def f9_hold (claims_ : Int32) (lotScore_ : Int32) (people_ : Int32) (claim_ : (Nat → Int32)) (isHub_ : (Nat → Int32)) (laws_ : (Nat → Int32)) (oneOf_ : (Nat → Int32)) (strength_ : (Nat → Int32)) : Option (Int32 × Int32 × (Nat → Int32) × (Nat → Int32)) :=
  bn3 (f9_findLot claims_ lotScore_ people_ claim_ isHub_ laws_ oneOf_ strength_) fun (v1 : Int32) (c2 : Int32) (c3 : (Nat → Int32)) =>
  if (0 : Int32) ≤ v1 then
    jn (fun (x4 : Int32) (x5 : Int32) (c6 : Int32) (c7 : (Nat → Int32)) (c8 : (Nat → Int32)) =>
      some (x4, c6, c7, c8)) fun (K9 : Int32 → Int32 → Int32 → (Nat → Int32) → (Nat → Int32) → Option (Int32 × Int32 × (Nat → Int32) × (Nat → Int32))) =>
    f9_hold_L16 claims_ people_ claim_ isHub_ oneOf_ v1 FU (0 : Int32) (0 : Int32) c2 laws_ c3 K9
  else
    some ((-3 : Int32), c2, laws_, c3)
def f9_lacksSort (sorts_ : (Nat → Int32)) (p1 : Int32) (p2 : Int32) : Option (Int32) :=
  gd (ix p1 4) <|
  if (0 : Int32) ≤ (sorts_ p1.toNatClampNeg) then
    gd (ix p1 4) <|
    if (sorts_ p1.toNatClampNeg) = p2 then
      some (0 : Int32)
    else
      some (-13 : Int32)
  else
    some (-11 : Int32)
def f9_item (sizes_ : (Nat → Int32)) (sorts_ : (Nat → Int32)) (sheets_ : (Nat → Int64)) (p1 : Int32) (p2 : Int32) (p3 : Int32) : Option (Int32) :=
  Option.bind (f9_isShelf p1) fun (v1 : Int32) =>
  if v1 = (0 : Int32) then
    some (-1 : Int32)
  else
    Option.bind (f9_in p2 (0 : Int32) (3 : Int32)) fun (v2 : Int32) =>
    if v2 = (0 : Int32) then
      some (-1 : Int32)
    else
      Option.bind (f9_lacksSort sorts_ p1 p2) fun (v3 : Int32) =>
      if v3 = (0 : Int32) then
        gd (ix p1 4) <|
        Option.bind (f9_in p3 (0 : Int32) ((sizes_ p1.toNatClampNeg) - (1 : Int32))) fun (v5 : Int32) =>
        if v5 = (0 : Int32) then
          some (-12 : Int32)
        else
          gd (ix (((40 : Int32) * p1) + p3) 160) <|
          some ((sheets_ (((40 : Int32) * p1) + p3).toNatClampNeg)).toInt32
      else
        some v3
def f9_isPerson (people_ : Int32) (p1 : Int32) : Option (Int32) :=
  Option.bind (f9_in p1 (0 : Int32) (people_ - (1 : Int32))) fun (v1 : Int32) =>
  gd (bz v1) <|
  some v1
def f9_join_L44 (people_ : Int32) (oneOf_ : (Nat → Int32)) (p1 : Int32) (p2 : Int32) : Nat → Int32 → (Nat → Int32) → (Int32 → (Nat → Int32) → Option (Int32 × (Nat → Int32))) → Option (Int32 × (Nat → Int32))
  | 0, _, _, _ => none
  | n8 + 1, x5, c6, K7 =>
    if people_ ≤ x5 then
      K7 x5 c6
    else
      gd (ix x5 10) <|
      jn (fun (s11 : Int32) =>
        gd (ix x5 10) <|
        f9_join_L44 people_ oneOf_ p1 p2 n8 (x5 + (1 : Int32)) (upd c6 x5.toNatClampNeg s11) K7) fun (J10 : Int32 → Option (Int32 × (Nat → Int32))) =>
      jn (
        if (oneOf_ p2.toNatClampNeg) ≤ (oneOf_ p1.toNatClampNeg) then
          J10 (oneOf_ p2.toNatClampNeg)
        else
          J10 (oneOf_ p1.toNatClampNeg)) fun (J13 : Option (Int32 × (Nat → Int32))) =>
      if (c6 x5.toNatClampNeg) = (oneOf_ p1.toNatClampNeg) then
        J13
      else
        gd (ix x5 10) <|
        if (c6 x5.toNatClampNeg) = (oneOf_ p2.toNatClampNeg) then
          J13
        else
          gd (ix x5 10) <|
          J10 (c6 x5.toNatClampNeg)
def f9_join (people_ : Int32) (oneOf_ : (Nat → Int32)) (p1 : Int32) (p2 : Int32) : Option (Int32 × (Nat → Int32)) :=
  Option.bind (f9_isPerson people_ p1) fun (v1 : Int32) =>
  if v1 = (0 : Int32) then
    some ((-1 : Int32), oneOf_)
  else
    Option.bind (f9_isPerson people_ p2) fun (v2 : Int32) =>
    if v2 = (0 : Int32) then
      some ((-1 : Int32), oneOf_)
    else
      gd (ix p1 10) <|
      gd (ix p2 10) <|
      if (oneOf_ p1.toNatClampNeg) = (oneOf_ p2.toNatClampNeg) then
        some ((0 : Int32), oneOf_)
      else
        jn (fun (x5 : Int32) (c6 : (Nat → Int32)) =>
          some ((1 : Int32), c6)) fun (K7 : Int32 → (Nat → Int32) → Option (Int32 × (Nat → Int32))) =>
        f9_join_L44 people_ oneOf_ p1 p2 FU (0 : Int32) oneOf_ K7
def f9_findRows_L28 (claims_ : Int32) (v1 : Int32) (c3 : (Nat → Int32)) (x4 : Int32) : Nat → Int32 → Int32 → (Nat → Int32) → (Int32 → Int32 → (Nat → Int32) → Option (Int32 × Int32 × Int32 × (Nat → Int32) × (Nat → Int32))) → Option (Int32 × Int32 × Int32 × (Nat → Int32) × (Nat → Int32))
  | 0, _, _, _, _ => none
  | n13 + 1, x9, c10, c11, K12 =>
    if claims_ ≤ x9 then
      K12 x9 c10 c11
    else
      jn (fun (c15 : Int32) (c16 : (Nat → Int32)) =>
        f9_findRows_L28 claims_ v1 c3 x4 n13 (x9 + (1 : Int32)) c15 c16 K12) fun (J14 : Int32 → (Nat → Int32) → Option (Int32 × Int32 × Int32 × (Nat → Int32) × (Nat → Int32))) =>
      if ((v1 >>> (x4 &&& 31)) &&& (1 : Int32)) = (1 : Int32) then
        if ((v1 >>> (x9 &&& 31)) &&& (1 : Int32)) = (1 : Int32) then
          gd (ix (((9 : Int32) * x4) + x9) 81) <|
          if (c3 (((9 : Int32) * x4) + x9).toNatClampNeg) ≤ (0 : Int32) then
            J14 c10 c11
          else
            gd (ix ((3 : Int32) * c10) 108) <|
            gd (ix (((3 : Int32) * c10) + (1 : Int32)) 108) <|
            gd (ix (((9 : Int32) * x4) + x9) 81) <|
            gd (ix (((3 : Int32) * c10) + (2 : Int32)) 108) <|
            J14 (c10 + (1 : Int32)) (upd (upd (upd c11 ((3 : Int32) * c10).toNatClampNeg x4) (((3 : Int32) * c10) + (1 : Int32)).toNatClampNeg x9) (((3 : Int32) * c10) + (2 : Int32)).toNatClampNeg (c3 (((9 : Int32) * x4) + x9).toNatClampNeg))
        else
          J14 c10 c11
      else
        J14 c10 c11
def f9_findRows_L12 (claims_ : Int32) (v1 : Int32) (c3 : (Nat → Int32)) : Nat → Int32 → Int32 → (Nat → Int32) → (Int32 → Int32 → (Nat → Int32) → Option (Int32 × Int32 × Int32 × (Nat → Int32) × (Nat → Int32))) → Option (Int32 × Int32 × Int32 × (Nat → Int32) × (Nat → Int32))
  | 0, _, _, _, _ => none
  | n8 + 1, x4, c5, c6, K7 =>
    if claims_ ≤ x4 then
      K7 x4 c5 c6
    else
    if v1 < (0 : Int32) then
      K7 x4 c5 c6
    else
      jn (fun (x9 : Int32) (c10 : Int32) (c11 : (Nat → Int32)) =>
        f9_findRows_L12 claims_ v1 c3 n8 (x4 + (1 : Int32)) c10 c11 K7) fun (K12 : Int32 → Int32 → (Nat → Int32) → Option (Int32 × Int32 × Int32 × (Nat → Int32) × (Nat → Int32))) =>
      f9_findRows_L28 claims_ v1 c3 x4 FU (x4 + (1 : Int32)) c5 c6 K12
def f9_findRows (claims_ : Int32) (lotScore_ : Int32) (mustMany_ : Int32) (people_ : Int32) (claim_ : (Nat → Int32)) (isHub_ : (Nat → Int32)) (laws_ : (Nat → Int32)) (must_ : (Nat → Int32)) (oneOf_ : (Nat → Int32)) (strength_ : (Nat → Int32)) : Option (Int32 × Int32 × Int32 × (Nat → Int32) × (Nat → Int32)) :=
  bn3 (f9_findLot claims_ lotScore_ people_ claim_ isHub_ laws_ oneOf_ strength_) fun (v1 : Int32) (c2 : Int32) (c3 : (Nat → Int32)) =>
  jn (fun (x4 : Int32) (c5 : Int32) (c6 : (Nat → Int32)) =>
    if v1 < (0 : Int32) then
      some ((0 : Int32), c2, c5, c6, c3)
    else
      some ((1 : Int32), c2, c5, c6, c3)) fun (K7 : Int32 → Int32 → (Nat → Int32) → Option (Int32 × Int32 × Int32 × (Nat → Int32) × (Nat → Int32))) =>
  f9_findRows_L12 claims_ v1 c3 FU (0 : Int32) (0 : Int32) must_ K7
def f9_judge_L36 (rows_ : (Nat → Int32)) (c4 : (Nat → Int32)) (x6 : Int32) : Nat → Int32 → Int32 → (Int32 → Int32 → Option (Int32 × Int32 × Int32 × (Nat → Int32) × (Nat → Int32))) → Option (Int32 × Int32 × Int32 × (Nat → Int32) × (Nat → Int32))
  | 0, _, _, _ => none
  | n14 + 1, x11, x12, K13 =>
    if (3 : Int32) ≤ x12 then
      K13 x11 x12
    else
    if x11 = (0 : Int32) then
      K13 x11 x12
    else
      gd (ix (((3 : Int32) * x6) + x12) 108) <|
      gd (ix (((3 : Int32) * x6) + x12) 108) <|
      jn (fun (s18 : Int32) =>
        f9_judge_L36 rows_ c4 x6 n14 s18 (x12 + (1 : Int32)) K13) fun (J17 : Int32 → Option (Int32 × Int32 × Int32 × (Nat → Int32) × (Nat → Int32))) =>
      if (rows_ (((3 : Int32) * x6) + x12).toNatClampNeg) = (c4 (((3 : Int32) * x6) + x12).toNatClampNeg) then
        J17 (1 : Int32)
      else
        J17 (0 : Int32)
def f9_judge_L12 (rowMany_ : Int32) (rows_ : (Nat → Int32)) (c2 : Int32) (c3 : Int32) (c4 : (Nat → Int32)) (c5 : (Nat → Int32)) : Nat → Int32 → (Int32 → Option (Int32 × Int32 × Int32 × (Nat → Int32) × (Nat → Int32))) → Option (Int32 × Int32 × Int32 × (Nat → Int32) × (Nat → Int32))
  | 0, _, _ => none
  | n8 + 1, x6, K7 =>
    if rowMany_ ≤ x6 then
      K7 x6
    else
      jn (fun (s10 : Int32) =>
        jn (fun (x11 : Int32) (x12 : Int32) =>
          if x11 = (0 : Int32) then
            some ((x6 + (1 : Int32)), c2, c3, c4, c5)
          else
            f9_judge_L12 rowMany_ rows_ c2 c3 c4 c5 n8 (x6 + (1 : Int32)) K7) fun (K13 : Int32 → Int32 → Option (Int32 × Int32 × Int32 × (Nat → Int32) × (Nat → Int32))) =>
        f9_judge_L36 rows_ c4 x6 FU s10 (0 : Int32) K13) fun (J9 : Int32 → Option (Int32 × Int32 × Int32 × (Nat → Int32) × (Nat → Int32))) =>
      if c3 ≤ x6 then
        J9 (0 : Int32)
      else
        J9 (1 : Int32)
def f9_judge (claims_ : Int32) (lotScore_ : Int32) (mustMany_ : Int32) (people_ : Int32) (rowMany_ : Int32) (claim_ : (Nat → Int32)) (isHub_ : (Nat → Int32)) (laws_ : (Nat → Int32)) (must_ : (Nat → Int32)) (oneOf_ : (Nat → Int32)) (rows_ : (Nat → Int32)) (strength_ : (Nat → Int32)) : Option (Int32 × Int32 × Int32 × (Nat → Int32) × (Nat → Int32)) :=
  bn5 (f9_findRows claims_ lotScore_ mustMany_ people_ claim_ isHub_ laws_ must_ oneOf_ strength_) fun (v1 : Int32) (c2 : Int32) (c3 : Int32) (c4 : (Nat → Int32)) (c5 : (Nat → Int32)) =>
  if v1 = (0 : Int32) then
    some ((-3 : Int32), c2, c3, c4, c5)
  else
    jn (fun (x6 : Int32) =>
      if c3 ≤ rowMany_ then
        some ((0 : Int32), c2, c3, c4, c5)
      else
        some ((222 : Int32), c2, c3, c4, c5)) fun (K7 : Int32 → Option (Int32 × Int32 × Int32 × (Nat → Int32) × (Nat → Int32))) =>
    f9_judge_L12 rowMany_ rows_ c2 c3 c4 c5 FU (0 : Int32) K7
def f9_keep (claims_ : Int32) (clauses_ : Int32) (isKept_ : Int32) (movedTo_ : Int32) (people_ : Int32) (z_ : Int32) (claim_ : (Nat → Int32)) (clause_ : (Nat → Int32)) (isHub_ : (Nat → Int32)) (kept_ : (Nat → Int32)) (laws_ : (Nat → Int32)) (oneOf_ : (Nat → Int32)) (signs_ : (Nat → Int32)) (single_ : (Nat → Int32)) (sizeOf_ : (Nat → Int32)) (townOf_ : (Nat → Int32)) : Option (Int32 × Int32 × Int32 × (Nat → Int32) × (Nat → Int32) × (Nat → Int32) × (Nat → Int32) × (Nat → Int32) × (Nat → Int32) × (Nat → Int32) × (Nat → Int32) × (Nat → Int32) × (Nat → Int32)) :=
  bn11 (f9_moveAll claims_ clauses_ movedTo_ people_ z_ claim_ clause_ isHub_ kept_ laws_ oneOf_ signs_ single_ sizeOf_ townOf_ (1 : Int32)) fun (c1 : Int32) (c2 : (Nat → Int32)) (c3 : (Nat → Int32)) (c4 : (Nat → Int32)) (c5 : (Nat → Int32)) (c6 : (Nat → Int32)) (c7 : (Nat → Int32)) (c8 : (Nat → Int32)) (c9 : (Nat → Int32)) (c10 : (Nat → Int32)) (c11 : (Nat → Int32)) =>
  some ((1 : Int32), (1 : Int32), c1, c2, c3, c4, c5, c6, c7, c8, c9, c10, c11)
def f9_likely (claims_ : Int32) (people_ : Int32) (claim_ : (Nat → Int32)) (isHub_ : (Nat → Int32)) (laws_ : (Nat → Int32)) (oneOf_ : (Nat → Int32)) (p1 : Int32) : Option (Int32) :=
  Option.bind (f9_isClaim claims_ p1) fun (v1 : Int32) =>
  if v1 = (0 : Int32) then
    some (-1 : Int32)
  else
    Option.bind (f9_likelyOf claims_ people_ claim_ isHub_ laws_ oneOf_ p1) fun (v2 : Int32) =>
    some v2
def f9_lot (claims_ : Int32) (lotScore_ : Int32) (people_ : Int32) (claim_ : (Nat → Int32)) (isHub_ : (Nat → Int32)) (laws_ : (Nat → Int32)) (oneOf_ : (Nat → Int32)) (strength_ : (Nat → Int32)) (p1 : Int32) : Option (Int32 × Int32 × (Nat → Int32)) :=
  Option.bind (f9_isSide p1) fun (v1 : Int32) =>
  if v1 = (0 : Int32) then
    some ((-1 : Int32), lotScore_, strength_)
  else
    bn3 (f9_findLot claims_ lotScore_ people_ claim_ isHub_ laws_ oneOf_ strength_) fun (v2 : Int32) (c3 : Int32) (c4 : (Nat → Int32)) =>
    if v2 < (0 : Int32) then
      some (v2, c3, c4)
    else
    if p1 = (0 : Int32) then
      some (v2, c3, c4)
    else
      some (((100000 : Int32) + c3), c3, c4)
def f9_many_L65 (people_ : Int32) (oneOf_ : (Nat → Int32)) : Nat → Int32 → Int32 → (Int32 → Int32 → Option (Int32)) → Option (Int32)
  | 0, _, _, _ => none
  | n8 + 1, x5, x6, K7 =>
    if people_ ≤ x6 then
      K7 x5 x6
    else
      gd (ix x6 10) <|
      jn (fun (s11 : Int32) =>
        f9_many_L65 people_ oneOf_ n8 (x5 + s11) (x6 + (1 : Int32)) K7) fun (J10 : Int32 → Option (Int32)) =>
      if (oneOf_ x6.toNatClampNeg) = x6 then
        J10 (1 : Int32)
      else
        J10 (0 : Int32)
def f9_many (bodies_ : Int32) (claims_ : Int32) (clauses_ : Int32) (people_ : Int32) (rowMany_ : Int32) (tapeMany_ : Int32) (claim_ : (Nat → Int32)) (oneOf_ : (Nat → Int32)) (p1 : Int32) : Option (Int32) :=
  if p1 = (0 : Int32) then
    some people_
  else
  if p1 = (1 : Int32) then
    some claims_
  else
  if p1 = (2 : Int32) then
    some clauses_
  else
  if p1 = (3 : Int32) then
    jn (fun (x5 : Int32) (x6 : Int32) =>
      some x5) fun (K7 : Int32 → Int32 → Option (Int32)) =>
    f9_many_L65 people_ oneOf_ FU (0 : Int32) (0 : Int32) K7
  else
  if p1 = (4 : Int32) then
    Option.bind (f9_foundMany claims_ claim_) fun (v15 : Int32) =>
    some v15
  else
  if p1 = (5 : Int32) then
    some rowMany_
  else
  if p1 = (6 : Int32) then
    some tapeMany_
  else
  if p1 = (7 : Int32) then
    some bodies_
  else
    some (-1 : Int32)
def f9_placesOf_L5 (claim_ : (Nat → Int32)) (oneOf_ : (Nat → Int32)) (p1 : Int32) (p2 : Int32) : Nat → Int32 → Int32 → (Int32 → Int32 → Option (Int32)) → Option (Int32)
  | 0, _, _, _ => none
  | n4 + 1, x1, x2, K3 =>
    if (4 : Int32) ≤ x2 then
      K3 x1 x2
    else
      Option.bind (f9_oneIn claim_ oneOf_ p1 x2) fun (v5 : Int32) =>
      jn (fun (s7 : Int32) =>
        f9_placesOf_L5 claim_ oneOf_ p1 p2 n4 (x1 ||| s7) (x2 + (1 : Int32)) K3) fun (J6 : Int32 → Option (Int32)) =>
      if v5 = p2 then
        J6 ((1 : Int32) <<< (x2 &&& 31))
      else
        J6 (0 : Int32)
def f9_placesOf (claim_ : (Nat → Int32)) (oneOf_ : (Nat → Int32)) (p1 : Int32) (p2 : Int32) : Option (Int32) :=
  jn (fun (x1 : Int32) (x2 : Int32) =>
    some x1) fun (K3 : Int32 → Int32 → Option (Int32)) =>
  f9_placesOf_L5 claim_ oneOf_ p1 p2 FU (0 : Int32) (0 : Int32) K3
def f9_lowest_L6  : Nat → Int64 → Int64 → (Int64 → Int64 → Option (Int64 × Int64)) → Option (Int64 × Int64)
  | 0, _, _, _ => none
  | n4 + 1, x1, x2, K3 =>
    if (lg_cmp x2 (0 : Int64)) = (0 : Int32) then
      K3 x1 x2
    else
      gd (nzl x2) <|
      f9_lowest_L6 n4 x2 (x1 - x1 / x2 * x2) K3
def f9_lowest (above_ : Int64) (below_ : Int64) (p1 : Int64) (p3 : Int64) : Option (Int64 × Int64) :=
  jn (fun (x1 : Int64) (x2 : Int64) =>
    gd (nzl x1) <|
    gd (nzl x1) <|
    some ((p1 / x1), (p3 / x1))) fun (K3 : Int64 → Int64 → Option (Int64 × Int64)) =>
  f9_lowest_L6 FU p1 p3 K3
def f9_odds_L156 (sizeOf_ : (Nat → Int32)) (townOf_ : (Nat → Int32)) (p1 : Int32) : Nat → Int32 → (Nat → Int64) → (Int32 → (Nat → Int64) → Option (Int64 × Int64 × Int64 × (Nat → Int64))) → Option (Int64 × Int64 × Int64 × (Nat → Int64))
  | 0, _, _, _ => none
  | n36 + 1, x33, c34, K35 =>
    if x33 ≤ (0 : Int32) then
      K35 x33 c34
    else
      gd (ix x33 10) <|
      gd (ix (x33 - (1 : Int32)) 10) <|
      gd (ix x33 10) <|
      f9_odds_L156 sizeOf_ townOf_ p1 n36 (x33 + (-1 : Int32)) (vp_updL c34 x33.toNatClampNeg (((c34 x33.toNatClampNeg) * (((sizeOf_ (townOf_ p1.toNatClampNeg).toNatClampNeg) - (4 : Int32))).toInt64) + ((c34 (x33 - (1 : Int32)).toNatClampNeg) * (4 : Int64)))) K35
def f9_odds_L236 (x3 : Int32) (c29 : (Nat → Int64)) : Nat → Int64 → Int32 → (Int64 → Int32 → Option (Int64 × Int64 × Int64 × (Nat → Int64))) → Option (Int64 × Int64 × Int64 × (Nat → Int64))
  | 0, _, _, _ => none
  | n47 + 1, x44, x45, K46 =>
    if x3 < x45 then
      K46 x44 x45
    else
      gd (ix x45 10) <|
      f9_odds_L236 x3 c29 n47 (x44 + (c29 x45.toNatClampNeg)) (x45 + (1 : Int32)) K46
def f9_odds_L134 (sizeOf_ : (Nat → Int32)) (townOf_ : (Nat → Int32)) (p1 : Int32) (x3 : Int32) : Nat → Int64 → Int32 → (Nat → Int64) → (Int64 → Int32 → (Nat → Int64) → Option (Int64 × Int64 × Int64 × (Nat → Int64))) → Option (Int64 × Int64 × Int64 × (Nat → Int64))
  | 0, _, _, _, _ => none
  | n31 + 1, x27, x28, c29, K30 =>
    if x3 ≤ x28 then
      K30 x27 x28 c29
    else
      gd (ix (x28 + (1 : Int32)) 10) <|
      jn (fun (x33 : Int32) (c34 : (Nat → Int64)) =>
        gd (ix (0 : Int32) 10) <|
        gd (ix (0 : Int32) 10) <|
        f9_odds_L134 sizeOf_ townOf_ p1 x3 n31 (x27 * ((sizeOf_ (townOf_ p1.toNatClampNeg).toNatClampNeg)).toInt64) (x28 + (1 : Int32)) (vp_updL c34 (0 : Int32).toNatClampNeg ((c34 (0 : Int32).toNatClampNeg) * (((sizeOf_ (townOf_ p1.toNatClampNeg).toNatClampNeg) - (4 : Int32))).toInt64)) K30) fun (K35 : Int32 → (Nat → Int64) → Option (Int64 × Int64 × Int64 × (Nat → Int64))) =>
      f9_odds_L156 sizeOf_ townOf_ p1 FU (x28 + (1 : Int32)) (vp_updL c29 (x28 + (1 : Int32)).toNatClampNeg (0 : Int64)) K35
def f9_odds_L27 (claims_ : Int32) (claim_ : (Nat → Int32)) (oneOf_ : (Nat → Int32)) (townOf_ : (Nat → Int32)) (p1 : Int32) : Nat → Int32 → Int32 → Int32 → (Int32 → Int32 → Int32 → Option (Int64 × Int64 × Int64 × (Nat → Int64))) → Option (Int64 × Int64 × Int64 × (Nat → Int64))
  | 0, _, _, _, _ => none
  | n7 + 1, x3, x4, x5, K6 =>
    if claims_ ≤ x5 then
      K6 x3 x4 x5
    else
      Option.bind (f9_its claim_ x5 (2 : Int32)) fun (v8 : Int32) =>
      gd (ix p1 10) <|
      jn (fun (s11 : Int32) =>
        jn (fun (s13 : Int32) =>
          jn (fun (s15 : Int32) =>
            f9_odds_L27 claims_ claim_ oneOf_ townOf_ p1 n7 (x3 + s13) (x4 + s15) (x5 + (1 : Int32)) K6) fun (J14 : Int32 → Option (Int64 × Int64 × Int64 × (Nat → Int64))) =>
          jn (
            J14 (0 : Int32)) fun (J16 : Option (Int64 × Int64 × Int64 × (Nat → Int64))) =>
          if s11 = (0 : Int32) then
            J16
          else
            gd (ix p1 10) <|
            Option.bind (f9_placesOf claim_ oneOf_ x5 (oneOf_ p1.toNatClampNeg)) fun (v18 : Int32) =>
            if v18 = (0 : Int32) then
              J16
            else
              J14 (1 : Int32)) fun (J12 : Int32 → Option (Int64 × Int64 × Int64 × (Nat → Int64))) =>
        if s11 = (0 : Int32) then
          J12 (0 : Int32)
        else
          J12 (1 : Int32)) fun (J10 : Int32 → Option (Int64 × Int64 × Int64 × (Nat → Int64))) =>
      if v8 = (townOf_ p1.toNatClampNeg) then
        J10 (1 : Int32)
      else
        J10 (0 : Int32)
def f9_odds (claims_ : Int32) (people_ : Int32) (claim_ : (Nat → Int32)) (oneOf_ : (Nat → Int32)) (sizeOf_ : (Nat → Int32)) (townOf_ : (Nat → Int32)) (above_ : Int64) (below_ : Int64) (often_ : (Nat → Int64)) (p1 : Int32) (p2 : Int32) : Option (Int64 × Int64 × Int64 × (Nat → Int64)) :=
  Option.bind (f9_isPerson people_ p1) fun (v1 : Int32) =>
  if v1 = (0 : Int32) then
    some ((-1 : Int64), above_, below_, often_)
  else
    Option.bind (f9_isSide p2) fun (v2 : Int32) =>
    if v2 = (0 : Int32) then
      some ((-1 : Int64), above_, below_, often_)
    else
      jn (fun (x3 : Int32) (x4 : Int32) (x5 : Int32) =>
        gd (ix p1 10) <|
        gd (ix (townOf_ p1.toNatClampNeg) 4) <|
        gd (ix (0 : Int32) 10) <|
        jn (fun (x27 : Int64) (x28 : Int32) (c29 : (Nat → Int64)) =>
          jn (fun (x44 : Int64) (x45 : Int32) =>
            bn2 (f9_lowest above_ below_ x44 x27) fun (c50 : Int64) (c51 : Int64) =>
            if p2 = (0 : Int32) then
              some (c50, c50, c51, c29)
            else
              some (c51, c50, c51, c29)) fun (K46 : Int64 → Int32 → Option (Int64 × Int64 × Int64 × (Nat → Int64))) =>
          f9_odds_L236 x3 c29 FU (0 : Int64) x4 K46) fun (K30 : Int64 → Int32 → (Nat → Int64) → Option (Int64 × Int64 × Int64 × (Nat → Int64))) =>
        f9_odds_L134 sizeOf_ townOf_ p1 x3 FU (1 : Int64) (0 : Int32) (vp_updL often_ (0 : Int32).toNatClampNeg (1 : Int64)) K30) fun (K6 : Int32 → Int32 → Int32 → Option (Int64 × Int64 × Int64 × (Nat → Int64))) =>
      f9_odds_L27 claims_ claim_ oneOf_ townOf_ p1 FU (0 : Int32) (0 : Int32) (0 : Int32) K6
def f9_person (people_ : Int32) (isHub_ : (Nat → Int32)) (oneOf_ : (Nat → Int32)) (townOf_ : (Nat → Int32)) (p1 : Int32) (p2 : Int32) : Option (Int32 × Int32 × (Nat → Int32) × (Nat → Int32) × (Nat → Int32)) :=
  Option.bind (f9_in p1 (0 : Int32) (3 : Int32)) fun (v1 : Int32) =>
  if v1 = (0 : Int32) then
    some ((-1 : Int32), people_, isHub_, oneOf_, townOf_)
  else
  if people_ = (10 : Int32) then
    some ((-2 : Int32), people_, isHub_, oneOf_, townOf_)
  else
    gd (ix people_ 10) <|
    jn (fun (s4 : Int32) =>
      gd (ix people_ 10) <|
      gd (ix people_ 10) <|
      some (((people_ + (1 : Int32)) - (1 : Int32)), (people_ + (1 : Int32)), (upd isHub_ people_.toNatClampNeg s4), (upd oneOf_ people_.toNatClampNeg people_), (upd townOf_ people_.toNatClampNeg p1))) fun (J3 : Int32 → Option (Int32 × Int32 × (Nat → Int32) × (Nat → Int32) × (Nat → Int32))) =>
    if p2 = (0 : Int32) then
      J3 (0 : Int32)
    else
      J3 (1 : Int32)
def f9_claimsOf_L4 (claims_ : Int32) (claim_ : (Nat → Int32)) (oneOf_ : (Nat → Int32)) (p1 : Int32) : Nat → Int32 → Int32 → (Int32 → Int32 → Option (Int32)) → Option (Int32)
  | 0, _, _, _ => none
  | n4 + 1, x1, x2, K3 =>
    if claims_ ≤ x2 then
      K3 x1 x2
    else
      Option.bind (f9_placesOf claim_ oneOf_ x2 p1) fun (v5 : Int32) =>
      jn (fun (s7 : Int32) =>
        f9_claimsOf_L4 claims_ claim_ oneOf_ p1 n4 (x1 + s7) (x2 + (1 : Int32)) K3) fun (J6 : Int32 → Option (Int32)) =>
      if v5 = (0 : Int32) then
        J6 (0 : Int32)
      else
        J6 (1 : Int32)
def f9_claimsOf (claims_ : Int32) (claim_ : (Nat → Int32)) (oneOf_ : (Nat → Int32)) (p1 : Int32) : Option (Int32) :=
  jn (fun (x1 : Int32) (x2 : Int32) =>
    some x1) fun (K3 : Int32 → Int32 → Option (Int32)) =>
  f9_claimsOf_L4 claims_ claim_ oneOf_ p1 FU (0 : Int32) (0 : Int32) K3
def f9_personOf (claims_ : Int32) (people_ : Int32) (claim_ : (Nat → Int32)) (isHub_ : (Nat → Int32)) (oneOf_ : (Nat → Int32)) (townOf_ : (Nat → Int32)) (p1 : Int32) (p2 : Int32) : Option (Int32) :=
  Option.bind (f9_isPerson people_ p1) fun (v1 : Int32) =>
  if v1 = (0 : Int32) then
    some (-1 : Int32)
  else
    Option.bind (f9_in p2 (0 : Int32) (3 : Int32)) fun (v2 : Int32) =>
    if v2 = (0 : Int32) then
      some (-1 : Int32)
    else
    if p2 = (0 : Int32) then
      gd (ix p1 10) <|
      some (townOf_ p1.toNatClampNeg)
    else
    if p2 = (1 : Int32) then
      gd (ix p1 10) <|
      some (oneOf_ p1.toNatClampNeg)
    else
    if p2 = (2 : Int32) then
      gd (ix p1 10) <|
      Option.bind (f9_isHubOne people_ isHub_ oneOf_ (oneOf_ p1.toNatClampNeg)) fun (v9 : Int32) =>
      if v9 = (0 : Int32) then
        some (0 : Int32)
      else
        some (1 : Int32)
    else
      gd (ix p1 10) <|
      Option.bind (f9_claimsOf claims_ claim_ oneOf_ (oneOf_ p1.toNatClampNeg)) fun (v12 : Int32) =>
      some v12
def f9_prove_L20 (c3 : Int32) (c4 : (Nat → Int32)) : Nat → Int32 → (Nat → Int32) → (Int32 → (Nat → Int32) → Option (Int32 × Int32 × Int32 × Int32 × (Nat → Int32) × (Nat → Int32) × (Nat → Int32))) → Option (Int32 × Int32 × Int32 × Int32 × (Nat → Int32) × (Nat → Int32) × (Nat → Int32))
  | 0, _, _, _ => none
  | n9 + 1, x6, c7, K8 =>
    if ((3 : Int32) * c3) ≤ x6 then
      K8 x6 c7
    else
      gd (ix x6 108) <|
      gd (ix x6 108) <|
      f9_prove_L20 c3 c4 n9 (x6 + (1 : Int32)) (upd c7 x6.toNatClampNeg (c4 x6.toNatClampNeg)) K8
def f9_prove (claims_ : Int32) (lotScore_ : Int32) (mustMany_ : Int32) (people_ : Int32) (rowMany_ : Int32) (claim_ : (Nat → Int32)) (isHub_ : (Nat → Int32)) (laws_ : (Nat → Int32)) (must_ : (Nat → Int32)) (oneOf_ : (Nat → Int32)) (rows_ : (Nat → Int32)) (strength_ : (Nat → Int32)) : Option (Int32 × Int32 × Int32 × Int32 × (Nat → Int32) × (Nat → Int32) × (Nat → Int32)) :=
  bn5 (f9_findRows claims_ lotScore_ mustMany_ people_ claim_ isHub_ laws_ must_ oneOf_ strength_) fun (v1 : Int32) (c2 : Int32) (c3 : Int32) (c4 : (Nat → Int32)) (c5 : (Nat → Int32)) =>
  if v1 = (0 : Int32) then
    some ((-3 : Int32), c2, c3, rowMany_, c4, rows_, c5)
  else
    jn (fun (x6 : Int32) (c7 : (Nat → Int32)) =>
      some (c3, c2, c3, c3, c4, c7, c5)) fun (K8 : Int32 → (Nat → Int32) → Option (Int32 × Int32 × Int32 × Int32 × (Nat → Int32) × (Nat → Int32) × (Nat → Int32))) =>
    f9_prove_L20 c3 c4 FU (0 : Int32) rows_ K8
def f9_put (sizes_ : (Nat → Int32)) (sorts_ : (Nat → Int32)) (sheets_ : (Nat → Int64)) (p1 : Int32) (p2 : Int32) (p3 : Int32) : Option (Int32 × (Nat → Int64)) :=
  Option.bind (f9_isShelf p1) fun (v1 : Int32) =>
  if v1 = (0 : Int32) then
    some ((-1 : Int32), sheets_)
  else
    gd (ix p1 4) <|
    if (0 : Int32) ≤ (sorts_ p1.toNatClampNeg) then
      gd (ix p1 4) <|
      Option.bind (f9_in p2 (0 : Int32) ((sizes_ p1.toNatClampNeg) - (1 : Int32))) fun (v4 : Int32) =>
      if v4 = (0 : Int32) then
        some ((-12 : Int32), sheets_)
      else
        gd (ix p1 4) <|
        jn (fun (s7 : Int64) =>
          gd (ix (((40 : Int32) * p1) + p2) 160) <|
          some ((1 : Int32), (vp_updL sheets_ (((40 : Int32) * p1) + p2).toNatClampNeg s7))) fun (J6 : Int64 → Option (Int32 × (Nat → Int64))) =>
        if (sorts_ p1.toNatClampNeg) = (0 : Int32) then
          J6 ((p3).toInt8.toInt32).toInt64
        else
          gd (ix p1 4) <|
          if (sorts_ p1.toNatClampNeg) = (1 : Int32) then
            J6 ((p3).toInt16.toInt32).toInt64
          else
            J6 (p3).toInt64
    else
      some ((-11 : Int32), sheets_)
def f9_rate_L16 (claims_ : Int32) (claim_ : (Nat → Int32)) : Nat → Int32 → Int32 → Int32 → (Int32 → Int32 → Int32 → Option (Int32 × Int64 × Int64)) → Option (Int32 × Int64 × Int64)
  | 0, _, _, _, _ => none
  | n6 + 1, x2, x3, x4, K5 =>
    if claims_ ≤ x4 then
      K5 x2 x3 x4
    else
      Option.bind (f9_its claim_ x4 (9 : Int32)) fun (v7 : Int32) =>
      jn (fun (s9 : Int32) =>
        jn (fun (s11 : Int32) =>
          jn (fun (s13 : Int32) =>
            f9_rate_L16 claims_ claim_ n6 (x2 + s11) (x3 + s13) (x4 + (1 : Int32)) K5) fun (J12 : Int32 → Option (Int32 × Int64 × Int64)) =>
          jn (
            J12 (0 : Int32)) fun (J14 : Option (Int32 × Int64 × Int64)) =>
          if s9 = (0 : Int32) then
            J14
          else
            Option.bind (f9_its claim_ x4 (9 : Int32)) fun (v15 : Int32) =>
            if v15 = (2 : Int32) then
              J12 (1 : Int32)
            else
              J14) fun (J10 : Int32 → Option (Int32 × Int64 × Int64)) =>
        if s9 = (0 : Int32) then
          J10 (0 : Int32)
        else
          J10 (1 : Int32)) fun (J8 : Int32 → Option (Int32 × Int64 × Int64)) =>
      jn (
        J8 (0 : Int32)) fun (J19 : Option (Int32 × Int64 × Int64)) =>
      if v7 ≤ (0 : Int32) then
        J19
      else
        Option.bind (f9_its claim_ x4 (10 : Int32)) fun (v20 : Int32) =>
        if v20 = (1 : Int32) then
          J8 (1 : Int32)
        else
          J19
def f9_rate (claims_ : Int32) (claim_ : (Nat → Int32)) (above_ : Int64) (below_ : Int64) (p1 : Int32) : Option (Int32 × Int64 × Int64) :=
  Option.bind (f9_isSide p1) fun (v1 : Int32) =>
  if v1 = (0 : Int32) then
    some ((-1 : Int32), above_, below_)
  else
    jn (fun (x2 : Int32) (x3 : Int32) (x4 : Int32) =>
      if x2 = (0 : Int32) then
        some ((-3 : Int32), above_, below_)
      else
        bn2 (f9_lowest above_ below_ (x3).toInt64 (x2).toInt64) fun (c24 : Int64) (c25 : Int64) =>
        jn (fun (s27 : Int64) =>
          some ((s27).toInt32, c24, c25)) fun (J26 : Int64 → Option (Int32 × Int64 × Int64)) =>
        if p1 = (0 : Int32) then
          J26 c24
        else
          J26 c25) fun (K5 : Int32 → Int32 → Int32 → Option (Int32 × Int64 × Int64)) =>
    f9_rate_L16 claims_ claim_ FU (0 : Int32) (0 : Int32) (0 : Int32) K5
def f9_isSo_L6 (p1_ : (Nat → Int32)) (facts_ : (Nat → Int32)) (p3 : Int32) : Nat → Int32 → Int32 → (Nat → Int32) → (Int32 → Int32 → (Nat → Int32) → Option (Int32 × (Nat → Int32))) → Option (Int32 × (Nat → Int32))
  | 0, _, _, _, _ => none
  | n5 + 1, x1, x2, c3, K4 =>
    if p3 ≤ x2 then
      K4 x1 x2 c3
    else
      gd (ix x2 200) <|
      jn (fun (y8 : Int32) (y9 : Int32) (c10 : (Nat → Int32)) =>
        f9_isSo_L6 p1_ facts_ p3 n5 y8 (y9 + (1 : Int32)) c10 K4) fun (J7 : Int32 → Int32 → (Nat → Int32) → Option (Int32 × (Nat → Int32))) =>
      if (p1_ x2.toNatClampNeg) = (40002 : Int32) then
        gd (ix (x1 - (1 : Int32)) 100) <|
        jn (fun (s51 : Int32) =>
          gd (ix (x1 - (1 : Int32)) 100) <|
          J7 x1 x2 (upd c3 (x1 - (1 : Int32)).toNatClampNeg (vp_nar .boolean s51))) fun (J50 : Int32 → Option (Int32 × (Nat → Int32))) =>
        if (c3 (x1 - (1 : Int32)).toNatClampNeg) = (0 : Int32) then
          J50 (1 : Int32)
        else
          J50 (0 : Int32)
      else
        jn (
          jn (fun (s13 : Int32) =>
            gd (ix ((x1 + (-1 : Int32)) - (1 : Int32)) 100) <|
            J7 (x1 + (-1 : Int32)) x2 (upd c3 ((x1 + (-1 : Int32)) - (1 : Int32)).toNatClampNeg (vp_nar .boolean s13))) fun (J12 : Int32 → Option (Int32 × (Nat → Int32))) =>
          if (p1_ x2.toNatClampNeg) = (40000 : Int32) then
            gd (ix ((x1 + (-1 : Int32)) - (1 : Int32)) 100) <|
            jn (
              J12 (0 : Int32)) fun (J21 : Option (Int32 × (Nat → Int32))) =>
            if (c3 ((x1 + (-1 : Int32)) - (1 : Int32)).toNatClampNeg) = (0 : Int32) then
              J21
            else
              gd (ix (x1 + (-1 : Int32)) 100) <|
              if (c3 (x1 + (-1 : Int32)).toNatClampNeg) = (0 : Int32) then
                J21
              else
                J12 (1 : Int32)
          else
            gd (ix ((x1 + (-1 : Int32)) - (1 : Int32)) 100) <|
            jn (
              J12 (1 : Int32)) fun (J16 : Option (Int32 × (Nat → Int32))) =>
            if (c3 ((x1 + (-1 : Int32)) - (1 : Int32)).toNatClampNeg) = (0 : Int32) then
              gd (ix (x1 + (-1 : Int32)) 100) <|
              if (c3 (x1 + (-1 : Int32)).toNatClampNeg) = (0 : Int32) then
                J12 (0 : Int32)
              else
                J16
            else
              J16) fun (J11 : Option (Int32 × (Nat → Int32))) =>
        if (p1_ x2.toNatClampNeg) = (40000 : Int32) then
          J11
        else
        if (p1_ x2.toNatClampNeg) = (40001 : Int32) then
          J11
        else
          jn (fun (s27 : Int32) =>
            gd (ix (x2 + (2 : Int32)) 200) <|
            jn (fun (s30 : Int32) =>
              gd (ix (x2 + (1 : Int32)) 200) <|
              jn (fun (s33 : Int32) =>
                gd (ix x1 100) <|
                J7 (x1 + (1 : Int32)) (x2 + (2 : Int32)) (upd c3 x1.toNatClampNeg (vp_nar .boolean s33))) fun (J32 : Int32 → Option (Int32 × (Nat → Int32))) =>
              if (p1_ (x2 + (1 : Int32)).toNatClampNeg) = (60 : Int32) then
                if s30 ≤ s27 then
                  J32 (0 : Int32)
                else
                  J32 (1 : Int32)
              else
                gd (ix (x2 + (1 : Int32)) 200) <|
                if (p1_ (x2 + (1 : Int32)).toNatClampNeg) = (61 : Int32) then
                  if s27 = s30 then
                    J32 (1 : Int32)
                  else
                    J32 (0 : Int32)
                else
                if s27 ≤ s30 then
                  J32 (0 : Int32)
                else
                  J32 (1 : Int32)) fun (J29 : Int32 → Option (Int32 × (Nat → Int32))) =>
            if (p1_ (x2 + (2 : Int32)).toNatClampNeg) < (20000 : Int32) then
              gd (ix (x2 + (2 : Int32)) 200) <|
              J29 (p1_ (x2 + (2 : Int32)).toNatClampNeg)
            else
              gd (ix (x2 + (2 : Int32)) 200) <|
              gd (ix ((p1_ (x2 + (2 : Int32)).toNatClampNeg) - (20000 : Int32)) 6) <|
              J29 (facts_ ((p1_ (x2 + (2 : Int32)).toNatClampNeg) - (20000 : Int32)).toNatClampNeg)) fun (J26 : Int32 → Option (Int32 × (Nat → Int32))) =>
          if (p1_ x2.toNatClampNeg) < (20000 : Int32) then
            J26 (p1_ x2.toNatClampNeg)
          else
            gd (ix ((p1_ x2.toNatClampNeg) - (20000 : Int32)) 6) <|
            J26 (facts_ ((p1_ x2.toNatClampNeg) - (20000 : Int32)).toNatClampNeg)
def f9_isSo (p1_ : (Nat → Int32)) (facts_ : (Nat → Int32)) (pile_ : (Nat → Int32)) (p2 : Int32) (p3 : Int32) : Option (Int32 × (Nat → Int32)) :=
  jn (fun (x1 : Int32) (x2 : Int32) (c3 : (Nat → Int32)) =>
    if x1 = (0 : Int32) then
      some ((1 : Int32), c3)
    else
      gd (ix (0 : Int32) 100) <|
      if (c3 (0 : Int32).toNatClampNeg) = (0 : Int32) then
        some ((0 : Int32), c3)
      else
        some ((1 : Int32), c3)) fun (K4 : Int32 → Int32 → (Nat → Int32) → Option (Int32 × (Nat → Int32))) =>
  f9_isSo_L6 p1_ facts_ p3 FU (0 : Int32) p2 pile_ K4
def f9_saysOf_L77 (clauses_ : Int32) (clause_ : (Nat → Int32)) (facts_ : (Nat → Int32)) (signs_ : (Nat → Int32)) (v1 : Int32) (v3 : Int32) (v5 : Int32) (v8 : Int32) (v10 : Int32) (v12 : Int32) : Nat → Int32 → Int32 → (Nat → Int32) → (Int32 → Int32 → (Nat → Int32) → Option (Int32 × (Nat → Int32) × (Nat → Int32))) → Option (Int32 × (Nat → Int32) × (Nat → Int32))
  | 0, _, _, _, _ => none
  | n18 + 1, x14, x15, c16, K17 =>
    if clauses_ ≤ x15 then
      K17 x14 x15 c16
    else
      gd (ix (((3 : Int32) * x15) + (1 : Int32)) 24) <|
      gd (ix (((3 : Int32) * x15) + (2 : Int32)) 24) <|
      bn2 (f9_isSo signs_ (upd (upd (upd (upd (upd (upd facts_ (0 : Int32).toNatClampNeg v1) (1 : Int32).toNatClampNeg v3) (2 : Int32).toNatClampNeg v5) (3 : Int32).toNatClampNeg v8) (4 : Int32).toNatClampNeg v10) (5 : Int32).toNatClampNeg v12) c16 (clause_ (((3 : Int32) * x15) + (1 : Int32)).toNatClampNeg) (clause_ (((3 : Int32) * x15) + (2 : Int32)).toNatClampNeg)) fun (v21 : Int32) (c22 : (Nat → Int32)) =>
      jn (fun (s24 : Int32) =>
        f9_saysOf_L77 clauses_ clause_ facts_ signs_ v1 v3 v5 v8 v10 v12 n18 s24 (x15 + (1 : Int32)) c22 K17) fun (J23 : Int32 → Option (Int32 × (Nat → Int32) × (Nat → Int32))) =>
      if v21 = (0 : Int32) then
        J23 x14
      else
        gd (ix ((3 : Int32) * x15) 24) <|
        J23 (clause_ ((3 : Int32) * x15).toNatClampNeg)
def f9_saysOf (claims_ : Int32) (clauses_ : Int32) (people_ : Int32) (claim_ : (Nat → Int32)) (clause_ : (Nat → Int32)) (facts_ : (Nat → Int32)) (isHub_ : (Nat → Int32)) (laws_ : (Nat → Int32)) (oneOf_ : (Nat → Int32)) (pile_ : (Nat → Int32)) (signs_ : (Nat → Int32)) (p1 : Int32) : Option (Int32 × (Nat → Int32) × (Nat → Int32)) :=
  Option.bind (f9_its claim_ p1 (4 : Int32)) fun (v1 : Int32) =>
  gd (ix (0 : Int32) 6) <|
  Option.bind (f9_its claim_ p1 (1 : Int32)) fun (v3 : Int32) =>
  gd (ix (1 : Int32) 6) <|
  Option.bind (f9_peopleIn claim_ p1) fun (v5 : Int32) =>
  gd (ix (2 : Int32) 6) <|
  Option.bind (f9_tiedTo claims_ people_ claim_ isHub_ laws_ oneOf_ p1) fun (v7 : Int32) =>
  Option.bind (f9_ones v7) fun (v8 : Int32) =>
  gd (ix (3 : Int32) 6) <|
  Option.bind (f9_its claim_ p1 (3 : Int32)) fun (v10 : Int32) =>
  gd (ix (4 : Int32) 6) <|
  Option.bind (f9_its claim_ p1 (0 : Int32)) fun (v12 : Int32) =>
  gd (ix (5 : Int32) 6) <|
  jn (fun (x14 : Int32) (x15 : Int32) (c16 : (Nat → Int32)) =>
    some (x14, (upd (upd (upd (upd (upd (upd facts_ (0 : Int32).toNatClampNeg v1) (1 : Int32).toNatClampNeg v3) (2 : Int32).toNatClampNeg v5) (3 : Int32).toNatClampNeg v8) (4 : Int32).toNatClampNeg v10) (5 : Int32).toNatClampNeg v12), c16)) fun (K17 : Int32 → Int32 → (Nat → Int32) → Option (Int32 × (Nat → Int32) × (Nat → Int32))) =>
  f9_saysOf_L77 clauses_ clause_ facts_ signs_ v1 v3 v5 v8 v10 v12 FU (0 : Int32) (0 : Int32) pile_ K17
def f9_right_L15 (claims_ : Int32) (clauses_ : Int32) (people_ : Int32) (claim_ : (Nat → Int32)) (clause_ : (Nat → Int32)) (isHub_ : (Nat → Int32)) (laws_ : (Nat → Int32)) (oneOf_ : (Nat → Int32)) (signs_ : (Nat → Int32)) (p1 : Int32) : Nat → Int32 → Int32 → (Nat → Int32) → (Nat → Int32) → (Int32 → Int32 → (Nat → Int32) → (Nat → Int32) → Option (Int32 × (Nat → Int32) × (Nat → Int32))) → Option (Int32 × (Nat → Int32) × (Nat → Int32))
  | 0, _, _, _, _, _ => none
  | n7 + 1, x2, x3, c4, c5, K6 =>
    if claims_ ≤ x3 then
      K6 x2 x3 c4 c5
    else
      Option.bind (f9_its claim_ x3 (9 : Int32)) fun (v8 : Int32) =>
      jn (fun (s10 : Int32) (c11 : (Nat → Int32)) (c12 : (Nat → Int32)) =>
        jn (fun (s14 : Int32) =>
          f9_right_L15 claims_ clauses_ people_ claim_ clause_ isHub_ laws_ oneOf_ signs_ p1 n7 (x2 + s14) (x3 + (1 : Int32)) c11 c12 K6) fun (J13 : Int32 → Option (Int32 × (Nat → Int32) × (Nat → Int32))) =>
        if s10 = p1 then
          J13 (1 : Int32)
        else
          J13 (0 : Int32)) fun (J9 : Int32 → (Nat → Int32) → (Nat → Int32) → Option (Int32 × (Nat → Int32) × (Nat → Int32))) =>
      if v8 = (0 : Int32) then
        J9 (-1 : Int32) c4 c5
      else
        bn3 (f9_saysOf claims_ clauses_ people_ claim_ clause_ c4 isHub_ laws_ oneOf_ c5 signs_ x3) fun (v16 : Int32) (c17 : (Nat → Int32)) (c18 : (Nat → Int32)) =>
        Option.bind (f9_its claim_ x3 (9 : Int32)) fun (v19 : Int32) =>
        J9 ((((2 : Int32) * ((1 : Int32) - v16)) + (2 : Int32)) - v19) c17 c18
def f9_right (claims_ : Int32) (clauses_ : Int32) (people_ : Int32) (claim_ : (Nat → Int32)) (clause_ : (Nat → Int32)) (facts_ : (Nat → Int32)) (isHub_ : (Nat → Int32)) (laws_ : (Nat → Int32)) (oneOf_ : (Nat → Int32)) (pile_ : (Nat → Int32)) (signs_ : (Nat → Int32)) (p1 : Int32) : Option (Int32 × (Nat → Int32) × (Nat → Int32)) :=
  Option.bind (f9_in p1 (0 : Int32) (3 : Int32)) fun (v1 : Int32) =>
  if v1 = (0 : Int32) then
    some ((-1 : Int32), facts_, pile_)
  else
    jn (fun (x2 : Int32) (x3 : Int32) (c4 : (Nat → Int32)) (c5 : (Nat → Int32)) =>
      some (x2, c4, c5)) fun (K6 : Int32 → Int32 → (Nat → Int32) → (Nat → Int32) → Option (Int32 × (Nat → Int32) × (Nat → Int32))) =>
    f9_right_L15 claims_ clauses_ people_ claim_ clause_ isHub_ laws_ oneOf_ signs_ p1 FU (0 : Int32) (0 : Int32) facts_ pile_ K6
def f9_row (rowMany_ : Int32) (rows_ : (Nat → Int32)) (p1 : Int32) (p2 : Int32) : Option (Int32) :=
  Option.bind (f9_isRow rowMany_ p1 p2) fun (v1 : Int32) =>
  if v1 = (0 : Int32) then
    some (-9 : Int32)
  else
    gd (ix (((3 : Int32) * p1) + p2) 108) <|
    some (rows_ (((3 : Int32) * p1) + p2).toNatClampNeg)
def f9_byteAt (tapeMany_ : Int32) (tape_ : (Nat → Int32)) (p1 : Int32) : Option (Int32) :=
  if tapeMany_ ≤ p1 then
    some (-1 : Int32)
  else
    gd (ix p1 200) <|
    some (tape_ p1.toNatClampNeg)
def f9_isLetter (p0 : Int32) : Option (Int32) :=
  Option.bind (f9_in p0 (97 : Int32) (122 : Int32)) fun (v1 : Int32) =>
  gd (bz v1) <|
  some v1
def f9_isDigit (p0 : Int32) : Option (Int32) :=
  Option.bind (f9_in p0 (48 : Int32) (57 : Int32)) fun (v1 : Int32) =>
  gd (bz v1) <|
  some v1
def f9_advance_L207 (tapeMany_ : Int32) (tape_ : (Nat → Int32)) (c1 : Int32) (s8 : Int32) : Nat → Int32 → Int32 → (Int32 → Int32 → Option (Int32 × Int32 × Int32 × Int32 × Int64)) → Option (Int32 × Int32 × Int32 × Int32 × Int64)
  | 0, _, _, _ => none
  | n28 + 1, c25, c26, K27 =>
    if s8 = (2 : Int32) then
      Option.bind (f9_byteAt tapeMany_ tape_ c25) fun (v29 : Int32) =>
      Option.bind (f9_isDigit v29) fun (v30 : Int32) =>
      if v30 = (0 : Int32) then
        K27 c25 c26
      else
        jn (fun (s32 : Int32) =>
          f9_advance_L207 tapeMany_ tape_ c1 s8 n28 (c25 + (1 : Int32)) s32 K27) fun (J31 : Int32 → Option (Int32 × Int32 × Int32 × Int32 × Int64)) =>
        if (3 : Int32) ≤ (c25 - c1) then
          J31 (-1 : Int32)
        else
          Option.bind (f9_byteAt tapeMany_ tape_ c25) fun (v33 : Int32) =>
          J31 ((((10 : Int32) * c26) + v33) - (48 : Int32))
    else
      K27 c25 c26
def f9_advance_L126 (tapeMany_ : Int32) (tape_ : (Nat → Int32)) (c1 : Int32) (s8 : Int32) : Nat → Int32 → Int64 → (Int32 → Int64 → Option (Int32 × Int32 × Int32 × Int32 × Int64)) → Option (Int32 × Int32 × Int32 × Int32 × Int64)
  | 0, _, _, _ => none
  | n16 + 1, c13, c14, K15 =>
    if s8 = (1 : Int32) then
      Option.bind (f9_byteAt tapeMany_ tape_ c13) fun (v17 : Int32) =>
      Option.bind (f9_isLetter v17) fun (v18 : Int32) =>
      if v18 = (0 : Int32) then
        K15 c13 c14
      else
        jn (fun (s20 : Int64) =>
          f9_advance_L126 tapeMany_ tape_ c1 s8 n16 (c13 + (1 : Int32)) s20 K15) fun (J19 : Int64 → Option (Int32 × Int32 × Int32 × Int32 × Int64)) =>
        if (8 : Int32) ≤ (c13 - c1) then
          J19 (-1 : Int64)
        else
          Option.bind (f9_byteAt tapeMany_ tape_ c13) fun (v21 : Int32) =>
          J19 ((((27 : Int64) * c14) + (v21).toInt64) - (96 : Int64))
    else
      K15 c13 c14
def f9_advance_L8 (tapeMany_ : Int32) (tape_ : (Nat → Int32)) : Nat → Int32 → (Int32 → Option (Int32 × Int32 × Int32 × Int32 × Int64)) → Option (Int32 × Int32 × Int32 × Int32 × Int64)
  | 0, _, _ => none
  | n3 + 1, c1, K2 =>
    Option.bind (f9_byteAt tapeMany_ tape_ c1) fun (v4 : Int32) =>
    if v4 = (32 : Int32) then
      f9_advance_L8 tapeMany_ tape_ n3 (c1 + (1 : Int32)) K2
    else
      K2 c1
def f9_advance (begins_ : Int32) (sort_ : Int32) (tapeMany_ : Int32) (tokenEnds_ : Int32) (value_ : Int32) (tape_ : (Nat → Int32)) (word_ : Int64) : Option (Int32 × Int32 × Int32 × Int32 × Int64) :=
  jn (fun (c1 : Int32) =>
    Option.bind (f9_byteAt tapeMany_ tape_ c1) fun (v6 : Int32) =>
    jn (fun (s8 : Int32) =>
      jn (fun (s10 : Int32) =>
        jn (fun (c12 : Int32) =>
          jn (fun (c13 : Int32) (c14 : Int64) =>
            jn (fun (c25 : Int32) (c26 : Int32) =>
              some (c1, s8, c25, c26, c14)) fun (K27 : Int32 → Int32 → Option (Int32 × Int32 × Int32 × Int32 × Int64)) =>
            f9_advance_L207 tapeMany_ tape_ c1 s8 FU c13 s10 K27) fun (K15 : Int32 → Int64 → Option (Int32 × Int32 × Int32 × Int32 × Int64)) =>
          f9_advance_L126 tapeMany_ tape_ c1 s8 FU c12 (0 : Int64) K15) fun (J11 : Int32 → Option (Int32 × Int32 × Int32 × Int32 × Int64)) =>
        if s8 = (3 : Int32) then
          J11 (c1 + (1 : Int32))
        else
          J11 c1) fun (J9 : Int32 → Option (Int32 × Int32 × Int32 × Int32 × Int64)) =>
      if s8 = (2 : Int32) then
        J9 (0 : Int32)
      else
        J9 v6) fun (J7 : Int32 → Option (Int32 × Int32 × Int32 × Int32 × Int64)) =>
    if (0 : Int32) ≤ v6 then
      Option.bind (f9_isLetter v6) fun (v39 : Int32) =>
      if v39 = (0 : Int32) then
        Option.bind (f9_isDigit v6) fun (v40 : Int32) =>
        if v40 = (0 : Int32) then
          J7 (3 : Int32)
        else
          J7 (2 : Int32)
      else
        J7 (1 : Int32)
    else
      J7 (0 : Int32)) fun (K2 : Int32 → Option (Int32 × Int32 × Int32 × Int32 × Int64)) =>
  f9_advance_L8 tapeMany_ tape_ FU tokenEnds_ K2
def f9_isWord (sort_ : Int32) (word_ : Int64) (p1 : Int64) : Option (Int32) :=
  if sort_ = (1 : Int32) then
    if (lg_cmp word_ p1) = (0 : Int32) then
      some (1 : Int32)
    else
      some (0 : Int32)
  else
    some (0 : Int32)
def f9_pend (pendingMany_ : Int32) (pending_ : (Nat → Int32)) (p1 : Int32) : Option (Int32 × (Nat → Int32)) :=
  gd (ix pendingMany_ 200) <|
  some ((pendingMany_ + (1 : Int32)), (upd pending_ pendingMany_.toNatClampNeg p1))
def f9_isMark (sort_ : Int32) (value_ : Int32) (p1 : Int32) : Option (Int32) :=
  if sort_ = (3 : Int32) then
    if value_ = p1 then
      some (1 : Int32)
    else
      some (0 : Int32)
  else
    some (0 : Int32)
def f9_factHere (sort_ : Int32) (word_ : Int64) : Option (Int32) :=
  Option.bind (f9_isWord sort_ word_ (70241 : Int64)) fun (v1 : Int32) =>
  if v1 = (0 : Int32) then
    Option.bind (f9_isWord sort_ word_ (2968 : Int64)) fun (v2 : Int32) =>
    if v2 = (0 : Int32) then
      Option.bind (f9_isWord sort_ word_ (232546955 : Int64)) fun (v3 : Int32) =>
      if v3 = (0 : Int32) then
        Option.bind (f9_isWord sort_ word_ (400375 : Int64)) fun (v4 : Int32) =>
        if v4 = (0 : Int32) then
          Option.bind (f9_isWord sort_ word_ (12531637 : Int64)) fun (v5 : Int32) =>
          if v5 = (0 : Int32) then
            Option.bind (f9_isWord sort_ word_ (223456 : Int64)) fun (v6 : Int32) =>
            if v6 = (0 : Int32) then
              some (-1 : Int32)
            else
              some (5 : Int32)
          else
            some (4 : Int32)
        else
          some (3 : Int32)
      else
        some (2 : Int32)
    else
      some (1 : Int32)
  else
    some (0 : Int32)
def f9_emit (freshMany_ : Int32) (fresh_ : (Nat → Int32)) (p1 : Int32) : Option (Int32 × (Nat → Int32)) :=
  gd (ix freshMany_ 200) <|
  some ((freshMany_ + (1 : Int32)), (upd fresh_ freshMany_.toNatClampNeg p1))
def f9_wantValue (begins_ : Int32) (freshMany_ : Int32) (good_ : Int32) (sort_ : Int32) (tapeMany_ : Int32) (tokenEnds_ : Int32) (value_ : Int32) (fresh_ : (Nat → Int32)) (tape_ : (Nat → Int32)) (word_ : Int64) : Option (Int32 × Int32 × Int32 × Int32 × Int32 × Int32 × (Nat → Int32) × Int64) :=
  Option.bind (f9_factHere sort_ word_) fun (v1 : Int32) =>
  jn (fun (s3 : Int32) =>
    gd (bz s3) <|
    if s3 = (0 : Int32) then
      some (begins_, freshMany_, s3, sort_, tokenEnds_, value_, fresh_, word_)
    else
      jn (fun (s6 : Int32) =>
        bn2 (f9_emit freshMany_ fresh_ s6) fun (c7 : Int32) (c8 : (Nat → Int32)) =>
        bn5 (f9_advance begins_ sort_ tapeMany_ tokenEnds_ value_ tape_ word_) fun (c9 : Int32) (c10 : Int32) (c11 : Int32) (c12 : Int32) (c13 : Int64) =>
        some (c9, c7, s3, c10, c11, c12, c8, c13)) fun (J5 : Int32 → Option (Int32 × Int32 × Int32 × Int32 × Int32 × Int32 × (Nat → Int32) × Int64)) =>
      if v1 < (0 : Int32) then
        J5 value_
      else
        J5 ((20000 : Int32) + v1)) fun (J2 : Int32 → Option (Int32 × Int32 × Int32 × Int32 × Int32 × Int32 × (Nat → Int32) × Int64)) =>
  jn (
    J2 (0 : Int32)) fun (J16 : Option (Int32 × Int32 × Int32 × Int32 × Int32 × Int32 × (Nat → Int32) × Int64)) =>
  if good_ = (0 : Int32) then
    J16
  else
    jn (
      J2 (1 : Int32)) fun (J17 : Option (Int32 × Int32 × Int32 × Int32 × Int32 × Int32 × (Nat → Int32) × Int64)) =>
    if (0 : Int32) ≤ v1 then
      J17
    else
    if sort_ = (2 : Int32) then
      if value_ < (0 : Int32) then
        J16
      else
        J17
    else
      J16
def f9_isTop (pendingMany_ : Int32) (pending_ : (Nat → Int32)) (p1 : Int32) : Option (Int32) :=
  if pendingMany_ ≤ (0 : Int32) then
    some (0 : Int32)
  else
    gd (ix (pendingMany_ - (1 : Int32)) 200) <|
    if (pending_ (pendingMany_ - (1 : Int32)).toNatClampNeg) = p1 then
      some (1 : Int32)
    else
      some (0 : Int32)
def f9_settle_L0 (pending_ : (Nat → Int32)) (p1 : Int32) : Nat → Int32 → Int32 → (Nat → Int32) → (Int32 → Int32 → (Nat → Int32) → Option (Int32 × Int32 × (Nat → Int32))) → Option (Int32 × Int32 × (Nat → Int32))
  | 0, _, _, _, _ => none
  | n5 + 1, c1, c2, c3, K4 =>
    Option.bind (f9_isTop c2 pending_ p1) fun (v6 : Int32) =>
    if v6 = (0 : Int32) then
      K4 c1 c2 c3
    else
      bn2 (f9_emit c1 c3 p1) fun (c7 : Int32) (c8 : (Nat → Int32)) =>
      f9_settle_L0 pending_ p1 n5 c7 (c2 - (1 : Int32)) c8 K4
def f9_settle (freshMany_ : Int32) (pendingMany_ : Int32) (fresh_ : (Nat → Int32)) (pending_ : (Nat → Int32)) (p1 : Int32) : Option (Int32 × Int32 × (Nat → Int32)) :=
  jn (fun (c1 : Int32) (c2 : Int32) (c3 : (Nat → Int32)) =>
    some (c1, c2, c3)) fun (K4 : Int32 → Int32 → (Nat → Int32) → Option (Int32 × Int32 × (Nat → Int32))) =>
  f9_settle_L0 pending_ p1 FU freshMany_ pendingMany_ fresh_ K4
def f9_wantCompared (begins_ : Int32) (freshMany_ : Int32) (good_ : Int32) (pendingMany_ : Int32) (sort_ : Int32) (tapeMany_ : Int32) (tokenEnds_ : Int32) (value_ : Int32) (fresh_ : (Nat → Int32)) (pending_ : (Nat → Int32)) (tape_ : (Nat → Int32)) (word_ : Int64) : Option (Int32 × Int32 × Int32 × Int32 × Int32 × Int32 × Int32 × (Nat → Int32) × Int64) :=
  bn8 (f9_wantValue begins_ freshMany_ good_ sort_ tapeMany_ tokenEnds_ value_ fresh_ tape_ word_) fun (c1 : Int32) (c2 : Int32) (c3 : Int32) (c4 : Int32) (c5 : Int32) (c6 : Int32) (c7 : (Nat → Int32)) (c8 : Int64) =>
  jn (fun (s10 : Int32) =>
    gd (bz s10) <|
    jn (fun (c13 : Int32) (c14 : Int32) (c15 : Int32) (c16 : Int32) (c17 : Int32) (c18 : (Nat → Int32)) (c19 : Int64) =>
      bn8 (f9_wantValue c13 c14 s10 c15 tapeMany_ c16 c17 c18 tape_ c19) fun (c20 : Int32) (c21 : Int32) (c22 : Int32) (c23 : Int32) (c24 : Int32) (c25 : Int32) (c26 : (Nat → Int32)) (c27 : Int64) =>
      bn3 (f9_settle c21 pendingMany_ c26 pending_ (40002 : Int32)) fun (c28 : Int32) (c29 : Int32) (c30 : (Nat → Int32)) =>
      some (c20, c28, c22, c29, c23, c24, c25, c30, c27)) fun (J12 : Int32 → Int32 → Int32 → Int32 → Int32 → (Nat → Int32) → Int64 → Option (Int32 × Int32 × Int32 × Int32 × Int32 × Int32 × Int32 × (Nat → Int32) × Int64)) =>
    if s10 = (0 : Int32) then
      J12 c1 c2 c4 c5 c6 c7 c8
    else
      bn2 (f9_emit c2 c7 c6) fun (c31 : Int32) (c32 : (Nat → Int32)) =>
      bn5 (f9_advance c1 c4 tapeMany_ c5 c6 tape_ c8) fun (c33 : Int32) (c34 : Int32) (c35 : Int32) (c36 : Int32) (c37 : Int64) =>
      J12 c33 c31 c34 c35 c36 c32 c37) fun (J9 : Int32 → Option (Int32 × Int32 × Int32 × Int32 × Int32 × Int32 × Int32 × (Nat → Int32) × Int64)) =>
  jn (
    J9 (0 : Int32)) fun (J39 : Option (Int32 × Int32 × Int32 × Int32 × Int32 × Int32 × Int32 × (Nat → Int32) × Int64)) =>
  if c3 = (0 : Int32) then
    J39
  else
    Option.bind (f9_isMark c4 c6 (60 : Int32)) fun (v40 : Int32) =>
    jn (
      J9 (1 : Int32)) fun (J41 : Option (Int32 × Int32 × Int32 × Int32 × Int32 × Int32 × Int32 × (Nat → Int32) × Int64)) =>
    if v40 = (0 : Int32) then
      Option.bind (f9_isMark c4 c6 (61 : Int32)) fun (v42 : Int32) =>
      if v42 = (0 : Int32) then
        Option.bind (f9_isMark c4 c6 (62 : Int32)) fun (v43 : Int32) =>
        if v43 = (0 : Int32) then
          J39
        else
          J41
      else
        J41
    else
      J41
def f9_wantCond_L16 (tapeMany_ : Int32) (tape_ : (Nat → Int32)) (p1 : Int64) (p3 : Int64) (p5 : Int64) : Nat → Int32 → Int32 → Int32 → Int32 → Int32 → Int32 → Int32 → Int32 → Int32 → Int32 → (Nat → Int32) → (Nat → Int32) → Int64 → (Int32 → Int32 → Int32 → Int32 → Int32 → Int32 → Int32 → Int32 → Int32 → Int32 → (Nat → Int32) → (Nat → Int32) → Int64 → Option (Int32 × Int32 × Int32 × Int32 × Int32 × Int32 × Int32 × Int32 × (Nat → Int32) × (Nat → Int32) × Int64)) → Option (Int32 × Int32 × Int32 × Int32 × Int32 × Int32 × Int32 × Int32 × (Nat → Int32) × (Nat → Int32) × Int64)
  | 0, _, _, _, _, _, _, _, _, _, _, _, _, _, _ => none
  | n15 + 1, x1, x2, c3, c4, c5, c6, c7, c8, c9, c10, c11, c12, c13, K14 =>
    if c5 = (0 : Int32) then
      K14 x1 x2 c3 c4 c5 c6 c7 c8 c9 c10 c11 c12 c13
    else
    if x2 = (0 : Int32) then
      K14 x1 x2 c3 c4 c5 c6 c7 c8 c9 c10 c11 c12 c13
    else
      jn (
        jn (
          if x1 = (0 : Int32) then
            Option.bind (f9_isWord c8 c13 p3) fun (v18 : Int32) =>
            jn (
              bn3 (f9_settle c4 c7 c11 c12 (40000 : Int32)) fun (c20 : Int32) (c21 : Int32) (c22 : (Nat → Int32)) =>
              Option.bind (f9_isWord c8 c13 p3) fun (v23 : Int32) =>
              jn (fun (c25 : Int32) (c26 : Int32) (c27 : (Nat → Int32)) =>
                jn (fun (s29 : Int32) =>
                  bn2 (f9_pend c26 c12 s29) fun (c30 : Int32) (c31 : (Nat → Int32)) =>
                  bn5 (f9_advance c3 c8 tapeMany_ c9 c10 tape_ c13) fun (c32 : Int32) (c33 : Int32) (c34 : Int32) (c35 : Int32) (c36 : Int64) =>
                  f9_wantCond_L16 tapeMany_ tape_ p1 p3 p5 n15 (1 : Int32) x2 c32 c25 c5 c6 c30 c33 c34 c35 c27 c31 c36 K14) fun (J28 : Int32 → Option (Int32 × Int32 × Int32 × Int32 × Int32 × Int32 × Int32 × Int32 × (Nat → Int32) × (Nat → Int32) × Int64)) =>
                if v23 = (0 : Int32) then
                  J28 (40001 : Int32)
                else
                  J28 (40000 : Int32)) fun (J24 : Int32 → Int32 → (Nat → Int32) → Option (Int32 × Int32 × Int32 × Int32 × Int32 × Int32 × Int32 × Int32 × (Nat → Int32) × (Nat → Int32) × Int64)) =>
              if v23 = (0 : Int32) then
                bn3 (f9_settle c20 c21 c22 c12 (40001 : Int32)) fun (c38 : Int32) (c39 : Int32) (c40 : (Nat → Int32)) =>
                J24 c38 c39 c40
              else
                J24 c20 c21 c22) fun (J19 : Option (Int32 × Int32 × Int32 × Int32 × Int32 × Int32 × Int32 × Int32 × (Nat → Int32) × (Nat → Int32) × Int64)) =>
            if v18 = (0 : Int32) then
              Option.bind (f9_isWord c8 c13 p5) fun (v42 : Int32) =>
              if v42 = (0 : Int32) then
                bn3 (f9_settle c4 c7 c11 c12 (40000 : Int32)) fun (c43 : Int32) (c44 : Int32) (c45 : (Nat → Int32)) =>
                bn3 (f9_settle c43 c44 c45 c12 (40001 : Int32)) fun (c46 : Int32) (c47 : Int32) (c48 : (Nat → Int32)) =>
                Option.bind (f9_isTop c47 c12 (40003 : Int32)) fun (v49 : Int32) =>
                jn (fun (s51 : Int32) =>
                  gd (bz s51) <|
                  if s51 = (0 : Int32) then
                    f9_wantCond_L16 tapeMany_ tape_ p1 p3 p5 n15 x1 v49 c3 c46 s51 c6 c47 c8 c9 c10 c48 c12 c13 K14
                  else
                  if v49 = (0 : Int32) then
                    f9_wantCond_L16 tapeMany_ tape_ p1 p3 p5 n15 x1 v49 c3 c46 s51 c6 c47 c8 c9 c10 c48 c12 c13 K14
                  else
                    bn5 (f9_advance c3 c8 tapeMany_ c9 c10 tape_ c13) fun (c53 : Int32) (c54 : Int32) (c55 : Int32) (c56 : Int32) (c57 : Int64) =>
                    bn3 (f9_settle c46 (c47 - (1 : Int32)) c48 c12 (40002 : Int32)) fun (c58 : Int32) (c59 : Int32) (c60 : (Nat → Int32)) =>
                    f9_wantCond_L16 tapeMany_ tape_ p1 p3 p5 n15 x1 v49 c53 c58 s51 (c6 - (1 : Int32)) c59 c54 c55 c56 c60 c12 c57 K14) fun (J50 : Int32 → Option (Int32 × Int32 × Int32 × Int32 × Int32 × Int32 × Int32 × Int32 × (Nat → Int32) × (Nat → Int32) × Int64)) =>
                jn (
                  J50 (1 : Int32)) fun (J63 : Option (Int32 × Int32 × Int32 × Int32 × Int32 × Int32 × Int32 × Int32 × (Nat → Int32) × (Nat → Int32) × Int64)) =>
                if v49 = (0 : Int32) then
                  J63
                else
                  Option.bind (f9_isMark c8 c10 (41 : Int32)) fun (v64 : Int32) =>
                  if v64 = (0 : Int32) then
                    J50 (0 : Int32)
                  else
                    J63
              else
                J19
            else
              J19
          else
            bn9 (f9_wantCompared c3 c4 c5 c7 c8 tapeMany_ c9 c10 c11 c12 tape_ c13) fun (c69 : Int32) (c70 : Int32) (c71 : Int32) (c72 : Int32) (c73 : Int32) (c74 : Int32) (c75 : Int32) (c76 : (Nat → Int32)) (c77 : Int64) =>
            f9_wantCond_L16 tapeMany_ tape_ p1 p3 p5 n15 (0 : Int32) x2 c69 c70 c71 c6 c72 c73 c74 c75 c76 c12 c77 K14) fun (J17 : Option (Int32 × Int32 × Int32 × Int32 × Int32 × Int32 × Int32 × Int32 × (Nat → Int32) × (Nat → Int32) × Int64)) =>
        if x1 = (0 : Int32) then
          J17
        else
          Option.bind (f9_isMark c8 c10 (40 : Int32)) fun (v79 : Int32) =>
          if v79 = (0 : Int32) then
            J17
          else
            jn (fun (s81 : Int32) =>
              gd (bz s81) <|
              if s81 = (0 : Int32) then
                f9_wantCond_L16 tapeMany_ tape_ p1 p3 p5 n15 x1 x2 c3 c4 s81 c6 c7 c8 c9 c10 c11 c12 c13 K14
              else
                bn2 (f9_pend c7 c12 (40003 : Int32)) fun (c83 : Int32) (c84 : (Nat → Int32)) =>
                bn5 (f9_advance c3 c8 tapeMany_ c9 c10 tape_ c13) fun (c85 : Int32) (c86 : Int32) (c87 : Int32) (c88 : Int32) (c89 : Int64) =>
                f9_wantCond_L16 tapeMany_ tape_ p1 p3 p5 n15 x1 x2 c85 c4 s81 (c6 + (1 : Int32)) c83 c86 c87 c88 c11 c84 c89 K14) fun (J80 : Int32 → Option (Int32 × Int32 × Int32 × Int32 × Int32 × Int32 × Int32 × Int32 × (Nat → Int32) × (Nat → Int32) × Int64)) =>
            if (3 : Int32) ≤ c6 then
              J80 (0 : Int32)
            else
              J80 (1 : Int32)) fun (J16 : Option (Int32 × Int32 × Int32 × Int32 × Int32 × Int32 × Int32 × Int32 × (Nat → Int32) × (Nat → Int32) × Int64)) =>
      if x1 = (0 : Int32) then
        J16
      else
        Option.bind (f9_isWord c8 c13 p1) fun (v94 : Int32) =>
        if v94 = (0 : Int32) then
          J16
        else
          bn2 (f9_pend c7 c12 (40002 : Int32)) fun (c95 : Int32) (c96 : (Nat → Int32)) =>
          bn5 (f9_advance c3 c8 tapeMany_ c9 c10 tape_ c13) fun (c97 : Int32) (c98 : Int32) (c99 : Int32) (c100 : Int32) (c101 : Int64) =>
          f9_wantCond_L16 tapeMany_ tape_ p1 p3 p5 n15 x1 x2 c97 c4 c5 c6 c95 c98 c99 c100 c11 c96 c101 K14
def f9_wantCond (begins_ : Int32) (freshMany_ : Int32) (good_ : Int32) (open_ : Int32) (pendingMany_ : Int32) (sort_ : Int32) (tapeMany_ : Int32) (tokenEnds_ : Int32) (value_ : Int32) (fresh_ : (Nat → Int32)) (pending_ : (Nat → Int32)) (tape_ : (Nat → Int32)) (word_ : Int64) (p1 : Int64) (p3 : Int64) (p5 : Int64) : Option (Int32 × Int32 × Int32 × Int32 × Int32 × Int32 × Int32 × Int32 × (Nat → Int32) × (Nat → Int32) × Int64) :=
  jn (fun (x1 : Int32) (x2 : Int32) (c3 : Int32) (c4 : Int32) (c5 : Int32) (c6 : Int32) (c7 : Int32) (c8 : Int32) (c9 : Int32) (c10 : Int32) (c11 : (Nat → Int32)) (c12 : (Nat → Int32)) (c13 : Int64) =>
    some (c3, c4, c5, c6, c7, c8, c9, c10, c11, c12, c13)) fun (K14 : Int32 → Int32 → Int32 → Int32 → Int32 → Int32 → Int32 → Int32 → Int32 → Int32 → (Nat → Int32) → (Nat → Int32) → Int64 → Option (Int32 × Int32 × Int32 × Int32 × Int32 × Int32 × Int32 × Int32 × (Nat → Int32) × (Nat → Int32) × Int64)) =>
  f9_wantCond_L16 tapeMany_ tape_ p1 p3 p5 FU (1 : Int32) (1 : Int32) begins_ freshMany_ good_ (0 : Int32) (0 : Int32) sort_ tokenEnds_ value_ fresh_ pending_ word_ K14
def f9_rules_L250 (c8 : Int32) (c15 : (Nat → Int32)) : Nat → Int32 → (Nat → Int32) → (Int32 → (Nat → Int32) → Option (Int32 × Int32 × Int32 × Int32 × Int32 × Int32 × Int32 × Int32 × Int32 × Int32 × Int32 × (Nat → Int32) × (Nat → Int32) × (Nat → Int32) × (Nat → Int32) × (Nat → Int32) × Int64)) → Option (Int32 × Int32 × Int32 × Int32 × Int32 × Int32 × Int32 × Int32 × Int32 × Int32 × Int32 × (Nat → Int32) × (Nat → Int32) × (Nat → Int32) × (Nat → Int32) × (Nat → Int32) × Int64)
  | 0, _, _, _ => none
  | n118 + 1, x115, c116, K117 =>
    if c8 ≤ x115 then
      K117 x115 c116
    else
      gd (ix x115 200) <|
      gd (ix x115 200) <|
      f9_rules_L250 c8 c15 n118 (x115 + (1 : Int32)) (upd c116 x115.toNatClampNeg (c15 x115.toNatClampNeg)) K117
def f9_rules_L224 (c16 : (Nat → Int32)) : Nat → Int32 → (Nat → Int32) → (Int32 → (Nat → Int32) → Option (Int32 × Int32 × Int32 × Int32 × Int32 × Int32 × Int32 × Int32 × Int32 × Int32 × Int32 × (Nat → Int32) × (Nat → Int32) × (Nat → Int32) × (Nat → Int32) × (Nat → Int32) × Int64)) → Option (Int32 × Int32 × Int32 × Int32 × Int32 × Int32 × Int32 × Int32 × Int32 × Int32 × Int32 × (Nat → Int32) × (Nat → Int32) × (Nat → Int32) × (Nat → Int32) × (Nat → Int32) × Int64)
  | 0, _, _, _ => none
  | n111 + 1, x108, c109, K110 =>
    if (24 : Int32) ≤ x108 then
      K110 x108 c109
    else
      gd (ix x108 24) <|
      gd (ix x108 24) <|
      f9_rules_L224 c16 n111 (x108 + (1 : Int32)) (upd c109 x108.toNatClampNeg (c16 x108.toNatClampNeg)) K110
def f9_rules_L21 (tapeMany_ : Int32) (tape_ : (Nat → Int32)) : Nat → Int32 → Int32 → Int32 → Int32 → Int32 → Int32 → Int32 → Int32 → Int32 → (Nat → Int32) → (Nat → Int32) → (Nat → Int32) → Int64 → (Int32 → Int32 → Int32 → Int32 → Int32 → Int32 → Int32 → Int32 → Int32 → (Nat → Int32) → (Nat → Int32) → (Nat → Int32) → Int64 → Option (Int32 × Int32 × Int32 × Int32 × Int32 × Int32 × Int32 × Int32 × Int32 × Int32 × Int32 × (Nat → Int32) × (Nat → Int32) × (Nat → Int32) × (Nat → Int32) × (Nat → Int32) × Int64)) → Option (Int32 × Int32 × Int32 × Int32 × Int32 × Int32 × Int32 × Int32 × Int32 × Int32 × Int32 × (Nat → Int32) × (Nat → Int32) × (Nat → Int32) × (Nat → Int32) × (Nat → Int32) × Int64)
  | 0, _, _, _, _, _, _, _, _, _, _, _, _, _, _ => none
  | n20 + 1, x6, c7, c8, c9, c10, c11, c12, c13, c14, c15, c16, c17, c18, K19 =>
    if c9 = (0 : Int32) then
      K19 x6 c7 c8 c9 c10 c11 c12 c13 c14 c15 c16 c17 c18
    else
    if c12 = (0 : Int32) then
      K19 x6 c7 c8 c9 c10 c11 c12 c13 c14 c15 c16 c17 c18
    else
      Option.bind (f9_isWord c12 c18 (1253 : Int64)) fun (v21 : Int32) =>
      jn (fun (s23 : Int32) =>
        gd (bz s23) <|
        jn (fun (y26 : Int32) (c27 : Int32) (c28 : Int32) (c29 : Int32) (c30 : Int32) (c31 : Int32) (c32 : Int32) (c33 : Int32) (c34 : Int32) (c35 : (Nat → Int32)) (c36 : (Nat → Int32)) (c37 : (Nat → Int32)) (c38 : Int64) =>
          jn (fun (c40 : Int32) (c41 : Int32) (c42 : Int32) (c43 : Int32) (c44 : Int64) =>
            f9_rules_L21 tapeMany_ tape_ n20 y26 c40 c28 c29 c30 c31 c41 c42 c43 c35 c36 c37 c44 K19) fun (J39 : Int32 → Int32 → Int32 → Int32 → Int64 → Option (Int32 × Int32 × Int32 × Int32 × Int32 × Int32 × Int32 × Int32 × Int32 × Int32 × Int32 × (Nat → Int32) × (Nat → Int32) × (Nat → Int32) × (Nat → Int32) × (Nat → Int32) × Int64)) =>
          if c29 = (0 : Int32) then
            J39 c27 c32 c33 c34 c38
          else
            bn5 (f9_advance c27 c32 tapeMany_ c33 c34 tape_ c38) fun (c45 : Int32) (c46 : Int32) (c47 : Int32) (c48 : Int32) (c49 : Int64) =>
            J39 c45 c46 c47 c48 c49) fun (J25 : Int32 → Int32 → Int32 → Int32 → Int32 → Int32 → Int32 → Int32 → Int32 → (Nat → Int32) → (Nat → Int32) → (Nat → Int32) → Int64 → Option (Int32 × Int32 × Int32 × Int32 × Int32 × Int32 × Int32 × Int32 × Int32 × Int32 × Int32 × (Nat → Int32) × (Nat → Int32) × (Nat → Int32) × (Nat → Int32) × (Nat → Int32) × Int64)) =>
        if s23 = (0 : Int32) then
          J25 x6 c7 c8 s23 c10 c11 c12 c13 c14 c15 c16 c17 c18
        else
          jn (fun (s52 : Int32) =>
            gd (ix ((3 : Int32) * x6) 24) <|
            gd (ix (((3 : Int32) * x6) + (1 : Int32)) 24) <|
            bn5 (f9_advance c7 c12 tapeMany_ c13 c14 tape_ c18) fun (c55 : Int32) (c56 : Int32) (c57 : Int32) (c58 : Int32) (c59 : Int64) =>
            Option.bind (f9_isWord c56 c59 (249 : Int64)) fun (v60 : Int32) =>
            jn (fun (c62 : Int32) (c63 : Int32) (c64 : Int32) (c65 : Int32) (c66 : Int32) (c67 : Int32) (c68 : Int32) (c69 : Int32) (c70 : (Nat → Int32)) (c71 : (Nat → Int32)) (c72 : Int64) =>
              gd (ix (((3 : Int32) * x6) + (2 : Int32)) 24) <|
              jn (fun (s75 : Int32) =>
                gd (bz s75) <|
                J25 (x6 + (1 : Int32)) c62 c63 s75 c65 c66 c67 c68 c69 c70 (upd (upd (upd c16 ((3 : Int32) * x6).toNatClampNeg s52) (((3 : Int32) * x6) + (1 : Int32)).toNatClampNeg c8) (((3 : Int32) * x6) + (2 : Int32)).toNatClampNeg c63) c71 c72) fun (J74 : Int32 → Option (Int32 × Int32 × Int32 × Int32 × Int32 × Int32 × Int32 × Int32 × Int32 × Int32 × Int32 × (Nat → Int32) × (Nat → Int32) × (Nat → Int32) × (Nat → Int32) × (Nat → Int32) × Int64)) =>
              jn (
                J74 (0 : Int32)) fun (J77 : Option (Int32 × Int32 × Int32 × Int32 × Int32 × Int32 × Int32 × Int32 × Int32 × Int32 × Int32 × (Nat → Int32) × (Nat → Int32) × (Nat → Int32) × (Nat → Int32) × (Nat → Int32) × Int64)) =>
              if c64 = (0 : Int32) then
                J77
              else
                Option.bind (f9_isMark c67 c69 (59 : Int32)) fun (v78 : Int32) =>
                if v78 = (0 : Int32) then
                  J77
                else
                  J74 (1 : Int32)) fun (J61 : Int32 → Int32 → Int32 → Int32 → Int32 → Int32 → Int32 → Int32 → (Nat → Int32) → (Nat → Int32) → Int64 → Option (Int32 × Int32 × Int32 × Int32 × Int32 × Int32 × Int32 × Int32 × Int32 × Int32 × Int32 × (Nat → Int32) × (Nat → Int32) × (Nat → Int32) × (Nat → Int32) × (Nat → Int32) × Int64)) =>
            if v60 = (0 : Int32) then
              J61 c55 c8 s23 c10 c11 c56 c57 c58 c15 c17 c59
            else
              bn5 (f9_advance c55 c56 tapeMany_ c57 c58 tape_ c59) fun (c81 : Int32) (c82 : Int32) (c83 : Int32) (c84 : Int32) (c85 : Int64) =>
              bn11 (f9_wantCond c81 c8 s23 c10 c11 c82 tapeMany_ c83 c84 c15 c17 tape_ c85 (10631 : Int64) (1111 : Int64) (423 : Int64)) fun (c86 : Int32) (c87 : Int32) (c88 : Int32) (c89 : Int32) (c90 : Int32) (c91 : Int32) (c92 : Int32) (c93 : Int32) (c94 : (Nat → Int32)) (c95 : (Nat → Int32)) (c96 : Int64) =>
              J61 c86 c87 c88 c89 c90 c91 c92 c93 c94 c95 c96) fun (J51 : Int32 → Option (Int32 × Int32 × Int32 × Int32 × Int32 × Int32 × Int32 × Int32 × Int32 × Int32 × Int32 × (Nat → Int32) × (Nat → Int32) × (Nat → Int32) × (Nat → Int32) × (Nat → Int32) × Int64)) =>
          if v21 = (0 : Int32) then
            J51 (0 : Int32)
          else
            J51 (1 : Int32)) fun (J22 : Int32 → Option (Int32 × Int32 × Int32 × Int32 × Int32 × Int32 × Int32 × Int32 × Int32 × Int32 × Int32 × (Nat → Int32) × (Nat → Int32) × (Nat → Int32) × (Nat → Int32) × (Nat → Int32) × Int64)) =>
      jn (
        J22 (0 : Int32)) fun (J100 : Option (Int32 × Int32 × Int32 × Int32 × Int32 × Int32 × Int32 × Int32 × Int32 × Int32 × Int32 × (Nat → Int32) × (Nat → Int32) × (Nat → Int32) × (Nat → Int32) × (Nat → Int32) × Int64)) =>
      if (8 : Int32) ≤ x6 then
        J100
      else
        jn (
          J22 (1 : Int32)) fun (J101 : Option (Int32 × Int32 × Int32 × Int32 × Int32 × Int32 × Int32 × Int32 × Int32 × Int32 × Int32 × (Nat → Int32) × (Nat → Int32) × (Nat → Int32) × (Nat → Int32) × (Nat → Int32) × Int64)) =>
        if v21 = (0 : Int32) then
          Option.bind (f9_isWord c12 c18 (11716 : Int64)) fun (v102 : Int32) =>
          if v102 = (0 : Int32) then
            J100
          else
            J101
        else
          J101
def f9_rules (begins_ : Int32) (clauses_ : Int32) (freshMany_ : Int32) (good_ : Int32) (open_ : Int32) (pendingMany_ : Int32) (sort_ : Int32) (tapeMany_ : Int32) (tokenEnds_ : Int32) (value_ : Int32) (clause_ : (Nat → Int32)) (fresh_ : (Nat → Int32)) (freshClause_ : (Nat → Int32)) (pending_ : (Nat → Int32)) (signs_ : (Nat → Int32)) (tape_ : (Nat → Int32)) (word_ : Int64) : Option (Int32 × Int32 × Int32 × Int32 × Int32 × Int32 × Int32 × Int32 × Int32 × Int32 × Int32 × (Nat → Int32) × (Nat → Int32) × (Nat → Int32) × (Nat → Int32) × (Nat → Int32) × Int64) :=
  bn5 (f9_advance begins_ sort_ tapeMany_ (0 : Int32) value_ tape_ word_) fun (c1 : Int32) (c2 : Int32) (c3 : Int32) (c4 : Int32) (c5 : Int64) =>
  jn (fun (x6 : Int32) (c7 : Int32) (c8 : Int32) (c9 : Int32) (c10 : Int32) (c11 : Int32) (c12 : Int32) (c13 : Int32) (c14 : Int32) (c15 : (Nat → Int32)) (c16 : (Nat → Int32)) (c17 : (Nat → Int32)) (c18 : Int64) =>
    if c9 = (0 : Int32) then
      some (((-100 : Int32) - c7), c7, clauses_, c8, c9, c10, c11, c12, (0 : Int32), c13, c14, clause_, c15, c16, c17, signs_, c18)
    else
      jn (fun (x108 : Int32) (c109 : (Nat → Int32)) =>
        jn (fun (x115 : Int32) (c116 : (Nat → Int32)) =>
          some (x6, c7, x6, c8, c9, c10, c11, c12, (0 : Int32), c13, c14, c109, c15, c16, c17, c116, c18)) fun (K117 : Int32 → (Nat → Int32) → Option (Int32 × Int32 × Int32 × Int32 × Int32 × Int32 × Int32 × Int32 × Int32 × Int32 × Int32 × (Nat → Int32) × (Nat → Int32) × (Nat → Int32) × (Nat → Int32) × (Nat → Int32) × Int64)) =>
        f9_rules_L250 c8 c15 FU (0 : Int32) signs_ K117) fun (K110 : Int32 → (Nat → Int32) → Option (Int32 × Int32 × Int32 × Int32 × Int32 × Int32 × Int32 × Int32 × Int32 × Int32 × Int32 × (Nat → Int32) × (Nat → Int32) × (Nat → Int32) × (Nat → Int32) × (Nat → Int32) × Int64)) =>
      f9_rules_L224 c16 FU (0 : Int32) clause_ K110) fun (K19 : Int32 → Int32 → Int32 → Int32 → Int32 → Int32 → Int32 → Int32 → Int32 → (Nat → Int32) → (Nat → Int32) → (Nat → Int32) → Int64 → Option (Int32 × Int32 × Int32 × Int32 × Int32 × Int32 × Int32 × Int32 × Int32 × Int32 × Int32 × (Nat → Int32) × (Nat → Int32) × (Nat → Int32) × (Nat → Int32) × (Nat → Int32) × Int64)) =>
  f9_rules_L21 tapeMany_ tape_ FU (0 : Int32) c1 (0 : Int32) (1 : Int32) open_ pendingMany_ c2 c3 c4 fresh_ freshClause_ pending_ c5 K19
def f9_says (claims_ : Int32) (clauses_ : Int32) (people_ : Int32) (claim_ : (Nat → Int32)) (clause_ : (Nat → Int32)) (facts_ : (Nat → Int32)) (isHub_ : (Nat → Int32)) (laws_ : (Nat → Int32)) (oneOf_ : (Nat → Int32)) (pile_ : (Nat → Int32)) (signs_ : (Nat → Int32)) (p1 : Int32) : Option (Int32 × (Nat → Int32) × (Nat → Int32)) :=
  Option.bind (f9_isClaim claims_ p1) fun (v1 : Int32) =>
  if v1 = (0 : Int32) then
    some ((-1 : Int32), facts_, pile_)
  else
    bn3 (f9_saysOf claims_ clauses_ people_ claim_ clause_ facts_ isHub_ laws_ oneOf_ pile_ signs_ p1) fun (v2 : Int32) (c3 : (Nat → Int32)) (c4 : (Nat → Int32)) =>
    some (v2, c3, c4)
def f9_isSet (claims_ : Int32) (p1 : Int32) : Option (Int32) :=
  Option.bind (f9_in p1 (0 : Int32) (((1 : Int32) <<< (claims_ &&& 31)) - (1 : Int32))) fun (v1 : Int32) =>
  gd (bz v1) <|
  some v1
def f9_score (claims_ : Int32) (people_ : Int32) (claim_ : (Nat → Int32)) (isHub_ : (Nat → Int32)) (laws_ : (Nat → Int32)) (oneOf_ : (Nat → Int32)) (strength_ : (Nat → Int32)) (p1 : Int32) : Option (Int32 × (Nat → Int32)) :=
  Option.bind (f9_isSet claims_ p1) fun (v1 : Int32) =>
  if v1 = (0 : Int32) then
    some ((-1 : Int32), strength_)
  else
    Option.bind (f9_findStrengths claims_ people_ claim_ isHub_ laws_ oneOf_ strength_) fun (c2 : (Nat → Int32)) =>
    Option.bind (f9_scoreOf claims_ laws_ c2 p1) fun (v3 : Int32) =>
    some (((100000 : Int32) + v3), c2)
def f9_seat (claims_ : Int32) (people_ : Int32) (claim_ : (Nat → Int32)) (oneOf_ : (Nat → Int32)) (p1 : Int32) (p2 : Int32) (p3 : Int32) : Option (Int32 × (Nat → Int32)) :=
  Option.bind (f9_isClaim claims_ p1) fun (v1 : Int32) =>
  if v1 = (0 : Int32) then
    some ((-1 : Int32), claim_)
  else
    Option.bind (f9_in p2 (0 : Int32) (3 : Int32)) fun (v2 : Int32) =>
    if v2 = (0 : Int32) then
      some ((-1 : Int32), claim_)
    else
      jn (
        jn (
          Option.bind (f9_its claim_ p1 ((5 : Int32) + p2)) fun (v5 : Int32) =>
          gd (ix ((((11 : Int32) * p1) + (5 : Int32)) + p2) 99) <|
          Option.bind (f9_orNobody v5) fun (v7 : Int32) =>
          some (v7, (upd claim_ ((((11 : Int32) * p1) + (5 : Int32)) + p2).toNatClampNeg p3))) fun (J4 : Option (Int32 × (Nat → Int32))) =>
        if p3 < (0 : Int32) then
          J4
        else
          jn (fun (s9 : Int32) =>
            gd (ix s9 10) <|
            Option.bind (f9_placesOf claim_ oneOf_ p1 (oneOf_ s9.toNatClampNeg)) fun (v11 : Int32) =>
            if (v11 &&& (((1 : Int32) <<< (p2 &&& 31)) ^^^ (-1 : Int32))) = (0 : Int32) then
              J4
            else
              some ((-4 : Int32), claim_)) fun (J8 : Int32 → Option (Int32 × (Nat → Int32))) =>
          if (0 : Int32) ≤ p3 then
            J8 p3
          else
            J8 (0 : Int32)) fun (J3 : Option (Int32 × (Nat → Int32))) =>
      if p3 = (-1 : Int32) then
        J3
      else
        Option.bind (f9_isPerson people_ p3) fun (v15 : Int32) =>
        if v15 = (0 : Int32) then
          some ((-1 : Int32), claim_)
        else
          J3
def f9_seed (z_ : Int32) (p1 : Int32) : Option (Int32 × Int32) :=
  some (z_, p1)
def f9_seen_L40 (claims_ : Int32) (claim_ : (Nat → Int32)) (x4 : Int32) : Nat → Int32 → Int32 → (Int32 → Int32 → Option (Int32 × (Nat → Int32))) → Option (Int32 × (Nat → Int32))
  | 0, _, _, _ => none
  | n10 + 1, x7, x8, K9 =>
    if claims_ ≤ x8 then
      K9 x7 x8
    else
      jn (fun (s12 : Int32) =>
        f9_seen_L40 claims_ claim_ x4 n10 s12 (x8 + (1 : Int32)) K9) fun (J11 : Int32 → Option (Int32 × (Nat → Int32))) =>
      jn (
        J11 x7) fun (J13 : Option (Int32 × (Nat → Int32))) =>
      if ((x4 >>> (x8 &&& 31)) &&& (1 : Int32)) = (1 : Int32) then
        Option.bind (f9_its claim_ x8 (1 : Int32)) fun (v14 : Int32) =>
        if v14 ≤ x7 then
          J13
        else
          Option.bind (f9_its claim_ x8 (1 : Int32)) fun (v15 : Int32) =>
          J11 v15
      else
        J13
def f9_seen_L24 (claims_ : Int32) (claim_ : (Nat → Int32)) (laws_ : (Nat → Int32)) (p1 : Int32) (c2 : (Nat → Int32)) : Nat → Int32 → Int32 → (Int32 → Int32 → Option (Int32 × (Nat → Int32))) → Option (Int32 × (Nat → Int32))
  | 0, _, _, _ => none
  | n6 + 1, x3, x4, K5 =>
    if ((1 : Int32) <<< (claims_ &&& 31)) ≤ x4 then
      K5 x3 x4
    else
      jn (fun (x7 : Int32) (x8 : Int32) =>
        Option.bind (f9_ones x4) fun (v19 : Int32) =>
        jn (fun (s21 : Int32) =>
          jn (fun (s23 : Int32) =>
            f9_seen_L24 claims_ claim_ laws_ p1 c2 n6 s23 (x4 + (1 : Int32)) K5) fun (J22 : Int32 → Option (Int32 × (Nat → Int32))) =>
          if s21 = (0 : Int32) then
            J22 x3
          else
            J22 x7) fun (J20 : Int32 → Option (Int32 × (Nat → Int32))) =>
        jn (
          J20 (0 : Int32)) fun (J25 : Option (Int32 × (Nat → Int32))) =>
        if v19 ≤ (1 : Int32) then
          J25
        else
          jn (
            Option.bind (f9_scoreOf claims_ laws_ c2 x4) fun (v27 : Int32) =>
            if v27 < p1 then
              J25
            else
              J20 (1 : Int32)) fun (J26 : Option (Int32 × (Nat → Int32))) =>
          if x3 < (0 : Int32) then
            J26
          else
          if x3 ≤ x7 then
            J25
          else
            J26) fun (K9 : Int32 → Int32 → Option (Int32 × (Nat → Int32))) =>
      f9_seen_L40 claims_ claim_ x4 FU (0 : Int32) (0 : Int32) K9
def f9_seen (claims_ : Int32) (people_ : Int32) (claim_ : (Nat → Int32)) (isHub_ : (Nat → Int32)) (laws_ : (Nat → Int32)) (oneOf_ : (Nat → Int32)) (strength_ : (Nat → Int32)) (p1 : Int32) : Option (Int32 × (Nat → Int32)) :=
  Option.bind (f9_in p1 (-1000 : Int32) (1000 : Int32)) fun (v1 : Int32) =>
  if v1 = (0 : Int32) then
    some ((-1 : Int32), strength_)
  else
    Option.bind (f9_findStrengths claims_ people_ claim_ isHub_ laws_ oneOf_ strength_) fun (c2 : (Nat → Int32)) =>
    jn (fun (x3 : Int32) (x4 : Int32) =>
      some (x3, c2)) fun (K5 : Int32 → Int32 → Option (Int32 × (Nat → Int32))) =>
    f9_seen_L24 claims_ claim_ laws_ p1 c2 FU (-3 : Int32) (0 : Int32) K5
def f9_set (laws_ : (Nat → Int32)) (mostOf_ : (Nat → Int32)) (p1 : Int32) (p2 : Int32) : Option (Int32 × (Nat → Int32)) :=
  Option.bind (f9_in p1 (0 : Int32) (6 : Int32)) fun (v1 : Int32) =>
  if v1 = (0 : Int32) then
    some ((-1 : Int32), laws_)
  else
    Option.bind (f9_in p1 (0 : Int32) (6 : Int32)) fun (v2 : Int32) =>
    jn (fun (s4 : Int32) =>
      gd (ix s4 7) <|
      Option.bind (f9_in p2 (0 : Int32) (mostOf_ s4.toNatClampNeg)) fun (v6 : Int32) =>
      if v6 = (0 : Int32) then
        some ((-1 : Int32), laws_)
      else
        gd (ix p1 7) <|
        gd (ix p1 7) <|
        some ((laws_ p1.toNatClampNeg), (upd laws_ p1.toNatClampNeg p2))) fun (J3 : Int32 → Option (Int32 × (Nat → Int32))) =>
    if v2 = (0 : Int32) then
      J3 (0 : Int32)
    else
      J3 p1
def f9_sheet_L64 (p1 : Int32) : Nat → Int32 → (Nat → Int64) → (Int32 → (Nat → Int64) → Option (Int32 × (Nat → Int32) × (Nat → Int32) × (Nat → Int64))) → Option (Int32 × (Nat → Int32) × (Nat → Int32) × (Nat → Int64))
  | 0, _, _, _ => none
  | n12 + 1, x9, c10, K11 =>
    if (40 : Int32) ≤ x9 then
      K11 x9 c10
    else
      gd (ix (((40 : Int32) * p1) + x9) 160) <|
      f9_sheet_L64 p1 n12 (x9 + (1 : Int32)) (vp_updL c10 (((40 : Int32) * p1) + x9).toNatClampNeg (0 : Int64)) K11
def f9_sheet (sizes_ : (Nat → Int32)) (sorts_ : (Nat → Int32)) (sheets_ : (Nat → Int64)) (p1 : Int32) (p2 : Int32) (p3 : Int32) : Option (Int32 × (Nat → Int32) × (Nat → Int32) × (Nat → Int64)) :=
  Option.bind (f9_isShelf p1) fun (v1 : Int32) =>
  if v1 = (0 : Int32) then
    some ((-1 : Int32), sizes_, sorts_, sheets_)
  else
    Option.bind (f9_in p2 (-1 : Int32) (3 : Int32)) fun (v2 : Int32) =>
    if v2 = (0 : Int32) then
      some ((-1 : Int32), sizes_, sorts_, sheets_)
    else
      jn (
        jn (
          gd (ix p1 4) <|
          jn (fun (s7 : Int32) =>
            gd (ix p1 4) <|
            jn (fun (x9 : Int32) (c10 : (Nat → Int64)) =>
              some ((1 : Int32), (upd sizes_ p1.toNatClampNeg s7), (upd sorts_ p1.toNatClampNeg p2), c10)) fun (K11 : Int32 → (Nat → Int64) → Option (Int32 × (Nat → Int32) × (Nat → Int32) × (Nat → Int64))) =>
            f9_sheet_L64 p1 FU (0 : Int32) sheets_ K11) fun (J6 : Int32 → Option (Int32 × (Nat → Int32) × (Nat → Int32) × (Nat → Int64))) =>
          if (0 : Int32) ≤ p2 then
            J6 p3
          else
            J6 (0 : Int32)) fun (J4 : Option (Int32 × (Nat → Int32) × (Nat → Int32) × (Nat → Int64))) =>
        if p2 < (0 : Int32) then
          J4
        else
        if (0 : Int32) ≤ p3 then
          J4
        else
          some ((-14 : Int32), sizes_, sorts_, sheets_)) fun (J3 : Option (Int32 × (Nat → Int32) × (Nat → Int32) × (Nat → Int64))) =>
      if p2 < (0 : Int32) then
        J3
      else
      if p3 ≤ (40 : Int32) then
        J3
      else
        some ((-1 : Int32), sizes_, sorts_, sheets_)
def f9_isHeld (claims_ : Int32) (p1 : Int32) (p2 : Int32) : Option (Int32) :=
  if p1 = (0 : Int32) then
    Option.bind (f9_isClaim claims_ p2) fun (v5 : Int32) =>
    gd (bz v5) <|
    some v5
  else
  if p1 = (1 : Int32) then
    Option.bind (f9_isShelf p2) fun (v2 : Int32) =>
    gd (bz v2) <|
    some v2
  else
  if p1 = (2 : Int32) then
    some (1 : Int32)
  else
    some (0 : Int32)
def f9_shelf (claims_ : Int32) (held_ : (Nat → Int32)) (heldNumber_ : (Nat → Int32)) (heldSize_ : (Nat → Int32)) (sizes_ : (Nat → Int32)) (sorts_ : (Nat → Int32)) (p1 : Int32) (p2 : Int32) (p3 : Int32) : Option (Int32 × (Nat → Int32) × (Nat → Int32) × (Nat → Int32)) :=
  Option.bind (f9_isShelf p1) fun (v1 : Int32) =>
  if v1 = (0 : Int32) then
    some ((-1 : Int32), held_, heldNumber_, heldSize_)
  else
    Option.bind (f9_isHeld claims_ p2 p3) fun (v2 : Int32) =>
    if v2 = (0 : Int32) then
      some ((-1 : Int32), held_, heldNumber_, heldSize_)
    else
      jn (fun (s4 : Int32) =>
        gd (ix p1 4) <|
        jn (fun (s7 : Int32) =>
          gd (ix p1 4) <|
          jn (fun (s10 : Int32) =>
            gd (ix p1 4) <|
            some ((1 : Int32), (upd held_ p1.toNatClampNeg s4), (upd heldNumber_ p1.toNatClampNeg s7), (upd heldSize_ p1.toNatClampNeg s10))) fun (J9 : Int32 → Option (Int32 × (Nat → Int32) × (Nat → Int32) × (Nat → Int32))) =>
          if p2 = (1 : Int32) then
            gd (ix p3 4) <|
            J9 (sizes_ p3.toNatClampNeg)
          else
            J9 (0 : Int32)) fun (J6 : Int32 → Option (Int32 × (Nat → Int32) × (Nat → Int32) × (Nat → Int32))) =>
        if p2 = (1 : Int32) then
          gd (ix p3 4) <|
          J6 (sorts_ p3.toNatClampNeg)
        else
          J6 p3) fun (J3 : Int32 → Option (Int32 × (Nat → Int32) × (Nat → Int32) × (Nat → Int32))) =>
      jn (
        J3 (-1 : Int32)) fun (J16 : Option (Int32 × (Nat → Int32) × (Nat → Int32) × (Nat → Int32))) =>
      if p2 = (2 : Int32) then
        J16
      else
        jn (
          J3 p2) fun (J17 : Option (Int32 × (Nat → Int32) × (Nat → Int32) × (Nat → Int32))) =>
        if p2 = (1 : Int32) then
          gd (ix p3 4) <|
          if (0 : Int32) ≤ (sorts_ p3.toNatClampNeg) then
            J17
          else
            J16
        else
          J17
def f9_size (sizeOf_ : (Nat → Int32)) (p1 : Int32) (p2 : Int32) : Option (Int32 × (Nat → Int32)) :=
  Option.bind (f9_in p1 (0 : Int32) (3 : Int32)) fun (v1 : Int32) =>
  if v1 = (0 : Int32) then
    some ((-1 : Int32), sizeOf_)
  else
    Option.bind (f9_in p2 (10 : Int32) (99 : Int32)) fun (v2 : Int32) =>
    if v2 = (0 : Int32) then
      some ((-1 : Int32), sizeOf_)
    else
      gd (ix p1 4) <|
      gd (ix p1 4) <|
      some ((sizeOf_ p1.toNatClampNeg), (upd sizeOf_ p1.toNatClampNeg p2))
def f9_onesIn_L4 (claim_ : (Nat → Int32)) (oneOf_ : (Nat → Int32)) (p1 : Int32) : Nat → Int32 → Int32 → (Int32 → Int32 → Option (Int32)) → Option (Int32)
  | 0, _, _, _ => none
  | n4 + 1, x1, x2, K3 =>
    if (4 : Int32) ≤ x2 then
      K3 x1 x2
    else
      Option.bind (f9_oneIn claim_ oneOf_ p1 x2) fun (v5 : Int32) =>
      jn (fun (s7 : Int32) =>
        f9_onesIn_L4 claim_ oneOf_ p1 n4 (x1 ||| s7) (x2 + (1 : Int32)) K3) fun (J6 : Int32 → Option (Int32)) =>
      if v5 < (0 : Int32) then
        J6 (0 : Int32)
      else
        Option.bind (f9_oneIn claim_ oneOf_ p1 x2) fun (v8 : Int32) =>
        J6 ((1 : Int32) <<< (v8 &&& 31))
def f9_onesIn (claim_ : (Nat → Int32)) (oneOf_ : (Nat → Int32)) (p1 : Int32) : Option (Int32) :=
  jn (fun (x1 : Int32) (x2 : Int32) =>
    some x1) fun (K3 : Int32 → Int32 → Option (Int32)) =>
  f9_onesIn_L4 claim_ oneOf_ p1 FU (0 : Int32) (0 : Int32) K3
def f9_steps_L122 (claims_ : Int32) (claim_ : (Nat → Int32)) (oneOf_ : (Nat → Int32)) (s19 : Int32) : Nat → Int32 → Int32 → (Int32 → Int32 → Option (Int32)) → Option (Int32)
  | 0, _, _, _ => none
  | n23 + 1, x20, x21, K22 =>
    if claims_ ≤ x21 then
      K22 x20 x21
    else
      Option.bind (f9_onesIn claim_ oneOf_ x21) fun (v24 : Int32) =>
      jn (fun (s26 : Int32) =>
        f9_steps_L122 claims_ claim_ oneOf_ s19 n23 (x20 ||| s26) (x21 + (1 : Int32)) K22) fun (J25 : Int32 → Option (Int32)) =>
      if (v24 &&& s19) = (0 : Int32) then
        J25 (0 : Int32)
      else
        Option.bind (f9_onesIn claim_ oneOf_ x21) fun (v27 : Int32) =>
        J25 v27
def f9_steps_L92 (claims_ : Int32) (claim_ : (Nat → Int32)) (oneOf_ : (Nat → Int32)) (p2 : Int32) (x5 : Int32) : Nat → Int32 → Int32 → (Int32 → Int32 → Option (Int32)) → Option (Int32)
  | 0, _, _, _ => none
  | n17 + 1, x14, x15, K16 =>
    if (12 : Int32) ≤ x15 then
      K16 x14 x15
    else
      jn (fun (s19 : Int32) =>
        jn (fun (x20 : Int32) (x21 : Int32) =>
          if ((x20 >>> ((oneOf_ p2.toNatClampNeg) &&& 31)) &&& (1 : Int32)) = (1 : Int32) then
            some x15
          else
            f9_steps_L92 claims_ claim_ oneOf_ p2 x5 n17 x20 (x15 + (1 : Int32)) K16) fun (K22 : Int32 → Int32 → Option (Int32)) =>
        f9_steps_L122 claims_ claim_ oneOf_ s19 FU x14 (0 : Int32) K22) fun (J18 : Int32 → Option (Int32)) =>
      if x15 = (1 : Int32) then
        J18 x14
      else
        J18 (x14 &&& (x5 ^^^ (-1 : Int32)))
def f9_steps_L47 (people_ : Int32) (isHub_ : (Nat → Int32)) (oneOf_ : (Nat → Int32)) : Nat → Int32 → Int32 → (Int32 → Int32 → Option (Int32)) → Option (Int32)
  | 0, _, _, _ => none
  | n8 + 1, x5, x6, K7 =>
    if people_ ≤ x6 then
      K7 x5 x6
    else
      Option.bind (f9_isHubOne people_ isHub_ oneOf_ x6) fun (v9 : Int32) =>
      jn (fun (s11 : Int32) =>
        f9_steps_L47 people_ isHub_ oneOf_ n8 (x5 ||| s11) (x6 + (1 : Int32)) K7) fun (J10 : Int32 → Option (Int32)) =>
      if v9 = (0 : Int32) then
        J10 (0 : Int32)
      else
        J10 ((1 : Int32) <<< (x6 &&& 31))
def f9_steps (claims_ : Int32) (people_ : Int32) (claim_ : (Nat → Int32)) (isHub_ : (Nat → Int32)) (oneOf_ : (Nat → Int32)) (p1 : Int32) (p2 : Int32) : Option (Int32) :=
  Option.bind (f9_isPerson people_ p1) fun (v1 : Int32) =>
  if v1 = (0 : Int32) then
    some (-1 : Int32)
  else
    Option.bind (f9_isPerson people_ p2) fun (v2 : Int32) =>
    if v2 = (0 : Int32) then
      some (-1 : Int32)
    else
      gd (ix p1 10) <|
      gd (ix p2 10) <|
      if (oneOf_ p1.toNatClampNeg) = (oneOf_ p2.toNatClampNeg) then
        some (0 : Int32)
      else
        jn (fun (x5 : Int32) (x6 : Int32) =>
          jn (fun (x14 : Int32) (x15 : Int32) =>
            some (-3 : Int32)) fun (K16 : Int32 → Int32 → Option (Int32)) =>
          f9_steps_L92 claims_ claim_ oneOf_ p2 x5 FU ((1 : Int32) <<< ((oneOf_ p1.toNatClampNeg) &&& 31)) (1 : Int32) K16) fun (K7 : Int32 → Int32 → Option (Int32)) =>
        f9_steps_L47 people_ isHub_ oneOf_ FU (0 : Int32) (0 : Int32) K7
def f9_isUnder (p0 : Int32) (p1 : Int32) : Option (Int32) :=
  if p1 = (0 : Int32) then
    some (1 : Int32)
  else
  if p1 = p0 then
    some (1 : Int32)
  else
    jn (
      if p1 = (2 : Int32) then
        if p0 = (4 : Int32) then
          some (1 : Int32)
        else
          some (0 : Int32)
      else
        some (0 : Int32)) fun (J1 : Option (Int32)) =>
    if p1 = (1 : Int32) then
      if p0 = (3 : Int32) then
        some (1 : Int32)
      else
        J1
    else
      J1
def f9_taken (claims_ : Int32) (claim_ : (Nat → Int32)) (held_ : (Nat → Int32)) (heldNumber_ : (Nat → Int32)) (heldSize_ : (Nat → Int32)) (p1 : Int32) (p2 : Int32) : Option (Int32) :=
  Option.bind (f9_isShelf p1) fun (v1 : Int32) =>
  if v1 = (0 : Int32) then
    some (-1 : Int32)
  else
    Option.bind (f9_in p2 (0 : Int32) (5 : Int32)) fun (v2 : Int32) =>
    jn (
      Option.bind (f9_kindOn claims_ claim_ held_ heldNumber_ p1) fun (v4 : Int32) =>
      if (0 : Int32) ≤ v4 then
        if v4 = (9 : Int32) then
          gd (ix p1 4) <|
          if p2 = ((10 : Int32) + (heldNumber_ p1.toNatClampNeg)) then
            gd (ix p1 4) <|
            some (heldSize_ p1.toNatClampNeg)
          else
            some (-13 : Int32)
        else
        if (10 : Int32) ≤ p2 then
          some (-13 : Int32)
        else
          Option.bind (f9_isUnder v4 p2) fun (v5 : Int32) =>
          if v5 = (0 : Int32) then
            some (-13 : Int32)
          else
            gd (ix p1 4) <|
            some (heldNumber_ p1.toNatClampNeg)
      else
        some (-11 : Int32)) fun (J3 : Option (Int32)) =>
    if v2 = (0 : Int32) then
      Option.bind (f9_in p2 (10 : Int32) (13 : Int32)) fun (v14 : Int32) =>
      if v14 = (0 : Int32) then
        some (-1 : Int32)
      else
        J3
    else
      J3
def f9_tie (claims_ : Int32) (people_ : Int32) (claim_ : (Nat → Int32)) (isHub_ : (Nat → Int32)) (laws_ : (Nat → Int32)) (oneOf_ : (Nat → Int32)) (p1 : Int32) (p2 : Int32) : Option (Int32) :=
  Option.bind (f9_isClaim claims_ p1) fun (v1 : Int32) =>
  if v1 = (0 : Int32) then
    some (-1 : Int32)
  else
    Option.bind (f9_isClaim claims_ p2) fun (v2 : Int32) =>
    if v2 = (0 : Int32) then
      some (-1 : Int32)
    else
    if p1 = p2 then
      some (-1 : Int32)
    else
      Option.bind (f9_strengthOf people_ claim_ isHub_ laws_ oneOf_ p1 p2) fun (v3 : Int32) =>
      some v3
def f9_tied (claims_ : Int32) (people_ : Int32) (claim_ : (Nat → Int32)) (isHub_ : (Nat → Int32)) (laws_ : (Nat → Int32)) (oneOf_ : (Nat → Int32)) (p1 : Int32) : Option (Int32) :=
  Option.bind (f9_isClaim claims_ p1) fun (v1 : Int32) =>
  if v1 = (0 : Int32) then
    some (-1 : Int32)
  else
    Option.bind (f9_tiedTo claims_ people_ claim_ isHub_ laws_ oneOf_ p1) fun (v2 : Int32) =>
    some v2
def f9_trace (bodies_ : Int32) (traced_ : (Nat → Int32)) (p1 : Int32) : Option (Int32) :=
  Option.bind (f9_in p1 (0 : Int32) (bodies_ - (1 : Int32))) fun (v1 : Int32) =>
  if v1 = (0 : Int32) then
    some (-3 : Int32)
  else
    gd (ix p1 30) <|
    some (traced_ p1.toNatClampNeg)
def f9_turned_L27 (claims_ : Int32) (claim_ : (Nat → Int32)) (oneOf_ : (Nat → Int32)) (p1 : Int32) (x3 : Int32) : Nat → Int32 → Int32 → (Int32 → Int32 → Option (Int32)) → Option (Int32)
  | 0, _, _, _ => none
  | n9 + 1, x6, x7, K8 =>
    if claims_ ≤ x7 then
      K8 x6 x7
    else
      gd (ix p1 10) <|
      Option.bind (f9_placesOf claim_ oneOf_ x3 (oneOf_ p1.toNatClampNeg)) fun (v11 : Int32) =>
      gd (ix p1 10) <|
      Option.bind (f9_placesOf claim_ oneOf_ x7 (oneOf_ p1.toNatClampNeg)) fun (v13 : Int32) =>
      jn (fun (s15 : Int32) =>
        f9_turned_L27 claims_ claim_ oneOf_ p1 x3 n9 (x6 + s15) (x7 + (1 : Int32)) K8) fun (J14 : Int32 → Option (Int32)) =>
      jn (
        J14 (1 : Int32)) fun (J16 : Option (Int32)) =>
      jn (
        jn (
          J14 (0 : Int32)) fun (J18 : Option (Int32)) =>
        if (v11 &&& (2 : Int32)) = (2 : Int32) then
          if (v13 &&& (1 : Int32)) = (1 : Int32) then
            J16
          else
            J18
        else
          J18) fun (J17 : Option (Int32)) =>
      if (v11 &&& (1 : Int32)) = (1 : Int32) then
        if (v13 &&& (2 : Int32)) = (2 : Int32) then
          J16
        else
          J17
      else
        J17
def f9_turned_L14 (claims_ : Int32) (claim_ : (Nat → Int32)) (oneOf_ : (Nat → Int32)) (p1 : Int32) : Nat → Int32 → Int32 → (Int32 → Int32 → Option (Int32)) → Option (Int32)
  | 0, _, _, _ => none
  | n5 + 1, x2, x3, K4 =>
    if claims_ ≤ x3 then
      K4 x2 x3
    else
      jn (fun (x6 : Int32) (x7 : Int32) =>
        f9_turned_L14 claims_ claim_ oneOf_ p1 n5 x6 (x3 + (1 : Int32)) K4) fun (K8 : Int32 → Int32 → Option (Int32)) =>
      f9_turned_L27 claims_ claim_ oneOf_ p1 x3 FU x2 (x3 + (1 : Int32)) K8
def f9_turned (claims_ : Int32) (people_ : Int32) (claim_ : (Nat → Int32)) (oneOf_ : (Nat → Int32)) (p1 : Int32) : Option (Int32) :=
  Option.bind (f9_isPerson people_ p1) fun (v1 : Int32) =>
  if v1 = (0 : Int32) then
    some (-1 : Int32)
  else
    jn (fun (x2 : Int32) (x3 : Int32) =>
      some x2) fun (K4 : Int32 → Int32 → Option (Int32)) =>
    f9_turned_L14 claims_ claim_ oneOf_ p1 FU (0 : Int32) (0 : Int32) K4
def f9_without (claims_ : Int32) (lotScore_ : Int32) (people_ : Int32) (claim_ : (Nat → Int32)) (isHub_ : (Nat → Int32)) (laws_ : (Nat → Int32)) (oneOf_ : (Nat → Int32)) (strength_ : (Nat → Int32)) (p1 : Int32) : Option (Int32 × Int32 × (Nat → Int32) × (Nat → Int32)) :=
  Option.bind (f9_in p1 (0 : Int32) (3 : Int32)) fun (v1 : Int32) =>
  if v1 = (0 : Int32) then
    some ((-1 : Int32), lotScore_, laws_, strength_)
  else
    bn4 (f9_lotWithout claims_ lotScore_ people_ claim_ isHub_ laws_ oneOf_ strength_ p1) fun (v2 : Int32) (c3 : Int32) (c4 : (Nat → Int32)) (c5 : (Nat → Int32)) =>
    some (v2, c3, c4, c5)
