/-! ===== a text, both sides ===== -/
section TX
variable {byt : Nat → Nat} {n T : Nat} {sts tks mt : Nat → Int32}
def KT (n T : Nat) (sts tks : Nat → Int32) : Int32 → Int32 → Int32 → Int32 → Int32 → (Nat → Int32) → Option (Int32 × Int32 × Int32 × Int32 × Int32 × Int32 × (Nat → Int32) × (Nat → Int32) × (Nat → Int32)) := fun _ c5 c6 c7 c8 c9 =>
  Option.bind (f4_here c5 (nI (T + 1)) tks) fun v22 =>
    if v22 = 3004 then some (1, c5, nI (T + 1), c6, c7, c8, c9, sts, tks)
    else bn2 (f4_refuse c5 (nI (T + 1)) c8 (nI n) sts) fun v23 c24 => if v23 = 0 then some (0, c5, nI (T + 1), c6, c7, c24, c9, sts, tks) else some (1, c5, nI (T + 1), c6, c7, c24, c9, sts, tks)
def XOs (byt : Nat → Nat) (n T : Nat) (sts tks mt : Nat → Int32) (a : Nat) (L : List Cl) (fault : Int32) (o : Option (Int32 × Int32 × Int32 × Int32 × Int32 × Int32 × (Nat → Int32) × (Nat → Int32) × (Nat → Int32))) : Prop :=
  ∃ (M : List Cl) (p : Nat) (codes' : Nat → Int32), o = some (1, nI p, nI (T + 1), nI M.length, nI (M.flatMap codC).length, fault, codes', sts, tks) ∧ M.length ≤ 8 ∧ (∀ c ∈ M, okC c) ∧ OuC (M.flatMap codC) codes' ∧ (M.flatMap codC).length ≤ T ∧ (M.flatMap sgM).length ≤ T ∧
    ∀ (K : KG) (Q : Option RG → Prop), (∀ c7 c8 c10 c11 c12 c13 c14 c15 c16 c17 c18, RTs byt n p M c7 c8 c12 c13 c14 c15 c16 c18 → Q (K (nI M.length) c7 c8 1 c10 c11 c12 c13 c14 c15 c16 c17 c18)) → TKr byt n T mt K Q a L
def XOf (byt : Nat → Nat) (n T : Nat) (mt : Nat → Int32) (a : Nat) (L : List Cl) (o : Option (Int32 × Int32 × Int32 × Int32 × Int32 × Int32 × (Nat → Int32) × (Nat → Int32) × (Nat → Int32))) : Prop :=
  ∃ e d1 d2 d3 d4 d5 d6 d7, e ≤ T ∧ o = some (0, d1, d2, d3, d4, nI (stN byt n e), d5, d6, d7) ∧ ∀ (K : KG) (Q : Option RG → Prop), FO byt n K Q e → TKr byt n T mt K Q a L
theorem text_loop (h : CU byt n T sts tks) (hb : ∀ i, i < n → mt i = nI (byt i) ∧ byt i < 256) (fault : Int32) : ∀ m a L fu codes, a ≤ T → T - a ≤ m → m < fu → L.length ≤ 8 → (∀ c ∈ L, okC c) → OuC (L.flatMap codC) codes → (L.flatMap codC).length ≤ a → (L.flatMap sgM).length ≤ a → XOs byt n T sts tks mt a L fault (f4_readText_L32 (nI n) (nI (T + 1)) sts tks fu (nI L.length) (nI a) (nI L.length) (nI (L.flatMap codC).length) fault codes (KT n T sts tks)) ∨ XOf byt n T mt a L (f4_readText_L32 (nI n) (nI (T + 1)) sts tks fu (nI L.length) (nI a) (nI L.length) (nI (L.flatMap codC).length) fault codes (KT n T sts tks)) := by
  obtain ⟨hn, hT, hlt, -⟩ := id h
  intro m
  induction m with
  | zero =>
    intro a L fu codes ha h1 h2 hl hok hO hlc hls
    obtain ⟨f, rfl⟩ : ∃ f, fu = f + 1 := ⟨fu - 1, by omega⟩
    have eT : a = T := by omega
    have he : coN byt n a = 3004 := by rw [eT]; exact CU_end h
    have hk : KT n T sts tks (nI L.length) (nI a) (nI L.length) (nI (L.flatMap codC).length) fault codes = some (1, nI a, nI (T + 1), nI L.length, nI (L.flatMap codC).length, fault, codes, sts, tks) := by
      unfold KT
      rw [here_s h ha, Option.bind_some, he, if_pos (show nI 3004 = 3004 from rfl)]
    refine Or.inl ⟨L, a, codes, ?_, hl, hok, hO, by omega, by omega, fun K Q hK => rt_end he ha hK⟩
    rw [f4_readText_L32]
    by_cases h8 : 8 ≤ L.length
    · rw [if_pos (show (8 : Int32) ≤ nI L.length from nI_le (a := 8) h8 (by omega)), hk]
    · rw [if_neg (show ¬ (8 : Int32) ≤ nI L.length from nI_ge (b := 8) (by omega) (by omega)), here_s h ha, Option.bind_some, he, if_pos (show nI 3004 = 3004 from rfl), hk]
  | succ m ih =>
    intro a L fu codes ha h1 h2 hl hok hO hlc hls
    obtain ⟨f, rfl⟩ : ∃ f, fu = f + 1 := ⟨fu - 1, by omega⟩
    have e0 : (nI (coN byt n a) = 3004) = (coN byt n a = 3004) := coEq h a (m := 3004) (by omega)
    rw [f4_readText_L32]
    by_cases he : coN byt n a = 3004
    · have hk : KT n T sts tks (nI L.length) (nI a) (nI L.length) (nI (L.flatMap codC).length) fault codes = some (1, nI a, nI (T + 1), nI L.length, nI (L.flatMap codC).length, fault, codes, sts, tks) := by
        unfold KT
        rw [here_s h ha, Option.bind_some, if_pos (by rw [e0]; exact he)]
      refine Or.inl ⟨L, a, codes, ?_, hl, hok, hO, by omega, by omega, fun K Q hK => rt_end he ha hK⟩
      by_cases h8 : 8 ≤ L.length
      · rw [if_pos (show (8 : Int32) ≤ nI L.length from nI_le (a := 8) h8 (by omega)), hk]
      · rw [if_neg (show ¬ (8 : Int32) ≤ nI L.length from nI_ge (b := 8) (by omega) (by omega)), here_s h ha, Option.bind_some, if_pos (by rw [e0]; exact he), hk]
    · have a1 : a < T := CU_in h ha he
      by_cases h8 : 8 ≤ L.length
      · rw [if_pos (show (8 : Int32) ≤ nI L.length from nI_le (a := 8) h8 (by omega))]
        refine Or.inr ⟨a, nI a, nI (T + 1), nI L.length, nI (L.flatMap codC).length, codes, sts, tks, ha, ?_, fun K Q hK => rt_no ha he hl (Or.inl h8) hK⟩
        unfold KT
        rw [here_s h ha, Option.bind_some, if_neg (by rw [e0]; exact he), refuse_s h ha, bn2E, if_pos rfl]
      · rw [if_neg (show ¬ (8 : Int32) ≤ nI L.length from nI_ge (b := 8) (by omega) (by omega)), here_s h ha, Option.bind_some, if_neg (by rw [e0]; exact he)]
        rcases clause_s h hb ha (show L.length < 8 by omega) he hO hlc hls fault with ⟨c, p, codes', eC, p1, p2, hc, hO2, l1, l2, hK⟩ | ⟨e, d1, d2, d3, d5, he2, eC, hK⟩
        · rw [eC, bn6E, if_neg e10, nI_1]
          have hlen : (L ++ [c]).length = L.length + 1 := by rw [List.length_append, List.length_cons, List.length_nil]
          have key := ih p (L ++ [c]) f codes' p2 (by omega) (by omega) (by omega) (fun x hx => ?_) hO2 l1 l2
          · rw [hlen] at key
            rcases key with ⟨M, p', codes2, eM, m1, m2, m3, m4, m5, m6⟩ | ⟨e, d1, d2, d3, d4, d5, d6, d7, m1, eM, m2⟩
            · exact Or.inl ⟨M, p', codes2, eM, m1, m2, m3, m4, m5, fun K Q hq => hK K Q (m6 K Q hq)⟩
            · exact Or.inr ⟨e, d1, d2, d3, d4, d5, d6, d7, m1, eM, fun K Q hq => hK K Q (m2 K Q hq)⟩
          · rcases List.mem_append.mp hx with z | z
            · exact hok x z
            · rw [List.mem_singleton.mp z]; exact hc
        · rw [eC, bn6E, if_pos rfl]
          exact Or.inr ⟨e, d1, nI (T + 1), d2, d3, d5, sts, tks, he2, rfl, hK⟩
end TX
