/-! ===== draw ===== -/
/-- the unfound claims among i .. i + d - 1 -/
def uN (fou : Nat → Int32) : Nat → Nat → Nat
  | 0, _ => 0
  | d + 1, i => (if fou i = -9 then 1 else 0) + uN fou d (i + 1)
theorem uN_end (fou : Nat → Int32) : ∀ d i, uN fou (d + 1) i = uN fou d i + (if fou (i + d) = -9 then 1 else 0)
  | 0, i => by simp only [uN, Nat.add_zero, Nat.zero_add]
  | d + 1, i => by
    rw [uN, uN_end fou d (i + 1), uN, show i + 1 + d = i + (d + 1) by omega]; omega
theorem uN_cnt (fou : Nat → Int32) : ∀ n, uN fou n 0 + cntN (fun c => ¬ fou c = -9) n = n
  | 0 => rfl
  | n + 1 => by
    have h := uN_cnt fou n
    rw [uN_end, cntN, Nat.zero_add]
    by_cases e : fou n = -9
    · rw [if_pos e, if_neg (fun q => q e)]; omega
    · rw [if_neg e, if_pos e]; omega
theorem draw_walk {C : Nat} (fou mcla : Nat → Int32) (zz z1 : Int32) (hC : C ≤ 9) (hz : ((zz * (1103515245)) + (12345)) = z1) (hf : ∀ c, c < C → (fou c = -9 ∧ mcla (11 * c + 9) = 0) ∨ (fou c = 0 ∧ mcla (11 * c + 9) = 1) ∨ (fou c = 1 ∧ mcla (11 * c + 9) = 2)) :
    ∀ d i j fu : Nat, i + d = C → d < fu → j < uN fou d i → j < 2 ^ 20 → ∃ x : Int32, f8_draw_L59 (nI C) zz fou fu (nI j) (nI i) (fun _ _ => some (-3, z1)) = some (x, z1) ∧ f9_draw_L45 mcla fu (nI j) (nI i) (fun _ x4 => some (x4, z1)) = some (x, z1)
  | 0, i, j, fu, _, _, hj, _ => absurd hj (Nat.not_lt_zero j)
  | d + 1, i, j, 0, _, hfu, _, _ => absurd hfu (Nat.not_lt_zero _)
  | d + 1, i, j, fu + 1, hi, hfu, hj, hj2 => by
    have hic : i < C := by omega
    have w9 : f9_its mcla (nI i) 9 = some (mcla (11 * i + 9)) := f9_its_s (c := i) (w := 9) (by omega) (by omega)
    have key : ∀ j', j' < uN fou d (i + 1) → j' < 2 ^ 20 → _ := fun j' h1 h2 => draw_walk fou mcla zz z1 hC hz hf d (i + 1) j' fu (by omega) (by omega) h1 h2
    simp only [f8_draw_L59, f9_draw_L45, jn]
    rw [if_neg (nI_ge hic (by omega)), gdi (by omega) (by omega), nI_clamp (by omega), w9, Option.bind_some, Option.bind_some, nI_1, hz]
    rw [uN] at hj
    rcases hf i hic with ⟨a, b⟩ | ⟨a, b⟩ | ⟨a, b⟩
    · rw [a, if_pos rfl] at hj
      rw [a, b, if_pos rfl, if_neg (show ¬ (0 : Int32) < 0 by decide), if_pos (show (0 : Int32) ≤ 0 by decide)]
      cases j with
      | zero =>
        exact ⟨nI i, if_pos rfl, if_pos (by decide)⟩
      | succ j' =>
        obtain ⟨x, x8, x9⟩ := key j' (by omega) (by omega)
        refine ⟨x, ?_, ?_⟩
        · rw [if_neg (nI_ne0 (by omega) (by omega))]; rw [show nI (j' + 1) + -1 = nI j' from by rw [← Int32.sub_eq_add_neg, nI_pred]]; exact x8
        · rw [if_neg (nI_nle (by omega) (by omega)), nI_pred]; exact x9
    · rw [a, if_neg (by decide), Nat.zero_add] at hj
      rw [a, b, if_neg (by decide), if_pos (by decide), if_neg (by decide), Int32.sub_zero]
      exact key j hj hj2
    · rw [a, if_neg (by decide), Nat.zero_add] at hj
      rw [a, b, if_neg (by decide), if_pos (by decide), if_neg (by decide), Int32.sub_zero]
      exact key j hj hj2
theorem jnE {α β : Type} (k : α) (f : α → β) : jn k f = f k := by unfold jn; exact Eq.refl _
