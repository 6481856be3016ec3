/-! the law's loop -/
def lX (X : CT) : Launch := match X with | (l, _, _, _, _, _, _, _, _, _, _, _, _, _, _, _) => l
def LX (X : CT) (b L : Nat) (xs : Nat → Int32) : Prop := match X with
  | (_, _, _, _, s, _, _, _, _, _, _, _, a, _, _, _) => va_X b L xs s s.heap ∧ b < s.heap.size ∧ ¬ FR a s.heap.size b
section LAWROWS
variable {X : CT} {own : String} {cc : ByteArray} {d : Nat} {r : Nat → Int32} {g : Nat → Nat → Int32} {u : Nat → Int64} {h : Nat → Nat → Int64} {lv : List (Nat × Value)} {st : List Value} {pc b L : Nat} {xs : Nat → Int32}
theorem v_sld {i : Int32} (hX : CX X own cc d) (hL : LX X b L xs) (hin : vp_in i L) (hdg : decode cc pc = .ok (.iaload, 1)) (n : Nat) (hn : pc + 1 = n) (k : VC X r g u h lv (.int (xs i.toNatClampNeg) :: st) n) : VC X r g u h lv (.int i :: .ref b :: st) pc := by
  obtain ⟨l, p, e, R, s, m, args, below, meth, c, nL, D, a, cells, slots, Q⟩ := X
  obtain ⟨hx, hb, hml, hown, hts, hK, hAP, hST, hd, hd2, hc, hs⟩ := hX
  subst hn
  intro H locs ls hP hS hl
  exact va_sld hx hb hL.1 hL.2.1 hL.2.2 hS hin hdg (k H locs ls hP hS hl)
theorem v_sln (hX : CX X own cc d) (hL : LX X b L xs) (hdg : decode cc pc = .ok (.arraylength, 1)) (n : Nat) (hn : pc + 1 = n) (k : VC X r g u h lv (.int (nI L) :: st) n) : VC X r g u h lv (.ref b :: st) pc := by
  obtain ⟨l, p, e, R, s, m, args, below, meth, c, nL, D, a, cells, slots, Q⟩ := X
  obtain ⟨hx, hb, hml, hown, hts, hK, hAP, hST, hd, hd2, hc, hs⟩ := hX
  subst hn
  intro H locs ls hP hS hl
  exact va_slen hx hb hL.1 hL.2.1 hL.2.2 hS hdg (k H locs ls hP hS hl)
end LAWROWS
theorem lw_i {t L k : Nat} (hL : L ≤ 384) (h : 6 * t + 6 ≤ L) (hk : k < 6) : vp_in (nI (6 * t) + nI k) L := by
  rw [nI_add]; exact vp_in_nI (by omega) (by omega)
theorem lw_i0 {t L : Nat} (hL : L ≤ 384) (h : 6 * t + 6 ≤ L) : vp_in (nI (6 * t)) L := vp_in_nI (by omega) (by omega)
theorem lw_sub {L : Nat} (hL : L ≤ 384) : (nI L - (6 : Int32)).toInt = (L : Int) - 6 := pk_sub_toInt (a := L) (b := 6) (by omega) (by omega)
theorem lw_gt {t L : Nat} (hL : L ≤ 384) (ht : 6 * t ≤ L) (h : ¬ nI L - (6 : Int32) < nI (6 * t)) : 6 * t + 6 ≤ L := by
  rw [Int32.lt_iff_toInt_lt, lw_sub hL, nI_toInt (by omega)] at h
  omega
theorem lg_cmp_self (x : Int64) : lg_cmp x x = 0 := by
  unfold lg_cmp
  rw [if_neg (by simp), if_pos rfl]
set_option maxRecDepth 100000 in
set_option maxHeartbeats 16000000 in
theorem law_loop {X : CT} {b L : Nat} {xs : Nat → Int32} (Rl : (Nat → Int32) → (Nat → Nat → Int32) → (Nat → Int64) → (Nat → Nat → Int64) → Prop) (hops : Ops Rl) (hL384 : L ≤ 384) (hX : CX X RL code 1000) (hn : nX X = 4) (hL : LX X b L xs) (hR : ∀ r g u h lv, VC X r g u h lv [.int 1] 1529) : ∀ (fu t : Nat) (r : Nat → Int32) (g : Nat → Nat → Int32) (u : Nat → Int64) (h : Nat → Nat → Int64), 6 * t ≤ L → L < 6 * t + fu → Rl r g u h → VC X r g u h [(0, .ref b), (1, .ref (aX X 0)), (2, .ref (aX X 52)), (3, .int (nI (6 * t)))] [] 18 := by
  obtain ⟨hop_feed, hop_rules, hop_size, hop_person, hop_personOf, hop_join, hop_claim, hop_claimOf, hop_seat, hop_set, hop_tie, hop_tied, hop_hang, hop_steps, hop_turned, hop_score, hop_lot, hop_seen, hop_without, hop_hold, hop_odds, hop_likely, hop_best, hop_says, hop_found, hop_rate, hop_right, hop_seed, hop_draw, hop_prove, hop_row, hop_alterRow, hop_judge, hop_sheet, hop_put, hop_item, hop_shelf, hop_taken, hop_act, hop_trace, hop_many, hop_keep, hop_again⟩ := hops
  intro fu
  induction fu with
  | zero => intro t r g u h h1 h2; exact absurd h2 (by omega)
  | succ fu ih =>
    intro t r g u h ht hfu hRl
    have hnext : ∀ (r : Nat → Int32) (g : Nat → Nat → Int32) (u : Nat → Int64) (h : Nat → Nat → Int64), Rl r g u h → 6 * t + 6 ≤ L → VC X r g u h [(0, .ref b), (1, .ref (aX X 0)), (2, .ref (aX X 52)), (3, .int (nI (6 * t)))] [] 1522 := by
      intro r g u h hRl hle
      refine v_inc (c := (6 : Int32)) hX dL_law_1522 3 rfl (by decide) (ltn hn (by decide)) 1525 rfl [(3, .int (nI (6 * t) + (6 : Int32))), (0, .ref b), (1, .ref (aX X 0)), (2, .ref (aX X 52))] rfl ?_
      refine v_goto hX dL_law_1525 18 rfl ?_
      refine v_sub [(0, .ref b), (1, .ref (aX X 0)), (2, .ref (aX X 52)), (3, .int (nI (6 * t) + (6 : Int32)))] (sbc 1 rfl (sbc 2 rfl (sbc 3 rfl (sbc 0 rfl sbn)))) ?_
      rw [show nI (6 * t) + (6 : Int32) = nI (6 * (t + 1)) from nI_add (6 * t) 6]
      exact ih (t + 1) r g u h (by omega) (by omega) hRl
    refine v_iload_n hX dL_law_18 rfl 3 rfl 19 rfl ?_
    refine v_aload_n hX dL_law_19 rfl 0 rfl 20 rfl ?_
    refine v_sln hX hL dL_law_20 21 rfl ?_
    refine v_bipush (v := (6 : Int32)) hX dL_law_21 (by decide) 23 rfl ?_
    refine v_isub hX dL_law_23 24 rfl ?_
    refine v_icmp_gt hX dL_law_24 1528 rfl 27 rfl (fun _ => ?_) (fun hgt => ?_)
    · refine v_iconst (v := (1 : Int32)) hX dL_law_1528 (by decide) 1529 rfl ?_
      exact hR _ _ _ _ _
    · have hle := lw_gt hL384 ht hgt
      replace hnext := fun r g u h hq => hnext r g u h hq hle
      refine v_aload_n hX dL_law_27 rfl 0 rfl 28 rfl ?_
      refine v_iload_n hX dL_law_28 rfl 3 rfl 29 rfl ?_
      refine v_sld hX hL (lw_i0 hL384 hle) dL_law_29 30 rfl ?_
      refine v_bipush (v := (63 : Int32)) hX dL_law_30 (by decide) 32 rfl ?_
      refine v_iand hX dL_law_32 33 rfl ?_
      generalize ((xs (nI (6 * t)).toNatClampNeg) &&& (63 : Int32)) = sel
      by_cases h0 : sel = (0 : Int32)
      · refine v_tsIn hX dL_law_33 (0 : Int32) h0 (by decide) (by decide) (187) (by decide +kernel) 220 rfl ?_
        obtain ⟨v, a1, a2, b1, b2, hv1, hv2, hRl2⟩ := hop_feed r g u h (((((xs ((nI (6 * t)) + (1 : Int32)).toNatClampNeg)).toInt64 <<< ((32 : Int32).toInt64 &&& 63)) ||| (((xs ((nI (6 * t)) + (2 : Int32)).toNatClampNeg)).toInt64 &&& (4294967295 : Int64)))) ((xs ((nI (6 * t)) + (3 : Int32)).toNatClampNeg)) hRl
        refine v_aload_n hX dL_law_220 rfl 1 rfl 221 rfl ?_
        refine v_aload_n hX dL_law_221 rfl 0 rfl 222 rfl ?_
        refine v_iload_n hX dL_law_222 rfl 3 rfl 223 rfl ?_
        refine v_iconst (v := (1 : Int32)) hX dL_law_223 (by decide) 224 rfl ?_
        refine v_iadd hX dL_law_224 225 rfl ?_
        refine v_sld hX hL (lw_i (k := 1) hL384 hle (by decide)) dL_law_225 226 rfl ?_
        refine v_i2l hX dL_law_226 227 rfl ?_
        refine v_bipush (v := (32 : Int32)) hX dL_law_227 (by decide) 229 rfl ?_
        refine v_lshl hX dL_law_229 230 rfl ?_
        refine v_aload_n hX dL_law_230 rfl 0 rfl 231 rfl ?_
        refine v_iload_n hX dL_law_231 rfl 3 rfl 232 rfl ?_
        refine v_iconst (v := (2 : Int32)) hX dL_law_232 (by decide) 233 rfl ?_
        refine v_iadd hX dL_law_233 234 rfl ?_
        refine v_sld hX hL (lw_i (k := 2) hL384 hle (by decide)) dL_law_234 235 rfl ?_
        refine v_i2l hX dL_law_235 236 rfl ?_
        refine v_ldc2 (v := (4294967295 : Int64)) hX q_6 dL_law_236 239 rfl ?_
        refine v_land hX dL_law_239 240 rfl ?_
        refine v_lor hX dL_law_240 241 rfl ?_
        refine v_aload_n hX dL_law_241 rfl 0 rfl 242 rfl ?_
        refine v_iload_n hX dL_law_242 rfl 3 rfl 243 rfl ?_
        refine v_iconst (v := (3 : Int32)) hX dL_law_243 (by decide) 244 rfl ?_
        refine v_iadd hX dL_law_244 245 rfl ?_
        refine v_sld hX hL (lw_i (k := 3) hL384 hle (by decide)) dL_law_245 246 rfl ?_
        refine cv_i hX (c8_feed r g u h _ _ hv1) wvX8_feed q_134 rc_0 (Nat.le_of_ble_eq_true rfl) (Nat.le_of_ble_eq_true rfl) (fun _ => rfl) [] rfl (Nat.le_of_ble_eq_true rfl) dL_law_246 249 rfl ?_
        refine v_aload_n hX dL_law_249 rfl 2 rfl 250 rfl ?_
        refine v_aload_n hX dL_law_250 rfl 0 rfl 251 rfl ?_
        refine v_iload_n hX dL_law_251 rfl 3 rfl 252 rfl ?_
        refine v_iconst (v := (1 : Int32)) hX dL_law_252 (by decide) 253 rfl ?_
        refine v_iadd hX dL_law_253 254 rfl ?_
        refine v_sld hX hL (lw_i (k := 1) hL384 hle (by decide)) dL_law_254 255 rfl ?_
        refine v_i2l hX dL_law_255 256 rfl ?_
        refine v_bipush (v := (32 : Int32)) hX dL_law_256 (by decide) 258 rfl ?_
        refine v_lshl hX dL_law_258 259 rfl ?_
        refine v_aload_n hX dL_law_259 rfl 0 rfl 260 rfl ?_
        refine v_iload_n hX dL_law_260 rfl 3 rfl 261 rfl ?_
        refine v_iconst (v := (2 : Int32)) hX dL_law_261 (by decide) 262 rfl ?_
        refine v_iadd hX dL_law_262 263 rfl ?_
        refine v_sld hX hL (lw_i (k := 2) hL384 hle (by decide)) dL_law_263 264 rfl ?_
        refine v_i2l hX dL_law_264 265 rfl ?_
        refine v_ldc2 (v := (4294967295 : Int64)) hX q_6 dL_law_265 268 rfl ?_
        refine v_land hX dL_law_268 269 rfl ?_
        refine v_lor hX dL_law_269 270 rfl ?_
        refine v_aload_n hX dL_law_270 rfl 0 rfl 271 rfl ?_
        refine v_iload_n hX dL_law_271 rfl 3 rfl 272 rfl ?_
        refine v_iconst (v := (3 : Int32)) hX dL_law_272 (by decide) 273 rfl ?_
        refine v_iadd hX dL_law_273 274 rfl ?_
        refine v_sld hX hL (lw_i (k := 3) hL384 hle (by decide)) dL_law_274 275 rfl ?_
        refine cv_i hX (c9_feed (lkp r [(15, a1)]) (lkp g [(33, a2)]) u h _ _ hv2) wvX9_feed q_144 rc_52 (Nat.le_of_ble_eq_true rfl) (Nat.le_of_ble_eq_true rfl) (fun _ => rfl) [.int v] rfl (Nat.le_of_ble_eq_true rfl) dL_law_275 278 rfl ?_
        refine v_icmp_eq hX dL_law_278 1522 rfl 281 rfl (fun _ => ?_) (fun q => absurd rfl q)
        exact hnext _ _ _ _ hRl2
      by_cases h1 : sel = (1 : Int32)
      · refine v_tsIn hX dL_law_33 (1 : Int32) h1 (by decide) (by decide) (250) (by decide +kernel) 283 rfl ?_
        obtain ⟨v, a1, a2, a3, a4, a5, a6, a7, a8, a9, a10, a11, a12, b1, b2, b3, b4, b5, b6, b7, b8, b9, b10, b11, b12, b13, b14, b15, b16, hv1, hv2, hRl2⟩ := hop_rules r g u h  hRl
        refine v_aload_n hX dL_law_283 rfl 1 rfl 284 rfl ?_
        refine cv_i hX (c8_rules r g u h hv1) wvX8_rules q_153 rc_0 (Nat.le_of_ble_eq_true rfl) (Nat.le_of_ble_eq_true rfl) (fun _ => rfl) [] rfl (Nat.le_of_ble_eq_true rfl) dL_law_284 287 rfl ?_
        refine v_aload_n hX dL_law_287 rfl 2 rfl 288 rfl ?_
        refine cv_i hX (c9_rules (lkp r [(3, a1), (2, a2), (17, a3), (16, a4), (19, a5), (18, a6), (22, a7), (15, a8)]) (lkp g [(12, a9), (37, a10), (35, a11), (34, a12)]) u h hv2) wvX9_rules q_296 rc_52 (Nat.le_of_ble_eq_true rfl) (Nat.le_of_ble_eq_true rfl) (fun _ => rfl) [.int v] rfl (Nat.le_of_ble_eq_true rfl) dL_law_288 291 rfl ?_
        refine v_icmp_eq hX dL_law_291 1522 rfl 294 rfl (fun _ => ?_) (fun q => absurd rfl q)
        exact hnext _ _ _ _ hRl2
      by_cases h2 : sel = (2 : Int32)
      · refine v_tsIn hX dL_law_33 (2 : Int32) h2 (by decide) (by decide) (263) (by decide +kernel) 296 rfl ?_
        obtain ⟨v, a1, b1, hv1, hv2, hRl2⟩ := hop_size r g u h ((xs ((nI (6 * t)) + (1 : Int32)).toNatClampNeg)) ((xs ((nI (6 * t)) + (2 : Int32)).toNatClampNeg)) hRl
        refine v_aload_n hX dL_law_296 rfl 1 rfl 297 rfl ?_
        refine v_aload_n hX dL_law_297 rfl 0 rfl 298 rfl ?_
        refine v_iload_n hX dL_law_298 rfl 3 rfl 299 rfl ?_
        refine v_iconst (v := (1 : Int32)) hX dL_law_299 (by decide) 300 rfl ?_
        refine v_iadd hX dL_law_300 301 rfl ?_
        refine v_sld hX hL (lw_i (k := 1) hL384 hle (by decide)) dL_law_301 302 rfl ?_
        refine v_aload_n hX dL_law_302 rfl 0 rfl 303 rfl ?_
        refine v_iload_n hX dL_law_303 rfl 3 rfl 304 rfl ?_
        refine v_iconst (v := (2 : Int32)) hX dL_law_304 (by decide) 305 rfl ?_
        refine v_iadd hX dL_law_305 306 rfl ?_
        refine v_sld hX hL (lw_i (k := 2) hL384 hle (by decide)) dL_law_306 307 rfl ?_
        refine cv_i hX (c8_size r g u h _ _ hv1) wvX8_size q_383 rc_0 (Nat.le_of_ble_eq_true rfl) (Nat.le_of_ble_eq_true rfl) (fun _ => rfl) [] rfl (Nat.le_of_ble_eq_true rfl) dL_law_307 310 rfl ?_
        refine v_aload_n hX dL_law_310 rfl 2 rfl 311 rfl ?_
        refine v_aload_n hX dL_law_311 rfl 0 rfl 312 rfl ?_
        refine v_iload_n hX dL_law_312 rfl 3 rfl 313 rfl ?_
        refine v_iconst (v := (1 : Int32)) hX dL_law_313 (by decide) 314 rfl ?_
        refine v_iadd hX dL_law_314 315 rfl ?_
        refine v_sld hX hL (lw_i (k := 1) hL384 hle (by decide)) dL_law_315 316 rfl ?_
        refine v_aload_n hX dL_law_316 rfl 0 rfl 317 rfl ?_
        refine v_iload_n hX dL_law_317 rfl 3 rfl 318 rfl ?_
        refine v_iconst (v := (2 : Int32)) hX dL_law_318 (by decide) 319 rfl ?_
        refine v_iadd hX dL_law_319 320 rfl ?_
        refine v_sld hX hL (lw_i (k := 2) hL384 hle (by decide)) dL_law_320 321 rfl ?_
        refine cv_i hX (c9_size r (lkp g [(2, a1)]) u h _ _ hv2) wvX9_size q_391 rc_52 (Nat.le_of_ble_eq_true rfl) (Nat.le_of_ble_eq_true rfl) (fun _ => rfl) [.int v] rfl (Nat.le_of_ble_eq_true rfl) dL_law_321 324 rfl ?_
        refine v_icmp_eq hX dL_law_324 1522 rfl 327 rfl (fun _ => ?_) (fun q => absurd rfl q)
        exact hnext _ _ _ _ hRl2
      by_cases h3 : sel = (3 : Int32)
      · refine v_tsIn hX dL_law_33 (3 : Int32) h3 (by decide) (by decide) (296) (by decide +kernel) 329 rfl ?_
        rcases Decidable.em ((xs (nI (6 * t) + (2 : Int32)).toNatClampNeg) = 0) with hbz | hbz
        · obtain ⟨v, a1, a2, a3, a4, b1, b2, b3, b4, hv1, hv2, hRl2⟩ := hop_person r g u h ((xs ((nI (6 * t)) + (1 : Int32)).toNatClampNeg)) ((0 : Int32)) hRl (Or.inl rfl)
          refine v_aload_n hX dL_law_329 rfl 1 rfl 330 rfl ?_
          refine v_aload_n hX dL_law_330 rfl 0 rfl 331 rfl ?_
          refine v_iload_n hX dL_law_331 rfl 3 rfl 332 rfl ?_
          refine v_iconst (v := (1 : Int32)) hX dL_law_332 (by decide) 333 rfl ?_
          refine v_iadd hX dL_law_333 334 rfl ?_
          refine v_sld hX hL (lw_i (k := 1) hL384 hle (by decide)) dL_law_334 335 rfl ?_
          refine v_aload_n hX dL_law_335 rfl 0 rfl 336 rfl ?_
          refine v_iload_n hX dL_law_336 rfl 3 rfl 337 rfl ?_
          refine v_iconst (v := (2 : Int32)) hX dL_law_337 (by decide) 338 rfl ?_
          refine v_iadd hX dL_law_338 339 rfl ?_
          refine v_sld hX hL (lw_i (k := 2) hL384 hle (by decide)) dL_law_339 340 rfl ?_
          refine v_if_eq hX dL_law_340 347 rfl 343 rfl (fun _ => ?_) (fun q => absurd hbz q)
          refine v_iconst (v := (0 : Int32)) hX dL_law_347 (by decide) 348 rfl ?_
          refine cv_i hX (c8_person r g u h _ _ hv1) wvX8_person q_395 rc_0 (Nat.le_of_ble_eq_true rfl) (Nat.le_of_ble_eq_true rfl) (fun _ => rfl) [] rfl (Nat.le_of_ble_eq_true rfl) dL_law_348 351 rfl ?_
          refine v_aload_n hX dL_law_351 rfl 2 rfl 352 rfl ?_
          refine v_aload_n hX dL_law_352 rfl 0 rfl 353 rfl ?_
          refine v_iload_n hX dL_law_353 rfl 3 rfl 354 rfl ?_
          refine v_iconst (v := (1 : Int32)) hX dL_law_354 (by decide) 355 rfl ?_
          refine v_iadd hX dL_law_355 356 rfl ?_
          refine v_sld hX hL (lw_i (k := 1) hL384 hle (by decide)) dL_law_356 357 rfl ?_
          refine v_aload_n hX dL_law_357 rfl 0 rfl 358 rfl ?_
          refine v_iload_n hX dL_law_358 rfl 3 rfl 359 rfl ?_
          refine v_iconst (v := (2 : Int32)) hX dL_law_359 (by decide) 360 rfl ?_
          refine v_iadd hX dL_law_360 361 rfl ?_
          refine v_sld hX hL (lw_i (k := 2) hL384 hle (by decide)) dL_law_361 362 rfl ?_
          refine v_if_eq hX dL_law_362 369 rfl 365 rfl (fun _ => ?_) (fun q => absurd hbz q)
          refine v_iconst (v := (0 : Int32)) hX dL_law_369 (by decide) 370 rfl ?_
          refine cv_i hX (c9_person (lkp r [(0, a1)]) (lkp g [(4, a2), (5, a3), (6, a4)]) u h _ _ hv2) wvX9_person q_405 rc_52 (Nat.le_of_ble_eq_true rfl) (Nat.le_of_ble_eq_true rfl) (fun _ => rfl) [.int v] rfl (Nat.le_of_ble_eq_true rfl) dL_law_370 373 rfl ?_
          refine v_icmp_eq hX dL_law_373 1522 rfl 376 rfl (fun _ => ?_) (fun q => absurd rfl q)
          exact hnext _ _ _ _ hRl2
        · obtain ⟨v, a1, a2, a3, a4, b1, b2, b3, b4, hv1, hv2, hRl2⟩ := hop_person r g u h ((xs ((nI (6 * t)) + (1 : Int32)).toNatClampNeg)) ((1 : Int32)) hRl (Or.inr rfl)
          refine v_aload_n hX dL_law_329 rfl 1 rfl 330 rfl ?_
          refine v_aload_n hX dL_law_330 rfl 0 rfl 331 rfl ?_
          refine v_iload_n hX dL_law_331 rfl 3 rfl 332 rfl ?_
          refine v_iconst (v := (1 : Int32)) hX dL_law_332 (by decide) 333 rfl ?_
          refine v_iadd hX dL_law_333 334 rfl ?_
          refine v_sld hX hL (lw_i (k := 1) hL384 hle (by decide)) dL_law_334 335 rfl ?_
          refine v_aload_n hX dL_law_335 rfl 0 rfl 336 rfl ?_
          refine v_iload_n hX dL_law_336 rfl 3 rfl 337 rfl ?_
          refine v_iconst (v := (2 : Int32)) hX dL_law_337 (by decide) 338 rfl ?_
          refine v_iadd hX dL_law_338 339 rfl ?_
          refine v_sld hX hL (lw_i (k := 2) hL384 hle (by decide)) dL_law_339 340 rfl ?_
          refine v_if_eq hX dL_law_340 347 rfl 343 rfl (fun q => absurd q hbz) (fun _ => ?_)
          refine v_iconst (v := (1 : Int32)) hX dL_law_343 (by decide) 344 rfl ?_
          refine v_goto hX dL_law_344 348 rfl ?_
          refine cv_i hX (c8_person r g u h _ _ hv1) wvX8_person q_395 rc_0 (Nat.le_of_ble_eq_true rfl) (Nat.le_of_ble_eq_true rfl) (fun _ => rfl) [] rfl (Nat.le_of_ble_eq_true rfl) dL_law_348 351 rfl ?_
          refine v_aload_n hX dL_law_351 rfl 2 rfl 352 rfl ?_
          refine v_aload_n hX dL_law_352 rfl 0 rfl 353 rfl ?_
          refine v_iload_n hX dL_law_353 rfl 3 rfl 354 rfl ?_
          refine v_iconst (v := (1 : Int32)) hX dL_law_354 (by decide) 355 rfl ?_
          refine v_iadd hX dL_law_355 356 rfl ?_
          refine v_sld hX hL (lw_i (k := 1) hL384 hle (by decide)) dL_law_356 357 rfl ?_
          refine v_aload_n hX dL_law_357 rfl 0 rfl 358 rfl ?_
          refine v_iload_n hX dL_law_358 rfl 3 rfl 359 rfl ?_
          refine v_iconst (v := (2 : Int32)) hX dL_law_359 (by decide) 360 rfl ?_
          refine v_iadd hX dL_law_360 361 rfl ?_
          refine v_sld hX hL (lw_i (k := 2) hL384 hle (by decide)) dL_law_361 362 rfl ?_
          refine v_if_eq hX dL_law_362 369 rfl 365 rfl (fun q => absurd q hbz) (fun _ => ?_)
          refine v_iconst (v := (1 : Int32)) hX dL_law_365 (by decide) 366 rfl ?_
          refine v_goto hX dL_law_366 370 rfl ?_
          refine cv_i hX (c9_person (lkp r [(0, a1)]) (lkp g [(4, a2), (5, a3), (6, a4)]) u h _ _ hv2) wvX9_person q_405 rc_52 (Nat.le_of_ble_eq_true rfl) (Nat.le_of_ble_eq_true rfl) (fun _ => rfl) [.int v] rfl (Nat.le_of_ble_eq_true rfl) dL_law_370 373 rfl ?_
          refine v_icmp_eq hX dL_law_373 1522 rfl 376 rfl (fun _ => ?_) (fun q => absurd rfl q)
          exact hnext _ _ _ _ hRl2
      by_cases h4 : sel = (4 : Int32)
      · refine v_tsIn hX dL_law_33 (4 : Int32) h4 (by decide) (by decide) (345) (by decide +kernel) 378 rfl ?_
        obtain ⟨v, hv1, hv2, hRl2⟩ := hop_personOf r g u h ((xs ((nI (6 * t)) + (1 : Int32)).toNatClampNeg)) ((xs ((nI (6 * t)) + (2 : Int32)).toNatClampNeg)) hRl
        refine v_aload_n hX dL_law_378 rfl 1 rfl 379 rfl ?_
        refine v_aload_n hX dL_law_379 rfl 0 rfl 380 rfl ?_
        refine v_iload_n hX dL_law_380 rfl 3 rfl 381 rfl ?_
        refine v_iconst (v := (1 : Int32)) hX dL_law_381 (by decide) 382 rfl ?_
        refine v_iadd hX dL_law_382 383 rfl ?_
        refine v_sld hX hL (lw_i (k := 1) hL384 hle (by decide)) dL_law_383 384 rfl ?_
        refine v_aload_n hX dL_law_384 rfl 0 rfl 385 rfl ?_
        refine v_iload_n hX dL_law_385 rfl 3 rfl 386 rfl ?_
        refine v_iconst (v := (2 : Int32)) hX dL_law_386 (by decide) 387 rfl ?_
        refine v_iadd hX dL_law_387 388 rfl ?_
        refine v_sld hX hL (lw_i (k := 2) hL384 hle (by decide)) dL_law_388 389 rfl ?_
        refine cv_i hX (c8_personOf r g u h _ _ hv1) wvX8_personOf q_410 rc_0 (Nat.le_of_ble_eq_true rfl) (Nat.le_of_ble_eq_true rfl) (fun _ => rfl) [] rfl (Nat.le_of_ble_eq_true rfl) dL_law_389 392 rfl ?_
        refine v_aload_n hX dL_law_392 rfl 2 rfl 393 rfl ?_
        refine v_aload_n hX dL_law_393 rfl 0 rfl 394 rfl ?_
        refine v_iload_n hX dL_law_394 rfl 3 rfl 395 rfl ?_
        refine v_iconst (v := (1 : Int32)) hX dL_law_395 (by decide) 396 rfl ?_
        refine v_iadd hX dL_law_396 397 rfl ?_
        refine v_sld hX hL (lw_i (k := 1) hL384 hle (by decide)) dL_law_397 398 rfl ?_
        refine v_aload_n hX dL_law_398 rfl 0 rfl 399 rfl ?_
        refine v_iload_n hX dL_law_399 rfl 3 rfl 400 rfl ?_
        refine v_iconst (v := (2 : Int32)) hX dL_law_400 (by decide) 401 rfl ?_
        refine v_iadd hX dL_law_401 402 rfl ?_
        refine v_sld hX hL (lw_i (k := 2) hL384 hle (by decide)) dL_law_402 403 rfl ?_
        refine cv_i hX (c9_personOf r g u h _ _ hv2) wvX9_personOf q_446 rc_52 (Nat.le_of_ble_eq_true rfl) (Nat.le_of_ble_eq_true rfl) (fun _ => rfl) [.int v] rfl (Nat.le_of_ble_eq_true rfl) dL_law_403 406 rfl ?_
        refine v_icmp_eq hX dL_law_406 1522 rfl 409 rfl (fun _ => ?_) (fun q => absurd rfl q)
        exact hnext _ _ _ _ hRl2
      by_cases h5 : sel = (5 : Int32)
      · refine v_tsIn hX dL_law_33 (5 : Int32) h5 (by decide) (by decide) (378) (by decide +kernel) 411 rfl ?_
        obtain ⟨v, a1, b1, hv1, hv2, hRl2⟩ := hop_join r g u h ((xs ((nI (6 * t)) + (1 : Int32)).toNatClampNeg)) ((xs ((nI (6 * t)) + (2 : Int32)).toNatClampNeg)) hRl
        refine v_aload_n hX dL_law_411 rfl 1 rfl 412 rfl ?_
        refine v_aload_n hX dL_law_412 rfl 0 rfl 413 rfl ?_
        refine v_iload_n hX dL_law_413 rfl 3 rfl 414 rfl ?_
        refine v_iconst (v := (1 : Int32)) hX dL_law_414 (by decide) 415 rfl ?_
        refine v_iadd hX dL_law_415 416 rfl ?_
        refine v_sld hX hL (lw_i (k := 1) hL384 hle (by decide)) dL_law_416 417 rfl ?_
        refine v_aload_n hX dL_law_417 rfl 0 rfl 418 rfl ?_
        refine v_iload_n hX dL_law_418 rfl 3 rfl 419 rfl ?_
        refine v_iconst (v := (2 : Int32)) hX dL_law_419 (by decide) 420 rfl ?_
        refine v_iadd hX dL_law_420 421 rfl ?_
        refine v_sld hX hL (lw_i (k := 2) hL384 hle (by decide)) dL_law_421 422 rfl ?_
        refine cv_i hX (c8_join r g u h _ _ hv1) wvX8_join q_475 rc_0 (Nat.le_of_ble_eq_true rfl) (Nat.le_of_ble_eq_true rfl) (fun _ => rfl) [] rfl (Nat.le_of_ble_eq_true rfl) dL_law_422 425 rfl ?_
        refine v_aload_n hX dL_law_425 rfl 2 rfl 426 rfl ?_
        refine v_aload_n hX dL_law_426 rfl 0 rfl 427 rfl ?_
        refine v_iload_n hX dL_law_427 rfl 3 rfl 428 rfl ?_
        refine v_iconst (v := (1 : Int32)) hX dL_law_428 (by decide) 429 rfl ?_
        refine v_iadd hX dL_law_429 430 rfl ?_
        refine v_sld hX hL (lw_i (k := 1) hL384 hle (by decide)) dL_law_430 431 rfl ?_
        refine v_aload_n hX dL_law_431 rfl 0 rfl 432 rfl ?_
        refine v_iload_n hX dL_law_432 rfl 3 rfl 433 rfl ?_
        refine v_iconst (v := (2 : Int32)) hX dL_law_433 (by decide) 434 rfl ?_
        refine v_iadd hX dL_law_434 435 rfl ?_
        refine v_sld hX hL (lw_i (k := 2) hL384 hle (by decide)) dL_law_435 436 rfl ?_
        refine cv_i hX (c9_join r (lkp g [(6, a1)]) u h _ _ hv2) wvX9_join q_490 rc_52 (Nat.le_of_ble_eq_true rfl) (Nat.le_of_ble_eq_true rfl) (fun _ => rfl) [.int v] rfl (Nat.le_of_ble_eq_true rfl) dL_law_436 439 rfl ?_
        refine v_icmp_eq hX dL_law_439 1522 rfl 442 rfl (fun _ => ?_) (fun q => absurd rfl q)
        exact hnext _ _ _ _ hRl2
      by_cases h6 : sel = (6 : Int32)
      · refine v_tsIn hX dL_law_33 (6 : Int32) h6 (by decide) (by decide) (411) (by decide +kernel) 444 rfl ?_
        obtain ⟨v, a1, a2, a3, a4, a5, b1, b2, hv1, hv2, hRl2⟩ := hop_claim r g u h ((xs ((nI (6 * t)) + (1 : Int32)).toNatClampNeg)) ((xs ((nI (6 * t)) + (2 : Int32)).toNatClampNeg)) ((xs ((nI (6 * t)) + (3 : Int32)).toNatClampNeg)) ((xs ((nI (6 * t)) + (4 : Int32)).toNatClampNeg)) ((xs ((nI (6 * t)) + (5 : Int32)).toNatClampNeg)) hRl
        refine v_aload_n hX dL_law_444 rfl 1 rfl 445 rfl ?_
        refine v_aload_n hX dL_law_445 rfl 0 rfl 446 rfl ?_
        refine v_iload_n hX dL_law_446 rfl 3 rfl 447 rfl ?_
        refine v_iconst (v := (1 : Int32)) hX dL_law_447 (by decide) 448 rfl ?_
        refine v_iadd hX dL_law_448 449 rfl ?_
        refine v_sld hX hL (lw_i (k := 1) hL384 hle (by decide)) dL_law_449 450 rfl ?_
        refine v_aload_n hX dL_law_450 rfl 0 rfl 451 rfl ?_
        refine v_iload_n hX dL_law_451 rfl 3 rfl 452 rfl ?_
        refine v_iconst (v := (2 : Int32)) hX dL_law_452 (by decide) 453 rfl ?_
        refine v_iadd hX dL_law_453 454 rfl ?_
        refine v_sld hX hL (lw_i (k := 2) hL384 hle (by decide)) dL_law_454 455 rfl ?_
        refine v_aload_n hX dL_law_455 rfl 0 rfl 456 rfl ?_
        refine v_iload_n hX dL_law_456 rfl 3 rfl 457 rfl ?_
        refine v_iconst (v := (3 : Int32)) hX dL_law_457 (by decide) 458 rfl ?_
        refine v_iadd hX dL_law_458 459 rfl ?_
        refine v_sld hX hL (lw_i (k := 3) hL384 hle (by decide)) dL_law_459 460 rfl ?_
        refine v_aload_n hX dL_law_460 rfl 0 rfl 461 rfl ?_
        refine v_iload_n hX dL_law_461 rfl 3 rfl 462 rfl ?_
        refine v_iconst (v := (4 : Int32)) hX dL_law_462 (by decide) 463 rfl ?_
        refine v_iadd hX dL_law_463 464 rfl ?_
        refine v_sld hX hL (lw_i (k := 4) hL384 hle (by decide)) dL_law_464 465 rfl ?_
        refine v_aload_n hX dL_law_465 rfl 0 rfl 466 rfl ?_
        refine v_iload_n hX dL_law_466 rfl 3 rfl 467 rfl ?_
        refine v_iconst (v := (5 : Int32)) hX dL_law_467 (by decide) 468 rfl ?_
        refine v_iadd hX dL_law_468 469 rfl ?_
        refine v_sld hX hL (lw_i (k := 5) hL384 hle (by decide)) dL_law_469 470 rfl ?_
        refine cv_i hX (c8_claim r g u h _ _ _ _ _ hv1) wvX8_claim q_494 rc_0 (Nat.le_of_ble_eq_true rfl) (Nat.le_of_ble_eq_true rfl) (fun _ => rfl) [] rfl (Nat.le_of_ble_eq_true rfl) dL_law_470 473 rfl ?_
        refine v_aload_n hX dL_law_473 rfl 2 rfl 474 rfl ?_
        refine v_aload_n hX dL_law_474 rfl 0 rfl 475 rfl ?_
        refine v_iload_n hX dL_law_475 rfl 3 rfl 476 rfl ?_
        refine v_iconst (v := (1 : Int32)) hX dL_law_476 (by decide) 477 rfl ?_
        refine v_iadd hX dL_law_477 478 rfl ?_
        refine v_sld hX hL (lw_i (k := 1) hL384 hle (by decide)) dL_law_478 479 rfl ?_
        refine v_aload_n hX dL_law_479 rfl 0 rfl 480 rfl ?_
        refine v_iload_n hX dL_law_480 rfl 3 rfl 481 rfl ?_
        refine v_iconst (v := (2 : Int32)) hX dL_law_481 (by decide) 482 rfl ?_
        refine v_iadd hX dL_law_482 483 rfl ?_
        refine v_sld hX hL (lw_i (k := 2) hL384 hle (by decide)) dL_law_483 484 rfl ?_
        refine v_aload_n hX dL_law_484 rfl 0 rfl 485 rfl ?_
        refine v_iload_n hX dL_law_485 rfl 3 rfl 486 rfl ?_
        refine v_iconst (v := (3 : Int32)) hX dL_law_486 (by decide) 487 rfl ?_
        refine v_iadd hX dL_law_487 488 rfl ?_
        refine v_sld hX hL (lw_i (k := 3) hL384 hle (by decide)) dL_law_488 489 rfl ?_
        refine v_aload_n hX dL_law_489 rfl 0 rfl 490 rfl ?_
        refine v_iload_n hX dL_law_490 rfl 3 rfl 491 rfl ?_
        refine v_iconst (v := (4 : Int32)) hX dL_law_491 (by decide) 492 rfl ?_
        refine v_iadd hX dL_law_492 493 rfl ?_
        refine v_sld hX hL (lw_i (k := 4) hL384 hle (by decide)) dL_law_493 494 rfl ?_
        refine v_aload_n hX dL_law_494 rfl 0 rfl 495 rfl ?_
        refine v_iload_n hX dL_law_495 rfl 3 rfl 496 rfl ?_
        refine v_iconst (v := (5 : Int32)) hX dL_law_496 (by decide) 497 rfl ?_
        refine v_iadd hX dL_law_497 498 rfl ?_
        refine v_sld hX hL (lw_i (k := 5) hL384 hle (by decide)) dL_law_498 499 rfl ?_
        refine cv_i hX (c9_claim (lkp r [(1, a1)]) (lkp g [(10, a2), (7, a3), (9, a4), (8, a5)]) u h _ _ _ _ _ hv2) wvX9_claim q_503 rc_52 (Nat.le_of_ble_eq_true rfl) (Nat.le_of_ble_eq_true rfl) (fun _ => rfl) [.int v] rfl (Nat.le_of_ble_eq_true rfl) dL_law_499 502 rfl ?_
        refine v_icmp_eq hX dL_law_502 1522 rfl 505 rfl (fun _ => ?_) (fun q => absurd rfl q)
        exact hnext _ _ _ _ hRl2
      by_cases h7 : sel = (7 : Int32)
      · refine v_tsIn hX dL_law_33 (7 : Int32) h7 (by decide) (by decide) (474) (by decide +kernel) 507 rfl ?_
        obtain ⟨v, hv1, hv2, hRl2⟩ := hop_claimOf r g u h ((xs ((nI (6 * t)) + (1 : Int32)).toNatClampNeg)) ((xs ((nI (6 * t)) + (2 : Int32)).toNatClampNeg)) hRl
        refine v_aload_n hX dL_law_507 rfl 1 rfl 508 rfl ?_
        refine v_aload_n hX dL_law_508 rfl 0 rfl 509 rfl ?_
        refine v_iload_n hX dL_law_509 rfl 3 rfl 510 rfl ?_
        refine v_iconst (v := (1 : Int32)) hX dL_law_510 (by decide) 511 rfl ?_
        refine v_iadd hX dL_law_511 512 rfl ?_
        refine v_sld hX hL (lw_i (k := 1) hL384 hle (by decide)) dL_law_512 513 rfl ?_
        refine v_aload_n hX dL_law_513 rfl 0 rfl 514 rfl ?_
        refine v_iload_n hX dL_law_514 rfl 3 rfl 515 rfl ?_
        refine v_iconst (v := (2 : Int32)) hX dL_law_515 (by decide) 516 rfl ?_
        refine v_iadd hX dL_law_516 517 rfl ?_
        refine v_sld hX hL (lw_i (k := 2) hL384 hle (by decide)) dL_law_517 518 rfl ?_
        refine cv_i hX (c8_claimOf r g u h _ _ hv1) wvX8_claimOf q_507 rc_0 (Nat.le_of_ble_eq_true rfl) (Nat.le_of_ble_eq_true rfl) (fun _ => rfl) [] rfl (Nat.le_of_ble_eq_true rfl) dL_law_518 521 rfl ?_
        refine v_aload_n hX dL_law_521 rfl 2 rfl 522 rfl ?_
        refine v_aload_n hX dL_law_522 rfl 0 rfl 523 rfl ?_
        refine v_iload_n hX dL_law_523 rfl 3 rfl 524 rfl ?_
        refine v_iconst (v := (1 : Int32)) hX dL_law_524 (by decide) 525 rfl ?_
        refine v_iadd hX dL_law_525 526 rfl ?_
        refine v_sld hX hL (lw_i (k := 1) hL384 hle (by decide)) dL_law_526 527 rfl ?_
        refine v_aload_n hX dL_law_527 rfl 0 rfl 528 rfl ?_
        refine v_iload_n hX dL_law_528 rfl 3 rfl 529 rfl ?_
        refine v_iconst (v := (2 : Int32)) hX dL_law_529 (by decide) 530 rfl ?_
        refine v_iadd hX dL_law_530 531 rfl ?_
        refine v_sld hX hL (lw_i (k := 2) hL384 hle (by decide)) dL_law_531 532 rfl ?_
        refine cv_i hX (c9_claimOf r g u h _ _ hv2) wvX9_claimOf q_521 rc_52 (Nat.le_of_ble_eq_true rfl) (Nat.le_of_ble_eq_true rfl) (fun _ => rfl) [.int v] rfl (Nat.le_of_ble_eq_true rfl) dL_law_532 535 rfl ?_
        refine v_icmp_eq hX dL_law_535 1522 rfl 538 rfl (fun _ => ?_) (fun q => absurd rfl q)
        exact hnext _ _ _ _ hRl2
      by_cases h8 : sel = (8 : Int32)
      · refine v_tsIn hX dL_law_33 (8 : Int32) h8 (by decide) (by decide) (507) (by decide +kernel) 540 rfl ?_
        obtain ⟨v, a1, b1, hv1, hv2, hRl2⟩ := hop_seat r g u h ((xs ((nI (6 * t)) + (1 : Int32)).toNatClampNeg)) ((xs ((nI (6 * t)) + (2 : Int32)).toNatClampNeg)) ((xs ((nI (6 * t)) + (3 : Int32)).toNatClampNeg)) hRl
        refine v_aload_n hX dL_law_540 rfl 1 rfl 541 rfl ?_
        refine v_aload_n hX dL_law_541 rfl 0 rfl 542 rfl ?_
        refine v_iload_n hX dL_law_542 rfl 3 rfl 543 rfl ?_
        refine v_iconst (v := (1 : Int32)) hX dL_law_543 (by decide) 544 rfl ?_
        refine v_iadd hX dL_law_544 545 rfl ?_
        refine v_sld hX hL (lw_i (k := 1) hL384 hle (by decide)) dL_law_545 546 rfl ?_
        refine v_aload_n hX dL_law_546 rfl 0 rfl 547 rfl ?_
        refine v_iload_n hX dL_law_547 rfl 3 rfl 548 rfl ?_
        refine v_iconst (v := (2 : Int32)) hX dL_law_548 (by decide) 549 rfl ?_
        refine v_iadd hX dL_law_549 550 rfl ?_
        refine v_sld hX hL (lw_i (k := 2) hL384 hle (by decide)) dL_law_550 551 rfl ?_
        refine v_aload_n hX dL_law_551 rfl 0 rfl 552 rfl ?_
        refine v_iload_n hX dL_law_552 rfl 3 rfl 553 rfl ?_
        refine v_iconst (v := (3 : Int32)) hX dL_law_553 (by decide) 554 rfl ?_
        refine v_iadd hX dL_law_554 555 rfl ?_
        refine v_sld hX hL (lw_i (k := 3) hL384 hle (by decide)) dL_law_555 556 rfl ?_
        refine cv_i hX (c8_seat r g u h _ _ _ hv1) wvX8_seat q_532 rc_0 (Nat.le_of_ble_eq_true rfl) (Nat.le_of_ble_eq_true rfl) (fun _ => rfl) [] rfl (Nat.le_of_ble_eq_true rfl) dL_law_556 559 rfl ?_
        refine v_aload_n hX dL_law_559 rfl 2 rfl 560 rfl ?_
        refine v_aload_n hX dL_law_560 rfl 0 rfl 561 rfl ?_
        refine v_iload_n hX dL_law_561 rfl 3 rfl 562 rfl ?_
        refine v_iconst (v := (1 : Int32)) hX dL_law_562 (by decide) 563 rfl ?_
        refine v_iadd hX dL_law_563 564 rfl ?_
        refine v_sld hX hL (lw_i (k := 1) hL384 hle (by decide)) dL_law_564 565 rfl ?_
        refine v_aload_n hX dL_law_565 rfl 0 rfl 566 rfl ?_
        refine v_iload_n hX dL_law_566 rfl 3 rfl 567 rfl ?_
        refine v_iconst (v := (2 : Int32)) hX dL_law_567 (by decide) 568 rfl ?_
        refine v_iadd hX dL_law_568 569 rfl ?_
        refine v_sld hX hL (lw_i (k := 2) hL384 hle (by decide)) dL_law_569 570 rfl ?_
        refine v_aload_n hX dL_law_570 rfl 0 rfl 571 rfl ?_
        refine v_iload_n hX dL_law_571 rfl 3 rfl 572 rfl ?_
        refine v_iconst (v := (3 : Int32)) hX dL_law_572 (by decide) 573 rfl ?_
        refine v_iadd hX dL_law_573 574 rfl ?_
        refine v_sld hX hL (lw_i (k := 3) hL384 hle (by decide)) dL_law_574 575 rfl ?_
        refine cv_i hX (c9_seat r (lkp g [(8, a1)]) u h _ _ _ hv2) wvX9_seat q_538 rc_52 (Nat.le_of_ble_eq_true rfl) (Nat.le_of_ble_eq_true rfl) (fun _ => rfl) [.int v] rfl (Nat.le_of_ble_eq_true rfl) dL_law_575 578 rfl ?_
        refine v_icmp_eq hX dL_law_578 1522 rfl 581 rfl (fun _ => ?_) (fun q => absurd rfl q)
        exact hnext _ _ _ _ hRl2
      by_cases h9 : sel = (9 : Int32)
      · refine v_tsIn hX dL_law_33 (9 : Int32) h9 (by decide) (by decide) (550) (by decide +kernel) 583 rfl ?_
        obtain ⟨v, a1, b1, hv1, hv2, hRl2⟩ := hop_set r g u h ((xs ((nI (6 * t)) + (1 : Int32)).toNatClampNeg)) ((xs ((nI (6 * t)) + (2 : Int32)).toNatClampNeg)) hRl
        refine v_aload_n hX dL_law_583 rfl 1 rfl 584 rfl ?_
        refine v_aload_n hX dL_law_584 rfl 0 rfl 585 rfl ?_
        refine v_iload_n hX dL_law_585 rfl 3 rfl 586 rfl ?_
        refine v_iconst (v := (1 : Int32)) hX dL_law_586 (by decide) 587 rfl ?_
        refine v_iadd hX dL_law_587 588 rfl ?_
        refine v_sld hX hL (lw_i (k := 1) hL384 hle (by decide)) dL_law_588 589 rfl ?_
        refine v_aload_n hX dL_law_589 rfl 0 rfl 590 rfl ?_
        refine v_iload_n hX dL_law_590 rfl 3 rfl 591 rfl ?_
        refine v_iconst (v := (2 : Int32)) hX dL_law_591 (by decide) 592 rfl ?_
        refine v_iadd hX dL_law_592 593 rfl ?_
        refine v_sld hX hL (lw_i (k := 2) hL384 hle (by decide)) dL_law_593 594 rfl ?_
        refine cv_i hX (c8_set r g u h _ _ hv1) wvX8_set q_542 rc_0 (Nat.le_of_ble_eq_true rfl) (Nat.le_of_ble_eq_true rfl) (fun _ => rfl) [] rfl (Nat.le_of_ble_eq_true rfl) dL_law_594 597 rfl ?_
        refine v_aload_n hX dL_law_597 rfl 2 rfl 598 rfl ?_
        refine v_aload_n hX dL_law_598 rfl 0 rfl 599 rfl ?_
        refine v_iload_n hX dL_law_599 rfl 3 rfl 600 rfl ?_
        refine v_iconst (v := (1 : Int32)) hX dL_law_600 (by decide) 601 rfl ?_
        refine v_iadd hX dL_law_601 602 rfl ?_
        refine v_sld hX hL (lw_i (k := 1) hL384 hle (by decide)) dL_law_602 603 rfl ?_
        refine v_aload_n hX dL_law_603 rfl 0 rfl 604 rfl ?_
        refine v_iload_n hX dL_law_604 rfl 3 rfl 605 rfl ?_
        refine v_iconst (v := (2 : Int32)) hX dL_law_605 (by decide) 606 rfl ?_
        refine v_iadd hX dL_law_606 607 rfl ?_
        refine v_sld hX hL (lw_i (k := 2) hL384 hle (by decide)) dL_law_607 608 rfl ?_
        refine cv_i hX (c9_set r (lkp g [(3, a1)]) u h _ _ hv2) wvX9_set q_548 rc_52 (Nat.le_of_ble_eq_true rfl) (Nat.le_of_ble_eq_true rfl) (fun _ => rfl) [.int v] rfl (Nat.le_of_ble_eq_true rfl) dL_law_608 611 rfl ?_
        refine v_icmp_eq hX dL_law_611 1522 rfl 614 rfl (fun _ => ?_) (fun q => absurd rfl q)
        exact hnext _ _ _ _ hRl2
      by_cases h10 : sel = (10 : Int32)
      · refine v_tsIn hX dL_law_33 (10 : Int32) h10 (by decide) (by decide) (583) (by decide +kernel) 616 rfl ?_
        obtain ⟨v, hv1, hv2, hRl2⟩ := hop_tie r g u h ((xs ((nI (6 * t)) + (1 : Int32)).toNatClampNeg)) ((xs ((nI (6 * t)) + (2 : Int32)).toNatClampNeg)) hRl
        refine v_aload_n hX dL_law_616 rfl 1 rfl 617 rfl ?_
        refine v_aload_n hX dL_law_617 rfl 0 rfl 618 rfl ?_
        refine v_iload_n hX dL_law_618 rfl 3 rfl 619 rfl ?_
        refine v_iconst (v := (1 : Int32)) hX dL_law_619 (by decide) 620 rfl ?_
        refine v_iadd hX dL_law_620 621 rfl ?_
        refine v_sld hX hL (lw_i (k := 1) hL384 hle (by decide)) dL_law_621 622 rfl ?_
        refine v_aload_n hX dL_law_622 rfl 0 rfl 623 rfl ?_
        refine v_iload_n hX dL_law_623 rfl 3 rfl 624 rfl ?_
        refine v_iconst (v := (2 : Int32)) hX dL_law_624 (by decide) 625 rfl ?_
        refine v_iadd hX dL_law_625 626 rfl ?_
        refine v_sld hX hL (lw_i (k := 2) hL384 hle (by decide)) dL_law_626 627 rfl ?_
        refine cv_i hX (c8_tie r g u h _ _ hv1) wvX8_tie q_552 rc_0 (Nat.le_of_ble_eq_true rfl) (Nat.le_of_ble_eq_true rfl) (fun _ => rfl) [] rfl (Nat.le_of_ble_eq_true rfl) dL_law_627 630 rfl ?_
        refine v_aload_n hX dL_law_630 rfl 2 rfl 631 rfl ?_
        refine v_aload_n hX dL_law_631 rfl 0 rfl 632 rfl ?_
        refine v_iload_n hX dL_law_632 rfl 3 rfl 633 rfl ?_
        refine v_iconst (v := (1 : Int32)) hX dL_law_633 (by decide) 634 rfl ?_
        refine v_iadd hX dL_law_634 635 rfl ?_
        refine v_sld hX hL (lw_i (k := 1) hL384 hle (by decide)) dL_law_635 636 rfl ?_
        refine v_aload_n hX dL_law_636 rfl 0 rfl 637 rfl ?_
        refine v_iload_n hX dL_law_637 rfl 3 rfl 638 rfl ?_
        refine v_iconst (v := (2 : Int32)) hX dL_law_638 (by decide) 639 rfl ?_
        refine v_iadd hX dL_law_639 640 rfl ?_
        refine v_sld hX hL (lw_i (k := 2) hL384 hle (by decide)) dL_law_640 641 rfl ?_
        refine cv_i hX (c9_tie r g u h _ _ hv2) wvX9_tie q_578 rc_52 (Nat.le_of_ble_eq_true rfl) (Nat.le_of_ble_eq_true rfl) (fun _ => rfl) [.int v] rfl (Nat.le_of_ble_eq_true rfl) dL_law_641 644 rfl ?_
        refine v_icmp_eq hX dL_law_644 1522 rfl 647 rfl (fun _ => ?_) (fun q => absurd rfl q)
        exact hnext _ _ _ _ hRl2
      by_cases h11 : sel = (11 : Int32)
      · refine v_tsIn hX dL_law_33 (11 : Int32) h11 (by decide) (by decide) (616) (by decide +kernel) 649 rfl ?_
        obtain ⟨v, hv1, hv2, hRl2⟩ := hop_tied r g u h ((xs ((nI (6 * t)) + (1 : Int32)).toNatClampNeg)) hRl
        refine v_aload_n hX dL_law_649 rfl 1 rfl 650 rfl ?_
        refine v_aload_n hX dL_law_650 rfl 0 rfl 651 rfl ?_
        refine v_iload_n hX dL_law_651 rfl 3 rfl 652 rfl ?_
        refine v_iconst (v := (1 : Int32)) hX dL_law_652 (by decide) 653 rfl ?_
        refine v_iadd hX dL_law_653 654 rfl ?_
        refine v_sld hX hL (lw_i (k := 1) hL384 hle (by decide)) dL_law_654 655 rfl ?_
        refine cv_i hX (c8_tied r g u h _ hv1) wvX8_tied q_590 rc_0 (Nat.le_of_ble_eq_true rfl) (Nat.le_of_ble_eq_true rfl) (fun _ => rfl) [] rfl (Nat.le_of_ble_eq_true rfl) dL_law_655 658 rfl ?_
        refine v_aload_n hX dL_law_658 rfl 2 rfl 659 rfl ?_
        refine v_aload_n hX dL_law_659 rfl 0 rfl 660 rfl ?_
        refine v_iload_n hX dL_law_660 rfl 3 rfl 661 rfl ?_
        refine v_iconst (v := (1 : Int32)) hX dL_law_661 (by decide) 662 rfl ?_
        refine v_iadd hX dL_law_662 663 rfl ?_
        refine v_sld hX hL (lw_i (k := 1) hL384 hle (by decide)) dL_law_663 664 rfl ?_
        refine cv_i hX (c9_tied r g u h _ hv2) wvX9_tied q_600 rc_52 (Nat.le_of_ble_eq_true rfl) (Nat.le_of_ble_eq_true rfl) (fun _ => rfl) [.int v] rfl (Nat.le_of_ble_eq_true rfl) dL_law_664 667 rfl ?_
        refine v_icmp_eq hX dL_law_667 1522 rfl 670 rfl (fun _ => ?_) (fun q => absurd rfl q)
        exact hnext _ _ _ _ hRl2
      by_cases h12 : sel = (12 : Int32)
      · refine v_tsIn hX dL_law_33 (12 : Int32) h12 (by decide) (by decide) (639) (by decide +kernel) 672 rfl ?_
        obtain ⟨v, a1, hv1, hv2, hRl2⟩ := hop_hang r g u h ((xs ((nI (6 * t)) + (1 : Int32)).toNatClampNeg)) hRl
        refine v_aload_n hX dL_law_672 rfl 1 rfl 673 rfl ?_
        refine v_aload_n hX dL_law_673 rfl 0 rfl 674 rfl ?_
        refine v_iload_n hX dL_law_674 rfl 3 rfl 675 rfl ?_
        refine v_iconst (v := (1 : Int32)) hX dL_law_675 (by decide) 676 rfl ?_
        refine v_iadd hX dL_law_676 677 rfl ?_
        refine v_sld hX hL (lw_i (k := 1) hL384 hle (by decide)) dL_law_677 678 rfl ?_
        refine cv_i hX (c8_hang r g u h _ hv1) wvX8_hang q_608 rc_0 (Nat.le_of_ble_eq_true rfl) (Nat.le_of_ble_eq_true rfl) (fun _ => rfl) [] rfl (Nat.le_of_ble_eq_true rfl) dL_law_678 681 rfl ?_
        refine v_aload_n hX dL_law_681 rfl 2 rfl 682 rfl ?_
        refine v_aload_n hX dL_law_682 rfl 0 rfl 683 rfl ?_
        refine v_iload_n hX dL_law_683 rfl 3 rfl 684 rfl ?_
        refine v_iconst (v := (1 : Int32)) hX dL_law_684 (by decide) 685 rfl ?_
        refine v_iadd hX dL_law_685 686 rfl ?_
        refine v_sld hX hL (lw_i (k := 1) hL384 hle (by decide)) dL_law_686 687 rfl ?_
        refine cv_i hX (c9_hang r (lkp g [(28, a1)]) u h _ hv2) wvX9_hang q_628 rc_52 (Nat.le_of_ble_eq_true rfl) (Nat.le_of_ble_eq_true rfl) (fun _ => rfl) [.int v] rfl (Nat.le_of_ble_eq_true rfl) dL_law_687 690 rfl ?_
        refine v_icmp_eq hX dL_law_690 1522 rfl 693 rfl (fun _ => ?_) (fun q => absurd rfl q)
        exact hnext _ _ _ _ hRl2
      by_cases h13 : sel = (13 : Int32)
      · refine v_tsIn hX dL_law_33 (13 : Int32) h13 (by decide) (by decide) (662) (by decide +kernel) 695 rfl ?_
        obtain ⟨v, a1, hv1, hv2, hRl2⟩ := hop_steps r g u h ((xs ((nI (6 * t)) + (1 : Int32)).toNatClampNeg)) ((xs ((nI (6 * t)) + (2 : Int32)).toNatClampNeg)) hRl
        refine v_aload_n hX dL_law_695 rfl 1 rfl 696 rfl ?_
        refine v_aload_n hX dL_law_696 rfl 0 rfl 697 rfl ?_
        refine v_iload_n hX dL_law_697 rfl 3 rfl 698 rfl ?_
        refine v_iconst (v := (1 : Int32)) hX dL_law_698 (by decide) 699 rfl ?_
        refine v_iadd hX dL_law_699 700 rfl ?_
        refine v_sld hX hL (lw_i (k := 1) hL384 hle (by decide)) dL_law_700 701 rfl ?_
        refine v_aload_n hX dL_law_701 rfl 0 rfl 702 rfl ?_
        refine v_iload_n hX dL_law_702 rfl 3 rfl 703 rfl ?_
        refine v_iconst (v := (2 : Int32)) hX dL_law_703 (by decide) 704 rfl ?_
        refine v_iadd hX dL_law_704 705 rfl ?_
        refine v_sld hX hL (lw_i (k := 2) hL384 hle (by decide)) dL_law_705 706 rfl ?_
        refine cv_i hX (c8_steps r g u h _ _ hv1) wvX8_steps q_632 rc_0 (Nat.le_of_ble_eq_true rfl) (Nat.le_of_ble_eq_true rfl) (fun _ => rfl) [] rfl (Nat.le_of_ble_eq_true rfl) dL_law_706 709 rfl ?_
        refine v_aload_n hX dL_law_709 rfl 2 rfl 710 rfl ?_
        refine v_aload_n hX dL_law_710 rfl 0 rfl 711 rfl ?_
        refine v_iload_n hX dL_law_711 rfl 3 rfl 712 rfl ?_
        refine v_iconst (v := (1 : Int32)) hX dL_law_712 (by decide) 713 rfl ?_
        refine v_iadd hX dL_law_713 714 rfl ?_
        refine v_sld hX hL (lw_i (k := 1) hL384 hle (by decide)) dL_law_714 715 rfl ?_
        refine v_aload_n hX dL_law_715 rfl 0 rfl 716 rfl ?_
        refine v_iload_n hX dL_law_716 rfl 3 rfl 717 rfl ?_
        refine v_iconst (v := (2 : Int32)) hX dL_law_717 (by decide) 718 rfl ?_
        refine v_iadd hX dL_law_718 719 rfl ?_
        refine v_sld hX hL (lw_i (k := 2) hL384 hle (by decide)) dL_law_719 720 rfl ?_
        refine cv_i hX (c9_steps r (lkp g [(31, a1)]) u h _ _ hv2) wvX9_steps q_646 rc_52 (Nat.le_of_ble_eq_true rfl) (Nat.le_of_ble_eq_true rfl) (fun _ => rfl) [.int v] rfl (Nat.le_of_ble_eq_true rfl) dL_law_720 723 rfl ?_
        refine v_icmp_eq hX dL_law_723 1522 rfl 726 rfl (fun _ => ?_) (fun q => absurd rfl q)
        exact hnext _ _ _ _ hRl2
      by_cases h14 : sel = (14 : Int32)
      · refine v_tsIn hX dL_law_33 (14 : Int32) h14 (by decide) (by decide) (695) (by decide +kernel) 728 rfl ?_
        obtain ⟨v, hv1, hv2, hRl2⟩ := hop_turned r g u h ((xs ((nI (6 * t)) + (1 : Int32)).toNatClampNeg)) hRl
        refine v_aload_n hX dL_law_728 rfl 1 rfl 729 rfl ?_
        refine v_aload_n hX dL_law_729 rfl 0 rfl 730 rfl ?_
        refine v_iload_n hX dL_law_730 rfl 3 rfl 731 rfl ?_
        refine v_iconst (v := (1 : Int32)) hX dL_law_731 (by decide) 732 rfl ?_
        refine v_iadd hX dL_law_732 733 rfl ?_
        refine v_sld hX hL (lw_i (k := 1) hL384 hle (by decide)) dL_law_733 734 rfl ?_
        refine cv_i hX (c8_turned r g u h _ hv1) wvX8_turned q_654 rc_0 (Nat.le_of_ble_eq_true rfl) (Nat.le_of_ble_eq_true rfl) (fun _ => rfl) [] rfl (Nat.le_of_ble_eq_true rfl) dL_law_734 737 rfl ?_
        refine v_aload_n hX dL_law_737 rfl 2 rfl 738 rfl ?_
        refine v_aload_n hX dL_law_738 rfl 0 rfl 739 rfl ?_
        refine v_iload_n hX dL_law_739 rfl 3 rfl 740 rfl ?_
        refine v_iconst (v := (1 : Int32)) hX dL_law_740 (by decide) 741 rfl ?_
        refine v_iadd hX dL_law_741 742 rfl ?_
        refine v_sld hX hL (lw_i (k := 1) hL384 hle (by decide)) dL_law_742 743 rfl ?_
        refine cv_i hX (c9_turned r g u h _ hv2) wvX9_turned q_659 rc_52 (Nat.le_of_ble_eq_true rfl) (Nat.le_of_ble_eq_true rfl) (fun _ => rfl) [.int v] rfl (Nat.le_of_ble_eq_true rfl) dL_law_743 746 rfl ?_
        refine v_icmp_eq hX dL_law_746 1522 rfl 749 rfl (fun _ => ?_) (fun q => absurd rfl q)
        exact hnext _ _ _ _ hRl2
      by_cases h15 : sel = (15 : Int32)
      · refine v_tsIn hX dL_law_33 (15 : Int32) h15 (by decide) (by decide) (718) (by decide +kernel) 751 rfl ?_
        obtain ⟨v, a1, a2, b1, hv1, hv2, hRl2⟩ := hop_score r g u h ((xs ((nI (6 * t)) + (1 : Int32)).toNatClampNeg)) hRl
        refine v_aload_n hX dL_law_751 rfl 1 rfl 752 rfl ?_
        refine v_aload_n hX dL_law_752 rfl 0 rfl 753 rfl ?_
        refine v_iload_n hX dL_law_753 rfl 3 rfl 754 rfl ?_
        refine v_iconst (v := (1 : Int32)) hX dL_law_754 (by decide) 755 rfl ?_
        refine v_iadd hX dL_law_755 756 rfl ?_
        refine v_sld hX hL (lw_i (k := 1) hL384 hle (by decide)) dL_law_756 757 rfl ?_
        refine cv_i hX (c8_score r g u h _ hv1) wvX8_score q_663 rc_0 (Nat.le_of_ble_eq_true rfl) (Nat.le_of_ble_eq_true rfl) (fun _ => rfl) [] rfl (Nat.le_of_ble_eq_true rfl) dL_law_757 760 rfl ?_
        refine v_aload_n hX dL_law_760 rfl 2 rfl 761 rfl ?_
        refine v_aload_n hX dL_law_761 rfl 0 rfl 762 rfl ?_
        refine v_iload_n hX dL_law_762 rfl 3 rfl 763 rfl ?_
        refine v_iconst (v := (1 : Int32)) hX dL_law_763 (by decide) 764 rfl ?_
        refine v_iadd hX dL_law_764 765 rfl ?_
        refine v_sld hX hL (lw_i (k := 1) hL384 hle (by decide)) dL_law_765 766 rfl ?_
        refine cv_i hX (c9_score r (lkp g [(29, a1), (28, a2)]) u h _ hv2) wvX9_score q_684 rc_52 (Nat.le_of_ble_eq_true rfl) (Nat.le_of_ble_eq_true rfl) (fun _ => rfl) [.int v] rfl (Nat.le_of_ble_eq_true rfl) dL_law_766 769 rfl ?_
        refine v_icmp_eq hX dL_law_769 1522 rfl 772 rfl (fun _ => ?_) (fun q => absurd rfl q)
        exact hnext _ _ _ _ hRl2
      by_cases h16 : sel = (16 : Int32)
      · refine v_tsIn hX dL_law_33 (16 : Int32) h16 (by decide) (by decide) (741) (by decide +kernel) 774 rfl ?_
        obtain ⟨v, a1, a2, b1, b2, hv1, hv2, hRl2⟩ := hop_lot r g u h ((xs ((nI (6 * t)) + (1 : Int32)).toNatClampNeg)) hRl
        refine v_aload_n hX dL_law_774 rfl 1 rfl 775 rfl ?_
        refine v_aload_n hX dL_law_775 rfl 0 rfl 776 rfl ?_
        refine v_iload_n hX dL_law_776 rfl 3 rfl 777 rfl ?_
        refine v_iconst (v := (1 : Int32)) hX dL_law_777 (by decide) 778 rfl ?_
        refine v_iadd hX dL_law_778 779 rfl ?_
        refine v_sld hX hL (lw_i (k := 1) hL384 hle (by decide)) dL_law_779 780 rfl ?_
        refine cv_i hX (c8_lot r g u h _ hv1) wvX8_lot q_704 rc_0 (Nat.le_of_ble_eq_true rfl) (Nat.le_of_ble_eq_true rfl) (fun _ => rfl) [] rfl (Nat.le_of_ble_eq_true rfl) dL_law_780 783 rfl ?_
        refine v_aload_n hX dL_law_783 rfl 2 rfl 784 rfl ?_
        refine v_aload_n hX dL_law_784 rfl 0 rfl 785 rfl ?_
        refine v_iload_n hX dL_law_785 rfl 3 rfl 786 rfl ?_
        refine v_iconst (v := (1 : Int32)) hX dL_law_786 (by decide) 787 rfl ?_
        refine v_iadd hX dL_law_787 788 rfl ?_
        refine v_sld hX hL (lw_i (k := 1) hL384 hle (by decide)) dL_law_788 789 rfl ?_
        refine cv_i hX (c9_lot r (lkp g [(29, a1), (28, a2)]) u h _ hv2) wvX9_lot q_726 rc_52 (Nat.le_of_ble_eq_true rfl) (Nat.le_of_ble_eq_true rfl) (fun _ => rfl) [.int v] rfl (Nat.le_of_ble_eq_true rfl) dL_law_789 792 rfl ?_
        refine v_icmp_eq hX dL_law_792 1522 rfl 795 rfl (fun _ => ?_) (fun q => absurd rfl q)
        exact hnext _ _ _ _ hRl2
      by_cases h17 : sel = (17 : Int32)
      · refine v_tsIn hX dL_law_33 (17 : Int32) h17 (by decide) (by decide) (764) (by decide +kernel) 797 rfl ?_
        obtain ⟨v, a1, a2, b1, hv1, hv2, hRl2⟩ := hop_seen r g u h ((xs ((nI (6 * t)) + (1 : Int32)).toNatClampNeg)) hRl
        refine v_aload_n hX dL_law_797 rfl 1 rfl 798 rfl ?_
        refine v_aload_n hX dL_law_798 rfl 0 rfl 799 rfl ?_
        refine v_iload_n hX dL_law_799 rfl 3 rfl 800 rfl ?_
        refine v_iconst (v := (1 : Int32)) hX dL_law_800 (by decide) 801 rfl ?_
        refine v_iadd hX dL_law_801 802 rfl ?_
        refine v_sld hX hL (lw_i (k := 1) hL384 hle (by decide)) dL_law_802 803 rfl ?_
        refine cv_i hX (c8_seen r g u h _ hv1) wvX8_seen q_738 rc_0 (Nat.le_of_ble_eq_true rfl) (Nat.le_of_ble_eq_true rfl) (fun _ => rfl) [] rfl (Nat.le_of_ble_eq_true rfl) dL_law_803 806 rfl ?_
        refine v_aload_n hX dL_law_806 rfl 2 rfl 807 rfl ?_
        refine v_aload_n hX dL_law_807 rfl 0 rfl 808 rfl ?_
        refine v_iload_n hX dL_law_808 rfl 3 rfl 809 rfl ?_
        refine v_iconst (v := (1 : Int32)) hX dL_law_809 (by decide) 810 rfl ?_
        refine v_iadd hX dL_law_810 811 rfl ?_
        refine v_sld hX hL (lw_i (k := 1) hL384 hle (by decide)) dL_law_811 812 rfl ?_
        refine cv_i hX (c9_seen r (lkp g [(29, a1), (28, a2)]) u h _ hv2) wvX9_seen q_749 rc_52 (Nat.le_of_ble_eq_true rfl) (Nat.le_of_ble_eq_true rfl) (fun _ => rfl) [.int v] rfl (Nat.le_of_ble_eq_true rfl) dL_law_812 815 rfl ?_
        refine v_icmp_eq hX dL_law_815 1522 rfl 818 rfl (fun _ => ?_) (fun q => absurd rfl q)
        exact hnext _ _ _ _ hRl2
      by_cases h18 : sel = (18 : Int32)
      · refine v_tsIn hX dL_law_33 (18 : Int32) h18 (by decide) (by decide) (787) (by decide +kernel) 820 rfl ?_
        obtain ⟨v, a1, a2, b1, b2, b3, hv1, hv2, hRl2⟩ := hop_without r g u h ((xs ((nI (6 * t)) + (1 : Int32)).toNatClampNeg)) hRl
        refine v_aload_n hX dL_law_820 rfl 1 rfl 821 rfl ?_
        refine v_aload_n hX dL_law_821 rfl 0 rfl 822 rfl ?_
        refine v_iload_n hX dL_law_822 rfl 3 rfl 823 rfl ?_
        refine v_iconst (v := (1 : Int32)) hX dL_law_823 (by decide) 824 rfl ?_
        refine v_iadd hX dL_law_824 825 rfl ?_
        refine v_sld hX hL (lw_i (k := 1) hL384 hle (by decide)) dL_law_825 826 rfl ?_
        refine cv_i hX (c8_without r g u h _ hv1) wvX8_without q_753 rc_0 (Nat.le_of_ble_eq_true rfl) (Nat.le_of_ble_eq_true rfl) (fun _ => rfl) [] rfl (Nat.le_of_ble_eq_true rfl) dL_law_826 829 rfl ?_
        refine v_aload_n hX dL_law_829 rfl 2 rfl 830 rfl ?_
        refine v_aload_n hX dL_law_830 rfl 0 rfl 831 rfl ?_
        refine v_iload_n hX dL_law_831 rfl 3 rfl 832 rfl ?_
        refine v_iconst (v := (1 : Int32)) hX dL_law_832 (by decide) 833 rfl ?_
        refine v_iadd hX dL_law_833 834 rfl ?_
        refine v_sld hX hL (lw_i (k := 1) hL384 hle (by decide)) dL_law_834 835 rfl ?_
        refine cv_i hX (c9_without r (lkp g [(29, a1), (28, a2)]) u h _ hv2) wvX9_without q_757 rc_52 (Nat.le_of_ble_eq_true rfl) (Nat.le_of_ble_eq_true rfl) (fun _ => rfl) [.int v] rfl (Nat.le_of_ble_eq_true rfl) dL_law_835 838 rfl ?_
        refine v_icmp_eq hX dL_law_838 1522 rfl 841 rfl (fun _ => ?_) (fun q => absurd rfl q)
        exact hnext _ _ _ _ hRl2
      by_cases h19 : sel = (19 : Int32)
      · refine v_tsIn hX dL_law_33 (19 : Int32) h19 (by decide) (by decide) (810) (by decide +kernel) 843 rfl ?_
        obtain ⟨v, a1, a2, b1, b2, b3, hv1, hv2, hRl2⟩ := hop_hold r g u h  hRl
        refine v_aload_n hX dL_law_843 rfl 1 rfl 844 rfl ?_
        refine cv_i hX (c8_hold r g u h hv1) wvX8_hold q_765 rc_0 (Nat.le_of_ble_eq_true rfl) (Nat.le_of_ble_eq_true rfl) (fun _ => rfl) [] rfl (Nat.le_of_ble_eq_true rfl) dL_law_844 847 rfl ?_
        refine v_aload_n hX dL_law_847 rfl 2 rfl 848 rfl ?_
        refine cv_i hX (c9_hold r (lkp g [(29, a1), (28, a2)]) u h hv2) wvX9_hold q_769 rc_52 (Nat.le_of_ble_eq_true rfl) (Nat.le_of_ble_eq_true rfl) (fun _ => rfl) [.int v] rfl (Nat.le_of_ble_eq_true rfl) dL_law_848 851 rfl ?_
        refine v_icmp_eq hX dL_law_851 1522 rfl 854 rfl (fun _ => ?_) (fun q => absurd rfl q)
        exact hnext _ _ _ _ hRl2
      by_cases h20 : sel = (20 : Int32)
      · refine v_tsIn hX dL_law_33 (20 : Int32) h20 (by decide) (by decide) (823) (by decide +kernel) 856 rfl ?_
        obtain ⟨v, b1, b2, b3, hv1, hv2, hRl2⟩ := hop_odds r g u h ((xs ((nI (6 * t)) + (1 : Int32)).toNatClampNeg)) ((xs ((nI (6 * t)) + (2 : Int32)).toNatClampNeg)) hRl
        refine v_aload_n hX dL_law_856 rfl 1 rfl 857 rfl ?_
        refine v_aload_n hX dL_law_857 rfl 0 rfl 858 rfl ?_
        refine v_iload_n hX dL_law_858 rfl 3 rfl 859 rfl ?_
        refine v_iconst (v := (1 : Int32)) hX dL_law_859 (by decide) 860 rfl ?_
        refine v_iadd hX dL_law_860 861 rfl ?_
        refine v_sld hX hL (lw_i (k := 1) hL384 hle (by decide)) dL_law_861 862 rfl ?_
        refine v_aload_n hX dL_law_862 rfl 0 rfl 863 rfl ?_
        refine v_iload_n hX dL_law_863 rfl 3 rfl 864 rfl ?_
        refine v_iconst (v := (2 : Int32)) hX dL_law_864 (by decide) 865 rfl ?_
        refine v_iadd hX dL_law_865 866 rfl ?_
        refine v_sld hX hL (lw_i (k := 2) hL384 hle (by decide)) dL_law_866 867 rfl ?_
        refine cv_l hX (c8_odds r g u h _ _ hv1) wvX8_odds q_773 rc_0 (Nat.le_of_ble_eq_true rfl) (Nat.le_of_ble_eq_true rfl) (fun _ => rfl) [] rfl (Nat.le_of_ble_eq_true rfl) dL_law_867 870 rfl ?_
        refine v_aload_n hX dL_law_870 rfl 2 rfl 871 rfl ?_
        refine v_aload_n hX dL_law_871 rfl 0 rfl 872 rfl ?_
        refine v_iload_n hX dL_law_872 rfl 3 rfl 873 rfl ?_
        refine v_iconst (v := (1 : Int32)) hX dL_law_873 (by decide) 874 rfl ?_
        refine v_iadd hX dL_law_874 875 rfl ?_
        refine v_sld hX hL (lw_i (k := 1) hL384 hle (by decide)) dL_law_875 876 rfl ?_
        refine v_aload_n hX dL_law_876 rfl 0 rfl 877 rfl ?_
        refine v_iload_n hX dL_law_877 rfl 3 rfl 878 rfl ?_
        refine v_iconst (v := (2 : Int32)) hX dL_law_878 (by decide) 879 rfl ?_
        refine v_iadd hX dL_law_879 880 rfl ?_
        refine v_sld hX hL (lw_i (k := 2) hL384 hle (by decide)) dL_law_880 881 rfl ?_
        refine cv_l hX (c9_odds r g u h _ _ hv2) wvX9_odds q_794 rc_52 (Nat.le_of_ble_eq_true rfl) (Nat.le_of_ble_eq_true rfl) (fun _ => rfl) [.long v] rfl (Nat.le_of_ble_eq_true rfl) dL_law_881 884 rfl ?_
        refine v_lcmp hX dL_law_884 885 rfl ?_
        refine v_if_eq hX dL_law_885 1522 rfl 888 rfl (fun _ => ?_) (fun q => absurd (lg_cmp_self v) q)
        exact hnext _ _ _ _ hRl2
      by_cases h21 : sel = (21 : Int32)
      · refine v_tsIn hX dL_law_33 (21 : Int32) h21 (by decide) (by decide) (857) (by decide +kernel) 890 rfl ?_
        obtain ⟨v, hv1, hv2, hRl2⟩ := hop_likely r g u h ((xs ((nI (6 * t)) + (1 : Int32)).toNatClampNeg)) hRl
        refine v_aload_n hX dL_law_890 rfl 1 rfl 891 rfl ?_
        refine v_aload_n hX dL_law_891 rfl 0 rfl 892 rfl ?_
        refine v_iload_n hX dL_law_892 rfl 3 rfl 893 rfl ?_
        refine v_iconst (v := (1 : Int32)) hX dL_law_893 (by decide) 894 rfl ?_
        refine v_iadd hX dL_law_894 895 rfl ?_
        refine v_sld hX hL (lw_i (k := 1) hL384 hle (by decide)) dL_law_895 896 rfl ?_
        refine cv_i hX (c8_likely r g u h _ hv1) wvX8_likely q_805 rc_0 (Nat.le_of_ble_eq_true rfl) (Nat.le_of_ble_eq_true rfl) (fun _ => rfl) [] rfl (Nat.le_of_ble_eq_true rfl) dL_law_896 899 rfl ?_
        refine v_aload_n hX dL_law_899 rfl 2 rfl 900 rfl ?_
        refine v_aload_n hX dL_law_900 rfl 0 rfl 901 rfl ?_
        refine v_iload_n hX dL_law_901 rfl 3 rfl 902 rfl ?_
        refine v_iconst (v := (1 : Int32)) hX dL_law_902 (by decide) 903 rfl ?_
        refine v_iadd hX dL_law_903 904 rfl ?_
        refine v_sld hX hL (lw_i (k := 1) hL384 hle (by decide)) dL_law_904 905 rfl ?_
        refine cv_i hX (c9_likely r g u h _ hv2) wvX9_likely q_813 rc_52 (Nat.le_of_ble_eq_true rfl) (Nat.le_of_ble_eq_true rfl) (fun _ => rfl) [.int v] rfl (Nat.le_of_ble_eq_true rfl) dL_law_905 908 rfl ?_
        refine v_icmp_eq hX dL_law_908 1522 rfl 911 rfl (fun _ => ?_) (fun q => absurd rfl q)
        exact hnext _ _ _ _ hRl2
      by_cases h22 : sel = (22 : Int32)
      · refine v_tsIn hX dL_law_33 (22 : Int32) h22 (by decide) (by decide) (880) (by decide +kernel) 913 rfl ?_
        obtain ⟨v, a1, a2, b1, b2, hv1, hv2, hRl2⟩ := hop_best r g u h ((xs ((nI (6 * t)) + (1 : Int32)).toNatClampNeg)) hRl
        refine v_aload_n hX dL_law_913 rfl 1 rfl 914 rfl ?_
        refine v_aload_n hX dL_law_914 rfl 0 rfl 915 rfl ?_
        refine v_iload_n hX dL_law_915 rfl 3 rfl 916 rfl ?_
        refine v_iconst (v := (1 : Int32)) hX dL_law_916 (by decide) 917 rfl ?_
        refine v_iadd hX dL_law_917 918 rfl ?_
        refine v_sld hX hL (lw_i (k := 1) hL384 hle (by decide)) dL_law_918 919 rfl ?_
        refine cv_i hX (c8_best r g u h _ hv1) wvX8_best q_821 rc_0 (Nat.le_of_ble_eq_true rfl) (Nat.le_of_ble_eq_true rfl) (fun _ => rfl) [] rfl (Nat.le_of_ble_eq_true rfl) dL_law_919 922 rfl ?_
        refine v_aload_n hX dL_law_922 rfl 2 rfl 923 rfl ?_
        refine v_aload_n hX dL_law_923 rfl 0 rfl 924 rfl ?_
        refine v_iload_n hX dL_law_924 rfl 3 rfl 925 rfl ?_
        refine v_iconst (v := (1 : Int32)) hX dL_law_925 (by decide) 926 rfl ?_
        refine v_iadd hX dL_law_926 927 rfl ?_
        refine v_sld hX hL (lw_i (k := 1) hL384 hle (by decide)) dL_law_927 928 rfl ?_
        refine cv_i hX (c9_best r (lkp g [(30, a1), (29, a2)]) u h _ hv2) wvX9_best q_834 rc_52 (Nat.le_of_ble_eq_true rfl) (Nat.le_of_ble_eq_true rfl) (fun _ => rfl) [.int v] rfl (Nat.le_of_ble_eq_true rfl) dL_law_928 931 rfl ?_
        refine v_icmp_eq hX dL_law_931 1522 rfl 934 rfl (fun _ => ?_) (fun q => absurd rfl q)
        exact hnext _ _ _ _ hRl2
      by_cases h23 : sel = (23 : Int32)
      · refine v_tsIn hX dL_law_33 (23 : Int32) h23 (by decide) (by decide) (903) (by decide +kernel) 936 rfl ?_
        obtain ⟨v, a1, a2, a3, a4, b1, b2, hv1, hv2, hRl2⟩ := hop_says r g u h ((xs ((nI (6 * t)) + (1 : Int32)).toNatClampNeg)) hRl
        refine v_aload_n hX dL_law_936 rfl 1 rfl 937 rfl ?_
        refine v_aload_n hX dL_law_937 rfl 0 rfl 938 rfl ?_
        refine v_iload_n hX dL_law_938 rfl 3 rfl 939 rfl ?_
        refine v_iconst (v := (1 : Int32)) hX dL_law_939 (by decide) 940 rfl ?_
        refine v_iadd hX dL_law_940 941 rfl ?_
        refine v_sld hX hL (lw_i (k := 1) hL384 hle (by decide)) dL_law_941 942 rfl ?_
        refine cv_i hX (c8_says r g u h _ hv1) wvX8_says q_842 rc_0 (Nat.le_of_ble_eq_true rfl) (Nat.le_of_ble_eq_true rfl) (fun _ => rfl) [] rfl (Nat.le_of_ble_eq_true rfl) dL_law_942 945 rfl ?_
        refine v_aload_n hX dL_law_945 rfl 2 rfl 946 rfl ?_
        refine v_aload_n hX dL_law_946 rfl 0 rfl 947 rfl ?_
        refine v_iload_n hX dL_law_947 rfl 3 rfl 948 rfl ?_
        refine v_iconst (v := (1 : Int32)) hX dL_law_948 (by decide) 949 rfl ?_
        refine v_iadd hX dL_law_949 950 rfl ?_
        refine v_sld hX hL (lw_i (k := 1) hL384 hle (by decide)) dL_law_950 951 rfl ?_
        refine cv_i hX (c9_says (lkp r [(5, a1), (4, a2)]) (lkp g [(13, a3), (51, a4)]) u h _ hv2) wvX9_says q_874 rc_52 (Nat.le_of_ble_eq_true rfl) (Nat.le_of_ble_eq_true rfl) (fun _ => rfl) [.int v] rfl (Nat.le_of_ble_eq_true rfl) dL_law_951 954 rfl ?_
        refine v_icmp_eq hX dL_law_954 1522 rfl 957 rfl (fun _ => ?_) (fun q => absurd rfl q)
        exact hnext _ _ _ _ hRl2
      by_cases h24 : sel = (24 : Int32)
      · refine v_tsIn hX dL_law_33 (24 : Int32) h24 (by decide) (by decide) (926) (by decide +kernel) 959 rfl ?_
        rcases Decidable.em ((xs (nI (6 * t) + (3 : Int32)).toNatClampNeg) = 0) with hbz | hbz
        · obtain ⟨v, a1, a2, b1, hv1, hv2, hRl2⟩ := hop_found r g u h ((xs ((nI (6 * t)) + (1 : Int32)).toNatClampNeg)) ((xs ((nI (6 * t)) + (2 : Int32)).toNatClampNeg)) ((0 : Int32)) hRl (Or.inl rfl)
          refine v_aload_n hX dL_law_959 rfl 1 rfl 960 rfl ?_
          refine v_aload_n hX dL_law_960 rfl 0 rfl 961 rfl ?_
          refine v_iload_n hX dL_law_961 rfl 3 rfl 962 rfl ?_
          refine v_iconst (v := (1 : Int32)) hX dL_law_962 (by decide) 963 rfl ?_
          refine v_iadd hX dL_law_963 964 rfl ?_
          refine v_sld hX hL (lw_i (k := 1) hL384 hle (by decide)) dL_law_964 965 rfl ?_
          refine v_aload_n hX dL_law_965 rfl 0 rfl 966 rfl ?_
          refine v_iload_n hX dL_law_966 rfl 3 rfl 967 rfl ?_
          refine v_iconst (v := (2 : Int32)) hX dL_law_967 (by decide) 968 rfl ?_
          refine v_iadd hX dL_law_968 969 rfl ?_
          refine v_sld hX hL (lw_i (k := 2) hL384 hle (by decide)) dL_law_969 970 rfl ?_
          refine v_aload_n hX dL_law_970 rfl 0 rfl 971 rfl ?_
          refine v_iload_n hX dL_law_971 rfl 3 rfl 972 rfl ?_
          refine v_iconst (v := (3 : Int32)) hX dL_law_972 (by decide) 973 rfl ?_
          refine v_iadd hX dL_law_973 974 rfl ?_
          refine v_sld hX hL (lw_i (k := 3) hL384 hle (by decide)) dL_law_974 975 rfl ?_
          refine v_if_eq hX dL_law_975 982 rfl 978 rfl (fun _ => ?_) (fun q => absurd hbz q)
          refine v_iconst (v := (0 : Int32)) hX dL_law_982 (by decide) 983 rfl ?_
          refine cv_i hX (c8_found r g u h _ _ _ hv1) wvX8_found q_886 rc_0 (Nat.le_of_ble_eq_true rfl) (Nat.le_of_ble_eq_true rfl) (fun _ => rfl) [] rfl (Nat.le_of_ble_eq_true rfl) dL_law_983 986 rfl ?_
          refine v_aload_n hX dL_law_986 rfl 2 rfl 987 rfl ?_
          refine v_aload_n hX dL_law_987 rfl 0 rfl 988 rfl ?_
          refine v_iload_n hX dL_law_988 rfl 3 rfl 989 rfl ?_
          refine v_iconst (v := (1 : Int32)) hX dL_law_989 (by decide) 990 rfl ?_
          refine v_iadd hX dL_law_990 991 rfl ?_
          refine v_sld hX hL (lw_i (k := 1) hL384 hle (by decide)) dL_law_991 992 rfl ?_
          refine v_aload_n hX dL_law_992 rfl 0 rfl 993 rfl ?_
          refine v_iload_n hX dL_law_993 rfl 3 rfl 994 rfl ?_
          refine v_iconst (v := (2 : Int32)) hX dL_law_994 (by decide) 995 rfl ?_
          refine v_iadd hX dL_law_995 996 rfl ?_
          refine v_sld hX hL (lw_i (k := 2) hL384 hle (by decide)) dL_law_996 997 rfl ?_
          refine v_aload_n hX dL_law_997 rfl 0 rfl 998 rfl ?_
          refine v_iload_n hX dL_law_998 rfl 3 rfl 999 rfl ?_
          refine v_iconst (v := (3 : Int32)) hX dL_law_999 (by decide) 1000 rfl ?_
          refine v_iadd hX dL_law_1000 1001 rfl ?_
          refine v_sld hX hL (lw_i (k := 3) hL384 hle (by decide)) dL_law_1001 1002 rfl ?_
          refine v_if_eq hX dL_law_1002 1009 rfl 1005 rfl (fun _ => ?_) (fun q => absurd hbz q)
          refine v_iconst (v := (0 : Int32)) hX dL_law_1009 (by decide) 1010 rfl ?_
          refine cv_i hX (c9_found r (lkp g [(10, a1), (9, a2)]) u h _ _ _ hv2) wvX9_found q_892 rc_52 (Nat.le_of_ble_eq_true rfl) (Nat.le_of_ble_eq_true rfl) (fun _ => rfl) [.int v] rfl (Nat.le_of_ble_eq_true rfl) dL_law_1010 1013 rfl ?_
          refine v_icmp_eq hX dL_law_1013 1522 rfl 1016 rfl (fun _ => ?_) (fun q => absurd rfl q)
          exact hnext _ _ _ _ hRl2
        · obtain ⟨v, a1, a2, b1, hv1, hv2, hRl2⟩ := hop_found r g u h ((xs ((nI (6 * t)) + (1 : Int32)).toNatClampNeg)) ((xs ((nI (6 * t)) + (2 : Int32)).toNatClampNeg)) ((1 : Int32)) hRl (Or.inr rfl)
          refine v_aload_n hX dL_law_959 rfl 1 rfl 960 rfl ?_
          refine v_aload_n hX dL_law_960 rfl 0 rfl 961 rfl ?_
          refine v_iload_n hX dL_law_961 rfl 3 rfl 962 rfl ?_
          refine v_iconst (v := (1 : Int32)) hX dL_law_962 (by decide) 963 rfl ?_
          refine v_iadd hX dL_law_963 964 rfl ?_
          refine v_sld hX hL (lw_i (k := 1) hL384 hle (by decide)) dL_law_964 965 rfl ?_
          refine v_aload_n hX dL_law_965 rfl 0 rfl 966 rfl ?_
          refine v_iload_n hX dL_law_966 rfl 3 rfl 967 rfl ?_
          refine v_iconst (v := (2 : Int32)) hX dL_law_967 (by decide) 968 rfl ?_
          refine v_iadd hX dL_law_968 969 rfl ?_
          refine v_sld hX hL (lw_i (k := 2) hL384 hle (by decide)) dL_law_969 970 rfl ?_
          refine v_aload_n hX dL_law_970 rfl 0 rfl 971 rfl ?_
          refine v_iload_n hX dL_law_971 rfl 3 rfl 972 rfl ?_
          refine v_iconst (v := (3 : Int32)) hX dL_law_972 (by decide) 973 rfl ?_
          refine v_iadd hX dL_law_973 974 rfl ?_
          refine v_sld hX hL (lw_i (k := 3) hL384 hle (by decide)) dL_law_974 975 rfl ?_
          refine v_if_eq hX dL_law_975 982 rfl 978 rfl (fun q => absurd q hbz) (fun _ => ?_)
          refine v_iconst (v := (1 : Int32)) hX dL_law_978 (by decide) 979 rfl ?_
          refine v_goto hX dL_law_979 983 rfl ?_
          refine cv_i hX (c8_found r g u h _ _ _ hv1) wvX8_found q_886 rc_0 (Nat.le_of_ble_eq_true rfl) (Nat.le_of_ble_eq_true rfl) (fun _ => rfl) [] rfl (Nat.le_of_ble_eq_true rfl) dL_law_983 986 rfl ?_
          refine v_aload_n hX dL_law_986 rfl 2 rfl 987 rfl ?_
          refine v_aload_n hX dL_law_987 rfl 0 rfl 988 rfl ?_
          refine v_iload_n hX dL_law_988 rfl 3 rfl 989 rfl ?_
          refine v_iconst (v := (1 : Int32)) hX dL_law_989 (by decide) 990 rfl ?_
          refine v_iadd hX dL_law_990 991 rfl ?_
          refine v_sld hX hL (lw_i (k := 1) hL384 hle (by decide)) dL_law_991 992 rfl ?_
          refine v_aload_n hX dL_law_992 rfl 0 rfl 993 rfl ?_
          refine v_iload_n hX dL_law_993 rfl 3 rfl 994 rfl ?_
          refine v_iconst (v := (2 : Int32)) hX dL_law_994 (by decide) 995 rfl ?_
          refine v_iadd hX dL_law_995 996 rfl ?_
          refine v_sld hX hL (lw_i (k := 2) hL384 hle (by decide)) dL_law_996 997 rfl ?_
          refine v_aload_n hX dL_law_997 rfl 0 rfl 998 rfl ?_
          refine v_iload_n hX dL_law_998 rfl 3 rfl 999 rfl ?_
          refine v_iconst (v := (3 : Int32)) hX dL_law_999 (by decide) 1000 rfl ?_
          refine v_iadd hX dL_law_1000 1001 rfl ?_
          refine v_sld hX hL (lw_i (k := 3) hL384 hle (by decide)) dL_law_1001 1002 rfl ?_
          refine v_if_eq hX dL_law_1002 1009 rfl 1005 rfl (fun q => absurd q hbz) (fun _ => ?_)
          refine v_iconst (v := (1 : Int32)) hX dL_law_1005 (by decide) 1006 rfl ?_
          refine v_goto hX dL_law_1006 1010 rfl ?_
          refine cv_i hX (c9_found r (lkp g [(10, a1), (9, a2)]) u h _ _ _ hv2) wvX9_found q_892 rc_52 (Nat.le_of_ble_eq_true rfl) (Nat.le_of_ble_eq_true rfl) (fun _ => rfl) [.int v] rfl (Nat.le_of_ble_eq_true rfl) dL_law_1010 1013 rfl ?_
          refine v_icmp_eq hX dL_law_1013 1522 rfl 1016 rfl (fun _ => ?_) (fun q => absurd rfl q)
          exact hnext _ _ _ _ hRl2
      by_cases h25 : sel = (25 : Int32)
      · refine v_tsIn hX dL_law_33 (25 : Int32) h25 (by decide) (by decide) (985) (by decide +kernel) 1018 rfl ?_
        obtain ⟨v, b1, b2, hv1, hv2, hRl2⟩ := hop_rate r g u h ((xs ((nI (6 * t)) + (1 : Int32)).toNatClampNeg)) hRl
        refine v_aload_n hX dL_law_1018 rfl 1 rfl 1019 rfl ?_
        refine v_aload_n hX dL_law_1019 rfl 0 rfl 1020 rfl ?_
        refine v_iload_n hX dL_law_1020 rfl 3 rfl 1021 rfl ?_
        refine v_iconst (v := (1 : Int32)) hX dL_law_1021 (by decide) 1022 rfl ?_
        refine v_iadd hX dL_law_1022 1023 rfl ?_
        refine v_sld hX hL (lw_i (k := 1) hL384 hle (by decide)) dL_law_1023 1024 rfl ?_
        refine cv_i hX (c8_rate r g u h _ hv1) wvX8_rate q_896 rc_0 (Nat.le_of_ble_eq_true rfl) (Nat.le_of_ble_eq_true rfl) (fun _ => rfl) [] rfl (Nat.le_of_ble_eq_true rfl) dL_law_1024 1027 rfl ?_
        refine v_aload_n hX dL_law_1027 rfl 2 rfl 1028 rfl ?_
        refine v_aload_n hX dL_law_1028 rfl 0 rfl 1029 rfl ?_
        refine v_iload_n hX dL_law_1029 rfl 3 rfl 1030 rfl ?_
        refine v_iconst (v := (1 : Int32)) hX dL_law_1030 (by decide) 1031 rfl ?_
        refine v_iadd hX dL_law_1031 1032 rfl ?_
        refine v_sld hX hL (lw_i (k := 1) hL384 hle (by decide)) dL_law_1032 1033 rfl ?_
        refine cv_i hX (c9_rate r g u h _ hv2) wvX9_rate q_900 rc_52 (Nat.le_of_ble_eq_true rfl) (Nat.le_of_ble_eq_true rfl) (fun _ => rfl) [.int v] rfl (Nat.le_of_ble_eq_true rfl) dL_law_1033 1036 rfl ?_
        refine v_icmp_eq hX dL_law_1036 1522 rfl 1039 rfl (fun _ => ?_) (fun q => absurd rfl q)
        exact hnext _ _ _ _ hRl2
      by_cases h26 : sel = (26 : Int32)
      · refine v_tsIn hX dL_law_33 (26 : Int32) h26 (by decide) (by decide) (1008) (by decide +kernel) 1041 rfl ?_
        obtain ⟨v, a1, a2, a3, a4, b1, b2, hv1, hv2, hRl2⟩ := hop_right r g u h ((xs ((nI (6 * t)) + (1 : Int32)).toNatClampNeg)) hRl
        refine v_aload_n hX dL_law_1041 rfl 1 rfl 1042 rfl ?_
        refine v_aload_n hX dL_law_1042 rfl 0 rfl 1043 rfl ?_
        refine v_iload_n hX dL_law_1043 rfl 3 rfl 1044 rfl ?_
        refine v_iconst (v := (1 : Int32)) hX dL_law_1044 (by decide) 1045 rfl ?_
        refine v_iadd hX dL_law_1045 1046 rfl ?_
        refine v_sld hX hL (lw_i (k := 1) hL384 hle (by decide)) dL_law_1046 1047 rfl ?_
        refine cv_i hX (c8_right r g u h _ hv1) wvX8_right q_904 rc_0 (Nat.le_of_ble_eq_true rfl) (Nat.le_of_ble_eq_true rfl) (fun _ => rfl) [] rfl (Nat.le_of_ble_eq_true rfl) dL_law_1047 1050 rfl ?_
        refine v_aload_n hX dL_law_1050 rfl 2 rfl 1051 rfl ?_
        refine v_aload_n hX dL_law_1051 rfl 0 rfl 1052 rfl ?_
        refine v_iload_n hX dL_law_1052 rfl 3 rfl 1053 rfl ?_
        refine v_iconst (v := (1 : Int32)) hX dL_law_1053 (by decide) 1054 rfl ?_
        refine v_iadd hX dL_law_1054 1055 rfl ?_
        refine v_sld hX hL (lw_i (k := 1) hL384 hle (by decide)) dL_law_1055 1056 rfl ?_
        refine cv_i hX (c9_right (lkp r [(5, a1), (4, a2)]) (lkp g [(13, a3), (51, a4)]) u h _ hv2) wvX9_right q_908 rc_52 (Nat.le_of_ble_eq_true rfl) (Nat.le_of_ble_eq_true rfl) (fun _ => rfl) [.int v] rfl (Nat.le_of_ble_eq_true rfl) dL_law_1056 1059 rfl ?_
        refine v_icmp_eq hX dL_law_1059 1522 rfl 1062 rfl (fun _ => ?_) (fun q => absurd rfl q)
        exact hnext _ _ _ _ hRl2
      by_cases h27 : sel = (27 : Int32)
      · refine v_tsIn hX dL_law_33 (27 : Int32) h27 (by decide) (by decide) (1031) (by decide +kernel) 1064 rfl ?_
        obtain ⟨v, a1, b1, hv1, hv2, hRl2⟩ := hop_seed r g u h ((xs ((nI (6 * t)) + (1 : Int32)).toNatClampNeg)) hRl
        refine v_aload_n hX dL_law_1064 rfl 1 rfl 1065 rfl ?_
        refine v_aload_n hX dL_law_1065 rfl 0 rfl 1066 rfl ?_
        refine v_iload_n hX dL_law_1066 rfl 3 rfl 1067 rfl ?_
        refine v_iconst (v := (1 : Int32)) hX dL_law_1067 (by decide) 1068 rfl ?_
        refine v_iadd hX dL_law_1068 1069 rfl ?_
        refine v_sld hX hL (lw_i (k := 1) hL384 hle (by decide)) dL_law_1069 1070 rfl ?_
        refine cv_i hX (c8_seed r g u h _ hv1) wvX8_seed q_912 rc_0 (Nat.le_of_ble_eq_true rfl) (Nat.le_of_ble_eq_true rfl) (fun _ => rfl) [] rfl (Nat.le_of_ble_eq_true rfl) dL_law_1070 1073 rfl ?_
        refine v_aload_n hX dL_law_1073 rfl 2 rfl 1074 rfl ?_
        refine v_aload_n hX dL_law_1074 rfl 0 rfl 1075 rfl ?_
        refine v_iload_n hX dL_law_1075 rfl 3 rfl 1076 rfl ?_
        refine v_iconst (v := (1 : Int32)) hX dL_law_1076 (by decide) 1077 rfl ?_
        refine v_iadd hX dL_law_1077 1078 rfl ?_
        refine v_sld hX hL (lw_i (k := 1) hL384 hle (by decide)) dL_law_1078 1079 rfl ?_
        refine cv_i hX (c9_seed (lkp r [(6, a1)]) g u h _ hv2) wvX9_seed q_917 rc_52 (Nat.le_of_ble_eq_true rfl) (Nat.le_of_ble_eq_true rfl) (fun _ => rfl) [.int v] rfl (Nat.le_of_ble_eq_true rfl) dL_law_1079 1082 rfl ?_
        refine v_icmp_eq hX dL_law_1082 1522 rfl 1085 rfl (fun _ => ?_) (fun q => absurd rfl q)
        exact hnext _ _ _ _ hRl2
      by_cases h28 : sel = (28 : Int32)
      · refine v_tsIn hX dL_law_33 (28 : Int32) h28 (by decide) (by decide) (1054) (by decide +kernel) 1087 rfl ?_
        obtain ⟨v, a1, b1, hv1, hv2, hRl2⟩ := hop_draw r g u h  hRl
        refine v_aload_n hX dL_law_1087 rfl 1 rfl 1088 rfl ?_
        refine cv_i hX (c8_draw r g u h hv1) wvX8_draw q_921 rc_0 (Nat.le_of_ble_eq_true rfl) (Nat.le_of_ble_eq_true rfl) (fun _ => rfl) [] rfl (Nat.le_of_ble_eq_true rfl) dL_law_1088 1091 rfl ?_
        refine v_aload_n hX dL_law_1091 rfl 2 rfl 1092 rfl ?_
        refine cv_i hX (c9_draw (lkp r [(6, a1)]) g u h hv2) wvX9_draw q_930 rc_52 (Nat.le_of_ble_eq_true rfl) (Nat.le_of_ble_eq_true rfl) (fun _ => rfl) [.int v] rfl (Nat.le_of_ble_eq_true rfl) dL_law_1092 1095 rfl ?_
        refine v_icmp_eq hX dL_law_1095 1522 rfl 1098 rfl (fun _ => ?_) (fun q => absurd rfl q)
        exact hnext _ _ _ _ hRl2
      by_cases h29 : sel = (29 : Int32)
      · refine v_tsIn hX dL_law_33 (29 : Int32) h29 (by decide) (by decide) (1067) (by decide +kernel) 1100 rfl ?_
        obtain ⟨v, a1, a2, a3, a4, b1, b2, b3, b4, b5, b6, hv1, hv2, hRl2⟩ := hop_prove r g u h  hRl
        refine v_aload_n hX dL_law_1100 rfl 1 rfl 1101 rfl ?_
        refine cv_i hX (c8_prove r g u h hv1) wvX8_prove q_939 rc_0 (Nat.le_of_ble_eq_true rfl) (Nat.le_of_ble_eq_true rfl) (fun _ => rfl) [] rfl (Nat.le_of_ble_eq_true rfl) dL_law_1101 1104 rfl ?_
        refine v_aload_n hX dL_law_1104 rfl 2 rfl 1105 rfl ?_
        refine cv_i hX (c9_prove (lkp r [(23, a1)]) (lkp g [(40, a2), (29, a3), (28, a4)]) u h hv2) wvX9_prove q_955 rc_52 (Nat.le_of_ble_eq_true rfl) (Nat.le_of_ble_eq_true rfl) (fun _ => rfl) [.int v] rfl (Nat.le_of_ble_eq_true rfl) dL_law_1105 1108 rfl ?_
        refine v_icmp_eq hX dL_law_1108 1522 rfl 1111 rfl (fun _ => ?_) (fun q => absurd rfl q)
        exact hnext _ _ _ _ hRl2
      by_cases h30 : sel = (30 : Int32)
      · refine v_tsIn hX dL_law_33 (30 : Int32) h30 (by decide) (by decide) (1080) (by decide +kernel) 1113 rfl ?_
        obtain ⟨v, hv1, hv2, hRl2⟩ := hop_row r g u h ((xs ((nI (6 * t)) + (1 : Int32)).toNatClampNeg)) ((xs ((nI (6 * t)) + (2 : Int32)).toNatClampNeg)) hRl
        refine v_aload_n hX dL_law_1113 rfl 1 rfl 1114 rfl ?_
        refine v_aload_n hX dL_law_1114 rfl 0 rfl 1115 rfl ?_
        refine v_iload_n hX dL_law_1115 rfl 3 rfl 1116 rfl ?_
        refine v_iconst (v := (1 : Int32)) hX dL_law_1116 (by decide) 1117 rfl ?_
        refine v_iadd hX dL_law_1117 1118 rfl ?_
        refine v_sld hX hL (lw_i (k := 1) hL384 hle (by decide)) dL_law_1118 1119 rfl ?_
        refine v_aload_n hX dL_law_1119 rfl 0 rfl 1120 rfl ?_
        refine v_iload_n hX dL_law_1120 rfl 3 rfl 1121 rfl ?_
        refine v_iconst (v := (2 : Int32)) hX dL_law_1121 (by decide) 1122 rfl ?_
        refine v_iadd hX dL_law_1122 1123 rfl ?_
        refine v_sld hX hL (lw_i (k := 2) hL384 hle (by decide)) dL_law_1123 1124 rfl ?_
        refine cv_i hX (c8_row r g u h _ _ hv1) wvX8_row q_965 rc_0 (Nat.le_of_ble_eq_true rfl) (Nat.le_of_ble_eq_true rfl) (fun _ => rfl) [] rfl (Nat.le_of_ble_eq_true rfl) dL_law_1124 1127 rfl ?_
        refine v_aload_n hX dL_law_1127 rfl 2 rfl 1128 rfl ?_
        refine v_aload_n hX dL_law_1128 rfl 0 rfl 1129 rfl ?_
        refine v_iload_n hX dL_law_1129 rfl 3 rfl 1130 rfl ?_
        refine v_iconst (v := (1 : Int32)) hX dL_law_1130 (by decide) 1131 rfl ?_
        refine v_iadd hX dL_law_1131 1132 rfl ?_
        refine v_sld hX hL (lw_i (k := 1) hL384 hle (by decide)) dL_law_1132 1133 rfl ?_
        refine v_aload_n hX dL_law_1133 rfl 0 rfl 1134 rfl ?_
        refine v_iload_n hX dL_law_1134 rfl 3 rfl 1135 rfl ?_
        refine v_iconst (v := (2 : Int32)) hX dL_law_1135 (by decide) 1136 rfl ?_
        refine v_iadd hX dL_law_1136 1137 rfl ?_
        refine v_sld hX hL (lw_i (k := 2) hL384 hle (by decide)) dL_law_1137 1138 rfl ?_
        refine cv_i hX (c9_row r g u h _ _ hv2) wvX9_row q_978 rc_52 (Nat.le_of_ble_eq_true rfl) (Nat.le_of_ble_eq_true rfl) (fun _ => rfl) [.int v] rfl (Nat.le_of_ble_eq_true rfl) dL_law_1138 1141 rfl ?_
        refine v_icmp_eq hX dL_law_1141 1522 rfl 1144 rfl (fun _ => ?_) (fun q => absurd rfl q)
        exact hnext _ _ _ _ hRl2
      by_cases h31 : sel = (31 : Int32)
      · refine v_tsIn hX dL_law_33 (31 : Int32) h31 (by decide) (by decide) (1113) (by decide +kernel) 1146 rfl ?_
        obtain ⟨v, a1, b1, hv1, hv2, hRl2⟩ := hop_alterRow r g u h ((xs ((nI (6 * t)) + (1 : Int32)).toNatClampNeg)) ((xs ((nI (6 * t)) + (2 : Int32)).toNatClampNeg)) ((xs ((nI (6 * t)) + (3 : Int32)).toNatClampNeg)) hRl
        refine v_aload_n hX dL_law_1146 rfl 1 rfl 1147 rfl ?_
        refine v_aload_n hX dL_law_1147 rfl 0 rfl 1148 rfl ?_
        refine v_iload_n hX dL_law_1148 rfl 3 rfl 1149 rfl ?_
        refine v_iconst (v := (1 : Int32)) hX dL_law_1149 (by decide) 1150 rfl ?_
        refine v_iadd hX dL_law_1150 1151 rfl ?_
        refine v_sld hX hL (lw_i (k := 1) hL384 hle (by decide)) dL_law_1151 1152 rfl ?_
        refine v_aload_n hX dL_law_1152 rfl 0 rfl 1153 rfl ?_
        refine v_iload_n hX dL_law_1153 rfl 3 rfl 1154 rfl ?_
        refine v_iconst (v := (2 : Int32)) hX dL_law_1154 (by decide) 1155 rfl ?_
        refine v_iadd hX dL_law_1155 1156 rfl ?_
        refine v_sld hX hL (lw_i (k := 2) hL384 hle (by decide)) dL_law_1156 1157 rfl ?_
        refine v_aload_n hX dL_law_1157 rfl 0 rfl 1158 rfl ?_
        refine v_iload_n hX dL_law_1158 rfl 3 rfl 1159 rfl ?_
        refine v_iconst (v := (3 : Int32)) hX dL_law_1159 (by decide) 1160 rfl ?_
        refine v_iadd hX dL_law_1160 1161 rfl ?_
        refine v_sld hX hL (lw_i (k := 3) hL384 hle (by decide)) dL_law_1161 1162 rfl ?_
        refine cv_i hX (c8_alterRow r g u h _ _ _ hv1) wvX8_alterRow q_986 rc_0 (Nat.le_of_ble_eq_true rfl) (Nat.le_of_ble_eq_true rfl) (fun _ => rfl) [] rfl (Nat.le_of_ble_eq_true rfl) dL_law_1162 1165 rfl ?_
        refine v_aload_n hX dL_law_1165 rfl 2 rfl 1166 rfl ?_
        refine v_aload_n hX dL_law_1166 rfl 0 rfl 1167 rfl ?_
        refine v_iload_n hX dL_law_1167 rfl 3 rfl 1168 rfl ?_
        refine v_iconst (v := (1 : Int32)) hX dL_law_1168 (by decide) 1169 rfl ?_
        refine v_iadd hX dL_law_1169 1170 rfl ?_
        refine v_sld hX hL (lw_i (k := 1) hL384 hle (by decide)) dL_law_1170 1171 rfl ?_
        refine v_aload_n hX dL_law_1171 rfl 0 rfl 1172 rfl ?_
        refine v_iload_n hX dL_law_1172 rfl 3 rfl 1173 rfl ?_
        refine v_iconst (v := (2 : Int32)) hX dL_law_1173 (by decide) 1174 rfl ?_
        refine v_iadd hX dL_law_1174 1175 rfl ?_
        refine v_sld hX hL (lw_i (k := 2) hL384 hle (by decide)) dL_law_1175 1176 rfl ?_
        refine v_aload_n hX dL_law_1176 rfl 0 rfl 1177 rfl ?_
        refine v_iload_n hX dL_law_1177 rfl 3 rfl 1178 rfl ?_
        refine v_iconst (v := (3 : Int32)) hX dL_law_1178 (by decide) 1179 rfl ?_
        refine v_iadd hX dL_law_1179 1180 rfl ?_
        refine v_sld hX hL (lw_i (k := 3) hL384 hle (by decide)) dL_law_1180 1181 rfl ?_
        refine cv_i hX (c9_alterRow r (lkp g [(40, a1)]) u h _ _ _ hv2) wvX9_alterRow q_991 rc_52 (Nat.le_of_ble_eq_true rfl) (Nat.le_of_ble_eq_true rfl) (fun _ => rfl) [.int v] rfl (Nat.le_of_ble_eq_true rfl) dL_law_1181 1184 rfl ?_
        refine v_icmp_eq hX dL_law_1184 1522 rfl 1187 rfl (fun _ => ?_) (fun q => absurd rfl q)
        exact hnext _ _ _ _ hRl2
      by_cases h32 : sel = (32 : Int32)
      · refine v_tsIn hX dL_law_33 (32 : Int32) h32 (by decide) (by decide) (1156) (by decide +kernel) 1189 rfl ?_
        obtain ⟨v, a1, a2, a3, a4, b1, b2, b3, b4, hv1, hv2, hRl2⟩ := hop_judge r g u h  hRl
        refine v_aload_n hX dL_law_1189 rfl 1 rfl 1190 rfl ?_
        refine cv_i hX (c8_judge r g u h hv1) wvX8_judge q_995 rc_0 (Nat.le_of_ble_eq_true rfl) (Nat.le_of_ble_eq_true rfl) (fun _ => rfl) [] rfl (Nat.le_of_ble_eq_true rfl) dL_law_1190 1193 rfl ?_
        refine v_aload_n hX dL_law_1193 rfl 2 rfl 1194 rfl ?_
        refine cv_i hX (c9_judge (lkp r [(24, a1)]) (lkp g [(42, a2), (29, a3), (28, a4)]) u h hv2) wvX9_judge q_1004 rc_52 (Nat.le_of_ble_eq_true rfl) (Nat.le_of_ble_eq_true rfl) (fun _ => rfl) [.int v] rfl (Nat.le_of_ble_eq_true rfl) dL_law_1194 1197 rfl ?_
        refine v_icmp_eq hX dL_law_1197 1522 rfl 1200 rfl (fun _ => ?_) (fun q => absurd rfl q)
        exact hnext _ _ _ _ hRl2
      by_cases h33 : sel = (33 : Int32)
      · refine v_tsIn hX dL_law_33 (33 : Int32) h33 (by decide) (by decide) (1169) (by decide +kernel) 1202 rfl ?_
        obtain ⟨v, a1, a2, a3, b1, b2, b3, hv1, hv2, hRl2⟩ := hop_sheet r g u h ((xs ((nI (6 * t)) + (1 : Int32)).toNatClampNeg)) ((xs ((nI (6 * t)) + (2 : Int32)).toNatClampNeg)) ((xs ((nI (6 * t)) + (3 : Int32)).toNatClampNeg)) hRl
        refine v_aload_n hX dL_law_1202 rfl 1 rfl 1203 rfl ?_
        refine v_aload_n hX dL_law_1203 rfl 0 rfl 1204 rfl ?_
        refine v_iload_n hX dL_law_1204 rfl 3 rfl 1205 rfl ?_
        refine v_iconst (v := (1 : Int32)) hX dL_law_1205 (by decide) 1206 rfl ?_
        refine v_iadd hX dL_law_1206 1207 rfl ?_
        refine v_sld hX hL (lw_i (k := 1) hL384 hle (by decide)) dL_law_1207 1208 rfl ?_
        refine v_aload_n hX dL_law_1208 rfl 0 rfl 1209 rfl ?_
        refine v_iload_n hX dL_law_1209 rfl 3 rfl 1210 rfl ?_
        refine v_iconst (v := (2 : Int32)) hX dL_law_1210 (by decide) 1211 rfl ?_
        refine v_iadd hX dL_law_1211 1212 rfl ?_
        refine v_sld hX hL (lw_i (k := 2) hL384 hle (by decide)) dL_law_1212 1213 rfl ?_
        refine v_aload_n hX dL_law_1213 rfl 0 rfl 1214 rfl ?_
        refine v_iload_n hX dL_law_1214 rfl 3 rfl 1215 rfl ?_
        refine v_iconst (v := (3 : Int32)) hX dL_law_1215 (by decide) 1216 rfl ?_
        refine v_iadd hX dL_law_1216 1217 rfl ?_
        refine v_sld hX hL (lw_i (k := 3) hL384 hle (by decide)) dL_law_1217 1218 rfl ?_
        refine cv_i hX (c8_sheet r g u h _ _ _ hv1) wvX8_sheet q_1008 rc_0 (Nat.le_of_ble_eq_true rfl) (Nat.le_of_ble_eq_true rfl) (fun _ => rfl) [] rfl (Nat.le_of_ble_eq_true rfl) dL_law_1218 1221 rfl ?_
        refine v_aload_n hX dL_law_1221 rfl 2 rfl 1222 rfl ?_
        refine v_aload_n hX dL_law_1222 rfl 0 rfl 1223 rfl ?_
        refine v_iload_n hX dL_law_1223 rfl 3 rfl 1224 rfl ?_
        refine v_iconst (v := (1 : Int32)) hX dL_law_1224 (by decide) 1225 rfl ?_
        refine v_iadd hX dL_law_1225 1226 rfl ?_
        refine v_sld hX hL (lw_i (k := 1) hL384 hle (by decide)) dL_law_1226 1227 rfl ?_
        refine v_aload_n hX dL_law_1227 rfl 0 rfl 1228 rfl ?_
        refine v_iload_n hX dL_law_1228 rfl 3 rfl 1229 rfl ?_
        refine v_iconst (v := (2 : Int32)) hX dL_law_1229 (by decide) 1230 rfl ?_
        refine v_iadd hX dL_law_1230 1231 rfl ?_
        refine v_sld hX hL (lw_i (k := 2) hL384 hle (by decide)) dL_law_1231 1232 rfl ?_
        refine v_aload_n hX dL_law_1232 rfl 0 rfl 1233 rfl ?_
        refine v_iload_n hX dL_law_1233 rfl 3 rfl 1234 rfl ?_
        refine v_iconst (v := (3 : Int32)) hX dL_law_1234 (by decide) 1235 rfl ?_
        refine v_iadd hX dL_law_1235 1236 rfl ?_
        refine v_sld hX hL (lw_i (k := 3) hL384 hle (by decide)) dL_law_1236 1237 rfl ?_
        refine cv_i hX (c9_sheet r (lkp g [(45, a1), (44, a2)]) u (lkp h [(46, a3)]) _ _ _ hv2) wvX9_sheet q_1024 rc_52 (Nat.le_of_ble_eq_true rfl) (Nat.le_of_ble_eq_true rfl) (fun _ => rfl) [.int v] rfl (Nat.le_of_ble_eq_true rfl) dL_law_1237 1240 rfl ?_
        refine v_icmp_eq hX dL_law_1240 1522 rfl 1243 rfl (fun _ => ?_) (fun q => absurd rfl q)
        exact hnext _ _ _ _ hRl2
      by_cases h34 : sel = (34 : Int32)
      · refine v_tsIn hX dL_law_33 (34 : Int32) h34 (by decide) (by decide) (1212) (by decide +kernel) 1245 rfl ?_
        obtain ⟨v, a1, b1, hv1, hv2, hRl2⟩ := hop_put r g u h ((xs ((nI (6 * t)) + (1 : Int32)).toNatClampNeg)) ((xs ((nI (6 * t)) + (2 : Int32)).toNatClampNeg)) ((xs ((nI (6 * t)) + (3 : Int32)).toNatClampNeg)) hRl
        refine v_aload_n hX dL_law_1245 rfl 1 rfl 1246 rfl ?_
        refine v_aload_n hX dL_law_1246 rfl 0 rfl 1247 rfl ?_
        refine v_iload_n hX dL_law_1247 rfl 3 rfl 1248 rfl ?_
        refine v_iconst (v := (1 : Int32)) hX dL_law_1248 (by decide) 1249 rfl ?_
        refine v_iadd hX dL_law_1249 1250 rfl ?_
        refine v_sld hX hL (lw_i (k := 1) hL384 hle (by decide)) dL_law_1250 1251 rfl ?_
        refine v_aload_n hX dL_law_1251 rfl 0 rfl 1252 rfl ?_
        refine v_iload_n hX dL_law_1252 rfl 3 rfl 1253 rfl ?_
        refine v_iconst (v := (2 : Int32)) hX dL_law_1253 (by decide) 1254 rfl ?_
        refine v_iadd hX dL_law_1254 1255 rfl ?_
        refine v_sld hX hL (lw_i (k := 2) hL384 hle (by decide)) dL_law_1255 1256 rfl ?_
        refine v_aload_n hX dL_law_1256 rfl 0 rfl 1257 rfl ?_
        refine v_iload_n hX dL_law_1257 rfl 3 rfl 1258 rfl ?_
        refine v_iconst (v := (3 : Int32)) hX dL_law_1258 (by decide) 1259 rfl ?_
        refine v_iadd hX dL_law_1259 1260 rfl ?_
        refine v_sld hX hL (lw_i (k := 3) hL384 hle (by decide)) dL_law_1260 1261 rfl ?_
        refine cv_i hX (c8_put r g u h _ _ _ hv1) wvX8_put q_1031 rc_0 (Nat.le_of_ble_eq_true rfl) (Nat.le_of_ble_eq_true rfl) (fun _ => rfl) [] rfl (Nat.le_of_ble_eq_true rfl) dL_law_1261 1264 rfl ?_
        refine v_aload_n hX dL_law_1264 rfl 2 rfl 1265 rfl ?_
        refine v_aload_n hX dL_law_1265 rfl 0 rfl 1266 rfl ?_
        refine v_iload_n hX dL_law_1266 rfl 3 rfl 1267 rfl ?_
        refine v_iconst (v := (1 : Int32)) hX dL_law_1267 (by decide) 1268 rfl ?_
        refine v_iadd hX dL_law_1268 1269 rfl ?_
        refine v_sld hX hL (lw_i (k := 1) hL384 hle (by decide)) dL_law_1269 1270 rfl ?_
        refine v_aload_n hX dL_law_1270 rfl 0 rfl 1271 rfl ?_
        refine v_iload_n hX dL_law_1271 rfl 3 rfl 1272 rfl ?_
        refine v_iconst (v := (2 : Int32)) hX dL_law_1272 (by decide) 1273 rfl ?_
        refine v_iadd hX dL_law_1273 1274 rfl ?_
        refine v_sld hX hL (lw_i (k := 2) hL384 hle (by decide)) dL_law_1274 1275 rfl ?_
        refine v_aload_n hX dL_law_1275 rfl 0 rfl 1276 rfl ?_
        refine v_iload_n hX dL_law_1276 rfl 3 rfl 1277 rfl ?_
        refine v_iconst (v := (3 : Int32)) hX dL_law_1277 (by decide) 1278 rfl ?_
        refine v_iadd hX dL_law_1278 1279 rfl ?_
        refine v_sld hX hL (lw_i (k := 3) hL384 hle (by decide)) dL_law_1279 1280 rfl ?_
        refine cv_i hX (c9_put r g u (lkp h [(46, a1)]) _ _ _ hv2) wvX9_put q_1049 rc_52 (Nat.le_of_ble_eq_true rfl) (Nat.le_of_ble_eq_true rfl) (fun _ => rfl) [.int v] rfl (Nat.le_of_ble_eq_true rfl) dL_law_1280 1283 rfl ?_
        refine v_icmp_eq hX dL_law_1283 1522 rfl 1286 rfl (fun _ => ?_) (fun q => absurd rfl q)
        exact hnext _ _ _ _ hRl2
      by_cases h35 : sel = (35 : Int32)
      · refine v_tsIn hX dL_law_33 (35 : Int32) h35 (by decide) (by decide) (1255) (by decide +kernel) 1288 rfl ?_
        obtain ⟨v, hv1, hv2, hRl2⟩ := hop_item r g u h ((xs ((nI (6 * t)) + (1 : Int32)).toNatClampNeg)) ((xs ((nI (6 * t)) + (2 : Int32)).toNatClampNeg)) ((xs ((nI (6 * t)) + (3 : Int32)).toNatClampNeg)) hRl
        refine v_aload_n hX dL_law_1288 rfl 1 rfl 1289 rfl ?_
        refine v_aload_n hX dL_law_1289 rfl 0 rfl 1290 rfl ?_
        refine v_iload_n hX dL_law_1290 rfl 3 rfl 1291 rfl ?_
        refine v_iconst (v := (1 : Int32)) hX dL_law_1291 (by decide) 1292 rfl ?_
        refine v_iadd hX dL_law_1292 1293 rfl ?_
        refine v_sld hX hL (lw_i (k := 1) hL384 hle (by decide)) dL_law_1293 1294 rfl ?_
        refine v_aload_n hX dL_law_1294 rfl 0 rfl 1295 rfl ?_
        refine v_iload_n hX dL_law_1295 rfl 3 rfl 1296 rfl ?_
        refine v_iconst (v := (2 : Int32)) hX dL_law_1296 (by decide) 1297 rfl ?_
        refine v_iadd hX dL_law_1297 1298 rfl ?_
        refine v_sld hX hL (lw_i (k := 2) hL384 hle (by decide)) dL_law_1298 1299 rfl ?_
        refine v_aload_n hX dL_law_1299 rfl 0 rfl 1300 rfl ?_
        refine v_iload_n hX dL_law_1300 rfl 3 rfl 1301 rfl ?_
        refine v_iconst (v := (3 : Int32)) hX dL_law_1301 (by decide) 1302 rfl ?_
        refine v_iadd hX dL_law_1302 1303 rfl ?_
        refine v_sld hX hL (lw_i (k := 3) hL384 hle (by decide)) dL_law_1303 1304 rfl ?_
        refine cv_i hX (c8_item r g u h _ _ _ hv1) wvX8_item q_1053 rc_0 (Nat.le_of_ble_eq_true rfl) (Nat.le_of_ble_eq_true rfl) (fun _ => rfl) [] rfl (Nat.le_of_ble_eq_true rfl) dL_law_1304 1307 rfl ?_
        refine v_aload_n hX dL_law_1307 rfl 2 rfl 1308 rfl ?_
        refine v_aload_n hX dL_law_1308 rfl 0 rfl 1309 rfl ?_
        refine v_iload_n hX dL_law_1309 rfl 3 rfl 1310 rfl ?_
        refine v_iconst (v := (1 : Int32)) hX dL_law_1310 (by decide) 1311 rfl ?_
        refine v_iadd hX dL_law_1311 1312 rfl ?_
        refine v_sld hX hL (lw_i (k := 1) hL384 hle (by decide)) dL_law_1312 1313 rfl ?_
        refine v_aload_n hX dL_law_1313 rfl 0 rfl 1314 rfl ?_
        refine v_iload_n hX dL_law_1314 rfl 3 rfl 1315 rfl ?_
        refine v_iconst (v := (2 : Int32)) hX dL_law_1315 (by decide) 1316 rfl ?_
        refine v_iadd hX dL_law_1316 1317 rfl ?_
        refine v_sld hX hL (lw_i (k := 2) hL384 hle (by decide)) dL_law_1317 1318 rfl ?_
        refine v_aload_n hX dL_law_1318 rfl 0 rfl 1319 rfl ?_
        refine v_iload_n hX dL_law_1319 rfl 3 rfl 1320 rfl ?_
        refine v_iconst (v := (3 : Int32)) hX dL_law_1320 (by decide) 1321 rfl ?_
        refine v_iadd hX dL_law_1321 1322 rfl ?_
        refine v_sld hX hL (lw_i (k := 3) hL384 hle (by decide)) dL_law_1322 1323 rfl ?_
        refine cv_i hX (c9_item r g u h _ _ _ hv2) wvX9_item q_1062 rc_52 (Nat.le_of_ble_eq_true rfl) (Nat.le_of_ble_eq_true rfl) (fun _ => rfl) [.int v] rfl (Nat.le_of_ble_eq_true rfl) dL_law_1323 1326 rfl ?_
        refine v_icmp_eq hX dL_law_1326 1522 rfl 1329 rfl (fun _ => ?_) (fun q => absurd rfl q)
        exact hnext _ _ _ _ hRl2
      by_cases h36 : sel = (36 : Int32)
      · refine v_tsIn hX dL_law_33 (36 : Int32) h36 (by decide) (by decide) (1298) (by decide +kernel) 1331 rfl ?_
        obtain ⟨v, a1, a2, b1, b2, b3, hv1, hv2, hRl2⟩ := hop_shelf r g u h ((xs ((nI (6 * t)) + (1 : Int32)).toNatClampNeg)) ((xs ((nI (6 * t)) + (2 : Int32)).toNatClampNeg)) ((xs ((nI (6 * t)) + (3 : Int32)).toNatClampNeg)) hRl
        refine v_aload_n hX dL_law_1331 rfl 1 rfl 1332 rfl ?_
        refine v_aload_n hX dL_law_1332 rfl 0 rfl 1333 rfl ?_
        refine v_iload_n hX dL_law_1333 rfl 3 rfl 1334 rfl ?_
        refine v_iconst (v := (1 : Int32)) hX dL_law_1334 (by decide) 1335 rfl ?_
        refine v_iadd hX dL_law_1335 1336 rfl ?_
        refine v_sld hX hL (lw_i (k := 1) hL384 hle (by decide)) dL_law_1336 1337 rfl ?_
        refine v_aload_n hX dL_law_1337 rfl 0 rfl 1338 rfl ?_
        refine v_iload_n hX dL_law_1338 rfl 3 rfl 1339 rfl ?_
        refine v_iconst (v := (2 : Int32)) hX dL_law_1339 (by decide) 1340 rfl ?_
        refine v_iadd hX dL_law_1340 1341 rfl ?_
        refine v_sld hX hL (lw_i (k := 2) hL384 hle (by decide)) dL_law_1341 1342 rfl ?_
        refine v_aload_n hX dL_law_1342 rfl 0 rfl 1343 rfl ?_
        refine v_iload_n hX dL_law_1343 rfl 3 rfl 1344 rfl ?_
        refine v_iconst (v := (3 : Int32)) hX dL_law_1344 (by decide) 1345 rfl ?_
        refine v_iadd hX dL_law_1345 1346 rfl ?_
        refine v_sld hX hL (lw_i (k := 3) hL384 hle (by decide)) dL_law_1346 1347 rfl ?_
        refine cv_i hX (c8_shelf r g u h _ _ _ hv1) wvX8_shelf q_1070 rc_0 (Nat.le_of_ble_eq_true rfl) (Nat.le_of_ble_eq_true rfl) (fun _ => rfl) [] rfl (Nat.le_of_ble_eq_true rfl) dL_law_1347 1350 rfl ?_
        refine v_aload_n hX dL_law_1350 rfl 2 rfl 1351 rfl ?_
        refine v_aload_n hX dL_law_1351 rfl 0 rfl 1352 rfl ?_
        refine v_iload_n hX dL_law_1352 rfl 3 rfl 1353 rfl ?_
        refine v_iconst (v := (1 : Int32)) hX dL_law_1353 (by decide) 1354 rfl ?_
        refine v_iadd hX dL_law_1354 1355 rfl ?_
        refine v_sld hX hL (lw_i (k := 1) hL384 hle (by decide)) dL_law_1355 1356 rfl ?_
        refine v_aload_n hX dL_law_1356 rfl 0 rfl 1357 rfl ?_
        refine v_iload_n hX dL_law_1357 rfl 3 rfl 1358 rfl ?_
        refine v_iconst (v := (2 : Int32)) hX dL_law_1358 (by decide) 1359 rfl ?_
        refine v_iadd hX dL_law_1359 1360 rfl ?_
        refine v_sld hX hL (lw_i (k := 2) hL384 hle (by decide)) dL_law_1360 1361 rfl ?_
        refine v_aload_n hX dL_law_1361 rfl 0 rfl 1362 rfl ?_
        refine v_iload_n hX dL_law_1362 rfl 3 rfl 1363 rfl ?_
        refine v_iconst (v := (3 : Int32)) hX dL_law_1363 (by decide) 1364 rfl ?_
        refine v_iadd hX dL_law_1364 1365 rfl ?_
        refine v_sld hX hL (lw_i (k := 3) hL384 hle (by decide)) dL_law_1365 1366 rfl ?_
        refine cv_i hX (c9_shelf r (lkp g [(47, a1), (48, a2)]) u h _ _ _ hv2) wvX9_shelf q_1090 rc_52 (Nat.le_of_ble_eq_true rfl) (Nat.le_of_ble_eq_true rfl) (fun _ => rfl) [.int v] rfl (Nat.le_of_ble_eq_true rfl) dL_law_1366 1369 rfl ?_
        refine v_icmp_eq hX dL_law_1369 1522 rfl 1372 rfl (fun _ => ?_) (fun q => absurd rfl q)
        exact hnext _ _ _ _ hRl2
      by_cases h37 : sel = (37 : Int32)
      · refine v_tsIn hX dL_law_33 (37 : Int32) h37 (by decide) (by decide) (1341) (by decide +kernel) 1374 rfl ?_
        obtain ⟨v, hv1, hv2, hRl2⟩ := hop_taken r g u h ((xs ((nI (6 * t)) + (1 : Int32)).toNatClampNeg)) ((xs ((nI (6 * t)) + (2 : Int32)).toNatClampNeg)) hRl
        refine v_aload_n hX dL_law_1374 rfl 1 rfl 1375 rfl ?_
        refine v_aload_n hX dL_law_1375 rfl 0 rfl 1376 rfl ?_
        refine v_iload_n hX dL_law_1376 rfl 3 rfl 1377 rfl ?_
        refine v_iconst (v := (1 : Int32)) hX dL_law_1377 (by decide) 1378 rfl ?_
        refine v_iadd hX dL_law_1378 1379 rfl ?_
        refine v_sld hX hL (lw_i (k := 1) hL384 hle (by decide)) dL_law_1379 1380 rfl ?_
        refine v_aload_n hX dL_law_1380 rfl 0 rfl 1381 rfl ?_
        refine v_iload_n hX dL_law_1381 rfl 3 rfl 1382 rfl ?_
        refine v_iconst (v := (2 : Int32)) hX dL_law_1382 (by decide) 1383 rfl ?_
        refine v_iadd hX dL_law_1383 1384 rfl ?_
        refine v_sld hX hL (lw_i (k := 2) hL384 hle (by decide)) dL_law_1384 1385 rfl ?_
        refine cv_i hX (c8_taken r g u h _ _ hv1) wvX8_taken q_1098 rc_0 (Nat.le_of_ble_eq_true rfl) (Nat.le_of_ble_eq_true rfl) (fun _ => rfl) [] rfl (Nat.le_of_ble_eq_true rfl) dL_law_1385 1388 rfl ?_
        refine v_aload_n hX dL_law_1388 rfl 2 rfl 1389 rfl ?_
        refine v_aload_n hX dL_law_1389 rfl 0 rfl 1390 rfl ?_
        refine v_iload_n hX dL_law_1390 rfl 3 rfl 1391 rfl ?_
        refine v_iconst (v := (1 : Int32)) hX dL_law_1391 (by decide) 1392 rfl ?_
        refine v_iadd hX dL_law_1392 1393 rfl ?_
        refine v_sld hX hL (lw_i (k := 1) hL384 hle (by decide)) dL_law_1393 1394 rfl ?_
        refine v_aload_n hX dL_law_1394 rfl 0 rfl 1395 rfl ?_
        refine v_iload_n hX dL_law_1395 rfl 3 rfl 1396 rfl ?_
        refine v_iconst (v := (2 : Int32)) hX dL_law_1396 (by decide) 1397 rfl ?_
        refine v_iadd hX dL_law_1397 1398 rfl ?_
        refine v_sld hX hL (lw_i (k := 2) hL384 hle (by decide)) dL_law_1398 1399 rfl ?_
        refine cv_i hX (c9_taken r g u h _ _ hv2) wvX9_taken q_1111 rc_52 (Nat.le_of_ble_eq_true rfl) (Nat.le_of_ble_eq_true rfl) (fun _ => rfl) [.int v] rfl (Nat.le_of_ble_eq_true rfl) dL_law_1399 1402 rfl ?_
        refine v_icmp_eq hX dL_law_1402 1522 rfl 1405 rfl (fun _ => ?_) (fun q => absurd rfl q)
        exact hnext _ _ _ _ hRl2
      by_cases h38 : sel = (38 : Int32)
      · refine v_tsIn hX dL_law_33 (38 : Int32) h38 (by decide) (by decide) (1374) (by decide +kernel) 1407 rfl ?_
        obtain ⟨v, a1, a2, a3, a4, a5, a6, b1, b2, b3, b4, b5, b6, hv1, hv2, hRl2⟩ := hop_act r g u h ((xs ((nI (6 * t)) + (1 : Int32)).toNatClampNeg)) ((xs ((nI (6 * t)) + (2 : Int32)).toNatClampNeg)) ((xs ((nI (6 * t)) + (3 : Int32)).toNatClampNeg)) hRl
        refine v_aload_n hX dL_law_1407 rfl 1 rfl 1408 rfl ?_
        refine v_aload_n hX dL_law_1408 rfl 0 rfl 1409 rfl ?_
        refine v_iload_n hX dL_law_1409 rfl 3 rfl 1410 rfl ?_
        refine v_iconst (v := (1 : Int32)) hX dL_law_1410 (by decide) 1411 rfl ?_
        refine v_iadd hX dL_law_1411 1412 rfl ?_
        refine v_sld hX hL (lw_i (k := 1) hL384 hle (by decide)) dL_law_1412 1413 rfl ?_
        refine v_aload_n hX dL_law_1413 rfl 0 rfl 1414 rfl ?_
        refine v_iload_n hX dL_law_1414 rfl 3 rfl 1415 rfl ?_
        refine v_iconst (v := (2 : Int32)) hX dL_law_1415 (by decide) 1416 rfl ?_
        refine v_iadd hX dL_law_1416 1417 rfl ?_
        refine v_sld hX hL (lw_i (k := 2) hL384 hle (by decide)) dL_law_1417 1418 rfl ?_
        refine v_aload_n hX dL_law_1418 rfl 0 rfl 1419 rfl ?_
        refine v_iload_n hX dL_law_1419 rfl 3 rfl 1420 rfl ?_
        refine v_iconst (v := (3 : Int32)) hX dL_law_1420 (by decide) 1421 rfl ?_
        refine v_iadd hX dL_law_1421 1422 rfl ?_
        refine v_sld hX hL (lw_i (k := 3) hL384 hle (by decide)) dL_law_1422 1423 rfl ?_
        refine cv_i hX (c8_act r g u h _ _ _ hv1) wvX8_act q_1122 rc_0 (Nat.le_of_ble_eq_true rfl) (Nat.le_of_ble_eq_true rfl) (fun _ => rfl) [] rfl (Nat.le_of_ble_eq_true rfl) dL_law_1423 1426 rfl ?_
        refine v_aload_n hX dL_law_1426 rfl 2 rfl 1427 rfl ?_
        refine v_aload_n hX dL_law_1427 rfl 0 rfl 1428 rfl ?_
        refine v_iload_n hX dL_law_1428 rfl 3 rfl 1429 rfl ?_
        refine v_iconst (v := (1 : Int32)) hX dL_law_1429 (by decide) 1430 rfl ?_
        refine v_iadd hX dL_law_1430 1431 rfl ?_
        refine v_sld hX hL (lw_i (k := 1) hL384 hle (by decide)) dL_law_1431 1432 rfl ?_
        refine v_aload_n hX dL_law_1432 rfl 0 rfl 1433 rfl ?_
        refine v_iload_n hX dL_law_1433 rfl 3 rfl 1434 rfl ?_
        refine v_iconst (v := (2 : Int32)) hX dL_law_1434 (by decide) 1435 rfl ?_
        refine v_iadd hX dL_law_1435 1436 rfl ?_
        refine v_sld hX hL (lw_i (k := 2) hL384 hle (by decide)) dL_law_1436 1437 rfl ?_
        refine v_aload_n hX dL_law_1437 rfl 0 rfl 1438 rfl ?_
        refine v_iload_n hX dL_law_1438 rfl 3 rfl 1439 rfl ?_
        refine v_iconst (v := (3 : Int32)) hX dL_law_1439 (by decide) 1440 rfl ?_
        refine v_iadd hX dL_law_1440 1441 rfl ?_
        refine v_sld hX hL (lw_i (k := 3) hL384 hle (by decide)) dL_law_1441 1442 rfl ?_
        refine cv_i hX (c9_act (lkp r [(28, a1), (25, a2), (26, a3), (27, a4), (29, a5)]) (lkp g [(50, a6)]) u h _ _ _ hv2) wvX9_act q_1149 rc_52 (Nat.le_of_ble_eq_true rfl) (Nat.le_of_ble_eq_true rfl) (fun _ => rfl) [.int v] rfl (Nat.le_of_ble_eq_true rfl) dL_law_1442 1445 rfl ?_
        refine v_icmp_eq hX dL_law_1445 1522 rfl 1448 rfl (fun _ => ?_) (fun q => absurd rfl q)
        exact hnext _ _ _ _ hRl2
      by_cases h39 : sel = (39 : Int32)
      · refine v_tsIn hX dL_law_33 (39 : Int32) h39 (by decide) (by decide) (1417) (by decide +kernel) 1450 rfl ?_
        obtain ⟨v, hv1, hv2, hRl2⟩ := hop_trace r g u h ((xs ((nI (6 * t)) + (1 : Int32)).toNatClampNeg)) hRl
        refine v_aload_n hX dL_law_1450 rfl 1 rfl 1451 rfl ?_
        refine v_aload_n hX dL_law_1451 rfl 0 rfl 1452 rfl ?_
        refine v_iload_n hX dL_law_1452 rfl 3 rfl 1453 rfl ?_
        refine v_iconst (v := (1 : Int32)) hX dL_law_1453 (by decide) 1454 rfl ?_
        refine v_iadd hX dL_law_1454 1455 rfl ?_
        refine v_sld hX hL (lw_i (k := 1) hL384 hle (by decide)) dL_law_1455 1456 rfl ?_
        refine cv_i hX (c8_trace r g u h _ hv1) wvX8_trace q_1202 rc_0 (Nat.le_of_ble_eq_true rfl) (Nat.le_of_ble_eq_true rfl) (fun _ => rfl) [] rfl (Nat.le_of_ble_eq_true rfl) dL_law_1456 1459 rfl ?_
        refine v_aload_n hX dL_law_1459 rfl 2 rfl 1460 rfl ?_
        refine v_aload_n hX dL_law_1460 rfl 0 rfl 1461 rfl ?_
        refine v_iload_n hX dL_law_1461 rfl 3 rfl 1462 rfl ?_
        refine v_iconst (v := (1 : Int32)) hX dL_law_1462 (by decide) 1463 rfl ?_
        refine v_iadd hX dL_law_1463 1464 rfl ?_
        refine v_sld hX hL (lw_i (k := 1) hL384 hle (by decide)) dL_law_1464 1465 rfl ?_
        refine cv_i hX (c9_trace r g u h _ hv2) wvX9_trace q_1207 rc_52 (Nat.le_of_ble_eq_true rfl) (Nat.le_of_ble_eq_true rfl) (fun _ => rfl) [.int v] rfl (Nat.le_of_ble_eq_true rfl) dL_law_1465 1468 rfl ?_
        refine v_icmp_eq hX dL_law_1468 1522 rfl 1471 rfl (fun _ => ?_) (fun q => absurd rfl q)
        exact hnext _ _ _ _ hRl2
      by_cases h40 : sel = (40 : Int32)
      · refine v_tsIn hX dL_law_33 (40 : Int32) h40 (by decide) (by decide) (1440) (by decide +kernel) 1473 rfl ?_
        obtain ⟨v, hv1, hv2, hRl2⟩ := hop_many r g u h ((xs ((nI (6 * t)) + (1 : Int32)).toNatClampNeg)) hRl
        refine v_aload_n hX dL_law_1473 rfl 1 rfl 1474 rfl ?_
        refine v_aload_n hX dL_law_1474 rfl 0 rfl 1475 rfl ?_
        refine v_iload_n hX dL_law_1475 rfl 3 rfl 1476 rfl ?_
        refine v_iconst (v := (1 : Int32)) hX dL_law_1476 (by decide) 1477 rfl ?_
        refine v_iadd hX dL_law_1477 1478 rfl ?_
        refine v_sld hX hL (lw_i (k := 1) hL384 hle (by decide)) dL_law_1478 1479 rfl ?_
        refine cv_i hX (c8_many r g u h _ hv1) wvX8_many q_1211 rc_0 (Nat.le_of_ble_eq_true rfl) (Nat.le_of_ble_eq_true rfl) (fun _ => rfl) [] rfl (Nat.le_of_ble_eq_true rfl) dL_law_1479 1482 rfl ?_
        refine v_aload_n hX dL_law_1482 rfl 2 rfl 1483 rfl ?_
        refine v_aload_n hX dL_law_1483 rfl 0 rfl 1484 rfl ?_
        refine v_iload_n hX dL_law_1484 rfl 3 rfl 1485 rfl ?_
        refine v_iconst (v := (1 : Int32)) hX dL_law_1485 (by decide) 1486 rfl ?_
        refine v_iadd hX dL_law_1486 1487 rfl ?_
        refine v_sld hX hL (lw_i (k := 1) hL384 hle (by decide)) dL_law_1487 1488 rfl ?_
        refine cv_i hX (c9_many r g u h _ hv2) wvX9_many q_1219 rc_52 (Nat.le_of_ble_eq_true rfl) (Nat.le_of_ble_eq_true rfl) (fun _ => rfl) [.int v] rfl (Nat.le_of_ble_eq_true rfl) dL_law_1488 1491 rfl ?_
        refine v_icmp_eq hX dL_law_1491 1522 rfl 1494 rfl (fun _ => ?_) (fun q => absurd rfl q)
        exact hnext _ _ _ _ hRl2
      by_cases h41 : sel = (41 : Int32)
      · refine v_tsIn hX dL_law_33 (41 : Int32) h41 (by decide) (by decide) (1463) (by decide +kernel) 1496 rfl ?_
        obtain ⟨v, a1, a2, a3, a4, a5, a6, a7, a8, a9, a10, a11, a12, a13, a14, a15, a16, b1, b2, b3, b4, b5, b6, b7, b8, b9, b10, b11, b12, hv1, hv2, hRl2⟩ := hop_keep r g u h  hRl
        refine v_aload_n hX dL_law_1496 rfl 1 rfl 1497 rfl ?_
        refine cv_i hX (c8_keep r g u h hv1) wvX8_keep q_1223 rc_0 (Nat.le_of_ble_eq_true rfl) (Nat.le_of_ble_eq_true rfl) (fun _ => rfl) [] rfl (Nat.le_of_ble_eq_true rfl) dL_law_1497 1500 rfl ?_
        refine v_aload_n hX dL_law_1500 rfl 2 rfl 1501 rfl ?_
        refine cv_i hX (c9_keep (lkp r [(14, a1), (8, a2), (7, a3), (10, a4), (9, a5), (13, a6)]) (lkp g [(23, a7), (20, a8), (22, a9), (17, a10), (18, a11), (16, a12), (19, a13), (25, a14), (21, a15), (15, a16)]) u h hv2) wvX9_keep q_1236 rc_52 (Nat.le_of_ble_eq_true rfl) (Nat.le_of_ble_eq_true rfl) (fun _ => rfl) [.int v] rfl (Nat.le_of_ble_eq_true rfl) dL_law_1501 1504 rfl ?_
        refine v_icmp_eq hX dL_law_1504 1522 rfl 1507 rfl (fun _ => ?_) (fun q => absurd rfl q)
        exact hnext _ _ _ _ hRl2
      by_cases h42 : sel = (42 : Int32)
      · refine v_tsIn hX dL_law_33 (42 : Int32) h42 (by decide) (by decide) (1476) (by decide +kernel) 1509 rfl ?_
        obtain ⟨v, a1, a2, a3, a4, a5, a6, a7, a8, a9, a10, a11, a12, a13, a14, a15, b1, b2, b3, b4, b5, b6, b7, b8, b9, b10, b11, b12, b13, b14, b15, hv1, hv2, hRl2⟩ := hop_again r g u h  hRl
        refine v_aload_n hX dL_law_1509 rfl 1 rfl 1510 rfl ?_
        refine cv_i hX (c8_again r g u h hv1) wvX8_again q_1250 rc_0 (Nat.le_of_ble_eq_true rfl) (Nat.le_of_ble_eq_true rfl) (fun _ => rfl) [] rfl (Nat.le_of_ble_eq_true rfl) dL_law_1510 1513 rfl ?_
        refine v_aload_n hX dL_law_1513 rfl 2 rfl 1514 rfl ?_
        refine cv_i hX (c9_again (lkp r [(1, a1), (0, a2), (3, a3), (2, a4), (6, a5)]) (lkp g [(10, a6), (7, a7), (9, a8), (4, a9), (5, a10), (3, a11), (6, a12), (12, a13), (8, a14), (2, a15)]) u h hv2) wvX9_again q_1254 rc_52 (Nat.le_of_ble_eq_true rfl) (Nat.le_of_ble_eq_true rfl) (fun _ => rfl) [.int v] rfl (Nat.le_of_ble_eq_true rfl) dL_law_1514 1517 rfl ?_
        refine v_icmp_eq hX dL_law_1517 1522 rfl 1520 rfl (fun _ => ?_) (fun q => absurd rfl q)
        exact hnext _ _ _ _ hRl2
      refine v_tsD hX dL_law_33 [0, 1, 2, 3, 4, 5, 6, 7, 8, 9, 10, 11, 12, 13, 14, 15, 16, 17, 18, 19, 20, 21, 22, 23, 24, 25, 26, 27, 28, 29, 30, 31, 32, 33, 34, 35, 36, 37, 38, 39, 40, 41, 42] (sw_c h0 (by decide) (sw_c h1 (by decide) (sw_c h2 (by decide) (sw_c h3 (by decide) (sw_c h4 (by decide) (sw_c h5 (by decide) (sw_c h6 (by decide) (sw_c h7 (by decide) (sw_c h8 (by decide) (sw_c h9 (by decide) (sw_c h10 (by decide) (sw_c h11 (by decide) (sw_c h12 (by decide) (sw_c h13 (by decide) (sw_c h14 (by decide) (sw_c h15 (by decide) (sw_c h16 (by decide) (sw_c h17 (by decide) (sw_c h18 (by decide) (sw_c h19 (by decide) (sw_c h20 (by decide) (sw_c h21 (by decide) (sw_c h22 (by decide) (sw_c h23 (by decide) (sw_c h24 (by decide) (sw_c h25 (by decide) (sw_c h26 (by decide) (sw_c h27 (by decide) (sw_c h28 (by decide) (sw_c h29 (by decide) (sw_c h30 (by decide) (sw_c h31 (by decide) (sw_c h32 (by decide) (sw_c h33 (by decide) (sw_c h34 (by decide) (sw_c h35 (by decide) (sw_c h36 (by decide) (sw_c h37 (by decide) (sw_c h38 (by decide) (sw_c h39 (by decide) (sw_c h40 (by decide) (sw_c h41 (by decide) (sw_c h42 (by decide) sw_n))))))))))))))))))))))))))))))))))))))))))) (by decide) (by decide +kernel) 1522 rfl ?_
      exact hnext _ _ _ _ hRl
