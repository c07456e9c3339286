/-! THE LAW: its switch, its loop -/
section YS
variable {p : Program} {l : Launch} {e : Env} {s : State} {m : MethodId} {args : Array Value} {below : List Frame} {meth : Method} {c : Code} {cells slots : Nat} {Q : State → Prop}
variable {A : Nat → Prop} {ad : Nat → Nat → Nat} {ca : Nat → Nat → ClassId} {D : va_G}
theorem y_go {H : Heap} {locs : List Loc} {ls : Array Slot} {b L I : Nat} {xs : Nat → Int32} {σ : xM} {pc n kP kM xP xM' : Nat} (F : yFix p s m args c A ad D) (hX : va_X b L xs s s.heap) (hbl : b < s.heap.size) (hbA : ¬ A b) (hW : xWd D ad ca xcnt xrho σ A s H) (hS : va_S A s.heap H locs) (hl : lv_has ls 4 [(0, .ref b), (1, .ref (ad 4 0)), (2, .ref (ad 40 0)), (3, .int (nI I))]) (hI : I + 6 ≤ L) (hL : L ≤ 3072) (h1 : cells ≤ room_1.cells) (h2 : slots ≤ room_1.slots)
    (kk : ∀ σ' H1 locs1, Inv σ' → xWd D ad ca xcnt xrho σ' A s H1 → va_S A s.heap H1 locs1 → W p l e room_1 s m args below meth c H1 locs1 cells slots Q (F0 m 1297 ls [])) (hc : ycase pc n xP xM' = true) (hn : n ≤ 5) (yP : ymeth xP kP 4 n) (yM : ymeth xM' kM 40 n)
    (hE : Ev 91 kP 0 (xent kP (vR 4 0 :: yiv (yzs xs I n 1))) [] σ (fun r s => Ev 91 kM 0 (xent kM (vR 40 0 :: yiv (yzs xs I n 1))) [] s (fun r' s' => r = r' ∧ Inv s'))) :
    W p l e room_1 s m args below meth c H locs cells slots Q (F0 m pc ls []) :=
  y_case F hX hbl hbA hW hS hl hI hL hc hn yP yM (Nat.le_of_ble_eq_true rfl) (Nat.le_of_ble_eq_true rfl) h1 h2 hE kk
theorem y_switch {H : Heap} {locs : List Loc} {ls : Array Slot} {b L I : Nat} {xs : Nat → Int32} {σ : xM} {z : Int32} (F : yFix p s m args c A ad D) (hX : va_X b L xs s s.heap) (hbl : b < s.heap.size) (hbA : ¬ A b) (hW : xWd D ad ca xcnt xrho σ A s H) (hS : va_S A s.heap H locs) (hl : lv_has ls 4 [(0, .ref b), (1, .ref (ad 4 0)), (2, .ref (ad 40 0)), (3, .int (nI I))]) (hI : I + 6 ≤ L) (hL : L ≤ 3072) (h1 : cells ≤ room_1.cells) (h2 : slots ≤ room_1.slots) (hv : Inv σ)
    (kk : ∀ σ' H1 locs1, Inv σ' → xWd D ad ca xcnt xrho σ' A s H1 → va_S A s.heap H1 locs1 → W p l e room_1 s m args below meth c H1 locs1 cells slots Q (F0 m 1297 ls [])) :
    W p l e room_1 s m args below meth c H locs cells slots Q (F0 m 33 ls [.int z]) := by
  obtain ⟨hx, hb, -, -, -, -, -, -, -⟩ := id F
  by_cases h0 : z.toInt < 0 ∨ 36 < z.toInt
  · exact lv_tableOut (tgt := 1297) hx hb yd_33 h0 (by decide) (kk σ H locs hv hW hS)
  by_cases e1 : z.toInt = 0
  · exact lv_tableIn (off := 163) (tgt := 196) hx hb yd_33 (by omega) (by omega) (by rw [e1]; rfl) (by decide) (y_go F hX hbl hbA hW hS hl hI hL h1 h2 kk yc_part (by decide) ym_P_part ym_M_part (call_part (d := 82) hv (xs (I + 1)).toInt))
  by_cases e2 : z.toInt = 1
  · exact lv_tableIn (off := 186) (tgt := 219) hx hb yd_33 (by omega) (by omega) (by rw [e2]; rfl) (by decide) (y_go F hX hbl hbA hW hS hl hI hL h1 h2 kk yc_partIs (by decide) ym_P_partIs ym_M_partIs (call_partIs (d := 82) hv (xs (I + 1)).toInt (xs (I + 2)).toInt))
  by_cases e3 : z.toInt = 2
  · exact lv_tableIn (off := 219) (tgt := 252) hx hb yd_33 (by omega) (by omega) (by rw [e3]; rfl) (by decide) (y_go F hX hbl hbA hW hS hl hI hL h1 h2 kk yc_become (by decide) ym_P_become ym_M_become (call_become (d := 82) hv (xs (I + 1)).toInt (xs (I + 2)).toInt))
  by_cases e4 : z.toInt = 3
  · exact lv_tableIn (off := 252) (tgt := 285) hx hb yd_33 (by omega) (by omega) (by rw [e4]; rfl) (by decide) (y_go F hX hbl hbA hW hS hl hI hL h1 h2 kk yc_as (by decide) ym_P_as ym_M_as (call_as (d := 82) hv (xs (I + 1)).toInt (xs (I + 2)).toInt))
  by_cases e5 : z.toInt = 4
  · exact lv_tableIn (off := 285) (tgt := 318) hx hb yd_33 (by omega) (by omega) (by rw [e5]; rfl) (by decide) (y_go F hX hbl hbA hW hS hl hI hL h1 h2 kk yc_child (by decide) ym_P_child ym_M_child (call_child (d := 82) hv (xs (I + 1)).toInt (xs (I + 2)).toInt (xs (I + 3)).toInt))
  by_cases e6 : z.toInt = 5
  · exact lv_tableIn (off := 328) (tgt := 361) hx hb yd_33 (by omega) (by omega) (by rw [e6]; rfl) (by decide) (y_go F hX hbl hbA hW hS hl hI hL h1 h2 kk yc_childIs (by decide) ym_P_childIs ym_M_childIs (call_childIs (d := 82) hv (xs (I + 1)).toInt (xs (I + 2)).toInt))
  by_cases e7 : z.toInt = 6
  · exact lv_tableIn (off := 361) (tgt := 394) hx hb yd_33 (by omega) (by omega) (by rw [e7]; rfl) (by decide) (y_go F hX hbl hbA hW hS hl hI hL h1 h2 kk yc_wishes (by decide) ym_P_wishes ym_M_wishes (call_wishes (d := 82) hv (xs (I + 1)).toInt (xs (I + 2)).toInt (xs (I + 3)).toInt))
  by_cases e8 : z.toInt = 7
  · exact lv_tableIn (off := 404) (tgt := 437) hx hb yd_33 (by omega) (by omega) (by rw [e8]; rfl) (by decide) (y_go F hX hbl hbA hW hS hl hI hL h1 h2 kk yc_falls (by decide) ym_P_falls ym_M_falls (call_falls (d := 82) hv (xs (I + 1)).toInt (xs (I + 2)).toInt))
  by_cases e9 : z.toInt = 8
  · exact lv_tableIn (off := 437) (tgt := 470) hx hb yd_33 (by omega) (by omega) (by rw [e9]; rfl) (by decide) (y_go F hX hbl hbA hW hS hl hI hL h1 h2 kk yc_worth (by decide) ym_P_worth ym_M_worth (call_worth (d := 82) hv (xs (I + 1)).toInt (xs (I + 2)).toInt))
  by_cases e10 : z.toInt = 9
  · exact lv_tableIn (off := 470) (tgt := 503) hx hb yd_33 (by omega) (by omega) (by rw [e10]; rfl) (by decide) (y_go F hX hbl hbA hW hS hl hI hL h1 h2 kk yc_cast (by decide) ym_P_cast ym_M_cast (call_cast (d := 82) hv (xs (I + 1)).toInt (xs (I + 2)).toInt))
  by_cases e11 : z.toInt = 10
  · exact lv_tableIn (off := 503) (tgt := 536) hx hb yd_33 (by omega) (by omega) (by rw [e11]; rfl) (by decide) (y_feed F hX hbl hbA hW hS hl hI hL h1 h2 hv kk)
  by_cases e12 : z.toInt = 11
  · exact lv_tableIn (off := 566) (tgt := 599) hx hb yd_33 (by omega) (by omega) (by rw [e12]; rfl) (by decide) (y_go F hX hbl hbA hW hS hl hI hL h1 h2 kk yc_text (by decide) ym_P_text ym_M_text (call_text (d := 41) hv (xs (I + 1)).toInt))
  by_cases e13 : z.toInt = 12
  · exact lv_tableIn (off := 589) (tgt := 622) hx hb yd_33 (by omega) (by omega) (by rw [e13]; rfl) (by decide) (y_go F hX hbl hbA hW hS hl hI hL h1 h2 kk yc_untell (by decide) ym_P_untell ym_M_untell (call_untell (d := 82) hv (xs (I + 1)).toInt))
  by_cases e14 : z.toInt = 13
  · exact lv_tableIn (off := 612) (tgt := 645) hx hb yd_33 (by omega) (by omega) (by rw [e14]; rfl) (by decide) (y_go F hX hbl hbA hW hS hl hI hL h1 h2 kk yc_law (by decide) ym_P_law ym_M_law (call_law (d := 82) hv (xs (I + 1)).toInt (xs (I + 2)).toInt (xs (I + 3)).toInt (xs (I + 4)).toInt))
  by_cases e15 : z.toInt = 14
  · exact lv_tableIn (off := 665) (tgt := 698) hx hb yd_33 (by omega) (by omega) (by rw [e15]; rfl) (by decide) (y_go F hX hbl hbA hW hS hl hI hL h1 h2 kk yc_play (by decide) ym_P_play ym_M_play (call_play (d := 82) hv))
  by_cases e16 : z.toInt = 15
  · exact lv_tableIn (off := 678) (tgt := 711) hx hb yd_33 (by omega) (by omega) (by rw [e16]; rfl) (by decide) (y_go F hX hbl hbA hW hS hl hI hL h1 h2 kk yc_lots (by decide) ym_P_lots ym_M_lots (call_lots (d := 82) hv))
  by_cases e17 : z.toInt = 16
  · exact lv_tableIn (off := 691) (tgt := 724) hx hb yd_33 (by omega) (by omega) (by rw [e17]; rfl) (by decide) (y_go F hX hbl hbA hW hS hl hI hL h1 h2 kk yc_loose (by decide) ym_P_loose ym_M_loose (call_loose (d := 82) hv (xs (I + 1)).toInt))
  by_cases e18 : z.toInt = 17
  · exact lv_tableIn (off := 714) (tgt := 747) hx hb yd_33 (by omega) (by omega) (by rw [e18]; rfl) (by decide) (y_go F hX hbl hbA hW hS hl hI hL h1 h2 kk yc_seed (by decide) ym_P_seed ym_M_seed (call_seed (d := 82) hv (xs (I + 1)).toInt))
  by_cases e19 : z.toInt = 18
  · exact lv_tableIn (off := 737) (tgt := 770) hx hb yd_33 (by omega) (by omega) (by rw [e19]; rfl) (by decide) (y_go F hX hbl hbA hW hS hl hI hL h1 h2 kk yc_best (by decide) ym_P_best ym_M_best (call_best (d := 82) hv (xs (I + 1)).toInt))
  by_cases e20 : z.toInt = 19
  · exact lv_tableIn (off := 760) (tgt := 793) hx hb yd_33 (by omega) (by omega) (by rw [e20]; rfl) (by decide) (y_go F hX hbl hbA hW hS hl hI hL h1 h2 kk yc_wished (by decide) ym_P_wished ym_M_wished (call_wished (d := 82) hv))
  by_cases e21 : z.toInt = 20
  · exact lv_tableIn (off := 773) (tgt := 806) hx hb yd_33 (by omega) (by omega) (by rw [e21]; rfl) (by decide) (y_go F hX hbl hbA hW hS hl hI hL h1 h2 kk yc_without (by decide) ym_P_without ym_M_without (call_without (d := 82) hv (xs (I + 1)).toInt))
  by_cases e22 : z.toInt = 21
  · exact lv_tableIn (off := 796) (tgt := 829) hx hb yd_33 (by omega) (by omega) (by rw [e22]; rfl) (by decide) (y_go F hX hbl hbA hW hS hl hI hL h1 h2 kk yc_lies (by decide) ym_P_lies ym_M_lies (call_lies (d := 82) hv (xs (I + 1)).toInt (xs (I + 2)).toInt))
  by_cases e23 : z.toInt = 22
  · exact lv_tableIn (off := 829) (tgt := 862) hx hb yd_33 (by omega) (by omega) (by rw [e23]; rfl) (by decide) (y_go F hX hbl hbA hW hS hl hI hL h1 h2 kk yc_odds (by decide) ym_P_odds ym_M_odds (call_odds (d := 82) hv (xs (I + 1)).toInt (xs (I + 2)).toInt))
  by_cases e24 : z.toInt = 23
  · exact lv_tableIn (off := 862) (tgt := 895) hx hb yd_33 (by omega) (by omega) (by rw [e24]; rfl) (by decide) (y_go F hX hbl hbA hW hS hl hI hL h1 h2 kk yc_fits (by decide) ym_P_fits ym_M_fits (call_fits (d := 82) hv (xs (I + 1)).toInt (xs (I + 2)).toInt))
  by_cases e25 : z.toInt = 24
  · exact lv_tableIn (off := 895) (tgt := 928) hx hb yd_33 (by omega) (by omega) (by rw [e25]; rfl) (by decide) (y_go F hX hbl hbA hW hS hl hI hL h1 h2 kk yc_voice (by decide) ym_P_voice ym_M_voice (call_voice (d := 72) hv (xs (I + 1)).toInt (xs (I + 2)).toInt (xs (I + 3)).toInt))
  by_cases e26 : z.toInt = 25
  · exact lv_tableIn (off := 938) (tgt := 971) hx hb yd_33 (by omega) (by omega) (by rw [e26]; rfl) (by decide) (y_go F hX hbl hbA hW hS hl hI hL h1 h2 kk yc_body (by decide) ym_P_body ym_M_body (call_body (d := 82) hv (xs (I + 1)).toInt))
  by_cases e27 : z.toInt = 26
  · exact lv_tableIn (off := 961) (tgt := 994) hx hb yd_33 (by omega) (by omega) (by rw [e27]; rfl) (by decide) (y_go F hX hbl hbA hW hS hl hI hL h1 h2 kk yc_sheet (by decide) ym_P_sheet ym_M_sheet (call_sheet (d := 82) hv (xs (I + 1)).toInt (xs (I + 2)).toInt (xs (I + 3)).toInt))
  by_cases e28 : z.toInt = 27
  · exact lv_tableIn (off := 1004) (tgt := 1037) hx hb yd_33 (by omega) (by omega) (by rw [e28]; rfl) (by decide) (y_go F hX hbl hbA hW hS hl hI hL h1 h2 kk yc_put (by decide) ym_P_put ym_M_put (call_put (d := 82) hv (xs (I + 1)).toInt (xs (I + 2)).toInt (xs (I + 3)).toInt))
  by_cases e29 : z.toInt = 28
  · exact lv_tableIn (off := 1047) (tgt := 1080) hx hb yd_33 (by omega) (by omega) (by rw [e29]; rfl) (by decide) (y_go F hX hbl hbA hW hS hl hI hL h1 h2 kk yc_move (by decide) ym_P_move ym_M_move (call_move (d := 82) hv (xs (I + 1)).toInt (xs (I + 2)).toInt (xs (I + 3)).toInt (xs (I + 4)).toInt (xs (I + 5)).toInt (yi_rg _).2 (yi_rg _).2))
  by_cases e30 : z.toInt = 29
  · exact lv_tableIn (off := 1110) (tgt := 1143) hx hb yd_33 (by omega) (by omega) (by rw [e30]; rfl) (by decide) (y_go F hX hbl hbA hW hS hl hI hL h1 h2 kk yc_casts (by decide) ym_P_casts ym_M_casts (call_casts (d := 82) hv (xs (I + 1)).toInt))
  by_cases e31 : z.toInt = 30
  · exact lv_tableIn (off := 1133) (tgt := 1166) hx hb yd_33 (by omega) (by omega) (by rw [e31]; rfl) (by decide) (y_go F hX hbl hbA hW hS hl hI hL h1 h2 kk yc_judge (by decide) ym_P_judge ym_M_judge (call_judge (d := 82) hv (xs (I + 1)).toInt))
  by_cases e32 : z.toInt = 31
  · exact lv_tableIn (off := 1156) (tgt := 1189) hx hb yd_33 (by omega) (by omega) (by rw [e32]; rfl) (by decide) (y_go F hX hbl hbA hW hS hl hI hL h1 h2 kk yc_image (by decide) ym_P_image ym_M_image (call_image (d := 82) hv))
  by_cases e33 : z.toInt = 32
  · exact lv_tableIn (off := 1169) (tgt := 1202) hx hb yd_33 (by omega) (by omega) (by rw [e33]; rfl) (by decide) (y_go F hX hbl hbA hW hS hl hI hL h1 h2 kk yc_restore (by decide) ym_P_restore ym_M_restore (call_restore (d := 82) hv))
  by_cases e34 : z.toInt = 33
  · exact lv_tableIn (off := 1182) (tgt := 1215) hx hb yd_33 (by omega) (by omega) (by rw [e34]; rfl) (by decide) (y_go F hX hbl hbA hW hS hl hI hL h1 h2 kk yc_tell (by decide) ym_P_tell ym_M_tell (call_tell (d := 82) hv (xs (I + 1)).toInt))
  by_cases e35 : z.toInt = 34
  · exact lv_tableIn (off := 1205) (tgt := 1238) hx hb yd_33 (by omega) (by omega) (by rw [e35]; rfl) (by decide) (y_go F hX hbl hbA hW hS hl hI hL h1 h2 kk yc_check (by decide) ym_P_check ym_M_check (call_check (d := 82) hv))
  by_cases e36 : z.toInt = 35
  · exact lv_tableIn (off := 1218) (tgt := 1251) hx hb yd_33 (by omega) (by omega) (by rw [e36]; rfl) (by decide) (y_go F hX hbl hbA hW hS hl hI hL h1 h2 kk yc_count (by decide) ym_P_count ym_M_count (call_count (d := 82) hv (xs (I + 1)).toInt))
  by_cases e37 : z.toInt = 36
  · exact lv_tableIn (off := 1241) (tgt := 1274) hx hb yd_33 (by omega) (by omega) (by rw [e37]; rfl) (by decide) (y_go F hX hbl hbA hW hS hl hI hL h1 h2 kk yc_told (by decide) ym_P_told ym_M_told (call_told (d := 82) hv (xs (I + 1)).toInt))
  omega
theorem y_sub {L I : Nat} (hL : L ≤ 3072) (hI : I ≤ 4000) : nI L - 6 < nI I ↔ L < I + 6 := by
  have e : nI L - 6 = Int32.ofInt ((L : Int) - 6) := by
    rw [Int32.ofInt_sub]
    rfl
  have e2 : (Int32.ofInt ((L : Int) - 6)).toInt = (L : Int) - 6 := Int32.toInt_ofInt_of_le (by omega) (by omega)
  rw [Int32.lt_iff_toInt_lt, e, e2, nI_toInt (by omega)]
  omega
theorem y_step {H : Heap} {locs : List Loc} {ls : Array Slot} {b L I : Nat} {xs : Nat → Int32} {σ : xM} (F : yFix p s m args c A ad D) (hX : va_X b L xs s s.heap) (hbl : b < s.heap.size) (hbA : ¬ A b) (hW : xWd D ad ca xcnt xrho σ A s H) (hS : va_S A s.heap H locs) (hl : lv_has ls 4 [(0, .ref b), (1, .ref (ad 4 0)), (2, .ref (ad 40 0)), (3, .int (nI I))]) (hI : I ≤ 4000) (hL : L ≤ 3072) (h1 : cells ≤ room_1.cells) (h2 : slots ≤ room_1.slots) (hv : Inv σ)
    (kE : W p l e room_1 s m args below meth c H locs cells slots Q (F0 m 1303 ls []))
    (kN : I + 6 ≤ L → ∀ σ' H1 locs1 ls', Inv σ' → xWd D ad ca xcnt xrho σ' A s H1 → va_S A s.heap H1 locs1 → lv_has ls' 4 [(0, .ref b), (1, .ref (ad 4 0)), (2, .ref (ad 40 0)), (3, .int (nI (I + 6)))] → W p l e room_1 s m args below meth c H1 locs1 cells slots Q (F0 m 18 ls' [])) :
    W p l e room_1 s m args below meth c H locs cells slots Q (F0 m 18 ls []) := by
  obtain ⟨hx, hb, -, -, -, -, -, -, -⟩ := id F
  refine lv_iload_n hx hb yd_18 rfl (lv_at hl 3 rfl) ?_
  refine lv_aload_n hx hb yd_19 rfl (lv_at hl 0 rfl) ?_
  refine va_slen hx hb hX hbl hbA hS yd_20 ?_
  refine lv_bipush (v := 6) hx hb yd_21 (by decide) ?_
  refine lv_isub hx hb yd_23 ?_
  refine lv_icmp_gt (tgt := 1303) hx hb yd_24 (by decide) (fun _ => kE) (fun hc => ?_)
  have hI6 : I + 6 ≤ L := by
    have := mt (y_sub hL hI).mpr hc
    omega
  refine lv_aload_n hx hb yd_27 rfl (lv_at hl 0 rfl) ?_
  refine lv_iload_n hx hb yd_28 rfl (lv_at hl 3 rfl) ?_
  refine va_sld hx hb hX hbl hbA hS (vp_in_nI (by omega) (by omega)) yd_29 ?_
  refine lv_bipush (v := 63) hx hb yd_30 (by decide) ?_
  refine lv_iand hx hb yd_32 ?_
  refine y_switch F hX hbl hbA hW hS hl hI6 hL h1 h2 hv (fun σ' H1 locs1 hv1 hW1 hS1 => ?_)
  refine lv_iinc (v := nI (I + 6)) (lv' := [(3, .int (nI (I + 6))), (0, .ref b), (1, .ref (ad 4 0)), (2, .ref (ad 40 0))]) hx hb yd_1297 hl (k := 3) rfl (nI_add I 6) (by decide) rfl (fun ls' hl' => ?_)
  refine lv_goto (tgt := 18) hx hb yd_1300 (by decide) ?_
  exact kN hI6 σ' H1 locs1 ls' hv1 hW1 hS1 (lv_sub hl' [1, 2, 3, 0] rfl)
theorem y_loop {b L : Nat} {xs : Nat → Int32} (F : yFix p s m args c A ad D) (hX : va_X b L xs s s.heap) (hbl : b < s.heap.size) (hbA : ¬ A b) (hL : L ≤ 3072) (h1 : cells ≤ room_1.cells) (h2 : slots ≤ room_1.slots)
    (kE : ∀ H locs ls, va_S A s.heap H locs → W p l e room_1 s m args below meth c H locs cells slots Q (F0 m 1303 ls [])) :
    ∀ (n I : Nat) (σ : xM) (H : Heap) (locs : List Loc) (ls : Array Slot), L ≤ I + n → I ≤ 3078 → Inv σ → xWd D ad ca xcnt xrho σ A s H → va_S A s.heap H locs → lv_has ls 4 [(0, .ref b), (1, .ref (ad 4 0)), (2, .ref (ad 40 0)), (3, .int (nI I))] → W p l e room_1 s m args below meth c H locs cells slots Q (F0 m 18 ls []) := by
  intro n
  induction n with
  | zero =>
    intro I σ H locs ls hn hI hv hW hS hl
    exact y_step F hX hbl hbA hW hS hl (by omega) hL h1 h2 hv (kE H locs ls hS) (fun h => absurd h (by omega))
  | succ n ih =>
    intro I σ H locs ls hn hI hv hW hS hl
    exact y_step F hX hbl hbA hW hS hl (by omega) hL h1 h2 hv (kE H locs ls hS) (fun h σ' H1 locs1 ls' hv1 hW1 hS1 hl1 => ih (I + 6) σ' H1 locs1 ls' (by omega) (by omega) hv1 hW1 hS1 hl1)
end YS
