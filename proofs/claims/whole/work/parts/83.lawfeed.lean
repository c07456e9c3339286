/-! THE LAW: what is fed; its loop -/
theorem yd_536 : decode code 536 = .ok (.aload_n 1, 1) := by decide +kernel
theorem yd_562 : decode code 562 = .ok (.invokevirtual 58, 3) := by decide +kernel
theorem yd_565 : decode code 565 = .ok (.aload_n 2, 1) := by decide +kernel
theorem yd_591 : decode code 591 = .ok (.invokevirtual 62, 3) := by decide +kernel
theorem yd_594 : decode code 594 = .ok (.if_icmp .eq 703, 3) := by decide +kernel
def yfargs (pc : Nat) : Bool := yargs pc 1 1 && decide (decode code (pc + 5) = .ok (.i2l, 1)) && decide (decode code (pc + 6) = .ok (.bipush 32, 2)) && decide (decode code (pc + 8) = .ok (.lshl, 1)) && yargs (pc + 9) 1 2 && decide (decode code (pc + 14) = .ok (.i2l, 1)) && decide (decode code (pc + 15) = .ok (.ldc2_w 56, 3)) && decide (decode code (pc + 18) = .ok (.land, 1)) && decide (decode code (pc + 19) = .ok (.lor, 1)) && yargs (pc + 20) 1 3
theorem yf_537 : yfargs 537 = true := by decide +kernel
theorem yf_566 : yfargs 566 = true := by decide +kernel
theorem yf_con : Cond.constantLong R_law 56 4294967295 ∈ xGT := xGT_in 1451 (by decide +kernel) rfl
def yfl (xs : Nat → Int32) (I : Nat) : Int64 := ((xs (I + 1)).toInt64 <<< ((32 : Int32).toInt64 &&& 63)) ||| ((xs (I + 2)).toInt64 &&& 4294967295)
theorem yf_met {l : Launch} {d k t : Nat} {x : Nat} {a : Int64} {z : Int32} {σ : xM} {Qk : Int → xM → Prop} (hm : ymeth x k (t + 1) 2) (hk : xlg k 1 = true) (h4 : 4 ≤ (xrec k).2.1) (h : Ev d k 0 (xent k [vR (t + 1) 0, vL a.toInt, vI z.toInt]) [] σ Qk) : xMet l d k [vR (t + 1) 0, vL a.toInt, vI z.toInt] σ Qk := by
  refine xmet hm.2.2.1 (fun j w hj => ?_) h4 h
  match j, hj with
  | 0, hj => exact absurd (Option.some.inj (show some (vR (t + 1) 0) = some (vL w) from hj)) (fun q => by cases q)
  | 1, _ => exact hk
  | 2, hj => exact absurd (Option.some.inj (show some (vR 0 0) = some (vL w) from hj)) (fun q => by cases q)
  | 3, hj => exact absurd (Option.some.inj (show some (vI z.toInt) = some (vL w) from hj)) (fun q => by cases q)
  | n + 4, hj => exact absurd (show none = some (vL w) from hj) (fun q => by cases q)
section YF
variable {p : Program} {l : Launch} {e : Env} {s : State} {m : MethodId} {args : Array Value} {below : List Frame} {meth : Method} {c : Code} {cells slots : Nat} {Q : State → Prop}
variable {A : Nat → Prop} {ad : Nat → Nat → Nat} {ca : Nat → Nat → ClassId} {D : va_G}
theorem y_farg {H : Heap} {locs : List Loc} {ls : Array Slot} {b L I : Nat} {xs : Nat → Int32} (hx : p.tables.exec = Jvm.exec) (hb : c.code = code) (hown : s.vm.findClass R_law = some m.cls) (hts : ∀ w ∈ xGT, w.before args s = true) (hX : va_X b L xs s s.heap) (hbl : b < s.heap.size) (hbA : ¬ A b) (hS : va_S A s.heap H locs) (h0 : ls[0]? = some (.val (.ref b))) (h3 : ls[3]? = some (.val (.int (nI I)))) (hI : I + 6 ≤ L) (hL : L ≤ 3072)
    {pc : Nat} {rest : List Value} (hc : yfargs pc = true) (k : W p l e room_1 s m args below meth c H locs cells slots Q (F0 m (pc + 25) ls (.int (xs (I + 3)) :: .long (yfl xs I) :: rest))) : W p l e room_1 s m args below meth c H locs cells slots Q (F0 m pc ls rest) := by
  unfold yfargs at hc
  simp only [Bool.and_eq_true, decide_eq_true_eq] at hc
  obtain ⟨⟨⟨⟨⟨⟨⟨⟨⟨c1, c2⟩, c3⟩, c4⟩, c5⟩, c6⟩, c7⟩, c8⟩, c9⟩, c10⟩ := hc
  refine y_args hx hb hX hbl hbA hS h0 h3 hI hL 1 1 pc _ c1 (by decide) ?_
  show W p l e room_1 s m args below meth c H locs cells slots Q (F0 m (pc + 5) ls (.int (xs (I + 1)) :: rest))
  refine lv_i2l (v := (xs (I + 1)).toInt64) hx hb c2 rfl ?_
  refine lv_bipush (v := 32) hx hb c3 (by decide) ?_
  refine lv_lshl (v := (xs (I + 1)).toInt64 <<< ((32 : Int32).toInt64 &&& 63)) hx hb c4 rfl ?_
  refine y_args hx hb hX hbl hbA hS h0 h3 hI hL 1 2 (pc + 9) _ c5 (by decide) ?_
  show W p l e room_1 s m args below meth c H locs cells slots Q (F0 m (pc + 14) ls (.int (xs (I + 2)) :: _))
  refine lv_i2l (v := (xs (I + 2)).toInt64) hx hb c6 rfl ?_
  refine lv_ldc2 (v := 4294967295) hx hb hown (hts _ yf_con) c7 ?_
  refine lv_land hx hb c8 ?_
  refine lv_lor hx hb c9 ?_
  refine y_args hx hb hX hbl hbA hS h0 h3 hI hL 1 3 (pc + 20) _ c10 (by decide) ?_
  exact k
theorem y_feed {H : Heap} {locs : List Loc} {ls : Array Slot} {b L I : Nat} {xs : Nat → Int32} {σ : xM} (F : yFix p s m args c A ad D) (hX : va_X b L xs s s.heap) (hbl : b < s.heap.size) (hbA : ¬ A b) (hW : xWd D ad ca xcnt xrho σ A s H) (hS : va_S A s.heap H locs) (hl : lv_has ls 4 [(0, .ref b), (1, .ref (ad 4 0)), (2, .ref (ad 40 0)), (3, .int (nI I))]) (hI : I + 6 ≤ L) (hL : L ≤ 3072) (h1 : cells ≤ room_1.cells) (h2 : slots ≤ room_1.slots) (hInv : Inv σ)
    (kk : ∀ σ' H1 locs1, Inv σ' → xWd D ad ca xcnt xrho σ' A s H1 → va_S A s.heap H1 locs1 → W p l e room_1 s m args below meth c H1 locs1 cells slots Q (F0 m 1297 ls [])) :
    W p l e room_1 s m args below meth c H locs cells slots Q (F0 m 536 ls []) := by
  obtain ⟨hx, hb, -, hown, hts, -, -, -, -⟩ := id F
  have hE := call_feed (d := 82) hInv (yfl xs I).toInt (xs (I + 3)).toInt (yi_rg _).2
  have hok : xoks xcnt [vL (yfl xs I).toInt, vI (xs (I + 3)).toInt] := xoks_c.mpr ⟨⟨(yfl xs I).le_toInt, (yfl xs I).toInt_lt⟩, xoks_c.mpr ⟨yi_rg _, fun v hv => by cases hv⟩⟩
  have hst : ∀ q : Nat, ∀ r : List Value, Value.int (xs (I + 3)) :: Value.long (yfl xs I) :: .ref q :: r = (([vL (yfl xs I).toInt, vI (xs (I + 3)).toInt] : List xV).map (xcv ad)).reverse ++ .ref q :: r := by
    intro q r
    show _ = Value.int (Int32.ofInt (xs (I + 3)).toInt) :: Value.long (Int64.ofInt (yfl xs I).toInt) :: .ref q :: r
    rw [Int32.ofInt_toInt, Int64.ofInt_toInt]
  refine lv_aload_n hx hb yd_536 rfl (lv_at hl 1 rfl) ?_
  refine y_farg hx hb hown hts hX hbl hbA hS (lv_at hl 0 rfl) (lv_at hl 3 rfl) hI hL yf_537 ?_
  rw [hst]
  refine y_callV (t := 3) (i := 0) (k := m_P_feed) (d := 91) F hW hS hl yd_562 ym_P_feed (by decide) (Or.inr (Or.inr (Or.inr (Or.inr ⟨by decide, by decide, by decide⟩)))) hok (Nat.le_of_ble_eq_true rfl) (Nat.le_of_ble_eq_true rfl) (Nat.le_of_ble_eq_true rfl) h1 h2 (yf_met ym_P_feed (by decide) (by decide +kernel) hE) (fun v σ1 H1 locs1 hr hQ hW1 hS1 => ?_)
  refine lv_aload_n hx hb yd_565 rfl (lv_at hl 2 rfl) ?_
  refine y_farg hx hb hown hts hX hbl hbA hS1 (lv_at hl 0 rfl) (lv_at hl 3 rfl) hI hL yf_566 ?_
  rw [hst]
  refine y_callV (t := 39) (i := 0) (k := m_M_feed) (d := 91) F hW1 hS1 hl yd_591 ym_M_feed (by decide) (Or.inr (Or.inr (Or.inr (Or.inr ⟨by decide, by decide, by decide⟩)))) hok (Nat.le_of_ble_eq_true rfl) (Nat.le_of_ble_eq_true rfl) (Nat.le_of_ble_eq_true rfl) h1 h2 (yf_met ym_M_feed (by decide) (by decide +kernel) hQ) (fun v2 σ2 H2 locs2 hr2 hQ2 hW2 hS2 => ?_)
  obtain ⟨rfl, hI2⟩ := hQ2
  exact lv_icmp_eq (tgt := 1297) hx hb yd_594 (by decide) (fun _ => kk σ2 H2 locs2 hI2 hW2 hS2) (fun q => absurd rfl q)
end YF
