/-! THE LAW'S OWN FRAME: its calls -/
def yFix (p : Program) (s : State) (m : MethodId) (args : Array Value) (c : Code) (A : Nat → Prop) (ad : Nat → Nat → Nat) (D : va_G) : Prop :=
  p.tables.exec = Jvm.exec ∧ c.code = code ∧ c.maxLocals = 4 ∧ s.vm.findClass R_law = some m.cls ∧ (∀ w ∈ xGT, w.before args s = true) ∧ xEx ad s ∧ (∀ q : Nat, s.heap.size ≤ q → A q) ∧ xROk ad A s s.heap ∧ va_K D xcl [] s
def yzs (xs : Nat → Int32) (I : Nat) : Nat → Nat → List Int32
  | 0, _ => []
  | n + 1, J => xs (I + J) :: yzs xs I n (J + 1)
theorem yzs_len {xs : Nat → Int32} {I : Nat} : ∀ n J, (yzs xs I n J).length = n
  | 0, _ => rfl
  | n + 1, J => congrArg (· + 1) (yzs_len n (J + 1))
def yiv (zs : List Int32) : List xV := zs.map (fun z => vI z.toInt)
theorem yiv_len (zs : List Int32) : (yiv zs).length = zs.length := List.length_map ..
theorem yiv_nl : ∀ zs : List Int32, xnl (yiv zs) = true
  | [] => rfl
  | _ :: r => yiv_nl r
theorem yiv_cv (ad : Nat → Nat → Nat) : ∀ zs : List Int32, (yiv zs).map (xcv ad) = zs.map Value.int
  | [] => rfl
  | z :: r => by
    show Value.int (Int32.ofInt z.toInt) :: (yiv r).map (xcv ad) = Value.int z :: r.map Value.int
    rw [Int32.ofInt_toInt, yiv_cv ad r]
theorem yi_rg (z : Int32) : -2147483648 ≤ z.toInt ∧ z.toInt < 2147483648 := ⟨z.le_toInt, z.toInt_lt⟩
theorem yiv_ok (cnt : Nat → Nat) : ∀ zs : List Int32, xoks cnt (yiv zs)
  | [] => fun v hv => by cases hv
  | z :: r => xoks_c.mpr ⟨yi_rg z, yiv_ok cnt r⟩
def yargs : Nat → Nat → Nat → Bool
  | _, 0, _ => true
  | pc, n + 1, J => decide (decode code pc = .ok (.aload_n 0, 1)) && decide (decode code (pc + 1) = .ok (.iload_n 3, 1)) && decide (decode code (pc + 2) = .ok (.iconst (J : Int), 1)) && decide (decode code (pc + 3) = .ok (.iadd, 1)) && decide (decode code (pc + 4) = .ok (.iaload, 1)) && yargs (pc + 5) n (J + 1)
def ymeth (x k t n : Nat) : Prop := Cond.methodLink R_law x (xy k).1 ∈ xGT ∧ (xy k).1.name ≠ "<init>" ∧ k < xN ∧ (xrec k).2.2.2.1 = t ∧ n + 1 = (xrec k).2.2.2.2 ∧ xvoid k = false
section YL
variable {p : Program} {l : Launch} {e : Env} {s : State} {m : MethodId} {args : Array Value} {below : List Frame} {meth : Method} {c : Code} {cells slots : Nat} {Q : State → Prop}
variable {A : Nat → Prop} {ad : Nat → Nat → Nat} {ca : Nat → Nat → ClassId} {D : va_G}
theorem ysub {cnt : Nat → Nat} {ρ : xP} {σ : xM} {H : Heap} {locs : List Loc} (F : yFix p s m args c A ad D) (hW : xWd D ad ca cnt ρ σ A s H) (hS : va_S A s.heap H locs) : ∀ q, xAs ad cnt H.size q → A q := by
  intro q hq
  rcases hq with ⟨t, i, hv, rfl⟩ | hq
  · exact hW.2.2.1 t i hv
  · exact F.2.2.2.2.2.2.1 q (Nat.le_trans hS.1 hq)
theorem ypre_at {H : Heap} {locs : List Loc} {σ : xM} {as : List xV} (F : yFix p s m args c A ad D) (hW : xWd D ad ca xcnt xrho σ A s H) (hS : va_S A s.heap H locs) (hs : xoks xcnt as) {U : State} (hU : U.heap = H) (hWU : s.WarmedH U.vm) : xPre D ad ca H.size σ as U := by
  refine ⟨by rw [hU], ?_, va_K.moved hWU.alike F.2.2.2.2.2.2.2.2, F.2.2.2.2.2.1.warm hWU, ?_, hs⟩
  · rw [hU]
    exact hW.moved hWU.alike (fun t i hv _ => Or.inl ⟨t, i, hv, rfl⟩)
  · rw [hU]
    exact ((F.2.2.2.2.2.2.2.1.kept hS.2.1).narrow (ysub F hW hS)).moved hWU.alike
theorem ypreG_at {cnt : Nat → Nat} {ρ : xP} {σ : xM} {H : Heap} {locs : List Loc} {as : List xV} (F : yFix p s m args c A ad D) (hW : xWd D ad ca cnt ρ σ A s H) (hG : xrvG cnt ρ) (hS : va_S A s.heap H locs) (hs : xoks cnt as) {U : State} (hU : U.heap = H) (hWU : s.WarmedH U.vm) : xPreG D ad ca H.size cnt ρ σ as U := by
  refine ⟨by rw [hU], ?_, hG, va_K.moved hWU.alike F.2.2.2.2.2.2.2.2, F.2.2.2.2.2.1.warm hWU, ?_, hs⟩
  · rw [hU]
    exact hW.moved hWU.alike (fun t i hv _ => Or.inl ⟨t, i, hv, rfl⟩)
  · rw [hU]
    exact ((F.2.2.2.2.2.2.2.1.kept hS.2.1).narrow (ysub F hW hS)).moved hWU.alike
theorem yrecv {H : Heap} {σ : xM} {t i : Nat} (F : yFix p s m args c A ad D) (hW : xWd D ad ca xcnt xrho σ A s H) (ho : xok xcnt (vR t i)) (hk : xkind t = 1) : ∃ cellB : Cell, H[ad t i]? = some cellB ∧ cellB.vm.isStatics = false ∧ s.vm.findClass (xCt t) = some cellB.cls := by
  have hv := xok_vd ho (by rw [hk]; decide)
  obtain ⟨k0, -, he⟩ := xW_idx (ad := ad) (ca := ca) (ρ := xrho) (σ := σ) hv
  have hE : xE ad ca xrho σ t i = .inr (xci t, (List.range (xsz t)).map fun j => xcv ad (xfv xrho σ t i j)) := by unfold xE; rw [hk]; rfl
  rw [hE] at he
  exact va_recv F.2.2.2.2.2.2.2.2 hW.P (xcl_at hk) he
theorem y_callV {H : Heap} {locs : List Loc} {ls : Array Slot} {lv : List (Nat × Value)} {σ : xM} {pc x d k t i : Nat} {as : List xV} {r : List Value} {Qk : Int → xM → Prop} (F : yFix p s m args c A ad D) (hW : xWd D ad ca xcnt xrho σ A s H) (hS : va_S A s.heap H locs) (hl : lv_has ls 4 lv)
    (hd : decode code pc = .ok (.invokevirtual x, 3)) (hm : ymeth x k (t + 1) as.length) (hkk : xkind (t + 1) = 1) (ho : xok xcnt (vR (t + 1) i)) (has : xoks xcnt as) (hr8 : (r.map fun v => v.category).sum ≤ 8)
    (hRf : d + 2 ≤ room_1.frames) (hRl : 40 * d + 80 ≤ room_1.locals) (h1 : cells ≤ room_1.cells) (h2 : slots ≤ room_1.slots) (hM : xMet l d k (vR (t + 1) i :: as) σ Qk)
    (kk : ∀ v σ' H1 locs1, xr v → Qk v σ' → xWd D ad ca xcnt xrho σ' A s H1 → va_S A s.heap H1 locs1 → W p l e room_1 s m args below meth c H1 locs1 cells slots Q (F0 m (pc + 3) ls (.int (Int32.ofInt v) :: r))) :
    W p l e room_1 s m args below meth c H locs cells slots Q (F0 m pc ls ((as.map (xcv ad)).reverse ++ .ref (ad (t + 1) i) :: r)) := by
  obtain ⟨hw, hni, hk, h0, hn, hv⟩ := hm
  obtain ⟨hinst, hsel, hpar, hct, hpos, -⟩ := xm_i hk h0
  obtain ⟨hini, hrk, hcls, hmh, -⟩ := xm_a hk
  obtain ⟨hx0, hbb, hml, hown, hts, hex, -, hro, hK⟩ := id F
  have hF := ysub F hW hS
  have eR : xcv ad (vR (t + 1) i) = .ref (ad (t + 1) i) := rfl
  have hbr : xoks xcnt (vR (t + 1) i :: as) := xoks_c.mpr ⟨ho, has⟩
  have hp : PreV s H (xy k).1.cls (ad (t + 1) i) (va_Pc ((vR (t + 1) i :: as).map (xcv ad)) (xPre D ad ca H.size σ (vR (t + 1) i :: as))) (as.map (xcv ad)) :=
    ⟨xPre.blind, by rw [← hct]; exact yrecv F hW ho hkk, fun U hU hWU => ⟨by rw [List.map_cons, eR], ypre_at F hW hS hbr hU hWU⟩⟩
  have hrun : va_Run p l e room_1 s m args below meth c H locs cells slots 0 0 (F0 m pc ls ((as.map (xcv ad)).reverse ++ .ref (ad (t + 1) i) :: r)) r (xQc (xvoid k) Qk (fun σ' t => xWd D ad ca xcnt xrho σ' (xAs ad xcnt H.size) t t.heap) (xAs ad xcnt H.size) (Value.ref (ad (t + 1) i) :: as.map (xcv ad)).toArray) (xAs ad xcnt H.size) :=
    va_runV (n := (xrec k).2.2.2.2 - 1) ⟨hx0, hbb, hml, hown, hts⟩ (hM D ad ca H.size) (cwV (index := x) (own := R_law) _ hts (xgoodIn (fun w hw1 => by
      rcases List.mem_append.mp (show w ∈ ([.methodLink R_law x (xy k).1, .instanceMethod (xy k).1, .selects (xy k).1.cls (xy k).1 (xy k).1, .initialized (xy k).1.cls] : List Cond) ++ xws k from hw1) with h | h
      · simp only [List.mem_cons, List.not_mem_nil, or_false] at h
        rcases h with rfl | rfl | rfl | rfl
        · exact hw
        · exact hinst
        · exact hsel hni
        · exact hini
      · exact xws_in hk w h)) rfl rfl rfl ⟨rfl, hmh.1, hmh.2, hpar⟩ (xroom_ok hk hRf hRl)) hp rfl (by rw [List.length_map]; omega) hl.1 rfl (lv_room hr8) hd ⟨h1, h2⟩
  rw [hv] at hrun
  refine va_calli (a := (Value.ref (ad (t + 1) i) :: as.map (xcv ad)).toArray) hrun hS (fun q _ h => hF q h) hF (fun r1 u t H1 locs1 ht hvm hp hB hz hk hS1 => ?_)
  obtain ⟨z, rfl, hz1, hq⟩ := hp
  exact kk z u H1 locs1 hz1 hq (by rw [ht] at hB; exact hB.moved hvm.symm (fun t i _ h => hF _ h)) hS1
theorem y_args {H : Heap} {locs : List Loc} {ls : Array Slot} {b L I : Nat} {xs : Nat → Int32} (hx : p.tables.exec = Jvm.exec) (hb : c.code = code) (hX : va_X b L xs s s.heap) (hbl : b < s.heap.size) (hbA : ¬ A b) (hS : va_S A s.heap H locs) (h0 : ls[0]? = some (.val (.ref b))) (h3 : ls[3]? = some (.val (.int (nI I)))) (hI : I + 6 ≤ L) (hL : L ≤ 3072) :
    ∀ (n J pc : Nat) (rest : List Value), yargs pc n J = true → J + n ≤ 6 → W p l e room_1 s m args below meth c H locs cells slots Q (F0 m (pc + 5 * n) ls (((yzs xs I n J).map Value.int).reverse ++ rest)) → W p l e room_1 s m args below meth c H locs cells slots Q (F0 m pc ls rest) := by
  intro n
  induction n with
  | zero =>
    intro J pc rest _ _ k
    have e1 : pc + 5 * 0 = pc := by omega
    have e2 : ((yzs xs I 0 J).map Value.int).reverse ++ rest = rest := rfl
    rw [e1, e2] at k
    exact k
  | succ n ih =>
    intro J pc rest hc hJ k
    unfold yargs at hc
    simp only [Bool.and_eq_true, decide_eq_true_eq] at hc
    obtain ⟨⟨⟨⟨⟨c1, c2⟩, c3⟩, c4⟩, c5⟩, c6⟩ := hc
    refine lv_aload_n hx hb c1 rfl h0 ?_
    refine lv_iload_n hx hb c2 rfl h3 ?_
    refine lv_iconst (v := nI J) hx hb c3 rfl ?_
    refine lv_iadd hx hb c4 ?_
    rw [nI_add]
    refine va_sld hx hb hX hbl hbA hS (vp_in_nI (by omega) (by omega)) c5 ?_
    rw [nI_clamp (by omega)]
    refine ih (J + 1) (pc + 5) _ c6 (by omega) ?_
    have e1 : pc + 5 * (n + 1) = pc + 5 + 5 * n := by omega
    have e2 : ((yzs xs I (n + 1) J).map Value.int).reverse ++ rest = ((yzs xs I n (J + 1)).map Value.int).reverse ++ .int (xs (I + J)) :: rest := by
      show (Value.int (xs (I + J)) :: (yzs xs I n (J + 1)).map Value.int).reverse ++ rest = _
      rw [List.reverse_cons, List.append_assoc]
      rfl
    rw [e1, e2] at k
    exact k
def ycase (pc n xP xM : Nat) : Bool :=
  decide (decode code pc = .ok (.aload_n 1, 1)) && yargs (pc + 1) n 1 && decide (decode code (pc + 1 + 5 * n) = .ok (.invokevirtual xP, 3)) && decide (decode code (pc + 1 + 5 * n + 3) = .ok (.aload_n 2, 1)) && yargs (pc + 1 + 5 * n + 3 + 1) n 1 && decide (decode code (pc + 1 + 5 * n + 3 + 1 + 5 * n) = .ok (.invokevirtual xM, 3)) && decide (decode code (pc + 1 + 5 * n + 3 + 1 + 5 * n + 3) = .ok (.if_icmp .eq (1297 - ((pc + 1 + 5 * n + 3 + 1 + 5 * n + 3 : Nat) : Int)), 3))
theorem y_met {d k t n : Nat} {x : Nat} {zs : List Int32} {σ : xM} {Qk : Int → xM → Prop} (hm : ymeth x k (t + 1) n) (hz : zs.length = n) (h : Ev d k 0 (xent k (vR (t + 1) 0 :: yiv zs)) [] σ Qk) : xMet l d k (vR (t + 1) 0 :: yiv zs) σ Qk := by
  have hnl : xnl (vR (t + 1) 0 :: yiv zs) = true := yiv_nl zs
  refine xmet hm.2.2.1 (fun j z hj => ?_) ?_ h
  · rw [xents_nl _ hnl] at hj
    exact absurd hj (xnl_no _ hnl j z)
  · rw [xents_nl _ hnl, List.length_cons, yiv_len, hz, hm.2.2.2.2.1]
    exact (xna hm.2.2.1).1
theorem y_case {H : Heap} {locs : List Loc} {ls : Array Slot} {b L I : Nat} {xs : Nat → Int32} {σ : xM} {pc n kP kM xP xM' d : Nat} (F : yFix p s m args c A ad D) (hX : va_X b L xs s s.heap) (hbl : b < s.heap.size) (hbA : ¬ A b) (hW : xWd D ad ca xcnt xrho σ A s H) (hS : va_S A s.heap H locs) (hl : lv_has ls 4 [(0, .ref b), (1, .ref (ad 4 0)), (2, .ref (ad 40 0)), (3, .int (nI I))]) (hI : I + 6 ≤ L) (hL : L ≤ 3072)
    (hc : ycase pc n xP xM' = true) (hn : n ≤ 5) (yP : ymeth xP kP 4 n) (yM : ymeth xM' kM 40 n) (hRf : d + 2 ≤ room_1.frames) (hRl : 40 * d + 80 ≤ room_1.locals) (h1 : cells ≤ room_1.cells) (h2 : slots ≤ room_1.slots)
    (hE : Ev d kP 0 (xent kP (vR 4 0 :: yiv (yzs xs I n 1))) [] σ (fun r s => Ev d kM 0 (xent kM (vR 40 0 :: yiv (yzs xs I n 1))) [] s (fun r' s' => r = r' ∧ Inv s')))
    (kk : ∀ σ' H1 locs1, Inv σ' → xWd D ad ca xcnt xrho σ' A s H1 → va_S A s.heap H1 locs1 → W p l e room_1 s m args below meth c H1 locs1 cells slots Q (F0 m 1297 ls [])) :
    W p l e room_1 s m args below meth c H locs cells slots Q (F0 m pc ls []) := by
  obtain ⟨hx, hb, -, -, -, -, -, -, -⟩ := id F
  unfold ycase at hc
  simp only [Bool.and_eq_true, decide_eq_true_eq] at hc
  obtain ⟨⟨⟨⟨⟨⟨c1, c2⟩, c3⟩, c4⟩, c5⟩, c6⟩, c7⟩ := hc
  have hz := yzs_len (xs := xs) (I := I) n 1
  have hlen : (yiv (yzs xs I n 1)).length = n := by rw [yiv_len, hz]
  refine lv_aload_n hx hb c1 rfl (lv_at hl 1 rfl) ?_
  refine y_args hx hb hX hbl hbA hS (lv_at hl 0 rfl) (lv_at hl 3 rfl) hI hL n 1 (pc + 1) _ c2 (by omega) ?_
  rw [← yiv_cv ad]
  refine y_callV (t := 3) (i := 0) (k := kP) F hW hS hl c3 (by rw [hlen]; exact yP) (by decide) (Or.inr (Or.inr (Or.inr (Or.inr ⟨by decide, by decide, by decide⟩)))) (yiv_ok xcnt _) (Nat.le_of_ble_eq_true rfl) hRf hRl h1 h2 (y_met yP hz hE) (fun v σ1 H1 locs1 hr hQ hW1 hS1 => ?_)
  refine lv_aload_n hx hb c4 rfl (lv_at hl 2 rfl) ?_
  refine y_args hx hb hX hbl hbA hS1 (lv_at hl 0 rfl) (lv_at hl 3 rfl) hI hL n 1 (pc + 1 + 5 * n + 3 + 1) _ c5 (by omega) ?_
  rw [← yiv_cv ad]
  refine y_callV (t := 39) (i := 0) (k := kM) F hW1 hS1 hl c6 (by rw [hlen]; exact yM) (by decide) (Or.inr (Or.inr (Or.inr (Or.inr ⟨by decide, by decide, by decide⟩)))) (yiv_ok xcnt _) (Nat.le_of_ble_eq_true rfl) hRf hRl h1 h2 (y_met yM hz hQ) (fun v2 σ2 H2 locs2 hr2 hQ2 hW2 hS2 => ?_)
  obtain ⟨rfl, hI2⟩ := hQ2
  exact lv_icmp_eq (tgt := 1297) hx hb c7 (by omega) (fun _ => kk σ2 H2 locs2 hI2 hW2 hS2) (fun q => absurd rfl q)
end YL
