/-! CALLS, ENDS: rows -/
section XJ
variable {p : Program} {l : Launch} {e : Env} {R : Room} {s : State} {m : MethodId} {args : Array Value} {below : List Frame} {meth : Method} {c : Code} {cells slots : Nat} {Q : State → Prop}
variable {M : Nat} {A : Nat → Prop} {ad : Nat → Nat → Nat} {ca : Nat → Nat → ClassId} {D : va_G}
theorem xtake_spec {k : List xV → List xV → Prop} : ∀ (n : Nat) (acc st : List xV), xtake n acc st k → ∃ b r, b.length = n ∧ st = b ++ r ∧ k (b.reverse ++ acc) r
  | 0, acc, st, h => ⟨[], st, rfl, rfl, h⟩
  | n + 1, acc, [], h => by cases h
  | n + 1, acc, v :: st, h => by
    obtain ⟨b, r, h1, h2, h3⟩ := xtake_spec n (v :: acc) st h
    exact ⟨v :: b, r, by rw [List.length_cons, h1], by rw [h2]; rfl, by rw [List.reverse_cons, List.append_assoc]; exact h3⟩
theorem xsub {H : Heap} {locs : List Loc} {σ : xM} (F : xFix p s m args meth c M A ad D) (hW : xWd D ad ca xcnt xrho σ A s H) (hS : va_S A s.heap H locs) : ∀ q, xAs ad xcnt H.size q → A q := by
  intro q hq
  rcases hq with ⟨t, i, hv, rfl⟩ | hq
  · exact hW.2.2.1 t i hv
  · exact F.2.2.2.2.2.2.2.2.1 q (Nat.le_trans hS.1 hq)
theorem xpre_at {H : Heap} {locs : List Loc} {σ : xM} {as : List xV} (F : xFix p s m args meth c M A ad D) (hW : xWd D ad ca xcnt xrho σ A s H) (hS : va_S A s.heap H locs) (hs : xoks xcnt as) {U : State} (hU : U.heap = H) (hWU : s.WarmedH U.vm) : xPre D ad ca H.size σ as U := by
  refine ⟨by rw [hU], ?_, va_K.moved hWU.alike F.2.2.2.2.2.2.2.2.2.2.1, F.2.2.2.2.2.2.2.1.warm hWU, ?_, hs⟩
  · rw [hU]
    exact hW.moved hWU.alike (fun t i hv _ => Or.inl ⟨t, i, hv, rfl⟩)
  · rw [hU]
    exact ((F.2.2.2.2.2.2.2.2.2.1.kept hS.2.1).narrow (xsub F hW hS)).moved hWU.alike
theorem xo_after {H : Heap} {locs : List Loc} {ls : Array Slot} {σ : xM} {pc k : Nat} {L r : List xV} {st0 : List Value} {a : Array Value} {Qk : Int → xM → Prop} (F : xFix p s m args meth c M A ad D) (hW : xWd D ad ca xcnt xrho σ A s H) (hS : va_S A s.heap H locs) (hL : xLr M xcnt ad L ls) (hr : xoks xcnt r)
    (hrun : va_Run p l e R s m args below meth c H locs cells slots 0 0 (F0 m pc ls st0) (r.map (xcv ad)) (xQc (xvoid k) Qk (fun σ' t => xWd D ad ca xcnt xrho σ' (xAs ad xcnt H.size) t t.heap) (xAs ad xcnt H.size) a) (xAs ad xcnt H.size))
    (kk : ∀ v σ', xr v → Qk v σ' → xNx p l e R s m args below meth c cells slots Q M A ad ca D xcnt xrho (pc + 3) L (xpush k v r) σ') : W p l e R s m args below meth c H locs cells slots Q (F0 m pc ls st0) := by
  have hF := xsub F hW hS
  cases hv : xvoid k with
  | true =>
    rw [hv] at hrun
    refine va_callv (a := a) hrun hS (fun q _ h => hF q h) hF (fun u t H1 locs1 ht hvm hp hB hz hk hS1 => ?_)
    have h := kk 0 u xn_r0 hp H1 locs1 ls (by rw [ht] at hB; exact hB.moved hvm.symm (fun t i _ h => hF _ h)) hS1 hL
    unfold xpush at h
    rw [show Nat.beq (xrec k).2.2.1 0 = true from hv] at h
    exact h hr
  | false =>
    rw [hv] at hrun
    refine va_calli (a := a) hrun hS (fun q _ h => hF q h) hF (fun r1 u t H1 locs1 ht hvm hp hB hz hk hS1 => ?_)
    obtain ⟨z, rfl, hz1, hq⟩ := hp
    have h := kk z u hz1 hq H1 locs1 ls (by rw [ht] at hB; exact hB.moved hvm.symm (fun t i _ h => hF _ h)) hS1 hL
    unfold xpush at h
    rw [show Nat.beq (xrec k).2.2.1 0 = false from hv] at h
    exact h (xoks_c.mpr ⟨hz1, hr⟩)
theorem xroom_ok {d k : Nat} (hk : k < xN) (hRf : d + 2 ≤ R.frames) (hRl : 40 * d + 80 ≤ R.locals) : (xroom d 0 0).frames + 1 ≤ R.frames ∧ 8 + ((xrec k).2.1 + 11) + (xroom d 0 0).locals ≤ R.locals := by
  have h9 := (xna hk).2
  exact ⟨hRf, by show 8 + ((xrec k).2.1 + 11) + (40 * d + 40) ≤ R.locals; omega⟩
theorem xo_callS {pc x d k : Nat} {kd : Nat} {L b r : List xV} {σ : xM} {Qk : Int → xM → Prop} (F : xFix p s m args meth c M A ad D) (hd : decode (xy M).2.1 pc = .ok (.invokestatic x, 3)) (hc : xcal (xrec M).1 x = some (k, kd)) (hkd : kd = 1 ∨ kd = 3) (hk : k < xN) (h0 : (xrec k).2.2.2.1 = 0) (hn : b.length = (xrec k).2.2.2.2) (hr8 : xrs r = true)
    (hRf : d + 2 ≤ R.frames) (hRl : 40 * d + 80 ≤ R.locals) (h1 : cells ≤ R.cells) (h2 : slots ≤ R.slots) (hM : xMet l d k b.reverse σ Qk)
    (kk : ∀ v σ', xr v → Qk v σ' → xNx p l e R s m args below meth c cells slots Q M A ad ca D xcnt xrho (pc + 3) L (xpush k v r) σ') : xNx p l e R s m args below meth c cells slots Q M A ad ca D xcnt xrho pc L (b ++ r) σ := by
  intro H locs ls hW hS hL hs
  obtain ⟨hb, hr⟩ := xoks_app.mp hs
  have hbr : xoks xcnt b.reverse := fun v hv => hb v (List.mem_reverse.mp hv)
  have hsum := xrs_sum (ad := ad) hr8
  obtain ⟨hst, hpar⟩ := xm_s hk h0
  obtain ⟨hini, hrk, hcls, hmh, -⟩ := xm_a hk
  have hw := (xcal_w hc).1
  obtain ⟨hx0, hbb, hml, -, hown, -, hts, hex, -, hro, hK, -⟩ := id F
  have hp : PreS s H (va_Pc (b.reverse.map (xcv ad)) (xPre D ad ca H.size σ b.reverse)) (b.reverse.map (xcv ad)) := ⟨xPre.blind, fun U hU hWU => ⟨rfl, xpre_at F hW hS hbr hU hWU⟩⟩
  have hstk : (b ++ r).map (xcv ad) = (b.reverse.map (xcv ad)).reverse ++ r.map (xcv ad) := by
    rw [List.map_append, List.map_reverse, List.reverse_reverse]
  rw [hstk]
  refine xo_after (a := (b.reverse.map (xcv ad)).toArray) F hW hS hL hr ?_ kk
  rcases hkd with rfl | rfl
  · exact va_runS (n := (xrec k).2.2.2.2) ⟨hx0, hbb, hml, hown, hts⟩ (hM D ad ca H.size) (va_cwS _ hts (xgoodIn (fun w hw1 => by
      rcases List.mem_append.mp hw1 with h | h
      · simp only [List.mem_cons, List.not_mem_nil, or_false] at h
        rcases h with rfl | rfl | rfl
        · exact xGT_m hw rfl
        · exact hst
        · exact hini
      · exact xws_in hk w h)) rfl rfl rfl ⟨hmh.1, hmh.2, hpar⟩ (xroom_ok hk hRf hRl)) hp rfl (by rw [List.length_map, List.length_reverse, hn]) hL.1 rfl (lv_room hsum) hd ⟨h1, h2⟩
  · exact va_runSN (n := (xrec k).2.2.2.2) ⟨hx0, hbb, hml, hown, hts⟩ (hM D ad ca H.size) ⟨va_cnB _ hts (xgoodIn (xws_in hk)) rfl rfl rfl (hex.1 _ (xnest_m hw)) (hts _ hini) ⟨hmh.1, hmh.2, hpar⟩ (xroom_ok hk hRf hRl), hts _ hst, trivial⟩ hp rfl (by rw [List.length_map, List.length_reverse, hn]) hL.1 rfl (lv_room hsum) hd ⟨h1, h2⟩
theorem xrecv {H : Heap} {locs : List Loc} {σ : xM} {t i : Nat} (F : xFix p s m args meth c M A ad D) (hW : xWd D ad ca xcnt xrho σ A s H) (hS : va_S A s.heap H locs) (ho : xok xcnt (vR t i)) (hk : xkind t = 1 ∨ t = 1) : ∃ cellB : Cell, H[ad t i]? = some cellB ∧ cellB.vm.isStatics = false ∧ s.vm.findClass (xCt t) = some cellB.cls := by
  obtain ⟨hx0, hbb, hml, -, hown, -, hts, hex, -, hro, hK, -⟩ := id F
  rcases hk with hk | rfl
  · have hv := xok_vd ho (by rw [hk]; decide)
    obtain ⟨k0, -, he⟩ := xW_idx (ad := ad) (ca := ca) (ρ := xrho) (σ := σ) hv
    have hE : xE ad ca xrho σ t i = .inr (xci t, (List.range (xsz t)).map fun j => xcv ad (xfv xrho σ t i j)) := by unfold xE; rw [hk]; rfl
    rw [hE] at he
    exact va_recv hK hW.P (xcl_at hk) he
  · have hi := xok_1 ho
    obtain ⟨j, rfl⟩ : ∃ j, i = j + 1 := ⟨i - 1, by omega⟩
    exact vk_recv hro.2.2.2 (i := j) (by omega) hS
theorem xini_all : (List.range 14).all (fun cx => (xnth [] xcalT cx).all (fun e => !(Nat.beq e.2.2 0) || decide ((xy e.2.1).1.name ≠ "<init>"))) = true := by decide +kernel
theorem xini_ok {cx x k : Nat} (h : xcal cx x = some (k, 0)) : (xy k).1.name ≠ "<init>" := by
  have h2 := xall_nth (T := xcalT) (n := 14) (f := fun c e => !(Nat.beq e.2.2 0) || decide ((xy e.2.1).1.name ≠ "<init>")) (d := []) (by decide +kernel) rfl xini_all cx (x, (k, 0)) (xas_mem (xnth [] xcalT cx) x (k, 0) h)
  rcases Bool.or_eq_true _ _ ▸ h2 with h3 | h3
  · exact absurd h3 Bool.false_ne_true
  · exact of_decide_eq_true h3
theorem xo_callV {pc x d k t i : Nat} {L b r : List xV} {σ : xM} {Qk : Int → xM → Prop} (F : xFix p s m args meth c M A ad D) (hd : decode (xy M).2.1 pc = .ok (.invokevirtual x, 3)) (hc : xcal (xrec M).1 x = some (k, 0)) (hk : k < xN) (h0 : (xrec k).2.2.2.1 = t) (ht : t ≠ 0) (hn : b.length + 1 = (xrec k).2.2.2.2) (hr8 : xrs r = true)
    (hRf : d + 2 ≤ R.frames) (hRl : 40 * d + 80 ≤ R.locals) (h1 : cells ≤ R.cells) (h2 : slots ≤ R.slots) (hM : xMet l d k (vR t i :: b.reverse) σ Qk)
    (kk : ∀ v σ', xr v → Qk v σ' → xNx p l e R s m args below meth c cells slots Q M A ad ca D xcnt xrho (pc + 3) L (xpush k v r) σ') : xNx p l e R s m args below meth c cells slots Q M A ad ca D xcnt xrho pc L (b ++ vR t i :: r) σ := by
  obtain ⟨t', rfl⟩ : ∃ t', t = t' + 1 := ⟨t - 1, by omega⟩
  intro H locs ls hW hS hL hs
  obtain ⟨hb, hs1⟩ := xoks_app.mp hs
  obtain ⟨ho, hr⟩ := xoks_c.mp hs1
  have hbr : xoks xcnt (vR (t' + 1) i :: b.reverse) := xoks_c.mpr ⟨ho, fun v hv => hb v (List.mem_reverse.mp hv)⟩
  have hsum := xrs_sum (ad := ad) hr8
  obtain ⟨hinst, hsel, hpar, hct, hpos, hkk⟩ := xm_i hk h0
  obtain ⟨hini, hrk, hcls, hmh, -⟩ := xm_a hk
  have hw := (xcal_w hc).1
  obtain ⟨hx0, hbb, hml, -, hown, -, hts, hex, -, hro, hK, -⟩ := id F
  have eR : xcv ad (vR (t' + 1) i) = .ref (ad (t' + 1) i) := rfl
  have hp : PreV s H (xy k).1.cls (ad (t' + 1) i) (va_Pc ((vR (t' + 1) i :: b.reverse).map (xcv ad)) (xPre D ad ca H.size σ (vR (t' + 1) i :: b.reverse))) (b.reverse.map (xcv ad)) :=
    ⟨xPre.blind, by rw [← hct]; exact xrecv F hW hS ho hkk, fun U hU hWU => ⟨by rw [List.map_cons, eR], xpre_at F hW hS hbr hU hWU⟩⟩
  have hstk : (b ++ vR (t' + 1) i :: r).map (xcv ad) = (b.reverse.map (xcv ad)).reverse ++ .ref (ad (t' + 1) i) :: r.map (xcv ad) := by
    rw [List.map_append, List.map_cons, eR, List.map_reverse, List.reverse_reverse]
  rw [hstk]
  refine xo_after (a := (Value.ref (ad (t' + 1) i) :: b.reverse.map (xcv ad)).toArray) F hW hS hL hr ?_ kk
  exact va_runV (n := (xrec k).2.2.2.2 - 1) ⟨hx0, hbb, hml, hown, hts⟩ (hM D ad ca H.size) (cwV (index := x) (own := xow M) _ hts (xgoodIn (fun w hw1 => by
      rcases List.mem_append.mp (show w ∈ ([.methodLink (xow M) x (xy k).1, .instanceMethod (xy k).1, .selects (xy k).1.cls (xy k).1 (xy k).1, .initialized (xy k).1.cls] : List Cond) ++ xws k from hw1) with h | h
      · simp only [List.mem_cons, List.not_mem_nil, or_false] at h
        rcases h with rfl | rfl | rfl | rfl
        · exact xGT_m hw rfl
        · exact hinst
        · exact hsel (xini_ok hc)
        · exact hini
      · exact xws_in hk w h)) rfl rfl rfl ⟨rfl, hmh.1, hmh.2, hpar⟩ (xroom_ok hk hRf hRl)) hp rfl (by rw [List.length_map, List.length_reverse]; omega) hL.1 rfl (lv_room hsum) hd ⟨h1, h2⟩
theorem xo_iret {pc : Nat} {L : List xV} {σ : xM} {x : Int} {Qm : Int → xM → Prop} (F : xFix p s m args meth c M A ad D) (hM : M < xN) (hd : decode (xy M).2.1 pc = .ok (.ireturn, 1)) (hk : (xrec M).2.2.1 = 1 ∨ ((xrec M).2.2.1 = 2 ∧ (x = 0 ∨ x = 1)) ∨ ((xrec M).2.2.1 = 3 ∧ -128 ≤ x ∧ x ≤ 127)) (hq : Qm x σ) :
    xNx p l e R s m args below meth c cells slots (MQ below (xQc (xvoid M) Qm (fun σ' t => xWd D ad ca xcnt xrho σ' A t t.heap) A) args s cells slots A) M A ad ca D xcnt xrho pc L [vI x] σ := by
  intro H locs ls hW hS hL hs
  obtain ⟨hx, -⟩ := xoks_c.mp hs
  obtain ⟨hx0, hbb, hml, hr, hown, hlk, hts, hex, -, hro, hK, -⟩ := id F
  obtain ⟨-, hrk, -, -, -⟩ := xm_a hM
  obtain ⟨k1, k2, k3⟩ := xrk_n hrk
  have hv : xvoid M = false := by
    unfold xvoid
    rcases hk with h | ⟨h, -⟩ | ⟨h, -⟩ <;> rw [h] <;> rfl
  rw [hv]
  have hend : ∀ t : State, t.heap = H → s.WarmedH t.vm → xQc false Qm (fun σ' t => xWd D ad ca xcnt xrho σ' A t t.heap) A args s (.returned (some (.int (Int32.ofInt x)))) t := fun t ht hWt =>
    ⟨⟨Int32.ofInt x, σ, rfl, ⟨x, rfl, hx, hq⟩, by show xWd D ad ca xcnt xrho σ A t t.heap; rw [ht]; exact hW.moved hWt.alike (fun _ _ _ h => h)⟩, hS.F ht⟩
  show W p l e R s m args below meth c H locs cells slots _ (F0 m pc ls [.int (Int32.ofInt x)])
  rcases hk with h | ⟨h, h01⟩ | ⟨h, hb⟩
  · exact W.iret hx0 hbb (hr.trans (k1 h)) hend hS.2.2 hd hlk
  · exact W.zret hx0 hbb (hr.trans (k2 h)) (xn_nz h01) hend hS.2.2 hd hlk
  · exact W.zret hx0 hbb (hr.trans (k3 h)) (xn_nb hb) hend hS.2.2 hd hlk
theorem xo_vret {pc : Nat} {L : List xV} {σ : xM} {Qm : Int → xM → Prop} (F : xFix p s m args meth c M A ad D) (hM : M < xN) (hd : decode (xy M).2.1 pc = .ok (.return_, 1)) (hk : (xrec M).2.2.1 = 0) (hq : Qm 0 σ) :
    xNx p l e R s m args below meth c cells slots (MQ below (xQc (xvoid M) Qm (fun σ' t => xWd D ad ca xcnt xrho σ' A t t.heap) A) args s cells slots A) M A ad ca D xcnt xrho pc L [] σ := by
  intro H locs ls hW hS hL hs
  obtain ⟨hx0, hbb, hml, hr, hown, hlk, hts, hex, -, hro, hK, -⟩ := id F
  obtain ⟨-, hrk, -, -, -⟩ := xm_a hM
  have hv : xvoid M = true := by
    unfold xvoid
    rw [hk]
    rfl
  rw [hv]
  exact W.vret hx0 hbb (hr.trans (xrk_0 hrk hk)) (fun t ht hWt => ⟨⟨σ, rfl, hq, by show xWd D ad ca xcnt xrho σ A t t.heap; rw [ht]; exact hW.moved hWt.alike (fun _ _ _ h => h)⟩, hS.F ht⟩) hS.2.2 hd hlk
end XJ
