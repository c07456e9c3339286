/-! THE LAW: its two objects -/
def xgbd : Bool := match xgP with
  | some g => Nat.ble g.2.2.2.1 200 && Nat.ble g.2.2.2.2 20000
  | none => false
theorem xgbd_ok : xgbd = true := by decide +kernel
theorem xgP_bd {gP : xGt} (h : xgP = some gP) : gP.2.2.2.1 ≤ 200 ∧ gP.2.2.2.2 ≤ 20000 := by
  have h1 := xgbd_ok
  unfold xgbd at h1
  rw [h] at h1
  have h1 := Bool.and_eq_true _ _ ▸ h1
  exact ⟨Nat.le_of_ble_eq_true h1.1, Nat.le_of_ble_eq_true h1.2⟩
theorem yw_c4 : Cond.classLink R_law 7 (xCt 4) ∈ xGT := xGT_in 92 (by decide +kernel) rfl
theorem yw_c40 : Cond.classLink R_law 10 (xCt 40) ∈ xGT := xGT_in 984 (by decide +kernel) rfl
theorem yw_m4 : Cond.methodLink R_law 9 (xy m_P_init).1 ∈ xGT := xGT_in 94 (by decide +kernel) rfl
theorem yw_m40 : Cond.methodLink R_law 12 (xy m_M_init).1 ∈ xGT := xGT_in 986 (by decide +kernel) rfl
theorem yd_0 : decode code 0 = .ok (.new 7, 3) := by decide +kernel
theorem yd_3 : decode code 3 = .ok (.dup, 1) := by decide +kernel
theorem yd_4 : decode code 4 = .ok (.invokespecial 9, 3) := by decide +kernel
theorem yd_7 : decode code 7 = .ok (.astore_n 1, 1) := by decide +kernel
theorem yd_8 : decode code 8 = .ok (.new 10, 3) := by decide +kernel
theorem yd_11 : decode code 11 = .ok (.dup, 1) := by decide +kernel
theorem yd_12 : decode code 12 = .ok (.invokespecial 12, 3) := by decide +kernel
theorem yd_15 : decode code 15 = .ok (.astore_n 2, 1) := by decide +kernel
theorem yd_16 : decode code 16 = .ok (.iconst 0, 1) := by decide +kernel
theorem yd_17 : decode code 17 = .ok (.istore_n 3, 1) := by decide +kernel
theorem yFix.ad {p : Program} {s : State} {m : MethodId} {args : Array Value} {c : Code} {A : Nat → Prop} {ad ad' : Nat → Nat → Nat} {D : va_G} (ha : ∀ t i, t < 4 → ad' t i = ad t i) (h : yFix p s m args c A ad D) : yFix p s m args c A ad' D :=
  ⟨h.1, h.2.1, h.2.2.1, h.2.2.2.1, h.2.2.2.2.1, h.2.2.2.2.2.1.ad ha, h.2.2.2.2.2.2.1, h.2.2.2.2.2.2.2.1.ad ha, h.2.2.2.2.2.2.2.2⟩
section YG
variable {p : Program} {l : Launch} {e : Env} {s : State} {m : MethodId} {args : Array Value} {below : List Frame} {meth : Method} {c : Code} {cells slots : Nat} {Q : State → Prop}
variable {A : Nat → Prop} {ad : Nat → Nat → Nat} {ca : Nat → Nat → ClassId} {D : va_G}
theorem y_callG {H : Heap} {locs : List Loc} {ls : Array Slot} {lv : List (Nat × Value)} {pc x d k t i : Nat} {r : List Value} {g g' : xGt} (F : yFix p s m args c A ad D) (hW : xWd D ad ca g.1 g.2.1 (xsl g.2.2.1) A s H) (hG : xrvG g.1 g.2.1) (hS : va_S A s.heap H locs) (hl : lv_has ls 4 lv) (hd : decode code pc = .ok (.invokespecial x, 3)) (hw : Cond.methodLink R_law x (xy k).1 ∈ xGT) (hk : k < xN) (hini : (xy k).1.name = "<init>") (hvoid : (xrec k).2.2.1 = 0) (h0 : (xrec k).2.2.2.1 = t + 1) (hn : (xrec k).2.2.2.2 = 1) (ho : xok g.1 (vR (t + 1) i)) (hr8 : (r.map fun v => v.category).sum ≤ 8)
    (hRf : d + 2 ≤ room_1.frames) (hRl : 40 * d + 80 ≤ room_1.locals) (h1 : cells + (g.2.2.2.1 - g'.2.2.2.1) ≤ room_1.cells) (h2 : slots + (g.2.2.2.2 - g'.2.2.2.2) ≤ room_1.slots) (hM : xCon l d k [vR (t + 1) i] g g')
    (kk : ∀ (ad' : Nat → Nat → Nat) (ca' : Nat → Nat → ClassId) (H1 : Heap) (locs1 : List Loc), xExt g.1 ad g'.1 ad' → xrvG g'.1 g'.2.1 → xWd D ad' ca' g'.1 g'.2.1 (xsl g'.2.2.1) A s H1 → va_S A s.heap H1 locs1 → W p l e room_1 s m args below meth c H1 locs1 (cells + (g.2.2.2.1 - g'.2.2.2.1)) (slots + (g.2.2.2.2 - g'.2.2.2.2)) Q (F0 m (pc + 3) ls r)) :
    W p l e room_1 s m args below meth c H locs cells slots Q (F0 m pc ls (.ref (ad (t + 1) i) :: r)) := by
  have hb1 : xoks g.1 [vR (t + 1) i] := xoks_c.mpr ⟨ho, fun v hv => by cases hv⟩
  obtain ⟨hinst, -, hpar, hct, hpos, hkk⟩ := xm_i hk h0
  obtain ⟨hinit, hrk, hcls, hmh, -⟩ := xm_a hk
  obtain ⟨hx0, hbb, hml, hown, hts, hex, -, hro, hK⟩ := id F
  have hF := ysub F hW hS
  have eR : xcv ad (vR (t + 1) i) = .ref (ad (t + 1) i) := rfl
  have hp : PreS s H (va_Pc ([vR (t + 1) i].map (xcv ad)) (xPreG D ad ca H.size g.1 g.2.1 (xsl g.2.2.1) [vR (t + 1) i])) (.ref (ad (t + 1) i) :: []) :=
    ⟨xPreG.blind, fun U hU hWU => ⟨rfl, ypreG_at F hW hG hS hb1 hU hWU⟩⟩
  have hret : (xy k).2.2 = none := xrk_0 hrk hvoid
  have hM := hM D ad ca H.size
  have hws := xgoodIn (xws_in hk)
  have hcode : xws k = Cond.code (xy k).1 (xy k).2.1 (xrec k).2.1 none :: xGT := by
    show Cond.code (xy k).1 (xy k).2.1 (xrec k).2.1 (xy k).2.2 :: xGT = _
    rw [hret]
  have hpar0 : (parseMethodDescriptor (xy k).1.desc).map (fun d => d.parameters.length) = some 0 := by rw [hpar, hn]
  have hroom := xroom_ok (R := room_1) hk hRf hRl
  have hrun : va_Run p l e room_1 s m args below meth c H locs cells slots (g.2.2.2.1 - g'.2.2.2.1) (g.2.2.2.2 - g'.2.2.2.2) (F0 m pc ls (.ref (ad (t + 1) i) :: r)) r (xQg g.1 ad g' D (xAs ad g.1 H.size) (Value.ref (ad (t + 1) i) :: []).toArray) (xAs ad g.1 H.size) :=
    va_runI (n := 0) ⟨hx0, hbb, hml, hown, hts⟩ hM ⟨callB_of 0 hts hws hcode rfl rfl (hts _ hinit) (hts _ hw) ⟨hmh.1, hmh.2, hpar0⟩ hroom, hini, hts _ hinst⟩ hp rfl rfl hl.1 rfl (lv_room hr8) hd ⟨h1, h2⟩
  refine va_callv (a := (Value.ref (ad (t + 1) i) :: []).toArray) hrun hS (fun q _ h => hF q h) hF (fun u t H1 locs1 ht hvm hp hB hz hk hS1 => ?_)
  exact kk u.1 u.2 H1 locs1 hp.1 hp.2 (by rw [ht] at hB; exact hB.moved hvm.symm (fun t i _ h => hF _ h)) hS1
theorem xWd_0 : xWd D ad ca (fun _ => 0) (fun _ _ _ => (0, 0)) (xsl []) A s s.heap := by
  refine ⟨fun t i h => absurd h.2.2 (Nat.not_lt_zero _), fun t i t' i' h => absurd h.2.2 (Nat.not_lt_zero _), fun t i h => absurd h.2.2 (Nat.not_lt_zero _), fun t i k => ⟨by show (-2147483648 : Int) ≤ 0; decide, by show (0 : Int) < 2147483648; decide⟩, fun t i k h => absurd h.2.2 (Nat.not_lt_zero _), fun t i h => absurd h.2.2 (Nat.not_lt_zero _)⟩
end YG
set_option maxRecDepth 100000 in
theorem whole_start {p : Program} {e : Env} {s : State} {m : MethodId} {below : List Frame} {meth : Method} {c : Code} (l : Launch) (hflags : l.flags = flags0) {b L : Nat} {xs : Nat → Int32} (hL : L ≤ 3072) (C0 : lw_At p s m meth c b L xs) : W p l e room_1 s m #[Value.ref b] below meth c s.heap [] 0 0 (lw_Z below #[Value.ref b] s) (entryFrame m ([Value.ref b] : List Value).toArray 4) := by
  obtain ⟨hx, hb, hr, hml, hown, hts, hX, hbl, hlocks, hgv⟩ := id C0
  have hA : ∀ q : Nat, s.heap.size ≤ q → (fun q : Nat => s.heap.size ≤ q) q := fun _ h => h
  have hbA : ¬ (fun q : Nat => s.heap.size ≤ q) b := Nat.not_le.mpr hbl
  have htG : ∀ w ∈ xGT, w.before #[Value.ref b] s = true := fun w hw => hts w (List.mem_filter.mp hw).1
  obtain ⟨D, hK⟩ := y_known htG
  obtain ⟨ad, hro, hR⟩ := y_ro hts (fun w hw => flat_of_before _ hgv w hw)
  have F : yFix p s m #[Value.ref b] c (fun q : Nat => s.heap.size ≤ q) ad D := ⟨hx, hb, hml, hown, htG, ⟨y_nest hts, y_AO hts, y_AOa hts, hR⟩, hA, hro, hK⟩
  obtain ⟨gP, gM, hP, hM, hcan, h40, hcnt, hrho, hset⟩ := xgP_ex
  obtain ⟨bd1, bd2⟩ := xgP_bd hP
  have hl := lv_entry ([.ref b]) (n := 4) (Nat.le_of_ble_eq_true rfl)
  rw [lg_entry_eq]
  generalize (lg_sl ([.ref b]) ++ List.replicate (4 - (lg_sl ([.ref b])).length) Slot.unset).toArray = ls at hl ⊢
  have hl : lv_has ls 4 [(0, .ref b)] := hl
  have hR0 : room_1.cells = 600000 := rfl
  have hR1 : room_1.slots = 7302250 := rfl
  have hz4 : xsz 4 = 10 := by decide +kernel
  have hz40 : xsz 40 = 24 := by decide +kernel
  refine xq_new (t := 4) (ad := ad) (ca := fun _ _ => 0) (cnt := fun _ => 0) (ρ := fun _ _ _ => (0, 0)) (σ := xsl []) hx hb htG hown hK hA xWd_0 (fun _ _ _ => Or.inl rfl) va_S.rf (by decide +kernel) yw_c4 (xinN_ok (t := 4) (q := (93, 73)) (by decide +kernel)).1 (xinN_ok (t := 4) (q := (93, 73)) (by decide +kernel)).2 (by omega) (by omega) yd_0 (fun q4 H1 hW1 hG1 hS1 => ?_)
  have ez : xzr (xsl []) 4 0 = xsl [] := xsl_free [] 4 0 rfl
  have hW1 : xWd D (xadd ad 4 0 q4) (xadd (fun _ _ => 0) 4 0 0) (xgnew 4 xg0).1 (xgnew 4 xg0).2.1 (xsl (xgnew 4 xg0).2.2.1) (fun q : Nat => s.heap.size ≤ q) s H1 := by
    rw [ez] at hW1
    exact hW1
  have F1 : yFix p s m #[Value.ref b] c (fun q : Nat => s.heap.size ≤ q) (xadd ad 4 0 q4) D := F.ad (xadd_lo (by decide))
  refine lv_dup hx hb yd_3 rfl ?_
  have e4 : (q4 : Nat) = xadd ad 4 0 q4 4 0 := xadd_at.symm
  refine W.widen (k := 1) (n := 10) (by omega) (by omega) ?_
  have go : ∀ x : Nat, x = xadd ad 4 0 q4 4 0 → W p l e room_1 s m #[Value.ref b] below meth c H1 [] 1 10 (lw_Z below #[Value.ref b] s) (F0 m 4 ls [.ref x, .ref q4]) := by
    intro x ex
    rw [ex]
    refine y_callG (t := 3) (i := 0) (k := m_P_init) (d := 700) (g := xgnew 4 xg0) (g' := gP) F1 hW1 xrvG_0 hS1 hl yd_4 yw_m4 (by decide) (by decide +kernel) (by decide +kernel) (by decide +kernel) (by decide +kernel) (Or.inr (Or.inr (Or.inr (Or.inr ⟨by decide, by decide, by decide +kernel⟩)))) (Nat.le_of_ble_eq_true rfl) (Nat.le_of_ble_eq_true rfl) (Nat.le_of_ble_eq_true rfl) (by show 1 + (199 - gP.2.2.2.1) ≤ 600000; omega) (by show 10 + (20000 - xsz 4 - gP.2.2.2.2) ≤ 7302250; omega) (xconP l hP) (fun ad2 ca2 H2 locs2 X2 hG2 hW2 hS2 => ?_)
    refine W.widen (k := 200) (n := 20010) (by show 1 + (199 - gP.2.2.2.1) ≤ 200; omega) (by show 10 + (20000 - xsz 4 - gP.2.2.2.2) ≤ 20010; omega) ?_
    have e2 : ad2 4 0 = q4 := (X2.1 4 0 (Or.inr (Or.inr (Or.inr ⟨by decide, by decide, by decide +kernel⟩)))).2.trans xadd_at
    have F2 : yFix p s m #[Value.ref b] c (fun q : Nat => s.heap.size ≤ q) ad2 D := F1.ad X2.2
    refine lv_astore_n (lv' := [(1, .ref q4), (0, .ref b)]) hx hb yd_7 rfl hl (by decide) rfl (fun ls2 hl2 => ?_)
    refine xq_new (t := 40) (ad := ad2) (ca := ca2) (cnt := gP.1) (ρ := gP.2.1) (σ := xsl gP.2.2.1) hx hb htG hown hK hA hW2 hG2 hS2 (by decide +kernel) yw_c40 (xinN_ok (t := 40) (q := (985, 83)) (by decide +kernel)).1 (xinN_ok (t := 40) (q := (985, 83)) (by decide +kernel)).2 (by omega) (by omega) yd_8 (fun q40 H3 hW3 hG3 hS3 => ?_)
    have hfree : xfree gP.2.2.1 40 (gP.1 40) = true := by
      have h1 := hcan
      unfold xgcan at h1
      exact (Bool.and_eq_true _ _ ▸ (Bool.and_eq_true _ _ ▸ h1).1).1
    rw [xsl_free _ _ _ hfree] at hW3
    have hW3 : xWd D (xadd ad2 40 (gP.1 40) q40) (xadd ca2 40 (gP.1 40) 0) (xgnew 40 gP).1 (xgnew 40 gP).2.1 (xsl (xgnew 40 gP).2.2.1) (fun q : Nat => s.heap.size ≤ q) s H3 := hW3
    rw [h40] at hW3
    have F3 : yFix p s m #[Value.ref b] c (fun q : Nat => s.heap.size ≤ q) (xadd ad2 40 0 q40) D := F2.ad (xadd_lo (by decide))
    have X3 : xExt gP.1 ad2 (xgnew 40 gP).1 (xadd ad2 40 0 q40) := by
      have h1 : xExt gP.1 ad2 (xcn gP.1 40) (xadd ad2 40 (gP.1 40) q40) := xExt.one (by decide)
      rw [h40] at h1
      exact h1
    refine lv_dup hx hb yd_11 rfl ?_
    refine W.widen (k := 201) (n := 20034) (by omega) (by omega) ?_
    have go2 : ∀ y : Nat, y = xadd ad2 40 0 q40 40 0 → W p l e room_1 s m #[Value.ref b] below meth c H3 locs2 201 20034 (lw_Z below #[Value.ref b] s) (F0 m 12 ls2 [.ref y, .ref q40]) := by
      intro y ey
      rw [ey]
      have c40 : 0 < (xgnew 40 gP).1 40 := by
        show 0 < xcn gP.1 40 40
        unfold xcn
        rw [if_pos rfl]
        omega
      refine y_callG (t := 39) (i := 0) (k := m_M_init) (d := 200) (g := xgnew 40 gP) (g' := gM) F3 hW3 (xrvG_new (by decide) hG2) hS3 hl2 yd_12 yw_m40 (by decide) (by decide +kernel) (by decide +kernel) (by decide +kernel) (by decide +kernel) (Or.inr (Or.inr (Or.inr (Or.inr ⟨by decide, by decide, c40⟩)))) (Nat.le_of_ble_eq_true rfl) (Nat.le_of_ble_eq_true rfl) (Nat.le_of_ble_eq_true rfl) (by show 201 + (gP.2.2.2.1 - 1 - gM.2.2.2.1) ≤ 600000; omega) (by show 20034 + (gP.2.2.2.2 - xsz 40 - gM.2.2.2.2) ≤ 7302250; omega) (xconM l hM hG2) (fun ad4 ca4 H4 locs4 X4 hG4 hW4 hS4 => ?_)
      refine W.widen (k := 600000) (n := 7302250) (by show 201 + (gP.2.2.2.1 - 1 - gM.2.2.2.1) ≤ 600000; omega) (by show 20034 + (gP.2.2.2.2 - xsz 40 - gM.2.2.2.2) ≤ 7302250; omega) ?_
      have o4 : xokr gP.1 4 0 := (X2.1 4 0 (Or.inr (Or.inr (Or.inr ⟨by decide, by decide, by decide +kernel⟩)))).1
      have f4 : ad4 4 0 = q4 := (((X4.1 4 0 (X3.1 4 0 o4).1).2).trans (X3.1 4 0 o4).2).trans e2
      have f40 : ad4 40 0 = q40 := ((X4.1 40 0 (Or.inr (Or.inr (Or.inr ⟨by decide, by decide, c40⟩)))).2).trans xadd_at
      have F4 : yFix p s m #[Value.ref b] c (fun q : Nat => s.heap.size ≤ q) ad4 D := F3.ad X4.2
      have hW5 := xWd_fin hW4 hcnt hrho hset
      refine lv_astore_n (lv' := [(2, .ref q40), (1, .ref q4), (0, .ref b)]) hx hb yd_15 rfl hl2 (by decide) rfl (fun ls3 hl3 => ?_)
      refine lv_iconst (v := nI 0) hx hb yd_16 rfl ?_
      refine lv_istore_n (lv' := [(3, .int (nI 0)), (2, .ref q40), (1, .ref q4), (0, .ref b)]) hx hb yd_17 rfl hl3 (by decide) rfl (fun ls4 hl4 => ?_)
      have hl5 : lv_has ls4 4 [(0, .ref b), (1, .ref (ad4 4 0)), (2, .ref (ad4 40 0)), (3, .int (nI 0))] := by
        rw [f4, f40]
        exact lv_sub hl4 [3, 2, 1, 0] rfl
      refine y_loop F4 hX hbl hbA hL (Nat.le_of_ble_eq_true rfl) (Nat.le_of_ble_eq_true rfl) (fun H5 locs5 ls5 hS5 => ?_) L 0 xsig0 H4 locs4 ls4 (by omega) (by omega) Inv_0 hW5 hS4 hl5
      refine lv_iconst (v := 1) hx hb yd_1303 rfl ?_
      refine va_forget (fun q hq => hS5.2.2 q hq) ?_
      exact lw_ret hx hb hr hlocks yd_1304
    exact go2 q40 xadd_at.symm
  exact go q4 e4
