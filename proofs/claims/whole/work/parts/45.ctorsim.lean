/-! CONSTRUCTORS: their contract, their calls -/
def xPreG (D : va_G) (ad : Nat → Nat → Nat) (ca : Nat → Nat → ClassId) (sz : Nat) (cnt : Nat → Nat) (ρ : xP) (σ : xM) (as : List xV) (U : State) : Prop :=
  U.heap.size = sz ∧ xWd D ad ca cnt ρ σ (xAs ad cnt sz) U U.heap ∧ xrvG cnt ρ ∧ va_K D xcl [] U ∧ xEx ad U ∧ xROk ad (xAs ad cnt sz) U U.heap ∧ xoks cnt as
theorem xPreG.blind {D : va_G} {ad : Nat → Nat → Nat} {ca : Nat → Nat → ClassId} {sz : Nat} {cnt : Nat → Nat} {ρ : xP} {σ : xM} {as : List xV} : FrameBlind (va_Pc (as.map (xcv ad)) (xPreG D ad ca sz cnt ρ σ as)) := by
  rintro a U g mk ⟨e, h1, h2, hG, h3, h4, h5, h6⟩
  exact ⟨e, h1, h2.moved (U := U.calling g mk a) (Vm.Alike.refl U.vm) (fun _ _ _ h => h), hG, va_K.moved (u := U) (U := U.calling g mk a) (Vm.Alike.refl U.vm) h3, h4.same (u := U) (U := U.calling g mk a) rfl, h5.moved (U := U.calling g mk a) (Vm.Alike.refl U.vm), h6⟩
abbrev xAd : Type := (Nat → Nat → Nat) × (Nat → Nat → ClassId)
def xQg (cnt0 : Nat → Nat) (ad0 : Nat → Nat → Nat) (g : xGt) (D : va_G) (A : Nat → Prop) : Array Value → State → Outcome → State → Prop :=
  va_Qv (fun u : xAd => xExt cnt0 ad0 g.1 u.1 ∧ xrvG g.1 g.2.1) (fun u t => xWd D u.1 u.2 g.1 g.2.1 (xsl g.2.2.1) A t t.heap) A
/-- a constructor's contract -/
def xCon (l : Launch) (d k : Nat) (as : List xV) (g g' : xGt) : Prop := ∀ (D : va_G) (ad : Nat → Nat → Nat) (ca : Nat → Nat → ClassId) (sz : Nat),
  Met l (xy k).1 (xws k) (xroom d (g.2.2.2.1 - g'.2.2.2.1) (g.2.2.2.2 - g'.2.2.2.2)) (va_Pc (as.map (xcv ad)) (xPreG D ad ca sz g.1 g.2.1 (xsl g.2.2.1) as)) (xQg g.1 ad g' D (xAs ad g.1 sz)) (g.2.2.2.1 - g'.2.2.2.1) (g.2.2.2.2 - g'.2.2.2.2) (xAs ad g.1 sz)
section XK
variable {p : Program} {l : Launch} {e : Env} {R : Room} {s : State} {m : MethodId} {args : Array Value} {below : List Frame} {meth : Method} {c : Code} {cells slots : Nat} {Q : State → Prop}
variable {M : Nat} {A : Nat → Prop} {ad : Nat → Nat → Nat} {ca : Nat → Nat → ClassId} {D : va_G} {cnt : Nat → Nat} {ρ : xP} {σ : xM}
theorem xsubG {H : Heap} {locs : List Loc} (F : xFix p s m args meth c M A ad D) (hW : xWd D ad ca cnt ρ σ A s H) (hS : va_S A s.heap H locs) : ∀ q, xAs ad cnt H.size q → A q := by
  intro q hq
  rcases hq with ⟨t, i, hv, rfl⟩ | hq
  · exact hW.2.2.1 t i hv
  · exact F.2.2.2.2.2.2.2.2.1 q (Nat.le_trans hS.1 hq)
theorem xpreG_at {H : Heap} {locs : List Loc} {as : List xV} (F : xFix p s m args meth c M A ad D) (hW : xWd D ad ca cnt ρ σ A s H) (hG : xrvG cnt ρ) (hS : va_S A s.heap H locs) (hs : xoks cnt as) {U : State} (hU : U.heap = H) (hWU : s.WarmedH U.vm) : xPreG D ad ca H.size cnt ρ σ as U := by
  refine ⟨by rw [hU], ?_, hG, va_K.moved hWU.alike F.2.2.2.2.2.2.2.2.2.2.1, F.2.2.2.2.2.2.2.1.warm hWU, ?_, hs⟩
  · rw [hU]
    exact hW.moved hWU.alike (fun t i hv _ => Or.inl ⟨t, i, hv, rfl⟩)
  · rw [hU]
    exact ((F.2.2.2.2.2.2.2.2.2.1.kept hS.2.1).narrow (xsubG F hW hS)).moved hWU.alike
theorem xo_callG {pc x d k kd t i : Nat} {L r : List xV} {g g' : xGt} (F : xFix p s m args meth c M A ad D) (hd : decode (xy M).2.1 pc = .ok (.invokespecial x, 3)) (hc : xcal (xrec M).1 x = some (k, kd)) (hkd : kd = 2 ∨ kd = 4) (hk : k < xN) (hini : (xy k).1.name = "<init>") (hvoid : (xrec k).2.2.1 = 0) (h0 : (xrec k).2.2.2.1 = t) (ht : t ≠ 0) (hn : (xrec k).2.2.2.2 = 1) (hr8 : xrs r = true)
    (hRf : d + 2 ≤ R.frames) (hRl : 40 * d + 80 ≤ R.locals) (h1 : cells + (g.2.2.2.1 - g'.2.2.2.1) ≤ R.cells) (h2 : slots + (g.2.2.2.2 - g'.2.2.2.2) ≤ R.slots) (hG : xrvG g.1 g.2.1) (hM : xCon l d k [vR t i] g g')
    (kk : ∀ (ad' : Nat → Nat → Nat) (ca' : Nat → Nat → ClassId), xExt g.1 ad g'.1 ad' → xrvG g'.1 g'.2.1 → xNx p l e R s m args below meth c (cells + (g.2.2.2.1 - g'.2.2.2.1)) (slots + (g.2.2.2.2 - g'.2.2.2.2)) Q M A ad' ca' D g'.1 g'.2.1 (pc + 3) L r (xsl g'.2.2.1)) :
    xNx p l e R s m args below meth c cells slots Q M A ad ca D g.1 g.2.1 pc L (vR t i :: r) (xsl g.2.2.1) := by
  obtain ⟨t', rfl⟩ : ∃ t', t = t' + 1 := ⟨t - 1, by omega⟩
  intro H locs ls hW hS hL hs
  obtain ⟨ho, hr⟩ := xoks_c.mp hs
  have hb1 : xoks g.1 [vR (t' + 1) i] := xoks_c.mpr ⟨ho, fun v hv => by cases hv⟩
  have hsum := xrs_sum (ad := ad) hr8
  obtain ⟨hinst, -, hpar, hct, hpos, hkk⟩ := xm_i hk h0
  obtain ⟨hinit, hrk, hcls, hmh, -⟩ := xm_a hk
  have hw := (xcal_w hc).1
  obtain ⟨hx0, hbb, hml, -, hown, -, hts, hex, -, hro, hK, -⟩ := id F
  have hF := xsubG F hW hS
  have eR : xcv ad (vR (t' + 1) i) = .ref (ad (t' + 1) i) := rfl
  have hp : PreS s H (va_Pc ([vR (t' + 1) i].map (xcv ad)) (xPreG D ad ca H.size g.1 g.2.1 (xsl g.2.2.1) [vR (t' + 1) i])) (.ref (ad (t' + 1) i) :: []) :=
    ⟨xPreG.blind, fun U hU hWU => ⟨rfl, xpreG_at F hW hG hS hb1 hU hWU⟩⟩
  have hret : (xy k).2.2 = none := xrk_0 hrk hvoid
  have hM := hM D ad ca H.size
  have hws := xgoodIn (xws_in hk)
  rw [List.map_cons, eR]
  have hrun : va_Run p l e R s m args below meth c H locs cells slots (g.2.2.2.1 - g'.2.2.2.1) (g.2.2.2.2 - g'.2.2.2.2) (F0 m pc ls (.ref (ad (t' + 1) i) :: r.map (xcv ad))) (r.map (xcv ad)) (xQg g.1 ad g' D (xAs ad g.1 H.size) (Value.ref (ad (t' + 1) i) :: []).toArray) (xAs ad g.1 H.size) := by
    have hcode : xws k = Cond.code (xy k).1 (xy k).2.1 (xrec k).2.1 none :: xGT := by
      show Cond.code (xy k).1 (xy k).2.1 (xrec k).2.1 (xy k).2.2 :: xGT = _
      rw [hret]
    have hpar0 : (parseMethodDescriptor (xy k).1.desc).map (fun d => d.parameters.length) = some 0 := by rw [hpar, hn]
    have hroom := xroom_ok (R := R) hk hRf hRl
    rcases hkd with rfl | rfl
    · exact va_runI (n := 0) ⟨hx0, hbb, hml, hown, hts⟩ hM ⟨callB_of 0 hts hws hcode rfl rfl (hts _ hinit) (hts _ (xGT_m hw rfl)) ⟨hmh.1, hmh.2, hpar0⟩ hroom, hini, hts _ hinst⟩ hp rfl rfl hL.1 rfl (lv_room hsum) hd ⟨h1, h2⟩
    · exact va_runIN (n := 0) ⟨hx0, hbb, hml, hown, hts⟩ hM ⟨va_cnB 0 hts hws hcode rfl rfl (hex.1 _ (xnest_m hw)) (hts _ hinit) ⟨hmh.1, hmh.2, hpar0⟩ hroom, hini, hts _ hinst⟩ hp rfl rfl hL.1 rfl (lv_room hsum) hd ⟨h1, h2⟩
  refine va_callv (a := (Value.ref (ad (t' + 1) i) :: []).toArray) hrun hS (fun q _ h => hF q h) hF (fun u t H1 locs1 ht hvm hp hB hz hk hS1 => ?_)
  have h := kk u.1 u.2 hp.1 hp.2 H1 locs1 ls (by rw [ht] at hB; exact hB.moved hvm.symm (fun t i _ h => hF _ h)) hS1 (hp.1.lr hL) (hp.1.oks hr)
  rw [hp.1.map hr] at h
  exact h
end XK
