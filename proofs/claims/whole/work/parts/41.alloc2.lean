/-! NEW CELLS, on: arrays, references, Object's constructor -/
section XC
variable {p : Program} {l : Launch} {e : Env} {R : Room} {s : State} {m : MethodId} {args : Array Value} {below : List Frame} {meth : Method} {c : Code} {cells slots : Nat} {Q : State → Prop}
variable {M : Nat} {A : Nat → Prop} {ad : Nat → Nat → Nat} {ca : Nat → Nat → ClassId} {D : va_G} {cnt : Nat → Nat} {ρ : xP} {σ : xM}
theorem xWd.set2 {U : State} {H H1 : Heap} {ρ' : xP} {σ' : xM} {t i q0 : Nat} {e : va_E} (h : xWd D ad ca cnt ρ σ A U H) (hv : xvd cnt t i) (hq : (xids cnt)[q0]? = some (t, i)) (hP : va_P D xcl ((xW ad ca cnt ρ σ).set q0 (ad t i, e)) H1) (he : xE ad ca ρ' σ' t i = e)
    (ho : ∀ t' i', (t', i') ≠ (t, i) → xE ad ca ρ' σ' t' i' = xE ad ca ρ σ t' i') (hrg : xrg σ') (hrv : xrv cnt ρ') : xWd D ad ca cnt ρ' σ' A U H1 := by
  refine ⟨fun t' i' hv' => ?_, h.2.1, h.2.2.1, hrg, hrv, h.2.2.2.2.2⟩
  by_cases hc : (t', i') = (t, i)
  · obtain ⟨rfl, rfl⟩ := Prod.mk.inj hc
    rw [he]
    refine hP q0 _ ?_
    have hlt : q0 < (xW ad ca cnt ρ σ).length := by
      unfold xW
      rw [List.length_map]
      exact (List.getElem?_eq_some_iff.mp hq).1
    exact List.getElem?_set_self hlt
  · obtain ⟨k, hk, hk2⟩ := xW_idx (ad := ad) (ca := ca) (ρ := ρ) (σ := σ) hv'
    rw [ho t' i' hc]
    refine hP k _ ?_
    have hne : q0 ≠ k := by
      intro e
      subst e
      exact hc (Option.some.inj (hk.symm.trans hq))
    rw [List.getElem?_set_ne hne]
    exact hk2
theorem xru_ne {t i k : Nat} {v : Nat × Nat} {a b : Nat} (h : (a, b) ≠ (t, i)) (j : Nat) : xru ρ t i k v a b j = ρ a b j := by
  unfold xru
  rw [if_neg]
  rintro ⟨rfl, rfl, -⟩
  exact h rfl
theorem xru_at {t i k : Nat} {v : Nat × Nat} (j : Nat) : xru ρ t i k v t i j = if j = k then v else ρ t i j := by
  unfold xru
  by_cases h : j = k
  · rw [if_pos ⟨rfl, rfl, h⟩, if_pos h]
  · rw [if_neg (fun q => h q.2.2), if_neg h]
theorem xE_rcongr {ρ' : xP} {t i : Nat} (h : ∀ k, ρ' t i k = ρ t i k) : xE ad ca ρ' σ t i = xE ad ca ρ σ t i := by
  unfold xE
  have h1 : (fun k => xcv ad (xfv ρ' σ t i k)) = fun k => xcv ad (xfv ρ σ t i k) := funext fun k => by unfold xfv; rw [h k]
  have h2 : (fun j => cond (Nat.beq (ρ' t i j).1 0) none (some (ad (ρ' t i j).1 (ρ' t i j).2))) = fun j => cond (Nat.beq (ρ t i j).1 0) none (some (ad (ρ t i j).1 (ρ t i j).2)) := funext fun j => by rw [h j]
  rw [h1, h2]
theorem xfv_rcongr {ρ' : xP} {t i k : Nat} (h : ρ' t i k = ρ t i k) : xfv ρ' σ t i k = xfv ρ σ t i k := by
  unfold xfv
  rw [h]
theorem xru_G {t i k : Nat} {v : Nat × Nat} (hG : xrvG cnt ρ) (hv : v.1 = 0 ∨ xokr cnt v.1 v.2) : xrvG cnt (xru ρ t i k v) := by
  intro a b j
  unfold xru
  by_cases h : a = t ∧ b = i ∧ j = k
  · rw [if_pos h]; exact hv
  · rw [if_neg h]; exact hG a b j
theorem xo_newa (F : xFix p s m args meth c M A ad D) {pc t : Nat} {aty : ArrayType} {L r : List xV} (hd : decode (xy M).2.1 pc = .ok (.newarray aty, 2)) (hk : xkind t = 2 ∨ xkind t = 3) (hty : newarray.typeOf aty = xaty t) (hw : Cond.arrayClass (xaty t) ∈ xGT) (hG : xrvG cnt ρ) (hcells : cells + 1 ≤ R.cells) (hslots : slots + xsz t ≤ R.slots)
    (k : ∀ (q : Nat) (cA : ClassId), xNx p l e R s m args below meth c (cells + 1) (slots + xsz t) Q M A (xadd ad t (cnt t) q) (xadd ca t (cnt t) cA) D (xcn cnt t) (xr0 ρ t (cnt t)) (pc + 2) L (vR t (cnt t) :: r) (xzr σ t (cnt t))) :
    xNx p l e R s m args below meth c cells slots Q M A ad ca D cnt ρ pc L (vI (xlen t) :: r) σ := by
  intro H locs ls hW hS hL hs
  obtain ⟨hx0, hr⟩ := xoks_c.mp hs
  have hk0 : xkind t ≠ 0 := by omega
  have ht4 : 4 ≤ t := xkind_4 hk0
  obtain ⟨el, hl⟩ := xlen_ok (t := t) (by omega)
  have h0 : 0 ≤ xlen t := by rw [el]; omega
  obtain ⟨hx, hb, hml, -, hown, -, hts, hex, hA, hro, hK, -⟩ := id F
  have hdv : defaultValue (xaty t) = .int (Int32.ofInt 0) := by
    rcases hk with h | h
    · rw [xarr_2 h]; rfl
    · rw [xarr_3 h]; rfl
  have hcb : componentBytes (xaty t) ≤ 4 := by
    rcases hk with h | h
    · rw [xarr_2 h]; decide
    · rw [xarr_3 h]; decide
  have hsz : xsz t ≤ 2000 := by
    have : ∀ t, t < 57 → xsz t ≤ 2000 := by decide +kernel
    exact this t (xkind_lt hk0)
  refine va_newa (atype := aty) (a0 := (xsz t, .inl (fun _ => Int32.ofInt 0))) hx hb (by rw [hty]; exact hts _ hw) hty hK hW.P hW.Dd hS hA (fun cA => by rw [vp_cell_i, hdv]) (fun q => by rw [xn_0, xn_lt hx0 xn_r0] at q; omega) (by rw [xn_nat h0 hx0, el]; rfl) (Nat.le_trans (Nat.mul_le_mul hsz hcb) (by decide)) hcells hslots hd (fun q cA H1 hK1 hP1 hD1 hS1 => ?_)
  have he : (Sum.inl (cA, xsz t, .inl (fun _ => Int32.ofInt 0)) : va_E) = xE (xadd ad t (cnt t) q) (xadd ca t (cnt t) cA) (xr0 ρ t (cnt t)) (xzr σ t (cnt t)) t (cnt t) := by
    rw [xE_i (by omega) (by omega), xadd_at]
    congr 4
    funext j
    unfold xzr
    rw [if_pos ⟨rfl, rfl⟩]
  obtain ⟨hW1, hG1⟩ := hW.push hG ht4 hP1 hD1 he (fun _ => hK1.2 0 _ rfl)
  have h := k q cA H1 locs ls hW1 hS1 (xLr_up hL ht4) (xoks_c.mpr ⟨Or.inr (Or.inr (Or.inr (Or.inr ⟨ht4, xkind_lt hk0, by show cnt t < xcn cnt t t; unfold xcn; rw [if_pos rfl]; omega⟩))), fun v hv => xok_up (hr v hv) ht4⟩)
  rw [List.map_cons, xcv_R (xb0 hk0), xadd_at, xmap_up hr ht4] at h
  exact h
theorem xo_newq (F : xFix p s m args meth c M A ad D) {pc x t : Nat} {C : String} {L r : List xV} (hd : decode (xy M).2.1 pc = .ok (.anewarray x, 3)) (hk : xkind t = 4) (hty : xaty t = .object C) (hC : C ∈ ["PlayParts$Role", "PlayParts$Child", "PlayParts$Text", "PlayParts$Sheet"]) (hw : Cond.classLink (xow M) x C ∈ xGT) (hG : xrvG cnt ρ) (hcells : cells + 1 ≤ R.cells) (hslots : slots + xsz t ≤ R.slots)
    (k : ∀ (q : Nat) (cA : ClassId), xNx p l e R s m args below meth c (cells + 1) (slots + xsz t) Q M A (xadd ad t (cnt t) q) (xadd ca t (cnt t) cA) D (xcn cnt t) (xr0 ρ t (cnt t)) (pc + 3) L (vR t (cnt t) :: r) (xzr σ t (cnt t))) :
    xNx p l e R s m args below meth c cells slots Q M A ad ca D cnt ρ pc L (vI (xlen t) :: r) σ := by
  intro H locs ls hW hS hL hs
  obtain ⟨hx0, hr⟩ := xoks_c.mp hs
  have hk0 : xkind t ≠ 0 := by omega
  have ht4 : 4 ≤ t := xkind_4 hk0
  obtain ⟨el, hl⟩ := xlen_ok (t := t) (by omega)
  have h0 : 0 ≤ xlen t := by rw [el]; omega
  obtain ⟨hx, hb, hml, -, hown, -, hts, hex, hA, hro, hK, -⟩ := id F
  have hsz : xsz t ≤ 2000 := by
    have : ∀ t, t < 57 → xsz t ≤ 2000 := by decide +kernel
    exact this t (xkind_lt hk0)
  refine va_newq (C := C) (N' := xsz t) hx hb hown (hts _ hw) (hex.2.1 C hC) hK hW.P hW.Dd hS hA (fun q => by rw [xn_0, xn_lt hx0 xn_r0] at q; omega) (by rw [xn_nat h0 hx0, el]; rfl) (by omega) hcells hslots hd (fun q cA H1 hK1 hP1 hD1 hS1 => ?_)
  have he : (Sum.inl (cA, xsz t, .inr (.inr (.inr (.inr (fun _ => none))))) : va_E) = xE (xadd ad t (cnt t) q) (xadd ca t (cnt t) cA) (xr0 ρ t (cnt t)) (xzr σ t (cnt t)) t (cnt t) := by
    rw [xE_q hk, xadd_at]
    congr 7
    funext j
    unfold xr0
    rw [if_pos ⟨rfl, rfl⟩]
    rfl
  obtain ⟨hW1, hG1⟩ := hW.push hG ht4 hP1 hD1 he (fun _ => by rw [hty]; exact hK1.2 0 _ rfl)
  have h := k q cA H1 locs ls hW1 hS1 (xLr_up hL ht4) (xoks_c.mpr ⟨Or.inr (Or.inr (Or.inr (Or.inr ⟨ht4, xkind_lt hk0, by show cnt t < xcn cnt t t; unfold xcn; rw [if_pos rfl]; omega⟩))), fun v hv => xok_up (hr v hv) ht4⟩)
  rw [List.map_cons, xcv_R (xb0 hk0), xadd_at, xmap_up hr ht4] at h
  exact h
theorem xo_newo (F : xFix p s m args meth c M A ad D) {pc x t : Nat} {L r : List xV} (hd : decode (xy M).2.1 pc = .ok (.new x, 3)) (ht : xkind t = 1) (hcl : Cond.classLink (xow M) x (xCt t) ∈ xGT) (hinst : Cond.instantiable (xCt t) (xsz t) ∈ xGT) (hini : Cond.initialized (xCt t) ∈ xGT) (hG : xrvG cnt ρ) (hcells : cells + 1 ≤ R.cells) (hslots : slots + xsz t ≤ R.slots)
    (k : ∀ (q : Nat), xNx p l e R s m args below meth c (cells + 1) (slots + xsz t) Q M A (xadd ad t (cnt t) q) (xadd ca t (cnt t) 0) D (xcn cnt t) (xr0 ρ t (cnt t)) (pc + 3) L (vR t (cnt t) :: r) (xzr σ t (cnt t))) :
    xNx p l e R s m args below meth c cells slots Q M A ad ca D cnt ρ pc L r σ := by
  intro H locs ls hW hS hL hr
  have hk0 : xkind t ≠ 0 := by omega
  have ht4 : 4 ≤ t := xkind_4 hk0
  obtain ⟨hx, hb, hml, -, hown, -, hts, hex, hA, hro, hK, -⟩ := id F
  refine xq_new hx hb hts hown hK hA hW hG hS ht hcl hinst hini hcells hslots hd (fun q H1 hW1 hG1 hS1 => ?_)
  have h := k q H1 locs ls hW1 hS1 (xLr_up hL ht4) (xoks_c.mpr ⟨Or.inr (Or.inr (Or.inr (Or.inr ⟨ht4, xkind_lt hk0, by show cnt t < xcn cnt t t; unfold xcn; rw [if_pos rfl]; omega⟩))), fun v hv => xok_up (hr v hv) ht4⟩)
  rw [List.map_cons, xcv_R (xb0 hk0), xadd_at, xmap_up hr ht4] at h
  exact h
theorem xref_n {ty : FieldType} (h : ty.isReference = true) (a : Nat) : narrow ty (.ref a) = .ref a ∧ fits ty (.ref a) = true := by cases ty <;> first | (cases h; done) | exact ⟨rfl, rfl⟩
theorem xo_putr (F : xFix p s m args meth c M A ad D) {pc x : Nat} {L r : List xV} {q : Nat × Nat} {i tv iv : Nat} (hd : decode (xy M).2.1 pc = .ok (.putfield x, 3)) (hf : xfld (xrec M).1 x = some q) (hk : xkind q.1 = 1) (hft : xft q.1 q.2 = 1) (hfin : (xFt q.1 q.2).2.2.2 = true) (hini : (xy M).1.name = "<init>") (hown : xCt q.1 = xow M) (hnest : xfw (xrec M).1 x false q ∈ lw_tbl) (htv : Nat.beq tv 0 = false)
    (k : xNx p l e R s m args below meth c cells slots Q M A ad ca D cnt (xru ρ q.1 i q.2 (tv, iv)) (pc + 3) L r σ) (hG : xrvG cnt ρ) : xNx p l e R s m args below meth c cells slots Q M A ad ca D cnt ρ pc L (vR tv iv :: vR q.1 i :: r) σ := by
  intro H locs ls hW hS hL hs
  obtain ⟨hvv, hs1⟩ := xoks_c.mp hs
  obtain ⟨hx, hr⟩ := xoks_c.mp hs1
  have hk0 : xkind q.1 ≠ 0 := by rw [hk]; decide
  have hv := xok_vd hx hk0
  obtain ⟨-, hsz, -⟩ := xfld_w hf
  have hsz : q.2 < xsz q.1 := by
    rcases hsz with h1 | h1
    · exact h1
    · rw [h1] at hk; exact absurd hk (by decide +kernel)
  obtain ⟨k0, hk1, he⟩ := xW_idx (ad := ad) (ca := ca) (ρ := ρ) (σ := σ) hv
  have hE : ∀ ρ, xE ad ca ρ σ q.1 i = .inr (xci q.1, (List.range (xsz q.1)).map fun j => xcv ad (xfv ρ σ q.1 i j)) := fun σ => by unfold xE; rw [hk]; rfl
  rw [hE] at he
  rw [List.map_cons, List.map_cons, xcv_R (xb0 hk0)]
  have hsame : ∀ x, s.fieldFound? (xFt q.1 q.2).1 (xFt q.1 q.2).2.1 (xFt q.1 q.2).2.2.1 = some x → s.fieldFound? (xCt q.1) (xFt q.1 q.2).2.1 (xFt q.1 q.2).2.2.1 = some x := by
    rw [xdecl hk hsz]; exact fun _ h => h
  have hty := xfty hk hsz
  rw [hft] at hty
  have hty := of_decide_eq_true hty
  have hfv : xfv (xru ρ q.1 i q.2 (tv, iv)) σ q.1 i q.2 = vR tv iv := by
    unfold xfv
    rw [hft, xru_at, if_pos rfl]
    rfl
  have hnew : xE ad ca (xru ρ q.1 i q.2 (tv, iv)) σ q.1 i = .inr (xci q.1, ((List.range (xsz q.1)).map fun j => xcv ad (xfv ρ σ q.1 i j)).set q.2 (xcv ad (vR tv iv))) := by
    rw [hE, xrng_set hsz (by rw [hfv]) (fun j hj => by rw [xfv_rcongr (by rw [xru_at, if_neg hj])])]
  have hG' := xru_G (t := q.1) (i := i) (k := q.2) hG (show (tv, iv).1 = 0 ∨ xokr cnt (tv, iv).1 (tv, iv).2 from hvv)
  obtain ⟨hx0, hb, -, -, hownc, -, hts, hex, -, -, hK, hnm⟩ := id F
  have hrn := xref_n hty (ad tv iv)
  have eR : xcv ad (vR tv iv) = .ref (ad tv iv) := xcv_R htv
  refine va_putF hx0 hb hts (xcl_lay hk) (xty q.1) (xty_ok hk) (xnm_ok hk) hownc hK hW.P hW.Dd hS k0 he (xcl_at hk) q.2 hsz (hts _ (xGT_m hnest rfl)) hsame hfin (hnm.trans hini) ((xdecl hk hsz).trans hown) (xty_ok hk q.2 hsz) (by rw [eR]; exact hrn.1) (by rw [eR]; exact hrn.2) (by rw [List.length_map, List.length_range]; exact hsz) hd (fun H1 locs1 hP1 _ hS1 => ?_)
  exact k H1 locs1 ls (hW.set2 hv hk1 hP1 hnew (fun t' i' hne => xE_rcongr (fun j => xru_ne hne j)) hW.2.2.2.1 (fun a b j _ _ => hG' a b j)) hS1 hL hr
theorem xo_aast (F : xFix p s m args meth c M A ad D) {pc t i tv iv : Nat} {x : Int} {L r : List xV} (hd : decode (xy M).2.1 pc = .ok (.aastore, 1)) (hk : xkind t = 4) (hkv : xkind tv = 1) (hty : xaty t = .object (xCt tv)) (hx : 0 ≤ x ∧ x < xlen t) (hG : xrvG cnt ρ)
    (k : xNx p l e R s m args below meth c cells slots Q M A ad ca D cnt (xru ρ t i x.toNat (tv, iv)) (pc + 1) L r σ) : xNx p l e R s m args below meth c cells slots Q M A ad ca D cnt ρ pc L (vR tv iv :: vI x :: vR t i :: r) σ := by
  intro H locs ls hW hS hL hs
  obtain ⟨hvv, hs0⟩ := xoks_c.mp hs
  obtain ⟨hxx, hs1⟩ := xoks_c.mp hs0
  obtain ⟨ho, hr⟩ := xoks_c.mp hs1
  have hk0 : xkind t ≠ 0 := by omega
  have hkv0 : xkind tv ≠ 0 := by omega
  have hv := xok_vd ho hk0
  have hvo := xok_vd hvv hkv0
  obtain ⟨k0, hk1, he⟩ := xW_idx (ad := ad) (ca := ca) (ρ := ρ) (σ := σ) hv
  obtain ⟨kv, -, hev⟩ := xW_idx (ad := ad) (ca := ca) (ρ := ρ) (σ := σ) hvo
  rw [xE_q hk] at he
  have hE : xE ad ca ρ σ tv iv = .inr (xci tv, (List.range (xsz tv)).map fun j => xcv ad (xfv ρ σ tv iv j)) := by unfold xE; rw [hkv]; rfl
  rw [hE] at hev
  rw [List.map_cons, List.map_cons, List.map_cons, xcv_R (xb0 hk0), xcv_R (xb0 hkv0)]
  have hlt := xlt (by omega) hx
  have hG' := xru_G (t := t) (i := i) (k := x.toNat) hG (show (tv, iv).1 = 0 ∨ xokr cnt (tv, iv).1 (tv, iv).2 from hvv)
  refine va_astq F.1 F.2.1 (xKa F hW hv (by omega)) hW.P hW.Dd hS k0 0 kv (xci tv) he (by rw [hty]; rfl) hev (xcl_at hkv) (xn_in hx.1 hlt.1 hlt.2) hd (fun H1 locs1 hP1 _ hS1 => ?_)
  refine k H1 locs1 ls (hW.set2 hv hk1 hP1 ?_ (fun t' i' hne => xE_rcongr (fun j => xru_ne hne j)) hW.2.2.2.1 (fun a b j _ _ => hG' a b j)) hS1 hL hr
  rw [xE_q hk, xn_nat hx.1 hlt.2]
  congr 7
  funext j
  rw [xru_at]
  unfold va_up
  by_cases hj : j = x.toNat
  · rw [if_pos hj, if_pos hj]
    show cond (Nat.beq tv 0) _ _ = _
    rw [xb0 hkv0]
    rfl
  · rw [if_neg hj, if_neg hj]
theorem xo_obj (F : xFix p s m args meth c M A ad D) {pc x t i : Nat} {L r : List xV} (hd : decode (xy M).2.1 pc = .ok (.invokespecial x, 3)) (hc : xcal (xrec M).1 x = some (999, 5)) (ht : Nat.beq t 0 = false) (hr8 : xrs r = true) (hRf : 1 ≤ R.frames) (hRl : 40 ≤ R.locals)
    (k : xNx p l e R s m args below meth c cells slots Q M A ad ca D cnt ρ (pc + 3) L r σ) : xNx p l e R s m args below meth c cells slots Q M A ad ca D cnt ρ pc L (vR t i :: r) σ := by
  intro H locs ls hW hS hL hs
  obtain ⟨ho, hr⟩ := xoks_c.mp hs
  have hw := (xcal_w hc).1
  have hsum := xrs_sum (ad := ad) hr8
  obtain ⟨hx, hb, hml, -, hown, -, hts, hex, hA, hro, hK, -⟩ := id F
  rw [List.map_cons, xcv_R ht]
  refine W.objInit hx hb hown (hts _ (xGT_m hw rfl)) (hts _ xw_obj_inst) (hts _ xw_obj_code) rfl (by rw [hml]; exact hL.1) rfl hd hRf ?_ (k H locs ls hW hS hL hr)
  have := lv_room (m := m) (pc := pc) (ls := ls) (rest := .ref (ad t i) :: r.map (xcv ad)) hsum
  omega
end XC
