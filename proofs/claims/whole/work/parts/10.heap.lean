/-! INSTRUCTIONS ON CELLS -/
theorem xdecl_all : xtags.all (fun t => (List.range (xsz t)).all (fun k => decide ((xFt t k).1 = xCt t))) = true := by decide +kernel
theorem xdecl {t k : Nat} (ht : xkind t = 1) (hk : k < xsz t) : (xFt t k).1 = xCt t := of_decide_eq_true (List.all_eq_true.mp (List.all_eq_true.mp xdecl_all t (xtag_in ht)) k (List.mem_range.mpr hk))
theorem xup_ne {σ : xM} {t i k : Nat} {v : Int} {t' i' : Nat} (h : (t', i') ≠ (t, i)) (j : Nat) : xup σ t i k v t' i' j = σ t' i' j := by
  unfold xup
  rw [if_neg]
  rintro ⟨rfl, rfl, -⟩
  exact h rfl
theorem xup_at {σ : xM} {t i k : Nat} {v : Int} (j : Nat) : xup σ t i k v t i j = if j = k then v else σ t i j := by
  unfold xup
  by_cases h : j = k
  · rw [if_pos ⟨rfl, rfl, h⟩, if_pos h]
  · rw [if_neg (fun q => h q.2.2), if_neg h]
theorem xfv_congr {ρ : xP} {σ σ' : xM} {t i k : Nat} (h : σ' t i k = σ t i k) : xfv ρ σ' t i k = xfv ρ σ t i k := by
  unfold xfv
  rw [h]
theorem xE_congr {ad : Nat → Nat → Nat} {ca : Nat → Nat → ClassId} {ρ : xP} {σ σ' : xM} {t i : Nat} (h : ∀ k, σ' t i k = σ t i k) : xE ad ca ρ σ' t i = xE ad ca ρ σ t i := by
  unfold xE
  have h1 : (fun k => xcv ad (xfv ρ σ' t i k)) = fun k => xcv ad (xfv ρ σ t i k) := funext fun k => by rw [xfv_congr (h k)]
  have h2 : (fun j => Int32.ofInt (σ' t i j)) = fun j => Int32.ofInt (σ t i j) := funext fun k => by rw [h k]
  rw [h1, h2]
theorem xrg_up {σ : xM} {t i k : Nat} {v : Int} (h : xrg σ) (hv : xr v) : xrg (xup σ t i k v) := by
  intro a b c
  unfold xup
  by_cases hc : a = t ∧ b = i ∧ c = k
  · rw [if_pos hc]; exact hv
  · rw [if_neg hc]; exact h a b c
theorem xrg_cpy {σ : xM} {t0 i0 s0 t1 i1 d0 n : Nat} (h : xrg σ) : xrg (xcpy σ t0 i0 s0 t1 i1 d0 n) := by
  intro a b c
  unfold xcpy
  by_cases hc : a = t1 ∧ b = i1 ∧ d0 ≤ c ∧ c < d0 + n
  · rw [if_pos hc]; exact h _ _ _
  · rw [if_neg hc]; exact h a b c
theorem xrng_map {α : Type} {n k : Nat} {f : Nat → α} (hk : k < n) : ((List.range n).map f)[k]? = some (f k) := by
  rw [List.getElem?_map, List.getElem?_range hk]
  rfl
theorem xrng_set {α : Type} {n k : Nat} {f g : Nat → α} {v : α} (hk : k < n) (hv : g k = v) (ho : ∀ j, j ≠ k → g j = f j) : (List.range n).map g = ((List.range n).map f).set k v := by
  apply List.ext_getElem?
  intro j
  by_cases hj : j < n
  · rw [xrng_map hj]
    by_cases e : k = j
    · subst e
      rw [List.getElem?_set_self (by simpa using hk), hv]
    · rw [List.getElem?_set_ne e, xrng_map hj, ho j (fun q => e q.symm)]
  · rw [List.getElem?_eq_none (by simpa using hj), List.getElem?_eq_none (by simpa using hj)]
section XH
variable {p : Program} {l : Launch} {e : Env} {R : Room} {s : State} {m : MethodId} {args : Array Value} {below : List Frame} {meth : Method} {c : Code} {cells slots : Nat} {Q : State → Prop}
variable {M : Nat} {A : Nat → Prop} {ad : Nat → Nat → Nat} {ca : Nat → Nat → ClassId} {D : va_G} {cnt : Nat → Nat} {ρ : xP}
theorem xok_vd {t i : Nat} (h : xok cnt (vR t i)) (ht : xkind t ≠ 0) : xvd cnt t i := by
  have h4 := xkind_4 ht
  rcases h with h | h
  · exact absurd h (by show ¬ t = 0; omega)
  · rcases h with h | h | h | h
    · exact absurd h.1 (by show ¬ t = 1; omega)
    · exact absurd h.1 (by show ¬ t = 2; omega)
    · exact absurd h.1 (by show ¬ t = 3; omega)
    · exact h
theorem xb0 {t : Nat} (ht : xkind t ≠ 0) : Nat.beq t 0 = false := by
  have h4 := xkind_4 ht
  cases hb : Nat.beq t 0 with
  | false => rfl
  | true => exact absurd (Nat.eq_of_beq_eq_true hb) (by omega)
theorem xo_getf (F : xFix p s m args meth c M A ad D) {pc x : Nat} {L r : List xV} {σ : xM} {q : Nat × Nat} {i : Nat} (hd : decode (xy M).2.1 pc = .ok (.getfield x, 3)) (hf : xfld (xrec M).1 x = some q) (hk : xkind q.1 = 1) (hok : xrg σ → xvd cnt q.1 i → xrv cnt ρ → xok cnt (xfv ρ σ q.1 i q.2))
    (k : xNx p l e R s m args below meth c cells slots Q M A ad ca D cnt ρ (pc + 3) L (xfv ρ σ q.1 i q.2 :: r) σ) : xNx p l e R s m args below meth c cells slots Q M A ad ca D cnt ρ pc L (vR q.1 i :: r) σ := by
  intro H locs ls hW hS hL hs
  obtain ⟨hx, hr⟩ := xoks_c.mp hs
  have hk0 : xkind q.1 ≠ 0 := by rw [hk]; decide
  have hv := xok_vd hx hk0
  have h := k H locs ls hW hS hL (xoks_c.mpr ⟨hok hW.2.2.2.1 hv hW.2.2.2.2.1, hr⟩)
  obtain ⟨⟨n, hw⟩, hsz, -⟩ := xfld_w hf
  have hsz : q.2 < xsz q.1 := by
    rcases hsz with h1 | h1
    · exact h1
    · rw [h1] at hk; exact absurd hk (by decide +kernel)
  obtain ⟨k0, -, he⟩ := xW_idx (ad := ad) (ca := ca) (ρ := ρ) (σ := σ) hv
  have hE : xE ad ca ρ σ q.1 i = .inr (xci q.1, (List.range (xsz q.1)).map fun j => xcv ad (xfv ρ σ q.1 i j)) := by unfold xE; rw [hk]; rfl
  rw [hE] at he
  rw [List.map_cons, xcv_R (xb0 hk0)]
  rw [List.map_cons] at h
  have hsame : ∀ x, s.fieldFound? (xFt q.1 q.2).1 (xFt q.1 q.2).2.1 (xFt q.1 q.2).2.2.1 = some x → s.fieldFound? (xCt q.1) (xFt q.1 q.2).2.1 (xFt q.1 q.2).2.2.1 = some x := by
    rw [xdecl hk hsz]; exact fun _ h => h
  obtain ⟨hx0, hb, -, -, hown, -, hts, hex, -, -, hK, -⟩ := F
  cases n with
  | false => exact va_get hx0 hb hts (xcl_lay hk) hown hK hW.P k0 he (xcl_at hk) q.2 hsz (hts _ (xGT_m hw rfl)) hsame (xrng_map hsz) hd h
  | true => exact va_getN hx0 hb hts (xcl_lay hk) hown hK hW.P k0 he (xcl_at hk) q.2 hsz (va_Nw.use rfl (hex.1 _ (xnest_f hw))) hsame (xrng_map hsz) hd h
theorem xo_putf (F : xFix p s m args meth c M A ad D) {pc x : Nat} {L r : List xV} {σ : xM} {q : Nat × Nat} {i : Nat} {v : xV} {y : Int} (hd : decode (xy M).2.1 pc = .ok (.putfield x, 3)) (hf : xfld (xrec M).1 x = some q) (hk : xkind q.1 = 1) (hy : xr y) (hfin : (xFt q.1 q.2).2.2.2 = false)
    (hn : narrow (xty q.1 q.2) (xcv ad v) = xcv ad v) (hfit : fits (xty q.1 q.2) (xcv ad v) = true) (hfv : xfv ρ (xup σ q.1 i q.2 y) q.1 i q.2 = v)
    (k : xNx p l e R s m args below meth c cells slots Q M A ad ca D cnt ρ (pc + 3) L r (xup σ q.1 i q.2 y)) : xNx p l e R s m args below meth c cells slots Q M A ad ca D cnt ρ pc L (v :: vR q.1 i :: r) σ := by
  intro H locs ls hW hS hL hs
  obtain ⟨hvv, hs1⟩ := xoks_c.mp hs
  obtain ⟨hx, hr⟩ := xoks_c.mp hs1
  have hk0 : xkind q.1 ≠ 0 := by rw [hk]; decide
  have hv := xok_vd hx hk0
  obtain ⟨⟨n, hw⟩, hsz, -⟩ := xfld_w hf
  have hsz : q.2 < xsz q.1 := by
    rcases hsz with h1 | h1
    · exact h1
    · rw [h1] at hk; exact absurd hk (by decide +kernel)
  obtain ⟨k0, hk1, he⟩ := xW_idx (ad := ad) (ca := ca) (ρ := ρ) (σ := σ) hv
  have hE : ∀ σ, xE ad ca ρ σ q.1 i = .inr (xci q.1, (List.range (xsz q.1)).map fun j => xcv ad (xfv ρ σ q.1 i j)) := fun σ => by unfold xE; rw [hk]; rfl
  rw [hE] at he
  rw [List.map_cons, List.map_cons, xcv_R (xb0 hk0)]
  have hsame : ∀ x, s.fieldFound? (xFt q.1 q.2).1 (xFt q.1 q.2).2.1 (xFt q.1 q.2).2.2.1 = some x → s.fieldFound? (xCt q.1) (xFt q.1 q.2).2.1 (xFt q.1 q.2).2.2.1 = some x := by
    rw [xdecl hk hsz]; exact fun _ h => h
  have hnew : xE ad ca ρ (xup σ q.1 i q.2 y) q.1 i = .inr (xci q.1, ((List.range (xsz q.1)).map fun j => xcv ad (xfv ρ σ q.1 i j)).set q.2 (xcv ad v)) := by
    rw [hE, xrng_set hsz (by rw [hfv]) (fun j hj => by rw [xfv_congr (by rw [xup_at, if_neg hj])])]
  have next : ∀ (H1 : Heap) (locs1 : List Loc), va_P D xcl ((xW ad ca cnt ρ σ).set k0 (ad q.1 i, .inr (xci q.1, ((List.range (xsz q.1)).map fun j => xcv ad (xfv ρ σ q.1 i j)).set q.2 (xcv ad v)))) H1 → va_D A ((xW ad ca cnt ρ σ).set k0 (ad q.1 i, .inr (xci q.1, ((List.range (xsz q.1)).map fun j => xcv ad (xfv ρ σ q.1 i j)).set q.2 (xcv ad v)))) → va_S A s.heap H1 locs1 →
      W p l e R s m args below meth c H1 locs1 cells slots Q (F0 m (pc + 3) ls (r.map (xcv ad))) := fun H1 locs1 hP1 _ hS1 =>
    k H1 locs1 ls (hW.set hv hk1 hP1 hnew (fun t' i' hne => xE_congr (fun j => xup_ne hne j)) (xrg_up hW.2.2.2.1 hy)) hS1 hL hr
  obtain ⟨hx0, hb, -, -, hown, -, hts, hex, -, -, hK, -⟩ := F
  cases n with
  | false => exact va_put hx0 hb hts (xcl_lay hk) (xty q.1) (xty_ok hk) (xnm_ok hk) hown hK hW.P hW.Dd hS k0 he (xcl_at hk) q.2 hsz (hts _ (xGT_m hw rfl)) hsame hfin (xty_ok hk q.2 hsz) hn hfit (by rw [List.length_map, List.length_range]; exact hsz) hd next
  | true => exact va_putN hx0 hb hts (xcl_lay hk) (xty q.1) (xty_ok hk) (xnm_ok hk) hown hK hW.P hW.Dd hS k0 he (xcl_at hk) q.2 hsz (va_Nw.use rfl (hex.1 _ (xnest_f hw))) hsame hfin (xty_ok hk q.2 hsz) hn hfit (by rw [List.length_map, List.length_range]; exact hsz) hd next
theorem xKa {t i : Nat} (F : xFix p s m args meth c M A ad D) {σ : xM} {H : Heap} (hW : xWd D ad ca cnt ρ σ A s H) (hv : xvd cnt t i) (hk : xkind t ≠ 1) : va_K D xcl [(ca t i, xaty t)] s := by
  refine ⟨F.2.2.2.2.2.2.2.2.2.2.1.1, fun k q hq => ?_⟩
  have h := hW.2.2.2.2.2 t i hv hk
  cases k with
  | zero => cases hq; exact h
  | succ k => cases hq
theorem xE_i {σ : xM} {t i : Nat} (h1 : xkind t ≠ 1) (h4 : xkind t ≠ 4) : xE ad ca ρ σ t i = .inl (ca t i, xsz t, .inl (fun j => Int32.ofInt (σ t i j))) := by
  unfold xE
  split
  · rename_i h; exact absurd h h1
  · rename_i h; exact absurd h h4
  · rfl
theorem xE_q {σ : xM} {t i : Nat} (h4 : xkind t = 4) : xE ad ca ρ σ t i = .inl (ca t i, xsz t, .inr (.inr (.inr (.inr (fun j => cond (Nat.beq (ρ t i j).1 0) none (some (ad (ρ t i j).1 (ρ t i j).2))))))) := by
  unfold xE
  rw [h4]
  rfl
theorem xlt {t : Nat} {x : Int} (h2 : 2 ≤ xkind t) (h : 0 ≤ x ∧ x < xlen t) : x < (xsz t : Int) ∧ xr x := by
  obtain ⟨e, hl⟩ := xlen_ok h2
  rw [e] at h hl
  exact ⟨h.2, by constructor <;> omega⟩
theorem xo_iaload (F : xFix p s m args meth c M A ad D) {pc : Nat} {L r : List xV} {σ : xM} {t i : Nat} {x : Int} (hd : decode (xy M).2.1 pc = .ok (.iaload, 1)) (hk : xkind t = 2) (hx : 0 ≤ x ∧ x < xlen t)
    (k : xNx p l e R s m args below meth c cells slots Q M A ad ca D cnt ρ (pc + 1) L (vI (σ t i x.toNat) :: r) σ) : xNx p l e R s m args below meth c cells slots Q M A ad ca D cnt ρ pc L (vI x :: vR t i :: r) σ := by
  intro H locs ls hW hS hL hs
  obtain ⟨hxx, hs1⟩ := xoks_c.mp hs
  obtain ⟨ho, hr⟩ := xoks_c.mp hs1
  have hk0 : xkind t ≠ 0 := by rw [hk]; decide
  have hv := xok_vd ho hk0
  have h := k H locs ls hW hS hL (xoks_c.mpr ⟨hW.2.2.2.1 _ _ _, hr⟩)
  obtain ⟨k0, -, he⟩ := xW_idx (ad := ad) (ca := ca) (ρ := ρ) (σ := σ) hv
  rw [xE_i (by rw [hk]; decide) (by rw [hk]; decide)] at he
  rw [List.map_cons, List.map_cons, xcv_R (xb0 hk0)]
  have hlt := xlt (by rw [hk]; decide) hx
  refine va_iald F.1 F.2.1 (xKa F hW hv (by rw [hk]; decide)) hW.P k0 0 he (by rw [xarr_2 hk]; rfl) (xn_in hx.1 hlt.1 hlt.2) hd ?_
  rw [xn_nat hx.1 hlt.2]
  exact h
theorem xo_iastore (F : xFix p s m args meth c M A ad D) {pc : Nat} {L r : List xV} {σ : xM} {t i : Nat} {x v : Int} (hd : decode (xy M).2.1 pc = .ok (.iastore, 1)) (hk : xkind t = 2) (hx : 0 ≤ x ∧ x < xlen t)
    (k : xNx p l e R s m args below meth c cells slots Q M A ad ca D cnt ρ (pc + 1) L r (xup σ t i x.toNat v)) : xNx p l e R s m args below meth c cells slots Q M A ad ca D cnt ρ pc L (vI v :: vI x :: vR t i :: r) σ := by
  intro H locs ls hW hS hL hs
  obtain ⟨hvv, hs0⟩ := xoks_c.mp hs
  obtain ⟨hxx, hs1⟩ := xoks_c.mp hs0
  obtain ⟨ho, hr⟩ := xoks_c.mp hs1
  have hk0 : xkind t ≠ 0 := by rw [hk]; decide
  have hv := xok_vd ho hk0
  obtain ⟨k0, hk1, he⟩ := xW_idx (ad := ad) (ca := ca) (ρ := ρ) (σ := σ) hv
  rw [xE_i (by rw [hk]; decide) (by rw [hk]; decide)] at he
  rw [List.map_cons, List.map_cons, List.map_cons, xcv_R (xb0 hk0)]
  have hlt := xlt (by rw [hk]; decide) hx
  refine va_iast F.1 F.2.1 (xKa F hW hv (by rw [hk]; decide)) hW.P hW.Dd hS k0 0 he (by rw [xarr_2 hk]; rfl) (xn_in hx.1 hlt.1 hlt.2) hd (fun H1 locs1 hP1 _ hS1 => ?_)
  refine k H1 locs1 ls (hW.set hv hk1 hP1 ?_ (fun t' i' hne => xE_congr (fun j => xup_ne hne j)) (xrg_up hW.2.2.2.1 hvv)) hS1 hL hr
  rw [xE_i (by rw [hk]; decide) (by rw [hk]; decide), xn_nat hx.1 hlt.2]
  congr 4
  funext j
  rw [xup_at]
  unfold upd
  by_cases hj : j = x.toNat
  · rw [if_pos hj, if_pos hj]
  · rw [if_neg hj, if_neg hj]
theorem xo_zaload (F : xFix p s m args meth c M A ad D) {pc : Nat} {L r : List xV} {σ : xM} {t i : Nat} {x : Int} (hd : decode (xy M).2.1 pc = .ok (.baload, 1)) (hk : xkind t = 3) (hx : 0 ≤ x ∧ x < xlen t)
    (k : xNx p l e R s m args below meth c cells slots Q M A ad ca D cnt ρ (pc + 1) L (vI (σ t i x.toNat) :: r) σ) : xNx p l e R s m args below meth c cells slots Q M A ad ca D cnt ρ pc L (vI x :: vR t i :: r) σ := by
  intro H locs ls hW hS hL hs
  obtain ⟨hxx, hs1⟩ := xoks_c.mp hs
  obtain ⟨ho, hr⟩ := xoks_c.mp hs1
  have hk0 : xkind t ≠ 0 := by rw [hk]; decide
  have hv := xok_vd ho hk0
  have h := k H locs ls hW hS hL (xoks_c.mpr ⟨hW.2.2.2.1 _ _ _, hr⟩)
  obtain ⟨k0, -, he⟩ := xW_idx (ad := ad) (ca := ca) (ρ := ρ) (σ := σ) hv
  rw [xE_i (by rw [hk]; decide) (by rw [hk]; decide)] at he
  rw [List.map_cons, List.map_cons, xcv_R (xb0 hk0)]
  have hlt := xlt (by rw [hk]; decide) hx
  refine va_zald F.1 F.2.1 (xKa F hW hv (by rw [hk]; decide)) hW.P k0 0 he (by rw [xarr_3 hk]; rfl) (xn_in hx.1 hlt.1 hlt.2) hd ?_
  rw [xn_nat hx.1 hlt.2]
  exact h
theorem xo_zastore (F : xFix p s m args meth c M A ad D) {pc : Nat} {L r : List xV} {σ : xM} {t i : Nat} {x v : Int} (hd : decode (xy M).2.1 pc = .ok (.bastore, 1)) (hk : xkind t = 3) (hx : 0 ≤ x ∧ x < xlen t) (hv01 : v = 0 ∨ v = 1)
    (k : xNx p l e R s m args below meth c cells slots Q M A ad ca D cnt ρ (pc + 1) L r (xup σ t i x.toNat v)) : xNx p l e R s m args below meth c cells slots Q M A ad ca D cnt ρ pc L (vI v :: vI x :: vR t i :: r) σ := by
  intro H locs ls hW hS hL hs
  obtain ⟨hvv, hs0⟩ := xoks_c.mp hs
  obtain ⟨hxx, hs1⟩ := xoks_c.mp hs0
  obtain ⟨ho, hr⟩ := xoks_c.mp hs1
  have hk0 : xkind t ≠ 0 := by rw [hk]; decide
  have hv := xok_vd ho hk0
  obtain ⟨k0, hk1, he⟩ := xW_idx (ad := ad) (ca := ca) (ρ := ρ) (σ := σ) hv
  rw [xE_i (by rw [hk]; decide) (by rw [hk]; decide)] at he
  rw [List.map_cons, List.map_cons, List.map_cons, xcv_R (xb0 hk0)]
  have hlt := xlt (by rw [hk]; decide) hx
  refine va_zast F.1 F.2.1 (xKa F hW hv (by rw [hk]; decide)) hW.P hW.Dd hS k0 0 he (by rw [xarr_3 hk]; rfl) (xn_in hx.1 hlt.1 hlt.2) hd (fun H1 locs1 hP1 _ hS1 => ?_)
  refine k H1 locs1 ls (hW.set hv hk1 hP1 ?_ (fun t' i' hne => xE_congr (fun j => xup_ne hne j)) (xrg_up hW.2.2.2.1 hvv)) hS1 hL hr
  rw [xE_i (by rw [hk]; decide) (by rw [hk]; decide), xn_nat hx.1 hlt.2, xn_nzv hv01]
  congr 4
  funext j
  rw [xup_at]
  unfold upd
  by_cases hj : j = x.toNat
  · rw [if_pos hj, if_pos hj]
  · rw [if_neg hj, if_neg hj]
theorem xo_aaload (F : xFix p s m args meth c M A ad D) {pc : Nat} {L r : List xV} {σ : xM} {t i : Nat} {x : Int} (hd : decode (xy M).2.1 pc = .ok (.aaload, 1)) (hk : xkind t = 4) (hx : 0 ≤ x ∧ x < xlen t)
    (k : xNx p l e R s m args below meth c cells slots Q M A ad ca D cnt ρ (pc + 1) L (.inr (.inr (ρ t i x.toNat)) :: r) σ) : xNx p l e R s m args below meth c cells slots Q M A ad ca D cnt ρ pc L (vI x :: vR t i :: r) σ := by
  intro H locs ls hW hS hL hs
  obtain ⟨hxx, hs1⟩ := xoks_c.mp hs
  obtain ⟨ho, hr⟩ := xoks_c.mp hs1
  have hk0 : xkind t ≠ 0 := by rw [hk]; decide
  have hv := xok_vd ho hk0
  have hlt := xlt (by rw [hk]; decide) hx
  have hn : x.toNat < xsz t := by omega
  have h := k H locs ls hW hS hL (xoks_c.mpr ⟨hW.2.2.2.2.1 t i x.toNat hv hn, hr⟩)
  obtain ⟨k0, -, he⟩ := xW_idx (ad := ad) (ca := ca) (ρ := ρ) (σ := σ) hv
  rw [xE_q hk] at he
  rw [List.map_cons, List.map_cons, xcv_R (xb0 hk0)]
  have hin := xn_in hx.1 hlt.1 hlt.2
  have hP := hW.P k0 _ he
  have ha := hW.2.2.2.2.2 t i hv (by rw [hk]; decide)
  refine W.aald (v := va_rf (cond (Nat.beq (ρ t i x.toNat).1 0) none (some (ad (ρ t i x.toNat).1 (ρ t i x.toNat).2)))) (ty := xaty t) F.1 F.2.1 hP (ha.1 (xsz t) (fun j => va_rf (cond (Nat.beq (ρ t i j).1 0) none (some (ad (ρ t i j).1 (ρ t i j).2))))) (xarr_4 hk) (fun q => by cases q) (by show ¬ (_ ∨ (arrV _ _ _).slots.size ≤ _); rw [arrV_size]; exact hin) (by show (arrV _ _ _).slots[_]? = _; rw [xn_nat hx.1 hlt.2, arrV_read _ _ hn]) rfl rfl hd ?_
  have e : va_rf (cond (Nat.beq (ρ t i x.toNat).1 0) none (some (ad (ρ t i x.toNat).1 (ρ t i x.toNat).2))) = xcv ad (.inr (.inr (ρ t i x.toNat))) := by
    simp only [xcv]
    cases Nat.beq (ρ t i x.toNat).1 0 <;> rfl
  rw [e]
  exact h
theorem xo_alen (F : xFix p s m args meth c M A ad D) {pc : Nat} {L r : List xV} {σ : xM} {t i : Nat} (hd : decode (xy M).2.1 pc = .ok (.arraylength, 1)) (hk : 2 ≤ xkind t)
    (k : xNx p l e R s m args below meth c cells slots Q M A ad ca D cnt ρ (pc + 1) L (vI (xlen t) :: r) σ) : xNx p l e R s m args below meth c cells slots Q M A ad ca D cnt ρ pc L (vR t i :: r) σ := by
  intro H locs ls hW hS hL hs
  obtain ⟨ho, hr⟩ := xoks_c.mp hs
  have hk0 : xkind t ≠ 0 := by omega
  have hk1 : xkind t ≠ 1 := by omega
  have hv := xok_vd ho hk0
  obtain ⟨el, hl⟩ := xlen_ok hk
  have h := k H locs ls hW hS hL (xoks_c.mpr ⟨(show xr (xlen t) from ⟨by rw [el]; omega, hl⟩), hr⟩)
  obtain ⟨k0, -, he⟩ := xW_idx (ad := ad) (ca := ca) (ρ := ρ) (σ := σ) hv
  rw [List.map_cons, xcv_R (xb0 hk0)]
  rw [List.map_cons, show xcv ad (vI (xlen t)) = .int (Int32.ofInt (xlen t)) from rfl] at h
  by_cases h4 : xkind t = 4
  · rw [xE_q h4] at he
    exact va_alen F.1 F.2.1 (xKa F hW hv hk1) hW.P k0 0 he rfl (v := Int32.ofInt (xlen t)) (by rw [el]; exact xn_ofn _) hd h
  · rw [xE_i hk1 h4] at he
    exact va_alen F.1 F.2.1 (xKa F hW hv hk1) hW.P k0 0 he rfl (v := Int32.ofInt (xlen t)) (by rw [el]; exact xn_ofn _) hd h
end XH
