/-! ONE STEP of the plain machine is one of the machine; so are many -/
theorem xI1_e {st : List xV} {k : Int → List xV → Prop} (h : xI1 st k) : ∃ x r, st = vI x :: r ∧ k x r := by
  unfold xI1 at h
  split at h
  · exact ⟨_, _, rfl, h⟩
  · exact h.elim
theorem xI2_e {st : List xV} {k : Int → Int → List xV → Prop} (h : xI2 st k) : ∃ x y r, st = vI y :: vI x :: r ∧ k x y r := by
  unfold xI2 at h
  split at h
  · exact ⟨_, _, _, rfl, h⟩
  · exact h.elim
theorem xL1_e {st : List xV} {k : Int → List xV → Prop} (h : xL1 st k) : ∃ x r, st = vL x :: r ∧ k x r := by
  unfold xL1 at h
  split at h
  · exact ⟨_, _, rfl, h⟩
  · exact h.elim
theorem xL2_e {st : List xV} {k : Int → Int → List xV → Prop} (h : xL2 st k) : ∃ x y r, st = vL y :: vL x :: r ∧ k x y r := by
  unfold xL2 at h
  split at h
  · exact ⟨_, _, _, rfl, h⟩
  · exact h.elim
theorem xLI_e {st : List xV} {k : Int → Int → List xV → Prop} (h : xLI st k) : ∃ x y r, st = vI y :: vL x :: r ∧ k x y r := by
  unfold xLI at h
  split at h
  · exact ⟨_, _, _, rfl, h⟩
  · exact h.elim
theorem xR1_e {st : List xV} {k : Nat → Nat → List xV → Prop} (h : xR1 st k) : ∃ t i r, st = vR t i :: r ∧ k t i r := by
  unfold xR1 at h
  split at h
  · exact ⟨_, _, _, rfl, h⟩
  · exact h.elim
theorem xIR_e {st : List xV} {k : Nat → Nat → Int → List xV → Prop} (h : xIR st k) : ∃ t i x r, st = vI x :: vR t i :: r ∧ k t i x r := by
  unfold xIR at h
  split at h
  · exact ⟨_, _, _, _, rfl, h⟩
  · exact h.elim
theorem xIIR_e {st : List xV} {k : Nat → Nat → Int → Int → List xV → Prop} (h : xIIR st k) : ∃ t i x v r, st = vI v :: vI x :: vR t i :: r ∧ k t i x v r := by
  unfold xIIR at h
  split at h
  · exact ⟨_, _, _, _, _, rfl, h⟩
  · exact h.elim
theorem xvI_e {v : xV} {k : Int → Prop} (h : xvI v k) : ∃ x, v = vI x ∧ k x := by
  unfold xvI at h
  split at h
  · exact ⟨_, rfl, h⟩
  · exact h.elim
theorem xvL_e {v : xV} {k : Int → Prop} (h : xvL v k) : ∃ x, v = vL x ∧ k x := by
  unfold xvL at h
  split at h
  · exact ⟨_, rfl, h⟩
  · exact h.elim
theorem xcf {b : Bool} {P : Prop} (h : cond b P False) : b = true ∧ P := by
  cases b
  · exact h.elim
  · exact ⟨rfl, h⟩
theorem xct {b : Bool} {P : Prop} (h : cond b False P) : b = false ∧ P := by
  cases b
  · exact ⟨rfl, h⟩
  · exact h.elim
theorem xvR_e {v : xV} {k : Nat → Nat → Prop} (h : xvR v k) : ∃ t i, v = vR t i ∧ Nat.beq t 0 = false ∧ k t i := by
  unfold xvR at h
  split at h
  · obtain ⟨h1, h2⟩ := xct h
    exact ⟨_, _, rfl, h1, h2⟩
  · exact h.elim
theorem xv1_e {v : xV} {P : Prop} (h : xv1 v P) : (∀ z, v ≠ vL z) ∧ P := by
  unfold xv1 at h
  split at h
  · exact ⟨fun z q => (by cases q), h⟩
  · exact h.elim
  · exact ⟨fun z q => (by cases q), (xct h).2⟩
theorem xjmp_ok {pc : Nat} {o : Int} (h : xtg pc o = true) : (pc : Int) + o = ((xjmp pc o : Nat) : Int) := by
  have h1 := of_decide_eq_true h
  unfold xjmp
  omega
theorem xsw_e {x : Int} {d : Prop} {k : Int → Prop} : ∀ (os : List Int) (lo : Int), xsw x lo os k d → (∃ o, os[(x - lo).toNat]? = some o ∧ lo ≤ x ∧ x < lo + os.length ∧ k o) ∨ ((x < lo ∨ lo + os.length ≤ x) ∧ d)
  | [], lo, h => by
    refine Or.inr ⟨?_, h⟩
    simp only [List.length_nil]
    omega
  | o :: os, lo, h => by
    simp only [xsw] at h
    by_cases hx : x = lo
    · rw [if_pos hx] at h
      refine Or.inl ⟨o, ?_, by omega, by simp only [List.length_cons]; omega, h⟩
      rw [show (x - lo).toNat = 0 by omega]
      rfl
    · rw [if_neg hx] at h
      rcases xsw_e os (lo + 1) h with ⟨o', h1, h2, h3, h4⟩ | ⟨h1, h2⟩
      · refine Or.inl ⟨o', ?_, by omega, by simp only [List.length_cons]; omega, h4⟩
        rw [show (x - lo).toNat = (x - (lo + 1)).toNat + 1 by omega]
        exact h1
      · refine Or.inr ⟨?_, h2⟩
        simp only [List.length_cons]
        omega
theorem xlsw_e {x : Int} {d : Prop} {k : Int → Prop} {dd : Int} (hd : d → k dd) : ∀ (ps : List (Int × Int)), xlsw x ps k d → k (Op.lookupswitch.offset ps dd x) ∧ (Op.lookupswitch.offset ps dd x = dd ∨ ∃ q ∈ ps, Op.lookupswitch.offset ps dd x = q.2)
  | [], h => ⟨hd h, Or.inl rfl⟩
  | q :: r, h => by
    simp only [xlsw] at h
    obtain ⟨a, o⟩ := q
    rw [Op.lookupswitch.offset_cons]
    by_cases hx : x = a
    · rw [if_pos hx] at h
      rw [if_pos hx.symm]
      exact ⟨h, Or.inr ⟨(a, o), List.mem_cons_self, rfl⟩⟩
    · rw [if_neg hx] at h
      rw [if_neg (fun e => hx e.symm)]
      obtain ⟨h1, h2⟩ := xlsw_e hd r h
      refine ⟨h1, ?_⟩
      rcases h2 with h2 | ⟨q, hq, h2⟩
      · exact Or.inl h2
      · exact Or.inr ⟨q, List.mem_cons_of_mem _ hq, h2⟩
theorem xif_mono {cd : ClassFile.Cond} {x y : Int} {P P' S S' : Prop} (hp : P → P') (hs : S → S') (h : xif cd x y P S) : xif cd x y P' S' := by
  cases cd <;> simp only [xif] at h ⊢ <;> split at h <;> rename_i hq <;> simp only [hq, if_true, if_false] <;> first | exact hp h | exact hs h
theorem xsw_mono {x : Int} {d d' : Prop} {k k' : Int → Prop} (hk : ∀ o, k o → k' o) (hd : d → d') : ∀ (os : List Int) (lo : Int), xsw x lo os k d → xsw x lo os k' d'
  | [], _, h => hd h
  | o :: os, lo, h => by
    simp only [xsw] at h ⊢
    by_cases hx : x = lo
    · rw [if_pos hx] at h ⊢
      exact hk o h
    · rw [if_neg hx] at h ⊢
      exact xsw_mono hk hd os (lo + 1) h
theorem xlsw_mono {x : Int} {d d' : Prop} {k k' : Int → Prop} (hk : ∀ o, k o → k' o) (hd : d → d') : ∀ (ps : List (Int × Int)), xlsw x ps k d → xlsw x ps k' d'
  | [], h => hd h
  | q :: r, h => by
    simp only [xlsw] at h ⊢
    by_cases hx : x = q.1
    · rw [if_pos hx] at h ⊢
      exact hk q.2 h
    · rw [if_neg hx] at h ⊢
      exact xlsw_mono hk hd r h
theorem xkk_all : (List.range 14).all (fun cx => (xnth [] xcalT cx).all (fun e => cond (Nat.ble 5 e.2.2) (Nat.beq e.2.1 999) (Nat.blt e.2.1 xN && (!(Nat.beq e.2.2 0) || !(Nat.beq (xrec e.2.1).2.2.2.1 0))))) = true := by decide +kernel
theorem xkk {cx x k kd : Nat} (h : xcal cx x = some (k, kd)) : cond (Nat.ble 5 kd) (Nat.beq k 999) (Nat.blt k xN && (!(Nat.beq kd 0) || !(Nat.beq (xrec k).2.2.2.1 0))) = true := by
  exact xall_nth (T := xcalT) (n := 14) (f := fun cx e => cond (Nat.ble 5 e.2.2) (Nat.beq e.2.1 999) (Nat.blt e.2.1 xN && (!(Nat.beq e.2.2 0) || !(Nat.beq (xrec e.2.1).2.2.2.1 0)))) (d := []) (by decide +kernel) rfl xkk_all cx (x, (k, kd)) (xas_mem (xnth [] xcalT cx) x (k, kd) h)
theorem xk999 {cx x k kd : Nat} (h : xcal cx x = some (k, kd)) (h5 : 5 ≤ kd) : k = 999 := by
  have h1 := xkk h
  rw [Nat.ble_eq_true_of_le h5] at h1
  exact Nat.eq_of_beq_eq_true h1
theorem xkN {cx x k kd : Nat} (h : xcal cx x = some (k, kd)) (h5 : kd < 5) : k < xN := by
  have h1 := xkk h
  rw [show Nat.ble 5 kd = false from by cases hb : Nat.ble 5 kd with | false => rfl | true => exact absurd (Nat.le_of_ble_eq_true hb) (by omega)] at h1
  exact Nat.le_of_ble_eq_true (Bool.and_eq_true _ _ ▸ h1).1
theorem xk0 {cx x k : Nat} (h : xcal cx x = some (k, 0)) : (xrec k).2.2.2.1 ≠ 0 := by
  intro e
  have h1 := xkk h
  rw [e] at h1
  have h2 := (Bool.and_eq_true _ _ ▸ (show (Nat.blt k xN && (!(Nat.beq 0 0) || !(Nat.beq 0 0))) = true from h1)).2
  exact absurd h2 Bool.false_ne_true
section XS
variable {p : Program} {l : Launch} {e : Env} {R : Room} {s : State} {m : MethodId} {args : Array Value} {below : List Frame} {meth : Method} {c : Code} {cells slots : Nat}
variable {M : Nat} {A : Nat → Prop} {ad : Nat → Nat → Nat} {ca : Nat → Nat → ClassId} {D : va_G}
theorem xo_tsw {Q : State → Prop} (F : xFix p s m args meth c M A ad D) {pc n : Nat} {d lo hi : Int} {os : Array Int} {L r : List xV} {σ : xM} {x : Int} (hd : decode (xy M).2.1 pc = .ok (.tableswitch d lo hi os, n)) (hok : xtg pc d = true) (hoks : os.toList.all (xtg pc) = true) (hsz : hi - lo + 1 = (os.toList.length : Int))
    (k : xsw x lo os.toList (fun o => xNx p l e R s m args below meth c cells slots Q M A ad ca D xcnt xrho (xjmp pc o) L r σ) (xNx p l e R s m args below meth c cells slots Q M A ad ca D xcnt xrho (xjmp pc d) L r σ)) : xNx p l e R s m args below meth c cells slots Q M A ad ca D xcnt xrho pc L (vI x :: r) σ := by
  intro H locs ls hW hS hL hs
  obtain ⟨hx, hr⟩ := xoks_c.mp hs
  have ex : (Int32.ofInt x).toInt = x := xn_to hx
  simp only [List.map_cons, xcv]
  rcases xsw_e _ _ k with ⟨o, h1, h2, h3, h4⟩ | ⟨h1, h2⟩
  · have hm := List.all_eq_true.mp hoks o (List.mem_of_getElem? h1)
    refine lv_tableIn (off := o) F.1 F.2.1 hd (by rw [ex]; omega) (by rw [ex]; omega) (by rw [ex, ← Array.getElem?_toList]; exact h1) (xjmp_ok hm) (h4 H locs ls hW hS hL hr)
  · exact lv_tableOut F.1 F.2.1 hd (by rw [ex]; omega) (xjmp_ok hok) (h2 H locs ls hW hS hL hr)
theorem xo_lsw {Q : State → Prop} (F : xFix p s m args meth c M A ad D) {pc n : Nat} {d : Int} {ps : Array (Int × Int)} {L r : List xV} {σ : xM} {x : Int} (hd : decode (xy M).2.1 pc = .ok (.lookupswitch d ps, n)) (hok : xtg pc d = true) (hoks : ps.toList.all (fun q => xtg pc q.2) = true) (hst : (ps.toList.zip (ps.toList.drop 1)).all (fun (a, next) => a.1 < next.1) = true)
    (k : xlsw x ps.toList (fun o => xNx p l e R s m args below meth c cells slots Q M A ad ca D xcnt xrho (xjmp pc o) L r σ) (xNx p l e R s m args below meth c cells slots Q M A ad ca D xcnt xrho (xjmp pc d) L r σ)) : xNx p l e R s m args below meth c cells slots Q M A ad ca D xcnt xrho pc L (vI x :: r) σ := by
  intro H locs ls hW hS hL hs
  obtain ⟨hx, hr⟩ := xoks_c.mp hs
  have ex : (Int32.ofInt x).toInt = x := xn_to hx
  simp only [List.map_cons, xcv]
  obtain ⟨h1, h2⟩ := xlsw_e (dd := d) (fun h => h) _ k
  refine lv_lookup (off := Op.lookupswitch.offset ps.toList d x) F.1 F.2.1 hd hst (by rw [ex]) (xjmp_ok ?_) (h1 H locs ls hW hS hL hr)
  rcases h2 with h2 | ⟨q, hq, h2⟩
  · rw [h2]; exact hok
  · rw [h2]; exact List.all_eq_true.mp hoks q hq
theorem xrho_all : (List.range 57).all (fun t => (List.range (xcnt t)).all (fun i => (List.range (xsz t)).all (fun k => Nat.beq (xrho t i k).1 0 || (Nat.ble 4 (xrho t i k).1 && Nat.blt (xrho t i k).1 57 && Nat.blt (xrho t i k).2 (xcnt (xrho t i k).1))))) = true := by decide +kernel
theorem xrho_rv : xrv xcnt xrho := by
  intro t i k hv hk
  have h := List.all_eq_true.mp (List.all_eq_true.mp (List.all_eq_true.mp xrho_all t (List.mem_range.mpr hv.2.1)) i (List.mem_range.mpr hv.2.2)) k (List.mem_range.mpr hk)
  rcases Bool.or_eq_true _ _ ▸ h with h | h
  · exact Or.inl (Nat.eq_of_beq_eq_true h)
  · simp only [Bool.and_eq_true] at h
    exact Or.inr (Or.inr (Or.inr (Or.inr ⟨Nat.le_of_ble_eq_true h.1.1, Nat.le_of_ble_eq_true h.1.2, Nat.le_of_ble_eq_true h.2⟩)))
set_option maxHeartbeats 8000000 in
theorem xstep0 {Qm : Int → xM → Prop} (F : xFix p s m args meth c M A ad D) {pc : Nat} {L st : List xV} {σ : xM} {K : Nat → List xV → List xV → xM → Prop} {C : Nat → List xV → List xV → Prop} {Rr : Int → Prop}
    (hRf : 1 ≤ R.frames) (hRl : 40 ≤ R.locals) (hc : cells ≤ R.cells) (hsl : slots ≤ R.slots)
    (hK : ∀ pc' L' st' σ', K pc' L' st' σ' → xNx p l e R s m args below meth c cells slots (MQ below (xQc (xvoid M) Qm (fun σ' t => xWd D ad ca xcnt xrho σ' A t t.heap) A) args s cells slots A) M A ad ca D xcnt xrho pc' L' st' σ')
    (hC : ∀ k as r, k < xN → xnl as = true → as.length = (xrec k).2.2.2.2 → C k as r → ∃ (d : Nat) (Qk : Int → xM → Prop), (d + 2 ≤ R.frames ∧ 40 * d + 80 ≤ R.locals) ∧ xMet l d k as σ Qk ∧ ∀ v σ', xr v → Qk v σ' → xNx p l e R s m args below meth c cells slots (MQ below (xQc (xvoid M) Qm (fun σ' t => xWd D ad ca xcnt xrho σ' A t t.heap) A) args s cells slots A) M A ad ca D xcnt xrho (pc + 3) L (xpush k v r) σ')
    (hRr : ∀ v, Rr v → Qm v σ) (hM : M < xN) (ins : Instr) (n : Nat) (hd : decode (xy M).2.1 pc = .ok (ins, n)) (hok : xinsOk M pc ins n = true) (h : xstp ins M pc L st σ K C Rr) : xNx p l e R s m args below meth c cells slots (MQ below (xQc (xvoid M) Qm (fun σ' t => xWd D ad ca xcnt xrho σ' A t t.heap) A) args s cells slots A) M A ad ca D xcnt xrho pc L st σ := by
  cases ins
  all_goals try exact False.elim h
  case iadd =>
    obtain rfl : n = 1 := Nat.eq_of_beq_eq_true hok
    simp only [xstp] at h
    have hE := xI2_e h
    clear h
    obtain ⟨x, y, r, rfl, h⟩ := hE
    exact xo_iadd F hd (hK _ _ _ _ h)
  case isub =>
    obtain rfl : n = 1 := Nat.eq_of_beq_eq_true hok
    simp only [xstp] at h
    have hE := xI2_e h
    clear h
    obtain ⟨x, y, r, rfl, h⟩ := hE
    exact xo_isub F hd (hK _ _ _ _ h)
  case imul =>
    obtain rfl : n = 1 := Nat.eq_of_beq_eq_true hok
    simp only [xstp] at h
    have hE := xI2_e h
    clear h
    obtain ⟨x, y, r, rfl, h⟩ := hE
    exact xo_imul F hd (hK _ _ _ _ h)
  case ishl =>
    obtain rfl : n = 1 := Nat.eq_of_beq_eq_true hok
    simp only [xstp] at h
    have hE := xI2_e h
    clear h
    obtain ⟨x, y, r, rfl, h⟩ := hE
    exact xo_ishl F hd (hK _ _ _ _ h)
  case ishr =>
    obtain rfl : n = 1 := Nat.eq_of_beq_eq_true hok
    simp only [xstp] at h
    have hE := xI2_e h
    clear h
    obtain ⟨x, y, r, rfl, h⟩ := hE
    exact xo_ishr F hd (hK _ _ _ _ h)
  case iand =>
    obtain rfl : n = 1 := Nat.eq_of_beq_eq_true hok
    simp only [xstp] at h
    have hE := xI2_e h
    clear h
    obtain ⟨x, y, r, rfl, h⟩ := hE
    exact xo_iand F hd (hK _ _ _ _ h)
  case ior =>
    obtain rfl : n = 1 := Nat.eq_of_beq_eq_true hok
    simp only [xstp] at h
    have hE := xI2_e h
    clear h
    obtain ⟨x, y, r, rfl, h⟩ := hE
    exact xo_ior F hd (hK _ _ _ _ h)
  case ixor =>
    obtain rfl : n = 1 := Nat.eq_of_beq_eq_true hok
    simp only [xstp] at h
    have hE := xI2_e h
    clear h
    obtain ⟨x, y, r, rfl, h⟩ := hE
    exact xo_ixor F hd (hK _ _ _ _ h)
  case iushr =>
    obtain rfl : n = 1 := Nat.eq_of_beq_eq_true hok
    simp only [xstp] at h
    have hE := xI2_e h
    clear h
    obtain ⟨x, y, r, rfl, h⟩ := hE
    exact xo_iushr F hd (hK _ _ _ _ h)
  case idiv =>
    obtain rfl : n = 1 := Nat.eq_of_beq_eq_true hok
    simp only [xstp] at h
    have hE := xI2_e h
    clear h
    obtain ⟨x, y, r, rfl, h0, h⟩ := hE
    exact xo_idiv F hd h0 (hK _ _ _ _ h)
  case irem =>
    obtain rfl : n = 1 := Nat.eq_of_beq_eq_true hok
    simp only [xstp] at h
    have hE := xI2_e h
    clear h
    obtain ⟨x, y, r, rfl, h0, h⟩ := hE
    exact xo_irem F hd h0 (hK _ _ _ _ h)
  case ineg =>
    obtain rfl : n = 1 := Nat.eq_of_beq_eq_true hok
    simp only [xstp] at h
    have hE := xI1_e h
    clear h
    obtain ⟨x, r, rfl, h⟩ := hE
    exact xo_ineg F hd (hK _ _ _ _ h)
  case i2b =>
    obtain rfl : n = 1 := Nat.eq_of_beq_eq_true hok
    simp only [xstp] at h
    have hE := xI1_e h
    clear h
    obtain ⟨x, r, rfl, h⟩ := hE
    exact xo_i2b F hd (hK _ _ _ _ h)
  case i2s =>
    obtain rfl : n = 1 := Nat.eq_of_beq_eq_true hok
    simp only [xstp] at h
    have hE := xI1_e h
    clear h
    obtain ⟨x, r, rfl, h⟩ := hE
    exact xo_i2s F hd (hK _ _ _ _ h)
  case i2c =>
    obtain rfl : n = 1 := Nat.eq_of_beq_eq_true hok
    simp only [xstp] at h
    have hE := xI1_e h
    clear h
    obtain ⟨x, r, rfl, h⟩ := hE
    exact xo_i2c F hd (hK _ _ _ _ h)
  case i2l =>
    obtain rfl : n = 1 := Nat.eq_of_beq_eq_true hok
    simp only [xstp] at h
    have hE := xI1_e h
    clear h
    obtain ⟨x, r, rfl, h⟩ := hE
    exact xo_i2l F hd (hK _ _ _ _ h)
  case l2i =>
    obtain rfl : n = 1 := Nat.eq_of_beq_eq_true hok
    simp only [xstp] at h
    have hE := xL1_e h
    clear h
    obtain ⟨x, r, rfl, h⟩ := hE
    exact xo_l2i F hd (hK _ _ _ _ h)
  case land =>
    obtain rfl : n = 1 := Nat.eq_of_beq_eq_true hok
    simp only [xstp] at h
    have hE := xL2_e h
    clear h
    obtain ⟨x, y, r, rfl, h⟩ := hE
    exact xo_land F hd (hK _ _ _ _ h)
  case lor =>
    obtain rfl : n = 1 := Nat.eq_of_beq_eq_true hok
    simp only [xstp] at h
    have hE := xL2_e h
    clear h
    obtain ⟨x, y, r, rfl, h⟩ := hE
    exact xo_lor F hd (hK _ _ _ _ h)
  case lshl =>
    obtain rfl : n = 1 := Nat.eq_of_beq_eq_true hok
    simp only [xstp] at h
    have hE := xLI_e h
    clear h
    obtain ⟨x, y, r, rfl, h⟩ := hE
    exact xo_lshl F hd (hK _ _ _ _ h)
  case lshr =>
    obtain rfl : n = 1 := Nat.eq_of_beq_eq_true hok
    simp only [xstp] at h
    have hE := xLI_e h
    clear h
    obtain ⟨x, y, r, rfl, h⟩ := hE
    exact xo_lshr F hd (hK _ _ _ _ h)
  case lushr =>
    obtain rfl : n = 1 := Nat.eq_of_beq_eq_true hok
    simp only [xstp] at h
    have hE := xLI_e h
    clear h
    obtain ⟨x, y, r, rfl, h⟩ := hE
    exact xo_lushr F hd (hK _ _ _ _ h)
  case iconst z =>
    have hok := Bool.and_eq_true _ _ ▸ hok
    obtain rfl : n = 1 := Nat.eq_of_beq_eq_true hok.1
    simp only [xstp] at h
    have h2 := of_decide_eq_true hok.2
    exact xo_iconst F hd (show xr z from ⟨by omega, by omega⟩) (hK _ _ _ _ h)
  case bipush z =>
    have hok := Bool.and_eq_true _ _ ▸ hok
    obtain rfl : n = 2 := Nat.eq_of_beq_eq_true hok.1
    simp only [xstp] at h
    exact xo_bipush F hd (of_decide_eq_true hok.2) (hK _ _ _ _ h)
  case sipush z =>
    have hok := Bool.and_eq_true _ _ ▸ hok
    obtain rfl : n = 3 := Nat.eq_of_beq_eq_true hok.1
    simp only [xstp] at h
    exact xo_sipush F hd (of_decide_eq_true hok.2) (hK _ _ _ _ h)
  case ldc x =>
    obtain rfl : n = 2 := Nat.eq_of_beq_eq_true hok
    simp only [xstp] at h
    split at h
    · rename_i v hv
      exact xo_ldc F hd hv (hK _ _ _ _ h)
    · split at h
      · rename_i z hz
        exact xo_ldcS F hd hz (hK _ _ _ _ h)
      · exact h.elim
  case ldc_w x =>
    obtain rfl : n = 3 := Nat.eq_of_beq_eq_true hok
    simp only [xstp] at h
    split at h
    · rename_i v hv
      exact xo_ldcw F hd hv (hK _ _ _ _ h)
    · exact h.elim
  case ldc2_w x =>
    obtain rfl : n = 3 := Nat.eq_of_beq_eq_true hok
    simp only [xstp] at h
    split at h
    · rename_i v hv
      exact xo_ldc2 F hd hv (hK _ _ _ _ h)
    · exact h.elim
  case iload_n k =>
    obtain rfl : n = 1 := Nat.eq_of_beq_eq_true hok
    simp only [xstp] at h
    have hE := xvI_e h
    clear h
    obtain ⟨x, hx, h⟩ := hE
    exact xo_iload_n F hd hx (hK _ _ _ _ h)
  case iload k =>
    obtain rfl : n = 2 := Nat.eq_of_beq_eq_true hok
    simp only [xstp] at h
    have hE := xvI_e h
    clear h
    obtain ⟨x, hx, h⟩ := hE
    exact xo_iload F hd hx (hK _ _ _ _ h)
  case lload_n k =>
    obtain rfl : n = 1 := Nat.eq_of_beq_eq_true hok
    simp only [xstp] at h
    have hE := xvL_e h
    clear h
    obtain ⟨x, hx, h⟩ := hE
    exact xo_lload_n F hd hx (hK _ _ _ _ h)
  case aload_n k =>
    obtain rfl : n = 1 := Nat.eq_of_beq_eq_true hok
    simp only [xstp] at h
    have hE := xvR_e h
    clear h
    obtain ⟨t, i, hx, ht, h⟩ := hE
    exact xo_aload_n F hd hx ht (hK _ _ _ _ h)
  case aload k =>
    obtain rfl : n = 2 := Nat.eq_of_beq_eq_true hok
    simp only [xstp] at h
    have hE := xvR_e h
    clear h
    obtain ⟨t, i, hx, ht, h⟩ := hE
    exact xo_aload F hd hx ht (hK _ _ _ _ h)
  case istore_n k =>
    have hok := Bool.and_eq_true _ _ ▸ hok
    obtain rfl : n = 1 := Nat.eq_of_beq_eq_true hok.1
    simp only [xstp] at h
    have hE := xct h
    clear h
    obtain ⟨hg, h⟩ := hE
    have hE := xI1_e h
    clear h
    obtain ⟨x, r, rfl, h⟩ := hE
    exact xo_istore_n F hd (Nat.le_of_ble_eq_true hok.2) hg (hK _ _ _ _ h)
  case istore k =>
    have hok := Bool.and_eq_true _ _ ▸ hok
    obtain rfl : n = 2 := Nat.eq_of_beq_eq_true hok.1
    simp only [xstp] at h
    have hE := xct h
    clear h
    obtain ⟨hg, h⟩ := hE
    have hE := xI1_e h
    clear h
    obtain ⟨x, r, rfl, h⟩ := hE
    exact xo_istore F hd (Nat.le_of_ble_eq_true hok.2) hg (hK _ _ _ _ h)
  case astore_n k =>
    have hok := Bool.and_eq_true _ _ ▸ hok
    obtain rfl : n = 1 := Nat.eq_of_beq_eq_true hok.1
    simp only [xstp] at h
    have hE := xct h
    clear h
    obtain ⟨hg, h⟩ := hE
    have hE := xR1_e h
    clear h
    obtain ⟨t, i, r, rfl, h⟩ := hE
    have hE := xct h
    clear h
    obtain ⟨ht, h⟩ := hE
    exact xo_astore_n F hd (Nat.le_of_ble_eq_true hok.2) hg ht (hK _ _ _ _ h)
  case astore k =>
    have hok := Bool.and_eq_true _ _ ▸ hok
    obtain rfl : n = 2 := Nat.eq_of_beq_eq_true hok.1
    simp only [xstp] at h
    have hE := xct h
    clear h
    obtain ⟨hg, h⟩ := hE
    have hE := xR1_e h
    clear h
    obtain ⟨t, i, r, rfl, h⟩ := hE
    have hE := xct h
    clear h
    obtain ⟨ht, h⟩ := hE
    exact xo_astore F hd (Nat.le_of_ble_eq_true hok.2) hg ht (hK _ _ _ _ h)
  case iinc k z =>
    have hok := Bool.and_eq_true _ _ ▸ hok
    obtain rfl : n = 3 := Nat.eq_of_beq_eq_true hok.1
    simp only [xstp] at h
    have hE := xct h
    clear h
    obtain ⟨hg, h⟩ := hE
    have hE := xvI_e h
    clear h
    obtain ⟨x, hx, h⟩ := hE
    exact xo_iinc F hd (Nat.le_of_ble_eq_true hok.2) hg hx (hK _ _ _ _ h)
  case ifCond cd z =>
    have hok := Bool.and_eq_true _ _ ▸ hok
    obtain rfl : n = 3 := Nat.eq_of_beq_eq_true hok.1
    simp only [xstp] at h
    have hE := xI1_e h
    clear h
    obtain ⟨x, r, rfl, h⟩ := hE
    exact xo_ifCond F hd (xjmp_ok hok.2) (xif_mono (fun h => hK _ _ _ _ h) (fun h => hK _ _ _ _ h) h)
  case if_icmp cd z =>
    have hok := Bool.and_eq_true _ _ ▸ hok
    obtain rfl : n = 3 := Nat.eq_of_beq_eq_true hok.1
    simp only [xstp] at h
    have hE := xI2_e h
    clear h
    obtain ⟨x, y, r, rfl, h⟩ := hE
    exact xo_if_icmp F hd (xjmp_ok hok.2) (xif_mono (fun h => hK _ _ _ _ h) (fun h => hK _ _ _ _ h) h)
  case goto z =>
    have hok := Bool.and_eq_true _ _ ▸ hok
    obtain rfl : n = 3 := Nat.eq_of_beq_eq_true hok.1
    simp only [xstp] at h
    exact xo_goto F hd (xjmp_ok hok.2) (hK _ _ _ _ h)
  case tableswitch d lo hi os =>
    have hok : (xtg pc d && os.toList.all (xtg pc) && decide (hi - lo + 1 = (os.toList.length : Int))) = true := hok
    simp only [Bool.and_eq_true, decide_eq_true_eq] at hok
    simp only [xstp] at h
    have hE := xI1_e h
    clear h
    obtain ⟨x, r, rfl, h⟩ := hE
    refine xo_tsw F hd hok.1.1 hok.1.2 hok.2 ?_
    exact xsw_mono (fun o h => hK _ _ _ _ h) (fun h => hK _ _ _ _ h) _ _ h
  case lookupswitch d ps =>
    have hok : (xtg pc d && ps.toList.all (fun q => xtg pc q.2) && (ps.toList.zip (ps.toList.drop 1)).all (fun (a, next) => a.1 < next.1)) = true := hok
    have hok2 := Bool.and_eq_true _ _ ▸ hok
    have hok3 := Bool.and_eq_true _ _ ▸ hok2.1
    simp only [xstp] at h
    have hE := xI1_e h
    clear h
    obtain ⟨x, r, rfl, h⟩ := hE
    refine xo_lsw F hd hok3.1 hok3.2 hok2.2 ?_
    exact xlsw_mono (fun o h => hK _ _ _ _ h) (fun h => hK _ _ _ _ h) _ h
  case dup =>
    obtain rfl : n = 1 := Nat.eq_of_beq_eq_true hok
    simp only [xstp] at h
    split at h
    · have hE := xv1_e h
      clear h
      obtain ⟨hv, h⟩ := hE
      exact xo_dup F hd hv (hK _ _ _ _ h)
    · exact h.elim
  case pop =>
    obtain rfl : n = 1 := Nat.eq_of_beq_eq_true hok
    simp only [xstp] at h
    split at h
    · have hE := xv1_e h
      clear h
      obtain ⟨hv, h⟩ := hE
      exact xo_pop F hd hv (hK _ _ _ _ h)
    · exact h.elim
  case dup2 =>
    obtain rfl : n = 1 := Nat.eq_of_beq_eq_true hok
    simp only [xstp] at h
    split at h
    · have hE := xv1_e h
      clear h
      obtain ⟨hv, h⟩ := hE
      have hE := xv1_e h
      clear h
      obtain ⟨hw, h⟩ := hE
      exact xo_dup2 F hd hv hw (hK _ _ _ _ h)
    · exact h.elim
  case getfield x =>
    obtain rfl : n = 3 := Nat.eq_of_beq_eq_true hok
    simp only [xstp] at h
    have hE := xR1_e h
    clear h
    obtain ⟨t, i, r, rfl, h⟩ := hE
    split at h
    · rename_i q hq
      have hE := xcf h
      clear h
      obtain ⟨hb, h⟩ := hE
      obtain rfl := Nat.eq_of_beq_eq_true hb
      obtain ⟨q1, q2⟩ := q
      have hk := (xfld_w hq).2.2
      by_cases h1 : q1 = 1
      · subst h1
        have hle := (xro1 hq).2
        rcases (show q2 = 0 ∨ q2 = 1 by omega) with rfl | rfl
        · exact xo_getV F hd hq (hK _ _ _ _ h)
        · exact xo_getC F hd hq (hK _ _ _ _ h)
      · have hk : xkind q1 = 1 := hk.resolve_right h1
        have hb1 : Nat.beq q1 1 = false := by
          cases hb : Nat.beq q1 1 with
          | false => rfl
          | true => exact absurd (Nat.eq_of_beq_eq_true hb) h1
        have hsz : q2 < xsz q1 := (xfld_w hq).2.1.resolve_right h1
        split at h
        · rename_i eqt
          rw [show Nat.beq (q1, q2).1 1 = false from hb1] at h
          have eqt : xft q1 q2 = 0 := eqt
          have ev : xfv xrho σ q1 i q2 = vI (σ q1 i q2) := by unfold xfv; rw [eqt]; rfl
          refine xo_getf (q := (q1, q2)) F hd hq hk (fun hg _ _ => by show xok xcnt (xfv xrho σ q1 i q2); rw [ev]; exact hg _ _ _) ?_
          show xNx p l e R s m args below meth c cells slots _ M A ad ca D xcnt xrho (pc + 3) L (xfv xrho σ q1 i q2 :: r) σ
          rw [ev]
          exact hK _ _ _ _ h
        · rename_i eqt
          have eqt : xft q1 q2 = 1 := eqt
          have ev : xfv xrho σ q1 i q2 = .inr (.inr (xrho q1 i q2)) := by unfold xfv; rw [eqt]; rfl
          refine xo_getf (q := (q1, q2)) F hd hq hk (fun _ hv hr => by show xok xcnt (xfv xrho σ q1 i q2); rw [ev]; exact hr _ _ _ hv hsz) ?_
          show xNx p l e R s m args below meth c cells slots _ M A ad ca D xcnt xrho (pc + 3) L (xfv xrho σ q1 i q2 :: r) σ
          rw [ev]
          exact hK _ _ _ _ h
        · rename_i eqt
          have eqt : xft q1 q2 = 2 := eqt
          obtain ⟨⟨hz1, hz2⟩, h⟩ := h
          have hz1 : 1 ≤ σ q1 i q2 := hz1
          have hz2 : σ q1 i q2 ≤ 3 := hz2
          have ev : xfv xrho σ q1 i q2 = vR 1 (σ q1 i q2).toNat := by
            unfold xfv
            rw [eqt]
            have : Nat.beq (σ q1 i q2).toNat 0 = false := by
              cases hb : Nat.beq (σ q1 i q2).toNat 0 with
              | false => rfl
              | true => exact absurd (Nat.eq_of_beq_eq_true hb) (by omega)
            simp only [this, cond_false]
          refine xo_getf (q := (q1, q2)) F hd hq hk (fun _ _ _ => by show xok xcnt (xfv xrho σ q1 i q2); rw [ev]; exact Or.inr (Or.inl ⟨rfl, by show 1 ≤ (σ q1 i q2).toNat; omega, by show (σ q1 i q2).toNat ≤ 3; omega⟩)) ?_
          show xNx p l e R s m args below meth c cells slots _ M A ad ca D xcnt xrho (pc + 3) L (xfv xrho σ q1 i q2 :: r) σ
          rw [ev]
          exact hK _ _ _ _ h
        · rename_i eqt
          have eqt : xft q1 q2 = 3 := eqt
          have ev : xfv xrho σ q1 i q2 = vI (σ q1 i q2) := by unfold xfv; rw [eqt]; rfl
          refine xo_getf (q := (q1, q2)) F hd hq hk (fun hg _ _ => by show xok xcnt (xfv xrho σ q1 i q2); rw [ev]; exact hg _ _ _) ?_
          show xNx p l e R s m args below meth c cells slots _ M A ad ca D xcnt xrho (pc + 3) L (xfv xrho σ q1 i q2 :: r) σ
          rw [ev]
          exact hK _ _ _ _ h
        · exact h.elim
    · exact h.elim
  case putfield x =>
    obtain rfl : n = 3 := Nat.eq_of_beq_eq_true hok
    simp only [xstp] at h
    split at h
    · rename_i v st'
      have hE := xR1_e h
      clear h
      obtain ⟨t, i, r, rfl, h⟩ := hE
      split at h
      · rename_i q hq
        have hE := xcf h
        clear h
        obtain ⟨hb, h⟩ := hE
        obtain rfl := Nat.eq_of_beq_eq_true hb
        obtain ⟨q1, q2⟩ := q
        have hkk := (xfld_w hq).2.2
        have hn1 : q1 ≠ 1 := by
          rintro rfl
          have hle := (xro1 hq).2
          rcases (show q2 = 0 ∨ q2 = 1 by omega) with rfl | rfl
          · exact h.elim
          · exact h.elim
        have hk : xkind q1 = 1 := hkk.resolve_right hn1
        have hsz : q2 < xsz q1 := (xfld_w hq).2.1.resolve_right hn1
        have hty := xfty hk hsz
        split at h
        · rename_i eqt
          have eqt : xft q1 q2 = 0 := eqt
          rw [eqt] at hty
          have hty := of_decide_eq_true hty
          have hE := xct h
          clear h
          obtain ⟨-, h⟩ := hE
          have hE := xvI_e h
          clear h
          obtain ⟨y, rfl, h⟩ := hE
          intro H locs ls hW hS hL hs
          have hy := (xoks_c.mp hs).1
          refine xo_putf (q := (q1, q2)) (y := y) F hd hq hk hy hty.2 (by show narrow (xty q1 q2) _ = _; rw [hty.1]; rfl) (by show fits (xty q1 q2) _ = _; rw [hty.1]; rfl) ?_ (hK _ _ _ _ h) H locs ls hW hS hL hs
          unfold xfv
          rw [show xft (q1, q2).1 (q1, q2).2 = 0 from eqt, xup_at, if_pos rfl]
          rfl
        · rename_i eqt
          have eqt : xft q1 q2 = 2 := eqt
          rw [eqt] at hty
          have hty := of_decide_eq_true hty
          have hE := xvR_e h
          clear h
          obtain ⟨a, z, rfl, ha, h⟩ := hE
          have hE := xcf h
          clear h
          obtain ⟨hb, h⟩ := hE
          obtain rfl := Nat.eq_of_beq_eq_true hb
          intro H locs ls hW hS hL hs
          have hy := xok_1 (xoks_c.mp hs).1
          refine xo_putf (q := (q1, q2)) (y := (z : Int)) F hd hq hk (show xr (z : Int) from ⟨by omega, by omega⟩) hty.2 (by show narrow (xty q1 q2) _ = _; rw [hty.1]; rfl) (by show fits (xty q1 q2) _ = _; rw [hty.1]; rfl) ?_ (hK _ _ _ _ h) H locs ls hW hS hL hs
          unfold xfv
          rw [show xft (q1, q2).1 (q1, q2).2 = 2 from eqt, xup_at, if_pos rfl]
          have : Nat.beq ((z : Int)).toNat 0 = false := by
            cases hb : Nat.beq ((z : Int)).toNat 0 with
            | false => rfl
            | true => exact absurd (Nat.eq_of_beq_eq_true hb) (by omega)
          simp only [this, cond_false]
          rfl
        · rename_i eqt
          have eqt : xft q1 q2 = 3 := eqt
          rw [eqt] at hty
          have hty := of_decide_eq_true hty
          have hE := xvI_e h
          clear h
          obtain ⟨y, rfl, h01, h⟩ := hE
          have hfit : fits .boolean (.int (Int32.ofInt y)) = true := by rcases h01 with rfl | rfl <;> decide +kernel
          refine xo_putf (q := (q1, q2)) (y := y) F hd hq hk (show xr y from ⟨by omega, by omega⟩) hty.2 (by show narrow (xty q1 q2) _ = _; rw [hty.1]; exact xn_nz h01) (by show fits (xty q1 q2) _ = _; rw [hty.1]; exact hfit) ?_ (hK _ _ _ _ h)
          unfold xfv
          rw [show xft (q1, q2).1 (q1, q2).2 = 3 from eqt, xup_at, if_pos rfl]
          rfl
        · exact h.elim
      · exact h.elim
    · exact h.elim
  case iaload =>
    obtain rfl : n = 1 := Nat.eq_of_beq_eq_true hok
    simp only [xstp] at h
    have hE := xIR_e h
    clear h
    obtain ⟨t, i, x, r, rfl, h⟩ := hE
    cases hb : xints t with
    | true =>
      rw [hb] at h
      exact xo_iaload F hd (Nat.eq_of_beq_eq_true hb) h.1 (hK _ _ _ _ h.2)
    | false =>
      rw [hb] at h
      have hE := xcf h
      clear h
      obtain ⟨h3, hx, h⟩ := hE
      obtain rfl := Nat.eq_of_beq_eq_true h3
      exact xo_iloadA F hd hx (hK _ _ _ _ h)
  case iastore =>
    obtain rfl : n = 1 := Nat.eq_of_beq_eq_true hok
    simp only [xstp] at h
    have hE := xIIR_e h
    clear h
    obtain ⟨t, i, x, v, r, rfl, h⟩ := hE
    have hE := xcf h
    clear h
    obtain ⟨hb, hx, h⟩ := hE
    exact xo_iastore F hd (Nat.eq_of_beq_eq_true hb) hx (hK _ _ _ _ h)
  case baload =>
    obtain rfl : n = 1 := Nat.eq_of_beq_eq_true hok
    simp only [xstp] at h
    have hE := xIR_e h
    clear h
    obtain ⟨t, i, x, r, rfl, h⟩ := hE
    cases hb : Nat.beq (xkind t) 3 with
    | true =>
      rw [hb] at h
      exact xo_zaload F hd (Nat.eq_of_beq_eq_true hb) h.1 (hK _ _ _ _ h.2)
    | false =>
      rw [hb] at h
      have hE := xcf h
      clear h
      obtain ⟨h3, hx, h⟩ := hE
      obtain rfl := Nat.eq_of_beq_eq_true h3
      exact xo_bload F hd hx (hK _ _ _ _ h)
  case bastore =>
    obtain rfl : n = 1 := Nat.eq_of_beq_eq_true hok
    simp only [xstp] at h
    have hE := xIIR_e h
    clear h
    obtain ⟨t, i, x, v, r, rfl, h⟩ := hE
    have hE := xcf h
    clear h
    obtain ⟨hb, hx, h01, h⟩ := hE
    exact xo_zastore F hd (Nat.eq_of_beq_eq_true hb) hx h01 (hK _ _ _ _ h)
  case aaload =>
    obtain rfl : n = 1 := Nat.eq_of_beq_eq_true hok
    simp only [xstp] at h
    have hE := xIR_e h
    clear h
    obtain ⟨t, i, x, r, rfl, h⟩ := hE
    have hE := xcf h
    clear h
    obtain ⟨hb, hx, h⟩ := hE
    exact xo_aaload F hd (Nat.eq_of_beq_eq_true hb) hx (hK _ _ _ _ h)
  case arraylength =>
    obtain rfl : n = 1 := Nat.eq_of_beq_eq_true hok
    simp only [xstp] at h
    have hE := xR1_e h
    clear h
    obtain ⟨t, i, r, rfl, h⟩ := hE
    cases hb : Nat.ble 2 (xkind t) with
    | true =>
      rw [hb] at h
      exact xo_alen F hd (Nat.le_of_ble_eq_true hb) (hK _ _ _ _ h)
    | false =>
      rw [hb] at h
      have hE := xcf h
      clear h
      obtain ⟨h3, h⟩ := hE
      obtain rfl := Nat.eq_of_beq_eq_true h3
      exact xo_blen F hd (hK _ _ _ _ h)
  case getstatic x =>
    obtain rfl : n = 3 := Nat.eq_of_beq_eq_true hok
    simp only [xstp] at h
    split at h
    · rename_i hs
      exact xo_gsA F hd hs (hK _ _ _ _ h)
    · rename_i hs
      exact xo_gsC F hd hs (hK _ _ _ _ h)
    · exact h.elim
  case ireturn =>
    obtain rfl : n = 1 := Nat.eq_of_beq_eq_true hok
    simp only [xstp] at h
    split at h
    · split at h
      · rename_i hk
        exact xo_iret F hM hd (Or.inl hk) (hRr _ h)
      · rename_i hk
        exact xo_iret F hM hd (Or.inr (Or.inl ⟨hk, h.1⟩)) (hRr _ h.2)
      · rename_i hk
        exact xo_iret F hM hd (Or.inr (Or.inr ⟨hk, h.1⟩)) (hRr _ h.2)
      · exact h.elim
    · exact h.elim
  case return_ =>
    obtain rfl : n = 1 := Nat.eq_of_beq_eq_true hok
    simp only [xstp] at h
    split at h
    · split at h
      · rename_i hk
        exact xo_vret F hM hd hk (hRr _ h)
      · exact h.elim
    · exact h.elim
  case invokevirtual x =>
    obtain rfl : n = 3 := Nat.eq_of_beq_eq_true hok
    simp only [xstp] at h
    split at h
    · rename_i q hq
      have hE := xtake_spec _ _ _ h
      clear h
      obtain ⟨b, r, hlen, rfl, h⟩ := hE
      rw [List.append_nil] at h
      have hE := xcf h
      clear h
      obtain ⟨hcd, h⟩ := hE
      simp only [Bool.and_eq_true] at hcd
      obtain ⟨⟨⟨hk0, hrc⟩, hnl⟩, hr8⟩ := hcd
      obtain ⟨k, kd⟩ := q
      obtain rfl : kd = 0 := Nat.eq_of_beq_eq_true hk0
      have hkN : k < xN := xkN hq (by omega)
      obtain ⟨d, Qk, hR1, hm, hk⟩ := hC _ _ _ hkN hnl (by rw [List.length_reverse]; exact hlen) h
      have hm' : xMet l d k b.reverse σ Qk := hm
      cases hrt : (xrec k).2.2.2.1 with
      | zero => exact absurd hrt (xk0 hq)
      | succ t' =>
        cases hbr : b.reverse with
        | nil =>
          rw [hbr, hrt] at hrc
          cases hrc
        | cons v as =>
          rw [hbr, hrt] at hrc
          obtain ⟨i, rfl⟩ : ∃ i, v = vR (t' + 1) i := by
            rcases v with v | v | v
            · cases hrc
            · cases hrc
            · obtain ⟨v1, v2⟩ := v
              obtain rfl : v1 = t' + 1 := Nat.eq_of_beq_eq_true hrc
              exact ⟨v2, rfl⟩
          have hb : b = as.reverse ++ [vR (t' + 1) i] := by
            have := congrArg List.reverse hbr
            rwa [List.reverse_reverse, List.reverse_cons] at this
          rw [hbr] at hm'
          subst hb
          rw [List.append_assoc]
          refine xo_callV F hd hq hkN hrt (Nat.succ_ne_zero _) ?_ hr8 hR1.1 hR1.2 hc hsl (by rw [List.reverse_reverse]; exact hm') hk
          rw [← hlen, List.length_append]
          rfl
    · exact h.elim
  case invokestatic x =>
    obtain rfl : n = 3 := Nat.eq_of_beq_eq_true hok
    simp only [xstp] at h
    split at h
    · rename_i q hq
      obtain ⟨k, kd⟩ := q
      split at h
      · rename_i eqt
        obtain rfl : kd = 6 := eqt
        split at h
        · have hE := xcf h
          clear h
          obtain ⟨hcd, hh, h⟩ := hE
          simp only [Bool.and_eq_true] at hcd
          obtain ⟨⟨ha, hb⟩, hr8⟩ := hcd
          have hk9 : k = 999 := xk999 hq (by omega)
          subst hk9
          exact xo_copy F hd hq hr8 hRf hRl (Nat.eq_of_beq_eq_true ha) (Nat.eq_of_beq_eq_true hb) hh (hK _ _ _ _ h)
        · exact h.elim
      · rename_i eqt
        obtain rfl : kd = 7 := eqt
        have hE := xI2_e h
        clear h
        obtain ⟨a, b, r, rfl, h⟩ := hE
        have hE := xcf h
        clear h
        obtain ⟨hr8, h⟩ := hE
        have hk9 : k = 999 := xk999 hq (by omega)
        subst hk9
        exact xo_max F hd hq hr8 hRf hRl hc hsl (hK _ _ _ _ h)
      · rename_i eqt
        obtain rfl : kd = 8 := eqt
        have hE := xI2_e h
        clear h
        obtain ⟨a, b, r, rfl, h⟩ := hE
        have hE := xcf h
        clear h
        obtain ⟨hr8, h⟩ := hE
        have hk9 : k = 999 := xk999 hq (by omega)
        subst hk9
        exact xo_min F hd hq hr8 hRf hRl hc hsl (hK _ _ _ _ h)
      · rename_i eqt
        obtain rfl : kd = 1 := eqt
        have hE := xtake_spec _ _ _ h
        clear h
        obtain ⟨b, r, hlen, rfl, h⟩ := hE
        rw [List.append_nil] at h
        have hE := xcf h
        clear h
        obtain ⟨hcd, h⟩ := hE
        simp only [Bool.and_eq_true] at hcd
        obtain ⟨⟨h0, hnl⟩, hr8⟩ := hcd
        have hkN : k < xN := xkN hq (by omega)
        obtain ⟨d, Qk, hR1, hm, hk⟩ := hC _ _ _ hkN hnl (by rw [List.length_reverse]; exact hlen) h
        exact xo_callS F hd hq (Or.inl rfl) hkN (Nat.eq_of_beq_eq_true h0) hlen hr8 hR1.1 hR1.2 hc hsl hm hk
      · rename_i eqt
        obtain rfl : kd = 3 := eqt
        have hE := xtake_spec _ _ _ h
        clear h
        obtain ⟨b, r, hlen, rfl, h⟩ := hE
        rw [List.append_nil] at h
        have hE := xcf h
        clear h
        obtain ⟨hcd, h⟩ := hE
        simp only [Bool.and_eq_true] at hcd
        obtain ⟨⟨h0, hnl⟩, hr8⟩ := hcd
        have hkN : k < xN := xkN hq (by omega)
        obtain ⟨d, Qk, hR1, hm, hk⟩ := hC _ _ _ hkN hnl (by rw [List.length_reverse]; exact hlen) h
        exact xo_callS F hd hq (Or.inr rfl) hkN (Nat.eq_of_beq_eq_true h0) hlen hr8 hR1.1 hR1.2 hc hsl hm hk
      · exact h.elim
    · exact h.elim
end XS
