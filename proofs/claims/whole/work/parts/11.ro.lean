/-! READ-ONLY CELLS, STATICS, COPIES, MATH, ENDS -/
theorem xoks_app {cnt : Nat → Nat} {a b : List xV} : xoks cnt (a ++ b) ↔ xoks cnt a ∧ xoks cnt b := by
  unfold xoks
  exact List.forall_mem_append
theorem xro1_all : (List.range 14).all (fun c => (xnth [] xfldT c).all (fun e => !(Nat.beq e.2.1 1) || (decide ((xas (xnth [] xfpT c) e.1).map (·.2) = some false) && Nat.ble e.2.2 1))) = true := by decide +kernel
theorem xro1 {c x k : Nat} (h : xfld c x = some (1, k)) : Cond.fieldLink (xnth "" xowL c) x "java/lang/String" (xFt 1 k).2.1 (xFt 1 k).2.2.1 ∈ xGT ∧ k ≤ 1 := by
  have h1 := xall_nth (T := xfldT) (n := 14) (f := xchF) (d := []) (by decide +kernel) rfl xchF_ok c (x, (1, k)) (xas_mem (xnth [] xfldT c) x (1, k) h)
  have h2 := xall_nth (T := xfldT) (n := 14) (f := fun c e => !(Nat.beq e.2.1 1) || (decide ((xas (xnth [] xfpT c) e.1).map (·.2) = some false) && Nat.ble e.2.2 1)) (d := []) (by decide +kernel) rfl xro1_all c (x, (1, k)) (xas_mem (xnth [] xfldT c) x (1, k) h)
  unfold xchF at h1
  cases hp : xas (xnth [] xfpT c) x with
  | none => simp only [hp] at h1; cases h1
  | some p =>
    simp only [hp, Bool.and_eq_true, decide_eq_true_eq] at h1
    simp only [hp, Option.map_some, Option.some.injEq, Bool.or_eq_true, Bool.and_eq_true, decide_eq_true_eq] at h2
    rcases h2 with h2 | ⟨h2, h3⟩
    · exact absurd h2 (by decide)
    · obtain ⟨pl, n⟩ := p
      simp only at h2
      subst h2
      exact ⟨xGT_in pl h1.1.1 rfl, Nat.le_of_ble_eq_true h3⟩
theorem xWd.moved {D : va_G} {ad : Nat → Nat → Nat} {ca : Nat → Nat → ClassId} {cnt : Nat → Nat} {ρ : xP} {σ : xM} {A B : Nat → Prop} {u U : State} {H : Heap} (h : xWd D ad ca cnt ρ σ A u H) (hvm : u.vm.Alike U.vm) (hAB : ∀ t i, xvd cnt t i → A (ad t i) → B (ad t i)) : xWd D ad ca cnt ρ σ B U H :=
  ⟨h.1, h.2.1, fun t i hv => hAB t i hv (h.2.2.1 t i hv), h.2.2.2.1, h.2.2.2.2.1, fun t i hv hk => ⟨arrOfT_moved hvm (h.2.2.2.2.2 t i hv hk).1, (h.2.2.2.2.2 t i hv hk).2.moved hvm⟩⟩
/-- a method's end -/
def xQc (v : Bool) (Q : Int → xM → Prop) (B : xM → State → Prop) (A : Nat → Prop) : Array Value → State → Outcome → State → Prop := match v with
  | true => va_Qv (fun u : xM => Q 0 u) B A
  | false => va_Qi (fun (r : Int32) (u : xM) => ∃ z, r = Int32.ofInt z ∧ xr z ∧ Q z u) B A
def xvoid (M : Nat) : Bool := Nat.beq (xrec M).2.2.1 0
section XI
variable {p : Program} {l : Launch} {e : Env} {R : Room} {s : State} {m : MethodId} {args : Array Value} {below : List Frame} {meth : Method} {c : Code} {cells slots : Nat} {Q : State → Prop}
variable {M : Nat} {A : Nat → Prop} {ad : Nat → Nat → Nat} {ca : Nat → Nat → ClassId} {D : va_G} {cnt : Nat → Nat} {ρ : xP}
theorem xok_ref {t i : Nat} (h : xok cnt (vR t i)) : t = 0 ∨ (t = 1 ∧ 1 ≤ i ∧ i ≤ 3) ∨ (t = 2 ∧ 1 ≤ i ∧ i ≤ 3) ∨ (t = 3 ∧ i = 0) ∨ (4 ≤ t ∧ t < 57 ∧ i < cnt t) := h
theorem xok_1 {i : Nat} (h : xok cnt (vR 1 i)) : 1 ≤ i ∧ i ≤ 3 := by have := xok_ref h; omega
theorem xok_2 {i : Nat} (h : xok cnt (vR 2 i)) : 1 ≤ i ∧ i ≤ 3 := by have := xok_ref h; omega
theorem xok_3 {i : Nat} (h : xok cnt (vR 3 i)) : i = 0 := by have := xok_ref h; omega
theorem xo_getV (F : xFix p s m args meth c M A ad D) {pc x : Nat} {L r : List xV} {σ : xM} {i : Nat} (hd : decode (xy M).2.1 pc = .ok (.getfield x, 3)) (hf : xfld (xrec M).1 x = some (1, 0))
    (k : xNx p l e R s m args below meth c cells slots Q M A ad ca D cnt ρ (pc + 3) L (vR 2 i :: r) σ) : xNx p l e R s m args below meth c cells slots Q M A ad ca D cnt ρ pc L (vR 1 i :: r) σ := by
  intro H locs ls hW hS hL hs
  obtain ⟨hx, hr⟩ := xoks_c.mp hs
  have hi := xok_1 hx
  have h := k H locs ls hW hS hL (xoks_c.mpr ⟨Or.inr (Or.inr (Or.inl ⟨rfl, hi⟩)), hr⟩)
  obtain ⟨j, rfl⟩ : ∃ j, i = j + 1 := ⟨i - 1, by omega⟩
  obtain ⟨hx0, hb, -, -, hown, -, hts, hex, -, hro, hK, -⟩ := F
  exact vk_getf hx0 hb (hro.2.2.2.1 j (by omega)).2.2.1 hS hown (hts _ (xro1 hf).1) (fun _ h => h) hd h
theorem xo_getC (F : xFix p s m args meth c M A ad D) {pc x : Nat} {L r : List xV} {σ : xM} {i : Nat} (hd : decode (xy M).2.1 pc = .ok (.getfield x, 3)) (hf : xfld (xrec M).1 x = some (1, 1))
    (k : xNx p l e R s m args below meth c cells slots Q M A ad ca D cnt ρ (pc + 3) L (vI 0 :: r) σ) : xNx p l e R s m args below meth c cells slots Q M A ad ca D cnt ρ pc L (vR 1 i :: r) σ := by
  intro H locs ls hW hS hL hs
  obtain ⟨hx, hr⟩ := xoks_c.mp hs
  have hi := xok_1 hx
  have h := k H locs ls hW hS hL (xoks_c.mpr ⟨xn_r0, hr⟩)
  obtain ⟨j, rfl⟩ : ∃ j, i = j + 1 := ⟨i - 1, by omega⟩
  obtain ⟨hx0, hb, -, -, hown, -, hts, hex, -, hro, hK, -⟩ := F
  exact vk_getf hx0 hb (hro.2.2.2.1 j (by omega)).2.1 hS hown (hts _ (xro1 hf).1) (fun _ h => h) hd h
theorem xbyt_r : ∀ i, i < 4 → ∀ j, j < 4 → xr (xbyt i j) ∧ (([[], [119, 108, 118], [119, 115, 121]] : List (List Int32)).getD (i - 1) []).getD j 0 = Int32.ofInt (xbyt i j) := by decide +kernel
theorem xblen_r : ∀ i, i < 4 → 1 ≤ i → (xblen i = (([0, 3, 3] : List Nat).getD (i - 1) 0 : Int)) ∧ xblen i ≤ 3 := by decide +kernel
theorem xo_bload (F : xFix p s m args meth c M A ad D) {pc : Nat} {L r : List xV} {σ : xM} {i : Nat} {x : Int} (hd : decode (xy M).2.1 pc = .ok (.baload, 1)) (hx : 0 ≤ x ∧ x < xblen i)
    (k : xNx p l e R s m args below meth c cells slots Q M A ad ca D cnt ρ (pc + 1) L (vI (xbyt i x.toNat) :: r) σ) : xNx p l e R s m args below meth c cells slots Q M A ad ca D cnt ρ pc L (vI x :: vR 2 i :: r) σ := by
  intro H locs ls hW hS hL hs
  obtain ⟨hxx, hs1⟩ := xoks_c.mp hs
  obtain ⟨ho, hr⟩ := xoks_c.mp hs1
  have hi := xok_2 ho
  obtain ⟨e1, e2⟩ := xblen_r i (by omega) hi.1
  obtain ⟨f1, f2⟩ := xbyt_r i (by omega) x.toNat (by omega)
  have h := k H locs ls hW hS hL (xoks_c.mpr ⟨f1, hr⟩)
  obtain ⟨j, rfl⟩ : ∃ j, i = j + 1 := ⟨i - 1, by omega⟩
  obtain ⟨hx0, hb, -, -, hown, -, hts, hex, -, hro, hK, -⟩ := F
  refine va_tb (v := .int (Int32.ofInt (xbyt (j + 1) x.toNat))) hx0 hb (hro.2.2.2.1 j (by omega)).2.2.2 hS (xn_in hx.1 (by rw [e1] at hx; exact hx.2) hxx) ?_ hd h
  rw [xn_nat hx.1 hxx, ← f2]
  rfl
theorem xo_blen (F : xFix p s m args meth c M A ad D) {pc : Nat} {L r : List xV} {σ : xM} {i : Nat} (hd : decode (xy M).2.1 pc = .ok (.arraylength, 1))
    (k : xNx p l e R s m args below meth c cells slots Q M A ad ca D cnt ρ (pc + 1) L (vI (xblen i) :: r) σ) : xNx p l e R s m args below meth c cells slots Q M A ad ca D cnt ρ pc L (vR 2 i :: r) σ := by
  intro H locs ls hW hS hL hs
  obtain ⟨ho, hr⟩ := xoks_c.mp hs
  have hi := xok_2 ho
  obtain ⟨e1, e2⟩ := xblen_r i (by omega) hi.1
  have h := k H locs ls hW hS hL (xoks_c.mpr ⟨(show xr (xblen i) from ⟨by rw [e1]; omega, by omega⟩), hr⟩)
  obtain ⟨j, rfl⟩ : ∃ j, i = j + 1 := ⟨i - 1, by omega⟩
  obtain ⟨hx0, hb, -, -, hown, -, hts, hex, -, hro, hK, -⟩ := F
  exact va_tlen (v := Int32.ofInt (xblen (j + 1))) hx0 hb (hro.2.2.2.1 j (by omega)).2.2.2 hS (by rw [e1]; exact xn_ofn _) hd h
theorem xabv_r : ∀ j, j < 7 → xr (xabv j) := by decide +kernel
theorem xo_iloadA (F : xFix p s m args meth c M A ad D) {pc : Nat} {L r : List xV} {σ : xM} {i : Nat} {x : Int} (hd : decode (xy M).2.1 pc = .ok (.iaload, 1)) (hx : 0 ≤ x ∧ x < xlen 3)
    (k : xNx p l e R s m args below meth c cells slots Q M A ad ca D cnt ρ (pc + 1) L (vI (xabv x.toNat) :: r) σ) : xNx p l e R s m args below meth c cells slots Q M A ad ca D cnt ρ pc L (vI x :: vR 3 i :: r) σ := by
  intro H locs ls hW hS hL hs
  obtain ⟨hxx, hs1⟩ := xoks_c.mp hs
  obtain ⟨ho, hr⟩ := xoks_c.mp hs1
  obtain rfl := xok_3 ho
  have e7 : xlen 3 = 7 := rfl
  rw [e7] at hx
  have h := k H locs ls hW hS hL (xoks_c.mpr ⟨xabv_r _ (by omega), hr⟩)
  obtain ⟨hx0, hb, -, -, hown, -, hts, hex, -, hro, hK, -⟩ := F
  exact va_ti (v := .int (Int32.ofInt (xabv x.toNat))) hx0 hb hro.2.1 hS (xn_in hx.1 hx.2 hxx) (by rw [xn_nat hx.1 hxx]) hd h
theorem xo_gsA (F : xFix p s m args meth c M A ad D) {pc x : Nat} {L r : List xV} {σ : xM} (hd : decode (xy M).2.1 pc = .ok (.getstatic x, 3)) (hf : xsta (xrec M).1 x = some true)
    (k : xNx p l e R s m args below meth c cells slots Q M A ad ca D cnt ρ (pc + 3) L (vR 3 0 :: r) σ) : xNx p l e R s m args below meth c cells slots Q M A ad ca D cnt ρ pc L r σ := by
  intro H locs ls hW hS hL hs
  have h := k H locs ls hW hS hL (xoks_c.mpr ⟨Or.inr (Or.inr (Or.inr (Or.inl ⟨rfl, rfl⟩))), hs⟩)
  obtain ⟨hx0, hb, -, -, hown, -, hts, hex, -, hro, hK, -⟩ := F
  exact va_getsN hx0 hb hro.1 hS hown (va_Nw.use rfl (hex.1 _ (xnest_f (xsta_w hf)))) (fun _ h => h) hd h
theorem xo_gsC (F : xFix p s m args meth c M A ad D) {pc x : Nat} {L r : List xV} {σ : xM} (hd : decode (xy M).2.1 pc = .ok (.getstatic x, 3)) (hf : xsta (xrec M).1 x = some false)
    (k : xNx p l e R s m args below meth c cells slots Q M A ad ca D cnt ρ (pc + 3) L (vI 1 :: r) σ) : xNx p l e R s m args below meth c cells slots Q M A ad ca D cnt ρ pc L r σ := by
  intro H locs ls hW hS hL hs
  have h := k H locs ls hW hS hL (xoks_c.mpr ⟨(show xr 1 from ⟨by decide, by decide⟩), hs⟩)
  obtain ⟨hx0, hb, -, -, hown, -, hts, hex, -, hro, hK, -⟩ := F
  exact va_gets hx0 hb hro.2.2.1 hS hown (hts _ (xGT_m (xsta_w hf) rfl)) (fun _ h => h) hd h
theorem xcats {r : List xV} (h : xnl r = true) : ((r.map (xcv ad)).map fun v => v.category).sum = r.length := by
  induction r with
  | nil => rfl
  | cons a r ih =>
    have ha : ∀ z, a ≠ vL z := by
      rintro z rfl
      cases h
    have hr : xnl r = true := by
      rcases a with x | x | q
      · exact h
      · cases h
      · exact h
    rw [List.map_cons, List.map_cons, List.sum_cons, ih hr, xcat1 ha, List.length_cons]
    omega
theorem xrs_sum {r : List xV} (h : xrs r = true) : ((r.map (xcv ad)).map fun v => v.category).sum ≤ 8 := by
  simp only [xrs, Bool.and_eq_true] at h
  rw [xcats h.1]
  exact Nat.le_of_ble_eq_true h.2
theorem xo_max (F : xFix p s m args meth c M A ad D) {pc x : Nat} {L r : List xV} {σ : xM} {a b : Int} (hd : decode (xy M).2.1 pc = .ok (.invokestatic x, 3)) (hc : xcal (xrec M).1 x = some (999, 7)) (hr8 : xrs r = true) (hRf : 1 ≤ R.frames) (hRl : 40 ≤ R.locals) (h1 : cells ≤ R.cells) (h2 : slots ≤ R.slots)
    (k : xNx p l e R s m args below meth c cells slots Q M A ad ca D cnt ρ (pc + 3) L (vI (if a < b then b else a) :: r) σ) : xNx p l e R s m args below meth c cells slots Q M A ad ca D cnt ρ pc L (vI b :: vI a :: r) σ := by
  intro H locs ls hW hS hL hs
  obtain ⟨hb0, hs1⟩ := xoks_c.mp hs
  obtain ⟨ha0, hr⟩ := xoks_c.mp hs1
  have h := k H locs ls hW hS hL (xoks_c.mpr ⟨(by by_cases q : a < b <;> simp only [q, if_true, if_false] <;> assumption), hr⟩)
  have hw := (xcal_w hc).1
  have hsum := xrs_sum (ad := ad) hr8
  obtain ⟨hx0, hb, hml, -, hown, -, hts, hex, -, hro, hK, -⟩ := F
  have e : (if Int32.ofInt a < Int32.ofInt b then Int32.ofInt b else Int32.ofInt a) = Int32.ofInt (if a < b then b else a) := by
    by_cases q : a < b
    · rw [if_pos ((xn_lt ha0 hb0).mpr q), if_pos q]
    · rw [if_neg (fun z => q ((xn_lt ha0 hb0).mp z)), if_neg q]
  refine va_mmax hx0 hb (by rw [hml]; exact hL.1.symm) hown (hts _ (xGT_m hw rfl)) (hts _ xw_max_static) (hts _ xw_math) (hts _ xw_max_code) hRf (by omega) h1 h2 hd ?_
  rw [e]
  exact h
theorem xo_min (F : xFix p s m args meth c M A ad D) {pc x : Nat} {L r : List xV} {σ : xM} {a b : Int} (hd : decode (xy M).2.1 pc = .ok (.invokestatic x, 3)) (hc : xcal (xrec M).1 x = some (999, 8)) (hr8 : xrs r = true) (hRf : 1 ≤ R.frames) (hRl : 40 ≤ R.locals) (h1 : cells ≤ R.cells) (h2 : slots ≤ R.slots)
    (k : xNx p l e R s m args below meth c cells slots Q M A ad ca D cnt ρ (pc + 3) L (vI (if b < a then b else a) :: r) σ) : xNx p l e R s m args below meth c cells slots Q M A ad ca D cnt ρ pc L (vI b :: vI a :: r) σ := by
  intro H locs ls hW hS hL hs
  obtain ⟨hb0, hs1⟩ := xoks_c.mp hs
  obtain ⟨ha0, hr⟩ := xoks_c.mp hs1
  have h := k H locs ls hW hS hL (xoks_c.mpr ⟨(by by_cases q : b < a <;> simp only [q, if_true, if_false] <;> assumption), hr⟩)
  have hw := (xcal_w hc).1
  have hsum := xrs_sum (ad := ad) hr8
  obtain ⟨hx0, hb, hml, -, hown, -, hts, hex, -, hro, hK, -⟩ := F
  have e : (if Int32.ofInt b < Int32.ofInt a then Int32.ofInt b else Int32.ofInt a) = Int32.ofInt (if b < a then b else a) := by
    by_cases q : b < a
    · rw [if_pos ((xn_lt hb0 ha0).mpr q), if_pos q]
    · rw [if_neg (fun z => q ((xn_lt hb0 ha0).mp z)), if_neg q]
  refine va_mmin hx0 hb (by rw [hml]; exact hL.1.symm) hown (hts _ (xGT_m hw rfl)) (hts _ xw_min_static) (hts _ xw_math) (hts _ xw_min_code) hRf (by omega) h1 h2 hd ?_
  rw [e]
  exact h
theorem xo_copy (F : xFix p s m args meth c M A ad D) {pc x : Nat} {L r : List xV} {σ : xM} {ta ia tb ib : Nat} {sp dp n : Int} (hd : decode (xy M).2.1 pc = .ok (.invokestatic x, 3)) (hc : xcal (xrec M).1 x = some (999, 6)) (hr8 : xrs r = true) (hRf : 1 ≤ R.frames) (hRl : 40 ≤ R.locals)
    (hka : xkind ta = 2) (hkb : xkind tb = 2) (hh : 0 ≤ sp ∧ 0 ≤ dp ∧ 0 ≤ n ∧ sp + n ≤ xlen ta ∧ dp + n ≤ xlen tb)
    (k : xNx p l e R s m args below meth c cells slots Q M A ad ca D cnt ρ (pc + 3) L r (xcpy σ ta ia sp.toNat tb ib dp.toNat n.toNat)) : xNx p l e R s m args below meth c cells slots Q M A ad ca D cnt ρ pc L (vI n :: vI dp :: vR tb ib :: vI sp :: vR ta ia :: r) σ := by
  intro H locs ls hW hS hL hs
  obtain ⟨hn0, hs⟩ := xoks_c.mp hs
  obtain ⟨hd0, hs⟩ := xoks_c.mp hs
  obtain ⟨hob, hs⟩ := xoks_c.mp hs
  obtain ⟨hs0, hs⟩ := xoks_c.mp hs
  obtain ⟨hoa, hr⟩ := xoks_c.mp hs
  have hva := xok_vd hoa (by rw [hka]; decide)
  have hvb := xok_vd hob (by rw [hkb]; decide)
  obtain ⟨ka, -, hea⟩ := xW_idx (ad := ad) (ca := ca) (ρ := ρ) (σ := σ) hva
  obtain ⟨kb, hkb1, heb⟩ := xW_idx (ad := ad) (ca := ca) (ρ := ρ) (σ := σ) hvb
  rw [xE_i (by rw [hka]; decide) (by rw [hka]; decide)] at hea
  rw [xE_i (by rw [hkb]; decide) (by rw [hkb]; decide)] at heb
  have hw := (xcal_w hc).1
  have hsum := xrs_sum (ad := ad) hr8
  obtain ⟨ela, -⟩ := xlen_ok (t := ta) (by rw [hka]; decide)
  obtain ⟨elb, -⟩ := xlen_ok (t := tb) (by rw [hkb]; decide)
  have e1 := xn_nat hh.1 hs0
  have e2 := xn_nat hh.2.1 hd0
  have e3 := xn_nat hh.2.2.1 hn0
  have hKK : va_K D xcl [(ca ta ia, .int), (ca tb ib, .int)] s := by
    have h1 := xKa F hW hva (by rw [hka]; decide)
    have h2 := xKa F hW hvb (by rw [hkb]; decide)
    rw [xarr_2 hka] at h1
    rw [xarr_2 hkb] at h2
    exact h1.app h2
  have neg : ∀ {z : Int}, 0 ≤ z → xr z → ¬ Int32.ofInt z < 0 := fun h0 hz q => by
    rw [xn_0, xn_lt hz xn_r0] at q
    omega
  have hnat : (nativeFrameWords "java/lang/System" "arraycopy" 5) ≤ 20 := by decide +kernel
  simp only [List.map_cons, xcv_R (ad := ad) (xb0 (t := ta) (by rw [hka]; decide)), xcv_R (ad := ad) (xb0 (t := tb) (by rw [hkb]; decide)), show ∀ z, xcv ad (vI z) = .int (Int32.ofInt z) from fun _ => rfl]
  obtain ⟨hx0, hb, hml, -, hown, -, hts, hex, -, hro, hK, -⟩ := F
  refine va_copyi hx0 hb (by rw [hml]; exact hL.1.symm) hown (hts _ (xGT_m hw rfl)) (hts _ xw_ac_native) (hts _ xw_ac_static) (hts _ xw_sys) hKK hW.P hW.Dd hS ka kb 0 1 hea heb (ty := .int) rfl rfl rfl (neg hh.1 hs0) (neg hh.2.1 hd0) (neg hh.2.2.1 hn0) (by rw [e1, e3]; omega) (by rw [e2, e3]; omega) (fun _ _ => rfl) hRf (by omega) hd (fun H1 locs1 hP1 _ hS1 => ?_)
  refine k H1 locs1 ls (hW.set hvb hkb1 hP1 ?_ (fun t' i' hne => xE_congr (fun j => ?_)) (xrg_cpy hW.2.2.2.1)) hS1 hL hr
  · rw [xE_i (by rw [hkb]; decide) (by rw [hkb]; decide), e1, e2, e3]
    congr 4
    funext j
    unfold xcpy va_cpy
    by_cases hj : dp.toNat ≤ j ∧ j < dp.toNat + n.toNat
    · rw [if_pos ⟨rfl, rfl, hj⟩, if_pos hj]
    · rw [if_neg (fun q => hj q.2.2), if_neg hj]
  · unfold xcpy
    rw [if_neg]
    rintro ⟨rfl, rfl, -⟩
    exact hne rfl
end XI
