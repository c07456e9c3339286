/-! ONE INSTRUCTION: from the plain machine's next state to the machine's -/
def xoks (cnt : Nat → Nat) (st : List xV) : Prop := ∀ v ∈ st, xok cnt v
theorem xoks_c {cnt : Nat → Nat} {v : xV} {r : List xV} : xoks cnt (v :: r) ↔ xok cnt v ∧ xoks cnt r := by
  unfold xoks
  exact List.forall_mem_cons
section XO
variable {p : Program} {l : Launch} {e : Env} {R : Room} {s : State} {m : MethodId} {args : Array Value} {below : List Frame} {meth : Method} {c : Code} {cells slots : Nat} {Q : State → Prop}
variable {M : Nat} {A : Nat → Prop} {ad : Nat → Nat → Nat} {ca : Nat → Nat → ClassId} {D : va_G} {cnt : Nat → Nat} {ρ : xP}
/-- the machine goes on from a plain state -/
def xNx (p : Program) (l : Launch) (e : Env) (R : Room) (s : State) (m : MethodId) (args : Array Value) (below : List Frame) (meth : Method) (c : Code) (cells slots : Nat) (Q : State → Prop) (M : Nat) (A : Nat → Prop) (ad : Nat → Nat → Nat) (ca : Nat → Nat → ClassId) (D : va_G) (cnt : Nat → Nat) (ρ : xP) (pc : Nat) (L st : List xV) (σ : xM) : Prop :=
  ∀ (H : Heap) (locs : List Loc) (ls : Array Slot), xWd D ad ca cnt ρ σ A s H → va_S A s.heap H locs → xLr M cnt ad L ls → xoks cnt st → W p l e R s m args below meth c H locs cells slots Q (F0 m pc ls (st.map (xcv ad)))

theorem xo_iadd (F : xFix p s m args meth c M A ad D) {pc : Nat} {L r : List xV} {σ : xM} {x y : Int} (hd : decode (xy M).2.1 pc = .ok (.iadd, 1)) (k : xNx p l e R s m args below meth c cells slots Q M A ad ca D cnt ρ (pc + 1) L (vI (xwr (x + y)) :: r) σ) : xNx p l e R s m args below meth c cells slots Q M A ad ca D cnt ρ pc L (vI y :: vI x :: r) σ := by
  intro H locs ls hW hS hL hs
  obtain ⟨hy, hs1⟩ := xoks_c.mp hs
  obtain ⟨hx, hr⟩ := xoks_c.mp hs1
  have h := k H locs ls hW hS hL (xoks_c.mpr ⟨xn_wrr _, hr⟩)
  simp only [List.map_cons, xcv] at h ⊢
  refine lv_iadd F.1 F.2.1 hd ?_
  rw [xn_add]
  exact h
theorem xo_isub (F : xFix p s m args meth c M A ad D) {pc : Nat} {L r : List xV} {σ : xM} {x y : Int} (hd : decode (xy M).2.1 pc = .ok (.isub, 1)) (k : xNx p l e R s m args below meth c cells slots Q M A ad ca D cnt ρ (pc + 1) L (vI (xwr (x - y)) :: r) σ) : xNx p l e R s m args below meth c cells slots Q M A ad ca D cnt ρ pc L (vI y :: vI x :: r) σ := by
  intro H locs ls hW hS hL hs
  obtain ⟨hy, hs1⟩ := xoks_c.mp hs
  obtain ⟨hx, hr⟩ := xoks_c.mp hs1
  have h := k H locs ls hW hS hL (xoks_c.mpr ⟨xn_wrr _, hr⟩)
  simp only [List.map_cons, xcv] at h ⊢
  refine lv_isub F.1 F.2.1 hd ?_
  rw [xn_sub]
  exact h
theorem xo_imul (F : xFix p s m args meth c M A ad D) {pc : Nat} {L r : List xV} {σ : xM} {x y : Int} (hd : decode (xy M).2.1 pc = .ok (.imul, 1)) (k : xNx p l e R s m args below meth c cells slots Q M A ad ca D cnt ρ (pc + 1) L (vI (xwr (x * y)) :: r) σ) : xNx p l e R s m args below meth c cells slots Q M A ad ca D cnt ρ pc L (vI y :: vI x :: r) σ := by
  intro H locs ls hW hS hL hs
  obtain ⟨hy, hs1⟩ := xoks_c.mp hs
  obtain ⟨hx, hr⟩ := xoks_c.mp hs1
  have h := k H locs ls hW hS hL (xoks_c.mpr ⟨xn_wrr _, hr⟩)
  simp only [List.map_cons, xcv] at h ⊢
  refine lv_imul F.1 F.2.1 hd ?_
  rw [xn_mul]
  exact h
theorem xo_ishl (F : xFix p s m args meth c M A ad D) {pc : Nat} {L r : List xV} {σ : xM} {x y : Int} (hd : decode (xy M).2.1 pc = .ok (.ishl, 1)) (k : xNx p l e R s m args below meth c cells slots Q M A ad ca D cnt ρ (pc + 1) L (vI (xshl x y) :: r) σ) : xNx p l e R s m args below meth c cells slots Q M A ad ca D cnt ρ pc L (vI y :: vI x :: r) σ := by
  intro H locs ls hW hS hL hs
  obtain ⟨hy, hs1⟩ := xoks_c.mp hs
  obtain ⟨hx, hr⟩ := xoks_c.mp hs1
  have h := k H locs ls hW hS hL (xoks_c.mpr ⟨xn_rg _, hr⟩)
  simp only [List.map_cons, xcv] at h ⊢
  refine lv_ishl F.1 F.2.1 hd ?_
  rw [show Int32.ofInt (xshl x y) = _ from xn_of _] at h
  exact h
theorem xo_ishr (F : xFix p s m args meth c M A ad D) {pc : Nat} {L r : List xV} {σ : xM} {x y : Int} (hd : decode (xy M).2.1 pc = .ok (.ishr, 1)) (k : xNx p l e R s m args below meth c cells slots Q M A ad ca D cnt ρ (pc + 1) L (vI (xshr x y) :: r) σ) : xNx p l e R s m args below meth c cells slots Q M A ad ca D cnt ρ pc L (vI y :: vI x :: r) σ := by
  intro H locs ls hW hS hL hs
  obtain ⟨hy, hs1⟩ := xoks_c.mp hs
  obtain ⟨hx, hr⟩ := xoks_c.mp hs1
  have h := k H locs ls hW hS hL (xoks_c.mpr ⟨xn_rg _, hr⟩)
  simp only [List.map_cons, xcv] at h ⊢
  refine lv_ishr F.1 F.2.1 hd ?_
  rw [show Int32.ofInt (xshr x y) = _ from xn_of _] at h
  exact h
theorem xo_iand (F : xFix p s m args meth c M A ad D) {pc : Nat} {L r : List xV} {σ : xM} {x y : Int} (hd : decode (xy M).2.1 pc = .ok (.iand, 1)) (k : xNx p l e R s m args below meth c cells slots Q M A ad ca D cnt ρ (pc + 1) L (vI (xand x y) :: r) σ) : xNx p l e R s m args below meth c cells slots Q M A ad ca D cnt ρ pc L (vI y :: vI x :: r) σ := by
  intro H locs ls hW hS hL hs
  obtain ⟨hy, hs1⟩ := xoks_c.mp hs
  obtain ⟨hx, hr⟩ := xoks_c.mp hs1
  have h := k H locs ls hW hS hL (xoks_c.mpr ⟨xn_rg _, hr⟩)
  simp only [List.map_cons, xcv] at h ⊢
  refine lv_iand F.1 F.2.1 hd ?_
  rw [show Int32.ofInt (xand x y) = _ from xn_of _] at h
  exact h
theorem xo_ior (F : xFix p s m args meth c M A ad D) {pc : Nat} {L r : List xV} {σ : xM} {x y : Int} (hd : decode (xy M).2.1 pc = .ok (.ior, 1)) (k : xNx p l e R s m args below meth c cells slots Q M A ad ca D cnt ρ (pc + 1) L (vI (xior x y) :: r) σ) : xNx p l e R s m args below meth c cells slots Q M A ad ca D cnt ρ pc L (vI y :: vI x :: r) σ := by
  intro H locs ls hW hS hL hs
  obtain ⟨hy, hs1⟩ := xoks_c.mp hs
  obtain ⟨hx, hr⟩ := xoks_c.mp hs1
  have h := k H locs ls hW hS hL (xoks_c.mpr ⟨xn_rg _, hr⟩)
  simp only [List.map_cons, xcv] at h ⊢
  refine lv_ior F.1 F.2.1 hd ?_
  rw [show Int32.ofInt (xior x y) = _ from xn_of _] at h
  exact h
theorem xo_ixor (F : xFix p s m args meth c M A ad D) {pc : Nat} {L r : List xV} {σ : xM} {x y : Int} (hd : decode (xy M).2.1 pc = .ok (.ixor, 1)) (k : xNx p l e R s m args below meth c cells slots Q M A ad ca D cnt ρ (pc + 1) L (vI (xxor x y) :: r) σ) : xNx p l e R s m args below meth c cells slots Q M A ad ca D cnt ρ pc L (vI y :: vI x :: r) σ := by
  intro H locs ls hW hS hL hs
  obtain ⟨hy, hs1⟩ := xoks_c.mp hs
  obtain ⟨hx, hr⟩ := xoks_c.mp hs1
  have h := k H locs ls hW hS hL (xoks_c.mpr ⟨xn_rg _, hr⟩)
  simp only [List.map_cons, xcv] at h ⊢
  refine lv_ixor F.1 F.2.1 hd ?_
  rw [show Int32.ofInt (xxor x y) = _ from xn_of _] at h
  exact h
theorem xo_iushr (F : xFix p s m args meth c M A ad D) {pc : Nat} {L r : List xV} {σ : xM} {x y : Int} (hd : decode (xy M).2.1 pc = .ok (.iushr, 1)) (k : xNx p l e R s m args below meth c cells slots Q M A ad ca D cnt ρ (pc + 1) L (vI (xush x y) :: r) σ) : xNx p l e R s m args below meth c cells slots Q M A ad ca D cnt ρ pc L (vI y :: vI x :: r) σ := by
  intro H locs ls hW hS hL hs
  obtain ⟨hy, hs1⟩ := xoks_c.mp hs
  obtain ⟨hx, hr⟩ := xoks_c.mp hs1
  have h := k H locs ls hW hS hL (xoks_c.mpr ⟨xn_rg _, hr⟩)
  simp only [List.map_cons, xcv] at h ⊢
  refine lv_iushr (v := Int32.ofInt (xush x y)) F.1 F.2.1 hd (xn_of _).symm ?_
  exact h
theorem xo_idiv (F : xFix p s m args meth c M A ad D) {pc : Nat} {L r : List xV} {σ : xM} {x y : Int} (hd : decode (xy M).2.1 pc = .ok (.idiv, 1)) (hne : y ≠ 0) (k : xNx p l e R s m args below meth c cells slots Q M A ad ca D cnt ρ (pc + 1) L (vI (xwr (Int.tdiv x y)) :: r) σ) : xNx p l e R s m args below meth c cells slots Q M A ad ca D cnt ρ pc L (vI y :: vI x :: r) σ := by
  intro H locs ls hW hS hL hs
  obtain ⟨hy, hs1⟩ := xoks_c.mp hs
  obtain ⟨hx, hr⟩ := xoks_c.mp hs1
  have h := k H locs ls hW hS hL (xoks_c.mpr ⟨xn_wrr _, hr⟩)
  simp only [List.map_cons, xcv] at h ⊢
  refine lv_idiv F.1 F.2.1 hd (fun q => hne ((xn_eq hy xn_r0).mp (q.trans xn_0))) ?_
  rw [xn_div hx hy]
  exact h
theorem xo_irem (F : xFix p s m args meth c M A ad D) {pc : Nat} {L r : List xV} {σ : xM} {x y : Int} (hd : decode (xy M).2.1 pc = .ok (.irem, 1)) (hne : y ≠ 0) (k : xNx p l e R s m args below meth c cells slots Q M A ad ca D cnt ρ (pc + 1) L (vI (Int.tmod x y) :: r) σ) : xNx p l e R s m args below meth c cells slots Q M A ad ca D cnt ρ pc L (vI y :: vI x :: r) σ := by
  intro H locs ls hW hS hL hs
  obtain ⟨hy, hs1⟩ := xoks_c.mp hs
  obtain ⟨hx, hr⟩ := xoks_c.mp hs1
  have h := k H locs ls hW hS hL (xoks_c.mpr ⟨xn_tm hx, hr⟩)
  simp only [List.map_cons, xcv] at h ⊢
  refine lv_irem F.1 F.2.1 hd (fun q => hne ((xn_eq hy xn_r0).mp (q.trans xn_0))) ?_
  rw [xn_rem hx hy]
  exact h
theorem xo_ineg (F : xFix p s m args meth c M A ad D) {pc : Nat} {L r : List xV} {σ : xM} {x : Int} (hd : decode (xy M).2.1 pc = .ok (.ineg, 1)) (k : xNx p l e R s m args below meth c cells slots Q M A ad ca D cnt ρ (pc + 1) L (vI (xwr (-x)) :: r) σ) : xNx p l e R s m args below meth c cells slots Q M A ad ca D cnt ρ pc L (vI x :: r) σ := by
  intro H locs ls hW hS hL hs
  obtain ⟨hx, hr⟩ := xoks_c.mp hs
  have h := k H locs ls hW hS hL (xoks_c.mpr ⟨xn_wrr _, hr⟩)
  simp only [List.map_cons, xcv] at h ⊢
  refine lv_ineg F.1 F.2.1 hd ?_
  rw [xn_neg]
  exact h
theorem xo_i2b (F : xFix p s m args meth c M A ad D) {pc : Nat} {L r : List xV} {σ : xM} {x : Int} (hd : decode (xy M).2.1 pc = .ok (.i2b, 1)) (k : xNx p l e R s m args below meth c cells slots Q M A ad ca D cnt ρ (pc + 1) L (vI (xi2b x) :: r) σ) : xNx p l e R s m args below meth c cells slots Q M A ad ca D cnt ρ pc L (vI x :: r) σ := by
  intro H locs ls hW hS hL hs
  obtain ⟨hx, hr⟩ := xoks_c.mp hs
  have h := k H locs ls hW hS hL (xoks_c.mpr ⟨xn_rg _, hr⟩)
  simp only [List.map_cons, xcv] at h ⊢
  exact lv_i2b (v := Int32.ofInt (xi2b x)) F.1 F.2.1 hd (xn_of _).symm h
theorem xo_i2s (F : xFix p s m args meth c M A ad D) {pc : Nat} {L r : List xV} {σ : xM} {x : Int} (hd : decode (xy M).2.1 pc = .ok (.i2s, 1)) (k : xNx p l e R s m args below meth c cells slots Q M A ad ca D cnt ρ (pc + 1) L (vI (xi2s x) :: r) σ) : xNx p l e R s m args below meth c cells slots Q M A ad ca D cnt ρ pc L (vI x :: r) σ := by
  intro H locs ls hW hS hL hs
  obtain ⟨hx, hr⟩ := xoks_c.mp hs
  have h := k H locs ls hW hS hL (xoks_c.mpr ⟨xn_rg _, hr⟩)
  simp only [List.map_cons, xcv] at h ⊢
  exact lv_i2s (v := Int32.ofInt (xi2s x)) F.1 F.2.1 hd (xn_of _).symm h
theorem xo_i2c (F : xFix p s m args meth c M A ad D) {pc : Nat} {L r : List xV} {σ : xM} {x : Int} (hd : decode (xy M).2.1 pc = .ok (.i2c, 1)) (k : xNx p l e R s m args below meth c cells slots Q M A ad ca D cnt ρ (pc + 1) L (vI (xi2c x) :: r) σ) : xNx p l e R s m args below meth c cells slots Q M A ad ca D cnt ρ pc L (vI x :: r) σ := by
  intro H locs ls hW hS hL hs
  obtain ⟨hx, hr⟩ := xoks_c.mp hs
  have h := k H locs ls hW hS hL (xoks_c.mpr ⟨xn_rg _, hr⟩)
  simp only [List.map_cons, xcv] at h ⊢
  exact lv_i2c (v := Int32.ofInt (xi2c x)) F.1 F.2.1 hd (xn_of _).symm h
theorem xo_i2l (F : xFix p s m args meth c M A ad D) {pc : Nat} {L r : List xV} {σ : xM} {x : Int} (hd : decode (xy M).2.1 pc = .ok (.i2l, 1)) (k : xNx p l e R s m args below meth c cells slots Q M A ad ca D cnt ρ (pc + 1) L (vL (x) :: r) σ) : xNx p l e R s m args below meth c cells slots Q M A ad ca D cnt ρ pc L (vI x :: r) σ := by
  intro H locs ls hW hS hL hs
  obtain ⟨hx, hr⟩ := xoks_c.mp hs
  have h := k H locs ls hW hS hL (xoks_c.mpr ⟨(show xrl x from ⟨by have := hx.1; omega, by have := hx.2; omega⟩), hr⟩)
  simp only [List.map_cons, xcv] at h ⊢
  exact lv_i2l (v := Int64.ofInt x) F.1 F.2.1 hd (xn_i2l hx) h
theorem xo_l2i (F : xFix p s m args meth c M A ad D) {pc : Nat} {L r : List xV} {σ : xM} {x : Int} (hd : decode (xy M).2.1 pc = .ok (.l2i, 1)) (k : xNx p l e R s m args below meth c cells slots Q M A ad ca D cnt ρ (pc + 1) L (vI (xl2i x) :: r) σ) : xNx p l e R s m args below meth c cells slots Q M A ad ca D cnt ρ pc L (vL x :: r) σ := by
  intro H locs ls hW hS hL hs
  obtain ⟨hx, hr⟩ := xoks_c.mp hs
  have h := k H locs ls hW hS hL (xoks_c.mpr ⟨xn_rg _, hr⟩)
  simp only [List.map_cons, xcv] at h ⊢
  exact lv_l2i (v := Int32.ofInt (xl2i x)) F.1 F.2.1 hd (xn_of _).symm h
theorem xo_land (F : xFix p s m args meth c M A ad D) {pc : Nat} {L r : List xV} {σ : xM} {x y : Int} (hd : decode (xy M).2.1 pc = .ok (.land, 1)) (k : xNx p l e R s m args below meth c cells slots Q M A ad ca D cnt ρ (pc + 1) L (vL (xland x y) :: r) σ) : xNx p l e R s m args below meth c cells slots Q M A ad ca D cnt ρ pc L (vL y :: vL x :: r) σ := by
  intro H locs ls hW hS hL hs
  obtain ⟨hy, hs1⟩ := xoks_c.mp hs
  obtain ⟨hx, hr⟩ := xoks_c.mp hs1
  have h := k H locs ls hW hS hL (xoks_c.mpr ⟨xn_lrg _, hr⟩)
  simp only [List.map_cons, xcv] at h ⊢
  refine lv_land F.1 F.2.1 hd ?_
  rw [show Int64.ofInt (xland x y) = _ from xn_lof _] at h
  exact h
theorem xo_lor (F : xFix p s m args meth c M A ad D) {pc : Nat} {L r : List xV} {σ : xM} {x y : Int} (hd : decode (xy M).2.1 pc = .ok (.lor, 1)) (k : xNx p l e R s m args below meth c cells slots Q M A ad ca D cnt ρ (pc + 1) L (vL (xlor x y) :: r) σ) : xNx p l e R s m args below meth c cells slots Q M A ad ca D cnt ρ pc L (vL y :: vL x :: r) σ := by
  intro H locs ls hW hS hL hs
  obtain ⟨hy, hs1⟩ := xoks_c.mp hs
  obtain ⟨hx, hr⟩ := xoks_c.mp hs1
  have h := k H locs ls hW hS hL (xoks_c.mpr ⟨xn_lrg _, hr⟩)
  simp only [List.map_cons, xcv] at h ⊢
  refine lv_lor F.1 F.2.1 hd ?_
  rw [show Int64.ofInt (xlor x y) = _ from xn_lof _] at h
  exact h
theorem xo_lshl (F : xFix p s m args meth c M A ad D) {pc : Nat} {L r : List xV} {σ : xM} {x y : Int} (hd : decode (xy M).2.1 pc = .ok (.lshl, 1)) (k : xNx p l e R s m args below meth c cells slots Q M A ad ca D cnt ρ (pc + 1) L (vL (xlshl x y) :: r) σ) : xNx p l e R s m args below meth c cells slots Q M A ad ca D cnt ρ pc L (vI y :: vL x :: r) σ := by
  intro H locs ls hW hS hL hs
  obtain ⟨hy, hs1⟩ := xoks_c.mp hs
  obtain ⟨hx, hr⟩ := xoks_c.mp hs1
  have h := k H locs ls hW hS hL (xoks_c.mpr ⟨xn_lrg _, hr⟩)
  simp only [List.map_cons, xcv] at h ⊢
  exact lv_lshl (v := Int64.ofInt (xlshl x y)) F.1 F.2.1 hd (xn_lof _).symm h
theorem xo_lshr (F : xFix p s m args meth c M A ad D) {pc : Nat} {L r : List xV} {σ : xM} {x y : Int} (hd : decode (xy M).2.1 pc = .ok (.lshr, 1)) (k : xNx p l e R s m args below meth c cells slots Q M A ad ca D cnt ρ (pc + 1) L (vL (xlshr x y) :: r) σ) : xNx p l e R s m args below meth c cells slots Q M A ad ca D cnt ρ pc L (vI y :: vL x :: r) σ := by
  intro H locs ls hW hS hL hs
  obtain ⟨hy, hs1⟩ := xoks_c.mp hs
  obtain ⟨hx, hr⟩ := xoks_c.mp hs1
  have h := k H locs ls hW hS hL (xoks_c.mpr ⟨xn_lrg _, hr⟩)
  simp only [List.map_cons, xcv] at h ⊢
  exact lv_lshr (v := Int64.ofInt (xlshr x y)) F.1 F.2.1 hd (xn_lof _).symm h
theorem xo_lushr (F : xFix p s m args meth c M A ad D) {pc : Nat} {L r : List xV} {σ : xM} {x y : Int} (hd : decode (xy M).2.1 pc = .ok (.lushr, 1)) (k : xNx p l e R s m args below meth c cells slots Q M A ad ca D cnt ρ (pc + 1) L (vL (xlushr x y) :: r) σ) : xNx p l e R s m args below meth c cells slots Q M A ad ca D cnt ρ pc L (vI y :: vL x :: r) σ := by
  intro H locs ls hW hS hL hs
  obtain ⟨hy, hs1⟩ := xoks_c.mp hs
  obtain ⟨hx, hr⟩ := xoks_c.mp hs1
  have h := k H locs ls hW hS hL (xoks_c.mpr ⟨xn_lrg _, hr⟩)
  simp only [List.map_cons, xcv] at h ⊢
  exact lv_lushr (v := Int64.ofInt (xlushr x y)) F.1 F.2.1 hd (xn_lof _).symm h
theorem xo_iconst (F : xFix p s m args meth c M A ad D) {pc : Nat} {L r : List xV} {σ : xM} {n : Int} (hd : decode (xy M).2.1 pc = .ok (.iconst n, 1)) (hn : xr n) (k : xNx p l e R s m args below meth c cells slots Q M A ad ca D cnt ρ (pc + 1) L (vI n :: r) σ) : xNx p l e R s m args below meth c cells slots Q M A ad ca D cnt ρ pc L r σ := by
  intro H locs ls hW hS hL hs
  have h := k H locs ls hW hS hL (xoks_c.mpr ⟨hn, hs⟩)
  exact lv_iconst (v := Int32.ofInt n) F.1 F.2.1 hd rfl h
theorem xo_bipush (F : xFix p s m args meth c M A ad D) {pc : Nat} {L r : List xV} {σ : xM} {n : Int} (hd : decode (xy M).2.1 pc = .ok (.bipush n, 2)) (hn : -128 ≤ n ∧ n ≤ 127) (k : xNx p l e R s m args below meth c cells slots Q M A ad ca D cnt ρ (pc + 2) L (vI n :: r) σ) : xNx p l e R s m args below meth c cells slots Q M A ad ca D cnt ρ pc L r σ := by
  intro H locs ls hW hS hL hs
  have h := k H locs ls hW hS hL (xoks_c.mpr ⟨(show xr n from ⟨by omega, by omega⟩), hs⟩)
  exact lv_bipush (v := Int32.ofInt n) F.1 F.2.1 hd (xn_b hn) h
theorem xo_sipush (F : xFix p s m args meth c M A ad D) {pc : Nat} {L r : List xV} {σ : xM} {n : Int} (hd : decode (xy M).2.1 pc = .ok (.sipush n, 3)) (hn : -32768 ≤ n ∧ n ≤ 32767) (k : xNx p l e R s m args below meth c cells slots Q M A ad ca D cnt ρ (pc + 3) L (vI n :: r) σ) : xNx p l e R s m args below meth c cells slots Q M A ad ca D cnt ρ pc L r σ := by
  intro H locs ls hW hS hL hs
  have h := k H locs ls hW hS hL (xoks_c.mpr ⟨(show xr n from ⟨by omega, by omega⟩), hs⟩)
  exact lv_sipush (v := Int32.ofInt n) F.1 F.2.1 hd (xn_s hn) h
theorem xow_eq (M : Nat) : xow M = xnth "" xowL (xrec M).1 := rfl
theorem xo_ldc (F : xFix p s m args meth c M A ad D) {pc x : Nat} {L r : List xV} {σ : xM} {v : Int} (hd : decode (xy M).2.1 pc = .ok (.ldc x, 2)) (hk : xkon (xrec M).1 x = some v) (k : xNx p l e R s m args below meth c cells slots Q M A ad ca D cnt ρ (pc + 2) L (vI v :: r) σ) : xNx p l e R s m args below meth c cells slots Q M A ad ca D cnt ρ pc L r σ := by
  intro H locs ls hW hS hL hs
  obtain ⟨h1, h2⟩ := xkon_w hk
  have h := k H locs ls hW hS hL (xoks_c.mpr ⟨h2, hs⟩)
  exact lv_ldc F.1 F.2.1 F.2.2.2.2.1 (F.2.2.2.2.2.2.1 _ h1) hd h
theorem xo_ldcw (F : xFix p s m args meth c M A ad D) {pc x : Nat} {L r : List xV} {σ : xM} {v : Int} (hd : decode (xy M).2.1 pc = .ok (.ldc_w x, 3)) (hk : xkon (xrec M).1 x = some v) (k : xNx p l e R s m args below meth c cells slots Q M A ad ca D cnt ρ (pc + 3) L (vI v :: r) σ) : xNx p l e R s m args below meth c cells slots Q M A ad ca D cnt ρ pc L r σ := by
  intro H locs ls hW hS hL hs
  obtain ⟨h1, h2⟩ := xkon_w hk
  have h := k H locs ls hW hS hL (xoks_c.mpr ⟨h2, hs⟩)
  exact lv_ldcw F.1 F.2.1 F.2.2.2.2.1 (F.2.2.2.2.2.2.1 _ h1) hd h
theorem xo_ldc2 (F : xFix p s m args meth c M A ad D) {pc x : Nat} {L r : List xV} {σ : xM} {v : Int} (hd : decode (xy M).2.1 pc = .ok (.ldc2_w x, 3)) (hk : xkonL (xrec M).1 x = some v) (k : xNx p l e R s m args below meth c cells slots Q M A ad ca D cnt ρ (pc + 3) L (vL v :: r) σ) : xNx p l e R s m args below meth c cells slots Q M A ad ca D cnt ρ pc L r σ := by
  intro H locs ls hW hS hL hs
  obtain ⟨h1, h2⟩ := xkonL_w hk
  have h := k H locs ls hW hS hL (xoks_c.mpr ⟨h2, hs⟩)
  exact lv_ldc2 F.1 F.2.1 F.2.2.2.2.1 (F.2.2.2.2.2.2.1 _ h1) hd h
theorem xo_ldcS (F : xFix p s m args meth c M A ad D) {pc x z : Nat} {L r : List xV} {σ : xM} (hd : decode (xy M).2.1 pc = .ok (.ldc x, 2)) (hk : xstr (xrec M).1 x = some z) (k : xNx p l e R s m args below meth c cells slots Q M A ad ca D cnt ρ (pc + 2) L (vR 1 z :: r) σ) : xNx p l e R s m args below meth c cells slots Q M A ad ca D cnt ρ pc L r σ := by
  intro H locs ls hW hS hL hs
  obtain ⟨tx, h1, h2⟩ := xstr_w hk
  have h := k H locs ls hW hS hL (xoks_c.mpr ⟨Or.inr (Or.inl ⟨rfl, h2⟩), hs⟩)
  rw [List.map_cons, show xcv ad (vR 1 z) = .ref (ad 1 z) from rfl] at h
  have hz : vk_R (xow M) x tx (ad 1 z) s := F.2.2.2.2.2.2.2.1.2.2.2 (xow M, x, tx, z) h1
  exact va_ldcS F.1 F.2.1 F.2.2.2.2.1 hz hd h
theorem xget_some : ∀ {L : List xV} {k : Nat}, xnn (xget L k) = true → L[k]? = some (xget L k)
  | [], _, h => by cases h
  | v :: r, 0, _ => rfl
  | v :: r, k + 1, h => by
    show r[k]? = some (xget r k)
    exact xget_some (L := r) (k := k) h
theorem xget_ok {L : List xV} {ls : Array Slot} {k : Nat} (hL : xLr M cnt ad L ls) (h : xnn (xget L k) = true) : ls[k]? = some (.val (xcv ad (xget L k))) ∧ xok cnt (xget L k) := by
  have h1 := hL.2.2.2 k _ (xget_some h)
  exact ⟨h1.2.2 h, h1.1⟩
theorem xset_len : ∀ (L : List xV) (k : Nat) (v : xV), (xset L k v).length = L.length
  | [], _, _ => rfl
  | _ :: _, 0, _ => rfl
  | _ :: r, k + 1, v => congrArg (· + 1) (xset_len r k v)
theorem xset_at : ∀ (L : List xV) (k : Nat) (v : xV) (j : Nat), (xset L k v)[j]? = if j = k ∧ k < L.length then some v else L[j]?
  | [], k, v, j => by simp [xset]
  | a :: r, 0, v, 0 => by simp [xset]
  | a :: r, 0, v, j + 1 => by simp [xset]
  | a :: r, k + 1, v, 0 => by simp [xset]
  | a :: r, k + 1, v, j + 1 => by
    show (xset r k v)[j]? = _
    rw [xset_at r k v j]
    by_cases h : j = k ∧ k < r.length
    · rw [if_pos h, if_pos ⟨by omega, by simp; omega⟩]
    · rw [if_neg h, if_neg (by simp; omega)]
      rfl
def xprs (ad : Nat → Nat → Nat) (L : List xV) : List (Nat × Value) := (List.range L.length).filterMap fun k => cond (xnn (xget L k)) (some (k, xcv ad (xget L k))) none
theorem xprs_has {L : List xV} {ls : Array Slot} (hL : xLr M cnt ad L ls) : lv_has ls (xrec M).2.1 (xprs ad L) := by
  refine ⟨hL.1, hL.2.1, fun q hq => ?_⟩
  obtain ⟨k, -, h⟩ := List.mem_filterMap.mp hq
  cases hn : xnn (xget L k) with
  | false => rw [hn] at h; cases h
  | true =>
    rw [hn] at h
    have e : (k, xcv ad (xget L k)) = q := Option.some.inj h
    rw [← e]
    exact (xget_ok hL hn).1
theorem xprs_mem {L : List xV} {k : Nat} (hn : xnn (xget L k) = true) : (k, xcv ad (xget L k)) ∈ xprs ad L := by
  refine List.mem_filterMap.mpr ⟨k, List.mem_range.mpr (List.getElem?_eq_some_iff.mp (xget_some hn)).1, ?_⟩
  rw [hn]
  rfl
theorem xget_of {L : List xV} {k : Nat} {v : xV} (h : L[k]? = some v) : xget L k = v := by
  induction L generalizing k with
  | nil => cases h
  | cons a r ih =>
    cases k with
    | zero => exact Option.some.inj h
    | succ k => exact ih h
theorem xcat {v : xV} (h : (xcv ad v).category = 2) : ∃ z, v = vL z := by
  rcases v with x | x | q
  · cases h
  · exact ⟨x, rfl⟩
  · simp only [xcv] at h
    cases hb : Nat.beq q.1 0 <;> rw [hb] at h <;> cases h
theorem xset_ok {L : List xV} {ls ls' : Array Slot} {i : Nat} {v : xV} (hL : xLr M cnt ad L ls) (hi : i < (xrec M).2.1) (hv : xok cnt v) (hl : ∀ z, v ≠ vL z) (hg : xlgS M i = false)
    (h : lv_has ls' (xrec M).2.1 ((i, xcv ad v) :: (xprs ad L).filter (fun q => !(q.1 == i) && !(q.1 + 1 == i && q.2.category == 2)))) : xLr M cnt ad (xset L i v) ls' := by
  refine ⟨h.1, h.2.1, by rw [xset_len]; exact hL.2.2.1, fun k w hw => ?_⟩
  rw [xset_at] at hw
  by_cases hc : k = i ∧ i < L.length
  · rw [if_pos hc] at hw
    obtain rfl := Option.some.inj hw
    refine ⟨hv, fun z e => absurd e (hl z), fun _ => ?_⟩
    rw [hc.1]
    exact h.2.2 _ List.mem_cons_self
  · rw [if_neg hc] at hw
    have h1 := hL.2.2.2 k w hw
    refine ⟨h1.1, h1.2.1, fun hn => ?_⟩
    have e := xget_of hw
    have hm := xprs_mem (ad := ad) (L := L) (k := k) (by rw [e]; exact hn)
    rw [e] at hm
    refine h.2.2 (k, xcv ad w) (List.mem_cons_of_mem _ (List.mem_filter.mpr ⟨hm, ?_⟩))
    have hki : k ≠ i := fun q => hc ⟨q, by rw [hL.2.2.1]; exact hi⟩
    have h2 : ¬ (k + 1 = i ∧ (xcv ad w).category = 2) := by
      rintro ⟨rfl, h3⟩
      obtain ⟨z, rfl⟩ := xcat h3
      have := h1.2.1 z rfl
      simp only [xlgS] at hg
      rw [this] at hg
      cases hg
    simp only [Bool.and_eq_true, Bool.not_eq_true', beq_eq_false_iff_ne, ne_eq, hki, not_false_eq_true, true_and, Bool.and_eq_false_imp, beq_iff_eq]
    exact fun a b => h2 ⟨a, b⟩
theorem xnn_I {v : xV} {x : Int} (h : v = vI x) : xnn v = true := by rw [h]; rfl
theorem xnn_L {v : xV} {x : Int} (h : v = vL x) : xnn v = true := by rw [h]; rfl
theorem xnn_R {v : xV} {t i : Nat} (h : v = vR t i) (ht : Nat.beq t 0 = false) : xnn v = true := by
  rw [h]
  show (!(Nat.beq t 0)) = true
  rw [ht]
  rfl
theorem xcv_R {t i : Nat} (ht : Nat.beq t 0 = false) : xcv ad (vR t i) = .ref (ad t i) := by
  show cond (Nat.beq t 0) _ _ = _
  rw [ht]
  rfl
theorem xo_iload_n (F : xFix p s m args meth c M A ad D) {pc : Nat} {k : Fin 4} {L r : List xV} {σ : xM} {x : Int} (hd : decode (xy M).2.1 pc = .ok (.iload_n k, 1)) (hg : xget L k.val = vI x) (kk : xNx p l e R s m args below meth c cells slots Q M A ad ca D cnt ρ (pc + 1) L (vI x :: r) σ) : xNx p l e R s m args below meth c cells slots Q M A ad ca D cnt ρ pc L r σ := by
  intro H locs ls hW hS hL hs
  obtain ⟨h1, h2⟩ := xget_ok hL (xnn_I hg)
  rw [hg] at h1 h2
  exact lv_iload_n F.1 F.2.1 hd rfl h1 (kk H locs ls hW hS hL (xoks_c.mpr ⟨h2, hs⟩))
theorem xo_iload (F : xFix p s m args meth c M A ad D) {pc : Nat} {k : Nat} {L r : List xV} {σ : xM} {x : Int} (hd : decode (xy M).2.1 pc = .ok (.iload k, 2)) (hg : xget L k = vI x) (kk : xNx p l e R s m args below meth c cells slots Q M A ad ca D cnt ρ (pc + 2) L (vI x :: r) σ) : xNx p l e R s m args below meth c cells slots Q M A ad ca D cnt ρ pc L r σ := by
  intro H locs ls hW hS hL hs
  obtain ⟨h1, h2⟩ := xget_ok hL (xnn_I hg)
  rw [hg] at h1 h2
  exact lv_iload F.1 F.2.1 hd h1 (kk H locs ls hW hS hL (xoks_c.mpr ⟨h2, hs⟩))
theorem xo_lload_n (F : xFix p s m args meth c M A ad D) {pc : Nat} {k : Fin 4} {L r : List xV} {σ : xM} {x : Int} (hd : decode (xy M).2.1 pc = .ok (.lload_n k, 1)) (hg : xget L k.val = vL x) (kk : xNx p l e R s m args below meth c cells slots Q M A ad ca D cnt ρ (pc + 1) L (vL x :: r) σ) : xNx p l e R s m args below meth c cells slots Q M A ad ca D cnt ρ pc L r σ := by
  intro H locs ls hW hS hL hs
  obtain ⟨h1, h2⟩ := xget_ok hL (xnn_L hg)
  rw [hg] at h1 h2
  exact lv_lload_n F.1 F.2.1 hd rfl h1 (kk H locs ls hW hS hL (xoks_c.mpr ⟨h2, hs⟩))
theorem xo_aload_n (F : xFix p s m args meth c M A ad D) {pc : Nat} {k : Fin 4} {L r : List xV} {σ : xM} {t i : Nat} (hd : decode (xy M).2.1 pc = .ok (.aload_n k, 1)) (hg : xget L k.val = vR t i) (ht : Nat.beq t 0 = false) (kk : xNx p l e R s m args below meth c cells slots Q M A ad ca D cnt ρ (pc + 1) L (vR t i :: r) σ) : xNx p l e R s m args below meth c cells slots Q M A ad ca D cnt ρ pc L r σ := by
  intro H locs ls hW hS hL hs
  obtain ⟨h1, h2⟩ := xget_ok hL (xnn_R hg ht)
  rw [hg] at h1 h2
  have h := kk H locs ls hW hS hL (xoks_c.mpr ⟨h2, hs⟩)
  rw [xcv_R ht] at h1
  rw [List.map_cons, xcv_R ht] at h
  exact lv_aload_n F.1 F.2.1 hd rfl h1 h
theorem xo_aload (F : xFix p s m args meth c M A ad D) {pc : Nat} {k : Nat} {L r : List xV} {σ : xM} {t i : Nat} (hd : decode (xy M).2.1 pc = .ok (.aload k, 2)) (hg : xget L k = vR t i) (ht : Nat.beq t 0 = false) (kk : xNx p l e R s m args below meth c cells slots Q M A ad ca D cnt ρ (pc + 2) L (vR t i :: r) σ) : xNx p l e R s m args below meth c cells slots Q M A ad ca D cnt ρ pc L r σ := by
  intro H locs ls hW hS hL hs
  obtain ⟨h1, h2⟩ := xget_ok hL (xnn_R hg ht)
  rw [hg] at h1 h2
  have h := kk H locs ls hW hS hL (xoks_c.mpr ⟨h2, hs⟩)
  rw [xcv_R ht] at h1
  rw [List.map_cons, xcv_R ht] at h
  exact lv_aload F.1 F.2.1 hd h1 h
theorem xo_istore_n (F : xFix p s m args meth c M A ad D) {pc : Nat} {k : Fin 4} {L r : List xV} {σ : xM} {x : Int} (hd : decode (xy M).2.1 pc = .ok (.istore_n k, 1)) (hi : k.val < (xrec M).2.1) (hg : xlgS M k.val = false) (kk : xNx p l e R s m args below meth c cells slots Q M A ad ca D cnt ρ (pc + 1) (xset L k.val (vI x)) r σ) : xNx p l e R s m args below meth c cells slots Q M A ad ca D cnt ρ pc L (vI x :: r) σ := by
  intro H locs ls hW hS hL hs
  obtain ⟨hx, hr⟩ := xoks_c.mp hs
  simp only [List.map_cons, xcv]
  exact lv_istore_n F.1 F.2.1 hd rfl (xprs_has hL) hi rfl (fun ls' h => kk H locs ls' hW hS (xset_ok hL hi hx (fun z e => by cases e) hg h) hr)
theorem xo_istore (F : xFix p s m args meth c M A ad D) {pc : Nat} {k : Nat} {L r : List xV} {σ : xM} {x : Int} (hd : decode (xy M).2.1 pc = .ok (.istore k, 2)) (hi : k < (xrec M).2.1) (hg : xlgS M k = false) (kk : xNx p l e R s m args below meth c cells slots Q M A ad ca D cnt ρ (pc + 2) (xset L k (vI x)) r σ) : xNx p l e R s m args below meth c cells slots Q M A ad ca D cnt ρ pc L (vI x :: r) σ := by
  intro H locs ls hW hS hL hs
  obtain ⟨hx, hr⟩ := xoks_c.mp hs
  simp only [List.map_cons, xcv]
  exact lv_istore F.1 F.2.1 hd (xprs_has hL) hi rfl (fun ls' h => kk H locs ls' hW hS (xset_ok hL hi hx (fun z e => by cases e) hg h) hr)
theorem xo_astore_n (F : xFix p s m args meth c M A ad D) {pc : Nat} {k : Fin 4} {L r : List xV} {σ : xM} {t i : Nat} (hd : decode (xy M).2.1 pc = .ok (.astore_n k, 1)) (hi : k.val < (xrec M).2.1) (hg : xlgS M k.val = false) (ht : Nat.beq t 0 = false) (kk : xNx p l e R s m args below meth c cells slots Q M A ad ca D cnt ρ (pc + 1) (xset L k.val (vR t i)) r σ) : xNx p l e R s m args below meth c cells slots Q M A ad ca D cnt ρ pc L (vR t i :: r) σ := by
  intro H locs ls hW hS hL hs
  obtain ⟨hx, hr⟩ := xoks_c.mp hs
  rw [List.map_cons, xcv_R ht]
  exact lv_astore_n F.1 F.2.1 hd rfl (xprs_has hL) hi rfl (fun ls' h => kk H locs ls' hW hS (xset_ok hL hi hx (fun z e => by cases e) hg (by rw [xcv_R ht]; exact h)) hr)
theorem xo_astore (F : xFix p s m args meth c M A ad D) {pc : Nat} {k : Nat} {L r : List xV} {σ : xM} {t i : Nat} (hd : decode (xy M).2.1 pc = .ok (.astore k, 2)) (hi : k < (xrec M).2.1) (hg : xlgS M k = false) (ht : Nat.beq t 0 = false) (kk : xNx p l e R s m args below meth c cells slots Q M A ad ca D cnt ρ (pc + 2) (xset L k (vR t i)) r σ) : xNx p l e R s m args below meth c cells slots Q M A ad ca D cnt ρ pc L (vR t i :: r) σ := by
  intro H locs ls hW hS hL hs
  obtain ⟨hx, hr⟩ := xoks_c.mp hs
  rw [List.map_cons, xcv_R ht]
  exact lv_astore F.1 F.2.1 hd (xprs_has hL) hi rfl (fun ls' h => kk H locs ls' hW hS (xset_ok hL hi hx (fun z e => by cases e) hg (by rw [xcv_R ht]; exact h)) hr)
theorem xo_iinc (F : xFix p s m args meth c M A ad D) {pc k : Nat} {n : Int} {L r : List xV} {σ : xM} {x : Int} (hd : decode (xy M).2.1 pc = .ok (.iinc k n, 3)) (hi : k < (xrec M).2.1) (hg : xlgS M k = false) (hx : xget L k = vI x) (kk : xNx p l e R s m args below meth c cells slots Q M A ad ca D cnt ρ (pc + 3) (xset L k (vI (xwr (x + n)))) r σ) : xNx p l e R s m args below meth c cells slots Q M A ad ca D cnt ρ pc L r σ := by
  intro H locs ls hW hS hL hs
  have hm := xprs_mem (ad := ad) (L := L) (k := k) (xnn_I hx)
  rw [hx] at hm
  obtain ⟨j, hj⟩ := List.getElem?_of_mem hm
  refine lv_iinc F.1 F.2.1 hd (xprs_has hL) hj (v := Int32.ofInt (xwr (x + n))) ?_ hi rfl (fun ls' h => kk H locs ls' hW hS (xset_ok hL hi (xn_wrr _) (fun z e => by cases e) hg h) hs)
  rw [xn_wr, Int32.ofInt_add]
theorem xo_if_icmp (F : xFix p s m args meth c M A ad D) {pc tgt : Nat} {cd : ClassFile.Cond} {off : Int} {L r : List xV} {σ : xM} {x y : Int} (hd : decode (xy M).2.1 pc = .ok (.if_icmp cd off, 3)) (ht : (pc : Int) + off = (tgt : Int)) (k : xif cd x y (xNx p l e R s m args below meth c cells slots Q M A ad ca D cnt ρ tgt L r σ) (xNx p l e R s m args below meth c cells slots Q M A ad ca D cnt ρ (pc + 3) L r σ)) : xNx p l e R s m args below meth c cells slots Q M A ad ca D cnt ρ pc L (vI y :: vI x :: r) σ := by
  intro H locs ls hW hS hL hs
  obtain ⟨hy, hs1⟩ := xoks_c.mp hs
  obtain ⟨hx, hr⟩ := xoks_c.mp hs1
  simp only [List.map_cons, xcv]
  cases cd with
  | eq =>
    simp only [xif] at k
    refine lv_icmp_eq F.1 F.2.1 hd ht (fun q => ?_) (fun q => ?_)
    · rw [if_pos ((xn_eq hx hy).mp q)] at k
      exact k H locs ls hW hS hL hr
    · rw [if_neg (fun z => q ((xn_eq hx hy).mpr z))] at k
      exact k H locs ls hW hS hL hr
  | ne =>
    simp only [xif] at k
    refine lv_icmp_ne F.1 F.2.1 hd ht (fun q => ?_) (fun q => ?_)
    · rw [if_neg (fun z => q ((xn_eq hx hy).mpr z))] at k
      exact k H locs ls hW hS hL hr
    · rw [if_pos ((xn_eq hx hy).mp q)] at k
      exact k H locs ls hW hS hL hr
  | lt =>
    simp only [xif] at k
    refine lv_icmp_lt F.1 F.2.1 hd ht (fun q => ?_) (fun q => ?_)
    · rw [if_pos ((xn_lt hx hy).mp q)] at k
      exact k H locs ls hW hS hL hr
    · rw [if_neg (fun z => q ((xn_lt hx hy).mpr z))] at k
      exact k H locs ls hW hS hL hr
  | ge =>
    simp only [xif] at k
    refine lv_icmp_ge F.1 F.2.1 hd ht (fun q => ?_) (fun q => ?_)
    · have q1 := (xn_le hy hx).mp q
      rw [if_neg (by omega)] at k
      exact k H locs ls hW hS hL hr
    · have q1 : ¬ y ≤ x := fun z => q ((xn_le hy hx).mpr z)
      rw [if_pos (by omega)] at k
      exact k H locs ls hW hS hL hr
  | gt =>
    simp only [xif] at k
    refine lv_icmp_gt F.1 F.2.1 hd ht (fun q => ?_) (fun q => ?_)
    · rw [if_pos ((xn_lt hy hx).mp q)] at k
      exact k H locs ls hW hS hL hr
    · rw [if_neg (fun z => q ((xn_lt hy hx).mpr z))] at k
      exact k H locs ls hW hS hL hr
  | le =>
    simp only [xif] at k
    refine lv_icmp_le F.1 F.2.1 hd ht (fun q => ?_) (fun q => ?_)
    · have q1 := (xn_le hx hy).mp q
      rw [if_neg (by omega)] at k
      exact k H locs ls hW hS hL hr
    · have q1 : ¬ x ≤ y := fun z => q ((xn_le hx hy).mpr z)
      rw [if_pos (by omega)] at k
      exact k H locs ls hW hS hL hr
theorem xo_ifCond (F : xFix p s m args meth c M A ad D) {pc tgt : Nat} {cd : ClassFile.Cond} {off : Int} {L r : List xV} {σ : xM} {x : Int} (hd : decode (xy M).2.1 pc = .ok (.ifCond cd off, 3)) (ht : (pc : Int) + off = (tgt : Int)) (k : xif cd x 0 (xNx p l e R s m args below meth c cells slots Q M A ad ca D cnt ρ tgt L r σ) (xNx p l e R s m args below meth c cells slots Q M A ad ca D cnt ρ (pc + 3) L r σ)) : xNx p l e R s m args below meth c cells slots Q M A ad ca D cnt ρ pc L (vI x :: r) σ := by
  intro H locs ls hW hS hL hs
  obtain ⟨hx, hr⟩ := xoks_c.mp hs
  simp only [List.map_cons, xcv]
  cases cd with
  | eq =>
    simp only [xif] at k
    refine lv_if_eq F.1 F.2.1 hd ht (fun q => ?_) (fun q => ?_)
    · rw [xn_0] at q; rw [if_pos ((xn_eq hx xn_r0).mp q)] at k
      exact k H locs ls hW hS hL hr
    · rw [xn_0] at q; rw [if_neg (fun z => q ((xn_eq hx xn_r0).mpr z))] at k
      exact k H locs ls hW hS hL hr
  | ne =>
    simp only [xif] at k
    refine lv_if_ne F.1 F.2.1 hd ht (fun q => ?_) (fun q => ?_)
    · rw [xn_0] at q; rw [if_neg (fun z => q ((xn_eq hx xn_r0).mpr z))] at k
      exact k H locs ls hW hS hL hr
    · rw [xn_0] at q; rw [if_pos ((xn_eq hx xn_r0).mp q)] at k
      exact k H locs ls hW hS hL hr
  | lt =>
    simp only [xif] at k
    refine lv_if_lt F.1 F.2.1 hd ht (fun q => ?_) (fun q => ?_)
    · rw [xn_0] at q; rw [if_pos ((xn_lt hx xn_r0).mp q)] at k
      exact k H locs ls hW hS hL hr
    · rw [xn_0] at q; rw [if_neg (fun z => q ((xn_lt hx xn_r0).mpr z))] at k
      exact k H locs ls hW hS hL hr
  | ge =>
    simp only [xif] at k
    refine lv_if_ge F.1 F.2.1 hd ht (fun q => ?_) (fun q => ?_)
    · rw [xn_0] at q; have q1 := (xn_le xn_r0 hx).mp q
      rw [if_neg (by omega)] at k
      exact k H locs ls hW hS hL hr
    · rw [xn_0] at q; have q1 : ¬ 0 ≤ x := fun z => q ((xn_le xn_r0 hx).mpr z)
      rw [if_pos (by omega)] at k
      exact k H locs ls hW hS hL hr
  | gt =>
    simp only [xif] at k
    refine lv_if_gt F.1 F.2.1 hd ht (fun q => ?_) (fun q => ?_)
    · rw [xn_0] at q; rw [if_pos ((xn_lt xn_r0 hx).mp q)] at k
      exact k H locs ls hW hS hL hr
    · rw [xn_0] at q; rw [if_neg (fun z => q ((xn_lt xn_r0 hx).mpr z))] at k
      exact k H locs ls hW hS hL hr
  | le =>
    simp only [xif] at k
    refine lv_if_le F.1 F.2.1 hd ht (fun q => ?_) (fun q => ?_)
    · rw [xn_0] at q; have q1 := (xn_le hx xn_r0).mp q
      rw [if_neg (by omega)] at k
      exact k H locs ls hW hS hL hr
    · rw [xn_0] at q; have q1 : ¬ x ≤ 0 := fun z => q ((xn_le hx xn_r0).mpr z)
      rw [if_pos (by omega)] at k
      exact k H locs ls hW hS hL hr
theorem xo_goto (F : xFix p s m args meth c M A ad D) {pc tgt : Nat} {off : Int} {L r : List xV} {σ : xM} (hd : decode (xy M).2.1 pc = .ok (.goto off, 3)) (ht : (pc : Int) + off = (tgt : Int)) (k : xNx p l e R s m args below meth c cells slots Q M A ad ca D cnt ρ tgt L r σ) : xNx p l e R s m args below meth c cells slots Q M A ad ca D cnt ρ pc L r σ := fun H locs ls hW hS hL hs => lv_goto F.1 F.2.1 hd ht (k H locs ls hW hS hL hs)
theorem xcat1 {v : xV} (h : ∀ z, v ≠ vL z) : (xcv ad v).category = 1 := by
  rcases v with x | x | q
  · rfl
  · exact absurd rfl (h x)
  · simp only [xcv]
    cases Nat.beq q.1 0 <;> rfl
theorem xo_dup (F : xFix p s m args meth c M A ad D) {pc : Nat} {L r : List xV} {σ : xM} {v : xV} (hd : decode (xy M).2.1 pc = .ok (.dup, 1)) (hv : ∀ z, v ≠ vL z) (k : xNx p l e R s m args below meth c cells slots Q M A ad ca D cnt ρ (pc + 1) L (v :: v :: r) σ) : xNx p l e R s m args below meth c cells slots Q M A ad ca D cnt ρ pc L (v :: r) σ := by
  intro H locs ls hW hS hL hs
  obtain ⟨hx, hr⟩ := xoks_c.mp hs
  exact lv_dup F.1 F.2.1 hd (xcat1 hv) (k H locs ls hW hS hL (xoks_c.mpr ⟨hx, hs⟩))
theorem xo_pop (F : xFix p s m args meth c M A ad D) {pc : Nat} {L r : List xV} {σ : xM} {v : xV} (hd : decode (xy M).2.1 pc = .ok (.pop, 1)) (hv : ∀ z, v ≠ vL z) (k : xNx p l e R s m args below meth c cells slots Q M A ad ca D cnt ρ (pc + 1) L r σ) : xNx p l e R s m args below meth c cells slots Q M A ad ca D cnt ρ pc L (v :: r) σ := by
  intro H locs ls hW hS hL hs
  obtain ⟨hx, hr⟩ := xoks_c.mp hs
  exact lv_pop F.1 F.2.1 hd (xcat1 hv) (k H locs ls hW hS hL hr)
theorem xo_dup2 (F : xFix p s m args meth c M A ad D) {pc : Nat} {L r : List xV} {σ : xM} {v w : xV} (hd : decode (xy M).2.1 pc = .ok (.dup2, 1)) (hv : ∀ z, v ≠ vL z) (hw : ∀ z, w ≠ vL z) (k : xNx p l e R s m args below meth c cells slots Q M A ad ca D cnt ρ (pc + 1) L (v :: w :: v :: w :: r) σ) : xNx p l e R s m args below meth c cells slots Q M A ad ca D cnt ρ pc L (v :: w :: r) σ := by
  intro H locs ls hW hS hL hs
  obtain ⟨hx, hs1⟩ := xoks_c.mp hs
  obtain ⟨hy, hr⟩ := xoks_c.mp hs1
  exact lv_dup2_11 F.1 F.2.1 hd (xcat1 hv) (xcat1 hw) (k H locs ls hW hS hL (xoks_c.mpr ⟨hx, xoks_c.mpr ⟨hy, hs⟩⟩))
end XO
