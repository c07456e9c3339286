/-! AN ARRAY OF INT ROWS, made at once -/
section XM
variable {p : Program} {l : Launch} {e : Env} {R : Room} {s : State} {m : MethodId} {args : Array Value} {below : List Frame} {meth : Method} {c : Code} {cells slots : Nat} {Q : State → Prop} {H : Heap} {locs : List Loc}
/-- behind i rows -/
def xmS (p : Program) (l : Launch) (e : Env) (R : Room) (s : State) (m : MethodId) (args : Array Value) (below : List Frame) (meth : Method) (c : Code) (locs : List Loc) (cells slots N K : Nat) (H : Heap) (vm : Vm) (cA comp : ClassId) (i : Nat) (T : State) : Prop :=
  Stand p l e R s m args below meth c T locs (cells + 1 + i) (slots + N + i * K) ∧ T.vm = vm ∧ T.heap.size = H.size + 1 + i ∧ T.heap[H.size]? = some (arrV cA N (fun j => if j < i then .ref (H.size + 1 + j) else .null)) ∧ (∀ q : Nat, q < H.size → T.heap[q]? = H[q]?) ∧ ∀ j : Nat, j < i → T.heap[H.size + 1 + j]? = some (arrV comp K (fun _ => .int 0))
theorem xm_step {N K : Nat} {vm : Vm} {cA comp : ClassId} {i : Nat} {T : State} (hi : i < N) (hs : s.heap.size ≤ H.size) (h : xmS p l e R s m args below meth c locs cells slots N K H vm cA comp i T) :
    xmS p l e R s m args below meth c locs cells slots N K H vm cA comp (i + 1) ((T.pushCell { cls := comp, slots := Array.replicate K (.int 0), vm := .none }).setCell H.size ((arrV cA N (fun j => if j < i then .ref (H.size + 1 + j) else .null)).setSlot i (.ref (H.size + 1 + i)))) := by
  obtain ⟨X, h1, h2, h3, h4, h5⟩ := h
  have hlt : H.size < T.heap.size := by omega
  have hc : (T.pushCell { cls := comp, slots := Array.replicate K (.int 0), vm := .none }).heap[H.size]? = some (arrV cA N (fun j => if j < i then .ref (H.size + 1 + j) else .null)) := by rw [State.heap_pushCell_of_lt (h := hlt)]; exact h3
  have X1 := (X.pushed ({ cls := comp, slots := Array.replicate K (.int 0), vm := .none } : Cell)).stored hc i (.ref (H.size + 1 + i))
  have X2 := X1.dropFresh (fun x hx => by rw [List.mem_singleton.mp hx]; exact hs)
  have e1 : ({ cls := comp, slots := Array.replicate K (.int 0), vm := .none } : Cell).slots.size = K := by simp
  rw [e1] at X2
  refine ⟨?_, h1, ?_, ?_, fun q hq => ?_, fun j hj => ?_⟩
  · have e2 : cells + 1 + (i + 1) = cells + 1 + i + 1 := by omega
    have e3 : slots + N + (i + 1) * K = slots + N + i * K + K := by rw [Nat.succ_mul]; omega
    rw [e2, e3]
    exact X2
  · simp [State.setCell, h2]
    omega
  · rw [State.heap_setCell_self hc, arrV_store]
    congr 2
    funext j
    unfold updV
    by_cases hj : j = i
    · rw [if_pos hj, if_pos (by omega), hj]
    · rw [if_neg hj]
      show (if j < i then _ else _) = _
      by_cases hji : j < i
      · rw [if_pos hji, if_pos (by omega)]
      · rw [if_neg hji, if_neg (by omega)]
  · rw [State.heap_setCell_other (show H.size ≠ q by omega), State.heap_pushCell_of_lt (h := show q < T.heap.size by omega)]
    exact h4 q hq
  · rw [State.heap_setCell_other (show H.size ≠ H.size + 1 + j by omega)]
    by_cases hji : j < i
    · rw [State.heap_pushCell_of_lt (h := show H.size + 1 + j < T.heap.size by omega)]
      exact h5 j hji
    · have e4 : H.size + 1 + j = T.heap.size := by omega
      rw [e4, ← arrV_new]
      exact State.heap_pushCell_size _ _
def xmF (T : State) (cA comp : ClassId) (N K : Nat) : Nat → State
  | 0 => T.pushCell { cls := cA, slots := Array.replicate N .null, vm := .none }
  | i + 1 => ((xmF T cA comp N K i).pushCell { cls := comp, slots := Array.replicate K (.int 0), vm := .none }).setCell T.heap.size ((arrV cA N (fun j => if j < i then .ref (T.heap.size + 1 + j) else .null)).setSlot i (.ref (T.heap.size + 1 + i)))
theorem xmF_top (T : State) (f : JFrame) (cA comp : ClassId) (N K : Nat) : ∀ i, xmF (T.setTop f) cA comp N K i = (xmF T cA comp N K i).setTop f
  | 0 => rfl
  | i + 1 => by simp only [xmF, xmF_top T f cA comp N K i, State.heap_setTop, State.pushCell_setTop, State.setCell_setTop]
set_option maxHeartbeats 8000000 in
theorem xm_multi {cc : ByteArray} (hexec : p.tables.exec = Jvm.exec) (hb : c.code = cc) {own : String} {index pc : Nat} {ls : Array Slot} {rest : List Value} (hown : s.vm.findClass own = some m.cls) (hclink : (Cond.classLink own index "[[I").before args s = true) (hao : xAOa s) (harr : (Cond.arrayClass .int).before args s = true)
    (hdg : decode cc pc = .ok (.multianewarray index 2, 4)) {n k : Int32} (hn : ¬ n < 0) (hk : ¬ k < 0) (hn1 : n.toNatClampNeg ≤ 1000) (hk1 : k.toNatClampNeg ≤ 1000) (hs : s.heap.size ≤ H.size)
    (hcells : cells + (1 + n.toNatClampNeg) ≤ R.cells) (hslots : slots + (n.toNatClampNeg + n.toNatClampNeg * k.toNatClampNeg) ≤ R.slots)
    (kk : ∀ (H1 : Heap) (cA comp : ClassId) (kA : Class), s.vm.findClass "[[I" = some cA → s.vm.classes[cA]? = some kA → kA.kind = .array comp (.array .int) → s.vm.findClass "[I" = some comp → H1.size = H.size + 1 + n.toNatClampNeg → H1[H.size]? = some (arrV cA n.toNatClampNeg (fun j => .ref (H.size + 1 + j))) → (∀ q : Nat, q < H.size → H1[q]? = H[q]?) → (∀ j : Nat, j < n.toNatClampNeg → H1[H.size + 1 + j]? = some (arrV comp k.toNatClampNeg (fun _ => .int 0))) →
      W p l e R s m args below meth c H1 locs (cells + 1 + n.toNatClampNeg) (slots + n.toNatClampNeg + n.toNatClampNeg * k.toNatClampNeg) Q (F0 m (pc + 4) ls (.ref H.size :: rest))) : W p l e R s m args below meth c H locs cells slots Q (F0 m pc ls (.int k :: .int n :: rest)) := by
  subst hb
  intro T hT X
  subst hT
  obtain ⟨cA, comp, kA, hfA, hkA, hkindA, hfC⟩ := hao
  obtain ⟨comp', kC, cc, hcomp', hkC, hkindC⟩ := Cond.arrayClass_spec harr
  have ecomp : comp' = comp := Option.some.inj (hcomp'.symm.trans hfC)
  subst ecomp
  have hpl : e.platform.magicAccessors = ({} : Platform).magicAccessors := by rw [X.admits.platform]
  obtain ⟨c0, hfc0, hcl⟩ := Cond.classLink_spec hown hclink e.platform hpl
  have ec0 : c0 = cA := Option.some.inj (hfc0.symm.trans hfA)
  subst ec0
  obtain ⟨hg₁, hwarm₁, hready₁⟩ := State.classEntry (e := e) X.warmed hcl
  generalize T.vm.noted m.cls index (.cls c0) = vm₁ at hg₁ hwarm₁ hready₁
  obtain ⟨kA₁, hkA₁, heA⟩ := hwarm₁.alike.2.2 _ _ hkA
  obtain ⟨kC₁, hkC₁, heC⟩ := hwarm₁.alike.2.2 _ _ hkC
  have hkindA₁ : kA₁.kind = .array comp' (.array .int) := by rw [heA]; exact hkindA
  have hkindC₁ : kC₁.kind = .array cc .int := by rw [heC]; exact hkindC
  have X₁ := X.noted hwarm₁
  have hl1 : ∀ z : Nat, z ≤ 1000 → ¬ z > e.platform.arrayLengthLimit := fun z hz => by rw [Launch.admits_arrayLengthLimit X.admits]; omega
  have hh1 : ∀ z : Nat, z ≤ 1000 → ¬ z * 4 > e.platform.maxHeapBytes := fun z hz => by rw [Launch.admits_maxHeapBytes X.admits]; omega
  -- the end: from a state behind all rows
  have fin : ∀ T' : State, xmS p l e R s m args below meth c locs cells slots n.toNatClampNeg k.toNatClampNeg T.heap vm₁ c0 comp' n.toNatClampNeg T' → ∃ t, Steps p.tables e below (T'.setTop (F0 m (pc + 4) ls (.ref T.heap.size :: rest))) t ∧ Q t := by
    rintro T' ⟨x1, x2, x3, x4, x5, x6⟩
    refine kk T'.heap c0 comp' kA hfA hkA hkindA hfC x3 ?_ x5 x6 T' rfl x1
    rw [x4]
    congr 1
    unfold arrV
    congr 2
    funext j
    show (if j.val < n.toNatClampNeg then _ else _) = _
    rw [if_pos j.2]
  have start : xmS p l e R s m args below meth c locs cells slots n.toNatClampNeg k.toNatClampNeg T.heap vm₁ c0 comp' 0 ((T.setVm vm₁).pushCell { cls := c0, slots := Array.replicate n.toNatClampNeg .null, vm := .none }) := by
    have h := X₁.pushed ({ cls := c0, slots := Array.replicate n.toNatClampNeg .null, vm := .none } : Cell)
    have e1 : ({ cls := c0, slots := Array.replicate n.toNatClampNeg .null, vm := .none } : Cell).slots.size = n.toNatClampNeg := by simp
    rw [e1] at h
    refine ⟨by simpa using h, rfl, by simp, ?_, fun q hq => State.heap_pushCell_of_lt _ _ hq, fun j hj => absurd hj (Nat.not_lt_zero _)⟩
    have h2 : ((T.setVm vm₁).pushCell { cls := c0, slots := Array.replicate n.toNatClampNeg .null, vm := .none }).heap[T.heap.size]? = some { cls := c0, slots := Array.replicate n.toNatClampNeg .null, vm := .none } := State.heap_pushCell_size (T.setVm vm₁) _
    rw [h2, arrV_new]
    congr 2
  have all : ∀ i, i ≤ n.toNatClampNeg → xmS p l e R s m args below meth c locs cells slots n.toNatClampNeg k.toNatClampNeg T.heap vm₁ c0 comp' i (xmF (T.setVm vm₁) c0 comp' n.toNatClampNeg k.toNatClampNeg i) := by
    intro i
    induction i with
    | zero => exact fun _ => start
    | succ i ih => exact fun hi => xm_step (Nat.lt_of_succ_le hi) hs (ih (Nat.le_of_succ_le hi))
  obtain ⟨t, a1, b1⟩ := fin _ (all _ (Nat.le_refl _))
  refine ⟨t, ?_, b1⟩
  jvm_step X.here [hexec, hdg]
  simp only [multianewarray.sem, wp_bind', W.resolveClassAt_links (State.method?_setTop (F0 m pc ls (.int k :: .int n :: rest)) X.here.top) hg₁]
  rw [W.popN, if_neg (by decide)]
  refine ⟨F0 m pc ls (.int k :: .int n :: rest), State.topJava?_setTop' (s := T.setVm vm₁) _ X.here.top, [.int n, .int k], rest, rfl, rfl, ?_⟩
  simp only [List.mapM_cons, List.mapM_nil, wp_bind', wp_pure']
  have hfind : ([k].find? (· < 0)) = none := by simp [hk]
  obtain ⟨r1, r2⟩ := X₁.roomAbove hcells hslots
  have r1 : T.heap.size + (1 + n.toNatClampNeg) ≤ e.platform.maxCells := r1
  have r2 : T.slotsUsed + (n.toNatClampNeg + n.toNatClampNeg * k.toNatClampNeg) ≤ e.platform.maxSlots := r2
  rw [multianewarray.make]
  simp only [wp_bind', W.ite, hn, if_false, wp_pure', W.theClass]
  refine ⟨kA₁, hkA₁, ?_⟩
  simp only [hkindA₁]
  rw [wp_bind']
  refine W.newArray_of (c := c0) (k := kA₁) (init := .null) (by exact hkA₁) hkindA₁ (hl1 _ hn1) (hh1 _ hn1) (by show T.heap.size < _; omega) (by show T.slotsUsed + _ ≤ _; omega) rfl (fun acts' => ?_)
  simp only [hfind]
  rw [ite_self, wp_bind', Std.Legacy.Range.forIn_eq_forIn_range']
  have hsz : ([:n.toNatClampNeg] : Std.Legacy.Range).size = n.toNatClampNeg := by simp [Std.Legacy.Range.size]
  rw [hsz]
  have eS : (((((T.setTop (F0 m pc ls (Value.int k :: Value.int n :: rest))).setVm vm₁).setTop (F0 m pc ls rest)).pushCell { cls := c0, slots := Array.replicate n.toNatClampNeg Value.null }) : State) = (xmF (T.setVm vm₁) c0 comp' n.toNatClampNeg k.toNatClampNeg 0).setTop (F0 m pc ls rest) := by
    show ((((T.setVm vm₁).setTop (F0 m pc ls (Value.int k :: Value.int n :: rest))).setTop (F0 m pc ls rest)).pushCell _ : State) = _
    rw [State.setTop_setTop]
    rfl
  rw [eS]
  refine wp_forIn_inv (fun rest' s' => ∃ i, i ≤ n.toNatClampNeg ∧ rest' = List.range' i (n.toNatClampNeg - i) ∧ s' = (xmF (T.setVm vm₁) c0 comp' n.toNatClampNeg k.toNatClampNeg i).setTop (F0 m pc ls rest)) _ _ ⟨0, Nat.zero_le _, rfl, rfl⟩ ?_ ?_
  · rintro x rest' s' d' acts2 Q' ⟨i, hi, hl, rfl⟩ hnext
    have hlt : i < n.toNatClampNeg := by
      rcases Nat.lt_or_ge i n.toNatClampNeg with h | h
      · exact h
      · rw [show n.toNatClampNeg - i = 0 from by omega] at hl
        cases hl
    rw [show n.toNatClampNeg - i = (n.toNatClampNeg - (i + 1)) + 1 from by omega, List.range'_succ] at hl
    obtain ⟨rfl, hrest⟩ := List.cons.inj hl
    obtain ⟨x1, x2, x3, x4, x5, x6⟩ := all x hi
    have hmul : x * k.toNatClampNeg + k.toNatClampNeg ≤ n.toNatClampNeg * k.toNatClampNeg := by
      have := Nat.mul_le_mul_right k.toNatClampNeg (show x + 1 ≤ n.toNatClampNeg from hlt)
      rw [Nat.succ_mul] at this
      exact this
    obtain ⟨r3, r4⟩ := x1.roomAbove (a := 1) (b := k.toNatClampNeg) (by omega) (by omega)
    simp only [wp_bind']
    rw [multianewarray.make]
    simp only [wp_bind', W.ite, hk, if_false, wp_pure', W.theClass]
    refine ⟨kC₁, by show (xmF _ _ _ _ _ _).vm.classes[_]? = _; rw [x2]; exact hkC₁, ?_⟩
    simp only [hkindC₁]
    refine W.newArray_of (k := kC₁) (init := .int 0) (by show (xmF _ _ _ _ _ _).vm.classes[_]? = _; rw [x2]; exact hkC₁) hkindC₁ (hl1 _ hk1) (hh1 _ hk1) r3 r4 rfl (fun acts3 => ?_)
    have hlt0 : T.heap.size < (xmF (T.setVm vm₁) c0 comp' n.toNatClampNeg k.toNatClampNeg x).heap.size := by rw [x3]; omega
    simp only [wp_bind', W.writeLoc, wp_pure']
    refine ⟨arrV c0 n.toNatClampNeg (fun j => if j < x then .ref (T.heap.size + 1 + j) else .null), ?_, fun q => ?_, ?_, ?_, hnext _ _ _ ⟨x + 1, hlt, hrest, ?_⟩⟩
    · show ((xmF (T.setVm vm₁) c0 comp' n.toNatClampNeg k.toNatClampNeg x).pushCell _).heap[T.heap.size]? = some _
      rw [State.heap_pushCell_of_lt (h := hlt0)]
      exact x4
    · have q : (VmData.none : VmData) = .unknown := q
      cases q
    · rw [arrV_size]
      exact hlt
    · have hv : (xmF (T.setVm vm₁) c0 comp' n.toNatClampNeg k.toNatClampNeg x).vm.classes[c0]? = some kA₁ := by rw [x2]; exact hkA₁
      simp [State.fitsSlot, State.slotType?, arrV, hv, hkindA₁, fits]
    · have e9 : ((xmF (T.setVm vm₁) c0 comp' n.toNatClampNeg k.toNatClampNeg x).setTop (F0 m pc ls rest)).heap.size = T.heap.size + 1 + x := x3
      rw [e9]
      rfl
  · rintro s' d' acts2 ⟨i, hi, hl, rfl⟩
    have hiN : i = n.toNatClampNeg := by
      rcases Nat.lt_or_ge i n.toNatClampNeg with h | h
      · rw [show n.toNatClampNeg - i = (n.toNatClampNeg - (i + 1)) + 1 from by omega, List.range'_succ] at hl
        cases hl
      · omega
    subst hiN
    obtain ⟨x1, x2, x3, x4, x5, x6⟩ := all _ (Nat.le_refl n.toNatClampNeg)
    simp only [wp_pure', wp_bind', W.mark, W.pushRef, State.topJava?_setTop' _ x1.here.top, Option.some.injEq, exists_eq_left', State.setTop_setTop, State.heap_setTop]
    intro acts4
    simp [jvm, x1.here.top]
    exact a1
end XM
