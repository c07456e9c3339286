/-! THE PLAIN MACHINE'S STATES IN THE MACHINE'S: which cells hold what -/
abbrev xP : Type := Nat → Nat → Nat → Nat × Nat
def xvd (cnt : Nat → Nat) (t i : Nat) : Prop := 4 ≤ t ∧ t < 57 ∧ i < cnt t
def xokr (cnt : Nat → Nat) (t i : Nat) : Prop := (t = 1 ∧ 1 ≤ i ∧ i ≤ 3) ∨ (t = 2 ∧ 1 ≤ i ∧ i ≤ 3) ∨ (t = 3 ∧ i = 0) ∨ xvd cnt t i
def xok (cnt : Nat → Nat) : xV → Prop
  | .inl x => -2147483648 ≤ x ∧ x < 2147483648
  | .inr (.inl x) => -9223372036854775808 ≤ x ∧ x < 9223372036854775808
  | .inr (.inr q) => q.1 = 0 ∨ xokr cnt q.1 q.2
def xcv (ad : Nat → Nat → Nat) : xV → Value
  | .inl x => .int (Int32.ofInt x)
  | .inr (.inl x) => .long (Int64.ofInt x)
  | .inr (.inr q) => cond (Nat.beq q.1 0) .null (.ref (ad q.1 q.2))
def xfv (ρ : xP) (σ : xM) (t i k : Nat) : xV := match xft t k with
  | 1 => .inr (.inr (ρ t i k))
  | 2 => cond (Nat.beq (σ t i k).toNat 0) (vR 0 0) (vR 1 (σ t i k).toNat)
  | _ => vI (σ t i k)
def xE (ad : Nat → Nat → Nat) (ca : Nat → Nat → ClassId) (ρ : xP) (σ : xM) (t i : Nat) : va_E := match xkind t with
  | 1 => .inr (xci t, (List.range (xsz t)).map fun k => xcv ad (xfv ρ σ t i k))
  | 4 => .inl (ca t i, xsz t, .inr (.inr (.inr (.inr (fun j => cond (Nat.beq (ρ t i j).1 0) none (some (ad (ρ t i j).1 (ρ t i j).2)))))))
  | _ => .inl (ca t i, xsz t, .inl (fun j => Int32.ofInt (σ t i j)))
def xids (cnt : Nat → Nat) : List (Nat × Nat) := (List.range 57).flatMap fun t => cond (Nat.ble 4 t) ((List.range (cnt t)).map fun i => (t, i)) []
def xW (ad : Nat → Nat → Nat) (ca : Nat → Nat → ClassId) (cnt : Nat → Nat) (ρ : xP) (σ : xM) : va_W := (xids cnt).map fun q => (ad q.1 q.2, xE ad ca ρ σ q.1 q.2)
def xrg (σ : xM) : Prop := ∀ t i k, -2147483648 ≤ σ t i k ∧ σ t i k < 2147483648
def xrv (cnt : Nat → Nat) (ρ : xP) : Prop := ∀ t i k, xvd cnt t i → k < xsz t → (ρ t i k).1 = 0 ∨ xokr cnt (ρ t i k).1 (ρ t i k).2
def xinj (ad : Nat → Nat → Nat) (cnt : Nat → Nat) : Prop := ∀ t i t' i', xvd cnt t i → xvd cnt t' i' → ad t i = ad t' i' → t = t' ∧ i = i'
def xarr (ca : Nat → Nat → ClassId) (cnt : Nat → Nat) (U : State) : Prop := ∀ t i, xvd cnt t i → xkind t ≠ 1 → ArrOfT U (ca t i) (xaty t) ∧ va_RA U (ca t i) (xaty t)
def xWd (D : va_G) (ad : Nat → Nat → Nat) (ca : Nat → Nat → ClassId) (cnt : Nat → Nat) (ρ : xP) (σ : xM) (A : Nat → Prop) (U : State) (H : Heap) : Prop :=
  (∀ t i, xvd cnt t i → va_at D xcl (ad t i, xE ad ca ρ σ t i) H) ∧ xinj ad cnt ∧ (∀ t i, xvd cnt t i → A (ad t i)) ∧ xrg σ ∧ xrv cnt ρ ∧ xarr ca cnt U
theorem xids_mem {cnt : Nat → Nat} {t i : Nat} : (t, i) ∈ xids cnt ↔ xvd cnt t i := by
  simp only [xids, List.mem_flatMap, List.mem_range, xvd]
  constructor
  · rintro ⟨a, ha, h⟩
    cases hb : Nat.ble 4 a with
    | false => rw [hb] at h; cases h
    | true =>
      rw [hb] at h
      obtain ⟨j, hj, e⟩ := List.mem_map.mp h
      cases e
      exact ⟨Nat.le_of_ble_eq_true hb, ha, List.mem_range.mp hj⟩
  · rintro ⟨h1, h2, h3⟩
    refine ⟨t, h2, ?_⟩
    rw [Nat.ble_eq_true_of_le h1]
    exact List.mem_map.mpr ⟨i, List.mem_range.mpr h3, rfl⟩
theorem xids_nodup (cnt : Nat → Nat) : (xids cnt).Nodup := by
  unfold xids List.Nodup
  rw [List.pairwise_flatMap]
  refine ⟨fun t _ => ?_, ?_⟩
  · cases Nat.ble 4 t with
    | false => exact List.Pairwise.nil
    | true =>
      show List.Pairwise _ (List.map _ _)
      rw [List.pairwise_map]
      exact (List.nodup_range (n := cnt t)).imp fun h e => h (Prod.mk.inj e).2
  · refine (List.nodup_range (n := 57)).imp fun {a b} h x hx y hy => ?_
    have fx : ∀ {c : Nat} {z : Nat × Nat}, z ∈ (cond (Nat.ble 4 c) ((List.range (cnt c)).map fun i => (c, i)) []) → z.1 = c := by
      intro c z hz
      cases hb : Nat.ble 4 c with
      | false => rw [hb] at hz; cases hz
      | true =>
        rw [hb] at hz
        obtain ⟨j, -, e⟩ := List.mem_map.mp hz
        rw [← e]
    intro e
    exact h (by rw [← fx hx, ← fx hy, e])
theorem xids_inj {cnt : Nat → Nat} {j k : Nat} {q : Nat × Nat} (h1 : (xids cnt)[j]? = some q) (h2 : (xids cnt)[k]? = some q) : j = k := by
  have hp := List.pairwise_iff_getElem.mp (xids_nodup cnt)
  obtain ⟨hj, e1⟩ := List.getElem?_eq_some_iff.mp h1
  obtain ⟨hk, e2⟩ := List.getElem?_eq_some_iff.mp h2
  rcases Nat.lt_trichotomy j k with h | h | h
  · exact absurd (e1.trans e2.symm) (hp j k hj hk h)
  · exact h
  · exact absurd (e2.trans e1.symm) (hp k j hk hj h)
section XW
variable {D : va_G} {ad : Nat → Nat → Nat} {ca : Nat → Nat → ClassId} {cnt : Nat → Nat} {ρ : xP} {σ : xM} {A : Nat → Prop} {U : State} {H : Heap}
theorem xW_get {k : Nat} {q : Nat × va_E} (h : (xW ad ca cnt ρ σ)[k]? = some q) : ∃ t i, (xids cnt)[k]? = some (t, i) ∧ xvd cnt t i ∧ q = (ad t i, xE ad ca ρ σ t i) := by
  unfold xW at h
  rw [List.getElem?_map] at h
  cases hk : (xids cnt)[k]? with
  | none => rw [hk] at h; cases h
  | some z =>
    rw [hk] at h
    exact ⟨z.1, z.2, rfl, xids_mem.mp (List.mem_of_getElem? hk), (Option.some.inj h).symm⟩
theorem xW_idx {t i : Nat} (h : xvd cnt t i) : ∃ k : Nat, (xids cnt)[k]? = some (t, i) ∧ (xW ad ca cnt ρ σ)[k]? = some (ad t i, xE ad ca ρ σ t i) := by
  obtain ⟨k, hk⟩ := List.getElem?_of_mem (xids_mem.mpr h)
  refine ⟨k, hk, ?_⟩
  unfold xW
  rw [List.getElem?_map, hk]
  rfl
theorem xWd.P (h : xWd D ad ca cnt ρ σ A U H) : va_P D xcl (xW ad ca cnt ρ σ) H := by
  intro k q hk
  obtain ⟨t, i, -, hv, rfl⟩ := xW_get hk
  exact h.1 t i hv
theorem xWd.Dd (h : xWd D ad ca cnt ρ σ A U H) : va_D A (xW ad ca cnt ρ σ) := by
  refine ⟨fun j k p q hj hk e => ?_, fun k q hk => ?_⟩
  · obtain ⟨t, i, e1, hv, rfl⟩ := xW_get hj
    obtain ⟨t', i', e2, hv', rfl⟩ := xW_get hk
    obtain ⟨rfl, rfl⟩ := h.2.1 t i t' i' hv hv' e
    exact xids_inj e1 e2
  · obtain ⟨t, i, -, hv, rfl⟩ := xW_get hk
    exact h.2.2.1 t i hv
theorem xWd.set {σ' : xM} {t i q0 : Nat} {e : va_E} {H1 : Heap} (h : xWd D ad ca cnt ρ σ A U H) (hv : xvd cnt t i) (hq : (xids cnt)[q0]? = some (t, i)) (hP : va_P D xcl ((xW ad ca cnt ρ σ).set q0 (ad t i, e)) H1) (he : xE ad ca ρ σ' t i = e)
    (ho : ∀ t' i', (t', i') ≠ (t, i) → xE ad ca ρ σ' t' i' = xE ad ca ρ σ t' i') (hrg : xrg σ') : xWd D ad ca cnt ρ σ' A U H1 := by
  refine ⟨fun t' i' hv' => ?_, h.2.1, h.2.2.1, hrg, h.2.2.2.2⟩
  by_cases hc : (t', i') = (t, i)
  · obtain ⟨rfl, rfl⟩ := Prod.mk.inj hc
    rw [he]
    refine hP q0 _ ?_
    have hlt : q0 < (xW ad ca cnt ρ σ).length := by
      unfold xW
      rw [List.length_map]
      exact (List.getElem?_eq_some_iff.mp hq).1
    exact List.getElem?_set_self hlt
  · obtain ⟨k, hk, hk2⟩ := xW_idx (ad := ad) (ca := ca) (ρ := ρ) (σ := σ) hv'
    rw [ho t' i' hc]
    refine hP k _ ?_
    have hne : q0 ≠ k := by
      intro e
      subst e
      exact hc (Option.some.inj (hk.symm.trans hq))
    rw [List.getElem?_set_ne hne]
    exact hk2
end XW
/-- a value, not null -/
def xnn : xV → Bool
  | .inr (.inr q) => !(Nat.beq q.1 0)
  | _ => true
/-- locals -/
def xLr (M : Nat) (cnt : Nat → Nat) (ad : Nat → Nat → Nat) (L : List xV) (ls : Array Slot) : Prop :=
  ls.size = (xrec M).2.1 ∧ lv_wf ls ∧ L.length = (xrec M).2.1 ∧ ∀ (k : Nat) (v : xV), L[k]? = some v → xok cnt v ∧ (∀ z, v = vL z → xlg M k = true) ∧ (xnn v = true → ls[k]? = some (.val (xcv ad v)))
/-- what is fixed while a method runs: the texts and constants that it doesn't change -/
def xROk (ad : Nat → Nat → Nat) (A : Nat → Prop) (U : State) (H : Heap) : Prop :=
  va_Z "PlayParts" "ABOVE" "[I" (.ref (ad 3 0)) A U H ∧ va_T .int (ad 3 0) 7 (fun j => .int (Int32.ofInt (xabv j))) A U H ∧ va_Z "java/lang/String" "COMPACT_STRINGS" "Z" (.int 1) A U H ∧
  vk_S 3 [0, 3, 3] [[], [119, 108, 118], [119, 115, 121]] (fun i => ad 1 (i + 1)) (fun i => ad 2 (i + 1)) A U H
def xnest : List Cond := lw_tbl.filter fun w => match w with
  | .fieldLinkNest .. => true
  | .methodLinkNest .. => true
  | _ => false
/-- the class of arrays of int arrays is there -/
def xAOa (U : State) : Prop := ∃ (cA comp : ClassId) (kA : Class), U.vm.findClass "[[I" = some cA ∧ U.vm.classes[cA]? = some kA ∧ kA.kind = .array comp (.array .int) ∧ U.vm.findClass "[I" = some comp
def xEx (ad : Nat → Nat → Nat) (U : State) : Prop :=
  (∀ w ∈ xnest, va_Nw w U) ∧ (∀ C ∈ ["PlayParts$Role", "PlayParts$Child", "PlayParts$Text", "PlayParts$Sheet"], va_AO C U) ∧ xAOa U ∧ ∀ q ∈ xstrs, vk_R q.1 q.2.1 q.2.2.1 (ad 1 q.2.2.2) U
def xFix (p : Program) (s : State) (m : MethodId) (args : Array Value) (meth : Method) (c : Code) (M : Nat) (A : Nat → Prop) (ad : Nat → Nat → Nat) (D : va_G) : Prop :=
  p.tables.exec = Jvm.exec ∧ c.code = (xy M).2.1 ∧ c.maxLocals = (xrec M).2.1 ∧ meth.sig.returnType = (xy M).2.2 ∧ s.vm.findClass (xow M) = some m.cls ∧ meth.locks = false ∧ (∀ w ∈ xGT, w.before args s = true) ∧ xEx ad s ∧ (∀ q : Nat, s.heap.size ≤ q → A q) ∧ xROk ad A s s.heap ∧ va_K D xcl [] s ∧ meth.name = (xy M).1.name
def xroom (d mc ms : Nat) : Room := { frames := d + 1, cells := mc, slots := ms, locals := 40 * d + 40 }
