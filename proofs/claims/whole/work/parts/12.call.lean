/-! CALLS AND ENDS -/
theorem xN_ch {P : Nat → Prop} (h : ∀ j, j < 15 → ∀ k, k < 16 → 16 * j + k < xN → P (16 * j + k)) {M : Nat} (hM : M < xN) : P M := by
  have h1 := h (M / 16) (by show M / 16 < 15; have : M < 229 := hM; omega) (M % 16) (Nat.mod_lt _ (by decide)) (by rw [Nat.div_add_mod]; exact hM)
  rwa [Nat.div_add_mod] at h1
theorem xchM_all {M : Nat} (hM : M < xN) : xchM M = true := by
  refine xN_ch (P := fun M => xchM M = true) (fun j hj k hk hlt => ?_) hM
  have fin : ∀ {n : Nat}, (List.range 16).all (fun k => xchM (n + k) || Nat.ble xN (n + k)) = true → n + k < xN → xchM (n + k) = true := by
    intro n h hlt
    have h1 := List.all_eq_true.mp h k (List.mem_range.mpr hk)
    rcases Bool.or_eq_true _ _ ▸ h1 with h2 | h2
    · exact h2
    · exact absurd (Nat.le_of_ble_eq_true h2) (by omega)
  rcases (show j = 0 ∨ j = 1 ∨ j = 2 ∨ j = 3 ∨ j = 4 ∨ j = 5 ∨ j = 6 ∨ j = 7 ∨ j = 8 ∨ j = 9 ∨ j = 10 ∨ j = 11 ∨ j = 12 ∨ j = 13 ∨ j = 14 by omega) with rfl | rfl | rfl | rfl | rfl | rfl | rfl | rfl | rfl | rfl | rfl | rfl | rfl | rfl | rfl
  · exact fin xchM_0 hlt
  · exact fin xchM_1 hlt
  · exact fin xchM_2 hlt
  · exact fin xchM_3 hlt
  · exact fin xchM_4 hlt
  · exact fin xchM_5 hlt
  · exact fin xchM_6 hlt
  · exact fin xchM_7 hlt
  · exact fin xchM_8 hlt
  · exact fin xchM_9 hlt
  · exact fin xchM_10 hlt
  · exact fin xchM_11 hlt
  · exact fin xchM_12 hlt
  · exact fin xchM_13 hlt
  · exact fin xchM_14 hlt
theorem xcodeP_all {M : Nat} (hM : M < xN) : xcodeW M ∈ xGT := by
  refine xN_ch (P := fun M => xcodeW M ∈ xGT) (fun j hj k hk hlt => ?_) hM
  have fin : ∀ {n : Nat}, (List.range 16).all (fun k => decide (lw_tbl[(xmp (n + k)).1]? = some (xcodeW (n + k))) || Nat.ble xN (n + k)) = true → n + k < xN → xcodeW (n + k) ∈ xGT := by
    intro n h hlt
    have h1 := List.all_eq_true.mp h k (List.mem_range.mpr hk)
    rcases Bool.or_eq_true _ _ ▸ h1 with h2 | h2
    · exact xGT_in _ (of_decide_eq_true h2) rfl
    · exact absurd (Nat.le_of_ble_eq_true h2) (by omega)
  rcases (show j = 0 ∨ j = 1 ∨ j = 2 ∨ j = 3 ∨ j = 4 ∨ j = 5 ∨ j = 6 ∨ j = 7 ∨ j = 8 ∨ j = 9 ∨ j = 10 ∨ j = 11 ∨ j = 12 ∨ j = 13 ∨ j = 14 by omega) with rfl | rfl | rfl | rfl | rfl | rfl | rfl | rfl | rfl | rfl | rfl | rfl | rfl | rfl | rfl
  · exact fin xcodeP_0 hlt
  · exact fin xcodeP_1 hlt
  · exact fin xcodeP_2 hlt
  · exact fin xcodeP_3 hlt
  · exact fin xcodeP_4 hlt
  · exact fin xcodeP_5 hlt
  · exact fin xcodeP_6 hlt
  · exact fin xcodeP_7 hlt
  · exact fin xcodeP_8 hlt
  · exact fin xcodeP_9 hlt
  · exact fin xcodeP_10 hlt
  · exact fin xcodeP_11 hlt
  · exact fin xcodeP_12 hlt
  · exact fin xcodeP_13 hlt
  · exact fin xcodeP_14 hlt
theorem xna_all : (List.range xN).all (fun M => Nat.ble (xrec M).2.2.2.2 (xrec M).2.1 && Nat.ble (xrec M).2.1 9) = true := by decide +kernel
theorem xna {M : Nat} (hM : M < xN) : (xrec M).2.2.2.2 ≤ (xrec M).2.1 ∧ (xrec M).2.1 ≤ 9 := by
  have h := List.all_eq_true.mp xna_all M (List.mem_range.mpr hM)
  simp only [Bool.and_eq_true] at h
  exact ⟨Nat.le_of_ble_eq_true h.1, Nat.le_of_ble_eq_true h.2⟩
/-- what the tables say of a method: static; an instance's; both -/
theorem xm_s {M : Nat} (hM : M < xN) (h0 : (xrec M).2.2.2.1 = 0) : Cond.static (xy M).1 ∈ xGT ∧ (parseMethodDescriptor (xy M).1.desc).map (fun d => d.parameters.length) = some (xrec M).2.2.2.2 := by
  have h := xchM_all hM
  simp only [xchM, h0, Bool.and_eq_true, decide_eq_true_eq] at h
  obtain ⟨⟨⟨⟨⟨⟨⟨⟨⟨⟨⟨h1, h2⟩, h3⟩, h4⟩, h5⟩, h6⟩, h7⟩, h8⟩, h9⟩, h10⟩, h11⟩, h12⟩ := h
  exact ⟨xGT_in _ h1 rfl, h8⟩
theorem xm_i {M t : Nat} (hM : M < xN) (h0 : (xrec M).2.2.2.1 = t + 1) : Cond.instanceMethod (xy M).1 ∈ xGT ∧ ((xy M).1.name ≠ "<init>" → Cond.selects (xy M).1.cls (xy M).1 (xy M).1 ∈ xGT) ∧ (parseMethodDescriptor (xy M).1.desc).map (fun d => d.parameters.length) = some ((xrec M).2.2.2.2 - 1) ∧ xCt (t + 1) = (xy M).1.cls ∧ 0 < (xrec M).2.2.2.2 ∧ (xkind (t + 1) = 1 ∨ t + 1 = 1) := by
  have h := xchM_all hM
  simp only [xchM, h0, show Nat.beq (t + 1) 0 = false from rfl, Bool.false_or, Bool.and_eq_true, decide_eq_true_eq] at h
  obtain ⟨⟨⟨⟨⟨⟨⟨⟨⟨⟨⟨h1, h2⟩, h3⟩, h4⟩, h5⟩, h6⟩, h7⟩, h8⟩, h9⟩, h10⟩, h11⟩, h12⟩ := h
  refine ⟨xGT_in _ h1 rfl, fun hn => ?_, h8, h6, Nat.le_of_ble_eq_true h12.1, ?_⟩
  · rcases Bool.or_eq_true _ _ ▸ h2 with h | h
    · exact absurd (of_decide_eq_true h) hn
    · exact xGT_in _ (of_decide_eq_true h) rfl
  · rcases Bool.or_eq_true _ _ ▸ h12.2 with h | h
    · exact Or.inl (Nat.eq_of_beq_eq_true h)
    · exact Or.inr (Nat.eq_of_beq_eq_true h)
theorem xm_a {M : Nat} (hM : M < xN) : Cond.initialized (xy M).1.cls ∈ xGT ∧ xrkOk M = true ∧ (xy M).1.cls = xow M ∧ ((xy M).1.cls ≠ "java/lang/invoke/MethodHandle" ∧ (xy M).1.cls ≠ "java/lang/invoke/VarHandle") ∧ plainName (xy M).1.cls = true := by
  have h := xchM_all hM
  simp only [xchM, Bool.and_eq_true, decide_eq_true_eq] at h
  obtain ⟨⟨⟨⟨⟨⟨⟨⟨⟨⟨⟨h1, h2⟩, h3⟩, h4⟩, h5⟩, h6⟩, h7⟩, h8⟩, h9⟩, h10⟩, h11⟩, h12⟩ := h
  exact ⟨xGT_in _ h3 rfl, h4, h5, h7, h9⟩
theorem xrk_0 {M : Nat} (h : xrkOk M = true) (h0 : (xrec M).2.2.1 = 0) : (xy M).2.2 = none := by
  unfold xrkOk at h
  rw [h0] at h
  cases hr : (xy M).2.2 with
  | none => rfl
  | some t => rw [hr] at h; cases t <;> cases h
theorem xrk_n {M : Nat} (h : xrkOk M = true) : ((xrec M).2.2.1 = 1 → (xy M).2.2 = some .int) ∧ ((xrec M).2.2.1 = 2 → (xy M).2.2 = some .boolean) ∧ ((xrec M).2.2.1 = 3 → (xy M).2.2 = some .byte) := by
  refine ⟨fun h0 => ?_, fun h0 => ?_, fun h0 => ?_⟩ <;>
  · unfold xrkOk at h
    rw [h0] at h
    cases hr : (xy M).2.2 with
    | none => rw [hr] at h; cases h
    | some t => rw [hr] at h; cases t <;> first | rfl | cases h
theorem xgoodIn {ws : List Cond} (h : ∀ w ∈ ws, w ∈ xGT) : GoodIn xGT ws := fun w hw => ⟨h w hw, xGT_good w (h w hw)⟩
def xws (M : Nat) : List Cond := xcodeW M :: xGT
theorem xws_in {M : Nat} (hM : M < xN) : ∀ w ∈ xws M, w ∈ xGT := by
  intro w hw
  rcases List.mem_cons.mp hw with rfl | h
  · exact xcodeP_all hM
  · exact h
/-- a method's cells: the world's, and new ones -/
def xAs (ad : Nat → Nat → Nat) (cnt : Nat → Nat) (sz : Nat) : Nat → Prop := fun q => (∃ t i, xvd cnt t i ∧ q = ad t i) ∨ sz ≤ q
/-- what a method finds -/
def xPre (D : va_G) (ad : Nat → Nat → Nat) (ca : Nat → Nat → ClassId) (sz : Nat) (σ : xM) (as : List xV) (U : State) : Prop :=
  U.heap.size = sz ∧ xWd D ad ca xcnt xrho σ (xAs ad xcnt sz) U U.heap ∧ va_K D xcl [] U ∧ xEx ad U ∧ xROk ad (xAs ad xcnt sz) U U.heap ∧ xoks xcnt as
/-- a method's contract -/
def xMet (l : Launch) (d k : Nat) (as : List xV) (σ : xM) (Q : Int → xM → Prop) : Prop := ∀ (D : va_G) (ad : Nat → Nat → Nat) (ca : Nat → Nat → ClassId) (sz : Nat),
  Met l (xy k).1 (xws k) (xroom d 0 0) (va_Pc (as.map (xcv ad)) (xPre D ad ca sz σ as)) (xQc (xvoid k) Q (fun σ' t => xWd D ad ca xcnt xrho σ' (xAs ad xcnt sz) t t.heap) (xAs ad xcnt sz)) 0 0 (xAs ad xcnt sz)
theorem va_OF.movedX {o n d : String} {v : Value} {t : Nat} {A : Nat → Prop} {u U : State} {H : Heap} (hvm : u.vm.Alike U.vm) (h : va_OF o n d v t A u H) : va_OF o n d v t A U H := va_OF.moved hvm h
theorem xROk.moved {ad : Nat → Nat → Nat} {A : Nat → Prop} {u U : State} {H : Heap} (hvm : u.vm.Alike U.vm) (h : xROk ad A u H) : xROk ad A U H := ⟨h.1.moved hvm, h.2.1.moved hvm, h.2.2.1.moved hvm, h.2.2.2.moved hvm⟩
theorem xROk.kept {ad : Nat → Nat → Nat} {A : Nat → Prop} {U : State} {H H1 : Heap} (h : xROk ad A U H) (hq : ∀ a : Nat, a < H.size → ¬ A a → H1[a]? = H[a]?) : xROk ad A U H1 := ⟨h.1.kept hq, h.2.1.kept hq, h.2.2.1.kept hq, h.2.2.2.kept hq⟩
theorem xROk.narrow {ad : Nat → Nat → Nat} {A B : Nat → Prop} {U : State} {H : Heap} (h : xROk ad A U H) (hAB : ∀ q, B q → A q) : xROk ad B U H := ⟨h.1.narrow hAB, h.2.1.narrow hAB, h.2.2.1.narrow hAB, h.2.2.2.narrow hAB⟩
theorem xnest_c {w : Cond} (h : w ∈ xnest) : (∃ a i b n d e, w = .fieldLinkNest a i b n d e) ∨ ∃ a i y e, w = .methodLinkNest a i y e := by
  have h1 := (List.mem_filter.mp h).2
  cases w <;> first | exact Or.inl ⟨_, _, _, _, _, _, rfl⟩ | exact Or.inr ⟨_, _, _, _, rfl⟩ | cases h1
theorem xAOa.warm {s U : State} (hvm : s.vm.Alike U.vm) (h : xAOa s) : xAOa U := by
  obtain ⟨cA, comp, kA, h1, h2, h3, h4⟩ := h
  obtain ⟨k', hk', he⟩ := hvm.2.2 _ _ h2
  exact ⟨cA, comp, k', by rw [hvm.findClass]; exact h1, hk', by rw [he]; exact h3, by rw [hvm.findClass]; exact h4⟩
theorem xEx.warm {ad : Nat → Nat → Nat} {s U : State} (hW : s.WarmedH U.vm) (h : xEx ad s) : xEx ad U := by
  refine ⟨fun w hw => ?_, fun C hC => (h.2.1 C hC).moved hW.alike, xAOa.warm hW.alike h.2.2.1, fun q hq => (h.2.2.2 q hq).warm hW⟩
  have h1 := h.1 w hw
  rcases xnest_c hw with ⟨a, i, b, n, d, e, rfl⟩ | ⟨a, i, y, e, rfl⟩
  · exact va_Nw.warmF hW h1
  · exact va_Nw.warmM hW h1
theorem xEx.same {ad : Nat → Nat → Nat} {u U : State} (hv : u.vm = U.vm) (h : xEx ad u) : xEx ad U := by
  refine ⟨fun w hw => ?_, fun C hC => (h.2.1 C hC).moved (by rw [hv]; exact Vm.Alike.refl _), xAOa.warm (by rw [hv]; exact Vm.Alike.refl _) h.2.2.1, fun q hq => (h.2.2.2 q hq).same hv.symm⟩
  have h1 := h.1 w hw
  rcases xnest_c hw with ⟨a, i, b, n, d, e, rfl⟩ | ⟨a, i, y, e, rfl⟩
  · exact va_Nw.same rfl hv h1
  · exact va_Nw.same rfl hv h1
theorem xPre.blind {D : va_G} {ad : Nat → Nat → Nat} {ca : Nat → Nat → ClassId} {sz : Nat} {σ : xM} {as : List xV} : FrameBlind (va_Pc (as.map (xcv ad)) (xPre D ad ca sz σ as)) := by
  rintro a U g mk ⟨e, h1, h2, h3, h4, h5, h6⟩
  exact ⟨e, h1, h2.moved (U := U.calling g mk a) (Vm.Alike.refl U.vm) (fun _ _ _ h => h), va_K.moved (u := U) (U := U.calling g mk a) (Vm.Alike.refl U.vm) h3, h4.same (u := U) (U := U.calling g mk a) rfl, h5.moved (U := U.calling g mk a) (Vm.Alike.refl U.vm), h6⟩
