/-! the classes' tables as the rows want them -/
def xtags : List Nat := [4, 5, 7, 9, 13, 17, 19, 25, 33, 36, 40]
theorem xtags_all : (List.range 57).all (fun t => !(Nat.beq (xkind t) 1) || xtags.contains t) = true := by decide +kernel
theorem xkind_lt {t : Nat} (h : xkind t ≠ 0) : t < 57 := by
  rcases Nat.lt_or_ge t 57 with h1 | h1
  · exact h1
  · exact absurd (xnth_out 0 xkindL t (by show 57 ≤ t; exact h1)) h
theorem xkind_4 {t : Nat} (h : xkind t ≠ 0) : 4 ≤ t := by
  rcases Nat.lt_or_ge t 4 with h1 | h1
  · have : ∀ t, t < 4 → xkind t = 0 := by decide +kernel
    exact absurd (this t h1) h
  · exact h1
theorem xtag_in {t : Nat} (h : xkind t = 1) : t ∈ xtags := by
  have h1 := List.all_eq_true.mp xtags_all t (List.mem_range.mpr (xkind_lt (by rw [h]; decide)))
  rw [h] at h1
  simpa using h1
theorem xtag_cases {P : Nat → Prop} (h : ∀ t ∈ xtags, P t) {t : Nat} (ht : xkind t = 1) : P t := h t (xtag_in ht)
theorem xcl_at {t : Nat} (ht : xkind t = 1) : xcl[xci t]? = some (xCt t, xFt t, xsz t) := by
  have h := xtag_in ht
  simp only [xtags, List.mem_cons, List.not_mem_nil, or_false] at h
  rcases h with rfl | rfl | rfl | rfl | rfl | rfl | rfl | rfl | rfl | rfl | rfl <;> rfl
theorem xcl_lay {t : Nat} (ht : xkind t = 1) : ∀ w ∈ u_ws (xCt t) (xFt t) (xsz t), w ∈ xGT := by
  have h := xtag_in ht
  simp only [xtags, List.mem_cons, List.not_mem_nil, or_false] at h
  rcases h with rfl | rfl | rfl | rfl | rfl | rfl | rfl | rfl | rfl | rfl | rfl
  · exact xlay_P
  · exact xlay_S
  · exact xlay_R
  · exact xlay_C
  · exact xlay_T
  · exact xlay_D
  · exact xlay_A
  · exact xlay_L
  · exact xlay_V
  · exact xlay_H
  · exact xlay_M
def xty (t k : Nat) : FieldType := (parseFieldDescriptor (xFt t k).2.2.1).getD .int
theorem xty_all : xtags.all (fun t => (List.range (xsz t)).all (fun k => decide (parseFieldDescriptor (xFt t k).2.2.1 = some (xty t k)))) = true := by decide +kernel
theorem xty_ok {t : Nat} (ht : xkind t = 1) : ∀ k, k < xsz t → parseFieldDescriptor (xFt t k).2.2.1 = some (xty t k) := fun k hk =>
  of_decide_eq_true (List.all_eq_true.mp (List.all_eq_true.mp xty_all t (xtag_in ht)) k (List.mem_range.mpr hk))
theorem xnm_all : xtags.all (fun t => (List.range (xsz t)).all (fun a => (List.range (xsz t)).all (fun b => Nat.beq a b || decide ((xFt t a).2.1 ≠ (xFt t b).2.1)))) = true := by decide +kernel
theorem xnm_ok {t : Nat} (ht : xkind t = 1) : ∀ a, a < xsz t → ∀ b, b < xsz t → a ≠ b → (xFt t a).2.1 ≠ (xFt t b).2.1 := by
  intro a ha b hb hne
  have h := List.all_eq_true.mp (List.all_eq_true.mp (List.all_eq_true.mp xnm_all t (xtag_in ht)) a (List.mem_range.mpr ha)) b (List.mem_range.mpr hb)
  rcases Bool.or_eq_true _ _ ▸ h with h | h
  · exact absurd (Nat.eq_of_beq_eq_true h) hne
  · exact of_decide_eq_true h
theorem xfty_all : xtags.all (fun t => (List.range (xsz t)).all (fun k => match xft t k with
    | 0 => decide (xty t k = .int ∧ (xFt t k).2.2.2 = false)
    | 1 => decide ((xty t k).isReference = true)
    | 2 => decide (xty t k = .object "java/lang/String" ∧ (xFt t k).2.2.2 = false)
    | 3 => decide (xty t k = .boolean ∧ (xFt t k).2.2.2 = false)
    | _ => false)) = true := by decide +kernel
theorem xfty {t k : Nat} (ht : xkind t = 1) (hk : k < xsz t) : (match xft t k with
    | 0 => decide (xty t k = .int ∧ (xFt t k).2.2.2 = false)
    | 1 => decide ((xty t k).isReference = true)
    | 2 => decide (xty t k = .object "java/lang/String" ∧ (xFt t k).2.2.2 = false)
    | 3 => decide (xty t k = .boolean ∧ (xFt t k).2.2.2 = false)
    | _ => false) = true := List.all_eq_true.mp (List.all_eq_true.mp xfty_all t (xtag_in ht)) k (List.mem_range.mpr hk)
theorem xarr_all : (List.range 57).all (fun t => match xkind t with
    | 2 => decide (xaty t = .int)
    | 3 => decide (xaty t = .boolean)
    | 4 => decide ((xaty t).isReference = true)
    | _ => true) = true := by decide +kernel
theorem xarr_2 {t : Nat} (h : xkind t = 2) : xaty t = .int := by
  have h1 := List.all_eq_true.mp xarr_all t (List.mem_range.mpr (xkind_lt (by rw [h]; decide)))
  rw [h] at h1
  exact of_decide_eq_true h1
theorem xarr_3 {t : Nat} (h : xkind t = 3) : xaty t = .boolean := by
  have h1 := List.all_eq_true.mp xarr_all t (List.mem_range.mpr (xkind_lt (by rw [h]; decide)))
  rw [h] at h1
  exact of_decide_eq_true h1
theorem xarr_4 {t : Nat} (h : xkind t = 4) : (xaty t).isReference = true := by
  have h1 := List.all_eq_true.mp xarr_all t (List.mem_range.mpr (xkind_lt (by rw [h]; decide)))
  rw [h] at h1
  exact of_decide_eq_true h1
theorem xlen_all : (List.range 57).all (fun t => Nat.blt (xkind t) 2 || (decide (xlen t = (xsz t : Int)) && decide (xlen t < 2147483648))) = true := by decide +kernel
theorem xlen_ok {t : Nat} (h : 2 ≤ xkind t) : xlen t = (xsz t : Int) ∧ xlen t < 2147483648 := by
  have h1 := List.all_eq_true.mp xlen_all t (List.mem_range.mpr (xkind_lt (by omega)))
  rcases Bool.or_eq_true _ _ ▸ h1 with h2 | h2
  · have := Nat.le_of_ble_eq_true (show Nat.ble (xkind t + 1) 2 = true from h2)
    omega
  · simp only [Bool.and_eq_true, decide_eq_true_eq] at h2
    exact h2
theorem xfld_w {c x : Nat} {q : Nat × Nat} (h : xfld c x = some q) : (∃ n, xfw c x n q ∈ lw_tbl) ∧ (q.2 < xsz q.1 ∨ q.1 = 1) ∧ (xkind q.1 = 1 ∨ q.1 = 1) := by
  have h1 := xall_nth (T := xfldT) (n := 14) (f := xchF) (d := []) (by decide +kernel) rfl xchF_ok c (x, q) (xas_mem (xnth [] xfldT c) x q h)
  unfold xchF at h1
  cases hp : xas (xnth [] xfpT c) x with
  | none => simp only [hp] at h1; cases h1
  | some p =>
    simp only [hp, Bool.and_eq_true, decide_eq_true_eq] at h1
    obtain ⟨⟨h2, h3⟩, h4⟩ := h1
    refine ⟨⟨p.2, List.mem_of_getElem? h2⟩, ?_, ?_⟩
    · rcases Bool.or_eq_true _ _ ▸ h3 with h5 | h5
      · exact Or.inl (Nat.le_of_ble_eq_true h5)
      · exact Or.inr (Nat.eq_of_beq_eq_true h5)
    · rcases Bool.or_eq_true _ _ ▸ h4 with h5 | h5
      · exact Or.inl (Nat.eq_of_beq_eq_true h5)
      · exact Or.inr (Nat.eq_of_beq_eq_true h5)
theorem xkon_w {c x : Nat} {v : Int} (h : xkon c x = some v) : Cond.constant (xnth "" xowL c) x (Int32.ofInt v) ∈ xGT ∧ xr v := by
  have h1 := xall_nth (T := xkonT) (n := 14) (f := xchK) (d := []) (by decide +kernel) rfl xchK_ok c (x, v) (xas_mem (xnth [] xkonT c) x v h)
  unfold xchK at h1
  cases hp : xas (xnth [] xkpT c) x with
  | none => simp only [hp] at h1; cases h1
  | some p =>
    simp only [hp, Bool.and_eq_true, decide_eq_true_eq] at h1
    exact ⟨xGT_in p h1.1 rfl, h1.2⟩
theorem xkonL_w {c x : Nat} {v : Int} (h : xkonL c x = some v) : Cond.constantLong (xnth "" xowL c) x (Int64.ofInt v) ∈ xGT ∧ xrl v := by
  have h1 := xall_nth (T := xkonLT) (n := 14) (f := xchL) (d := []) (by decide +kernel) rfl xchL_ok c (x, v) (xas_mem (xnth [] xkonLT c) x v h)
  unfold xchL at h1
  cases hp : xas (xnth [] xlpT c) x with
  | none => simp only [hp] at h1; cases h1
  | some p =>
    simp only [hp, Bool.and_eq_true, decide_eq_true_eq] at h1
    exact ⟨xGT_in p h1.1 rfl, h1.2⟩
theorem xsta_w {c x : Nat} {b : Bool} (h : xsta c x = some b) : cond b (Cond.fieldLinkNest (xnth "" xowL c) x "PlayParts" "ABOVE" "[I" "PlayParts") (.fieldLink (xnth "" xowL c) x "java/lang/String" "COMPACT_STRINGS" "Z") ∈ lw_tbl := by
  have h1 := xall_nth (T := xstaT) (n := 14) (f := xchS) (d := []) (by decide +kernel) rfl xchS_ok c (x, b) (xas_mem (xnth [] xstaT c) x b h)
  unfold xchS at h1
  cases hp : xas (xnth [] xspT c) x with
  | none => simp only [hp] at h1; cases h1
  | some p =>
    simp only [hp, decide_eq_true_eq] at h1
    exact List.mem_of_getElem? h1
theorem xstr_w {c x z : Nat} (h : xstr c x = some z) : ∃ tx, (xnth "" xowL c, x, tx, z) ∈ xstrs ∧ 1 ≤ z ∧ z ≤ 3 := by
  have h1 := xall_nth (T := xstrT) (n := 14) (f := xchT) (d := []) (by decide +kernel) rfl xchT_ok c (x, z) (xas_mem (xnth [] xstrT c) x z h)
  unfold xchT at h1
  obtain ⟨q, hq, h2⟩ := List.any_eq_true.mp h1
  simp only [decide_eq_true_eq] at h2
  obtain ⟨h3, h4, h5, h6, h7⟩ := h2
  refine ⟨q.2.2.1, ?_, h6, h7⟩
  have e : q = (xnth "" xowL c, x, q.2.2.1, z) := by
    obtain ⟨q1, q2, q3, q4⟩ := q
    simp only at h3 h4 h5 ⊢
    rw [h3, h4, h5]
  rw [← e]
  exact hq
theorem xcal_w {c x : Nat} {q : Nat × Nat} (h : xcal c x = some q) : xcw c x q ∈ lw_tbl ∧ (q.1 < xN ∨ q.1 = 999) := by
  have h1 := xall_nth (T := xcalT) (n := 14) (f := xchC) (d := []) (by decide +kernel) rfl xchC_ok c (x, q) (xas_mem (xnth [] xcalT c) x q h)
  unfold xchC at h1
  cases hp : xas (xnth [] xcpT c) x with
  | none => simp only [hp] at h1; cases h1
  | some p =>
    simp only [hp, Bool.and_eq_true, decide_eq_true_eq] at h1
    refine ⟨List.mem_of_getElem? h1.1, ?_⟩
    rcases Bool.or_eq_true _ _ ▸ h1.2 with h5 | h5
    · exact Or.inl (Nat.le_of_ble_eq_true h5)
    · exact Or.inr (Nat.eq_of_beq_eq_true h5)
theorem xnest_f {a b d e h : String} {x : Nat} (hw : Cond.fieldLinkNest a x b d e h ∈ lw_tbl) : Cond.fieldLinkNest a x b d e h ∈ xnest := List.mem_filter.mpr ⟨hw, rfl⟩
theorem xnest_m {a h : String} {y : MethodName} {x : Nat} (hw : Cond.methodLinkNest a x y h ∈ lw_tbl) : Cond.methodLinkNest a x y h ∈ xnest := List.mem_filter.mpr ⟨hw, rfl⟩
theorem xGT_m {w : Cond} (h : w ∈ lw_tbl) (hg : (k2_isCode w || goodWord w) = true) : w ∈ xGT := List.mem_filter.mpr ⟨h, hg⟩
