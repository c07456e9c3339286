/-! THE LAW: what holds at its start -/
section YZ
variable {s : State} {args : Array Value}
theorem y_nest (hts : ∀ w ∈ lw_tbl, w.before args s = true) : ∀ w ∈ xnest, va_Nw w s := by
  intro w hw
  have hm := (List.mem_filter.mp hw).1
  rcases xnest_c hw with ⟨a, i, b, n, d, e, rfl⟩ | ⟨a, i, y, e, rfl⟩
  · exact va_Nw.of rfl (hts _ hm)
  · exact va_Nw.of rfl (hts _ hm)
theorem y_AOa (hts : ∀ w ∈ lw_tbl, w.before args s = true) : xAOa s := by
  obtain ⟨comp, c, k, h1, h2, h3, h4⟩ := Cond.arrayOver_specA (t := .int) (hts (.arrayOver (.array .int)) (List.mem_of_getElem? (i := 276) (by decide +kernel)))
  have e1 : "[" ++ (FieldType.array .int).toString = "[[I" := by decide +kernel
  have e2 : (FieldType.array .int).toString = "[I" := by decide +kernel
  rw [e1] at h4
  rw [e2] at h1
  exact ⟨c, comp, k, h4, h2, h3, h1⟩
theorem y_AO (hts : ∀ w ∈ lw_tbl, w.before args s = true) : ∀ C ∈ ["PlayParts$Role", "PlayParts$Child", "PlayParts$Text", "PlayParts$Sheet"], va_AO C s := by
  intro C hC
  simp only [List.mem_cons, List.not_mem_nil, or_false] at hC
  rcases hC with rfl | rfl | rfl | rfl
  · exact va_AO.of (hts (.arrayOver (.object "PlayParts$Role")) (List.mem_of_getElem? (i := 107) (by decide +kernel)))
  · exact va_AO.of (hts (.arrayOver (.object "PlayParts$Child")) (List.mem_of_getElem? (i := 109) (by decide +kernel)))
  · exact va_AO.of (hts (.arrayOver (.object "PlayParts$Text")) (List.mem_of_getElem? (i := 111) (by decide +kernel)))
  · exact va_AO.of (hts (.arrayOver (.object "PlayParts$Sheet")) (List.mem_of_getElem? (i := 362) (by decide +kernel)))
end YZ
