/-! THE LAW: what holds at its start -/
section YZ
variable {s : State} {args : Array Value}
theorem y_known (hts : ∀ w ∈ xGT, w.before args s = true) : ∃ D : va_G, va_K D xcl [] s := by
  have h : ∀ k : Nat, ∃ q : ClassId × (Nat → Nat), ∀ z, xcl[k]? = some z → u_Kn s z.1 z.2.1 z.2.2 q.1 q.2 := by
    intro k
    have go : ∀ t, xkind t = 1 → (xas xinN t).isSome = true → xci t = k → ∃ q : ClassId × (Nat → Nat), ∀ z, xcl[k]? = some z → u_Kn s z.1 z.2.1 z.2.2 q.1 q.2 := by
      intro t ht hq hk
      obtain ⟨w, hw⟩ := Option.isSome_iff_exists.mp hq
      obtain ⟨c0, iS, hKn⟩ := u_known (C := xCt t) (T := xFt t) (N := xsz t) (n := xsz t) hts (xcl_lay ht) (hts _ (xinN_ok hw).1)
      refine ⟨(c0, iS), fun z hz => ?_⟩
      have h1 := xcl_at ht
      rw [hk, hz] at h1
      rw [Option.some.inj h1]
      exact hKn
    match k, go with
    | 0, go => exact go 4 (by decide +kernel) (by decide +kernel) (by decide +kernel)
    | 1, go => exact go 5 (by decide +kernel) (by decide +kernel) (by decide +kernel)
    | 2, go => exact go 7 (by decide +kernel) (by decide +kernel) (by decide +kernel)
    | 3, go => exact go 9 (by decide +kernel) (by decide +kernel) (by decide +kernel)
    | 4, go => exact go 13 (by decide +kernel) (by decide +kernel) (by decide +kernel)
    | 5, go => exact go 17 (by decide +kernel) (by decide +kernel) (by decide +kernel)
    | 6, go => exact go 19 (by decide +kernel) (by decide +kernel) (by decide +kernel)
    | 7, go => exact go 25 (by decide +kernel) (by decide +kernel) (by decide +kernel)
    | 8, go => exact go 33 (by decide +kernel) (by decide +kernel) (by decide +kernel)
    | 9, go => exact go 36 (by decide +kernel) (by decide +kernel) (by decide +kernel)
    | 10, go => exact go 40 (by decide +kernel) (by decide +kernel) (by decide +kernel)
    | k + 11, _ => exact ⟨(0, fun _ => 0), fun z hz => absurd (show none = some z from hz) (fun q => by cases q)⟩
  obtain ⟨f, hf⟩ := Classical.axiomOfChoice h
  exact ⟨(fun k => (f k).1, fun k => (f k).2), fun k q hq => hf k q hq, fun k q h => by simp at h⟩
theorem y_nest (hts : ∀ w ∈ lw_tbl, w.before args s = true) : ∀ w ∈ xnest, va_Nw w s := by
  intro w hw
  have hm := (List.mem_filter.mp hw).1
  rcases xnest_c hw with ⟨a, i, b, n, d, e, rfl⟩ | ⟨a, i, y, e, rfl⟩
  · exact va_Nw.of rfl (hts _ hm)
  · exact va_Nw.of rfl (hts _ hm)
theorem y_AOa (hts : ∀ w ∈ lw_tbl, w.before args s = true) : xAOa s := by
  obtain ⟨comp, c, k, h1, h2, h3, h4⟩ := Cond.arrayOver_specA (t := .int) (hts (.arrayOver (.array .int)) (List.mem_of_getElem? (i := 276) (by decide +kernel)))
  have e1 : "[" ++ (FieldType.array .int).toString = "[[I" := by decide +kernel
  have e2 : (FieldType.array .int).toString = "[I" := by decide +kernel
  rw [e1] at h4
  rw [e2] at h1
  exact ⟨c, comp, k, h4, h2, h3, h1⟩
theorem y_AO (hts : ∀ w ∈ lw_tbl, w.before args s = true) : ∀ C ∈ ["PlayParts$Role", "PlayParts$Child", "PlayParts$Text", "PlayParts$Sheet"], va_AO C s := by
  intro C hC
  simp only [List.mem_cons, List.not_mem_nil, or_false] at hC
  rcases hC with rfl | rfl | rfl | rfl
  · exact va_AO.of (hts (.arrayOver (.object "PlayParts$Role")) (List.mem_of_getElem? (i := 107) (by decide +kernel)))
  · exact va_AO.of (hts (.arrayOver (.object "PlayParts$Child")) (List.mem_of_getElem? (i := 109) (by decide +kernel)))
  · exact va_AO.of (hts (.arrayOver (.object "PlayParts$Text")) (List.mem_of_getElem? (i := 111) (by decide +kernel)))
  · exact va_AO.of (hts (.arrayOver (.object "PlayParts$Sheet")) (List.mem_of_getElem? (i := 362) (by decide +kernel)))
end YZ
