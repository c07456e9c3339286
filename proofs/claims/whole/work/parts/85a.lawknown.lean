/-! THE LAW: what holds at its start -/
section YZ3
variable {s : State} {args : Array Value}
theorem y_known (hts : ∀ w ∈ xGT, w.before args s = true) : ∃ D : va_G, va_K D xcl [] s := by
  have h : ∀ k : Nat, ∃ q : ClassId × (Nat → Nat), ∀ z, xcl[k]? = some z → u_Kn s z.1 z.2.1 z.2.2 q.1 q.2 := by
    intro k
    have go : ∀ t, xkind t = 1 → (xas xinN t).isSome = true → xci t = k → ∃ q : ClassId × (Nat → Nat), ∀ z, xcl[k]? = some z → u_Kn s z.1 z.2.1 z.2.2 q.1 q.2 := by
      intro t ht hq hk
      obtain ⟨w, hw⟩ := Option.isSome_iff_exists.mp hq
      obtain ⟨c0, iS, hKn⟩ := u_known (C := xCt t) (T := xFt t) (N := xsz t) (n := xsz t) hts (xcl_lay ht) (hts _ (xinN_ok hw).1)
      refine ⟨(c0, iS), fun z hz => ?_⟩
      have h1 := xcl_at ht
      rw [hk, hz] at h1
      rw [Option.some.inj h1]
      exact hKn
    match k, go with
    | 0, go => exact go 4 (by decide +kernel) (by decide +kernel) (by decide +kernel)
    | 1, go => exact go 5 (by decide +kernel) (by decide +kernel) (by decide +kernel)
    | 2, go => exact go 7 (by decide +kernel) (by decide +kernel) (by decide +kernel)
    | 3, go => exact go 9 (by decide +kernel) (by decide +kernel) (by decide +kernel)
    | 4, go => exact go 13 (by decide +kernel) (by decide +kernel) (by decide +kernel)
    | 5, go => exact go 17 (by decide +kernel) (by decide +kernel) (by decide +kernel)
    | 6, go => exact go 19 (by decide +kernel) (by decide +kernel) (by decide +kernel)
    | 7, go => exact go 25 (by decide +kernel) (by decide +kernel) (by decide +kernel)
    | 8, go => exact go 33 (by decide +kernel) (by decide +kernel) (by decide +kernel)
    | 9, go => exact go 36 (by decide +kernel) (by decide +kernel) (by decide +kernel)
    | 10, go => exact go 40 (by decide +kernel) (by decide +kernel) (by decide +kernel)
    | k + 11, _ => exact ⟨(0, fun _ => 0), fun z hz => absurd (show none = some z from hz) (fun q => by cases q)⟩
  obtain ⟨f, hf⟩ := Classical.axiomOfChoice h
  exact ⟨(fun k => (f k).1, fun k => (f k).2), fun k q hq => hf k q hq, fun k q h => by simp at h⟩
end YZ3
