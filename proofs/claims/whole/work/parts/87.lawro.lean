/-! THE LAW: what does not change -/
section YZ2
variable {s : State} {args : Array Value}
theorem y_ro (hts : ∀ w ∈ lw_tbl, w.before args s = true) (hs : ∀ w ∈ yfl1, w.before args s = true) : ∃ ad : Nat → Nat → Nat, xROk ad (fun q : Nat => s.heap.size ≤ q) s s.heap ∧ ∀ q ∈ xstrs, vk_R q.1 q.2.1 q.2.2.1 (ad 1 q.2.2.2) s := by
  have hA : ∀ a : Nat, a < s.heap.size → ¬ (fun q : Nat => s.heap.size ≤ q) a := fun a h => Nat.not_le.mpr h
  obtain ⟨t, ht, hT⟩ := va_Tof (tm := yab) (ty := .int) (N := 7) (f := fun j => .int (Int32.ofInt (xabv j))) (A := fun q : Nat => s.heap.size ≤ q) (by decide) (hs _ y_m8) (va_eqt (hs _ y_m9)) (fun j hj => va_eqt (hs _ (y_m7 j hj))) hA
  obtain ⟨adK, adV, hS, hE⟩ := vk_Sof (N := 3) (tm := ytm) (len := [0, 3, 3]) (byt := [[], [119, 108, 118], [119, 115, 121]]) (A := fun q : Nat => s.heap.size ≤ q) y_m0 (fun i hi => hs _ (y_m1 i hi)) (fun i hi => hs _ (y_m2 i hi)) (fun i hi => hs _ (y_m3 i hi)) (fun i hi => hs _ (y_m4 i hi)) (fun i hi j hj => hs _ (y_m5 i hi j hj)) (fun i j hi hj hne => by
    rcases Nat.lt_or_gt_of_ne hne with h | h
    · exact Or.inl (hs _ (y_m6 i hi j hj h))
    · exact Or.inr (hs _ (y_m6 j hj i hi h))) hA
  refine ⟨fun a b => match a with | 1 => adK (b - 1) | 2 => adV (b - 1) | _ => t, ⟨?_, hT, ?_, hS⟩, ?_⟩
  · exact va_Zof (hts (.laysStatic "PlayParts" "ABOVE" "[I") (List.mem_of_getElem? (i := 472) (by decide +kernel))) (hts (.initialized "PlayParts") (List.mem_of_getElem? (i := 73) (by decide +kernel))) ht hA
  · exact va_Zof (hts (.laysStatic "java/lang/String" "COMPACT_STRINGS" "Z") (List.mem_of_getElem? (i := 609) (by decide +kernel))) (hts (.initialized "java/lang/String") (List.mem_of_getElem? (i := 86) (by decide +kernel))) (va_eqi (hs _ y_m10)) hA
  · intro q hq
    simp only [xstrs, List.mem_cons, List.not_mem_nil, or_false] at hq
    rcases hq with rfl | rfl | rfl
    · exact vk_R.of (hts (.stringRef "PlayParts$Reader" 22 "") (List.mem_of_getElem? (i := 247) (by decide +kernel))) (hE 0 (by decide))
    · exact vk_R.of (hts (.stringRef "PlayParts$Reader" 48 "wlv") (List.mem_of_getElem? (i := 571) (by decide +kernel))) (hE 1 (by decide))
    · exact vk_R.of (hts (.stringRef "PlayParts$Reader" 50 "wsy") (List.mem_of_getElem? (i := 572) (by decide +kernel))) (hE 2 (by decide))
end YZ2
