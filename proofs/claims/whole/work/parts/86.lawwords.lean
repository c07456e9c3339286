/-! THE LAW: texts and tables at its start -/
def ytm (i : Nat) : Term := .string "PlayParts$Reader" (([22, 48, 50] : List Nat).getD i 0)
def yab : Term := .static "PlayParts" "ABOVE" "[I"
def yfl1 : List Cond := flatC (Jvm.Cond.and given_1 narrow_1)
theorem y_m1 : ∀ i, i < 3 → Cond.exactly (ytm i) "java/lang/String" ∈ yfl1 := by decide +kernel
theorem y_m2 : ∀ i, i < 3 → Cond.eq (.field (ytm i) "java/lang/String" "coder" "B") (.int 0) ∈ yfl1 := by decide +kernel
theorem y_m3 : ∀ i, i < 3 → Cond.arrayOf (.field (ytm i) "java/lang/String" "value" "[B") .byte ∈ yfl1 := by decide +kernel
theorem y_m4 : ∀ i, i < 3 → Cond.eq (.length (.field (ytm i) "java/lang/String" "value" "[B")) (.int (Int32.ofNat (([0, 3, 3] : List Nat).getD i 0))) ∈ yfl1 := by decide +kernel
theorem y_m5 : ∀ i, i < 3 → ∀ j, j < ([0, 3, 3] : List Nat).getD i 0 → Cond.eq (.elem (.field (ytm i) "java/lang/String" "value" "[B") (.int (Int32.ofNat j))) (.int ((([[], [119, 108, 118], [119, 115, 121]] : List (List Int32)).getD i []).getD j 0)) ∈ yfl1 := by decide +kernel
theorem y_m6 : ∀ i, i < 3 → ∀ j, j < 3 → i < j → Cond.not (Cond.eq (ytm i) (ytm j)) ∈ yfl1 := by decide +kernel
theorem y_m7 : ∀ j, j < 7 → Cond.eq (.elem yab (.int (Int32.ofNat j))) (.int (Int32.ofInt (xabv j))) ∈ yfl1 := by decide +kernel
theorem y_m8 : Cond.arrayOf yab .int ∈ yfl1 := by decide +kernel
theorem y_m9 : Cond.eq (.length yab) (.int (Int32.ofNat 7)) ∈ yfl1 := by decide +kernel
theorem y_m10 : Cond.eq (.static "java/lang/String" "COMPACT_STRINGS" "Z") (.int 1) ∈ yfl1 := by decide +kernel
theorem y_m0 : ∀ i, i < 3 → ([0, 3, 3] : List Nat).getD i 0 < 2 ^ 31 := by
  intro i hi
  have : i = 0 ∨ i = 1 ∨ i = 2 := by omega
  rcases this with e | e | e <;> subst e
  · exact Nat.le_of_ble_eq_true rfl
  · exact Nat.le_of_ble_eq_true rfl
  · exact Nat.le_of_ble_eq_true rfl
