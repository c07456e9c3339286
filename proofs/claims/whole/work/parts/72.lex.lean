/-! the best cast is the least of those that come to most -/
def qvc (W : Nat → Nat → Int) (m : Nat) : Nat → Nat → Nat → List Nat → Prop
  | 0, _, _, l => l = []
  | _ + 1, _, _, [] => False
  | f + 1, c, S, x :: r => (x = 7 ∨ (x < m ∧ qf W c S x = true)) ∧ qvc W m f (c + 1) (qS S x) r
def qsu (W : Nat → Nat → Int) : Nat → List Nat → Int
  | _, [] => 0
  | c, x :: r => (if x = 7 then 0 else W c x) + qsu W (c + 1) r
def qrk : List Nat → Nat → Nat
  | [], a => a
  | x :: r, a => qrk r (a * 8 + x)
theorem qf_iff {W : Nat → Nat → Int} {c S p : Nat} : qf W c S p = true ↔ Nat.testBit S p = false ∧ 0 ≤ W c p := by
  unfold qf
  simp
theorem qvc_len {W : Nat → Nat → Int} {m : Nat} (m7 : m ≤ 7) : ∀ {f c S : Nat} {l : List Nat}, qvc W m f c S l → l.length = f ∧ ∀ x, x ∈ l → x < 8
  | 0, _, _, l, h => by
    have h : l = [] := h
    subst h
    exact ⟨rfl, fun x hx => absurd hx (by simp)⟩
  | f + 1, c, S, [], h => h.elim
  | f + 1, c, S, x :: r, h => by
    obtain ⟨i1, i2⟩ := qvc_len m7 h.2
    refine ⟨by rw [List.length_cons, i1], fun y hy => ?_⟩
    rcases List.mem_cons.mp hy with e | e
    · rcases h.1 with q | ⟨q, -⟩ <;> omega
    · exact i2 y e
theorem qvl_le {W : Nat → Nat → Int} {m : Nat} : ∀ {f c S : Nat} {l : List Nat}, qvc W m f c S l → qsu W c l ≤ qvl W m f c S
  | 0, _, _, l, h => by
    have h : l = [] := h
    subst h
    exact Int.le_refl _
  | f + 1, c, S, [], h => h.elim
  | f + 1, c, S, x :: r, h => by
    have ih := qvl_le h.2
    show (if x = 7 then 0 else W c x) + qsu W (c + 1) r ≤ qmx W c S (fun T => qvl W m f (c + 1) T) m 0 (qvl W m f (c + 1) S)
    by_cases e : x = 7
    · rw [if_pos e]
      unfold qS at ih
      rw [if_pos e] at ih
      have := qmx_ge (W := W) (c := c) (S := S) (V := fun T => qvl W m f (c + 1) T) m 0 (qvl W m f (c + 1) S)
      omega
    · rw [if_neg e]
      unfold qS at ih
      rw [if_neg e] at ih
      rcases h.1 with q | ⟨q1, q2⟩
      · exact absurd q e
      · have := qmx_in (W := W) (c := c) (S := S) (V := fun T => qvl W m f (c + 1) T) m 0 (qvl W m f (c + 1) S) x (Nat.zero_le _) (by omega) q2
        have : W c x + qvl W m f (c + 1) (S ||| 2 ^ x) ≤ qmx W c S (fun T => qvl W m f (c + 1) T) m 0 (qvl W m f (c + 1) S) := this
        omega
theorem qlq_min {W : Nat → Nat → Int} {c S : Nat} {V : Nat → Int} {v : Int} : ∀ f p q, p ≤ q → q < p + f → qf W c S q = true → W c q + V (S ||| 2 ^ q) = v → qlq W c S V v f p ≤ q
  | 0, p, q, h1, h2, _, _ => by omega
  | f + 1, p, q, h1, h2, h3, h4 => by
    show (if qf W c S p = true then (if W c p + V (S ||| 2 ^ p) = v then p else qlq W c S V v f (p + 1)) else qlq W c S V v f (p + 1)) ≤ q
    by_cases e : q = p
    · subst e
      rw [if_pos h3, if_pos h4]
      omega
    · have ih := qlq_min (W := W) (c := c) (S := S) (V := V) (v := v) f (p + 1) q (by omega) (by omega) h3 h4
      split
      · split
        · omega
        · exact ih
      · exact ih
theorem qgl_ok {W : Nat → Nat → Int} {m : Nat} (m7 : m ≤ 7) : ∀ f c S : Nat, qvc W m f c S (qgl W m f c S) ∧ qsu W c (qgl W m f c S) = qvl W m f c S
  | 0, _, _ => ⟨rfl, rfl⟩
  | f + 1, c, S => by
    have la := qlq_at (W := W) (c := c) (S := S) (V := fun T => qvl W m f (c + 1) T) (v := qvl W m (f + 1) c S) m 0
    have lm := fun q h1 h2 h3 => qlq_min (W := W) (c := c) (S := S) (V := fun T => qvl W m f (c + 1) T) (v := qvl W m (f + 1) c S) m 0 q (Nat.zero_le _) h1 h2 h3
    have ih := fun x => qgl_ok (W := W) m7 f (c + 1) (qS S x)
    have av := qmx_at (W := W) (c := c) (S := S) (V := fun T => qvl W m f (c + 1) T) m 0 (qvl W m f (c + 1) S)
    have ev : qvl W m (f + 1) c S = qmx W c S (fun T => qvl W m f (c + 1) T) m 0 (qvl W m f (c + 1) S) := rfl
    show qvc W m (f + 1) c S (qlq W c S (fun T => qvl W m f (c + 1) T) (qvl W m (f + 1) c S) m 0 :: qgl W m f (c + 1) (qS S (qlq W c S (fun T => qvl W m f (c + 1) T) (qvl W m (f + 1) c S) m 0))) ∧ qsu W c (qlq W c S (fun T => qvl W m f (c + 1) T) (qvl W m (f + 1) c S) m 0 :: qgl W m f (c + 1) (qS S (qlq W c S (fun T => qvl W m f (c + 1) T) (qvl W m (f + 1) c S) m 0))) = qvl W m (f + 1) c S
    revert la lm
    generalize qlq W c S (fun T => qvl W m f (c + 1) T) (qvl W m (f + 1) c S) m 0 = x
    intro la lm
    refine ⟨⟨?_, (ih x).1⟩, ?_⟩
    · rcases la with l | ⟨-, l, l2, -⟩
      · exact Or.inl l
      · exact Or.inr ⟨by omega, l2⟩
    · show (if x = 7 then 0 else W c x) + qsu W (c + 1) (qgl W m f (c + 1) (qS S x)) = qvl W m (f + 1) c S
      rw [(ih x).2]
      unfold qS
      by_cases e : x = 7
      · rw [if_pos e, if_pos e]
        rw [← ev] at av
        rcases av with a | ⟨q, a1, a2, a3, a4⟩
        · omega
        · have := lm q a2 a3 a4.symm
          omega
      · rw [if_neg e, if_neg e]
        rcases la with l | ⟨-, -, -, l⟩
        · exact absurd l e
        · exact l
theorem qrk_add : ∀ (l : List Nat) (a b : Nat), qrk l (a + b) = qrk l a + b * 8 ^ l.length
  | [], a, b => by
    show a + b = a + b * 1
    omega
  | x :: r, a, b => by
    show qrk r ((a + b) * 8 + x) = qrk r (a * 8 + x) + b * 8 ^ (r.length + 1)
    rw [show (a + b) * 8 + x = (a * 8 + x) + b * 8 by omega, qrk_add r, Nat.pow_succ, Nat.mul_assoc, Nat.mul_comm 8]
theorem qrk_lt : ∀ (l : List Nat), (∀ x, x ∈ l → x < 8) → qrk l 0 < 8 ^ l.length
  | [], _ => by decide
  | x :: r, h => by
    show qrk r (0 * 8 + x) < 8 ^ (r.length + 1)
    have ih := qrk_lt r (fun y hy => h y (List.mem_cons_of_mem _ hy))
    have hx := h x List.mem_cons_self
    have e : qrk r (0 * 8 + x) = qrk r 0 + x * 8 ^ r.length := by
      rw [show 0 * 8 + x = 0 + x by omega]
      exact qrk_add r 0 x
    rw [e, Nat.pow_succ]
    have : x * 8 ^ r.length ≤ 7 * 8 ^ r.length := Nat.mul_le_mul_right _ (by omega)
    omega
theorem qrk_inj : ∀ (l l' : List Nat) (a a' : Nat), l.length = l'.length → (∀ x, x ∈ l → x < 8) → (∀ x, x ∈ l' → x < 8) → qrk l a = qrk l' a' → a = a' ∧ l = l'
  | [], [], a, a', _, _, _, h => ⟨h, rfl⟩
  | [], y :: r, _, _, h, _, _, _ => by simp at h
  | x :: r, [], _, _, h, _, _, _ => by simp at h
  | x :: r, y :: r', a, a', h, h1, h2, h3 => by
    obtain ⟨e1, e2⟩ := qrk_inj r r' (a * 8 + x) (a' * 8 + y) (by simpa using h) (fun z hz => h1 z (List.mem_cons_of_mem _ hz)) (fun z hz => h2 z (List.mem_cons_of_mem _ hz)) h3
    have hx := h1 x List.mem_cons_self
    have hy := h2 y List.mem_cons_self
    exact ⟨by omega, by rw [e2, show x = y by omega]⟩
theorem qgl_min {W : Nat → Nat → Int} {m : Nat} (m7 : m ≤ 7) : ∀ (f c S : Nat) (l : List Nat) (a : Nat), qvc W m f c S l → qsu W c l = qvl W m f c S → qrk (qgl W m f c S) a ≤ qrk l a
  | 0, c, S, l, a, h, _ => by
    have h : l = [] := h
    subst h
    exact Nat.le_refl _
  | f + 1, c, S, [], a, h, _ => h.elim
  | f + 1, c, S, y :: r, a, h, hs => by
    have lm := fun q h1 h2 h3 => qlq_min (W := W) (c := c) (S := S) (V := fun T => qvl W m f (c + 1) T) (v := qvl W m (f + 1) c S) m 0 q (Nat.zero_le _) h1 h2 h3
    have la := qlq_at (W := W) (c := c) (S := S) (V := fun T => qvl W m f (c + 1) T) (v := qvl W m (f + 1) c S) m 0
    have ev : qvl W m (f + 1) c S = qmx W c S (fun T => qvl W m f (c + 1) T) m 0 (qvl W m f (c + 1) S) := rfl
    have hle := qvl_le h.2
    have hs : (if y = 7 then 0 else W c y) + qsu W (c + 1) r = qvl W m (f + 1) c S := hs
    have ge := qmx_ge (W := W) (c := c) (S := S) (V := fun T => qvl W m f (c + 1) T) m 0 (qvl W m f (c + 1) S)
    have gi := qmx_in (W := W) (c := c) (S := S) (V := fun T => qvl W m f (c + 1) T) m 0 (qvl W m f (c + 1) S)
    have ih := fun b => qgl_min (W := W) m7 f (c + 1) (qS S y) r b h.2
    have gk := fun x => qgl_ok (W := W) m7 f (c + 1) (qS S x)
    obtain ⟨lr1, lr2⟩ := qvc_len m7 h.2
    show qrk (qlq W c S (fun T => qvl W m f (c + 1) T) (qvl W m (f + 1) c S) m 0 :: qgl W m f (c + 1) (qS S (qlq W c S (fun T => qvl W m f (c + 1) T) (qvl W m (f + 1) c S) m 0))) a ≤ qrk (y :: r) a
    revert la lm
    generalize qlq W c S (fun T => qvl W m f (c + 1) T) (qvl W m (f + 1) c S) m 0 = x
    intro lm la
    have hrest : qsu W (c + 1) r = qvl W m f (c + 1) (qS S y) ∧ x ≤ y := by
      unfold qS at hle ⊢
      by_cases e : y = 7
      · rw [if_pos e] at hs hle ⊢
        refine ⟨by omega, ?_⟩
        rcases la with l | ⟨-, l, -⟩ <;> omega
      · rw [if_neg e] at hs hle ⊢
        rcases h.1 with q | ⟨q1, q2⟩
        · exact absurd q e
        · have g1 : W c y + qvl W m f (c + 1) (S ||| 2 ^ y) ≤ qvl W m (f + 1) c S := gi y (Nat.zero_le _) (by omega) q2
          refine ⟨by omega, lm y (by omega) q2 (show W c y + qvl W m f (c + 1) (S ||| 2 ^ y) = _ by omega)⟩
    obtain ⟨hr, hxy⟩ := hrest
    show qrk (qgl W m f (c + 1) (qS S x)) (a * 8 + x) ≤ qrk r (a * 8 + y)
    by_cases e : x = y
    · rw [e]
      exact ih _ hr
    · obtain ⟨gl1, gl2⟩ := qvc_len m7 (gk x).1
      have l1 := qrk_lt _ gl2
      have a1 := qrk_add (qgl W m f (c + 1) (qS S x)) 0 (a * 8 + x)
      have a2 := qrk_add r 0 (a * 8 + y)
      rw [Nat.zero_add] at a1 a2
      rw [a1, a2, gl1, lr1]
      rw [gl1] at l1
      have : (a * 8 + x + 1) * 8 ^ f ≤ (a * 8 + y) * 8 ^ f := Nat.mul_le_mul_right _ (by omega)
      rw [Nat.add_mul, Nat.one_mul] at this
      omega
/-- one row apart -/
theorem qS_comm {S x y : Nat} : qS (qS S x) y = qS (qS S y) x := by
  unfold qS
  split <;> split <;> first | rfl | (rw [Nat.or_assoc, Nat.or_comm (2 ^ x), ← Nat.or_assoc])
theorem qS_bit {S x p : Nat} : Nat.testBit (qS S x) p = (Nat.testBit S p || (decide (x ≠ 7) && decide (x = p))) := by
  unfold qS
  by_cases e : x = 7
  · rw [if_pos e]
    simp [e]
  · rw [if_neg e, Nat.testBit_or, Nat.testBit_two_pow]
    simp [e]
theorem qlv_o {W : Nat → Nat → Int} {k c p : Nat} (h : c ≠ k) : qlv W k c p = W c p := if_neg h
theorem qlv_k {W : Nat → Nat → Int} {k p : Nat} : qlv W k k p = -1 := if_pos rfl
theorem qf_lv {W : Nat → Nat → Int} {k c S p : Nat} (h : c ≠ k) : qf (qlv W k) c S p = qf W c S p := by
  unfold qf
  rw [qlv_o h]
theorem qvc_lv {W : Nat → Nat → Int} {m k : Nat} : ∀ {f c S : Nat} {l : List Nat}, k < c → (qvc (qlv W k) m f c S l ↔ qvc W m f c S l) ∧ qsu (qlv W k) c l = qsu W c l
  | 0, c, S, l, h => by
    refine ⟨Iff.rfl, ?_⟩
    induction l generalizing c with
    | nil => rfl
    | cons x r ih =>
      show (if x = 7 then 0 else qlv W k c x) + qsu (qlv W k) (c + 1) r = (if x = 7 then 0 else W c x) + qsu W (c + 1) r
      rw [qlv_o (by omega), ih (c + 1) (by omega)]
  | f + 1, c, S, [], h => ⟨Iff.rfl, rfl⟩
  | f + 1, c, S, x :: r, h => by
    obtain ⟨i1, i2⟩ := qvc_lv (W := W) (m := m) (k := k) (f := f) (c := c + 1) (S := qS S x) (l := r) (by omega)
    refine ⟨?_, ?_⟩
    · show (x = 7 ∨ (x < m ∧ qf (qlv W k) c S x = true)) ∧ _ ↔ (x = 7 ∨ (x < m ∧ qf W c S x = true)) ∧ _
      rw [qf_lv (by omega), i1]
    · show (if x = 7 then 0 else qlv W k c x) + qsu (qlv W k) (c + 1) r = (if x = 7 then 0 else W c x) + qsu W (c + 1) r
      rw [qlv_o (by omega), i2]
def qok (W : Nat → Nat → Int) (m k S y : Nat) : Prop := y = 7 ∨ (y < m ∧ 0 ≤ W k y ∧ Nat.testBit S y = false)
theorem qrem {W : Nat → Nat → Int} {m k : Nat} (m7 : m ≤ 7) : ∀ (j f c S : Nat) (l : List Nat), c + j = k → j < f → qvc W m f c S l → qvc (qlv W k) m f c (qS S (l.getD j 7)) (l.set j 7) ∧ qok W m k S (l.getD j 7) ∧ qsu W c l = qsu (qlv W k) c (l.set j 7) + (if l.getD j 7 = 7 then 0 else W k (l.getD j 7))
  | j, 0, c, S, l, _, h, _ => by omega
  | j, f + 1, c, S, [], _, _, h => h.elim
  | 0, f + 1, c, S, x :: r, e, _, h => by
    have e : c = k := e
    subst e
    obtain ⟨i1, i2⟩ := qvc_lv (W := W) (m := m) (k := c) (f := f) (c := c + 1) (S := qS S x) (l := r) (by omega)
    refine ⟨⟨Or.inl rfl, ?_⟩, ?_, ?_⟩
    · show qvc (qlv W c) m f (c + 1) (qS (qS S x) 7) r
      have : qS (qS S x) 7 = qS S x := if_pos rfl
      rw [this]
      exact i1.mpr h.2
    · rcases h.1 with q | ⟨q1, q2⟩
      · exact Or.inl q
      · obtain ⟨q3, q4⟩ := qf_iff.mp q2
        exact Or.inr ⟨q1, q4, q3⟩
    · show (if x = 7 then 0 else W c x) + qsu W (c + 1) r = (0 + qsu (qlv W c) (c + 1) r) + (if x = 7 then 0 else W c x)
      rw [i2]
      omega
  | j + 1, f + 1, c, S, x :: r, e, hj, h => by
    obtain ⟨i1, i2, i3⟩ := qrem (W := W) (k := k) m7 j f (c + 1) (qS S x) r (by omega) (by omega) h.2
    have ey : (x :: r).getD (j + 1) 7 = r.getD j 7 := rfl
    have es : (x :: r).set (j + 1) 7 = x :: r.set j 7 := rfl
    rw [ey, es]
    have hfree : qok W m k S (r.getD j 7) ∧ (r.getD j 7 = 7 ∨ x = 7 ∨ x ≠ r.getD j 7) := by
      rcases i2 with q | ⟨q1, q2, q3⟩
      · exact ⟨Or.inl q, Or.inl q⟩
      · rw [qS_bit] at q3
        simp only [Bool.or_eq_false_iff, Bool.and_eq_false_iff, decide_eq_false_iff_not] at q3
        refine ⟨Or.inr ⟨q1, q2, q3.1⟩, Or.inr ?_⟩
        rcases q3.2 with q | q
        · exact Or.inl (by omega)
        · exact Or.inr q
    refine ⟨⟨?_, ?_⟩, hfree.1, ?_⟩
    · rcases h.1 with q | ⟨q1, q2⟩
      · exact Or.inl q
      · by_cases x7 : x = 7
        · exact Or.inl x7
        · refine Or.inr ⟨q1, ?_⟩
          rw [qf_lv (by omega)]
          obtain ⟨q3, q4⟩ := qf_iff.mp q2
          refine qf_iff.mpr ⟨?_, q4⟩
          rw [qS_bit, q3, Bool.false_or]
          rcases hfree.2 with g | g | g
          · rw [g]
            simp
          · exact absurd g x7
          · have : ¬ r.getD j 7 = x := fun q => g q.symm
            rw [decide_eq_false this, Bool.and_false]
    · rw [qS_comm]
      exact i1
    · show (if x = 7 then 0 else W c x) + qsu W (c + 1) r = ((if x = 7 then 0 else qlv W k c x) + qsu (qlv W k) (c + 1) (r.set j 7)) + _
      rw [i3, qlv_o (by omega)]
      omega
theorem qins {W : Nat → Nat → Int} {m k y : Nat} (m7 : m ≤ 7) : ∀ (j f c S : Nat) (l : List Nat), c + j = k → j < f → qok W m k S y → qvc (qlv W k) m f c (qS S y) l → l.getD j 7 = 7 ∧ qvc W m f c S (l.set j y) ∧ qsu W c (l.set j y) = qsu (qlv W k) c l + (if y = 7 then 0 else W k y)
  | j, 0, c, S, l, _, h, _, _ => by omega
  | j, f + 1, c, S, [], _, _, _, h => h.elim
  | 0, f + 1, c, S, x :: r, e, _, ho, h => by
    have e : c = k := e
    subst e
    have x7 : x = 7 := by
      rcases h.1 with q | ⟨-, q2⟩
      · exact q
      · have := (qf_iff.mp q2).2
        rw [qlv_k] at this
        omega
    subst x7
    have h2 := h.2
    have e7 : qS (qS S y) 7 = qS S y := if_pos rfl
    rw [e7] at h2
    obtain ⟨i1, i2⟩ := qvc_lv (W := W) (m := m) (k := c) (f := f) (c := c + 1) (S := qS S y) (l := r) (by omega)
    refine ⟨rfl, ⟨?_, i1.mp h2⟩, ?_⟩
    · rcases ho with q | ⟨q1, q2, q3⟩
      · exact Or.inl q
      · exact Or.inr ⟨q1, qf_iff.mpr ⟨q3, q2⟩⟩
    · show (if y = 7 then 0 else W c y) + qsu W (c + 1) r = (0 + qsu (qlv W c) (c + 1) r) + (if y = 7 then 0 else W c y)
      rw [i2]
      omega
  | j + 1, f + 1, c, S, x :: r, e, hj, ho, h => by
    have hx : x = 7 ∨ (x < m ∧ qf W c S x = true ∧ (y = 7 ∨ x ≠ y)) := by
      rcases h.1 with q | ⟨q1, q2⟩
      · exact Or.inl q
      · rw [qf_lv (by omega)] at q2
        obtain ⟨q3, q4⟩ := qf_iff.mp q2
        rw [qS_bit] at q3
        simp only [Bool.or_eq_false_iff, Bool.and_eq_false_iff, decide_eq_false_iff_not] at q3
        refine Or.inr ⟨q1, qf_iff.mpr ⟨q3.1, q4⟩, ?_⟩
        rcases q3.2 with q | q
        · exact Or.inl (by omega)
        · exact Or.inr (fun g => q g.symm)
    have ho' : qok W m k (qS S x) y := by
      rcases ho with q | ⟨q1, q2, q3⟩
      · exact Or.inl q
      · refine Or.inr ⟨q1, q2, ?_⟩
        rw [qS_bit, q3, Bool.false_or]
        rcases hx with g | ⟨g1, g2, g3⟩
        · rw [g]
          simp
        · rcases g3 with g | g
          · omega
          · simp [g]
    have h2 := h.2
    rw [qS_comm] at h2
    obtain ⟨i0, i1, i2⟩ := qins (W := W) (k := k) m7 j f (c + 1) (qS S x) r (by omega) (by omega) ho' h2
    refine ⟨i0, ⟨?_, i1⟩, ?_⟩
    · rcases hx with g | ⟨g1, g2, -⟩
      · exact Or.inl g
      · exact Or.inr ⟨g1, g2⟩
    · show (if x = 7 then 0 else W c x) + qsu W (c + 1) (r.set j y) = ((if x = 7 then 0 else qlv W k c x) + qsu (qlv W k) (c + 1) r) + _
      rw [i2, qlv_o (by omega)]
      omega
theorem qrk_set : ∀ (l : List Nat) (j a y : Nat), j < l.length → l.getD j 7 = 7 → y ≤ 7 → qrk l a = qrk (l.set j y) a + (7 - y) * 8 ^ (l.length - 1 - j)
  | [], j, a, y, h, _, _ => by simp at h
  | x :: r, 0, a, y, _, h, hy => by
    have h : x = 7 := h
    subst h
    show qrk r (a * 8 + 7) = qrk r (a * 8 + y) + (7 - y) * 8 ^ (r.length + 1 - 1 - 0)
    rw [show a * 8 + 7 = (a * 8 + y) + (7 - y) by omega, qrk_add]
    rfl
  | x :: r, j + 1, a, y, hj, h, hy => by
    have ih := qrk_set r j (a * 8 + x) y (by simpa using hj) h hy
    show qrk r (a * 8 + x) = qrk (r.set j y) (a * 8 + x) + (7 - y) * 8 ^ (r.length + 1 - 1 - (j + 1))
    rw [ih, show r.length + 1 - 1 - (j + 1) = r.length - 1 - j by omega]
theorem set_back : ∀ (l : List Nat) (j : Nat), j < l.length → (l.set j 7).set j (l.getD j 7) = l
  | [], j, h => by simp at h
  | x :: r, 0, _ => rfl
  | x :: r, j + 1, h => by
    show x :: (r.set j 7).set j (r.getD j 7) = x :: r
    rw [set_back r j (by simpa using h)]
theorem qset_getD : ∀ (l : List Nat) (j y : Nat), j < l.length → (l.set j y).getD j 7 = y
  | [], j, _, h => by simp at h
  | x :: r, 0, _, _ => rfl
  | x :: r, j + 1, y, h => qset_getD r j y (by simpa using h)
def qvy (W : Nat → Nat → Int) (m n k y : Nat) : Int := (if y = 7 then 0 else W k y) + qvl (qlv W k) m n 0 (qS 0 y)
def qry (W : Nat → Nat → Int) (m n k y : Nat) : Nat := qrk ((qgl (qlv W k) m n 0 (qS 0 y)).set k y) 0
/-- which part one has by the best cast -/
theorem q_pick {W : Nat → Nat → Int} {m n k ys : Nat} (m7 : m ≤ 7) (hk : k < n) (hok : qok W m k 0 ys) (hbest : ∀ y, qok W m k 0 y → qvy W m n k y < qvy W m n k ys ∨ (qvy W m n k y = qvy W m n k ys ∧ qry W m n k ys ≤ qry W m n k y)) : (qgl W m n 0 0).getD k 7 = ys := by
  obtain ⟨g1, g2⟩ := qgl_ok (W := qlv W k) m7 n 0 (qS 0 ys)
  obtain ⟨b0, b1, b2⟩ := qins m7 k n 0 0 _ (Nat.zero_add _) hk hok g1
  obtain ⟨l1, l2⟩ := qgl_ok (W := W) m7 n 0 0
  obtain ⟨r1, r2, r3⟩ := qrem m7 k n 0 0 _ (Nat.zero_add _) hk l1
  have len := qvc_len m7 l1
  have lenb := qvc_len m7 b1
  rw [g2] at b2
  have eL : qsu W 0 ((qgl (qlv W k) m n 0 (qS 0 ys)).set k ys) = qvy W m n k ys := by
    rw [b2]
    unfold qvy
    omega
  have up := qvl_le b1
  rw [eL] at up
  have le0 := qvl_le r1
  have key := hbest _ r2
  have ey : qvy W m n k ((qgl W m n 0 0).getD k 7) = (if (qgl W m n 0 0).getD k 7 = 7 then 0 else W k ((qgl W m n 0 0).getD k 7)) + qvl (qlv W k) m n 0 (qS 0 ((qgl W m n 0 0).getD k 7)) := rfl
  rw [l2] at r3
  have hval : qvy W m n k ((qgl W m n 0 0).getD k 7) = qvy W m n k ys ∧ qry W m n k ys ≤ qry W m n k ((qgl W m n 0 0).getD k 7) := by
    rcases key with q | q
    · omega
    · exact q
  have eqs : qsu (qlv W k) 0 ((qgl W m n 0 0).set k 7) = qvl (qlv W k) m n 0 (qS 0 ((qgl W m n 0 0).getD k 7)) := by omega
  have mn := qgl_min m7 n 0 _ _ 0 r1 eqs
  obtain ⟨h1, h2⟩ := qgl_ok (W := qlv W k) m7 n 0 (qS 0 ((qgl W m n 0 0).getD k 7))
  obtain ⟨c0, c1, c2⟩ := qins m7 k n 0 0 _ (Nat.zero_add _) hk r2 h1
  have lenh := (qvc_len m7 h1).1
  have lenr := (qvc_len m7 r1).1
  have y7 : (qgl W m n 0 0).getD k 7 ≤ 7 := by
    rcases r2 with q | ⟨q, -⟩ <;> omega
  have s1 := qrk_set _ k 0 ((qgl W m n 0 0).getD k 7) (by rw [lenh]; exact hk) c0 y7
  have s2 := qrk_set _ k 0 ((qgl W m n 0 0).getD k 7) (by rw [lenr]; exact hk) (qset_getD _ k 7 (by rw [len.1]; exact hk)) y7
  rw [lenh] at s1
  rw [lenr, set_back _ k (by rw [len.1]; exact hk)] at s2
  have rk1 : qry W m n k ((qgl W m n 0 0).getD k 7) ≤ qrk (qgl W m n 0 0) 0 := by
    unfold qry
    omega
  have mn2 := qgl_min m7 n 0 0 _ 0 b1 (by omega)
  have eq : qrk ((qgl (qlv W k) m n 0 (qS 0 ys)).set k ys) 0 = qrk (qgl W m n 0 0) 0 := by
    have : qry W m n k ys = qrk ((qgl (qlv W k) m n 0 (qS 0 ys)).set k ys) 0 := rfl
    omega
  have fin := (qrk_inj _ _ 0 0 (by rw [lenb.1, len.1]) lenb.2 len.2 eq).2
  rw [← fin]
  exact qset_getD _ k ys (by rw [(qvc_len m7 g1).1]; exact hk)
