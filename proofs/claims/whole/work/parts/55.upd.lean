/-! what changes -/
def qu (R : Nat → Int) (j : Nat) (v : Int) : Nat → Int := fun i => if i = j then v else R i
theorem qu_s {R : Nat → Int} {j : Nat} {v : Int} : qu R j v j = v := if_pos rfl
theorem qu_n {R : Nat → Int} {j i : Nat} {v : Int} (h : i ≠ j) : qu R j v i = R i := if_neg h
theorem xup_row {σ : xM} {t i j : Nat} {v : Int} : xup σ t i j v t i = qu (σ t i) j v := by
  funext k
  unfold xup qu
  by_cases h : k = j
  · rw [if_pos ⟨rfl, rfl, h⟩, if_pos h]
  · rw [if_neg (fun q => h q.2.2), if_neg h]
theorem cA_p {σ σ' : xM} {R R' : Nat → Int} (h : xcA σ 0 R) (e : σ' 5 0 = σ 5 0) (r : ∀ j, j < 7 → R' j = R j) : xcA σ' 0 R' := by
  unfold xcA at h ⊢
  rw [e, r 0 (by decide), r 1 (by decide), r 2 (by decide), r 3 (by decide), r 4 (by decide), r 5 (by decide), r 6 (by decide)]
  exact h
theorem cB_p {σ σ' : xM} {R R' : Nat → Int} (h : xcB σ 0 R) (e : ∀ i, i < 7 → σ' 7 i = σ 7 i) (r : ∀ j, 7 ≤ j → j < 21 → R' j = R j) : xcB σ' 0 R' := by
  intro p hp
  have := h p hp
  rw [show xst 0 p = p from rfl] at this ⊢
  rw [e p hp, r _ (by omega) (by omega), r _ (by omega) (by omega)]
  exact this
theorem cC_p {σ σ' : xM} {R R' : Nat → Int} (h : xcC σ 0 R) (e : ∀ i, i < 7 → σ' 9 i = σ 9 i) (r : ∀ j, 21 ≤ j → j < 84 → R' j = R j) : xcC σ' 0 R' := by
  intro p hp k hk
  have := h p hp k hk
  rw [show xst 0 p = p from rfl] at this ⊢
  rw [e p hp, r _ (by omega) (by omega)]
  exact this
theorem cW_p {σ σ' : xM} {R R' : Nat → Int} (h : xcW σ 0 R) (e : ∀ i, i < 7 → σ' 10 i = σ 10 i) (r : ∀ j, 21 ≤ j → j < 84 → R' j = R j) : xcW σ' 0 R' := by
  intro p hp k hk
  have := h p hp k hk
  rw [show xst 0 p = p from rfl] at this ⊢
  rw [e p hp, r _ (by omega) (by omega)]
  exact this
theorem cT_p {σ σ' : xM} {R R' : Nat → Int} (h : xcT σ 0 R) (e : σ' 11 0 = σ 11 0) (r : ∀ j, 84 ≤ j → j < 144 → R' j = R j) : xcT σ' 0 R' := by
  intro i hi
  rw [e, r _ (by omega) (by omega)]
  exact h i hi
theorem cN_p {σ σ' : xM} {R R' : Nat → Int} (h : xcN σ 0 R) (e : σ' 16 0 = σ 16 0) (r : ∀ j, 144 ≤ j → j < 168 → R' j = R j) : xcN σ' 0 R' := by
  intro i hi
  rw [e, r _ (by omega) (by omega)]
  exact h i hi
theorem cX_p {σ σ' : xM} {R R' : Nat → Int} (h : xcX σ 0 R) (e : ∀ u, u < 2 → σ' 13 u = σ 13 u ∧ σ' 14 u = σ 14 u) (r : ∀ j, 168 ≤ j → R' j = R j) : xcX σ' 0 R' := by
  intro u hu
  have := h u hu
  rw [show xs2 0 u = u from rfl] at this ⊢
  rw [(e u hu).1, (e u hu).2, show (fun k => R' (168 + 121 * u + k)) = fun k => R (168 + 121 * u + k) from funext fun k => r _ (by omega)]
  exact this
/-- the present alone changed -/
def st1 (t i : Nat) : Prop := (t = 5 ∧ i = 1) ∨ (t = 7 ∧ 7 ≤ i) ∨ (t = 9 ∧ 7 ≤ i) ∨ (t = 10 ∧ 7 ≤ i) ∨ (t = 11 ∧ i = 1) ∨ (t = 13 ∧ 2 ≤ i ∧ i ≤ 3) ∨ (t = 14 ∧ 2 ≤ i ∧ i ≤ 3) ∨ (t = 16 ∧ i = 1)
def qNw : List Nat := [5, 7, 9, 10, 11, 13, 14, 16, 41, 15, 17, 18, 19, 20, 21, 22, 23, 24, 25, 26, 27, 28, 29, 30, 31, 32, 38, 43, 48, 49, 50, 51, 52, 53, 54, 55]
def N1 (σ τ : xM) : Prop := Fr qNw σ τ ∧ ∀ t i, st1 t i → τ t i = σ t i
theorem N1_refl {σ : xM} : N1 σ σ := ⟨Fr_refl, fun _ _ _ => rfl⟩
theorem N1_trans {σ s u : xM} (h1 : N1 σ s) (h2 : N1 s u) : N1 σ u := ⟨Fr_trans h1.1 h2.1, fun t i q => (h2.2 t i q).trans (h1.2 t i q)⟩
theorem st1_tag {t i : Nat} (h : st1 t i) : t = 5 ∨ t = 7 ∨ t = 9 ∨ t = 10 ∨ t = 11 ∨ t = 13 ∨ t = 14 ∨ t = 16 := by
  unfold st1 at h
  omega
def qFrOk (l : List Nat) : Bool := l.all (fun t => qNw.elem t && !([5, 7, 9, 10, 11, 13, 14, 16].elem t))
theorem N1_Fr {l : List Nat} {σ s : xM} (h : Fr l σ s) (hl : qFrOk l = true) : N1 σ s := by
  unfold qFrOk at hl
  have g := List.all_eq_true.mp hl
  refine ⟨Fr_mono h (fun t ht => ?_), fun t i hq => ?_⟩
  · have := g t ht
    simp at this
    exact this.1
  · rw [h t (fun hm => ?_)]
    have := g t hm
    simp at this
    have q := st1_tag hq
    omega
theorem N1_up {σ : xM} {t i j : Nat} {v : Int} (h : t ∈ qNw) (hi : ¬ st1 t i) : N1 σ (xup σ t i j v) := by
  refine ⟨Fr_up h, fun t' i' q => ?_⟩
  by_cases e : t' = t
  · subst e
    by_cases e2 : i' = i
    · subst e2
      exact absurd q hi
    · rw [xup_i e2]
  · rw [xup_t e]
theorem Inv_now {σ τ : xM} (h : Inv σ) (n : N1 σ τ) (k : Kp τ (τ 41 0)) : Inv τ := by
  obtain ⟨i1, i2, i3, i4, i5, i6⟩ := h
  have f := n.1
  refine ⟨k.1, k.2, ?_, ?_, ?_, ?_⟩
  · unfold xiE at i3 ⊢
    rw [f 39 (by decide), f 44 (by decide)]
    exact i3
  · unfold xiK at i4 ⊢
    rw [f 4 (by decide), f 40 (by decide), f 42 (by decide)]
    refine ⟨i4.1, fun hn => ⟨(i4.2 hn).1, ?_⟩⟩
    obtain ⟨j1, j2, j3, j4, j5, j6, j7⟩ := (i4.2 hn).2
    refine ⟨?_, ?_, ?_, ?_, ?_, ?_, ?_⟩
    · unfold xcA at j1 ⊢
      rw [n.2 5 1 (Or.inl ⟨rfl, rfl⟩)]
      exact j1
    · intro p hp
      rw [n.2 7 (xst 1 p) (by show st1 7 (7 + p); unfold st1; omega)]
      exact j2 p hp
    · intro p hp k hk
      rw [n.2 9 (xst 1 p) (by show st1 9 (7 + p); unfold st1; omega)]
      exact j3 p hp k hk
    · intro p hp k hk
      rw [n.2 10 (xst 1 p) (by show st1 10 (7 + p); unfold st1; omega)]
      exact j4 p hp k hk
    · intro i hi
      rw [n.2 11 1 (by unfold st1; omega)]
      exact j5 i hi
    · intro i hi
      rw [n.2 16 1 (by unfold st1; omega)]
      exact j6 i hi
    · intro u hu
      rw [n.2 13 (xs2 1 u) (by show st1 13 (2 + u); unfold st1; omega), n.2 14 (xs2 1 u) (by show st1 14 (2 + u); unfold st1; omega)]
      exact j7 u hu
  · unfold xiS at i5 ⊢
    rw [f 36 (by decide), f 37 (by decide), f 45 (by decide), f 46 (by decide), f 47 (by decide)]
    exact i5
  · unfold xiV at i6 ⊢
    rw [f 33 (by decide), f 34 (by decide), f 40 (by decide), f 56 (by decide)]
    exact i6
theorem xcpl_up9 {σ : xM} {R : Nat → Int} {c k : Nat} {v : Int} (h : xcpl σ 0 R) (hc : c < 7) (hk : k < 6) : xcpl (xup σ 9 c k v) 0 (qu R (21 + 9 * c + k) v) := by
  refine ⟨cA_p h.1 (by rw [xup_t (by decide)]) (fun j hj => qu_n (by omega)), cB_p h.2.1 (fun i _ => by rw [xup_t (by decide)]) (fun j _ _ => qu_n (by omega)), ?_, ?_, cT_p h.2.2.2.2.1 (by rw [xup_t (by decide)]) (fun j _ _ => qu_n (by omega)), cN_p h.2.2.2.2.2.1 (by rw [xup_t (by decide)]) (fun j _ _ => qu_n (by omega)), cX_p h.2.2.2.2.2.2 (fun u _ => ⟨by rw [xup_t (by decide)], by rw [xup_t (by decide)]⟩) (fun j _ => qu_n (by omega))⟩
  · intro a ha b hb
    have := h.2.2.1 a ha b hb
    rw [show xst 0 a = a from rfl] at this ⊢
    by_cases e : a = c
    · subst e
      by_cases e2 : b = k
      · subst e2
        rw [xup_s, qu_s]
      · rw [xup_k e2, qu_n (by omega)]
        exact this
    · rw [xup_i e, qu_n (by omega)]
      exact this
  · intro a ha b hb
    rw [xup_t (by decide), qu_n (by omega)]
    exact h.2.2.2.1 a ha b hb
theorem xcpl_up10 {σ : xM} {R : Nat → Int} {c k : Nat} {v : Int} (h : xcpl σ 0 R) (hc : c < 7) (hk : k < 3) : xcpl (xup σ 10 c k v) 0 (qu R (21 + 9 * c + (6 + k)) v) := by
  refine ⟨cA_p h.1 (by rw [xup_t (by decide)]) (fun j hj => qu_n (by omega)), cB_p h.2.1 (fun i _ => by rw [xup_t (by decide)]) (fun j _ _ => qu_n (by omega)), ?_, ?_, cT_p h.2.2.2.2.1 (by rw [xup_t (by decide)]) (fun j _ _ => qu_n (by omega)), cN_p h.2.2.2.2.2.1 (by rw [xup_t (by decide)]) (fun j _ _ => qu_n (by omega)), cX_p h.2.2.2.2.2.2 (fun u _ => ⟨by rw [xup_t (by decide)], by rw [xup_t (by decide)]⟩) (fun j _ => qu_n (by omega))⟩
  · intro a ha b hb
    rw [xup_t (by decide), qu_n (by omega)]
    exact h.2.2.1 a ha b hb
  · intro a ha b hb
    have := h.2.2.2.1 a ha b hb
    rw [show xst 0 a = a from rfl] at this ⊢
    by_cases e : a = c
    · subst e
      by_cases e2 : b = k
      · subst e2
        rw [xup_s, qu_s]
      · rw [xup_k e2, qu_n (by omega)]
        exact this
    · rw [xup_i e, qu_n (by omega)]
      exact this
/-- a field of the stage and its place in the row -/
def q5 (k : Nat) : Nat := match k with
  | 0 => 2
  | 1 => 3
  | 2 => 0
  | 3 => 4
  | 4 => 1
  | 5 => 5
  | _ => 6
theorem xcpl_up5 {σ : xM} {R : Nat → Int} {k : Nat} {v : Int} (h : xcpl σ 0 R) (hk : k < 7) : xcpl (xup σ 5 0 k v) 0 (qu R (q5 k) v) := by
  have hq : q5 k < 7 := by
    have : k = 0 ∨ k = 1 ∨ k = 2 ∨ k = 3 ∨ k = 4 ∨ k = 5 ∨ k = 6 := by omega
    rcases this with e | e | e | e | e | e | e <;> subst e <;> decide
  refine ⟨?_, cB_p h.2.1 (fun i _ => by rw [xup_t (by decide)]) (fun j _ _ => qu_n (by omega)), cC_p h.2.2.1 (fun i _ => by rw [xup_t (by decide)]) (fun j _ _ => qu_n (by omega)), cW_p h.2.2.2.1 (fun i _ => by rw [xup_t (by decide)]) (fun j _ _ => qu_n (by omega)), cT_p h.2.2.2.2.1 (by rw [xup_t (by decide)]) (fun j _ _ => qu_n (by omega)), cN_p h.2.2.2.2.2.1 (by rw [xup_t (by decide)]) (fun j _ _ => qu_n (by omega)), cX_p h.2.2.2.2.2.2 (fun u _ => ⟨by rw [xup_t (by decide)], by rw [xup_t (by decide)]⟩) (fun j _ => qu_n (by omega))⟩
  obtain ⟨a0, a1, a2, a3, a4, a5, a6⟩ := h.1
  unfold xcA
  rw [xup_row]
  have : k = 0 ∨ k = 1 ∨ k = 2 ∨ k = 3 ∨ k = 4 ∨ k = 5 ∨ k = 6 := by omega
  rcases this with e | e | e | e | e | e | e <;> subst e <;> (refine ⟨?_, ?_, ?_, ?_, ?_, ?_, ?_⟩) <;> first | (show v = v; rfl) | assumption
theorem xcpl_up16 {σ : xM} {R : Nat → Int} {k : Nat} {v : Int} (h : xcpl σ 0 R) (hk : k < 24) : xcpl (xup σ 16 0 k v) 0 (qu R (144 + k) v) := by
  refine ⟨cA_p h.1 (by rw [xup_t (by decide)]) (fun j hj => qu_n (by omega)), cB_p h.2.1 (fun i _ => by rw [xup_t (by decide)]) (fun j _ _ => qu_n (by omega)), cC_p h.2.2.1 (fun i _ => by rw [xup_t (by decide)]) (fun j _ _ => qu_n (by omega)), cW_p h.2.2.2.1 (fun i _ => by rw [xup_t (by decide)]) (fun j _ _ => qu_n (by omega)), cT_p h.2.2.2.2.1 (by rw [xup_t (by decide)]) (fun j _ _ => qu_n (by omega)), ?_, cX_p h.2.2.2.2.2.2 (fun u _ => ⟨by rw [xup_t (by decide)], by rw [xup_t (by decide)]⟩) (fun j _ => qu_n (by omega))⟩
  intro i hi
  by_cases e : i = k
  · subst e
    rw [xup_s, qu_s]
  · rw [xup_k e, qu_n (by omega)]
    exact h.2.2.2.2.2.1 i hi
theorem xcpl_up11 {σ : xM} {R : Nat → Int} {k : Nat} {v : Int} (h : xcpl σ 0 R) (hk : k < 60) (hv : 0 ≤ v ∧ v ≤ 255) : xcpl (xup σ 11 0 k v) 0 (qu R (84 + k) v) := by
  refine ⟨cA_p h.1 (by rw [xup_t (by decide)]) (fun j hj => qu_n (by omega)), cB_p h.2.1 (fun i _ => by rw [xup_t (by decide)]) (fun j _ _ => qu_n (by omega)), cC_p h.2.2.1 (fun i _ => by rw [xup_t (by decide)]) (fun j _ _ => qu_n (by omega)), cW_p h.2.2.2.1 (fun i _ => by rw [xup_t (by decide)]) (fun j _ _ => qu_n (by omega)), ?_, cN_p h.2.2.2.2.2.1 (by rw [xup_t (by decide)]) (fun j _ _ => qu_n (by omega)), cX_p h.2.2.2.2.2.2 (fun u _ => ⟨by rw [xup_t (by decide)], by rw [xup_t (by decide)]⟩) (fun j _ => qu_n (by omega))⟩
  intro i hi
  by_cases e : i = k
  · subst e
    rw [xup_s, qu_s]
    exact ⟨rfl, hv⟩
  · rw [xup_k e, qu_n (by omega)]
    exact h.2.2.2.2.1 i hi
theorem xvl_ch {R : Nat → Int} {c k : Nat} {v : Int} (h : xvl R) (hk : k < 9) (h0 : k = 0 → 0 ≤ v ∧ v ≤ 9) (h1 : k = 1 → 1 ≤ v ∧ v ≤ 9) (h2 : k = 2 → v = 0 ∨ v = 1) (h3 : k = 3 → v = 0 ∨ v = 1) (h4 : 4 ≤ k → -1 ≤ v ∧ v < R 2) : xvl (qu R (21 + 9 * c + k) v) := by
  obtain ⟨v1, v2, v3, v4, v5, v6, v7, v8, v9⟩ := h
  have e : ∀ j, j < 21 → qu R (21 + 9 * c + k) v j = R j := fun j hj => qu_n (by omega)
  have g : ∀ a j, j < 9 → qu R (21 + 9 * c + k) v (21 + 9 * a + j) = R (21 + 9 * a + j) ∨ (k = j ∧ qu R (21 + 9 * c + k) v (21 + 9 * a + j) = v) := by
    intro a j hj
    by_cases q : 21 + 9 * a + j = 21 + 9 * c + k
    · exact Or.inr ⟨by omega, by rw [q, qu_s]⟩
    · exact Or.inl (qu_n q)
  refine ⟨by rw [e 2 (by decide)]; exact v1, by rw [e 3 (by decide)]; exact v2, by rw [e 0 (by decide)]; exact v3, by rw [e 4 (by decide)]; exact v4, by rw [e 5 (by decide)]; exact v5, by rw [e 6 (by decide)]; exact v6, ?_, ?_, ?_⟩
  · intro p hp
    rw [e 2 (by decide)] at hp
    rw [e _ (by omega), e _ (by omega)]
    exact v7 p hp
  · intro a ha
    rw [e 3 (by decide)] at ha
    obtain ⟨u0, u1, u2, u3, u4, u5⟩ := v8 a ha
    rw [e 2 (by decide)]
    refine ⟨?_, ?_, ?_, ?_, ?_, ?_⟩
    · rcases g a 0 (by decide) with q | ⟨q1, q2⟩
      · rw [q]; exact u0
      · rw [q2]; exact h0 q1
    · rcases g a 1 (by decide) with q | ⟨q1, q2⟩
      · rw [q]; exact u1
      · rw [q2]; exact h1 q1
    · rcases g a 2 (by decide) with q | ⟨q1, q2⟩
      · rw [q]; exact u2
      · rw [q2]; exact h2 q1
    · rcases g a 3 (by decide) with q | ⟨q1, q2⟩
      · rw [q]; exact u3
      · rw [q2]; exact h3 q1
    · rcases g a 4 (by decide) with q | ⟨q1, q2⟩
      · rw [q]; exact u4
      · rw [q2]; exact h4 (by omega)
    · rcases g a 5 (by decide) with q | ⟨q1, q2⟩
      · rw [q]; exact u5
      · rw [q2]; exact h4 (by omega)
  · intro a ha j hj
    rw [e 3 (by decide)] at ha
    rw [e 2 (by decide)]
    rcases g a (6 + j) (by omega) with q | ⟨q1, q2⟩
    · rw [q]; exact v9 a ha j hj
    · rw [q2]; exact h4 (by omega)
theorem xvl_hi {R : Nat → Int} {j : Nat} {v : Int} (h : xvl R) (hj : 84 ≤ j) : xvl (qu R j v) := by
  have e2 : ∀ i, i < 7 → qu R j v i = R i := fun i hi => qu_n (by omega)
  obtain ⟨v1, v2, v3, v4, v5, v6, v7, v8, v9⟩ := h
  refine ⟨by rw [e2 2 (by decide)]; exact v1, by rw [e2 3 (by decide)]; exact v2, by rw [e2 0 (by decide)]; exact v3, by rw [e2 4 (by decide)]; exact v4, by rw [e2 5 (by decide)]; exact v5, by rw [e2 6 (by decide)]; exact v6, ?_, ?_, ?_⟩
  · intro p hp
    rw [e2 2 (by decide)] at hp
    rw [qu_n (by omega), qu_n (by omega)]
    exact v7 p hp
  · intro a ha
    rw [e2 3 (by decide)] at ha
    rw [e2 2 (by decide), qu_n (by omega), qu_n (by omega), qu_n (by omega), qu_n (by omega), qu_n (by omega), qu_n (by omega)]
    exact v8 a ha
  · intro a ha k hk
    rw [e2 3 (by decide)] at ha
    rw [e2 2 (by decide), qu_n (by omega)]
    exact v9 a ha k hk
theorem xvl_lo {R : Nat → Int} {j : Nat} {v : Int} (h : xvl R) (hj : j < 7) (h2 : j ≠ 2) (h3 : j ≠ 3) (h0 : j = 0 → 0 ≤ v ∧ v ≤ 9999) (h4 : j = 4 → -99999 ≤ v ∧ v ≤ 99999) (h5 : j = 5 → 0 ≤ v ∧ v ≤ 60) (h6 : j = 6 → 0 ≤ v ∧ v ≤ 24) : xvl (qu R j v) := by
  obtain ⟨v1, v2, v3, v4, v5, v6, v7, v8, v9⟩ := h
  have e2 : qu R j v 2 = R 2 := qu_n (fun q => h2 q.symm)
  have e3 : qu R j v 3 = R 3 := qu_n (fun q => h3 q.symm)
  have g : ∀ i, qu R j v i = R i ∨ (j = i ∧ qu R j v i = v) := fun i => by
    by_cases q : i = j
    · exact Or.inr ⟨q.symm, by rw [q, qu_s]⟩
    · exact Or.inl (qu_n q)
  refine ⟨by rw [e2]; exact v1, by rw [e3]; exact v2, ?_, ?_, ?_, ?_, ?_, ?_, ?_⟩
  · rcases g 0 with q | ⟨q1, q2⟩
    · rw [q]; exact v3
    · rw [q2]; exact h0 q1
  · rcases g 4 with q | ⟨q1, q2⟩
    · rw [q]; exact v4
    · rw [q2]; exact h4 q1
  · rcases g 5 with q | ⟨q1, q2⟩
    · rw [q]; exact v5
    · rw [q2]; exact h5 q1
  · rcases g 6 with q | ⟨q1, q2⟩
    · rw [q]; exact v6
    · rw [q2]; exact h6 q1
  · intro p hp
    rw [e2] at hp
    rw [qu_n (by omega), qu_n (by omega)]
    exact v7 p hp
  · intro a ha
    rw [e3] at ha
    rw [e2, qu_n (by omega), qu_n (by omega), qu_n (by omega), qu_n (by omega), qu_n (by omega), qu_n (by omega)]
    exact v8 a ha
  · intro a ha k hk
    rw [e3] at ha
    rw [e2, qu_n (by omega)]
    exact v9 a ha k hk
