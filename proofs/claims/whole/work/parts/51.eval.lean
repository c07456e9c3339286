/-! frames; what a text gives -/
def Fr (l : List Nat) (σ s : xM) : Prop := ∀ t, t ∉ l → s t = σ t
theorem Fr_refl {l : List Nat} {σ : xM} : Fr l σ σ := fun _ _ => rfl
theorem Fr_trans {l : List Nat} {σ s u : xM} (h1 : Fr l σ s) (h2 : Fr l s u) : Fr l σ u := fun t ht => (h2 t ht).trans (h1 t ht)
theorem Fr_mono {l l' : List Nat} {σ s : xM} (h : Fr l σ s) (hl : ∀ t, t ∈ l → t ∈ l') : Fr l' σ s := fun t ht => h t (fun q => ht (hl t q))
theorem Fr_up {l : List Nat} {σ : xM} {t i k : Nat} {v : Int} (h : t ∈ l) : Fr l σ (xup σ t i k v) := fun a ha => xup_t (fun q => ha (q ▸ h))
/-- Inv does not see scratch -/
def qSc : List Nat := [15, 18, 19, 20, 21, 22, 23, 24, 25, 26, 27, 28, 29, 30, 31, 32, 38, 43, 48, 49, 50, 51, 52, 53, 54, 55]
theorem Inv_Fr {σ s : xM} (h : Inv σ) (hf : Fr qSc σ s) : Inv s := Inv_cg h (fun t ht => hf t (by
  rcases ht with e | e | e | e | e | e | e | e | e | e | e | e | e | e | e | e | e | e | e | e | e | e <;> subst e <;> decide))
def qheld (v lo hi : Int) : Int := if v < lo then lo else if hi < v then hi else v
theorem e_Pheld {d : Nat} {σ : xM} {Q : Int → xM → Prop} {v lo hi : Int} (h : lo ≤ hi) : Ev d 44 0 [vI v, vI lo, vI hi] [] σ Q = Q (qheld v lo hi) σ := by
  rw [b_P_held_0]
  unfold qheld
  by_cases h1 : v < hi
  · rw [if_pos h1]
    by_cases h2 : lo < v
    · rw [if_pos h2, if_neg (by omega), if_neg (by omega)]
    · rw [if_neg h2]
      by_cases h3 : v < lo
      · rw [if_pos h3]
      · rw [if_neg h3, if_neg (by omega), show lo = v by omega]
  · rw [if_neg h1]
    by_cases h2 : lo < hi
    · rw [if_pos h2, if_neg (by omega)]
      by_cases h3 : hi < v
      · rw [if_pos h3]
      · rw [if_neg h3, show hi = v by omega]
    · rw [if_neg h2, if_neg (by omega)]
      by_cases h3 : hi < v
      · rw [if_pos h3, show lo = hi by omega]
      · rw [if_neg h3, show lo = v by omega]
theorem e_Mheld {d : Nat} {σ : xM} {Q : Int → xM → Prop} {v lo hi : Int} : Ev d 126 0 [vI v, vI lo, vI hi] [] σ Q = Q (qheld v lo hi) σ := by
  rw [b_M_held_0]
  unfold qheld
  by_cases h1 : v < lo
  · rw [if_pos h1, if_pos h1]
  · rw [if_neg h1, if_neg h1]
    by_cases h2 : hi < v
    · rw [if_pos h2, if_pos h2]
    · rw [if_neg h2, if_neg h2]
def qtwo (w x y : Int) : Int :=
  if w = 37 then (if y = 0 then 0 else Int.tmod x y) else if w = 38 then (if x = 0 then 0 else if y = 0 then 0 else 1) else if w = 42 then xwr (x * y) else if w = 43 then xwr (x + y)
  else if w = 45 then xwr (x - y) else if w = 47 then (if y = 0 then 0 else xwr (Int.tdiv x y)) else if w = 60 then (if x < y then 1 else 0) else if w = 61 then (if x = y then 1 else 0)
  else if w = 62 then (if y < x then 1 else 0) else (if x = 0 then (if y = 0 then 0 else 1) else 1)
theorem xiteQ {Q : Int → xM → Prop} {σ : xM} (c : Prop) [Decidable c] (a b : Int) : (if c then Q a σ else Q b σ) = Q (if c then a else b) σ := by split <;> rfl
theorem xneit {y : Int} {A B : Prop} : (if y = 0 then A else y ≠ 0 ∧ B) = (if y = 0 then A else B) := by
  by_cases h : y = 0
  · rw [if_pos h, if_pos h]
  · rw [if_neg h, if_neg h]
    exact propext ⟨fun q => q.2, fun q => ⟨h, q⟩⟩
theorem e_apply {d : Nat} {σ : xM} {Q : Int → xM → Prop} {w x y : Int} (hw : xop w) : Ev d 81 0 [vI w, vI x, vI y] [] σ Q = Q (qtwo w x y) σ := by
  rw [b_T_apply_0]
  unfold qtwo
  simp only [xneit, xiteQ (Q := Q) (σ := σ)]
  rcases hw with h | h | h | h | h | h | h | h | h | h <;> subst h <;> simp
theorem e_twoOf {d : Nat} {σ : xM} {Q : Int → xM → Prop} {w x y : Int} (hw : xop w) : Ev d 170 0 [vI w, vI x, vI y] [] σ Q = Q (qtwo w x y) σ := by
  rw [b_M_twoOf_0]
  unfold qtwo
  simp only [xneit, xiteQ (Q := Q) (σ := σ)]
  rcases hw with h | h | h | h | h | h | h | h | h | h <;> subst h <;> simp
def qfact (a b c w : Int) : Int := if w = 0 then a else if w = 1 then b else c
def qstk (P : Nat → Int) (a b c : Int) (st : List Int) (k : Nat) : List Int :=
  if P (1 + k) = 1 then P (61 + k) :: st
  else if P (1 + k) = 2 then qfact a b c (P (61 + k)) :: st
  else if P (1 + k) = 3 then (match st with
    | [] => []
    | x :: r => (if x = 0 then 1 else 0) :: r)
  else match st with
    | y :: x :: r => qtwo (P (1 + k)) x y :: r
    | r => r
def qrun (P : Nat → Int) (a b c : Int) : Nat → List Int
  | 0 => []
  | k + 1 => qstk P a b c (qrun P a b c k) k
/-- what lies in a row of cells, the latest last -/
def qsk (f : Nat → Int) : List Int → Prop
  | [] => True
  | x :: r => f r.length = x ∧ qsk f r
theorem qsk_cg {f g : Nat → Int} : ∀ {st : List Int}, qsk f st → (∀ j, j < st.length → g j = f j) → qsk g st
  | [], _, _ => trivial
  | x :: r, h, e => ⟨by rw [e _ (Nat.lt_succ_self _)]; exact h.1, qsk_cg h.2 (fun j hj => e j (Nat.lt_succ_of_lt hj))⟩
theorem qdep {P : Nat → Int} {a b c : Int} {len : Nat} (h : ∀ k : Nat, k < len → (P (1 + k) = 3 → 1 ≤ xdep P k) ∧ (P (1 + k) ≠ 1 → P (1 + k) ≠ 2 → P (1 + k) ≠ 3 → 2 ≤ xdep P k)) : ∀ k, k ≤ len → ((qrun P a b c k).length : Int) = xdep P k ∧ (qrun P a b c k).length ≤ k
  | 0, _ => ⟨rfl, Nat.le_refl _⟩
  | k + 1, hk => by
    obtain ⟨i1, i2⟩ := qdep (a := a) (b := b) (c := c) h k (by omega)
    obtain ⟨h3, h4⟩ := h k (by omega)
    show ((qstk P a b c (qrun P a b c k) k).length : Int) = xdep P k + _ ∧ (qstk P a b c (qrun P a b c k) k).length ≤ k + 1
    generalize qrun P a b c k = st at i1 i2
    unfold qstk
    by_cases e1 : P (1 + k) = 1
    · rw [if_pos e1, if_pos (Or.inl e1), List.length_cons]
      omega
    · by_cases e2 : P (1 + k) = 2
      · rw [if_neg e1, if_pos e2, if_pos (Or.inr e2), List.length_cons]
        omega
      · by_cases e3 : P (1 + k) = 3
        · have := h3 e3
          rw [if_neg e1, if_neg e2, if_pos e3, if_neg (by omega), if_pos e3]
          match st, i1, i2 with
          | [], i1, i2 => simp at i1; omega
          | x :: r, i1, i2 => simp only [List.length_cons] at i1 i2 ⊢; omega
        · have := h4 e1 e2 e3
          rw [if_neg e1, if_neg e2, if_neg e3, if_neg (by omega), if_neg e3]
          match st, i1, i2 with
          | [], i1, i2 => simp at i1; omega
          | [x], i1, i2 => simp at i1; omega
          | y :: x :: r, i1, i2 => simp only [List.length_cons] at i1 i2 ⊢; omega
def qval (st : List Int) : Int := match st with
  | [] => 0
  | x :: _ => x
theorem e_named {d : Nat} {σ : xM} {Q : Int → xM → Prop} {a b c z w : Int} (h0 : 0 ≤ w) (h2 : w ≤ 2) (h : z = -1 - w) : Ev d 80 0 [vI z, vI a, vI b, vI c] [] σ Q = Q (qfact a b c w) σ := by
  rw [b_T_named_0]
  unfold qfact
  by_cases e0 : w = 0
  · rw [if_pos e0, if_pos (by omega)]
  · rw [if_neg e0, if_neg (by omega)]
    by_cases e1 : w = 1
    · rw [if_pos e1, if_pos (by omega)]
    · rw [if_neg e1, if_neg (by omega)]
theorem qneg {w : Int} (h : xop w) : xwr (- -w) = w ∧ -w < -3 ∧ -w ≠ -33 ∧ w ≠ 1 ∧ w ≠ 2 ∧ w ≠ 3 := by
  rcases h with e | e | e | e | e | e | e | e | e | e <;> subst e <;> decide
theorem w_num {d u n k : Nat} {s : xM} {Q : Int → xM → Prop} {a b c z : Int} {w : xV} (hz : s 14 u k = z) (hz0 : 0 ≤ z) (hk : (k : Int) < s 13 u 0) (hk60 : k < 60) (hn : n < 60) :
    Ev (d + 1) 79 6 [vR 13 u, vI a, vI b, vI c, vI ((n : Int) - 1), vI (k : Int), w] [] s Q = Ev (d + 1) 79 6 [vR 13 u, vI a, vI b, vI c, vI (((n + 1 : Nat) : Int) - 1), vI ((k + 1 : Nat) : Int), vI z] [] (xup s 15 u n z) Q := by
  have e1 : xwr ((n : Int) - 1 + 1) = (n : Int) := by rw [xw (by omega) (by omega)]; omega
  have e2 : (((n + 1 : Nat) : Int) - 1) = (n : Int) := by omega
  have e3 : ((k + 1 : Nat) : Int) = (k : Int) + 1 := rfl
  rw [b_T_workOut_6, e2, e3]
  simp only [Int.toNat_natCast, hz, e1]
  simp (disch := omega) only [↓reduceIte, ↓if_pos, ↓if_neg, xin, xw]
theorem w_name {d u n k : Nat} {s : xM} {Q : Int → xM → Prop} {a b c z y : Int} {w : xV} (hz : s 14 u k = z) (h0 : 0 ≤ y) (h2 : y ≤ 2) (hy : z = -1 - y) (hk : (k : Int) < s 13 u 0) (hk60 : k < 60) (hn : n < 60) :
    Ev (d + 1) 79 6 [vR 13 u, vI a, vI b, vI c, vI ((n : Int) - 1), vI (k : Int), w] [] s Q = Ev (d + 1) 79 6 [vR 13 u, vI a, vI b, vI c, vI (((n + 1 : Nat) : Int) - 1), vI ((k + 1 : Nat) : Int), vI z] [] (xup s 15 u n (qfact a b c y)) Q := by
  have e1 : xwr ((n : Int) - 1 + 1) = (n : Int) := by rw [xw (by omega) (by omega)]; omega
  have e2 : (((n + 1 : Nat) : Int) - 1) = (n : Int) := by omega
  have e3 : ((k + 1 : Nat) : Int) = (k : Int) + 1 := rfl
  rw [b_T_workOut_6, e2, e3]
  simp only [Int.toNat_natCast, hz, e1]
  simp (disch := omega) only [↓reduceIte, ↓if_pos, ↓if_neg, xin, xw, e_named h0 h2 hy]
theorem w_deny {d u m k : Nat} {s : xM} {Q : Int → xM → Prop} {a b c z : Int} {w : xV} (hz : s 14 u k = z) (hy : z = -33) (hk : (k : Int) < s 13 u 0) (hk60 : k < 60) (hn : m < 60) :
    Ev (d + 1) 79 6 [vR 13 u, vI a, vI b, vI c, vI (((m + 1 : Nat) : Int) - 1), vI (k : Int), w] [] s Q = Ev (d + 1) 79 6 [vR 13 u, vI a, vI b, vI c, vI (((m + 1 : Nat) : Int) - 1), vI ((k + 1 : Nat) : Int), vI z] [] (xup s 15 u m (if s 15 u m = 0 then 1 else 0)) Q := by
  have e2 : (((m + 1 : Nat) : Int) - 1) = (m : Int) := by omega
  have e3 : ((k + 1 : Nat) : Int) = (k : Int) + 1 := rfl
  rw [b_T_workOut_6, e2, e3]
  by_cases hx : s 15 u m = 0
  · simp only [Int.toNat_natCast, hz, hx, ↓reduceIte]
    simp (disch := omega) only [↓reduceIte, ↓if_pos, ↓if_neg, xin, xw]
  · simp only [Int.toNat_natCast, hz]
    simp (disch := omega) only [↓reduceIte, ↓if_pos, ↓if_neg, xin, xw]
theorem w_two {d u m k : Nat} {s : xM} {Q : Int → xM → Prop} {a b c z y : Int} {w : xV} (hz : s 14 u k = z) (hy : xop y) (hzy : z = -y) (hk : (k : Int) < s 13 u 0) (hk60 : k < 60) (hn : m + 1 < 60) :
    Ev (d + 1) 79 6 [vR 13 u, vI a, vI b, vI c, vI (((m + 2 : Nat) : Int) - 1), vI (k : Int), w] [] s Q = Ev (d + 1) 79 6 [vR 13 u, vI a, vI b, vI c, vI (((m + 1 : Nat) : Int) - 1), vI ((k + 1 : Nat) : Int), vI z] [] (xup s 15 u m (qtwo y (s 15 u m) (s 15 u (m + 1)))) Q := by
  have e1 : (((m + 2 : Nat) : Int) - 1) = ((m + 1 : Nat) : Int) := by omega
  have e2 : (((m + 1 : Nat) : Int) - 1) = (m : Int) := by omega
  have e3 : ((k + 1 : Nat) : Int) = (k : Int) + 1 := rfl
  have e4 : xwr (((m + 1 : Nat) : Int) + -1) = (m : Int) := by rw [xw (by omega) (by omega)]; omega
  have e5 : xwr ((m : Int) + 1) = ((m + 1 : Nat) : Int) := by rw [xw (by omega) (by omega)]; omega
  obtain ⟨n1, n2, n3, -⟩ := qneg hy
  rw [b_T_workOut_6, e1, e2, e3]
  subst hzy
  simp only [Int.toNat_natCast, hz, e4, e5, n1]
  simp (disch := omega) only [↓reduceIte, ↓if_pos, ↓if_neg, xin, e_apply hy, xw]
theorem qsk_top {f : Nat → Int} {st : List Int} {v : Int} (h : qsk f st) : ∀ {g : Nat → Int}, (∀ j, j ≠ st.length → g j = f j) → g st.length = v → qsk g (v :: st) := fun e1 e2 => ⟨e2, qsk_cg h (fun j hj => e1 j (by omega))⟩
/-- the class works a text out -/
theorem e_workOut {d u : Nat} {σ : xM} {Q : Int → xM → Prop} {a b c : Int} {P : Nat → Int} {L : Nat} (hL : σ 13 u 0 = (L : Int)) (h60 : L ≤ 60)
    (hc : ∀ k : Nat, k < L → xcd (σ 14 u k) (P (1 + k)) (P (61 + k)) ∧ (P (1 + k) = 3 → 1 ≤ xdep P k) ∧ (P (1 + k) ≠ 1 → P (1 + k) ≠ 2 → P (1 + k) ≠ 3 → 2 ≤ xdep P k)) (hQ : ∀ s, Fr [15] σ s → Q (qval (qrun P a b c L)) s) :
    ∀ f k : Nat, k + f = L → ∀ (w : xV) (s : xM), Fr [15] σ s → qsk (s 15 u) (qrun P a b c k) → Ev (d + 1) 79 6 [vR 13 u, vI a, vI b, vI c, vI (((qrun P a b c k).length : Int) - 1), vI (k : Int), w] [] s Q
  | 0, k, hk, w, s, hs, hq => by
    have hk : k = L := hk
    subst hk
    have l1 := (qdep (a := a) (b := b) (c := c) (fun j hj => (hc j hj).2) k (Nat.le_refl _)).2
    have e13 : s 13 u 0 = (k : Int) := by rw [hs 13 (by decide), hL]
    rw [b_T_workOut_6, e13, if_neg (by omega)]
    have hv := hQ s hs
    revert hq l1 hv
    generalize qrun P a b c k = st
    intro hq l1 hv
    match st, l1, hq, hv with
    | [], l1, hq, hv =>
      rw [if_pos (by simp)]
      exact hv
    | x :: r, l1, hq, hv =>
      have e : (((x :: r).length : Nat) : Int) - 1 = (r.length : Int) := by rw [List.length_cons]; omega
      rw [List.length_cons] at l1
      rw [e, if_neg (by omega), xin (by omega) (by omega), Int.toNat_natCast, hq.1]
      exact hv
  | f + 1, k, hk, w, s, hs, hq => by
    have l1 := qdep (a := a) (b := b) (c := c) (fun j hj => (hc j hj).2) k (by omega)
    obtain ⟨hcd, hc3, hc2⟩ := hc k (by omega)
    have e14 : s 14 u k = σ 14 u k := by rw [hs 14 (by decide)]
    have hk' : (k : Int) < s 13 u 0 := by rw [hs 13 (by decide), hL]; omega
    have ih := fun w s => e_workOut (d := d) hL h60 hc hQ f (k + 1) (by omega) w s
    have eq : qrun P a b c (k + 1) = qstk P a b c (qrun P a b c k) k := rfl
    rw [eq] at ih
    unfold qstk at ih
    revert hq l1 ih
    generalize qrun P a b c k = st
    intro hq l1 ih
    have hn : st.length < 60 := by omega
    rcases hcd with ⟨h1, h2, h3⟩ | ⟨h1, h2, h3, h4⟩ | ⟨h1, h2⟩ | ⟨h1, h2⟩
    · rw [if_pos h1] at ih
      rw [w_num e14 (by omega) hk' (by omega) hn]
      refine ih _ _ (Fr_trans hs (Fr_up (by decide))) (qsk_top hq (fun j hj => by rw [xup_k hj]) (by rw [xup_s, h2]))
    · rw [if_neg (by omega), if_pos h1] at ih
      rw [w_name e14 h2 h3 h4 hk' (by omega) hn]
      refine ih _ _ (Fr_trans hs (Fr_up (by decide))) (qsk_top hq (fun j hj => by rw [xup_k hj]) (by rw [xup_s]))
    · rw [if_neg (by omega), if_neg (by omega), if_pos h1] at ih
      have := hc3 h1
      match st, l1, hq, ih, hn with
      | [], l1, hq, ih, hn => simp at l1; omega
      | x :: r, l1, hq, ih, hn =>
        rw [List.length_cons, w_deny e14 h2 hk' (by omega) (by rw [List.length_cons] at hn; omega), hq.1]
        refine ih _ _ (Fr_trans hs (Fr_up (by decide))) (qsk_top hq.2 (fun j hj => by rw [xup_k hj]) (by rw [xup_s]))
    · obtain ⟨-, -, -, n1, n2, n3⟩ := qneg h1
      have := hc2 n1 n2 n3
      rw [if_neg n1, if_neg n2, if_neg n3] at ih
      match st, l1, hq, ih, hn with
      | [], l1, hq, ih, hn => simp at l1; omega
      | [x], l1, hq, ih, hn => simp at l1; omega
      | y :: x :: r, l1, hq, ih, hn =>
        simp only [List.length_cons] at hn
        have e6 : s 15 u (r.length + 1) = y := hq.1
        rw [List.length_cons, List.length_cons, w_two e14 h1 h2 hk' (by omega) (by omega), hq.2.1, e6]
        refine ih _ _ (Fr_trans hs (Fr_up (by decide))) (qsk_top hq.2.2 (fun j hj => by rw [xup_k hj]) (by rw [xup_s]))
theorem v_ad {A k j : Nat} (h : A + (j + k) < 410) : xwr (xwr ((A : Int) + (j : Int)) + (k : Int)) = ((A + (j + k) : Nat) : Int) := by
  rw [xw (x := (A : Int) + (j : Int)) (by omega) (by omega), xw (by omega) (by omega)]
  omega
theorem v_num {d A n k : Nat} {s : xM} {Q : Int → xM → Prop} {w : xV} (hA : A + 120 < 410) (hz : s 41 0 (A + (1 + k)) = 1) (hk : (k : Int) < s 41 0 A) (hk60 : k < 60) (hn : n < 60) :
    Ev (d + 1) 171 4 [vR 40 0, vI (A : Int), vI (n : Int), vI (k : Int), w] [] s Q = Ev (d + 1) 171 4 [vR 40 0, vI (A : Int), vI ((n + 1 : Nat) : Int), vI ((k + 1 : Nat) : Int), vI 1] [] (xup s 51 0 n (s 41 0 (A + (61 + k)))) Q := by
  have e1 := v_ad (A := A) (k := k) (j := 1) (by omega)
  have e61 := v_ad (A := A) (k := k) (j := 61) (by omega)
  have e2 : ((n + 1 : Nat) : Int) = (n : Int) + 1 := rfl
  have e3 : ((k + 1 : Nat) : Int) = (k : Int) + 1 := rfl
  rw [b_M_works_4, e2, e3]
  have e1' : xwr (xwr ((A : Int) + 1) + (k : Int)) = ((A + (1 + k) : Nat) : Int) := e1
  have e61' : xwr (xwr ((A : Int) + 61) + (k : Int)) = ((A + (61 + k) : Nat) : Int) := e61
  simp only [e1', e61', Int.toNat_natCast, hz]
  simp (disch := omega) only [↓reduceIte, ↓if_pos, ↓if_neg, xin, xw]
theorem v_name {d A n k : Nat} {s : xM} {Q : Int → xM → Prop} {w : xV} {y : Int} (hA : A + 120 < 410) (hz : s 41 0 (A + (1 + k)) = 2) (hy : s 41 0 (A + (61 + k)) = y) (h0 : 0 ≤ y) (h2 : y ≤ 2) (hk : (k : Int) < s 41 0 A) (hk60 : k < 60) (hn : n < 60) :
    Ev (d + 1) 171 4 [vR 40 0, vI (A : Int), vI (n : Int), vI (k : Int), w] [] s Q = Ev (d + 1) 171 4 [vR 40 0, vI (A : Int), vI ((n + 1 : Nat) : Int), vI ((k + 1 : Nat) : Int), vI 2] [] (xup s 51 0 n (s 50 0 y.toNat)) Q := by
  have e1 : xwr (xwr ((A : Int) + 1) + (k : Int)) = ((A + (1 + k) : Nat) : Int) := v_ad (A := A) (k := k) (j := 1) (by omega)
  have e61 : xwr (xwr ((A : Int) + 61) + (k : Int)) = ((A + (61 + k) : Nat) : Int) := v_ad (A := A) (k := k) (j := 61) (by omega)
  have e2 : ((n + 1 : Nat) : Int) = (n : Int) + 1 := rfl
  have e3 : ((k + 1 : Nat) : Int) = (k : Int) + 1 := rfl
  rw [b_M_works_4, e2, e3]
  simp only [e1, e61, Int.toNat_natCast, hz, hy]
  simp (disch := omega) only [↓reduceIte, ↓if_pos, ↓if_neg, xin, xw]
theorem v_deny {d A m k : Nat} {s : xM} {Q : Int → xM → Prop} {w : xV} (hA : A + 120 < 410) (hz : s 41 0 (A + (1 + k)) = 3) (hk : (k : Int) < s 41 0 A) (hk60 : k < 60) (hn : m < 60) :
    Ev (d + 1) 171 4 [vR 40 0, vI (A : Int), vI ((m + 1 : Nat) : Int), vI (k : Int), w] [] s Q = Ev (d + 1) 171 4 [vR 40 0, vI (A : Int), vI ((m + 1 : Nat) : Int), vI ((k + 1 : Nat) : Int), vI 3] [] (xup s 51 0 m (if s 51 0 m = 0 then 1 else 0)) Q := by
  have e1 : xwr (xwr ((A : Int) + 1) + (k : Int)) = ((A + (1 + k) : Nat) : Int) := v_ad (A := A) (k := k) (j := 1) (by omega)
  have e2 : xwr (((m + 1 : Nat) : Int) - 1) = (m : Int) := by rw [xw (by omega) (by omega)]; omega
  have e3 : ((k + 1 : Nat) : Int) = (k : Int) + 1 := rfl
  rw [b_M_works_4, e3]
  by_cases hx : s 51 0 m = 0
  · simp only [e1, e2, Int.toNat_natCast, hz, hx, ↓reduceIte]
    simp (disch := omega) only [↓reduceIte, ↓if_pos, ↓if_neg, xin, xw]
  · simp only [e1, e2, Int.toNat_natCast, hz]
    simp (disch := omega) only [↓reduceIte, ↓if_pos, ↓if_neg, xin, xw]
theorem v_two {d A m k : Nat} {s : xM} {Q : Int → xM → Prop} {w : xV} {y : Int} (hA : A + 120 < 410) (hz : s 41 0 (A + (1 + k)) = y) (hy : xop y) (hk : (k : Int) < s 41 0 A) (hk60 : k < 60) (hn : m + 1 < 60) :
    Ev (d + 1) 171 4 [vR 40 0, vI (A : Int), vI ((m + 2 : Nat) : Int), vI (k : Int), w] [] s Q = Ev (d + 1) 171 4 [vR 40 0, vI (A : Int), vI ((m + 1 : Nat) : Int), vI ((k + 1 : Nat) : Int), vI y] [] (xup s 51 0 m (qtwo y (s 51 0 m) (s 51 0 (m + 1)))) Q := by
  have e1 : xwr (xwr ((A : Int) + 1) + (k : Int)) = ((A + (1 + k) : Nat) : Int) := v_ad (A := A) (k := k) (j := 1) (by omega)
  have e2 : xwr (((m + 2 : Nat) : Int) + -1) = ((m + 1 : Nat) : Int) := by rw [xw (by omega) (by omega)]; omega
  have e4 : xwr (((m + 1 : Nat) : Int) - 1) = (m : Int) := by rw [xw (by omega) (by omega)]; omega
  have e3 : ((k + 1 : Nat) : Int) = (k : Int) + 1 := rfl
  obtain ⟨-, -, -, n1, n2, n3⟩ := qneg hy
  rw [b_M_works_4, e3]
  simp only [e1, e2, e4, Int.toNat_natCast, hz]
  simp (disch := omega) only [↓reduceIte, ↓if_pos, ↓if_neg, xin, e_twoOf hy, xw]
/-- the reference works a text out -/
theorem m_works {d A : Nat} {σ : xM} {Q : Int → xM → Prop} {a b c : Int} {P : Nat → Int} {L : Nat} (hA : A + 120 < 410) (hP : ∀ j, P j = σ 41 0 (A + j)) (hL : P 0 = (L : Int)) (h60 : L ≤ 60) (f0 : σ 50 0 0 = a) (f1 : σ 50 0 1 = b) (f2 : σ 50 0 2 = c)
    (hc : ∀ k : Nat, k < L → (P (1 + k) = 1 ∨ (P (1 + k) = 2 ∧ 0 ≤ P (61 + k) ∧ P (61 + k) ≤ 2) ∨ P (1 + k) = 3 ∨ xop (P (1 + k))) ∧ (P (1 + k) = 3 → 1 ≤ xdep P k) ∧ (P (1 + k) ≠ 1 → P (1 + k) ≠ 2 → P (1 + k) ≠ 3 → 2 ≤ xdep P k)) (hd : xdep P L = 1) (hQ : ∀ s, Fr [51] σ s → Q (qval (qrun P a b c L)) s) :
    ∀ f k : Nat, k + f = L → ∀ (w : xV) (s : xM), Fr [51] σ s → qsk (s 51 0) (qrun P a b c k) → Ev (d + 1) 171 4 [vR 40 0, vI (A : Int), vI ((qrun P a b c k).length : Int), vI (k : Int), w] [] s Q
  | 0, k, hk, w, s, hs, hq => by
    have hk : k = L := hk
    subst hk
    have l1 := (qdep (a := a) (b := b) (c := c) (fun j hj => (hc j hj).2) k (Nat.le_refl _)).1
    have e0 : s 41 0 A = (k : Int) := by rw [hs 41 (by decide), ← hL, hP]; rfl
    rw [b_M_works_4, xin (by omega) (by omega), Int.toNat_natCast, e0, if_neg (by omega), xin (by decide) (by decide)]
    have hv := hQ s hs
    revert hq l1 hv
    generalize qrun P a b c k = st
    intro hq l1 hv
    match st, l1, hq, hv with
    | [], l1, hq, hv => simp at l1; omega
    | [x], l1, hq, hv =>
      have e : s 51 0 (Int.toNat 0) = x := hq.1
      rw [e]
      exact hv
    | x :: y :: r, l1, hq, hv => simp at l1; omega
  | f + 1, k, hk, w, s, hs, hq => by
    have l1 := qdep (a := a) (b := b) (c := c) (fun j hj => (hc j hj).2) k (by omega)
    obtain ⟨hcd, hc3, hc2⟩ := hc k (by omega)
    have e41 : ∀ j, s 41 0 (A + j) = P j := fun j => by rw [hs 41 (by decide), hP]
    have hk' : (k : Int) < s 41 0 A := by have := e41 0; rw [Nat.add_zero] at this; rw [this, hL]; omega
    have ih := fun w s => m_works (d := d) hA hP hL h60 f0 f1 f2 hc hd hQ f (k + 1) (by omega) w s
    have eq : qrun P a b c (k + 1) = qstk P a b c (qrun P a b c k) k := rfl
    rw [eq] at ih
    unfold qstk at ih
    revert hq l1 ih
    generalize qrun P a b c k = st
    intro hq l1 ih
    have hn : st.length < 60 := by omega
    rcases hcd with h1 | ⟨h1, h2, h3⟩ | h1 | h1
    · rw [if_pos h1] at ih
      rw [v_num hA (by rw [e41, h1]) hk' (by omega) hn, e41]
      refine ih _ _ (Fr_trans hs (Fr_up (by decide))) (qsk_top hq (fun j hj => by rw [xup_k hj]) (by rw [xup_s]))
    · rw [if_neg (by omega), if_pos h1] at ih
      rw [v_name hA (by rw [e41, h1]) (e41 _) h2 h3 hk' (by omega) hn]
      refine ih _ _ (Fr_trans hs (Fr_up (by decide))) (qsk_top hq (fun j hj => by rw [xup_k hj]) ?_)
      rw [xup_s, hs 50 (by decide)]
      unfold qfact
      generalize P (61 + k) = y at h2 h3
      have : y = 0 ∨ y = 1 ∨ y = 2 := by omega
      rcases this with e | e | e <;> subst e
      · exact f0
      · exact f1
      · exact f2
    · rw [if_neg (by omega), if_neg (by omega), if_pos h1] at ih
      have := hc3 h1
      match st, l1, hq, ih, hn with
      | [], l1, hq, ih, hn => simp at l1; omega
      | x :: r, l1, hq, ih, hn =>
        rw [List.length_cons, v_deny hA (by rw [e41, h1]) hk' (by omega) (by rw [List.length_cons] at hn; omega), hq.1]
        refine ih _ _ (Fr_trans hs (Fr_up (by decide))) (qsk_top hq.2 (fun j hj => by rw [xup_k hj]) (by rw [xup_s]))
    · obtain ⟨-, -, -, n1, n2, n3⟩ := qneg h1
      have := hc2 n1 n2 n3
      rw [if_neg n1, if_neg n2, if_neg n3] at ih
      match st, l1, hq, ih, hn with
      | [], l1, hq, ih, hn => simp at l1; omega
      | [x], l1, hq, ih, hn => simp at l1; omega
      | y :: x :: r, l1, hq, ih, hn =>
        simp only [List.length_cons] at hn
        have e6 : s 51 0 (r.length + 1) = y := hq.1
        rw [List.length_cons, List.length_cons, v_two hA (e41 _) h1 hk' (by omega) (by omega), hq.2.1, e6]
        refine ih _ _ (Fr_trans hs (Fr_up (by decide))) (qsk_top hq.2.2 (fun j hj => by rw [xup_k hj]) (by rw [xup_s]))
