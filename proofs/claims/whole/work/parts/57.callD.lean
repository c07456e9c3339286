/-! calls: sheets, what waits -/
theorem xtx_cg {len : Int} {cs P P' : Nat → Int} (e : ∀ k, k ≤ 120 → P' k = P k) (h : xtx len cs P) : xtx len cs P' := by
  obtain ⟨h1, h2, h3, h4, h5⟩ := h
  have ed : ∀ k, k ≤ 60 → xdep P' k = xdep P k := by
    intro k
    induction k with
    | zero => intro _; rfl
    | succ k ih =>
      intro hk
      show xdep P' k + _ = xdep P k + _
      rw [ih (by omega), e _ (by omega)]
  refine ⟨by rw [e 0 (by decide)]; exact h1, h2, h3, fun k hk => ?_, fun hp => by rw [ed _ (by omega)]; exact h5 hp⟩
  rw [e _ (by omega), e _ (by omega), ed _ (by omega)]
  exact h4 k hk
theorem xtx_0 {cs P : Nat → Int} (h : P 0 = 0) : xtx 0 cs P := ⟨h, by decide, by decide, fun k hk => by omega, fun hp => absurd hp (by decide)⟩
theorem xcpl_un {σ : xM} {R : Nat → Int} {u : Nat} (h : xcpl σ 0 R) (hu : u < 2) : xcpl (xup σ 13 u 0 0) 0 (qu R (168 + 121 * u) 0) := by
  refine ⟨cA_p h.1 (by rw [xup_t (by decide)]) (fun j hj => qu_n (by omega)), cB_p h.2.1 (fun i _ => by rw [xup_t (by decide)]) (fun j _ _ => qu_n (by omega)), cC_p h.2.2.1 (fun i _ => by rw [xup_t (by decide)]) (fun j _ _ => qu_n (by omega)), cW_p h.2.2.2.1 (fun i _ => by rw [xup_t (by decide)]) (fun j _ _ => qu_n (by omega)), cT_p h.2.2.2.2.1 (by rw [xup_t (by decide)]) (fun j _ _ => qu_n (by omega)), cN_p h.2.2.2.2.2.1 (by rw [xup_t (by decide)]) (fun j _ _ => qu_n (by omega)), ?_⟩
  intro a ha
  have := h.2.2.2.2.2.2 a ha
  rw [show xs2 0 a = a from rfl] at this ⊢
  by_cases e : a = u
  · subst e
    rw [xup_s]
    exact xtx_0 (by show qu R (168 + 121 * a) 0 (168 + 121 * a + 0) = 0; rw [Nat.add_zero, qu_s])
  · rw [xup_i e, xup_t (by decide)]
    exact xtx_cg (fun k hk => qu_n (by omega)) this
theorem inv_fin {σ s τ : xM} {R : Nat → Int} {l : List Nat} (h : Inv σ) (n : N1 σ s) (k : Kp s R) (f : Fr l s τ) (hl : qFrOk l = true) (hl2 : [5, 7, 9, 10, 11, 13, 14, 16].all (fun t => !l.elem t) = true) (e : τ 41 0 = R) : Inv τ := by
  refine Inv_now h (N1_trans n (N1_Fr f hl)) ?_
  rw [e]
  exact Kp_sc k f hl2
/-- of a kind -/
theorem isOf_go {d p : Nat} {σ : xM} {Q : Int → xM → Prop} {w x i : Int} (hx : 0 ≤ x ∧ x < 7) (hi : i < 7) : Ev d 67 7 [vR 7 p, vI w, vI x, vI i] [] σ Q = if x = w then Q 1 σ else Ev d 67 7 [vR 7 p, vI w, vI (xabv x.toNat), vI (xwr (i + 1))] [] σ Q := by
  rw [b_R_isOf_7, if_pos hi, if_neg (by omega), if_pos (by omega), xz1, xin hx.1 hx.2]
theorem isOf_no {d p : Nat} {σ : xM} {Q : Int → xM → Prop} {w i : Int} (hi : i < 7) : Ev d 67 7 [vR 7 p, vI w, vI (-1), vI i] [] σ Q = Q 0 σ := by
  rw [b_R_isOf_7, if_pos hi, if_pos (by decide), xz0]
def qis (k w : Int) : Int := if w = 0 ∨ w = k ∨ (w = 1 ∧ k = 4) ∨ (w = 2 ∧ k = 5) then 1 else 0
theorem e_isOf {d p : Nat} {σ : xM} {Q : Int → xM → Prop} {w k : Int} (hk : σ 7 p 0 = k) (h : 0 ≤ k ∧ k ≤ 6) (hw : 0 ≤ w ∧ w ≤ 6) : Ev d 67 0 [vR 7 p, vI w, vR 0 0, vR 0 0] [] σ Q = Q (qis k w) σ := by
  rw [b_R_isOf_0, hk]
  have a0 : xabv (Int.toNat 0) = -1 := by decide
  have a1 : xabv (Int.toNat 1) = 0 := by decide
  have a2 : xabv (Int.toNat 2) = 0 := by decide
  have a3 : xabv (Int.toNat 3) = 0 := by decide
  have a4 : xabv (Int.toNat 4) = 1 := by decide
  have a5 : xabv (Int.toNat 5) = 2 := by decide
  have a6 : xabv (Int.toNat 6) = 0 := by decide
  have s1 : xwr (0 + 1) = 1 := by decide
  have s2 : xwr (1 + 1) = 2 := by decide
  have s3 : xwr (2 + 1) = 3 := by decide
  have : k = 0 ∨ k = 1 ∨ k = 2 ∨ k = 3 ∨ k = 4 ∨ k = 5 ∨ k = 6 := by omega
  rcases this with e | e | e | e | e | e | e <;> subst e
  · rw [isOf_go (by decide) (by decide), a0, s1, isOf_no (by decide)]
    unfold qis
    by_cases e0 : w = 0
    · rw [if_pos (by omega), if_pos (by omega)]
    · rw [if_neg (by omega), if_neg (by omega)]
  · rw [isOf_go (by decide) (by decide), a1, s1, isOf_go (by decide) (by decide), a0, s2, isOf_no (by decide)]
    unfold qis
    by_cases e0 : w = 0 ∨ w = 1
    · rw [if_pos (c := w = 0 ∨ _) (by omega)]
      split
      · rfl
      · rw [if_pos (by omega)]
    · rw [if_neg (by omega), if_neg (by omega), if_neg (by omega)]
  · rw [isOf_go (by decide) (by decide), a2, s1, isOf_go (by decide) (by decide), a0, s2, isOf_no (by decide)]
    unfold qis
    by_cases e0 : w = 0 ∨ w = 2
    · rw [if_pos (c := w = 0 ∨ _) (by omega)]
      split
      · rfl
      · rw [if_pos (by omega)]
    · rw [if_neg (by omega), if_neg (by omega), if_neg (by omega)]
  · rw [isOf_go (by decide) (by decide), a3, s1, isOf_go (by decide) (by decide), a0, s2, isOf_no (by decide)]
    unfold qis
    by_cases e0 : w = 0 ∨ w = 3
    · rw [if_pos (c := w = 0 ∨ _) (by omega)]
      split
      · rfl
      · rw [if_pos (by omega)]
    · rw [if_neg (by omega), if_neg (by omega), if_neg (by omega)]
  · rw [isOf_go (by decide) (by decide), a4, s1, isOf_go (by decide) (by decide), a1, s2, isOf_go (by decide) (by decide), a0, s3, isOf_no (by decide)]
    unfold qis
    by_cases e0 : w = 0 ∨ w = 1 ∨ w = 4
    · rw [if_pos (c := w = 0 ∨ _) (by omega)]
      split
      · rfl
      · split
        · rfl
        · rw [if_pos (by omega)]
    · rw [if_neg (by omega), if_neg (by omega), if_neg (by omega), if_neg (by omega)]
  · rw [isOf_go (by decide) (by decide), a5, s1, isOf_go (by decide) (by decide), a2, s2, isOf_go (by decide) (by decide), a0, s3, isOf_no (by decide)]
    unfold qis
    by_cases e0 : w = 0 ∨ w = 2 ∨ w = 5
    · rw [if_pos (c := w = 0 ∨ _) (by omega)]
      split
      · rfl
      · split
        · rfl
        · rw [if_pos (by omega)]
    · rw [if_neg (by omega), if_neg (by omega), if_neg (by omega), if_neg (by omega)]
  · rw [isOf_go (by decide) (by decide), a6, s1, isOf_go (by decide) (by decide), a0, s2, isOf_no (by decide)]
    unfold qis
    by_cases e0 : w = 0 ∨ w = 6
    · rw [if_pos (c := w = 0 ∨ _) (by omega)]
      split
      · rfl
      · rw [if_pos (by omega)]
    · rw [if_neg (by omega), if_neg (by omega), if_neg (by omega)]
theorem m_as {w k : Int} {A B : Prop} (h : 0 ≤ k ∧ k ≤ 6) (hw : 0 ≤ w ∧ w ≤ 6) : (if w = 0 then A else if w = k then A else if w = 1 then (if k = 4 then A else B) else if w = 2 then (if k = 5 then A else B) else B) = (if qis k w = 1 then A else B) := by
  unfold qis
  by_cases e0 : w = 0
  · rw [if_pos e0, if_pos (c := w = 0 ∨ _) (Or.inl e0), if_pos rfl]
  · rw [if_neg e0]
    by_cases e1 : w = k
    · rw [if_pos e1, if_pos (c := w = 0 ∨ _) (Or.inr (Or.inl e1)), if_pos rfl]
    · rw [if_neg e1]
      by_cases e2 : w = 1
      · rw [if_pos e2]
        by_cases e3 : k = 4
        · rw [if_pos e3, if_pos (c := w = 0 ∨ _) (by omega), if_pos rfl]
        · rw [if_neg e3, if_neg (c := w = 0 ∨ _) (by omega), if_neg (by decide)]
      · rw [if_neg e2]
        by_cases e3 : w = 2
        · rw [if_pos e3]
          by_cases e4 : k = 5
          · rw [if_pos e4, if_pos (c := w = 0 ∨ _) (by omega), if_pos rfl]
          · rw [if_neg e4, if_neg (c := w = 0 ∨ _) (by omega), if_neg (by decide)]
        · rw [if_neg e3, if_neg (c := w = 0 ∨ _) (by omega), if_neg (by decide)]
theorem x6n (n : Nat) : 6 ≠ 144 + n := by omega
theorem tell_c {d n : Nat} {σ : xM} {Q : Int → xM → Prop} {x : Int} (h : σ 5 0 6 = (n : Int)) (n24 : n < 24) : Ev (d + 1) 34 0 [vR 4 0, vI x] [] σ Q = Q ((n : Int) + 1) (xup (xup σ 16 0 n x) 5 0 6 ((n : Int) + 1)) := by
  rw [b_P_tell_0, h, if_pos (by omega), xin (by omega) (by omega), Int.toNat_natCast, xup_t (t' := 5) (t := 16) (by decide), h, xw (by omega) (by omega), xup_s]
theorem tell_m {d n : Nat} {σ : xM} {Q : Int → xM → Prop} {x : Int} (h : σ 41 0 6 = (n : Int)) (n24 : n < 24) : Ev (d + 1) 216 0 [vR 40 0, vI x] [] σ Q = Q ((n : Int) + 1) (xup (xup σ 41 0 (144 + n) x) 41 0 6 ((n : Int) + 1)) := by
  have e2 : xwr (144 + (n : Int)) = ((144 + n : Nat) : Int) := by rw [xw (by omega) (by omega)]; omega
  rw [b_M_tell_0, show Int.toNat 6 = 6 from rfl, h, if_neg (by omega), e2, Int.toNat_natCast, xup_k (x6n n), h, xw (x := (n : Int) + 1) (by omega) (by omega), xup_s]
  rw [xin (by decide) (by decide), xin (by decide) (by decide), xin (by omega) (by omega), xin (by decide) (by decide), xin (by decide) (by decide), xin (by decide) (by decide)]
theorem inv_tell {σ : xM} {n : Nat} {x : Int} (h : Inv σ) (n24 : n < 24) : Inv (xup (xup (xup (xup σ 16 0 n x) 5 0 6 ((n : Int) + 1)) 41 0 (144 + n) x) 41 0 6 ((n : Int) + 1)) := by
  refine inv_fin (l := [41]) (R := qu (qu (σ 41 0) (144 + n) x) 6 ((n : Int) + 1)) h (N1_trans (N1_up (t := 16) (by decide) (by unfold st1; omega)) (N1_up (t := 5) (by decide) (by unfold st1; omega))) ⟨xvl_lo (xvl_hi h.1 (by omega)) (by decide) (by decide) (by decide) (by omega) (by omega) (by omega) (by omega), xcpl_up5 (xcpl_up16 h.2.1 n24) (by decide)⟩ (Fr_trans (Fr_up (by decide)) (Fr_up (by decide))) rfl rfl ?_
  rw [xup_row, xup_row, xup_t (by decide), xup_t (by decide)]
theorem call_as {d : Nat} {σ : xM} (h : Inv σ) (x y : Int) : Ev (d + 9) m_P_as 0 [vR 4 0, vI x, vI y] [] σ (fun r s => Ev (d + 9) m_M_as 0 [vR 40 0, vI x, vI y, vR 0 0, vR 0 0] [] s (fun r' s' => r = r' ∧ Inv s')) := by
  suffices q : ∀ K : Int → xM → Prop, (∀ r s, K r s = Ev (d + 9) m_M_as 0 [vR 40 0, vI x, vI y, vR 0 0, vR 0 0] [] s (fun r' s' => r = r' ∧ Inv s')) → Ev (d + 9) m_P_as 0 [vR 4 0, vI x, vI y] [] σ K from q _ (fun _ _ => rfl)
  intro K hK
  obtain ⟨n2, hn2, l2⟩ := xvl_p h.1
  obtain ⟨n3, hn3, l3⟩ := xvl_c h.1
  have hk := Inv_Kp h
  have pa := Kp_parts hk
  have ch := Kp_chn hk
  have ⟨p0, p7⟩ := h.1.1
  have ⟨c0, c7⟩ := h.1.2.1
  by_cases hx : 0 ≤ x ∧ x < σ 41 0 2
  · obtain ⟨P, hP⟩ : ∃ P : Nat, x = (P : Int) := ⟨x.toNat, by omega⟩
    subst hP
    have hPp := hx.2
    have P7 := xvl_p7 h.1 hPp
    have hkd := (h.1.2.2.2.2.2.2.1 P hPp).1
    have ek := Kp_kind hk P7
    by_cases hy : 0 ≤ y ∧ y ≤ 6
    · have q01 : qis (σ 41 0 (7 + 2 * P)) y = 0 ∨ qis (σ 41 0 (7 + 2 * P)) y = 1 := by
        unfold qis
        split
        · exact Or.inr rfl
        · exact Or.inl rfl
      rcases q01 with q | q
      · simp (disch := omega) only [b_P_as_0, e_hasPart, pa, e_isOf ek hkd hy, q, e_fail5, xbc, ↓reduceIte, ↓if_pos, ↓if_neg, xin, Int.toNat_natCast]
        rw [hK]
        simp (disch := omega) only [b_M_as_0, e_isPart9, e_in, x39, e_of0 P7, e_of1 P7, xbc, ↓reduceIte, ↓if_pos, ↓if_neg, xin, Int.toNat_natCast]
        rw [m_as hkd hy, q, if_neg (by decide)]
        exact fin5 h
      · simp (disch := omega) only [b_P_as_0, e_hasPart, pa, e_isOf ek hkd hy, q, Kp_m hk P7, xbc, ↓reduceIte, ↓if_pos, ↓if_neg, xin, Int.toNat_natCast]
        rw [hK]
        simp (disch := omega) only [b_M_as_0, e_isPart, e_in, e_of0 P7, e_of1 P7, xbc, ↓reduceIte, ↓if_pos, ↓if_neg, xin, Int.toNat_natCast]
        rw [m_as hkd hy, q, if_pos rfl]
        exact ⟨trivial, h⟩
    · by_cases y0 : y < 0
      · simp (disch := omega) only [b_P_as_0, e_hasPart, pa, e_fail1, xbc, ↓reduceIte, ↓if_pos, ↓if_neg, xin, Int.toNat_natCast]
        rw [hK]
        simp (disch := omega) only [b_M_as_0, e_isPart9, e_in, x39, xbc, ↓reduceIte, ↓if_pos, ↓if_neg, xin, Int.toNat_natCast]
        exact fin1 h
      · simp (disch := omega) only [b_P_as_0, e_hasPart, pa, e_fail1, xbc, ↓reduceIte, ↓if_pos, ↓if_neg, xin, Int.toNat_natCast]
        rw [hK]
        simp (disch := omega) only [b_M_as_0, e_isPart9, e_in, x39, xbc, ↓reduceIte, ↓if_pos, ↓if_neg, xin, Int.toNat_natCast]
        exact fin1 h
  · simp (disch := omega) only [b_P_as_0, e_hasPart, pa, e_fail1, xbc, ↓reduceIte, ↓if_pos, ↓if_neg, xin, Int.toNat_natCast]
    rw [hK]
    simp (disch := omega) only [b_M_as_0, e_isPart9, e_in, x39, xbc, ↓reduceIte, ↓if_pos, ↓if_neg, xin, Int.toNat_natCast]
    exact fin1 h

theorem call_untell {d : Nat} {σ : xM} (h : Inv σ) (x : Int) : Ev (d + 9) m_P_untell 0 [vR 4 0, vI x, vR 0 0] [] σ (fun r s => Ev (d + 9) m_M_untell 0 [vR 40 0, vI x] [] s (fun r' s' => r = r' ∧ Inv s')) := by
  suffices q : ∀ K : Int → xM → Prop, (∀ r s, K r s = Ev (d + 9) m_M_untell 0 [vR 40 0, vI x] [] s (fun r' s' => r = r' ∧ Inv s')) → Ev (d + 9) m_P_untell 0 [vR 4 0, vI x, vR 0 0] [] σ K from q _ (fun _ _ => rfl)
  intro K hK
  obtain ⟨n2, hn2, l2⟩ := xvl_p h.1
  obtain ⟨n3, hn3, l3⟩ := xvl_c h.1
  have hk := Inv_Kp h
  have pa := Kp_parts hk
  have ch := Kp_chn hk
  have ⟨p0, p7⟩ := h.1.1
  have ⟨c0, c7⟩ := h.1.2.1
  by_cases hx : 0 ≤ x ∧ x ≤ 1
  · have : x = 0 ∨ x = 1 := by omega
    rcases this with e | e <;> subst e
    · have e13 : σ 13 0 0 = σ 41 0 168 := (h.2.1.2.2.2.2.2.2 0 (by decide)).1.symm
      have hI : Inv (xup (xup σ 13 0 0 0) 41 0 168 0) := inv_fin (l := [41]) h (N1_up (by decide) (by unfold st1; omega)) ⟨xvl_hi h.1 (by decide), xcpl_un (u := 0) h.2.1 (by decide)⟩ (Fr_up (by decide)) rfl rfl (by rw [xup_row, xup_t (by decide)])
      have em : xwr (168 + xwr (121 * 0)) = ((168 : Nat) : Int) := by decide
      by_cases hp : 0 < σ 41 0 168
      · simp (disch := omega) only [b_P_untell_0, e_isUse, show Int.toNat 0 = 0 from rfl, e13, xbc, ↓reduceIte, ↓if_pos, ↓if_neg, xin, Int.toNat_natCast]
        rw [hK]
        simp (disch := omega) only [b_M_untell_0, e_in, em, e_becomes, xup_t (show 41 ≠ 13 by decide), xbc, ↓reduceIte, ↓if_pos, ↓if_neg, xin, Int.toNat_natCast]
        exact ⟨trivial, hI⟩
      · simp (disch := omega) only [b_P_untell_0, e_isUse, show Int.toNat 0 = 0 from rfl, e13, xbc, ↓reduceIte, ↓if_pos, ↓if_neg, xin, Int.toNat_natCast]
        rw [hK]
        simp (disch := omega) only [b_M_untell_0, e_in, em, e_becomes, xup_t (show 41 ≠ 13 by decide), xbc, ↓reduceIte, ↓if_pos, ↓if_neg, xin, Int.toNat_natCast]
        exact ⟨trivial, hI⟩
    · have e13 : σ 13 1 0 = σ 41 0 289 := (h.2.1.2.2.2.2.2.2 1 (by decide)).1.symm
      have hI : Inv (xup (xup σ 13 1 0 0) 41 0 289 0) := inv_fin (l := [41]) h (N1_up (by decide) (by unfold st1; omega)) ⟨xvl_hi h.1 (by decide), xcpl_un (u := 1) h.2.1 (by decide)⟩ (Fr_up (by decide)) rfl rfl (by rw [xup_row, xup_t (by decide)])
      have em : xwr (168 + xwr (121 * 1)) = ((289 : Nat) : Int) := by decide
      by_cases hp : 0 < σ 41 0 289
      · simp (disch := omega) only [b_P_untell_0, e_isUse, show Int.toNat 1 = 1 from rfl, e13, xbc, ↓reduceIte, ↓if_pos, ↓if_neg, xin, Int.toNat_natCast]
        rw [hK]
        simp (disch := omega) only [b_M_untell_0, e_in, em, e_becomes, xup_t (show 41 ≠ 13 by decide), xbc, ↓reduceIte, ↓if_pos, ↓if_neg, xin, Int.toNat_natCast]
        exact ⟨trivial, hI⟩
      · simp (disch := omega) only [b_P_untell_0, e_isUse, show Int.toNat 1 = 1 from rfl, e13, xbc, ↓reduceIte, ↓if_pos, ↓if_neg, xin, Int.toNat_natCast]
        rw [hK]
        simp (disch := omega) only [b_M_untell_0, e_in, em, e_becomes, xup_t (show 41 ≠ 13 by decide), xbc, ↓reduceIte, ↓if_pos, ↓if_neg, xin, Int.toNat_natCast]
        exact ⟨trivial, hI⟩
  · simp (disch := omega) only [b_P_untell_0, e_isUse, e_fail1, xbc, ↓reduceIte, ↓if_pos, ↓if_neg, xin, Int.toNat_natCast]
    rw [hK]
    simp (disch := omega) only [b_M_untell_0, e_in, x39, xbc, ↓reduceIte, ↓if_pos, ↓if_neg, xin, Int.toNat_natCast]
    exact fin1 h

theorem call_tell {d : Nat} {σ : xM} (h : Inv σ) (x : Int) : Ev (d + 9) m_P_tell 0 [vR 4 0, vI x] [] σ (fun r s => Ev (d + 9) m_M_tell 0 [vR 40 0, vI x] [] s (fun r' s' => r = r' ∧ Inv s')) := by
  suffices q : ∀ K : Int → xM → Prop, (∀ r s, K r s = Ev (d + 9) m_M_tell 0 [vR 40 0, vI x] [] s (fun r' s' => r = r' ∧ Inv s')) → Ev (d + 9) m_P_tell 0 [vR 4 0, vI x] [] σ K from q _ (fun _ _ => rfl)
  intro K hK
  obtain ⟨n2, hn2, l2⟩ := xvl_p h.1
  obtain ⟨n3, hn3, l3⟩ := xvl_c h.1
  have hk := Inv_Kp h
  have pa := Kp_parts hk
  have ch := Kp_chn hk
  have ⟨p0, p7⟩ := h.1.1
  have ⟨c0, c7⟩ := h.1.2.1
  have hw : σ 5 0 6 = σ 41 0 6 := h.2.1.1.2.2.2.2.2.2
  have wr := h.1.2.2.2.2.2.1
  by_cases hx : σ 41 0 6 < 24
  · obtain ⟨n, hn⟩ : ∃ n : Nat, σ 41 0 6 = (n : Int) := ⟨(σ 41 0 6).toNat, by omega⟩
    have n24 : n < 24 := by omega
    rw [tell_c (by rw [hw, hn]) n24, hK, tell_m (n := n) (by rw [xup_t (by decide), xup_t (by decide), hn]) n24]
    exact ⟨rfl, inv_tell h n24⟩
  · simp (disch := omega) only [b_P_tell_0, hw, e_fail4, xbc, ↓reduceIte, ↓if_pos, ↓if_neg, xin, Int.toNat_natCast]
    rw [hK]
    simp (disch := omega) only [b_M_tell_0, show Int.toNat 6 = 6 from rfl, x39, xbc, ↓reduceIte, ↓if_pos, ↓if_neg, xin, Int.toNat_natCast]
    exact fin4 h

