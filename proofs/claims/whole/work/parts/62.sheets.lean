/-! sheets -/
theorem Inv_sh {σ τ : xM} (h : Inv σ) (f : Fr [36, 37, 45, 46, 47] σ τ) (k : xiS τ) : Inv τ := by
  obtain ⟨i1, i2, i3, i4, i5, i6⟩ := h
  refine ⟨by rw [f 41 (by decide)]; exact i1, ?_, ?_, ?_, k, ?_⟩
  · rw [f 41 (by decide)]
    exact xcpl_cg i2 (f 5 (by decide)) (f 7 (by decide)) (f 9 (by decide)) (f 10 (by decide)) (f 11 (by decide)) (f 13 (by decide)) (f 14 (by decide)) (f 16 (by decide))
  · unfold xiE at i3 ⊢
    rw [f 39 (by decide), f 44 (by decide)]
    exact i3
  · unfold xiK at i4 ⊢
    rw [f 4 (by decide), f 40 (by decide), f 42 (by decide)]
    exact ⟨i4.1, fun hn => ⟨(i4.2 hn).1, xcpl_cg (i4.2 hn).2 (f 5 (by decide)) (f 7 (by decide)) (f 9 (by decide)) (f 10 (by decide)) (f 11 (by decide)) (f 13 (by decide)) (f 14 (by decide)) (f 16 (by decide))⟩⟩
  · unfold xiV at i6 ⊢
    rw [f 33 (by decide), f 34 (by decide), f 40 (by decide), f 56 (by decide)]
    exact i6
theorem m_nt1 {d : Nat} {σ : xM} {Q : Int → xM → Prop} {x : Int} (h : ¬ (0 ≤ x ∧ x ≤ 3)) : Ev (d + 2) 208 0 [vR 40 0, vI x] [] σ Q = Q (-1000000001) σ := by
  rw [b_M_notThere_0, e_MisSheet]
  simp only [xbc]
  rw [if_pos h]
theorem m_nt2 {d X : Nat} {σ : xM} {Q : Int → xM → Prop} (h : X < 4) (hb : σ 45 0 X = 0) : Ev (d + 2) 208 0 [vR 40 0, vI (X : Int)] [] σ Q = Q (-1000000002) σ := by
  rw [b_M_notThere_0, e_MisSheet]
  simp only [xbc]
  rw [if_neg (by omega), xin (by omega) (by omega), Int.toNat_natCast, if_pos hb]
theorem m_nt0 {d X : Nat} {σ : xM} {Q : Int → xM → Prop} (h : X < 4) (hb : ¬ σ 45 0 X = 0) : Ev (d + 2) 208 0 [vR 40 0, vI (X : Int)] [] σ Q = Q 0 σ := by
  rw [b_M_notThere_0, e_MisSheet]
  simp only [xbc]
  rw [if_neg (by omega), xin (by omega) (by omega), Int.toNat_natCast, if_neg hb]
theorem x24 {X k : Nat} (hX : X < 4) (hk : k < 24) : xwr (xwr (24 * (X : Int)) + (k : Int)) = ((24 * X + k : Nat) : Int) := by
  rw [xw (x := 24 * (X : Int)) (by omega) (by omega), xw (by omega) (by omega)]
  omega
def qrt (A B : Nat → Int) (m : Int) : Nat → Nat → Int
  | 0, k => (k : Int)
  | f + 1, k => if (k : Int) < m then (if A k = B k then qrt A B m f (k + 1) else (k : Int)) else (k : Int)
theorem qrt_cg {A A' B B' : Nat → Int} {m : Int} : ∀ f k : Nat, k + f ≤ 24 → (∀ j : Nat, j < 24 → (j : Int) < m → A' j = A j ∧ B' j = B j) → qrt A' B' m f k = qrt A B m f k
  | 0, _, _, _ => rfl
  | f + 1, k, e, h => by
    show (if (k : Int) < m then (if A' k = B' k then qrt A' B' m f (k + 1) else (k : Int)) else (k : Int)) = (if (k : Int) < m then (if A k = B k then qrt A B m f (k + 1) else (k : Int)) else (k : Int))
    by_cases hk : (k : Int) < m
    · rw [if_pos hk, if_pos hk, (h k (by omega) hk).1, (h k (by omega) hk).2, qrt_cg f (k + 1) (by omega) h]
    · rw [if_neg hk, if_neg hk]
theorem e_right {d n i : Nat} {σ : xM} {R : Nat → Int} {Q : Int → xM → Prop} (h : Kp σ R) (n24 : n ≤ 24) : ∀ f k : Nat, k + f = n → Ev d 63 2 [vR 5 0, vR 37 i, vI (n : Int), vI (k : Int)] [] σ Q = Q (qrt (fun k => R (21 + 9 * k + 5)) (fun k => σ 37 i k) (R 3) f k) σ
  | 0, k, e => by
    rw [b_S_rightInRow_2, if_neg (by omega)]
    show _ = Q (k : Int) σ
    rw [show n = k by omega]
  | f + 1, k, e => by
    show _ = Q (if (k : Int) < R 3 then (if R (21 + 9 * k + 5) = σ 37 i k then qrt (fun k => R (21 + 9 * k + 5)) (fun k => σ 37 i k) (R 3) f (k + 1) else (k : Int)) else (k : Int)) σ
    rw [b_S_rightInRow_2, if_pos (by omega), if_pos (by omega), Kp_chn h]
    by_cases hc : (k : Int) < R 3
    · have c7 := xvl_c7 h.1 hc
      rw [if_pos hc, if_pos hc, xin (by omega) (by omega), xin (by omega) (by omega), Int.toNat_natCast, Kp_ch h c7 (by decide), xs1 (by omega), e_right h n24 f (k + 1) (by omega)]
      split <;> rfl
    · rw [if_neg hc, if_neg hc]
theorem m_right {d n X : Nat} {σ : xM} {Q : Int → xM → Prop} (hX : X < 4) (n24 : n ≤ 24) (hn : σ 46 0 X = (n : Int)) (c7 : σ 41 0 3 ≤ 7) : ∀ f k : Nat, k + f = n → Ev (d + 1) 191 2 [vR 40 0, vI (X : Int), vI (k : Int)] [] σ Q = Q (qrt (fun k => σ 41 0 (21 + 9 * k + 5)) (fun k => σ 47 0 (24 * X + k)) (σ 41 0 3) f k) σ
  | 0, k, e => by
    rw [b_M_rightOf_2, xin (by omega) (by omega), Int.toNat_natCast, hn, if_neg (by omega)]
    rfl
  | f + 1, k, e => by
    show _ = Q (if (k : Int) < σ 41 0 3 then (if σ 41 0 (21 + 9 * k + 5) = σ 47 0 (24 * X + k) then qrt (fun k => σ 41 0 (21 + 9 * k + 5)) (fun k => σ 47 0 (24 * X + k)) (σ 41 0 3) f (k + 1) else (k : Int)) else (k : Int)) σ
    rw [b_M_rightOf_2, xin (by omega) (by omega), Int.toNat_natCast, hn, if_pos (by omega), xin (by decide) (by decide), show Int.toNat 3 = 3 from rfl]
    by_cases hc : (k : Int) < σ 41 0 3
    · rw [if_pos hc, if_pos hc, x24 hX (by omega), xin (by omega) (by omega), Int.toNat_natCast, e_ab5 (by omega), xs1 (by omega), m_right hX n24 hn c7 f (k + 1) (by omega)]
      by_cases e2 : σ 41 0 (21 + 9 * k + 5) = σ 47 0 (24 * X + k)
      · rw [if_pos e2, if_pos e2.symm]
      · rw [if_neg e2, if_neg (fun q => e2 q.symm)]
    · rw [if_neg hc, if_neg hc]
theorem e_clear {d X : Nat} {Q : Int → xM → Prop} {b n : Int} : ∀ f k : Nat, k + f = 24 → ∀ σ : xM, (∀ i, i < k → σ 37 X i = 0) → (∀ s, Fr [37] σ s → (∀ i, i ≠ X → s 37 i = σ 37 i) → (∀ i, i < 24 → s 37 X i = 0) → Q 0 s) → Ev d 119 12 [vR 36 X, vI b, vI n, vI (k : Int)] [] σ Q
  | 0, k, e, σ, h, hQ => by
    rw [b_H_clearTo_12, if_neg (by omega)]
    exact hQ σ Fr_refl (fun _ _ => rfl) (fun i hi => h i (by omega))
  | f + 1, k, e, σ, h, hQ => by
    rw [b_H_clearTo_12, if_pos (by omega), xin (by omega) (by omega), Int.toNat_natCast, xs1 (by omega)]
    refine e_clear f (k + 1) (by omega) _ (fun i hi => ?_) (fun s h1 h2 h3 => hQ s (Fr_trans (Fr_up (by decide)) h1) (fun i hi => by rw [h2 i hi, xup_i hi]) h3)
    by_cases e2 : i = k
    · rw [e2, xup_s]
    · rw [xup_k e2]
      exact h i (by omega)
theorem m_clear {d X : Nat} {Q : Int → xM → Prop} {b n : Int} (hX : X < 4) : ∀ f k : Nat, k + f = 24 → ∀ σ : xM, (∀ i, i < k → σ 47 0 (24 * X + i) = 0) → (∀ s, Fr [47] σ s → (∀ j, j < 24 * X ∨ 24 * X + 24 ≤ j → s 47 0 j = σ 47 0 j) → (∀ i, i < 24 → s 47 0 (24 * X + i) = 0) → Q 1 s) → Ev d 207 93 [vR 40 0, vI (X : Int), vI b, vI n, vI (k : Int)] [] σ Q
  | 0, k, e, σ, h, hQ => by
    rw [b_M_sheet_93, if_neg (by omega)]
    exact hQ σ Fr_refl (fun _ _ => rfl) (fun i hi => h i (by omega))
  | f + 1, k, e, σ, h, hQ => by
    rw [b_M_sheet_93, if_pos (by omega), x24 hX (by omega), xin (by omega) (by omega), Int.toNat_natCast, xs1 (by omega)]
    refine m_clear hX f (k + 1) (by omega) _ (fun i hi => ?_) (fun s h1 h2 h3 => hQ s (Fr_trans (Fr_up (by decide)) h1) (fun j hj => by rw [h2 j hj, xup_k (by omega)]) h3)
    by_cases e2 : i = k
    · rw [e2, xup_s]
    · rw [xup_k (by omega)]
      exact h i (by omega)
theorem xiS_sheet {σ s τ : xM} {X : Nat} {b n : Int} (h : xiS σ) (hX : X < 4) (hb : b = 0 ∨ b = 8 ∨ b = 16 ∨ b = 32) (hn : 0 ≤ n ∧ n ≤ 24) (h0 : b = 0 → n = 0) (f1 : Fr [37] (xup (xup σ 36 X 0 b) 36 X 1 n) s) (g1 : ∀ i, i ≠ X → s 37 i = (xup (xup σ 36 X 0 b) 36 X 1 n) 37 i) (g2 : ∀ i, i < 24 → s 37 X i = 0)
    (f2 : Fr [47] (xup (xup s 45 0 X b) 46 0 X n) τ) (k1 : ∀ j, j < 24 * X ∨ 24 * X + 24 ≤ j → τ 47 0 j = (xup (xup s 45 0 X b) 46 0 X n) 47 0 j) (k2 : ∀ i, i < 24 → τ 47 0 (24 * X + i) = 0) : xiS τ := by
  have e36 : τ 36 = xup (xup σ 36 X 0 b) 36 X 1 n 36 := by rw [f2 36 (by decide), xup_t (by decide), xup_t (by decide), f1 36 (by decide)]
  have e37 : τ 37 = s 37 := by rw [f2 37 (by decide), xup_t (by decide), xup_t (by decide)]
  have e45 : τ 45 = xup s 45 0 X b 45 := by rw [f2 45 (by decide), xup_t (by decide)]
  have e46 : τ 46 = xup (xup s 45 0 X b) 46 0 X n 46 := by rw [f2 46 (by decide)]
  have s45 : s 45 = σ 45 := by rw [f1 45 (by decide), xup_t (by decide), xup_t (by decide)]
  have s46 : s 46 = σ 46 := by rw [f1 46 (by decide), xup_t (by decide), xup_t (by decide)]
  have s47 : s 47 = σ 47 := by rw [f1 47 (by decide), xup_t (by decide), xup_t (by decide)]
  intro a ha
  obtain ⟨j1, j2, j3, j4, j5, j6⟩ := h a ha
  rw [e36, e37, e45, e46]
  by_cases e : a = X
  · subst e
    rw [xup_k (by decide), xup_s, xup_s, xup_s, xup_s]
    refine ⟨rfl, rfl, hb, hn, h0, fun i hi => by rw [g2 i hi, k2 i hi]⟩
  · rw [xup_i e, xup_i e, xup_k e, xup_k e, xup_t (by decide), s45, s46]
    refine ⟨j1, j2, j3, j4, j5, fun i hi => ?_⟩
    rw [g1 a e, xup_t (by decide), xup_t (by decide), k1 _ (by omega), xup_t (by decide), xup_t (by decide), s47]
    exact j6 i hi
theorem xiS_put {σ : xM} {X i : Nat} {v : Int} (h : xiS σ) (hX : X < 4) (hi : i < 24) : xiS (xup (xup σ 37 X i v) 47 0 (24 * X + i) v) := by
  intro a ha
  obtain ⟨j1, j2, j3, j4, j5, j6⟩ := h a ha
  rw [xup_t (t' := 36) (by decide), xup_t (t' := 36) (by decide), xup_t (t' := 45) (by decide), xup_t (t' := 45) (by decide), xup_t (t' := 46) (by decide), xup_t (t' := 46) (by decide), xup_t (t' := 37) (by decide)]
  refine ⟨j1, j2, j3, j4, j5, fun b hb => ?_⟩
  by_cases e : a = X
  · subst e
    by_cases e2 : b = i
    · subst e2
      rw [xup_s, xup_s]
    · rw [xup_k e2, xup_k (by omega), xup_t (by decide)]
      exact j6 b hb
  · rw [xup_i e, xup_k (by omega), xup_t (by decide)]
    exact j6 b hb
theorem call_judge {d : Nat} {σ : xM} (h : Inv σ) (x : Int) : Ev (d + 9) m_P_judge 0 [vR 4 0, vI x] [] σ (fun r s => Ev (d + 9) m_M_judge 0 [vR 40 0, vI x, vR 0 0] [] s (fun r' s' => r = r' ∧ Inv s')) := by
  suffices q : ∀ K : Int → xM → Prop, (∀ r s, K r s = Ev (d + 9) m_M_judge 0 [vR 40 0, vI x, vR 0 0] [] s (fun r' s' => r = r' ∧ Inv s')) → Ev (d + 9) m_P_judge 0 [vR 4 0, vI x] [] σ K from q _ (fun _ _ => rfl)
  intro K hK
  obtain ⟨n2, hn2, l2⟩ := xvl_p h.1
  obtain ⟨n3, hn3, l3⟩ := xvl_c h.1
  have hk := Inv_Kp h
  have pa := Kp_parts hk
  have ch := Kp_chn hk
  have ⟨p0, p7⟩ := h.1.1
  have ⟨c0, c7⟩ := h.1.2.1
  by_cases hx : 0 ≤ x ∧ x ≤ 3
  · skip
    obtain ⟨X, hXx⟩ : ∃ X : Nat, x = (X : Int) := ⟨x.toNat, by omega⟩
    subst hXx
    have hX : X < 4 := by omega
    have hS := h.2.2.2.2.1
    obtain ⟨j1, j2, j3, j4, j5, j6⟩ := hS X hX
    by_cases hb : σ 45 0 X = 0
    · simp (disch := omega) only [b_P_judge_0, e_PisSheet, j1, hb, e_fail2, xbc, ↓reduceIte, ↓if_pos, ↓if_neg, xin, Int.toNat_natCast]
      rw [hK, b_M_judge_0, m_nt2 hX (show ((xup σ 39 0 2 (xwr (σ 39 0 2 + 1))) : xM) 45 0 X = 0 by rw [xup_t (by decide)]; exact hb), if_neg (by decide)]
      exact fin2 h
    · obtain ⟨n, hn⟩ : ∃ n : Nat, σ 46 0 X = (n : Int) := ⟨(σ 46 0 X).toNat, by omega⟩
      simp (disch := omega) only [b_P_judge_0, e_PisSheet, j1, j2, hn, b_S_rightInRow_0, xbc, ↓reduceIte, ↓if_pos, ↓if_neg, xin, Int.toNat_natCast]
      refine (e_right hk (by omega) n 0 (Nat.zero_add _)).mpr ?_
      rw [hK, b_M_judge_0, m_nt0 hX hb, if_pos rfl, b_M_rightOf_0]
      refine (m_right (n := n) hX (by omega) hn c7 n 0 (Nat.zero_add _)).mpr ⟨?_, h⟩
      exact qrt_cg n 0 (by omega) (fun a ha _ => ⟨rfl, j6 a ha⟩)
  · simp (disch := omega) only [b_P_judge_0, e_PisSheet, e_fail1, xbc, ↓reduceIte, ↓if_pos, ↓if_neg, xin, Int.toNat_natCast]
    rw [hK, b_M_judge_0, m_nt1 hx, if_neg (by decide)]
    exact fin1 h

theorem call_put {d : Nat} {σ : xM} (h : Inv σ) (x y z : Int) : Ev (d + 9) m_P_put 0 [vR 4 0, vI x, vI y, vI z] [] σ (fun r s => Ev (d + 9) m_M_put 0 [vR 40 0, vI x, vI y, vI z, vR 0 0] [] s (fun r' s' => r = r' ∧ Inv s')) := by
  suffices q : ∀ K : Int → xM → Prop, (∀ r s, K r s = Ev (d + 9) m_M_put 0 [vR 40 0, vI x, vI y, vI z, vR 0 0] [] s (fun r' s' => r = r' ∧ Inv s')) → Ev (d + 9) m_P_put 0 [vR 4 0, vI x, vI y, vI z] [] σ K from q _ (fun _ _ => rfl)
  intro K hK
  obtain ⟨n2, hn2, l2⟩ := xvl_p h.1
  obtain ⟨n3, hn3, l3⟩ := xvl_c h.1
  have hk := Inv_Kp h
  have pa := Kp_parts hk
  have ch := Kp_chn hk
  have ⟨p0, p7⟩ := h.1.1
  have ⟨c0, c7⟩ := h.1.2.1
  by_cases hx : 0 ≤ x ∧ x ≤ 3
  · skip
    obtain ⟨X, hXx⟩ : ∃ X : Nat, x = (X : Int) := ⟨x.toNat, by omega⟩
    subst hXx
    have hX : X < 4 := by omega
    have hS := h.2.2.2.2.1
    obtain ⟨j1, j2, j3, j4, j5, j6⟩ := hS X hX
    by_cases hb : σ 45 0 X = 0
    · simp (disch := omega) only [b_P_put_0, e_PisSheet, j1, hb, e_fail2, xbc, ↓reduceIte, ↓if_pos, ↓if_neg, xin, Int.toNat_natCast]
      rw [hK, b_M_put_0, m_nt2 hX (show ((xup σ 39 0 2 (xwr (σ 39 0 2 + 1))) : xM) 45 0 X = 0 by rw [xup_t (by decide)]; exact hb)]
      simp (disch := omega) only [xbc, ↓reduceIte, ↓if_pos, ↓if_neg, xin, Int.toNat_natCast]
      exact fin2 h
    · obtain ⟨n, hn⟩ : ∃ n : Nat, σ 46 0 X = (n : Int) := ⟨(σ 46 0 X).toNat, by omega⟩
      have ew : xwr ((n : Int) - 1) = (n : Int) - 1 := xw (by omega) (by omega)
      by_cases hy : 0 ≤ y ∧ y < (n : Int)
      · obtain ⟨i, hi⟩ : ∃ i : Nat, y = (i : Int) := ⟨y.toNat, by omega⟩
        subst hi
        have i24 : i < 24 := by omega
        have e45 : ∀ v, xup σ 37 X i v 45 = σ 45 := fun v => xup_t (by decide)
        have e46 : ∀ v, xup σ 37 X i v 46 = σ 46 := fun v => xup_t (by decide)
        rcases j3 with q | q | q | q
        · exact absurd q hb
        · simp (disch := omega) only [b_P_put_0, e_PisSheet, j1, j2, hn, b_H_lowestBits_0, q, xbc, ↓reduceIte, ↓if_pos, ↓if_neg, xin, Int.toNat_natCast]
          rw [hK, b_M_put_0, m_nt0 hX (by rw [xup_t (by decide)]; exact hb)]
          simp (disch := omega) only [e_in, e45, e46, ew, hn, x24 hX i24, q, xbc, ↓reduceIte, ↓if_pos, ↓if_neg, xin, Int.toNat_natCast]
          exact ⟨trivial, Inv_sh h (Fr_trans (Fr_up (by decide)) (Fr_up (by decide))) (xiS_put hS hX i24)⟩

        · simp (disch := omega) only [b_P_put_0, e_PisSheet, j1, j2, hn, b_H_lowestBits_0, q, xbc, ↓reduceIte, ↓if_pos, ↓if_neg, xin, Int.toNat_natCast]
          rw [hK, b_M_put_0, m_nt0 hX (by rw [xup_t (by decide)]; exact hb)]
          simp (disch := omega) only [e_in, e45, e46, ew, hn, x24 hX i24, q, xbc, ↓reduceIte, ↓if_pos, ↓if_neg, xin, Int.toNat_natCast]
          exact ⟨trivial, Inv_sh h (Fr_trans (Fr_up (by decide)) (Fr_up (by decide))) (xiS_put hS hX i24)⟩

        · simp (disch := omega) only [b_P_put_0, e_PisSheet, j1, j2, hn, b_H_lowestBits_0, q, xbc, ↓reduceIte, ↓if_pos, ↓if_neg, xin, Int.toNat_natCast]
          rw [hK, b_M_put_0, m_nt0 hX (by rw [xup_t (by decide)]; exact hb)]
          simp (disch := omega) only [e_in, e45, e46, ew, hn, x24 hX i24, q, xbc, ↓reduceIte, ↓if_pos, ↓if_neg, xin, Int.toNat_natCast]
          exact ⟨trivial, Inv_sh h (Fr_trans (Fr_up (by decide)) (Fr_up (by decide))) (xiS_put hS hX i24)⟩

      · have e46 : xup σ 39 0 1 (xwr (σ 39 0 1 + 1)) 46 = σ 46 := xup_t (by decide)
        by_cases y0 : y < 0
        · simp (disch := omega) only [b_P_put_0, e_PisSheet, j1, j2, hn, e_fail1, xbc, ↓reduceIte, ↓if_pos, ↓if_neg, xin, Int.toNat_natCast]
          rw [hK, b_M_put_0, m_nt0 hX (by rw [xup_t (by decide)]; exact hb)]
          simp (disch := omega) only [e_in, e46, ew, hn, xbc, ↓reduceIte, ↓if_pos, ↓if_neg, xin, Int.toNat_natCast]
          exact fin1 h
        · simp (disch := omega) only [b_P_put_0, e_PisSheet, j1, j2, hn, e_fail1, xbc, ↓reduceIte, ↓if_pos, ↓if_neg, xin, Int.toNat_natCast]
          rw [hK, b_M_put_0, m_nt0 hX (by rw [xup_t (by decide)]; exact hb)]
          simp (disch := omega) only [e_in, e46, ew, hn, xbc, ↓reduceIte, ↓if_pos, ↓if_neg, xin, Int.toNat_natCast]
          exact fin1 h
  · simp (disch := omega) only [b_P_put_0, e_PisSheet, e_fail1, xbc, ↓reduceIte, ↓if_pos, ↓if_neg, xin, Int.toNat_natCast]
    rw [hK, b_M_put_0, m_nt1 hx]
    simp (disch := omega) only [xbc, ↓reduceIte, ↓if_pos, ↓if_neg, xin, Int.toNat_natCast]
    exact fin1 h

theorem call_sheet {d : Nat} {σ : xM} (h : Inv σ) (x y z : Int) : Ev (d + 9) m_P_sheet 0 [vR 4 0, vI x, vI y, vI z] [] σ (fun r s => Ev (d + 9) m_M_sheet 0 [vR 40 0, vI x, vI y, vI z, vR 0 0] [] s (fun r' s' => r = r' ∧ Inv s')) := by
  suffices q : ∀ K : Int → xM → Prop, (∀ r s, K r s = Ev (d + 9) m_M_sheet 0 [vR 40 0, vI x, vI y, vI z, vR 0 0] [] s (fun r' s' => r = r' ∧ Inv s')) → Ev (d + 9) m_P_sheet 0 [vR 4 0, vI x, vI y, vI z] [] σ K from q _ (fun _ _ => rfl)
  intro K hK
  obtain ⟨n2, hn2, l2⟩ := xvl_p h.1
  obtain ⟨n3, hn3, l3⟩ := xvl_c h.1
  have hk := Inv_Kp h
  have pa := Kp_parts hk
  have ch := Kp_chn hk
  have ⟨p0, p7⟩ := h.1.1
  have ⟨c0, c7⟩ := h.1.2.1
  by_cases hx : 0 ≤ x ∧ x ≤ 3
  · skip
    obtain ⟨X, hXx⟩ : ∃ X : Nat, x = (X : Int) := ⟨x.toNat, by omega⟩
    subst hXx
    have hX : X < 4 := by omega
    have hS := h.2.2.2.2.1
    obtain ⟨j1, j2, j3, j4, j5, j6⟩ := hS X hX
    by_cases hy : y = 0 ∨ y = 8 ∨ y = 16 ∨ y = 32
    · rcases hy with e | e | e | e <;> subst e
      · simp (disch := omega) only [b_P_sheet_0, e_PisSheet, b_H_clearTo_0, xbc, ↓reduceIte, ↓if_pos, ↓if_neg, xin, Int.toNat_natCast]
        refine e_clear 24 0 (by decide) _ (fun i hi => absurd hi (by omega)) (fun s f1 g1 g2 => ?_)
        rw [hK]
        simp (disch := omega) only [b_M_sheet_0, e_MisSheet, xbc, ↓reduceIte, ↓if_pos, ↓if_neg, xin, Int.toNat_natCast]
        refine m_clear hX 24 0 (by decide) _ (fun i hi => absurd hi (by omega)) (fun τ f2 k1 k2 => ⟨rfl, ?_⟩)
        exact Inv_sh h (Fr_trans (Fr_trans (Fr_trans (Fr_up (by decide)) (Fr_up (by decide))) (Fr_mono f1 (by decide))) (Fr_trans (Fr_trans (Fr_up (by decide)) (Fr_up (by decide))) (Fr_mono f2 (by decide)))) (xiS_sheet hS hX (by decide) (by omega) (by omega) f1 g1 g2 f2 k1 k2)
      · by_cases z0 : z < 0
        · simp (disch := omega) only [b_P_sheet_0, e_PisSheet, e_fail3, xbc, ↓reduceIte, ↓if_pos, ↓if_neg, xin, Int.toNat_natCast]
          rw [hK]
          simp (disch := omega) only [b_M_sheet_0, e_MisSheet, xbc, ↓reduceIte, ↓if_pos, ↓if_neg, xin, Int.toNat_natCast]
          exact fin3 h
        · by_cases z24 : 24 < z
          · simp (disch := omega) only [b_P_sheet_0, e_PisSheet, e_fail1, xbc, ↓reduceIte, ↓if_pos, ↓if_neg, xin, Int.toNat_natCast]
            rw [hK]
            simp (disch := omega) only [b_M_sheet_0, e_MisSheet, xbc, ↓reduceIte, ↓if_pos, ↓if_neg, xin, Int.toNat_natCast]
            exact fin1 h
          · simp (disch := omega) only [b_P_sheet_0, e_PisSheet, b_H_clearTo_0, xbc, ↓reduceIte, ↓if_pos, ↓if_neg, xin, Int.toNat_natCast]
            refine e_clear 24 0 (by decide) _ (fun i hi => absurd hi (by omega)) (fun s f1 g1 g2 => ?_)
            rw [hK]
            simp (disch := omega) only [b_M_sheet_0, e_MisSheet, xbc, ↓reduceIte, ↓if_pos, ↓if_neg, xin, Int.toNat_natCast]
            refine m_clear hX 24 0 (by decide) _ (fun i hi => absurd hi (by omega)) (fun τ f2 k1 k2 => ⟨rfl, ?_⟩)
            exact Inv_sh h (Fr_trans (Fr_trans (Fr_trans (Fr_up (by decide)) (Fr_up (by decide))) (Fr_mono f1 (by decide))) (Fr_trans (Fr_trans (Fr_up (by decide)) (Fr_up (by decide))) (Fr_mono f2 (by decide)))) (xiS_sheet hS hX (by decide) (by omega) (by omega) f1 g1 g2 f2 k1 k2)
      · by_cases z0 : z < 0
        · simp (disch := omega) only [b_P_sheet_0, e_PisSheet, e_fail3, xbc, ↓reduceIte, ↓if_pos, ↓if_neg, xin, Int.toNat_natCast]
          rw [hK]
          simp (disch := omega) only [b_M_sheet_0, e_MisSheet, xbc, ↓reduceIte, ↓if_pos, ↓if_neg, xin, Int.toNat_natCast]
          exact fin3 h
        · by_cases z24 : 24 < z
          · simp (disch := omega) only [b_P_sheet_0, e_PisSheet, e_fail1, xbc, ↓reduceIte, ↓if_pos, ↓if_neg, xin, Int.toNat_natCast]
            rw [hK]
            simp (disch := omega) only [b_M_sheet_0, e_MisSheet, xbc, ↓reduceIte, ↓if_pos, ↓if_neg, xin, Int.toNat_natCast]
            exact fin1 h
          · simp (disch := omega) only [b_P_sheet_0, e_PisSheet, b_H_clearTo_0, xbc, ↓reduceIte, ↓if_pos, ↓if_neg, xin, Int.toNat_natCast]
            refine e_clear 24 0 (by decide) _ (fun i hi => absurd hi (by omega)) (fun s f1 g1 g2 => ?_)
            rw [hK]
            simp (disch := omega) only [b_M_sheet_0, e_MisSheet, xbc, ↓reduceIte, ↓if_pos, ↓if_neg, xin, Int.toNat_natCast]
            refine m_clear hX 24 0 (by decide) _ (fun i hi => absurd hi (by omega)) (fun τ f2 k1 k2 => ⟨rfl, ?_⟩)
            exact Inv_sh h (Fr_trans (Fr_trans (Fr_trans (Fr_up (by decide)) (Fr_up (by decide))) (Fr_mono f1 (by decide))) (Fr_trans (Fr_trans (Fr_up (by decide)) (Fr_up (by decide))) (Fr_mono f2 (by decide)))) (xiS_sheet hS hX (by decide) (by omega) (by omega) f1 g1 g2 f2 k1 k2)
      · by_cases z0 : z < 0
        · simp (disch := omega) only [b_P_sheet_0, e_PisSheet, e_fail3, xbc, ↓reduceIte, ↓if_pos, ↓if_neg, xin, Int.toNat_natCast]
          rw [hK]
          simp (disch := omega) only [b_M_sheet_0, e_MisSheet, xbc, ↓reduceIte, ↓if_pos, ↓if_neg, xin, Int.toNat_natCast]
          exact fin3 h
        · by_cases z24 : 24 < z
          · simp (disch := omega) only [b_P_sheet_0, e_PisSheet, e_fail1, xbc, ↓reduceIte, ↓if_pos, ↓if_neg, xin, Int.toNat_natCast]
            rw [hK]
            simp (disch := omega) only [b_M_sheet_0, e_MisSheet, xbc, ↓reduceIte, ↓if_pos, ↓if_neg, xin, Int.toNat_natCast]
            exact fin1 h
          · simp (disch := omega) only [b_P_sheet_0, e_PisSheet, b_H_clearTo_0, xbc, ↓reduceIte, ↓if_pos, ↓if_neg, xin, Int.toNat_natCast]
            refine e_clear 24 0 (by decide) _ (fun i hi => absurd hi (by omega)) (fun s f1 g1 g2 => ?_)
            rw [hK]
            simp (disch := omega) only [b_M_sheet_0, e_MisSheet, xbc, ↓reduceIte, ↓if_pos, ↓if_neg, xin, Int.toNat_natCast]
            refine m_clear hX 24 0 (by decide) _ (fun i hi => absurd hi (by omega)) (fun τ f2 k1 k2 => ⟨rfl, ?_⟩)
            exact Inv_sh h (Fr_trans (Fr_trans (Fr_trans (Fr_up (by decide)) (Fr_up (by decide))) (Fr_mono f1 (by decide))) (Fr_trans (Fr_trans (Fr_up (by decide)) (Fr_up (by decide))) (Fr_mono f2 (by decide)))) (xiS_sheet hS hX (by decide) (by omega) (by omega) f1 g1 g2 f2 k1 k2)
    · simp (disch := omega) only [b_P_sheet_0, e_PisSheet, e_fail1, xbc, ↓reduceIte, ↓if_pos, ↓if_neg, xin, Int.toNat_natCast]
      rw [hK]
      simp (disch := omega) only [b_M_sheet_0, e_MisSheet, xbc, ↓reduceIte, ↓if_pos, ↓if_neg, xin, Int.toNat_natCast]
      exact fin1 h
  · simp (disch := omega) only [b_P_sheet_0, e_PisSheet, e_fail1, xbc, ↓reduceIte, ↓if_pos, ↓if_neg, xin, Int.toNat_natCast]
    rw [hK]
    simp (disch := omega) only [b_M_sheet_0, e_MisSheet, xbc, ↓reduceIte, ↓if_pos, ↓if_neg, xin, Int.toNat_natCast]
    exact fin1 h

