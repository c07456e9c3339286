/-! calls: parts, children -/
theorem ccl {σ : xM} (h : Inv σ) : (σ 5 0 0 = σ 41 0 2 ∧ σ 5 0 1 = σ 41 0 3 ∧ σ 5 0 2 = σ 41 0 0 ∧ σ 5 0 3 = σ 41 0 4 ∧ σ 5 0 4 = σ 41 0 1 ∧ σ 5 0 5 = σ 41 0 5 ∧ σ 5 0 6 = σ 41 0 6) ∧ (0 ≤ σ 41 0 2 ∧ σ 41 0 2 ≤ 7) ∧ (0 ≤ σ 41 0 3 ∧ σ 41 0 3 ≤ 7) ∧ (0 ≤ σ 41 0 0 ∧ σ 41 0 0 ≤ 9999) ∧ (-99999 ≤ σ 41 0 4 ∧ σ 41 0 4 ≤ 99999) ∧ (0 ≤ σ 41 0 5 ∧ σ 41 0 5 ≤ 60) ∧ (0 ≤ σ 41 0 6 ∧ σ 41 0 6 ≤ 24) := by
  obtain ⟨hv, hc, -⟩ := h
  exact ⟨hc.1, hv.1, hv.2.1, hv.2.2.1, hv.2.2.2.1, hv.2.2.2.2.1, hv.2.2.2.2.2.1⟩
theorem xtdiv10 {x : Int} (h : 0 ≤ x ∧ x ≤ 69) : xwr (Int.tdiv x 10) = x / 10 ∧ Int.tmod x 10 = x % 10 := by
  have h1 : Int.tdiv x 10 = x / 10 := Int.tdiv_eq_ediv_of_nonneg h.1
  have h2 : Int.tmod x 10 = x % 10 := Int.tmod_eq_emod_of_nonneg h.1
  rw [h1, h2, xw (by omega) (by omega)]
  exact ⟨rfl, rfl⟩
/-- the rest of Inv, where parts and children alone changed -/
theorem Inv_row {σ σ' : xM} (h : Inv σ) (hf : ∀ t, t ≠ 5 → t ≠ 7 → t ≠ 9 → t ≠ 10 → t ≠ 41 → σ' t = σ t) (h5 : ∀ i, i ≠ 0 → σ' 5 i = σ 5 i) (h7 : ∀ i, 7 ≤ i → σ' 7 i = σ 7 i) (h9 : ∀ i, 7 ≤ i → σ' 9 i = σ 9 i) (h10 : ∀ i, 7 ≤ i → σ' 10 i = σ 10 i)
    (hR : ∀ k, 84 ≤ k → σ' 41 0 k = σ 41 0 k) (hv : xvl (σ' 41 0)) (hA : xcA σ' 0 (σ' 41 0)) (hB : xcB σ' 0 (σ' 41 0)) (hC : xcC σ' 0 (σ' 41 0)) (hW : xcW σ' 0 (σ' 41 0)) : Inv σ' := by
  obtain ⟨i1, i2, i3, i4, i5, i6⟩ := h
  have g := fun t a b c d e => hf t a b c d e
  refine ⟨hv, ⟨hA, hB, hC, hW, ?_, ?_, ?_⟩, ?_, ?_, ?_, ?_⟩
  · intro i hi
    rw [hf 11 (by decide) (by decide) (by decide) (by decide) (by decide), hR _ (by omega)]
    exact i2.2.2.2.2.1 i hi
  · intro i hi
    rw [hf 16 (by decide) (by decide) (by decide) (by decide) (by decide), hR _ (by omega)]
    exact i2.2.2.2.2.2.1 i hi
  · intro u hu
    have e : (fun k => σ' 41 0 (168 + 121 * u + k)) = fun k => σ 41 0 (168 + 121 * u + k) := funext fun k => hR _ (by omega)
    rw [hf 13 (by decide) (by decide) (by decide) (by decide) (by decide), hf 14 (by decide) (by decide) (by decide) (by decide) (by decide), e]
    exact i2.2.2.2.2.2.2 u hu
  · unfold xiE at i3 ⊢
    rw [hf 39 (by decide) (by decide) (by decide) (by decide) (by decide), hf 44 (by decide) (by decide) (by decide) (by decide) (by decide)]
    exact i3
  · unfold xiK at i4 ⊢
    rw [hf 4 (by decide) (by decide) (by decide) (by decide) (by decide), hf 40 (by decide) (by decide) (by decide) (by decide) (by decide), hf 42 (by decide) (by decide) (by decide) (by decide) (by decide)]
    refine ⟨i4.1, fun hn => ⟨(i4.2 hn).1, ?_⟩⟩
    obtain ⟨j1, j2, j3, j4, j5, j6, j7⟩ := (i4.2 hn).2
    refine ⟨?_, ?_, ?_, ?_, ?_, ?_, ?_⟩
    · unfold xcA at j1 ⊢
      rw [h5 1 (by decide)]
      exact j1
    · intro p hp
      rw [h7 _ (show 7 ≤ xst 1 p from (by show 7 ≤ 7 + p; omega))]
      exact j2 p hp
    · intro p hp k hk
      rw [h9 _ (show 7 ≤ xst 1 p from (by show 7 ≤ 7 + p; omega))]
      exact j3 p hp k hk
    · intro p hp k hk
      rw [h10 _ (show 7 ≤ xst 1 p from (by show 7 ≤ 7 + p; omega))]
      exact j4 p hp k hk
    · unfold xcT at j5 ⊢
      rw [hf 11 (by decide) (by decide) (by decide) (by decide) (by decide)]
      exact j5
    · unfold xcN at j6 ⊢
      rw [hf 16 (by decide) (by decide) (by decide) (by decide) (by decide)]
      exact j6
    · unfold xcX at j7 ⊢
      rw [hf 13 (by decide) (by decide) (by decide) (by decide) (by decide), hf 14 (by decide) (by decide) (by decide) (by decide) (by decide)]
      exact j7
  · unfold xiS at i5 ⊢
    rw [hf 36 (by decide) (by decide) (by decide) (by decide) (by decide), hf 37 (by decide) (by decide) (by decide) (by decide) (by decide), hf 45 (by decide) (by decide) (by decide) (by decide) (by decide), hf 46 (by decide) (by decide) (by decide) (by decide) (by decide), hf 47 (by decide) (by decide) (by decide) (by decide) (by decide)]
    exact i5
  · unfold xiV at i6 ⊢
    rw [hf 33 (by decide) (by decide) (by decide) (by decide) (by decide), hf 34 (by decide) (by decide) (by decide) (by decide) (by decide), hf 40 (by decide) (by decide) (by decide) (by decide) (by decide), hf 56 (by decide) (by decide) (by decide) (by decide) (by decide)]
    exact i6
theorem xp7 {z : Int} (h0 : 0 ≤ z) (h7 : z < 7) : xwr (z + 1) = z + 1 ∧ xwr (z + 1 - 1) = z ∧ xwr (2 * z) = 2 * z ∧ xwr (7 + 2 * z) = 7 + 2 * z ∧ xwr (7 + 2 * z + 1) = 7 + 2 * z + 1 := by
  refine ⟨xw (by omega) (by omega), ?_, xw (by omega) (by omega), xw (by omega) (by omega), xw (by omega) (by omega)⟩
  rw [xw (by omega) (by omega)]
  omega
theorem xp7n (P : Nat) : (7 + 2 * (P : Int)).toNat = 7 + 2 * P ∧ (7 + 2 * (P : Int) + 1).toNat = 7 + 2 * P + 1 := by omega
theorem xp7r {z : Int} (h0 : 0 ≤ z) (h7 : z < 7) : ((0 : Int) ≤ 7 + 2 * z ∧ 7 + 2 * z < 410) ∧ ((0 : Int) ≤ 7 + 2 * z + 1 ∧ 7 + 2 * z + 1 < 410) := by omega
theorem xd69 {x : Int} (h : 0 ≤ x ∧ x ≤ 69) : (0 ≤ x / 10 ∧ x / 10 ≤ 6) ∧ (0 ≤ x % 10 ∧ x % 10 ≤ 9) := by omega
theorem xne7 (P : Nat) : 2 ≠ 7 + 2 * P + 1 ∧ 2 ≠ 7 + 2 * P ∧ 7 + 2 * P ≠ 7 + 2 * P + 1 := by omega
theorem inv_part {σ τ : xM} {P : Nat} {a b : Int} (h : Inv σ) (hP : σ 41 0 2 = (P : Int)) (hP7 : P < 7) (ha : 0 ≤ a ∧ a ≤ 6) (hb : 0 ≤ b ∧ b ≤ 9) (eR : ∀ k, k ≠ 2 → k ≠ 7 + 2 * P → k ≠ 7 + 2 * P + 1 → τ 41 0 k = σ 41 0 k) (e2 : τ 41 0 2 = (P : Int) + 1) (eA : τ 41 0 (7 + 2 * P) = a) (eB : τ 41 0 (7 + 2 * P + 1) = b)
    (e5 : ∀ k, k ≠ 0 → τ 5 0 k = σ 5 0 k) (e50 : τ 5 0 0 = (P : Int) + 1) (e5i : ∀ i, i ≠ 0 → τ 5 i = σ 5 i) (e7 : ∀ i, i ≠ P → τ 7 i = σ 7 i) (e70 : τ 7 P 0 = a) (e71 : τ 7 P 1 = b) (et : ∀ t, t ≠ 5 → t ≠ 7 → t ≠ 41 → τ t = σ t) : Inv τ := by
  obtain ⟨⟨a0, a1, a2, a3, a4, a5, a6⟩, -⟩ := ccl h
  obtain ⟨v1, v2, v3, v4, v5, v6, v7, v8, v9⟩ := h.1
  refine Inv_row h (fun t h1 h2 _ _ h5 => et t h1 h2 h5) e5i (fun i hi => e7 i (by omega)) (fun i _ => by rw [et 9 (by decide) (by decide) (by decide)]) (fun i _ => by rw [et 10 (by decide) (by decide) (by decide)]) (fun k hk => eR k (by omega) (by omega) (by omega)) ⟨?_, ?_, ?_, ?_, ?_, ?_, ?_, ?_, ?_⟩ ⟨?_, ?_, ?_, ?_, ?_, ?_, ?_⟩ ?_ ?_ ?_
  · rw [e2]; omega
  · rw [eR 3 (by omega) (by omega) (by omega)]; exact v2
  · rw [eR 0 (by omega) (by omega) (by omega)]; exact v3
  · rw [eR 4 (by omega) (by omega) (by omega)]; exact v4
  · rw [eR 5 (by omega) (by omega) (by omega)]; exact v5
  · rw [eR 6 (by omega) (by omega) (by omega)]; exact v6
  · intro p hp
    rw [e2] at hp
    by_cases hpP : p = P
    · subst hpP
      rw [eA, eB]
      exact ⟨ha, hb⟩
    · rw [eR _ (by omega) (by omega) (by omega), eR _ (by omega) (by omega) (by omega)]
      exact v7 p (by rw [hP]; omega)
  · intro c hc
    rw [eR 3 (by omega) (by omega) (by omega)] at hc
    obtain ⟨u1, u2, u3, u4, u5, u6⟩ := v8 c hc
    rw [hP] at u5 u6
    rw [e2, eR (21 + 9 * c + 0) (by omega) (by omega) (by omega), eR (21 + 9 * c + 1) (by omega) (by omega) (by omega), eR (21 + 9 * c + 2) (by omega) (by omega) (by omega), eR (21 + 9 * c + 3) (by omega) (by omega) (by omega), eR (21 + 9 * c + 4) (by omega) (by omega) (by omega), eR (21 + 9 * c + 5) (by omega) (by omega) (by omega)]
    exact ⟨u1, u2, u3, u4, ⟨u5.1, by have := u5.2; omega⟩, ⟨u6.1, by have := u6.2; omega⟩⟩
  · intro c hc k hk
    rw [eR 3 (by omega) (by omega) (by omega)] at hc
    have u := v9 c hc k hk
    rw [hP] at u
    rw [e2, eR _ (by omega) (by omega) (by omega)]
    exact ⟨u.1, by have := u.2; omega⟩
  · rw [e50, e2]
  · rw [e5 1 (by decide), eR _ (by omega) (by omega) (by omega)]; exact a1
  · rw [e5 2 (by decide), eR _ (by omega) (by omega) (by omega)]; exact a2
  · rw [e5 3 (by decide), eR _ (by omega) (by omega) (by omega)]; exact a3
  · rw [e5 4 (by decide), eR _ (by omega) (by omega) (by omega)]; exact a4
  · rw [e5 5 (by decide), eR _ (by omega) (by omega) (by omega)]; exact a5
  · rw [e5 6 (by decide), eR _ (by omega) (by omega) (by omega)]; exact a6
  · intro p hp
    show τ 7 p 0 = τ 41 0 (7 + 2 * p) ∧ τ 7 p 1 = τ 41 0 (7 + 2 * p + 1)
    by_cases hpP : p = P
    · subst hpP
      rw [eA, eB, e70, e71]
      exact ⟨rfl, rfl⟩
    · rw [e7 p hpP, eR _ (by omega) (by omega) (by omega), eR _ (by omega) (by omega) (by omega)]
      exact h.2.1.2.1 p hp
  · intro c hc k hk
    rw [et 9 (by decide) (by decide) (by decide), eR _ (by omega) (by omega) (by omega)]
    exact h.2.1.2.2.1 c hc k hk
  · intro c hc k hk
    rw [et 10 (by decide) (by decide) (by decide), eR _ (by omega) (by omega) (by omega)]
    exact h.2.1.2.2.2.1 c hc k hk
theorem call_part {d : Nat} {σ : xM} (h : Inv σ) (x : Int) : Ev (d + 9) m_P_part 0 [vR 4 0, vI x] [] σ (fun r s => Ev (d + 9) m_M_part 0 [vR 40 0, vI x, vR 0 0] [] s (fun r' s' => r = r' ∧ Inv s')) := by
  obtain ⟨⟨a0, a1, a2, a3, a4, a5, a6⟩, p, c, y, j, tp, wt⟩ := ccl h
  rw [b_P_part_0]
  simp only [e_isKN, xbc]
  by_cases hk : 0 ≤ x ∧ x ≤ 69
  · rw [if_neg (fun q => q hk), a0]
    by_cases h7 : σ 41 0 2 < 7
    · obtain ⟨P, hP⟩ : ∃ P : Nat, σ 41 0 2 = P := ⟨(σ 41 0 2).toNat, by omega⟩
      have hP7 : (P : Int) < 7 := by omega
      have hP0 : (0 : Int) ≤ (P : Int) := Int.natCast_nonneg P
      obtain ⟨w1, w2, v1, v2, v3⟩ := xp7 hP0 hP7
      obtain ⟨n1, n2⟩ := xp7n P
      obtain ⟨r1, r2⟩ := xp7r hP0 hP7
      obtain ⟨t1, t2⟩ := xtdiv10 hk
      rw [if_pos h7]
      simp only [hP, xup_s, w1, w2, Int.toNat_natCast]
      refine ⟨⟨hP0, hP7⟩, ?_⟩
      rw [b_R_turnInto_0, t1, t2]
      refine ⟨by decide, by decide, ?_⟩
      obtain ⟨s3, hs3⟩ : ∃ s, s = xup (xup (xup σ 5 0 0 ((P : Int) + 1)) 7 P 0 (x / 10)) 7 P 1 (x % 10) := ⟨_, rfl⟩
      rw [← hs3]
      have e5 : s3 5 0 0 = (P : Int) + 1 := by rw [hs3, xup_t (by decide), xup_t (by decide), xup_s]
      have e41 : s3 41 = σ 41 := by rw [hs3, xup_t (by decide), xup_t (by decide), xup_t (by decide)]
      have e41' : s3 41 0 2 = (P : Int) := by rw [e41, hP]
      rw [b_M_part_0]
      simp only [e_isKm, xbc]
      rw [if_neg (fun q => q hk)]
      simp only [show Int.toNat 2 = 2 from rfl, e5, e41', w1, w2, v1, v2, v3, t1, t2, n1, n2, Int.toNat_natCast]
      refine ⟨by decide, ?_⟩
      rw [if_neg (fun q => absurd hP7 (by rw [q]; decide))]
      refine ⟨by decide, by decide, by decide, r1, by decide, r2, trivial, ?_⟩
      have hPn : P < 7 := Int.ofNat_lt.mp hP7
      refine inv_part (P := P) (a := x / 10) (b := x % 10) h hP hPn (xd69 hk).1 (xd69 hk).2 (fun k h2 hA hB => by rw [xup_k hB, xup_k hA, xup_k h2, e41]) (by rw [xup_k (xne7 P).1, xup_k (xne7 P).2.1, xup_s]) (by rw [xup_k (xne7 P).2.2, xup_s]) (by rw [xup_s])
        (fun k hk => by rw [xup_t (by decide), xup_t (by decide), xup_t (by decide), hs3, xup_t (by decide), xup_t (by decide), xup_k hk]) (by rw [xup_t (by decide), xup_t (by decide), xup_t (by decide)]; exact e5) (fun i hi => by rw [xup_t (by decide), xup_t (by decide), xup_t (by decide), hs3, xup_t (by decide), xup_t (by decide), xup_i hi])
        (fun i hi => by rw [xup_t (by decide), xup_t (by decide), xup_t (by decide), hs3, xup_i hi, xup_i hi, xup_t (by decide)]) (by rw [xup_t (by decide), xup_t (by decide), xup_t (by decide), hs3, xup_k (by decide), xup_s]) (by rw [xup_t (by decide), xup_t (by decide), xup_t (by decide), hs3, xup_s])
        (fun t h5 h7 h41 => by rw [xup_t h41, xup_t h41, xup_t h41, hs3, xup_t h7, xup_t h7, xup_t h5])
    · rw [if_neg h7, e_fail4, b_M_part_0]
      simp only [e_isKm, xbc]
      rw [if_neg (fun q => q hk), xin (by decide) (by decide), xup_t (by decide), if_pos (by show σ 41 0 2 = 7; omega), e_err4]
      exact ⟨rfl, Inv_err h (by decide) (by decide) (by rw [xup_t (by decide)])⟩
  · rw [if_pos hk, e_fail1, b_M_part_0]
    simp only [e_isKm, xbc]
    rw [if_pos hk, e_err1]
    exact ⟨rfl, Inv_err h (by decide) (by decide) (by rw [xup_t (by decide)])⟩
theorem xvl_1 {R R' : Nat → Int} (e : ∀ k, k ≠ 1 → R' k = R k) (h : xvl R) : xvl R' := by
  unfold xvl at h ⊢
  simp (disch := omega) only [e]
  exact h
theorem call_seed {d : Nat} {σ : xM} (h : Inv σ) (x : Int) : Ev (d + 9) m_P_seed 0 [vR 4 0, vI x, vR 0 0] [] σ (fun r s => Ev (d + 9) m_M_seed 0 [vR 40 0, vI x] [] s (fun r' s' => r = r' ∧ Inv s')) := by
  obtain ⟨⟨a0, a1, a2, a3, a4, a5, a6⟩, p, c, y, j, tp, wt⟩ := ccl h
  rw [b_P_seed_0, b_M_seed_0, b_M_becomes_0, xin (by decide) (by decide), xin (by decide) (by decide)]
  refine ⟨by rw [xup_t (by decide)]; exact a4, ?_⟩
  have eR : ∀ k, k ≠ 1 → xup (xup σ 5 0 4 x) 41 0 1 x 41 0 k = σ 41 0 k := fun k hk => by rw [xup_k hk, xup_t (by decide)]
  have e1 : xup (xup σ 5 0 4 x) 41 0 1 x 41 0 1 = x := xup_s
  have e5 : ∀ k, k ≠ 4 → xup (xup σ 5 0 4 x) 41 0 1 x 5 0 k = σ 5 0 k := fun k hk => by rw [xup_t (by decide), xup_k hk]
  have e54 : xup (xup σ 5 0 4 x) 41 0 1 x 5 0 4 = x := by rw [xup_t (by decide), xup_s]
  have et : ∀ t, t ≠ 5 → t ≠ 41 → xup (xup σ 5 0 4 x) 41 0 1 x t = σ t := fun t h1 h2 => by rw [xup_t h2, xup_t h1]
  show Inv (xup (xup σ 5 0 4 x) 41 0 1 x)
  refine Inv_row h (fun t h1 _ _ _ h5 => et t h1 h5) (fun i hi => by rw [xup_t (by decide), xup_i hi]) (fun i _ => by rw [et 7 (by decide) (by decide)]) (fun i _ => by rw [et 9 (by decide) (by decide)]) (fun i _ => by rw [et 10 (by decide) (by decide)]) (fun k hk => eR k (by omega)) (xvl_1 eR h.1) ?_ ?_ ?_ ?_
  · refine ⟨?_, ?_, ?_, ?_, ?_, ?_, ?_⟩
    · rw [e5 _ (by decide), eR _ (by decide)]; exact a0
    · rw [e5 _ (by decide), eR _ (by decide)]; exact a1
    · rw [e5 _ (by decide), eR _ (by decide)]; exact a2
    · rw [e5 _ (by decide), eR _ (by decide)]; exact a3
    · rw [e54, e1]
    · rw [e5 _ (by decide), eR _ (by decide)]; exact a5
    · rw [e5 _ (by decide), eR _ (by decide)]; exact a6
  · intro p hp
    rw [et 7 (by decide) (by decide), eR _ (by omega), eR _ (by omega)]
    exact h.2.1.2.1 p hp
  · intro c hc k hk
    rw [et 9 (by decide) (by decide), eR _ (by omega)]
    exact h.2.1.2.2.1 c hc k hk
  · intro c hc k hk
    rw [et 10 (by decide) (by decide), eR _ (by omega)]
    exact h.2.1.2.2.2.1 c hc k hk
theorem inv_turn {σ τ : xM} {P : Nat} {a b : Int} (h : Inv σ) (hP : (P : Int) < σ 41 0 2) (ha : 0 ≤ a ∧ a ≤ 6) (hb : 0 ≤ b ∧ b ≤ 9) (eR : ∀ k, k ≠ 7 + 2 * P → k ≠ 7 + 2 * P + 1 → τ 41 0 k = σ 41 0 k) (eA : τ 41 0 (7 + 2 * P) = a) (eB : τ 41 0 (7 + 2 * P + 1) = b)
    (e5 : τ 5 = σ 5) (e7 : ∀ i, i ≠ P → τ 7 i = σ 7 i) (e70 : τ 7 P 0 = a) (e71 : τ 7 P 1 = b) (et : ∀ t, t ≠ 7 → t ≠ 41 → τ t = σ t) : Inv τ := by
  obtain ⟨⟨a0, a1, a2, a3, a4, a5, a6⟩, z2, -⟩ := ccl h
  obtain ⟨v1, v2, v3, v4, v5, v6, v7, v8, v9⟩ := h.1
  have hP7 : P < 7 := by omega
  have e2 : τ 41 0 2 = σ 41 0 2 := eR 2 (by omega) (by omega)
  refine Inv_row h (fun t h1 h2 _ _ h5 => et t h2 h5) (fun i _ => by rw [e5]) (fun i hi => e7 i (by omega)) (fun i _ => by rw [et 9 (by decide) (by decide)]) (fun i _ => by rw [et 10 (by decide) (by decide)]) (fun k hk => eR k (by omega) (by omega)) ⟨?_, ?_, ?_, ?_, ?_, ?_, ?_, ?_, ?_⟩ ⟨?_, ?_, ?_, ?_, ?_, ?_, ?_⟩ ?_ ?_ ?_
  · rw [e2]; exact v1
  · rw [eR 3 (by omega) (by omega)]; exact v2
  · rw [eR 0 (by omega) (by omega)]; exact v3
  · rw [eR 4 (by omega) (by omega)]; exact v4
  · rw [eR 5 (by omega) (by omega)]; exact v5
  · rw [eR 6 (by omega) (by omega)]; exact v6
  · intro p hp
    rw [e2] at hp
    by_cases hpP : p = P
    · subst hpP
      rw [eA, eB]
      exact ⟨ha, hb⟩
    · rw [eR _ (by omega) (by omega), eR _ (by omega) (by omega)]
      exact v7 p hp
  · intro c hc
    rw [eR 3 (by omega) (by omega)] at hc
    rw [e2, eR (21 + 9 * c + 0) (by omega) (by omega), eR (21 + 9 * c + 1) (by omega) (by omega), eR (21 + 9 * c + 2) (by omega) (by omega), eR (21 + 9 * c + 3) (by omega) (by omega), eR (21 + 9 * c + 4) (by omega) (by omega), eR (21 + 9 * c + 5) (by omega) (by omega)]
    exact v8 c hc
  · intro c hc k hk
    rw [eR 3 (by omega) (by omega)] at hc
    rw [e2, eR _ (by omega) (by omega)]
    exact v9 c hc k hk
  · rw [e5, e2]; exact a0
  · rw [e5, eR _ (by omega) (by omega)]; exact a1
  · rw [e5, eR _ (by omega) (by omega)]; exact a2
  · rw [e5, eR _ (by omega) (by omega)]; exact a3
  · rw [e5, eR _ (by omega) (by omega)]; exact a4
  · rw [e5, eR _ (by omega) (by omega)]; exact a5
  · rw [e5, eR _ (by omega) (by omega)]; exact a6
  · intro p hp
    show τ 7 p 0 = τ 41 0 (7 + 2 * p) ∧ τ 7 p 1 = τ 41 0 (7 + 2 * p + 1)
    by_cases hpP : p = P
    · subst hpP
      rw [eA, eB, e70, e71]
      exact ⟨rfl, rfl⟩
    · rw [e7 p hpP, eR _ (by omega) (by omega), eR _ (by omega) (by omega)]
      exact h.2.1.2.1 p hp
  · intro c hc k hk
    rw [et 9 (by decide) (by decide), eR _ (by omega) (by omega)]
    exact h.2.1.2.2.1 c hc k hk
  · intro c hc k hk
    rw [et 10 (by decide) (by decide), eR _ (by omega) (by omega)]
    exact h.2.1.2.2.2.1 c hc k hk
theorem call_become {d : Nat} {σ : xM} (h : Inv σ) (x y : Int) : Ev (d + 9) m_P_become 0 [vR 4 0, vI x, vI y, vR 0 0] [] σ (fun r s => Ev (d + 9) m_M_become 0 [vR 40 0, vI x, vI y] [] s (fun r' s' => r = r' ∧ Inv s')) := by
  obtain ⟨⟨a0, -⟩, ⟨p0, p7⟩, -⟩ := ccl h
  rw [b_P_become_0, e_hasPart, a0]
  simp only [xbc]
  by_cases hx : 0 ≤ x ∧ x < σ 41 0 2
  · rw [if_neg (fun q => q hx), e_isKN]
    simp only [xbc]
    by_cases hk : 0 ≤ y ∧ y ≤ 69
    · rw [if_neg (fun q => q hk)]
      obtain ⟨P, rfl⟩ : ∃ P : Nat, x = (P : Int) := ⟨x.toNat, (Int.toNat_of_nonneg hx.1).symm⟩
      have hP0 : (0 : Int) ≤ (P : Int) := hx.1
      have hP7 : (P : Int) < 7 := Int.lt_of_lt_of_le hx.2 p7
      have hPn : P < 7 := Int.ofNat_lt.mp hP7
      obtain ⟨w1, w2, v1, v2, v3⟩ := xp7 hP0 hP7
      obtain ⟨n1, n2⟩ := xp7n P
      obtain ⟨r1, r2⟩ := xp7r hP0 hP7
      obtain ⟨t1, t2⟩ := xtdiv10 hk
      refine ⟨⟨hP0, hP7⟩, ⟨hP0, hP7⟩, ?_⟩
      rw [b_R_turnInto_0, t1, t2]
      refine ⟨by decide, by decide, ?_⟩
      simp only [Int.toNat_natCast]
      obtain ⟨s3, hs3⟩ : ∃ s, s = xup (xup σ 7 P 0 (y / 10)) 7 P 1 (y % 10) := ⟨_, rfl⟩
      rw [← hs3]
      have e41 : s3 41 = σ 41 := by rw [hs3, xup_t (by decide), xup_t (by decide)]
      rw [b_M_become_0, e_isPart (by rw [e41]; exact p0) (by rw [e41]; exact p7)]
      simp only [xbc]
      rw [if_neg (fun q => q (by rw [e41]; exact hx)), e_isKm]
      simp only [xbc]
      rw [if_neg (fun q => q hk)]
      simp only [v1, v2, v3, t1, t2, n2]
      refine ⟨by decide, r2, by decide, ?_⟩
      rw [b_M_becomes_0]
      refine ⟨r1, r1, ?_⟩
      simp only [n1]
      refine ⟨?_, ?_⟩
      · rw [xup_k (xne7 P).2.2, e41]
        exact (h.2.1.2.1 P hPn).1
      · exact inv_turn (P := P) (a := y / 10) (b := y % 10) h hx.2 (xd69 hk).1 (xd69 hk).2 (fun k hA hB => by rw [xup_k hA, xup_k hB, e41]) (by rw [xup_s]) (by rw [xup_k (xne7 P).2.2.symm, xup_s])
          (by rw [xup_t (by decide), xup_t (by decide), hs3, xup_t (by decide), xup_t (by decide)]) (fun i hi => by rw [xup_t (by decide), xup_t (by decide), hs3, xup_i hi, xup_i hi]) (by rw [xup_t (by decide), xup_t (by decide), hs3, xup_k (by decide), xup_s]) (by rw [xup_t (by decide), xup_t (by decide), hs3, xup_s])
          (fun t h7 h41 => by rw [xup_t h41, xup_t h41, hs3, xup_t h7, xup_t h7])
    · rw [if_pos hk, e_fail1, b_M_become_0, e_isPart (by rw [xup_t (by decide)]; exact p0) (by rw [xup_t (by decide)]; exact p7)]
      simp only [xbc]
      rw [if_neg (fun q => q (by rw [xup_t (by decide)]; exact hx)), e_isKm]
      simp only [xbc]
      rw [if_pos hk, e_err1]
      exact ⟨rfl, Inv_err h (by decide) (by decide) (by rw [xup_t (by decide)])⟩
  · rw [if_pos hx, e_fail1, b_M_become_0, e_isPart (by rw [xup_t (by decide)]; exact p0) (by rw [xup_t (by decide)]; exact p7)]
    simp only [xbc]
    rw [if_pos (fun q => hx (by rw [xup_t (by decide)] at q; exact q)), e_err1]
    exact ⟨rfl, Inv_err h (by decide) (by decide) (by rw [xup_t (by decide)])⟩
theorem call_count {d : Nat} {σ : xM} (h : Inv σ) (x : Int) : Ev (d + 9) m_P_count 0 [vR 4 0, vI x] [] σ (fun r s => Ev (d + 9) m_M_count 0 [vR 40 0, vI x] [] s (fun r' s' => r = r' ∧ Inv s')) := by
  obtain ⟨⟨a0, a1, a2, a3, a4, a5, a6⟩, -⟩ := ccl h
  rw [b_P_count_0]
  by_cases h0 : x = 0
  · rw [if_pos h0, b_M_count_0, if_pos h0]; exact ⟨by decide, a0, h⟩
  by_cases h1 : x = 1
  · rw [if_neg h0, if_pos h1, b_M_count_0, if_neg h0, if_pos h1]; exact ⟨by decide, a1, h⟩
  by_cases h2 : x = 2
  · rw [if_neg h0, if_neg h1, if_pos h2, b_M_count_0, if_neg h0, if_neg h1, if_pos h2]; exact ⟨by decide, a2, h⟩
  by_cases h3 : x = 3
  · rw [if_neg h0, if_neg h1, if_neg h2, if_pos h3, b_M_count_0, if_neg h0, if_neg h1, if_neg h2, if_pos h3]; exact ⟨by decide, a3, h⟩
  by_cases h4 : x = 4
  · rw [if_neg h0, if_neg h1, if_neg h2, if_neg h3, if_pos h4, b_M_count_0, if_neg h0, if_neg h1, if_neg h2, if_neg h3, if_pos h4]; exact ⟨by decide, a5, h⟩
  by_cases h5 : x = 5
  · rw [if_neg h0, if_neg h1, if_neg h2, if_neg h3, if_neg h4, if_pos h5, b_M_count_0, if_neg h0, if_neg h1, if_neg h2, if_neg h3, if_neg h4, if_pos h5]; exact ⟨by decide, a6, h⟩
  by_cases h6 : x = 6
  · rw [if_neg h0, if_neg h1, if_neg h2, if_neg h3, if_neg h4, if_neg h5, if_pos h6, b_M_count_0, if_neg h0, if_neg h1, if_neg h2, if_neg h3, if_neg h4, if_neg h5, if_pos h6]; exact ⟨h.2.2.2.2.2.1, h⟩
  by_cases h7 : x = 7
  · rw [if_neg h0, if_neg h1, if_neg h2, if_neg h3, if_neg h4, if_neg h5, if_neg h6, if_pos h7, b_M_count_0, if_neg h0, if_neg h1, if_neg h2, if_neg h3, if_neg h4, if_neg h5, if_neg h6, if_pos h7]; exact ⟨by decide, a4, h⟩
  · rw [if_neg h0, if_neg h1, if_neg h2, if_neg h3, if_neg h4, if_neg h5, if_neg h6, if_neg h7, e_fail1, b_M_count_0, if_neg h0, if_neg h1, if_neg h2, if_neg h3, if_neg h4, if_neg h5, if_neg h6, if_neg h7, e_err1]
    exact ⟨rfl, Inv_err h (by decide) (by decide) (by rw [xup_t (by decide)])⟩
theorem call_told {d : Nat} {σ : xM} (h : Inv σ) (x : Int) : Ev (d + 9) m_P_told 0 [vR 4 0, vI x] [] σ (fun r s => Ev (d + 9) m_M_told 0 [vR 40 0, vI x] [] s (fun r' s' => r = r' ∧ Inv s')) := by
  have bad : ¬ (1 ≤ x ∧ x ≤ 6) → Ev (d + 8) 38 0 [vR 4 0, vI 1] [] σ (fun r s => Ev (d + 9) m_M_told 0 [vR 40 0, vI x] [] s (fun r' s' => r = r' ∧ Inv s')) := by
    intro hx
    rw [e_fail1, b_M_told_0, e_in]
    simp only [xzc, xbc]
    rw [if_pos hx, e_err1]
    exact ⟨rfl, Inv_err h (by decide) (by decide) (by rw [xup_t (by decide)])⟩
  rw [b_P_told_0]
  by_cases h1 : x < 1
  · rw [if_pos h1]; exact bad (fun q => by have := q.1; omega)
  rw [if_neg h1]
  by_cases h2 : 6 < x
  · rw [if_pos h2]; exact bad (fun q => by have := q.2; omega)
  rw [if_neg h2, b_M_told_0, e_in]
  simp only [xzc, xbc]
  rw [if_neg (fun q => q ⟨Int.not_lt.mp h1, Int.not_lt.mp h2⟩)]
  have hr : 0 ≤ x ∧ x < 7 := by omega
  have hn : 1 ≤ x.toNat ∧ x.toNat < 7 := by omega
  exact ⟨hr, hr, h.2.2.1 _ hn.1 hn.2, h⟩
