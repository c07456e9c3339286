/-! calls: a child more, what waits, they play -/
theorem xne3s : ¬ (3 : Int) < 3 := by decide
theorem startAs_c {d c : Nat} {σ : xM} {Q : Int → xM → Prop} {x y z : Int} : Ev d 71 0 [vR 9 c, vI x, vI y, vI z, vR 0 0] [] σ Q = Q 0 (xup (xup (xup (xup (xup (xup (xup (xup (xup σ 9 c 0 x) 9 c 1 y) 9 c 2 z) 9 c 3 0) 9 c 4 (-1)) 9 c 5 (-1)) 10 c 0 (-1)) 10 c 1 (-1)) 10 c 2 (-1)) := by
  rw [b_C_startAs_0, b_C_startAs_33, if_pos (show (0 : Int) < 3 by decide), xin (by decide) (by decide), show xwr (0 + 1) = 1 from by decide, b_C_startAs_33, if_pos (show (1 : Int) < 3 by decide), xin (by decide) (by decide), show xwr (1 + 1) = 2 from by decide, b_C_startAs_33, if_pos (show (2 : Int) < 3 by decide), xin (by decide) (by decide), show xwr (2 + 1) = 3 from by decide, b_C_startAs_33, if_neg xne3s]
  rfl
theorem startAs_m {d c : Nat} {σ : xM} {Q : Int → xM → Prop} {x y z : Int} (hc : c < 7) : Ev (d + 1) 150 103 [vR 40 0, vI x, vI y, vI z, vI (c : Int), vI 4] [] σ Q = Q (c : Int) (xup (xup (xup (xup (xup σ 41 0 (21 + 9 * c + 4) (-1)) 41 0 (21 + 9 * c + 5) (-1)) 41 0 (21 + 9 * c + (6 + 0)) (-1)) 41 0 (21 + 9 * c + (6 + 1)) (-1)) 41 0 (21 + 9 * c + (6 + 2)) (-1)) := by
  have l6 : ∀ {d : Nat} {σ : xM} {Q : Int → xM → Prop} {v : Int}, Ev d 136 0 [vR 40 0, vI (c : Int), vI 6, vI v] [] σ Q = Q 0 (xup σ 41 0 (21 + 9 * c + (6 + 0)) v) := fun {d σ Q v} => e_lets (k := 6) hc (by decide)
  have l7 : ∀ {d : Nat} {σ : xM} {Q : Int → xM → Prop} {v : Int}, Ev d 136 0 [vR 40 0, vI (c : Int), vI 7, vI v] [] σ Q = Q 0 (xup σ 41 0 (21 + 9 * c + (6 + 1)) v) := fun {d σ Q v} => e_lets (k := 7) hc (by decide)
  have l8 : ∀ {d : Nat} {σ : xM} {Q : Int → xM → Prop} {v : Int}, Ev d 136 0 [vR 40 0, vI (c : Int), vI 8, vI v] [] σ Q = Q 0 (xup σ 41 0 (21 + 9 * c + (6 + 2)) v) := fun {d σ Q v} => e_lets (k := 8) hc (by decide)
  rw [b_M_child_103, if_pos (show (4 : Int) < 9 by decide), e_lets4 hc, show xwr (4 + 1) = 5 from by decide, b_M_child_103, if_pos (show (5 : Int) < 9 by decide), e_lets5 hc, show xwr (5 + 1) = 6 from by decide, b_M_child_103, if_pos (show (6 : Int) < 9 by decide), l6, show xwr (6 + 1) = 7 from by decide, b_M_child_103, if_pos (show (7 : Int) < 9 by decide), l7, show xwr (7 + 1) = 8 from by decide, b_M_child_103, if_pos (show (8 : Int) < 9 by decide), l8, show xwr (8 + 1) = 9 from by decide, b_M_child_103, if_neg (show ¬ (9 : Int) < 9 by decide)]
def qcR (R : Nat → Int) (c : Nat) (x y z : Int) : Nat → Int := qu (qu (qu (qu (qu (qu (qu (qu (qu (qu R 3 ((c : Int) + 1)) (21 + 9 * c + 0) x) (21 + 9 * c + 1) y) (21 + 9 * c + 2) z) (21 + 9 * c + 3) 0) (21 + 9 * c + 4) (-1)) (21 + 9 * c + 5) (-1)) (21 + 9 * c + (6 + 0)) (-1)) (21 + 9 * c + (6 + 1)) (-1)) (21 + 9 * c + (6 + 2)) (-1)
theorem qcR_o {R : Nat → Int} {c : Nat} {x y z : Int} {i : Nat} (h3 : i ≠ 3) (h : i < 21 + 9 * c ∨ 21 + 9 * c + 9 ≤ i) : qcR R c x y z i = R i := by
  unfold qcR
  rw [qu_n (by omega), qu_n (by omega), qu_n (by omega), qu_n (by omega), qu_n (by omega), qu_n (by omega), qu_n (by omega), qu_n (by omega), qu_n (by omega), qu_n (by omega)]
theorem qcR_3 {R : Nat → Int} {c : Nat} {x y z : Int} : qcR R c x y z 3 = (c : Int) + 1 := by
  unfold qcR
  rw [qu_n (by omega), qu_n (by omega), qu_n (by omega), qu_n (by omega), qu_n (by omega), qu_n (by omega), qu_n (by omega), qu_n (by omega), qu_n (by omega), qu_s]
theorem xvl_new {R : Nat → Int} {c : Nat} {x y z : Int} (h : xvl R) (hc : R 3 = (c : Int)) (c7 : c < 7) (hx : 0 ≤ x ∧ x ≤ 9) (hy : 1 ≤ y ∧ y ≤ 9) (hz : z = 0 ∨ z = 1) : xvl (qcR R c x y z) := by
  obtain ⟨v1, v2, v3, v4, v5, v6, v7, v8, v9⟩ := h
  refine ⟨by rw [qcR_o (by omega) (by omega)]; exact v1, by rw [qcR_3]; omega, by rw [qcR_o (by omega) (by omega)]; exact v3, by rw [qcR_o (by omega) (by omega)]; exact v4, by rw [qcR_o (by omega) (by omega)]; exact v5, by rw [qcR_o (by omega) (by omega)]; exact v6, ?_, ?_, ?_⟩
  · intro p hp
    rw [qcR_o (by omega) (by omega)] at hp
    rw [qcR_o (by omega) (by omega), qcR_o (by omega) (by omega)]
    exact v7 p hp
  · intro a ha
    rw [qcR_3] at ha
    rw [qcR_o (i := 2) (by omega) (by omega)]
    by_cases e : a = c
    · subst e
      unfold qcR
      refine ⟨?_, ?_, ?_, ?_, ?_, ?_⟩
      · rw [qu_n (by omega), qu_n (by omega), qu_n (by omega), qu_n (by omega), qu_n (by omega), qu_n (by omega), qu_n (by omega), qu_n (by omega), qu_s]; exact hx
      · rw [qu_n (by omega), qu_n (by omega), qu_n (by omega), qu_n (by omega), qu_n (by omega), qu_n (by omega), qu_n (by omega), qu_s]; exact hy
      · rw [qu_n (by omega), qu_n (by omega), qu_n (by omega), qu_n (by omega), qu_n (by omega), qu_n (by omega), qu_s]; exact hz
      · rw [qu_n (by omega), qu_n (by omega), qu_n (by omega), qu_n (by omega), qu_n (by omega), qu_s]; exact Or.inl rfl
      · rw [qu_n (by omega), qu_n (by omega), qu_n (by omega), qu_n (by omega), qu_s]; omega
      · rw [qu_n (by omega), qu_n (by omega), qu_n (by omega), qu_s]; omega
    · rw [qcR_o (by omega) (by omega), qcR_o (by omega) (by omega), qcR_o (by omega) (by omega), qcR_o (by omega) (by omega), qcR_o (by omega) (by omega), qcR_o (by omega) (by omega)]
      exact v8 a (by omega)
  · intro a ha k hk
    rw [qcR_3] at ha
    rw [qcR_o (i := 2) (by omega) (by omega)]
    by_cases e : a = c
    · subst e
      unfold qcR
      have : k = 0 ∨ k = 1 ∨ k = 2 := by omega
      rcases this with e | e | e <;> subst e
      · rw [qu_n (by omega), qu_n (by omega), qu_s]; omega
      · rw [qu_n (by omega), qu_s]; omega
      · rw [qu_s]; omega
    · rw [qcR_o (by omega) (by omega)]
      exact v9 a (by omega) k hk
theorem inv_child {σ : xM} {c : Nat} {x y z : Int} (h : Inv σ) (hc : σ 41 0 3 = (c : Int)) (c7 : c < 7) (hx : 0 ≤ x ∧ x ≤ 9) (hy : 1 ≤ y ∧ y ≤ 9) (hz : z = 0 ∨ z = 1) {s τ : xM}
    (hs : s = xup (xup (xup (xup (xup (xup (xup (xup (xup (xup σ 5 0 1 ((c : Int) + 1)) 9 c 0 x) 9 c 1 y) 9 c 2 z) 9 c 3 0) 9 c 4 (-1)) 9 c 5 (-1)) 10 c 0 (-1)) 10 c 1 (-1)) 10 c 2 (-1)) (hf : Fr [41] s τ) (hr : τ 41 0 = qcR (σ 41 0) c x y z) : Inv τ := by
  have t5 : ∀ {s : xM} {v : Int}, N1 s (xup s 5 0 1 v) := fun {s v} => N1_up (by decide) (by unfold st1; omega)
  have t9 : ∀ {s : xM} {k : Nat} {v : Int}, N1 s (xup s 9 c k v) := fun {s k v} => N1_up (by decide) (by unfold st1; omega)
  have t10 : ∀ {s : xM} {k : Nat} {v : Int}, N1 s (xup s 10 c k v) := fun {s k v} => N1_up (by decide) (by unfold st1; omega)
  refine inv_fin (l := [41]) (s := s) (R := qcR (σ 41 0) c x y z) h ?_ ⟨xvl_new h.1 hc c7 hx hy hz, ?_⟩ hf rfl rfl hr
  · rw [hs]
    exact N1_trans t5 (N1_trans t9 (N1_trans t9 (N1_trans t9 (N1_trans t9 (N1_trans t9 (N1_trans t9 (N1_trans t10 (N1_trans t10 t10))))))))
  · rw [hs]
    exact xcpl_up10 (k := 2) (xcpl_up10 (k := 1) (xcpl_up10 (k := 0) (xcpl_up9 (k := 5) (xcpl_up9 (k := 4) (xcpl_up9 (k := 3) (xcpl_up9 (k := 2) (xcpl_up9 (k := 1) (xcpl_up9 (k := 0) (xcpl_up5 (k := 1) h.2.1 (by decide)) c7 (by decide)) c7 (by decide)) c7 (by decide)) c7 (by decide)) c7 (by decide)) c7 (by decide)) c7 (by decide)) c7 (by decide)) c7 (by decide)
theorem child_c {d c : Nat} {σ : xM} {Q : Int → xM → Prop} {x y z : Int} (hx : 0 ≤ x ∧ x ≤ 9) (hy : 1 ≤ y ∧ y ≤ 9) (hz : 0 ≤ z ∧ z ≤ 1) (hc : σ 5 0 1 = (c : Int)) (c7 : c < 7) : Ev (d + 1) 5 0 [vR 4 0, vI x, vI y, vI z] [] σ Q = Q (c : Int) (xup (xup (xup (xup (xup (xup (xup (xup (xup (xup σ 5 0 1 ((c : Int) + 1)) 9 c 0 x) 9 c 1 y) 9 c 2 z) 9 c 3 0) 9 c 4 (-1)) 9 c 5 (-1)) 10 c 0 (-1)) 10 c 1 (-1)) 10 c 2 (-1)) := by
  have e1 : xwr ((c : Int) + 1) = (c : Int) + 1 := xw (by omega) (by omega)
  have e2 : xwr ((c : Int) + 1 - 1) = (c : Int) := by rw [xw (by omega) (by omega)]; omega
  rw [b_P_child_0, e_isWithin]
  simp only [xbc]
  rw [if_neg (fun q => q hx), e_isWithin]
  simp only [xbc]
  rw [if_neg (fun q => q hy), e_isWithin]
  simp only [xbc]
  rw [if_neg (fun q => q hz), hc, if_pos (by omega), e1, xup_s, e2, xin (by omega) (by omega), Int.toNat_natCast, startAs_c]
  simp only [xup_t (show (5 : Nat) ≠ 10 by decide), xup_t (show (5 : Nat) ≠ 9 by decide), xup_s, e2]
theorem child_m {d c : Nat} {σ : xM} {Q : Int → xM → Prop} {x y z : Int} (hx : 0 ≤ x ∧ x ≤ 9) (hy : 1 ≤ y ∧ y ≤ 9) (hz : 0 ≤ z ∧ z ≤ 1) (hc : σ 41 0 3 = (c : Int)) (c7 : c < 7) (hQ : ∀ s, Fr [41] σ s → s 41 0 = qcR (σ 41 0) c x y z → Q (c : Int) s) : Ev (d + 1) 150 0 [vR 40 0, vI x, vI y, vI z, vR 0 0, vR 0 0] [] σ Q := by
  have e1 : xwr ((c : Int) + 1) = (c : Int) + 1 := xw (by omega) (by omega)
  have l0 : ∀ {d : Nat} {σ : xM} {Q : Int → xM → Prop} {v : Int}, Ev d 136 0 [vR 40 0, vI (c : Int), vI 0, vI v] [] σ Q = Q 0 (xup σ 41 0 (21 + 9 * c + 0) v) := fun {d σ Q v} => e_lets (k := 0) c7 (by decide)
  have l1 : ∀ {d : Nat} {σ : xM} {Q : Int → xM → Prop} {v : Int}, Ev d 136 0 [vR 40 0, vI (c : Int), vI 1, vI v] [] σ Q = Q 0 (xup σ 41 0 (21 + 9 * c + 1) v) := fun {d σ Q v} => e_lets (k := 1) c7 (by decide)
  have l2 : ∀ {d : Nat} {σ : xM} {Q : Int → xM → Prop} {v : Int}, Ev d 136 0 [vR 40 0, vI (c : Int), vI 2, vI v] [] σ Q = Q 0 (xup σ 41 0 (21 + 9 * c + 2) v) := fun {d σ Q v} => e_lets (k := 2) c7 (by decide)
  have l3 : ∀ {d : Nat} {σ : xM} {Q : Int → xM → Prop} {v : Int}, Ev d 136 0 [vR 40 0, vI (c : Int), vI 3, vI v] [] σ Q = Q 0 (xup σ 41 0 (21 + 9 * c + 3) v) := fun {d σ Q v} => e_lets (k := 3) c7 (by decide)
  rw [b_M_child_0, e_in]
  simp only [xbc]
  rw [if_neg (fun q => q hx), e_in]
  simp only [xbc]
  rw [if_neg (fun q => q hy), e_in]
  simp only [xbc]
  rw [if_neg (fun q => q hz), xin (by decide) (by decide), show Int.toNat 3 = 3 from rfl, hc, if_neg (by omega), xin (by decide) (by decide), xin (by decide) (by decide), e1, l0, l1, l2, l3, startAs_m c7]
  refine hQ _ ?_ ?_
  · exact Fr_trans (Fr_trans (Fr_trans (Fr_trans (Fr_trans (Fr_trans (Fr_trans (Fr_trans (Fr_trans (Fr_up (by decide)) (Fr_up (by decide))) (Fr_up (by decide))) (Fr_up (by decide))) (Fr_up (by decide))) (Fr_up (by decide))) (Fr_up (by decide))) (Fr_up (by decide))) (Fr_up (by decide))) (Fr_up (by decide))
  · simp only [xup_row]
    rfl
theorem call_child {d : Nat} {σ : xM} (h : Inv σ) (x y z : Int) : Ev (d + 9) m_P_child 0 [vR 4 0, vI x, vI y, vI z] [] σ (fun r s => Ev (d + 9) m_M_child 0 [vR 40 0, vI x, vI y, vI z, vR 0 0, vR 0 0] [] s (fun r' s' => r = r' ∧ Inv s')) := by
  suffices q : ∀ K : Int → xM → Prop, (∀ r s, K r s = Ev (d + 9) m_M_child 0 [vR 40 0, vI x, vI y, vI z, vR 0 0, vR 0 0] [] s (fun r' s' => r = r' ∧ Inv s')) → Ev (d + 9) m_P_child 0 [vR 4 0, vI x, vI y, vI z] [] σ K from q _ (fun _ _ => rfl)
  intro K hK
  obtain ⟨n2, hn2, l2⟩ := xvl_p h.1
  obtain ⟨n3, hn3, l3⟩ := xvl_c h.1
  have hk := Inv_Kp h
  have pa := Kp_parts hk
  have ch := Kp_chn hk
  have ⟨p0, p7⟩ := h.1.1
  have ⟨c0, c7⟩ := h.1.2.1
  by_cases hx : 0 ≤ x ∧ x ≤ 9
  · by_cases hy : 1 ≤ y ∧ y ≤ 9
    · by_cases hz : 0 ≤ z ∧ z ≤ 1
      · by_cases h7 : σ 41 0 3 < 7
        · rw [child_c hx hy hz (by rw [ch, hn3]) (by omega), hK]
          refine child_m hx hy hz (c := n3) (by rw [xup_t (by decide), xup_t (by decide), xup_t (by decide), xup_t (by decide), xup_t (by decide), xup_t (by decide), xup_t (by decide), xup_t (by decide), xup_t (by decide), xup_t (by decide), hn3]) (by omega) (fun s hf hr => ⟨rfl, inv_child h hn3 (by omega) hx hy (by omega) rfl hf (by rw [hr, xup_t (by decide), xup_t (by decide), xup_t (by decide), xup_t (by decide), xup_t (by decide), xup_t (by decide), xup_t (by decide), xup_t (by decide), xup_t (by decide), xup_t (by decide)])⟩)
        · simp (disch := omega) only [b_P_child_0, e_isWithin, ch, e_fail4, xbc, ↓reduceIte, ↓if_pos, ↓if_neg, xin, Int.toNat_natCast]
          rw [hK]
          simp (disch := omega) only [b_M_child_0, e_in, show Int.toNat 3 = 3 from rfl, x39, xbc, ↓reduceIte, ↓if_pos, ↓if_neg, xin, Int.toNat_natCast]
          exact fin4 h
      · simp (disch := omega) only [b_P_child_0, e_isWithin, e_fail1, xbc, ↓reduceIte, ↓if_pos, ↓if_neg, xin, Int.toNat_natCast]
        rw [hK]
        simp (disch := omega) only [b_M_child_0, e_in, x39, xbc, ↓reduceIte, ↓if_pos, ↓if_neg, xin, Int.toNat_natCast]
        exact fin1 h
    · simp (disch := omega) only [b_P_child_0, e_isWithin, e_fail1, xbc, ↓reduceIte, ↓if_pos, ↓if_neg, xin, Int.toNat_natCast]
      rw [hK]
      simp (disch := omega) only [b_M_child_0, e_in, x39, xbc, ↓reduceIte, ↓if_pos, ↓if_neg, xin, Int.toNat_natCast]
      exact fin1 h
  · simp (disch := omega) only [b_P_child_0, e_isWithin, e_fail1, xbc, ↓reduceIte, ↓if_pos, ↓if_neg, xin, Int.toNat_natCast]
    rw [hK]
    simp (disch := omega) only [b_M_child_0, e_in, x39, xbc, ↓reduceIte, ↓if_pos, ↓if_neg, xin, Int.toNat_natCast]
    exact fin1 h

