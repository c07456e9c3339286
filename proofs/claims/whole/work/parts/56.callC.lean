/-! calls: what is set -/
theorem e_holder {d n : Nat} {σ : xM} {R : Nat → Int} {Q : Int → xM → Prop} {p : Int} (h : Kp σ R) (hn : R 3 = (n : Int)) : Ev d 51 0 [vR 5 0, vI p, vR 0 0] [] σ Q = Q (qwho R p n 0) σ := by
  rw [b_S_holderOf_0]
  exact e_who h hn n 0 (by omega)
theorem m_whoHas {d n : Nat} {σ : xM} {Q : Int → xM → Prop} {p : Int} (hn : σ 41 0 3 = (n : Int)) (h7 : n ≤ 7) : Ev (d + 1) 143 0 [vR 40 0, vI p, vR 0 0] [] σ Q = Q (qwho (σ 41 0) p n 0) σ := by
  rw [b_M_whoHas_0]
  exact m_who hn h7 n 0 (by omega)
theorem e_becomes {d j : Nat} {σ : xM} {Q : Int → xM → Prop} {v : Int} (h : j < 410) : Ev d 133 0 [vR 40 0, vI (j : Int), vI v, vR 0 0] [] σ Q = Q (σ 41 0 j) (xup σ 41 0 j v) := by
  rw [b_M_becomes_0, xin (by omega) (by omega), xin (by omega) (by omega), Int.toNat_natCast]
theorem inv_set9 {σ s : xM} {c k : Nat} {v : Int} (h : Inv σ) (hc : c < 7) (hk : k < 6) (hv : xvl (qu (σ 41 0) (21 + 9 * c + k) v)) (hs : s = xup σ 9 c k v) : Inv (xup s 41 0 (21 + 9 * c + k) v) := by
  subst hs
  have e : xup (xup σ 9 c k v) 41 0 (21 + 9 * c + k) v 41 0 = qu (σ 41 0) (21 + 9 * c + k) v := by rw [xup_row, xup_t (by decide)]
  refine Inv_now h (N1_trans (N1_up (by decide) (by unfold st1; omega)) (N1_up (by decide) (by unfold st1; omega))) ?_
  rw [e]
  exact Kp_sc ⟨hv, xcpl_up9 h.2.1 hc hk⟩ (Fr_up (l := [41]) (by decide)) rfl
theorem inv_set10 {σ s : xM} {c k : Nat} {v : Int} (h : Inv σ) (hc : c < 7) (hk : k < 3) (hv : xvl (qu (σ 41 0) (21 + 9 * c + (6 + k)) v)) (hs : s = xup σ 10 c k v) : Inv (xup s 41 0 (21 + 9 * c + (6 + k)) v) := by
  subst hs
  have e : xup (xup σ 10 c k v) 41 0 (21 + 9 * c + (6 + k)) v 41 0 = qu (σ 41 0) (21 + 9 * c + (6 + k)) v := by rw [xup_row, xup_t (by decide)]
  refine Inv_now h (N1_trans (N1_up (by decide) (by unfold st1; omega)) (N1_up (by decide) (by unfold st1; omega))) ?_
  rw [e]
  exact Kp_sc ⟨hv, xcpl_up10 h.2.1 hc hk⟩ (Fr_up (l := [41]) (by decide)) rfl
theorem xch3 {c : Nat} (hc : c < 7) : xwr (xwr (21 + xwr (9 * (c : Int))) + 3) = ((21 + 9 * c + 3 : Nat) : Int) := xchx (k := 3) hc (by decide)
theorem xch5 {c : Nat} (hc : c < 7) : xwr (xwr (21 + xwr (9 * (c : Int))) + 5) = ((21 + 9 * c + 5 : Nat) : Int) := xchx (k := 5) hc (by decide)
theorem xch6 {c k : Nat} (hc : c < 7) (hk : k < 3) : xwr (xwr (xwr (21 + xwr (9 * (c : Int))) + 6) + (k : Int)) = ((21 + 9 * c + (6 + k) : Nat) : Int) := by
  rw [show xwr (xwr (21 + xwr (9 * (c : Int))) + 6) = ((21 + 9 * c + 6 : Nat) : Int) from xchx (k := 6) hc (by decide), xw (by omega) (by omega)]
  omega
theorem call_falls {d : Nat} {σ : xM} (h : Inv σ) (x y : Int) : Ev (d + 9) m_P_falls 0 [vR 4 0, vI x, vI y, vR 0 0] [] σ (fun r s => Ev (d + 9) m_M_falls 0 [vR 40 0, vI x, vI y] [] s (fun r' s' => r = r' ∧ Inv s')) := by
  suffices q : ∀ K : Int → xM → Prop, (∀ r s, K r s = Ev (d + 9) m_M_falls 0 [vR 40 0, vI x, vI y] [] s (fun r' s' => r = r' ∧ Inv s')) → Ev (d + 9) m_P_falls 0 [vR 4 0, vI x, vI y, vR 0 0] [] σ K from q _ (fun _ _ => rfl)
  intro K hK
  obtain ⟨n2, hn2, l2⟩ := xvl_p h.1
  obtain ⟨n3, hn3, l3⟩ := xvl_c h.1
  have hk := Inv_Kp h
  have pa := Kp_parts hk
  have ch := Kp_chn hk
  have ⟨p0, p7⟩ := h.1.1
  have ⟨c0, c7⟩ := h.1.2.1
  by_cases hx : 0 ≤ x ∧ x < σ 41 0 3
  · obtain ⟨P, hP⟩ : ∃ P : Nat, x = (P : Int) := ⟨x.toNat, by omega⟩
    subst hP
    have hPp := hx.2
    have P7 := xvl_c7 h.1 hPp
    by_cases hy : 0 ≤ y ∧ y ≤ 1
    · simp (disch := omega) only [b_P_falls_0, e_hasChild, ch, e_isWithin, Kp_ch hk P7 (show 3 < 6 by decide), xbc, ↓reduceIte, ↓if_pos, ↓if_neg, xin, Int.toNat_natCast]
      rw [hK]
      obtain ⟨s, hs⟩ : ∃ s, s = xup σ 9 P 3 y := ⟨_, rfl⟩
      rw [← hs]
      have e41 : s 41 = σ 41 := by rw [hs, xup_t (by decide)]
      have hv : xvl (s 41 0) := by rw [e41]; exact h.1
      rw [← e41] at p0 p7 c0 c7 hx
      simp (disch := omega) only [b_M_falls_0, e_isChild, e_in, xch3 P7, e_becomes, xbc, ↓reduceIte, ↓if_pos, ↓if_neg, xin, Int.toNat_natCast]
      exact ⟨by rw [e41], inv_set9 h P7 (by decide) (xvl_ch h.1 (by decide) (by omega) (by omega) (by omega) (by omega) (by omega)) hs⟩
    · simp (disch := omega) only [b_P_falls_0, e_hasChild, ch, e_isWithin, e_fail1, xbc, ↓reduceIte, ↓if_pos, ↓if_neg, xin, Int.toNat_natCast]
      rw [hK]
      simp (disch := omega) only [b_M_falls_0, e_isChild9, e_in, x39, xbc, ↓reduceIte, ↓if_pos, ↓if_neg, xin, Int.toNat_natCast]
      exact fin1 h
  · simp (disch := omega) only [b_P_falls_0, e_hasChild, ch, e_isWithin, e_fail1, xbc, ↓reduceIte, ↓if_pos, ↓if_neg, xin, Int.toNat_natCast]
    rw [hK]
    simp (disch := omega) only [b_M_falls_0, e_isChild9, e_in, x39, xbc, ↓reduceIte, ↓if_pos, ↓if_neg, xin, Int.toNat_natCast]
    exact fin1 h

theorem call_wishes {d : Nat} {σ : xM} (h : Inv σ) (x y z : Int) : Ev (d + 9) m_P_wishes 0 [vR 4 0, vI x, vI y, vI z, vR 0 0] [] σ (fun r s => Ev (d + 9) m_M_wishes 0 [vR 40 0, vI x, vI y, vI z, vR 0 0] [] s (fun r' s' => r = r' ∧ Inv s')) := by
  suffices q : ∀ K : Int → xM → Prop, (∀ r s, K r s = Ev (d + 9) m_M_wishes 0 [vR 40 0, vI x, vI y, vI z, vR 0 0] [] s (fun r' s' => r = r' ∧ Inv s')) → Ev (d + 9) m_P_wishes 0 [vR 4 0, vI x, vI y, vI z, vR 0 0] [] σ K from q _ (fun _ _ => rfl)
  intro K hK
  obtain ⟨n2, hn2, l2⟩ := xvl_p h.1
  obtain ⟨n3, hn3, l3⟩ := xvl_c h.1
  have hk := Inv_Kp h
  have pa := Kp_parts hk
  have ch := Kp_chn hk
  have ⟨p0, p7⟩ := h.1.1
  have ⟨c0, c7⟩ := h.1.2.1
  by_cases hx : 0 ≤ x ∧ x < σ 41 0 3
  · obtain ⟨P, hP⟩ : ∃ P : Nat, x = (P : Int) := ⟨x.toNat, by omega⟩
    subst hP
    have hPp := hx.2
    have P7 := xvl_c7 h.1 hPp
    by_cases hy : 0 ≤ y ∧ y ≤ 2
    · obtain ⟨k, hk'⟩ : ∃ k : Nat, y = (k : Int) := ⟨y.toNat, by omega⟩
      subst hk'
      have k3 : k < 3 := by omega
      by_cases hz : z = -1 ∨ 0 ≤ z ∧ z < σ 41 0 2
      · simp (disch := omega) only [b_P_wishes_0, e_hasChild, ch, pa, e_isWithin, e_hasPartN, Kp_wi hk P7 k3, xbc, ↓reduceIte, ↓if_pos, ↓if_neg, xin, Int.toNat_natCast]
        rw [hK]
        obtain ⟨s, hs⟩ : ∃ s, s = xup σ 10 P k z := ⟨_, rfl⟩
        rw [← hs]
        have e41 : s 41 = σ 41 := by rw [hs, xup_t (by decide)]
        have hv : xvl (s 41 0) := by rw [e41]; exact h.1
        rw [← e41] at p0 p7 c0 c7 hx hz
        have hI := inv_set10 h P7 k3 (v := z) (xvl_ch h.1 (by omega) (by omega) (by omega) (by omega) (by omega) (by rw [← e41]; omega)) hs
        by_cases z0 : z = -1
        · simp (disch := omega) only [b_M_wishes_0, e_isChild, e_isPart, e_in, xch6 P7 k3, e_becomes, xbc, ↓reduceIte, ↓if_pos, ↓if_neg, xin, Int.toNat_natCast]
          exact ⟨by rw [e41], hI⟩
        · simp (disch := omega) only [b_M_wishes_0, e_isChild, e_isPart, e_in, xch6 P7 k3, e_becomes, xbc, ↓reduceIte, ↓if_pos, ↓if_neg, xin, Int.toNat_natCast]
          exact ⟨by rw [e41], hI⟩
      · simp (disch := omega) only [b_P_wishes_0, e_hasChild, ch, pa, e_isWithin, e_hasPartN, e_fail1, xbc, ↓reduceIte, ↓if_pos, ↓if_neg, xin, Int.toNat_natCast]
        rw [hK]
        simp (disch := omega) only [b_M_wishes_0, e_isChild9, e_isPart9, e_in, x39, xbc, ↓reduceIte, ↓if_pos, ↓if_neg, xin, Int.toNat_natCast]
        exact fin1 h
    · simp (disch := omega) only [b_P_wishes_0, e_hasChild, ch, pa, e_isWithin, e_hasPartN, e_fail1, xbc, ↓reduceIte, ↓if_pos, ↓if_neg, xin, Int.toNat_natCast]
      rw [hK]
      simp (disch := omega) only [b_M_wishes_0, e_isChild9, e_isPart9, e_in, x39, xbc, ↓reduceIte, ↓if_pos, ↓if_neg, xin, Int.toNat_natCast]
      exact fin1 h
  · simp (disch := omega) only [b_P_wishes_0, e_hasChild, ch, pa, e_isWithin, e_hasPartN, e_fail1, xbc, ↓reduceIte, ↓if_pos, ↓if_neg, xin, Int.toNat_natCast]
    rw [hK]
    simp (disch := omega) only [b_M_wishes_0, e_isChild9, e_isPart9, e_in, x39, xbc, ↓reduceIte, ↓if_pos, ↓if_neg, xin, Int.toNat_natCast]
    exact fin1 h

theorem m_whoHas39 {d n k : Nat} {σ : xM} {Q : Int → xM → Prop} {p v : Int} (hn : σ 41 0 3 = (n : Int)) (h7 : n ≤ 7) : Ev (d + 1) 143 0 [vR 40 0, vI p, vR 0 0] [] (xup σ 39 0 k v) Q = Q (qwho (σ 41 0) p n 0) (xup σ 39 0 k v) := by
  rw [m_whoHas (by rw [x39]; exact hn) h7, x39]
theorem m_may39 {d c p k : Nat} {σ : xM} {Q : Int → xM → Prop} {v : Int} (h : xvl (σ 41 0)) (hc : (c : Int) < σ 41 0 3) (hp : (p : Int) < σ 41 0 2) : Ev (d + 1) 137 0 [vR 40 0, vI (c : Int), vI (p : Int), vR 0 0, vR 0 0] [] (xup σ 39 0 k v) Q = Q (qmy (σ 41 0) c p) (xup σ 39 0 k v) := by
  rw [m_may (by rw [x39]; exact h) (by rw [x39]; exact hc) (by rw [x39]; exact hp), x39]
theorem call_cast {d : Nat} {σ : xM} (h : Inv σ) (x y : Int) : Ev (d + 9) m_P_cast 0 [vR 4 0, vI x, vI y, vR 0 0] [] σ (fun r s => Ev (d + 9) m_M_cast 0 [vR 40 0, vI x, vI y, vR 0 0, vR 0 0] [] s (fun r' s' => r = r' ∧ Inv s')) := by
  suffices q : ∀ K : Int → xM → Prop, (∀ r s, K r s = Ev (d + 9) m_M_cast 0 [vR 40 0, vI x, vI y, vR 0 0, vR 0 0] [] s (fun r' s' => r = r' ∧ Inv s')) → Ev (d + 9) m_P_cast 0 [vR 4 0, vI x, vI y, vR 0 0] [] σ K from q _ (fun _ _ => rfl)
  intro K hK
  obtain ⟨n2, hn2, l2⟩ := xvl_p h.1
  obtain ⟨n3, hn3, l3⟩ := xvl_c h.1
  have hk := Inv_Kp h
  have pa := Kp_parts hk
  have ch := Kp_chn hk
  have ⟨p0, p7⟩ := h.1.1
  have ⟨c0, c7⟩ := h.1.2.1
  by_cases hx : 0 ≤ x ∧ x < σ 41 0 3
  · obtain ⟨P, hP⟩ : ∃ P : Nat, x = (P : Int) := ⟨x.toNat, by omega⟩
    subst hP
    have hPp := hx.2
    have P7 := xvl_c7 h.1 hPp
    by_cases hy : y = -1
    · simp (disch := omega) only [b_P_cast_0, e_hasChild, ch, pa, e_hasPartN, Kp_ch hk P7 (show 5 < 6 by decide), xbc, ↓reduceIte, ↓if_pos, ↓if_neg, xin, Int.toNat_natCast]
      rw [hK]
      obtain ⟨s, hs⟩ : ∃ s, s = xup σ 9 P 5 y := ⟨_, rfl⟩
      rw [← hs]
      have e41 : s 41 = σ 41 := by rw [hs, xup_t (by decide)]
      have hv : xvl (s 41 0) := by rw [e41]; exact h.1
      rw [← e41] at p0 p7 c0 c7 hx 
      have hI := inv_set9 h P7 (by decide) (k := 5) (v := y) (xvl_ch h.1 (by decide) (by omega) (by omega) (by omega) (by omega) (by rw [← e41]; omega)) hs
      simp (disch := omega) only [b_M_cast_0, e_isChild, e_isPart, xch5 P7, e_becomes, xbc, ↓reduceIte, ↓if_pos, ↓if_neg, xin, Int.toNat_natCast]
      exact ⟨by rw [e41], hI⟩
    · by_cases hz : 0 ≤ y ∧ y < σ 41 0 2
      · obtain ⟨T, hT⟩ : ∃ T : Nat, y = (T : Int) := ⟨y.toNat, by omega⟩
        subst hT
        have hTp := hz.2
        have m01 := qmy01 (σ 41 0) P T
        have wr := qwho_rg (R := σ 41 0) (p := (T : Int)) (f := n3) (c := 0)
        have wr' : qwho (σ 41 0) (T : Int) n3 0 = -1 ∨ 0 ≤ qwho (σ 41 0) (T : Int) n3 0 := by
          rcases wr with e | ⟨j, e, -⟩
          · exact Or.inl e
          · rw [e]
            exact Or.inr (by omega)
        by_cases em : qmy (σ 41 0) P T = 0
        · simp (disch := omega) only [b_P_cast_0, e_hasChild, ch, pa, e_hasPartN, Kp_ch hk P7 (show 5 < 6 by decide), e_holder hk hn3, e_may hk hPp hTp, e_fail3, xbc, ↓reduceIte, ↓if_pos, ↓if_neg, xin, Int.toNat_natCast]
          rw [hK]
          simp (disch := omega) only [b_M_cast_0, e_isChild9, e_isPart9, x39, m_whoHas39 hn3 l3, m_may39 h.1 hPp hTp, xbc, ↓reduceIte, ↓if_pos, ↓if_neg, xin, Int.toNat_natCast]
          exact fin3 h
        · by_cases ew : qwho (σ 41 0) (T : Int) n3 0 = -1
          · simp (disch := omega) only [b_P_cast_0, e_hasChild, ch, pa, e_hasPartN, Kp_ch hk P7 (show 5 < 6 by decide), e_holder hk hn3, e_may hk hPp hTp, xbc, ↓reduceIte, ↓if_pos, ↓if_neg, xin, Int.toNat_natCast]
            rw [hK]
            obtain ⟨s, hs⟩ : ∃ s, s = xup σ 9 P 5 (T : Int) := ⟨_, rfl⟩
            rw [← hs]
            have e41 : s 41 = σ 41 := by rw [hs, xup_t (by decide)]
            have hv : xvl (s 41 0) := by rw [e41]; exact h.1
            rw [← e41] at p0 p7 c0 c7 hx hPp hTp hz em ew hn3
            have hI := inv_set9 h P7 (by decide) (k := 5) (v := (T : Int)) (xvl_ch h.1 (by decide) (by omega) (by omega) (by omega) (by omega) (by rw [← e41]; omega)) hs
            simp (disch := omega) only [b_M_cast_0, e_isChild, e_isPart, xch5 P7, e_becomes, m_whoHas hn3 l3, m_may hv hPp hTp, xbc, ↓reduceIte, ↓if_pos, ↓if_neg, xin, Int.toNat_natCast]
            exact ⟨by rw [e41], hI⟩
          · by_cases ec : qwho (σ 41 0) (T : Int) n3 0 = (P : Int)
            · simp (disch := omega) only [b_P_cast_0, e_hasChild, ch, pa, e_hasPartN, Kp_ch hk P7 (show 5 < 6 by decide), e_holder hk hn3, e_may hk hPp hTp, xbc, ↓reduceIte, ↓if_pos, ↓if_neg, xin, Int.toNat_natCast]
              rw [hK]
              obtain ⟨s, hs⟩ : ∃ s, s = xup σ 9 P 5 (T : Int) := ⟨_, rfl⟩
              rw [← hs]
              have e41 : s 41 = σ 41 := by rw [hs, xup_t (by decide)]
              have hv : xvl (s 41 0) := by rw [e41]; exact h.1
              rw [← e41] at p0 p7 c0 c7 hx hPp hTp hz em ew ec hn3
              have hI := inv_set9 h P7 (by decide) (k := 5) (v := (T : Int)) (xvl_ch h.1 (by decide) (by omega) (by omega) (by omega) (by omega) (by rw [← e41]; omega)) hs
              simp (disch := omega) only [b_M_cast_0, e_isChild, e_isPart, xch5 P7, e_becomes, m_whoHas hn3 l3, m_may hv hPp hTp, xbc, ↓reduceIte, ↓if_pos, ↓if_neg, xin, Int.toNat_natCast]
              exact ⟨by rw [e41], hI⟩
            · simp (disch := omega) only [b_P_cast_0, e_hasChild, ch, pa, e_hasPartN, Kp_ch hk P7 (show 5 < 6 by decide), e_holder hk hn3, e_may hk hPp hTp, e_fail3, xbc, ↓reduceIte, ↓if_pos, ↓if_neg, xin, Int.toNat_natCast]
              rw [hK]
              simp (disch := omega) only [b_M_cast_0, e_isChild9, e_isPart9, x39, m_whoHas39 hn3 l3, m_may39 h.1 hPp hTp, xbc, ↓reduceIte, ↓if_pos, ↓if_neg, xin, Int.toNat_natCast]
              exact fin3 h
      · simp (disch := omega) only [b_P_cast_0, e_hasChild, ch, pa, e_hasPartN, e_fail1, xbc, ↓reduceIte, ↓if_pos, ↓if_neg, xin, Int.toNat_natCast]
        rw [hK]
        simp (disch := omega) only [b_M_cast_0, e_isChild9, e_isPart9, x39, xbc, ↓reduceIte, ↓if_pos, ↓if_neg, xin, Int.toNat_natCast]
        exact fin1 h
  · simp (disch := omega) only [b_P_cast_0, e_hasChild, ch, pa, e_hasPartN, e_fail1, xbc, ↓reduceIte, ↓if_pos, ↓if_neg, xin, Int.toNat_natCast]
    rw [hK]
    simp (disch := omega) only [b_M_cast_0, e_isChild9, e_isPart9, x39, xbc, ↓reduceIte, ↓if_pos, ↓if_neg, xin, Int.toNat_natCast]
    exact fin1 h

theorem call_body {d : Nat} {σ : xM} (h : Inv σ) (x : Int) : Ev (d + 9) m_P_body 0 [vR 4 0, vI x] [] σ (fun r s => Ev (d + 9) m_M_body 0 [vR 40 0, vI x] [] s (fun r' s' => r = r' ∧ Inv s')) := by
  suffices q : ∀ K : Int → xM → Prop, (∀ r s, K r s = Ev (d + 9) m_M_body 0 [vR 40 0, vI x] [] s (fun r' s' => r = r' ∧ Inv s')) → Ev (d + 9) m_P_body 0 [vR 4 0, vI x] [] σ K from q _ (fun _ _ => rfl)
  intro K hK
  obtain ⟨n2, hn2, l2⟩ := xvl_p h.1
  obtain ⟨n3, hn3, l3⟩ := xvl_c h.1
  have hk := Inv_Kp h
  have pa := Kp_parts hk
  have ch := Kp_chn hk
  have ⟨p0, p7⟩ := h.1.1
  have ⟨c0, c7⟩ := h.1.2.1
  obtain ⟨v1, ⟨v2, v3⟩, v4⟩ := h.2.2.2.2.2
  have ev : xwr (σ 40 0 6 - 1) = σ 40 0 6 - 1 := xw (by omega) (by omega)
  by_cases hx : 0 ≤ x ∧ x < σ 40 0 6
  · obtain ⟨P, hP⟩ : ∃ P : Nat, x = (P : Int) := ⟨x.toNat, by omega⟩
    subst hP
    simp (disch := omega) only [b_P_body_0, v1, v4 P (show P < 30 by omega), xbc, ↓reduceIte, ↓if_pos, ↓if_neg, xin, Int.toNat_natCast]
    rw [hK]
    simp (disch := omega) only [b_M_body_0, e_in, ev, xbc, ↓reduceIte, ↓if_pos, ↓if_neg, xin, Int.toNat_natCast]
    exact ⟨trivial, h⟩
  · have e40 : xup σ 39 0 2 (xwr (σ 39 0 2 + 1)) 40 = σ 40 := xup_t (by decide)
    by_cases x0 : x < 0
    · simp (disch := omega) only [b_P_body_0, v1, e_fail2, xbc, ↓reduceIte, ↓if_pos, ↓if_neg, xin, Int.toNat_natCast]
      rw [hK]
      simp (disch := omega) only [b_M_body_0, e_in, e40, ev, xbc, ↓reduceIte, ↓if_pos, ↓if_neg, xin, Int.toNat_natCast]
      exact fin2 h
    · simp (disch := omega) only [b_P_body_0, v1, e_fail2, xbc, ↓reduceIte, ↓if_pos, ↓if_neg, xin, Int.toNat_natCast]
      rw [hK]
      simp (disch := omega) only [b_M_body_0, e_in, e40, ev, xbc, ↓reduceIte, ↓if_pos, ↓if_neg, xin, Int.toNat_natCast]
      exact fin2 h

