/-! calls: what is asked -/
theorem fin1 {d : Nat} {σ : xM} (h : Inv σ) : Ev d 124 0 [vR 40 0, vI (-1000000001)] [] (xup σ 39 0 1 (xwr (σ 39 0 1 + 1))) (fun r' s' => (-1000000001 : Int) = r' ∧ Inv s') := by
  rw [e_err1]
  exact ⟨rfl, Inv_err h (by decide) (by decide) (by rw [xup_t (by decide)])⟩
theorem fin2 {d : Nat} {σ : xM} (h : Inv σ) : Ev d 124 0 [vR 40 0, vI (-1000000002)] [] (xup σ 39 0 2 (xwr (σ 39 0 2 + 1))) (fun r' s' => (-1000000002 : Int) = r' ∧ Inv s') := by
  rw [e_err2]
  exact ⟨rfl, Inv_err h (by decide) (by decide) (by rw [xup_t (by decide)])⟩
theorem fin3 {d : Nat} {σ : xM} (h : Inv σ) : Ev d 124 0 [vR 40 0, vI (-1000000003)] [] (xup σ 39 0 3 (xwr (σ 39 0 3 + 1))) (fun r' s' => (-1000000003 : Int) = r' ∧ Inv s') := by
  rw [e_err3]
  exact ⟨rfl, Inv_err h (by decide) (by decide) (by rw [xup_t (by decide)])⟩
theorem fin4 {d : Nat} {σ : xM} (h : Inv σ) : Ev d 124 0 [vR 40 0, vI (-1000000004)] [] (xup σ 39 0 4 (xwr (σ 39 0 4 + 1))) (fun r' s' => (-1000000004 : Int) = r' ∧ Inv s') := by
  rw [e_err4]
  exact ⟨rfl, Inv_err h (by decide) (by decide) (by rw [xup_t (by decide)])⟩
theorem fin5 {d : Nat} {σ : xM} (h : Inv σ) : Ev d 124 0 [vR 40 0, vI (-1000000005)] [] (xup σ 39 0 5 (xwr (σ 39 0 5 + 1))) (fun r' s' => (-1000000005 : Int) = r' ∧ Inv s') := by
  rw [e_err5]
  exact ⟨rfl, Inv_err h (by decide) (by decide) (by rw [xup_t (by decide)])⟩
theorem fin6 {d : Nat} {σ : xM} (h : Inv σ) : Ev d 124 0 [vR 40 0, vI (-1000000006)] [] (xup σ 39 0 6 (xwr (σ 39 0 6 + 1))) (fun r' s' => (-1000000006 : Int) = r' ∧ Inv s') := by
  rw [e_err6]
  exact ⟨rfl, Inv_err h (by decide) (by decide) (by rw [xup_t (by decide)])⟩
theorem x39 {σ : xM} {k : Nat} {v : Int} : xup σ 39 0 k v 41 = σ 41 := xup_t (by decide)
theorem e_isPart9 {d k : Nat} {σ : xM} {Q : Int → xM → Prop} {x v : Int} (h0 : 0 ≤ σ 41 0 2) (h7 : σ 41 0 2 ≤ 7) : Ev (d + 1) 131 0 [vR 40 0, vI x] [] (xup σ 39 0 k v) Q = Q (if 0 ≤ x ∧ x < σ 41 0 2 then 1 else 0) (xup σ 39 0 k v) := by
  rw [← x39 (σ := σ) (k := k) (v := v)] at h0 h7
  rw [e_isPart h0 h7, x39]
theorem e_isChild9 {d k : Nat} {σ : xM} {Q : Int → xM → Prop} {x v : Int} (h0 : 0 ≤ σ 41 0 3) (h7 : σ 41 0 3 ≤ 7) : Ev (d + 1) 132 0 [vR 40 0, vI x] [] (xup σ 39 0 k v) Q = Q (if 0 ≤ x ∧ x < σ 41 0 3 then 1 else 0) (xup σ 39 0 k v) := by
  rw [← x39 (σ := σ) (k := k) (v := v)] at h0 h7
  rw [e_isChild h0 h7, x39]
theorem call_partIs {d : Nat} {σ : xM} (h : Inv σ) (x y : Int) : Ev (d + 9) m_P_partIs 0 [vR 4 0, vI x, vI y] [] σ (fun r s => Ev (d + 9) m_M_partIs 0 [vR 40 0, vI x, vI y] [] s (fun r' s' => r = r' ∧ Inv s')) := by
  suffices q : ∀ K : Int → xM → Prop, (∀ r s, K r s = Ev (d + 9) m_M_partIs 0 [vR 40 0, vI x, vI y] [] s (fun r' s' => r = r' ∧ Inv s')) → Ev (d + 9) m_P_partIs 0 [vR 4 0, vI x, vI y] [] σ K from q _ (fun _ _ => rfl)
  intro K hK
  obtain ⟨n2, hn2, l2⟩ := xvl_p h.1
  obtain ⟨n3, hn3, l3⟩ := xvl_c h.1
  have hk := Inv_Kp h
  have pa := Kp_parts hk
  have ch := Kp_chn hk
  have ⟨p0, p7⟩ := h.1.1
  have ⟨c0, c7⟩ := h.1.2.1
  by_cases hx : 0 ≤ x ∧ x < σ 41 0 2
  · obtain ⟨P, hP⟩ : ∃ P : Nat, x = (P : Int) := ⟨x.toNat, by omega⟩
    subst hP
    have hPp := hx.2
    have P7 := xvl_p7 h.1 hPp
    by_cases hy : 0 ≤ y ∧ y ≤ 4
    · have : y = 0 ∨ y = 1 ∨ y = 2 ∨ y = 3 ∨ y = 4 := by omega
      rcases this with e | e | e | e | e <;> subst e
      · simp (disch := omega) only [b_P_partIs_0, e_hasPart, pa, Kp_kind hk P7, xbc, ↓reduceIte, ↓if_pos, ↓if_neg, xin, Int.toNat_natCast]
        rw [hK]
        simp (disch := omega) only [b_M_partIs_0, e_isPart, e_of0 P7, xbc, ↓reduceIte, ↓if_pos, ↓if_neg, xin, Int.toNat_natCast]
        exact ⟨trivial, h⟩
      · simp (disch := omega) only [b_P_partIs_0, e_hasPart, pa, Kp_m hk P7, xbc, ↓reduceIte, ↓if_pos, ↓if_neg, xin, Int.toNat_natCast]
        rw [hK]
        simp (disch := omega) only [b_M_partIs_0, e_isPart, e_of1 P7, xbc, ↓reduceIte, ↓if_pos, ↓if_neg, xin, Int.toNat_natCast]
        exact ⟨trivial, h⟩
      · simp (disch := omega) only [b_P_partIs_0, e_hasPart, pa, Kp_year hk, e_lines hk hPp, xbc, ↓reduceIte, ↓if_pos, ↓if_neg, xin, Int.toNat_natCast]
        rw [hK]
        simp (disch := omega) only [b_M_partIs_0, e_isPart, m_lines h.1 hPp, xbc, ↓reduceIte, ↓if_pos, ↓if_neg, xin, Int.toNat_natCast]
        exact ⟨trivial, h⟩
      · simp (disch := omega) only [b_P_partIs_0, e_hasPart, pa, b_S_holderOf_0, xbc, ↓reduceIte, ↓if_pos, ↓if_neg, xin, Int.toNat_natCast]
        refine (e_who (p := (P : Int)) hk hn3 n3 0 (by omega)).mpr ?_
        rw [hK]
        simp (disch := omega) only [b_M_partIs_0, e_isPart, b_M_whoHas_0, xbc, ↓reduceIte, ↓if_pos, ↓if_neg, xin, Int.toNat_natCast]
        exact (m_who (p := (P : Int)) hn3 l3 n3 0 (by omega)).mpr ⟨rfl, h⟩
      · simp (disch := omega) only [b_P_partIs_0, e_hasPart, pa, b_S_childrenFor_0, xbc, ↓reduceIte, ↓if_pos, ↓if_neg, xin, Int.toNat_natCast]
        refine (e_chFor hk hn3 hPp n3 0 (by omega)).mpr ?_
        rw [hK]
        simp (disch := omega) only [b_M_partIs_0, e_isPart, b_M_whoMay_0, xbc, ↓reduceIte, ↓if_pos, ↓if_neg, xin, Int.toNat_natCast]
        exact (m_whoMay h.1 hn3 hPp n3 0 (by omega)).mpr ⟨rfl, h⟩
    · by_cases y0 : y < 0
      · simp (disch := omega) only [b_P_partIs_0, e_hasPart, pa, e_fail1, xbc, ↓reduceIte, ↓if_pos, ↓if_neg, xin, Int.toNat_natCast]
        rw [hK]
        simp (disch := omega) only [b_M_partIs_0, e_isPart9, x39, xbc, ↓reduceIte, ↓if_pos, ↓if_neg, xin, Int.toNat_natCast]
        exact fin1 h
      · simp (disch := omega) only [b_P_partIs_0, e_hasPart, pa, e_fail1, xbc, ↓reduceIte, ↓if_pos, ↓if_neg, xin, Int.toNat_natCast]
        rw [hK]
        simp (disch := omega) only [b_M_partIs_0, e_isPart9, x39, xbc, ↓reduceIte, ↓if_pos, ↓if_neg, xin, Int.toNat_natCast]
        exact fin1 h
  · simp (disch := omega) only [b_P_partIs_0, e_hasPart, pa, e_fail1, xbc, ↓reduceIte, ↓if_pos, ↓if_neg, xin, Int.toNat_natCast]
    rw [hK]
    simp (disch := omega) only [b_M_partIs_0, e_isPart9, x39, xbc, ↓reduceIte, ↓if_pos, ↓if_neg, xin, Int.toNat_natCast]
    exact fin1 h

theorem xe_ab6 {d c : Nat} {σ : xM} {Q : Int → xM → Prop} (hc : c < 7) : Ev d 135 0 [vR 40 0, vI (c : Int), vI 6] [] σ Q = Q (σ 41 0 (21 + 9 * c + (6 + 0))) σ := e_ab (k := 6) hc (by decide)
theorem xe_ab7 {d c : Nat} {σ : xM} {Q : Int → xM → Prop} (hc : c < 7) : Ev d 135 0 [vR 40 0, vI (c : Int), vI 7] [] σ Q = Q (σ 41 0 (21 + 9 * c + (6 + 1))) σ := e_ab (k := 7) hc (by decide)
theorem xe_ab8 {d c : Nat} {σ : xM} {Q : Int → xM → Prop} (hc : c < 7) : Ev d 135 0 [vR 40 0, vI (c : Int), vI 8] [] σ Q = Q (σ 41 0 (21 + 9 * c + (6 + 2))) σ := e_ab (k := 8) hc (by decide)
theorem call_childIs {d : Nat} {σ : xM} (h : Inv σ) (x y : Int) : Ev (d + 9) m_P_childIs 0 [vR 4 0, vI x, vI y] [] σ (fun r s => Ev (d + 9) m_M_childIs 0 [vR 40 0, vI x, vI y] [] s (fun r' s' => r = r' ∧ Inv s')) := by
  suffices q : ∀ K : Int → xM → Prop, (∀ r s, K r s = Ev (d + 9) m_M_childIs 0 [vR 40 0, vI x, vI y] [] s (fun r' s' => r = r' ∧ Inv s')) → Ev (d + 9) m_P_childIs 0 [vR 4 0, vI x, vI y] [] σ K from q _ (fun _ _ => rfl)
  intro K hK
  obtain ⟨n2, hn2, l2⟩ := xvl_p h.1
  obtain ⟨n3, hn3, l3⟩ := xvl_c h.1
  have hk := Inv_Kp h
  have pa := Kp_parts hk
  have ch := Kp_chn hk
  have ⟨p0, p7⟩ := h.1.1
  have ⟨c0, c7⟩ := h.1.2.1
  by_cases hx : 0 ≤ x ∧ x < σ 41 0 3
  · obtain ⟨P, hP⟩ : ∃ P : Nat, x = (P : Int) := ⟨x.toNat, by omega⟩
    subst hP
    have hPp := hx.2
    have P7 := xvl_c7 h.1 hPp
    by_cases hy : 0 ≤ y ∧ y ≤ 9
    · have : y = 0 ∨ y = 1 ∨ y = 2 ∨ y = 3 ∨ y = 4 ∨ y = 5 ∨ y = 6 ∨ y = 7 ∨ y = 8 ∨ y = 9 := by omega
      rcases this with e | e | e | e | e | e | e | e | e | e <;> subst e
      · simp (disch := omega) only [b_P_childIs_0, e_hasChild, ch, b_C_valueOf_0, Kp_ch hk P7 (show 0 < 6 by decide), xbc, ↓reduceIte, ↓if_pos, ↓if_neg, xin, Int.toNat_natCast]
        rw [hK]
        simp (disch := omega) only [b_M_childIs_0, e_isChild, e_in, e_ab0 P7, xbc, ↓reduceIte, ↓if_pos, ↓if_neg, xin, Int.toNat_natCast]
        exact ⟨trivial, h⟩
      · simp (disch := omega) only [b_P_childIs_0, e_hasChild, ch, b_C_valueOf_0, Kp_ch hk P7 (show 1 < 6 by decide), xbc, ↓reduceIte, ↓if_pos, ↓if_neg, xin, Int.toNat_natCast]
        rw [hK]
        simp (disch := omega) only [b_M_childIs_0, e_isChild, e_in, e_ab1 P7, xbc, ↓reduceIte, ↓if_pos, ↓if_neg, xin, Int.toNat_natCast]
        exact ⟨trivial, h⟩
      · simp (disch := omega) only [b_P_childIs_0, e_hasChild, ch, b_C_valueOf_0, Kp_ch hk P7 (show 2 < 6 by decide), xbc, ↓reduceIte, ↓if_pos, ↓if_neg, xin, Int.toNat_natCast]
        rw [hK]
        simp (disch := omega) only [b_M_childIs_0, e_isChild, e_in, e_ab2 P7, xbc, ↓reduceIte, ↓if_pos, ↓if_neg, xin, Int.toNat_natCast]
        exact ⟨trivial, h⟩
      · simp (disch := omega) only [b_P_childIs_0, e_hasChild, ch, b_C_valueOf_0, Kp_ch hk P7 (show 3 < 6 by decide), xbc, ↓reduceIte, ↓if_pos, ↓if_neg, xin, Int.toNat_natCast]
        rw [hK]
        simp (disch := omega) only [b_M_childIs_0, e_isChild, e_in, e_ab3 P7, xbc, ↓reduceIte, ↓if_pos, ↓if_neg, xin, Int.toNat_natCast]
        exact ⟨trivial, h⟩
      · simp (disch := omega) only [b_P_childIs_0, e_hasChild, ch, b_C_valueOf_0, Kp_ch hk P7 (show 4 < 6 by decide), xbc, ↓reduceIte, ↓if_pos, ↓if_neg, xin, Int.toNat_natCast]
        rw [hK]
        simp (disch := omega) only [b_M_childIs_0, e_isChild, e_in, e_ab4 P7, xbc, ↓reduceIte, ↓if_pos, ↓if_neg, xin, Int.toNat_natCast]
        exact ⟨trivial, h⟩
      · simp (disch := omega) only [b_P_childIs_0, e_hasChild, ch, b_C_valueOf_0, Kp_ch hk P7 (show 5 < 6 by decide), xbc, ↓reduceIte, ↓if_pos, ↓if_neg, xin, Int.toNat_natCast]
        rw [hK]
        simp (disch := omega) only [b_M_childIs_0, e_isChild, e_in, e_ab5 P7, xbc, ↓reduceIte, ↓if_pos, ↓if_neg, xin, Int.toNat_natCast]
        exact ⟨trivial, h⟩
      · simp (disch := omega) only [b_P_childIs_0, e_hasChild, ch, b_C_valueOf_0, show xwr (6 - 6) = 0 from by decide, show Int.toNat 0 = 0 from rfl, Kp_wi hk P7 (show 0 < 3 by decide), xbc, ↓reduceIte, ↓if_pos, ↓if_neg, xin, Int.toNat_natCast]
        rw [hK]
        simp (disch := omega) only [b_M_childIs_0, e_isChild, e_in, xe_ab6 P7, xbc, ↓reduceIte, ↓if_pos, ↓if_neg, xin, Int.toNat_natCast]
        exact ⟨trivial, h⟩
      · simp (disch := omega) only [b_P_childIs_0, e_hasChild, ch, b_C_valueOf_0, show xwr (7 - 6) = 1 from by decide, show Int.toNat 1 = 1 from rfl, Kp_wi hk P7 (show 1 < 3 by decide), xbc, ↓reduceIte, ↓if_pos, ↓if_neg, xin, Int.toNat_natCast]
        rw [hK]
        simp (disch := omega) only [b_M_childIs_0, e_isChild, e_in, xe_ab7 P7, xbc, ↓reduceIte, ↓if_pos, ↓if_neg, xin, Int.toNat_natCast]
        exact ⟨trivial, h⟩
      · simp (disch := omega) only [b_P_childIs_0, e_hasChild, ch, b_C_valueOf_0, show xwr (8 - 6) = 2 from by decide, show Int.toNat 2 = 2 from rfl, Kp_wi hk P7 (show 2 < 3 by decide), xbc, ↓reduceIte, ↓if_pos, ↓if_neg, xin, Int.toNat_natCast]
        rw [hK]
        simp (disch := omega) only [b_M_childIs_0, e_isChild, e_in, xe_ab8 P7, xbc, ↓reduceIte, ↓if_pos, ↓if_neg, xin, Int.toNat_natCast]
        exact ⟨trivial, h⟩
      · simp (disch := omega) only [b_P_childIs_0, e_hasChild, ch, xbc, ↓reduceIte, ↓if_pos, ↓if_neg, xin, Int.toNat_natCast]
        refine e_joy hk hPp (fun s hs => ?_)
        rw [hK]
        have i2 := Inv_Fr h (Fr_mono hs (by decide))
        have e41 : s 41 = σ 41 := hs 41 (by decide)
        rw [← e41] at p0 p7 c0 c7 hx
        simp (disch := omega) only [b_M_childIs_0, e_isChild, e_in, xbc, ↓reduceIte, ↓if_pos, ↓if_neg, xin, Int.toNat_natCast]
        rw [← e41]
        exact m_joy (xtx_tk (i2.2.1.2.2.2.2.2.2 0 (by decide))) (xtx_tk (i2.2.1.2.2.2.2.2.2 1 (by decide))) P7 (fun s2 hs2 => ⟨rfl, Inv_Fr i2 (Fr_mono hs2 (by decide))⟩)
    · by_cases y0 : y < 0
      · simp (disch := omega) only [b_P_childIs_0, e_hasChild, ch, e_fail1, xbc, ↓reduceIte, ↓if_pos, ↓if_neg, xin, Int.toNat_natCast]
        rw [hK]
        simp (disch := omega) only [b_M_childIs_0, e_isChild9, e_in, x39, xbc, ↓reduceIte, ↓if_pos, ↓if_neg, xin, Int.toNat_natCast]
        exact fin1 h
      · simp (disch := omega) only [b_P_childIs_0, e_hasChild, ch, e_fail1, xbc, ↓reduceIte, ↓if_pos, ↓if_neg, xin, Int.toNat_natCast]
        rw [hK]
        simp (disch := omega) only [b_M_childIs_0, e_isChild9, e_in, x39, xbc, ↓reduceIte, ↓if_pos, ↓if_neg, xin, Int.toNat_natCast]
        exact fin1 h
  · simp (disch := omega) only [b_P_childIs_0, e_hasChild, ch, e_fail1, xbc, ↓reduceIte, ↓if_pos, ↓if_neg, xin, Int.toNat_natCast]
    rw [hK]
    simp (disch := omega) only [b_M_childIs_0, e_isChild9, e_in, x39, xbc, ↓reduceIte, ↓if_pos, ↓if_neg, xin, Int.toNat_natCast]
    exact fin1 h

theorem call_worth {d : Nat} {σ : xM} (h : Inv σ) (x y : Int) : Ev (d + 9) m_P_worth 0 [vR 4 0, vI x, vI y] [] σ (fun r s => Ev (d + 9) m_M_worth 0 [vR 40 0, vI x, vI y] [] s (fun r' s' => r = r' ∧ Inv s')) := by
  suffices q : ∀ K : Int → xM → Prop, (∀ r s, K r s = Ev (d + 9) m_M_worth 0 [vR 40 0, vI x, vI y] [] s (fun r' s' => r = r' ∧ Inv s')) → Ev (d + 9) m_P_worth 0 [vR 4 0, vI x, vI y] [] σ K from q _ (fun _ _ => rfl)
  intro K hK
  obtain ⟨n2, hn2, l2⟩ := xvl_p h.1
  obtain ⟨n3, hn3, l3⟩ := xvl_c h.1
  have hk := Inv_Kp h
  have pa := Kp_parts hk
  have ch := Kp_chn hk
  have ⟨p0, p7⟩ := h.1.1
  have ⟨c0, c7⟩ := h.1.2.1
  by_cases hx : 0 ≤ x ∧ x < σ 41 0 3
  · obtain ⟨P, hP⟩ : ∃ P : Nat, x = (P : Int) := ⟨x.toNat, by omega⟩
    subst hP
    have hPp := hx.2
    have P7 := xvl_c7 h.1 hPp
    by_cases hy : 0 ≤ y ∧ y < σ 41 0 2
    · simp (disch := omega) only [b_P_worth_0, e_hasPart, e_hasChild, pa, ch, xbc, ↓reduceIte, ↓if_pos, ↓if_neg, xin, Int.toNat_natCast]
      refine e_worth hk P7 (fun s hs => ?_)
      rw [hK]
      have i2 := Inv_Fr h (Fr_mono hs (by decide))
      have e41 : s 41 = σ 41 := hs 41 (by decide)
      rw [← e41] at p0 p7 c0 c7 hx hy
      simp (disch := omega) only [b_M_worth_0, e_isChild, e_isPart, xbc, ↓reduceIte, ↓if_pos, ↓if_neg, xin, Int.toNat_natCast]
      rw [← e41]
      exact m_worth (xtx_tk (i2.2.1.2.2.2.2.2.2 0 (by decide))) P7 (fun s2 hs2 => ⟨rfl, Inv_Fr i2 (Fr_mono hs2 (by decide))⟩)
    · simp (disch := omega) only [b_P_worth_0, e_hasPart, e_hasChild, pa, ch, e_fail1, xbc, ↓reduceIte, ↓if_pos, ↓if_neg, xin, Int.toNat_natCast]
      rw [hK]
      simp (disch := omega) only [b_M_worth_0, e_isChild9, e_isPart9, x39, xbc, ↓reduceIte, ↓if_pos, ↓if_neg, xin, Int.toNat_natCast]
      exact fin1 h
  · simp (disch := omega) only [b_P_worth_0, e_hasPart, e_hasChild, pa, ch, e_fail1, xbc, ↓reduceIte, ↓if_pos, ↓if_neg, xin, Int.toNat_natCast]
    rw [hK]
    simp (disch := omega) only [b_M_worth_0, e_isChild9, e_isPart9, x39, xbc, ↓reduceIte, ↓if_pos, ↓if_neg, xin, Int.toNat_natCast]
    exact fin1 h

theorem call_law {d : Nat} {σ : xM} (h : Inv σ) (x a b c : Int) : Ev (d + 9) m_P_law 0 [vR 4 0, vI x, vI a, vI b, vI c] [] σ (fun r s => Ev (d + 9) m_M_law 0 [vR 40 0, vI x, vI a, vI b, vI c] [] s (fun r' s' => r = r' ∧ Inv s')) := by
  suffices q : ∀ K : Int → xM → Prop, (∀ r s, K r s = Ev (d + 9) m_M_law 0 [vR 40 0, vI x, vI a, vI b, vI c] [] s (fun r' s' => r = r' ∧ Inv s')) → Ev (d + 9) m_P_law 0 [vR 4 0, vI x, vI a, vI b, vI c] [] σ K from q _ (fun _ _ => rfl)
  intro K hK
  obtain ⟨n2, hn2, l2⟩ := xvl_p h.1
  obtain ⟨n3, hn3, l3⟩ := xvl_c h.1
  have hk := Inv_Kp h
  have pa := Kp_parts hk
  have ch := Kp_chn hk
  have ⟨p0, p7⟩ := h.1.1
  have ⟨c0, c7⟩ := h.1.2.1
  by_cases hx : 0 ≤ x ∧ x ≤ 1
  · have : x = 0 ∨ x = 1 := by omega
    rcases this with e | e <;> subst e
    · simp (disch := omega) only [b_P_law_0, e_isUse, xbc, ↓reduceIte, ↓if_pos, ↓if_neg, xin, Int.toNat_natCast]
      refine e_given0 hk (fun s hs => ?_)
      rw [hK]
      have i2 := Inv_Fr h (Fr_mono hs (by decide))
      have e41 : s 41 = σ 41 := hs 41 (by decide)
      simp (disch := omega) only [b_M_law_0, e_in, xbc, ↓reduceIte, ↓if_pos, ↓if_neg, xin, Int.toNat_natCast]
      rw [← e41]
      exact m_gives0 (xtx_tk (i2.2.1.2.2.2.2.2.2 0 (by decide))) (fun s2 hs2 => ⟨rfl, Inv_Fr i2 (Fr_mono hs2 (by decide))⟩)
    · simp (disch := omega) only [b_P_law_0, e_isUse, xbc, ↓reduceIte, ↓if_pos, ↓if_neg, xin, Int.toNat_natCast]
      refine e_given1 hk (fun s hs => ?_)
      rw [hK]
      have i2 := Inv_Fr h (Fr_mono hs (by decide))
      have e41 : s 41 = σ 41 := hs 41 (by decide)
      simp (disch := omega) only [b_M_law_0, e_in, xbc, ↓reduceIte, ↓if_pos, ↓if_neg, xin, Int.toNat_natCast]
      rw [← e41]
      exact m_gives1 (xtx_tk (i2.2.1.2.2.2.2.2.2 1 (by decide))) (fun s2 hs2 => ⟨rfl, Inv_Fr i2 (Fr_mono hs2 (by decide))⟩)
  · simp (disch := omega) only [b_P_law_0, e_isUse, e_fail1, xbc, ↓reduceIte, ↓if_pos, ↓if_neg, xin, Int.toNat_natCast]
    rw [hK]
    simp (disch := omega) only [b_M_law_0, e_in, x39, xbc, ↓reduceIte, ↓if_pos, ↓if_neg, xin, Int.toNat_natCast]
    exact fin1 h

