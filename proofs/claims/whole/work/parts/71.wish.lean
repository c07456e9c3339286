/-! calls wished, without -/
def qWs (R : Nat → Int) (c p : Nat) : Int := if qmy R c p = 0 then -1 else if 0 < qdr R c (p : Int) then 1 else -1
theorem qWs_ok (R : Nat → Int) : qWok (qWs R) := fun c p => by
  unfold qWs
  split
  · omega
  · split <;> omega
theorem e_ws {d n m : Nat} {R : Nat → Int} {Q : Int → xM → Prop} (hv : xvl R) (h3 : R 3 = (n : Int)) (h2 : R 2 = (m : Int)) :
    ∀ f c : Nat, c + f = n → ∀ (w w' : xV) (σ : xM), Kp σ R → σ 19 0 0 = (n : Int) → σ 19 0 1 = (m : Int) → (∀ a, a < c → ∀ p, p < m → σ 21 a p = qWs R a p) → (∀ s, Fr [21] σ s → Cw s (qWs R) n m → Q 0 s) → Ev (d + 4) 94 18 [vR 19 0, vR 5 0, vI (c : Int), w, w'] [] σ Q
  | 0, c, e, w, w', σ, h, k1, k2, k3, hQ => by
    rw [b_A_weighByWishes_18, k1, if_neg (by omega)]
    exact hQ σ Fr_refl ⟨k1, k2, fun a ha p hp => k3 a (by omega) p hp⟩
  | f + 1, c, e, w, w', σ, h, k1, k2, k3, hQ => by
    have c0 := hv.2.1
    have p0 := hv.1
    rw [b_A_weighByWishes_18, k1, if_pos (by omega)]
    have inner : ∀ g p : Nat, p + g = m → ∀ (w : xV) (s : xM), Fr [21] σ s → (∀ a, a < c → ∀ q, q < m → s 21 a q = qWs R a q) → (∀ q, q < p → s 21 c q = qWs R c q) → Ev (d + 4) 94 28 [vR 19 0, vR 5 0, vI (c : Int), vI (p : Int), w] [] s Q := by
      intro g
      induction g with
      | zero =>
        intro p ep w s f1 l1 l2
        have hk := Kp_sc h f1 rfl
        rw [b_A_weighByWishes_28, f1 19 (by decide), k2, if_neg (by omega), xs1 (by omega)]
        refine e_ws hv h3 h2 f (c + 1) (by omega) _ _ s hk (by rw [f1 19 (by decide)]; exact k1) (by rw [f1 19 (by decide)]; exact k2) (fun a ha q hq => ?_) (fun s2 g1 g2 => hQ s2 (Fr_trans f1 g1) g2)
        by_cases ea : a = c
        · rw [ea]
          exact l2 q (by omega)
        · exact l1 a (by omega) q hq
      | succ g ih =>
        intro p ep w s f1 l1 l2
        have hk := Kp_sc h f1 rfl
        rw [b_A_weighByWishes_28, f1 19 (by decide), k2, if_pos (by omega), e_may hk (by omega) (by omega), xs1 (by omega)]
        have step : ∀ (v : Int) (w : xV), v = qWs R c p → Ev (d + 4) 94 28 [vR 19 0, vR 5 0, vI (c : Int), vI ((p + 1 : Nat) : Int), w] [] (xup s 21 c p v) Q := by
          intro v w ev
          refine ih (p + 1) (by omega) _ _ (Fr_trans f1 (Fr_up (by decide))) (fun a ha q hq => ?_) (fun q hq => ?_)
          · rw [xup_i (by omega)]
            exact l1 a ha q hq
          · by_cases eq : q = p
            · rw [eq, xup_s, ev]
            · rw [xup_k eq]
              exact l2 q (by omega)
        by_cases e0 : qmy R c p = 0
        · rw [if_pos e0, xin (by omega) (by omega), if_pos rfl, xin (by omega) (by omega), Int.toNat_natCast, Int.toNat_natCast]
          exact step _ _ (by unfold qWs; rw [if_pos e0])
        · rw [if_neg e0, xin (by omega) (by omega), Int.toNat_natCast, e_dear hk (by omega)]
          by_cases e1 : 0 < qdr R c (p : Int)
          · rw [if_pos e1, xin (by omega) (by omega), if_neg (by decide), xin (by omega) (by omega), Int.toNat_natCast]
            exact step _ _ (by unfold qWs; rw [if_neg e0, if_pos e1])
          · rw [if_neg e1, xin (by omega) (by omega), if_pos rfl, xin (by omega) (by omega), Int.toNat_natCast]
            exact step _ _ (by unfold qWs; rw [if_neg e0, if_neg e1])
    exact inner m 0 (Nat.zero_add _) _ σ Fr_refl k3 (fun q hq => absurd hq (by omega))
theorem m_ws {d n m : Nat} {R : Nat → Int} {Q : Int → xM → Prop} (hv : xvl R) (h3 : R 3 = (n : Int)) (h2 : R 2 = (m : Int)) :
    ∀ f c : Nat, c + f = n → ∀ (w : xV) (σ : xM), σ 41 0 = R → (∀ a, a < c → ∀ p, p < m → σ 53 0 (7 * a + p) = qWs R a p) → (∀ s, Fr [52, 53] σ s → Q (qvl (qWs R) m n 0 0) s) → Ev (d + 4) 187 2 [vR 40 0, vI (c : Int), w] [] σ Q
  | 0, c, e, w, σ, h, k3, hQ => by
    have c0 := hv.2.1
    have p0 := hv.1
    rw [b_M_wished_2, xin (by decide) (by decide), show Int.toNat 3 = 3 from rfl, h, h3, if_neg (by omega)]
    refine m_findValues (n := n) (m := m) (W := qWs R) ⟨by rw [h, h3], by rw [h, h2], fun a ha p hp => k3 a (by omega) p hp⟩ (qWs_ok R) (by omega) (by omega) (fun s g1 g2 => ?_)
    have e0 : s 52 0 0 = qvl (qWs R) m n 0 0 := g2 0 (Nat.zero_le _) 0 (by decide)
    rw [xin (by decide) (by decide), show Int.toNat 0 = 0 from rfl, e0]
    exact hQ s (Fr_mono g1 (by decide))
  | f + 1, c, e, w, σ, h, k3, hQ => by
    have c0 := hv.2.1
    have p0 := hv.1
    rw [b_M_wished_2, xin (by decide) (by decide), show Int.toNat 3 = 3 from rfl, h, h3, if_pos (by omega)]
    have inner : ∀ g p : Nat, p + g = m → ∀ s : xM, Fr [53] σ s → (∀ a, a < c → ∀ q, q < m → s 53 0 (7 * a + q) = qWs R a q) → (∀ q, q < p → s 53 0 (7 * c + q) = qWs R c q) → Ev (d + 4) 187 14 [vR 40 0, vI (c : Int), vI (p : Int)] [] s Q := by
      intro g
      induction g with
      | zero =>
        intro p ep s f1 l1 l2
        have e41 : s 41 0 = R := by rw [f1 41 (by decide), h]
        rw [b_M_wished_14, xin (by decide) (by decide), show Int.toNat 2 = 2 from rfl, e41, h2, if_neg (by omega), xs1 (by omega)]
        refine m_ws hv h3 h2 f (c + 1) (by omega) _ s e41 (fun a ha q hq => ?_) (fun s2 g1 => hQ s2 (Fr_trans (Fr_mono f1 (by decide)) g1))
        by_cases ea : a = c
        · rw [ea]
          exact l2 q (by omega)
        · exact l1 a (by omega) q hq
      | succ g ih =>
        intro p ep s f1 l1 l2
        have e41 : s 41 0 = R := by rw [f1 41 (by decide), h]
        rw [b_M_wished_14, xin (by decide) (by decide), show Int.toNat 2 = 2 from rfl, e41, h2, if_pos (by omega), m_may (by rw [e41]; exact hv) (by rw [e41]; omega) (by rw [e41]; omega), e41, x7c (by omega) (by omega), xs1 (by omega)]
        have step : ∀ (v : Int), v = qWs R c p → Ev (d + 4) 187 14 [vR 40 0, vI (c : Int), vI ((p + 1 : Nat) : Int)] [] (xup s 53 0 (7 * c + p) v) Q := by
          intro v ev
          refine ih (p + 1) (by omega) _ (Fr_trans f1 (Fr_up (by decide))) (fun a ha q hq => ?_) (fun q hq => ?_)
          · rw [xup_k (by omega)]
            exact l1 a ha q hq
          · by_cases eq : q = p
            · rw [eq, xup_s, ev]
            · rw [xup_k (by omega)]
              exact l2 q (by omega)
        by_cases e0 : qmy R c p = 0
        · rw [if_pos e0, xin (by omega) (by omega), Int.toNat_natCast]
          exact step _ (by unfold qWs; rw [if_pos e0])
        · rw [if_neg e0, m_dear (by omega), e41]
          by_cases e1 : 0 < qdr R c (p : Int)
          · rw [if_pos e1, xin (by omega) (by omega), Int.toNat_natCast]
            exact step _ (by unfold qWs; rw [if_neg e0, if_pos e1])
          · rw [if_neg e1, xin (by omega) (by omega), Int.toNat_natCast]
            exact step _ (by unfold qWs; rw [if_neg e0, if_neg e1])
    exact inner m 0 (Nat.zero_add _) σ Fr_refl k3 (fun q hq => absurd hq (by omega))
theorem call_wished {d : Nat} {σ : xM} (h : Inv σ) : Ev (d + 9) m_P_wished 0 [vR 4 0] [] σ (fun r s => Ev (d + 9) m_M_wished 0 [vR 40 0, vR 0 0, vR 0 0] [] s (fun r' s' => r = r' ∧ Inv s')) := by
  have hk := Inv_Kp h
  obtain ⟨m, hm, m7⟩ := xvl_p h.1
  obtain ⟨n, hn, n7⟩ := xvl_c h.1
  rw [b_P_wished_0, b_A_weighByWishes_0, xup_t (t' := 5) (by decide), Kp_chn hk, Kp_parts hk, hn, hm]
  refine e_ws h.1 hn hm n 0 (Nat.zero_add _) _ _ _ (Kp_sc hk (Fr_trans (Fr_up (l := [19]) (by decide)) (Fr_up (by decide))) rfl) (by rw [xup_k (by decide), xup_s]) (by rw [xup_s]) (fun a ha => absurd ha (by omega)) (fun s f1 g1 => ?_)
  refine e_workOut2 g1 (qWs_ok _) n7 m7 (fun s2 f2 g2 => ?_)
  have f0 : Fr qSc σ s2 := Fr_trans (Fr_trans (Fr_up (by decide)) (Fr_up (by decide))) (Fr_trans (Fr_mono f1 (by decide)) (Fr_mono f2 (by decide)))
  have e41 : s2 41 = σ 41 := f0 41 (by decide)
  rw [b_A_mostWithout_0, xin (by decide) (by decide), xin (by decide) (by decide), show Int.toNat 0 = 0 from rfl, g2 0 (Nat.zero_le _) 0 (Nat.two_pow_pos m), b_M_wished_0]
  exact m_ws (R := σ 41 0) h.1 hn hm n 0 (Nat.zero_add _) _ s2 (by rw [e41]) (fun a ha => absurd ha (by omega)) (fun s3 f3 => ⟨rfl, Inv_Fr (Inv_Fr h f0) (Fr_mono f3 (by decide))⟩)
def qlv (W : Nat → Nat → Int) (k : Nat) (c p : Nat) : Int := if c = k then -1 else W c p
theorem qlv_ok {W : Nat → Nat → Int} {k : Nat} (h : qWok W) : qWok (qlv W k) := fun c p => by
  unfold qlv
  split
  · omega
  · exact h c p
theorem e_leave {d n m k : Nat} {W : Nat → Nat → Int} {Q : Int → xM → Prop} (n7 : n ≤ 7) (m7 : m ≤ 7) (hk : k < n) : ∀ f p : Nat, p + f = m → ∀ σ : xM, σ 19 0 0 = (n : Int) → σ 19 0 1 = (m : Int) → (∀ a, a < n → a ≠ k → ∀ q, q < m → σ 21 a q = W a q) → (∀ q, q < p → σ 21 k q = -1) → (∀ s, Fr [21] σ s → Cw s (qlv W k) n m → Q 0 s) → Ev d 95 2 [vR 19 0, vI (k : Int), vI (p : Int)] [] σ Q
  | 0, p, e, σ, k1, k2, l1, l2, hQ => by
    rw [b_A_leaveOut_2, k2, if_neg (by omega)]
    refine hQ σ Fr_refl ⟨k1, k2, fun a ha q hq => ?_⟩
    unfold qlv
    by_cases ea : a = k
    · rw [if_pos ea, ea, l2 q (by omega)]
    · rw [if_neg ea]
      exact l1 a ha ea q hq
  | f + 1, p, e, σ, k1, k2, l1, l2, hQ => by
    rw [b_A_leaveOut_2, k2, if_pos (by omega), xin (by omega) (by omega), xin (by omega) (by omega), Int.toNat_natCast, Int.toNat_natCast, xs1 (by omega)]
    refine e_leave n7 m7 hk f (p + 1) (by omega) _ (by rw [xup_t (by decide)]; exact k1) (by rw [xup_t (by decide)]; exact k2) (fun a ha ea q hq => by rw [xup_i ea]; exact l1 a ha ea q hq) (fun q hq => ?_) (fun s g1 g2 => hQ s (Fr_trans (Fr_up (by decide)) g1) g2)
    by_cases eq : q = p
    · rw [eq, xup_s]
    · rw [xup_k eq]
      exact l2 q (by omega)
theorem e_leave0 {d n m k : Nat} {W : Nat → Nat → Int} {Q : Int → xM → Prop} {σ : xM} (h : Cw σ W n m) (n7 : n ≤ 7) (m7 : m ≤ 7) (hk : k < n) (hQ : ∀ s, Fr [21] σ s → Cw s (qlv W k) n m → Q 0 s) : Ev d 95 0 [vR 19 0, vI (k : Int), vR 0 0] [] σ Q := by
  rw [b_A_leaveOut_0]
  exact e_leave n7 m7 hk m 0 (Nat.zero_add _) σ h.1 h.2.1 (fun a ha _ q hq => h.2.2 a ha q hq) (fun q hq => absurd hq (by omega)) hQ
theorem m_leave {d n m k : Nat} {W : Nat → Nat → Int} {Q : Int → xM → Prop} {v : Int} (hW : qWok W) (n7 : n ≤ 7) (m7 : m ≤ 7) (hk : k < n) : ∀ f p : Nat, p + f = m → ∀ σ : xM, σ 41 0 3 = (n : Int) → σ 41 0 2 = (m : Int) → (∀ a, a < n → a ≠ k → ∀ q, q < m → σ 53 0 (7 * a + q) = W a q) → (∀ q, q < p → σ 53 0 (7 * k + q) = -1) → (∀ s, Fr [52, 53] σ s → Q (xwr (v - qvl (qlv W k) m n 0 0)) s) → Ev (d + 1) 188 32 [vR 40 0, vI (k : Int), vI v, vI (p : Int)] [] σ Q
  | 0, p, e, σ, k1, k2, l1, l2, hQ => by
    rw [b_M_without_32, xin (by decide) (by decide), show Int.toNat 2 = 2 from rfl, k2, if_neg (by omega)]
    refine m_findValues (W := qlv W k) ⟨k1, k2, fun a ha q hq => ?_⟩ (qlv_ok hW) n7 m7 (fun s g1 g2 => ?_)
    · unfold qlv
      by_cases ea : a = k
      · rw [if_pos ea, ea, l2 q (by omega)]
      · rw [if_neg ea]
        exact l1 a ha ea q hq
    · have e0 : s 52 0 0 = qvl (qlv W k) m n 0 0 := g2 0 (Nat.zero_le _) 0 (by decide)
      rw [xin (by decide) (by decide), show Int.toNat 0 = 0 from rfl, e0]
      exact hQ s (Fr_mono g1 (by decide))
  | f + 1, p, e, σ, k1, k2, l1, l2, hQ => by
    rw [b_M_without_32, xin (by decide) (by decide), show Int.toNat 2 = 2 from rfl, k2, if_pos (by omega), x7c (by omega) (by omega), xin (by omega) (by omega), Int.toNat_natCast, xs1 (by omega)]
    refine m_leave hW n7 m7 hk f (p + 1) (by omega) _ (by rw [xup_t (by decide)]; exact k1) (by rw [xup_t (by decide)]; exact k2) (fun a ha ea q hq => by rw [xup_k (by omega)]; exact l1 a ha ea q hq) (fun q hq => ?_) (fun s g1 => hQ s (Fr_trans (Fr_up (by decide)) g1))
    by_cases eq : q = p
    · rw [eq, xup_s]
    · rw [xup_k (by omega)]
      exact l2 q (by omega)
theorem call_without {d : Nat} {σ : xM} (h : Inv σ) (x : Int) : Ev (d + 9) m_P_without 0 [vR 4 0, vI x, vR 0 0] [] σ (fun r s => Ev (d + 9) m_M_without 0 [vR 40 0, vI x, vR 0 0, vR 0 0] [] s (fun r' s' => r = r' ∧ Inv s')) := by
  have hk := Inv_Kp h
  have ⟨c0, c7⟩ := h.1.2.1
  obtain ⟨m, hm, m7⟩ := xvl_p h.1
  obtain ⟨n, hn, n7⟩ := xvl_c h.1
  rw [b_P_without_0, e_hasChild, Kp_chn hk]
  simp only [xbc]
  by_cases hx : 0 ≤ x ∧ x < σ 41 0 3
  · obtain ⟨k, hkx⟩ : ∃ k : Nat, x = (k : Int) := ⟨x.toNat, by omega⟩
    subst hkx
    have kn : k < n := by omega
    rw [if_neg (fun q => q hx)]
    refine e_weigh hk hn hm (fun s1 f1 g1 => ?_)
    refine e_workOut2 g1 (qWw_ok _) n7 m7 (fun s2 f2 g2 => ?_)
    rw [b_A_mostWithout_0, xin (by decide) (by decide), xin (by decide) (by decide), show Int.toNat 0 = 0 from rfl, g2 0 (Nat.zero_le _) 0 (Nat.two_pow_pos m)]
    refine e_leave0 (Cw_Fr g1 f2 rfl rfl) n7 m7 kn (fun s3 f3 g3 => ?_)
    refine e_workOut2 g3 (qlv_ok (qWw_ok _)) n7 m7 (fun s4 f4 g4 => ?_)
    rw [b_A_mostWithout_0, xin (by decide) (by decide), xin (by decide) (by decide), show Int.toNat 0 = 0 from rfl, g4 0 (Nat.zero_le _) 0 (Nat.two_pow_pos m)]
    have f0 : Fr qSc σ s4 := Fr_trans (Fr_mono f1 (by decide)) (Fr_trans (Fr_mono f2 (by decide)) (Fr_trans (Fr_mono f3 (by decide)) (Fr_mono f4 (by decide))))
    have e41 : s4 41 = σ 41 := f0 41 (by decide)
    have hs := Inv_Fr h f0
    rw [b_M_without_0, e_isChild (by rw [e41]; exact c0) (by rw [e41]; exact c7), e41]
    simp only [xbc]
    rw [if_neg (fun q => q hx)]
    refine m_findWorths (R := σ 41 0) (by rw [e41]) h.1 (Kp_Tk hk) hn hm (fun t1 k1 l1 => ?_)
    refine m_findValues l1 (qWw_ok _) n7 m7 (fun t2 k2 l2 => ?_)
    have e0 : t2 52 0 0 = qvl (qWw (σ 41 0)) m n 0 0 := l2 0 (Nat.zero_le _) 0 (by decide)
    have t41 : t2 41 = σ 41 := by rw [k2 41 (by decide), k1 41 (by decide), e41]
    rw [xin (by decide) (by decide), show Int.toNat 0 = 0 from rfl, e0]
    exact m_leave (W := qWw (σ 41 0)) (qWw_ok _) n7 m7 kn m 0 (Nat.zero_add _) t2 (by rw [t41, hn]) (by rw [t41, hm]) (fun a ha _ q hq => by rw [k2 53 (by decide)]; exact l1.2.2 a ha q hq) (fun q hq => absurd hq (by omega)) (fun t3 k3 => ⟨rfl, Inv_Fr hs (Fr_trans (Fr_mono k1 (by decide)) (Fr_trans (Fr_mono k2 (by decide)) (Fr_mono k3 (by decide))))⟩)
  · rw [if_pos hx, e_fail1, b_M_without_0, e_isChild9 c0 c7]
    simp only [xbc]
    rw [if_pos hx]
    exact fin1 h
