/-! what waits; they play -/
def qck (R : Nat → Int) : Nat → Nat → Int
  | 0, _ => 0
  | f + 1, k => if (k : Int) < R 3 then (if R (144 + k) = qjo R k then qck R f (k + 1) else 1 + (k : Int)) else 1 + (k : Int)
theorem x1k {k : Nat} (h : k < 1000) : xwr (1 + (k : Int)) = 1 + (k : Int) := xw (by omega) (by omega)
theorem e_ck {d m : Nat} {R : Nat → Int} {Q : Int → xM → Prop} (m24 : m ≤ 24) : ∀ f k : Nat, k + f = m → ∀ σ, Kp σ R → (∀ s, Fr [15] σ s → Q (qck R f k) s) → Ev (d + 5) 35 18 [vR 4 0, vI (m : Int), vI (k : Int)] [] σ Q
  | 0, k, e, σ, h, hQ => by
    rw [b_P_check_18, if_neg (by omega)]
    exact hQ σ Fr_refl
  | f + 1, k, e, σ, h, hQ => by
    unfold qck at hQ
    rw [b_P_check_18, if_pos (by omega), Kp_chn h]
    by_cases hc : (k : Int) < R 3
    · rw [if_pos hc] at hQ ⊢
      rw [xin (by omega) (by omega)]
      refine e_joy h hc (fun s hs => ?_)
      rw [Int.toNat_natCast, h.2.2.2.2.2.2.1 k (by omega), xs1 (by omega)]
      by_cases e2 : R (144 + k) = qjo R k
      · rw [if_pos e2] at hQ ⊢
        exact e_ck m24 f (k + 1) (by omega) s (Kp_sc h hs rfl) (fun s' hs' => hQ s' (Fr_trans hs hs'))
      · rw [if_neg e2] at hQ ⊢
        rw [x1k (by omega)]
        exact hQ s hs
    · rw [if_neg hc] at hQ ⊢
      rw [x1k (by omega)]
      exact hQ σ Fr_refl
def Tk (R : Nat → Int) : Prop := qtk (qP R 0) ∧ qtk (qP R 1)
theorem Kp_Tk {σ : xM} {R : Nat → Int} (h : Kp σ R) : Tk R := ⟨xtx_tk (h.2.2.2.2.2.2.2 0 (by decide)), xtx_tk (h.2.2.2.2.2.2.2 1 (by decide))⟩
theorem Tk_cg {R R' : Nat → Int} (h : Tk R) (e : ∀ j, 168 ≤ j → R' j = R j) : Tk R' := by
  unfold Tk at h ⊢
  rw [show qP R' 0 = qP R 0 from funext fun k => e _ (by omega), show qP R' 1 = qP R 1 from funext fun k => e _ (by omega)]
  exact h
theorem m_ck {d m : Nat} {Q : Int → xM → Prop} {R : Nat → Int} (m24 : m ≤ 24) (hv : xvl R) (ht : Tk R) : ∀ f k : Nat, k + f = m → ∀ σ, σ 41 0 = R → (∀ s, Fr [50, 51] σ s → Q (qck R f k) s) → Ev (d + 5) 217 18 [vR 40 0, vI (m : Int), vI (k : Int)] [] σ Q
  | 0, k, e, σ, h, hQ => by
    rw [b_M_check_18, if_neg (by omega)]
    exact hQ σ Fr_refl
  | f + 1, k, e, σ, h, hQ => by
    have e2 : xwr (144 + (k : Int)) = ((144 + k : Nat) : Int) := by rw [xw (by omega) (by omega)]; omega
    unfold qck at hQ
    rw [b_M_check_18, if_pos (by omega), e_isChild (by rw [h]; exact hv.2.1.1) (by rw [h]; exact hv.2.1.2), h]
    simp only [xbc]
    by_cases hc : (k : Int) < R 3
    · rw [if_pos hc] at hQ
      rw [if_neg (fun q => q ⟨by omega, hc⟩), e2, xin (by omega) (by omega), Int.toNat_natCast]
      refine m_joy (by rw [h]; exact ht.1) (by rw [h]; exact ht.2) (xvl_c7 hv hc) (fun s hs => ?_)
      have e41 : s 41 0 = R := by rw [hs 41 (by decide), h]
      rw [h, xs1 (by omega)]
      by_cases e2 : R (144 + k) = qjo R k
      · rw [if_pos e2] at hQ ⊢
        exact m_ck m24 hv ht f (k + 1) (by omega) s e41 (fun s' hs' => hQ s' (Fr_trans hs hs'))
      · rw [if_neg e2] at hQ ⊢
        rw [x1k (by omega)]
        exact hQ s hs
    · rw [if_neg hc] at hQ
      rw [if_pos (fun q => hc q.2), x1k (by omega)]
      exact hQ σ Fr_refl
theorem call_check {d : Nat} {σ : xM} (h : Inv σ) : Ev (d + 9) m_P_check 0 [vR 4 0, vR 0 0, vR 0 0] [] σ (fun r s => Ev (d + 9) m_M_check 0 [vR 40 0, vR 0 0, vR 0 0] [] s (fun r' s' => r = r' ∧ Inv s')) := by
  have hw : σ 5 0 6 = σ 41 0 6 := h.2.1.1.2.2.2.2.2.2
  have wr := h.1.2.2.2.2.2.1
  obtain ⟨n, hn⟩ : ∃ n : Nat, σ 41 0 6 = (n : Int) := ⟨(σ 41 0 6).toNat, by omega⟩
  have hR : xvl (qu (σ 41 0) 6 0) := xvl_lo h.1 (by decide) (by decide) (by decide) (by omega) (by omega) (by omega) (by omega)
  have hk : Kp (xup σ 5 0 6 0) (qu (σ 41 0) 6 0) := ⟨hR, xcpl_up5 (k := 6) h.2.1 (by decide)⟩
  have n24 : n ≤ 24 := by omega
  rw [b_P_check_0, hw, hn]
  refine e_ck n24 n 0 (by omega) _ hk (fun s hs => ?_)
  have e41 : s 41 = σ 41 := by rw [hs 41 (by decide), xup_t (by decide)]
  rw [b_M_check_0, xin (by decide) (by decide), xin (by decide) (by decide), show Int.toNat 6 = 6 from rfl, e41, hn]
  refine m_ck n24 hR (Kp_Tk hk) n 0 (by omega) _ (by rw [xup_row, e41]) (fun s' hs' => ⟨rfl, ?_⟩)
  refine inv_fin (l := [41, 50, 51]) (s := s) h (N1_trans (N1_up (t := 5) (by decide) (by unfold st1; omega)) (N1_Fr hs rfl)) (Kp_sc hk hs rfl) (Fr_trans (Fr_up (by decide)) (Fr_mono hs' (by decide))) rfl rfl ?_
  rw [hs' 41 (by decide), xup_row, e41]
/-- the joy of all -/
def qsm (R : Nat → Int) : Nat → Nat → Int → Int
  | 0, _, a => a
  | f + 1, c, a => qsm R f (c + 1) (xwr (a + qjo R c))
theorem e_sum {d n : Nat} {R : Nat → Int} {Q : Int → xM → Prop} (hn : R 3 = (n : Int)) : ∀ f c : Nat, c + f = n → ∀ (a : Int) (σ : xM), Kp σ R → (∀ s, Fr [15] σ s → Ev (d + 5) 58 28 [vR 5 0, vI (qsm R f c a), vI 0] [] s Q) → Ev (d + 5) 58 4 [vR 5 0, vI a, vI (c : Int)] [] σ Q
  | 0, c, e, a, σ, h, hQ => by
    rw [b_S_theyPlay_4, Kp_chn h, hn, if_neg (by omega)]
    exact hQ σ Fr_refl
  | f + 1, c, e, a, σ, h, hQ => by
    have hc : (c : Int) < R 3 := by omega
    have c7 := xvl_c7 h.1 hc
    rw [b_S_theyPlay_4, Kp_chn h, if_pos hc, xs1 (by omega)]
    refine e_joy h hc (fun s hs => ?_)
    exact e_sum hn f (c + 1) (by omega) _ s (Kp_sc h hs rfl) (fun s' hs' => hQ s' (Fr_trans hs hs'))
theorem m_sum {d n : Nat} {R : Nat → Int} {Q : Int → xM → Prop} (hn : R 3 = (n : Int)) (n7 : n ≤ 7) (ht : Tk R) : ∀ f c : Nat, c + f = n → ∀ (a : Int) (σ : xM), σ 41 0 = R → (∀ s, Fr [50, 51] σ s → Q (qsm R f c a) s) → Ev (d + 5) 142 4 [vR 40 0, vI a, vI (c : Int)] [] σ Q
  | 0, c, e, a, σ, h, hQ => by
    rw [b_M_joyOfAll_4, xin (by decide) (by decide), show Int.toNat 3 = 3 from rfl, h, hn, if_neg (by omega)]
    exact hQ σ Fr_refl
  | f + 1, c, e, a, σ, h, hQ => by
    rw [b_M_joyOfAll_4, xin (by decide) (by decide), show Int.toNat 3 = 3 from rfl, h, hn, if_pos (by omega), xs1 (by omega)]
    refine m_joy (by rw [h]; exact ht.1) (by rw [h]; exact ht.2) (by omega) (fun s hs => ?_)
    rw [h]
    exact m_sum hn n7 ht f (c + 1) (by omega) _ s (by rw [hs 41 (by decide), h]) (fun s' hs' => hQ s' (Fr_trans hs hs'))
def qpl (R : Nat → Int) : Nat → (Nat → Int)
  | 0 => R
  | c + 1 => qu (qu (qpl R c) (21 + 9 * c + 4) (if qpl R c (21 + 9 * c + 5) < 0 then qpl R c (21 + 9 * c + 4) else qpl R c (21 + 9 * c + 5))) (21 + 9 * c + 5) (-1)
theorem qpl_o {R : Nat → Int} {i : Nat} : ∀ c, c ≤ 7 → i < 21 ∨ 84 ≤ i → qpl R c i = R i
  | 0, _, _ => rfl
  | c + 1, h, hi => by
    show qu (qu (qpl R c) _ _) _ _ i = R i
    rw [qu_n (by omega), qu_n (by omega), qpl_o c (by omega) hi]
theorem qpl_h {R : Nat → Int} {i : Nat} : ∀ c, (21 + 9 * c ≤ i) → qpl R c i = R i
  | 0, _ => rfl
  | c + 1, hi => by
    show qu (qu (qpl R c) _ _) _ _ i = R i
    rw [qu_n (by omega), qu_n (by omega), qpl_h c (by omega)]
theorem qu_self {R : Nat → Int} {j : Nat} : qu R j (R j) = R := by
  funext i
  unfold qu
  split
  · rename_i e
    rw [e]
  · rfl
theorem qu_comm {R : Nat → Int} {i j : Nat} {a b : Int} (h : i ≠ j) : qu (qu R i a) j b = qu (qu R j b) i a := by
  funext k
  unfold qu
  by_cases e1 : k = i
  · by_cases e2 : k = j
    · exact absurd (e1.symm.trans e2) h
    · rw [if_neg e2, if_pos e1, if_pos e1]
  · by_cases e2 : k = j
    · rw [if_pos e2, if_neg e1, if_pos e2]
    · rw [if_neg e2, if_neg e1, if_neg e1, if_neg e2]
theorem qpl_v {R : Nat → Int} (h : xvl R) : ∀ c : Nat, (c : Int) ≤ R 3 → xvl (qpl R c)
  | 0, _ => h
  | c + 1, hc => by
    have c7 : c < 7 := xvl_c7 h (by omega)
    have ih := qpl_v h c (by omega)
    have r3 : qpl R c 3 = R 3 := qpl_o c (by omega) (by omega)
    obtain ⟨-, -, -, -, u4, u5⟩ := ih.2.2.2.2.2.2.2.1 c (by rw [r3]; omega)
    refine xvl_ch (xvl_ch ih (by decide) (by omega) (by omega) (by omega) (by omega) (fun _ => ?_)) (by decide) (by omega) (by omega) (by omega) (by omega) (fun _ => ?_)
    · split
      · exact u4
      · exact u5
    · rw [qu_n (by omega)]
      omega
theorem e_pl {d n : Nat} {R : Nat → Int} {Q : Int → xM → Prop} {T : Int} (hv : xvl R) (hn : R 3 = (n : Int)) (hy : R 0 < 9999) : ∀ f c : Nat, c + f = n → ∀ σ : xM, Kp σ (qpl R c) → (∀ s, N1 σ s → s 41 = σ 41 → Kp s (qu (qu (qpl R n) 4 (qheld (xwr (R 4 + T)) (-99999) 99999)) 0 (R 0 + 1)) → Q T s) → Ev (d + 5) 58 28 [vR 5 0, vI T, vI (c : Int)] [] σ Q
  | 0, c, e, σ, h, hQ => by
    have e : c = n := e
    subst e
    have c7 : c ≤ 7 := by have := hv.2.1; omega
    have r3 : qpl R c 3 = R 3 := qpl_o c c7 (by omega)
    have r0 : qpl R c 0 = R 0 := qpl_o c c7 (by omega)
    have r4 : qpl R c 4 = R 4 := qpl_o c c7 (by omega)
    have s3 : σ 5 0 3 = R 4 := by rw [h.2.1.2.2.2.1, r4]
    have s2 : σ 5 0 2 = R 0 := by rw [h.2.1.2.2.1, r0]
    have y0 := hv.2.2.1
    rw [b_S_theyPlay_28, Kp_chn h, r3, hn, if_neg (by omega), e_Pheld (by decide), s3, xup_k (by decide), s2, xw (x := R 0 + 1) (by omega) (by omega)]
    refine hQ _ (N1_trans (N1_up (t := 5) (by decide) (by unfold st1; omega)) (N1_up (t := 5) (by decide) (by unfold st1; omega))) (by rw [xup_t (by decide), xup_t (by decide)]) ⟨xvl_lo (xvl_lo h.1 (by decide) (by decide) (by decide) (by omega) (fun _ => ?_) (by omega) (by omega)) (by decide) (by decide) (by decide) (fun _ => by omega) (by omega) (by omega) (by omega), xcpl_up5 (k := 2) (xcpl_up5 (k := 3) h.2 (by decide)) (by decide)⟩
    unfold qheld
    split
    · decide
    · split
      · decide
      · omega
  | f + 1, c, e, σ, h, hQ => by
    have c7' : (c : Int) < R 3 := by omega
    have c7 := xvl_c7 hv c7'
    have r3 : qpl R c 3 = R 3 := qpl_o c (by omega) (by omega)
    have hv' := qpl_v hv (c + 1) (by omega)
    have s5 := Kp_ch h c7 (k := 5) (by decide)
    have u5 := (h.1.2.2.2.2.2.2.2.1 c (by rw [r3]; omega)).2.2.2.2.2.1
    rw [b_S_theyPlay_28, Kp_chn h, r3, if_pos c7', xin (by omega) (by omega), xin (by omega) (by omega), xin (by omega) (by omega), xin (by omega) (by omega), xin (by omega) (by omega), Int.toNat_natCast, s5, xs1 (by omega)]
    by_cases e5 : qpl R c (21 + 9 * c + 5) = -1
    · rw [if_pos e5]
      refine e_pl hv hn hy f (c + 1) (by omega) _ ⟨hv', ?_⟩ (fun s h1 h2 h3 => hQ s (N1_trans (N1_up (by decide) (by unfold st1; omega)) h1) (by rw [h2, xup_t (by decide)]) h3)
      show xcpl _ 0 (qu (qu (qpl R c) _ (if _ then _ else _)) _ _)
      rw [if_pos (by omega), qu_self]
      exact xcpl_up9 h.2 c7 (by decide)
    · rw [if_neg e5]
      refine e_pl hv hn hy f (c + 1) (by omega) _ ⟨hv', ?_⟩ (fun s h1 h2 h3 => hQ s (N1_trans (N1_up (t := 9) (i := c) (j := 4) (v := qpl R c (21 + 9 * c + 5)) (by decide) (by unfold st1; omega)) (N1_trans (N1_up (t := 9) (i := c) (j := 5) (v := -1) (by decide) (by unfold st1; omega)) h1)) (by rw [h2, xup_t (by decide), xup_t (by decide)]) h3)
      show xcpl _ 0 (qu (qu (qpl R c) _ (if _ then _ else _)) _ _)
      rw [if_neg (by omega)]
      exact xcpl_up9 (xcpl_up9 h.2 c7 (by decide)) c7 (by decide)
def qply (R : Nat → Int) : Nat → Int := qu (qu (qpl R (R 3).toNat) 4 (qheld (xwr (R 4 + qsm R (R 3).toNat 0 0)) (-99999) 99999)) 0 (R 0 + 1)
theorem e_theyPlay {d : Nat} {σ : xM} {R : Nat → Int} {Q : Int → xM → Prop} (h : Kp σ R) (hy : R 0 < 9999) (hQ : ∀ s, N1 σ s → s 41 = σ 41 → Kp s (qply R) → Q (qsm R (R 3).toNat 0 0) s) : Ev (d + 5) 58 0 [vR 5 0, vR 0 0, vR 0 0] [] σ Q := by
  have c0 := h.1.2.1
  have hn : R 3 = ((R 3).toNat : Int) := by omega
  rw [b_S_theyPlay_0]
  refine e_sum hn _ 0 (Nat.zero_add _) _ σ h (fun s hs => ?_)
  refine e_pl h.1 hn hy _ 0 (Nat.zero_add _) s (Kp_sc h hs rfl) (fun s' h1 h2 h3 => hQ s' (N1_trans (N1_Fr hs rfl) h1) (by rw [h2, hs 41 (by decide)]) h3)
theorem qpl_4 {R : Nat → Int} {J : Int} : ∀ c, c ≤ 7 → qpl (qu R 4 J) c = qu (qpl R c) 4 J
  | 0, _ => rfl
  | c + 1, h => by
    show qu (qu (qpl (qu R 4 J) c) _ (if qpl (qu R 4 J) c _ < 0 then qpl (qu R 4 J) c _ else qpl (qu R 4 J) c _)) _ _ = qu (qu (qu (qpl R c) _ (if qpl R c _ < 0 then qpl R c _ else qpl R c _)) _ _) 4 J
    rw [qpl_4 c (by omega), qu_n (i := 21 + 9 * c + 5) (by omega), qu_n (i := 21 + 9 * c + 4) (by omega), qu_comm (i := 4) (by omega), qu_comm (i := 4) (by omega)]
theorem m_pl {d n : Nat} {R : Nat → Int} {Q : Int → xM → Prop} {T : Int} (hn : R 3 = (n : Int)) (n7 : n ≤ 7) (hy : 0 ≤ R 0 ∧ R 0 < 9999) : ∀ f c : Nat, c + f = n → ∀ (w : xV) (σ : xM), σ 41 0 = qpl R c → (∀ s, Fr [41] σ s → s 41 0 = qu (qpl R n) 0 (R 0 + 1) → Q T s) → Ev (d + 1) 174 28 [vR 40 0, vI T, vI (c : Int), w] [] σ Q
  | 0, c, e, w, σ, h, hQ => by
    have e : c = n := e
    subst e
    have r3 : qpl R c 3 = R 3 := qpl_o c n7 (by omega)
    have r0 : qpl R c 0 = R 0 := qpl_o c n7 (by omega)
    rw [b_M_plays_28, xin (by decide) (by decide), show Int.toNat 3 = 3 from rfl, h, r3, hn, if_neg (by omega), xin (by decide) (by decide), xin (by decide) (by decide), show Int.toNat 0 = 0 from rfl, r0, xw (x := R 0 + 1) (by omega) (by omega)]
    exact hQ _ (Fr_up (by decide)) (by rw [xup_row, h])
  | f + 1, c, e, w, σ, h, hQ => by
    have c7 : c < 7 := by omega
    have r3 : qpl R c 3 = R 3 := qpl_o c (by omega) (by omega)
    rw [b_M_plays_28, xin (by decide) (by decide), show Int.toNat 3 = 3 from rfl, h, r3, hn, if_pos (by omega), e_ab5 c7, h, xs1 (by omega)]
    have eq : qpl R (c + 1) = qu (qu (qpl R c) (21 + 9 * c + 4) (if qpl R c (21 + 9 * c + 5) < 0 then qpl R c (21 + 9 * c + 4) else qpl R c (21 + 9 * c + 5))) (21 + 9 * c + 5) (-1) := rfl
    by_cases e5 : qpl R c (21 + 9 * c + 5) < 0
    · rw [if_pos e5] at eq ⊢
      rw [e_ab4 c7, e_lets4 c7, e_lets5 c7, h]
      exact m_pl hn n7 hy f (c + 1) (by omega) _ _ (by rw [xup_row, xup_row, h, eq]) (fun s hs hr => hQ s (Fr_trans (Fr_trans (Fr_up (by decide)) (Fr_up (by decide))) hs) hr)
    · rw [if_neg e5] at eq ⊢
      rw [e_lets4 c7, e_lets5 c7]
      exact m_pl hn n7 hy f (c + 1) (by omega) _ _ (by rw [xup_row, xup_row, h, eq]) (fun s hs hr => hQ s (Fr_trans (Fr_trans (Fr_up (by decide)) (Fr_up (by decide))) hs) hr)
theorem m_plays {d : Nat} {σ : xM} {R : Nat → Int} {Q : Int → xM → Prop} (h : σ 41 0 = R) (hv : xvl R) (ht : Tk R) (hy : R 0 < 9999) (hQ : ∀ s, Fr [41, 50, 51] σ s → s 41 0 = qply R → Q (qsm R (R 3).toNat 0 0) s) : Ev (d + 6) 174 0 [vR 40 0, vR 0 0, vR 0 0, vR 0 0] [] σ Q := by
  have c0 := hv.2.1
  have hn : R 3 = ((R 3).toNat : Int) := by omega
  have n7 : (R 3).toNat ≤ 7 := by omega
  rw [b_M_plays_0, b_M_joyOfAll_0]
  refine m_sum hn n7 ht _ 0 (Nat.zero_add _) _ σ h (fun s hs => ?_)
  have e41 : s 41 0 = R := by rw [hs 41 (by decide), h]
  rw [xin (by decide) (by decide), show Int.toNat 4 = 4 from rfl, e41, e_Mheld, xin (by decide) (by decide)]
  refine m_pl (R := qu R 4 (qheld (xwr (R 4 + qsm R (R 3).toNat 0 0)) (-99999) 99999)) (n := (R 3).toNat) (by rw [qu_n (by decide)]; exact hn) n7 (by rw [qu_n (by decide)]; exact ⟨hv.2.2.1.1, hy⟩) _ 0 (Nat.zero_add _) _ _ (by rw [xup_row, e41]; rfl) (fun s' hs' hr => hQ s' (Fr_trans (Fr_mono hs (by decide)) (Fr_trans (Fr_up (by decide)) (Fr_mono hs' (by decide)))) ?_)
  rw [hr, qpl_4 _ n7, qu_n (i := 0) (by decide)]
  rfl
theorem call_play {d : Nat} {σ : xM} (h : Inv σ) : Ev (d + 9) m_P_play 0 [vR 4 0] [] σ (fun r s => Ev (d + 9) m_M_play 0 [vR 40 0] [] s (fun r' s' => r = r' ∧ Inv s')) := by
  have hk := Inv_Kp h
  have y0 := h.1.2.2.1
  rw [b_P_play_0, Kp_year hk]
  by_cases hy : σ 41 0 0 < 9999
  · rw [if_pos hy]
    refine e_theyPlay hk hy (fun s h1 h2 h3 => ?_)
    rw [b_M_play_0, xin (by decide) (by decide), show Int.toNat 0 = 0 from rfl, h2, if_neg (by omega)]
    refine m_plays (R := σ 41 0) (by rw [h2]) h.1 (Kp_Tk hk) hy (fun s' hs' hr => ⟨rfl, ?_⟩)
    exact inv_fin (l := [41, 50, 51]) h h1 h3 hs' rfl rfl hr
  · rw [if_neg hy, e_fail3, b_M_play_0, xin (by decide) (by decide), show Int.toNat 0 = 0 from rfl, x39, if_pos (by omega)]
    exact fin3 h
