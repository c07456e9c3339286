/-! casts by a sheet, moves -/
def qcb (n3 : Nat) (B : Nat → Int) : Nat → Nat → (Nat → Int) → Int × (Nat → Int)
  | 0, k, W => ((k : Int), W)
  | f + 1, k, W => if (k : Int) < W 3 then (if B k = -1 then qcb n3 B f (k + 1) (qu W (21 + 9 * k + 5) (B k)) else if 0 ≤ B k ∧ B k < W 2 then (if qmy W k (B k).toNat = 0 then ((k : Int), W) else if qwho W (B k) n3 0 = -1 then qcb n3 B f (k + 1) (qu W (21 + 9 * k + 5) (B k)) else ((k : Int), W)) else ((k : Int), W)) else ((k : Int), W)
theorem xvl_has {W : Nat → Int} {k : Nat} {v : Int} (h : xvl W) (hv : -1 ≤ v ∧ v < W 2) : xvl (qu W (21 + 9 * k + 5) v) := xvl_ch h (by decide) (by omega) (by omega) (by omega) (by omega) (fun _ => hv)
theorem e_cb {d n n3 i : Nat} {B : Nat → Int} {Q : Int → xM → Prop} (n24 : n ≤ 24) : ∀ f k : Nat, k + f = n → ∀ (σ : xM) (W : Nat → Int), Kp σ W → W 3 = (n3 : Int) → (∀ j, j < 24 → σ 37 i j = B j) → (∀ s, N1 σ s → s 41 = σ 41 → Kp s (qcb n3 B f k W).2 → Q (qcb n3 B f k W).1 s) → Ev (d + 2) 62 28 [vR 5 0, vR 37 i, vI (n : Int), vI (k : Int)] [] σ Q
  | 0, k, e, σ, W, h, h3, hB, hQ => by
    rw [b_S_castByRow_28, if_neg (by omega), show n = k by omega]
    exact hQ σ N1_refl rfl h
  | f + 1, k, e, σ, W, h, h3, hB, hQ => by
    unfold qcb at hQ
    rw [b_S_castByRow_28, if_pos (by omega), if_pos (by omega), Kp_chn h]
    by_cases hc : (k : Int) < W 3
    · rw [if_pos hc] at hQ ⊢
      have c7 := xvl_c7 h.1 hc
      have p0 := h.1.1
      rw [xin (by omega) (by omega), Int.toNat_natCast, hB k (by omega), e_hasPartN, Kp_parts h]
      simp only [xbc]
      have go : ∀ v, v = B k → -1 ≤ v ∧ v < W 2 → (∀ s, N1 σ s → s 41 = σ 41 → Kp s (qcb n3 B f (k + 1) (qu W (21 + 9 * k + 5) (B k))).2 → Q (qcb n3 B f (k + 1) (qu W (21 + 9 * k + 5) (B k))).1 s) → Ev (d + 2) 62 28 [vR 5 0, vR 37 i, vI (n : Int), vI ((k + 1 : Nat) : Int)] [] (xup σ 9 k 5 v) Q := by
        intro v ev hv hQ'
        rw [ev] at hv ⊢
        refine e_cb n24 f (k + 1) (by omega) _ _ ⟨xvl_has h.1 hv, xcpl_up9 h.2 c7 (by decide)⟩ (by rw [qu_n (by omega)]; exact h3) (fun j hj => by rw [xup_t (by decide)]; exact hB j hj) (fun s h1 h2 h4 => hQ' s (N1_trans (N1_up (by decide) (by unfold st1; omega)) h1) (by rw [h2, xup_t (by decide)]) h4)
      by_cases e1 : B k = -1
      · rw [if_pos e1] at hQ
        rw [if_neg (fun q => q (Or.inl e1)), xin (by omega) (by omega), hB k (by omega), if_pos e1, xin (by omega) (by omega), xin (by omega) (by omega), xs1 (by omega)]
        exact go _ rfl (by omega) hQ
      · rw [if_neg e1] at hQ
        by_cases e2 : 0 ≤ B k ∧ B k < W 2
        · rw [if_pos e2] at hQ
          rw [if_neg (fun q => q (Or.inr e2)), xin (by omega) (by omega), hB k (by omega), if_neg e1, xin (by omega) (by omega)]
          obtain ⟨P, hP⟩ : ∃ P : Nat, B k = (P : Int) := ⟨(B k).toNat, by omega⟩
          rw [hP, Int.toNat_natCast] at hQ
          rw [hP, e_may h hc (by rw [← hP]; exact e2.2)]
          by_cases e3 : qmy W k P = 0
          · rw [if_pos e3] at hQ ⊢
            exact hQ σ N1_refl rfl h
          · rw [if_neg e3] at hQ ⊢
            rw [xin (by omega) (by omega), hB k (by omega), hP, e_holder h h3]
            by_cases e4 : qwho W (P : Int) n3 0 = -1
            · rw [if_pos e4] at hQ ⊢
              rw [xin (by omega) (by omega), xin (by omega) (by omega), xs1 (by omega), hB k (by omega)]
              rw [← hP] at hQ
              exact go _ rfl (by omega) hQ
            · rw [if_neg e4] at hQ ⊢
              exact hQ σ N1_refl rfl h
        · rw [if_neg e2] at hQ
          rw [if_pos (by omega)]
          exact hQ σ N1_refl rfl h
    · rw [if_neg hc] at hQ ⊢
      exact hQ σ N1_refl rfl h
theorem m_cstop {d X k : Nat} {σ : xM} {Q : Int → xM → Prop} {w2 : Int} {w : xV} (hX : X < 4) : Ev (d + 1) 212 25 [vR 40 0, vI (X : Int), vI w2, vI (k : Int), vI 0, w] [] σ Q = Q (k : Int) σ := by
  rw [b_M_casts_25, xin (by omega) (by omega), xin (by decide) (by decide), if_pos rfl]
  split
  · split <;> rfl
  · rfl
theorem m_cb {d n n3 X : Nat} {B : Nat → Int} {Q : Int → xM → Prop} {w2 : Int} (hX : X < 4) (n24 : n ≤ 24) : ∀ f k : Nat, k + f = n → ∀ (w : xV) (σ : xM) (W : Nat → Int), σ 41 0 = W → xvl W → W 3 = (n3 : Int) → σ 46 0 X = (n : Int) → (∀ j, j < 24 → σ 47 0 (24 * X + j) = B j) → (∀ s, Fr [41] σ s → s 41 0 = (qcb n3 B f k W).2 → Q (qcb n3 B f k W).1 s) → Ev (d + 3) 212 25 [vR 40 0, vI (X : Int), vI w2, vI (k : Int), vI 1, w] [] σ Q
  | 0, k, e, w, σ, W, h, hv, h3, hn, hB, hQ => by
    rw [b_M_casts_25, xin (by omega) (by omega), Int.toNat_natCast, hn, if_neg (by omega)]
    exact hQ σ Fr_refl h
  | f + 1, k, e, w, σ, W, h, hv, h3, hn, hB, hQ => by
    unfold qcb at hQ
    rw [b_M_casts_25, xin (by omega) (by omega), Int.toNat_natCast, hn, if_pos (by omega), xin (by decide) (by decide), show Int.toNat 3 = 3 from rfl, h]
    by_cases hc : (k : Int) < W 3
    · rw [if_pos hc] at hQ ⊢
      have c7 := xvl_c7 hv hc
      have p0 := hv.1
      have n37 : n3 ≤ 7 := by have := hv.2.1; omega
      rw [if_neg (by decide), x24 hX (by omega), xin (by omega) (by omega), Int.toNat_natCast, hB k (by omega)]
      have go : ∀ w, (-1 ≤ B k ∧ B k < W 2) → (∀ s, Fr [41] σ s → s 41 0 = (qcb n3 B f (k + 1) (qu W (21 + 9 * k + 5) (B k))).2 → Q (qcb n3 B f (k + 1) (qu W (21 + 9 * k + 5) (B k))).1 s) → Ev (d + 3) 212 25 [vR 40 0, vI (X : Int), vI w2, vI ((k + 1 : Nat) : Int), vI 1, w] [] (xup σ 41 0 (21 + 9 * k + 5) (B k)) Q := by
        intro w hr hQ'
        refine m_cb hX n24 f (k + 1) (by omega) w _ (qu W (21 + 9 * k + 5) (B k)) (by rw [xup_row, h]) (xvl_has hv hr) (by rw [qu_n (by omega)]; exact h3) (by rw [xup_t (by decide)]; exact hn) (fun j hj => by rw [xup_t (by decide)]; exact hB j hj) (fun s h1 h2 => hQ' s (Fr_trans (Fr_up (by decide)) h1) h2)
      by_cases e1 : B k = -1
      · rw [if_pos e1] at hQ
        rw [if_pos e1, if_neg (by decide), e_lets5 c7, xs1 (by omega)]
        exact go _ (by omega) hQ
      · rw [if_neg e1] at hQ
        rw [if_neg e1, e_isPart (by rw [h]; exact p0.1) (by rw [h]; exact p0.2), h]
        simp only [xbc]
        by_cases e2 : 0 ≤ B k ∧ B k < W 2
        · rw [if_pos e2] at hQ
          obtain ⟨P, hP⟩ : ∃ P : Nat, B k = (P : Int) := ⟨(B k).toNat, by omega⟩
          have hp : (P : Int) < W 2 := by rw [← hP]; exact e2.2
          rw [if_neg (fun q => q e2), hP]
          rw [hP, Int.toNat_natCast] at hQ
          rw [m_may (by rw [h]; exact hv) (by rw [h]; exact hc) (by rw [h]; exact hp), h]
          by_cases e3 : qmy W k P = 0
          · rw [if_pos e3] at hQ
            rw [if_pos e3, if_pos trivial, m_cstop hX]
            exact hQ σ Fr_refl h
          · rw [if_neg e3] at hQ
            rw [if_neg e3, m_whoHas (by rw [h]; exact h3) n37, h]
            have wr : qwho W (P : Int) n3 0 = -1 ∨ 0 ≤ qwho W (P : Int) n3 0 := by
              rcases qwho_rg (R := W) (p := (P : Int)) (f := n3) (c := 0) with e | ⟨j, e, -⟩
              · exact Or.inl e
              · rw [e]
                exact Or.inr (by omega)
            by_cases e4 : qwho W (P : Int) n3 0 = -1
            · rw [if_pos e4] at hQ
              rw [if_pos (by omega), if_neg (by decide), e_lets5 c7, xs1 (by omega)]
              rw [← hP] at hQ ⊢
              exact go _ (by omega) hQ
            · rw [if_neg e4] at hQ
              rw [if_neg (by omega), if_pos trivial, m_cstop hX]
              exact hQ σ Fr_refl h
        · rw [if_neg e2] at hQ
          rw [if_pos e2, if_pos trivial, m_cstop hX]
          exact hQ σ Fr_refl h
    · rw [if_neg hc] at hQ ⊢
      exact hQ σ Fr_refl h
theorem e_creset {d n i : Nat} {R : Nat → Int} {Q : Int → xM → Prop} {cnt : Int} (hv : xvl R) (hn : R 3 = (n : Int)) : ∀ f c : Nat, c + f = n → ∀ σ : xM, Kp σ (qhs R (fun _ => -1) c) → (∀ s, N1 σ s → s 41 = σ 41 → Kp s (qhs R (fun _ => -1) n) → Ev d 62 28 [vR 5 0, vR 37 i, vI cnt, vI 0] [] s Q) → Ev d 62 2 [vR 5 0, vR 37 i, vI cnt, vI (c : Int)] [] σ Q
  | 0, c, e, σ, h, hQ => by
    have e : c = n := e
    subst e
    rw [b_S_castByRow_2, Kp_chn h, qhs_lo (by decide), hn, if_neg (by omega)]
    exact hQ σ N1_refl rfl h
  | f + 1, c, e, σ, h, hQ => by
    have c0 := hv.2.1
    have p0 := hv.1
    rw [b_S_castByRow_2, Kp_chn h, qhs_lo (by decide), hn, if_pos (by omega), xin (by omega) (by omega), Int.toNat_natCast, xs1 (by omega)]
    exact e_creset hv hn f (c + 1) (by omega) _ ⟨qhs_v hv (fun _ => by omega) (c + 1), xcpl_up9 h.2 (by omega) (by decide)⟩ (fun s h1 h2 h3 => hQ s (N1_trans (N1_up (by decide) (by unfold st1; omega)) h1) (by rw [h2, xup_t (by decide)]) h3)
theorem e_hasRun {d X : Nat} {σ : xM} {Q : Int → xM → Prop} {i n c : Int} (hc : σ 36 X 1 = c) (c24 : 0 ≤ c ∧ c ≤ 24) : Ev d 121 0 [vR 36 X, vI i, vI n] [] σ Q = Q (if 0 ≤ i ∧ 0 ≤ n ∧ i + n ≤ c then 1 else 0) σ := by
  rw [b_H_hasRun_0, hc]
  by_cases h1 : i < 0
  · rw [if_pos h1, if_neg (by omega), xz0]
  · by_cases h2 : n < 0
    · rw [if_neg h1, if_pos h2, if_neg (by omega), xz0]
    · by_cases h3 : c < n
      · rw [if_neg h1, if_neg h2, if_pos h3, if_neg (by omega), xz0]
      · rw [if_neg h1, if_neg h2, if_neg h3, xw (by omega) (by omega)]
        by_cases h4 : c - n < i
        · rw [if_pos h4, if_neg (by omega), xz0]
        · rw [if_neg h4, if_pos (by omega), xz1]
theorem x24m {X i e : Nat} (hX : X < 4) (hi : i + e < 24) : xwr (xwr (xwr (24 * (X : Int)) + (i : Int)) + (e : Int)) = ((24 * X + i + e : Nat) : Int) := by
  rw [xw (x := 24 * (X : Int)) (by omega) (by omega), xw (x := 24 * (X : Int) + (i : Int)) (by omega) (by omega), xw (by omega) (by omega)]
  omega
/-- the reference moves, upwards -/
theorem m_mvA {d X O i j n : Nat} {Q : Int → xM → Prop} {w6 : Int} {g : Nat → Int} (hX : X < 4) (hO : O < 4) (hi : i + n ≤ 24) (hj : j + n ≤ 24) (hij : ¬ i < j) : ∀ f k : Nat, k + f = n → ∀ (w8 : xV) (σ : xM), (∀ p, σ 47 0 p = if 24 * O + j ≤ p ∧ p < 24 * O + j + k then g (24 * X + i + (p - (24 * O + j))) else g p) → (∀ s, Fr [47] σ s → (∀ p, s 47 0 p = if 24 * O + j ≤ p ∧ p < 24 * O + j + n then g (24 * X + i + (p - (24 * O + j))) else g p) → Q (n : Int) s) → Ev d 211 28 [vR 40 0, vI (X : Int), vI (i : Int), vI (O : Int), vI (j : Int), vI (n : Int), vI w6, vI (k : Int), w8] [] σ Q
  | 0, k, e, w8, σ, h, hQ => by
    have e : k = n := e
    subst e
    rw [b_M_move_28, if_neg (by omega)]
    exact hQ σ Fr_refl h
  | f + 1, k, e, w8, σ, h, hQ => by
    rw [b_M_move_28, if_pos (by omega), if_neg (by omega), x24m hX (by omega), x24m hO (by omega), xin (by omega) (by omega), xin (by omega) (by omega), Int.toNat_natCast, Int.toNat_natCast, xs1 (by omega)]
    refine m_mvA hX hO hi hj hij f (k + 1) (by omega) _ _ (fun p => ?_) (fun s h1 h2 => hQ s (Fr_trans (Fr_up (by decide)) h1) h2)
    rw [xup_at, h (24 * X + i + k), if_neg (show ¬ (24 * O + j ≤ 24 * X + i + k ∧ 24 * X + i + k < 24 * O + j + k) by omega)]
    by_cases ep : p = 24 * O + j + k
    · rw [if_pos ep, if_pos (by omega), ep, show 24 * O + j + k - (24 * O + j) = k by omega]
    · rw [if_neg ep, h p]
      by_cases e2 : 24 * O + j ≤ p ∧ p < 24 * O + j + k
      · rw [if_pos e2, if_pos (by omega)]
      · rw [if_neg e2, if_neg (by omega)]
theorem m_mvD {d X O i j n : Nat} {Q : Int → xM → Prop} {w6 : Int} {g : Nat → Int} (hX : X < 4) (hO : O < 4) (hi : i + n ≤ 24) (hj : j + n ≤ 24) (hij : i < j) : ∀ f k : Nat, k + f = n → ∀ (w8 : xV) (σ : xM), (∀ p, σ 47 0 p = if 24 * O + j + f ≤ p ∧ p < 24 * O + j + n then g (24 * X + i + (p - (24 * O + j))) else g p) → (∀ s, Fr [47] σ s → (∀ p, s 47 0 p = if 24 * O + j ≤ p ∧ p < 24 * O + j + n then g (24 * X + i + (p - (24 * O + j))) else g p) → Q (n : Int) s) → Ev d 211 28 [vR 40 0, vI (X : Int), vI (i : Int), vI (O : Int), vI (j : Int), vI (n : Int), vI w6, vI (k : Int), w8] [] σ Q
  | 0, k, e, w8, σ, h, hQ => by
    have e : k = n := e
    subst e
    rw [b_M_move_28, if_neg (by omega)]
    exact hQ σ Fr_refl h
  | f + 1, k, e, w8, σ, h, hQ => by
    have ef : xwr (xwr ((n : Int) - 1) - (k : Int)) = (f : Int) := by rw [xw (x := (n : Int) - 1) (by omega) (by omega), xw (by omega) (by omega)]; omega
    rw [b_M_move_28, if_pos (by omega), if_pos (by omega), ef, x24m hX (by omega), x24m hO (by omega), xin (by omega) (by omega), xin (by omega) (by omega), Int.toNat_natCast, Int.toNat_natCast, xs1 (by omega)]
    refine m_mvD hX hO hi hj hij f (k + 1) (by omega) _ _ (fun p => ?_) (fun s h1 h2 => hQ s (Fr_trans (Fr_up (by decide)) h1) h2)
    rw [xup_at, h (24 * X + i + f), if_neg (show ¬ (24 * O + j + (f + 1) ≤ 24 * X + i + f ∧ 24 * X + i + f < 24 * O + j + n) by omega)]
    by_cases ep : p = 24 * O + j + f
    · rw [if_pos ep, if_pos (by omega), ep, show 24 * O + j + f - (24 * O + j) = f by omega]
    · rw [if_neg ep, h p]
      by_cases e2 : 24 * O + j + (f + 1) ≤ p ∧ p < 24 * O + j + n
      · rw [if_pos e2, if_pos (by omega)]
      · rw [if_neg e2, if_neg (by omega)]
theorem xiS_move {σ τ : xM} {X O i j n : Nat} (h : xiS σ) (hX : X < 4) (hO : O < 4) (hi : i + n ≤ 24) (hj : j + n ≤ 24) (f : Fr [47] (xcpy σ 37 X i 37 O j n) τ) (hτ : ∀ p, τ 47 0 p = if 24 * O + j ≤ p ∧ p < 24 * O + j + n then σ 47 0 (24 * X + i + (p - (24 * O + j))) else σ 47 0 p) : xiS τ := by
  have ec : ∀ t, t ≠ 37 → xcpy σ 37 X i 37 O j n t = σ t := fun t ht => by
    funext a b
    unfold xcpy
    rw [if_neg (fun q => ht q.1)]
  intro a ha
  obtain ⟨j1, j2, j3, j4, j5, j6⟩ := h a ha
  rw [f 36 (by decide), f 37 (by decide), f 45 (by decide), f 46 (by decide), ec 36 (by decide), ec 45 (by decide), ec 46 (by decide)]
  refine ⟨j1, j2, j3, j4, j5, fun b hb => ?_⟩
  rw [hτ]
  unfold xcpy
  by_cases e : a = O ∧ j ≤ b ∧ b < j + n
  · rw [if_pos ⟨rfl, e.1, e.2⟩, if_pos (by omega), (h X hX).2.2.2.2.2 _ (by omega)]
    congr 1
    omega
  · rw [if_neg (fun q => e q.2), if_neg (by omega)]
    exact j6 b hb
theorem call_casts {d : Nat} {σ : xM} (h : Inv σ) (x : Int) : Ev (d + 9) m_P_casts 0 [vR 4 0, vI x] [] σ (fun r s => Ev (d + 9) m_M_casts 0 [vR 40 0, vI x, vR 0 0, vR 0 0, vR 0 0, vR 0 0] [] s (fun r' s' => r = r' ∧ Inv s')) := by
  suffices q : ∀ K : Int → xM → Prop, (∀ r s, K r s = Ev (d + 9) m_M_casts 0 [vR 40 0, vI x, vR 0 0, vR 0 0, vR 0 0, vR 0 0] [] s (fun r' s' => r = r' ∧ Inv s')) → Ev (d + 9) m_P_casts 0 [vR 4 0, vI x] [] σ K from q _ (fun _ _ => rfl)
  intro K hK
  obtain ⟨n2, hn2, l2⟩ := xvl_p h.1
  obtain ⟨n3, hn3, l3⟩ := xvl_c h.1
  have hk := Inv_Kp h
  have pa := Kp_parts hk
  have ch := Kp_chn hk
  have ⟨p0, p7⟩ := h.1.1
  have ⟨c0, c7⟩ := h.1.2.1
  by_cases hx : 0 ≤ x ∧ x ≤ 3
  · skip
    obtain ⟨X, hXx⟩ : ∃ X : Nat, x = (X : Int) := ⟨x.toNat, by omega⟩
    subst hXx
    have hX : X < 4 := by omega
    have hS := h.2.2.2.2.1
    obtain ⟨j1, j2, j3, j4, j5, j6⟩ := hS X hX
    by_cases hb : σ 45 0 X = 0
    · simp (disch := omega) only [b_P_casts_0, e_PisSheet, j1, hb, e_fail2, xbc, ↓reduceIte, ↓if_pos, ↓if_neg, xin, Int.toNat_natCast]
      rw [hK, b_M_casts_0, m_nt2 hX (show ((xup σ 39 0 2 (xwr (σ 39 0 2 + 1))) : xM) 45 0 X = 0 by rw [xup_t (by decide)]; exact hb), if_neg (by decide)]
      exact fin2 h
    · obtain ⟨n, hn⟩ : ∃ n : Nat, σ 46 0 X = (n : Int) := ⟨(σ 46 0 X).toNat, by omega⟩
      simp (disch := omega) only [b_P_casts_0, e_PisSheet, j1, j2, hn, b_S_castByRow_0, xbc, ↓reduceIte, ↓if_pos, ↓if_neg, xin, Int.toNat_natCast]
      refine e_creset h.1 hn3 n3 0 (Nat.zero_add _) σ hk (fun s g1 g2 g3 => ?_)
      refine e_cb (n3 := n3) (B := fun j => σ 37 X j) (by omega) n 0 (Nat.zero_add _) s _ g3 (by rw [qhs_lo (by decide)]; exact hn3) (fun j _ => by rw [g1.1 37 (by decide)]) (fun s' g1' g2' g3' => ?_)
      have g := N1_trans g1 g1'
      have e41 : s' 41 = σ 41 := by rw [g2', g2]
      have e46 : s' 46 = σ 46 := g.1 46 (by decide)
      have e47 : s' 47 = σ 47 := g.1 47 (by decide)
      rw [hK, b_M_casts_0, m_nt0 hX (by rw [g.1 45 (by decide)]; exact hb), if_pos rfl, b_M_nobodyHas_0]
      refine m_nobody hn3 l3 n3 0 (Nat.zero_add _) s' (by rw [e41]; rfl) (fun u f1 r1 => ?_)
      refine m_cb (n3 := n3) (B := fun j => σ 37 X j) hX (by omega) n 0 (Nat.zero_add _) _ u _ r1 g3.1 (by rw [qhs_lo (by decide)]; exact hn3) (by rw [f1 46 (by decide), e46]; exact hn) (fun j hj => by rw [f1 47 (by decide), e47, j6 j hj]) (fun τ f2 r2 => ⟨rfl, ?_⟩)
      exact inv_fin (l := [41]) h g g3' (Fr_trans f1 f2) rfl rfl r2
  · simp (disch := omega) only [b_P_casts_0, e_PisSheet, e_fail1, xbc, ↓reduceIte, ↓if_pos, ↓if_neg, xin, Int.toNat_natCast]
    rw [hK, b_M_casts_0, m_nt1 hx, if_neg (by decide)]
    exact fin1 h

theorem c_mv0 {d : Nat} {σ : xM} {Q : Int → xM → Prop} {x y z a n : Int} (h : ¬ (0 ≤ x ∧ x ≤ 3) ∨ ¬ (0 ≤ z ∧ z ≤ 3)) : Ev (d + 2) 29 0 [vR 4 0, vI x, vI y, vI z, vI a, vI n, vR 0 0, vR 0 0] [] σ Q = Ev (d + 1) 38 0 [vR 4 0, vI 1] [] σ Q := by
  rw [b_P_move_0, e_PisSheet]
  simp only [xbc]
  by_cases hx : 0 ≤ x ∧ x ≤ 3
  · rw [if_neg (fun q => q hx), e_PisSheet]
    simp only [xbc]
    rw [if_pos (by omega)]
  · rw [if_pos hx]
theorem c_mv1 {d X O : Nat} {σ : xM} {Q : Int → xM → Prop} {y a n b0 b1 c0 c1 : Int} (hX : X < 4) (hO : O < 4) (h0 : σ 36 X 0 = b0) (h1 : σ 36 O 0 = b1) (h2 : σ 36 X 1 = c0) (h3 : σ 36 O 1 = c1) (c024 : 0 ≤ c0 ∧ c0 ≤ 24) (c124 : 0 ≤ c1 ∧ c1 ≤ 24) : Ev (d + 2) 29 0 [vR 4 0, vI (X : Int), vI y, vI (O : Int), vI a, vI n, vR 0 0, vR 0 0] [] σ Q =
    if b0 = 0 then Ev (d + 1) 38 0 [vR 4 0, vI 2] [] σ Q else if b1 = 0 then Ev (d + 1) 38 0 [vR 4 0, vI 2] [] σ Q else if b0 = b1 then (if 0 ≤ y ∧ 0 ≤ n ∧ y + n ≤ c0 then (if 0 ≤ a ∧ 0 ≤ n ∧ a + n ≤ c1 then Q n (xcpy σ 37 X y.toNat 37 O a.toNat n.toNat) else Ev (d + 1) 38 0 [vR 4 0, vI 1] [] σ Q) else Ev (d + 1) 38 0 [vR 4 0, vI 1] [] σ Q) else Ev (d + 1) 38 0 [vR 4 0, vI 5] [] σ Q := by
  rw [b_P_move_0, e_PisSheet]
  simp only [xbc]
  rw [if_neg (by omega), e_PisSheet]
  simp only [xbc]
  rw [if_neg (by omega), xin (by omega) (by omega), xin (by omega) (by omega), Int.toNat_natCast, Int.toNat_natCast, h0, h1]
  by_cases z0 : b0 = 0
  · rw [if_pos z0, if_pos z0]
  · rw [if_neg z0, if_neg z0]
    by_cases z1 : b1 = 0
    · rw [if_pos z1, if_pos z1]
    · rw [if_neg z1, if_neg z1]
      by_cases z2 : b0 = b1
      · rw [if_pos z2, if_pos z2, e_hasRun h2 c024]
        simp only [xbc]
        by_cases r1 : 0 ≤ y ∧ 0 ≤ n ∧ y + n ≤ c0
        · rw [if_neg (fun q => q r1), if_pos r1, e_hasRun h3 c124]
          simp only [xbc]
          by_cases r2 : 0 ≤ a ∧ 0 ≤ n ∧ a + n ≤ c1
          · rw [if_neg (fun q => q r2), if_pos r2]
            exact propext ⟨fun q => q.2, fun q => ⟨⟨by omega, by omega, by omega, by omega, by omega⟩, q⟩⟩
          · rw [if_pos r2, if_neg r2]
        · rw [if_pos r1, if_neg r1]
      · rw [if_neg z2, if_neg z2]
theorem m_mv0 {d : Nat} {σ : xM} {Q : Int → xM → Prop} {x y z a n : Int} (h : ¬ (0 ≤ x ∧ x ≤ 3) ∨ ¬ (0 ≤ z ∧ z ≤ 3)) : Ev (d + 3) 211 0 [vR 40 0, vI x, vI y, vI z, vI a, vI n, vR 0 0, vR 0 0, vR 0 0] [] σ Q = Ev (d + 2) 124 0 [vR 40 0, vI (-1000000001)] [] σ Q := by
  rw [b_M_move_0, b_M_notMoved_0, e_MisSheet]
  simp only [xbc]
  by_cases hx : 0 ≤ x ∧ x ≤ 3
  · rw [if_neg (fun q => q hx), e_MisSheet]
    simp only [xbc]
    rw [if_pos (by omega), if_neg (by decide)]
  · rw [if_pos hx, if_neg (by decide)]
theorem m_mv1 {d X O : Nat} {σ : xM} {Q : Int → xM → Prop} {i j n b0 b1 c0 c1 : Int} (hX : X < 4) (hO : O < 4) (h0 : σ 45 0 X = b0) (h1 : σ 45 0 O = b1) (h2 : σ 46 0 X = c0) (h3 : σ 46 0 O = c1) (hx : 0 ≤ c0 ∧ c0 ≤ 24) (ho : 0 ≤ c1 ∧ c1 ≤ 24) (hi : i < 2147483648) (hj : j < 2147483648) : Ev (d + 3) 211 0 [vR 40 0, vI (X : Int), vI i, vI (O : Int), vI j, vI n, vR 0 0, vR 0 0, vR 0 0] [] σ Q =
    if b0 = 0 then Ev (d + 2) 124 0 [vR 40 0, vI (-1000000002)] [] σ Q else if b1 = 0 then Ev (d + 2) 124 0 [vR 40 0, vI (-1000000002)] [] σ Q else if b0 = b1 then (if (0 ≤ i ∧ 0 ≤ n ∧ i + n ≤ c0) ∧ (0 ≤ j ∧ 0 ≤ n ∧ j + n ≤ c1) then Ev (d + 3) 211 28 [vR 40 0, vI (X : Int), vI i, vI (O : Int), vI j, vI n, vI 0, vI 0, vR 0 0] [] σ Q else Ev (d + 2) 124 0 [vR 40 0, vI (-1000000001)] [] σ Q) else Ev (d + 2) 124 0 [vR 40 0, vI (-1000000005)] [] σ Q := by
  rw [b_M_move_0, b_M_notMoved_0, e_MisSheet]
  simp only [xbc]
  rw [if_neg (by omega), e_MisSheet]
  simp only [xbc]
  rw [if_neg (by omega), xin (by omega) (by omega), Int.toNat_natCast, h0]
  by_cases z0 : b0 = 0
  · rw [if_pos z0, if_pos z0, if_neg (by decide)]
  · rw [if_neg z0, if_neg z0, xin (by omega) (by omega), Int.toNat_natCast, h1]
    by_cases z1 : b1 = 0
    · rw [if_pos z1, if_pos z1, if_neg (by decide)]
    · rw [if_neg z1, if_neg z1, xin (by omega) (by omega), xin (by omega) (by omega)]
      by_cases z2 : b0 = b1
      · rw [if_pos z2, if_pos z2, h2, h3]
        by_cases k1 : n < 0
        · rw [if_pos k1, if_pos trivial, if_neg (by decide), if_neg (by omega)]
        · rw [if_neg k1]
          by_cases k2 : i < 0
          · rw [if_pos k2, if_pos trivial, if_neg (by decide), if_neg (by omega)]
          · rw [if_neg k2]
            by_cases k3 : j < 0
            · rw [if_pos k3, if_pos trivial, if_neg (by decide), if_neg (by omega)]
            · rw [if_neg k3, xin (by omega) (by omega), xw (x := c0 - i) (by omega) (by omega)]
              by_cases k4 : c0 - i < n
              · rw [if_pos k4, if_pos trivial, if_neg (by decide), if_neg (by omega)]
              · rw [if_neg k4, xin (by omega) (by omega), xw (x := c1 - j) (by omega) (by omega)]
                by_cases k5 : c1 - j < n
                · rw [if_pos k5, if_pos trivial, if_neg (by decide), if_neg (by omega)]
                · rw [if_neg k5, if_neg (by decide), if_pos trivial, if_pos (by omega)]
      · rw [if_neg z2, if_neg z2, if_neg (by decide)]
theorem call_move {d : Nat} {σ : xM} (h : Inv σ) (x y z a n : Int) (hy : y < 2147483648) (ha : a < 2147483648) : Ev (d + 9) m_P_move 0 [vR 4 0, vI x, vI y, vI z, vI a, vI n, vR 0 0, vR 0 0] [] σ (fun r s => Ev (d + 9) m_M_move 0 [vR 40 0, vI x, vI y, vI z, vI a, vI n, vR 0 0, vR 0 0, vR 0 0] [] s (fun r' s' => r = r' ∧ Inv s')) := by
  suffices q : ∀ K : Int → xM → Prop, (∀ r s, K r s = Ev (d + 9) m_M_move 0 [vR 40 0, vI x, vI y, vI z, vI a, vI n, vR 0 0, vR 0 0, vR 0 0] [] s (fun r' s' => r = r' ∧ Inv s')) → Ev (d + 9) m_P_move 0 [vR 4 0, vI x, vI y, vI z, vI a, vI n, vR 0 0, vR 0 0] [] σ K from q _ (fun _ _ => rfl)
  intro K hK
  obtain ⟨n2, hn2, l2⟩ := xvl_p h.1
  obtain ⟨n3, hn3, l3⟩ := xvl_c h.1
  have hk := Inv_Kp h
  have pa := Kp_parts hk
  have ch := Kp_chn hk
  have ⟨p0, p7⟩ := h.1.1
  have ⟨c0, c7⟩ := h.1.2.1
  have e45 : ∀ k v, xup σ 39 0 k v 45 = σ 45 := fun k v => xup_t (by decide)
  have e46 : ∀ k v, xup σ 39 0 k v 46 = σ 46 := fun k v => xup_t (by decide)
  by_cases hx : 0 ≤ x ∧ x ≤ 3
  · by_cases hz : 0 ≤ z ∧ z ≤ 3
    · obtain ⟨X, hXx⟩ : ∃ X : Nat, x = (X : Int) := ⟨x.toNat, by omega⟩
      subst hXx
      obtain ⟨O, hOz⟩ : ∃ O : Nat, z = (O : Int) := ⟨z.toNat, by omega⟩
      subst hOz
      have hX : X < 4 := by omega
      have hO : O < 4 := by omega
      have hS := h.2.2.2.2.1
      obtain ⟨j1, j2, j3, j4, j5, j6⟩ := hS X hX
      obtain ⟨o1, o2, o3, o4, o5, o6⟩ := hS O hO
      have mm : ∀ (s : xM) (Q : Int → xM → Prop), s 45 = σ 45 → s 46 = σ 46 → _ := fun s Q e5 e6 => m_mv1 (d := d + 6) (σ := s) (Q := Q) (n := n) hX hO (congrFun (congrFun e5 0) X) (congrFun (congrFun e5 0) O) (congrFun (congrFun e6 0) X) (congrFun (congrFun e6 0) O) j4 o4 hy ha
      rw [c_mv1 hX hO j1 o1 j2 o2 j4 o4]
      by_cases hb : σ 45 0 X = 0
      · rw [if_pos hb, e_fail2, hK, mm _ _ (e45 _ _) (e46 _ _), if_pos hb]
        exact fin2 h
      · by_cases hb2 : σ 45 0 O = 0
        · rw [if_neg hb, if_pos hb2, e_fail2, hK, mm _ _ (e45 _ _) (e46 _ _), if_neg hb, if_pos hb2]
          exact fin2 h
        · by_cases hb3 : σ 45 0 X = σ 45 0 O
          · rw [if_neg hb, if_neg hb2, if_pos hb3]
            by_cases r1 : 0 ≤ y ∧ 0 ≤ n ∧ y + n ≤ σ 46 0 X
            · rw [if_pos r1]
              by_cases r2 : 0 ≤ a ∧ 0 ≤ n ∧ a + n ≤ σ 46 0 O
              · rw [if_pos r2, hK]
                obtain ⟨i, hi⟩ : ∃ i : Nat, y = (i : Int) := ⟨y.toNat, by omega⟩
                subst hi
                obtain ⟨j, hj⟩ : ∃ j : Nat, a = (j : Int) := ⟨a.toNat, by omega⟩
                subst hj
                obtain ⟨m, hm⟩ : ∃ m : Nat, n = (m : Int) := ⟨n.toNat, by omega⟩
                subst hm
                have k1 : i + m ≤ 24 := by omega
                have k2 : j + m ≤ 24 := by omega
                have ec : ∀ t, t ≠ 37 → xcpy σ 37 X i 37 O j m t = σ t := fun t ht => by
                  funext a b
                  unfold xcpy
                  rw [if_neg (fun q => ht q.1)]
                rw [Int.toNat_natCast, Int.toNat_natCast, Int.toNat_natCast, mm _ _ (ec 45 (by decide)) (ec 46 (by decide)), if_neg hb, if_neg hb2, if_pos hb3, if_pos ⟨r1, r2⟩]
                have fin : ∀ τ, Fr [47] (xcpy σ 37 X i 37 O j m) τ → xiS τ → Inv τ := fun τ f g => Inv_sh h (fun t ht => by
                  rw [f t (fun q => ht (by have := List.mem_singleton.mp q; subst this; decide)), ec t (fun q => ht (by subst q; decide))]) g
                by_cases ij : i < j
                · exact m_mvD (g := σ 47 0) hX hO k1 k2 ij m 0 (Nat.zero_add _) _ _ (fun p => by rw [if_neg (by omega), ec 47 (by decide)]) (fun τ f hτ => ⟨rfl, fin τ f (xiS_move hS hX hO k1 k2 f hτ)⟩)
                · exact m_mvA (g := σ 47 0) hX hO k1 k2 ij m 0 (Nat.zero_add _) _ _ (fun p => by rw [if_neg (by omega), ec 47 (by decide)]) (fun τ f hτ => ⟨rfl, fin τ f (xiS_move hS hX hO k1 k2 f hτ)⟩)
              · rw [if_neg r2, e_fail1, hK, mm _ _ (e45 _ _) (e46 _ _), if_neg hb, if_neg hb2, if_pos hb3, if_neg (fun q => r2 q.2)]
                exact fin1 h
            · rw [if_neg r1, e_fail1, hK, mm _ _ (e45 _ _) (e46 _ _), if_neg hb, if_neg hb2, if_pos hb3, if_neg (fun q => r1 q.1)]
              exact fin1 h
          · rw [if_neg hb, if_neg hb2, if_neg hb3, e_fail5, hK, mm _ _ (e45 _ _) (e46 _ _), if_neg hb, if_neg hb2, if_neg hb3]
            exact fin5 h
    · rw [c_mv0 (Or.inr hz), e_fail1, hK, m_mv0 (Or.inr hz)]
      exact fin1 h
  · rw [c_mv0 (Or.inl hx), e_fail1, hK, m_mv0 (Or.inl hx)]
    exact fin1 h

