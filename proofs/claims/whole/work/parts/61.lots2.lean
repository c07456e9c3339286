/-! lots, of the reference; calls lots, loose -/
def qhs (R a : Nat → Int) : Nat → (Nat → Int)
  | 0 => R
  | c + 1 => qu (qhs R a c) (21 + 9 * c + 5) (a c)
theorem qhs_ne {R a : Nat → Int} {j : Nat} : ∀ c, (∀ i, i < c → j ≠ 21 + 9 * i + 5) → qhs R a c j = R j
  | 0, _ => rfl
  | c + 1, h => by
    show qu (qhs R a c) _ _ j = R j
    rw [qu_n (h c (by omega)), qhs_ne c (fun i hi => h i (by omega))]
theorem qhs_at {R a : Nat → Int} {i : Nat} : ∀ c, i < c → qhs R a c (21 + 9 * i + 5) = a i
  | 0, h => by omega
  | c + 1, h => by
    show qu (qhs R a c) _ _ _ = a i
    by_cases e : i = c
    · rw [e, qu_s]
    · rw [qu_n (by omega), qhs_at c (by omega)]
theorem qhs_lo {R a : Nat → Int} {c j : Nat} (h : j < 21) : qhs R a c j = R j := qhs_ne c (fun i _ => by omega)
theorem qhs_hi {R a : Nat → Int} {c j : Nat} (hc : c ≤ 7) (h : 84 ≤ j) : qhs R a c j = R j := qhs_ne c (fun i _ => by omega)
theorem qhs_f {R a : Nat → Int} {c i k : Nat} (hk : k < 9) (h : k ≠ 5) : qhs R a c (21 + 9 * i + k) = R (21 + 9 * i + k) := qhs_ne c (fun i _ => by omega)
theorem qhs_set {R a : Nat → Int} {c i : Nat} {v : Int} (hi : i < c) : qu (qhs R a c) (21 + 9 * i + 5) v = qhs R (qu a i v) c := by
  funext j
  by_cases e : ∃ m, m < c ∧ j = 21 + 9 * m + 5
  · obtain ⟨m, hm, ej⟩ := e
    subst ej
    rw [qhs_at c hm]
    by_cases e2 : m = i
    · rw [e2, qu_s, qu_s]
    · rw [qu_n (by omega), qu_n e2, qhs_at c hm]
  · have e' : ∀ m, m < c → j ≠ 21 + 9 * m + 5 := fun m hm q => e ⟨m, hm, q⟩
    rw [qhs_ne c e', qu_n (e' i hi), qhs_ne c e']
theorem qhs_1 {R a : Nat → Int} {z : Int} : ∀ c, qhs (qu R 1 z) a c = qu (qhs R a c) 1 z
  | 0 => rfl
  | c + 1 => by
    show qu (qhs (qu R 1 z) a c) _ _ = qu (qu (qhs R a c) _ _) 1 z
    rw [qhs_1 c, qu_comm (by omega)]
theorem qhs_v {R a : Nat → Int} (h : xvl R) (ha : ∀ i, -1 ≤ a i ∧ a i < R 2) : ∀ c, xvl (qhs R a c)
  | 0 => h
  | c + 1 => xvl_ch (qhs_v h ha c) (by decide) (by omega) (by omega) (by omega) (by omega) (fun _ => by rw [qhs_lo (by decide)]; exact ha c)
theorem qu_qu {R : Nat → Int} {j : Nat} {a b : Int} : qu (qu R j a) j b = qu R j b := by
  funext i
  unfold qu
  split <;> rfl
theorem xvl_1z {R : Nat → Int} {z : Int} (h : xvl R) : xvl (qu R 1 z) := xvl_lo h (by decide) (by decide) (by decide) (by omega) (by omega) (by omega) (by omega)
theorem m_nobody {d n : Nat} {R : Nat → Int} {Q : Int → xM → Prop} (hn : R 3 = (n : Int)) (n7 : n ≤ 7) : ∀ f c : Nat, c + f = n → ∀ σ : xM, σ 41 0 = qhs R (fun _ => -1) c → (∀ s, Fr [41] σ s → s 41 0 = qhs R (fun _ => -1) n → Q 0 s) → Ev (d + 1) 178 2 [vR 40 0, vI (c : Int)] [] σ Q
  | 0, c, e, σ, h, hQ => by
    have e : c = n := e
    subst e
    rw [b_M_nobodyHas_2, xin (by decide) (by decide), show Int.toNat 3 = 3 from rfl, h, qhs_lo (by decide), hn, if_neg (by omega)]
    exact hQ σ Fr_refl h
  | f + 1, c, e, σ, h, hQ => by
    rw [b_M_nobodyHas_2, xin (by decide) (by decide), show Int.toNat 3 = 3 from rfl, h, qhs_lo (by decide), hn, if_pos (by omega), e_lets5 (by omega), xs1 (by omega)]
    exact m_nobody hn n7 f (c + 1) (by omega) _ (by rw [xup_row, h]; rfl) (fun s hs hr => hQ s (Fr_trans (Fr_up (by decide)) hs) hr)
theorem m_freeFor {d c n2 n3 : Nat} {σ : xM} {Q : Int → xM → Prop} (hv : xvl (σ 41 0)) (h2 : σ 41 0 2 = (n2 : Int)) (h3 : σ 41 0 3 = (n3 : Int)) (hc : (c : Int) < σ 41 0 3) : ∀ f q : Nat, q + f = n2 → Ev (d + 2) 177 4 [vR 40 0, vI (c : Int), vI (qms (fun q => if qmy (σ 41 0) c q = 0 then 0 else if qwho (σ 41 0) (q : Int) n3 0 < 0 then 1 else 0) q : Int), vI (q : Int)] [] σ Q = Q (qms (fun q => if qmy (σ 41 0) c q = 0 then 0 else if qwho (σ 41 0) (q : Int) n3 0 < 0 then 1 else 0) n2 : Int) σ
  | 0, q, e => by
    have e : q = n2 := e
    rw [b_M_freeFor_4, xin (by decide) (by decide), show Int.toNat 2 = 2 from rfl, h2, if_neg (by omega), e]
  | f + 1, q, e => by
    have hp : (q : Int) < σ 41 0 2 := by omega
    have q7 := xvl_p7 hv hp
    have n37 : n3 ≤ 7 := by have := hv.2.1; omega
    rw [b_M_freeFor_4, xin (by decide) (by decide), show Int.toNat 2 = 2 from rfl, if_pos hp, m_may hv hc hp, m_whoHas h3 n37, xs1 (by omega)]
    by_cases e0 : qmy (σ 41 0) c q = 0
    · rw [if_pos e0, xq_or0 _ (qms_lt7 _ (by omega)), ← qms_no (fun q => if qmy (σ 41 0) c q = 0 then 0 else if qwho (σ 41 0) (q : Int) n3 0 < 0 then 1 else 0) (by show (if qmy (σ 41 0) c q = 0 then 0 else _) = (0 : Int); rw [if_pos e0])]
      exact m_freeFor hv h2 h3 hc f (q + 1) (by omega)
    · rw [if_neg e0]
      by_cases e1 : qwho (σ 41 0) (q : Int) n3 0 < 0
      · rw [if_pos e1, qms_or (fun q => if qmy (σ 41 0) c q = 0 then 0 else if qwho (σ 41 0) (q : Int) n3 0 < 0 then 1 else 0) q7 (by show ¬ (if qmy (σ 41 0) c q = 0 then 0 else if qwho (σ 41 0) (q : Int) n3 0 < 0 then 1 else 0) = (0 : Int); rw [if_neg e0, if_pos e1]; decide)]
        exact m_freeFor hv h2 h3 hc f (q + 1) (by omega)
      · rw [if_neg e1, xq_or0 _ (qms_lt7 _ (by omega)), ← qms_no (fun q => if qmy (σ 41 0) c q = 0 then 0 else if qwho (σ 41 0) (q : Int) n3 0 < 0 then 1 else 0) (by show (if qmy (σ 41 0) c q = 0 then 0 else if qwho (σ 41 0) (q : Int) n3 0 < 0 then 1 else 0) = (0 : Int); rw [if_neg e0, if_neg e1])]
        exact m_freeFor hv h2 h3 hc f (q + 1) (by omega)
/-- the row while lots are drawn -/
def qW (R : Nat → Int) (n3 : Nat) (p : Int × Nat × (Nat → Int)) : Nat → Int := qu (qhs R p.2.2 n3) 1 p.1
theorem qW_my {R : Nat → Int} {n3 c q : Nat} {p : Int × Nat × (Nat → Int)} (q7 : q < 7) : qmy (qW R n3 p) c q = qmy R c q := by
  unfold qmy qW
  rw [qu_n (by omega), qu_n (by omega), qu_n (by omega), qu_n (by omega), qu_n (by omega), qu_n (by omega), qhs_f (k := 3) (by decide) (by decide), qhs_f (k := 0) (by decide) (by decide), qhs_f (k := 1) (by decide) (by decide), qhs_f (k := 2) (by decide) (by decide), qhs_lo (by omega), qhs_lo (by omega)]
theorem qW_fr {R : Nat → Int} {n2 n3 c : Nat} {z : Int} (h2 : n2 ≤ 7) (h3 : n3 ≤ 7) (hc : c < n3) : qms (fun q => if qmy (qW R n3 (qlot R n2 z c)) c q = 0 then 0 else if qwho (qW R n3 (qlot R n2 z c)) (q : Int) n3 0 < 0 then 1 else 0) n2 = qfr R n2 c (qlot R n2 z c).2.1 := by
  obtain ⟨-, i2, i3, i4⟩ := qlot_f (R := R) (z := z) h2 c (by omega)
  refine qms_cg n2 (fun q hq => ?_)
  rw [qW_my (by omega)]
  by_cases e0 : qmy R c q = 0
  · rw [if_pos e0, if_pos e0]
  · rw [if_neg e0, if_neg e0]
    have at' : ∀ i, i < n3 → qW R n3 (qlot R n2 z c) (21 + 9 * i + 5) = (qlot R n2 z c).2.2 i := fun i hi => by
      unfold qW
      rw [qu_n (by omega), qhs_at n3 hi]
    rcases qwho_rg (R := qW R n3 (qlot R n2 z c)) (p := (q : Int)) (f := n3) (c := 0) with e | ⟨j, e, h1, h4, h5⟩
    · have no := qwho_no e
      rw [e, if_pos (by decide), if_neg (fun hb => ?_)]
      obtain ⟨i, hi, ei⟩ := (i4 q).mp hb
      exact no i (by omega) (by omega) (by rw [at' i (by omega)]; exact ei)
    · rw [at' j (by omega)] at h5
      have jc : j < c := by
        by_cases q' : j < c
        · exact q'
        · rw [i2 j (by omega)] at h5
          omega
      rw [e, if_neg (by omega), if_pos ((i4 q).mpr ⟨j, jc, h5⟩)]
def qwhm (a : Nat → Int) (n : Nat) : Nat := qms (fun i => if a i = -1 then 0 else 1) n
theorem qW_v {R : Nat → Int} {n2 n3 c : Nat} {z : Int} (hv : xvl R) (h2 : R 2 = (n2 : Int)) (hc : c ≤ 7) : xvl (qW R n3 (qlot R n2 z c)) := by
  obtain ⟨-, -, i3, -⟩ := qlot_f (R := R) (z := z) (n2 := n2) (by have := hv.1; omega) c hc
  refine xvl_1z (qhs_v hv (fun i => ?_) n3)
  rcases i3 i with e | ⟨j, h1, e⟩
  · rw [e]
    have := hv.1
    omega
  · rw [e]
    omega
theorem m_drawn {d n2 n3 : Nat} {R : Nat → Int} {Q : Int → xM → Prop} {z : Int} (hv : xvl R) (h2 : R 2 = (n2 : Int)) (h3 : R 3 = (n3 : Int)) : ∀ f c : Nat, c + f = n3 → ∀ (w3 w4 w5 : xV) (σ : xM), σ 41 0 = qW R n3 (qlot R n2 z c) → (∀ s, Fr [41] σ s → s 41 0 = qW R n3 (qlot R n2 z n3) → Q (qwhm (qlot R n2 z n3).2.2 n3 : Int) s) → Ev (d + 3) 179 8 [vR 40 0, vI (qwhm (qlot R n2 z c).2.2 c : Int), vI (c : Int), w3, w4, w5] [] σ Q
  | 0, c, e, w3, w4, w5, σ, h, hQ => by
    have e : c = n3 := e
    subst e
    have r3 : qW R c (qlot R n2 z c) 3 = R 3 := by unfold qW; rw [qu_n (by decide), qhs_lo (by decide)]
    rw [b_M_drawn_8, xin (by decide) (by decide), show Int.toNat 3 = 3 from rfl, h, r3, h3, if_neg (by omega)]
    exact hQ σ Fr_refl h
  | f + 1, c, e, w3, w4, w5, σ, h, hQ => by
    have p0 := hv.1
    have c0 := hv.2.1
    have n27 : n2 ≤ 7 := by omega
    have n37 : n3 ≤ 7 := by omega
    have hv' := qW_v (n3 := n3) (z := z) hv h2 (c := c) (by omega)
    have r3 : qW R n3 (qlot R n2 z c) 3 = R 3 := by unfold qW; rw [qu_n (by decide), qhs_lo (by decide)]
    have r2 : qW R n3 (qlot R n2 z c) 2 = R 2 := by unfold qW; rw [qu_n (by decide), qhs_lo (by decide)]
    have ih := fun w3 w4 w5 s => m_drawn (d := d) (Q := Q) (z := z) hv h2 h3 f (c + 1) (by omega) w3 w4 w5 s
    have eq : qlot R n2 z (c + 1) = qls R n2 c (qlot R n2 z c) := rfl
    rw [eq] at ih
    have hm := (qlot_f (R := R) (z := z) n27 c (by omega)).2.1 c (Nat.le_refl _)
    rw [b_M_drawn_8, xin (by decide) (by decide), show Int.toNat 3 = 3 from rfl, h, r3, if_pos (by omega), b_M_freeFor_0]
    refine (m_freeFor (n2 := n2) (n3 := n3) (by rw [h]; exact hv') (by rw [h, r2, h2]) (by rw [h, r3, h3]) (by rw [h, r3]; omega) n2 0 (Nat.zero_add _)).mpr ?_
    rw [h, qW_fr n27 n37 (by omega)]
    have hF7 : qfr R n2 c (qlot R n2 z c).2.1 < 128 := qms_lt7 _ n27
    revert h hQ ih hm hF7
    generalize qlot R n2 z c = p
    intro h hQ ih hm hF7
    unfold qls at ih
    by_cases hF : qfr R n2 c p.2.1 = 0
    · rw [if_pos hF] at ih
      rw [if_pos (by omega), xs1 (by omega)]
      have ew : qwhm p.2.2 (c + 1) = qwhm p.2.2 c := qms_no _ (by show (if p.2.2 c = -1 then 0 else 1) = (0 : Int); rw [if_pos hm])
      rw [ew] at ih
      exact ih _ _ _ σ h hQ
    · rw [if_neg hF] at ih
      obtain ⟨k, ek, k1, k2⟩ := qmod (z := qz p.1) hF7 hF
      have ep : qpk (qfr R n2 c p.2.1) (qz p.1) = qat (qfr R n2 c p.2.1) 7 0 k := by unfold qpk; rw [ek, Int.toNat_natCast]
      obtain ⟨j, j7, ej, hb⟩ := qat_ex _ hF7 k k2 k1
      have hz : σ 41 0 1 = p.1 := by rw [h]; exact qu_s
      have pcl := qpc_le _ hF7
      rw [if_neg (by omega), b_M_draw_0, xin (by decide) (by decide), xin (by decide) (by decide), xin (by decide) (by decide), show Int.toNat 1 = 1 from rfl, hz, xup_s, show xwr (xwr (p.1 * 1103515245) + 12345) = qz p.1 from rfl, b_M_bits_0]
      refine (m_bits (qfr R n2 c p.2.1) (qfr R n2 c p.2.1) 0 (Nat.le_refl _) hF7 (by omega)).mpr ?_
      rw [Nat.zero_add, ek]
      refine ⟨by omega, ?_⟩
      refine (m_at (j := j) hF7 7 0 k (by decide) k2 ej).mpr ?_
      rw [e_lets5 (by omega), xs1 (by omega)]
      rw [ep, ej, Int.toNat_natCast] at ih
      have ew : xior (qwhm p.2.2 c : Int) (xshl 1 (c : Int)) = (qwhm (qu p.2.2 c (j : Int)) (c + 1) : Int) := by
        have e1 : qwhm p.2.2 c = qwhm (qu p.2.2 c (j : Int)) c := qms_cg c (fun i hi => by rw [qu_n (show i ≠ c by omega)])
        rw [e1]
        exact qms_or _ (by omega) (by show ¬ (if qu p.2.2 c (j : Int) c = -1 then 0 else 1) = (0 : Int); rw [qu_s, if_neg (by omega)]; decide)
      rw [ew]
      refine ih _ _ _ _ ?_ (fun s hs hr => hQ s (Fr_trans (Fr_up (by decide)) (Fr_trans (Fr_up (by decide)) hs)) hr)
      rw [xup_row, xup_row, h]
      unfold qW
      rw [qu_qu, qu_comm (i := 1) (by omega), qhs_set (by omega)]
def qlp (R : Nat → Int) : Int × Nat × (Nat → Int) := qlot R (R 2).toNat (R 1) (R 3).toNat
def qlr (R : Nat → Int) : Nat → Int := qW R (R 3).toNat (qlp R)
def qlw (R : Nat → Int) : Int := (qwhm (qlp R).2.2 (R 3).toNat : Int)
theorem qlr_v {R : Nat → Int} (hv : xvl R) : xvl (qlr R) := by
  have p0 := hv.1
  have c0 := hv.2.1
  exact qW_v hv (by omega) (by omega)
theorem qlr_hi {R : Nat → Int} (hv : xvl R) {j : Nat} (h : 84 ≤ j) : qlr R j = R j := by
  have c0 := hv.2.1
  unfold qlr qW
  rw [qu_n (by omega), qhs_hi (by omega) h]
theorem qlr_lo {R : Nat → Int} {j : Nat} (h : j < 21) (h1 : j ≠ 1) : qlr R j = R j := by
  unfold qlr qW
  rw [qu_n h1, qhs_lo h]
theorem m_lots {d : Nat} {σ : xM} {R : Nat → Int} {Q : Int → xM → Prop} (h : σ 41 0 = R) (hv : xvl R) (hQ : ∀ s, Fr [41] σ s → s 41 0 = qlr R → Q (qlw R) s) : Ev (d + 4) 179 0 [vR 40 0, vR 0 0, vR 0 0, vR 0 0, vR 0 0, vR 0 0] [] σ Q := by
  have p0 := hv.1
  have c0 := hv.2.1
  have h2 : R 2 = ((R 2).toNat : Int) := by omega
  have h3 : R 3 = ((R 3).toNat : Int) := by omega
  rw [b_M_drawn_0, b_M_nobodyHas_0]
  refine m_nobody (n := (R 3).toNat) h3 (by omega) _ 0 (Nat.zero_add _) σ h (fun s hs hr => ?_)
  refine m_drawn (z := R 1) hv h2 h3 _ 0 (Nat.zero_add _) _ _ _ s ?_ (fun s' hs' hr' => hQ s' (Fr_trans hs hs') hr')
  rw [hr]
  show _ = qu (qhs R (fun _ => -1) (R 3).toNat) 1 (R 1)
  have e := qhs_lo (R := R) (a := fun _ => -1) (c := (R 3).toNat) (show 1 < 21 by decide)
  rw [← e, qu_self]
theorem e_cbl {d n : Nat} {R a : Nat → Int} {Q : Int → xM → Prop} (hv : xvl R) (hn : R 3 = (n : Int)) (ha : ∀ i, -1 ≤ a i ∧ a i < R 2) : ∀ f c : Nat, c + f = n → ∀ σ : xM, Kp σ (qhs R a c) → (∀ i, i < n → σ 38 0 i = a i) → (∀ s, N1 σ s → s 41 = σ 41 → Kp s (qhs R a n) → Q (qwhm a n : Int) s) → Ev (d + 1) 61 17 [vR 5 0, vR 38 0, vI (qwhm a c : Int), vI (c : Int)] [] σ Q
  | 0, c, e, σ, h, hi, hQ => by
    have e : c = n := e
    subst e
    rw [b_S_castByLots_17, Kp_chn h, qhs_lo (by decide), hn, if_neg (by omega)]
    exact hQ σ N1_refl rfl h
  | f + 1, c, e, σ, h, hi, hQ => by
    have c0 := hv.2.1
    rw [b_S_castByLots_17, Kp_chn h, qhs_lo (by decide), hn, if_pos (by omega), if_pos (by omega), xin (by omega) (by omega), xin (by omega) (by omega), xin (by omega) (by omega), Int.toNat_natCast, xup_t (t' := 38) (by decide), hi c (by omega), xs1 (by omega)]
    have hk : Kp (xup σ 9 c 5 (a c)) (qhs R a (c + 1)) := ⟨qhs_v hv ha (c + 1), xcpl_up9 h.2 (by omega) (by decide)⟩
    have hi' : ∀ i, i < n → xup σ 9 c 5 (a c) 38 0 i = a i := fun i hi' => by rw [xup_t (by decide)]; exact hi i hi'
    have hQ' : ∀ s, N1 (xup σ 9 c 5 (a c)) s → s 41 = xup σ 9 c 5 (a c) 41 → Kp s (qhs R a n) → Q (qwhm a n : Int) s := fun s h1 h2 h3 => hQ s (N1_trans (N1_up (by decide) (by unfold st1; omega)) h1) (by rw [h2, xup_t (by decide)]) h3
    by_cases e1 : a c = -1
    · have ew : qwhm a (c + 1) = qwhm a c := qms_no _ (by show (if a c = -1 then 0 else 1) = (0 : Int); rw [if_pos e1])
      rw [if_pos e1, ← ew]
      exact e_cbl hv hn ha f (c + 1) (by omega) _ hk hi' hQ'
    · have ew : xior (qwhm a c : Int) (xshl 1 (c : Int)) = (qwhm a (c + 1) : Int) := qms_or _ (by omega) (by show ¬ (if a c = -1 then 0 else 1) = (0 : Int); rw [if_neg e1]; decide)
      rw [if_neg e1, ew]
      exact e_cbl hv hn ha f (c + 1) (by omega) _ hk hi' hQ'
theorem e_lots {d : Nat} {σ : xM} {R : Nat → Int} {Q : Int → xM → Prop} (h : Kp σ R) (hQ : ∀ s, N1 σ s → s 41 = σ 41 → Kp s (qlr R) → Q (qlw R) s) : Ev (d + 4) 61 0 [vR 5 0, vR 38 0, vR 0 0, vR 0 0] [] σ Q := by
  have p0 := h.1.1
  have c0 := h.1.2.1
  have h2 : R 2 = ((R 2).toNat : Int) := by omega
  have h3 : R 3 = ((R 3).toNat : Int) := by omega
  have hz : σ 5 0 4 = R 1 := h.2.1.2.2.2.2.1
  rw [b_S_castByLots_0, hz, b_S_drawLots_0]
  refine e_draw (n2 := (R 2).toNat) (n3 := (R 3).toNat) (z := R 1) h h2 h3 (fun s hs hi => ?_) _ 0 (Nat.zero_add _) _ _ σ Fr_refl (fun i hi => absurd hi (by omega))
  have hk := Kp_sc h hs rfl
  have f7 := qlot_f (R := R) (z := R 1) (n2 := (R 2).toNat) (by omega) (R 3).toNat (by omega)
  have ha : ∀ i, -1 ≤ (qlp R).2.2 i ∧ (qlp R).2.2 i < R 2 := fun i => by
    rcases f7.2.2.1 i with e | ⟨j, h1, e⟩
    · rw [show (qlp R).2.2 i = -1 from e]
      omega
    · rw [show (qlp R).2.2 i = (j : Int) from e]
      omega
  refine e_cbl (R := qu R 1 (qlp R).1) (a := (qlp R).2.2) (n := (R 3).toNat) (xvl_1z h.1) (by rw [qu_n (by decide)]; exact h3) (fun i => by rw [qu_n (by decide)]; exact ha i) _ 0 (Nat.zero_add _) _ ⟨xvl_1z h.1, xcpl_up5 (k := 4) hk.2 (by decide)⟩ (fun i hi' => by rw [xup_t (by decide)]; exact hi i hi') (fun s' h1 h2' h3' => ?_)
  rw [qhs_1] at h3'
  exact hQ s' (N1_trans (N1_Fr hs rfl) (N1_trans (N1_up (by decide) (by unfold st1; omega)) h1)) (by rw [h2', xup_t (by decide), hs 41 (by decide)]) h3'
theorem call_lots {d : Nat} {σ : xM} (h : Inv σ) : Ev (d + 9) m_P_lots 0 [vR 4 0] [] σ (fun r s => Ev (d + 9) m_M_lots 0 [vR 40 0] [] s (fun r' s' => r = r' ∧ Inv s')) := by
  rw [b_P_lots_0]
  refine e_lots (Inv_Kp h) (fun s h1 h2 h3 => ?_)
  rw [b_M_lots_0]
  exact m_lots (R := σ 41 0) (by rw [h2]) h.1 (fun s' hs' hr => ⟨rfl, inv_fin (l := [41]) h h1 h3 hs' rfl rfl hr⟩)
theorem qply_v {R : Nat → Int} (hv : xvl R) (hy : R 0 < 9999) : xvl (qply R) := by
  have c0 := hv.2.1
  have y0 := hv.2.2.1
  refine xvl_lo (xvl_lo (qpl_v hv _ (by omega)) (by decide) (by decide) (by decide) (by omega) (fun _ => ?_) (by omega) (by omega)) (by decide) (by decide) (by decide) (fun _ => by omega) (by omega) (by omega) (by omega)
  unfold qheld
  split
  · decide
  · split
    · decide
    · omega
theorem qply_hi {R : Nat → Int} (hv : xvl R) {j : Nat} (h : 84 ≤ j) : qply R j = R j := by
  have c0 := hv.2.1
  unfold qply
  rw [qu_n (by omega), qu_n (by omega), qpl_o _ (by omega) (by omega)]
theorem qply_0 {R : Nat → Int} : qply R 0 = R 0 + 1 := qu_s
def qlo (R : Nat → Int) : Nat → (Nat → Int)
  | 0 => R
  | k + 1 => qply (qlr (qlo R k))
theorem qlo_f {R : Nat → Int} (hv : xvl R) (ht : Tk R) : ∀ k : Nat, R 0 + (k : Int) ≤ 9999 → xvl (qlo R k) ∧ Tk (qlo R k) ∧ qlo R k 0 = R 0 + (k : Int)
  | 0, _ => ⟨hv, ht, by show R 0 = R 0 + 0; omega⟩
  | k + 1, h => by
    obtain ⟨i1, i2, i3⟩ := qlo_f hv ht k (by omega)
    have v1 := qlr_v i1
    have y1 : qlr (qlo R k) 0 = qlo R k 0 := qlr_lo (by decide) (by decide)
    refine ⟨qply_v v1 (by omega), ?_, ?_⟩
    · exact Tk_cg i2 (fun j hj => by
        show qply (qlr (qlo R k)) j = _
        rw [qply_hi v1 (by omega), qlr_hi i1 (by omega)])
    · show qply (qlr (qlo R k)) 0 = _
      rw [qply_0, y1, i3]
      omega
theorem e_loose {d n : Nat} {R : Nat → Int} {Q : Int → xM → Prop} (n20 : n ≤ 20) (hy : R 0 + (n : Int) ≤ 9999) (hv : xvl R) (ht : Tk R) : ∀ f k : Nat, k + f = n → ∀ σ : xM, Kp σ (qlo R k) → (∀ s, N1 σ s → s 41 = σ 41 → Kp s (qlo R n) → Q (qlo R n 4) s) → Ev (d + 7) 17 39 [vR 4 0, vI (n : Int), vI (k : Int)] [] σ Q
  | 0, k, e, σ, h, hQ => by
    have e : k = n := e
    subst e
    rw [b_P_loose_39, if_neg (by omega), h.2.1.2.2.2.1]
    exact hQ σ N1_refl rfl h
  | f + 1, k, e, σ, h, hQ => by
    obtain ⟨i1, i2, i3⟩ := qlo_f hv ht k (by omega)
    have y1 : qlr (qlo R k) 0 = qlo R k 0 := qlr_lo (by decide) (by decide)
    rw [b_P_loose_39, if_pos (by omega)]
    refine e_lots h (fun s h1 h2 h3 => ?_)
    refine e_theyPlay h3 (by omega) (fun s' h1' h2' h3' => ?_)
    rw [xs1 (by omega)]
    exact e_loose n20 hy hv ht f (k + 1) (by omega) s' h3' (fun s3 g1 g2 g3 => hQ s3 (N1_trans h1 (N1_trans h1' g1)) (by rw [g2, h2', h2]) g3)
theorem m_loose {d n : Nat} {R : Nat → Int} {Q : Int → xM → Prop} (n20 : n ≤ 20) (hy : R 0 + (n : Int) ≤ 9999) (hv : xvl R) (ht : Tk R) : ∀ f k : Nat, k + f = n → ∀ σ : xM, σ 41 0 = qlo R k → (∀ s, Fr [41, 50, 51] σ s → s 41 0 = qlo R n → Q (qlo R n 4) s) → Ev (d + 7) 181 40 [vR 40 0, vI (n : Int), vI (k : Int)] [] σ Q
  | 0, k, e, σ, h, hQ => by
    have e : k = n := e
    subst e
    rw [b_M_loose_40, if_neg (by omega), xin (by decide) (by decide), show Int.toNat 4 = 4 from rfl, h]
    exact hQ σ Fr_refl h
  | f + 1, k, e, σ, h, hQ => by
    obtain ⟨i1, i2, i3⟩ := qlo_f hv ht k (by omega)
    have y1 : qlr (qlo R k) 0 = qlo R k 0 := qlr_lo (by decide) (by decide)
    rw [b_M_loose_40, if_pos (by omega)]
    refine m_lots h i1 (fun s hs hr => ?_)
    refine m_plays hr (qlr_v i1) (Tk_cg i2 (fun j hj => qlr_hi i1 (by omega))) (by omega) (fun s' hs' hr' => ?_)
    rw [xs1 (by omega)]
    exact m_loose n20 hy hv ht f (k + 1) (by omega) s' hr' (fun s3 g1 g2 => hQ s3 (Fr_trans (Fr_mono hs (by decide)) (Fr_trans hs' g1)) g2)
theorem call_loose {d : Nat} {σ : xM} (h : Inv σ) (x : Int) : Ev (d + 9) m_P_loose 0 [vR 4 0, vI x, vR 0 0] [] σ (fun r s => Ev (d + 9) m_M_loose 0 [vR 40 0, vI x, vR 0 0] [] s (fun r' s' => r = r' ∧ Inv s')) := by
  have hk := Inv_Kp h
  have y0 := h.1.2.2.1
  rw [b_P_loose_0, e_isWithin]
  simp only [xbc]
  by_cases hx : 1 ≤ x ∧ x ≤ 20
  · obtain ⟨n, hn⟩ : ∃ n : Nat, x = (n : Int) := ⟨x.toNat, by omega⟩
    subst hn
    have hs : xwr (σ 41 0 0 + (n : Int)) = σ 41 0 0 + (n : Int) := xw (by omega) (by omega)
    rw [if_neg (fun q => q hx), Kp_year hk, hs]
    by_cases hy : 9999 < σ 41 0 0 + (n : Int)
    · rw [if_pos hy, e_fail3, b_M_loose_0, e_in]
      simp only [xbc]
      rw [if_neg (fun q => q hx), xin (by decide) (by decide), show Int.toNat 0 = 0 from rfl, x39, hs, if_pos hy]
      exact fin3 h
    · rw [if_neg hy]
      refine e_loose (n := n) (R := σ 41 0) (by omega) (by omega) h.1 (Kp_Tk hk) n 0 (Nat.zero_add _) σ hk (fun s h1 h2 h3 => ?_)
      rw [b_M_loose_0, e_in]
      simp only [xbc]
      rw [if_neg (fun q => q hx), xin (by decide) (by decide), show Int.toNat 0 = 0 from rfl, h2, hs, if_neg hy]
      exact m_loose (n := n) (R := σ 41 0) (by omega) (by omega) h.1 (Kp_Tk hk) n 0 (Nat.zero_add _) s (by rw [h2]; rfl) (fun s' hs' hr => ⟨rfl, inv_fin (l := [41, 50, 51]) h h1 h3 hs' rfl rfl hr⟩)
  · rw [if_pos hx, e_fail1, b_M_loose_0, e_in]
    simp only [xbc]
    rw [if_pos hx]
    exact fin1 h
