/-! copies of rows; fits -/
theorem m_copy {d : Nat} {Q : Int → xM → Prop} : ∀ f k : Nat, k + f = 410 → ∀ σ : xM, (∀ j, j < k → σ 42 0 j = σ 41 0 j) → (∀ s, Fr [42] σ s → (∀ j, j < 410 → s 42 0 j = σ 41 0 j) → (∀ j, 410 ≤ j → s 42 0 j = σ 42 0 j) → Q 0 s) → Ev d 127 2 [vR 41 0, vR 42 0, vI (k : Int)] [] σ Q
  | 0, k, e, σ, h, hQ => by
    rw [b_M_copyAll_2, if_neg (by omega)]
    exact hQ σ Fr_refl (fun j hj => h j (by omega)) (fun _ _ => rfl)
  | f + 1, k, e, σ, h, hQ => by
    rw [b_M_copyAll_2, if_pos (by omega), xin (by omega) (by omega), xin (by omega) (by omega), Int.toNat_natCast, xs1 (by omega)]
    refine m_copy f (k + 1) (by omega) _ (fun j hj => ?_) (fun s h1 h2 h3 => hQ s (Fr_trans (Fr_up (by decide)) h1) (fun j hj => by rw [h2 j hj, xup_t (by decide)]) (fun j hj => by rw [h3 j hj, xup_k (by omega)]))
    rw [xup_t (t := 42) (t' := 41) (by decide)]
    by_cases e2 : j = k
    · rw [e2, xup_s]
    · rw [xup_k e2]
      exact h j (by omega)
theorem m_copyA {d : Nat} {Q : Int → xM → Prop} : ∀ f k : Nat, k + f = 410 → ∀ σ : xM, (∀ j, j < k → σ 41 0 j = σ 42 0 j) → (∀ s, Fr [41] σ s → (∀ j, j < 410 → s 41 0 j = σ 42 0 j) → (∀ j, 410 ≤ j → s 41 0 j = σ 41 0 j) → Q 0 s) → Ev d 127 2 [vR 42 0, vR 41 0, vI (k : Int)] [] σ Q
  | 0, k, e, σ, h, hQ => by
    rw [b_M_copyAllA_2, if_neg (by omega)]
    exact hQ σ Fr_refl (fun j hj => h j (by omega)) (fun _ _ => rfl)
  | f + 1, k, e, σ, h, hQ => by
    rw [b_M_copyAllA_2, if_pos (by omega), xin (by omega) (by omega), xin (by omega) (by omega), Int.toNat_natCast, xs1 (by omega)]
    refine m_copyA f (k + 1) (by omega) _ (fun j hj => ?_) (fun s h1 h2 h3 => hQ s (Fr_trans (Fr_up (by decide)) h1) (fun j hj => by rw [h2 j hj, xup_t (by decide)]) (fun j hj => by rw [h3 j hj, xup_k (by omega)]))
    rw [xup_t (t := 41) (t' := 42) (by decide)]
    by_cases e2 : j = k
    · rw [e2, xup_s]
    · rw [xup_k e2]
      exact h j (by omega)
theorem m_copyB {d : Nat} {Q : Int → xM → Prop} : ∀ f k : Nat, k + f = 410 → ∀ σ : xM, (∀ j, j < k → σ 43 0 j = σ 41 0 j) → (∀ s, Fr [43] σ s → (∀ j, j < 410 → s 43 0 j = σ 41 0 j) → (∀ j, 410 ≤ j → s 43 0 j = σ 43 0 j) → Q 0 s) → Ev d 127 2 [vR 41 0, vR 43 0, vI (k : Int)] [] σ Q
  | 0, k, e, σ, h, hQ => by
    rw [b_M_copyAllB_2, if_neg (by omega)]
    exact hQ σ Fr_refl (fun j hj => h j (by omega)) (fun _ _ => rfl)
  | f + 1, k, e, σ, h, hQ => by
    rw [b_M_copyAllB_2, if_pos (by omega), xin (by omega) (by omega), xin (by omega) (by omega), Int.toNat_natCast, xs1 (by omega)]
    refine m_copyB f (k + 1) (by omega) _ (fun j hj => ?_) (fun s h1 h2 h3 => hQ s (Fr_trans (Fr_up (by decide)) h1) (fun j hj => by rw [h2 j hj, xup_t (by decide)]) (fun j hj => by rw [h3 j hj, xup_k (by omega)]))
    rw [xup_t (t := 43) (t' := 41) (by decide)]
    by_cases e2 : j = k
    · rw [e2, xup_s]
    · rw [xup_k e2]
      exact h j (by omega)
theorem m_copyC {d : Nat} {Q : Int → xM → Prop} : ∀ f k : Nat, k + f = 410 → ∀ σ : xM, (∀ j, j < k → σ 41 0 j = σ 43 0 j) → (∀ s, Fr [41] σ s → (∀ j, j < 410 → s 41 0 j = σ 43 0 j) → (∀ j, 410 ≤ j → s 41 0 j = σ 41 0 j) → Q 0 s) → Ev d 127 2 [vR 43 0, vR 41 0, vI (k : Int)] [] σ Q
  | 0, k, e, σ, h, hQ => by
    rw [b_M_copyAllC_2, if_neg (by omega)]
    exact hQ σ Fr_refl (fun j hj => h j (by omega)) (fun _ _ => rfl)
  | f + 1, k, e, σ, h, hQ => by
    rw [b_M_copyAllC_2, if_pos (by omega), xin (by omega) (by omega), xin (by omega) (by omega), Int.toNat_natCast, xs1 (by omega)]
    refine m_copyC f (k + 1) (by omega) _ (fun j hj => ?_) (fun s h1 h2 h3 => hQ s (Fr_trans (Fr_up (by decide)) h1) (fun j hj => by rw [h2 j hj, xup_t (by decide)]) (fun j hj => by rw [h3 j hj, xup_k (by omega)]))
    rw [xup_t (t := 41) (t' := 43) (by decide)]
    by_cases e2 : j = k
    · rw [e2, xup_s]
    · rw [xup_k e2]
      exact h j (by omega)
def qsl (A B : Nat → Int) : Nat → Nat → Int
  | 0, _ => 1
  | f + 1, k => if B k = A k then qsl A B f (k + 1) else 0
theorem e_like {d X n : Nat} {A : Nat → Int} {σ : xM} {Q : Int → xM → Prop} {m : Int} (hn : σ 36 X 1 = (n : Int)) (n7 : n ≤ 7) (hA : ∀ i, i < n → σ 38 0 i = A i) : ∀ f k : Nat, k + f = n → Ev d 122 21 [vR 36 X, vR 38 0, vI m, vI (k : Int)] [] σ Q = Q (qsl A (fun j => σ 37 X j) f k) σ
  | 0, k, e => by
    rw [b_H_startsLike_21, hn, if_neg (by omega), xz1]
    rfl
  | f + 1, k, e => by
    rw [b_H_startsLike_21, hn, if_pos (by omega), xin (by omega) (by omega), xin (by omega) (by omega), Int.toNat_natCast, hA k (by omega), xs1 (by omega), xz0, e_like hn n7 hA f (k + 1) (by omega)]
    show _ = Q (if σ 37 X k = A k then qsl A (fun j => σ 37 X j) f (k + 1) else 0) σ
    split <;> rfl
theorem qsl_01 {A B : Nat → Int} : ∀ f k : Nat, qsl A B f k = 0 ∨ qsl A B f k = 1
  | 0, _ => Or.inr rfl
  | f + 1, k => by
    show (if B k = A k then qsl A B f (k + 1) else 0) = 0 ∨ (if B k = A k then qsl A B f (k + 1) else 0) = 1
    split
    · exact qsl_01 f (k + 1)
    · exact Or.inl rfl
theorem qrt_sl {A B : Nat → Int} {m : Int} : ∀ f k : Nat, ((k + f : Nat) : Int) ≤ m → (qrt A B m f k = ((k + f : Nat) : Int) ↔ qsl A B f k = 1) ∧ (qrt A B m f k ≤ ((k + f : Nat) : Int))
  | 0, k, h => ⟨⟨fun _ => rfl, fun _ => rfl⟩, Int.le_refl _⟩
  | f + 1, k, h => by
    obtain ⟨i1, i2⟩ := qrt_sl (A := A) (B := B) (m := m) f (k + 1) (by omega)
    show ((if (k : Int) < m then (if A k = B k then qrt A B m f (k + 1) else (k : Int)) else (k : Int)) = _ ↔ (if B k = A k then qsl A B f (k + 1) else 0) = 1) ∧ (if (k : Int) < m then (if A k = B k then qrt A B m f (k + 1) else (k : Int)) else (k : Int)) ≤ _
    rw [if_pos (by omega)]
    by_cases e : A k = B k
    · rw [if_pos e, if_pos e.symm, show k + (f + 1) = k + 1 + f by omega]
      exact ⟨i1, i2⟩
    · rw [if_neg e, if_neg (fun q => e q.symm)]
      refine ⟨⟨fun q => by omega, fun q => absurd q (by decide)⟩, by omega⟩
theorem qrt_m {A B : Nat → Int} {m : Int} : ∀ f k : Nat, (k : Int) ≤ m → qrt A B m f k ≤ m
  | 0, k, h => h
  | f + 1, k, h => by
    show (if (k : Int) < m then (if A k = B k then qrt A B m f (k + 1) else (k : Int)) else (k : Int)) ≤ m
    split
    · split
      · exact qrt_m f (k + 1) (by omega)
      · exact h
    · exact h
def qfg (R B : Nat → Int) (n : Nat) (z : Nat) : Int := if R 3 < (n : Int) then 0 else qsl (qlot R (R 2).toNat (z : Int) (R 3).toNat).2.2 B n 0
theorem qfg_01 (R B : Nat → Int) (n z : Nat) : qfg R B n z = 0 ∨ qfg R B n z = 1 := by
  unfold qfg
  split
  · exact Or.inl rfl
  · exact qsl_01 n 0
def qcn (g : Nat → Int) : Nat → Nat
  | 0 => 0
  | z + 1 => if g z = 0 then qcn g z else qcn g z + 1
def qfs (g : Nat → Int) : Nat → Int
  | 0 => -1
  | z + 1 => if g z = 0 then qfs g z else if qfs g z < 0 then (z : Int) else qfs g z
theorem qcn_le (g : Nat → Int) : ∀ z, qcn g z ≤ z
  | 0 => Nat.le_refl _
  | z + 1 => by
    have := qcn_le g z
    show (if g z = 0 then qcn g z else qcn g z + 1) ≤ z + 1
    split <;> omega
theorem e_fits {d X n : Nat} {σ : xM} {R : Nat → Int} {Q : Int → xM → Prop} {w : Int} (h : Kp σ R) (hX : X < 4) (hn : σ 36 X 1 = (n : Int)) (hQ : ∀ s, Fr [38] σ s → (if w = 0 then Q (qcn (qfg R (fun j => σ 37 X j) n) 256 : Int) s else if qfs (qfg R (fun j => σ 37 X j) n) 256 < 0 then Ev (d + 4) 38 0 [vR 4 0, vI 2] [] s Q else Q (qfs (qfg R (fun j => σ 37 X j) n) 256) s)) :
    ∀ f z : Nat, z + f = 256 → ∀ s, Fr [38] σ s → Ev (d + 5) 24 48 [vR 4 0, vI (X : Int), vI w, vI (qcn (qfg R (fun j => σ 37 X j) n) z : Int), vI (qfs (qfg R (fun j => σ 37 X j) n) z), vI (z : Int)] [] s Q
  | 0, z, e, s, hs => by
    have e : z = 256 := e
    subst e
    rw [b_P_fits_48, if_neg (by decide)]
    exact hQ s hs
  | f + 1, z, e, s, hs => by
    have hk := Kp_sc h hs rfl
    have p0 := h.1.1
    have c0 := h.1.2.1
    have cl := qcn_le (qfg R (fun j => σ 37 X j) n) z
    have e36 : s 36 = σ 36 := hs 36 (by decide)
    have e37 : s 37 = σ 37 := hs 37 (by decide)
    have ih := e_fits h hX hn hQ f (z + 1) (by omega)
    have eqc : qcn (qfg R (fun j => σ 37 X j) n) (z + 1) = if qfg R (fun j => σ 37 X j) n z = 0 then qcn (qfg R (fun j => σ 37 X j) n) z else qcn (qfg R (fun j => σ 37 X j) n) z + 1 := rfl
    have eqf : qfs (qfg R (fun j => σ 37 X j) n) (z + 1) = if qfg R (fun j => σ 37 X j) n z = 0 then qfs (qfg R (fun j => σ 37 X j) n) z else if qfs (qfg R (fun j => σ 37 X j) n) z < 0 then (z : Int) else qfs (qfg R (fun j => σ 37 X j) n) z := rfl
    rw [eqc, eqf] at ih
    rw [b_P_fits_48, if_pos (by omega), b_S_drawLots_0]
    refine e_draw (n2 := (R 2).toNat) (n3 := (R 3).toNat) (z := (z : Int)) hk (by omega) (by omega) (fun s2 hs2 hi => ?_) _ 0 (Nat.zero_add _) _ _ s Fr_refl (fun i hi => absurd hi (by omega))
    have hk2 := Kp_sc hk hs2 rfl
    have f2 : Fr [38] σ s2 := Fr_trans hs hs2
    have a36 : s2 36 X 1 = (n : Int) := by rw [f2 36 (by decide), hn]
    have a37 : s2 37 = σ 37 := f2 37 (by decide)
    rw [xin (by omega) (by omega), Int.toNat_natCast, Kp_chn hk2]
    have key : ∀ Q' : Int → xM → Prop, Ev (d + 4) 122 0 [vR 36 X, vR 38 0, vI (R 3), vR 0 0] [] s2 Q' = Q' (qfg R (fun j => σ 37 X j) n z) s2 := by
      intro Q'
      rw [b_H_startsLike_0, a36]
      unfold qfg
      by_cases e1 : R 3 < (n : Int)
      · rw [if_pos e1, if_pos e1, xz0]
      · rw [if_neg e1, if_neg e1, if_neg (by omega), ← a37]
        exact e_like (A := (qlot R (R 2).toNat (z : Int) (R 3).toNat).2.2) a36 (by omega) (fun i hi' => hi i (by omega)) n 0 (Nat.zero_add _)
    rw [key, xs1 (by omega), xs1 (by omega)]
    by_cases g0 : qfg R (fun j => σ 37 X j) n z = 0
    · rw [if_pos g0, if_pos g0] at ih
      rw [if_pos g0]
      exact ih s2 f2
    · rw [if_neg g0, if_neg g0] at ih
      rw [if_neg g0]
      by_cases l0 : qfs (qfg R (fun j => σ 37 X j) n) z < 0
      · rw [if_pos l0] at ih
        rw [if_pos l0]
        exact ih s2 f2
      · rw [if_neg l0] at ih
        rw [if_neg l0]
        exact ih s2 f2
def qdn (g : Nat → Int) : Nat → Int
  | 0 => -1
  | f + 1 => if g (255 - f) = 0 then qdn g f else ((255 - f : Nat) : Int)
theorem qfs_rg (g : Nat → Int) : ∀ z, qfs g z = -1 ∨ 0 ≤ qfs g z
  | 0 => Or.inl rfl
  | z + 1 => by
    show (if g z = 0 then qfs g z else if qfs g z < 0 then (z : Int) else qfs g z) = -1 ∨ 0 ≤ (if g z = 0 then qfs g z else if qfs g z < 0 then (z : Int) else qfs g z)
    split
    · exact qfs_rg g z
    · split
      · exact Or.inr (by omega)
      · exact qfs_rg g z
theorem qfs_dn (g : Nat → Int) : ∀ f z : Nat, z + f = 256 → qfs g 256 = (if qfs g z < 0 then qdn g f else qfs g z)
  | 0, z, e => by
    have e : z = 256 := e
    subst e
    rcases qfs_rg g 256 with h | h
    · rw [if_pos (by omega), h]
      rfl
    · rw [if_neg (by omega)]
  | f + 1, z, e => by
    have ez : 255 - f = z := by omega
    rw [qfs_dn g f (z + 1) (by omega)]
    show (if (if g z = 0 then qfs g z else if qfs g z < 0 then (z : Int) else qfs g z) < 0 then qdn g f else (if g z = 0 then qfs g z else if qfs g z < 0 then (z : Int) else qfs g z)) = (if qfs g z < 0 then (if g (255 - f) = 0 then qdn g f else ((255 - f : Nat) : Int)) else qfs g z)
    rw [ez]
    by_cases g0 : g z = 0
    · rw [if_pos g0, if_pos g0]
    · rw [if_neg g0, if_neg g0]
      by_cases l0 : qfs g z < 0
      · rw [if_pos l0, if_neg (by omega)]
      · rw [if_neg l0, if_neg l0]
theorem qlot_cg {W R : Nat → Int} {n2 : Nat} {z : Int} (h2 : n2 ≤ 7) (h : ∀ c q, c < 7 → q < 7 → qmy W c q = qmy R c q) : ∀ c, c ≤ 7 → qlot W n2 z c = qlot R n2 z c
  | 0, _ => rfl
  | c + 1, hc => by
    have eF : ∀ T, qfr W n2 c T = qfr R n2 c T := fun T => qms_cg n2 (fun q hq => by rw [h c q (by omega) (by omega)])
    show qls W n2 c (qlot W n2 z c) = qls R n2 c (qlot R n2 z c)
    rw [qlot_cg h2 h c (by omega)]
    unfold qls
    rw [eF]
def qEx (W R : Nat → Int) : Prop := ∀ j, j ≠ 1 → (∀ i, i < 7 → j ≠ 21 + 9 * i + 5) → W j = R j
theorem qEx_my {W R : Nat → Int} (h : qEx W R) {c q : Nat} (hc : c < 7) (hq : q < 7) : qmy W c q = qmy R c q := by
  unfold qmy
  rw [h _ (by omega) (fun i hi => by omega), h _ (by omega) (fun i hi => by omega), h _ (by omega) (fun i hi => by omega), h _ (by omega) (fun i hi => by omega), h _ (by omega) (fun i hi => by omega), h _ (by omega) (fun i hi => by omega)]
theorem m_fits {d X n : Nat} {σ : xM} {R B : Nat → Int} {Q : Int → xM → Prop} {w : Int} (hv : xvl R) (hX : X < 4) (hn : σ 46 0 X = (n : Int)) (n24 : n ≤ 24) (hB : ∀ j, j < 24 → σ 47 0 (24 * X + j) = B j) (hQ : ∀ s, Fr [41] σ s → qEx (s 41 0) R → Ev (d + 5) 129 0 [vR 40 0] [] s (fun _ s1 => if w = 0 then Q (qcn (qfg R B n) 256 : Int) s1 else if qdn (qfg R B n) 256 < 0 then Ev (d + 5) 124 0 [vR 40 0, vI (-1000000002)] [] s1 (fun v2 s2 => Q v2 s2) else Q (qdn (qfg R B n) 256) s1)) :
    ∀ m f : Nat, m + f = 256 → ∀ (w6 : xV) (s : xM), Fr [41] σ s → xvl (s 41 0) → qEx (s 41 0) R → Ev (d + 6) 192 53 [vR 40 0, vI (X : Int), vI w, vI (((qcn (qfg R B n) 256 : Nat) : Int) - ((qcn (qfg R B n) m : Nat) : Int)), vI (qdn (qfg R B n) f), vI ((m : Int) - 1), w6] [] s Q
  | 0, f, e, w6, s, hs, hvs, hx => by
    have e : f = 256 := by omega
    subst e
    rw [b_M_fits_53, if_pos (by decide)]
    have := hQ s hs hx
    have e0 : ((qcn (qfg R B n) 256 : Nat) : Int) - ((qcn (qfg R B n) 0 : Nat) : Int) = (qcn (qfg R B n) 256 : Int) := Int.sub_zero _
    rw [e0]
    exact this
  | m + 1, f, e, w6, s, hs, hvs, hx => by
    have c0 := hv.2.1
    have p0 := hv.1
    have r2 : s 41 0 2 = R 2 := hx 2 (by decide) (fun i _ => by omega)
    have r3 : s 41 0 3 = R 3 := hx 3 (by decide) (fun i _ => by omega)
    have em : ((m + 1 : Nat) : Int) - 1 = (m : Int) := by omega
    have eW : xup s 41 0 1 (m : Int) 41 0 = qu (s 41 0) 1 (m : Int) := xup_row
    have hvW : xvl (qu (s 41 0) 1 (m : Int)) := xvl_1z hvs
    have hxW : qEx (qu (s 41 0) 1 (m : Int)) R := fun j h1 h2 => by rw [qu_n h1]; exact hx j h1 h2
    have ih := m_fits hv hX hn n24 hB hQ m (f + 1) (by omega)
    have cl1 := qcn_le (qfg R B n) 256
    have cl2 := qcn_le (qfg R B n) m
    have eqc : qcn (qfg R B n) (m + 1) = if qfg R B n m = 0 then qcn (qfg R B n) m else qcn (qfg R B n) m + 1 := rfl
    have eqd : qdn (qfg R B n) (f + 1) = if qfg R B n m = 0 then qdn (qfg R B n) f else (m : Int) := by
      have : 255 - f = m := by omega
      show (if qfg R B n (255 - f) = 0 then qdn (qfg R B n) f else ((255 - f : Nat) : Int)) = _
      rw [this]
    rw [eqd] at ih
    rw [eqc, em, b_M_fits_53, if_neg (by omega), xin (by decide) (by decide), show Int.toNat 1 = 1 from rfl]
    refine m_lots eW hvW (fun s1 h1 hr => ?_)
    have f1 : Fr [41] σ s1 := Fr_trans hs (Fr_trans (Fr_up (by decide)) h1)
    have ep : qlp (qu (s 41 0) 1 (m : Int)) = qlot R (R 2).toNat (m : Int) (R 3).toNat := by
      unfold qlp
      rw [qu_s, qu_n (by decide), qu_n (by decide), r2, r3]
      exact qlot_cg (by omega) (fun c q hc hq => qEx_my hxW hc hq) _ (by omega)
    have ex1 : qEx (s1 41 0) R := fun j j1 j2 => by
      rw [hr]
      unfold qlr qW
      rw [qu_n j1, qhs_ne _ (fun i hi => j2 i (by rw [qu_n (by decide), r3] at hi; omega))]
      exact hxW j j1 j2
    have s3 : s1 41 0 3 = R 3 := ex1 3 (by decide) (fun i _ => by omega)
    have at1 : ∀ k : Nat, k < 24 → (k : Int) < R 3 → s1 41 0 (21 + 9 * k + 5) = (qlot R (R 2).toNat (m : Int) (R 3).toNat).2.2 k := fun k _ hk => by
      rw [hr]
      unfold qlr qW
      rw [qu_n (by omega), qhs_at _ (by rw [qu_n (by decide), r3]; omega), ep]
    rw [b_M_rightOf_0]
    refine (m_right (n := n) hX n24 (by rw [f1 46 (by decide), hn]) (by rw [s3]; omega) n 0 (Nat.zero_add _)).mpr ?_
    rw [xin (by omega) (by omega), Int.toNat_natCast, f1 46 (by decide), hn, s3]
    have eR : qrt (fun k => s1 41 0 (21 + 9 * k + 5)) (fun k => s1 47 0 (24 * X + k)) (R 3) n 0 = qrt (qlot R (R 2).toNat (m : Int) (R 3).toNat).2.2 B (R 3) n 0 := qrt_cg n 0 (by omega) (fun k hk hk3 => ⟨at1 k hk hk3, by rw [f1 47 (by decide)]; exact hB k hk⟩)
    have key : qrt (qlot R (R 2).toNat (m : Int) (R 3).toNat).2.2 B (R 3) n 0 = (n : Int) ↔ ¬ qfg R B n m = 0 := by
      unfold qfg
      by_cases e1 : R 3 < (n : Int)
      · rw [if_pos e1]
        have := qrt_m (A := (qlot R (R 2).toNat (m : Int) (R 3).toNat).2.2) (B := B) (m := R 3) n 0 (by omega)
        exact ⟨fun q => by omega, fun q => absurd rfl q⟩
      · rw [if_neg e1]
        have := (qrt_sl (A := (qlot R (R 2).toNat (m : Int) (R 3).toNat).2.2) (B := B) (m := R 3) n 0 (by omega)).1
        rw [Nat.zero_add] at this
        rw [this]
        rcases qsl_01 (A := (qlot R (R 2).toNat (m : Int) (R 3).toNat).2.2) (B := B) n 0 with q | q <;> rw [q] <;> decide
    have em1 : xwr ((m : Int) + -1) = (m : Int) - 1 := xw (by omega) (by omega)
    have hv1 : xvl (s1 41 0) := by rw [hr]; exact qlr_v hvW
    rw [eR, em1]
    by_cases g0 : qfg R B n m = 0
    · rw [if_pos g0] at ih
      rw [if_neg (fun q => (key.mp q) g0), if_pos rfl, if_pos rfl, if_pos g0, show xwr (((qcn (qfg R B n) 256 : Nat) : Int) - ((qcn (qfg R B n) m : Nat) : Int) + 0) = ((qcn (qfg R B n) 256 : Nat) : Int) - ((qcn (qfg R B n) m : Nat) : Int) from by rw [xw (by omega) (by omega)]; omega]
      exact ih _ s1 f1 hv1 ex1
    · rw [if_neg g0] at ih
      rw [if_pos (key.mpr g0), if_neg (by decide), if_neg (by decide), if_neg g0, show xwr (((qcn (qfg R B n) 256 : Nat) : Int) - ((qcn (qfg R B n) m + 1 : Nat) : Int) + 1) = ((qcn (qfg R B n) 256 : Nat) : Int) - ((qcn (qfg R B n) m : Nat) : Int) from by rw [xw (by omega) (by omega)]; omega]
      exact ih _ s1 f1 hv1 ex1
theorem call_fits {d : Nat} {σ : xM} (h : Inv σ) (x y : Int) : Ev (d + 9) m_P_fits 0 [vR 4 0, vI x, vI y, vR 0 0, vR 0 0, vR 0 0] [] σ (fun r s => Ev (d + 9) m_M_fits 0 [vR 40 0, vI x, vI y, vR 0 0, vR 0 0, vR 0 0, vR 0 0] [] s (fun r' s' => r = r' ∧ Inv s')) := by
  suffices q : ∀ K : Int → xM → Prop, (∀ r s, K r s = Ev (d + 9) m_M_fits 0 [vR 40 0, vI x, vI y, vR 0 0, vR 0 0, vR 0 0, vR 0 0] [] s (fun r' s' => r = r' ∧ Inv s')) → Ev (d + 9) m_P_fits 0 [vR 4 0, vI x, vI y, vR 0 0, vR 0 0, vR 0 0] [] σ K from q _ (fun _ _ => rfl)
  intro K hK
  obtain ⟨n2, hn2, l2⟩ := xvl_p h.1
  obtain ⟨n3, hn3, l3⟩ := xvl_c h.1
  have hk := Inv_Kp h
  have pa := Kp_parts hk
  have ch := Kp_chn hk
  have ⟨p0, p7⟩ := h.1.1
  have ⟨c0, c7⟩ := h.1.2.1
  have e45 : ∀ k v, xup σ 39 0 k v 45 = σ 45 := fun k v => xup_t (by decide)
  by_cases hx : 0 ≤ x ∧ x ≤ 3
  · skip
    obtain ⟨X, hXx⟩ : ∃ X : Nat, x = (X : Int) := ⟨x.toNat, by omega⟩
    subst hXx
    have hX : X < 4 := by omega
    have hS := h.2.2.2.2.1
    obtain ⟨j1, j2, j3, j4, j5, j6⟩ := hS X hX
    by_cases hy : 0 ≤ y ∧ y ≤ 1
    · by_cases hb : σ 45 0 X = 0
      · simp (disch := omega) only [b_P_fits_0, e_PisSheet, e_isWithin, j1, hb, e_fail2, xbc, ↓reduceIte, ↓if_pos, ↓if_neg, xin, Int.toNat_natCast]
        rw [hK]
        simp (disch := omega) only [b_M_fits_0, e_MisSheet, e_in, e45, hb, xbc, ↓reduceIte, ↓if_pos, ↓if_neg, xin, Int.toNat_natCast]
        exact fin2 h
      · obtain ⟨n, hn⟩ : ∃ n : Nat, σ 46 0 X = (n : Int) := ⟨(σ 46 0 X).toNat, by omega⟩
        simp (disch := omega) only [b_P_fits_0, e_PisSheet, e_isWithin, j1, xbc, ↓reduceIte, ↓if_pos, ↓if_neg, xin, Int.toNat_natCast]
        refine e_fits (n := n) (w := y) hk hX (by rw [j2, hn]) (fun s hs => ?_) 256 0 (by decide) σ Fr_refl
        have e41 : s 41 = σ 41 := hs 41 (by decide)
        have go : ∀ (K' : Int → xM → Prop) (u : xM), Fr [38, 39] σ u → (∀ τ, Fr [41, 43] u τ → τ 41 0 = σ 41 0 → (if y = 0 then K' (qcn (qfg (σ 41 0) (fun j => σ 37 X j) n) 256 : Int) τ else if qfs (qfg (σ 41 0) (fun j => σ 37 X j) n) 256 < 0 then Ev (d + 8) 124 0 [vR 40 0, vI (-1000000002)] [] τ K' else K' (qfs (qfg (σ 41 0) (fun j => σ 37 X j) n) 256) τ)) → Ev (d + 9) m_M_fits 0 [vR 40 0, vI (X : Int), vI y, vR 0 0, vR 0 0, vR 0 0, vR 0 0] [] u K' := by
          intro K' u hu hK'
          have u41 : u 41 = σ 41 := hu 41 (by decide)
          have u45 : u 45 = σ 45 := hu 45 (by decide)
          simp (disch := omega) only [b_M_fits_0, e_MisSheet, e_in, u45, b_M_thinks_0, b_M_copyAllB_0, xbc, ↓reduceIte, ↓if_pos, ↓if_neg, xin, Int.toNat_natCast]
          refine m_copyB 410 0 (by decide) u (fun j hj => absurd hj (by omega)) (fun a h1 h2 h3 => ?_)
          have a41 : a 41 = σ 41 := by rw [h1 41 (by decide), u41]
          have q0 := m_fits (d := d + 3) (X := X) (n := n) (w := y) (Q := K') (σ := a) (R := σ 41 0) (B := fun j => σ 37 X j) h.1 hX (by rw [h1 46 (by decide), hu 46 (by decide), hn]) (by omega) (fun j hj => by rw [h1 47 (by decide), hu 47 (by decide), j6 j hj]) (fun t ht hx' => ?_) 256 0 (by decide) (vR 0 0) a Fr_refl (by rw [a41]; exact h.1) (by rw [a41]; exact fun _ _ _ => rfl)
          · rw [Int.sub_self] at q0
            exact q0
          · rw [b_M_putsBack_0, b_M_copyAllC_0]
            refine m_copyC 410 0 (by decide) t (fun j hj => absurd hj (by omega)) (fun τ g1 g2 g3 => ?_)
            have er : τ 41 0 = σ 41 0 := by
              funext j
              by_cases hj : j < 410
              · rw [g2 j hj, ht 43 (by decide), h2 j hj, u41]
              · rw [g3 j (by omega)]
                exact hx' j (by omega) (fun i hi => by omega)
            have := hK' τ (Fr_trans (Fr_mono h1 (by decide)) (Fr_trans (Fr_mono ht (by decide)) (Fr_mono g1 (by decide)))) er
            have ed := qfs_dn (qfg (σ 41 0) (fun j => σ 37 X j) n) 256 0 (by decide)
            rw [show qfs (qfg (σ 41 0) (fun j => σ 37 X j) n) 0 = -1 from rfl, if_pos (show (-1 : Int) < 0 by decide)] at ed
            rw [ed] at this
            exact this
        have hfin : ∀ τ, Fr [41, 43] s τ → τ 41 0 = σ 41 0 → Inv τ := fun τ h1 h2 => inv_fin (l := [41, 43]) h (N1_Fr hs rfl) (Kp_sc hk hs rfl) h1 rfl rfl h2
        by_cases y0 : y = 0
        · rw [if_pos y0, hK]
          refine go _ s (Fr_mono hs (by decide)) (fun τ h1 h2 => ?_)
          rw [if_pos y0]
          exact ⟨rfl, hfin τ h1 h2⟩
        · by_cases l0 : qfs (qfg (σ 41 0) (fun j => σ 37 X j) n) 256 < 0
          · rw [if_neg y0, if_pos l0, e_fail2, hK]
            refine go _ _ (Fr_trans (Fr_mono hs (by decide)) (Fr_up (by decide))) (fun τ h1 h2 => ?_)
            rw [if_neg y0, if_pos l0, e_err2]
            refine ⟨rfl, ?_⟩
            have i1 : Inv s := Inv_Fr h (Fr_mono hs (by decide))
            have i2 := Inv_err (k := 2) i1 (by decide) (by decide) rfl
            have e44 : τ 44 = σ 44 := by rw [h1 44 (by decide), xup_t (by decide), hs 44 (by decide)]
            refine inv_fin (l := [41, 43]) (s := xup (xup s 39 0 2 (xwr (s 39 0 2 + 1))) 44 0 2 (xwr (s 44 0 2 + 1))) i2 N1_refl (Inv_Kp i2) (fun t ht => ?_) rfl rfl ?_
            · by_cases t44 : t = 44
              · subst t44
                funext a b
                by_cases ea : a = 0
                · subst ea
                  by_cases eb : b = 2
                  · subst eb
                    rw [xup_s, xup_s, e44, hs 44 (by decide)]
                  · rw [xup_k eb, xup_k eb, e44, xup_t (by decide), hs 44 (by decide)]
                · rw [xup_i ea, xup_i ea, e44, xup_t (by decide), hs 44 (by decide)]
              · rw [xup_t t44, xup_t t44, h1 t ht]
            · rw [xup_t (by decide), h2, xup_t (by decide), xup_t (by decide), e41]
          · rw [if_neg y0, if_neg l0, hK]
            refine go _ s (Fr_mono hs (by decide)) (fun τ h1 h2 => ?_)
            rw [if_neg y0, if_neg l0]
            exact ⟨rfl, hfin τ h1 h2⟩
    · simp (disch := omega) only [b_P_fits_0, e_PisSheet, e_isWithin, e_fail1, xbc, ↓reduceIte, ↓if_pos, ↓if_neg, xin, Int.toNat_natCast]
      rw [hK]
      simp (disch := omega) only [b_M_fits_0, e_MisSheet, e_in, x39, xbc, ↓reduceIte, ↓if_pos, ↓if_neg, xin, Int.toNat_natCast]
      exact fin1 h
  · simp (disch := omega) only [b_P_fits_0, e_PisSheet, e_isWithin, e_fail1, xbc, ↓reduceIte, ↓if_pos, ↓if_neg, xin, Int.toNat_natCast]
    rw [hK]
    simp (disch := omega) only [b_M_fits_0, e_MisSheet, e_in, x39, xbc, ↓reduceIte, ↓if_pos, ↓if_neg, xin, Int.toNat_natCast]
    exact fin1 h

