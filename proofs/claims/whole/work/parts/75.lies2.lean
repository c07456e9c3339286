/-! lies, of the reference -/
def qR3 (R W : Nat → Int) (k : Nat) : Prop := ∀ j, j ≠ 21 + 9 * k + (6 + 0) → j ≠ 21 + 9 * k + (6 + 1) → j ≠ 21 + 9 * k + (6 + 2) → W j = R j
def qRl (W : Nat → Int) (k a b : Nat) : Nat → Int := qu (qu (qu W (21 + 9 * k + (6 + 0)) (a : Int)) (21 + 9 * k + (6 + 1)) (b : Int)) (21 + 9 * k + (6 + 2)) (-1)
theorem qRl_r {R W : Nat → Int} {k a b : Nat} (h : qR3 R W k) : qR3 R (qRl W k a b) k := fun j h0 h1 h2 => by
  unfold qRl
  rw [qu_n h2, qu_n h1, qu_n h0]
  exact h j h0 h1 h2
theorem qR3_my {R W : Nat → Int} {k c p : Nat} (h : qR3 R W k) (hk : k < 7) (hp : p < 7) : qmy W c p = qmy R c p := by
  unfold qmy
  rw [h _ (by omega) (by omega) (by omega), h _ (by omega) (by omega) (by omega), h _ (by omega) (by omega) (by omega), h _ (by omega) (by omega) (by omega), h _ (by omega) (by omega) (by omega), h _ (by omega) (by omega) (by omega)]
theorem qR3_lo {R W : Nat → Int} {k j : Nat} (h : qR3 R W k) (hj : j < 21) : W j = R j := h j (by omega) (by omega) (by omega)
theorem qR3_P {R W : Nat → Int} {k u : Nat} (h : qR3 R W k) (hk : k < 7) : qP W u = qP R u := funext fun i => h _ (by omega) (by omega) (by omega)
theorem qRl_v {W : Nat → Int} {k a b : Nat} (hv : xvl W) (ha : (a : Int) < W 2) (hb : (b : Int) < W 2) : xvl (qRl W k a b) := by
  have p0 := hv.1
  have v1 : xvl (qu W (21 + 9 * k + (6 + 0)) (a : Int)) := xvl_ch hv (by decide) (by omega) (by omega) (by omega) (by omega) (fun _ => by omega)
  have e1 : qu W (21 + 9 * k + (6 + 0)) (a : Int) 2 = W 2 := qu_n (by omega)
  have v2 : xvl (qu (qu W (21 + 9 * k + (6 + 0)) (a : Int)) (21 + 9 * k + (6 + 1)) (b : Int)) := xvl_ch v1 (by decide) (by omega) (by omega) (by omega) (by omega) (fun _ => by omega)
  have e2 : qu (qu W (21 + 9 * k + (6 + 0)) (a : Int)) (21 + 9 * k + (6 + 1)) (b : Int) 2 = W 2 := by rw [qu_n (by omega), e1]
  exact xvl_ch v2 (by decide) (by omega) (by omega) (by omega) (by omega) (fun _ => by omega)
theorem qRl_wo {R W : Nat → Int} {k a b p : Nat} (h : qR3 R W k) (hk : k < 7) : qwo (qRl W k a b) k (p : Int) = quL R k a b p := by
  have h' := qRl_r (a := a) (b := b) h
  have d0 : qRl W k a b (21 + 9 * k + (6 + 0)) = (a : Int) := by unfold qRl; rw [qu_n (by omega), qu_n (by omega), qu_s]
  have d1 : qRl W k a b (21 + 9 * k + (6 + 1)) = (b : Int) := by unfold qRl; rw [qu_n (by omega), qu_s]
  have d2 : qRl W k a b (21 + 9 * k + (6 + 2)) = -1 := by unfold qRl; rw [qu_s]
  have dd : qdr (qRl W k a b) k (p : Int) = (qdl a b p : Int) := by
    unfold qdr qdl
    rw [d0, d1, d2]
    by_cases e1 : p = a
    · rw [if_pos (by omega), if_pos e1]
      rfl
    · rw [if_neg (by omega), if_neg e1]
      by_cases e2 : p = b
      · rw [if_pos (by omega), if_pos e2]
        rfl
      · rw [if_neg (by omega), if_neg e2, if_neg (by omega)]
        rfl
  unfold qwo quL qwi
  rw [dd, qR3_P h' hk, h' (21 + 9 * k + 4) (by omega) (by omega) (by omega), h' (21 + 9 * k + 0) (by omega) (by omega) (by omega)]
/-- the reference amid the lies -/
def qMl (R : Nat → Int) (m n k : Nat) (s : xM) : Prop := qR3 R (s 41 0) k ∧ xvl (s 41 0) ∧ (∀ c, c < n → c ≠ k → ∀ p, p < m → s 53 0 (7 * c + p) = qWw R c p) ∧ ∀ p, p < m → s 55 0 p = qwo R k (p : Int)
def qstv (R : Nat → Int) (m n k v : Nat) : Int × Int := qrow (qG R m n k) (qnow R m n k) (v / 10) (qall (qG R m n k) (qnow R m n k) m (v / 10)) (if v % 10 < m then v % 10 else m)
theorem qstv_s {R : Nat → Int} {m n k v : Nat} (m7 : m ≤ 7) : qstv R m n k (v + 1) = if v % 10 < m then qtS (qG R m n k) (qnow R m n k) (v / 10) (v % 10) (qstv R m n k v) else qstv R m n k v := by
  unfold qstv
  by_cases h9 : v % 10 = 9
  · rw [show (v + 1) / 10 = v / 10 + 1 by omega, show (v + 1) % 10 = 0 by omega, if_neg (c := v % 10 < m) (by omega), if_neg (c := v % 10 < m) (by omega)]
    by_cases m0 : 0 < m
    · rw [if_pos m0]
      rfl
    · rw [if_neg m0, show m = 0 by omega]
      rfl
  · rw [show (v + 1) / 10 = v / 10 by omega, show (v + 1) % 10 = v % 10 + 1 by omega]
    by_cases h1 : v % 10 < m
    · rw [if_pos h1, if_pos h1]
      by_cases h2 : v % 10 + 1 < m
      · rw [if_pos h2]
        rfl
      · rw [if_neg h2, show m = v % 10 + 1 by omega]
        have : ∀ x : Nat, x = v % 10 + 1 → qrow (qG R x n k) (qnow R x n k) (v / 10) (qall (qG R x n k) (qnow R x n k) x (v / 10)) x = qtS (qG R x n k) (qnow R x n k) (v / 10) (v % 10) (qrow (qG R x n k) (qnow R x n k) (v / 10) (qall (qG R x n k) (qnow R x n k) x (v / 10)) (v % 10)) := fun x hx => by
          subst hx
          rfl
        exact this _ rfl
    · rw [if_neg h1, if_neg h1, if_neg (by omega)]
theorem qstv_end {R : Nat → Int} {m n k : Nat} : qstv R m n k (10 * m) = qall (qG R m n k) (qnow R m n k) m m := by
  unfold qstv
  rw [show 10 * m / 10 = m by omega, show 10 * m % 10 = 0 by omega]
  by_cases m0 : 0 < m
  · rw [if_pos m0]
    rfl
  · rw [if_neg m0, show m = 0 by omega]
    rfl
theorem qtS_rg {G : Nat → Nat → Int} {now : Int} {a b : Nat} {st : Int × Int} (h0 : 0 ≤ now) (hG : 0 ≤ G a b ∧ G a b ≤ 99) (h : 0 ≤ st.2 ∧ now + st.2 ≤ 99) : 0 ≤ (qtS G now a b st).2 ∧ now + (qtS G now a b st).2 ≤ 99 := by
  unfold qtS
  split
  · show 0 ≤ G a b - now ∧ now + (G a b - now) ≤ 99
    omega
  · exact h
theorem qG_rg (R : Nat → Int) (m n k a b : Nat) : 0 ≤ qG R m n k a b ∧ qG R m n k a b ≤ 99 := qtr_rg R m k _
theorem qstv_rg {R : Nat → Int} {m n k : Nat} (m7 : m ≤ 7) : ∀ v, 0 ≤ (qstv R m n k v).2 ∧ qnow R m n k + (qstv R m n k v).2 ≤ 99
  | 0 => by
    have := qtr_rg R m k (qpick R m n k (fun p => qwo R k (p : Int)))
    have gN : qnow R m n k = qtr R m k (qpick R m n k (fun p => qwo R k (p : Int))) := rfl
    have e0 : qstv R m n k 0 = (-1, 0) := by
      unfold qstv
      rw [show 0 / 10 = 0 from rfl, show 0 % 10 = 0 from rfl]
      by_cases m0 : 0 < m
      · rw [if_pos m0]
        rfl
      · rw [if_neg m0, show m = 0 by omega]
        rfl
    rw [e0]
    show (0 : Int) ≤ 0 ∧ qnow R m n k + 0 ≤ 99
    omega
  | v + 1 => by
    have gN := (qtr_rg R m k (qpick R m n k (fun p => qwo R k (p : Int)))).1
    rw [qstv_s m7]
    split
    · exact qtS_rg gN (qG_rg R m n k _ _) (qstv_rg m7 v)
    · exact qstv_rg m7 v
theorem m_lies163 {d m n k a b : Nat} {R : Nat → Int} {Q : Int → xM → Prop} {σ : xM} {x2 x3 : Int} {v : Nat} (ht : Tk R) (h3 : R 3 = (n : Int)) (h2 : R 2 = (m : Int)) (n7 : n ≤ 7) (m7 : m ≤ 7) (hk : k < n) (hx3 : x3 = qnow R m n k) (hva : v / 10 = a) (hvb : v % 10 = b) (hbm : b < m) (W0 : Nat → Int) (h0 : qR3 R W0 k) (hv0 : xvl (qRl W0 k a b)) (h53 : ∀ c, c < n → c ≠ k → ∀ p, p < m → σ 53 0 (7 * c + p) = qWw R c p) (h55 : ∀ p, p < m → σ 55 0 p = qwo R k (p : Int)) (h41 : σ 41 0 = qRl W0 k a b)
    (hQ : ∀ s, Fr [50, 51, 52, 53, 54] σ s → qMl R m n k s → ∀ w, Ev (d + 4) 189 100 [vR 40 0, vI (k : Int), vI x2, vI x3, vI (qtS (qG R m n k) (qnow R m n k) a b (qstv R m n k v)).1, vI (qnow R m n k + (qtS (qG R m n k) (qnow R m n k) a b (qstv R m n k v)).2), vI ((v + 1 : Nat) : Int), w] [] s Q) (hv70 : v < 1000) :
    ∀ f p : Nat, p + f = m → ∀ s : xM, Fr [50, 51, 53] σ s → (∀ c, c < n → c ≠ k → ∀ p, p < m → s 53 0 (7 * c + p) = qWw R c p) → (∀ q, q < p → s 53 0 (7 * k + q) = qWc R k (quL R k a b) k q) → Ev (d + 4) 189 163 [vR 40 0, vI (k : Int), vI x2, vI x3, vI (qstv R m n k v).1, vI (qnow R m n k + (qstv R m n k v).2), vI (v : Int), vI (p : Int)] [] s Q
  | 0, p, e, s, hf, l1, l2 => by
    have e : p = m := e
    subst e
    have hr := qRl_r (a := a) (b := b) h0
    have e41 : s 41 0 = qRl W0 k a b := by rw [hf 41 (by decide), h41]
    rw [b_M_lies_163, xin (by decide) (by decide), show Int.toNat 2 = 2 from rfl, e41, qR3_lo hr (by decide), h2, if_neg (by omega)]
    refine m_findBest (n := n) (m := p) (W := qWc R k (quL R k a b)) ⟨by rw [e41, qR3_lo hr (by decide), h3], by rw [e41, qR3_lo hr (by decide), h2], fun c hc q hq => ?_⟩ (qWc_ok (quL_rg R k a b)) n7 m7 (fun s1 f1 g1 g2 => ?_)
    · by_cases ec : c = k
      · rw [ec]
        exact l2 q hq
      · rw [l1 c hc ec q hq]
        unfold qWc
        rw [if_neg ec]
    · have hm : qMl R p n k s1 := by
        refine ⟨by rw [f1 41 (by decide), e41]; exact hr, by rw [f1 41 (by decide), e41]; exact hv0, fun c hc ec q hq => by rw [f1 53 (by decide)]; exact l1 c hc ec q hq, fun q hq => by rw [f1 55 (by decide), hf 55 (by decide)]; exact h55 q hq⟩
      have go := hQ s1 (Fr_trans (Fr_mono hf (by decide)) (Fr_mono f1 (by decide))) hm
      have rg := qstv_rg (R := R) (n := n) (k := k) m7 v
      have gN := (qtr_rg R p k (qpick R p n k (fun p => qwo R k (p : Int)))).1
      have gN : 0 ≤ qnow R p n k := gN
      have hask : s1 54 0 k = dg (yd p (qpick R p n k (quL R k a b))) := by rw [g2 k hk, q_lie m7 hk (quL_rg R k a b)]
      have pl := qpick_lm (R := R) (m := p) (n := n) (k := k) (u := quL R k a b)
      have gG : qG R p n k a b = qtr R p k (qpick R p n k (quL R k a b)) := rfl
      have hst : qtS (qG R p n k) (qnow R p n k) a b (qstv R p n k v) = if (qstv R p n k v).2 < qG R p n k a b - qnow R p n k then (((10 * a + b : Nat) : Int), qG R p n k a b - qnow R p n k) else qstv R p n k v := rfl
      rw [hst] at go
      have ev : 10 * a + b = v := by omega
      rw [ev] at go
      revert hask gG pl
      generalize qpick R p n k (quL R k a b) = c
      intro hask pl gG
      rw [xin (by omega) (by omega), Int.toNat_natCast, hask, xs1 (c := v) (by omega)]
      by_cases ec : c = p
      · have e1 : dg (yd p c) = -1 := by unfold yd dg; rw [if_pos ec, if_pos rfl]
        have e0 : qG R p n k a b = 0 := by rw [gG]; unfold qtr; rw [if_pos ec]
        rw [if_neg (by omega)] at go
        rw [e1, if_pos (by decide), if_neg (by omega), if_neg (by omega)]
        exact go _
      · have e1 : dg (yd p c) = (c : Int) := by unfold yd dg; rw [if_neg ec, if_neg (by omega)]
        have e0 : qG R p n k a b = qwo R k (c : Int) := by rw [gG]; unfold qtr; rw [if_neg ec]
        have e55 : s1 55 0 c = qwo R k (c : Int) := hm.2.2.2 c (by omega)
        rw [e1, if_neg (by omega), xin (by omega) (by omega), xin (by omega) (by omega), Int.toNat_natCast, e55, ← e0]
        by_cases e2 : qnow R p n k + (qstv R p n k v).2 < qG R p n k a b
        · rw [if_pos (by omega)] at go
          rw [if_pos e2, if_pos e2]
          have := go (vI (qG R p n k a b))
          rw [show qnow R p n k + (qG R p n k a b - qnow R p n k) = qG R p n k a b by omega] at this
          exact this
        · rw [if_neg (by omega)] at go
          rw [if_neg e2, if_neg e2]
          exact go _
  | f + 1, p, e, s, hf, l1, l2 => by
    have hr := qRl_r (a := a) (b := b) h0
    have e41 : s 41 0 = qRl W0 k a b := by rw [hf 41 (by decide), h41]
    have r2 : qRl W0 k a b 2 = (m : Int) := by rw [qR3_lo hr (by decide), h2]
    have r3 : qRl W0 k a b 3 = (n : Int) := by rw [qR3_lo hr (by decide), h3]
    have ih := fun s => m_lies163 (d := d) (σ := σ) ht h3 h2 n7 m7 hk hx3 hva hvb hbm W0 h0 hv0 h53 h55 h41 hQ hv70 f (p + 1) (by omega) s
    have step : ∀ (u : Int) (s1 : xM), Fr [50, 51] s s1 → u = qWc R k (quL R k a b) k p → Ev (d + 4) 189 163 [vR 40 0, vI (k : Int), vI x2, vI x3, vI (qstv R m n k v).1, vI (qnow R m n k + (qstv R m n k v).2), vI (v : Int), vI ((p + 1 : Nat) : Int)] [] (xup s1 53 0 (7 * k + p) u) Q := by
      intro u s1 f1 eu
      refine ih _ (Fr_trans hf (Fr_trans (Fr_mono f1 (by decide)) (Fr_up (by decide)))) (fun c hc ec q hq => ?_) (fun q hq => ?_)
      · rw [xup_k (by omega), f1 53 (by decide)]
        exact l1 c hc ec q hq
      · by_cases eq : q = p
        · rw [eq, xup_s, eu]
        · rw [xup_k (by omega), f1 53 (by decide)]
          exact l2 q (by omega)
    rw [b_M_lies_163, xin (by decide) (by decide), show Int.toNat 2 = 2 from rfl, e41, r2, if_pos (by omega), m_may (by rw [e41]; exact hv0) (by rw [e41, r3]; omega) (by rw [e41, r2]; omega), e41, qR3_my hr (by omega) (by omega), x7c (by omega) (by omega), xs1 (c := p) (by omega)]
    by_cases e0 : qmy R k p = 0
    · rw [if_pos e0, xin (by omega) (by omega), Int.toNat_natCast]
      exact step _ s Fr_refl (by unfold qWc; rw [if_pos rfl, if_pos e0])
    · rw [if_neg e0]
      refine m_worth (by rw [e41, qR3_P hr (by omega)]; exact ht.1) (by omega) (fun s1 f1 => ?_)
      rw [e41, qRl_wo h0 (by omega), xin (by omega) (by omega), Int.toNat_natCast]
      exact step _ s1 f1 (by unfold qWc; rw [if_pos rfl, if_neg e0])
theorem m_lies100 {d m n k : Nat} {R : Nat → Int} {Q : Int → xM → Prop} {σ : xM} {x2 x3 : Int} (ht : Tk R) (h3 : R 3 = (n : Int)) (h2 : R 2 = (m : Int)) (n7 : n ≤ 7) (m7 : m ≤ 7) (hk : k < n) (hx3 : x3 = qnow R m n k)
    (hQ : ∀ s, Fr [41, 50, 51, 52, 53, 54] σ s → qMl R m n k s → Ev (d + 3) 129 0 [vR 40 0] [] s (fun _ s4 => if x2 = 0 then Q (qall (qG R m n k) (qnow R m n k) m m).1 s4 else Q (qall (qG R m n k) (qnow R m n k) m m).2 s4)) :
    ∀ f v : Nat, v + f = 10 * m → ∀ (w : xV) (s : xM), Fr [41, 50, 51, 52, 53, 54] σ s → qMl R m n k s → Ev (d + 4) 189 100 [vR 40 0, vI (k : Int), vI x2, vI x3, vI (qstv R m n k v).1, vI (qnow R m n k + (qstv R m n k v).2), vI (v : Int), w] [] s Q
  | 0, v, e, w, s, hf, hm => by
    have e : v = 10 * m := e
    subst e
    have rg := qstv_rg (R := R) (n := n) (k := k) m7 (10 * m)
    have gN : 0 ≤ qnow R m n k := (qtr_rg R m k (qpick R m n k (fun p => qwo R k (p : Int)))).1
    rw [b_M_lies_100, xin (by decide) (by decide), show Int.toNat 2 = 2 from rfl, qR3_lo hm.1 (by decide), h2, xw (x := 10 * (m : Int)) (by omega) (by omega), if_neg (by omega), hx3, show qnow R m n k + (qstv R m n k (10 * m)).2 - qnow R m n k = (qstv R m n k (10 * m)).2 by omega, xw (x := (qstv R m n k (10 * m)).2) (by omega) (by omega), qstv_end]
    exact hQ s hf hm
  | f + 1, v, e, w, s, hf, hm => by
    have ih := fun w s => m_lies100 (d := d) (σ := σ) (x2 := x2) ht h3 h2 n7 m7 hk hx3 hQ f (v + 1) (by omega) w s
    rw [qstv_s m7] at ih
    have ed : xwr (Int.tdiv (v : Int) 10) = ((v / 10 : Nat) : Int) := by
      rw [show Int.tdiv (v : Int) 10 = ((v / 10 : Nat) : Int) from rfl, xw (by omega) (by omega)]
    have em : Int.tmod (v : Int) 10 = ((v % 10 : Nat) : Int) := rfl
    have l6 : ∀ {d : Nat} {σ : xM} {Q : Int → xM → Prop} {v : Int}, Ev d 136 0 [vR 40 0, vI (k : Int), vI 6, vI v] [] σ Q = Q 0 (xup σ 41 0 (21 + 9 * k + (6 + 0)) v) := fun {d σ Q v} => e_lets (k := 6) (by omega) (by decide)
    have l7 : ∀ {d : Nat} {σ : xM} {Q : Int → xM → Prop} {v : Int}, Ev d 136 0 [vR 40 0, vI (k : Int), vI 7, vI v] [] σ Q = Q 0 (xup σ 41 0 (21 + 9 * k + (6 + 1)) v) := fun {d σ Q v} => e_lets (k := 7) (by omega) (by decide)
    have l8 : ∀ {d : Nat} {σ : xM} {Q : Int → xM → Prop} {v : Int}, Ev d 136 0 [vR 40 0, vI (k : Int), vI 8, vI v] [] σ Q = Q 0 (xup σ 41 0 (21 + 9 * k + (6 + 2)) v) := fun {d σ Q v} => e_lets (k := 8) (by omega) (by decide)
    have ten : ∀ {P : Prop}, ((10 : Int) ≠ 0 ∧ P) = P := xne10
    rw [b_M_lies_100, xin (by decide) (by decide), show Int.toNat 2 = 2 from rfl, qR3_lo hm.1 (by decide), h2, xw (x := 10 * (m : Int)) (by omega) (by omega), if_pos (by omega), xne10, xin (by decide) (by decide), em]
    by_cases hb : v % 10 < m
    · rw [if_pos hb] at ih
      rw [if_pos (by omega), xne10, ed, l6, xne10, l7, l8]
      have W41 : xup (xup (xup s 41 0 (21 + 9 * k + (6 + 0)) ((v / 10 : Nat) : Int)) 41 0 (21 + 9 * k + (6 + 1)) ((v % 10 : Nat) : Int)) 41 0 (21 + 9 * k + (6 + 2)) (-1) 41 0 = qRl (s 41 0) k (v / 10) (v % 10) := by
        rw [xup_row, xup_row, xup_row]
        rfl
      have f1 : Fr [41] s (xup (xup (xup s 41 0 (21 + 9 * k + (6 + 0)) ((v / 10 : Nat) : Int)) 41 0 (21 + 9 * k + (6 + 1)) ((v % 10 : Nat) : Int)) 41 0 (21 + 9 * k + (6 + 2)) (-1)) := Fr_trans (Fr_trans (Fr_up (by decide)) (Fr_up (by decide))) (Fr_up (by decide))
      have s2 : s 41 0 2 = (m : Int) := by rw [qR3_lo hm.1 (by decide), h2]
      refine m_lies163 (a := v / 10) (b := v % 10) ht h3 h2 n7 m7 hk hx3 rfl rfl hb (s 41 0) hm.1 (qRl_v hm.2.1 (by omega) (by omega)) (fun c hc ec p hp => by rw [f1 53 (by decide)]; exact hm.2.2.1 c hc ec p hp) (fun p hp => by rw [f1 55 (by decide)]; exact hm.2.2.2 p hp) W41 (fun s1 g1 g2 w => ih w s1 (Fr_trans hf (Fr_trans (Fr_mono f1 (by decide)) (Fr_mono g1 (by decide)))) g2) (by omega) m 0 (Nat.zero_add _) _ Fr_refl (fun c hc ec p hp => by rw [f1 53 (by decide)]; exact hm.2.2.1 c hc ec p hp) (fun q hq => absurd hq (by omega))
    · rw [if_neg hb] at ih
      rw [if_neg (by omega), xs1 (c := v) (by omega)]
      exact ih _ s hf hm
theorem m_lies34 {d m n k : Nat} {R : Nat → Int} {Q : Int → xM → Prop} {σ : xM} {x2 : Int} (hv : xvl R) (ht : Tk R) (h3 : R 3 = (n : Int)) (h2 : R 2 = (m : Int)) (n7 : n ≤ 7) (m7 : m ≤ 7) (hk : k < n) (h41 : σ 41 0 = R) (h53 : ∀ c, c < n → ∀ p, p < m → σ 53 0 (7 * c + p) = qWw R c p) (h54 : σ 54 0 k = dg ((qgl (qWw R) m n 0 0).getD k 7))
    (hQ : ∀ s, Fr [41, 43, 50, 51, 52, 53, 54, 55] σ s → s 41 0 = R → (if x2 = 0 then Q (qall (qG R m n k) (qnow R m n k) m m).1 s else Q (qall (qG R m n k) (qnow R m n k) m m).2 s)) :
    ∀ f p : Nat, p + f = m → ∀ (w4 w5 w6 w7 : xV) (s : xM), Fr [50, 51, 55] σ s → (∀ q, q < p → s 55 0 q = qwo R k (q : Int)) → Ev (d + 4) 189 34 [vR 40 0, vI (k : Int), vI x2, vI (p : Int), w4, w5, w6, w7] [] s Q
  | 0, p, e, w4, w5, w6, w7, s, hf, l1 => by
    have e : p = m := e
    subst e
    have e41 : s 41 0 = R := by rw [hf 41 (by decide), h41]
    have hself : qWc R k (fun p => qwo R k (p : Int)) = qWw R := by
      funext c q
      unfold qWc
      by_cases ec : c = k
      · rw [if_pos ec, ec]
        rfl
      · rw [if_neg ec]
    have hl := q_lie (R := R) (m := p) (n := n) (k := k) (u := fun p => qwo R k (p : Int)) m7 hk (fun q => qwo_rg R k _)
    rw [hself] at hl
    have e54 : s 54 0 k = dg (yd p (qpick R p n k (fun p => qwo R k (p : Int)))) := by rw [hf 54 (by decide), h54, hl]
    have pl := qpick_lm (R := R) (m := p) (n := n) (k := k) (u := fun p => qwo R k (p : Int))
    have gN : qnow R p n k = qtr R p k (qpick R p n k (fun p => qwo R k (p : Int))) := rfl
    have e0 : qstv R p n k 0 = (-1, 0) := by
      unfold qstv
      rw [show 0 / 10 = 0 from rfl, show 0 % 10 = 0 from rfl]
      by_cases m0 : 0 < p
      · rw [if_pos m0]
        rfl
      · rw [if_neg m0, show p = 0 by omega]
        rfl
    have go : ∀ (x3 : Int) (w : xV), x3 = qnow R p n k → Ev (d + 3) 128 0 [vR 40 0] [] s (fun _ s2 => Ev (d + 4) 189 100 [vR 40 0, vI (k : Int), vI x2, vI x3, vI (-1), vI x3, vI 0, w] [] s2 Q) := by
      intro x3 w hx3
      rw [b_M_thinks_0, b_M_copyAllB_0]
      refine m_copyB 410 0 (by decide) s (fun j hj => absurd hj (by omega)) (fun t g1 g2 g3 => ?_)
      have t41 : t 41 0 = R := by rw [g1 41 (by decide), e41]
      have main := m_lies100 (d := d) (Q := Q) (σ := t) (x2 := x2) ht h3 h2 n7 m7 hk hx3 (fun u k1 k2 => ?_) (10 * p) 0 (Nat.zero_add _) w t Fr_refl ⟨by rw [t41]; exact fun _ _ _ _ => rfl, by rw [t41]; exact hv, fun c hc _ q hq => by rw [g1 53 (by decide), hf 53 (by decide)]; exact h53 c hc q hq, fun q hq => by rw [g1 55 (by decide)]; exact l1 q hq⟩
      · rw [e0] at main
        have e3 : qnow R p n k + (0 : Int) = x3 := by rw [hx3, Int.add_zero]
        rw [show ((-1, 0) : Int × Int).2 = 0 from rfl, e3] at main
        exact main
      · rw [b_M_putsBack_0, b_M_copyAllC_0]
        refine m_copyC 410 0 (by decide) u (fun j hj => absurd hj (by omega)) (fun τ j1 j2 j3 => ?_)
        have er : τ 41 0 = R := by
          funext j
          by_cases hj : j < 410
          · rw [j2 j hj, k1 43 (by decide), g2 j hj, e41]
          · rw [j3 j (by omega)]
            exact k2.1 j (by omega) (by omega) (by omega)
        exact hQ τ (Fr_trans (Fr_mono hf (by decide)) (Fr_trans (Fr_mono g1 (by decide)) (Fr_trans (Fr_mono k1 (by decide)) (Fr_mono j1 (by decide))))) er
    rw [b_M_lies_34, xin (by decide) (by decide), show Int.toNat 2 = 2 from rfl, e41, h2, if_neg (by omega), xin (by omega) (by omega), Int.toNat_natCast, e54]
    revert e54 pl gN
    generalize qpick R p n k (fun p => qwo R k (p : Int)) = c
    intro e54 pl gN
    by_cases ec : c = p
    · have e1 : dg (yd p c) = -1 := by unfold yd dg; rw [if_pos ec, if_pos rfl]
      rw [e1, if_pos (by decide)]
      exact go 0 _ (by rw [gN]; unfold qtr; rw [if_pos ec])
    · have e1 : dg (yd p c) = (c : Int) := by unfold yd dg; rw [if_neg ec, if_neg (by omega)]
      rw [e1, if_neg (by omega), xin (by omega) (by omega), xin (by omega) (by omega), Int.toNat_natCast, l1 c (by omega)]
      exact go _ _ (by rw [gN]; unfold qtr; rw [if_neg ec])
  | f + 1, p, e, w4, w5, w6, w7, s, hf, l1 => by
    have e41 : s 41 0 = R := by rw [hf 41 (by decide), h41]
    rw [b_M_lies_34, xin (by decide) (by decide), show Int.toNat 2 = 2 from rfl, e41, h2, if_pos (by omega)]
    refine m_worth (by rw [e41]; exact ht.1) (by omega) (fun s1 f1 => ?_)
    rw [e41, xin (by omega) (by omega), Int.toNat_natCast, xs1 (c := p) (by omega)]
    refine m_lies34 hv ht h3 h2 n7 m7 hk h41 h53 h54 hQ f (p + 1) (by omega) _ _ _ _ _ (Fr_trans hf (Fr_trans (Fr_mono f1 (by decide)) (Fr_up (by decide)))) (fun q hq => ?_)
    by_cases eq : q = p
    · rw [eq, xup_s]
    · rw [xup_k eq, f1 55 (by decide)]
      exact l1 q (by omega)
theorem call_lies {d : Nat} {σ : xM} (h : Inv σ) (x y : Int) : Ev (d + 9) m_P_lies 0 [vR 4 0, vI x, vI y] [] σ (fun r s => Ev (d + 9) m_M_lies 0 [vR 40 0, vI x, vI y, vR 0 0, vR 0 0, vR 0 0, vR 0 0, vR 0 0] [] s (fun r' s' => r = r' ∧ Inv s')) := by
  have hk := Inv_Kp h
  have ⟨c0, c7⟩ := h.1.2.1
  obtain ⟨m, hm, m7⟩ := xvl_p h.1
  obtain ⟨n, hn, n7⟩ := xvl_c h.1
  rw [b_P_lies_0, e_hasChild, Kp_chn hk]
  simp only [xbc]
  by_cases hx : 0 ≤ x ∧ x < σ 41 0 3
  · obtain ⟨k, hkx⟩ : ∃ k : Nat, x = (k : Int) := ⟨x.toNat, by omega⟩
    subst hkx
    have kn : k < n := by omega
    rw [if_neg (fun q => q hx), e_isWithin]
    simp only [xbc]
    by_cases hy : 0 ≤ y ∧ y ≤ 1
    · rw [if_neg (fun q => q hy)]
      refine e_weigh hk hn hm (fun s1 f1 g1 => ?_)
      refine e_tryAll (R := σ 41 0) (Kp_sc hk f1 rfl) hn hm n7 m7 kn g1 (fun s2 f2 g2 g3 => ?_)
      have f0 : Fr qSc σ s2 := Fr_trans (Fr_mono f1 (by decide)) f2
      have e41 : s2 41 = σ 41 := f0 41 (by decide)
      have hs := Inv_Fr h f0
      rw [g2, g3]
      have md : ∀ r, (if y = 0 then r = (qall (qG (σ 41 0) m n k) (qnow (σ 41 0) m n k) m m).1 else r = (qall (qG (σ 41 0) m n k) (qnow (σ 41 0) m n k) m m).2) → Ev (d + 9) m_M_lies 0 [vR 40 0, vI (k : Int), vI y, vR 0 0, vR 0 0, vR 0 0, vR 0 0, vR 0 0] [] s2 (fun r' s' => r = r' ∧ Inv s') := by
        intro r hr
        rw [b_M_lies_0, e_isChild (by rw [e41]; exact c0) (by rw [e41]; exact c7), e41]
        simp only [xbc]
        rw [if_neg (fun q => q hx), e_in]
        simp only [xbc]
        rw [if_neg (fun q => q hy)]
        refine m_findWorths (R := σ 41 0) (by rw [e41]) h.1 (Kp_Tk hk) hn hm (fun t1 k1 l1 => ?_)
        refine m_findBest l1 (qWw_ok _) n7 m7 (fun t2 k2 l2 l3 => ?_)
        have f12 : Fr [50, 51, 52, 53, 54] s2 t2 := Fr_trans (Fr_mono k1 (by decide)) (Fr_mono k2 (by decide))
        refine m_lies34 (R := σ 41 0) (n := n) (m := m) h.1 (Kp_Tk hk) hn hm n7 m7 kn (by rw [f12 41 (by decide), e41]) (fun c hc p hp => by rw [k2 53 (by decide)]; exact l1.2.2 c hc p hp) (l3 k kn) (fun τ j1 j2 => ?_) m 0 (Nat.zero_add _) _ _ _ _ t2 Fr_refl (fun q hq => absurd hq (by omega))
        have hI : Inv τ := by
          refine inv_fin (l := [41, 43, 50, 51, 52, 53, 54, 55]) hs N1_refl (Inv_Kp hs) (Fr_trans (Fr_mono f12 (by decide)) (Fr_mono j1 (by decide))) rfl rfl ?_
          rw [j2, e41]
        by_cases y0 : y = 0
        · rw [if_pos y0] at hr ⊢
          exact ⟨hr, hI⟩
        · rw [if_neg y0] at hr ⊢
          exact ⟨hr, hI⟩
      by_cases y0 : y = 0
      · rw [if_pos y0]
        exact md _ (by rw [if_pos y0])
      · rw [if_neg y0]
        exact md _ (by rw [if_neg y0])
    · rw [if_pos hy, e_fail1, b_M_lies_0, e_isChild9 c0 c7]
      simp only [xbc]
      rw [if_neg (fun q => q hx), e_in]
      simp only [xbc]
      rw [if_pos hy]
      exact fin1 h
  · rw [if_pos hx, e_fail1, b_M_lies_0, e_isChild9 c0 c7]
    simp only [xbc]
    rw [if_pos hx]
    exact fin1 h
