/-! odds -/
theorem xq_and : ∀ A : Nat, A < 128 → ∀ W : Nat, W < 128 → xand (A : Int) (W : Int) = ((A &&& W : Nat) : Int) := by decide +kernel
def qws1 (M : Nat) (w : Int) : Nat := if w = -1 then M else M ||| 2 ^ w.toNat
def qws (R : Nat → Int) (c : Nat) : Nat := qws1 (qws1 (qws1 0 (R (21 + 9 * c + (6 + 0)))) (R (21 + 9 * c + (6 + 1)))) (R (21 + 9 * c + (6 + 2)))
theorem qws1_lt {M : Nat} {w : Int} (hM : M < 128) (hw : w < 7) : qws1 M w < 128 := by
  unfold qws1
  split
  · exact hM
  · show M ||| 2 ^ w.toNat < 2 ^ 7
    exact Nat.or_lt_two_pow hM (Nat.pow_lt_pow_right (by decide) (by omega))
theorem qws1_bit {M : Nat} {w : Int} {p : Nat} (hw : -1 ≤ w) : Nat.testBit (qws1 M w) p = (Nat.testBit M p || decide (w = (p : Int))) := by
  unfold qws1
  by_cases e : w = -1
  · rw [if_pos e]
    have : ¬ w = (p : Int) := by omega
    simp [this]
  · rw [if_neg e, Nat.testBit_or, Nat.testBit_two_pow]
    congr 1
    by_cases e2 : w = (p : Int)
    · simp [e2]
    · have : ¬ w.toNat = p := by omega
      simp [e2, this]
theorem ws_go {d c : Nat} {σ : xM} {Q : Int → xM → Prop} {M k : Nat} {w : Int} (hw : σ 10 c k = w) (h1 : -1 ≤ w ∧ w < 7) (hk : k < 3) (hM : M < 128) : Ev d 75 4 [vR 9 c, vI (M : Int), vI (k : Int)] [] σ Q = Ev d 75 4 [vR 9 c, vI (qws1 M w : Int), vI ((k + 1 : Nat) : Int)] [] σ Q := by
  rw [b_C_wishSet_4, if_pos (by omega), xin (by omega) (by omega), xin (by omega) (by omega), Int.toNat_natCast, hw, xs1 (by omega)]
  unfold qws1
  by_cases e : w = -1
  · rw [if_pos e, if_pos e]
  · obtain ⟨p, hp⟩ : ∃ p : Nat, w = (p : Int) := ⟨w.toNat, by omega⟩
    rw [if_neg e, if_neg e, hp, xq_ors M hM p (by omega), Int.toNat_natCast]
theorem e_wishSet {d c : Nat} {σ : xM} {R : Nat → Int} {Q : Int → xM → Prop} (h : Kp σ R) (hc : (c : Int) < R 3) : Ev d 75 0 [vR 9 c, vR 0 0, vR 0 0] [] σ Q = Q (qws R c : Int) σ := by
  have c7 := xvl_c7 h.1 hc
  have p0 := h.1.1
  have w := h.1.2.2.2.2.2.2.2.2 c hc
  have w0 := w 0 (by decide)
  have w1 := w 1 (by decide)
  have w2 := w 2 (by decide)
  have g0 := ws_go (d := d) (M := 0) (k := 0) (Q := Q) (Kp_wi h c7 (k := 0) (by decide)) ⟨w0.1, by omega⟩ (by decide) (by decide)
  have g1 := ws_go (d := d) (M := qws1 0 (R (21 + 9 * c + (6 + 0)))) (k := 1) (Q := Q) (Kp_wi h c7 (k := 1) (by decide)) ⟨w1.1, by omega⟩ (by decide) (qws1_lt (by decide) (by omega))
  have g2 := ws_go (d := d) (M := qws1 (qws1 0 (R (21 + 9 * c + (6 + 0)))) (R (21 + 9 * c + (6 + 1)))) (k := 2) (Q := Q) (Kp_wi h c7 (k := 2) (by decide)) ⟨w2.1, by omega⟩ (by decide) (qws1_lt (qws1_lt (by decide) (by omega)) (by omega))
  rw [b_C_wishSet_0]
  refine g0.trans (g1.trans (g2.trans ?_))
  rw [b_C_wishSet_4, if_neg (by decide)]
  rfl
theorem qws_lt {R : Nat → Int} {c : Nat} (hv : xvl R) (hc : (c : Int) < R 3) : qws R c < 128 := by
  have p0 := hv.1
  have w := hv.2.2.2.2.2.2.2.2 c hc
  have w0 := w 0 (by decide)
  have w1 := w 1 (by decide)
  have w2 := w 2 (by decide)
  exact qws1_lt (qws1_lt (qws1_lt (by decide) (by omega)) (by omega)) (by omega)
theorem qws_bit {R : Nat → Int} {c p : Nat} (hv : xvl R) (hc : (c : Int) < R 3) : Nat.testBit (qws R c) p = decide (0 < qdr R c (p : Int)) := by
  have w := hv.2.2.2.2.2.2.2.2 c hc
  have w0 := w 0 (by decide)
  have w1 := w 1 (by decide)
  have w2 := w 2 (by decide)
  unfold qws qdr
  rw [qws1_bit w2.1, qws1_bit w1.1, qws1_bit w0.1, Nat.zero_testBit]
  by_cases e0 : R (21 + 9 * c + (6 + 0)) = (p : Int)
  · rw [if_pos e0]
    simp [e0]
  · rw [if_neg e0]
    by_cases e1 : R (21 + 9 * c + (6 + 1)) = (p : Int)
    · rw [if_pos e1]
      simp [e1]
    · rw [if_neg e1]
      by_cases e2 : R (21 + 9 * c + (6 + 2)) = (p : Int)
      · rw [if_pos e2]
        simp [e2]
      · rw [if_neg e2]
        simp [e0, e1, e2]
/-- counts -/
def qct (g : Nat → Int) : Nat → Nat
  | 0 => 0
  | n + 1 => qct g n + (if g n = 0 then 0 else 1)
theorem qpc_add : ∀ n : Nat, n < 7 → ∀ M : Nat, M < 128 → M < 2 ^ n → qpc (M + 2 ^ n) = qpc M + 1 := by decide +kernel
theorem xn100 {q : Nat} (h : q < 1000) : xwr (q : Int) = (q : Int) := xw (by omega) (by omega)
theorem qct_pc (g : Nat → Int) : ∀ n, n ≤ 7 → qpc (qms g n) = qct g n
  | 0, _ => (by decide : qpc 0 = 0)
  | n + 1, h => by
    show qpc (qms g n + (if g n = 0 then 0 else 2 ^ n)) = qct g n + (if g n = 0 then 0 else 1)
    by_cases e : g n = 0
    · rw [if_pos e, if_pos e, Nat.add_zero, qct_pc g n (by omega)]
      rfl
    · rw [if_neg e, if_neg e, qpc_add n (by omega) _ (qms_lt7 g (by omega)) (qms_lt g n), qct_pc g n (by omega)]
def qgd (R : Nat → Int) (c p : Nat) : Int := if qmy R c p = 0 then 0 else if 0 < qdr R c (p : Int) then 1 else 0
theorem qgd_and {R : Nat → Int} {c n : Nat} (hv : xvl R) (hc : (c : Int) < R 3) : (qms (fun p => qmy R c p) n &&& qws R c) = qms (fun p => qgd R c p) n := by
  refine Nat.eq_of_testBit_eq (fun p => ?_)
  rw [Nat.testBit_and, qms_bit, qms_bit, qws_bit hv hc]
  unfold qgd
  by_cases e0 : qmy R c p = 0
  · simp [e0]
  · by_cases e1 : 0 < qdr R c (p : Int)
    · simp [e0, e1]
    · simp [e0, e1]
theorem qct_le (g : Nat → Int) : ∀ n, qct g n ≤ n
  | 0 => Nat.le_refl _
  | n + 1 => by
    have := qct_le g n
    show qct g n + (if g n = 0 then 0 else 1) ≤ n + 1
    split <;> omega
theorem qgd_le (R : Nat → Int) (c : Nat) : ∀ n, qct (fun p => qgd R c p) n ≤ qct (fun p => qmy R c p) n
  | 0 => Nat.le_refl _
  | n + 1 => by
    have := qgd_le R c n
    show qct (fun p => qgd R c p) n + (if qgd R c n = 0 then 0 else 1) ≤ qct (fun p => qmy R c p) n + (if qmy R c n = 0 then 0 else 1)
    unfold qgd at this ⊢
    by_cases e0 : qmy R c n = 0
    · rw [if_pos e0, if_pos rfl, if_pos e0]
      exact this
    · rw [if_neg e0, if_neg e0]
      by_cases e1 : 0 < qdr R c (n : Int)
      · rw [if_pos e1, if_neg (by decide)]
        omega
      · rw [if_neg e1, if_pos rfl]
        omega
/-- the common divisor, by the class's steps -/
def qeu : Nat → Nat → Nat → Nat
  | 0, a, _ => a
  | f + 1, a, b => if b = 0 then a else qeu f b (a % b)
theorem e_cd {d : Nat} {σ : xM} {Q : Int → xM → Prop} {x y : Int} : ∀ f i a b : Nat, i + f = 100 → a < 1000 → b < 1000 → ∀ w : xV, Ev d 43 7 [vI x, vI y, vI (a : Int), vI (b : Int), vI (i : Int), w] [] σ Q = Q (qeu f a b : Int) σ
  | 0, i, a, b, e, ha, hb, w => by
    rw [b_P_commonDivisor_7, if_neg (by omega)]
    rfl
  | f + 1, i, a, b, e, ha, hb, w => by
    show _ = Q ((if b = 0 then a else qeu f b (a % b) : Nat) : Int) σ
    rw [b_P_commonDivisor_7, if_pos (by omega)]
    by_cases h0 : b = 0
    · rw [if_pos (by omega), if_pos h0]
    · have : a % b < b := Nat.mod_lt _ (by omega)
      have em : Int.tmod (a : Int) (b : Int) = ((a % b : Nat) : Int) := rfl
      rw [if_neg (by omega), if_neg h0, em, xs1 (by omega)]
      have g := e_cd (d := d) (σ := σ) (Q := Q) (x := x) (y := y) f (i + 1) b (a % b) (by omega) hb (by omega) (vI ((a % b : Nat) : Int))
      rw [g]
      exact propext ⟨fun q => q.2, fun q => ⟨by omega, q⟩⟩
/-- the reference's reduction -/
def qrd : Nat → Nat → Nat → Nat × Nat
  | 0, a, b => (a, b)
  | 1, a, b => (a, b)
  | y + 2, a, b => if a % (y + 2) = 0 ∧ b % (y + 2) = 0 then qrd (y + 1) (a / (y + 2)) (b / (y + 2)) else qrd (y + 1) a b
theorem m_rd {d : Nat} {σ : xM} {Q : Int → xM → Prop} {x z : Int} : ∀ y a b : Nat, y < 100 → a < 100 → b < 100 → ∀ w : xV, Ev d 190 112 [vR 40 0, vI x, vI z, vI (a : Int), vI (b : Int), vI (y : Int), w] [] σ Q = if z = 0 then Q ((qrd y a b).1 : Int) σ else Q ((qrd y a b).2 : Int) σ
  | 0, a, b, hy, ha, hb, w => by
    rw [b_M_odds_112, if_neg (by decide)]
    rfl
  | 1, a, b, hy, ha, hb, w => by
    rw [b_M_odds_112, if_neg (by decide)]
    rfl
  | y + 2, a, b, hy, ha, hb, w => by
    have em : ∀ n : Nat, Int.tmod (n : Int) ((y + 2 : Nat) : Int) = ((n % (y + 2) : Nat) : Int) := fun n => rfl
    have ed : ∀ n : Nat, n < 100 → xwr (Int.tdiv (n : Int) ((y + 2 : Nat) : Int)) = ((n / (y + 2) : Nat) : Int) := fun n hn => by
      have : Int.tdiv (n : Int) ((y + 2 : Nat) : Int) = ((n / (y + 2) : Nat) : Int) := rfl
      have l := Nat.div_le_self n (y + 2)
      rw [this, xn100 (Nat.lt_of_le_of_lt l (by omega))]
    have e1 : xwr (((y + 2 : Nat) : Int) + -1) = ((y + 1 : Nat) : Int) := by rw [xw (by omega) (by omega)]; omega
    have ne : ((y + 2 : Nat) : Int) ≠ 0 := by omega
    have la := Nat.div_le_self a (y + 2)
    have lb := Nat.div_le_self b (y + 2)
    have g1 := fun w => m_rd (d := d) (σ := σ) (Q := Q) (x := x) (z := z) (y + 1) a b (by omega) ha hb w
    have g2 := fun w => m_rd (d := d) (σ := σ) (Q := Q) (x := x) (z := z) (y + 1) (a / (y + 2)) (b / (y + 2)) (by omega) (by omega) (by omega) w
    rw [b_M_odds_112, if_pos (by omega), em, em, ed a ha, ed b hb, e1]
    by_cases c1 : a % (y + 2) = 0
    · by_cases c2 : b % (y + 2) = 0
      · have eq : qrd (y + 2) a b = qrd (y + 1) (a / (y + 2)) (b / (y + 2)) := if_pos ⟨c1, c2⟩
        rw [eq, c1, c2, if_pos (show ((0 : Nat) : Int) = 0 from rfl), if_pos (show ((0 : Nat) : Int) = 0 from rfl), g2]
        exact propext ⟨fun q => q.2.2.2.2, fun q => ⟨ne, ne, ne, ne, q⟩⟩
      · have eq : qrd (y + 2) a b = qrd (y + 1) a b := if_neg (fun q => c2 q.2)
        have nc2 : ¬ ((b % (y + 2) : Nat) : Int) = 0 := fun q => c2 (Int.ofNat.inj q)
        rw [eq, c1, if_pos (show ((0 : Nat) : Int) = 0 from rfl), if_neg nc2, g1]
        exact propext ⟨fun q => q.2.2, fun q => ⟨ne, ne, q⟩⟩
    · have eq : qrd (y + 2) a b = qrd (y + 1) a b := if_neg (fun q => c1 q.1)
      have nc1 : ¬ ((a % (y + 2) : Nat) : Int) = 0 := fun q => c1 (Int.ofNat.inj q)
      rw [eq, if_neg nc1, g1]
      exact propext ⟨fun q => q.2, fun q => ⟨ne, q⟩⟩
theorem q_gcd : ∀ a : Nat, a < 8 → a ≠ 0 → ∀ g : Nat, g < 8 → g ≤ a → qeu 100 a g ≠ 0 ∧ g / qeu 100 a g = (qrd a g a).1 ∧ a / qeu 100 a g = (qrd a g a).2 := by decide +kernel
theorem m_oddsl {d c n2 : Nat} {σ : xM} {Q : Int → xM → Prop} {z : Int} (hv : xvl (σ 41 0)) (h2 : σ 41 0 2 = (n2 : Int)) (hc : (c : Int) < σ 41 0 3) : ∀ f p : Nat, p + f = n2 → ∀ w : xV, Ev (d + 2) 190 32 [vR 40 0, vI (c : Int), vI z, vI (qct (fun p => qgd (σ 41 0) c p) p : Int), vI (qct (fun p => qmy (σ 41 0) c p) p : Int), vI (p : Int), w] [] σ Q = (if qct (fun p => qmy (σ 41 0) c p) n2 = 0 then Ev (d + 1) 124 0 [vR 40 0, vI (-1000000003)] [] σ (fun v4 s4 => Q v4 s4) else if z = 0 then Q ((qrd (qct (fun p => qmy (σ 41 0) c p) n2) (qct (fun p => qgd (σ 41 0) c p) n2) (qct (fun p => qmy (σ 41 0) c p) n2)).1 : Int) σ else Q ((qrd (qct (fun p => qmy (σ 41 0) c p) n2) (qct (fun p => qgd (σ 41 0) c p) n2) (qct (fun p => qmy (σ 41 0) c p) n2)).2 : Int) σ)
  | 0, p, e, w => by
    have e : p = n2 := e
    subst e
    have l1 := qct_le (fun p => qmy (σ 41 0) c p) p
    have l2 := qct_le (fun p => qgd (σ 41 0) c p) p
    have p0 := hv.1
    rw [b_M_odds_32, xin (by decide) (by decide), show Int.toNat 2 = 2 from rfl, h2, if_neg (by omega)]
    by_cases h0 : qct (fun p => qmy (σ 41 0) c p) p = 0
    · rw [if_pos (by omega), if_pos h0]
    · rw [if_neg (by omega), if_neg h0]
      exact m_rd _ _ _ (by omega) (by omega) (by omega) w
  | f + 1, p, e, w => by
    have hp : (p : Int) < σ 41 0 2 := by omega
    have p7 := xvl_p7 hv hp
    have l1 := qct_le (fun p => qmy (σ 41 0) c p) p
    have l2 := qct_le (fun p => qgd (σ 41 0) c p) p
    have ih := fun w => m_oddsl (d := d) (Q := Q) (z := z) hv h2 hc f (p + 1) (by omega) w
    have e1 : qct (fun p => qgd (σ 41 0) c p) (p + 1) = qct (fun p => qgd (σ 41 0) c p) p + (if qgd (σ 41 0) c p = 0 then 0 else 1) := rfl
    have e2 : qct (fun p => qmy (σ 41 0) c p) (p + 1) = qct (fun p => qmy (σ 41 0) c p) p + (if qmy (σ 41 0) c p = 0 then 0 else 1) := rfl
    have z0 : ∀ n : Nat, n < 100 → xwr ((n : Int) + 0) = (n : Int) := fun n hn => by rw [xw (by omega) (by omega)]; omega
    rw [e1, e2] at ih
    unfold qgd at ih
    rw [b_M_odds_32, xin (by decide) (by decide), show Int.toNat 2 = 2 from rfl, if_pos hp, m_may hv hc hp, xs1 (c := p) (by omega)]
    by_cases c0 : qmy (σ 41 0) c p = 0
    · rw [if_pos c0, if_pos rfl, if_pos c0] at ih
      rw [if_pos c0, if_pos c0, z0 _ (by omega), z0 _ (by omega)]
      exact ih _
    · rw [if_neg c0, if_neg c0] at ih
      rw [if_neg c0, if_neg c0, m_dear (xvl_c7 hv hc)]
      by_cases c1 : 0 < qdr (σ 41 0) c (p : Int)
      · rw [if_pos c1, if_neg (by decide)] at ih
        rw [if_pos c1, xs1 (by omega), xs1 (by omega)]
        exact ih _
      · rw [if_neg c1, if_pos rfl] at ih
        rw [if_neg c1, z0 _ (by omega), xs1 (by omega)]
        exact ih _
theorem call_odds {d : Nat} {σ : xM} (h : Inv σ) (x y : Int) : Ev (d + 9) m_P_odds 0 [vR 4 0, vI x, vI y, vR 0 0, vR 0 0, vR 0 0, vR 0 0] [] σ (fun r s => Ev (d + 9) m_M_odds 0 [vR 40 0, vI x, vI y, vR 0 0, vR 0 0, vR 0 0, vR 0 0] [] s (fun r' s' => r = r' ∧ Inv s')) := by
  have hk := Inv_Kp h
  obtain ⟨n2, hn2, l2⟩ := xvl_p h.1
  have ⟨c0, c7⟩ := h.1.2.1
  rw [b_P_odds_0, e_hasChild, Kp_chn hk]
  simp only [xbc]
  by_cases hx : 0 ≤ x ∧ x < σ 41 0 3
  · obtain ⟨c, hcx⟩ : ∃ c : Nat, x = (c : Int) := ⟨x.toNat, by omega⟩
    subst hcx
    have hc := hx.2
    have c7' := xvl_c7 h.1 hc
    rw [if_neg (fun q => q hx), e_isWithin]
    simp only [xbc]
    by_cases hy : 0 ≤ y ∧ y ≤ 1
    · rw [if_neg (fun q => q hy), b_S_partsFor_0]
      refine (e_paFor hk hn2 hc n2 0 (Nat.zero_add _)).mpr ?_
      rw [e_bc (qms_lt7 _ l2), qct_pc _ n2 l2]
      have la := qct_le (fun p => qmy (σ 41 0) c p) n2
      have lg := qgd_le (σ 41 0) c n2
      by_cases h0 : qct (fun p => qmy (σ 41 0) c p) n2 = 0
      · rw [if_pos (by omega), e_fail3, b_M_odds_0, e_isChild9 c0 c7]
        simp only [xbc]
        rw [if_neg (fun q => q hx), e_in]
        simp only [xbc]
        rw [if_neg (fun q => q hy)]
        have g := m_oddsl (d := d + 7) (c := c) (n2 := n2) (σ := xup σ 39 0 3 (xwr (σ 39 0 3 + 1))) (Q := fun r' s' => (-1000000003 : Int) = r' ∧ Inv s') (z := y) (by rw [x39]; exact h.1) (by rw [x39]; exact hn2) (by rw [x39]; exact hc) n2 0 (Nat.zero_add _) (vR 0 0)
        rw [x39, if_pos h0] at g
        refine g.mpr ?_
        exact fin3 h
      · rw [if_neg (by omega), xin (by omega) (by omega), Int.toNat_natCast, e_wishSet hk hc, xq_and _ (qms_lt7 _ l2) _ (qws_lt h.1 hc), qgd_and h.1 hc, e_bc (qms_lt7 _ l2), qct_pc _ n2 l2, b_P_commonDivisor_0]
        refine (e_cd 100 0 (qct (fun p => qmy (σ 41 0) c p) n2) (qct (fun p => qgd (σ 41 0) c p) n2) (by decide) (by omega) (by omega) _).mpr ?_
        have g := fun Q : Int → xM → Prop => m_oddsl (d := d + 7) (c := c) (n2 := n2) (σ := σ) (Q := Q) (z := y) h.1 hn2 hc n2 0 (Nat.zero_add _) (vR 0 0)
        have qg := q_gcd (qct (fun p => qmy (σ 41 0) c p) n2) (by omega) h0 (qct (fun p => qgd (σ 41 0) c p) n2) (by omega) lg
        revert g qg
        generalize qct (fun p => qmy (σ 41 0) c p) n2 = a at la lg h0
        generalize qct (fun p => qgd (σ 41 0) c p) n2 = b at lg
        intro g qg
        have dv : ∀ n : Nat, n < 100 → xwr (Int.tdiv (n : Int) ((qeu 100 a b : Nat) : Int)) = ((n / qeu 100 a b : Nat) : Int) := fun n hn => by
          have : Int.tdiv (n : Int) ((qeu 100 a b : Nat) : Int) = ((n / qeu 100 a b : Nat) : Int) := rfl
          have l := Nat.div_le_self n (qeu 100 a b)
          rw [this, xn100 (Nat.lt_of_le_of_lt l (by omega))]
        rw [if_neg (by omega), dv b (by omega), dv a (by omega), qg.2.1, qg.2.2]
        have md : ∀ r, (if y = 0 then r = ((qrd a b a).1 : Int) else r = ((qrd a b a).2 : Int)) → Ev (d + 9) m_M_odds 0 [vR 40 0, vI (c : Int), vI y, vR 0 0, vR 0 0, vR 0 0, vR 0 0] [] σ (fun r' s' => r = r' ∧ Inv s') := by
          intro r hr
          rw [b_M_odds_0, e_isChild c0 c7]
          simp only [xbc]
          rw [if_neg (fun q => q hx), e_in]
          simp only [xbc]
          rw [if_neg (fun q => q hy)]
          have g' := g (fun r' s' => r = r' ∧ Inv s')
          rw [if_neg h0] at g'
          refine g'.mpr ?_
          by_cases y0 : y = 0
          · rw [if_pos y0] at hr ⊢
            exact ⟨hr, h⟩
          · rw [if_neg y0] at hr ⊢
            exact ⟨hr, h⟩
        by_cases y0 : y = 0
        · rw [if_pos y0]
          exact ⟨by omega, md _ (by rw [if_pos y0])⟩
        · rw [if_neg y0]
          exact ⟨by omega, md _ (by rw [if_neg y0])⟩
    · rw [if_pos hy, e_fail1, b_M_odds_0, e_isChild9 c0 c7]
      simp only [xbc]
      rw [if_neg (fun q => q hx), e_in]
      simp only [xbc]
      rw [if_pos hy]
      exact fin1 h
  · rw [if_pos hx, e_fail1, b_M_odds_0, e_isChild9 c0 c7]
    simp only [xbc]
    rw [if_pos hx]
    exact fin1 h
