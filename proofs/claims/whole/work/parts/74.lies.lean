/-! call lies -/
def qWc (R : Nat → Int) (k : Nat) (u : Nat → Int) (c p : Nat) : Int := if c = k then (if qmy R k p = 0 then -1 else u p) else qWw R c p
theorem qWc_lv {R : Nat → Int} {k : Nat} {u : Nat → Int} : qlv (qWc R k u) k = qlv (qWw R) k := by
  funext c p
  unfold qlv qWc
  split
  · rfl
  · rfl
theorem qWc_ok {R : Nat → Int} {k : Nat} {u : Nat → Int} (hu : ∀ p, 0 ≤ u p ∧ u p ≤ 99) : qWok (qWc R k u) := fun c p => by
  unfold qWc
  split
  · split
    · omega
    · have := hu p
      omega
  · exact qWw_ok R c p
def qUm (m : Nat) (u : Nat → Int) (p : Nat) : Int := if p = m then 0 else u p
def qOm (R : Nat → Int) (m n k p : Nat) : Int := qvl (qlv (qWw R) k) m n 0 (qS 0 (yd m p))
def qKm (R : Nat → Int) (m n k p : Nat) : Int := (qrk ((qgl (qlv (qWw R) k) m n 0 (qS 0 (yd m p))).set k (yd m p)) 0 : Int)
def qpick (R : Nat → Int) (m n k : Nat) (u : Nat → Int) : Nat := qch (qUm m u) (qOm R m n k) (qKm R m n k) (qmv R m k) m 0 m
theorem qpick_le {R : Nat → Int} {m n k : Nat} {u : Nat → Int} : qpick R m n k u = m ∨ (qpick R m n k u < m ∧ qmv R m k (qpick R m n k u) ≠ 0) := by
  rcases (qch_ok (U := qUm m u) (O := qOm R m n k) (K := qKm R m n k) (M := qmv R m k) m 0 m).1 with e | ⟨-, h2, h3⟩
  · exact Or.inl e
  · exact Or.inr ⟨by rw [Nat.zero_add] at h2; exact h2, h3⟩
theorem q_lie {R : Nat → Int} {m n k : Nat} {u : Nat → Int} (m7 : m ≤ 7) (hk : k < n) (hu : ∀ p, 0 ≤ u p ∧ u p ≤ 99) : (qgl (qWc R k u) m n 0 0).getD k 7 = yd m (qpick R m n k u) := by
  obtain ⟨h1, h2⟩ := qch_ok (U := qUm m u) (O := qOm R m n k) (K := qKm R m n k) (M := qmv R m k) m 0 m
  have hp := qpick_le (R := R) (m := m) (n := n) (k := k) (u := u)
  have val : ∀ q, (q = m ∨ (q < m ∧ qmv R m k q ≠ 0)) → qvy (qWc R k u) m n k (yd m q) = qUm m u q + qOm R m n k q ∧ qry (qWc R k u) m n k (yd m q) = qrk ((qgl (qlv (qWw R) k) m n 0 (qS 0 (yd m q))).set k (yd m q)) 0 := by
    intro q hq
    unfold qvy qry
    rw [qWc_lv]
    refine ⟨?_, rfl⟩
    unfold qUm qOm
    rcases hq with e | ⟨e, e2⟩
    · have : yd m q = 7 := if_pos e
      rw [this, if_pos rfl, if_pos e]
    · have ey : yd m q = q := if_neg (by omega)
      rw [ey, if_neg (by omega), if_neg (by omega)]
      unfold qWc
      unfold qmv at e2
      rw [if_neg (by omega)] at e2
      rw [if_pos rfl, if_neg e2]
  refine q_pick m7 hk ?_ (fun y hy => ?_)
  · rcases hp with e | ⟨e, e2⟩
    · exact Or.inl (if_pos e)
    · have ey : yd m (qpick R m n k u) = qpick R m n k u := if_neg (by omega)
      rw [ey]
      refine Or.inr ⟨e, ?_, Nat.zero_testBit _⟩
      unfold qmv at e2
      rw [if_neg (by omega)] at e2
      unfold qWc
      rw [if_pos rfl, if_neg e2]
      exact (hu _).1
  · obtain ⟨v1, r1⟩ := val _ hp
    obtain ⟨q, hq, eq⟩ : ∃ q, (q = m ∨ (q < m ∧ qmv R m k q ≠ 0)) ∧ yd m q = y := by
      rcases hy with e | ⟨e1, e2, -⟩
      · exact ⟨m, Or.inl rfl, by rw [e]; exact if_pos rfl⟩
      · refine ⟨y, Or.inr ⟨e1, ?_⟩, if_neg (by omega)⟩
        unfold qmv
        rw [if_neg (by omega)]
        intro e0
        unfold qWc at e2
        rw [if_pos rfl, if_pos e0] at e2
        omega
    obtain ⟨v2, r2⟩ := val q hq
    rw [← eq, v1, v2, r1, r2]
    have d := h2 q (by
      rcases hq with e | ⟨e, e2⟩
      · exact Or.inl e
      · exact Or.inr ⟨Nat.zero_le _, by omega, e2⟩)
    rcases d with d | ⟨d, d'⟩
    · exact Or.inl d
    · refine Or.inr ⟨d, ?_⟩
      have d' : ((qrk ((qgl (qlv (qWw R) k) m n 0 (qS 0 (yd m (qpick R m n k u)))).set k (yd m (qpick R m n k u))) 0 : Nat) : Int) ≤ ((qrk ((qgl (qlv (qWw R) k) m n 0 (qS 0 (yd m q))).set k (yd m q)) 0 : Nat) : Int) := d'
      omega
/-- the lies one by one -/
def qtS (G : Nat → Nat → Int) (now : Int) (a b : Nat) (st : Int × Int) : Int × Int := if st.2 < G a b - now then ((10 * a + b : Nat), G a b - now) else st
def qrow (G : Nat → Nat → Int) (now : Int) (a : Nat) (st : Int × Int) : Nat → Int × Int
  | 0 => st
  | b + 1 => qtS G now a b (qrow G now a st b)
def qall (G : Nat → Nat → Int) (now : Int) (m : Nat) : Nat → Int × Int
  | 0 => (-1, 0)
  | a + 1 => qrow G now a (qall G now m a) m
def qtr (R : Nat → Int) (m k p : Nat) : Int := if p = m then 0 else qwo R k (p : Int)
def quL (R : Nat → Int) (k a b p : Nat) : Int := qwi R k p (qdl a b p : Int)
def qG (R : Nat → Int) (m n k a b : Nat) : Int := qtr R m k (qpick R m n k (quL R k a b))
def qnow (R : Nat → Int) (m n k : Nat) : Int := qtr R m k (qpick R m n k (fun p => qwo R k (p : Int)))
theorem qtr_rg (R : Nat → Int) (m k p : Nat) : 0 ≤ qtr R m k p ∧ qtr R m k p ≤ 99 := by
  unfold qtr
  split
  · decide
  · exact qwo_rg R k _
theorem quL_rg (R : Nat → Int) (k a b p : Nat) : 0 ≤ quL R k a b p ∧ quL R k a b p ≤ 99 := qheld_rg (by decide)
/-- the class's liar, having learnt -/
def qLs (R : Nat → Int) (m n k : Nat) (s : xM) : Prop := s 25 0 0 = (m : Int) ∧ qLO R m n k s (m + 1) ∧ qLW R k s m ∧ s 29 0 m = 0 ∧ s 32 0 m = 0
theorem qLs_Fr {R : Nat → Int} {m n k : Nat} {s u : xM} {l : List Nat} (h : qLs R m n k s) (f : Fr l s u) (hl : ([26, 27, 28, 29, 31].all (fun t => !l.elem t)) = true) (h25 : u 25 0 0 = s 25 0 0) (h32 : u 32 0 m = s 32 0 m) : qLs R m n k u := by
  have g := List.all_eq_true.mp hl
  have e : ∀ t, t ∈ [26, 27, 28, 29, 31] → u t = s t := fun t ht => f t (fun q => by
    have := g t ht
    simp at this
    exact this q)
  unfold qLs qLO qLW at h ⊢
  rw [h25, h32, e 26 (by decide), e 27 (by decide), e 28 (by decide), e 29 (by decide), e 31 (by decide)]
  exact h
theorem e_choose {d m n k : Nat} {R : Nat → Int} {s : xM} {Q : Int → xM → Prop} (m7 : m ≤ 7) (n7 : n ≤ 7) (h : qLs R m n k s) (w : xV) : Ev d 109 7 [vR 25 0, vR 29 0, vI (m : Int), vI 0, w] [] s Q = Q (qpick R m n k (fun p => qwo R k (p : Int)) : Int) s := by
  obtain ⟨h25, hO, hW, h29, h32⟩ := h
  refine e_ch (U := qUm m (fun p => qwo R k (p : Int))) (O := qOm R m n k) (K := qKm R m n k) (M := qmv R m k) m7 h25 (fun p hp => ?_) (fun p hp => (hO p (by omega)).1) (fun p hp => (hO p (by omega)).2.2) (fun p hp => (hO p (by omega)).2.1) (fun p hp => ?_) (fun p hp => ?_) m 0 m (Nat.zero_add _) (Nat.le_refl _) w
  · unfold qUm
    by_cases e : p = m
    · rw [if_pos e, e, h29]
    · rw [if_neg e]
      exact (hW p (by omega)).1
  · unfold qUm
    split
    · decide
    · exact qwo_rg R k _
  · have := qvl_b (m := m) (qlv_ok (k := k) (qWw_ok R)) n 0 (qS 0 (yd m p))
    unfold qOm
    omega
theorem e_chooseA {d m n k a b : Nat} {R : Nat → Int} {s : xM} {Q : Int → xM → Prop} (m7 : m ≤ 7) (n7 : n ≤ 7) (h : qLs R m n k s) (hc : ∀ q, q < m → s 32 0 q = s 31 (qdl a b q) q) (w : xV) : Ev d 109 7 [vR 25 0, vR 32 0, vI (m : Int), vI 0, w] [] s Q = Q (qpick R m n k (quL R k a b) : Int) s := by
  obtain ⟨h25, hO, hW, h29, h32⟩ := h
  refine e_chA (U := qUm m (quL R k a b)) (O := qOm R m n k) (K := qKm R m n k) (M := qmv R m k) m7 h25 (fun p hp => ?_) (fun p hp => (hO p (by omega)).1) (fun p hp => (hO p (by omega)).2.2) (fun p hp => (hO p (by omega)).2.1) (fun p hp => ?_) (fun p hp => ?_) m 0 m (Nat.zero_add _) (Nat.le_refl _) w
  · unfold qUm
    by_cases e : p = m
    · rw [if_pos e, e, h32]
    · rw [if_neg e, hc p (by omega)]
      refine (hW p (by omega)).2 (qdl a b p) ?_
      unfold qdl
      split
      · decide
      · split <;> decide
  · unfold qUm
    split
    · decide
    · exact quL_rg R k a b p
  · have := qvl_b (m := m) (qlv_ok (k := k) (qWw_ok R)) n 0 (qS 0 (yd m p))
    unfold qOm
    omega
theorem qtr_29 {R : Nat → Int} {m n k p : Nat} {s : xM} (h : qLs R m n k s) (hp : p ≤ m) : s 29 0 p = qtr R m k p := by
  unfold qtr
  by_cases e : p = m
  · rw [if_pos e, e, h.2.2.2.1]
  · rw [if_neg e]
    exact (h.2.2.1 p (by omega)).1
theorem qpick_lm {R : Nat → Int} {m n k : Nat} {u : Nat → Int} : qpick R m n k u ≤ m := by
  rcases qpick_le (R := R) (m := m) (n := n) (k := k) (u := u) with e | ⟨e, -⟩ <;> omega
theorem e_tryB {d m n k : Nat} {R : Nat → Int} {Q : Int → xM → Prop} {σ : xM} (m7 : m ≤ 7) (n7 : n ≤ 7) (hQ : ∀ s, Fr [25, 32] σ s → s 25 0 1 = (qall (qG R m n k) (qnow R m n k) m m).1 → s 25 0 2 = (qall (qG R m n k) (qnow R m n k) m m).2 → Q 0 s) :
    ∀ f a : Nat, a + f = m → ∀ (w w' : xV) (s : xM), Fr [25, 32] σ s → qLs R m n k s → s 25 0 1 = (qall (qG R m n k) (qnow R m n k) m a).1 → s 25 0 2 = (qall (qG R m n k) (qnow R m n k) m a).2 → Ev (d + 1) 104 49 [vR 25 0, vR 5 0, vR 19 0, vI (k : Int), vI (qnow R m n k), vI (a : Int), w, w'] [] s Q
  | 0, a, e, w, w', s, hf, hs, h1, h2 => by
    have e : a = m := e
    subst e
    rw [b_L_tryAll_49, hs.1, if_neg (by omega)]
    exact hQ s hf h1 h2
  | f + 1, a, e, w, w', s, hf, hs, h1, h2 => by
    rw [b_L_tryAll_49, hs.1, if_pos (by omega)]
    have inner : ∀ g b : Nat, b + g = m → ∀ (w : xV) (s : xM), Fr [25, 32] σ s → qLs R m n k s → s 25 0 1 = (qrow (qG R m n k) (qnow R m n k) a (qall (qG R m n k) (qnow R m n k) m a) b).1 → s 25 0 2 = (qrow (qG R m n k) (qnow R m n k) a (qall (qG R m n k) (qnow R m n k) m a) b).2 → Ev (d + 1) 104 61 [vR 25 0, vR 5 0, vR 19 0, vI (k : Int), vI (qnow R m n k), vI (a : Int), vI (b : Int), w] [] s Q := by
      intro g
      induction g with
      | zero =>
        intro b eb w s hf hs h1 h2
        have eb : b = m := eb
        subst eb
        rw [b_L_tryAll_61, hs.1, if_neg (by omega), xs1 (by omega)]
        exact e_tryB m7 n7 hQ f (a + 1) (by omega) _ _ s hf hs h1 h2
      | succ g ih =>
        intro b eb w s hf hs h1 h2
        have eq : qrow (qG R m n k) (qnow R m n k) a (qall (qG R m n k) (qnow R m n k) m a) (b + 1) = if (qrow (qG R m n k) (qnow R m n k) a (qall (qG R m n k) (qnow R m n k) m a) b).2 < qG R m n k a b - qnow R m n k then (((10 * a + b : Nat) : Int), qG R m n k a b - qnow R m n k) else qrow (qG R m n k) (qnow R m n k) a (qall (qG R m n k) (qnow R m n k) m a) b := rfl
        have ih := fun w s => ih (b + 1) (by omega) w s
        rw [eq] at ih
        rw [b_L_tryAll_61, hs.1, if_pos (by omega), b_L_claim_0]
        refine e_claim (a := a) (b := b) m7 hs.1 (fun s1 f1 c1 c2 => ?_) m 0 (Nat.zero_add _) _ s Fr_refl (fun q hq => absurd hq (by omega)) rfl
        have hs1 : qLs R m n k s1 := qLs_Fr hs f1 rfl (by rw [f1 25 (by decide)]) c2
        have pl := qpick_lm (R := R) (m := m) (n := n) (k := k) (u := quL R k a b)
        have gG : qG R m n k a b = qtr R m k (qpick R m n k (quL R k a b)) := rfl
        have rg1 := qtr_rg R m k (qpick R m n k (quL R k a b))
        have rg2 := qtr_rg R m k (qpick R m n k (fun p => qwo R k (p : Int)))
        have gN : qnow R m n k = qtr R m k (qpick R m n k (fun p => qwo R k (p : Int))) := rfl
        rw [b_L_chosenByA_0, hs1.1, e_chooseA m7 n7 hs1 (fun q hq => by rw [c1 q hq, f1 31 (by decide)]), xin (by omega) (by omega), Int.toNat_natCast, qtr_29 hs1 pl, f1 25 (by decide), h2, ← gG, xw (x := qG R m n k a b - qnow R m n k) (by omega) (by omega), xs1 (by omega), xw (x := 10 * (a : Int)) (by omega) (by omega), xw (x := 10 * (a : Int) + (b : Int)) (by omega) (by omega)]
        have f2 : Fr [25, 32] σ s1 := Fr_trans hf (Fr_mono f1 (by decide))
        by_cases c : (qrow (qG R m n k) (qnow R m n k) a (qall (qG R m n k) (qnow R m n k) m a) b).2 < qG R m n k a b - qnow R m n k
        · rw [if_pos c] at ih ⊢
          refine ih _ _ (Fr_trans f2 (Fr_trans (Fr_up (by decide)) (Fr_up (by decide)))) ?_ ?_ ?_
          · refine qLs_Fr hs1 (l := [25]) (Fr_trans (Fr_up (by decide)) (Fr_up (by decide))) rfl (by rw [xup_k (by decide), xup_k (by decide)]) (by rw [xup_t (by decide), xup_t (by decide)])
          · rw [xup_s]
            show 10 * (a : Int) + (b : Int) = ((10 * a + b : Nat) : Int)
            omega
          · rw [xup_k (by decide), xup_s]
        · rw [if_neg c] at ih ⊢
          exact ih _ s1 f2 hs1 (by rw [f1 25 (by decide)]; exact h1) (by rw [f1 25 (by decide)]; exact h2)
    exact inner m 0 (Nat.zero_add _) _ s hf hs h1 h2
theorem e_tryAll {d m n k : Nat} {R : Nat → Int} {Q : Int → xM → Prop} {σ : xM} (h : Kp σ R) (h3 : R 3 = (n : Int)) (h2 : R 2 = (m : Int)) (n7 : n ≤ 7) (m7 : m ≤ 7) (hk : k < n) (hC : Cw σ (qWw R) n m) (hQ : ∀ s, Fr qSc σ s → s 25 0 1 = (qall (qG R m n k) (qnow R m n k) m m).1 → s 25 0 2 = (qall (qG R m n k) (qnow R m n k) m m).2 → Q 0 s) : Ev (d + 5) 104 0 [vR 25 0, vR 5 0, vR 19 0, vI (k : Int), vR 0 0, vR 0 0, vR 0 0, vR 0 0] [] σ Q := by
  have f0 : Fr [25] σ (xup (xup (xup σ 25 0 0 (m : Int)) 25 0 1 (-1)) 25 0 2 0) := Fr_trans (Fr_trans (Fr_up (by decide)) (Fr_up (by decide))) (Fr_up (by decide))
  rw [b_L_tryAll_0, Kp_parts h, h2]
  refine e_learnO (R := R) (n := n) (m := m) (Kp_sc h f0 rfl) h3 h2 n7 m7 hk (Cw_Fr hC f0 rfl rfl) (by rw [xup_k (by decide), xup_k (by decide), xup_s]) (fun s1 f1 g1 => ?_)
  have e25 : s1 25 0 0 = (m : Int) := by rw [f1 25 (by decide), xup_k (by decide), xup_k (by decide), xup_s]
  have e251 : s1 25 0 1 = -1 := by rw [f1 25 (by decide), xup_k (by decide), xup_s]
  have e252 : s1 25 0 2 = 0 := by rw [f1 25 (by decide), xup_s]
  refine e_learnW (R := R) (m := m) (Kp_sc (Kp_sc h f0 rfl) f1 rfl) m7 (by omega) e25 (fun s2 f2 g2 g3 g4 => ?_)
  have hs : qLs R m n k s2 := by
    refine ⟨by rw [f2 25 (by decide), e25], fun q hq => ?_, g2, g3, g4⟩
    rw [f2 26 (by decide), f2 27 (by decide), f2 28 (by decide)]
    exact g1 q hq
  have pl := qpick_lm (R := R) (m := m) (n := n) (k := k) (u := fun p => qwo R k (p : Int))
  have fa : Fr qSc σ s2 := Fr_trans (Fr_mono f0 (by decide)) (Fr_trans (Fr_mono f1 (by decide)) (Fr_mono f2 (by decide)))
  rw [b_L_chosenBy_0, hs.1, e_choose m7 n7 hs, xin (by omega) (by omega), Int.toNat_natCast, qtr_29 hs pl]
  exact e_tryB (R := R) (n := n) m7 n7 (fun s3 f3 => hQ s3 (Fr_trans fa (Fr_mono f3 (by decide)))) m 0 (Nat.zero_add _) _ _ s2 Fr_refl hs (by rw [f2 25 (by decide), e251]; rfl) (by rw [f2 25 (by decide), e252]; rfl)
