/-! the best cast; calls best, wished, without -/
theorem xup_self {σ : xM} {t i k : Nat} : xup σ t i k (σ t i k) = σ := by
  funext a b c
  unfold xup
  by_cases h : a = t ∧ b = i ∧ c = k
  · rw [if_pos h, h.1, h.2.1, h.2.2]
  · rw [if_neg h]
def qlq (W : Nat → Nat → Int) (c S : Nat) (V : Nat → Int) (v : Int) : Nat → Nat → Nat
  | 0, _ => 7
  | f + 1, p => if qf W c S p = true then (if W c p + V (S ||| 2 ^ p) = v then p else qlq W c S V v f (p + 1)) else qlq W c S V v f (p + 1)
theorem qlq_at {W : Nat → Nat → Int} {c S : Nat} {V : Nat → Int} {v : Int} : ∀ f p, qlq W c S V v f p = 7 ∨ (p ≤ qlq W c S V v f p ∧ qlq W c S V v f p < p + f ∧ qf W c S (qlq W c S V v f p) = true ∧ W c (qlq W c S V v f p) + V (S ||| 2 ^ qlq W c S V v f p) = v)
  | 0, p => Or.inl rfl
  | f + 1, p => by
    have ih := qlq_at (W := W) (c := c) (S := S) (V := V) (v := v) f (p + 1)
    have eq : qlq W c S V v (f + 1) p = if qf W c S p = true then (if W c p + V (S ||| 2 ^ p) = v then p else qlq W c S V v f (p + 1)) else qlq W c S V v f (p + 1) := rfl
    rw [eq]
    by_cases h1 : qf W c S p = true
    · by_cases h2 : W c p + V (S ||| 2 ^ p) = v
      · rw [if_pos h1, if_pos h2]
        exact Or.inr ⟨Nat.le_refl _, by omega, h1, h2⟩
      · rw [if_pos h1, if_neg h2]
        rcases ih with h | ⟨g1, g2, g3⟩
        · exact Or.inl h
        · exact Or.inr ⟨by omega, by omega, g3⟩
    · rw [if_neg h1]
      rcases ih with h | ⟨g1, g2, g3⟩
      · exact Or.inl h
      · exact Or.inr ⟨by omega, by omega, g3⟩
def qS (S x : Nat) : Nat := if x = 7 then S else S ||| 2 ^ x
def dg (x : Nat) : Int := if x = 7 then -1 else (x : Int)
def qgl (W : Nat → Nat → Int) (m : Nat) : Nat → Nat → Nat → List Nat
  | 0, _, _ => []
  | f + 1, c, S => qlq W c S (fun T => qvl W m f (c + 1) T) (qvl W m (f + 1) c S) m 0 :: qgl W m f (c + 1) (qS S (qlq W c S (fun T => qvl W m f (c + 1) T) (qvl W m (f + 1) c S) m 0))
theorem qS_lt {S x m : Nat} (hS : S < 2 ^ m) (hx : x = 7 ∨ x < m) : qS S x < 2 ^ m := by
  unfold qS
  split
  · exact hS
  · exact or_lt hS (by omega)
theorem e_least {d n m c S : Nat} {σ : xM} {W : Nat → Nat → Int} {V : Nat → Int} {v : Int} {Q : Int → xM → Prop} (h : Cw σ W n m) (hW : qWok W) (n7 : n ≤ 7) (m7 : m ≤ 7) (hc : c < n) (hS : S < 2 ^ m) (hV : ∀ T, T < 2 ^ m → σ 23 (c + 1) T = V T) (hv : σ 23 c S = v) (hVb : ∀ T, 0 ≤ V T ∧ V T ≤ 693) : ∀ f p : Nat, p + f = m → Ev (d + 1) 102 2 [vR 19 0, vI (c : Int), vI (S : Int), vI (p : Int)] [] σ Q = Q (dg (qlq W c S V v f p)) σ
  | 0, p, e => by
    rw [b_A_leastPart_2, h.2.1, if_neg (by omega)]
    rfl
  | f + 1, p, e => by
    have hS7 := pw7 hS m7
    have hw := hW c p
    have hvb := hVb (S ||| 2 ^ p)
    have ih := e_least (d := d) (Q := Q) h hW n7 m7 hc hS hV hv hVb f (p + 1) (by omega)
    show _ = Q (dg (if qf W c S p = true then (if W c p + V (S ||| 2 ^ p) = v then p else qlq W c S V v f (p + 1)) else qlq W c S V v f (p + 1))) σ
    rw [b_A_leastPart_2, h.2.1, if_pos (by omega), e_isFree h hW n7 m7 hc (by omega) hS7, xs1 (by omega)]
    by_cases q : qf W c S p = true
    · have h0 : 0 ≤ W c p := by
        unfold qf at q
        simp at q
        exact q.2
      rw [if_pos q, if_neg (by decide), e_comes h n7 m7 hc (by omega) hS hV (by omega), if_pos q, xin (by omega) (by omega), xin (by omega) (by omega), Int.toNat_natCast, Int.toNat_natCast, hv]
      by_cases q2 : W c p + V (S ||| 2 ^ p) = v
      · rw [if_pos q2, if_pos q2]
        unfold dg
        rw [if_neg (by omega)]
      · rw [if_neg q2, if_neg q2]
        exact ih
    · rw [if_neg q, if_pos rfl, if_neg q]
      exact ih
theorem e_as4 {d n m : Nat} {W : Nat → Nat → Int} {Q : Int → xM → Prop} {x1 : Int} (hW : qWok W) (n7 : n ≤ 7) (m7 : m ≤ 7) : ∀ f c S : Nat, c + f = n → S < 2 ^ m → ∀ σ : xM, Cw σ W n m → (∀ a, a ≤ n → ∀ T, T < 2 ^ m → σ 23 a T = qvl W m (n - a) a T) → (∀ s, Fr [24] σ s → (∀ i, i < c → s 24 0 i = σ 24 0 i) → (∀ i, i < f → s 24 0 (c + i) = dg ((qgl W m f c S).getD i 7)) → Q 0 s) → Ev (d + 2) 101 4 [vR 19 0, vI x1, vI (S : Int), vI (c : Int)] [] σ Q
  | 0, c, S, e, hS, σ, h, hv, hQ => by
    rw [b_A_assignWithout_4, h.1, if_neg (by omega)]
    exact hQ σ Fr_refl (fun _ _ => rfl) (fun i hi => absurd hi (by omega))
  | f + 1, c, S, e, hS, σ, h, hv, hQ => by
    have hS7 := pw7 hS m7
    have hc : c < n := by omega
    have e1 : n - (c + 1) = f := by omega
    have e2 : n - c = f + 1 := by omega
    have hV : ∀ T, T < 2 ^ m → σ 23 (c + 1) T = qvl W m f (c + 1) T := fun T hT => by rw [hv (c + 1) (by omega) T hT, e1]
    have hvs : σ 23 c S = qvl W m (f + 1) c S := by rw [hv c (by omega) S hS, e2]
    have la := qlq_at (W := W) (c := c) (S := S) (V := fun T => qvl W m f (c + 1) T) (v := qvl W m (f + 1) c S) m 0
    have lg : qgl W m (f + 1) c S = qlq W c S (fun T => qvl W m f (c + 1) T) (qvl W m (f + 1) c S) m 0 :: qgl W m f (c + 1) (qS S (qlq W c S (fun T => qvl W m f (c + 1) T) (qvl W m (f + 1) c S) m 0)) := rfl
    rw [lg] at hQ
    rw [b_A_assignWithout_4, h.1, if_pos (by omega), b_A_leastPart_0]
    refine (e_least h hW n7 m7 hc hS hV hvs (fun T => by have := qvl_b (m := m) hW f (c + 1) T; omega) m 0 (Nat.zero_add _)).mpr ?_
    revert la hQ
    generalize qlq W c S (fun T => qvl W m f (c + 1) T) (qvl W m (f + 1) c S) m 0 = x
    intro hQ la
    have hx : x = 7 ∨ x < m := by
      rcases la with l | ⟨-, l, -⟩
      · exact Or.inl l
      · exact Or.inr (by omega)
    have next : Ev (d + 2) 101 4 [vR 19 0, vI x1, vI (qS S x : Int), vI ((c + 1 : Nat) : Int)] [] (xup σ 24 0 c (dg x)) Q := by
      refine e_as4 hW n7 m7 f (c + 1) (qS S x) (by omega) (qS_lt hS hx) _ ⟨by rw [xup_t (by decide)]; exact h.1, by rw [xup_t (by decide)]; exact h.2.1, fun a ha p hp => by rw [xup_t (by decide)]; exact h.2.2 a ha p hp⟩ (fun a ha T hT => by rw [xup_t (by decide)]; exact hv a ha T hT) (fun s g1 g2 g3 => hQ s (Fr_trans (Fr_up (by decide)) g1) (fun i hi => by rw [g2 i (by omega), xup_k (by omega)]) (fun i hi => ?_))
      cases i with
      | zero =>
        rw [Nat.add_zero, g2 c (by omega), xup_s]
        rfl
      | succ i =>
        rw [show c + (i + 1) = c + 1 + i by omega, g3 i (by omega)]
        rfl
    rw [xin (by omega) (by omega), xin (by omega) (by omega), Int.toNat_natCast, xup_s, xs1 (by omega)]
    unfold qS at next
    by_cases e7 : x = 7
    · have ed : dg x = -1 := if_pos e7
      rw [if_pos e7] at next
      rw [if_pos ed]
      exact next
    · have ed : dg x = (x : Int) := if_neg e7
      rw [if_neg e7] at next
      rw [if_neg (by rw [ed]; omega), xin (by omega) (by omega)]
      rw [ed] at next ⊢
      rw [xq_ors S hS7 x (by omega)]
      exact next
theorem e_assign {d n m T0 : Nat} {σ : xM} {W : Nat → Nat → Int} {Q : Int → xM → Prop} (h : Cw σ W n m) (hW : qWok W) (n7 : n ≤ 7) (m7 : m ≤ 7) (hS : T0 < 2 ^ m) (hv : ∀ a, a ≤ n → ∀ T, T < 2 ^ m → σ 23 a T = qvl W m (n - a) a T) (hQ : ∀ s, Fr [24] σ s → (∀ i, i < n → s 24 0 i = dg ((qgl W m n 0 T0).getD i 7)) → Q 0 s) : Ev (d + 2) 101 0 [vR 19 0, vI (T0 : Int), vR 0 0, vR 0 0] [] σ Q := by
  rw [b_A_assignWithout_0]
  refine e_as4 hW n7 m7 n 0 T0 (Nat.zero_add _) hS σ h hv (fun s g1 g2 g3 => hQ s g1 (fun i hi => ?_))
  have := g3 i hi
  rw [Nat.zero_add] at this
  exact this
theorem m_fb34 {d n m c S : Nat} {W : Nat → Nat → Int} {V : Nat → Int} {v : Int} {Q : Int → xM → Prop} {σ0 : xM} (hW : qWok W) (n7 : n ≤ 7) (m7 : m ≤ 7) (hc : c < n) (hS : S < 2 ^ m) (h : Mv σ0 W n m) (hV : ∀ T, T < 128 → σ0 52 0 (128 * (c + 1) + T) = V T) (hv : σ0 52 0 (128 * c + S) = v) (hVb : ∀ T, 0 ≤ V T ∧ V T ≤ 693) (hQ : ∀ s, Fr [54] σ0 s → (∀ i, i ≠ c → s 54 0 i = σ0 54 0 i) → s 54 0 c = dg (qlq W c S V v m 0) → ∀ w3 w4 w5, Ev d 185 8 [vR 40 0, vI (qS S (qlq W c S V v m 0) : Int), vI ((c + 1 : Nat) : Int), w3, w4, w5] [] s Q) :
    ∀ j f : Nat, j + f = m → ∀ (w4 w5 : xV) (σ : xM), Fr [54] σ0 σ → (∀ i, i ≠ c → σ 54 0 i = σ0 54 0 i) → σ 54 0 c = dg (qlq W c S V v f j) → Ev d 185 34 [vR 40 0, vI (S : Int), vI (c : Int), vI ((j : Int) - 1), w4, w5] [] σ Q
  | 0, f, e, w4, w5, σ, g1, g2, g3 => by
    have e : f = m := by omega
    subst e
    have hS7 := pw7 hS m7
    have la := qlq_at (W := W) (c := c) (S := S) (V := V) (v := v) f 0
    have next := hQ σ g1 g2 g3
    revert la next g3
    generalize qlq W c S V v f 0 = x
    intro g3 la next
    rw [b_M_findBest_34, if_pos (by decide), xin (by omega) (by omega), Int.toNat_natCast, g3, xs1 (by omega)]
    unfold qS at next
    by_cases e7 : x = 7
    · have ed : dg x = -1 := if_pos e7
      rw [if_pos e7] at next
      rw [ed, if_pos (by decide), xq_or0 S hS7]
      exact next _ _ _
    · have ed : dg x = (x : Int) := if_neg e7
      have x7 : x < 7 := by
        rcases la with l | ⟨-, l, -⟩
        · exact absurd l e7
        · omega
      rw [if_neg e7] at next
      rw [ed, if_neg (by omega), xin (by omega) (by omega), xq_ors S hS7 x x7]
      exact next _ _ _
  | p + 1, f, e, w4, w5, σ, g1, g2, g3 => by
    have hS7 := pw7 hS m7
    have hw := hW c p
    have hvb := hVb (S ||| 2 ^ p)
    have hSo : S ||| 2 ^ p < 128 := or_lt (m := 7) hS7 (by omega)
    have ih := m_fb34 hW n7 m7 hc hS h hV hv hVb hQ p (f + 1) (by omega)
    have eq : qlq W c S V v (f + 1) p = if qf W c S p = true then (if W c p + V (S ||| 2 ^ p) = v then p else qlq W c S V v f (p + 1)) else qlq W c S V v f (p + 1) := rfl
    rw [eq] at ih
    have e53 : σ 53 0 (7 * c + p) = W c p := by rw [g1 53 (by decide)]; exact h.2.2 c hc p (by omega)
    have ep : ((p + 1 : Nat) : Int) - 1 = (p : Int) := by omega
    have em : xwr ((p : Int) + -1) = (p : Int) - 1 := xw (by omega) (by omega)
    rw [b_M_findBest_34, ep, if_neg (by omega), xq_bit S hS7 p (by omega), em]
    by_cases hbt : Nat.testBit S p = true
    · have q : ¬ qf W c S p = true := by unfold qf; rw [hbt]; simp
      rw [if_neg q] at ih
      rw [if_pos hbt, if_neg (by decide), if_pos rfl, if_pos rfl, xin (by omega) (by omega), xin (by omega) (by omega), Int.toNat_natCast, xup_self]
      exact ih _ _ σ g1 g2 g3
    · have hbf : Nat.testBit S p = false := by simpa using hbt
      rw [if_neg hbt, if_pos rfl, x7c (by omega) (by omega), xin (by omega) (by omega), Int.toNat_natCast, e53]
      by_cases hw0 : W c p < 0
      · have q : ¬ qf W c S p = true := by unfold qf; rw [hbf]; simp; omega
        rw [if_neg q] at ih
        rw [if_pos hw0, if_pos rfl, if_pos rfl, xin (by omega) (by omega), xin (by omega) (by omega), Int.toNat_natCast, xup_self]
        exact ih _ _ σ g1 g2 g3
      · have q : qf W c S p = true := by unfold qf; rw [hbf]; simp; omega
        rw [if_pos q] at ih
        rw [if_neg hw0, if_neg (by decide), xs1 (c := c) (by omega), xq_ors S hS7 p (by omega), x128 (by omega) hSo, x128 (by omega) hS7, xin (by omega) (by omega), xin (by omega) (by omega), xin (by omega) (by omega), Int.toNat_natCast, Int.toNat_natCast, Int.toNat_natCast, g1 52 (by decide), hV _ hSo, hv, xw (x := W c p + V (S ||| 2 ^ p)) (by omega) (by omega)]
        by_cases q2 : W c p + V (S ||| 2 ^ p) = v
        · rw [if_pos q2] at ih
          rw [if_pos q2, if_neg (by decide), xin (by omega) (by omega)]
          refine ih _ _ _ (Fr_trans g1 (Fr_up (by decide))) (fun i hi => by rw [xup_k hi]; exact g2 i hi) ?_
          rw [xup_s]
          unfold dg
          rw [if_neg (by omega)]
        · rw [if_neg q2] at ih
          rw [if_neg q2, if_pos rfl, xin (by omega) (by omega), xin (by omega) (by omega), xup_self]
          exact ih _ _ σ g1 g2 g3
theorem m_fb8 {d n m : Nat} {W : Nat → Nat → Int} {Q : Int → xM → Prop} (hW : qWok W) (n7 : n ≤ 7) (m7 : m ≤ 7) : ∀ f c S : Nat, c + f = n → S < 2 ^ m → ∀ (w3 w4 w5 : xV) (σ : xM), Mv σ W n m → (∀ a, a ≤ n → ∀ T, T < 128 → σ 52 0 (128 * a + T) = qvl W m (n - a) a T) → (∀ s, Fr [54] σ s → (∀ i, i < c → s 54 0 i = σ 54 0 i) → (∀ i, i < f → s 54 0 (c + i) = dg ((qgl W m f c S).getD i 7)) → Q 0 s) → Ev d 185 8 [vR 40 0, vI (S : Int), vI (c : Int), w3, w4, w5] [] σ Q
  | 0, c, S, e, hS, w3, w4, w5, σ, h, hv, hQ => by
    rw [b_M_findBest_8, xin (by decide) (by decide), show Int.toNat 3 = 3 from rfl, h.1, if_neg (by omega)]
    exact hQ σ Fr_refl (fun _ _ => rfl) (fun i hi => absurd hi (by omega))
  | f + 1, c, S, e, hS, w3, w4, w5, σ, h, hv, hQ => by
    have hS7 := pw7 hS m7
    have hc : c < n := by omega
    have e1 : n - (c + 1) = f := by omega
    have e2 : n - c = f + 1 := by omega
    have hV : ∀ T, T < 128 → σ 52 0 (128 * (c + 1) + T) = qvl W m f (c + 1) T := fun T hT => by rw [hv (c + 1) (by omega) T hT, e1]
    have hvs : σ 52 0 (128 * c + S) = qvl W m (f + 1) c S := by rw [hv c (by omega) S hS7, e2]
    have la := qlq_at (W := W) (c := c) (S := S) (V := fun T => qvl W m f (c + 1) T) (v := qvl W m (f + 1) c S) m 0
    have lg : qgl W m (f + 1) c S = qlq W c S (fun T => qvl W m f (c + 1) T) (qvl W m (f + 1) c S) m 0 :: qgl W m f (c + 1) (qS S (qlq W c S (fun T => qvl W m f (c + 1) T) (qvl W m (f + 1) c S) m 0)) := rfl
    rw [lg] at hQ
    have cv : ∀ s, Fr [54] σ s → Mv s W n m := fun s g => ⟨by rw [g 41 (by decide)]; exact h.1, by rw [g 41 (by decide)]; exact h.2.1, fun a ha p hp => by rw [g 53 (by decide)]; exact h.2.2 a ha p hp⟩
    have f0 : Fr [54] σ (xup σ 54 0 c (-1)) := Fr_up (by decide)
    have hx : qlq W c S (fun T => qvl W m f (c + 1) T) (qvl W m (f + 1) c S) m 0 = 7 ∨ qlq W c S (fun T => qvl W m f (c + 1) T) (qvl W m (f + 1) c S) m 0 < m := by
      rcases la with l | ⟨-, l, -⟩
      · exact Or.inl l
      · exact Or.inr (by omega)
    rw [b_M_findBest_8, xin (by decide) (by decide), show Int.toNat 3 = 3 from rfl, h.1, if_pos (by omega), xin (by omega) (by omega), xin (by decide) (by decide), show Int.toNat 2 = 2 from rfl, Int.toNat_natCast, xup_t (t' := 41) (by decide), h.2.1, xw (by omega) (by omega)]
    refine m_fb34 (σ0 := xup σ 54 0 c (-1)) (V := fun T => qvl W m f (c + 1) T) (v := qvl W m (f + 1) c S) hW n7 m7 hc hS (cv _ f0) (fun T hT => by rw [xup_t (by decide)]; exact hV T hT) (by rw [xup_t (by decide)]; exact hvs) (fun T => by have := qvl_b (m := m) hW f (c + 1) T; omega) (fun s g1 g2 g3 w3 w4 w5 => ?_) m 0 (by omega) _ _ _ Fr_refl (fun _ _ => rfl) (by rw [xup_s]; rfl)
    have g1' : Fr [54] σ s := Fr_trans f0 g1
    refine m_fb8 hW n7 m7 f (c + 1) _ (by omega) (qS_lt hS hx) _ _ _ s (cv s g1') (fun a ha T hT => by rw [g1' 52 (by decide)]; exact hv a ha T hT) (fun s2 k1 k2 k3 => hQ s2 (Fr_trans g1' k1) (fun i hi => by rw [k2 i (by omega), g2 i (by omega), xup_k (by omega)]) (fun i hi => ?_))
    cases i with
    | zero =>
      rw [Nat.add_zero, k2 c (by omega), g3]
      rfl
    | succ i =>
      rw [show c + (i + 1) = c + 1 + i by omega, k3 i (by omega)]
      rfl
theorem m_findBest {d n m : Nat} {W : Nat → Nat → Int} {Q : Int → xM → Prop} {σ : xM} (h : Mv σ W n m) (hW : qWok W) (n7 : n ≤ 7) (m7 : m ≤ 7) (hQ : ∀ s, Fr [52, 54] σ s → s 52 0 0 = qvl W m n 0 0 → (∀ i, i < n → s 54 0 i = dg ((qgl W m n 0 0).getD i 7)) → Q 0 s) : Ev (d + 1) 185 0 [vR 40 0, vR 0 0, vR 0 0, vR 0 0, vR 0 0, vR 0 0] [] σ Q := by
  rw [b_M_findBest_0]
  refine m_findValues h hW n7 m7 (fun s g1 g2 => ?_)
  refine m_fb8 hW n7 m7 n 0 0 (Nat.zero_add _) (Nat.two_pow_pos m) _ _ _ s ⟨by rw [g1 41 (by decide)]; exact h.1, by rw [g1 41 (by decide)]; exact h.2.1, fun a ha p hp => by rw [g1 53 (by decide)]; exact h.2.2 a ha p hp⟩ g2 (fun s2 k1 k2 k3 => hQ s2 (Fr_trans (Fr_mono g1 (by decide)) (Fr_mono k1 (by decide))) ?_ (fun i hi => ?_))
  · rw [k1 52 (by decide)]
    exact g2 0 (Nat.zero_le _) 0 (by decide)
  · have := k3 i hi
    rw [Nat.zero_add] at this
    exact this
/-- weights by worth -/
def qWw (R : Nat → Int) (c p : Nat) : Int := if qmy R c p = 0 then -1 else qwo R c (p : Int)
theorem qheld_rg {v lo hi : Int} (h : lo ≤ hi) : lo ≤ qheld v lo hi ∧ qheld v lo hi ≤ hi := by
  unfold qheld
  split
  · omega
  · split <;> omega
theorem qwo_rg (R : Nat → Int) (c : Nat) (p : Int) : 0 ≤ qwo R c p ∧ qwo R c p ≤ 99 := qheld_rg (by decide)
theorem qWw_ok (R : Nat → Int) : qWok (qWw R) := fun c p => by
  have := qwo_rg R c (p : Int)
  unfold qWw
  split <;> omega
theorem e_ww {d n m : Nat} {R : Nat → Int} {Q : Int → xM → Prop} (hv : xvl R) (h3 : R 3 = (n : Int)) (h2 : R 2 = (m : Int)) :
    ∀ f c : Nat, c + f = n → ∀ (w : xV) (σ : xM), Kp σ R → σ 19 0 0 = (n : Int) → σ 19 0 1 = (m : Int) → (∀ a, a < c → ∀ p, p < m → σ 21 a p = qWw R a p) → (∀ s, Fr [15, 21] σ s → Cw s (qWw R) n m → Q 0 s) → Ev (d + 4) 93 18 [vR 19 0, vR 5 0, vI (c : Int), w] [] σ Q
  | 0, c, e, w, σ, h, k1, k2, k3, hQ => by
    rw [b_A_weighByWorth_18, k1, if_neg (by omega)]
    exact hQ σ Fr_refl ⟨k1, k2, fun a ha p hp => k3 a (by omega) p hp⟩
  | f + 1, c, e, w, σ, h, k1, k2, k3, hQ => by
    have c0 := hv.2.1
    have p0 := hv.1
    rw [b_A_weighByWorth_18, k1, if_pos (by omega)]
    have inner : ∀ g p : Nat, p + g = m → ∀ s : xM, Fr [15, 21] σ s → (∀ a, a < c → ∀ q, q < m → s 21 a q = qWw R a q) → (∀ q, q < p → s 21 c q = qWw R c q) → Ev (d + 4) 93 28 [vR 19 0, vR 5 0, vI (c : Int), vI (p : Int)] [] s Q := by
      intro g
      induction g with
      | zero =>
        intro p ep s f1 l1 l2
        have hk := Kp_sc h f1 rfl
        rw [b_A_weighByWorth_28, f1 19 (by decide), k2, if_neg (by omega), xs1 (by omega)]
        refine e_ww hv h3 h2 f (c + 1) (by omega) _ s hk (by rw [f1 19 (by decide)]; exact k1) (by rw [f1 19 (by decide)]; exact k2) (fun a ha q hq => ?_) (fun s2 g1 g2 => hQ s2 (Fr_trans f1 g1) g2)
        by_cases ea : a = c
        · rw [ea]
          exact l2 q (by omega)
        · exact l1 a (by omega) q hq
      | succ g ih =>
        intro p ep s f1 l1 l2
        have hk := Kp_sc h f1 rfl
        rw [b_A_weighByWorth_28, f1 19 (by decide), k2, if_pos (by omega), xin (by omega) (by omega), e_may hk (by omega) (by omega), xs1 (by omega)]
        have step : ∀ (v : Int) (s2 : xM), Fr [15] s s2 → v = qWw R c p → Ev (d + 4) 93 28 [vR 19 0, vR 5 0, vI (c : Int), vI ((p + 1 : Nat) : Int)] [] (xup s2 21 c p v) Q := by
          intro v s2 f2 ev
          refine ih (p + 1) (by omega) _ (Fr_trans f1 (Fr_trans (Fr_mono f2 (by decide)) (Fr_up (by decide)))) (fun a ha q hq => ?_) (fun q hq => ?_)
          · rw [xup_i (by omega), f2 21 (by decide)]
            exact l1 a ha q hq
          · by_cases eq : q = p
            · rw [eq, xup_s, ev]
            · rw [xup_k eq, f2 21 (by decide)]
              exact l2 q (by omega)
        by_cases e0 : qmy R c p = 0
        · rw [if_pos e0, xin (by omega) (by omega), Int.toNat_natCast, Int.toNat_natCast]
          exact step _ s Fr_refl (by unfold qWw; rw [if_pos e0])
        · rw [if_neg e0]
          refine e_worth hk (by omega) (fun s2 f2 => ?_)
          rw [xin (by omega) (by omega), Int.toNat_natCast, Int.toNat_natCast]
          exact step _ s2 f2 (by unfold qWw; rw [if_neg e0])
    exact inner m 0 (Nat.zero_add _) σ Fr_refl k3 (fun q hq => absurd hq (by omega))
theorem e_weigh {d n m : Nat} {R : Nat → Int} {σ : xM} {Q : Int → xM → Prop} (h : Kp σ R) (h3 : R 3 = (n : Int)) (h2 : R 2 = (m : Int)) (hQ : ∀ s, Fr [15, 19, 21] σ s → Cw s (qWw R) n m → Q 0 s) : Ev (d + 4) 93 0 [vR 19 0, vR 5 0, vR 0 0, vR 0 0] [] σ Q := by
  rw [b_A_weighByWorth_0, xup_t (t' := 5) (by decide), Kp_chn h, Kp_parts h]
  refine e_ww h.1 h3 h2 n 0 (Nat.zero_add _) _ _ (Kp_sc h (Fr_trans (Fr_up (l := [19]) (by decide)) (Fr_up (by decide))) rfl) (by rw [xup_k (by decide), xup_s, h3]) (by rw [xup_s, h2]) (fun a ha => absurd ha (by omega)) (fun s g1 g2 => hQ s (Fr_trans (Fr_trans (Fr_up (by decide)) (Fr_up (by decide))) (Fr_mono g1 (by decide))) g2)
theorem m_ww {d n m : Nat} {R : Nat → Int} {Q : Int → xM → Prop} (hv : xvl R) (ht : Tk R) (h3 : R 3 = (n : Int)) (h2 : R 2 = (m : Int)) :
    ∀ f c : Nat, c + f = n → ∀ (w : xV) (σ : xM), σ 41 0 = R → (∀ a, a < c → ∀ p, p < m → σ 53 0 (7 * a + p) = qWw R a p) → (∀ s, Fr [50, 51, 53] σ s → Mv s (qWw R) n m → Q 0 s) → Ev (d + 4) 183 2 [vR 40 0, vI (c : Int), w] [] σ Q
  | 0, c, e, w, σ, h, k3, hQ => by
    rw [b_M_findWorths_2, xin (by decide) (by decide), show Int.toNat 3 = 3 from rfl, h, h3, if_neg (by omega)]
    exact hQ σ Fr_refl ⟨by rw [h, h3], by rw [h, h2], fun a ha p hp => k3 a (by omega) p hp⟩
  | f + 1, c, e, w, σ, h, k3, hQ => by
    have c0 := hv.2.1
    have p0 := hv.1
    rw [b_M_findWorths_2, xin (by decide) (by decide), show Int.toNat 3 = 3 from rfl, h, h3, if_pos (by omega)]
    have inner : ∀ g p : Nat, p + g = m → ∀ s : xM, Fr [50, 51, 53] σ s → (∀ a, a < c → ∀ q, q < m → s 53 0 (7 * a + q) = qWw R a q) → (∀ q, q < p → s 53 0 (7 * c + q) = qWw R c q) → Ev (d + 4) 183 14 [vR 40 0, vI (c : Int), vI (p : Int)] [] s Q := by
      intro g
      induction g with
      | zero =>
        intro p ep s f1 l1 l2
        have e41 : s 41 0 = R := by rw [f1 41 (by decide), h]
        rw [b_M_findWorths_14, xin (by decide) (by decide), show Int.toNat 2 = 2 from rfl, e41, h2, if_neg (by omega), xs1 (by omega)]
        refine m_ww hv ht h3 h2 f (c + 1) (by omega) _ s e41 (fun a ha q hq => ?_) (fun s2 g1 g2 => hQ s2 (Fr_trans f1 g1) g2)
        by_cases ea : a = c
        · rw [ea]
          exact l2 q (by omega)
        · exact l1 a (by omega) q hq
      | succ g ih =>
        intro p ep s f1 l1 l2
        have e41 : s 41 0 = R := by rw [f1 41 (by decide), h]
        rw [b_M_findWorths_14, xin (by decide) (by decide), show Int.toNat 2 = 2 from rfl, e41, h2, if_pos (by omega), m_may (by rw [e41]; exact hv) (by rw [e41]; omega) (by rw [e41]; omega), e41, x7c (by omega) (by omega), xs1 (by omega)]
        have step : ∀ (v : Int) (s2 : xM), Fr [50, 51] s s2 → v = qWw R c p → Ev (d + 4) 183 14 [vR 40 0, vI (c : Int), vI ((p + 1 : Nat) : Int)] [] (xup s2 53 0 (7 * c + p) v) Q := by
          intro v s2 f2 ev
          refine ih (p + 1) (by omega) _ (Fr_trans f1 (Fr_trans (Fr_mono f2 (by decide)) (Fr_up (by decide)))) (fun a ha q hq => ?_) (fun q hq => ?_)
          · rw [xup_k (by omega), f2 53 (by decide)]
            exact l1 a ha q hq
          · by_cases eq : q = p
            · rw [eq, xup_s, ev]
            · rw [xup_k (by omega), f2 53 (by decide)]
              exact l2 q (by omega)
        by_cases e0 : qmy R c p = 0
        · rw [if_pos e0, xin (by omega) (by omega), Int.toNat_natCast]
          exact step _ s Fr_refl (by unfold qWw; rw [if_pos e0])
        · rw [if_neg e0]
          refine m_worth (by rw [e41]; exact ht.1) (by omega) (fun s2 f2 => ?_)
          rw [xin (by omega) (by omega), Int.toNat_natCast, e41]
          exact step _ s2 f2 (by unfold qWw; rw [if_neg e0])
    exact inner m 0 (Nat.zero_add _) σ Fr_refl k3 (fun q hq => absurd hq (by omega))
theorem m_findWorths {d n m : Nat} {R : Nat → Int} {σ : xM} {Q : Int → xM → Prop} (h : σ 41 0 = R) (hv : xvl R) (ht : Tk R) (h3 : R 3 = (n : Int)) (h2 : R 2 = (m : Int)) (hQ : ∀ s, Fr [50, 51, 53] σ s → Mv s (qWw R) n m → Q 0 s) : Ev (d + 4) 183 0 [vR 40 0, vR 0 0, vR 0 0] [] σ Q := by
  rw [b_M_findWorths_0]
  exact m_ww hv ht h3 h2 n 0 (Nat.zero_add _) _ σ h (fun a ha => absurd ha (by omega)) hQ
theorem Cw_Fr {σ s : xM} {W : Nat → Nat → Int} {n m : Nat} {l : List Nat} (h : Cw σ W n m) (f : Fr l σ s) (h1 : l.elem 19 = false) (h2 : l.elem 21 = false) : Cw s W n m := by
  have e1 : s 19 = σ 19 := f 19 (fun q => by rw [List.elem_eq_true_of_mem q] at h1; cases h1)
  have e2 : s 21 = σ 21 := f 21 (fun q => by rw [List.elem_eq_true_of_mem q] at h2; cases h2)
  unfold Cw at h ⊢
  rw [e1, e2]
  exact h
theorem call_best {d : Nat} {σ : xM} (h : Inv σ) (x : Int) : Ev (d + 9) m_P_best 0 [vR 4 0, vI x] [] σ (fun r s => Ev (d + 9) m_M_best 0 [vR 40 0, vI x] [] s (fun r' s' => r = r' ∧ Inv s')) := by
  have hk := Inv_Kp h
  obtain ⟨m, hm, m7⟩ := xvl_p h.1
  obtain ⟨n, hn, n7⟩ := xvl_c h.1
  rw [b_P_best_0, e_isWithin]
  simp only [xbc]
  by_cases hx : -1 ≤ x ∧ x ≤ 6
  · rw [if_neg (fun q => q hx), Kp_chn hk, hn]
    by_cases hc : x < (n : Int)
    · rw [if_pos hc]
      refine e_weigh hk hn hm (fun s1 f1 g1 => ?_)
      refine e_workOut2 g1 (qWw_ok _) n7 m7 (fun s2 f2 g2 => ?_)
      have f12 : Fr qSc σ s2 := Fr_trans (Fr_mono f1 (by decide)) (Fr_mono f2 (by decide))
      have md : ∀ (s : xM) (r : Int), Fr qSc σ s → (x < 0 → r = qvl (qWw (σ 41 0)) m n 0 0) → (0 ≤ x → r = dg ((qgl (qWw (σ 41 0)) m n 0 0).getD x.toNat 7)) → Ev (d + 9) m_M_best 0 [vR 40 0, vI x] [] s (fun r' s' => r = r' ∧ Inv s') := by
        intro s r f0 r1 r2
        have e41 : s 41 = σ 41 := f0 41 (by decide)
        have hs := Inv_Fr h f0
        rw [b_M_best_0, e_in]
        simp only [xbc]
        rw [if_neg (fun q => q hx), xin (by decide) (by decide), show Int.toNat 3 = 3 from rfl, e41, hn, if_pos hc]
        refine m_findWorths (R := σ 41 0) (by rw [e41]) h.1 (Kp_Tk hk) hn hm (fun t1 k1 l1 => ?_)
        refine m_findBest l1 (qWw_ok _) n7 m7 (fun t2 k2 l2 l3 => ?_)
        have ht := Inv_Fr hs (Fr_trans (Fr_mono k1 (by decide)) (Fr_mono k2 (by decide)))
        by_cases x0 : x < 0
        · rw [if_pos x0, xin (by decide) (by decide), show Int.toNat 0 = 0 from rfl, l2]
          exact ⟨r1 x0, ht⟩
        · rw [if_neg x0, xin (by omega) (by omega), l3 x.toNat (by omega)]
          exact ⟨r2 (by omega), ht⟩
      by_cases x0 : x < 0
      · rw [if_pos x0, b_A_mostWithout_0, xin (by decide) (by decide), xin (by decide) (by decide), show Int.toNat 0 = 0 from rfl, g2 0 (Nat.zero_le _) 0 (Nat.two_pow_pos m)]
        exact md _ _ f12 (fun _ => rfl) (fun q => by omega)
      · rw [if_neg x0]
        refine e_assign (T0 := 0) (Cw_Fr g1 f2 rfl rfl) (qWw_ok _) n7 m7 (Nat.two_pow_pos m) g2 (fun s3 f3 g3 => ?_)
        rw [xin (by omega) (by omega), g3 x.toNat (by omega)]
        exact md _ _ (Fr_trans f12 (Fr_mono f3 (by decide))) (fun q => absurd q x0) (fun _ => rfl)
    · rw [if_neg hc, e_fail2, b_M_best_0, e_in]
      simp only [xbc]
      rw [if_neg (fun q => q hx), xin (by decide) (by decide), show Int.toNat 3 = 3 from rfl, x39, hn, if_neg hc]
      exact fin2 h
  · rw [if_pos hx, e_fail1, b_M_best_0, e_in]
    simp only [xbc]
    rw [if_pos hx]
    exact fin1 h
