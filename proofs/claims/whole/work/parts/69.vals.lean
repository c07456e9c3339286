/-! the best cast: what sets come to -/
def qf (W : Nat → Nat → Int) (c S p : Nat) : Bool := !(Nat.testBit S p) && decide (0 ≤ W c p)
def qmx (W : Nat → Nat → Int) (c S : Nat) (V : Nat → Int) : Nat → Nat → Int → Int
  | 0, _, b => b
  | f + 1, p, b => qmx W c S V f (p + 1) (if qf W c S p = true then (if b < W c p + V (S ||| 2 ^ p) then W c p + V (S ||| 2 ^ p) else b) else b)
def qvl (W : Nat → Nat → Int) (m : Nat) : Nat → Nat → Nat → Int
  | 0, _, _ => 0
  | f + 1, c, S => qmx W c S (fun T => qvl W m f (c + 1) T) m 0 (qvl W m f (c + 1) S)
theorem qmx_ge {W : Nat → Nat → Int} {c S : Nat} {V : Nat → Int} : ∀ f p (b : Int), b ≤ qmx W c S V f p b
  | 0, p, b => Int.le_refl _
  | f + 1, p, b => by
    refine Int.le_trans ?_ (qmx_ge f (p + 1) _)
    split
    · split <;> omega
    · omega
theorem qmx_le {W : Nat → Nat → Int} {c S : Nat} {V : Nat → Int} : ∀ f p (b B : Int), b ≤ B → (∀ q, p ≤ q → q < p + f → qf W c S q = true → W c q + V (S ||| 2 ^ q) ≤ B) → qmx W c S V f p b ≤ B
  | 0, p, b, B, h, _ => h
  | f + 1, p, b, B, h, g => by
    refine qmx_le f (p + 1) _ B ?_ (fun q h1 h2 h3 => g q (by omega) (by omega) h3)
    by_cases e : qf W c S p = true
    · rw [if_pos e]
      have := g p (by omega) (by omega) e
      split <;> omega
    · rw [if_neg e]
      exact h
theorem qmx_in {W : Nat → Nat → Int} {c S : Nat} {V : Nat → Int} : ∀ f p (b : Int) q, p ≤ q → q < p + f → qf W c S q = true → W c q + V (S ||| 2 ^ q) ≤ qmx W c S V f p b
  | 0, p, b, q, h1, h2, _ => by omega
  | f + 1, p, b, q, h1, h2, h3 => by
    by_cases e : q = p
    · subst e
      refine Int.le_trans ?_ (qmx_ge f (q + 1) _)
      rw [if_pos h3]
      split <;> omega
    · exact qmx_in f (p + 1) _ q (by omega) (by omega) h3
theorem qmx_at {W : Nat → Nat → Int} {c S : Nat} {V : Nat → Int} : ∀ f p (b : Int), qmx W c S V f p b = b ∨ ∃ q, p ≤ q ∧ q < p + f ∧ qf W c S q = true ∧ qmx W c S V f p b = W c q + V (S ||| 2 ^ q)
  | 0, p, b => Or.inl rfl
  | f + 1, p, b => by
    show qmx W c S V f (p + 1) _ = b ∨ ∃ q, p ≤ q ∧ q < p + (f + 1) ∧ qf W c S q = true ∧ qmx W c S V f (p + 1) _ = W c q + V (S ||| 2 ^ q)
    by_cases e : qf W c S p = true
    · by_cases e2 : b < W c p + V (S ||| 2 ^ p)
      · rw [if_pos e, if_pos e2]
        rcases qmx_at (W := W) (c := c) (S := S) (V := V) f (p + 1) (W c p + V (S ||| 2 ^ p)) with h | ⟨q, h1, h2, h3, h4⟩
        · exact Or.inr ⟨p, by omega, by omega, e, h⟩
        · exact Or.inr ⟨q, by omega, by omega, h3, h4⟩
      · rw [if_pos e, if_neg e2]
        rcases qmx_at (W := W) (c := c) (S := S) (V := V) f (p + 1) b with h | ⟨q, h1, h2, h3, h4⟩
        · exact Or.inl h
        · exact Or.inr ⟨q, by omega, by omega, h3, h4⟩
    · rw [if_neg e]
      rcases qmx_at (W := W) (c := c) (S := S) (V := V) f (p + 1) b with h | ⟨q, h1, h2, h3, h4⟩
      · exact Or.inl h
      · exact Or.inr ⟨q, by omega, by omega, h3, h4⟩
def qWok (W : Nat → Nat → Int) : Prop := ∀ c p, (W c p = -1 ∨ 0 ≤ W c p) ∧ W c p ≤ 99
theorem qvl_b {W : Nat → Nat → Int} {m : Nat} (h : qWok W) : ∀ f c S, 0 ≤ qvl W m f c S ∧ qvl W m f c S ≤ 99 * (f : Int)
  | 0, _, _ => ⟨Int.le_refl _, Int.le_refl _⟩
  | f + 1, c, S => by
    obtain ⟨i1, i2⟩ := qvl_b (m := m) h f (c + 1) S
    show 0 ≤ qmx W c S (fun T => qvl W m f (c + 1) T) m 0 (qvl W m f (c + 1) S) ∧ qmx W c S (fun T => qvl W m f (c + 1) T) m 0 (qvl W m f (c + 1) S) ≤ 99 * ((f + 1 : Nat) : Int)
    refine ⟨Int.le_trans i1 (qmx_ge _ _ _), qmx_le _ _ _ _ (by omega) (fun q _ _ _ => ?_)⟩
    have := (qvl_b (m := m) h f (c + 1) (S ||| 2 ^ q)).2
    have := (h c q).2
    show W c q + qvl W m f (c + 1) (S ||| 2 ^ q) ≤ _
    omega
theorem or_lt {S p m : Nat} (hS : S < 2 ^ m) (hp : p < m) : S ||| 2 ^ p < 2 ^ m := Nat.or_lt_two_pow hS (Nat.pow_lt_pow_right (by decide) hp)
theorem pw7 {S m : Nat} (h : S < 2 ^ m) (hm : m ≤ 7) : S < 128 := Nat.lt_of_lt_of_le h (show 2 ^ m ≤ 2 ^ 7 from Nat.pow_le_pow_right (by decide) hm)
/-- the class's weights -/
def Cw (σ : xM) (W : Nat → Nat → Int) (n m : Nat) : Prop := σ 19 0 0 = (n : Int) ∧ σ 19 0 1 = (m : Int) ∧ ∀ c, c < n → ∀ p, p < m → σ 21 c p = W c p
theorem e_isFree {d n m c p S : Nat} {σ : xM} {W : Nat → Nat → Int} {Q : Int → xM → Prop} (h : Cw σ W n m) (hW : qWok W) (n7 : n ≤ 7) (m7 : m ≤ 7) (hc : c < n) (hp : p < m) (hS : S < 128) : Ev d 98 0 [vR 19 0, vI (c : Int), vI (p : Int), vI (S : Int)] [] σ Q = Q (if qf W c S p = true then 1 else 0) σ := by
  have hw := (hW c p).1
  rw [b_A_isFree_0, xq_bit S hS p (by omega), xin (by omega) (by omega), xin (by omega) (by omega), Int.toNat_natCast, Int.toNat_natCast, h.2.2 c hc p hp]
  unfold qf
  by_cases hb : Nat.testBit S p = true
  · rw [if_pos hb, if_neg (by decide), hb, xz0, if_neg (by simp)]
  · have hb' : Nat.testBit S p = false := by simpa using hb
    rw [if_neg hb, if_pos rfl, hb']
    by_cases e : W c p = -1
    · rw [if_pos e, xz0, if_neg (by simp; omega)]
    · rw [if_neg e, xz1, if_pos (by simp; omega)]
theorem e_comes {d n m c p S : Nat} {σ : xM} {W : Nat → Nat → Int} {V : Nat → Int} {Q : Int → xM → Prop} (h : Cw σ W n m) (n7 : n ≤ 7) (m7 : m ≤ 7) (hc : c < n) (hp : p < m) (hS : S < 2 ^ m) (hV : ∀ T, T < 2 ^ m → σ 23 (c + 1) T = V T) (hb : 0 ≤ W c p + V (S ||| 2 ^ p) ∧ W c p + V (S ||| 2 ^ p) < 100000) : Ev d 99 0 [vR 19 0, vI (c : Int), vI (p : Int), vI (S : Int)] [] σ Q = Q (W c p + V (S ||| 2 ^ p)) σ := by
  have hS7 := pw7 hS m7
  have hSo := pw7 (or_lt hS hp) m7
  rw [b_A_comesTo_0, xs1 (by omega), xq_ors S hS7 p (by omega), xin (by omega) (by omega), xin (by omega) (by omega), xin (by omega) (by omega), xin (by omega) (by omega), Int.toNat_natCast, Int.toNat_natCast, Int.toNat_natCast, Int.toNat_natCast, h.2.2 c hc p hp, hV _ (or_lt hS hp), xw (by omega) (by omega)]
theorem e_mostFrom {d n m c S : Nat} {σ : xM} {W : Nat → Nat → Int} {V : Nat → Int} {Q : Int → xM → Prop} (h : Cw σ W n m) (hW : qWok W) (n7 : n ≤ 7) (m7 : m ≤ 7) (hc : c < n) (hS : S < 2 ^ m) (hV : ∀ T, T < 2 ^ m → σ 23 (c + 1) T = V T) (hVb : ∀ T, 0 ≤ V T ∧ V T ≤ 693) : ∀ f p : Nat, p + f = m → ∀ b : Int, Ev (d + 1) 97 14 [vR 19 0, vI (c : Int), vI (S : Int), vI b, vI (p : Int)] [] σ Q = Q (qmx W c S V f p b) σ
  | 0, p, e, b => by
    rw [b_A_mostFrom_14, h.2.1, if_neg (by omega)]
    rfl
  | f + 1, p, e, b => by
    have hS7 := pw7 hS m7
    have hw := hW c p
    have hv := hVb (S ||| 2 ^ p)
    show _ = Q (qmx W c S V f (p + 1) (if qf W c S p = true then (if b < W c p + V (S ||| 2 ^ p) then W c p + V (S ||| 2 ^ p) else b) else b)) σ
    rw [b_A_mostFrom_14, h.2.1, if_pos (by omega), e_isFree h hW n7 m7 hc (by omega) hS7, xs1 (by omega)]
    by_cases q : qf W c S p = true
    · have h0 : 0 ≤ W c p := by
        unfold qf at q
        simp at q
        exact q.2
      rw [if_pos q, if_neg (by decide), e_comes h n7 m7 hc (by omega) hS hV (by omega), if_pos q]
      exact e_mostFrom h hW n7 m7 hc hS hV hVb f (p + 1) (by omega) _
    · rw [if_neg q, if_pos rfl, if_neg q]
      exact e_mostFrom h hW n7 m7 hc hS hV hVb f (p + 1) (by omega) _
theorem e_wo45 {d n m c : Nat} {W : Nat → Nat → Int} {Q : Int → xM → Prop} (hW : qWok W) (n7 : n ≤ 7) (m7 : m ≤ 7) (hc : c < n) : ∀ f S : Nat, S + f = 2 ^ m → ∀ σ : xM, Cw σ W n m → (∀ T, T < 2 ^ m → σ 23 (c + 1) T = qvl W m (n - (c + 1)) (c + 1) T) → (∀ T, T < S → σ 23 c T = qvl W m (n - c) c T) → (∀ s, Fr [23] σ s → (∀ i, i ≠ c → s 23 i = σ 23 i) → (∀ T, T < 2 ^ m → s 23 c T = qvl W m (n - c) c T) → ∀ w, Ev (d + 2) 96 39 [vR 19 0, vI ((2 ^ m : Nat) : Int), vI ((c : Int) - 1), w] [] s Q) → Ev (d + 2) 96 45 [vR 19 0, vI ((2 ^ m : Nat) : Int), vI (c : Int), vI (S : Int)] [] σ Q
  | 0, S, e, σ, h, h1, h2, hQ => by
    rw [b_A_workOut_45, if_neg (by omega), show xwr ((c : Int) + -1) = (c : Int) - 1 from xw (by omega) (by omega)]
    exact hQ σ Fr_refl (fun _ _ => rfl) (fun T hT => h2 T (by omega)) _
  | f + 1, S, e, σ, h, h1, h2, hQ => by
    have hS : S < 2 ^ m := by omega
    have hS7 := pw7 hS m7
    have ef : n - c = (n - (c + 1)) + 1 := by omega
    have eV : qvl W m (n - c) c S = qmx W c S (fun T => qvl W m (n - (c + 1)) (c + 1) T) m 0 (qvl W m (n - (c + 1)) (c + 1) S) := by rw [ef]; rfl
    rw [b_A_workOut_45, if_pos (by omega), xin (by omega) (by omega), b_A_mostFrom_0, xs1 (by omega), xin (by omega) (by omega), xin (by omega) (by omega), Int.toNat_natCast, Int.toNat_natCast, h1 S hS]
    refine (e_mostFrom h hW n7 m7 hc hS h1 (fun T => by have := qvl_b (m := m) hW (n - (c + 1)) (c + 1) T; omega) m 0 (Nat.zero_add _) _).mpr ?_
    rw [← eV, xin (by omega) (by omega), Int.toNat_natCast, xs1 (by omega)]
    refine e_wo45 hW n7 m7 hc f (S + 1) (by omega) _ ⟨by rw [xup_t (by decide)]; exact h.1, by rw [xup_t (by decide)]; exact h.2.1, fun a ha p hp => by rw [xup_t (by decide)]; exact h.2.2 a ha p hp⟩ (fun T hT => by rw [xup_i (by omega)]; exact h1 T hT) (fun T hT => ?_) (fun s g1 g2 g3 => hQ s (Fr_trans (Fr_up (by decide)) g1) (fun i hi => by rw [g2 i hi, xup_i hi]) g3)
    by_cases eT : T = S
    · rw [eT, xup_s]
    · rw [xup_k eT]
      exact h2 T (by omega)
theorem e_wo39 {d n m : Nat} {W : Nat → Nat → Int} {Q : Int → xM → Prop} {σ0 : xM} (hW : qWok W) (n7 : n ≤ 7) (m7 : m ≤ 7) (hQ : ∀ s, Fr [23] σ0 s → (∀ c, c ≤ n → ∀ T, T < 2 ^ m → s 23 c T = qvl W m (n - c) c T) → Q 0 s) : ∀ c : Nat, c ≤ n → ∀ (σ : xM) (w : xV), Fr [23] σ0 σ → Cw σ W n m → (∀ a, c ≤ a → a ≤ n → ∀ T, T < 2 ^ m → σ 23 a T = qvl W m (n - a) a T) → Ev (d + 2) 96 39 [vR 19 0, vI ((2 ^ m : Nat) : Int), vI ((c : Int) - 1), w] [] σ Q
  | 0, hc, σ, w, hf, h, h1 => by
    rw [b_A_workOut_39, if_pos (by decide)]
    exact hQ σ hf (fun c hc T hT => h1 c (Nat.zero_le _) hc T hT)
  | c + 1, hc, σ, w, hf, h, h1 => by
    rw [show ((c + 1 : Nat) : Int) - 1 = (c : Int) by omega, b_A_workOut_39, if_neg (by omega)]
    refine e_wo45 (c := c) hW n7 m7 (by omega) (2 ^ m) 0 (Nat.zero_add _) σ h (h1 (c + 1) (by omega) hc) (fun T hT => absurd hT (by omega)) (fun s g1 g2 g3 w => ?_)
    refine e_wo39 hW n7 m7 hQ c (by omega) s w (Fr_trans hf g1) ⟨by rw [g1 19 (by decide)]; exact h.1, by rw [g1 19 (by decide)]; exact h.2.1, fun a ha p hp => by rw [g1 21 (by decide)]; exact h.2.2 a ha p hp⟩ (fun a h2 h3 T hT => ?_)
    by_cases ea : a = c
    · subst ea
      exact g3 T hT
    · rw [g2 a ea]
      exact h1 a (by omega) h3 T hT
theorem e_wo9 {d n m : Nat} {W : Nat → Nat → Int} {Q : Int → xM → Prop} {σ0 : xM} (hW : qWok W) (n7 : n ≤ 7) (m7 : m ≤ 7) (hQ : ∀ s, Fr [23] σ0 s → (∀ c, c ≤ n → ∀ T, T < 2 ^ m → s 23 c T = qvl W m (n - c) c T) → Q 0 s) : ∀ f S : Nat, S + f = 2 ^ m → ∀ (σ : xM) (w : xV), Fr [23] σ0 σ → Cw σ W n m → (∀ T, T < S → σ 23 n T = 0) → Ev (d + 2) 96 9 [vR 19 0, vI ((2 ^ m : Nat) : Int), vI (S : Int), w] [] σ Q
  | 0, S, e, σ, w, hf, h, h1 => by
    rw [b_A_workOut_9, if_neg (by omega), h.1, xw (by omega) (by omega)]
    refine e_wo39 hW n7 m7 hQ n (Nat.le_refl _) σ w hf h (fun a h2 h3 T hT => ?_)
    have : a = n := by omega
    subst this
    rw [h1 T (by omega), Nat.sub_self]
    rfl
  | f + 1, S, e, σ, w, hf, h, h1 => by
    have hS7 := pw7 (show S < 2 ^ m by omega) m7
    rw [b_A_workOut_9, if_pos (by omega), h.1, xin (by omega) (by omega), xin (by omega) (by omega), Int.toNat_natCast, Int.toNat_natCast, xs1 (by omega)]
    refine e_wo9 hW n7 m7 hQ f (S + 1) (by omega) _ w (Fr_trans hf (Fr_up (by decide))) ⟨by rw [xup_t (by decide)]; exact h.1, by rw [xup_t (by decide)]; exact h.2.1, fun a ha p hp => by rw [xup_t (by decide)]; exact h.2.2 a ha p hp⟩ (fun T hT => ?_)
    by_cases eT : T = S
    · rw [eT, xup_s]
    · rw [xup_k eT]
      exact h1 T (by omega)
theorem xshl1 : ∀ m : Nat, m ≤ 7 → xshl 1 (m : Int) = ((2 ^ m : Nat) : Int) := by decide +kernel
theorem e_workOut2 {d n m : Nat} {W : Nat → Nat → Int} {Q : Int → xM → Prop} {σ : xM} (h : Cw σ W n m) (hW : qWok W) (n7 : n ≤ 7) (m7 : m ≤ 7) (hQ : ∀ s, Fr [23] σ s → (∀ c, c ≤ n → ∀ T, T < 2 ^ m → s 23 c T = qvl W m (n - c) c T) → Q 0 s) : Ev (d + 2) 96 0 [vR 19 0, vR 0 0, vR 0 0, vR 0 0] [] σ Q := by
  rw [b_A_workOut_0, h.2.1, xshl1 m m7]
  exact e_wo9 hW n7 m7 hQ (2 ^ m) 0 (Nat.zero_add _) σ _ Fr_refl h (fun T hT => absurd hT (by omega))
/-- the reference's -/
def Mv (σ : xM) (W : Nat → Nat → Int) (n m : Nat) : Prop := σ 41 0 3 = (n : Int) ∧ σ 41 0 2 = (m : Int) ∧ ∀ c, c < n → ∀ p, p < m → σ 53 0 (7 * c + p) = W c p
theorem x7c {c p : Nat} (hc : c < 7) (hp : p < 7) : xwr (xwr (7 * (c : Int)) + (p : Int)) = ((7 * c + p : Nat) : Int) := by
  rw [xw (x := 7 * (c : Int)) (by omega) (by omega), xw (by omega) (by omega)]
  omega
theorem x128 {c S : Nat} (hc : c < 8) (hS : S < 128) : xwr (xwr (128 * (c : Int)) + (S : Int)) = ((128 * c + S : Nat) : Int) := by
  rw [xw (x := 128 * (c : Int)) (by omega) (by omega), xw (by omega) (by omega)]
  omega
theorem m_fv71 {d n m c S : Nat} {σ : xM} {W : Nat → Nat → Int} {V : Nat → Int} {Q : Int → xM → Prop} {x1 : Int} (h : Mv σ W n m) (hW : qWok W) (n7 : n ≤ 7) (m7 : m ≤ 7) (hc : c < n) (hS : S < 128) (hV : ∀ T, T < 128 → σ 52 0 (128 * (c + 1) + T) = V T) (hVb : ∀ T, 0 ≤ V T ∧ V T ≤ 693) : ∀ f p : Nat, p + f = m → ∀ (b : Int) (w6 w7 : xV), 0 ≤ b → (∀ (w4 w5 w6 w7 : xV), Ev d 184 45 [vR 40 0, vI x1, vI (c : Int), vI ((S + 1 : Nat) : Int), w4, w5, w6, w7] [] (xup σ 52 0 (128 * c + S) (qmx W c S V f p b)) Q) → Ev d 184 71 [vR 40 0, vI x1, vI (c : Int), vI (S : Int), vI b, vI (p : Int), w6, w7] [] σ Q
  | 0, p, e, b, w6, w7, hb, hQ => by
    rw [b_M_findValues_71, xin (by decide) (by decide), show Int.toNat 2 = 2 from rfl, h.2.1, if_neg (by omega), x128 (by omega) hS, xin (by omega) (by omega), Int.toNat_natCast, xs1 (by omega)]
    exact hQ _ _ _ _
  | f + 1, p, e, b, w6, w7, hb, hQ => by
    have hw := hW c p
    have hv := hVb (S ||| 2 ^ p)
    have hSo : S ||| 2 ^ p < 128 := or_lt (m := 7) hS (by omega)
    have eq : qmx W c S V (f + 1) p b = qmx W c S V f (p + 1) (if qf W c S p = true then (if b < W c p + V (S ||| 2 ^ p) then W c p + V (S ||| 2 ^ p) else b) else b) := rfl
    rw [eq] at hQ
    rw [b_M_findValues_71, xin (by decide) (by decide), show Int.toNat 2 = 2 from rfl, h.2.1, if_pos (by omega), xq_bit S hS p (by omega)]
    by_cases hbt : Nat.testBit S p = true
    · have q : ¬ qf W c S p = true := by unfold qf; rw [hbt]; simp
      rw [if_neg q] at hQ
      rw [if_pos hbt, if_neg (by decide), if_pos rfl, if_neg (by omega), xs1 (c := p) (by omega)]
      exact m_fv71 h hW n7 m7 hc hS hV hVb f (p + 1) (by omega) b _ _ hb hQ
    · have hbf : Nat.testBit S p = false := by simpa using hbt
      rw [if_neg hbt, if_pos rfl, x7c (by omega) (by omega), xin (by omega) (by omega), Int.toNat_natCast, h.2.2 c hc p (by omega)]
      by_cases hw0 : W c p < 0
      · have q : ¬ qf W c S p = true := by unfold qf; rw [hbf]; simp; omega
        rw [if_neg q] at hQ
        rw [if_pos hw0, if_pos rfl, if_neg (by omega), xs1 (c := p) (by omega)]
        exact m_fv71 h hW n7 m7 hc hS hV hVb f (p + 1) (by omega) b _ _ hb hQ
      · have q : qf W c S p = true := by unfold qf; rw [hbf]; simp; omega
        rw [if_pos q] at hQ
        rw [if_neg hw0, if_neg (by decide), xs1 (c := c) (by omega), xq_ors S hS p (by omega), x128 (by omega) hSo, xin (by omega) (by omega), xin (by omega) (by omega), Int.toNat_natCast, hV _ hSo, xw (x := W c p + V (S ||| 2 ^ p)) (by omega) (by omega), xs1 (c := p) (by omega)]
        by_cases e2 : b < W c p + V (S ||| 2 ^ p)
        · rw [if_pos e2] at hQ ⊢
          exact m_fv71 h hW n7 m7 hc hS hV hVb f (p + 1) (by omega) _ _ _ (by omega) hQ
        · rw [if_neg e2] at hQ ⊢
          exact m_fv71 h hW n7 m7 hc hS hV hVb f (p + 1) (by omega) b _ _ hb hQ
theorem m_fv45 {d n m c : Nat} {W : Nat → Nat → Int} {Q : Int → xM → Prop} {x1 : Int} (hW : qWok W) (n7 : n ≤ 7) (m7 : m ≤ 7) (hc : c < n) : ∀ f S : Nat, S + f = 128 → ∀ (σ : xM) (w4 w5 w6 w7 : xV), Mv σ W n m → (∀ T, T < 128 → σ 52 0 (128 * (c + 1) + T) = qvl W m (n - (c + 1)) (c + 1) T) → (∀ T, T < S → σ 52 0 (128 * c + T) = qvl W m (n - c) c T) → (∀ s, Fr [52] σ s → (∀ j, (j < 128 * c ∨ 128 * c + 128 ≤ j) → s 52 0 j = σ 52 0 j) → (∀ T, T < 128 → s 52 0 (128 * c + T) = qvl W m (n - c) c T) → ∀ w3 w4 w5 w6 w7, Ev d 184 39 [vR 40 0, vI x1, vI ((c : Int) - 1), w3, w4, w5, w6, w7] [] s Q) → Ev d 184 45 [vR 40 0, vI x1, vI (c : Int), vI (S : Int), w4, w5, w6, w7] [] σ Q
  | 0, S, e, σ, w4, w5, w6, w7, h, h1, h2, hQ => by
    rw [b_M_findValues_45, if_neg (by omega), show xwr ((c : Int) + -1) = (c : Int) - 1 from xw (by omega) (by omega)]
    exact hQ σ Fr_refl (fun _ _ => rfl) (fun T hT => h2 T (by omega)) _ _ _ _ _
  | f + 1, S, e, σ, w4, w5, w6, w7, h, h1, h2, hQ => by
    have hS : S < 128 := by omega
    have ef : n - c = (n - (c + 1)) + 1 := by omega
    have eV : qvl W m (n - c) c S = qmx W c S (fun T => qvl W m (n - (c + 1)) (c + 1) T) m 0 (qvl W m (n - (c + 1)) (c + 1) S) := by rw [ef]; rfl
    have vb := qvl_b (m := m) hW (n - (c + 1)) (c + 1) S
    rw [b_M_findValues_45, if_pos (by omega), xs1 (c := c) (by omega), x128 (by omega) hS, xin (by omega) (by omega), Int.toNat_natCast, h1 S hS]
    refine m_fv71 h hW n7 m7 hc hS h1 (fun T => by have := qvl_b (m := m) hW (n - (c + 1)) (c + 1) T; omega) m 0 (Nat.zero_add _) _ _ _ vb.1 (fun w4 w5 w6 w7 => ?_)
    rw [← eV]
    refine m_fv45 hW n7 m7 hc f (S + 1) (by omega) _ _ _ _ _ ⟨by rw [xup_t (by decide)]; exact h.1, by rw [xup_t (by decide)]; exact h.2.1, fun a ha p hp => by rw [xup_t (by decide)]; exact h.2.2 a ha p hp⟩ (fun T hT => by rw [xup_k (by omega)]; exact h1 T hT) (fun T hT => ?_) (fun s g1 g2 g3 => hQ s (Fr_trans (Fr_up (by decide)) g1) (fun j hj => by rw [g2 j hj, xup_k (by omega)]) g3)
    by_cases eT : T = S
    · rw [eT, xup_s]
    · rw [xup_k (by omega)]
      exact h2 T (by omega)
theorem m_fv39 {d n m : Nat} {W : Nat → Nat → Int} {Q : Int → xM → Prop} {x1 : Int} {σ0 : xM} (hW : qWok W) (n7 : n ≤ 7) (m7 : m ≤ 7) (hQ : ∀ s, Fr [52] σ0 s → (∀ c, c ≤ n → ∀ T, T < 128 → s 52 0 (128 * c + T) = qvl W m (n - c) c T) → Q 0 s) : ∀ c : Nat, c ≤ n → ∀ (σ : xM) (w3 w4 w5 w6 w7 : xV), Fr [52] σ0 σ → Mv σ W n m → (∀ a, c ≤ a → a ≤ n → ∀ T, T < 128 → σ 52 0 (128 * a + T) = qvl W m (n - a) a T) → Ev d 184 39 [vR 40 0, vI x1, vI ((c : Int) - 1), w3, w4, w5, w6, w7] [] σ Q
  | 0, hc, σ, w3, w4, w5, w6, w7, hf, h, h1 => by
    rw [b_M_findValues_39, if_pos (by decide)]
    exact hQ σ hf (fun c hc T hT => h1 c (Nat.zero_le _) hc T hT)
  | c + 1, hc, σ, w3, w4, w5, w6, w7, hf, h, h1 => by
    rw [show ((c + 1 : Nat) : Int) - 1 = (c : Int) by omega, b_M_findValues_39, if_neg (by omega)]
    refine m_fv45 (c := c) hW n7 m7 (by omega) 128 0 (by decide) σ _ _ _ _ h (h1 (c + 1) (by omega) hc) (fun T hT => absurd hT (by omega)) (fun s g1 g2 g3 w3 w4 w5 w6 w7 => ?_)
    refine m_fv39 hW n7 m7 hQ c (by omega) s _ _ _ _ _ (Fr_trans hf g1) ⟨by rw [g1 41 (by decide)]; exact h.1, by rw [g1 41 (by decide)]; exact h.2.1, fun a ha p hp => by rw [g1 53 (by decide)]; exact h.2.2 a ha p hp⟩ (fun a h2 h3 T hT => ?_)
    by_cases ea : a = c
    · subst ea
      exact g3 T hT
    · rw [g2 _ (by omega)]
      exact h1 a (by omega) h3 T hT
theorem m_fv9 {d n m : Nat} {W : Nat → Nat → Int} {Q : Int → xM → Prop} {σ0 : xM} (hW : qWok W) (n7 : n ≤ 7) (m7 : m ≤ 7) (hQ : ∀ s, Fr [52] σ0 s → (∀ c, c ≤ n → ∀ T, T < 128 → s 52 0 (128 * c + T) = qvl W m (n - c) c T) → Q 0 s) : ∀ f S : Nat, S + f = 128 → ∀ (σ : xM) (w3 w4 w5 w6 w7 : xV), Fr [52] σ0 σ → Mv σ W n m → (∀ T, T < S → σ 52 0 (128 * n + T) = 0) → Ev d 184 9 [vR 40 0, vI (n : Int), vI (S : Int), w3, w4, w5, w6, w7] [] σ Q
  | 0, S, e, σ, w3, w4, w5, w6, w7, hf, h, h1 => by
    rw [b_M_findValues_9, if_neg (by omega), xw (by omega) (by omega)]
    refine m_fv39 hW n7 m7 hQ n (Nat.le_refl _) σ _ _ _ _ _ hf h (fun a h2 h3 T hT => ?_)
    have : a = n := by omega
    subst this
    rw [h1 T (by omega), Nat.sub_self]
    rfl
  | f + 1, S, e, σ, w3, w4, w5, w6, w7, hf, h, h1 => by
    rw [b_M_findValues_9, if_pos (by omega), x128 (by omega) (by omega), xin (by omega) (by omega), Int.toNat_natCast, xs1 (by omega)]
    refine m_fv9 hW n7 m7 hQ f (S + 1) (by omega) _ _ _ _ _ _ (Fr_trans hf (Fr_up (by decide))) ⟨by rw [xup_t (by decide)]; exact h.1, by rw [xup_t (by decide)]; exact h.2.1, fun a ha p hp => by rw [xup_t (by decide)]; exact h.2.2 a ha p hp⟩ (fun T hT => ?_)
    by_cases eT : T = S
    · rw [eT, xup_s]
    · rw [xup_k (by omega)]
      exact h1 T (by omega)
theorem m_findValues {d n m : Nat} {W : Nat → Nat → Int} {Q : Int → xM → Prop} {σ : xM} (h : Mv σ W n m) (hW : qWok W) (n7 : n ≤ 7) (m7 : m ≤ 7) (hQ : ∀ s, Fr [52] σ s → (∀ c, c ≤ n → ∀ T, T < 128 → s 52 0 (128 * c + T) = qvl W m (n - c) c T) → Q 0 s) : Ev d 184 0 [vR 40 0, vR 0 0, vR 0 0, vR 0 0, vR 0 0, vR 0 0, vR 0 0, vR 0 0] [] σ Q := by
  rw [b_M_findValues_0, xin (by decide) (by decide), show Int.toNat 3 = 3 from rfl, h.1]
  exact m_fv9 hW n7 m7 hQ 128 0 (by decide) σ _ _ _ _ _ Fr_refl h (fun T hT => absurd hT (by omega))
