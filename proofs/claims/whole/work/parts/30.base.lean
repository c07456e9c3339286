/-! THE INVARIANT that ties class and reference; plain rows -/
theorem xw {x : Int} (h1 : -2147483648 ≤ x) (h2 : x < 2147483648) : xwr x = x := xn_id ⟨h1, h2⟩
theorem xin {x n : Int} {P : Prop} (h1 : 0 ≤ x) (h2 : x < n) : ((0 ≤ x ∧ x < n) ∧ P) = P := by simp [h1, h2]
theorem xtn_add {a b : Int} (ha : 0 ≤ a) (hb : 0 ≤ b) : (a + b).toNat = a.toNat + b.toNat := Int.toNat_add ha hb
theorem xtn_mul {a b : Int} (ha : 0 ≤ a) (hb : 0 ≤ b) : (a * b).toNat = a.toNat * b.toNat := by
  obtain ⟨m, rfl⟩ := Int.eq_ofNat_of_zero_le ha
  obtain ⟨n, rfl⟩ := Int.eq_ofNat_of_zero_le hb
  rw [← Int.natCast_mul]
  rfl
theorem xz0 {P : Prop} : (((0 : Int) = 0 ∨ (0 : Int) = 1) ∧ P) = P := by simp
theorem xz1 {P : Prop} : (((1 : Int) = 0 ∨ (1 : Int) = 1) ∧ P) = P := by simp
theorem xzc {c : Prop} [Decidable c] {P : Prop} : (((if c then (1 : Int) else 0) = 0 ∨ (if c then (1 : Int) else 0) = 1) ∧ P) = P := by by_cases h : c <;> simp [h]
theorem xbc {c : Prop} [Decidable c] : ((if c then (1 : Int) else 0) = 0) = ¬ c := by by_cases h : c <;> simp [h]
theorem xbc1 {c : Prop} [Decidable c] : ((if c then (1 : Int) else 0) = 1) = c := by by_cases h : c <;> simp [h]
theorem xne10 {P : Prop} : ((10 : Int) ≠ 0 ∧ P) = P := by simp
theorem xne2 {P : Prop} : ((2 : Int) ≠ 0 ∧ P) = P := by simp
theorem xup_t {σ : xM} {t i k t' : Nat} {v : Int} (h : t' ≠ t) : xup σ t i k v t' = σ t' := by
  funext a b
  unfold xup
  rw [if_neg (fun q => h q.1)]
theorem xup_i {σ : xM} {t i k i' : Nat} {v : Int} (h : i' ≠ i) : xup σ t i k v t i' = σ t i' := by
  funext b
  unfold xup
  rw [if_neg (fun q => h q.2.1)]
theorem xup_s {σ : xM} {t i k : Nat} {v : Int} : xup σ t i k v t i k = v := by
  unfold xup
  rw [if_pos ⟨rfl, rfl, rfl⟩]
theorem xup_k {σ : xM} {t i k k' : Nat} {v : Int} (h : k' ≠ k) : xup σ t i k v t i k' = σ t i k' := by
  rw [xup_at, if_neg h]
def xst (s c : Nat) : Nat := cond (Nat.beq s 0) c (7 + c)
def xs2 (s u : Nat) : Nat := cond (Nat.beq s 0) u (2 + u)
def xop (a : Int) : Prop := a = 37 ∨ a = 38 ∨ a = 42 ∨ a = 43 ∨ a = 45 ∨ a = 47 ∨ a = 60 ∨ a = 61 ∨ a = 62 ∨ a = 124
/-- a code of the class and the reference's step -/
def xcd (c a w : Int) : Prop := (a = 1 ∧ c = w ∧ 0 ≤ w) ∨ (a = 2 ∧ 0 ≤ w ∧ w ≤ 2 ∧ c = -1 - w) ∨ (a = 3 ∧ c = -33) ∨ (xop a ∧ c = -a)
/-- how many stand on the pile behind k steps -/
def xdep (P : Nat → Int) : Nat → Int
  | 0 => 0
  | k + 1 => xdep P k + (if P (1 + k) = 1 ∨ P (1 + k) = 2 then 1 else if P (1 + k) = 3 then 0 else -1)
/-- a text: of the class (len, codes), of the reference (P: length, steps, numbers) -/
def xtx (len : Int) (cs : Nat → Int) (P : Nat → Int) : Prop :=
  P 0 = len ∧ 0 ≤ len ∧ len ≤ 60 ∧ (∀ k : Nat, (k : Int) < len → xcd (cs k) (P (1 + k)) (P (61 + k)) ∧ (P (1 + k) = 3 → 1 ≤ xdep P k) ∧ (P (1 + k) ≠ 1 → P (1 + k) ≠ 2 → P (1 + k) ≠ 3 → 2 ≤ xdep P k)) ∧ (0 < len → xdep P len.toNat = 1)
def xcA (σ : xM) (s : Nat) (R : Nat → Int) : Prop := σ 5 s 0 = R 2 ∧ σ 5 s 1 = R 3 ∧ σ 5 s 2 = R 0 ∧ σ 5 s 3 = R 4 ∧ σ 5 s 4 = R 1 ∧ σ 5 s 5 = R 5 ∧ σ 5 s 6 = R 6
def xcB (σ : xM) (s : Nat) (R : Nat → Int) : Prop := ∀ p, p < 7 → σ 7 (xst s p) 0 = R (7 + 2 * p) ∧ σ 7 (xst s p) 1 = R (7 + 2 * p + 1)
def xcC (σ : xM) (s : Nat) (R : Nat → Int) : Prop := ∀ c, c < 7 → ∀ k, k < 6 → σ 9 (xst s c) k = R (21 + 9 * c + k)
def xcW (σ : xM) (s : Nat) (R : Nat → Int) : Prop := ∀ c, c < 7 → ∀ k, k < 3 → σ 10 (xst s c) k = R (21 + 9 * c + (6 + k))
def xcT (σ : xM) (s : Nat) (R : Nat → Int) : Prop := ∀ i, i < 60 → σ 11 s i = R (84 + i) ∧ (0 ≤ R (84 + i) ∧ R (84 + i) ≤ 255)
def xcN (σ : xM) (s : Nat) (R : Nat → Int) : Prop := ∀ i, i < 24 → σ 16 s i = R (144 + i)
def xcX (σ : xM) (s : Nat) (R : Nat → Int) : Prop := ∀ u, u < 2 → xtx (σ 13 (xs2 s u) 0) (σ 14 (xs2 s u)) (fun k => R (168 + 121 * u + k))
/-- the class's stage s is the row R -/
def xcpl (σ : xM) (s : Nat) (R : Nat → Int) : Prop := xcA σ s R ∧ xcB σ s R ∧ xcC σ s R ∧ xcW σ s R ∧ xcT σ s R ∧ xcN σ s R ∧ xcX σ s R
/-- a row that may be -/
def xvl (R : Nat → Int) : Prop :=
  (0 ≤ R 2 ∧ R 2 ≤ 7) ∧ (0 ≤ R 3 ∧ R 3 ≤ 7) ∧ (0 ≤ R 0 ∧ R 0 ≤ 9999) ∧ (-99999 ≤ R 4 ∧ R 4 ≤ 99999) ∧ (0 ≤ R 5 ∧ R 5 ≤ 60) ∧ (0 ≤ R 6 ∧ R 6 ≤ 24) ∧
  (∀ p : Nat, (p : Int) < R 2 → (0 ≤ R (7 + 2 * p) ∧ R (7 + 2 * p) ≤ 6) ∧ (0 ≤ R (7 + 2 * p + 1) ∧ R (7 + 2 * p + 1) ≤ 9)) ∧
  (∀ c : Nat, (c : Int) < R 3 → (0 ≤ R (21 + 9 * c + 0) ∧ R (21 + 9 * c + 0) ≤ 9) ∧ (1 ≤ R (21 + 9 * c + 1) ∧ R (21 + 9 * c + 1) ≤ 9) ∧ (R (21 + 9 * c + 2) = 0 ∨ R (21 + 9 * c + 2) = 1) ∧ (R (21 + 9 * c + 3) = 0 ∨ R (21 + 9 * c + 3) = 1) ∧ (-1 ≤ R (21 + 9 * c + 4) ∧ R (21 + 9 * c + 4) < R 2) ∧ (-1 ≤ R (21 + 9 * c + 5) ∧ R (21 + 9 * c + 5) < R 2)) ∧
  (∀ c : Nat, (c : Int) < R 3 → ∀ k, k < 3 → (-1 ≤ R (21 + 9 * c + (6 + k)) ∧ R (21 + 9 * c + (6 + k)) < R 2))
def xiE (σ : xM) : Prop := ∀ k, 1 ≤ k → k < 7 → σ 39 0 k = σ 44 0 k
def xiK (σ : xM) : Prop := σ 4 0 0 = σ 40 0 0 ∧ (σ 40 0 0 ≠ 0 → xvl (σ 42 0) ∧ xcpl σ 1 (σ 42 0))
def xiS (σ : xM) : Prop := ∀ s, s < 4 → σ 36 s 0 = σ 45 0 s ∧ σ 36 s 1 = σ 46 0 s ∧ (σ 45 0 s = 0 ∨ σ 45 0 s = 8 ∨ σ 45 0 s = 16 ∨ σ 45 0 s = 32) ∧ (0 ≤ σ 46 0 s ∧ σ 46 0 s ≤ 24) ∧ (σ 45 0 s = 0 → σ 46 0 s = 0) ∧ ∀ i, i < 24 → σ 37 s i = σ 47 0 (24 * s + i)
def xiV (σ : xM) : Prop := σ 33 0 0 = σ 40 0 6 ∧ (0 ≤ σ 40 0 6 ∧ σ 40 0 6 ≤ 30) ∧ ∀ i, i < 30 → σ 34 0 i = σ 56 0 i
/-- what holds between the calls -/
def Inv (σ : xM) : Prop := xvl (σ 41 0) ∧ xcpl σ 0 (σ 41 0) ∧ xiE σ ∧ xiK σ ∧ xiS σ ∧ xiV σ
theorem xcpl_cg {σ σ' : xM} {s : Nat} {R : Nat → Int} (h : xcpl σ s R) (h5 : σ' 5 = σ 5) (h7 : σ' 7 = σ 7) (h9 : σ' 9 = σ 9) (h10 : σ' 10 = σ 10) (h11 : σ' 11 = σ 11) (h13 : σ' 13 = σ 13) (h14 : σ' 14 = σ 14) (h16 : σ' 16 = σ 16) : xcpl σ' s R := by
  unfold xcpl xcA xcB xcC xcW xcT xcN xcX at h ⊢
  rw [h5, h7, h9, h10, h11, h13, h14, h16]
  exact h
/-- what a call leaves alone -/
theorem Inv_cg {σ σ' : xM} (h : Inv σ) (hf : ∀ t, t = 4 ∨ t = 5 ∨ t = 7 ∨ t = 9 ∨ t = 10 ∨ t = 11 ∨ t = 13 ∨ t = 14 ∨ t = 16 ∨ t = 33 ∨ t = 34 ∨ t = 36 ∨ t = 37 ∨ t = 39 ∨ t = 40 ∨ t = 41 ∨ t = 42 ∨ t = 44 ∨ t = 45 ∨ t = 46 ∨ t = 47 ∨ t = 56 → σ' t = σ t) : Inv σ' := by
  obtain ⟨h1, h2, h3, h4, h5, h6⟩ := h
  refine ⟨by rw [hf 41 (by omega)]; exact h1, ?_, ?_, ?_, ?_, ?_⟩
  · rw [hf 41 (by omega)]
    exact xcpl_cg h2 (hf 5 (by omega)) (hf 7 (by omega)) (hf 9 (by omega)) (hf 10 (by omega)) (hf 11 (by omega)) (hf 13 (by omega)) (hf 14 (by omega)) (hf 16 (by omega))
  · unfold xiE at h3 ⊢
    rw [hf 39 (by omega), hf 44 (by omega)]
    exact h3
  · unfold xiK at h4 ⊢
    rw [hf 4 (by omega), hf 40 (by omega), hf 42 (by omega)]
    exact ⟨h4.1, fun hn => ⟨(h4.2 hn).1, xcpl_cg (h4.2 hn).2 (hf 5 (by omega)) (hf 7 (by omega)) (hf 9 (by omega)) (hf 10 (by omega)) (hf 11 (by omega)) (hf 13 (by omega)) (hf 14 (by omega)) (hf 16 (by omega))⟩⟩
  · unfold xiS at h5 ⊢
    rw [hf 36 (by omega), hf 37 (by omega), hf 45 (by omega), hf 46 (by omega), hf 47 (by omega)]
    exact h5
  · unfold xiV at h6 ⊢
    rw [hf 33 (by omega), hf 34 (by omega), hf 40 (by omega), hf 56 (by omega)]
    exact h6
theorem Inv_err {σ : xM} {k : Nat} {x : Int} (h : Inv σ) (h1 : 1 ≤ k) (h7 : k < 7) (hx : x = σ 44 0 k) : Inv (xup (xup σ 39 0 k (xwr (σ 39 0 k + 1))) 44 0 k (xwr (x + 1))) := by
  subst hx
  obtain ⟨i1, i2, i3, i4, i5, i6⟩ := h
  have hf : ∀ t, t ≠ 39 → t ≠ 44 → xup (xup σ 39 0 k (xwr (σ 39 0 k + 1))) 44 0 k (xwr (σ 44 0 k + 1)) t = σ t := fun t a b => by rw [xup_t b, xup_t a]
  refine ⟨by rw [hf 41 (by decide) (by decide)]; exact i1, ?_, ?_, ?_, ?_, ?_⟩
  · rw [hf 41 (by decide) (by decide)]
    exact xcpl_cg i2 (hf _ (by decide) (by decide)) (hf _ (by decide) (by decide)) (hf _ (by decide) (by decide)) (hf _ (by decide) (by decide)) (hf _ (by decide) (by decide)) (hf _ (by decide) (by decide)) (hf _ (by decide) (by decide)) (hf _ (by decide) (by decide))
  · intro j h1 h2
    rw [xup_t (t' := 39) (by decide), xup_at, xup_at, xup_t (t' := 44) (by decide), i3 j h1 h2, i3 k ‹_› h7]
  · unfold xiK at i4 ⊢
    rw [hf 4 (by decide) (by decide), hf 40 (by decide) (by decide), hf 42 (by decide) (by decide)]
    exact ⟨i4.1, fun hn => ⟨(i4.2 hn).1, xcpl_cg (i4.2 hn).2 (hf _ (by decide) (by decide)) (hf _ (by decide) (by decide)) (hf _ (by decide) (by decide)) (hf _ (by decide) (by decide)) (hf _ (by decide) (by decide)) (hf _ (by decide) (by decide)) (hf _ (by decide) (by decide)) (hf _ (by decide) (by decide))⟩⟩
  · unfold xiS at i5 ⊢
    rw [hf 36 (by decide) (by decide), hf 37 (by decide) (by decide), hf 45 (by decide) (by decide), hf 46 (by decide) (by decide), hf 47 (by decide) (by decide)]
    exact i5
  · unfold xiV at i6 ⊢
    rw [hf 33 (by decide) (by decide), hf 34 (by decide) (by decide), hf 40 (by decide) (by decide), hf 56 (by decide) (by decide)]
    exact i6
/-- the smallest methods -/
theorem e_in {d : Nat} {σ : xM} {Q : Int → xM → Prop} {x a b : Int} : Ev d m_M_in 0 [vI x, vI a, vI b] [] σ Q = Q (if a ≤ x ∧ x ≤ b then 1 else 0) σ := by
  rw [b_M_in_0]
  by_cases h1 : x < a
  · rw [if_pos h1, if_neg (by omega), xz0]
  · by_cases h2 : b < x
    · rw [if_neg h1, if_pos h2, if_neg (by omega), xz0]
    · rw [if_neg h1, if_neg h2, if_pos (by omega), xz1]
theorem e_isWithin {d : Nat} {σ : xM} {Q : Int → xM → Prop} {x a b : Int} : Ev d m_P_isWithin 0 [vI x, vI a, vI b] [] σ Q = Q (if a ≤ x ∧ x ≤ b then 1 else 0) σ := by
  rw [b_P_isWithin_0]
  by_cases h1 : x < a
  · rw [if_pos h1, if_neg (by omega), xz0]
  · by_cases h2 : b < x
    · rw [if_neg h1, if_pos h2, if_neg (by omega), xz0]
    · rw [if_neg h1, if_neg h2, if_pos (by omega), xz1]
theorem e_isKm {d : Nat} {σ : xM} {Q : Int → xM → Prop} {x : Int} : Ev (d + 1) m_M_isKm 0 [vI x] [] σ Q = Q (if 0 ≤ x ∧ x ≤ 69 then 1 else 0) σ := by rw [b_M_isKm_0, e_in, xzc]
theorem e_isKN {d : Nat} {σ : xM} {Q : Int → xM → Prop} {x : Int} : Ev (d + 1) m_P_isKindAndNumber 0 [vI x] [] σ Q = Q (if 0 ≤ x ∧ x ≤ 69 then 1 else 0) σ := by rw [b_P_isKindAndNumber_0, e_isWithin, xzc]
theorem e_isUse {d : Nat} {σ : xM} {Q : Int → xM → Prop} {x : Int} : Ev (d + 1) m_P_isUse 0 [vI x] [] σ Q = Q (if 0 ≤ x ∧ x ≤ 1 then 1 else 0) σ := by rw [b_P_isUse_0, e_isWithin, xzc]
theorem e_PisSheet {d : Nat} {σ : xM} {Q : Int → xM → Prop} {x : Int} : Ev (d + 1) m_P_isSheet 0 [vI x] [] σ Q = Q (if 0 ≤ x ∧ x ≤ 3 then 1 else 0) σ := by rw [b_P_isSheet_0, e_isWithin, xzc]
theorem e_MisSheet {d : Nat} {σ : xM} {Q : Int → xM → Prop} {x : Int} : Ev (d + 1) m_M_isSheet 0 [vI x] [] σ Q = Q (if 0 ≤ x ∧ x ≤ 3 then 1 else 0) σ := by rw [b_M_isSheet_0, e_in, xzc]
theorem e_hasPart {d : Nat} {σ : xM} {Q : Int → xM → Prop} {x : Int} : Ev d m_S_hasPart 0 [vR 5 0, vI x] [] σ Q = Q (if 0 ≤ x ∧ x < σ 5 0 0 then 1 else 0) σ := by
  rw [b_S_hasPart_0]
  by_cases h1 : x < 0
  · rw [if_pos h1, if_neg (by omega), xz0]
  · by_cases h2 : x < σ 5 0 0
    · rw [if_neg h1, if_pos h2, if_pos (by omega), xz1]
    · rw [if_neg h1, if_neg h2, if_neg (by omega), xz0]
theorem e_hasChild {d : Nat} {σ : xM} {Q : Int → xM → Prop} {x : Int} : Ev d m_S_hasChild 0 [vR 5 0, vI x] [] σ Q = Q (if 0 ≤ x ∧ x < σ 5 0 1 then 1 else 0) σ := by
  rw [b_S_hasChild_0]
  by_cases h1 : x < 0
  · rw [if_pos h1, if_neg (by omega), xz0]
  · by_cases h2 : x < σ 5 0 1
    · rw [if_neg h1, if_pos h2, if_pos (by omega), xz1]
    · rw [if_neg h1, if_neg h2, if_neg (by omega), xz0]
theorem e_isPart {d : Nat} {σ : xM} {Q : Int → xM → Prop} {x : Int} (h0 : 0 ≤ σ 41 0 2) (h7 : σ 41 0 2 ≤ 7) : Ev (d + 1) m_M_isPart 0 [vR 40 0, vI x] [] σ Q = Q (if 0 ≤ x ∧ x < σ 41 0 2 then 1 else 0) σ := by
  rw [b_M_isPart_0, e_in, xzc, xin (by decide) (by decide), show Int.toNat 2 = 2 from rfl, xw (by omega) (by omega)]
  by_cases h : 0 ≤ x ∧ x < σ 41 0 2
  · rw [if_pos h, if_pos (by omega)]
  · rw [if_neg h, if_neg (by omega)]
theorem e_isChild {d : Nat} {σ : xM} {Q : Int → xM → Prop} {x : Int} (h0 : 0 ≤ σ 41 0 3) (h7 : σ 41 0 3 ≤ 7) : Ev (d + 1) m_M_isChild 0 [vR 40 0, vI x] [] σ Q = Q (if 0 ≤ x ∧ x < σ 41 0 3 then 1 else 0) σ := by
  rw [b_M_isChild_0, e_in, xzc, xin (by decide) (by decide), show Int.toNat 3 = 3 from rfl, xw (by omega) (by omega)]
  by_cases h : 0 ≤ x ∧ x < σ 41 0 3
  · rw [if_pos h, if_pos (by omega)]
  · rw [if_neg h, if_neg (by omega)]
theorem e_hasPartN {d : Nat} {σ : xM} {Q : Int → xM → Prop} {x : Int} : Ev (d + 1) m_S_hasPartOrNone 0 [vR 5 0, vI x] [] σ Q = Q (if x = -1 ∨ 0 ≤ x ∧ x < σ 5 0 0 then 1 else 0) σ := by
  rw [b_S_hasPartOrNone_0]
  simp only [e_hasPart, xbc, xz0, xz1]
  by_cases h1 : x = -1
  · simp [h1]
  · by_cases h2 : 0 ≤ x ∧ x < σ 5 0 0
    · simp [h1, h2]
    · simp [h1, h2]
theorem e_fail1 {d : Nat} {σ : xM} {Q : Int → xM → Prop} : Ev d m_P_fail 0 [vR 4 0, vI 1] [] σ Q = Q (-1000000001) (xup σ 39 0 1 (xwr (σ 39 0 1 + 1))) := by
  rw [b_P_fail_0, xin (by decide) (by decide), xin (by decide) (by decide), xw (by decide) (by decide)]
  rfl
theorem e_err1 {d : Nat} {σ : xM} {Q : Int → xM → Prop} : Ev d m_M_error 0 [vR 40 0, vI (-1000000001)] [] σ Q = Q (-1000000001) (xup σ 44 0 1 (xwr (σ 44 0 1 + 1))) := by
  rw [b_M_error_0, xw (x := (-1000000000) - (-1000000001)) (by decide) (by decide), xin (by decide) (by decide), xin (by decide) (by decide)]
  rfl
theorem e_fail2 {d : Nat} {σ : xM} {Q : Int → xM → Prop} : Ev d m_P_fail 0 [vR 4 0, vI 2] [] σ Q = Q (-1000000002) (xup σ 39 0 2 (xwr (σ 39 0 2 + 1))) := by
  rw [b_P_fail_0, xin (by decide) (by decide), xin (by decide) (by decide), xw (by decide) (by decide)]
  rfl
theorem e_err2 {d : Nat} {σ : xM} {Q : Int → xM → Prop} : Ev d m_M_error 0 [vR 40 0, vI (-1000000002)] [] σ Q = Q (-1000000002) (xup σ 44 0 2 (xwr (σ 44 0 2 + 1))) := by
  rw [b_M_error_0, xw (x := (-1000000000) - (-1000000002)) (by decide) (by decide), xin (by decide) (by decide), xin (by decide) (by decide)]
  rfl
theorem e_fail3 {d : Nat} {σ : xM} {Q : Int → xM → Prop} : Ev d m_P_fail 0 [vR 4 0, vI 3] [] σ Q = Q (-1000000003) (xup σ 39 0 3 (xwr (σ 39 0 3 + 1))) := by
  rw [b_P_fail_0, xin (by decide) (by decide), xin (by decide) (by decide), xw (by decide) (by decide)]
  rfl
theorem e_err3 {d : Nat} {σ : xM} {Q : Int → xM → Prop} : Ev d m_M_error 0 [vR 40 0, vI (-1000000003)] [] σ Q = Q (-1000000003) (xup σ 44 0 3 (xwr (σ 44 0 3 + 1))) := by
  rw [b_M_error_0, xw (x := (-1000000000) - (-1000000003)) (by decide) (by decide), xin (by decide) (by decide), xin (by decide) (by decide)]
  rfl
theorem e_fail4 {d : Nat} {σ : xM} {Q : Int → xM → Prop} : Ev d m_P_fail 0 [vR 4 0, vI 4] [] σ Q = Q (-1000000004) (xup σ 39 0 4 (xwr (σ 39 0 4 + 1))) := by
  rw [b_P_fail_0, xin (by decide) (by decide), xin (by decide) (by decide), xw (by decide) (by decide)]
  rfl
theorem e_err4 {d : Nat} {σ : xM} {Q : Int → xM → Prop} : Ev d m_M_error 0 [vR 40 0, vI (-1000000004)] [] σ Q = Q (-1000000004) (xup σ 44 0 4 (xwr (σ 44 0 4 + 1))) := by
  rw [b_M_error_0, xw (x := (-1000000000) - (-1000000004)) (by decide) (by decide), xin (by decide) (by decide), xin (by decide) (by decide)]
  rfl
theorem e_fail5 {d : Nat} {σ : xM} {Q : Int → xM → Prop} : Ev d m_P_fail 0 [vR 4 0, vI 5] [] σ Q = Q (-1000000005) (xup σ 39 0 5 (xwr (σ 39 0 5 + 1))) := by
  rw [b_P_fail_0, xin (by decide) (by decide), xin (by decide) (by decide), xw (by decide) (by decide)]
  rfl
theorem e_err5 {d : Nat} {σ : xM} {Q : Int → xM → Prop} : Ev d m_M_error 0 [vR 40 0, vI (-1000000005)] [] σ Q = Q (-1000000005) (xup σ 44 0 5 (xwr (σ 44 0 5 + 1))) := by
  rw [b_M_error_0, xw (x := (-1000000000) - (-1000000005)) (by decide) (by decide), xin (by decide) (by decide), xin (by decide) (by decide)]
  rfl
theorem e_fail6 {d : Nat} {σ : xM} {Q : Int → xM → Prop} : Ev d m_P_fail 0 [vR 4 0, vI 6] [] σ Q = Q (-1000000006) (xup σ 39 0 6 (xwr (σ 39 0 6 + 1))) := by
  rw [b_P_fail_0, xin (by decide) (by decide), xin (by decide) (by decide), xw (by decide) (by decide)]
  rfl
theorem e_err6 {d : Nat} {σ : xM} {Q : Int → xM → Prop} : Ev d m_M_error 0 [vR 40 0, vI (-1000000006)] [] σ Q = Q (-1000000006) (xup σ 44 0 6 (xwr (σ 44 0 6 + 1))) := by
  rw [b_M_error_0, xw (x := (-1000000000) - (-1000000006)) (by decide) (by decide), xin (by decide) (by decide), xin (by decide) (by decide)]
  rfl
