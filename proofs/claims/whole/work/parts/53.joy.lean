/-! worth, joy, sets of seven -/
def qwo (R : Nat → Int) (c : Nat) (p : Int) : Int := qg0 (qP R 0) (qdr R c p) (if R (21 + 9 * c + 4) = p then 1 else 0) (R (21 + 9 * c + 0))
theorem e_worth {d c : Nat} {σ : xM} {R : Nat → Int} {Q : Int → xM → Prop} {p : Int} (h : Kp σ R) (hc : c < 7) (hQ : ∀ s, Fr [15] σ s → Q (qwo R c p) s) : Ev (d + 3) 55 0 [vR 5 0, vI (c : Int), vI p, vR 0 0] [] σ Q := by
  rw [b_S_worthOf_0, xin (by omega) (by omega), Int.toNat_natCast, e_dear h hc, Kp_ch h hc (by decide), Kp_ch h hc (by decide)]
  unfold qwo at hQ
  by_cases e : R (21 + 9 * c + 4) = p
  · rw [if_pos e] at hQ ⊢
    exact e_given0 h hQ
  · rw [if_neg e] at hQ ⊢
    exact e_given0 h hQ
theorem m_worth {d c : Nat} {σ : xM} {Q : Int → xM → Prop} {p : Int} (h : qtk (qP (σ 41 0) 0)) (hc : c < 7) (hQ : ∀ s, Fr [50, 51] σ s → Q (qwo (σ 41 0) c p) s) : Ev (d + 3) 140 0 [vR 40 0, vI (c : Int), vI p] [] σ Q := by
  rw [b_M_worthTo_0, m_dear hc, e_ab4 hc]
  unfold qwo at hQ
  by_cases e : σ 41 0 (21 + 9 * c + 4) = p
  · rw [if_pos e] at hQ ⊢
    rw [e_ab0 hc]
    exact m_gives0 h hQ
  · rw [if_neg e] at hQ ⊢
    rw [e_ab0 hc]
    exact m_gives0 h hQ
theorem e_worthIf {d c : Nat} {σ : xM} {R : Nat → Int} {Q : Int → xM → Prop} {p w : Int} (h : Kp σ R) (hc : c < 7) (hQ : ∀ s, Fr [15] σ s → Q (qg0 (qP R 0) w (if R (21 + 9 * c + 4) = p then 1 else 0) (R (21 + 9 * c + 0))) s) : Ev (d + 3) 56 0 [vR 5 0, vI (c : Int), vI p, vI w, vR 0 0] [] σ Q := by
  rw [b_S_worthIfDear_0, xin (by omega) (by omega), Int.toNat_natCast, Kp_ch h hc (by decide), Kp_ch h hc (by decide)]
  by_cases e : R (21 + 9 * c + 4) = p
  · rw [if_pos e] at hQ ⊢
    exact e_given0 h hQ
  · rw [if_neg e] at hQ ⊢
    exact e_given0 h hQ
def qjo (R : Nat → Int) (c : Nat) : Int := qg1 (qP R 1) (if R (21 + 9 * c + 5) < 0 then 0 else qwo R c (R (21 + 9 * c + 5))) (R (21 + 9 * c + 2)) (Int.tmod (R 0) 7)
theorem e_joy {d c : Nat} {σ : xM} {R : Nat → Int} {Q : Int → xM → Prop} (h : Kp σ R) (hc : (c : Int) < R 3) (hQ : ∀ s, Fr [15] σ s → Q (qjo R c) s) : Ev (d + 4) 57 0 [vR 5 0, vI (c : Int), vR 0 0, vR 0 0] [] σ Q := by
  have c7 := xvl_c7 h.1 hc
  have hh := (h.1.2.2.2.2.2.2.2.1 c hc).2.2.2.2.2.1
  rw [b_S_joyOf_0, xin (by omega) (by omega), Int.toNat_natCast, Kp_ch h c7 (by decide)]
  unfold qjo at hQ
  by_cases e : R (21 + 9 * c + 5) = -1
  · rw [if_pos (by omega)] at hQ
    rw [if_pos e, xne7i, Kp_year h, Kp_ch h c7 (by decide)]
    exact e_given1 h hQ
  · rw [if_neg (by omega)] at hQ
    rw [if_neg e]
    refine e_worth h c7 (fun s hs => ?_)
    have hk := Kp_sc h hs rfl
    rw [xne7i, Kp_year hk, Kp_ch hk c7 (by decide)]
    exact e_given1 hk (fun s2 hs2 => hQ s2 (Fr_trans hs hs2))
theorem m_joy {d c : Nat} {σ : xM} {Q : Int → xM → Prop} (h0 : qtk (qP (σ 41 0) 0)) (h1 : qtk (qP (σ 41 0) 1)) (c7 : c < 7) (hQ : ∀ s, Fr [50, 51] σ s → Q (qjo (σ 41 0) c) s) : Ev (d + 4) 141 0 [vR 40 0, vI (c : Int), vR 0 0] [] σ Q := by
  rw [b_M_joyOf_0, e_ab5 c7]
  unfold qjo at hQ
  by_cases e : σ 41 0 (21 + 9 * c + 5) < 0
  · rw [if_pos e] at hQ ⊢
    rw [e_ab2 c7, xin (by decide) (by decide), xne7i, show Int.toNat 0 = 0 from rfl]
    exact m_gives1 h1 hQ
  · rw [if_neg e] at hQ ⊢
    refine m_worth h0 c7 (fun s hs => ?_)
    have e41 : s 41 = σ 41 := hs 41 (by decide)
    rw [e_ab2 c7, xin (by decide) (by decide), xne7i, show Int.toNat 0 = 0 from rfl, e41]
    refine m_gives1 (by rw [e41]; exact h1) (fun s2 hs2 => ?_)
    rw [e41]
    exact hQ s2 (Fr_trans hs hs2)
/-- sets of seven -/
def qms (g : Nat → Int) : Nat → Nat
  | 0 => 0
  | n + 1 => qms g n + (if g n = 0 then 0 else 2 ^ n)
theorem qms_lt (g : Nat → Int) : ∀ n, qms g n < 2 ^ n
  | 0 => Nat.zero_lt_one
  | n + 1 => by
    have := qms_lt g n
    show qms g n + (if g n = 0 then 0 else 2 ^ n) < 2 ^ (n + 1)
    rw [Nat.pow_succ]
    split <;> omega
theorem qms_cg {g g' : Nat → Int} : ∀ n, (∀ j, j < n → (g j = 0 ↔ g' j = 0)) → qms g n = qms g' n
  | 0, _ => rfl
  | n + 1, h => by
    show qms g n + (if g n = 0 then 0 else 2 ^ n) = qms g' n + (if g' n = 0 then 0 else 2 ^ n)
    rw [qms_cg n (fun j hj => h j (by omega))]
    by_cases e : g n = 0
    · rw [if_pos e, if_pos ((h n (by omega)).mp e)]
    · rw [if_neg e, if_neg (fun q => e ((h n (by omega)).mpr q))]
theorem qms_bit (g : Nat → Int) : ∀ n p, Nat.testBit (qms g n) p = (decide (p < n) && decide (g p ≠ 0))
  | 0, p => by
    show Nat.testBit 0 p = _
    simp
  | n + 1, p => by
    show Nat.testBit (qms g n + (if g n = 0 then 0 else 2 ^ n)) p = _
    have ih := qms_bit g n p
    have lt := qms_lt g n
    by_cases e : g n = 0
    · rw [if_pos e, Nat.add_zero, ih]
      by_cases hp : p < n
      · simp [hp, Nat.lt_succ_of_lt hp]
      · by_cases hq : p = n
        · subst hq
          simp [e]
        · simp [hp, show ¬ p < n + 1 by omega]
    · rw [if_neg e, Nat.add_comm]
      by_cases hp : p < n
      · rw [Nat.testBit_two_pow_add_gt hp, ih]
        simp [hp, Nat.lt_succ_of_lt hp]
      · by_cases hq : p = n
        · subst hq
          rw [Nat.testBit_two_pow_add_eq, ih]
          simp [e]
        · have h1 : 2 ^ (n + 1) ≤ 2 ^ p := Nat.pow_le_pow_right (by decide) (by omega)
          rw [Nat.testBit_lt_two_pow (by rw [Nat.pow_succ] at h1; omega)]
          simp [show ¬ p < n + 1 by omega]
theorem qms_lt7 (g : Nat → Int) {n : Nat} (h : n ≤ 7) : qms g n < 128 := Nat.lt_of_lt_of_le (qms_lt g n) (show 2 ^ n ≤ 2 ^ 7 from Nat.pow_le_pow_right (by decide) h)
theorem xq_or : ∀ c : Nat, c < 7 → ∀ M : Nat, M < 128 → M < 2 ^ c → xior (M : Int) (xshl 1 (c : Int)) = ((M + 2 ^ c : Nat) : Int) := by decide +kernel
theorem xq_or0 : ∀ M : Nat, M < 128 → xior (M : Int) 0 = (M : Int) := by decide +kernel
theorem xq_bit : ∀ M : Nat, M < 128 → ∀ p : Nat, p < 7 → xand (xshr (M : Int) (p : Int)) 1 = (if Nat.testBit M p then 1 else 0) := by decide +kernel
theorem xq_ors : ∀ M : Nat, M < 128 → ∀ p : Nat, p < 7 → xior (M : Int) (xshl 1 (p : Int)) = ((M ||| 2 ^ p : Nat) : Int) := by decide +kernel
theorem qms_or (g : Nat → Int) {c : Nat} (h : c < 7) (e : ¬ g c = 0) : xior (qms g c : Int) (xshl 1 (c : Int)) = ((qms g (c + 1) : Nat) : Int) := by
  rw [xq_or c h _ (qms_lt7 g (by omega)) (qms_lt g c)]
  show _ = ((qms g c + (if g c = 0 then 0 else 2 ^ c) : Nat) : Int)
  rw [if_neg e]
theorem qms_no (g : Nat → Int) {c : Nat} (e : g c = 0) : qms g (c + 1) = qms g c := by
  show qms g c + (if g c = 0 then 0 else 2 ^ c) = _
  rw [if_pos e]
  rfl
theorem xs1 {c : Nat} (h : c < 1000) : xwr ((c : Int) + 1) = ((c + 1 : Nat) : Int) := by
  rw [xw (by omega) (by omega)]
  rfl
/-- whom a part may have -/
theorem e_chFor {d p n : Nat} {σ : xM} {R : Nat → Int} {Q : Int → xM → Prop} (h : Kp σ R) (hn : R 3 = (n : Int)) (hp : (p : Int) < R 2) : ∀ f c : Nat, c + f = n → Ev (d + 2) 52 4 [vR 5 0, vI (p : Int), vI (qms (fun c => qmy R c p) c : Int), vI (c : Int)] [] σ Q = Q (qms (fun c => qmy R c p) n : Int) σ
  | 0, c, e => by
    have e : c = n := e
    rw [b_S_childrenFor_4, Kp_chn h, hn, if_neg (by omega), e]
  | f + 1, c, e => by
    have hc : (c : Int) < R 3 := by omega
    have c7 := xvl_c7 h.1 hc
    rw [b_S_childrenFor_4, Kp_chn h, if_pos hc, e_may h hc hp, xs1 (by omega)]
    by_cases e0 : qmy R c p = 0
    · rw [if_pos e0, ← qms_no (fun c => qmy R c p) e0]
      exact e_chFor h hn hp f (c + 1) (by omega)
    · rw [if_neg e0, qms_or (fun c => qmy R c p) c7 e0]
      exact e_chFor h hn hp f (c + 1) (by omega)
theorem e_paFor {d c n : Nat} {σ : xM} {R : Nat → Int} {Q : Int → xM → Prop} (h : Kp σ R) (hn : R 2 = (n : Int)) (hc : (c : Int) < R 3) : ∀ f p : Nat, p + f = n → Ev (d + 2) 53 4 [vR 5 0, vI (c : Int), vI (qms (fun p => qmy R c p) p : Int), vI (p : Int)] [] σ Q = Q (qms (fun p => qmy R c p) n : Int) σ
  | 0, p, e => by
    have e : p = n := e
    rw [b_S_partsFor_4, Kp_parts h, hn, if_neg (by omega), e]
  | f + 1, p, e => by
    have hp : (p : Int) < R 2 := by omega
    have p7 := xvl_p7 h.1 hp
    rw [b_S_partsFor_4, Kp_parts h, if_pos hp, e_may h hc hp, xs1 (by omega)]
    by_cases e0 : qmy R c p = 0
    · rw [if_pos e0, ← qms_no (fun p => qmy R c p) e0]
      exact e_paFor h hn hc f (p + 1) (by omega)
    · rw [if_neg e0, qms_or (fun p => qmy R c p) p7 e0]
      exact e_paFor h hn hc f (p + 1) (by omega)
theorem m_whoMay {d p n : Nat} {σ : xM} {Q : Int → xM → Prop} (h : xvl (σ 41 0)) (hn : σ 41 0 3 = (n : Int)) (hp : (p : Int) < σ 41 0 2) : ∀ f c : Nat, c + f = n → Ev (d + 2) 146 4 [vR 40 0, vI (p : Int), vI (qms (fun c => qmy (σ 41 0) c p) c : Int), vI (c : Int)] [] σ Q = Q (qms (fun c => qmy (σ 41 0) c p) n : Int) σ
  | 0, c, e => by
    have e : c = n := e
    rw [b_M_whoMay_4, xin (by decide) (by decide), show Int.toNat 3 = 3 from rfl, hn, if_neg (by omega), e]
  | f + 1, c, e => by
    have hc : (c : Int) < σ 41 0 3 := by omega
    have c7 := xvl_c7 h hc
    rw [b_M_whoMay_4, xin (by decide) (by decide), show Int.toNat 3 = 3 from rfl, if_pos hc, m_may h hc hp, xs1 (by omega)]
    by_cases e0 : qmy (σ 41 0) c p = 0
    · rw [if_pos e0, xq_or0 _ (qms_lt7 _ (by omega)), ← qms_no (fun c => qmy (σ 41 0) c p) e0]
      exact m_whoMay h hn hp f (c + 1) (by omega)
    · rw [if_neg e0, qms_or (fun c => qmy (σ 41 0) c p) c7 e0]
      exact m_whoMay h hn hp f (c + 1) (by omega)
/-- how many -/
def qpc (M : Nat) : Nat := M % 2 + M / 2 % 2 + M / 4 % 2 + M / 8 % 2 + M / 16 % 2 + M / 32 % 2 + M / 64 % 2
theorem e_bc {d M : Nat} {σ : xM} {Q : Int → xM → Prop} (hM : M < 128) : Ev d 220 0 [vI (M : Int)] [] σ Q = Q (qpc M : Int) σ := by
  rw [b_I_bitCount_0]
  congr 1
  revert hM
  revert M
  decide +kernel
theorem xq_pop : ∀ M : Nat, M < 128 → M ≠ 0 → xand (M : Int) (xwr ((M : Int) - 1)) = ((M &&& (M - 1) : Nat) : Int) ∧ (M &&& (M - 1)) < M ∧ qpc (M &&& (M - 1)) + 1 = qpc M := by decide +kernel
theorem qpc_le : ∀ M : Nat, M < 128 → qpc M ≤ 7 ∧ (qpc M = 0 ↔ M = 0) := by decide +kernel
theorem m_bits {d : Nat} {σ : xM} {Q : Int → xM → Prop} {x : Int} : ∀ N M k : Nat, M ≤ N → M < 128 → k + qpc M < 100 → Ev d 130 4 [vI x, vI (k : Int), vI (M : Int)] [] σ Q = Q ((k + qpc M : Nat) : Int) σ
  | 0, M, k, h1, h2, h3 => by
    have e : M = 0 := by omega
    subst e
    rw [b_M_bits_4, if_pos (show ((0 : Nat) : Int) = 0 from rfl)]
    rfl
  | N + 1, M, k, h1, h2, h3 => by
    by_cases e : M = 0
    · subst e
      rw [b_M_bits_4, if_pos (show ((0 : Nat) : Int) = 0 from rfl)]
      rfl
    · obtain ⟨g1, g2, g3⟩ := xq_pop M h2 e
      rw [b_M_bits_4, if_neg (by omega), g1, xs1 (by omega), m_bits N _ (k + 1) (by omega) (by omega) (by omega), show k + 1 + qpc (M &&& (M - 1)) = k + qpc M by omega]
/-- the k-th of a set -/
def qat (M : Nat) : Nat → Nat → Nat → Int
  | 0, _, _ => -1
  | f + 1, i, k => if Nat.testBit M i then (if k = 0 then (i : Int) else qat M f (i + 1) (k - 1)) else qat M f (i + 1) k
theorem qat_ex : ∀ M : Nat, M < 128 → ∀ k : Nat, k < 7 → k < qpc M → ∃ j : Nat, j < 7 ∧ qat M 7 0 k = ((j : Nat) : Int) ∧ Nat.testBit M j = true := by decide +kernel
theorem e_partAt {d M : Nat} {σ : xM} {Q : Int → xM → Prop} {y : Int} (hM : M < 128) : ∀ f i k : Nat, i + f = 7 → k < 7 → Ev d 60 4 [vI (M : Int), vI y, vI (k : Int), vI (i : Int)] [] σ Q = Q (qat M f i k) σ
  | 0, i, k, e, hk => by
    rw [b_S_partAt_4, if_neg (by omega)]
    rfl
  | f + 1, i, k, e, hk => by
    rw [b_S_partAt_4, if_pos (by omega), xq_bit M hM i (by omega), xs1 (by omega)]
    show _ = Q (if Nat.testBit M i then (if k = 0 then (i : Int) else qat M f (i + 1) (k - 1)) else qat M f (i + 1) k) σ
    by_cases hb : Nat.testBit M i = true
    · rw [if_pos hb, if_pos hb, if_neg (by decide)]
      by_cases h0 : k = 0
      · rw [if_pos h0, if_pos (by omega)]
      · rw [if_neg h0, if_neg (by omega), show xwr ((k : Int) + -1) = ((k - 1 : Nat) : Int) from by rw [xw (by omega) (by omega)]; omega, e_partAt hM f (i + 1) (k - 1) (by omega) (by omega)]
    · rw [if_neg hb, if_neg hb, if_pos rfl, e_partAt hM f (i + 1) k (by omega) hk]
theorem m_at {d M j : Nat} {σ : xM} {Q : Int → xM → Prop} {x1 x2 : Int} (hM : M < 128) : ∀ f i k : Nat, i + f = 7 → k < 7 → qat M f i k = (j : Int) → Ev (d + 1) 179 42 [vR 40 0, vI x1, vI x2, vI (M : Int), vI (k : Int), vI (i : Int)] [] σ Q = Ev d 136 0 [vR 40 0, vI x2, vI 5, vI (j : Int)] [] σ (fun _ s1 => Ev (d + 1) 179 8 [vR 40 0, vI (xior x1 (xshl 1 x2)), vI (xwr (x2 + 1)), vI (M : Int), vI 0, vI (j : Int)] [] s1 Q)
  | 0, i, k, e, hk, hq => by
    have : (-1 : Int) = (j : Int) := hq
    omega
  | f + 1, i, k, e, hk, hq => by
    have hq' : (if Nat.testBit M i then (if k = 0 then (i : Int) else qat M f (i + 1) (k - 1)) else qat M f (i + 1) k) = (j : Int) := hq
    rw [b_M_drawn_42, xq_bit M hM i (by omega), xs1 (by omega)]
    by_cases hb : Nat.testBit M i = true
    · rw [if_pos hb] at hq'
      rw [if_pos hb]
      by_cases h0 : k = 0
      · rw [if_pos h0] at hq'
        subst h0
        rw [if_neg (by decide), if_neg (by decide), hq']
        rfl
      · rw [if_neg h0] at hq'
        rw [if_pos (by omega), show xwr ((k : Int) - 1) = ((k - 1 : Nat) : Int) from by rw [xw (by omega) (by omega)]; omega, m_at hM f (i + 1) (k - 1) (by omega) (by omega) hq']
    · rw [if_neg hb] at hq'
      rw [if_neg hb, show xwr ((k : Int) - 0) = (k : Int) from by rw [xw (by omega) (by omega)]; omega, m_at hM f (i + 1) k (by omega) hk hq']
      split <;> rfl
