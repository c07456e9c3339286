/-! lots -/
theorem xush8 (z : Int) : 0 ≤ xush z 8 := by
  unfold xush
  rw [show (Int32.ofInt 8).toUInt32 &&& Int32.toUInt32 31 = 8 from by decide]
  generalize (Int32.ofInt z).toUInt32 = u
  have h1 : (u >>> 8).toNat = u.toNat / 256 := by
    rw [UInt32.toNat_shiftRight, Nat.shiftRight_eq_div_pow]
    rfl
  have h2 : u.toNat < 4294967296 := u.toNat_lt
  have h3 : (u >>> 8).toInt32.toInt = (u >>> 8).toBitVec.toInt := rfl
  have h4 : (u >>> 8).toBitVec.toNat = (u >>> 8).toNat := rfl
  rw [h3, BitVec.toInt_eq_toNat_of_lt (by rw [h4, h1]; omega)]
  omega
def qz (z : Int) : Int := xwr (xwr (z * 1103515245) + 12345)
def qfr (R : Nat → Int) (n2 c T : Nat) : Nat := qms (fun q => if qmy R c q = 0 then 0 else if Nat.testBit T q = true then 0 else 1) n2
def qpk (F : Nat) (z : Int) : Int := qat F 7 0 (Int.tmod (xush z 8) (qpc F : Int)).toNat
def qls (R : Nat → Int) (n2 c : Nat) (p : Int × Nat × (Nat → Int)) : Int × Nat × (Nat → Int) :=
  if qfr R n2 c p.2.1 = 0 then p else (qz p.1, p.2.1 ||| 2 ^ (qpk (qfr R n2 c p.2.1) (qz p.1)).toNat, qu p.2.2 c (qpk (qfr R n2 c p.2.1) (qz p.1)))
def qlot (R : Nat → Int) (n2 : Nat) (z : Int) : Nat → Int × Nat × (Nat → Int)
  | 0 => (z, 0, fun _ => -1)
  | c + 1 => qls R n2 c (qlot R n2 z c)
theorem qmod {z : Int} {F : Nat} (hF : F < 128) (h0 : F ≠ 0) : ∃ k : Nat, Int.tmod (xush z 8) (qpc F : Int) = (k : Int) ∧ k < qpc F ∧ k < 7 := by
  obtain ⟨h7, hz⟩ := qpc_le F hF
  have hp : 0 < qpc F := Nat.pos_of_ne_zero (fun q => h0 (hz.mp q))
  have h1 := Int.emod_nonneg (xush z 8) (show ((qpc F : Nat) : Int) ≠ 0 by omega)
  have h2 := Int.emod_lt_of_pos (xush z 8) (show (0 : Int) < ((qpc F : Nat) : Int) by omega)
  rw [Int.tmod_eq_emod_of_nonneg (xush8 z)]
  exact ⟨(xush z 8 % (qpc F : Int)).toNat, by omega, by omega, by omega⟩
theorem qpk_ex {z : Int} {F : Nat} (hF : F < 128) (h0 : F ≠ 0) : ∃ j : Nat, j < 7 ∧ qpk F z = (j : Int) ∧ Nat.testBit F j = true := by
  obtain ⟨k, e, k1, k2⟩ := qmod (z := z) hF h0
  obtain ⟨j, j7, ej, hb⟩ := qat_ex F hF k k2 k1
  exact ⟨j, j7, by unfold qpk; rw [e, Int.toNat_natCast, ej], hb⟩
theorem qfr_bit {R : Nat → Int} {n2 c T q : Nat} : Nat.testBit (qfr R n2 c T) q = (decide (q < n2) && (decide (qmy R c q ≠ 0) && !Nat.testBit T q)) := by
  unfold qfr
  rw [qms_bit]
  by_cases h1 : q < n2
  · by_cases h2 : qmy R c q = 0
    · simp [h1, h2]
    · cases h3 : Nat.testBit T q <;> simp [h1, h2]
  · simp [h1]
theorem qlot_f {R : Nat → Int} {n2 : Nat} {z : Int} (h2 : n2 ≤ 7) : ∀ c, c ≤ 7 → (qlot R n2 z c).2.1 < 128 ∧ (∀ i, c ≤ i → (qlot R n2 z c).2.2 i = -1) ∧ (∀ i, (qlot R n2 z c).2.2 i = -1 ∨ ∃ j : Nat, j < n2 ∧ (qlot R n2 z c).2.2 i = (j : Int)) ∧ (∀ q, Nat.testBit (qlot R n2 z c).2.1 q = true ↔ ∃ i, i < c ∧ (qlot R n2 z c).2.2 i = (q : Int))
  | 0, _ => ⟨show (0 : Nat) < 128 by decide, fun _ _ => rfl, fun _ => Or.inl rfl, fun q => by
      show Nat.testBit 0 q = true ↔ _
      simp⟩
  | c + 1, hc => by
    obtain ⟨i1, i2, i3, i4⟩ := qlot_f (R := R) (z := z) h2 c (by omega)
    show (qls R n2 c (qlot R n2 z c)).2.1 < 128 ∧ (∀ i, c + 1 ≤ i → (qls R n2 c (qlot R n2 z c)).2.2 i = -1) ∧ (∀ i, (qls R n2 c (qlot R n2 z c)).2.2 i = -1 ∨ ∃ j : Nat, j < n2 ∧ (qls R n2 c (qlot R n2 z c)).2.2 i = (j : Int)) ∧ (∀ q, Nat.testBit (qls R n2 c (qlot R n2 z c)).2.1 q = true ↔ ∃ i, i < c + 1 ∧ (qls R n2 c (qlot R n2 z c)).2.2 i = (q : Int))
    revert i1 i2 i3 i4
    generalize qlot R n2 z c = p
    intro i1 i2 i3 i4
    unfold qls
    by_cases hF : qfr R n2 c p.2.1 = 0
    · rw [if_pos hF]
      refine ⟨i1, fun i hi => i2 i (by omega), i3, fun q => ?_⟩
      rw [i4 q]
      refine ⟨fun ⟨i, h1, h2⟩ => ⟨i, by omega, h2⟩, fun ⟨i, h1, h2⟩ => ⟨i, ?_, h2⟩⟩
      by_cases e : i = c
      · rw [e, i2 c (Nat.le_refl _)] at h2
        omega
      · omega
    · rw [if_neg hF]
      have hF7 : qfr R n2 c p.2.1 < 128 := qms_lt7 _ h2
      obtain ⟨j, j7, ej, hb⟩ := qpk_ex (z := qz p.1) hF7 hF
      rw [qfr_bit] at hb
      simp only [Bool.and_eq_true, decide_eq_true_eq] at hb
      have jn := hb.1
      rw [ej]
      refine ⟨?_, fun i hi => ?_, fun i => ?_, fun q => ?_⟩
      · show p.2.1 ||| 2 ^ ((j : Int)).toNat < 2 ^ 7
        rw [Int.toNat_natCast]
        exact Nat.or_lt_two_pow i1 (Nat.pow_lt_pow_right (by decide) j7)
      · show qu p.2.2 c (j : Int) i = -1
        rw [qu_n (by omega)]
        exact i2 i (by omega)
      · show qu p.2.2 c (j : Int) i = -1 ∨ ∃ k : Nat, k < n2 ∧ qu p.2.2 c (j : Int) i = (k : Int)
        by_cases e : i = c
        · rw [e, qu_s]
          exact Or.inr ⟨j, jn, rfl⟩
        · rw [qu_n e]
          exact i3 i
      · show Nat.testBit (p.2.1 ||| 2 ^ ((j : Int)).toNat) q = true ↔ ∃ i, i < c + 1 ∧ qu p.2.2 c (j : Int) i = (q : Int)
        rw [Int.toNat_natCast, Nat.testBit_or, Bool.or_eq_true, i4 q, Nat.testBit_two_pow, decide_eq_true_eq]
        constructor
        · rintro (⟨i, h1, h2⟩ | h)
          · exact ⟨i, by omega, by rw [qu_n (by omega)]; exact h2⟩
          · exact ⟨c, by omega, by rw [qu_s, h]⟩
        · rintro ⟨i, h1, h2⟩
          by_cases e : i = c
          · rw [e, qu_s] at h2
            exact Or.inr (by omega)
          · rw [qu_n e] at h2
            exact Or.inl ⟨i, by omega, h2⟩
theorem qlot_T {R : Nat → Int} {n2 : Nat} {z : Int} (h2 : n2 ≤ 7) {c : Nat} (hc : c ≤ 7) : (qlot R n2 z c).2.1 < 128 := (qlot_f h2 c hc).1
theorem xq_not : ∀ T : Nat, T < 128 → ∀ q : Nat, q < 7 → Nat.testBit (127 - T) q = !Nat.testBit T q := by decide +kernel
theorem xq_andn : ∀ A : Nat, A < 128 → ∀ T : Nat, T < 128 → xand (A : Int) (xxor (T : Int) (-1)) = ((A &&& (127 - T) : Nat) : Int) := by decide +kernel
theorem qfr_eq {R : Nat → Int} {n2 c T : Nat} (h2 : n2 ≤ 7) (hT : T < 128) : xand (qms (fun p => qmy R c p) n2 : Int) (xxor (T : Int) (-1)) = (qfr R n2 c T : Int) := by
  rw [xq_andn _ (qms_lt7 _ h2) _ hT]
  congr 1
  refine Nat.eq_of_testBit_eq (fun q => ?_)
  rw [Nat.testBit_and, qms_bit, qfr_bit]
  by_cases hq : q < n2
  · rw [xq_not T hT q (by omega), Bool.and_assoc]
  · simp [hq]
theorem e_partAt0 {d M k : Nat} {σ : xM} {Q : Int → xM → Prop} {y : Int} (hM : M < 128) (hk : k < 7) : Ev d 60 4 [vI (M : Int), vI y, vI (k : Int), vI 0] [] σ Q = Q (qat M 7 0 k) σ := e_partAt hM 7 0 k (by decide) hk
/-- the class draws -/
theorem e_draw {d n2 n3 : Nat} {σ : xM} {R : Nat → Int} {Q : Int → xM → Prop} {z x1 : Int} (h : Kp σ R) (h2 : R 2 = (n2 : Int)) (h3 : R 3 = (n3 : Int)) (hQ : ∀ s, Fr [38] σ s → (∀ i, i < n3 → s 38 0 i = (qlot R n2 z n3).2.2 i) → Q (qlot R n2 z n3).1 s) : ∀ f c : Nat, c + f = n3 → ∀ (w6 w7 : xV) (s : xM), Fr [38] σ s → (∀ i, i < c → s 38 0 i = (qlot R n2 z c).2.2 i) → Ev (d + 3) 59 8 [vR 5 0, vI x1, vR 38 0, vI (qlot R n2 z c).1, vI ((qlot R n2 z c).2.1 : Int), vI (c : Int), w6, w7] [] s Q
  | 0, c, e, w6, w7, s, hs, hi => by
    have e : c = n3 := e
    subst e
    have hk := Kp_sc h hs rfl
    rw [b_S_drawLots_8, Kp_chn hk, h3, if_neg (by omega)]
    exact hQ s hs hi
  | f + 1, c, e, w6, w7, s, hs, hi => by
    have hk := Kp_sc h hs rfl
    have p0 := h.1.1
    have c0 := h.1.2.1
    have n27 : n2 ≤ 7 := by omega
    have hc : (c : Int) < R 3 := by omega
    have c7 := xvl_c7 h.1 hc
    have hT := qlot_T (R := R) (z := z) n27 (c := c) (by omega)
    have ih := fun w6 w7 s => e_draw (d := d) (x1 := x1) h h2 h3 hQ f (c + 1) (by omega) w6 w7 s
    have eq : qlot R n2 z (c + 1) = qls R n2 c (qlot R n2 z c) := rfl
    rw [eq] at ih
    rw [b_S_drawLots_8, Kp_chn hk, if_pos hc, if_pos (by omega), b_S_partsFor_0]
    refine (e_paFor hk h2 hc n2 0 (Nat.zero_add _)).mpr ?_
    have hm := (qlot_f (R := R) (z := z) n27 c (by omega)).2.1 c (Nat.le_refl _)
    revert hi hT ih hm
    generalize qlot R n2 z c = p
    intro hi hT ih hm
    have hF7 : qfr R n2 c p.2.1 < 128 := qms_lt7 _ n27
    rw [qfr_eq n27 hT, e_bc hF7, xin (by omega) (by omega), Int.toNat_natCast]
    have pc := qpc_le _ hF7
    unfold qls at ih
    by_cases hF : qfr R n2 c p.2.1 = 0
    · rw [if_pos hF] at ih
      rw [if_neg (by omega), xs1 (by omega)]
      refine ih _ _ _ (Fr_trans hs (Fr_up (by decide))) (fun i hi' => ?_)
      by_cases e2 : i = c
      · rw [e2, xup_s]
        exact hm.symm
      · rw [xup_k e2]
        exact hi i (by omega)
    · rw [if_neg hF] at ih
      obtain ⟨k, ek, k1, k2⟩ := qmod (z := qz p.1) hF7 hF
      have ep : qpk (qfr R n2 c p.2.1) (qz p.1) = qat (qfr R n2 c p.2.1) 7 0 k := by unfold qpk; rw [ek, Int.toNat_natCast]
      obtain ⟨j, j7, ej, hb⟩ := qat_ex _ hF7 k k2 k1
      rw [if_pos (by omega)]
      refine ⟨by omega, ?_⟩
      rw [show xwr (xwr (p.1 * 1103515245) + 12345) = qz p.1 from rfl, ek, b_S_partAt_0, e_partAt0 hF7 k2, xin (by omega) (by omega), xin (by omega) (by omega), xup_s, ej, xq_ors _ hT j j7, xs1 (by omega)]
      rw [ep, ej, Int.toNat_natCast] at ih
      refine ih _ _ _ (Fr_trans hs (Fr_trans (Fr_up (by decide)) (Fr_up (by decide)))) (fun i hi' => ?_)
      by_cases e2 : i = c
      · rw [e2, xup_s]
        show (j : Int) = qu p.2.2 c (j : Int) c
        rw [qu_s]
      · rw [xup_k e2, xup_k e2]
        show _ = qu p.2.2 c (j : Int) i
        rw [qu_n e2]
        exact hi i (by omega)
