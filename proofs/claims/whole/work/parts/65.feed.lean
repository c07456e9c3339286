/-! what is fed -/
theorem bv255 : ∀ k : Nat, k < 32 → (255#32).getLsbD k = decide (k < 8) ∧ (255#64).getLsbD k = decide (k < 8) := by decide
theorem bvb (a : BitVec 64) (s : Nat) (hs : s ≤ 56) : (a >>> s).setWidth 32 &&& 255#32 = ((a.sshiftRight s) &&& 255#64).setWidth 32 := by
  apply BitVec.eq_of_getLsbD_eq
  intro k hk
  obtain ⟨h1, h2⟩ := bv255 k hk
  rw [BitVec.getLsbD_and, BitVec.getLsbD_setWidth, BitVec.getLsbD_ushiftRight, BitVec.getLsbD_setWidth, BitVec.getLsbD_and, BitVec.getLsbD_sshiftRight, h1, h2]
  by_cases h8 : k < 8
  · rw [if_pos (by omega)]
    simp [hk, h8, show ¬ 64 ≤ k by omega]
  · simp [h8]
theorem by_go (a : Int64) (s : Nat) (hs : s ≤ 56) (u : UInt64) (v : Int64) (hu : u.toBitVec = a.toBitVec >>> s) (hv : v.toBitVec = a.toBitVec.sshiftRight s) : (Int32.ofInt (Int64.ofInt u.toInt64.toInt).toInt32.toInt &&& Int32.ofInt 255).toInt = (Int64.ofInt (Int64.ofInt v.toInt &&& Int64.ofInt 255).toInt).toInt32.toInt := by
  rw [Int64.ofInt_toInt, Int64.ofInt_toInt, Int64.ofInt_toInt, Int32.ofInt_toInt]
  congr 1
  apply Int32.toBitVec_inj.mp
  have e1 : (u.toInt64.toInt32 &&& Int32.ofInt 255).toBitVec = (u.toBitVec.signExtend 32) &&& 255#32 := rfl
  have e2 : (v &&& Int64.ofInt 255).toInt32.toBitVec = (v.toBitVec &&& 255#64).signExtend 32 := rfl
  rw [e1, e2, BitVec.signExtend_eq_setWidth_of_le _ (by decide), BitVec.signExtend_eq_setWidth_of_le _ (by decide), hu, hv]
  exact bvb _ s hs
theorem xbyte (x : Int) {i : Nat} (hi : i < 8) : xand (xl2i (xlushr x (xwr (8 * (i : Int))))) 255 = xl2i (xland (xlshr x (xwr (8 * (i : Int)))) 255) := by
  unfold xand xl2i xlushr xland xlshr
  have : i = 0 ∨ i = 1 ∨ i = 2 ∨ i = 3 ∨ i = 4 ∨ i = 5 ∨ i = 6 ∨ i = 7 := by omega
  rcases this with e | e | e | e | e | e | e | e <;> subst e
  · exact by_go (Int64.ofInt x) 0 (by decide) _ _ rfl rfl
  · exact by_go (Int64.ofInt x) 8 (by decide) _ _ rfl rfl
  · exact by_go (Int64.ofInt x) 16 (by decide) _ _ rfl rfl
  · exact by_go (Int64.ofInt x) 24 (by decide) _ _ rfl rfl
  · exact by_go (Int64.ofInt x) 32 (by decide) _ _ rfl rfl
  · exact by_go (Int64.ofInt x) 40 (by decide) _ _ rfl rfl
  · exact by_go (Int64.ofInt x) 48 (by decide) _ _ rfl rfl
  · exact by_go (Int64.ofInt x) 56 (by decide) _ _ rfl rfl
def qby (x : Int) (i : Nat) : Int := xl2i (xland (xlshr x (xwr (8 * (i : Int)))) 255)
theorem and255 (a : Int32) : 0 ≤ (a &&& Int32.ofInt 255).toInt ∧ (a &&& Int32.ofInt 255).toInt ≤ 255 := by
  have h1 : (a &&& Int32.ofInt 255).toInt = (a.toBitVec &&& 255#32).toInt := rfl
  have h2 : (a.toBitVec &&& 255#32).toNat ≤ 255 := by
    rw [BitVec.toNat_and]
    exact Nat.and_le_right
  rw [h1, BitVec.toInt_eq_toNat_of_lt (by omega)]
  omega
theorem qby_rg (x : Int) {i : Nat} (hi : i < 8) : 0 ≤ qby x i ∧ qby x i ≤ 255 := by
  unfold qby
  rw [← xbyte x hi]
  exact and255 _
def qfd (R : Nat → Int) (t : Nat) (x : Int) : Nat → (Nat → Int)
  | 0 => R
  | i + 1 => qu (qfd R t x i) (84 + (t + i)) (qby x i)
theorem qfd_o {R : Nat → Int} {t : Nat} {x : Int} {j : Nat} : ∀ i, (j < 84 + t ∨ 84 + (t + i) ≤ j) → qfd R t x i j = R j
  | 0, _ => rfl
  | i + 1, h => by
    show qu (qfd R t x i) _ _ j = R j
    rw [qu_n (by omega), qfd_o i (by omega)]
theorem qfd_v {R : Nat → Int} {t : Nat} {x : Int} (h : xvl R) : ∀ i, xvl (qfd R t x i)
  | 0 => h
  | i + 1 => xvl_hi (qfd_v h i) (by omega)
theorem e_feed {d n t : Nat} {R : Nat → Int} {x : Int} {Q : Int → xM → Prop} {w2 : xV} (hv : xvl R) (ht : R 5 = (t : Int)) (h60 : t + n ≤ 60) (n8 : n ≤ 8) : ∀ f i : Nat, i + f = n → ∀ σ : xM, Kp σ (qfd R t x i) → (∀ s, N1 σ s → s 41 = σ 41 → Kp s (qu (qfd R t x n) 5 ((t + n : Nat) : Int)) → Q ((t + n : Nat) : Int) s) → Ev d 11 39 [vR 4 0, vL x, w2, vI (n : Int), vI (i : Int)] [] σ Q
  | 0, i, e, σ, h, hQ => by
    have e : i = n := e
    subst e
    have h5 : σ 5 0 5 = (t : Int) := by rw [h.2.1.2.2.2.2.2.1, qfd_o i (by omega), ht]
    rw [b_P_feed_39, if_neg (by omega), h5, xup_s, show xwr ((t : Int) + (i : Int)) = ((t + i : Nat) : Int) from by rw [xw (by omega) (by omega)]; omega]
    exact hQ _ (N1_up (by decide) (by unfold st1; omega)) (by rw [xup_t (by decide)]) ⟨xvl_lo h.1 (by decide) (by decide) (by decide) (by omega) (by omega) (fun _ => by omega) (by omega), xcpl_up5 (k := 5) h.2 (by decide)⟩
  | f + 1, i, e, σ, h, hQ => by
    have h5 : σ 5 0 5 = (t : Int) := by rw [h.2.1.2.2.2.2.2.1, qfd_o i (by omega), ht]
    rw [b_P_feed_39, if_pos (by omega), h5, show xwr ((t : Int) + (i : Int)) = ((t + i : Nat) : Int) from by rw [xw (by omega) (by omega)]; omega, xin (by omega) (by omega), Int.toNat_natCast, xs1 (by omega), xbyte x (by omega)]
    exact e_feed hv ht h60 n8 f (i + 1) (by omega) _ ⟨qfd_v hv (i + 1), xcpl_up11 h.2 (by omega) (qby_rg x (by omega))⟩ (fun s h1 h2 h3 => hQ s (N1_trans (N1_up (by decide) (by unfold st1; omega)) h1) (by rw [h2, xup_t (by decide)]) h3)
theorem m_feed {d n t : Nat} {R : Nat → Int} {x : Int} {Q : Int → xM → Prop} {w2 : xV} (ht : R 5 = (t : Int)) (h60 : t + n ≤ 60) (n8 : n ≤ 8) : ∀ f i : Nat, i + f = n → ∀ σ : xM, σ 41 0 = qu (qfd R t x i) 5 ((t + i : Nat) : Int) → (∀ s, Fr [41] σ s → s 41 0 = qu (qfd R t x n) 5 ((t + n : Nat) : Int) → Q ((t + n : Nat) : Int) s) → Ev d 156 40 [vR 40 0, vL x, w2, vI (n : Int), vI (i : Int)] [] σ Q
  | 0, i, e, σ, h, hQ => by
    have e : i = n := e
    subst e
    rw [b_M_feed_40, if_neg (by omega), xin (by decide) (by decide), show Int.toNat 5 = 5 from rfl]
    have h5 : σ 41 0 5 = ((t + i : Nat) : Int) := by rw [h, qu_s]
    rw [h5]
    exact hQ _ Fr_refl h
  | f + 1, i, e, σ, h, hQ => by
    have h5 : σ 41 0 5 = ((t + i : Nat) : Int) := by rw [h, qu_s]
    have e84 : xwr (84 + ((t + i : Nat) : Int)) = ((84 + (t + i) : Nat) : Int) := by rw [xw (by omega) (by omega)]; omega
    rw [b_M_feed_40, if_pos (by omega), show Int.toNat 5 = 5 from rfl, h5, e84, xin (by decide) (by decide), xin (by omega) (by omega), xin (by decide) (by decide), xin (by decide) (by decide), Int.toNat_natCast, xup_k (by omega), h5, xs1 (by omega), xs1 (by omega)]
    refine m_feed ht h60 n8 f (i + 1) (by omega) _ ?_ (fun s h1 h2 => hQ s (Fr_trans (Fr_trans (Fr_up (by decide)) (Fr_up (by decide))) h1) h2)
    rw [xup_row, xup_row, h]
    show qu (qu (qu (qfd R t x i) 5 _) _ (qby x i)) 5 _ = qu (qu (qfd R t x i) (84 + (t + i)) (qby x i)) 5 _
    rw [qu_comm (i := 5) (by omega), qu_qu]
    rfl
theorem call_feed {d : Nat} {σ : xM} (h : Inv σ) (x y : Int) (hy : y < 2147483648) : Ev (d + 9) m_P_feed 0 [vR 4 0, vL x, vR 0 0, vI y, vR 0 0] [] σ (fun r s => Ev (d + 9) m_M_feed 0 [vR 40 0, vL x, vR 0 0, vI y, vR 0 0] [] s (fun r' s' => r = r' ∧ Inv s')) := by
  have hk := Inv_Kp h
  have t5 := h.1.2.2.2.2.1
  have h5 : σ 5 0 5 = σ 41 0 5 := hk.2.1.2.2.2.2.2.1
  obtain ⟨t, ht⟩ : ∃ t : Nat, σ 41 0 5 = (t : Int) := ⟨(σ 41 0 5).toNat, by omega⟩
  rw [b_P_feed_0, e_isWithin]
  simp only [xbc]
  by_cases hx : 1 ≤ y ∧ y ≤ 8
  · obtain ⟨n, hn⟩ : ∃ n : Nat, y = (n : Int) := ⟨y.toNat, by omega⟩
    subst hn
    have hs : xwr ((t : Int) + (n : Int)) = (t : Int) + (n : Int) := xw (by omega) (by omega)
    rw [if_neg (fun q => q hx), h5, ht, hs]
    by_cases h60 : 60 < (t : Int) + (n : Int)
    · rw [if_pos h60, e_fail4, b_M_feed_0, e_in]
      simp only [xbc]
      rw [if_neg (fun q => q hx), xin (by decide) (by decide), show Int.toNat 5 = 5 from rfl, x39, ht, hs, if_pos h60]
      exact fin4 h
    · rw [if_neg h60]
      refine e_feed (R := σ 41 0) h.1 ht (by omega) (by omega) n 0 (Nat.zero_add _) σ hk (fun s h1 h2 h3 => ?_)
      rw [b_M_feed_0, e_in]
      simp only [xbc]
      rw [if_neg (fun q => q hx), xin (by decide) (by decide), show Int.toNat 5 = 5 from rfl, h2, ht, hs, if_neg h60]
      refine m_feed (R := σ 41 0) ht (by omega) (by omega) n 0 (Nat.zero_add _) s ?_ (fun s' hs' hr => ⟨rfl, inv_fin (l := [41]) h h1 h3 hs' rfl rfl hr⟩)
      show _ = qu (σ 41 0) 5 ((t : Nat) : Int)
      rw [← ht, qu_self, h2]
  · rw [if_pos hx, e_fail1, b_M_feed_0, e_in]
    simp only [xbc]
    rw [if_pos hx]
    exact fin1 h
