/-! the class's liar -/
def yd (m p : Nat) : Nat := if p = m then 7 else p
theorem rank_go {d n : Nat} {σ : xM} {Q : Int → xM → Prop} (n7 : n ≤ 7) : ∀ (l : List Nat) (i a : Nat), i + l.length = n → (∀ x, x ∈ l → x < 8) → (∀ j, j < l.length → σ 24 0 (i + j) = dg (l.getD j 7)) → a < 8 ^ i → Ev d 106 4 [vR 24 0, vI (n : Int), vI (a : Int), vI (i : Int)] [] σ Q = Q (qrk l a : Int) σ
  | [], i, a, e, _, _, _ => by
    have e : i = n := e
    rw [b_L_rankOf_4, if_neg (by omega)]
    rfl
  | x :: r, i, a, e, hl, hσ, ha => by
    rw [List.length_cons] at e hσ
    have p8 : 8 ^ i ≤ 8 ^ 6 := Nat.pow_le_pow_right (by decide) (by omega)
    have e6 : (8 : Nat) ^ 6 = 262144 := by decide
    have hx := hl x List.mem_cons_self
    have h0 : σ 24 0 i = dg x := hσ 0 (by omega)
    have ha' : a * 8 + x < 8 ^ (i + 1) := by rw [Nat.pow_succ]; omega
    have ih := rank_go (d := d) (Q := Q) (σ := σ) n7 r (i + 1) (a * 8 + x) (by omega) (fun y hy => hl y (List.mem_cons_of_mem _ hy)) (fun j hj => by have := hσ (j + 1) (by omega); rw [show i + 1 + j = i + (j + 1) by omega, this]; rfl) ha'
    show _ = Q (qrk r (a * 8 + x) : Int) σ
    rw [b_L_rankOf_4, if_pos (by omega), xin (by omega) (by omega), xin (by omega) (by omega), Int.toNat_natCast, h0, xs1 (by omega), xw (x := (a : Int) * 8) (by omega) (by omega)]
    unfold dg
    by_cases e7 : x = 7
    · rw [if_pos e7, if_pos rfl, xw (by omega) (by omega), show (a : Int) * 8 + 7 = ((a * 8 + x : Nat) : Int) by omega]
      exact ih
    · rw [if_neg e7, if_neg (by omega), xw (by omega) (by omega), show (a : Int) * 8 + (x : Int) = ((a * 8 + x : Nat) : Int) by omega]
      exact ih
def qmv (R : Nat → Int) (m k p : Nat) : Int := if p = m then 1 else qmy R k p
/-- what the class learns of the others -/
def qLO (R : Nat → Int) (m n k : Nat) (s : xM) (p : Nat) : Prop := ∀ q, q < p → s 26 0 q = qvl (qlv (qWw R) k) m n 0 (qS 0 (yd m q)) ∧ s 28 0 q = qmv R m k q ∧ s 27 0 q = (qrk ((qgl (qlv (qWw R) k) m n 0 (qS 0 (yd m q))).set k (yd m q)) 0 : Int)
theorem e_lo12 {d n m k : Nat} {R : Nat → Int} {Q : Int → xM → Prop} {σ : xM} (h : Kp σ R) (h3 : R 3 = (n : Int)) (h2 : R 2 = (m : Int)) (n7 : n ≤ 7) (m7 : m ≤ 7) (hk : k < n) (hC : Cw σ (qlv (qWw R) k) n m) (h25 : σ 25 0 0 = (m : Int)) (h23 : ∀ a, a ≤ n → ∀ T, T < 2 ^ m → σ 23 a T = qvl (qlv (qWw R) k) m (n - a) a T) (hQ : ∀ s, Fr [24, 26, 27, 28] σ s → qLO R m n k s (m + 1) → Q 0 s) :
    ∀ f p : Nat, p + f = m + 1 → ∀ (w : xV) (s : xM), Fr [24, 26, 27, 28] σ s → qLO R m n k s p → Ev (d + 4) 105 12 [vR 25 0, vR 5 0, vR 19 0, vI (k : Int), vI (p : Int), w] [] s Q
  | 0, p, e, w, s, hf, hL => by
    rw [b_L_learnOthers_12, hf 25 (by decide), h25, if_pos (by omega)]
    exact hQ s hf (by rw [show m + 1 = p by omega]; exact hL)
  | f + 1, p, e, w, s, hf, hL => by
    have hW : qWok (qlv (qWw R) k) := qlv_ok (qWw_ok R)
    have ih := fun p e w s => e_lo12 (d := d) h h3 h2 n7 m7 hk hC h25 h23 hQ f p e w s
    have s25 : ∀ (s7 : xM), Fr [24, 26, 27, 28] σ s7 → s7 25 0 0 = (m : Int) := fun s7 g => by rw [g 25 (by decide), h25]
    have tail : ∀ (T : Nat) (mv : Int) (w : xV), qS 0 (yd m p) = T → mv = qmv R m k p → Ev (d + 3) 100 0 [vR 19 0, vI (T : Int)] [] (xup s 28 0 p mv) (fun v6 s6 => ((0 : Int) ≤ (p : Int) ∧ (p : Int) < 8) ∧ (Ev (d + 3) 101 0 [vR 19 0, vI (T : Int), vR 0 0, vR 0 0] [] (xup s6 26 0 p v6) (fun v7 s7 => if (p : Int) < (s7 25 0 0) then ((0 : Int) ≤ (k : Int) ∧ (k : Int) < 7) ∧ (Ev (d + 3) 106 0 [vR 24 0, vI ((xup s7 24 0 k (p : Int)) 5 0 1), vR 0 0, vR 0 0] [] (xup s7 24 0 k (p : Int)) (fun v8 s8 => ((0 : Int) ≤ (p : Int) ∧ (p : Int) < 8) ∧ (Ev (d + 4) 105 12 [vR 25 0, vR 5 0, vR 19 0, vI (k : Int), vI ((p + 1 : Nat) : Int), w] [] (xup s8 27 0 p v8) Q))) else ((0 : Int) ≤ (k : Int) ∧ (k : Int) < 7) ∧ (Ev (d + 3) 106 0 [vR 24 0, vI ((xup s7 24 0 k (-1)) 5 0 1), vR 0 0, vR 0 0] [] (xup s7 24 0 k (-1)) (fun v8 s8 => ((0 : Int) ≤ (p : Int) ∧ (p : Int) < 8) ∧ (Ev (d + 4) 105 12 [vR 25 0, vR 5 0, vR 19 0, vI (k : Int), vI ((p + 1 : Nat) : Int), w] [] (xup s8 27 0 p v8) Q)))))) := by
      intro T mv w eT emv
      obtain ⟨v, ev⟩ : ∃ v, v = yd m p := ⟨_, rfl⟩
      rw [← ev] at eT
      have hv7 : v = 7 ∨ v < m := by
        rw [ev]
        unfold yd
        split
        · exact Or.inl rfl
        · exact Or.inr (by omega)
      have hT : T < 2 ^ m := by
        rw [← eT]
        exact qS_lt (Nat.two_pow_pos m) hv7
      have hT7 := pw7 hT m7
      have f1 : Fr [24, 26, 27, 28] σ (xup s 28 0 p mv) := Fr_trans hf (Fr_up (by decide))
      have val : qvl (qlv (qWw R) k) m n 0 T = qvl (qlv (qWw R) k) m n 0 (qS 0 (yd m p)) := by rw [← ev, eT]
      rw [b_A_mostWithout_0, xin (by decide) (by decide), xin (by omega) (by omega), Int.toNat_natCast, show Int.toNat 0 = 0 from rfl, f1 23 (by decide), h23 0 (Nat.zero_le _) T hT, Nat.sub_zero]
      refine ⟨by omega, ?_⟩
      have f2 : Fr [24, 26, 27, 28] σ (xup (xup s 28 0 p mv) 26 0 p (qvl (qlv (qWw R) k) m n 0 T)) := Fr_trans f1 (Fr_up (by decide))
      refine e_assign (Cw_Fr hC f2 rfl rfl) hW n7 m7 hT (fun a ha U hU => by rw [f2 23 (by decide)]; exact h23 a ha U hU) (fun s7 k1 k2 => ?_)
      have f3 : Fr [24, 26, 27, 28] σ s7 := Fr_trans f2 (Fr_mono k1 (by decide))
      obtain ⟨g1, g2⟩ := qgl_ok (W := qlv (qWw R) k) m7 n 0 T
      obtain ⟨len, dgt⟩ := qvc_len m7 g1
      have fin : Ev (d + 3) 106 0 [vR 24 0, vI ((xup s7 24 0 k (dg v)) 5 0 1), vR 0 0, vR 0 0] [] (xup s7 24 0 k (dg v)) (fun v8 s8 => ((0 : Int) ≤ (p : Int) ∧ (p : Int) < 8) ∧ (Ev (d + 4) 105 12 [vR 25 0, vR 5 0, vR 19 0, vI (k : Int), vI ((p + 1 : Nat) : Int), w] [] (xup s8 27 0 p v8) Q)) := by
        have f4 : Fr [24, 26, 27, 28] σ (xup s7 24 0 k (dg v)) := Fr_trans f3 (Fr_up (by decide))
        have e5 : xup s7 24 0 k (dg v) 5 0 1 = (n : Int) := by rw [f4 5 (by decide), Kp_chn h, h3]
        rw [e5, b_L_rankOf_0]
        refine (rank_go (n := n) n7 ((qgl (qlv (qWw R) k) m n 0 T).set k v) 0 0 (by rw [List.length_set, len]; omega) (fun x hx => ?_) (fun j hj => ?_) (by decide)).mpr ?_
        · rcases List.mem_or_eq_of_mem_set hx with q | q
          · exact dgt x q
          · omega
        · rw [List.length_set, len] at hj
          rw [Nat.zero_add]
          by_cases ej : j = k
          · rw [ej, xup_s, qset_getD _ k v (by rw [len]; exact hk)]
          · rw [xup_k ej, k2 j hj, List.getD_eq_getElem?_getD, List.getD_eq_getElem?_getD, List.getElem?_set_ne (fun q => ej q.symm)]
        · refine ⟨by omega, ?_⟩
          refine ih (p + 1) (by omega) _ _ (Fr_trans f4 (Fr_up (by decide))) (fun q hq => ?_)
          by_cases eq : q = p
          · subst eq
            refine ⟨?_, ?_, ?_⟩
            · rw [xup_t (by decide), xup_t (by decide), k1 26 (by decide), xup_s, val]
            · rw [xup_t (by decide), xup_t (by decide), k1 28 (by decide), xup_t (by decide), xup_s, emv]
            · rw [xup_s, ← eT, ev]
          · obtain ⟨a1, a2, a3⟩ := hL q (by omega)
            refine ⟨?_, ?_, ?_⟩
            · rw [xup_t (by decide), xup_t (by decide), k1 26 (by decide), xup_k eq, xup_t (by decide)]
              exact a1
            · rw [xup_t (by decide), xup_t (by decide), k1 28 (by decide), xup_t (by decide), xup_k eq]
              exact a2
            · rw [xup_k eq, xup_t (by decide), k1 27 (by decide), xup_t (by decide), xup_t (by decide)]
              exact a3
      rw [s25 s7 f3]
      by_cases epm : p = m
      · have ed : dg v = -1 := by rw [ev]; unfold yd dg; rw [if_pos epm, if_pos rfl]
        rw [ed] at fin
        rw [if_neg (by omega)]
        exact ⟨by omega, fin⟩
      · have ed : dg v = (p : Int) := by rw [ev]; unfold yd dg; rw [if_neg epm, if_neg (by omega)]
        rw [ed] at fin
        rw [if_pos (by omega)]
        exact ⟨by omega, fin⟩
    by_cases epm : p = m
    · have t0 := tail 0 1 (vI 0) (by unfold yd; rw [if_pos epm]; rfl) (by unfold qmv; rw [if_pos epm])
      rw [b_L_learnOthers_12, s25 s hf, if_neg (by omega), if_neg (by omega), if_pos (by omega), xs1 (by omega)]
      exact ⟨by omega, Or.inr rfl, t0⟩
    · have eT : qS 0 (yd m p) = 2 ^ p := by
        unfold yd qS
        rw [if_neg epm, if_neg (by omega), Nat.zero_or]
      rw [b_L_learnOthers_12, s25 s hf, if_neg (by omega), if_pos (by omega), if_neg (by omega), e_may (Kp_sc h hf rfl) (by omega) (by omega), xshl1 p (by omega), xs1 (by omega)]
      by_cases e0 : qmy R k p = 0
      · rw [if_pos e0]
        exact ⟨by omega, Or.inl rfl, tail (2 ^ p) 0 (vI ((2 ^ p : Nat) : Int)) eT (by unfold qmv; rw [if_neg epm, e0])⟩
      · rw [if_neg e0]
        exact ⟨by omega, Or.inr rfl, tail (2 ^ p) 1 (vI ((2 ^ p : Nat) : Int)) eT (by unfold qmv; rw [if_neg epm]; rcases qmy01 R k p with q | q <;> omega)⟩
theorem e_learnO {d n m k : Nat} {R : Nat → Int} {Q : Int → xM → Prop} {σ : xM} (h : Kp σ R) (h3 : R 3 = (n : Int)) (h2 : R 2 = (m : Int)) (n7 : n ≤ 7) (m7 : m ≤ 7) (hk : k < n) (hC : Cw σ (qWw R) n m) (h25 : σ 25 0 0 = (m : Int)) (hQ : ∀ s, Fr [21, 23, 24, 26, 27, 28] σ s → qLO R m n k s (m + 1) → Q 0 s) : Ev (d + 4) 105 0 [vR 25 0, vR 5 0, vR 19 0, vI (k : Int), vR 0 0, vR 0 0] [] σ Q := by
  rw [b_L_learnOthers_0]
  refine e_leave0 hC n7 m7 hk (fun s1 f1 g1 => ?_)
  refine e_workOut2 g1 (qlv_ok (qWw_ok R)) n7 m7 (fun s2 f2 g2 => ?_)
  have f12 : Fr [21, 23] σ s2 := Fr_trans (Fr_mono f1 (by decide)) (Fr_mono f2 (by decide))
  refine e_lo12 (n := n) (m := m) (k := k) (R := R) (Kp_sc h f12 rfl) h3 h2 n7 m7 hk (Cw_Fr g1 f2 rfl rfl) (by rw [f12 25 (by decide), h25]) g2 (fun s3 f3 g3 => hQ s3 (Fr_trans (Fr_mono f12 (by decide)) (Fr_mono f3 (by decide))) g3) (m + 1) 0 (Nat.zero_add _) _ s2 Fr_refl (fun q hq => absurd hq (by omega))
/-- worth, if it were so dear -/
def qwi (R : Nat → Int) (k p : Nat) (w : Int) : Int := qg0 (qP R 0) w (if R (21 + 9 * k + 4) = (p : Int) then 1 else 0) (R (21 + 9 * k + 0))
def qLW (R : Nat → Int) (k : Nat) (s : xM) (p : Nat) : Prop := ∀ q, q < p → s 29 0 q = qwo R k (q : Int) ∧ ∀ w : Nat, w < 4 → s 31 w q = qwi R k q (w : Int)
theorem e_lw {d m k : Nat} {R : Nat → Int} {Q : Int → xM → Prop} {σ : xM} (h : Kp σ R) (m7 : m ≤ 7) (hk : k < 7) (h25 : σ 25 0 0 = (m : Int)) (hQ : ∀ s, Fr [15, 29, 31, 32] σ s → qLW R k s m → s 29 0 m = 0 → s 32 0 m = 0 → Q 0 s) : ∀ f p : Nat, p + f = m → ∀ (w : xV) (s : xM), Fr [15, 29, 31, 32] σ s → qLW R k s p → Ev (d + 4) 107 2 [vR 25 0, vR 5 0, vI (k : Int), vI (p : Int), w] [] s Q
  | 0, p, e, w, s, hf, hL => by
    have e : p = m := e
    subst e
    have e25 : s 25 0 0 = (p : Int) := by rw [hf 25 (by decide), h25]
    rw [b_L_learnWorth_2, e25, if_neg (by omega), Int.toNat_natCast, xup_t (t' := 25) (by decide), e25, xin (by omega) (by omega), xin (by omega) (by omega), Int.toNat_natCast]
    refine hQ _ (Fr_trans hf (Fr_trans (Fr_up (by decide)) (Fr_up (by decide)))) (fun q hq => ?_) (by rw [xup_t (by decide), xup_s]) (by rw [xup_s])
    rw [xup_t (t' := 29) (by decide), xup_k (by omega), xup_t (t' := 31) (by decide), xup_t (t' := 31) (by decide)]
    exact hL q hq
  | f + 1, p, e, w, s, hf, hL => by
    have e25 : s 25 0 0 = (m : Int) := by rw [hf 25 (by decide), h25]
    rw [b_L_learnWorth_2, e25, if_pos (by omega)]
    refine e_worth (Kp_sc h hf rfl) hk (fun s1 f1 => ?_)
    rw [xin (by omega) (by omega), Int.toNat_natCast]
    have inner : ∀ g wd : Nat, wd + g = 4 → ∀ s2 : xM, Fr [15, 29, 31, 32] σ s2 → qLW R k s2 p → s2 29 0 p = qwo R k (p : Int) → (∀ v : Nat, v < wd → s2 31 v p = qwi R k p (v : Int)) → Ev (d + 4) 107 25 [vR 25 0, vR 5 0, vI (k : Int), vI (p : Int), vI (wd : Int)] [] s2 Q := by
      intro g
      induction g with
      | zero =>
        intro wd ew s2 hf2 hL2 l1 l2
        rw [b_L_learnWorth_25, if_pos (by omega), xs1 (by omega)]
        refine e_lw h m7 hk h25 hQ f (p + 1) (by omega) _ s2 hf2 (fun q hq => ?_)
        by_cases eq : q = p
        · subst eq
          exact ⟨l1, fun v hv => l2 v (by omega)⟩
        · exact hL2 q (by omega)
      | succ g ihg =>
        intro wd ew s2 hf2 hL2 l1 l2
        rw [b_L_learnWorth_25, if_neg (by omega), xin (by omega) (by omega)]
        refine e_worthIf (Kp_sc h hf2 rfl) hk (fun s3 f3 => ?_)
        rw [xin (by omega) (by omega), Int.toNat_natCast, Int.toNat_natCast, xs1 (by omega)]
        refine ihg (wd + 1) (by omega) _ (Fr_trans hf2 (Fr_trans (Fr_mono f3 (by decide)) (Fr_up (by decide)))) (fun q hq => ?_) (by rw [xup_t (by decide), f3 29 (by decide)]; exact l1) (fun v hv => ?_)
        · obtain ⟨a1, a2⟩ := hL2 q hq
          refine ⟨by rw [xup_t (by decide), f3 29 (by decide)]; exact a1, fun v hv => ?_⟩
          by_cases ev : v = wd
          · rw [ev, xup_k (by omega), f3 31 (by decide)]
            exact a2 wd (by omega)
          · rw [xup_i ev, f3 31 (by decide)]
            exact a2 v hv
        · by_cases ev : v = wd
          · rw [ev, xup_s]
            rfl
          · rw [xup_i ev, f3 31 (by decide)]
            exact l2 v (by omega)
    refine inner 4 0 (by decide) _ (Fr_trans hf (Fr_trans (Fr_mono f1 (by decide)) (Fr_up (by decide)))) (fun q hq => ?_) (by rw [xup_s]) (fun v hv => absurd hv (by omega))
    obtain ⟨a1, a2⟩ := hL q hq
    refine ⟨by rw [xup_k (by omega), f1 29 (by decide)]; exact a1, fun v hv => by rw [xup_t (by decide), f1 31 (by decide)]; exact a2 v hv⟩
theorem e_learnW {d m k : Nat} {R : Nat → Int} {Q : Int → xM → Prop} {σ : xM} (h : Kp σ R) (m7 : m ≤ 7) (hk : k < 7) (h25 : σ 25 0 0 = (m : Int)) (hQ : ∀ s, Fr [15, 29, 31, 32] σ s → qLW R k s m → s 29 0 m = 0 → s 32 0 m = 0 → Q 0 s) : Ev (d + 4) 107 0 [vR 25 0, vR 5 0, vI (k : Int), vR 0 0, vR 0 0] [] σ Q := by
  rw [b_L_learnWorth_0]
  exact e_lw h m7 hk h25 hQ m 0 (Nat.zero_add _) _ σ Fr_refl (fun q hq => absurd hq (by omega))
/-- how dear, by a lie -/
def qdl (a b p : Nat) : Nat := if p = a then 3 else if p = b then 2 else 0
theorem e_claim {d m a b : Nat} {Q : Int → xM → Prop} {σ : xM} (m7 : m ≤ 7) (h25 : σ 25 0 0 = (m : Int)) (hQ : ∀ s, Fr [32] σ s → (∀ q, q < m → s 32 0 q = σ 31 (qdl a b q) q) → s 32 0 m = σ 32 0 m → Q 0 s) : ∀ f p : Nat, p + f = m → ∀ (w : xV) (s : xM), Fr [32] σ s → (∀ q, q < p → s 32 0 q = σ 31 (qdl a b q) q) → s 32 0 m = σ 32 0 m → Ev d 108 2 [vR 25 0, vI (a : Int), vI (b : Int), vI (p : Int), w] [] s Q
  | 0, p, e, w, s, hf, hL, hm => by
    have e : p = m := e
    subst e
    rw [b_L_claim_2, hf 25 (by decide), h25, if_neg (by omega)]
    exact hQ s hf hL hm
  | f + 1, p, e, w, s, hf, hL, hm => by
    have next : ∀ (v : Nat) (w : xV), v = qdl a b p → Ev d 108 2 [vR 25 0, vI (a : Int), vI (b : Int), vI ((p + 1 : Nat) : Int), w] [] (xup s 32 0 p (s 31 v p)) Q := by
      intro v w ev
      refine e_claim m7 h25 hQ f (p + 1) (by omega) _ _ (Fr_trans hf (Fr_up (by decide))) (fun q hq => ?_) (by rw [xup_k (by omega)]; exact hm)
      by_cases eq : q = p
      · rw [eq, xup_s, ev, hf 31 (by decide)]
      · rw [xup_k eq]
        exact hL q (by omega)
    unfold qdl at next
    rw [b_L_claim_2, hf 25 (by decide), h25, if_pos (by omega), xs1 (by omega), Int.toNat_natCast, show Int.toNat 3 = 3 from rfl, show Int.toNat 2 = 2 from rfl, show Int.toNat 0 = 0 from rfl]
    by_cases e1 : p = a
    · rw [if_pos (by omega)]
      exact ⟨by decide, by omega, by omega, next 3 _ (by rw [if_pos e1])⟩
    · rw [if_neg (by omega)]
      by_cases e2 : p = b
      · rw [if_pos (by omega)]
        exact ⟨by decide, by omega, by omega, next 2 _ (by rw [if_neg e1, if_pos e2])⟩
      · rw [if_neg (by omega)]
        exact ⟨by decide, by omega, by omega, next 0 _ (by rw [if_neg e1, if_neg e2])⟩
/-- the choice -/
def qch (U O K M : Nat → Int) : Nat → Nat → Nat → Nat
  | 0, _, c => c
  | f + 1, p, c => qch U O K M f (p + 1) (if M p = 0 then c else if 0 < U p + O p - U c - O c then p else if U p + O p - U c - O c = 0 then (if K p < K c then p else c) else c)
theorem qch_ok {U O K M : Nat → Int} : ∀ f p c : Nat, (qch U O K M f p c = c ∨ (p ≤ qch U O K M f p c ∧ qch U O K M f p c < p + f ∧ M (qch U O K M f p c) ≠ 0)) ∧ (∀ q, (q = c ∨ (p ≤ q ∧ q < p + f ∧ M q ≠ 0)) → U q + O q < U (qch U O K M f p c) + O (qch U O K M f p c) ∨ (U q + O q = U (qch U O K M f p c) + O (qch U O K M f p c) ∧ K (qch U O K M f p c) ≤ K q))
  | 0, p, c => ⟨Or.inl rfl, fun q hq => by
      rcases hq with e | ⟨h1, h2, -⟩
      · rw [e]
        exact Or.inr ⟨rfl, Int.le_refl _⟩
      · omega⟩
  | f + 1, p, c => by
    have eq : qch U O K M (f + 1) p c = qch U O K M f (p + 1) (if M p = 0 then c else if 0 < U p + O p - U c - O c then p else if U p + O p - U c - O c = 0 then (if K p < K c then p else c) else c) := rfl
    rw [eq]
    obtain ⟨c', hc'⟩ : ∃ c', c' = (if M p = 0 then c else if 0 < U p + O p - U c - O c then p else if U p + O p - U c - O c = 0 then (if K p < K c then p else c) else c) := ⟨_, rfl⟩
    rw [← hc']
    obtain ⟨i1, i2⟩ := qch_ok (U := U) (O := O) (K := K) (M := M) f (p + 1) c'
    have hcp : c' = c ∨ (c' = p ∧ M p ≠ 0) := by
      rw [hc']
      by_cases e0 : M p = 0
      · rw [if_pos e0]
        exact Or.inl rfl
      · rw [if_neg e0]
        split
        · exact Or.inr ⟨rfl, e0⟩
        · split
          · split
            · exact Or.inr ⟨rfl, e0⟩
            · exact Or.inl rfl
          · exact Or.inl rfl
    have dom : ∀ q, (q = c ∨ (q = p ∧ M p ≠ 0)) → U q + O q < U c' + O c' ∨ (U q + O q = U c' + O c' ∧ K c' ≤ K q) := by
      intro q hq
      by_cases e0 : M p = 0
      · rw [if_pos e0] at hc'
        rcases hq with e | ⟨-, e⟩
        · rw [hc', e]
          exact Or.inr ⟨rfl, Int.le_refl _⟩
        · exact absurd e0 e
      · rw [if_neg e0] at hc'
        by_cases e1 : 0 < U p + O p - U c - O c
        · rw [if_pos e1] at hc'
          rw [hc']
          rcases hq with e | ⟨e, -⟩
          · rw [e]
            exact Or.inl (by omega)
          · rw [e]
            exact Or.inr ⟨rfl, Int.le_refl _⟩
        · rw [if_neg e1] at hc'
          by_cases e2 : U p + O p - U c - O c = 0
          · rw [if_pos e2] at hc'
            by_cases e3 : K p < K c
            · rw [if_pos e3] at hc'
              rw [hc']
              rcases hq with e | ⟨e, -⟩
              · rw [e]
                exact Or.inr ⟨by omega, by omega⟩
              · rw [e]
                exact Or.inr ⟨rfl, Int.le_refl _⟩
            · rw [if_neg e3] at hc'
              rw [hc']
              rcases hq with e | ⟨e, -⟩
              · rw [e]
                exact Or.inr ⟨rfl, Int.le_refl _⟩
              · rw [e]
                exact Or.inr ⟨by omega, by omega⟩
          · rw [if_neg e2] at hc'
            rw [hc']
            rcases hq with e | ⟨e, -⟩
            · rw [e]
              exact Or.inr ⟨rfl, Int.le_refl _⟩
            · rw [e]
              exact Or.inl (by omega)
    refine ⟨?_, fun q hq => ?_⟩
    · rcases i1 with e | ⟨h1, h2, h3⟩
      · rw [e]
        rcases hcp with g | ⟨g, g2⟩
        · exact Or.inl g
        · rw [g]
          exact Or.inr ⟨Nat.le_refl _, by omega, g2⟩
      · exact Or.inr ⟨by omega, by omega, h3⟩
    · by_cases hq2 : p + 1 ≤ q ∧ q < p + 1 + f ∧ M q ≠ 0
      · exact i2 q (Or.inr hq2)
      · have hq3 : q = c ∨ (q = p ∧ M p ≠ 0) := by
          rcases hq with e | ⟨h1, h2, h3⟩
          · exact Or.inl e
          · by_cases e : q = p
            · exact Or.inr ⟨e, by rw [← e]; exact h3⟩
            · exact absurd ⟨by omega, by omega, h3⟩ hq2
        have d1 := dom q hq3
        have d2 := i2 c' (Or.inl rfl)
        rcases d1 with d1 | ⟨d1, d1'⟩
        · rcases d2 with d2 | ⟨d2, d2'⟩
          · exact Or.inl (by omega)
          · exact Or.inl (by omega)
        · rcases d2 with d2 | ⟨d2, d2'⟩
          · exact Or.inl (by omega)
          · exact Or.inr ⟨by omega, by omega⟩
theorem e_ch {d m : Nat} {U O K M : Nat → Int} {Q : Int → xM → Prop} {σ : xM} (m7 : m ≤ 7) (h25 : σ 25 0 0 = (m : Int)) (hU : ∀ p, p ≤ m → σ 29 0 p = U p) (hO : ∀ p, p ≤ m → σ 26 0 p = O p) (hK : ∀ p, p ≤ m → σ 27 0 p = K p) (hM : ∀ p, p ≤ m → σ 28 0 p = M p) (bU : ∀ p, p ≤ m → 0 ≤ U p ∧ U p ≤ 99) (bO : ∀ p, p ≤ m → 0 ≤ O p ∧ O p ≤ 693) : ∀ f p c : Nat, p + f = m → c ≤ m → ∀ w : xV, Ev d 109 7 [vR 25 0, vR 29 0, vI (c : Int), vI (p : Int), w] [] σ Q = Q (qch U O K M f p c : Int) σ
  | 0, p, c, e, hc, w => by
    rw [b_L_chosenBy_7, h25, if_neg (by omega)]
    rfl
  | f + 1, p, c, e, hc, w => by
    have u1 := bU p (by omega)
    have u2 := bU c hc
    have o1 := bO p (by omega)
    have o2 := bO c hc
    have ea : xwr (xwr (xwr (U p + O p) - U c) - O c) = U p + O p - U c - O c := by
      rw [xw (x := U p + O p) (by omega) (by omega), xw (x := U p + O p - U c) (by omega) (by omega), xw (by omega) (by omega)]
    have g := fun c' hc' w => e_ch (d := d) (Q := Q) m7 h25 hU hO hK hM bU bO f (p + 1) c' (by omega) hc' w
    show _ = Q (qch U O K M f (p + 1) (if M p = 0 then c else if 0 < U p + O p - U c - O c then p else if U p + O p - U c - O c = 0 then (if K p < K c then p else c) else c) : Int) σ
    rw [b_L_chosenBy_7, h25, if_pos (by omega), Int.toNat_natCast, Int.toNat_natCast, hU p (by omega), hU c hc, hO p (by omega), hO c hc, hM p (by omega), hK p (by omega), hK c hc, ea, xs1 (by omega), xin (by omega) (by omega), xin (by omega) (by omega), xin (by omega) (by omega), xin (by omega) (by omega), xin (by omega) (by omega)]
    by_cases e0 : M p = 0
    · rw [if_pos e0, if_pos e0, g c hc]
    · rw [if_neg e0, if_neg e0]
      by_cases e1 : 0 < U p + O p - U c - O c
      · rw [if_pos e1, if_pos e1, g p (by omega)]
      · rw [if_neg e1, if_neg e1]
        by_cases e2 : U p + O p - U c - O c = 0
        · rw [if_pos e2, if_pos e2, xin (by omega) (by omega), xin (by omega) (by omega)]
          by_cases e3 : K p < K c
          · rw [if_pos e3, if_pos e3, g p (by omega)]
          · rw [if_neg e3, if_neg e3, g c hc]
        · rw [if_neg e2, if_neg e2, g c hc]
theorem e_chA {d m : Nat} {U O K M : Nat → Int} {Q : Int → xM → Prop} {σ : xM} (m7 : m ≤ 7) (h25 : σ 25 0 0 = (m : Int)) (hU : ∀ p, p ≤ m → σ 32 0 p = U p) (hO : ∀ p, p ≤ m → σ 26 0 p = O p) (hK : ∀ p, p ≤ m → σ 27 0 p = K p) (hM : ∀ p, p ≤ m → σ 28 0 p = M p) (bU : ∀ p, p ≤ m → 0 ≤ U p ∧ U p ≤ 99) (bO : ∀ p, p ≤ m → 0 ≤ O p ∧ O p ≤ 693) : ∀ f p c : Nat, p + f = m → c ≤ m → ∀ w : xV, Ev d 109 7 [vR 25 0, vR 32 0, vI (c : Int), vI (p : Int), w] [] σ Q = Q (qch U O K M f p c : Int) σ
  | 0, p, c, e, hc, w => by
    rw [b_L_chosenByA_7, h25, if_neg (by omega)]
    rfl
  | f + 1, p, c, e, hc, w => by
    have u1 := bU p (by omega)
    have u2 := bU c hc
    have o1 := bO p (by omega)
    have o2 := bO c hc
    have ea : xwr (xwr (xwr (U p + O p) - U c) - O c) = U p + O p - U c - O c := by
      rw [xw (x := U p + O p) (by omega) (by omega), xw (x := U p + O p - U c) (by omega) (by omega), xw (by omega) (by omega)]
    have g := fun c' hc' w => e_chA (d := d) (Q := Q) m7 h25 hU hO hK hM bU bO f (p + 1) c' (by omega) hc' w
    show _ = Q (qch U O K M f (p + 1) (if M p = 0 then c else if 0 < U p + O p - U c - O c then p else if U p + O p - U c - O c = 0 then (if K p < K c then p else c) else c) : Int) σ
    rw [b_L_chosenByA_7, h25, if_pos (by omega), Int.toNat_natCast, Int.toNat_natCast, hU p (by omega), hU c hc, hO p (by omega), hO c hc, hM p (by omega), hK p (by omega), hK c hc, ea, xs1 (by omega), xin (by omega) (by omega), xin (by omega) (by omega), xin (by omega) (by omega), xin (by omega) (by omega), xin (by omega) (by omega)]
    by_cases e0 : M p = 0
    · rw [if_pos e0, if_pos e0, g c hc]
    · rw [if_neg e0, if_neg e0]
      by_cases e1 : 0 < U p + O p - U c - O c
      · rw [if_pos e1, if_pos e1, g p (by omega)]
      · rw [if_neg e1, if_neg e1]
        by_cases e2 : U p + O p - U c - O c = 0
        · rw [if_pos e2, if_pos e2, xin (by omega) (by omega), xin (by omega) (by omega)]
          by_cases e3 : K p < K c
          · rw [if_pos e3, if_pos e3, g p (by omega)]
          · rw [if_neg e3, if_neg e3, g c hc]
        · rw [if_neg e2, if_neg e2, g c hc]
