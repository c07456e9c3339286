/-! a text is taken -/
def qtx (R : Nat → Int) (b : Nat) (f g : Nat → Int) : Nat → (Nat → Int)
  | 0 => R
  | k + 1 => qu (qu (qtx R b f g k) (b + 1 + k) (f k)) (b + 61 + k) (g k)
theorem qtx_o {R : Nat → Int} {b : Nat} {f g : Nat → Int} {j : Nat} (h : j ≤ b ∨ b + 121 ≤ j) : ∀ k, k ≤ 60 → qtx R b f g k j = R j
  | 0, _ => rfl
  | k + 1, hk => by
    show qu (qu (qtx R b f g k) (b + 1 + k) (f k)) (b + 61 + k) (g k) j = R j
    rw [qu_n (by omega), qu_n (by omega), qtx_o h k (by omega)]
theorem qtx_v {R : Nat → Int} {b : Nat} {f g : Nat → Int} (h : xvl R) (hb : 84 ≤ b) : ∀ k, xvl (qtx R b f g k)
  | 0 => h
  | k + 1 => xvl_hi (xvl_hi (qtx_v h hb k) (by omega)) (by omega)
theorem qtx_a {R : Nat → Int} {b : Nat} {f g : Nat → Int} {i : Nat} : ∀ k, k ≤ 60 → i < k → qtx R b f g k (b + 1 + i) = f i ∧ qtx R b f g k (b + 61 + i) = g i
  | 0, _, h => absurd h (by omega)
  | k + 1, hk, h => by
    show qu (qu (qtx R b f g k) (b + 1 + k) (f k)) (b + 61 + k) (g k) (b + 1 + i) = f i ∧ qu (qu (qtx R b f g k) (b + 1 + k) (f k)) (b + 61 + k) (g k) (b + 61 + i) = g i
    rw [qu_n (by omega)]
    by_cases e : i = k
    · subst e
      rw [qu_s, qu_s]
      exact ⟨rfl, rfl⟩
    · obtain ⟨a1, a2⟩ := qtx_a (R := R) (b := b) (f := f) (g := g) (i := i) k (by omega) (by omega)
      rw [qu_n (by omega), qu_n (by omega), qu_n (by omega)]
      exact ⟨a1, a2⟩
theorem Inv_40 {σ τ : xM} (h : Inv σ) (f : Fr [40] σ τ) (e0 : τ 40 0 0 = σ 40 0 0) (e6 : τ 40 0 6 = σ 40 0 6) : Inv τ := by
  refine Inv_vo h (Fr_mono f (by decide)) e0 ?_ ?_
  · have := h.2.2.1
    unfold xiE at this ⊢
    rw [f 39 (by decide), f 44 (by decide)]
    exact this
  · have := h.2.2.2.2.2
    unfold xiV at this ⊢
    rw [f 33 (by decide), f 34 (by decide), f 56 (by decide), e6]
    exact this
theorem inv_fin40 {σ s τ : xM} {R : Nat → Int} (h : Inv σ) (n : N1 σ s) (k : Kp s R) (f : Fr [40, 41, 48, 49] s τ) (e : τ 41 0 = R) (e0 : τ 40 0 0 = s 40 0 0) (e6 : τ 40 0 6 = s 40 0 6) : Inv τ := by
  have f' : Fr [41, 48, 49] s (fun t => if t = 40 then s 40 else τ t) := by
    intro t ht
    by_cases q : t = 40
    · subst q
      exact if_pos rfl
    · show (if t = 40 then s 40 else τ t) = s t
      rw [if_neg q]
      refine f t ?_
      simp at ht ⊢
      exact ⟨q, ht⟩
  have i := inv_fin (τ := fun t => if t = 40 then s 40 else τ t) h n k f' rfl rfl e
  refine Inv_40 i (fun t ht => ?_) e0 e6
  show τ t = if t = 40 then s 40 else τ t
  rw [if_neg (by simpa using ht)]
theorem pW0 {n : Nat} : pWf n (0, ([], false)) := ⟨Nat.zero_le _, fun _ => ⟨Nat.le_refl _, trivial⟩⟩
theorem c_read {e n u : Nat} {σ : xM} {t : Nat → Int} {S : qPS} {Q : Int → xM → Prop} (hu : u < 2) (n60 : n ≤ 60) (ht : ∀ i, i < n → σ 11 0 i = t i ∧ 0 ≤ t i ∧ t i ≤ 255) (hS : S = ptop t n (pfc t n u 5) (0, ([], false)))
    (hQ : ∀ s', Fr [13, 14, 17, 18] σ s' → (∀ i, i ≠ 4 → s' 13 i = σ 13 i ∧ s' 14 i = σ 14 i) → (¬ (S.2.2 = true ∨ S.1 < n) → s' 13 4 0 = (S.2.1.length : Int) ∧ qsk (s' 14 4) (S.2.1.map pcs)) → Q (if S.2.2 = true ∨ S.1 < n then (S.1 : Int) else -1) s') : Ev (e + 49) 83 0 [vR 17 0, vR 11 0, vI (n : Int), vI (u : Int)] [] σ Q := by
  have hv : (if (0 : Int) < (if (n : Int) < 60 then (n : Int) else 60) then (if (n : Int) < 60 then (n : Int) else 60) else 0) = (n : Int) := by
    split <;> split <;> omega
  rw [b_D_read_0, show (if (60 : Int) < 60 then (60 : Int) else 60) = 60 from rfl, b_P_held_0, hv, xup_s, Int.toNat_natCast, show Int.toNat 0 = 0 from rfl]
  refine ⟨⟨by decide, by decide, by omega, by omega, by omega⟩, ?_⟩
  have key : Ev (e + 48) 88 0 [vR 17 0, vI 0, vI 0, vR 0 0, vR 0 0, vR 0 0] [] (xup (xup (xup (xup (xcpy (xup σ 17 0 0 (n : Int)) 11 0 0 18 0 0 n) 17 0 3 ((u + 2 : Nat) : Int)) 13 4 0 0) 17 0 1 0) 17 0 2 (-1)) (fun _ s2 => if (s2 17 0 1) < (s2 17 0 0) then Ev (e + 48) 84 0 [vR 17 0] [] s2 (fun _ s3 => Q (s3 17 0 2) s3) else Q (s2 17 0 2) s2) := by
    obtain ⟨τ, eτ⟩ : ∃ τ, τ = xup (xup (xup (xup (xcpy (xup σ 17 0 0 (n : Int)) 11 0 0 18 0 0 n) 17 0 3 ((u + 2 : Nat) : Int)) 13 4 0 0) 17 0 1 0) 17 0 2 (-1) := ⟨_, rfl⟩
    rw [← eτ]
    have fτ : Fr [13, 14, 17, 18] σ τ := by
      rw [eτ]
      exact Fr_trans (Fr_trans (Fr_trans (Fr_trans (Fr_trans (Fr_up (by decide)) (Fr_cpy (by decide))) (Fr_up (by decide))) (Fr_up (by decide))) (Fr_up (by decide))) (Fr_up (by decide))
    have iτ : ∀ i, i ≠ 4 → τ 13 i = σ 13 i ∧ τ 14 i = σ 14 i := by
      intro i hi
      rw [eτ]
      refine ⟨?_, ?_⟩
      · rw [xup_t (by decide), xup_t (by decide), xup_i hi, xup_t (by decide), xcpy_t (by decide), xup_t (by decide)]
      · rw [xup_t (by decide), xup_t (by decide), xup_t (by decide), xup_t (by decide), xcpy_t (by decide), xup_t (by decide)]
    have c0 : Cs τ n u (0, ([], false)) τ := by
      refine ⟨Fr_refl, fun i _ => ⟨rfl, rfl⟩, ?_, ?_, ?_, ?_, ?_, fun _ => ⟨?_, trivial⟩⟩
      · rw [eτ, xup_k (by decide), xup_k (by decide), xup_t (by decide), xup_k (by decide), xcpy_t (by decide), xup_s]
      · rw [eτ, xup_k (by decide), xup_s]
        rfl
      · rw [eτ, xup_s]
        rfl
      · rw [eτ, xup_k (by decide), xup_k (by decide), xup_t (by decide), xup_s]
      · rw [eτ, xup_t (by decide), xup_t (by decide), xup_s]
        decide
      · rw [eτ, xup_t (by decide), xup_t (by decide), xup_s]
        rfl
    have H : Hs τ t n := by
      refine ⟨n60, fun i hi => ?_⟩
      obtain ⟨h1, h2⟩ := ht i hi
      rw [eτ, xup_t (by decide), xup_t (by decide), xup_t (by decide), xup_t (by decide), xcpy_k hi, xup_t (by decide)]
      exact ⟨h1, h2⟩
    have ct := c_top (op := 0) H (pfc_g 5) (c_pfc H hu 5 0 ⟨by decide, by decide⟩)
    refine ct (e + 48) (by omega) (0, ([], false)) τ _ c0 pW0 rfl (fun σ2 k2 => ?_)
    rw [← hS] at k2
    have F1 : ∀ s2, Fr [13, 14, 17] τ s2 → Fr [13, 14, 17, 18] σ s2 := fun s2 q => Fr_trans fτ (Fr_mono q (by decide))
    rw [k2.2.2.2.1, k2.2.2.1]
    by_cases hl : S.1 < n
    · rw [if_pos (by omega)]
      refine c_fail k2 (fun σ3 k3 => ?_)
      have q := hQ σ3 (F1 _ k3.1) (fun i hi => by rw [(k3.2.1 i hi).1, (k3.2.1 i hi).2]; exact iτ i hi) (fun q => absurd (Or.inr hl) q)
      rw [if_pos (Or.inr hl)] at q
      rw [k3.2.2.2.2.1]
      exact q
    · rw [if_neg (by omega), k2.2.2.2.2.1]
      have q := hQ σ2 (F1 _ k2.1) (fun i hi => by rw [(k2.2.1 i hi).1, (k2.2.1 i hi).2]; exact iτ i hi) (fun q => k2.2.2.2.2.2.2.2 (by simpa using fun b => q (Or.inl b)))
      by_cases hb : S.2.2 = true
      · rw [if_pos (Or.inl hb)] at q
        rw [if_pos hb]
        exact q
      · rw [if_neg (fun a => a.elim hb hl)] at q
        rw [if_neg hb]
        exact q
  have : u = 0 ∨ u = 1 := by omega
  rcases this with q | q <;> subst q
  · rw [if_pos (show ((0 : Nat) : Int) = 0 from rfl)]
    exact key
  · rw [if_neg (by decide)]
    exact key
theorem m_copyT {d u len : Nat} {R f g : Nat → Int} {x : Int} {Q : Int → xM → Prop} (hu : u < 2) (l60 : len ≤ 60) : ∀ r k : Nat, k + r = len → ∀ σ : xM, σ 40 0 1 = (len : Int) → σ 48 0 = f → σ 49 0 = g → σ 41 0 = qtx R (168 + 121 * u) f g k → (∀ s, Fr [41] σ s → s 41 0 = qtx R (168 + 121 * u) f g len → Q 1 s) → Ev d 168 117 [vR 40 0, vI x, vI ((168 + 121 * u : Nat) : Int), vI (k : Int)] [] σ Q
  | 0, k, e, σ, h1, hf, hg, hr, hQ => by
    have e : k = len := e
    subst e
    rw [b_M_text_117, h1, if_neg (by omega)]
    exact hQ σ Fr_refl hr
  | r + 1, k, e, σ, h1, hf, hg, hr, hQ => by
    have e1 : xwr (xwr (((168 + 121 * u : Nat) : Int) + 1) + (k : Int)) = ((168 + 121 * u + 1 + k : Nat) : Int) := by
      rw [xw (x := ((168 + 121 * u : Nat) : Int) + 1) (by omega) (by omega), xw (by omega) (by omega)]
      omega
    have e2 : xwr (xwr (((168 + 121 * u : Nat) : Int) + 61) + (k : Int)) = ((168 + 121 * u + 61 + k : Nat) : Int) := by
      rw [xw (x := ((168 + 121 * u : Nat) : Int) + 61) (by omega) (by omega), xw (by omega) (by omega)]
      omega
    rw [b_M_text_117, h1, if_pos (by omega), e1, e2, xin (by omega) (by omega), xin (by omega) (by omega), xin (by omega) (by omega), xin (by omega) (by omega), Int.toNat_natCast, Int.toNat_natCast, Int.toNat_natCast, xs1 (by omega), xup_t (t' := 49) (by decide), hf, hg]
    refine m_copyT hu l60 r (k + 1) (by omega) _ ?_ ?_ ?_ ?_ (fun s a b => hQ s (Fr_trans (Fr_trans (Fr_up (by decide)) (Fr_up (by decide))) a) b)
    · rw [xup_t (by decide), xup_t (by decide)]
      exact h1
    · rw [xup_t (by decide), xup_t (by decide)]
      exact hf
    · rw [xup_t (by decide), xup_t (by decide)]
      exact hg
    · rw [xup_row, xup_row, hr]
      rfl
theorem m_read {e n u : Nat} {σ : xM} {t : Nat → Int} {S : qPS} {Q : Int → xM → Prop} (hu : u < 2) (n60 : n ≤ 60) (h5 : σ 41 0 5 = (n : Int)) (ht : ∀ i, i < n → σ 41 0 (84 + i) = t i ∧ 0 ≤ t i ∧ t i ≤ 255) (hS : S = ptop t n (pfc t n u 5) (0, ([], false)))
    (hB : ∀ s', Fr [40, 41, 48, 49] σ s' → (∀ j, (j = 0 ∨ 5 < j) → s' 40 0 j = σ 40 0 j) → (S.2.2 = true ∨ S.1 < n) → s' 41 0 = qu (σ 41 0) 5 0 → Q (xwr (-10 - (S.1 : Int))) s')
    (hG : ∀ s' f g, Fr [40, 41, 48, 49] σ s' → (∀ j, (j = 0 ∨ 5 < j) → s' 40 0 j = σ 40 0 j) → ¬ (S.2.2 = true ∨ S.1 < n) → qsk f (S.2.1.map Prod.fst) → qsk g (S.2.1.map Prod.snd) → s' 41 0 = qtx (qu (qu (σ 41 0) 5 0) (168 + 121 * u) (S.2.1.length : Int)) (168 + 121 * u) f g S.2.1.length → Q 1 s') : Ev (e + 49) 168 0 [vR 40 0, vI (u : Int), vR 0 0, vR 0 0] [] σ Q := by
  have eb : xwr (168 + xwr (121 * (u : Int))) = ((168 + 121 * u : Nat) : Int) := by
    rw [xw (x := 121 * (u : Int)) (by omega) (by omega), xw (by omega) (by omega)]
    omega
  rw [b_M_text_0, e_in, show (if 0 ≤ (u : Int) ∧ (u : Int) ≤ 1 then (1 : Int) else 0) = 1 from if_pos ⟨by omega, by omega⟩, if_neg (by decide), xz0, eb, show Int.toNat 5 = 5 from rfl, Int.toNat_natCast]
  obtain ⟨τ, eτ⟩ : ∃ τ, τ = xup (xup (xup (xup (xup σ 40 0 5 (u : Int)) 40 0 1 0) 40 0 2 0) 40 0 3 0) 40 0 4 0 := ⟨_, rfl⟩
  rw [← eτ]
  have fτ : Fr [40] σ τ := by
    rw [eτ]
    exact Fr_trans (Fr_trans (Fr_trans (Fr_trans (Fr_up (by decide)) (Fr_up (by decide))) (Fr_up (by decide))) (Fr_up (by decide))) (Fr_up (by decide))
  have jτ : ∀ j, (j = 0 ∨ 5 < j) → τ 40 0 j = σ 40 0 j := by
    intro j hj
    rw [eτ, xup_k (by omega), xup_k (by omega), xup_k (by omega), xup_k (by omega), xup_k (by omega)]
  have c0 : Ms τ u 5 (0, ([], false)) τ := by
    refine ⟨Fr_refl, fun j _ => rfl, ?_, ?_, ?_, ?_, ?_, fun _ => ⟨?_, trivial, trivial⟩⟩
    · rw [eτ, xup_k (by decide), xup_k (by decide), xup_s]
      rfl
    · rw [eτ, xup_k (by decide), xup_s]
      rfl
    · rw [eτ, xup_s]
      rfl
    · rw [eτ, xup_k (by decide), xup_k (by decide), xup_k (by decide), xup_k (by decide), xup_s]
    · rw [eτ, xup_k (by decide), xup_k (by decide), xup_k (by decide), xup_s]
      decide
    · rw [eτ, xup_k (by decide), xup_k (by decide), xup_k (by decide), xup_s]
      rfl
  have e41 : τ 41 = σ 41 := fτ 41 (by decide)
  have H : Ht τ t n := ⟨n60, by rw [e41]; exact h5, fun i hi => by rw [e41]; exact ht i hi⟩
  have mt := m_top H (pfc_g 5) (m_pfc H hu 5 (by decide))
  refine mt (e + 48) (by omega) (0, ([], false)) τ _ c0 pW0 rfl (fun s3 k3 => ?_)
  rw [← hS] at k3
  obtain ⟨k1, k2, kat, ko, k5, ku, kl, kL⟩ := k3
  have s41 : s3 41 = σ 41 := by rw [k1 41 (by decide), e41]
  have F1 : ∀ v, Fr [40, 41, 48, 49] σ (xup (xup s3 40 0 4 v) 41 0 5 0) := fun v => Fr_trans (Fr_trans (Fr_trans (Fr_mono fτ (by decide)) (Fr_mono k1 (by decide))) (Fr_up (by decide))) (Fr_up (by decide))
  have J1 : ∀ v j, (j = 0 ∨ 5 < j) → (xup (xup s3 40 0 4 v) 41 0 5 0) 40 0 j = σ 40 0 j := fun v j hj => by
    rw [xup_t (by decide), xup_k (by omega), k2 j hj, jτ j hj]
  have r41 : ∀ v, (xup (xup s3 40 0 4 v) 41 0 5 0) 41 0 = qu (σ 41 0) 5 0 := fun v => by rw [xup_row, xup_t (by decide), s41]
  have v4 : ∀ v, (xup (xup s3 40 0 4 v) 41 0 5 0) 40 0 4 = v := fun v => by rw [xup_t (by decide), xup_s]
  have v2 : ∀ v, (xup (xup s3 40 0 4 v) 41 0 5 0) 40 0 2 = (S.1 : Int) := fun v => by rw [xup_t (by decide), xup_k (by decide), kat]
  have v1 : ∀ v, (xup (xup s3 40 0 4 v) 41 0 5 0) 40 0 1 = s3 40 0 1 := fun v => by rw [xup_t (by decide), xup_k (by decide)]
  rw [v4 1, v4 0, v2 1, v2 0, v1 1, v1 0]
  rw [k5]
  by_cases hb : S.2.2 = true
  · rw [if_pos hb, if_neg (by decide), xz1, xin (by decide) (by decide), if_neg (by decide)]
    exact hB _ (F1 1) (J1 1) (Or.inl hb) (r41 1)
  · have hb' : S.2.2 = false := by simpa using hb
    rw [if_neg hb, if_pos rfl, xin (by decide) (by decide), kat, s41, h5]
    by_cases hl : S.1 < n
    · rw [if_pos (by omega), xz1, xin (by decide) (by decide), if_neg (by decide)]
      exact hB _ (F1 1) (J1 1) (Or.inr hl) (r41 1)
    · obtain ⟨q1, q2, q3⟩ := kL hb'
      rw [if_neg (by omega), xz0, xin (by decide) (by decide), if_pos rfl, xin (by omega) (by omega), q1]
      have l60 : S.2.1.length ≤ 60 := by omega
      refine m_copyT (R := qu (qu (σ 41 0) 5 0) (168 + 121 * u) (S.2.1.length : Int)) (f := s3 48 0) (g := s3 49 0) hu l60 S.2.1.length 0 (Nat.zero_add _) _ ?_ ?_ ?_ ?_ (fun s a b => ?_)
      · rw [xup_t (by decide), v1, q1]
      · rw [xup_t (by decide), xup_t (by decide), xup_t (by decide)]
      · rw [xup_t (by decide), xup_t (by decide), xup_t (by decide)]
      · rw [xup_row, r41]
        rfl
      · refine hG s (s3 48 0) (s3 49 0) (Fr_trans (Fr_trans (F1 0) (Fr_up (by decide))) (Fr_mono a (by decide))) (fun j hj => ?_) (fun q => q.elim hb hl) q2 q3 b
        rw [a 40 (by decide), xup_t (by decide)]
        exact J1 0 j hj
theorem play_of {P cs f g h : Nat → Int} : ∀ (L : List (Int × Int)), (∀ k, k < L.length → P (1 + k) = f k ∧ P (61 + k) = g k ∧ cs k = h k) → qsk f (L.map Prod.fst) → qsk g (L.map Prod.snd) → qsk h (L.map pcs) → play P cs L
  | [], _, _, _, _ => trivial
  | x :: r, e, h1, h2, h3 => by
    obtain ⟨a1, a2⟩ := h1
    obtain ⟨b1, b2⟩ := h2
    obtain ⟨c1, c2⟩ := h3
    have e0 := e r.length (Nat.lt_succ_self _)
    have a1 : f (r.map Prod.fst).length = x.1 := a1
    have b1 : g (r.map Prod.snd).length = x.2 := b1
    have c1 : h (r.map pcs).length = pcs x := c1
    rw [List.length_map] at a1 b1 c1
    exact ⟨by rw [e0.1, a1], by rw [e0.2.1, b1], by rw [e0.2.2, c1], play_of r (fun k hk => e k (Nat.lt_succ_of_lt hk)) a2 b2 c2⟩
theorem xcpl_4 {σ σ' : xM} {R : Nat → Int} (h : xcpl σ 0 R) (f : Fr [13, 14, 17, 18] σ σ') (i : ∀ i, i ≠ 4 → σ' 13 i = σ 13 i ∧ σ' 14 i = σ 14 i) : xcpl σ' 0 R := by
  refine ⟨cA_p h.1 (by rw [f 5 (by decide)]) (fun j hj => rfl), cB_p h.2.1 (fun i _ => by rw [f 7 (by decide)]) (fun j _ _ => rfl), cC_p h.2.2.1 (fun i _ => by rw [f 9 (by decide)]) (fun j _ _ => rfl), cW_p h.2.2.2.1 (fun i _ => by rw [f 10 (by decide)]) (fun j _ _ => rfl), cT_p h.2.2.2.2.1 (by rw [f 11 (by decide)]) (fun j _ _ => rfl), cN_p h.2.2.2.2.2.1 (by rw [f 16 (by decide)]) (fun j _ _ => rfl), cX_p h.2.2.2.2.2.2 (fun u hu => i u (by omega)) (fun j _ => rfl)⟩
theorem xcpl_tx {σ σ' : xM} {R R' : Nat → Int} {u : Nat} (hu : u < 2) (h : xcpl σ 0 R) (f : Fr [13, 14] σ σ') (i : ∀ j, j ≠ u → σ' 13 j = σ 13 j) (i' : ∀ j, j ≠ u → σ' 14 j = σ 14 j) (r : ∀ j, j < 168 + 121 * u ∨ 168 + 121 * u + 121 ≤ j → R' j = R j) (x : xtx (σ' 13 u 0) (σ' 14 u) (fun k => R' (168 + 121 * u + k))) : xcpl σ' 0 R' := by
  refine ⟨cA_p h.1 (by rw [f 5 (by decide)]) (fun j hj => r j (by omega)), cB_p h.2.1 (fun i _ => by rw [f 7 (by decide)]) (fun j _ _ => r j (by omega)), cC_p h.2.2.1 (fun i _ => by rw [f 9 (by decide)]) (fun j _ _ => r j (by omega)), cW_p h.2.2.2.1 (fun i _ => by rw [f 10 (by decide)]) (fun j _ _ => r j (by omega)), cT_p h.2.2.2.2.1 (by rw [f 11 (by decide)]) (fun j _ _ => r j (by omega)), cN_p h.2.2.2.2.2.1 (by rw [f 16 (by decide)]) (fun j _ _ => r j (by omega)), ?_⟩
  intro a ha
  have := h.2.2.2.2.2.2 a ha
  rw [show xs2 0 a = a from rfl] at this ⊢
  by_cases e : a = u
  · subst e
    exact x
  · rw [i a e, i' a e]
    exact xtx_cg (fun k hk => r _ (by omega)) this
theorem N1_4 {σ s : xM} (f : Fr [13, 14, 17, 18] σ s) (i : ∀ i, i ≠ 4 → s 13 i = σ 13 i ∧ s 14 i = σ 14 i) : N1 σ s := by
  refine ⟨Fr_mono f (by decide), fun t j q => ?_⟩
  by_cases e : t = 13
  · subst e
    exact (i j (by unfold st1 at q; omega)).1
  · by_cases e' : t = 14
    · subst e'
      exact (i j (by unfold st1 at q; omega)).2
    · have := st1_tag q
      rw [f t (by simp; omega)]
theorem N1_tx {σ s : xM} {u : Nat} (hu : u < 2) (f : Fr [13, 14] σ s) (i : ∀ j, j ≠ u → s 13 j = σ 13 j) (i' : ∀ j, j ≠ u → s 14 j = σ 14 j) : N1 σ s := by
  refine ⟨Fr_mono f (by decide), fun t j q => ?_⟩
  by_cases e : t = 13
  · subst e
    rw [i j (by unfold st1 at q; omega)]
  · by_cases e' : t = 14
    · subst e'
      rw [i' j (by unfold st1 at q; omega)]
    · rw [f t (by simp; omega)]
theorem call_text {d : Nat} {σ : xM} (h : Inv σ) (x : Int) : Ev (d + 50) m_P_text 0 [vR 4 0, vI x, vR 0 0] [] σ (fun r s => Ev (d + 50) m_M_text 0 [vR 40 0, vI x, vR 0 0, vR 0 0] [] s (fun r' s' => r = r' ∧ Inv s')) := by
  rw [b_P_text_0, e_isUse]
  by_cases hx : 0 ≤ x ∧ x ≤ 1
  · obtain ⟨u, hu'⟩ : ∃ u : Nat, x = (u : Int) := ⟨x.toNat, by omega⟩
    subst hu'
    have hu : u < 2 := by omega
    have hk := Inv_Kp h
    have t5 := h.1.2.2.2.2.1
    have h5 : σ 5 0 5 = σ 41 0 5 := hk.2.1.2.2.2.2.2.1
    obtain ⟨n, hn⟩ : ∃ n : Nat, σ 41 0 5 = (n : Int) := ⟨(σ 41 0 5).toNat, by omega⟩
    have n60 : n ≤ 60 := by omega
    have tp := hk.2.2.2.2.2.1
    obtain ⟨S, hS⟩ : ∃ S, S = ptop (fun i => σ 41 0 (84 + i)) n (pfc (fun i => σ 41 0 (84 + i)) n u 5) (0, ([], false)) := ⟨_, rfl⟩
    obtain ⟨w1, w2⟩ := ptop_g (pfc_g (t := fun i => σ 41 0 (84 + i)) (n := n) (u := u) 5) (0, ([], false)) pW0 rfl
    rw [← hS] at w1 w2
    rw [if_pos hx, if_neg (by decide), h5, hn]
    refine c_read (t := fun i => σ 41 0 (84 + i)) hu n60 (fun i hi => tp i (by omega)) hS (fun s1 f1 i1 g1 => ?_)
    have n1 : N1 σ s1 := N1_4 f1 i1
    have x1 : xcpl (xup s1 5 0 5 0) 0 (qu (σ 41 0) 5 0) := xcpl_up5 (k := 5) (xcpl_4 hk.2 f1 i1) (by decide)
    have v1 : xvl (qu (σ 41 0) 5 0) := xvl_lo h.1 (by decide) (by decide) (by decide) (by omega) (by omega) (fun _ => by omega) (by omega)
    have n2 : N1 σ (xup s1 5 0 5 0) := N1_trans n1 (N1_up (by decide) (by unfold st1; omega))
    have e41 : ∀ s : xM, s 41 = s1 41 → s 41 = σ 41 := fun s q => by rw [q, f1 41 (by decide)]
    by_cases F : S.2.2 = true ∨ S.1 < n
    · rw [if_pos F, if_neg (by omega)]
      have q41 : (xup s1 5 0 5 0) 41 = σ 41 := e41 _ (xup_t (by decide))
      refine m_read (t := fun i => σ 41 0 (84 + i)) hu n60 (by rw [q41]; exact hn) (fun i hi => by rw [q41]; exact ⟨rfl, (tp i (by omega)).2⟩) hS (fun s2 f2 j2 _ r2 => ⟨rfl, ?_⟩) (fun s2 f g f2 j2 nF => absurd F nF)
      rw [q41] at r2
      exact inv_fin40 h n2 ⟨v1, x1⟩ f2 r2 (j2 0 (Or.inl rfl)) (j2 6 (Or.inr (by decide)))
    · obtain ⟨a1, a2⟩ := g1 F
      rw [if_neg F, if_pos (by decide), xin (by omega) (by omega), Int.toNat_natCast]
      refine cp_text (a := u) (b := 4) (by omega) (fun s2 f2 b1 b2 b3 b4 => ?_)
      have q41 : s2 41 = σ 41 := e41 _ (by rw [f2 41 (by decide), xup_t (by decide)])
      have hb : S.2.2 = false := by simpa using fun b => F (Or.inl b)
      obtain ⟨z1, z2⟩ := w1.2 hb
      have z3 := (w2 hb).1
      have w11 := w1.1
      have l60 : S.2.1.length ≤ 60 := by omega
      refine m_read (t := fun i => σ 41 0 (84 + i)) hu n60 (by rw [q41]; exact hn) (fun i hi => by rw [q41]; exact ⟨rfl, (tp i (by omega)).2⟩) hS (fun s3 f3 j3 nF => absurd nF F) (fun s3 f g f3 j3 _ qf qg r3 => ⟨rfl, ?_⟩)
      rw [q41] at r3
      have b3' : s2 13 u 0 = (S.2.1.length : Int) := by rw [b3, xup_t (by decide), a1]
      have b4' : ∀ k, k < 60 → s2 14 u k = s1 14 4 k := fun k hk => by rw [b4 k hk, xup_t (by decide)]
      have g0 : ∀ k, k ≤ 60 → qtx (qu (qu (σ 41 0) 5 0) (168 + 121 * u) (S.2.1.length : Int)) (168 + 121 * u) f g S.2.1.length (168 + 121 * u) = (S.2.1.length : Int) := fun k hk => by
        rw [qtx_o (Or.inl (Nat.le_refl _)) _ l60, qu_s]
      have tx : xtx (s2 13 u 0) (s2 14 u) (fun k => qtx (qu (qu (σ 41 0) 5 0) (168 + 121 * u) (S.2.1.length : Int)) (168 + 121 * u) f g S.2.1.length (168 + 121 * u + k)) := by
        rw [b3']
        refine play_tx z2 l60 (by rw [z3]; rfl) (play_of (f := f) (g := g) (h := s1 14 4) S.2.1 (fun k hk => ?_) qf qg a2) (g0 0 (by decide))
        obtain ⟨y1, y2⟩ := qtx_a (R := qu (qu (σ 41 0) 5 0) (168 + 121 * u) (S.2.1.length : Int)) (b := 168 + 121 * u) (f := f) (g := g) (i := k) S.2.1.length l60 hk
        refine ⟨?_, ?_, b4' k (by omega)⟩
        · rw [show 168 + 121 * u + (1 + k) = 168 + 121 * u + 1 + k from by omega]
          exact y1
        · rw [show 168 + 121 * u + (61 + k) = 168 + 121 * u + 61 + k from by omega]
          exact y2
      have x2 := xcpl_tx hu x1 f2 b1 b2 (R' := qtx (qu (qu (σ 41 0) 5 0) (168 + 121 * u) (S.2.1.length : Int)) (168 + 121 * u) f g S.2.1.length) (fun j hj => by rw [qtx_o (by omega) _ l60, qu_n (by omega)]) tx
      exact inv_fin40 h (N1_trans n2 (N1_tx hu f2 b1 b2)) ⟨qtx_v (xvl_hi v1 (by omega)) (by omega) _, x2⟩ f3 r3 (j3 0 (Or.inl rfl)) (j3 6 (Or.inr (by decide)))
  · rw [if_neg hx, if_pos rfl, e_fail1, b_M_text_0, e_in, if_neg hx, if_pos rfl]
    exact fin1 h
