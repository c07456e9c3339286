/-! the reference's reader -/
def Ht (σ0 : xM) (t : Nat → Int) (n : Nat) : Prop := n ≤ 60 ∧ σ0 41 0 5 = (n : Int) ∧ ∀ i, i < n → σ0 41 0 (84 + i) = t i ∧ 0 ≤ t i ∧ t i ≤ 255
def Ms (σ0 : xM) (u o : Nat) (s : qPS) (σ : xM) : Prop :=
  Fr [40, 48, 49] σ0 σ ∧ (∀ j, (j = 0 ∨ 5 < j) → σ 40 0 j = σ0 40 0 j) ∧ σ 40 0 2 = (s.1 : Int) ∧ σ 40 0 3 = (5 : Int) - (o : Int) ∧ σ 40 0 4 = (if s.2.2 = true then 1 else 0) ∧ σ 40 0 5 = (u : Int) ∧ (0 ≤ σ 40 0 1 ∧ σ 40 0 1 ≤ 60) ∧ (s.2.2 = false → σ 40 0 1 = (s.2.1.length : Int) ∧ qsk (σ 48 0) (s.2.1.map Prod.fst) ∧ qsk (σ 49 0) (s.2.1.map Prod.snd))
theorem pl_rgT {σ0 : xM} {t : Nat → Int} {n : Nat} {s : qPS} (H : Ht σ0 t n) : -1 ≤ pl t n s ∧ pl t n s ≤ 255 := by
  unfold pl
  by_cases h : s.1 < n
  · rw [if_pos h]
    have := H.2.2 s.1 h
    omega
  · rw [if_neg h]
    omega
theorem m_look {d n u o : Nat} {t : Nat → Int} {σ0 σ : xM} {s : qPS} {Q : Int → xM → Prop} (H : Ht σ0 t n) (h : Ms σ0 u o s σ) : Ev d 157 0 [vR 40 0] [] σ Q = Q (pl t n s) σ := by
  have n60 := H.1
  rw [b_M_look_0, xin (by decide) (by decide), h.1 41 (by decide), show Int.toNat 5 = 5 from rfl, H.2.1, h.2.2.1]
  unfold pl
  by_cases e : s.1 < n
  · rw [if_pos (by omega), if_pos e, xw (by omega) (by omega), xin (by omega) (by omega), show (84 + (s.1 : Int)).toNat = 84 + s.1 from by omega, (H.2.2 s.1 e).1]
  · rw [if_neg (by omega), if_neg e]
theorem m_step {d u o : Nat} {σ0 σ : xM} {s : qPS} {x y : Int} {Q : Int → xM → Prop} (h : Ms σ0 u o s σ) (hv : s.2.2 = false → s.2.1.length < 60) (hQ : ∀ σ', Ms σ0 u o (pad (x, y) s) σ' → Q 0 σ') : Ev d 158 0 [vR 40 0, vI x, vI y] [] σ Q := by
  obtain ⟨h1, h2, h3, h4, h5, h6, h7, h8⟩ := h
  rw [b_M_step_0]
  by_cases c : σ 40 0 1 < 60
  · rw [if_pos c, xin h7.1 c, xup_t (t' := 40) (t := 48) (by decide), xin h7.1 c, xup_t (t' := 40) (t := 49) (by decide), xup_t (t' := 40) (t := 48) (by decide), xw (by omega) (by omega)]
    refine hQ _ ⟨Fr_trans h1 (Fr_trans (Fr_trans (Fr_up (by decide)) (Fr_up (by decide))) (Fr_up (by decide))), fun j hj => by rw [xup_k (by omega), xup_t (by decide), xup_t (by decide)]; exact h2 j hj, by rw [xup_k (by decide), xup_t (by decide), xup_t (by decide)]; exact h3, by rw [xup_k (by decide), xup_t (by decide), xup_t (by decide)]; exact h4, by rw [xup_k (by decide), xup_t (by decide), xup_t (by decide)]; exact h5, by rw [xup_k (by decide), xup_t (by decide), xup_t (by decide)]; exact h6, by rw [xup_s]; omega, fun hb => ?_⟩
    obtain ⟨k1, k2, k3⟩ := h8 hb
    refine ⟨by rw [xup_s, k1]; rfl, ?_, ?_⟩
    · rw [xup_t (by decide), xup_t (by decide)]
      show qsk _ (x :: s.2.1.map Prod.fst)
      refine qsk_top k2 (fun j hj => ?_) ?_
      · rw [List.length_map] at hj
        rw [xup_k (by omega)]
      · rw [List.length_map, k1, Int.toNat_natCast, xup_s]
    · rw [xup_t (by decide)]
      show qsk _ (y :: s.2.1.map Prod.snd)
      refine qsk_top k3 (fun j hj => ?_) ?_
      · rw [List.length_map] at hj
        rw [xup_k (by omega), xup_t (by decide)]
      · rw [List.length_map, k1, Int.toNat_natCast, xup_s]
  · rw [if_neg c]
    refine hQ σ ⟨h1, h2, h3, h4, h5, h6, h7, fun hb => ?_⟩
    have := (h8 hb).1
    have := hv hb
    omega
theorem m_name {d u : Nat} {σ : xM} {c : Int} {Q : Int → xM → Prop} (h : σ 40 0 5 = (u : Int)) (hu : u < 2) : Ev d 159 0 [vR 40 0, vI c] [] σ Q = Q (pnm u c) σ := by
  rw [b_M_nameOf_0, h]
  have e : pnm u c = (if c = 119 then 0 else if u = 0 then (if c = 108 then 1 else if c = 118 then 2 else -1) else (if c = 115 then 1 else if c = 121 then 2 else -1)) := rfl
  rw [e]
  simp only [xiteQ (Q := Q) (σ := σ)]
  congr 1
  by_cases c108 : c = 108; · subst c108; have : u = 0 ∨ u = 1 := (by omega); rcases this with q | q <;> subst q <;> decide
  by_cases c115 : c = 115; · subst c115; have : u = 0 ∨ u = 1 := (by omega); rcases this with q | q <;> subst q <;> decide
  by_cases c118 : c = 118; · subst c118; have : u = 0 ∨ u = 1 := (by omega); rcases this with q | q <;> subst q <;> decide
  by_cases c119 : c = 119; · subst c119; have : u = 0 ∨ u = 1 := (by omega); rcases this with q | q <;> subst q <;> decide
  by_cases c121 : c = 121; · subst c121; have : u = 0 ∨ u = 1 := (by omega); rcases this with q | q <;> subst q <;> decide
  simp only [if_neg c108, if_neg c115, if_neg c118, if_neg c119, if_neg c121, ite_self]
theorem m_adv {n u o : Nat} {σ0 σ : xM} {s : qPS} (h : Ms σ0 u o s σ) (h1 : s.1 < n) (n60 : n ≤ 60) : Ms σ0 u o (padv s) (xup σ 40 0 2 (xwr (σ 40 0 2 + 1))) := by
  obtain ⟨k1, k2, k3, k4, k5, k6, k7, k8⟩ := h
  rw [k3, xs1 (by omega)]
  exact ⟨Fr_trans k1 (Fr_up (by decide)), fun j hj => by rw [xup_k (by omega)]; exact k2 j hj, xup_s, by rw [xup_k (by decide)]; exact k4, by rw [xup_k (by decide)]; exact k5, by rw [xup_k (by decide)]; exact k6, by rw [xup_k (by decide)]; exact k7, fun hb => by rw [xup_k (by decide), xup_t (by decide), xup_t (by decide)]; exact k8 hb⟩
theorem m_bad {u o : Nat} {σ0 σ : xM} {s : qPS} (h : Ms σ0 u o s σ) : Ms σ0 u o (pbad s) (xup σ 40 0 4 1) := by
  obtain ⟨k1, k2, k3, k4, k5, k6, k7, k8⟩ := h
  exact ⟨Fr_trans k1 (Fr_up (by decide)), fun j hj => by rw [xup_k (by omega)]; exact k2 j hj, by rw [xup_k (by decide)]; exact k3, by rw [xup_k (by decide)]; exact k4, xup_s, by rw [xup_k (by decide)]; exact k6, by rw [xup_k (by decide)]; exact k7, fun q => by cases q⟩
theorem m_good {u o : Nat} {σ0 σ : xM} {s : qPS} (h : Ms σ0 u o s σ) (hb : s.2.2 = false) : Ms σ0 u o s (xup σ 40 0 4 0) := by
  obtain ⟨k1, k2, k3, k4, k5, k6, k7, k8⟩ := h
  exact ⟨Fr_trans k1 (Fr_up (by decide)), fun j hj => by rw [xup_k (by omega)]; exact k2 j hj, by rw [xup_k (by decide)]; exact k3, by rw [xup_k (by decide)]; exact k4, by rw [xup_s, hb]; rfl, by rw [xup_k (by decide)]; exact k6, by rw [xup_k (by decide)]; exact k7, fun q => by rw [xup_k (by decide), xup_t (by decide), xup_t (by decide)]; exact k8 q⟩
theorem m_open {u o o' : Nat} {σ0 σ : xM} {s : qPS} {v : Int} (h : Ms σ0 u o s σ) (e : v = (5 : Int) - (o' : Int)) : Ms σ0 u o' s (xup σ 40 0 3 v) := by
  obtain ⟨k1, k2, k3, k4, k5, k6, k7, k8⟩ := h
  exact ⟨Fr_trans k1 (Fr_up (by decide)), fun j hj => by rw [xup_k (by omega)]; exact k2 j hj, by rw [xup_k (by decide)]; exact k3, by rw [xup_s, e], by rw [xup_k (by decide)]; exact k5, by rw [xup_k (by decide)]; exact k6, by rw [xup_k (by decide)]; exact k7, fun q => by rw [xup_k (by decide), xup_t (by decide), xup_t (by decide)]; exact k8 q⟩
theorem m_num {n u o : Nat} {t : Nat → Int} {σ0 : xM} {Q : Int → xM → Prop} (H : Ht σ0 t n) : ∀ (g i d : Nat) (v : Int) (s : qPS) (σ : xM), i + g = 4 → (i = 0 → 48 ≤ pl t n s ∧ pl t n s ≤ 57) → 0 ≤ v → v < 10 ^ i → Ms σ0 u o s σ → s.2.2 = false → s.2.1.length < 60 → (∀ σ', Ms σ0 u o (pnum t n g v s) σ' → Q 0 σ') → Ev (d + 1) 160 4 [vR 40 0, vI v, vI (i : Int)] [] σ Q
  | 0, i, d, v, s, σ, e, hi, h0, h1, h, hb, hL, hQ => by
    rw [b_M_number_4, if_neg (by omega), if_neg (by omega), xz0]
    exact m_step (m_good h hb) (fun _ => hL) hQ
  | g + 1, i, d, v, s, σ, e, hi, h0, h1, h, hb, hL, hQ => by
    have n60 := H.1
    have p10 : (10 : Int) ^ i ≤ 10 ^ 3 := by
      have : i = 0 ∨ i = 1 ∨ i = 2 ∨ i = 3 := by omega
      rcases this with q | q | q | q <;> subst q <;> decide
    have e3 : (10 : Int) ^ 3 = 1000 := by decide
    have p1 : (10 : Int) ^ (i + 1) = 10 ^ i * 10 := Int.pow_succ ..
    have eq : pnum t n (g + 1) v s = if 48 ≤ pl t n s ∧ pl t n s ≤ 57 then pnum t n g (v * 10 + pl t n s - 48) (padv s) else pad (1, v) s := rfl
    rw [eq] at hQ
    rw [b_M_number_4, if_pos (by omega), m_look H h, e_in]
    simp only [xbc]
    by_cases hd : 48 ≤ pl t n s ∧ pl t n s ≤ 57
    · rw [if_pos hd] at hQ
      have s1 := pl_ne (t := t) (n := n) (s := s) (by omega)
      rw [if_neg (fun q => q hd), m_look H h, xs1 (by omega), xw (x := 10 * v) (by omega) (by omega), xw (x := 10 * v + pl t n s) (by omega) (by omega), xw (x := 10 * v + pl t n s - 48) (by omega) (by omega), show 10 * v + pl t n s - 48 = v * 10 + pl t n s - 48 from by omega]
      exact m_num H g (i + 1) d _ (padv s) _ (by omega) (fun q => by omega) (by omega) (by omega) (m_adv h s1 n60) hb hL hQ
    · rw [if_neg hd] at hQ
      have i0 : i ≠ 0 := fun q => hd (hi q)
      rw [if_pos hd, if_neg (by omega)]
      refine ⟨Or.inl trivial, ?_⟩
      exact m_step (m_good h hb) (fun _ => hL) hQ
theorem m_num0 {d n u o : Nat} {t : Nat → Int} {σ0 σ : xM} {s : qPS} {Q : Int → xM → Prop} (H : Ht σ0 t n) (h : Ms σ0 u o s σ) (hd : ¬ (48 ≤ pl t n s ∧ pl t n s ≤ 57)) (hQ : ∀ σ', Ms σ0 u o (pbad s) σ' → Q 0 σ') : Ev (d + 1) 160 0 [vR 40 0, vR 0 0, vR 0 0] [] σ Q := by
  rw [b_M_number_0, b_M_number_4, if_pos (by decide), m_look H h, e_in]
  simp only [xbc]
  rw [if_pos hd, if_pos trivial]
  refine ⟨Or.inr trivial, ?_⟩
  refine m_step (m_bad h) (fun q => by cases q) (fun σ' h' => hQ σ' ?_)
  obtain ⟨k1, k2, k3, k4, k5, k6, k7, k8⟩ := h'
  exact ⟨k1, k2, k3, k4, k5, k6, k7, fun q => by cases q⟩
/-- a reader of the reference does this -/
def MI (σ0 : xM) (n u o M : Nat) (locs : List xV) (φ : qPS → qPS) (D : Nat) : Prop := ∀ e, D ≤ e → ∀ (s : qPS) (σ : xM) (Q : Int → xM → Prop), Ms σ0 u o s σ → pWf n s → s.2.2 = false → (∀ σ', Ms σ0 u o (φ s) σ' → Q 0 σ') → Ev e M 0 locs [] σ Q
theorem plp_bad {t : Nat → Int} {n : Nat} {lv : Int} {sub : qPS → qPS} {s : qPS} (h : s.2.2 = true) : ∀ g, plp t n lv sub g s = s
  | 0 => rfl
  | g + 1 => if_pos h
theorem plp_no {t : Nat → Int} {n : Nat} {lv : Int} {sub : qPS → qPS} {s : qPS} (h : plv (pl t n s) ≠ lv) : ∀ g, plp t n lv sub g s = s
  | 0 => rfl
  | g + 1 => by
    show (if s.2.2 = true then s else if plv (pl t n s) = lv then plp t n lv sub g (pad (pl t n s, 0) (sub (padv s))) else s) = s
    rw [if_neg h]
    split <;> rfl
theorem plp_go {t : Nat → Int} {n : Nat} {lv : Int} {sub : qPS → qPS} {s : qPS} {g : Nat} (hb : s.2.2 = false) (h : plv (pl t n s) = lv) : plp t n lv sub (g + 1) s = plp t n lv sub g (pad (pl t n s, 0) (sub (padv s))) := by
  show (if s.2.2 = true then s else if plv (pl t n s) = lv then plp t n lv sub g (pad (pl t n s, 0) (sub (padv s))) else s) = _
  rw [if_neg (by rw [hb]; decide), if_pos h]
theorem p_it {t : Nat → Int} {n : Nat} {lv : Int} {sub : qPS → qPS} {s : qPS} (h0 : 0 ≤ lv) (hs : pgd n sub) (hw : pWf n s) (hd : s.2.2 = false → 1 ≤ pdp s.2.1) (hb : s.2.2 = false) (hl : plv (pl t n s) = lv) : pWf n (pad (pl t n s, 0) (sub (padv s))) ∧ ((sub (padv s)).2.2 = false → 1 ≤ pdp (pad (pl t n s, 0) (sub (padv s))).2.1 ∧ s.1 < (sub (padv s)).1 ∧ (sub (padv s)).2.1.length < 60 + (n - 60)) := by
  have e1 : plp t n lv sub 1 s = pad (pl t n s, 0) (sub (padv s)) := plp_go hb hl
  obtain ⟨r1, r2⟩ := plp_g (t := t) h0 hs 1 s hw hd
  rw [e1] at r1 r2
  have s1 := pl_in hl h0
  obtain ⟨i1, i2⟩ := hs (padv s) (padv_w hw s1) hb
  refine ⟨r1, fun hb2 => ?_⟩
  obtain ⟨q1, q2, q3, q4⟩ := r2 hb2
  obtain ⟨j1, j2, j3⟩ := i2 hb2
  have j2 : s.1 + 1 < (sub (padv s)).1 := j2
  have k := (r1.2 hb2).1
  have k : (sub (padv s)).2.1.length + 1 ≤ (sub (padv s)).1 := k
  have j : (sub (padv s)).1 ≤ n := i1.1
  exact ⟨by rw [q2]; exact hd hb, by omega, by omega⟩
theorem m_it {n u o M D e : Nat} {locs : List xV} {t : Nat → Int} {σ0 σ : xM} {lv c : Int} {sub : qPS → qPS} {s : qPS} {K : xM → Prop} (H : Ht σ0 t n) (h0 : 0 ≤ lv) (hs : pgd n sub) (hc : MI σ0 n u o M locs sub D) (he : D ≤ e) (h : Ms σ0 u o s σ) (hw : pWf n s) (hd : s.2.2 = false → 1 ≤ pdp s.2.1) (hb : s.2.2 = false) (hl : plv (pl t n s) = lv) (ec : c = pl t n s) (hK : ∀ σ', Ms σ0 u o (pad (pl t n s, 0) (sub (padv s))) σ' → K σ') : Ev e M 0 locs [] (xup σ 40 0 2 (xwr (σ 40 0 2 + 1))) (fun _ s3 => Ev e 158 0 [vR 40 0, vI c, vI 0] [] s3 (fun _ s4 => K s4)) := by
  have n60 := H.1
  have s1 := pl_in hl h0
  subst ec
  obtain ⟨p1, p2⟩ := p_it h0 hs hw hd hb hl
  refine hc e he (padv s) _ _ (m_adv h s1 n60) (padv_w hw s1) hb (fun σ1 h1 => ?_)
  exact m_step h1 (fun hb2 => by have := (p2 hb2).2.2; omega) hK
theorem plv_4 {c : Int} : plv c = 4 ↔ c = 42 ∨ c = 47 ∨ c = 37 := by
  unfold plv
  repeat' split
  all_goals omega
theorem plv_3 {c : Int} : plv c = 3 ↔ c = 43 ∨ c = 45 := by
  unfold plv
  repeat' split
  all_goals omega
theorem plv_2 {c : Int} : plv c = 2 ↔ c = 60 ∨ c = 61 ∨ c = 62 := by
  unfold plv
  repeat' split
  all_goals omega
theorem plv_one {c : Int} : plv c = 1 ↔ c = 38 := by
  unfold plv
  repeat' split
  all_goals omega
theorem plv_0 {c : Int} : plv c = 0 ↔ c = 124 := by
  unfold plv
  repeat' split
  all_goals omega
/-- what a round of each loop does -/
def ML (σ0 : xM) (t : Nat → Int) (n u o M c0 : Nat) (locs : xV → List xV) (lv : Int) (sub : qPS → qPS) (D : Nat) : Prop :=
  ∀ e, D + 1 ≤ e → ∀ (w : xV) (s : qPS) (σ : xM) (Q : Int → xM → Prop), Ms σ0 u o s σ → pWf n s → (s.2.2 = false → 1 ≤ pdp s.2.1) →
    ((s.2.2 = true ∨ plv (pl t n s) ≠ lv) → Q 0 σ) → (s.2.2 = false → plv (pl t n s) = lv → ∀ σ' w', Ms σ0 u o (pad (pl t n s, 0) (sub (padv s))) σ' → Ev e M c0 (locs w') [] σ' Q) → Ev e M c0 (locs w) [] σ Q
theorem m_loop {n u o M c0 D : Nat} {locs : xV → List xV} {t : Nat → Int} {σ0 : xM} {lv : Int} {sub : qPS → qPS} {Q : Int → xM → Prop} (h0 : 0 ≤ lv) (hs : pgd n sub) (hM : ML σ0 t n u o M c0 locs lv sub D) :
    ∀ (g e : Nat) (w : xV) (s : qPS) (σ : xM), (s.2.2 = false → n ≤ s.1 + g) → D + 1 ≤ e → Ms σ0 u o s σ → pWf n s → (s.2.2 = false → 1 ≤ pdp s.2.1) → (∀ σ', Ms σ0 u o (plp t n lv sub g s) σ' → Q 0 σ') → Ev e M c0 (locs w) [] σ Q
  | 0, e, w, s, σ, hg, he, h, hw, hd, hQ => by
    refine hM e he w s σ Q h hw hd (fun _ => hQ σ h) (fun hb hl => ?_)
    have := pl_in hl h0
    have := hg hb
    omega
  | g + 1, e, w, s, σ, hg, he, h, hw, hd, hQ => by
    refine hM e he w s σ Q h hw hd (fun q => ?_) (fun hb hl σ1 w1 h1 => ?_)
    · refine hQ σ ?_
      rcases q with q | q
      · rw [plp_bad q]
        exact h
      · rw [plp_no q]
        exact h
    · rw [plp_go hb hl] at hQ
      obtain ⟨p1, p2⟩ := p_it h0 hs hw hd hb hl
      exact m_loop h0 hs hM g e w1 _ σ1 (fun hb2 => by have := (p2 hb2).2.1; have := hg hb; show n ≤ (sub (padv s)).1 + g; omega) he h1 p1 (fun hb2 => (p2 hb2).1) hQ
theorem ML_times {n u o D : Nat} {t : Nat → Int} {σ0 : xM} {sub : qPS → qPS} (H : Ht σ0 t n) (hs : pgd n sub) (hc : MI σ0 n u o 162 [vR 40 0, vR 0 0, vR 0 0] sub D) : ML σ0 t n u o 163 4 (fun w => [vR 40 0, w]) 4 sub D := by
  intro e he w s σ Q h hw hd hN hY
  obtain ⟨e', rfl⟩ : ∃ e', e = e' + 1 := ⟨e - 1, by omega⟩
  show Ev (e' + 1) 163 4 [vR 40 0, w] [] σ Q
  rw [b_M_times_4, h.2.2.2.2.1]
  by_cases hb : s.2.2 = true
  · rw [if_pos hb, if_neg (by decide)]
    exact hN (Or.inl hb)
  · have hb' : s.2.2 = false := by simpa using hb
    rw [if_neg hb, if_pos rfl, m_look H h]
    by_cases c1 : pl t n s = 42
    · have hl : plv (pl t n s) = 4 := plv_4.mpr (Or.inl c1)
      rw [if_pos c1, m_look H h]
      exact m_it H (by decide) hs hc (by omega) h hw hd hb' hl rfl (fun σ1 h1 => hY hb' hl σ1 _ h1)
    · rw [if_neg c1, m_look H h]
      by_cases c2 : pl t n s = 47
      · have hl : plv (pl t n s) = 4 := plv_4.mpr (Or.inr (Or.inl c2))
        rw [if_pos c2, m_look H h]
        exact m_it H (by decide) hs hc (by omega) h hw hd hb' hl rfl (fun σ1 h1 => hY hb' hl σ1 _ h1)
      · rw [if_neg c2, m_look H h]
        by_cases c3 : pl t n s = 37
        · have hl : plv (pl t n s) = 4 := plv_4.mpr (Or.inr (Or.inr c3))
          rw [if_pos c3, m_look H h]
          exact m_it H (by decide) hs hc (by omega) h hw hd hb' hl rfl (fun σ1 h1 => hY hb' hl σ1 _ h1)
        · rw [if_neg c3]
          exact hN (Or.inr (fun q => by rcases plv_4.mp q with q | q | q <;> omega))
theorem ML_sum {n u o D : Nat} {t : Nat → Int} {σ0 : xM} {sub : qPS → qPS} (H : Ht σ0 t n) (hs : pgd n sub) (hc : MI σ0 n u o 163 [vR 40 0, vR 0 0] sub D) : ML σ0 t n u o 164 4 (fun w => [vR 40 0, w]) 3 sub D := by
  intro e he w s σ Q h hw hd hN hY
  obtain ⟨e', rfl⟩ : ∃ e', e = e' + 1 := ⟨e - 1, by omega⟩
  show Ev (e' + 1) 164 4 [vR 40 0, w] [] σ Q
  rw [b_M_sum_4, h.2.2.2.2.1]
  by_cases hb : s.2.2 = true
  · rw [if_pos hb, if_neg (by decide)]
    exact hN (Or.inl hb)
  · have hb' : s.2.2 = false := by simpa using hb
    rw [if_neg hb, if_pos rfl, m_look H h]
    by_cases c1 : pl t n s = 43
    · have hl : plv (pl t n s) = 3 := plv_3.mpr (Or.inl c1)
      rw [if_pos c1, m_look H h]
      exact m_it H (by decide) hs hc (by omega) h hw hd hb' hl rfl (fun σ1 h1 => hY hb' hl σ1 _ h1)
    · rw [if_neg c1, m_look H h]
      by_cases c2 : pl t n s = 45
      · have hl : plv (pl t n s) = 3 := plv_3.mpr (Or.inr c2)
        rw [if_pos c2, m_look H h]
        exact m_it H (by decide) hs hc (by omega) h hw hd hb' hl rfl (fun σ1 h1 => hY hb' hl σ1 _ h1)
      · rw [if_neg c2]
        exact hN (Or.inr (fun q => by rcases plv_3.mp q with q | q <;> omega))
theorem ML_all {n u o D : Nat} {t : Nat → Int} {σ0 : xM} {sub : qPS → qPS} (H : Ht σ0 t n) (hs : pgd n sub) (hc : MI σ0 n u o 165 [vR 40 0, vR 0 0] sub D) : ML σ0 t n u o 166 4 (fun _ => [vR 40 0]) 1 sub D := by
  intro e he w s σ Q h hw hd hN hY
  obtain ⟨e', rfl⟩ : ∃ e', e = e' + 1 := ⟨e - 1, by omega⟩
  show Ev (e' + 1) 166 4 [vR 40 0] [] σ Q
  rw [b_M_all_4, h.2.2.2.2.1]
  by_cases hb : s.2.2 = true
  · rw [if_pos hb, if_neg (by decide)]
    exact hN (Or.inl hb)
  · have hb' : s.2.2 = false := by simpa using hb
    rw [if_neg hb, if_pos rfl, m_look H h]
    by_cases c1 : pl t n s = 38
    · have hl : plv (pl t n s) = 1 := plv_one.mpr c1
      rw [if_pos c1]
      exact m_it H (by decide) hs hc (by omega) h hw hd hb' hl c1.symm (fun σ1 h1 => hY hb' hl σ1 w h1)
    · rw [if_neg c1]
      exact hN (Or.inr (fun q => c1 (plv_one.mp q)))
theorem ML_any {n u o D : Nat} {t : Nat → Int} {σ0 : xM} {sub : qPS → qPS} (H : Ht σ0 t n) (hs : pgd n sub) (hc : MI σ0 n u o 166 [vR 40 0] sub D) : ML σ0 t n u o 167 4 (fun _ => [vR 40 0]) 0 sub D := by
  intro e he w s σ Q h hw hd hN hY
  obtain ⟨e', rfl⟩ : ∃ e', e = e' + 1 := ⟨e - 1, by omega⟩
  show Ev (e' + 1) 167 4 [vR 40 0] [] σ Q
  rw [b_M_any_4, h.2.2.2.2.1]
  by_cases hb : s.2.2 = true
  · rw [if_pos hb, if_neg (by decide)]
    exact hN (Or.inl hb)
  · have hb' : s.2.2 = false := by simpa using hb
    rw [if_neg hb, if_pos rfl, m_look H h]
    by_cases c1 : pl t n s = 124
    · have hl : plv (pl t n s) = 0 := plv_0.mpr c1
      rw [if_pos c1]
      exact m_it H (by decide) hs hc (by omega) h hw hd hb' hl c1.symm (fun σ1 h1 => hY hb' hl σ1 w h1)
    · rw [if_neg c1]
      exact hN (Or.inr (fun q => c1 (plv_0.mp q)))
theorem p_fst {t : Nat → Int} {n : Nat} {sub : qPS → qPS} {s : qPS} (n60 : n ≤ 60) (hs : pgd n sub) (hw : pWf n s) (hb : s.2.2 = false) : pWf n (sub s) ∧ ((sub s).2.2 = false → n ≤ (sub s).1 + 60) ∧ ((sub s).2.2 = false → 1 ≤ pdp (sub s).2.1) := by
  obtain ⟨i1, i2⟩ := hs s hw hb
  exact ⟨i1, fun _ => by omega, fun hb2 => by
    have := pdp_0 _ (hw.2 hb).2
    rw [(i2 hb2).1]
    omega⟩
theorem m_times {n u o D : Nat} {t : Nat → Int} {σ0 : xM} {sub : qPS → qPS} (H : Ht σ0 t n) (hs : pgd n sub) (hc : MI σ0 n u o 162 [vR 40 0, vR 0 0, vR 0 0] sub D) : MI σ0 n u o 163 [vR 40 0, vR 0 0] (pbin t n 4 60 sub) (D + 1) := by
  intro e he s σ Q h hw hb hQ
  obtain ⟨e', rfl⟩ : ∃ e', e = e' + 1 := ⟨e - 1, by omega⟩
  obtain ⟨i1, i2, i3⟩ := p_fst (t := t) H.1 hs hw hb
  rw [b_M_times_0]
  exact hc e' (by omega) s σ _ h hw hb (fun σ1 h1 => m_loop (by decide) hs (ML_times H hs hc) 60 (e' + 1) _ _ σ1 i2 he h1 i1 i3 hQ)
theorem m_summ {n u o D : Nat} {t : Nat → Int} {σ0 : xM} {sub : qPS → qPS} (H : Ht σ0 t n) (hs : pgd n sub) (hc : MI σ0 n u o 163 [vR 40 0, vR 0 0] sub D) : MI σ0 n u o 164 [vR 40 0, vR 0 0] (pbin t n 3 60 sub) (D + 1) := by
  intro e he s σ Q h hw hb hQ
  obtain ⟨e', rfl⟩ : ∃ e', e = e' + 1 := ⟨e - 1, by omega⟩
  obtain ⟨i1, i2, i3⟩ := p_fst (t := t) H.1 hs hw hb
  rw [b_M_sum_0]
  exact hc e' (by omega) s σ _ h hw hb (fun σ1 h1 => m_loop (by decide) hs (ML_sum H hs hc) 60 (e' + 1) _ _ σ1 i2 he h1 i1 i3 hQ)
theorem m_cmp {n u o D : Nat} {t : Nat → Int} {σ0 : xM} {sub : qPS → qPS} (H : Ht σ0 t n) (hs : pgd n sub) (hc : MI σ0 n u o 164 [vR 40 0, vR 0 0] sub D) : MI σ0 n u o 165 [vR 40 0, vR 0 0] (pbin t n 2 1 sub) (D + 1) := by
  intro e he s σ Q h hw hb hQ
  obtain ⟨e', rfl⟩ : ∃ e', e = e' + 1 := ⟨e - 1, by omega⟩
  obtain ⟨i1, i2, i3⟩ := p_fst (t := t) H.1 hs hw hb
  rw [b_M_compares_0]
  refine hc e' (by omega) s σ _ h hw hb (fun σ1 h1 => ?_)
  have hQ : ∀ σ', Ms σ0 u o (plp t n 2 sub 1 (sub s)) σ' → Q 0 σ' := hQ
  rw [m_look H h1, h1.2.2.2.2.1]
  by_cases hb2 : (sub s).2.2 = true
  · rw [plp_bad hb2] at hQ
    rw [if_pos hb2, if_neg (by decide)]
    exact hQ _ h1
  · have hb2' : (sub s).2.2 = false := by simpa using hb2
    rw [if_neg hb2, if_pos rfl]
    by_cases hl : plv (pl t n (sub s)) = 2
    · rw [plp_go hb2' hl] at hQ
      have go : Ev e' 164 0 [vR 40 0, vR 0 0] [] (xup σ1 40 0 2 (xwr (σ1 40 0 2 + 1))) (fun _ s3 => Ev e' 158 0 [vR 40 0, vI (pl t n (sub s)), vI 0] [] s3 (fun _ s4 => Q 0 s4)) := m_it H (by decide) hs hc (by omega) h1 i1 i3 hb2' hl rfl hQ
      by_cases c1 : pl t n (sub s) = 60
      · rw [if_pos c1]
        exact go
      · rw [if_neg c1]
        by_cases c2 : pl t n (sub s) = 61
        · rw [if_pos c2]
          exact go
        · rw [if_neg c2]
          by_cases c3 : pl t n (sub s) = 62
          · rw [if_pos c3]
            exact go
          · rcases plv_2.mp hl with q | q | q <;> omega
    · rw [plp_no hl] at hQ
      rw [if_neg (fun q => hl (plv_2.mpr (Or.inl q))), if_neg (fun q => hl (plv_2.mpr (Or.inr (Or.inl q)))), if_neg (fun q => hl (plv_2.mpr (Or.inr (Or.inr q))))]
      exact hQ _ h1
theorem m_all {n u o D : Nat} {t : Nat → Int} {σ0 : xM} {sub : qPS → qPS} (H : Ht σ0 t n) (hs : pgd n sub) (hc : MI σ0 n u o 165 [vR 40 0, vR 0 0] sub D) : MI σ0 n u o 166 [vR 40 0] (pbin t n 1 60 sub) (D + 1) := by
  intro e he s σ Q h hw hb hQ
  obtain ⟨e', rfl⟩ : ∃ e', e = e' + 1 := ⟨e - 1, by omega⟩
  obtain ⟨i1, i2, i3⟩ := p_fst (t := t) H.1 hs hw hb
  rw [b_M_all_0]
  exact hc e' (by omega) s σ _ h hw hb (fun σ1 h1 => m_loop (by decide) hs (ML_all H hs hc) 60 (e' + 1) (vR 0 0) _ σ1 i2 he h1 i1 i3 hQ)
theorem m_any {n u o D : Nat} {t : Nat → Int} {σ0 : xM} {sub : qPS → qPS} (H : Ht σ0 t n) (hs : pgd n sub) (hc : MI σ0 n u o 166 [vR 40 0] sub D) : MI σ0 n u o 167 [vR 40 0] (pbin t n 0 60 sub) (D + 1) := by
  intro e he s σ Q h hw hb hQ
  obtain ⟨e', rfl⟩ : ∃ e', e = e' + 1 := ⟨e - 1, by omega⟩
  obtain ⟨i1, i2, i3⟩ := p_fst (t := t) H.1 hs hw hb
  rw [b_M_any_0]
  exact hc e' (by omega) s σ _ h hw hb (fun σ1 h1 => m_loop (by decide) hs (ML_any H hs hc) 60 (e' + 1) (vR 0 0) _ σ1 i2 he h1 i1 i3 hQ)
theorem m_top {n u o D : Nat} {t : Nat → Int} {σ0 : xM} {fc : qPS → qPS} (H : Ht σ0 t n) (hs : pgd n fc) (hc : MI σ0 n u o 162 [vR 40 0, vR 0 0, vR 0 0] fc D) : MI σ0 n u o 167 [vR 40 0] (ptop t n fc) (D + 5) := by
  have g4 : pgd n (pbin t n 4 60 fc) := pbin_g (by decide) hs
  have g3 : pgd n (pbin t n 3 60 (pbin t n 4 60 fc)) := pbin_g (by decide) g4
  have g2 : pgd n (pbin t n 2 1 (pbin t n 3 60 (pbin t n 4 60 fc))) := pbin_g (by decide) g3
  have g1 : pgd n (pbin t n 1 60 (pbin t n 2 1 (pbin t n 3 60 (pbin t n 4 60 fc)))) := pbin_g (by decide) g2
  exact m_any H g1 (m_all H g2 (m_cmp H g3 (m_summ H g4 (m_times H hs hc))))
theorem m_fact0 {n u : Nat} {t : Nat → Int} {σ0 : xM} (H : Ht σ0 t n) (hu : u < 2) : MI σ0 n u 0 162 [vR 40 0, vR 0 0, vR 0 0] (pfs t n u false id id) 7 := by
  intro e he s σ Q h hw hb hQ
  obtain ⟨e', rfl⟩ : ∃ e', e = e' + 2 := ⟨e - 2, by omega⟩
  have n60 := H.1
  obtain ⟨hL, hpw⟩ := hw.2 hb
  have o5 : σ 40 0 3 = 5 := h.2.2.2.1
  unfold pfs at hQ
  rw [b_M_one_0, m_look H h, m_name h.2.2.2.2.2.1 hu]
  by_cases hd : 48 ≤ pl t n s ∧ pl t n s ≤ 57
  · rw [if_pos hd] at hQ
    have s1 := pl_ne (t := t) (n := n) (s := s) (by omega)
    have nn : pnm u (pl t n s) < 0 := by
      unfold pnm
      repeat' split
      all_goals omega
    rw [if_pos nn, if_neg (by omega), if_neg (by omega), b_M_number_0]
    exact m_num H 4 0 _ 0 s σ (by decide) (fun _ => hd) (by decide) (by decide) h hb (by omega) hQ
  · rw [if_neg hd] at hQ
    by_cases hn : 0 ≤ pnm u (pl t n s)
    · rw [if_pos hn] at hQ
      have s1 := pl_ne (pnm_in hn).1
      rw [if_neg (by omega)]
      exact m_step (s := padv s) (m_adv h s1 n60) (fun _ => by show s.2.1.length < 60; omega) hQ
    · rw [if_neg hn, if_neg (by decide)] at hQ
      rw [if_pos (by omega), b_M_opens_0, o5, if_pos rfl, xz1]
      have := hQ _ (m_bad h)
      split
      · exact this
      · split
        · exact this
        · exact m_num0 H h hd hQ
theorem m_fact {n u o D : Nat} {t : Nat → Int} {σ0 : xM} {fneg fpar : qPS → qPS} (H : Ht σ0 t n) (hu : u < 2) (ho : o + 1 ≤ 5) (g1 : pgd n fneg) (g2 : pgd n fpar) (h1 : MI σ0 n u o 162 [vR 40 0, vR 0 0, vR 0 0] fneg D) (h2 : MI σ0 n u o 167 [vR 40 0] fpar D) : MI σ0 n u (o + 1) 162 [vR 40 0, vR 0 0, vR 0 0] (pfs t n u true fneg fpar) (D + 2) := by
  intro e he s σ Q h hw hb hQ
  obtain ⟨e', rfl⟩ : ∃ e', e = e' + 2 := ⟨e - 2, by omega⟩
  have n60 := H.1
  obtain ⟨hL, hpw⟩ := hw.2 hb
  have o5 : σ 40 0 3 = 5 - ((o + 1 : Nat) : Int) := h.2.2.2.1
  unfold pfs at hQ
  rw [b_M_one_0, m_look H h, m_name h.2.2.2.2.2.1 hu]
  by_cases hd : 48 ≤ pl t n s ∧ pl t n s ≤ 57
  · rw [if_pos hd] at hQ
    have s1 := pl_ne (t := t) (n := n) (s := s) (by omega)
    have nn : pnm u (pl t n s) < 0 := by
      unfold pnm
      repeat' split
      all_goals omega
    rw [if_pos nn, if_neg (by omega), if_neg (by omega), b_M_number_0]
    exact m_num H 4 0 _ 0 s σ (by decide) (fun _ => hd) (by decide) (by decide) h hb (by omega) hQ
  · rw [if_neg hd] at hQ
    by_cases hn : 0 ≤ pnm u (pl t n s)
    · rw [if_pos hn] at hQ
      have s1 := pl_ne (pnm_in hn).1
      rw [if_neg (by omega)]
      exact m_step (s := padv s) (m_adv h s1 n60) (fun _ => by show s.2.1.length < 60; omega) hQ
    · rw [if_neg hn, if_pos rfl] at hQ
      rw [if_pos (by omega)]
      have ex : xwr (σ 40 0 3 + 1) = 5 - (o : Int) := by rw [o5, xw (by omega) (by omega)]; omega
      have ms : s.1 < n → Ms σ0 u o (padv s) (xup (xup σ 40 0 3 (xwr (σ 40 0 3 + 1))) 40 0 2 (xwr ((xup σ 40 0 3 (xwr (σ 40 0 3 + 1))) 40 0 2 + 1))) := fun s1 => m_adv (m_open h ex) s1 n60
      have back : ∀ (s' : qPS) (σ' : xM), Ms σ0 u o s' σ' → Ms σ0 u (o + 1) s' (xup σ' 40 0 3 (xwr (σ' 40 0 3 - 1))) := fun s' σ' h' => m_open h' (by rw [h'.2.2.2.1, xw (by omega) (by omega)]; omega)
      by_cases c1 : pl t n s = 33
      · rw [if_pos c1] at hQ
        have s1 := pl_ne (t := t) (n := n) (s := s) (by omega)
        rw [if_pos c1, b_M_opens_0, if_neg (by omega), if_pos c1]
        refine h1 e' (by omega) (padv s) _ _ (ms s1) (padv_w hw s1) hb (fun σ1 k1 => ?_)
        obtain ⟨i1, i2⟩ := g1 (padv s) (padv_w hw s1) hb
        refine m_step k1 (fun hb2 => ?_) (fun σ2 k2 => hQ _ (back _ _ k2))
        obtain ⟨j1, j2, j3⟩ := i2 hb2
        have j3 : (fneg (padv s)).2.1.length + (s.1 + 1) ≤ s.2.1.length + (fneg (padv s)).1 := j3
        have j2 : s.1 + 1 < (fneg (padv s)).1 := j2
        have := i1.1
        omega
      · rw [if_neg c1] at hQ
        rw [if_neg c1]
        by_cases c2 : pl t n s = 40
        · rw [if_pos c2] at hQ
          have s1 := pl_ne (t := t) (n := n) (s := s) (by omega)
          rw [if_pos c2, b_M_opens_0, if_neg (by omega), if_neg c1]
          refine h2 e' (by omega) (padv s) _ _ (ms s1) (padv_w hw s1) hb (fun σ1 k1 => ?_)
          obtain ⟨i1, i2⟩ := g2 (padv s) (padv_w hw s1) hb
          have k5 := k1.2.2.2.2.1
          have k3 := k1.2.2.1
          unfold pcl at hQ
          have z : ∀ σ' : xM, Ms σ0 u o (pbad (fpar (padv s))) σ' → Q 0 (xup (xup σ' 40 0 2 (xwr (σ' 40 0 2 + 0))) 40 0 3 (xwr ((xup σ' 40 0 2 (xwr (σ' 40 0 2 + 0))) 40 0 3 - 1))) → Q 0 (xup (xup σ' 40 0 2 (xwr (σ' 40 0 2 + 0))) 40 0 3 (xwr ((xup σ' 40 0 2 (xwr (σ' 40 0 2 + 0))) 40 0 3 - 1))) := fun _ _ q => q
          have st0 : ∀ σ' : xM, Ms σ0 u o (pbad (fpar (padv s))) σ' → Ms σ0 u (o + 1) (pbad (fpar (padv s))) (xup (xup σ' 40 0 2 (xwr (σ' 40 0 2 + 0))) 40 0 3 (xwr ((xup σ' 40 0 2 (xwr (σ' 40 0 2 + 0))) 40 0 3 - 1))) := by
            intro σ' k
            have e0 : xwr (σ' 40 0 2 + 0) = σ' 40 0 2 := by
              have := i1.1
              have q : σ' 40 0 2 = (((fpar (padv s)).1 : Nat) : Int) := k.2.2.1
              rw [q, xw (by omega) (by omega)]
              omega
            rw [e0, xup_self]
            exact back _ _ k
          by_cases hb2 : (fpar (padv s)).2.2 = true
          · rw [if_pos hb2] at hQ
            rw [k5, if_pos hb2, if_neg (by decide), xz1, xup_s, if_neg (by decide)]
            exact hQ _ (st0 _ (m_bad k1))
          · have hb2' : (fpar (padv s)).2.2 = false := by simpa using hb2
            rw [if_neg hb2] at hQ
            rw [k5, if_neg hb2, if_pos rfl, m_look H k1]
            by_cases c3 : pl t n (fpar (padv s)) = 41
            · rw [if_pos c3] at hQ
              have s2 := pl_ne (t := t) (n := n) (s := fpar (padv s)) (by omega)
              rw [if_pos c3, xz0, xup_s, if_pos rfl]
              exact hQ _ (back _ _ (m_adv (m_good k1 hb2') s2 n60))
            · rw [if_neg c3] at hQ
              rw [if_neg c3, xz1, xup_s, if_neg (by decide)]
              exact hQ _ (st0 _ (m_bad k1))
        · rw [if_neg c2] at hQ
          rw [if_neg c2]
          exact m_num0 H h hd hQ
theorem m_pfc {n u : Nat} {t : Nat → Int} {σ0 : xM} (H : Ht σ0 t n) (hu : u < 2) : ∀ o : Nat, o ≤ 5 → MI σ0 n u o 162 [vR 40 0, vR 0 0, vR 0 0] (pfc t n u o) (7 * o + 7)
  | 0, _ => m_fact0 H hu
  | o + 1, ho => by
    have i1 := m_pfc H hu o (by omega)
    have i2 := m_top H (pfc_g o) i1
    exact m_fact (D := 7 * o + 7 + 5) H hu ho (pfc_g o) (ptop_g (pfc_g o)) (fun e he => i1 e (by omega)) i2
