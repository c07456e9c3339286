/-! texts as they are read -/
abbrev qPS : Type := Nat × (List (Int × Int) × Bool)
def pl (t : Nat → Int) (n : Nat) (s : qPS) : Int := if s.1 < n then t s.1 else -1
def padv (s : qPS) : qPS := (s.1 + 1, s.2)
def pad (x : Int × Int) (s : qPS) : qPS := (s.1, x :: s.2.1, s.2.2)
def pbad (s : qPS) : qPS := (s.1, s.2.1, true)
def plv (c : Int) : Int := if c = 37 then 4 else if c = 38 then 1 else if c = 42 then 4 else if c = 43 then 3 else if c = 45 then 3 else if c = 47 then 4 else if c = 60 then 2 else if c = 61 then 2 else if c = 62 then 2 else if c = 124 then 0 else -1
def plp (t : Nat → Int) (n : Nat) (lv : Int) (sub : qPS → qPS) : Nat → qPS → qPS
  | 0, s => s
  | g + 1, s => if s.2.2 = true then s else if plv (pl t n s) = lv then plp t n lv sub g (pad (pl t n s, 0) (sub (padv s))) else s
def pbin (t : Nat → Int) (n : Nat) (lv : Int) (most : Nat) (sub : qPS → qPS) (s : qPS) : qPS := plp t n lv sub most (sub s)
def ptop (t : Nat → Int) (n : Nat) (fc : qPS → qPS) : qPS → qPS := pbin t n 0 60 (pbin t n 1 60 (pbin t n 2 1 (pbin t n 3 60 (pbin t n 4 60 fc))))
def pnm (u : Nat) (c : Int) : Int := if c = 119 then 0 else if u = 0 then (if c = 108 then 1 else if c = 118 then 2 else -1) else (if c = 115 then 1 else if c = 121 then 2 else -1)
def pnum (t : Nat → Int) (n : Nat) : Nat → Int → qPS → qPS
  | 0, v, s => pad (1, v) s
  | g + 1, v, s => if 48 ≤ pl t n s ∧ pl t n s ≤ 57 then pnum t n g (v * 10 + pl t n s - 48) (padv s) else pad (1, v) s
def pcl (t : Nat → Int) (n : Nat) (s : qPS) : qPS := if s.2.2 = true then pbad s else if pl t n s = 41 then padv s else pbad s
def pfs (t : Nat → Int) (n u : Nat) (can : Bool) (fneg fpar : qPS → qPS) (s : qPS) : qPS :=
  if 48 ≤ pl t n s ∧ pl t n s ≤ 57 then pnum t n 4 0 s
  else if 0 ≤ pnm u (pl t n s) then pad (2, pnm u (pl t n s)) (padv s)
  else if can = true then (if pl t n s = 33 then pad (3, 0) (fneg (padv s)) else if pl t n s = 40 then pcl t n (fpar (padv s)) else pbad s)
  else pbad s
def pfc (t : Nat → Int) (n u : Nat) : Nat → qPS → qPS
  | 0 => pfs t n u false id id
  | o + 1 => pfs t n u true (pfc t n u o) (ptop t n (pfc t n u o))
def pdp : List (Int × Int) → Int
  | [] => 0
  | x :: r => pdp r + (if x.1 = 1 ∨ x.1 = 2 then 1 else if x.1 = 3 then 0 else -1)
def pcs (x : Int × Int) : Int := if x.1 = 1 then x.2 else if x.1 = 2 then -1 - x.2 else if x.1 = 3 then -33 else -x.1
def pok (x : Int × Int) : Prop := (x.1 = 1 ∧ 0 ≤ x.2) ∨ (x.1 = 2 ∧ 0 ≤ x.2 ∧ x.2 ≤ 2) ∨ x.1 = 3 ∨ xop x.1
def pwl : List (Int × Int) → Prop
  | [] => True
  | x :: r => pwl r ∧ pok x ∧ (x.1 = 3 → 1 ≤ pdp r) ∧ (x.1 ≠ 1 → x.1 ≠ 2 → x.1 ≠ 3 → 2 ≤ pdp r)
def pWf (n : Nat) (s : qPS) : Prop := s.1 ≤ n ∧ (s.2.2 = false → s.2.1.length ≤ s.1 ∧ pwl s.2.1)
theorem pdp_0 : ∀ l, pwl l → 0 ≤ pdp l
  | [], _ => Int.le_refl _
  | x :: r, h => by
    have ih := pdp_0 r h.1
    show 0 ≤ pdp r + (if x.1 = 1 ∨ x.1 = 2 then 1 else if x.1 = 3 then 0 else -1)
    by_cases e1 : x.1 = 1 ∨ x.1 = 2
    · rw [if_pos e1]
      omega
    · by_cases e3 : x.1 = 3
      · rw [if_neg e1, if_pos e3]
        omega
      · rw [if_neg e1, if_neg e3]
        have := h.2.2.2 (fun q => e1 (Or.inl q)) (fun q => e1 (Or.inr q)) e3
        omega
/-- what a reader does to what it stands at -/
def pgd (n : Nat) (φ : qPS → qPS) : Prop := ∀ s, pWf n s → s.2.2 = false → pWf n (φ s) ∧ ((φ s).2.2 = false → pdp (φ s).2.1 = pdp s.2.1 + 1 ∧ s.1 < (φ s).1 ∧ (φ s).2.1.length + s.1 ≤ s.2.1.length + (φ s).1)
theorem plv_op {c : Int} (h : 0 ≤ plv c) : xop c := by
  unfold plv at h
  unfold xop
  by_cases h1 : c = 37; · omega
  rw [if_neg h1] at h
  by_cases h2 : c = 38; · omega
  rw [if_neg h2] at h
  by_cases h3 : c = 42; · omega
  rw [if_neg h3] at h
  by_cases h4 : c = 43; · omega
  rw [if_neg h4] at h
  by_cases h5 : c = 45; · omega
  rw [if_neg h5] at h
  by_cases h6 : c = 47; · omega
  rw [if_neg h6] at h
  by_cases h7 : c = 60; · omega
  rw [if_neg h7] at h
  by_cases h8 : c = 61; · omega
  rw [if_neg h8] at h
  by_cases h9 : c = 62; · omega
  rw [if_neg h9] at h
  by_cases h10 : c = 124; · omega
  rw [if_neg h10] at h
  omega
theorem xop_n {c : Int} (h : xop c) : c ≠ 1 ∧ c ≠ 2 ∧ c ≠ 3 ∧ c ≠ -1 := by
  unfold xop at h
  omega
theorem plv_1 : plv (-1) = -1 := by decide
theorem pl_in {t : Nat → Int} {n : Nat} {s : qPS} {lv : Int} (h : plv (pl t n s) = lv) (h0 : 0 ≤ lv) : s.1 < n := by
  by_cases e : s.1 < n
  · exact e
  · unfold pl at h
    rw [if_neg e, plv_1] at h
    omega
theorem pl_ne {t : Nat → Int} {n : Nat} {s : qPS} (h : pl t n s ≠ -1) : s.1 < n := by
  by_cases e : s.1 < n
  · exact e
  · unfold pl at h
    rw [if_neg e] at h
    exact absurd rfl h
theorem padv_w {n : Nat} {s : qPS} (h : pWf n s) (h1 : s.1 < n) : pWf n (padv s) := ⟨h1, fun hb => by
  obtain ⟨a, b⟩ := h.2 hb
  exact ⟨Nat.le_succ_of_le a, b⟩⟩
theorem plp_g {t : Nat → Int} {n : Nat} {lv : Int} {sub : qPS → qPS} (h0 : 0 ≤ lv) (hs : pgd n sub) : ∀ g s, pWf n s → (s.2.2 = false → 1 ≤ pdp s.2.1) → pWf n (plp t n lv sub g s) ∧ ((plp t n lv sub g s).2.2 = false → s.2.2 = false ∧ pdp (plp t n lv sub g s).2.1 = pdp s.2.1 ∧ s.1 ≤ (plp t n lv sub g s).1 ∧ (plp t n lv sub g s).2.1.length + s.1 ≤ s.2.1.length + (plp t n lv sub g s).1)
  | 0, s, h, hd => ⟨h, fun hb => ⟨hb, rfl, Nat.le_refl _, Nat.le_refl _⟩⟩
  | g + 1, s, h, hd => by
    have eq : plp t n lv sub (g + 1) s = if s.2.2 = true then s else if plv (pl t n s) = lv then plp t n lv sub g (pad (pl t n s, 0) (sub (padv s))) else s := rfl
    rw [eq]
    by_cases hb : s.2.2 = true
    · rw [if_pos hb]
      exact ⟨h, fun q => by rw [hb] at q; cases q⟩
    · have hb' : s.2.2 = false := by simpa using hb
      rw [if_neg hb]
      by_cases hl : plv (pl t n s) = lv
      · rw [if_pos hl]
        have s1 := pl_in hl h0
        have w1 := padv_w h s1
        obtain ⟨i1, i2⟩ := hs (padv s) w1 hb'
        have op := plv_op (c := pl t n s) (by omega)
        obtain ⟨o1, o2, o3, -⟩ := xop_n op
        have w2 : pWf n (pad (pl t n s, 0) (sub (padv s))) := by
          refine ⟨i1.1, fun hb2 => ?_⟩
          obtain ⟨j1, j2, j3⟩ := i2 hb2
          obtain ⟨k1, k2⟩ := i1.2 hb2
          have hd' := hd hb'
          have hL := (h.2 hb').1
          have j1 : pdp (sub (padv s)).2.1 = pdp s.2.1 + 1 := j1
          have j3 : (sub (padv s)).2.1.length + (s.1 + 1) ≤ s.2.1.length + (sub (padv s)).1 := j3
          refine ⟨by show (sub (padv s)).2.1.length + 1 ≤ (sub (padv s)).1; omega, k2, Or.inr (Or.inr (Or.inr op)), fun q => absurd q o3, fun _ _ _ => by omega⟩
        have dp2 : ∀ hb2 : (sub (padv s)).2.2 = false, pdp (pad (pl t n s, 0) (sub (padv s))).2.1 = pdp s.2.1 ∧ (sub (padv s)).2.1.length + 1 + s.1 ≤ s.2.1.length + (sub (padv s)).1 ∧ s.1 ≤ (sub (padv s)).1 := by
          intro hb2
          obtain ⟨j1, j2, j3⟩ := i2 hb2
          have j1 : pdp (sub (padv s)).2.1 = pdp s.2.1 + 1 := j1
          have j2 : s.1 + 1 < (sub (padv s)).1 := j2
          have j3 : (sub (padv s)).2.1.length + (s.1 + 1) ≤ s.2.1.length + (sub (padv s)).1 := j3
          refine ⟨?_, by omega, by omega⟩
          show pdp (sub (padv s)).2.1 + (if pl t n s = 1 ∨ pl t n s = 2 then 1 else if pl t n s = 3 then 0 else -1) = pdp s.2.1
          rw [if_neg (by omega), if_neg o3]
          omega
        obtain ⟨r1, r2⟩ := plp_g (t := t) h0 hs g (pad (pl t n s, 0) (sub (padv s))) w2 (fun hb2 => by rw [(dp2 hb2).1]; exact hd hb')
        refine ⟨r1, fun hb3 => ?_⟩
        obtain ⟨q1, q2, q3, q4⟩ := r2 hb3
        have q1 : (sub (padv s)).2.2 = false := q1
        obtain ⟨d1, d2, d3⟩ := dp2 q1
        have q3 : (sub (padv s)).1 ≤ _ := q3
        have q4 : _ + (sub (padv s)).1 ≤ (sub (padv s)).2.1.length + 1 + _ := q4
        exact ⟨hb', by rw [q2, d1], by omega, by omega⟩
      · rw [if_neg hl]
        exact ⟨h, fun _ => ⟨hb', rfl, Nat.le_refl _, Nat.le_refl _⟩⟩
theorem pbin_g {t : Nat → Int} {n : Nat} {lv : Int} {most : Nat} {sub : qPS → qPS} (h0 : 0 ≤ lv) (hs : pgd n sub) : pgd n (pbin t n lv most sub) := by
  intro s h hb
  obtain ⟨i1, i2⟩ := hs s h hb
  obtain ⟨r1, r2⟩ := plp_g (t := t) h0 hs most (sub s) i1 (fun hb2 => by
    have := pdp_0 _ (h.2 hb).2
    rw [(i2 hb2).1]
    omega)
  refine ⟨r1, fun hb3 => ?_⟩
  obtain ⟨q1, q2, q3, q4⟩ := r2 hb3
  obtain ⟨j1, j2, j3⟩ := i2 q1
  have q2 : pdp (pbin t n lv most sub s).2.1 = _ := q2
  have q3 : (sub s).1 ≤ (pbin t n lv most sub s).1 := q3
  have q4 : (pbin t n lv most sub s).2.1.length + (sub s).1 ≤ (sub s).2.1.length + (pbin t n lv most sub s).1 := q4
  exact ⟨by rw [q2, j1], by omega, by omega⟩
theorem ptop_g {t : Nat → Int} {n : Nat} {fc : qPS → qPS} (hs : pgd n fc) : pgd n (ptop t n fc) := pbin_g (by decide) (pbin_g (by decide) (pbin_g (by decide) (pbin_g (by decide) (pbin_g (by decide) hs))))
theorem pnum_f {t : Nat → Int} {n : Nat} : ∀ (g : Nat) (v : Int) (s : qPS), 0 ≤ v → s.1 ≤ n → (pnum t n g v s).2.2 = s.2.2 ∧ (∃ v', 0 ≤ v' ∧ (pnum t n g v s).2.1 = (1, v') :: s.2.1) ∧ s.1 ≤ (pnum t n g v s).1 ∧ (pnum t n g v s).1 ≤ n
  | 0, v, s, hv, hn => ⟨rfl, ⟨v, hv, rfl⟩, Nat.le_refl _, hn⟩
  | g + 1, v, s, hv, hn => by
    have eq : pnum t n (g + 1) v s = if 48 ≤ pl t n s ∧ pl t n s ≤ 57 then pnum t n g (v * 10 + pl t n s - 48) (padv s) else pad (1, v) s := rfl
    rw [eq]
    by_cases h : 48 ≤ pl t n s ∧ pl t n s ≤ 57
    · rw [if_pos h]
      have s1 := pl_ne (t := t) (n := n) (s := s) (by omega)
      obtain ⟨a, b, c, e⟩ := pnum_f (t := t) g (v * 10 + pl t n s - 48) (padv s) (by omega) s1
      have c : s.1 + 1 ≤ _ := c
      exact ⟨a, b, by omega, e⟩
    · rw [if_neg h]
      exact ⟨rfl, ⟨v, hv, rfl⟩, Nat.le_refl _, hn⟩
theorem pnm_in {u : Nat} {c : Int} (h : 0 ≤ pnm u c) : c ≠ -1 ∧ pnm u c ≤ 2 := by
  unfold pnm at h ⊢
  by_cases h1 : c = 119
  · rw [if_pos h1]
    omega
  · rw [if_neg h1] at h ⊢
    by_cases hu : u = 0
    · rw [if_pos hu] at h ⊢
      split at h
      · rename_i q
        rw [if_pos q]
        omega
      · rename_i q
        rw [if_neg q]
        split at h
        · rename_i q2
          rw [if_pos q2]
          omega
        · omega
    · rw [if_neg hu] at h ⊢
      split at h
      · rename_i q
        rw [if_pos q]
        omega
      · rename_i q
        rw [if_neg q]
        split at h
        · rename_i q2
          rw [if_pos q2]
          omega
        · omega
theorem pbad_w {n : Nat} {s : qPS} (h : pWf n s) : pWf n (pbad s) := ⟨h.1, fun q => by cases q⟩
theorem pfs_g {t : Nat → Int} {n u : Nat} {can : Bool} {fneg fpar : qPS → qPS} (h1 : can = true → pgd n fneg) (h2 : can = true → pgd n fpar) : pgd n (pfs t n u can fneg fpar) := by
  intro s h hb
  obtain ⟨hL, hw⟩ := h.2 hb
  unfold pfs
  by_cases hd : 48 ≤ pl t n s ∧ pl t n s ≤ 57
  · rw [if_pos hd]
    have s1 := pl_ne (t := t) (n := n) (s := s) (by omega)
    have eq : pnum t n 4 0 s = pnum t n 3 (0 * 10 + pl t n s - 48) (padv s) := if_pos hd
    obtain ⟨a, ⟨v', b1, b2⟩, c, e⟩ := pnum_f (t := t) (n := n) 3 (0 * 10 + pl t n s - 48) (padv s) (by omega) s1
    rw [eq]
    have c : s.1 + 1 ≤ (pnum t n 3 (0 * 10 + pl t n s - 48) (padv s)).1 := c
    have b2 : (pnum t n 3 (0 * 10 + pl t n s - 48) (padv s)).2.1 = (1, v') :: s.2.1 := b2
    refine ⟨⟨e, fun _ => ?_⟩, fun _ => ?_⟩
    · rw [b2]
      exact ⟨by rw [List.length_cons]; omega, hw, Or.inl ⟨rfl, b1⟩, fun q => absurd (show (1 : Int) = 3 from q) (by decide), fun q => absurd rfl q⟩
    · rw [b2]
      exact ⟨by show pdp s.2.1 + (if (1 : Int) = 1 ∨ (1 : Int) = 2 then 1 else _) = _; rw [if_pos (Or.inl rfl)], by omega, by rw [List.length_cons]; omega⟩
  · rw [if_neg hd]
    by_cases hn : 0 ≤ pnm u (pl t n s)
    · rw [if_pos hn]
      obtain ⟨p1, p2⟩ := pnm_in hn
      have s1 := pl_ne p1
      refine ⟨⟨s1, fun _ => ⟨by show s.2.1.length + 1 ≤ s.1 + 1; omega, hw, Or.inr (Or.inl ⟨rfl, hn, p2⟩), fun q => absurd q (show ¬ (2 : Int) = 3 by decide), fun _ q => absurd rfl q⟩⟩, fun _ => ⟨?_, Nat.lt_succ_self _, by show s.2.1.length + 1 + s.1 ≤ s.2.1.length + (s.1 + 1); omega⟩⟩
      show pdp s.2.1 + (if (2 : Int) = 1 ∨ (2 : Int) = 2 then 1 else _) = _
      rw [if_pos (Or.inr rfl)]
    · rw [if_neg hn]
      by_cases hc : can = true
      · rw [if_pos hc]
        by_cases e33 : pl t n s = 33
        · rw [if_pos e33]
          have s1 := pl_ne (t := t) (n := n) (s := s) (by omega)
          obtain ⟨i1, i2⟩ := h1 hc (padv s) (padv_w h s1) hb
          refine ⟨⟨i1.1, fun hb2 => ?_⟩, fun hb2 => ?_⟩
          · obtain ⟨j1, j2, j3⟩ := i2 hb2
            obtain ⟨k1, k2⟩ := i1.2 hb2
            have j1 : pdp (fneg (padv s)).2.1 = pdp s.2.1 + 1 := j1
            have j3 : (fneg (padv s)).2.1.length + (s.1 + 1) ≤ s.2.1.length + (fneg (padv s)).1 := j3
            have := pdp_0 _ hw
            exact ⟨by show (fneg (padv s)).2.1.length + 1 ≤ (fneg (padv s)).1; omega, k2, Or.inr (Or.inr (Or.inl rfl)), fun _ => by omega, fun _ _ q => absurd rfl q⟩
          · obtain ⟨j1, j2, j3⟩ := i2 hb2
            have j1 : pdp (fneg (padv s)).2.1 = pdp s.2.1 + 1 := j1
            have j2 : s.1 + 1 < (fneg (padv s)).1 := j2
            have j3 : (fneg (padv s)).2.1.length + (s.1 + 1) ≤ s.2.1.length + (fneg (padv s)).1 := j3
            refine ⟨?_, by show s.1 < (fneg (padv s)).1; omega, by show (fneg (padv s)).2.1.length + 1 + s.1 ≤ s.2.1.length + (fneg (padv s)).1; omega⟩
            show pdp (fneg (padv s)).2.1 + (if (3 : Int) = 1 ∨ (3 : Int) = 2 then 1 else if (3 : Int) = 3 then 0 else -1) = _
            rw [if_neg (by decide), if_pos rfl]
            omega
        · rw [if_neg e33]
          by_cases e40 : pl t n s = 40
          · rw [if_pos e40]
            have s1 := pl_ne (t := t) (n := n) (s := s) (by omega)
            obtain ⟨i1, i2⟩ := h2 hc (padv s) (padv_w h s1) hb
            unfold pcl
            by_cases hb2 : (fpar (padv s)).2.2 = true
            · rw [if_pos hb2]
              exact ⟨pbad_w i1, fun q => by cases q⟩
            · have hb2' : (fpar (padv s)).2.2 = false := by simpa using hb2
              rw [if_neg hb2]
              by_cases e41 : pl t n (fpar (padv s)) = 41
              · rw [if_pos e41]
                have s2 := pl_ne (t := t) (n := n) (s := fpar (padv s)) (by omega)
                obtain ⟨j1, j2, j3⟩ := i2 hb2'
                have j1 : pdp (fpar (padv s)).2.1 = pdp s.2.1 + 1 := j1
                have j2 : s.1 + 1 < (fpar (padv s)).1 := j2
                have j3 : (fpar (padv s)).2.1.length + (s.1 + 1) ≤ s.2.1.length + (fpar (padv s)).1 := j3
                exact ⟨padv_w i1 s2, fun _ => ⟨j1, by show s.1 < (fpar (padv s)).1 + 1; omega, by show (fpar (padv s)).2.1.length + s.1 ≤ s.2.1.length + ((fpar (padv s)).1 + 1); omega⟩⟩
              · rw [if_neg e41]
                exact ⟨pbad_w i1, fun q => by cases q⟩
          · rw [if_neg e40]
            exact ⟨pbad_w h, fun q => by cases q⟩
      · rw [if_neg hc]
        exact ⟨pbad_w h, fun q => by cases q⟩
theorem pfc_g {t : Nat → Int} {n u : Nat} : ∀ o, pgd n (pfc t n u o)
  | 0 => pfs_g (fun q => by cases q) (fun q => by cases q)
  | o + 1 => pfs_g (fun _ => pfc_g o) (fun _ => ptop_g (pfc_g o))
/-- laid out in rows -/
def play (P cs : Nat → Int) : List (Int × Int) → Prop
  | [] => True
  | x :: r => P (1 + r.length) = x.1 ∧ P (61 + r.length) = x.2 ∧ cs r.length = pcs x ∧ play P cs r
theorem play_x {P cs : Nat → Int} : ∀ L, pwl L → play P cs L → xdep P L.length = pdp L ∧ ∀ k : Nat, k < L.length → xcd (cs k) (P (1 + k)) (P (61 + k)) ∧ (P (1 + k) = 3 → 1 ≤ xdep P k) ∧ (P (1 + k) ≠ 1 → P (1 + k) ≠ 2 → P (1 + k) ≠ 3 → 2 ≤ xdep P k)
  | [], _, _ => ⟨rfl, fun k hk => absurd hk (by simp)⟩
  | x :: r, h, g => by
    obtain ⟨h1, h2, h3, h4⟩ := h
    obtain ⟨g1, g2, g3, g4⟩ := g
    obtain ⟨i1, i2⟩ := play_x r h1 g4
    refine ⟨?_, fun k hk => ?_⟩
    · show xdep P r.length + (if P (1 + r.length) = 1 ∨ P (1 + r.length) = 2 then 1 else if P (1 + r.length) = 3 then 0 else -1) = _
      rw [i1, g1]
      rfl
    · rw [List.length_cons] at hk
      by_cases ek : k = r.length
      · subst ek
        rw [g1, g2, g3, i1]
        refine ⟨?_, h3, h4⟩
        unfold pcs
        rcases h2 with ⟨q, q2⟩ | ⟨q, q2, q3⟩ | q | q
        · rw [if_pos q]
          exact Or.inl ⟨q, rfl, q2⟩
        · rw [if_neg (by omega), if_pos q]
          exact Or.inr (Or.inl ⟨q, q2, q3, rfl⟩)
        · rw [if_neg (by omega), if_neg (by omega), if_pos q]
          exact Or.inr (Or.inr (Or.inl ⟨q, rfl⟩))
        · obtain ⟨n1, n2, n3, -⟩ := xop_n q
          rw [if_neg n1, if_neg n2, if_neg n3]
          exact Or.inr (Or.inr (Or.inr ⟨q, rfl⟩))
      · exact i2 k (by omega)
theorem play_tx {P cs : Nat → Int} {L : List (Int × Int)} (h : pwl L) (h60 : L.length ≤ 60) (hd : pdp L = 1) (g : play P cs L) (h0 : P 0 = (L.length : Int)) : xtx (L.length : Int) cs P := by
  obtain ⟨i1, i2⟩ := play_x L h g
  exact ⟨h0, by omega, by omega, fun k hk => i2 k (by omega), fun _ => by rw [Int.toNat_natCast, i1, hd]⟩
