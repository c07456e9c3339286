/-! what both sides read -/
def Kp (σ : xM) (R : Nat → Int) : Prop := xvl R ∧ xcpl σ 0 R
theorem Inv_Kp {σ : xM} (h : Inv σ) : Kp σ (σ 41 0) := ⟨h.1, h.2.1⟩
theorem Kp_Fr {σ s : xM} {R : Nat → Int} {l : List Nat} (h : Kp σ R) (hf : Fr l σ s) (hl : ∀ t, t = 5 ∨ t = 7 ∨ t = 9 ∨ t = 10 ∨ t = 11 ∨ t = 13 ∨ t = 14 ∨ t = 16 → t ∉ l) : Kp s R :=
  ⟨h.1, xcpl_cg h.2 (hf 5 (hl 5 (by simp))) (hf 7 (hl 7 (by simp))) (hf 9 (hl 9 (by simp))) (hf 10 (hl 10 (by simp))) (hf 11 (hl 11 (by simp))) (hf 13 (hl 13 (by simp))) (hf 14 (hl 14 (by simp))) (hf 16 (hl 16 (by simp)))⟩
theorem Kp_sc {σ s : xM} {R : Nat → Int} {l : List Nat} (h : Kp σ R) (hf : Fr l σ s) (hl : [5, 7, 9, 10, 11, 13, 14, 16].all (fun t => !l.elem t) = true) : Kp s R := Kp_Fr h hf (fun t ht hm => by
  have := List.all_eq_true.mp hl t (by rcases ht with e | e | e | e | e | e | e | e <;> subst e <;> decide)
  simp at this
  exact this hm)
theorem Kp_parts {σ : xM} {R : Nat → Int} (h : Kp σ R) : σ 5 0 0 = R 2 := h.2.1.1
theorem Kp_chn {σ : xM} {R : Nat → Int} (h : Kp σ R) : σ 5 0 1 = R 3 := h.2.1.2.1
theorem Kp_year {σ : xM} {R : Nat → Int} (h : Kp σ R) : σ 5 0 2 = R 0 := h.2.1.2.2.1
theorem Kp_kind {σ : xM} {R : Nat → Int} (h : Kp σ R) {p : Nat} (hp : p < 7) : σ 7 p 0 = R (7 + 2 * p) := (h.2.2.1 p hp).1
theorem Kp_m {σ : xM} {R : Nat → Int} (h : Kp σ R) {p : Nat} (hp : p < 7) : σ 7 p 1 = R (7 + 2 * p + 1) := (h.2.2.1 p hp).2
theorem Kp_ch {σ : xM} {R : Nat → Int} (h : Kp σ R) {c : Nat} (hc : c < 7) {k : Nat} (hk : k < 6) : σ 9 c k = R (21 + 9 * c + k) := h.2.2.2.1 c hc k hk
theorem Kp_wi {σ : xM} {R : Nat → Int} (h : Kp σ R) {c : Nat} (hc : c < 7) {k : Nat} (hk : k < 3) : σ 10 c k = R (21 + 9 * c + (6 + k)) := h.2.2.2.2.1 c hc k hk
theorem xvl_p {R : Nat → Int} (h : xvl R) : ∃ n : Nat, R 2 = (n : Int) ∧ n ≤ 7 := ⟨(R 2).toNat, by have := h.1; omega, by have := h.1; omega⟩
theorem xvl_c {R : Nat → Int} (h : xvl R) : ∃ n : Nat, R 3 = (n : Int) ∧ n ≤ 7 := ⟨(R 3).toNat, by have := h.2.1; omega, by have := h.2.1; omega⟩
theorem xvl_c7 {R : Nat → Int} (h : xvl R) {c : Nat} (hc : (c : Int) < R 3) : c < 7 := by have := h.2.1; omega
theorem xvl_p7 {R : Nat → Int} (h : xvl R) {c : Nat} (hc : (c : Int) < R 2) : c < 7 := by have := h.1; omega
/-- the reference's small readers -/
theorem e_of0 {d p : Nat} {σ : xM} {Q : Int → xM → Prop} (h : p < 7) : Ev d 134 0 [vR 40 0, vI (p : Int), vI 0] [] σ Q = Q (σ 41 0 (7 + 2 * p)) σ := by
  rw [b_M_of_0, show xwr (xwr (7 + xwr (2 * (p : Int))) + 0) = ((7 + 2 * p : Nat) : Int) from by rw [xw (x := 2 * (p : Int)) (by omega) (by omega), xw (x := 7 + 2 * (p : Int)) (by omega) (by omega), xw (by omega) (by omega)]; omega, xin (by omega) (by omega), Int.toNat_natCast]
theorem e_of1 {d p : Nat} {σ : xM} {Q : Int → xM → Prop} (h : p < 7) : Ev d 134 0 [vR 40 0, vI (p : Int), vI 1] [] σ Q = Q (σ 41 0 (7 + 2 * p + 1)) σ := by
  rw [b_M_of_0, show xwr (xwr (7 + xwr (2 * (p : Int))) + 1) = ((7 + 2 * p + 1 : Nat) : Int) from by rw [xw (x := 2 * (p : Int)) (by omega) (by omega), xw (x := 7 + 2 * (p : Int)) (by omega) (by omega), xw (by omega) (by omega)]; omega, xin (by omega) (by omega), Int.toNat_natCast]
theorem xchx {c k : Nat} (hc : c < 7) (hk : k < 9) : xwr (xwr (21 + xwr (9 * (c : Int))) + (k : Int)) = ((21 + 9 * c + k : Nat) : Int) := by
  rw [xw (x := 9 * (c : Int)) (by omega) (by omega), xw (x := 21 + 9 * (c : Int)) (by omega) (by omega), xw (by omega) (by omega)]
  omega
theorem e_ab {d c k : Nat} {σ : xM} {Q : Int → xM → Prop} (hc : c < 7) (hk : k < 9) : Ev d 135 0 [vR 40 0, vI (c : Int), vI (k : Int)] [] σ Q = Q (σ 41 0 (21 + 9 * c + k)) σ := by
  rw [b_M_about_0, xchx hc hk, xin (by omega) (by omega), Int.toNat_natCast]
theorem e_ab0 {d c : Nat} {σ : xM} {Q : Int → xM → Prop} (hc : c < 7) : Ev d 135 0 [vR 40 0, vI (c : Int), vI 0] [] σ Q = Q (σ 41 0 (21 + 9 * c + 0)) σ := e_ab (k := 0) hc (by decide)
theorem e_ab1 {d c : Nat} {σ : xM} {Q : Int → xM → Prop} (hc : c < 7) : Ev d 135 0 [vR 40 0, vI (c : Int), vI 1] [] σ Q = Q (σ 41 0 (21 + 9 * c + 1)) σ := e_ab (k := 1) hc (by decide)
theorem e_ab2 {d c : Nat} {σ : xM} {Q : Int → xM → Prop} (hc : c < 7) : Ev d 135 0 [vR 40 0, vI (c : Int), vI 2] [] σ Q = Q (σ 41 0 (21 + 9 * c + 2)) σ := e_ab (k := 2) hc (by decide)
theorem e_ab3 {d c : Nat} {σ : xM} {Q : Int → xM → Prop} (hc : c < 7) : Ev d 135 0 [vR 40 0, vI (c : Int), vI 3] [] σ Q = Q (σ 41 0 (21 + 9 * c + 3)) σ := e_ab (k := 3) hc (by decide)
theorem e_ab4 {d c : Nat} {σ : xM} {Q : Int → xM → Prop} (hc : c < 7) : Ev d 135 0 [vR 40 0, vI (c : Int), vI 4] [] σ Q = Q (σ 41 0 (21 + 9 * c + 4)) σ := e_ab (k := 4) hc (by decide)
theorem e_ab5 {d c : Nat} {σ : xM} {Q : Int → xM → Prop} (hc : c < 7) : Ev d 135 0 [vR 40 0, vI (c : Int), vI 5] [] σ Q = Q (σ 41 0 (21 + 9 * c + 5)) σ := e_ab (k := 5) hc (by decide)
theorem e_lets {d c k : Nat} {σ : xM} {Q : Int → xM → Prop} {v : Int} (hc : c < 7) (hk : k < 9) : Ev d 136 0 [vR 40 0, vI (c : Int), vI (k : Int), vI v] [] σ Q = Q 0 (xup σ 41 0 (21 + 9 * c + k) v) := by
  rw [b_M_lets_0, xchx hc hk, xin (by omega) (by omega), Int.toNat_natCast]
theorem e_lets4 {d c : Nat} {σ : xM} {Q : Int → xM → Prop} {v : Int} (hc : c < 7) : Ev d 136 0 [vR 40 0, vI (c : Int), vI 4, vI v] [] σ Q = Q 0 (xup σ 41 0 (21 + 9 * c + 4) v) := e_lets (k := 4) hc (by decide)
theorem e_lets5 {d c : Nat} {σ : xM} {Q : Int → xM → Prop} {v : Int} (hc : c < 7) : Ev d 136 0 [vR 40 0, vI (c : Int), vI 5, vI v] [] σ Q = Q 0 (xup σ 41 0 (21 + 9 * c + 5) v) := e_lets (k := 5) hc (by decide)
/-- who may play -/
def qmay (i v s y k m : Int) : Int :=
  if i = 0 then (if k = 1 then (if v < m then 0 else 1) else if k = 2 then (if m < s then 0 else 1) else if k = 3 then 1 else if k = 4 then (if v < m then 0 else if y = 0 then 1 else 0)
    else if k = 5 then (if m < s then 0 else if m / 2 < s then 1 else 0) else if k = 6 then (if y = 1 then 1 else if 4 < m then 1 else 0) else 1) else 0
def qmy (R : Nat → Int) (c p : Nat) : Int := qmay (R (21 + 9 * c + 3)) (R (21 + 9 * c + 0)) (R (21 + 9 * c + 1)) (R (21 + 9 * c + 2)) (R (7 + 2 * p)) (R (7 + 2 * p + 1))
theorem qmy01 (R : Nat → Int) (c p : Nat) : qmy R c p = 0 ∨ qmy R c p = 1 := by
  unfold qmy qmay
  repeat' split
  all_goals first | exact Or.inl rfl | exact Or.inr rfl
theorem xhalf {m : Int} (h : 0 ≤ m ∧ m ≤ 9) : xwr (Int.tdiv m 2) = m / 2 := by
  rw [Int.tdiv_eq_ediv_of_nonneg h.1, xw (by omega) (by omega)]
theorem e_may {d c p : Nat} {σ : xM} {R : Nat → Int} {Q : Int → xM → Prop} (h : Kp σ R) (hc : (c : Int) < R 3) (hp : (p : Int) < R 2) : Ev (d + 1) 50 0 [vR 5 0, vI (c : Int), vI (p : Int)] [] σ Q = Q (qmy R c p) σ := by
  have c7 := xvl_c7 h.1 hc
  have p7 := xvl_p7 h.1 hp
  have hm := (h.1.2.2.2.2.2.2.1 p hp).2
  rw [b_S_mayPlay_0, xin (by omega) (by omega), xin (by omega) (by omega), Int.toNat_natCast, Int.toNat_natCast, b_R_suits_0, Kp_ch h c7 (by decide), Kp_ch h c7 (by decide), Kp_ch h c7 (by decide), Kp_ch h c7 (by decide), Kp_kind h p7, Kp_m h p7, xhalf hm]
  simp only [↓xz0, ↓xz1, ↓xne2, xiteQ (Q := Q) (σ := σ)]
  rfl
theorem m_may {d c p : Nat} {σ : xM} {Q : Int → xM → Prop} (h : xvl (σ 41 0)) (hc : (c : Int) < σ 41 0 3) (hp : (p : Int) < σ 41 0 2) : Ev (d + 1) 137 0 [vR 40 0, vI (c : Int), vI (p : Int), vR 0 0, vR 0 0] [] σ Q = Q (qmy (σ 41 0) c p) σ := by
  have c7 := xvl_c7 h hc
  have p7 := xvl_p7 h hp
  have hm := (h.2.2.2.2.2.2.1 p hp).2
  have hi := (h.2.2.2.2.2.2.2.1 c hc).2.2.2.1
  rw [b_M_mayPlay_0]
  simp only [e_of0 p7, e_of1 p7, e_ab0 c7, e_ab1 c7, e_ab2 c7, e_ab3 c7, xhalf hm, ↓xz0, ↓xz1, ↓xne2, xiteQ (Q := Q) (σ := σ)]
  unfold qmy qmay
  rcases hi with hi | hi <;> rw [hi] <;> rfl
def qln (k m y : Int) : Int :=
  if k = 0 then m else if k = 1 then 2 * m + 1 else if k = 2 then m / 2 else if k = 3 then 0 else if k = 4 then 2 * m + 1 + Int.tmod y 3 else if k = 5 then m / 2 + 1 else 0
theorem xmod3 {y : Int} (h : 0 ≤ y) : 0 ≤ Int.tmod y 3 ∧ Int.tmod y 3 < 3 := by
  rw [Int.tmod_eq_emod_of_nonneg h]
  omega
theorem xlin {m y : Int} (hm : 0 ≤ m ∧ m ≤ 9) (hy : 0 ≤ y) : xwr (xwr (2 * m) + 1) = 2 * m + 1 ∧ xwr (2 * m + 1 + Int.tmod y 3) = 2 * m + 1 + Int.tmod y 3 ∧ xwr (m / 2 + 1) = m / 2 + 1 := by
  have := xmod3 hy
  refine ⟨?_, xw (by omega) (by omega), xw (by omega) (by omega)⟩
  rw [xw (x := 2 * m) (by omega) (by omega), xw (by omega) (by omega)]
theorem xne3 {P : Prop} : ((3 : Int) ≠ 0 ∧ P) = P := by simp
theorem xne7i {P : Prop} : ((7 : Int) ≠ 0 ∧ P) = P := by simp
theorem e_lines {d p : Nat} {σ : xM} {R : Nat → Int} {Q : Int → xM → Prop} (h : Kp σ R) (hp : (p : Int) < R 2) : Ev d 69 0 [vR 7 p, vI (R 0)] [] σ Q = Q (qln (R (7 + 2 * p)) (R (7 + 2 * p + 1)) (R 0)) σ := by
  have p7 := xvl_p7 h.1 hp
  have hm := (h.1.2.2.2.2.2.2.1 p hp).2
  obtain ⟨l1, l2, l3⟩ := xlin hm h.1.2.2.1.1
  rw [b_R_lines_0, Kp_kind h p7, Kp_m h p7, xhalf hm, l1, l2, l3]
  simp only [xne2, xne3, xiteQ (Q := Q) (σ := σ)]
  rfl
theorem m_lines {d p : Nat} {σ : xM} {Q : Int → xM → Prop} (h : xvl (σ 41 0)) (hp : (p : Int) < σ 41 0 2) : Ev (d + 1) 138 0 [vR 40 0, vI (p : Int), vR 0 0] [] σ Q = Q (qln (σ 41 0 (7 + 2 * p)) (σ 41 0 (7 + 2 * p + 1)) (σ 41 0 0)) σ := by
  have p7 := xvl_p7 h hp
  obtain ⟨hk, hm⟩ := h.2.2.2.2.2.2.1 p hp
  obtain ⟨l1, l2, l3⟩ := xlin hm h.2.2.1.1
  rw [b_M_linesOf_0]
  simp only [e_of0 p7, e_of1 p7, xhalf hm, l1, show Int.toNat 0 = 0 from rfl, l2, l3, xne2, xne3, xin (x := 0) (n := 410) (by decide) (by decide), xiteQ (Q := Q) (σ := σ)]
  congr 1
  unfold qln
  generalize σ 41 0 (7 + 2 * p) = k at hk
  have : k = 0 ∨ k = 1 ∨ k = 2 ∨ k = 3 ∨ k = 4 ∨ k = 5 ∨ k = 6 := by omega
  rcases this with e | e | e | e | e | e | e <;> subst e <;> rfl
/-- who has it -/
def qwho (R : Nat → Int) (p : Int) : Nat → Nat → Int
  | 0, _ => -1
  | f + 1, c => if R (21 + 9 * c + 5) = p then (c : Int) else qwho R p f (c + 1)
theorem qwho_rg {R : Nat → Int} {p : Int} : ∀ {f c : Nat}, qwho R p f c = -1 ∨ ∃ j : Nat, qwho R p f c = (j : Int) ∧ c ≤ j ∧ j < c + f ∧ R (21 + 9 * j + 5) = p
  | 0, c => Or.inl rfl
  | f + 1, c => by
    unfold qwho
    by_cases h : R (21 + 9 * c + 5) = p
    · rw [if_pos h]
      exact Or.inr ⟨c, rfl, by omega, by omega, h⟩
    · rw [if_neg h]
      rcases qwho_rg (R := R) (p := p) (f := f) (c := c + 1) with e | ⟨j, e, h1, h2, h3⟩
      · exact Or.inl e
      · exact Or.inr ⟨j, e, by omega, by omega, h3⟩
theorem qwho_no {R : Nat → Int} {p : Int} : ∀ {f c : Nat}, qwho R p f c = -1 → ∀ j, c ≤ j → j < c + f → R (21 + 9 * j + 5) ≠ p
  | 0, c, _, j, h1, h2 => by omega
  | f + 1, c, h, j, h1, h2 => by
    unfold qwho at h
    by_cases e : R (21 + 9 * c + 5) = p
    · rw [if_pos e] at h
      omega
    · rw [if_neg e] at h
      by_cases hj : j = c
      · rw [hj]
        exact e
      · exact qwho_no h j (by omega) (by omega)
theorem e_who {d : Nat} {σ : xM} {R : Nat → Int} {Q : Int → xM → Prop} {p : Int} {n : Nat} (h : Kp σ R) (hn : R 3 = (n : Int)) : ∀ f c : Nat, c + f = n → Ev d 51 2 [vR 5 0, vI p, vI (c : Int)] [] σ Q = Q (qwho R p f c) σ
  | 0, c, e => by
    rw [b_S_holderOf_2, Kp_chn h, hn, if_neg (by omega)]
    rfl
  | f + 1, c, e => by
    have c7 := xvl_c7 h.1 (show (c : Int) < R 3 by omega)
    rw [b_S_holderOf_2, Kp_chn h, hn, if_pos (by omega), xin (by omega) (by omega), Int.toNat_natCast, Kp_ch h c7 (by decide), xw (by omega) (by omega), show (c : Int) + 1 = ((c + 1 : Nat) : Int) from rfl, e_who h hn f (c + 1) (by omega)]
    show _ = Q (if R (21 + 9 * c + 5) = p then (c : Int) else qwho R p f (c + 1)) σ
    split <;> rfl
theorem m_who {d : Nat} {σ : xM} {Q : Int → xM → Prop} {p : Int} {n : Nat} (hn : σ 41 0 3 = (n : Int)) (h7 : n ≤ 7) : ∀ f c : Nat, c + f = n → Ev (d + 1) 143 2 [vR 40 0, vI p, vI (c : Int)] [] σ Q = Q (qwho (σ 41 0) p f c) σ
  | 0, c, e => by
    rw [b_M_whoHas_2, xin (by decide) (by decide), show Int.toNat 3 = 3 from rfl, hn, if_neg (by omega)]
    rfl
  | f + 1, c, e => by
    rw [b_M_whoHas_2, xin (by decide) (by decide), show Int.toNat 3 = 3 from rfl, hn, if_pos (by omega), e_ab5 (by omega), xw (by omega) (by omega), show (c : Int) + 1 = ((c + 1 : Nat) : Int) from rfl, m_who hn h7 f (c + 1) (by omega)]
    show _ = Q (if σ 41 0 (21 + 9 * c + 5) = p then (c : Int) else qwho (σ 41 0) p f (c + 1)) σ
    split <;> rfl
/-- how dear -/
def qdr (R : Nat → Int) (c : Nat) (p : Int) : Int := if R (21 + 9 * c + (6 + 0)) = p then 3 else if R (21 + 9 * c + (6 + 1)) = p then 2 else if R (21 + 9 * c + (6 + 2)) = p then 1 else 0
theorem qdr_rg (R : Nat → Int) (c : Nat) (p : Int) : 0 ≤ qdr R c p ∧ qdr R c p ≤ 3 := by
  unfold qdr
  repeat' split
  all_goals decide
theorem e_dear {d c : Nat} {σ : xM} {R : Nat → Int} {Q : Int → xM → Prop} {p : Int} (h : Kp σ R) (hc : c < 7) : Ev d 74 0 [vR 9 c, vI p, vR 0 0] [] σ Q = Q (qdr R c p) σ := by
  rw [b_C_dear_0, b_C_dear_2, show xwr (0 + 1) = 1 from by decide, b_C_dear_2, show xwr (1 + 1) = 2 from by decide, b_C_dear_2, show xwr (2 + 1) = 3 from by decide, b_C_dear_2]
  rw [if_pos (show (0 : Int) < 3 by decide), if_pos (show (1 : Int) < 3 by decide), if_pos (show (2 : Int) < 3 by decide), if_neg (show ¬ (3 : Int) < 3 by decide), xin (by decide) (by decide), xin (by decide) (by decide), xin (by decide) (by decide), show Int.toNat 0 = 0 from rfl, show Int.toNat 1 = 1 from rfl, show Int.toNat 2 = 2 from rfl, Kp_wi h hc (by decide), Kp_wi h hc (by decide), Kp_wi h hc (by decide)]
  rw [show xwr (3 - 0) = 3 from by decide, show xwr (3 - 1) = 2 from by decide, show xwr (3 - 2) = 1 from by decide]
  simp only [xiteQ (Q := Q) (σ := σ)]
  rfl
theorem m_dear {d c : Nat} {σ : xM} {Q : Int → xM → Prop} {p : Int} (hc : c < 7) : Ev (d + 1) 139 0 [vR 40 0, vI (c : Int), vI p, vR 0 0] [] σ Q = Q (qdr (σ 41 0) c p) σ := by
  have a0 : ∀ {d : Nat} {Q : Int → xM → Prop}, Ev d 135 0 [vR 40 0, vI (c : Int), vI (xwr (6 + 0))] [] σ Q = Q (σ 41 0 (21 + 9 * c + (6 + 0))) σ := fun {d Q} => by rw [show xwr (6 + 0) = ((6 + 0 : Nat) : Int) from by decide, e_ab hc (by decide)]
  have a1 : ∀ {d : Nat} {Q : Int → xM → Prop}, Ev d 135 0 [vR 40 0, vI (c : Int), vI (xwr (6 + 1))] [] σ Q = Q (σ 41 0 (21 + 9 * c + (6 + 1))) σ := fun {d Q} => by rw [show xwr (6 + 1) = ((6 + 1 : Nat) : Int) from by decide, e_ab hc (by decide)]
  have a2 : ∀ {d : Nat} {Q : Int → xM → Prop}, Ev d 135 0 [vR 40 0, vI (c : Int), vI (xwr (6 + 2))] [] σ Q = Q (σ 41 0 (21 + 9 * c + (6 + 2))) σ := fun {d Q} => by rw [show xwr (6 + 2) = ((6 + 2 : Nat) : Int) from by decide, e_ab hc (by decide)]
  rw [b_M_dearTo_0, b_M_dearTo_2, if_pos (show (0 : Int) < 3 by decide), a0, show xwr (0 + 1) = 1 from by decide, b_M_dearTo_2, if_pos (show (1 : Int) < 3 by decide), a1, show xwr (1 + 1) = 2 from by decide, b_M_dearTo_2, if_pos (show (2 : Int) < 3 by decide), a2, show xwr (2 + 1) = 3 from by decide, b_M_dearTo_2, if_neg (show ¬ (3 : Int) < 3 by decide)]
  rw [show xwr (3 - 0) = 3 from by decide, show xwr (3 - 1) = 2 from by decide, show xwr (3 - 2) = 1 from by decide]
  simp only [xiteQ (Q := Q) (σ := σ)]
  rfl
/-- what a use gives -/
def qP (R : Nat → Int) (u : Nat) : Nat → Int := fun k => R (168 + 121 * u + k)
def qg0 (P : Nat → Int) (a b c : Int) : Int := qheld (if 0 < P 0 then qval (qrun P a b c (P 0).toNat) else xwr (10 * a)) 0 99
def qg1 (P : Nat → Int) (a b c : Int) : Int := qheld (if 0 < P 0 then qval (qrun P a b c (P 0).toNat) else a) (-99) 99
def qtk (P : Nat → Int) : Prop := (0 ≤ P 0 ∧ P 0 ≤ 60) ∧ (∀ k : Nat, (k : Int) < P 0 → (P (1 + k) = 1 ∨ (P (1 + k) = 2 ∧ 0 ≤ P (61 + k) ∧ P (61 + k) ≤ 2) ∨ P (1 + k) = 3 ∨ xop (P (1 + k))) ∧ (P (1 + k) = 3 → 1 ≤ xdep P k) ∧ (P (1 + k) ≠ 1 → P (1 + k) ≠ 2 → P (1 + k) ≠ 3 → 2 ≤ xdep P k)) ∧ (0 < P 0 → xdep P (P 0).toNat = 1)
theorem xtx_tk {len : Int} {cs P : Nat → Int} (h : xtx len cs P) : qtk P := by
  obtain ⟨h1, h2, h3, h4, h5⟩ := h
  refine ⟨by omega, fun k hk => ?_, fun hp => by rw [h1]; exact h5 (by omega)⟩
  obtain ⟨g1, g2⟩ := h4 k (by omega)
  refine ⟨?_, g2⟩
  rcases g1 with ⟨g, -⟩ | ⟨g, ga, gb, -⟩ | ⟨g, -⟩ | ⟨g, -⟩
  · exact Or.inl g
  · exact Or.inr (Or.inl ⟨g, ga, gb⟩)
  · exact Or.inr (Or.inr (Or.inl g))
  · exact Or.inr (Or.inr (Or.inr g))
theorem e_given0 {d : Nat} {σ : xM} {R : Nat → Int} {Q : Int → xM → Prop} {a b c : Int} (h : Kp σ R) (hQ : ∀ s, Fr [15] σ s → Q (qg0 (qP R 0) a b c) s) : Ev (d + 2) 54 0 [vR 5 0, vI 0, vI a, vI b, vI c, vR 0 0] [] σ Q := by
  obtain ⟨x1, x2, x3, x4, x5⟩ := h.2.2.2.2.2.2.2 0 (by decide)
  have e13 : σ 13 0 0 = qP R 0 0 := x1.symm
  rw [b_S_given_0, xin (by decide) (by decide), show Int.toNat 0 = 0 from rfl]
  by_cases hp : 0 < σ 13 0 0
  · have hL : σ 13 0 0 = ((σ 13 0 0).toNat : Int) := by omega
    have x3' : σ 13 0 0 ≤ 60 := x3
    rw [if_pos hp, if_pos rfl, if_neg (by decide), xin (by decide) (by decide), b_T_workOut_0]
    refine e_workOut (P := qP R 0) hL (by omega) (fun k hk => x4 k (by show (k : Int) < σ 13 0 0; omega)) (fun s hs => ?_) (σ 13 0 0).toNat 0 (by omega) _ _ Fr_refl trivial
    rw [e_Pheld (by decide)]
    have := hQ s hs
    unfold qg0 at this
    rw [← e13, if_pos hp] at this
    exact this
  · rw [if_neg hp, if_pos rfl, if_pos rfl, e_Pheld (by decide)]
    have := hQ σ Fr_refl
    unfold qg0 at this
    rw [← e13, if_neg hp] at this
    exact this
theorem e_given1 {d : Nat} {σ : xM} {R : Nat → Int} {Q : Int → xM → Prop} {a b c : Int} (h : Kp σ R) (hQ : ∀ s, Fr [15] σ s → Q (qg1 (qP R 1) a b c) s) : Ev (d + 2) 54 0 [vR 5 0, vI 1, vI a, vI b, vI c, vR 0 0] [] σ Q := by
  obtain ⟨x1, x2, x3, x4, x5⟩ := h.2.2.2.2.2.2.2 1 (by decide)
  have e13 : σ 13 1 0 = qP R 1 0 := x1.symm
  rw [b_S_given_0, xin (by decide) (by decide), show Int.toNat 1 = 1 from rfl]
  by_cases hp : 0 < σ 13 1 0
  · have hL : σ 13 1 0 = ((σ 13 1 0).toNat : Int) := by omega
    have x3' : σ 13 1 0 ≤ 60 := x3
    rw [if_pos hp, if_neg (by decide), if_neg (by decide), xin (by decide) (by decide), b_T_workOut_0]
    refine e_workOut (P := qP R 1) hL (by omega) (fun k hk => x4 k (by show (k : Int) < σ 13 1 0; omega)) (fun s hs => ?_) (σ 13 1 0).toNat 0 (by omega) _ _ Fr_refl trivial
    rw [e_Pheld (by decide)]
    have := hQ s hs
    unfold qg1 at this
    rw [← e13, if_pos hp] at this
    exact this
  · rw [if_neg hp, if_neg (by decide), if_pos rfl, e_Pheld (by decide)]
    have := hQ σ Fr_refl
    unfold qg1 at this
    rw [← e13, if_neg hp] at this
    exact this
theorem m_gives0 {d : Nat} {σ : xM} {Q : Int → xM → Prop} {a b c : Int} (h : qtk (qP (σ 41 0) 0)) (hQ : ∀ s, Fr [50, 51] σ s → Q (qg0 (qP (σ 41 0) 0) a b c) s) : Ev (d + 2) 172 0 [vR 40 0, vI 0, vI a, vI b, vI c, vR 0 0, vR 0 0] [] σ Q := by
  obtain ⟨x1, x4, x5⟩ := h
  rw [b_M_gives_0, xin (by decide) (by decide), xin (by decide) (by decide), xin (by decide) (by decide), show xwr (168 + xwr (121 * 0)) = ((168 : Nat) : Int) from by decide, xin (by decide) (by decide), Int.toNat_natCast, show Int.toNat 0 = 0 from rfl, show Int.toNat 1 = 1 from rfl, show Int.toNat 2 = 2 from rfl]
  obtain ⟨τ, hτ⟩ : ∃ τ, τ = xup (xup (xup σ 50 0 0 a) 50 0 1 b) 50 0 2 c := ⟨_, rfl⟩
  rw [← hτ]
  have hf : Fr [50] σ τ := by rw [hτ]; exact Fr_trans (Fr_trans (Fr_up (by decide)) (Fr_up (by decide))) (Fr_up (by decide))
  have e41 : τ 41 = σ 41 := hf 41 (by decide)
  have e0 : τ 41 0 168 = qP (σ 41 0) 0 0 := by rw [e41]; rfl
  by_cases hp : 0 < τ 41 0 168
  · rw [e0] at hp
    rw [e0, if_pos hp, b_M_works_0]
    refine m_works (P := qP (σ 41 0) 0) (by decide) (fun j => by rw [e41]; rfl) (L := (qP (σ 41 0) 0 0).toNat) (by omega) (by omega) (a := a) (b := b) (c := c) (by rw [hτ, xup_k (by decide), xup_k (by decide), xup_s]) (by rw [hτ, xup_k (by decide), xup_s]) (by rw [hτ, xup_s]) (fun k hk => x4 k (by omega)) (x5 hp) (fun s hs => ?_) (qP (σ 41 0) 0 0).toNat 0 (by omega) _ _ Fr_refl trivial
    rw [if_pos rfl, e_Mheld]
    have := hQ s (Fr_trans (Fr_mono hf (by decide)) (Fr_mono hs (by decide)))
    unfold qg0 at this
    rw [if_pos hp] at this
    exact this
  · rw [if_neg hp, if_pos rfl, if_pos rfl, e_Mheld]
    have := hQ τ (Fr_mono hf (by decide))
    unfold qg0 at this
    rw [← e0, if_neg hp] at this
    exact this
theorem m_gives1 {d : Nat} {σ : xM} {Q : Int → xM → Prop} {a b c : Int} (h : qtk (qP (σ 41 0) 1)) (hQ : ∀ s, Fr [50, 51] σ s → Q (qg1 (qP (σ 41 0) 1) a b c) s) : Ev (d + 2) 172 0 [vR 40 0, vI 1, vI a, vI b, vI c, vR 0 0, vR 0 0] [] σ Q := by
  obtain ⟨x1, x4, x5⟩ := h
  rw [b_M_gives_0, xin (by decide) (by decide), xin (by decide) (by decide), xin (by decide) (by decide), show xwr (168 + xwr (121 * 1)) = ((289 : Nat) : Int) from by decide, xin (by decide) (by decide), Int.toNat_natCast, show Int.toNat 0 = 0 from rfl, show Int.toNat 1 = 1 from rfl, show Int.toNat 2 = 2 from rfl]
  obtain ⟨τ, hτ⟩ : ∃ τ, τ = xup (xup (xup σ 50 0 0 a) 50 0 1 b) 50 0 2 c := ⟨_, rfl⟩
  rw [← hτ]
  have hf : Fr [50] σ τ := by rw [hτ]; exact Fr_trans (Fr_trans (Fr_up (by decide)) (Fr_up (by decide))) (Fr_up (by decide))
  have e41 : τ 41 = σ 41 := hf 41 (by decide)
  have e0 : τ 41 0 289 = qP (σ 41 0) 1 0 := by rw [e41]; rfl
  by_cases hp : 0 < τ 41 0 289
  · rw [e0] at hp
    rw [e0, if_pos hp, b_M_works_0]
    refine m_works (P := qP (σ 41 0) 1) (by decide) (fun j => by rw [e41]; rfl) (L := (qP (σ 41 0) 1 0).toNat) (by omega) (by omega) (a := a) (b := b) (c := c) (by rw [hτ, xup_k (by decide), xup_k (by decide), xup_s]) (by rw [hτ, xup_k (by decide), xup_s]) (by rw [hτ, xup_s]) (fun k hk => x4 k (by omega)) (x5 hp) (fun s hs => ?_) (qP (σ 41 0) 1 0).toNat 0 (by omega) _ _ Fr_refl trivial
    rw [if_neg (by decide), e_Mheld]
    have := hQ s (Fr_trans (Fr_mono hf (by decide)) (Fr_mono hs (by decide)))
    unfold qg1 at this
    rw [if_pos hp] at this
    exact this
  · rw [if_neg hp, if_neg (by decide), if_neg (by decide), e_Mheld]
    have := hQ τ (Fr_mono hf (by decide))
    unfold qg1 at this
    rw [← e0, if_neg hp] at this
    exact this
