/-! voices -/
abbrev qTR : Type := Nat × (Nat → Int)
def tb (T : qTR) (b : Int) : qTR := if T.1 < 30 then (T.1 + 1, qu T.2 T.1 b) else T
def wPS (t x : Int) (T : qTR) : Int × qTR := (xwr (x + t), tb T 10)
def wSS (t x : Int) (T : qTR) : Int × qTR := (xwr ((wPS t x (tb T 20)).1 - 4), (wPS t x (tb T 20)).2)
def wSays (k t x : Int) (T : qTR) : Int × qTR := if k = 1 then wSS t x T else if k = 4 then (xwr ((wSS t x (tb T 50)).1 * 3), (wSS t x (tb T 50)).2) else if k = 6 then (9, tb T 70) else wPS t x T
def wPSi (k t x : Int) (T : qTR) : Int × qTR := (xwr ((wSays k t x (tb T 11)).1 * 2), (wSays k t x (tb T 11)).2)
def wCSi (k t x : Int) (T : qTR) : Int × qTR := (xwr (-(wPSi k t x (tb T 30)).1), (wPSi k t x (tb T 30)).2)
def wSings (k m t x : Int) (T : qTR) : Int × qTR := if k = 2 then wCSi k t x T else if k = 5 then wCSi k t (xwr (x + 1)) (tb T 60) else if k = 6 then (xwr ((wPSi k t x (tb T 71)).1 + m), (wPSi k t x (tb T 71)).2) else wPSi k t x T
def wPW (k m t x : Int) (T : qTR) : Int × qTR := (xwr ((wSings k m t x (tb T 12)).1 - m), (wSings k m t x (tb T 12)).2)
def wWaits (k m t x : Int) (T : qTR) : Int × qTR := if k = 3 then wPW k m t (xwr (Int.tdiv x 2)) (tb T 40) else if k = 4 then (xxor (wPW k m t x (tb T 51)).1 t, (wPW k m t x (tb T 51)).2) else wPW k m t x T
def wPP (m t x : Int) (T : qTR) : Int × qTR := (if m = t then 0 else xwr (Int.tdiv x (xwr (m - t))), tb T 13)
def wPr (m t : Int) : Int := if m = t then 1 else 0
def wPt (k m t x : Int) (T : qTR) : Int × qTR := if m = t then (0, (wPP m t x (tb T 21)).2) else (xwr ((wPP m t x (tb T 21)).1 + (wSings k m t 1 (wPP m t x (tb T 21)).2).1), (wSings k m t 1 (wPP m t x (tb T 21)).2).2)
def wParts (k m t x : Int) (T : qTR) : Int × qTR := if k = 1 then wPt k m t x T else if k = 4 then wPt k m t x T else wPP m t x T
/-- the class while it speaks -/
def Vw (σ0 : xM) (k m t p : Int) (T : qTR) (s : xM) : Prop := Fr [33, 34] σ0 s ∧ T.1 ≤ 30 ∧ s 33 0 0 = (T.1 : Int) ∧ s 34 0 = T.2 ∧ s 33 0 1 = p ∧ s 33 0 2 = t ∧ s 33 0 3 = k ∧ s 33 0 4 = m
theorem c_begin {d : Nat} {σ0 s : xM} {k m t p : Int} {T : qTR} {Q : Int → xM → Prop} {b : Int} (h : Vw σ0 k m t p T s) (hQ : ∀ s', Vw σ0 k m t p (tb T b) s' → Q 0 s') : Ev d 112 0 [vR 33 0, vI b] [] s Q := by
  obtain ⟨h1, h2, h3, h4, h5, h6, h7, h8⟩ := h
  unfold tb at hQ
  rw [b_V_begin_0, h3]
  by_cases c : T.1 < 30
  · rw [if_pos c] at hQ
    rw [if_pos (by omega), xin (by omega) (by omega), Int.toNat_natCast, xup_t (t' := 33) (t := 34) (by decide), h3, xs1 (by omega)]
    refine hQ _ ⟨Fr_trans h1 (Fr_trans (Fr_up (by decide)) (Fr_up (by decide))), by show T.1 + 1 ≤ 30; omega, by rw [xup_s], ?_, ?_, ?_, ?_, ?_⟩
    · rw [xup_t (by decide), xup_row, h4]
    · rw [xup_k (by decide), xup_t (by decide), h5]
    · rw [xup_k (by decide), xup_t (by decide), h6]
    · rw [xup_k (by decide), xup_t (by decide), h7]
    · rw [xup_k (by decide), xup_t (by decide), h8]
  · rw [if_neg c] at hQ
    rw [if_neg (by omega)]
    exact hQ s ⟨h1, h2, h3, h4, h5, h6, h7, h8⟩
theorem c_ab1 {d : Nat} {σ : xM} {Q : Int → xM → Prop} : Ev d 113 0 [vI 1] [] σ Q = Q 0 σ := by
  rw [b_V_above_0, if_pos (by decide), if_pos (by decide), xin (by decide) (by decide), show xabv (Int.toNat 1) = 0 from by decide]
theorem c_ab2 {d : Nat} {σ : xM} {Q : Int → xM → Prop} : Ev d 113 0 [vI 2] [] σ Q = Q 0 σ := by
  rw [b_V_above_0, if_pos (by decide), if_pos (by decide), xin (by decide) (by decide), show xabv (Int.toNat 2) = 0 from by decide]
theorem c_ab3 {d : Nat} {σ : xM} {Q : Int → xM → Prop} : Ev d 113 0 [vI 3] [] σ Q = Q 0 σ := by
  rw [b_V_above_0, if_pos (by decide), if_pos (by decide), xin (by decide) (by decide), show xabv (Int.toNat 3) = 0 from by decide]
theorem c_ab4 {d : Nat} {σ : xM} {Q : Int → xM → Prop} : Ev d 113 0 [vI 4] [] σ Q = Q 1 σ := by
  rw [b_V_above_0, if_pos (by decide), if_pos (by decide), xin (by decide) (by decide), show xabv (Int.toNat 4) = 1 from by decide]
theorem c_ab5 {d : Nat} {σ : xM} {Q : Int → xM → Prop} : Ev d 113 0 [vI 5] [] σ Q = Q 2 σ := by
  rw [b_V_above_0, if_pos (by decide), if_pos (by decide), xin (by decide) (by decide), show xabv (Int.toNat 5) = 2 from by decide]
theorem c_ab6 {d : Nat} {σ : xM} {Q : Int → xM → Prop} : Ev d 113 0 [vI 6] [] σ Q = Q 0 σ := by
  rw [b_V_above_0, if_pos (by decide), if_pos (by decide), xin (by decide) (by decide), show xabv (Int.toNat 6) = 0 from by decide]
theorem c_says0 {d : Nat} {σ0 s : xM} {k m t p : Int} {T : qTR} {Q : Int → xM → Prop} {x : Int} (h : Vw σ0 k m t p T s) (hQ : ∀ s', Vw σ0 k m t p (wPS t x T).2 s' → Q (wPS t x T).1 s') : Ev (d + 1) 114 0 [vR 33 0, vI 0, vI x] [] s Q := by
  rw [b_V_says_0, if_pos rfl]
  refine c_begin h (fun s' h' => ?_)
  rw [h'.2.2.2.2.2.1]
  exact hQ s' h'
theorem c_says1 {d : Nat} {σ0 s : xM} {k m t p : Int} {T : qTR} {Q : Int → xM → Prop} {x : Int} (h : Vw σ0 k m t p T s) (hQ : ∀ s', Vw σ0 k m t p (wSS t x T).2 s' → Q (wSS t x T).1 s') : Ev (d + 2) 114 0 [vR 33 0, vI 1, vI x] [] s Q := by
  rw [b_V_says_0, if_neg (by decide), if_pos rfl]
  refine c_begin h (fun s' h' => ?_)
  rw [c_ab1]
  exact c_says0 h' hQ
theorem c_says2 {d : Nat} {σ0 s : xM} {k m t p : Int} {T : qTR} {Q : Int → xM → Prop} {x : Int} (h : Vw σ0 k m t p T s) (hQ : ∀ s', Vw σ0 k m t p (wPS t x T).2 s' → Q (wPS t x T).1 s') : Ev (d + 2) 114 0 [vR 33 0, vI 2, vI x] [] s Q := by
  rw [b_V_says_0, if_neg (by decide), if_neg (by decide), if_pos rfl, c_ab2]
  exact c_says0 h hQ
theorem kinds7 {k : Int} (h : 0 ≤ k ∧ k ≤ 6) : k = 0 ∨ k = 1 ∨ k = 2 ∨ k = 3 ∨ k = 4 ∨ k = 5 ∨ k = 6 := by omega
theorem c_says {d : Nat} {σ0 s : xM} {k m t p : Int} {T : qTR} {Q : Int → xM → Prop} {x : Int} (hk : 0 ≤ k ∧ k ≤ 6) (h : Vw σ0 k m t p T s) (hQ : ∀ s', Vw σ0 k m t p (wSays k t x T).2 s' → Q (wSays k t x T).1 s') : Ev (d + 3) 114 0 [vR 33 0, vI k, vI x] [] s Q := by
  unfold wSays at hQ
  rcases kinds7 hk with e | e | e | e | e | e | e <;> subst e
  · exact c_says0 h hQ
  · exact c_says1 h hQ
  · exact c_says2 h hQ
  · rw [b_V_says_0, if_neg (by decide), if_neg (by decide), if_neg (by decide), if_pos rfl, c_ab3]
    exact c_says0 h hQ
  · rw [b_V_says_0, if_neg (by decide), if_neg (by decide), if_neg (by decide), if_neg (by decide), if_pos rfl]
    refine c_begin h (fun s' h' => ?_)
    rw [c_ab4]
    exact c_says1 h' hQ
  · rw [b_V_says_0, if_neg (by decide), if_neg (by decide), if_neg (by decide), if_neg (by decide), if_neg (by decide), if_pos rfl, c_ab5]
    exact c_says2 h hQ
  · rw [b_V_says_0, if_neg (by decide), if_neg (by decide), if_neg (by decide), if_neg (by decide), if_neg (by decide), if_neg (by decide), if_pos rfl]
    exact c_begin h hQ
theorem c_sings0 {d : Nat} {σ0 s : xM} {k m t p : Int} {T : qTR} {Q : Int → xM → Prop} {x : Int} (hk : 0 ≤ k ∧ k ≤ 6) (h : Vw σ0 k m t p T s) (hQ : ∀ s', Vw σ0 k m t p (wPSi k t x T).2 s' → Q (wPSi k t x T).1 s') : Ev (d + 4) 115 0 [vR 33 0, vI 0, vI x] [] s Q := by
  rw [b_V_sings_0, if_pos rfl]
  refine c_begin h (fun s' h' => ?_)
  rw [h'.2.2.2.2.2.2.1]
  exact c_says hk h' hQ
theorem c_sings2 {d : Nat} {σ0 s : xM} {k m t p : Int} {T : qTR} {Q : Int → xM → Prop} {x : Int} (hk : 0 ≤ k ∧ k ≤ 6) (h : Vw σ0 k m t p T s) (hQ : ∀ s', Vw σ0 k m t p (wCSi k t x T).2 s' → Q (wCSi k t x T).1 s') : Ev (d + 5) 115 0 [vR 33 0, vI 2, vI x] [] s Q := by
  rw [b_V_sings_0, if_neg (by decide), if_neg (by decide), if_pos rfl]
  refine c_begin h (fun s' h' => ?_)
  rw [c_ab2]
  refine c_sings0 hk h' (fun s2 h2 => ?_)
  rw [Int.zero_sub]
  exact hQ s2 h2
theorem c_sings1 {d : Nat} {σ0 s : xM} {k m t p : Int} {T : qTR} {Q : Int → xM → Prop} {x : Int} (hk : 0 ≤ k ∧ k ≤ 6) (h : Vw σ0 k m t p T s) (hQ : ∀ s', Vw σ0 k m t p (wPSi k t x T).2 s' → Q (wPSi k t x T).1 s') : Ev (d + 5) 115 0 [vR 33 0, vI 1, vI x] [] s Q := by
  rw [b_V_sings_0, if_neg (by decide), if_pos rfl, c_ab1]
  exact c_sings0 hk h hQ
theorem c_sings {d : Nat} {σ0 s : xM} {k m t p : Int} {T : qTR} {Q : Int → xM → Prop} {x : Int} (hk : 0 ≤ k ∧ k ≤ 6) (h : Vw σ0 k m t p T s) (hQ : ∀ s', Vw σ0 k m t p (wSings k m t x T).2 s' → Q (wSings k m t x T).1 s') : Ev (d + 6) 115 0 [vR 33 0, vI k, vI x] [] s Q := by
  unfold wSings at hQ
  rcases kinds7 hk with e | e | e | e | e | e | e <;> subst e
  · exact c_sings0 (by decide) h hQ
  · exact c_sings1 (by decide) h hQ
  · exact c_sings2 (by decide) h hQ
  · rw [b_V_sings_0, if_neg (by decide), if_neg (by decide), if_neg (by decide), if_pos rfl, c_ab3]
    exact c_sings0 (by decide) h hQ
  · rw [b_V_sings_0, if_neg (by decide), if_neg (by decide), if_neg (by decide), if_neg (by decide), if_pos rfl, c_ab4]
    exact c_sings1 (by decide) h hQ
  · rw [b_V_sings_0, if_neg (by decide), if_neg (by decide), if_neg (by decide), if_neg (by decide), if_neg (by decide), if_pos rfl]
    refine c_begin h (fun s' h' => ?_)
    rw [c_ab5]
    exact c_sings2 (by decide) h' hQ
  · rw [b_V_sings_0, if_neg (by decide), if_neg (by decide), if_neg (by decide), if_neg (by decide), if_neg (by decide), if_neg (by decide), if_pos rfl]
    refine c_begin h (fun s' h' => ?_)
    rw [c_ab6]
    refine c_sings0 (by decide) h' (fun s2 h2 => ?_)
    rw [h2.2.2.2.2.2.2.2]
    exact hQ s2 h2
theorem c_waits0 {d : Nat} {σ0 s : xM} {k m t p : Int} {T : qTR} {Q : Int → xM → Prop} {x : Int} (hk : 0 ≤ k ∧ k ≤ 6) (h : Vw σ0 k m t p T s) (hQ : ∀ s', Vw σ0 k m t p (wPW k m t x T).2 s' → Q (wPW k m t x T).1 s') : Ev (d + 7) 116 0 [vR 33 0, vI 0, vI x] [] s Q := by
  rw [b_V_waits_0, if_pos rfl]
  refine c_begin h (fun s' h' => ?_)
  rw [h'.2.2.2.2.2.2.1]
  refine c_sings hk h' (fun s2 h2 => ?_)
  rw [h2.2.2.2.2.2.2.2]
  exact hQ s2 h2
theorem c_waits1 {d : Nat} {σ0 s : xM} {k m t p : Int} {T : qTR} {Q : Int → xM → Prop} {x : Int} (hk : 0 ≤ k ∧ k ≤ 6) (h : Vw σ0 k m t p T s) (hQ : ∀ s', Vw σ0 k m t p (wPW k m t x T).2 s' → Q (wPW k m t x T).1 s') : Ev (d + 8) 116 0 [vR 33 0, vI 1, vI x] [] s Q := by
  rw [b_V_waits_0, if_neg (by decide), if_pos rfl, c_ab1]
  exact c_waits0 hk h hQ
theorem c_waits2 {d : Nat} {σ0 s : xM} {k m t p : Int} {T : qTR} {Q : Int → xM → Prop} {x : Int} (hk : 0 ≤ k ∧ k ≤ 6) (h : Vw σ0 k m t p T s) (hQ : ∀ s', Vw σ0 k m t p (wPW k m t x T).2 s' → Q (wPW k m t x T).1 s') : Ev (d + 8) 116 0 [vR 33 0, vI 2, vI x] [] s Q := by
  rw [b_V_waits_0, if_neg (by decide), if_neg (by decide), if_pos rfl, c_ab2]
  exact c_waits0 hk h hQ
theorem c_waits {d : Nat} {σ0 s : xM} {k m t p : Int} {T : qTR} {Q : Int → xM → Prop} {x : Int} (hk : 0 ≤ k ∧ k ≤ 6) (h : Vw σ0 k m t p T s) (hQ : ∀ s', Vw σ0 k m t p (wWaits k m t x T).2 s' → Q (wWaits k m t x T).1 s') : Ev (d + 9) 116 0 [vR 33 0, vI k, vI x] [] s Q := by
  unfold wWaits at hQ
  rcases kinds7 hk with e | e | e | e | e | e | e <;> subst e
  · exact c_waits0 (by decide) h hQ
  · exact c_waits1 (by decide) h hQ
  · exact c_waits2 (by decide) h hQ
  · rw [b_V_waits_0, if_neg (by decide), if_neg (by decide), if_neg (by decide), if_pos rfl]
    refine c_begin h (fun s' h' => ?_)
    rw [c_ab3, xne2]
    exact c_waits0 (by decide) h' hQ
  · rw [b_V_waits_0, if_neg (by decide), if_neg (by decide), if_neg (by decide), if_neg (by decide), if_pos rfl]
    refine c_begin h (fun s' h' => ?_)
    rw [c_ab4]
    refine c_waits1 (by decide) h' (fun s2 h2 => ?_)
    rw [h2.2.2.2.2.2.1]
    exact hQ s2 h2
  · rw [b_V_waits_0, if_neg (by decide), if_neg (by decide), if_neg (by decide), if_neg (by decide), if_neg (by decide), c_ab5]
    exact c_waits2 (by decide) h hQ
  · rw [b_V_waits_0, if_neg (by decide), if_neg (by decide), if_neg (by decide), if_neg (by decide), if_neg (by decide), c_ab6]
    exact c_waits0 (by decide) h hQ
theorem c_parts0 {d : Nat} {σ0 s : xM} {k m t : Int} {T : qTR} {Q : Int → xM → Prop} {x : Int} (hm : 0 ≤ m ∧ m ≤ 9) (ht : 0 ≤ t ∧ t ≤ 6) (h : Vw σ0 k m t 0 T s) (hQ : ∀ s', Vw σ0 k m t (wPr m t) (wPP m t x T).2 s' → Q (wPP m t x T).1 s') : Ev (d + 1) 117 0 [vR 33 0, vI 0, vI x, vR 0 0] [] s Q := by
  rw [b_V_parts_0, if_pos rfl]
  refine c_begin h (fun s' h' => ?_)
  obtain ⟨h1, h2, h3, h4, h5, h6, h7, h8⟩ := h'
  have vw : ∀ v, Vw σ0 k m t v (tb T 13) (xup s' 33 0 1 v) := fun v => ⟨Fr_trans h1 (Fr_up (by decide)), h2, by rw [xup_k (by decide)]; exact h3, by rw [xup_t (by decide)]; exact h4, xup_s, by rw [xup_k (by decide)]; exact h6, by rw [xup_k (by decide)]; exact h7, by rw [xup_k (by decide)]; exact h8⟩
  unfold wPr wPP at hQ
  rw [h8, h6]
  by_cases e : m = t
  · rw [if_pos e, if_pos e] at hQ
    rw [if_pos e, xz1, xup_s, if_neg (by decide)]
    exact hQ _ (vw 1)
  · rw [if_neg e, if_neg e] at hQ
    rw [if_neg e, xz0, xup_s, if_pos rfl, xup_k (by decide), xup_k (by decide), h8, h6]
    refine ⟨?_, hQ _ (vw 0)⟩
    rw [xw (by omega) (by omega)]
    omega
theorem c_parts1 {d : Nat} {σ0 s : xM} {k m t : Int} {T : qTR} {Q : Int → xM → Prop} {x : Int} (hk : 0 ≤ k ∧ k ≤ 6) (hm : 0 ≤ m ∧ m ≤ 9) (ht : 0 ≤ t ∧ t ≤ 6) (h : Vw σ0 k m t 0 T s) (hQ : ∀ s', Vw σ0 k m t (wPr m t) (wPt k m t x T).2 s' → Q (wPt k m t x T).1 s') : Ev (d + 7) 117 0 [vR 33 0, vI 1, vI x, vR 0 0] [] s Q := by
  rw [b_V_parts_0, if_neg (by decide), if_pos rfl]
  refine c_begin h (fun s' h' => ?_)
  rw [c_ab1]
  refine c_parts0 hm ht h' (fun s2 h2 => ?_)
  rw [h2.2.2.2.2.1, h2.2.2.2.2.2.2.1]
  unfold wPt at hQ
  by_cases e : m = t
  · have ep : wPr m t = 1 := if_pos e
    rw [if_pos e] at hQ
    rw [ep, if_neg (by decide)]
    exact hQ s2 h2
  · have ep : wPr m t = 0 := if_neg e
    rw [if_neg e] at hQ
    rw [ep, if_pos rfl]
    exact c_sings hk h2 hQ
theorem c_parts {d : Nat} {σ0 s : xM} {k m t : Int} {T : qTR} {Q : Int → xM → Prop} {x : Int} (hk : 0 ≤ k ∧ k ≤ 6) (hm : 0 ≤ m ∧ m ≤ 9) (ht : 0 ≤ t ∧ t ≤ 6) (h : Vw σ0 k m t 0 T s) (hQ : ∀ s', Vw σ0 k m t (wPr m t) (wParts k m t x T).2 s' → Q (wParts k m t x T).1 s') : Ev (d + 8) 117 0 [vR 33 0, vI k, vI x, vR 0 0] [] s Q := by
  unfold wParts at hQ
  rcases kinds7 hk with e | e | e | e | e | e | e <;> subst e
  · exact c_parts0 hm ht h hQ
  · exact c_parts1 (by decide) hm ht h hQ
  · rw [b_V_parts_0, if_neg (by decide), if_neg (by decide), c_ab2]
    exact c_parts0 hm ht h hQ
  · rw [b_V_parts_0, if_neg (by decide), if_neg (by decide), c_ab3]
    exact c_parts0 hm ht h hQ
  · rw [b_V_parts_0, if_neg (by decide), if_neg (by decide), c_ab4]
    exact c_parts1 (by decide) hm ht h hQ
  · rw [b_V_parts_0, if_neg (by decide), if_neg (by decide), c_ab5, b_V_parts_0, if_neg (by decide), if_neg (by decide), c_ab2]
    exact c_parts0 hm ht h hQ
  · rw [b_V_parts_0, if_neg (by decide), if_neg (by decide), c_ab6]
    exact c_parts0 hm ht h hQ
/-- the reference while it speaks -/
def Mw (σ0 : xM) (p : Int) (T : qTR) (s : xM) : Prop := Fr [40, 56] σ0 s ∧ (∀ j, j ≠ 6 → j ≠ 7 → s 40 0 j = σ0 40 0 j) ∧ T.1 ≤ 30 ∧ s 40 0 6 = (T.1 : Int) ∧ (∀ i, i < 30 → s 56 0 i = T.2 i) ∧ s 40 0 7 = p
theorem n_begins {d : Nat} {σ0 s : xM} {p : Int} {T : qTR} {Q : Int → xM → Prop} {b : Int} (h : Mw σ0 p T s) (hQ : ∀ s', Mw σ0 p (tb T b) s' → Q 0 s') : Ev d 193 0 [vR 40 0, vI b] [] s Q := by
  obtain ⟨h1, h2, h3, h4, h5, h6⟩ := h
  unfold tb at hQ
  rw [b_M_begins_0, h4]
  by_cases c : T.1 < 30
  · rw [if_pos c] at hQ
    rw [if_pos (by omega), xin (by omega) (by omega), Int.toNat_natCast, xup_t (t' := 40) (t := 56) (by decide), h4, xs1 (by omega)]
    refine hQ _ ⟨Fr_trans h1 (Fr_trans (Fr_up (by decide)) (Fr_up (by decide))), fun j j6 j7 => ?_, by show T.1 + 1 ≤ 30; omega, by rw [xup_s], ?_, ?_⟩
    · rw [xup_k j6, xup_t (by decide), h2 j j6 j7]
    · intro i hi
      rw [xup_t (by decide), xup_row]
      show qu (s 56 0) T.1 b i = qu T.2 T.1 b i
      by_cases ei : i = T.1
      · rw [ei, qu_s, qu_s]
      · rw [qu_n ei, qu_n ei]
        exact h5 i hi
    · rw [xup_k (by decide), xup_t (by decide), h6]
  · rw [if_neg c] at hQ
    rw [if_neg (by omega)]
    exact hQ s ⟨h1, h2, h3, h4, h5, h6⟩
theorem n_PS {d P : Nat} {σ0 s : xM} {p : Int} {T : qTR} {Q : Int → xM → Prop} {x : Int} (h : Mw σ0 p T s) (hQ : ∀ s', Mw σ0 p (wPS (P : Int) x T).2 s' → Q (wPS (P : Int) x T).1 s') : Ev (d + 1) 194 0 [vR 40 0, vI (P : Int), vI x] [] s Q := by
  rw [b_M_plainSays_0]
  exact n_begins h hQ
theorem n_SS {d P : Nat} {σ0 s : xM} {p : Int} {T : qTR} {Q : Int → xM → Prop} {x : Int} (h : Mw σ0 p T s) (hQ : ∀ s', Mw σ0 p (wSS (P : Int) x T).2 s' → Q (wSS (P : Int) x T).1 s') : Ev (d + 2) 195 0 [vR 40 0, vI (P : Int), vI x] [] s Q := by
  rw [b_M_speakerSays_0]
  refine n_begins h (fun s' h' => ?_)
  exact n_PS h' hQ
theorem n_of0 {d P : Nat} {σ0 s : xM} {p k : Int} {T : qTR} {Q : Int → xM → Prop} (P7 : P < 7) (hk : σ0 41 0 (7 + 2 * P) = k) (h : Mw σ0 p T s) : Ev d 134 0 [vR 40 0, vI (P : Int), vI 0] [] s Q = Q k s := by
  rw [e_of0 P7, h.1 41 (by decide), hk]
theorem n_of1 {d P : Nat} {σ0 s : xM} {p m : Int} {T : qTR} {Q : Int → xM → Prop} (P7 : P < 7) (hm : σ0 41 0 (7 + 2 * P + 1) = m) (h : Mw σ0 p T s) : Ev d 134 0 [vR 40 0, vI (P : Int), vI 1] [] s Q = Q m s := by
  rw [e_of1 P7, h.1 41 (by decide), hm]
theorem n_says {d P : Nat} {σ0 s : xM} {p k : Int} {T : qTR} {Q : Int → xM → Prop} {x : Int} (P7 : P < 7) (hk : σ0 41 0 (7 + 2 * P) = k) (k7 : 0 ≤ k ∧ k ≤ 6) (h : Mw σ0 p T s) (hQ : ∀ s', Mw σ0 p (wSays k (P : Int) x T).2 s' → Q (wSays k (P : Int) x T).1 s') : Ev (d + 3) 196 0 [vR 40 0, vI (P : Int), vI x] [] s Q := by
  rw [b_M_says_0, n_of0 P7 hk h]
  unfold wSays at hQ
  by_cases e1 : k = 1
  · rw [if_pos e1] at hQ ⊢
    exact n_SS h hQ
  · rw [if_neg e1] at hQ ⊢
    by_cases e4 : k = 4
    · rw [if_pos e4] at hQ ⊢
      refine n_begins h (fun s' h' => ?_)
      exact n_SS h' hQ
    · rw [if_neg e4] at hQ ⊢
      by_cases e6 : k = 6
      · rw [if_pos e6] at hQ ⊢
        exact n_begins h hQ
      · rw [if_neg e6] at hQ ⊢
        exact n_PS h hQ
theorem n_PSi {d P : Nat} {σ0 s : xM} {p k : Int} {T : qTR} {Q : Int → xM → Prop} {x : Int} (P7 : P < 7) (hk : σ0 41 0 (7 + 2 * P) = k) (k7 : 0 ≤ k ∧ k ≤ 6) (h : Mw σ0 p T s) (hQ : ∀ s', Mw σ0 p (wPSi k (P : Int) x T).2 s' → Q (wPSi k (P : Int) x T).1 s') : Ev (d + 4) 197 0 [vR 40 0, vI (P : Int), vI x] [] s Q := by
  rw [b_M_plainSings_0]
  refine n_begins h (fun s' h' => ?_)
  exact n_says P7 hk k7 h' hQ
theorem n_CSi {d P : Nat} {σ0 s : xM} {p k : Int} {T : qTR} {Q : Int → xM → Prop} {x : Int} (P7 : P < 7) (hk : σ0 41 0 (7 + 2 * P) = k) (k7 : 0 ≤ k ∧ k ≤ 6) (h : Mw σ0 p T s) (hQ : ∀ s', Mw σ0 p (wCSi k (P : Int) x T).2 s' → Q (wCSi k (P : Int) x T).1 s') : Ev (d + 5) 198 0 [vR 40 0, vI (P : Int), vI x] [] s Q := by
  rw [b_M_crownSings_0]
  refine n_begins h (fun s' h' => ?_)
  exact n_PSi P7 hk k7 h' hQ
theorem n_sings {d P : Nat} {σ0 s : xM} {p k m : Int} {T : qTR} {Q : Int → xM → Prop} {x : Int} (P7 : P < 7) (hk : σ0 41 0 (7 + 2 * P) = k) (hm : σ0 41 0 (7 + 2 * P + 1) = m) (k7 : 0 ≤ k ∧ k ≤ 6) (h : Mw σ0 p T s) (hQ : ∀ s', Mw σ0 p (wSings k m (P : Int) x T).2 s' → Q (wSings k m (P : Int) x T).1 s') : Ev (d + 6) 199 0 [vR 40 0, vI (P : Int), vI x] [] s Q := by
  rw [b_M_sings_0, n_of0 P7 hk h]
  unfold wSings at hQ
  rcases kinds7 k7 with e | e | e | e | e | e | e
  · rw [if_neg (by omega), if_neg (by omega), if_neg (by omega)] at hQ
    rw [if_neg (by omega), if_neg (by omega), if_neg (by omega), if_neg (by omega), if_neg (by omega)]
    exact n_PSi P7 hk k7 h hQ
  · rw [if_neg (by omega), if_neg (by omega), if_neg (by omega)] at hQ
    rw [if_neg (by omega), if_neg (by omega), if_neg (by omega), if_neg (by omega), if_neg (by omega)]
    exact n_PSi P7 hk k7 h hQ
  · rw [if_pos e] at hQ ⊢
    exact n_CSi P7 hk k7 h hQ
  · rw [if_neg (by omega), if_neg (by omega), if_neg (by omega)] at hQ
    rw [if_neg (by omega), if_pos e]
    exact n_PSi P7 hk k7 h hQ
  · rw [if_neg (by omega), if_neg (by omega), if_neg (by omega)] at hQ
    rw [if_neg (by omega), if_neg (by omega), if_pos e]
    exact n_PSi P7 hk k7 h hQ
  · rw [if_neg (by omega), if_pos e] at hQ
    rw [if_neg (by omega), if_neg (by omega), if_neg (by omega), if_pos e]
    refine n_begins h (fun s' h' => ?_)
    exact n_CSi P7 hk k7 h' hQ
  · rw [if_neg (by omega), if_neg (by omega), if_pos e] at hQ
    rw [if_neg (by omega), if_neg (by omega), if_neg (by omega), if_neg (by omega), if_pos e]
    refine n_begins h (fun s' h' => ?_)
    refine n_PSi P7 hk k7 h' (fun s2 h2 => ?_)
    rw [n_of1 P7 hm h2]
    exact hQ s2 h2
theorem n_PW {d P : Nat} {σ0 s : xM} {p k m : Int} {T : qTR} {Q : Int → xM → Prop} {x : Int} (P7 : P < 7) (hk : σ0 41 0 (7 + 2 * P) = k) (hm : σ0 41 0 (7 + 2 * P + 1) = m) (k7 : 0 ≤ k ∧ k ≤ 6) (h : Mw σ0 p T s) (hQ : ∀ s', Mw σ0 p (wPW k m (P : Int) x T).2 s' → Q (wPW k m (P : Int) x T).1 s') : Ev (d + 7) 200 0 [vR 40 0, vI (P : Int), vI x] [] s Q := by
  rw [b_M_plainWaits_0]
  refine n_begins h (fun s' h' => ?_)
  refine n_sings P7 hk hm k7 h' (fun s2 h2 => ?_)
  rw [n_of1 P7 hm h2]
  exact hQ s2 h2
theorem n_waits {d P : Nat} {σ0 s : xM} {p k m : Int} {T : qTR} {Q : Int → xM → Prop} {x : Int} (P7 : P < 7) (hk : σ0 41 0 (7 + 2 * P) = k) (hm : σ0 41 0 (7 + 2 * P + 1) = m) (k7 : 0 ≤ k ∧ k ≤ 6) (h : Mw σ0 p T s) (hQ : ∀ s', Mw σ0 p (wWaits k m (P : Int) x T).2 s' → Q (wWaits k m (P : Int) x T).1 s') : Ev (d + 8) 201 0 [vR 40 0, vI (P : Int), vI x] [] s Q := by
  rw [b_M_waits_0, n_of0 P7 hk h]
  unfold wWaits at hQ
  by_cases e3 : k = 3
  · rw [if_pos e3] at hQ ⊢
    refine n_begins h (fun s' h' => ?_)
    rw [xne2]
    exact n_PW P7 hk hm k7 h' hQ
  · rw [if_neg e3] at hQ ⊢
    by_cases e4 : k = 4
    · rw [if_pos e4] at hQ ⊢
      refine n_begins h (fun s' h' => ?_)
      exact n_PW P7 hk hm k7 h' hQ
    · rw [if_neg e4] at hQ ⊢
      exact n_PW P7 hk hm k7 h hQ
theorem n_PP {d P : Nat} {σ0 s : xM} {m : Int} {T : qTR} {Q : Int → xM → Prop} {x : Int} (P7 : P < 7) (hm : σ0 41 0 (7 + 2 * P + 1) = m) (m9 : 0 ≤ m ∧ m ≤ 9) (h : Mw σ0 0 T s) (hQ : ∀ s', Mw σ0 (wPr m (P : Int)) (wPP m (P : Int) x T).2 s' → Q (wPP m (P : Int) x T).1 s') : Ev (d + 1) 202 0 [vR 40 0, vI (P : Int), vI x, vR 0 0] [] s Q := by
  rw [b_M_plainParts_0]
  refine n_begins h (fun s' h' => ?_)
  rw [n_of1 P7 hm h']
  obtain ⟨h1, h2, h3, h4, h5, h6⟩ := h'
  have mw : ∀ v, Mw σ0 v (tb T 13) (xup s' 40 0 7 v) := fun v => ⟨Fr_trans h1 (Fr_up (by decide)), fun j j6 j7 => by rw [xup_k j7]; exact h2 j j6 j7, h3, by rw [xup_k (by decide)]; exact h4, by rw [xup_t (by decide)]; exact h5, xup_s⟩
  have ew : xwr (m - (P : Int)) = m - (P : Int) := xw (by omega) (by omega)
  unfold wPr wPP at hQ
  rw [ew] at hQ ⊢
  by_cases e : m = (P : Int)
  · rw [if_pos e, if_pos e] at hQ
    rw [if_pos (by omega), xz1, xup_s, if_neg (by decide)]
    exact hQ _ (mw 1)
  · rw [if_neg e, if_neg e] at hQ
    rw [if_neg (by omega), xz0, xup_s, if_pos rfl]
    exact ⟨by omega, hQ _ (mw 0)⟩
theorem n_Pt {d P : Nat} {σ0 s : xM} {k m : Int} {T : qTR} {Q : Int → xM → Prop} {x : Int} (P7 : P < 7) (hk : σ0 41 0 (7 + 2 * P) = k) (hm : σ0 41 0 (7 + 2 * P + 1) = m) (k7 : 0 ≤ k ∧ k ≤ 6) (m9 : 0 ≤ m ∧ m ≤ 9) (h : Mw σ0 0 T s) (hQ : ∀ s', Mw σ0 (wPr m (P : Int)) (wPt k m (P : Int) x T).2 s' → Q (wPt k m (P : Int) x T).1 s') : Ev (d + 6) 193 0 [vR 40 0, vI 21] [] s (fun _ s2 => Ev (d + 6) 202 0 [vR 40 0, vI (P : Int), vI x, vR 0 0] [] s2 (fun v3 s3 => if (s3 40 0 7) = (0 : Int) then Ev (d + 6) 199 0 [vR 40 0, vI (P : Int), vI 1] [] s3 (fun v4 s4 => Q (xwr (v3 + v4)) s4) else Q 0 s3)) := by
  refine n_begins h (fun s' h' => ?_)
  refine n_PP P7 hm m9 h' (fun s2 h2 => ?_)
  rw [h2.2.2.2.2.2]
  unfold wPt at hQ
  by_cases e : m = (P : Int)
  · have ep : wPr m (P : Int) = 1 := if_pos e
    rw [if_pos e] at hQ
    rw [ep, if_neg (by decide)]
    exact hQ s2 h2
  · have ep : wPr m (P : Int) = 0 := if_neg e
    rw [if_neg e] at hQ
    rw [ep, if_pos rfl]
    exact n_sings P7 hk hm k7 h2 hQ
theorem n_parts {d P : Nat} {σ0 s : xM} {k m : Int} {T : qTR} {Q : Int → xM → Prop} {x : Int} (P7 : P < 7) (hk : σ0 41 0 (7 + 2 * P) = k) (hm : σ0 41 0 (7 + 2 * P + 1) = m) (k7 : 0 ≤ k ∧ k ≤ 6) (m9 : 0 ≤ m ∧ m ≤ 9) (h : Mw σ0 0 T s) (hQ : ∀ s', Mw σ0 (wPr m (P : Int)) (wParts k m (P : Int) x T).2 s' → Q (wParts k m (P : Int) x T).1 s') : Ev (d + 7) 203 0 [vR 40 0, vI (P : Int), vI x, vR 0 0] [] s Q := by
  rw [b_M_partsBy_0, n_of0 P7 hk h]
  unfold wParts at hQ
  by_cases e1 : k = 1
  · rw [if_pos e1] at hQ ⊢
    exact n_Pt P7 hk hm k7 m9 h hQ
  · rw [if_neg e1] at hQ ⊢
    rw [n_of0 P7 hk h]
    by_cases e4 : k = 4
    · rw [if_pos e4] at hQ ⊢
      exact n_Pt P7 hk hm k7 m9 h hQ
    · rw [if_neg e4] at hQ ⊢
      exact n_PP P7 hm m9 h hQ
theorem Inv_vo {σ τ : xM} (h : Inv σ) (f : Fr [33, 34, 39, 40, 44, 56] σ τ) (e : τ 40 0 0 = σ 40 0 0) (kE : xiE τ) (kV : xiV τ) : Inv τ := by
  obtain ⟨i1, i2, i3, i4, i5, i6⟩ := h
  refine ⟨by rw [f 41 (by decide)]; exact i1, ?_, kE, ?_, ?_, kV⟩
  · rw [f 41 (by decide)]
    exact xcpl_cg i2 (f 5 (by decide)) (f 7 (by decide)) (f 9 (by decide)) (f 10 (by decide)) (f 11 (by decide)) (f 13 (by decide)) (f 14 (by decide)) (f 16 (by decide))
  · unfold xiK at i4 ⊢
    rw [f 4 (by decide), e, f 42 (by decide)]
    exact ⟨i4.1, fun hn => ⟨(i4.2 hn).1, xcpl_cg (i4.2 hn).2 (f 5 (by decide)) (f 7 (by decide)) (f 9 (by decide)) (f 10 (by decide)) (f 11 (by decide)) (f 13 (by decide)) (f 14 (by decide)) (f 16 (by decide))⟩⟩
  · unfold xiS at i5 ⊢
    rw [f 36 (by decide), f 37 (by decide), f 45 (by decide), f 46 (by decide), f 47 (by decide)]
    exact i5
theorem speak_in {σ : xM} {P : Nat} {k m : Int} (hk : σ 7 P 0 = k) (hm : σ 7 P 1 = m) : Vw σ k m (P : Int) 0 (0, σ 34 0) (xup (xup (xup (xup (xup σ 33 0 2 (P : Int)) 33 0 3 k) 33 0 4 m) 33 0 0 0) 33 0 1 0) := by
  refine ⟨Fr_trans (Fr_trans (Fr_trans (Fr_trans (Fr_up (by decide)) (Fr_up (by decide))) (Fr_up (by decide))) (Fr_up (by decide))) (Fr_up (by decide)), Nat.zero_le _, ?_, ?_, ?_, ?_, ?_, ?_⟩
  · rw [xup_k (by decide), xup_s]
    rfl
  · rw [xup_t (by decide), xup_t (by decide), xup_t (by decide), xup_t (by decide), xup_t (by decide)]
  · rw [xup_s]
  · rw [xup_k (by decide), xup_k (by decide), xup_k (by decide), xup_k (by decide), xup_s]
  · rw [xup_k (by decide), xup_k (by decide), xup_k (by decide), xup_s]
  · rw [xup_k (by decide), xup_k (by decide), xup_s]
def wAll (v k m t x : Int) (T : qTR) : Int × qTR := if v = 0 then wSays k t x T else if v = 1 then wSings k m t x T else if v = 2 then wWaits k m t x T else wParts k m t x T
def wAp (v m t : Int) : Int := if v = 3 then wPr m t else 0
theorem c_speak {d P : Nat} {σ : xM} {k m v x : Int} {Q : Int → xM → Prop} (P7 : P < 7) (hk : σ 7 P 0 = k) (hm : σ 7 P 1 = m) (k7 : 0 ≤ k ∧ k ≤ 6) (m9 : 0 ≤ m ∧ m ≤ 9) (hv : 0 ≤ v ∧ v ≤ 3) (hQ : ∀ s, Vw σ k m (P : Int) (wAp v m (P : Int)) (wAll v k m (P : Int) x (0, σ 34 0)).2 s → Q (wAll v k m (P : Int) x (0, σ 34 0)).1 s) : Ev (d + 10) 111 0 [vR 33 0, vI (P : Int), vR 7 P, vI v, vI x] [] σ Q := by
  have s0 := speak_in hk hm
  rw [b_V_speak_0, xz0]
  simp only [xup_t (show (7 : Nat) ≠ 33 by decide), hk, hm]
  unfold wAll wAp at hQ
  have : v = 0 ∨ v = 1 ∨ v = 2 ∨ v = 3 := by omega
  rcases this with e | e | e | e <;> subst e
  · rw [if_pos rfl, s0.2.2.2.2.2.2.1]
    exact c_says k7 s0 hQ
  · rw [if_neg (by decide), if_pos rfl, s0.2.2.2.2.2.2.1]
    exact c_sings k7 s0 hQ
  · rw [if_neg (by decide), if_neg (by decide), if_pos rfl, s0.2.2.2.2.2.2.1]
    exact c_waits k7 s0 hQ
  · rw [if_neg (by decide), if_neg (by decide), if_neg (by decide), s0.2.2.2.2.2.2.1]
    exact c_parts k7 m9 (by omega) s0 hQ
theorem n_voice {d P : Nat} {σ : xM} {g : Nat → Int} {k m v x : Int} {Q : Int → xM → Prop} (hg : ∀ i, i < 30 → σ 56 0 i = g i) (P7 : P < 7) (hp : (P : Int) < σ 41 0 2) (p7 : 0 ≤ σ 41 0 2 ∧ σ 41 0 2 ≤ 7) (hk : σ 41 0 (7 + 2 * P) = k) (hm : σ 41 0 (7 + 2 * P + 1) = m) (k7 : 0 ≤ k ∧ k ≤ 6) (m9 : 0 ≤ m ∧ m ≤ 9) (hv : 0 ≤ v ∧ v ≤ 3) (hQ : ∀ s, Mw σ (wAp v m (P : Int)) (wAll v k m (P : Int) x (0, g)).2 s → (if wAp v m (P : Int) = 0 then Q (wAll v k m (P : Int) x (0, g)).1 s else Ev (d + 9) 124 0 [vR 40 0, vI (-1000000006)] [] s Q)) : Ev (d + 10) 204 0 [vR 40 0, vI (P : Int), vI v, vI x, vR 0 0] [] σ Q := by
  have s0 : Mw σ 0 (0, g) (xup (xup σ 40 0 6 0) 40 0 7 0) := ⟨Fr_trans (Fr_up (by decide)) (Fr_up (by decide)), fun j j6 j7 => by rw [xup_k j7, xup_k j6], Nat.zero_le _, by rw [xup_k (by decide), xup_s]; rfl, fun i hi => by rw [xup_t (by decide), xup_t (by decide)]; exact hg i hi, xup_s⟩
  rw [b_M_voice_0, e_isPart p7.1 p7.2]
  simp only [xbc]
  rw [if_neg (by omega), e_in]
  simp only [xbc]
  rw [if_neg (by omega)]
  refine ⟨Or.inl trivial, ?_⟩
  unfold wAll wAp at hQ
  have : v = 0 ∨ v = 1 ∨ v = 2 ∨ v = 3 := by omega
  rcases this with e | e | e | e <;> subst e
  · rw [if_pos rfl]
    refine n_says P7 hk k7 s0 (fun s h => ?_)
    rw [h.2.2.2.2.2]
    exact hQ s h
  · rw [if_neg (by decide), if_pos rfl]
    refine n_sings P7 hk hm k7 s0 (fun s h => ?_)
    rw [h.2.2.2.2.2]
    exact hQ s h
  · rw [if_neg (by decide), if_neg (by decide), if_pos rfl]
    refine n_waits P7 hk hm k7 s0 (fun s h => ?_)
    rw [h.2.2.2.2.2]
    exact hQ s h
  · rw [if_neg (by decide), if_neg (by decide), if_neg (by decide)]
    refine n_parts P7 hk hm k7 m9 s0 (fun s h => ?_)
    rw [h.2.2.2.2.2]
    exact hQ s h
theorem call_voice {d : Nat} {σ : xM} (h : Inv σ) (x y z : Int) : Ev (d + 19) m_P_voice 0 [vR 4 0, vI x, vI y, vI z, vR 0 0] [] σ (fun r s => Ev (d + 19) m_M_voice 0 [vR 40 0, vI x, vI y, vI z, vR 0 0] [] s (fun r' s' => r = r' ∧ Inv s')) := by
  have hk := Inv_Kp h
  have ⟨p0, p7⟩ := h.1.1
  obtain ⟨v1, v2, v3⟩ := h.2.2.2.2.2
  rw [b_P_voice_0, e_hasPart, Kp_parts hk]
  simp only [xbc]
  by_cases hx : 0 ≤ x ∧ x < σ 41 0 2
  · obtain ⟨P, hP⟩ : ∃ P : Nat, x = (P : Int) := ⟨x.toNat, by omega⟩
    subst hP
    have hp := hx.2
    have P7 := xvl_p7 h.1 hp
    obtain ⟨k7, m9⟩ := h.1.2.2.2.2.2.2.1 P hp
    rw [if_neg (fun q => q hx), e_isWithin]
    simp only [xbc]
    by_cases hy : 0 ≤ y ∧ y ≤ 3
    · rw [if_neg (fun q => q hy), xin (by omega) (by omega), Int.toNat_natCast]
      refine c_speak P7 (Kp_kind hk P7) (Kp_m hk P7) k7 m9 hy (fun s hs => ?_)
      obtain ⟨f1, g1, g2, g3, g4, g5, g6, g7⟩ := hs
      rw [g4]
      have fin : ∀ u, Fr [39] s u → (wAp y (σ 41 0 (7 + 2 * P + 1)) (P : Int) = 0 → u = s) → (¬ wAp y (σ 41 0 (7 + 2 * P + 1)) (P : Int) = 0 → u = xup s 39 0 6 (xwr (s 39 0 6 + 1))) → ∀ r, r = (if wAp y (σ 41 0 (7 + 2 * P + 1)) (P : Int) = 0 then (wAll y (σ 41 0 (7 + 2 * P)) (σ 41 0 (7 + 2 * P + 1)) (P : Int) z (0, σ 34 0)).1 else -1000000006) → Ev (d + 19) m_M_voice 0 [vR 40 0, vI (P : Int), vI y, vI z, vR 0 0] [] u (fun r' s' => r = r' ∧ Inv s') := by
        intro u hu c0 c1 r hr
        have fu : Fr [33, 34, 39] σ u := Fr_trans (Fr_mono f1 (by decide)) (Fr_mono hu (by decide))
        have u41 : u 41 = σ 41 := fu 41 (by decide)
        refine n_voice (g := σ 34 0) (k := σ 41 0 (7 + 2 * P)) (m := σ 41 0 (7 + 2 * P + 1)) (fun i hi => by rw [fu 56 (by decide)]; exact (v3 i hi).symm) P7 (by rw [u41]; exact hp) (by rw [u41]; exact ⟨p0, p7⟩) (by rw [u41]) (by rw [u41]) k7 m9 hy (fun t ht => ?_)
        obtain ⟨q1, q2, q3, q4, q5, q6⟩ := ht
        have u33 : u 33 = s 33 := hu 33 (by decide)
        have u34 : u 34 = s 34 := hu 34 (by decide)
        have t40 : t 40 0 0 = σ 40 0 0 := by rw [q2 0 (by decide) (by decide), fu 40 (by decide)]
        have kv : ∀ τ, τ 33 = u 33 → τ 34 = u 34 → τ 40 = t 40 → τ 56 = t 56 → xiV τ := by
          intro τ e33 e34 e40 e56
          refine ⟨?_, ?_, fun i hi => ?_⟩
          · rw [e33, e40, u33, g2, q4]
          · rw [e40, q4]
            omega
          · rw [e34, e56, u34, g3, q5 i hi]
        by_cases e0 : wAp y (σ 41 0 (7 + 2 * P + 1)) (P : Int) = 0
        · rw [if_pos e0] at hr ⊢
          have eu := c0 e0
          refine ⟨hr, Inv_vo h (Fr_trans (Fr_mono fu (by decide)) (Fr_mono q1 (by decide))) t40 ?_ (kv t (q1 33 (by decide)) (q1 34 (by decide)) rfl rfl)⟩
          intro j j1 j7
          rw [q1 39 (by decide), q1 44 (by decide), eu, f1 39 (by decide), f1 44 (by decide)]
          exact h.2.2.1 j j1 j7
        · rw [if_neg e0] at hr ⊢
          have eu := c1 e0
          rw [e_err6]
          refine ⟨hr, Inv_vo h (Fr_trans (Fr_mono fu (by decide)) (Fr_trans (Fr_mono q1 (by decide)) (Fr_up (by decide)))) (by rw [xup_t (by decide)]; exact t40) ?_ (kv _ (by rw [xup_t (by decide), q1 33 (by decide)]) (by rw [xup_t (by decide), q1 34 (by decide)]) (xup_t (by decide)) (xup_t (by decide)))⟩
          intro j j1 j7
          have hj := h.2.2.1 j j1 j7
          have h6 := h.2.2.1 6 (by decide) (by decide)
          rw [xup_t (t' := 39) (by decide), q1 39 (by decide), eu]
          by_cases ej : j = 6
          · rw [ej, xup_s, xup_s, q1 44 (by decide), eu, xup_t (by decide), f1 39 (by decide), f1 44 (by decide), h6]
          · rw [xup_k ej, xup_k ej, q1 44 (by decide), eu, xup_t (by decide), f1 39 (by decide), f1 44 (by decide)]
            exact hj
      by_cases e0 : wAp y (σ 41 0 (7 + 2 * P + 1)) (P : Int) = 0
      · rw [if_pos e0]
        exact fin s Fr_refl (fun _ => rfl) (fun q => absurd e0 q) _ (by rw [if_pos e0])
      · rw [if_neg e0, e_fail6]
        exact fin _ (Fr_up (by decide)) (fun q => absurd q e0) (fun _ => rfl) _ (by rw [if_neg e0])
    · rw [if_pos hy, e_fail1, b_M_voice_0, e_isPart9 p0 p7]
      simp only [xbc]
      rw [if_neg (fun q => q hx), e_in]
      simp only [xbc]
      rw [if_pos hy]
      exact fin1 h
  · rw [if_pos hx, e_fail1, b_M_voice_0, e_isPart9 p0 p7]
    simp only [xbc]
    rw [if_pos hx]
    exact fin1 h
