/-! image, restore -/
theorem xcpy_t {σ : xM} {t0 i0 s0 t1 i1 d0 n t : Nat} (h : t ≠ t1) : xcpy σ t0 i0 s0 t1 i1 d0 n t = σ t := by
  funext a b
  unfold xcpy
  rw [if_neg (fun q => h q.1)]
theorem xcpy_i {σ : xM} {t0 i0 s0 t1 i1 d0 n i : Nat} (h : i ≠ i1) : xcpy σ t0 i0 s0 t1 i1 d0 n t1 i = σ t1 i := by
  funext b
  unfold xcpy
  rw [if_neg (fun q => h q.2.1)]
theorem xcpy_k {σ : xM} {t0 i0 t1 i1 n k : Nat} (h : k < n) : xcpy σ t0 i0 0 t1 i1 0 n t1 i1 k = σ t0 i0 k := by
  unfold xcpy
  rw [if_pos ⟨rfl, rfl, Nat.zero_le _, by omega⟩, Nat.zero_add, Nat.sub_zero]
theorem Fr_cpy {l : List Nat} {σ : xM} {t0 i0 s0 t1 i1 d0 n : Nat} (h : t1 ∈ l) : Fr l σ (xcpy σ t0 i0 s0 t1 i1 d0 n) := fun a ha => xcpy_t (fun q => ha (q ▸ h))
theorem cp_role {d a b : Nat} {σ : xM} {Q : Int → xM → Prop} (hab : b ≠ a) (hQ : ∀ s, Fr [7] σ s → (∀ j, j ≠ a → s 7 j = σ 7 j) → s 7 a 0 = σ 7 b 0 → s 7 a 1 = σ 7 b 1 → Q 0 s) : Ev d 66 0 [vR 7 a, vR 7 b] [] σ Q := by
  rw [b_R_copyFrom_0]
  simp only [xup_i hab]
  exact hQ _ (Fr_trans (Fr_up (by decide)) (Fr_up (by decide))) (fun j hj => by rw [xup_i hj, xup_i hj]) (by rw [xup_k (by decide), xup_s]) (by rw [xup_s])
theorem cp_child {d a b : Nat} {σ : xM} {Q : Int → xM → Prop} (hab : b ≠ a) (hQ : ∀ s, Fr [9, 10] σ s → (∀ j, j ≠ a → s 9 j = σ 9 j) → (∀ j, j ≠ a → s 10 j = σ 10 j) → (∀ k, k < 6 → s 9 a k = σ 9 b k) → (∀ k, k < 3 → s 10 a k = σ 10 b k) → Q 0 s) : Ev d 72 0 [vR 9 a, vR 9 b] [] σ Q := by
  rw [b_C_copyFrom_0]
  simp only [xup_i hab]
  refine ⟨by decide, hQ _ ?_ ?_ ?_ ?_ ?_⟩
  · exact Fr_trans (Fr_trans (Fr_trans (Fr_trans (Fr_trans (Fr_trans (Fr_up (by decide)) (Fr_up (by decide))) (Fr_up (by decide))) (Fr_up (by decide))) (Fr_up (by decide))) (Fr_up (by decide))) (Fr_cpy (by decide))
  · intro j hj
    rw [xcpy_t (by decide), xup_i hj, xup_i hj, xup_i hj, xup_i hj, xup_i hj, xup_i hj]
  · intro j hj
    rw [xcpy_i hj, xup_t (by decide), xup_t (by decide), xup_t (by decide), xup_t (by decide), xup_t (by decide), xup_t (by decide)]
  · intro k hk
    rw [xcpy_t (by decide)]
    have : k = 0 ∨ k = 1 ∨ k = 2 ∨ k = 3 ∨ k = 4 ∨ k = 5 := by omega
    rcases this with e | e | e | e | e | e <;> subst e
    · rw [xup_k (by decide), xup_k (by decide), xup_k (by decide), xup_k (by decide), xup_k (by decide), xup_s]
    · rw [xup_k (by decide), xup_k (by decide), xup_k (by decide), xup_k (by decide), xup_s]
    · rw [xup_k (by decide), xup_k (by decide), xup_k (by decide), xup_s]
    · rw [xup_k (by decide), xup_k (by decide), xup_s]
    · rw [xup_k (by decide), xup_s]
    · rw [xup_s]
  · intro k hk
    show xcpy _ 10 b 0 10 a 0 3 10 a k = _
    rw [xcpy_k hk, xup_t (by decide), xup_t (by decide), xup_t (by decide), xup_t (by decide), xup_t (by decide), xup_t (by decide)]
theorem cp_text {d a b : Nat} {σ : xM} {Q : Int → xM → Prop} (hab : b ≠ a) (hQ : ∀ s, Fr [13, 14] σ s → (∀ j, j ≠ a → s 13 j = σ 13 j) → (∀ j, j ≠ a → s 14 j = σ 14 j) → s 13 a 0 = σ 13 b 0 → (∀ k, k < 60 → s 14 a k = σ 14 b k) → Q 0 s) : Ev d 78 0 [vR 13 a, vR 13 b] [] σ Q := by
  rw [b_T_copyFrom_0]
  refine ⟨by decide, hQ _ (Fr_trans (Fr_cpy (by decide)) (Fr_up (by decide))) ?_ ?_ ?_ ?_⟩
  · intro j hj
    rw [xup_i hj, xcpy_t (by decide)]
  · intro j hj
    rw [xup_t (by decide), xcpy_i hj]
  · rw [xup_s, xcpy_t (by decide)]
  · intro k hk
    rw [xup_t (by decide)]
    show xcpy _ 14 b 0 14 a 0 60 14 a k = _
    rw [xcpy_k hk]
theorem xtx_cc {len : Int} {cs cs' P : Nat → Int} (e : ∀ k, k < 60 → cs' k = cs k) (h : xtx len cs P) : xtx len cs' P := by
  obtain ⟨h1, h2, h3, h4, h5⟩ := h
  refine ⟨h1, h2, h3, fun k hk => ?_, h5⟩
  rw [e k (by omega)]
  exact h4 k hk
theorem xcpl_cg4 {σ : xM} {s : Nat} {R R' : Nat → Int} (e : ∀ j, j < 410 → R' j = R j) (h : xcpl σ s R) : xcpl σ s R' := by
  obtain ⟨⟨a0, a1, a2, a3, a4, a5, a6⟩, hB, hC, hW, hT, hN, hX⟩ := h
  refine ⟨⟨?_, ?_, ?_, ?_, ?_, ?_, ?_⟩, ?_, ?_, ?_, ?_, ?_, ?_⟩
  · rw [e 2 (by decide)]; exact a0
  · rw [e 3 (by decide)]; exact a1
  · rw [e 0 (by decide)]; exact a2
  · rw [e 4 (by decide)]; exact a3
  · rw [e 1 (by decide)]; exact a4
  · rw [e 5 (by decide)]; exact a5
  · rw [e 6 (by decide)]; exact a6
  · intro p hp
    rw [e _ (by omega), e _ (by omega)]
    exact hB p hp
  · intro c hc k hk
    rw [e _ (by omega)]
    exact hC c hc k hk
  · intro c hc k hk
    rw [e _ (by omega)]
    exact hW c hc k hk
  · intro i hi
    rw [e _ (by omega)]
    exact hT i hi
  · intro i hi
    rw [e _ (by omega)]
    exact hN i hi
  · intro u hu
    exact xtx_cg (fun k hk => e _ (by omega)) (hX u hu)
theorem xvl_cg4 {R R' : Nat → Int} (e : ∀ j, j < 410 → R' j = R j) (h : xvl R) : xvl R' := by
  obtain ⟨v1, v2, v3, v4, v5, v6, v7, v8, v9⟩ := h
  refine ⟨by rw [e 2 (by decide)]; exact v1, by rw [e 3 (by decide)]; exact v2, by rw [e 0 (by decide)]; exact v3, by rw [e 4 (by decide)]; exact v4, by rw [e 5 (by decide)]; exact v5, by rw [e 6 (by decide)]; exact v6, ?_, ?_, ?_⟩
  · intro p hp
    rw [e 2 (by decide)] at hp
    rw [e _ (by omega), e _ (by omega)]
    exact v7 p hp
  · intro a ha
    rw [e 3 (by decide)] at ha
    rw [e 2 (by decide), e (21 + 9 * a + 0) (by omega), e (21 + 9 * a + 1) (by omega), e (21 + 9 * a + 2) (by omega), e (21 + 9 * a + 3) (by omega), e (21 + 9 * a + 4) (by omega), e (21 + 9 * a + 5) (by omega)]
    exact v8 a ha
  · intro a ha k hk
    rw [e 3 (by decide)] at ha
    rw [e 2 (by decide), e _ (by omega)]
    exact v9 a ha k hk
/-- a stage copied -/
def qCp (σ s : xM) : Prop := Fr [5, 7, 9, 10, 11, 13, 14, 16] σ s ∧ (∀ j, j ≠ 0 → s 5 j = σ 5 j ∧ s 11 j = σ 11 j ∧ s 16 j = σ 16 j) ∧ (∀ j, (∀ p, p < 7 → j ≠ p) → s 7 j = σ 7 j ∧ s 9 j = σ 9 j ∧ s 10 j = σ 10 j) ∧ (∀ j, (∀ u, u < 2 → j ≠ u) → s 13 j = σ 13 j ∧ s 14 j = σ 14 j) ∧
  (∀ k, k < 7 → s 5 0 k = σ 5 1 k) ∧ (∀ p, p < 7 → s 7 p 0 = σ 7 (7 + p) 0 ∧ s 7 p 1 = σ 7 (7 + p) 1) ∧ (∀ c, c < 7 → (∀ k, k < 6 → s 9 c k = σ 9 (7 + c) k) ∧ (∀ k, k < 3 → s 10 c k = σ 10 (7 + c) k)) ∧ (∀ u, u < 2 → s 13 u 0 = σ 13 (2 + u) 0 ∧ (∀ k, k < 60 → s 14 u k = σ 14 (2 + u) k)) ∧ (∀ k, k < 60 → s 11 0 k = σ 11 1 k) ∧ (∀ k, k < 24 → s 16 0 k = σ 16 1 k)
theorem cp_60 {d : Nat} {Q : Int → xM → Prop} {σ0 : xM} : ∀ f i : Nat, i + f = 2 → ∀ σ : xM, Fr [7, 9, 10, 13, 14] σ0 σ → (∀ j, (∀ p, p < 7 → j ≠ p) → σ 7 j = σ0 7 j ∧ σ 9 j = σ0 9 j ∧ σ 10 j = σ0 10 j) → (∀ j, (∀ u, u < 2 → j ≠ u) → σ 13 j = σ0 13 j ∧ σ 14 j = σ0 14 j) → (∀ p, p < 7 → σ 7 p 0 = σ0 7 (7 + p) 0 ∧ σ 7 p 1 = σ0 7 (7 + p) 1) → (∀ c, c < 7 → (∀ k, k < 6 → σ 9 c k = σ0 9 (7 + c) k) ∧ (∀ k, k < 3 → σ 10 c k = σ0 10 (7 + c) k)) → (∀ u, u < i → σ 13 u 0 = σ0 13 (2 + u) 0 ∧ (∀ k, k < 60 → σ 14 u k = σ0 14 (2 + u) k)) → (∀ s, qCp σ0 s → Q 0 s) → Ev (d + 1) 46 60 [vR 5 0, vR 5 1, vI (i : Int)] [] σ Q
  | 0, i, e, σ, hf, h7, h13, c7, c9, c13, hQ => by
    rw [b_S_copyFrom_60, if_neg (by omega)]
    simp only [xcpy_t (show (5 : Nat) ≠ 11 by decide), xcpy_t (show (5 : Nat) ≠ 16 by decide), xup_i (show (1 : Nat) ≠ 0 by decide), show Int.toNat 0 = 0 from rfl, show Int.toNat 60 = 60 from rfl, show Int.toNat 24 = 24 from rfl]
    refine ⟨by decide, by decide, hQ _ ⟨?_, ?_, ?_, ?_, ?_, ?_, ?_, ?_, ?_, ?_⟩⟩
    · exact Fr_trans (Fr_mono hf (by decide)) (Fr_trans (Fr_trans (Fr_trans (Fr_trans (Fr_trans (Fr_trans (Fr_trans (Fr_trans (Fr_up (by decide)) (Fr_up (by decide))) (Fr_up (by decide))) (Fr_up (by decide))) (Fr_up (by decide))) (Fr_cpy (by decide))) (Fr_up (by decide))) (Fr_cpy (by decide))) (Fr_up (by decide)))
    · intro j hj
      refine ⟨?_, ?_, ?_⟩
      · rw [xup_i hj, xcpy_t (by decide), xup_i hj, xcpy_t (by decide), xup_i hj, xup_i hj, xup_i hj, xup_i hj, xup_i hj, hf 5 (by decide)]
      · rw [xup_t (by decide), xcpy_t (by decide), xup_t (by decide), xcpy_i hj, xup_t (by decide), xup_t (by decide), xup_t (by decide), xup_t (by decide), xup_t (by decide), hf 11 (by decide)]
      · rw [xup_t (by decide), xcpy_i hj, xup_t (by decide), xcpy_t (by decide), xup_t (by decide), xup_t (by decide), xup_t (by decide), xup_t (by decide), xup_t (by decide), hf 16 (by decide)]
    · intro j hj
      refine ⟨?_, ?_, ?_⟩
      · rw [xup_t (by decide), xcpy_t (by decide), xup_t (by decide), xcpy_t (by decide), xup_t (by decide), xup_t (by decide), xup_t (by decide), xup_t (by decide), xup_t (by decide)]
        exact (h7 j hj).1
      · rw [xup_t (by decide), xcpy_t (by decide), xup_t (by decide), xcpy_t (by decide), xup_t (by decide), xup_t (by decide), xup_t (by decide), xup_t (by decide), xup_t (by decide)]
        exact (h7 j hj).2.1
      · rw [xup_t (by decide), xcpy_t (by decide), xup_t (by decide), xcpy_t (by decide), xup_t (by decide), xup_t (by decide), xup_t (by decide), xup_t (by decide), xup_t (by decide)]
        exact (h7 j hj).2.2
    · intro j hj
      refine ⟨?_, ?_⟩
      · rw [xup_t (by decide), xcpy_t (by decide), xup_t (by decide), xcpy_t (by decide), xup_t (by decide), xup_t (by decide), xup_t (by decide), xup_t (by decide), xup_t (by decide)]
        exact (h13 j hj).1
      · rw [xup_t (by decide), xcpy_t (by decide), xup_t (by decide), xcpy_t (by decide), xup_t (by decide), xup_t (by decide), xup_t (by decide), xup_t (by decide), xup_t (by decide)]
        exact (h13 j hj).2
    · intro k hk
      rw [← hf 5 (by decide)]
      have : k = 0 ∨ k = 1 ∨ k = 2 ∨ k = 3 ∨ k = 4 ∨ k = 5 ∨ k = 6 := by omega
      rcases this with e | e | e | e | e | e | e <;> subst e
      · rw [xup_k (by decide), xcpy_t (by decide), xup_k (by decide), xcpy_t (by decide), xup_k (by decide), xup_k (by decide), xup_k (by decide), xup_k (by decide), xup_s]
      · rw [xup_k (by decide), xcpy_t (by decide), xup_k (by decide), xcpy_t (by decide), xup_k (by decide), xup_k (by decide), xup_k (by decide), xup_s]
      · rw [xup_k (by decide), xcpy_t (by decide), xup_k (by decide), xcpy_t (by decide), xup_k (by decide), xup_k (by decide), xup_s]
      · rw [xup_k (by decide), xcpy_t (by decide), xup_k (by decide), xcpy_t (by decide), xup_k (by decide), xup_s]
      · rw [xup_k (by decide), xcpy_t (by decide), xup_k (by decide), xcpy_t (by decide), xup_s]
      · rw [xup_k (by decide), xcpy_t (by decide), xup_s]
      · rw [xup_s]
    · intro p hp
      rw [xup_t (by decide), xcpy_t (by decide), xup_t (by decide), xcpy_t (by decide), xup_t (by decide), xup_t (by decide), xup_t (by decide), xup_t (by decide), xup_t (by decide)]
      exact c7 p hp
    · intro c hc
      rw [xup_t (by decide), xcpy_t (by decide), xup_t (by decide), xcpy_t (by decide), xup_t (by decide), xup_t (by decide), xup_t (by decide), xup_t (by decide), xup_t (by decide), xup_t (by decide), xcpy_t (by decide), xup_t (by decide), xcpy_t (by decide), xup_t (by decide), xup_t (by decide), xup_t (by decide), xup_t (by decide), xup_t (by decide)]
      exact c9 c hc
    · intro u hu
      rw [xup_t (by decide), xcpy_t (by decide), xup_t (by decide), xcpy_t (by decide), xup_t (by decide), xup_t (by decide), xup_t (by decide), xup_t (by decide), xup_t (by decide), xup_t (by decide), xcpy_t (by decide), xup_t (by decide), xcpy_t (by decide), xup_t (by decide), xup_t (by decide), xup_t (by decide), xup_t (by decide), xup_t (by decide)]
      exact c13 u (by omega)
    · intro k hk
      rw [xup_t (by decide), xcpy_t (by decide), xup_t (by decide), xcpy_k hk, xup_t (by decide), xup_t (by decide), xup_t (by decide), xup_t (by decide), xup_t (by decide), hf 11 (by decide)]
    · intro k hk
      rw [xup_t (by decide), xcpy_k hk, xup_t (by decide), xcpy_t (by decide), xup_t (by decide), xup_t (by decide), xup_t (by decide), xup_t (by decide), xup_t (by decide), hf 16 (by decide)]
  | f + 1, i, e, σ, hf, h7, h13, c7, c9, c13, hQ => by
    rw [b_S_copyFrom_60, if_pos (by omega), xin (by omega) (by omega), xin (by omega) (by omega), Int.toNat_natCast, xs1 (by omega)]
    refine cp_text (by omega) (fun s f1 g13 g14 e13 e14 => ?_)
    refine cp_60 f (i + 1) (by omega) s (Fr_trans hf (Fr_mono f1 (by decide))) (fun j hj => by rw [f1 7 (by decide), f1 9 (by decide), f1 10 (by decide)]; exact h7 j hj) (fun j hj => ?_) (fun p hp => by rw [f1 7 (by decide)]; exact c7 p hp) (fun c hc => by rw [f1 9 (by decide), f1 10 (by decide)]; exact c9 c hc) (fun u hu => ?_) hQ
    · rw [g13 j (hj i (by omega)), g14 j (hj i (by omega))]
      exact h13 j hj
    · by_cases eu : u = i
      · subst eu
        refine ⟨?_, fun k hk => ?_⟩
        · rw [e13]
          exact congrFun (h13 _ (fun v hv => by omega)).1 0
        · rw [e14 k hk]
          exact congrFun (h13 _ (fun v hv => by omega)).2 k
      · rw [g13 _ (by omega), g14 _ (by omega)]
        exact c13 u (by omega)
theorem cp_31 {d : Nat} {Q : Int → xM → Prop} {σ0 : xM} : ∀ f i : Nat, i + f = 7 → ∀ σ : xM, Fr [7, 9, 10] σ0 σ → (∀ j, (∀ p, p < 7 → j ≠ p) → σ 7 j = σ0 7 j ∧ σ 9 j = σ0 9 j ∧ σ 10 j = σ0 10 j) → (∀ p, p < 7 → σ 7 p 0 = σ0 7 (7 + p) 0 ∧ σ 7 p 1 = σ0 7 (7 + p) 1) → (∀ c, c < i → (∀ k, k < 6 → σ 9 c k = σ0 9 (7 + c) k) ∧ (∀ k, k < 3 → σ 10 c k = σ0 10 (7 + c) k)) → (∀ s, qCp σ0 s → Q 0 s) → Ev (d + 1) 46 31 [vR 5 0, vR 5 1, vI (i : Int)] [] σ Q
  | 0, i, e, σ, hf, h7, c7, c9, hQ => by
    rw [b_S_copyFrom_31, if_neg (by omega)]
    exact cp_60 2 0 (by decide) σ (Fr_mono hf (by decide)) h7 (fun j _ => by rw [hf 13 (by decide), hf 14 (by decide)]; exact ⟨rfl, rfl⟩) c7 (fun c hc => c9 c (by omega)) (fun u hu => absurd hu (by omega)) hQ
  | f + 1, i, e, σ, hf, h7, c7, c9, hQ => by
    rw [b_S_copyFrom_31, if_pos (by omega), xin (by omega) (by omega), xin (by omega) (by omega), Int.toNat_natCast, xs1 (by omega)]
    refine cp_child (by omega) (fun s f1 g9 g10 e9 e10 => ?_)
    refine cp_31 f (i + 1) (by omega) s (Fr_trans hf (Fr_mono f1 (by decide))) (fun j hj => ?_) (fun p hp => by rw [f1 7 (by decide)]; exact c7 p hp) (fun c hc => ?_) hQ
    · rw [f1 7 (by decide), g9 j (hj i (by omega)), g10 j (hj i (by omega))]
      exact h7 j hj
    · by_cases eu : c = i
      · subst eu
        refine ⟨fun k hk => ?_, fun k hk => ?_⟩
        · rw [e9 k hk]
          exact congrFun (h7 _ (fun v hv => by omega)).2.1 k
        · rw [e10 k hk]
          exact congrFun (h7 _ (fun v hv => by omega)).2.2 k
      · rw [g9 _ (by omega), g10 _ (by omega)]
        exact c9 c (by omega)
theorem cp_2 {d : Nat} {Q : Int → xM → Prop} {σ0 : xM} : ∀ f i : Nat, i + f = 7 → ∀ σ : xM, Fr [7] σ0 σ → (∀ j, (∀ p, p < 7 → j ≠ p) → σ 7 j = σ0 7 j) → (∀ p, p < i → σ 7 p 0 = σ0 7 (7 + p) 0 ∧ σ 7 p 1 = σ0 7 (7 + p) 1) → (∀ s, qCp σ0 s → Q 0 s) → Ev (d + 1) 46 2 [vR 5 0, vR 5 1, vI (i : Int)] [] σ Q
  | 0, i, e, σ, hf, h7, c7, hQ => by
    rw [b_S_copyFrom_2, if_neg (by omega)]
    exact cp_31 7 0 (by decide) σ (Fr_mono hf (by decide)) (fun j hj => ⟨h7 j hj, by rw [hf 9 (by decide)], by rw [hf 10 (by decide)]⟩) (fun p hp => c7 p (by omega)) (fun u hu => absurd hu (by omega)) hQ
  | f + 1, i, e, σ, hf, h7, c7, hQ => by
    rw [b_S_copyFrom_2, if_pos (by omega), xin (by omega) (by omega), xin (by omega) (by omega), Int.toNat_natCast, xs1 (by omega)]
    refine cp_role (by omega) (fun s f1 g7 e0 e1 => ?_)
    refine cp_2 f (i + 1) (by omega) s (Fr_trans hf f1) (fun j hj => ?_) (fun p hp => ?_) hQ
    · rw [g7 j (hj i (by omega))]
      exact h7 j hj
    · by_cases eu : p = i
      · subst eu
        exact ⟨by rw [e0]; exact congrFun (h7 _ (fun v hv => by omega)) 0, by rw [e1]; exact congrFun (h7 _ (fun v hv => by omega)) 1⟩
      · rw [g7 _ (by omega)]
        exact c7 p (by omega)
theorem cp_all {d : Nat} {σ : xM} {Q : Int → xM → Prop} (hQ : ∀ s, qCp σ s → Q 0 s) : Ev (d + 1) 46 0 [vR 5 0, vR 5 1, vR 0 0] [] σ Q := by
  rw [b_S_copyFrom_0]
  exact cp_2 7 0 (by decide) σ Fr_refl (fun _ _ => rfl) (fun p hp => absurd hp (by omega)) hQ
theorem cp_cpl {σ s : xM} {R : Nat → Int} (h : qCp σ s) (k : xcpl σ 1 R) : xcpl s 0 R := by
  obtain ⟨-, -, -, -, c5, c7, c9, c13, c11, c16⟩ := h
  obtain ⟨⟨a0, a1, a2, a3, a4, a5, a6⟩, hB, hC, hW, hT, hN, hX⟩ := k
  refine ⟨⟨?_, ?_, ?_, ?_, ?_, ?_, ?_⟩, ?_, ?_, ?_, ?_, ?_, ?_⟩
  · rw [c5 0 (by decide)]; exact a0
  · rw [c5 1 (by decide)]; exact a1
  · rw [c5 2 (by decide)]; exact a2
  · rw [c5 3 (by decide)]; exact a3
  · rw [c5 4 (by decide)]; exact a4
  · rw [c5 5 (by decide)]; exact a5
  · rw [c5 6 (by decide)]; exact a6
  · intro p hp
    show s 7 p 0 = _ ∧ s 7 p 1 = _
    rw [(c7 p hp).1, (c7 p hp).2]
    exact hB p hp
  · intro c hc j hj
    show s 9 c j = _
    rw [(c9 c hc).1 j hj]
    exact hC c hc j hj
  · intro c hc j hj
    show s 10 c j = _
    rw [(c9 c hc).2 j hj]
    exact hW c hc j hj
  · intro i hi
    rw [c11 i hi]
    exact hT i hi
  · intro i hi
    rw [c16 i hi]
    exact hN i hi
  · intro u hu
    show xtx (s 13 u 0) (s 14 u) _
    rw [(c13 u hu).1]
    exact xtx_cc (fun k hk => (c13 u hu).2 k hk) (hX u hu)
/-- a stage copied -/
def qCpA (σ s : xM) : Prop := Fr [5, 7, 9, 10, 11, 13, 14, 16] σ s ∧ (∀ j, j ≠ 1 → s 5 j = σ 5 j ∧ s 11 j = σ 11 j ∧ s 16 j = σ 16 j) ∧ (∀ j, (∀ p, p < 7 → j ≠ (7 + p)) → s 7 j = σ 7 j ∧ s 9 j = σ 9 j ∧ s 10 j = σ 10 j) ∧ (∀ j, (∀ u, u < 2 → j ≠ (2 + u)) → s 13 j = σ 13 j ∧ s 14 j = σ 14 j) ∧
  (∀ k, k < 7 → s 5 1 k = σ 5 0 k) ∧ (∀ p, p < 7 → s 7 (7 + p) 0 = σ 7 p 0 ∧ s 7 (7 + p) 1 = σ 7 p 1) ∧ (∀ c, c < 7 → (∀ k, k < 6 → s 9 (7 + c) k = σ 9 c k) ∧ (∀ k, k < 3 → s 10 (7 + c) k = σ 10 c k)) ∧ (∀ u, u < 2 → s 13 (2 + u) 0 = σ 13 u 0 ∧ (∀ k, k < 60 → s 14 (2 + u) k = σ 14 u k)) ∧ (∀ k, k < 60 → s 11 1 k = σ 11 0 k) ∧ (∀ k, k < 24 → s 16 1 k = σ 16 0 k)
theorem cpA_60 {d : Nat} {Q : Int → xM → Prop} {σ0 : xM} : ∀ f i : Nat, i + f = 2 → ∀ σ : xM, Fr [7, 9, 10, 13, 14] σ0 σ → (∀ j, (∀ p, p < 7 → j ≠ (7 + p)) → σ 7 j = σ0 7 j ∧ σ 9 j = σ0 9 j ∧ σ 10 j = σ0 10 j) → (∀ j, (∀ u, u < 2 → j ≠ (2 + u)) → σ 13 j = σ0 13 j ∧ σ 14 j = σ0 14 j) → (∀ p, p < 7 → σ 7 (7 + p) 0 = σ0 7 p 0 ∧ σ 7 (7 + p) 1 = σ0 7 p 1) → (∀ c, c < 7 → (∀ k, k < 6 → σ 9 (7 + c) k = σ0 9 c k) ∧ (∀ k, k < 3 → σ 10 (7 + c) k = σ0 10 c k)) → (∀ u, u < i → σ 13 (2 + u) 0 = σ0 13 u 0 ∧ (∀ k, k < 60 → σ 14 (2 + u) k = σ0 14 u k)) → (∀ s, qCpA σ0 s → Q 0 s) → Ev (d + 1) 46 60 [vR 5 1, vR 5 0, vI (i : Int)] [] σ Q
  | 0, i, e, σ, hf, h7, h13, c7, c9, c13, hQ => by
    rw [b_S_copyFromA_60, if_neg (by omega)]
    simp only [xcpy_t (show (5 : Nat) ≠ 11 by decide), xcpy_t (show (5 : Nat) ≠ 16 by decide), xup_i (show (0 : Nat) ≠ 1 by decide), show Int.toNat 0 = 0 from rfl, show Int.toNat 60 = 60 from rfl, show Int.toNat 24 = 24 from rfl]
    refine ⟨by decide, by decide, hQ _ ⟨?_, ?_, ?_, ?_, ?_, ?_, ?_, ?_, ?_, ?_⟩⟩
    · exact Fr_trans (Fr_mono hf (by decide)) (Fr_trans (Fr_trans (Fr_trans (Fr_trans (Fr_trans (Fr_trans (Fr_trans (Fr_trans (Fr_up (by decide)) (Fr_up (by decide))) (Fr_up (by decide))) (Fr_up (by decide))) (Fr_up (by decide))) (Fr_cpy (by decide))) (Fr_up (by decide))) (Fr_cpy (by decide))) (Fr_up (by decide)))
    · intro j hj
      refine ⟨?_, ?_, ?_⟩
      · rw [xup_i hj, xcpy_t (by decide), xup_i hj, xcpy_t (by decide), xup_i hj, xup_i hj, xup_i hj, xup_i hj, xup_i hj, hf 5 (by decide)]
      · rw [xup_t (by decide), xcpy_t (by decide), xup_t (by decide), xcpy_i hj, xup_t (by decide), xup_t (by decide), xup_t (by decide), xup_t (by decide), xup_t (by decide), hf 11 (by decide)]
      · rw [xup_t (by decide), xcpy_i hj, xup_t (by decide), xcpy_t (by decide), xup_t (by decide), xup_t (by decide), xup_t (by decide), xup_t (by decide), xup_t (by decide), hf 16 (by decide)]
    · intro j hj
      refine ⟨?_, ?_, ?_⟩
      · rw [xup_t (by decide), xcpy_t (by decide), xup_t (by decide), xcpy_t (by decide), xup_t (by decide), xup_t (by decide), xup_t (by decide), xup_t (by decide), xup_t (by decide)]
        exact (h7 j hj).1
      · rw [xup_t (by decide), xcpy_t (by decide), xup_t (by decide), xcpy_t (by decide), xup_t (by decide), xup_t (by decide), xup_t (by decide), xup_t (by decide), xup_t (by decide)]
        exact (h7 j hj).2.1
      · rw [xup_t (by decide), xcpy_t (by decide), xup_t (by decide), xcpy_t (by decide), xup_t (by decide), xup_t (by decide), xup_t (by decide), xup_t (by decide), xup_t (by decide)]
        exact (h7 j hj).2.2
    · intro j hj
      refine ⟨?_, ?_⟩
      · rw [xup_t (by decide), xcpy_t (by decide), xup_t (by decide), xcpy_t (by decide), xup_t (by decide), xup_t (by decide), xup_t (by decide), xup_t (by decide), xup_t (by decide)]
        exact (h13 j hj).1
      · rw [xup_t (by decide), xcpy_t (by decide), xup_t (by decide), xcpy_t (by decide), xup_t (by decide), xup_t (by decide), xup_t (by decide), xup_t (by decide), xup_t (by decide)]
        exact (h13 j hj).2
    · intro k hk
      rw [← hf 5 (by decide)]
      have : k = 0 ∨ k = 1 ∨ k = 2 ∨ k = 3 ∨ k = 4 ∨ k = 5 ∨ k = 6 := by omega
      rcases this with e | e | e | e | e | e | e <;> subst e
      · rw [xup_k (by decide), xcpy_t (by decide), xup_k (by decide), xcpy_t (by decide), xup_k (by decide), xup_k (by decide), xup_k (by decide), xup_k (by decide), xup_s]
      · rw [xup_k (by decide), xcpy_t (by decide), xup_k (by decide), xcpy_t (by decide), xup_k (by decide), xup_k (by decide), xup_k (by decide), xup_s]
      · rw [xup_k (by decide), xcpy_t (by decide), xup_k (by decide), xcpy_t (by decide), xup_k (by decide), xup_k (by decide), xup_s]
      · rw [xup_k (by decide), xcpy_t (by decide), xup_k (by decide), xcpy_t (by decide), xup_k (by decide), xup_s]
      · rw [xup_k (by decide), xcpy_t (by decide), xup_k (by decide), xcpy_t (by decide), xup_s]
      · rw [xup_k (by decide), xcpy_t (by decide), xup_s]
      · rw [xup_s]
    · intro p hp
      rw [xup_t (by decide), xcpy_t (by decide), xup_t (by decide), xcpy_t (by decide), xup_t (by decide), xup_t (by decide), xup_t (by decide), xup_t (by decide), xup_t (by decide)]
      exact c7 p hp
    · intro c hc
      rw [xup_t (by decide), xcpy_t (by decide), xup_t (by decide), xcpy_t (by decide), xup_t (by decide), xup_t (by decide), xup_t (by decide), xup_t (by decide), xup_t (by decide), xup_t (by decide), xcpy_t (by decide), xup_t (by decide), xcpy_t (by decide), xup_t (by decide), xup_t (by decide), xup_t (by decide), xup_t (by decide), xup_t (by decide)]
      exact c9 c hc
    · intro u hu
      rw [xup_t (by decide), xcpy_t (by decide), xup_t (by decide), xcpy_t (by decide), xup_t (by decide), xup_t (by decide), xup_t (by decide), xup_t (by decide), xup_t (by decide), xup_t (by decide), xcpy_t (by decide), xup_t (by decide), xcpy_t (by decide), xup_t (by decide), xup_t (by decide), xup_t (by decide), xup_t (by decide), xup_t (by decide)]
      exact c13 u (by omega)
    · intro k hk
      rw [xup_t (by decide), xcpy_t (by decide), xup_t (by decide), xcpy_k hk, xup_t (by decide), xup_t (by decide), xup_t (by decide), xup_t (by decide), xup_t (by decide), hf 11 (by decide)]
    · intro k hk
      rw [xup_t (by decide), xcpy_k hk, xup_t (by decide), xcpy_t (by decide), xup_t (by decide), xup_t (by decide), xup_t (by decide), xup_t (by decide), xup_t (by decide), hf 16 (by decide)]
  | f + 1, i, e, σ, hf, h7, h13, c7, c9, c13, hQ => by
    rw [b_S_copyFromA_60, if_pos (by omega), xin (by omega) (by omega), xin (by omega) (by omega), Int.toNat_natCast, xs1 (by omega)]
    refine cp_text (by omega) (fun s f1 g13 g14 e13 e14 => ?_)
    refine cpA_60 f (i + 1) (by omega) s (Fr_trans hf (Fr_mono f1 (by decide))) (fun j hj => by rw [f1 7 (by decide), f1 9 (by decide), f1 10 (by decide)]; exact h7 j hj) (fun j hj => ?_) (fun p hp => by rw [f1 7 (by decide)]; exact c7 p hp) (fun c hc => by rw [f1 9 (by decide), f1 10 (by decide)]; exact c9 c hc) (fun u hu => ?_) hQ
    · rw [g13 j (hj i (by omega)), g14 j (hj i (by omega))]
      exact h13 j hj
    · by_cases eu : u = i
      · subst eu
        refine ⟨?_, fun k hk => ?_⟩
        · rw [e13]
          exact congrFun (h13 _ (fun v hv => by omega)).1 0
        · rw [e14 k hk]
          exact congrFun (h13 _ (fun v hv => by omega)).2 k
      · rw [g13 _ (by omega), g14 _ (by omega)]
        exact c13 u (by omega)
theorem cpA_31 {d : Nat} {Q : Int → xM → Prop} {σ0 : xM} : ∀ f i : Nat, i + f = 7 → ∀ σ : xM, Fr [7, 9, 10] σ0 σ → (∀ j, (∀ p, p < 7 → j ≠ (7 + p)) → σ 7 j = σ0 7 j ∧ σ 9 j = σ0 9 j ∧ σ 10 j = σ0 10 j) → (∀ p, p < 7 → σ 7 (7 + p) 0 = σ0 7 p 0 ∧ σ 7 (7 + p) 1 = σ0 7 p 1) → (∀ c, c < i → (∀ k, k < 6 → σ 9 (7 + c) k = σ0 9 c k) ∧ (∀ k, k < 3 → σ 10 (7 + c) k = σ0 10 c k)) → (∀ s, qCpA σ0 s → Q 0 s) → Ev (d + 1) 46 31 [vR 5 1, vR 5 0, vI (i : Int)] [] σ Q
  | 0, i, e, σ, hf, h7, c7, c9, hQ => by
    rw [b_S_copyFromA_31, if_neg (by omega)]
    exact cpA_60 2 0 (by decide) σ (Fr_mono hf (by decide)) h7 (fun j _ => by rw [hf 13 (by decide), hf 14 (by decide)]; exact ⟨rfl, rfl⟩) c7 (fun c hc => c9 c (by omega)) (fun u hu => absurd hu (by omega)) hQ
  | f + 1, i, e, σ, hf, h7, c7, c9, hQ => by
    rw [b_S_copyFromA_31, if_pos (by omega), xin (by omega) (by omega), xin (by omega) (by omega), Int.toNat_natCast, xs1 (by omega)]
    refine cp_child (by omega) (fun s f1 g9 g10 e9 e10 => ?_)
    refine cpA_31 f (i + 1) (by omega) s (Fr_trans hf (Fr_mono f1 (by decide))) (fun j hj => ?_) (fun p hp => by rw [f1 7 (by decide)]; exact c7 p hp) (fun c hc => ?_) hQ
    · rw [f1 7 (by decide), g9 j (hj i (by omega)), g10 j (hj i (by omega))]
      exact h7 j hj
    · by_cases eu : c = i
      · subst eu
        refine ⟨fun k hk => ?_, fun k hk => ?_⟩
        · rw [e9 k hk]
          exact congrFun (h7 _ (fun v hv => by omega)).2.1 k
        · rw [e10 k hk]
          exact congrFun (h7 _ (fun v hv => by omega)).2.2 k
      · rw [g9 _ (by omega), g10 _ (by omega)]
        exact c9 c (by omega)
theorem cpA_2 {d : Nat} {Q : Int → xM → Prop} {σ0 : xM} : ∀ f i : Nat, i + f = 7 → ∀ σ : xM, Fr [7] σ0 σ → (∀ j, (∀ p, p < 7 → j ≠ (7 + p)) → σ 7 j = σ0 7 j) → (∀ p, p < i → σ 7 (7 + p) 0 = σ0 7 p 0 ∧ σ 7 (7 + p) 1 = σ0 7 p 1) → (∀ s, qCpA σ0 s → Q 0 s) → Ev (d + 1) 46 2 [vR 5 1, vR 5 0, vI (i : Int)] [] σ Q
  | 0, i, e, σ, hf, h7, c7, hQ => by
    rw [b_S_copyFromA_2, if_neg (by omega)]
    exact cpA_31 7 0 (by decide) σ (Fr_mono hf (by decide)) (fun j hj => ⟨h7 j hj, by rw [hf 9 (by decide)], by rw [hf 10 (by decide)]⟩) (fun p hp => c7 p (by omega)) (fun u hu => absurd hu (by omega)) hQ
  | f + 1, i, e, σ, hf, h7, c7, hQ => by
    rw [b_S_copyFromA_2, if_pos (by omega), xin (by omega) (by omega), xin (by omega) (by omega), Int.toNat_natCast, xs1 (by omega)]
    refine cp_role (by omega) (fun s f1 g7 e0 e1 => ?_)
    refine cpA_2 f (i + 1) (by omega) s (Fr_trans hf f1) (fun j hj => ?_) (fun p hp => ?_) hQ
    · rw [g7 j (hj i (by omega))]
      exact h7 j hj
    · by_cases eu : p = i
      · subst eu
        exact ⟨by rw [e0]; exact congrFun (h7 _ (fun v hv => by omega)) 0, by rw [e1]; exact congrFun (h7 _ (fun v hv => by omega)) 1⟩
      · rw [g7 _ (by omega)]
        exact c7 p (by omega)
theorem cpA_all {d : Nat} {σ : xM} {Q : Int → xM → Prop} (hQ : ∀ s, qCpA σ s → Q 0 s) : Ev (d + 1) 46 0 [vR 5 1, vR 5 0, vR 0 0] [] σ Q := by
  rw [b_S_copyFromA_0]
  exact cpA_2 7 0 (by decide) σ Fr_refl (fun _ _ => rfl) (fun p hp => absurd hp (by omega)) hQ
theorem cpA_cpl {σ s : xM} {R : Nat → Int} (h : qCpA σ s) (k : xcpl σ 0 R) : xcpl s 1 R := by
  obtain ⟨-, -, -, -, c5, c7, c9, c13, c11, c16⟩ := h
  obtain ⟨⟨a0, a1, a2, a3, a4, a5, a6⟩, hB, hC, hW, hT, hN, hX⟩ := k
  refine ⟨⟨?_, ?_, ?_, ?_, ?_, ?_, ?_⟩, ?_, ?_, ?_, ?_, ?_, ?_⟩
  · rw [c5 0 (by decide)]; exact a0
  · rw [c5 1 (by decide)]; exact a1
  · rw [c5 2 (by decide)]; exact a2
  · rw [c5 3 (by decide)]; exact a3
  · rw [c5 4 (by decide)]; exact a4
  · rw [c5 5 (by decide)]; exact a5
  · rw [c5 6 (by decide)]; exact a6
  · intro p hp
    show s 7 (7 + p) 0 = _ ∧ s 7 (7 + p) 1 = _
    rw [(c7 p hp).1, (c7 p hp).2]
    exact hB p hp
  · intro c hc j hj
    show s 9 (7 + c) j = _
    rw [(c9 c hc).1 j hj]
    exact hC c hc j hj
  · intro c hc j hj
    show s 10 (7 + c) j = _
    rw [(c9 c hc).2 j hj]
    exact hW c hc j hj
  · intro i hi
    rw [c11 i hi]
    exact hT i hi
  · intro i hi
    rw [c16 i hi]
    exact hN i hi
  · intro u hu
    show xtx (s 13 (2 + u) 0) (s 14 (2 + u)) _
    rw [(c13 u hu).1]
    exact xtx_cc (fun k hk => (c13 u hu).2 k hk) (hX u hu)
theorem call_restore {d : Nat} {σ : xM} (h : Inv σ) : Ev (d + 9) m_P_restore 0 [vR 4 0] [] σ (fun r s => Ev (d + 9) m_M_restore 0 [vR 40 0] [] s (fun r' s' => r = r' ∧ Inv s')) := by
  have i4 := h.2.2.2.1
  rw [b_P_restore_0, i4.1]
  by_cases h0 : σ 40 0 0 = 0
  · rw [if_pos h0, e_fail2, b_M_restore_0, xup_t (t' := 40) (by decide), if_pos h0]
    exact fin2 h
  · rw [if_neg h0]
    obtain ⟨kv, kc⟩ := i4.2 h0
    refine cp_all (fun s hc => ?_)
    have f := hc.1
    rw [b_M_restore_0, f 40 (by decide), if_neg h0, b_M_copyAllA_0]
    refine m_copyA 410 0 (by decide) s (fun j hj => absurd hj (by omega)) (fun τ g1 g2 g3 => ?_)
    have e42 : s 42 = σ 42 := f 42 (by decide)
    have hk : xcpl s 0 (σ 42 0) := cp_cpl hc kc
    have eR : ∀ j, j < 410 → τ 41 0 j = σ 42 0 j := fun j hj => by rw [g2 j hj, e42]
    have n1 : N1 σ s := by
      obtain ⟨-, q5, q7, q13, -⟩ := hc
      refine ⟨Fr_mono f (by decide), fun t i hq => ?_⟩
      unfold st1 at hq
      rcases hq with ⟨e, hi⟩ | ⟨e, hi⟩ | ⟨e, hi⟩ | ⟨e, hi⟩ | ⟨e, hi⟩ | ⟨e, hi⟩ | ⟨e, hi⟩ | ⟨e, hi⟩ <;> subst e
      · exact (q5 i (by omega)).1
      · exact (q7 i (fun p hp => by omega)).1
      · exact (q7 i (fun p hp => by omega)).2.1
      · exact (q7 i (fun p hp => by omega)).2.2
      · exact (q5 i (by omega)).2.1
      · exact (q13 i (fun p hp => by omega)).1
      · exact (q13 i (fun p hp => by omega)).2
      · exact (q5 i (by omega)).2.2
    rw [xin (by decide) (by decide), show Int.toNat 0 = 0 from rfl, eR 0 (by decide)]
    refine ⟨?_, Inv_now h (N1_trans n1 (N1_Fr g1 rfl)) ⟨xvl_cg4 eR kv, ?_⟩⟩
    · exact hk.1.2.2.1
    · exact xcpl_cg4 eR (Kp_sc ⟨kv, hk⟩ g1 rfl).2
theorem call_image {d : Nat} {σ : xM} (h : Inv σ) : Ev (d + 9) m_P_image 0 [vR 4 0] [] σ (fun r s => Ev (d + 9) m_M_image 0 [vR 40 0] [] s (fun r' s' => r = r' ∧ Inv s')) := by
  obtain ⟨i1, i2, i3, i4, i5, i6⟩ := h
  rw [b_P_image_0]
  refine cpA_all (fun s hc => ?_)
  have f := hc.1
  have hk1 : xcpl s 1 (σ 41 0) := cpA_cpl hc i2
  have hk0 : xcpl s 0 (σ 41 0) := by
    obtain ⟨-, q5, q7, q13, -⟩ := hc
    refine ⟨cA_p i2.1 (q5 0 (by decide)).1 (fun _ _ => rfl), cB_p i2.2.1 (fun i hi => (q7 i (fun p hp => by omega)).1) (fun _ _ _ => rfl), cC_p i2.2.2.1 (fun i hi => (q7 i (fun p hp => by omega)).2.1) (fun _ _ _ => rfl), cW_p i2.2.2.2.1 (fun i hi => (q7 i (fun p hp => by omega)).2.2) (fun _ _ _ => rfl), cT_p i2.2.2.2.2.1 (q5 0 (by decide)).2.1 (fun _ _ _ => rfl), cN_p i2.2.2.2.2.2.1 (q5 0 (by decide)).2.2 (fun _ _ _ => rfl), cX_p i2.2.2.2.2.2.2 (fun u hu => q13 u (fun p hp => by omega)) (fun _ _ => rfl)⟩
  rw [b_M_image_0, b_M_copyAll_0]
  refine m_copy 410 0 (by decide) _ (fun j hj => absurd hj (by omega)) (fun τ g1 g2 g3 => ?_)
  have e4 : s 4 = σ 4 := f 4 (by decide)
  have e40 : τ 40 = σ 40 := by rw [g1 40 (by decide), xup_t (by decide), f 40 (by decide)]
  have t4 : τ 4 = xup s 4 0 0 (xwr (s 4 0 0 + 1)) 4 := g1 4 (by decide)
  have eR : ∀ j, j < 410 → τ 42 0 j = σ 41 0 j := fun j hj => by rw [g2 j hj, xup_t (by decide), f 41 (by decide)]
  have ee : ∀ t, t ≠ 4 → t ≠ 40 → t ≠ 42 → xup τ 40 0 0 (xwr (τ 40 0 0 + 1)) t = s t := fun t h1 h2 h3 => by
    rw [xup_t h2, g1 t (fun q => h3 (List.mem_singleton.mp q)), xup_t h1]
  have e41 : xup τ 40 0 0 (xwr (τ 40 0 0 + 1)) 41 = σ 41 := by rw [ee 41 (by decide) (by decide) (by decide), f 41 (by decide)]
  have x4 : ∀ i R, xcpl s i R → xcpl (xup τ 40 0 0 (xwr (τ 40 0 0 + 1))) i R := fun i R k => xcpl_cg k (ee 5 (by decide) (by decide) (by decide)) (ee 7 (by decide) (by decide) (by decide)) (ee 9 (by decide) (by decide) (by decide)) (ee 10 (by decide) (by decide) (by decide)) (ee 11 (by decide) (by decide) (by decide)) (ee 13 (by decide) (by decide) (by decide)) (ee 14 (by decide) (by decide) (by decide)) (ee 16 (by decide) (by decide) (by decide))
  refine ⟨?_, ?_, ?_, ?_, ?_, ?_, ?_⟩
  · rw [xup_s, xup_s, e4, e40, i4.1]
  · rw [e41]; exact i1
  · rw [e41]; exact x4 0 _ hk0
  · unfold xiE at i3 ⊢
    rw [ee 39 (by decide) (by decide) (by decide), ee 44 (by decide) (by decide) (by decide), f 39 (by decide), f 44 (by decide)]
    exact i3
  · refine ⟨?_, fun _ => ⟨?_, ?_⟩⟩
    · rw [xup_t (by decide), t4, xup_s, xup_s, e4, e40, i4.1]
    · rw [xup_t (by decide)]
      exact xvl_cg4 eR i1
    · rw [xup_t (t := 40) (t' := 42) (by decide)]
      exact x4 1 _ (xcpl_cg4 eR hk1)
  · unfold xiS at i5 ⊢
    rw [ee 36 (by decide) (by decide) (by decide), ee 37 (by decide) (by decide) (by decide), ee 45 (by decide) (by decide) (by decide), ee 46 (by decide) (by decide) (by decide), ee 47 (by decide) (by decide) (by decide), f 36 (by decide), f 37 (by decide), f 45 (by decide), f 46 (by decide), f 47 (by decide)]
    exact i5
  · unfold xiV at i6 ⊢
    rw [ee 33 (by decide) (by decide) (by decide), ee 34 (by decide) (by decide) (by decide), ee 56 (by decide) (by decide) (by decide), xup_k (by decide), e40, f 33 (by decide), f 34 (by decide), f 56 (by decide)]
    exact i6
