/-! CONSTRUCTORS: the two contracts, the world at the end -/
def xgmid : Bool := match xgP with
  | some g => xgcan 40 g && Nat.beq (g.1 40) 0
  | none => false
theorem xgmid_ok : xgmid = true := by decide +kernel
theorem xgP_ex : ∃ gP gM, xgP = some gP ∧ xgM gP = some gM ∧ xgcan 40 gP = true ∧ gP.1 40 = 0 ∧ xgcnt gM = true ∧ xgrho gM = true ∧ gM.2.2.1 = [(41, 0, 1, 1), (17, 0, 3, 1), (5, 1, 4, 1), (5, 0, 4, 1)] := by
  have h1 := xgmid_ok
  have h2 := xgok_ok
  unfold xgmid at h1
  unfold xgok xgAll at h2
  cases hP : xgP with
  | none => rw [hP] at h1; cases h1
  | some gP =>
    rw [hP] at h1 h2
    dsimp only at h1 h2
    cases hM : xgM gP with
    | none => rw [hM] at h2; cases h2
    | some gM =>
      rw [hM] at h2
      simp only [Bool.and_eq_true, decide_eq_true_eq] at h1 h2
      exact ⟨gP, gM, rfl, hM, h1.1, Nat.eq_of_beq_eq_true h1.2, h2.1.1, h2.1.2, h2.2⟩
theorem xrvG_0 : xrvG (xgnew 4 xg0).1 (xgnew 4 xg0).2.1 := by
  intro a b k
  left
  show (xr0 (fun _ _ _ => (0, 0)) 4 0 a b k).1 = 0
  unfold xr0
  split <;> rfl
theorem xconP (l : Launch) {gP : xGt} (h : xgP = some gP) : xCon l 700 m_P_init [vR 4 0] (xgnew 4 xg0) gP :=
  xcon_of (by decide) (by decide +kernel) xrvG_0 (fun p e R s m args below meth c A ad ca D F h1 h2 h3 h4 => xGsim l 700 m_P_init 0 _ [] _ gP h p e R s m args below meth c A ad ca D _ ad 0 0 _ _ F h1 h2 (Nat.zero_add _) (Nat.zero_add _) (by omega) (by omega) xExt.refl xrvG_0)
theorem xconM (l : Launch) {gP gM : xGt} (h : xgM gP = some gM) (hG : xrvG gP.1 gP.2.1) : xCon l 200 m_M_init [vR 40 0] (xgnew 40 gP) gM :=
  have hG' : xrvG (xgnew 40 gP).1 (xgnew 40 gP).2.1 := xrvG_new (by decide) hG
  xcon_of (by decide) (by decide +kernel) hG' (fun p e R s m args below meth c A ad ca D F h1 h2 h3 h4 => xGsim l 200 m_M_init 0 _ [] _ gM h p e R s m args below meth c A ad ca D _ ad 0 0 _ _ F h1 h2 (Nat.zero_add _) (Nat.zero_add _) (by omega) (by omega) xExt.refl hG')
def xsig0 : xM := xsl [(41, 0, 1, 1), (17, 0, 3, 1), (5, 1, 4, 1), (5, 0, 4, 1)]
section XL
variable {D : va_G} {ad : Nat → Nat → Nat} {ca : Nat → Nat → ClassId} {cnt cnt' : Nat → Nat} {ρ ρ' : xP} {σ : xM} {A : Nat → Prop} {U : State} {H : Heap}
theorem xE_at {t i : Nat} (hr : ∀ k, k < xsz t → xrfp t k = true → ρ t i k = ρ' t i k) (h : va_at D xcl (ad t i, xE ad ca ρ σ t i) H) : va_at D xcl (ad t i, xE ad ca ρ' σ t i) H := by
  by_cases h4 : xkind t = 4
  · have hr : ∀ k, k < xsz t → ρ t i k = ρ' t i k := fun k hk => hr k hk (by unfold xrfp; rw [h4]; rfl)
    rw [xE_q h4] at h ⊢
    have h : H[ad t i]? = some (vp_cell _ _) := h
    show H[ad t i]? = some (vp_cell _ _)
    rw [vp_cell_q] at h ⊢
    rw [h]
    congr 1
    unfold arrV
    congr 2
    funext j
    show va_rf (cond (Nat.beq (ρ t i j.val).1 0) none (some (ad (ρ t i j.val).1 (ρ t i j.val).2))) = va_rf (cond (Nat.beq (ρ' t i j.val).1 0) none (some (ad (ρ' t i j.val).1 (ρ' t i j.val).2)))
    rw [hr j.val j.2]
  · have e : xE ad ca ρ' σ t i = xE ad ca ρ σ t i := by
      by_cases h1 : xkind t = 1
      · unfold xE
        rw [h1]
        show Sum.inr (xci t, _) = Sum.inr (xci t, _)
        congr 2
        apply List.map_congr_left
        intro k hk
        have hk := List.mem_range.mp hk
        unfold xfv
        split
        · rename_i e1
          rw [hr k hk (by unfold xrfp; rw [h1, e1]; rfl)]
        · rfl
        · rfl
      · rw [xE_i h1 h4, xE_i h1 h4]
    rw [e]
    exact h
theorem xWd.congr (h : xWd D ad ca cnt ρ σ A U H) (hc : ∀ t, 4 ≤ t → t < 57 → cnt t = cnt' t) (hr : ∀ t i k, 4 ≤ t → t < 57 → i < cnt' t → k < xsz t → xrfp t k = true → ρ t i k = ρ' t i k) (hv : xrv cnt' ρ') : xWd D ad ca cnt' ρ' σ A U H := by
  have hvd : ∀ t i, xvd cnt' t i → xvd cnt t i := fun t i h => ⟨h.1, h.2.1, by rw [hc t h.1 h.2.1]; exact h.2.2⟩
  exact ⟨fun t i hv' => xE_at (fun k hk hf => hr t i k hv'.1 hv'.2.1 hv'.2.2 hk hf) (h.1 t i (hvd t i hv')), fun t i t' i' h1 h2 e => h.2.1 t i t' i' (hvd _ _ h1) (hvd _ _ h2) e, fun t i h1 => h.2.2.1 t i (hvd _ _ h1), h.2.2.2.1, hv, fun t i h1 hk => h.2.2.2.2.2 t i (hvd _ _ h1) hk⟩
end XL
theorem xWd_fin {D : va_G} {ad : Nat → Nat → Nat} {ca : Nat → Nat → ClassId} {A : Nat → Prop} {U : State} {H : Heap} {g : xGt} (h : xWd D ad ca g.1 g.2.1 (xsl g.2.2.1) A U H) (hc : xgcnt g = true) (hr : xgrho g = true) (hl : g.2.2.1 = [(41, 0, 1, 1), (17, 0, 3, 1), (5, 1, 4, 1), (5, 0, 4, 1)]) : xWd D ad ca xcnt xrho xsig0 A U H := by
  rw [hl] at h
  refine xWd.congr (σ := xsig0) h (fun t h4 h57 => ?_) (fun t i k h4 h57 hi hk hf => ?_) xrho_rv
  · have h1 := List.all_eq_true.mp hc t (List.mem_range.mpr h57)
    rcases Bool.or_eq_true _ _ ▸ h1 with h2 | h2
    · have : t + 1 ≤ 4 := Nat.le_of_ble_eq_true h2
      omega
    · exact Nat.eq_of_beq_eq_true h2
  · have h1 := List.all_eq_true.mp hr t (List.mem_range.mpr h57)
    rcases Bool.or_eq_true _ _ ▸ h1 with h2 | h2
    · have : t + 1 ≤ 4 := Nat.le_of_ble_eq_true h2
      omega
    · have h3 := List.all_eq_true.mp (List.all_eq_true.mp h2 i (List.mem_range.mpr hi)) k (List.mem_range.mpr hk)
      rw [hf] at h3
      have h3 : xpeq (g.2.1 t i k) (xrho t i k) = true := h3
      have h3 := Bool.and_eq_true _ _ ▸ h3
      exact Prod.ext (Nat.eq_of_beq_eq_true h3.1) (Nat.eq_of_beq_eq_true h3.2)
theorem s0z {a : Nat} (b k : Nat) (h1 : a ≠ 41) (h2 : a ≠ 17) (h3 : a ≠ 5) : xsig0 a b k = 0 := by
  simp [xsig0, xsl, xup, h1, h2, h3]
theorem s041 {k : Nat} (h : k ≠ 1) : xsig0 41 0 k = 0 := by
  simp [xsig0, xsl, xup, h]
theorem s05 {b k : Nat} (h : k ≠ 4) : xsig0 5 b k = 0 := by
  simp [xsig0, xsl, xup, h]
theorem Inv_0 : Inv xsig0 := by
  refine ⟨?_, ⟨?_, ?_, ?_, ?_, ?_, ?_, ?_⟩, ?_, ?_, ?_, ?_⟩
  · unfold xvl
    rw [s041 (k := 2) (by decide), s041 (k := 3) (by decide), s041 (k := 0) (by decide), s041 (k := 4) (by decide), s041 (k := 5) (by decide), s041 (k := 6) (by decide)]
    refine ⟨by omega, by omega, by omega, by omega, by omega, by omega, fun p h => by omega, fun c h => by omega, fun c h => by omega⟩
  · refine ⟨?_, ?_, ?_, ?_, rfl, ?_, ?_⟩ <;> rw [s05 (by decide), s041 (by decide)]
  · intro p hp
    rw [s0z (a := 7) _ _ (by decide) (by decide) (by decide), s0z (a := 7) _ _ (by decide) (by decide) (by decide), s041 (by omega), s041 (by omega)]
    exact ⟨rfl, rfl⟩
  · intro c hc k hk
    rw [s0z (a := 9) _ _ (by decide) (by decide) (by decide), s041 (by omega)]
  · intro c hc k hk
    rw [s0z (a := 10) _ _ (by decide) (by decide) (by decide), s041 (by omega)]
  · intro i hi
    rw [s0z (a := 11) _ _ (by decide) (by decide) (by decide), s041 (by omega)]
    exact ⟨rfl, by decide, by decide⟩
  · intro i hi
    rw [s0z (a := 16) _ _ (by decide) (by decide) (by decide), s041 (by omega)]
  · intro u hu
    refine ⟨?_, ?_, ?_, fun k hk => ?_, fun hk => ?_⟩
    · show xsig0 41 0 (168 + 121 * u + 0) = _
      rw [s0z (a := 13) _ _ (by decide) (by decide) (by decide), s041 (by omega)]
    · rw [s0z (a := 13) _ _ (by decide) (by decide) (by decide)]; omega
    · rw [s0z (a := 13) _ _ (by decide) (by decide) (by decide)]; omega
    · rw [s0z (a := 13) _ _ (by decide) (by decide) (by decide)] at hk; omega
    · rw [s0z (a := 13) _ _ (by decide) (by decide) (by decide)] at hk; omega
  · intro k h1 h7
    rw [s0z (a := 39) _ _ (by decide) (by decide) (by decide), s0z (a := 44) _ _ (by decide) (by decide) (by decide)]
  · refine ⟨?_, fun h => absurd (s0z (a := 40) _ _ (by decide) (by decide) (by decide)) h⟩
    rw [s0z (a := 4) _ _ (by decide) (by decide) (by decide), s0z (a := 40) _ _ (by decide) (by decide) (by decide)]
  · intro s hs
    refine ⟨?_, ?_, ?_, ?_, fun _ => ?_, fun i hi => ?_⟩
    · rw [s0z (a := 36) _ _ (by decide) (by decide) (by decide), s0z (a := 45) _ _ (by decide) (by decide) (by decide)]
    · rw [s0z (a := 36) _ _ (by decide) (by decide) (by decide), s0z (a := 46) _ _ (by decide) (by decide) (by decide)]
    · rw [s0z (a := 45) _ _ (by decide) (by decide) (by decide)]; omega
    · rw [s0z (a := 46) _ _ (by decide) (by decide) (by decide)]; omega
    · rw [s0z (a := 46) _ _ (by decide) (by decide) (by decide)]
    · rw [s0z (a := 37) _ _ (by decide) (by decide) (by decide), s0z (a := 47) _ _ (by decide) (by decide) (by decide)]
  · refine ⟨?_, ?_, fun i hi => ?_⟩
    · rw [s0z (a := 33) _ _ (by decide) (by decide) (by decide), s0z (a := 40) _ _ (by decide) (by decide) (by decide)]
    · rw [s0z (a := 40) _ _ (by decide) (by decide) (by decide)]; omega
    · rw [s0z (a := 34) _ _ (by decide) (by decide) (by decide), s0z (a := 56) _ _ (by decide) (by decide) (by decide)]
