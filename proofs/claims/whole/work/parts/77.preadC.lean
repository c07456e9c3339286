/-! the class's reader -/
set_option maxRecDepth 100000 in
theorem bz_G_length_0_2 {d : Nat} {σ : xM} {Q : Int → xM → Prop} : Ev (d + 1) 221 0 [vR 1 2] [] σ Q = (Ev d 224 0 [vR 1 2] [] σ (fun v1 s1 => Q (xshr (xblen 2) v1) s1)) := EvN_eq [] 8 _ _ _ _ _ _ _
set_option maxRecDepth 100000 in
theorem bz_G_indexOf_0_2 {d : Nat} {σ : xM} {Q : Int → xM → Prop} {x1 : Int} : Ev (d + 1) 222 0 [vR 1 2, vI x1] [] σ Q = (Ev d 223 0 [vR 1 2, vI x1, vI 0] [] σ (fun v1 s1 => Q v1 s1)) := EvN_eq [] 6 _ _ _ _ _ _ _
set_option maxRecDepth 100000 in
theorem bz_G_indexOf2_0_2 {d : Nat} {σ : xM} {Q : Int → xM → Prop} {x1 : Int} {x2 : Int} : Ev (d + 1) 223 0 [vR 1 2, vI x1, vI x2] [] σ Q = (Ev d 225 0 [vR 1 2] [] σ (fun v1 s1 => if v1 = (0 : Int) then Ev d 221 0 [vR 1 2] [] s1 (fun v2 s2 => False) else Ev d 221 0 [vR 1 2] [] s1 (fun v3 s3 => Ev d 227 0 [vR 2 2, vI x1, vI x2, vI v3] [] s3 (fun v4 s4 => Q v4 s4)))) := EvN_eq [] 13 _ _ _ _ _ _ _
set_option maxRecDepth 100000 in
theorem bz_G_coder_0_2 {d : Nat} {σ : xM} {Q : Int → xM → Prop} : Ev d 224 0 [vR 1 2] [] σ Q = (if (1 : Int) = (0 : Int) then ((-128 : Int) ≤ 1 ∧ (1 : Int) ≤ 127) ∧ Q 1 σ else ((-128 : Int) ≤ 0 ∧ (0 : Int) ≤ 127) ∧ Q 0 σ) := EvN_eq [] 7 _ _ _ _ _ _ _
set_option maxRecDepth 100000 in
theorem bz_G_isLatin1_0_2 {d : Nat} {σ : xM} {Q : Int → xM → Prop} : Ev d 225 0 [vR 1 2] [] σ Q = (if (1 : Int) = (0 : Int) then ((0 : Int) = 0 ∨ (0 : Int) = 1) ∧ Q 0 σ else if (0 : Int) = (0 : Int) then ((1 : Int) = 0 ∨ (1 : Int) = 1) ∧ Q 1 σ else ((0 : Int) = 0 ∨ (0 : Int) = 1) ∧ Q 0 σ) := EvN_eq [] 9 _ _ _ _ _ _ _
set_option maxRecDepth 100000 in
theorem bz_N_indexOf_0_2 {d : Nat} {σ : xM} {Q : Int → xM → Prop} {x1 : Int} {x2 : Int} {x3 : Int} : Ev (d + 1) 227 0 [vR 2 2, vI x1, vI x2, vI x3] [] σ Q = (Ev d 226 0 [vI x1] [] σ (fun v1 s1 => if v1 = (0 : Int) then Q (-1) s1 else if (if x2 < 0 then 0 else x2) < (if (xblen 2) < x3 then xblen 2 else x3) then Ev d 228 0 [vR 2 2, vI x1, vI (if x2 < 0 then 0 else x2), vI (if (xblen 2) < x3 then xblen 2 else x3), vR 0 0, vR 0 0] [] s1 (fun v2 s2 => Q v2 s2) else Q (-1) s1)) := EvN_eq [] 22 _ _ _ _ _ _ _
set_option maxRecDepth 100000 in
theorem bz_N_indexOfChar_0_2 {d : Nat} {σ : xM} {Q : Int → xM → Prop} {x1 : Int} {x2 : Int} {x3 : Int} : Ev d 228 0 [vR 2 2, vI x1, vI x2, vI x3, vR 0 0, vR 0 0] [] σ Q = (Ev d 228 7 [vR 2 2, vI x1, vI x2, vI x3, vI (xi2b x1), vI x2] [] σ Q) := EvN_eq [7] 7 _ _ _ _ _ _ _
set_option maxRecDepth 100000 in
theorem bz_N_indexOfChar_7_2 {d : Nat} {σ : xM} {Q : Int → xM → Prop} {x1 : Int} {x2 : Int} {x3 : Int} {x4 : Int} {x5 : Int} : Ev d 228 7 [vR 2 2, vI x1, vI x2, vI x3, vI x4, vI x5] [] σ Q = (if x5 < x3 then ((0 : Int) ≤ x5 ∧ x5 < xblen 2) ∧ (if (xbyt 2 x5.toNat) = x4 then Q x5 σ else Ev d 228 7 [vR 2 2, vI x1, vI x2, vI x3, vI x4, vI (xwr (x5 + 1))] [] σ Q) else Q (-1) σ) := EvN_eq [7] 12 _ _ _ _ _ _ _
set_option maxRecDepth 100000 in
theorem bz_G_length_0_3 {d : Nat} {σ : xM} {Q : Int → xM → Prop} : Ev (d + 1) 221 0 [vR 1 3] [] σ Q = (Ev d 224 0 [vR 1 3] [] σ (fun v1 s1 => Q (xshr (xblen 3) v1) s1)) := EvN_eq [] 8 _ _ _ _ _ _ _
set_option maxRecDepth 100000 in
theorem bz_G_indexOf_0_3 {d : Nat} {σ : xM} {Q : Int → xM → Prop} {x1 : Int} : Ev (d + 1) 222 0 [vR 1 3, vI x1] [] σ Q = (Ev d 223 0 [vR 1 3, vI x1, vI 0] [] σ (fun v1 s1 => Q v1 s1)) := EvN_eq [] 6 _ _ _ _ _ _ _
set_option maxRecDepth 100000 in
theorem bz_G_indexOf2_0_3 {d : Nat} {σ : xM} {Q : Int → xM → Prop} {x1 : Int} {x2 : Int} : Ev (d + 1) 223 0 [vR 1 3, vI x1, vI x2] [] σ Q = (Ev d 225 0 [vR 1 3] [] σ (fun v1 s1 => if v1 = (0 : Int) then Ev d 221 0 [vR 1 3] [] s1 (fun v2 s2 => False) else Ev d 221 0 [vR 1 3] [] s1 (fun v3 s3 => Ev d 227 0 [vR 2 3, vI x1, vI x2, vI v3] [] s3 (fun v4 s4 => Q v4 s4)))) := EvN_eq [] 13 _ _ _ _ _ _ _
set_option maxRecDepth 100000 in
theorem bz_G_coder_0_3 {d : Nat} {σ : xM} {Q : Int → xM → Prop} : Ev d 224 0 [vR 1 3] [] σ Q = (if (1 : Int) = (0 : Int) then ((-128 : Int) ≤ 1 ∧ (1 : Int) ≤ 127) ∧ Q 1 σ else ((-128 : Int) ≤ 0 ∧ (0 : Int) ≤ 127) ∧ Q 0 σ) := EvN_eq [] 7 _ _ _ _ _ _ _
set_option maxRecDepth 100000 in
theorem bz_G_isLatin1_0_3 {d : Nat} {σ : xM} {Q : Int → xM → Prop} : Ev d 225 0 [vR 1 3] [] σ Q = (if (1 : Int) = (0 : Int) then ((0 : Int) = 0 ∨ (0 : Int) = 1) ∧ Q 0 σ else if (0 : Int) = (0 : Int) then ((1 : Int) = 0 ∨ (1 : Int) = 1) ∧ Q 1 σ else ((0 : Int) = 0 ∨ (0 : Int) = 1) ∧ Q 0 σ) := EvN_eq [] 9 _ _ _ _ _ _ _
set_option maxRecDepth 100000 in
theorem bz_N_indexOf_0_3 {d : Nat} {σ : xM} {Q : Int → xM → Prop} {x1 : Int} {x2 : Int} {x3 : Int} : Ev (d + 1) 227 0 [vR 2 3, vI x1, vI x2, vI x3] [] σ Q = (Ev d 226 0 [vI x1] [] σ (fun v1 s1 => if v1 = (0 : Int) then Q (-1) s1 else if (if x2 < 0 then 0 else x2) < (if (xblen 3) < x3 then xblen 3 else x3) then Ev d 228 0 [vR 2 3, vI x1, vI (if x2 < 0 then 0 else x2), vI (if (xblen 3) < x3 then xblen 3 else x3), vR 0 0, vR 0 0] [] s1 (fun v2 s2 => Q v2 s2) else Q (-1) s1)) := EvN_eq [] 22 _ _ _ _ _ _ _
set_option maxRecDepth 100000 in
theorem bz_N_indexOfChar_0_3 {d : Nat} {σ : xM} {Q : Int → xM → Prop} {x1 : Int} {x2 : Int} {x3 : Int} : Ev d 228 0 [vR 2 3, vI x1, vI x2, vI x3, vR 0 0, vR 0 0] [] σ Q = (Ev d 228 7 [vR 2 3, vI x1, vI x2, vI x3, vI (xi2b x1), vI x2] [] σ Q) := EvN_eq [7] 7 _ _ _ _ _ _ _
set_option maxRecDepth 100000 in
theorem bz_N_indexOfChar_7_3 {d : Nat} {σ : xM} {Q : Int → xM → Prop} {x1 : Int} {x2 : Int} {x3 : Int} {x4 : Int} {x5 : Int} : Ev d 228 7 [vR 2 3, vI x1, vI x2, vI x3, vI x4, vI x5] [] σ Q = (if x5 < x3 then ((0 : Int) ≤ x5 ∧ x5 < xblen 3) ∧ (if (xbyt 3 x5.toNat) = x4 then Q x5 σ else Ev d 228 7 [vR 2 3, vI x1, vI x2, vI x3, vI x4, vI (xwr (x5 + 1))] [] σ Q) else Q (-1) σ) := EvN_eq [7] 12 _ _ _ _ _ _ _
theorem xbyt_c : ∀ c : Nat, c < 256 → xi2c (c : Int) = (c : Int) ∧ xi2b (c : Int) = (if (c : Int) < 128 then (c : Int) else (c : Int) - 256) := by decide +kernel
theorem c_ixc2 {d : Nat} {σ : xM} {Q : Int → xM → Prop} {c b : Int} : Ev d 228 7 [vR 2 2, vI c, vI 0, vI 3, vI b, vI 0] [] σ Q = (if 119 = b then Q 0 σ else if 108 = b then Q 1 σ else if 118 = b then Q 2 σ else Q (-1) σ) := by
  have b0 : xbyt 2 (Int.toNat 0) = 119 := by decide
  have b1 : xbyt 2 (Int.toNat 1) = 108 := by decide
  have b2 : xbyt 2 (Int.toNat 2) = 118 := by decide
  have bl : xblen 2 = 3 := by decide
  have l3 : Ev d 228 7 [vR 2 2, vI c, vI 0, vI 3, vI b, vI 3] [] σ Q = Q (-1) σ := by rw [bz_N_indexOfChar_7_2, if_neg (by decide)]
  have l2 : Ev d 228 7 [vR 2 2, vI c, vI 0, vI 3, vI b, vI 2] [] σ Q = (if 118 = b then Q 2 σ else Q (-1) σ) := by
    rw [bz_N_indexOfChar_7_2, if_pos (by decide), bl, xin (by decide) (by decide), b2, show xwr (2 + 1) = 3 from by decide, l3]
  have l1 : Ev d 228 7 [vR 2 2, vI c, vI 0, vI 3, vI b, vI 1] [] σ Q = (if 108 = b then Q 1 σ else if 118 = b then Q 2 σ else Q (-1) σ) := by
    rw [bz_N_indexOfChar_7_2, if_pos (by decide), bl, xin (by decide) (by decide), b1, show xwr (1 + 1) = 2 from by decide, l2]
  rw [bz_N_indexOfChar_7_2, if_pos (by decide), bl, xin (by decide) (by decide), b0, show xwr (0 + 1) = 1 from by decide, l1]
theorem c_ixc3 {d : Nat} {σ : xM} {Q : Int → xM → Prop} {c b : Int} : Ev d 228 7 [vR 2 3, vI c, vI 0, vI 3, vI b, vI 0] [] σ Q = (if 119 = b then Q 0 σ else if 115 = b then Q 1 σ else if 121 = b then Q 2 σ else Q (-1) σ) := by
  have b0 : xbyt 3 (Int.toNat 0) = 119 := by decide
  have b1 : xbyt 3 (Int.toNat 1) = 115 := by decide
  have b2 : xbyt 3 (Int.toNat 2) = 121 := by decide
  have bl : xblen 3 = 3 := by decide
  have l3 : Ev d 228 7 [vR 2 3, vI c, vI 0, vI 3, vI b, vI 3] [] σ Q = Q (-1) σ := by rw [bz_N_indexOfChar_7_3, if_neg (by decide)]
  have l2 : Ev d 228 7 [vR 2 3, vI c, vI 0, vI 3, vI b, vI 2] [] σ Q = (if 121 = b then Q 2 σ else Q (-1) σ) := by
    rw [bz_N_indexOfChar_7_3, if_pos (by decide), bl, xin (by decide) (by decide), b2, show xwr (2 + 1) = 3 from by decide, l3]
  have l1 : Ev d 228 7 [vR 2 3, vI c, vI 0, vI 3, vI b, vI 1] [] σ Q = (if 115 = b then Q 1 σ else if 121 = b then Q 2 σ else Q (-1) σ) := by
    rw [bz_N_indexOfChar_7_3, if_pos (by decide), bl, xin (by decide) (by decide), b1, show xwr (1 + 1) = 2 from by decide, l2]
  rw [bz_N_indexOfChar_7_3, if_pos (by decide), bl, xin (by decide) (by decide), b0, show xwr (0 + 1) = 1 from by decide, l1]
theorem c_ix2 {d : Nat} {σ : xM} {Q : Int → xM → Prop} {c : Nat} (hc : c < 256) : Ev (d + 5) 222 0 [vR 1 2, vI (xi2c (c : Int))] [] σ Q = Q (pnm 0 (c : Int)) σ := by
  obtain ⟨e1, e2⟩ := xbyt_c c hc
  have e3 : ∀ v : Int, 0 ≤ v → v < 128 → (v = xi2b (c : Int) ↔ (c : Int) = v) := fun v h1 h2 => by
    rw [e2]
    split <;> omega
  have b0 : xbyt 2 (Int.toNat 0) = 119 := by decide
  have b1 : xbyt 2 (Int.toNat 1) = 108 := by decide
  have b2 : xbyt 2 (Int.toNat 2) = 118 := by decide
  have bl : xblen 2 = 3 := by decide
  rw [bz_G_indexOf_0_2, bz_G_indexOf2_0_2, bz_G_isLatin1_0_2, if_neg (by decide), if_pos rfl, xz1, if_neg (by decide), bz_G_length_0_2, bz_G_coder_0_2, if_neg (by decide)]
  rw [show (((-128 : Int) ≤ 0 ∧ (0 : Int) ≤ 127) ∧ Ev (d + 3) 227 0 [vR 2 2, vI (xi2c (c : Int)), vI 0, vI (xshr (xblen 2) 0)] [] σ (fun v4 s4 => Q v4 s4)) = Ev (d + 3) 227 0 [vR 2 2, vI (xi2c (c : Int)), vI 0, vI (xshr (xblen 2) 0)] [] σ Q from propext ⟨fun q => q.2, fun q => ⟨by decide, q⟩⟩]
  rw [bz_N_indexOf_0_2, e1, b_N_canEncode_0, if_neg (by omega), if_neg (by omega), xz1, if_neg (by decide), show xshr (xblen 2) 0 = 3 from by decide, bl, if_neg (show ¬ (0 : Int) < 0 by decide), if_neg (show ¬ (3 : Int) < 3 by decide), if_pos (by decide)]
  rw [bz_N_indexOfChar_0_2, c_ixc2]
  unfold pnm
  rw [if_pos rfl]
  by_cases h0 : (c : Int) = 119
  · rw [if_pos ((e3 _ (by decide) (by decide)).mpr h0), if_pos h0]
  · rw [if_neg (fun q => h0 ((e3 _ (by decide) (by decide)).mp q)), if_neg h0]
    by_cases h1 : (c : Int) = 108
    · rw [if_pos ((e3 _ (by decide) (by decide)).mpr h1), if_pos h1]
    · rw [if_neg (fun q => h1 ((e3 _ (by decide) (by decide)).mp q)), if_neg h1]
      by_cases h2 : (c : Int) = 118
      · rw [if_pos ((e3 _ (by decide) (by decide)).mpr h2), if_pos h2]
      · rw [if_neg (fun q => h2 ((e3 _ (by decide) (by decide)).mp q)), if_neg h2]
theorem c_ix3 {d : Nat} {σ : xM} {Q : Int → xM → Prop} {c : Nat} (hc : c < 256) : Ev (d + 5) 222 0 [vR 1 3, vI (xi2c (c : Int))] [] σ Q = Q (pnm 1 (c : Int)) σ := by
  obtain ⟨e1, e2⟩ := xbyt_c c hc
  have e3 : ∀ v : Int, 0 ≤ v → v < 128 → (v = xi2b (c : Int) ↔ (c : Int) = v) := fun v h1 h2 => by
    rw [e2]
    split <;> omega
  have b0 : xbyt 3 (Int.toNat 0) = 119 := by decide
  have b1 : xbyt 3 (Int.toNat 1) = 115 := by decide
  have b2 : xbyt 3 (Int.toNat 2) = 121 := by decide
  have bl : xblen 3 = 3 := by decide
  rw [bz_G_indexOf_0_3, bz_G_indexOf2_0_3, bz_G_isLatin1_0_3, if_neg (by decide), if_pos rfl, xz1, if_neg (by decide), bz_G_length_0_3, bz_G_coder_0_3, if_neg (by decide)]
  rw [show (((-128 : Int) ≤ 0 ∧ (0 : Int) ≤ 127) ∧ Ev (d + 3) 227 0 [vR 2 3, vI (xi2c (c : Int)), vI 0, vI (xshr (xblen 3) 0)] [] σ (fun v4 s4 => Q v4 s4)) = Ev (d + 3) 227 0 [vR 2 3, vI (xi2c (c : Int)), vI 0, vI (xshr (xblen 3) 0)] [] σ Q from propext ⟨fun q => q.2, fun q => ⟨by decide, q⟩⟩]
  rw [bz_N_indexOf_0_3, e1, b_N_canEncode_0, if_neg (by omega), if_neg (by omega), xz1, if_neg (by decide), show xshr (xblen 3) 0 = 3 from by decide, bl, if_neg (show ¬ (0 : Int) < 0 by decide), if_neg (show ¬ (3 : Int) < 3 by decide), if_pos (by decide)]
  rw [bz_N_indexOfChar_0_3, c_ixc3]
  unfold pnm
  rw [if_neg (show ¬ (1 : Nat) = 0 by decide)]
  by_cases h0 : (c : Int) = 119
  · rw [if_pos ((e3 _ (by decide) (by decide)).mpr h0), if_pos h0]
  · rw [if_neg (fun q => h0 ((e3 _ (by decide) (by decide)).mp q)), if_neg h0]
    by_cases h1 : (c : Int) = 115
    · rw [if_pos ((e3 _ (by decide) (by decide)).mpr h1), if_pos h1]
    · rw [if_neg (fun q => h1 ((e3 _ (by decide) (by decide)).mp q)), if_neg h1]
      by_cases h2 : (c : Int) = 121
      · rw [if_pos ((e3 _ (by decide) (by decide)).mpr h2), if_pos h2]
      · rw [if_neg (fun q => h2 ((e3 _ (by decide) (by decide)).mp q)), if_neg h2]
def Hs (σ0 : xM) (t : Nat → Int) (n : Nat) : Prop := n ≤ 60 ∧ ∀ i, i < n → σ0 18 0 i = t i ∧ 0 ≤ t i ∧ t i ≤ 255
def Cs (σ0 : xM) (n u : Nat) (s : qPS) (σ : xM) : Prop :=
  Fr [13, 14, 17] σ0 σ ∧ (∀ i, i ≠ 4 → σ 13 i = σ0 13 i ∧ σ 14 i = σ0 14 i) ∧ σ 17 0 0 = (n : Int) ∧ σ 17 0 1 = (s.1 : Int) ∧ σ 17 0 2 = (if s.2.2 = true then (s.1 : Int) else -1) ∧ σ 17 0 3 = ((u + 2 : Nat) : Int) ∧ (0 ≤ σ 13 4 0 ∧ σ 13 4 0 ≤ 60) ∧ (s.2.2 = false → σ 13 4 0 = (s.2.1.length : Int) ∧ qsk (σ 14 4) (s.2.1.map pcs))
theorem pl_rg {σ0 : xM} {t : Nat → Int} {n : Nat} {s : qPS} (H : Hs σ0 t n) : pl t n s = -1 ∨ ∃ c : Nat, c < 256 ∧ pl t n s = (c : Int) := by
  unfold pl
  by_cases h : s.1 < n
  · rw [if_pos h]
    have := H.2 s.1 h
    exact Or.inr ⟨(t s.1).toNat, by omega, by omega⟩
  · rw [if_neg h]
    exact Or.inl rfl
theorem c_next {d n u : Nat} {t : Nat → Int} {σ0 σ : xM} {s : qPS} {Q : Int → xM → Prop} (H : Hs σ0 t n) (h : Cs σ0 n u s σ) : Ev d 85 0 [vR 17 0] [] σ Q = Q (pl t n s) σ := by
  have n60 := H.1
  rw [b_D_next_0, h.2.2.2.1, h.2.2.1, if_neg (by omega)]
  unfold pl
  by_cases e : s.1 < n
  · rw [if_pos (by omega), if_pos e, xin (by omega) (by omega), Int.toNat_natCast, h.1 18 (by decide), (H.2 s.1 e).1]
  · rw [if_neg (by omega), if_neg e]
theorem c_digit {d : Nat} {σ : xM} {Q : Int → xM → Prop} {c : Int} : Ev d 86 0 [vI c] [] σ Q = Q (if 48 ≤ c ∧ c ≤ 57 then 1 else 0) σ := by
  rw [b_D_isDigit_0]
  by_cases h1 : c < 48
  · rw [if_pos h1, if_neg (by omega), xz0]
  · by_cases h2 : 57 < c
    · rw [if_neg h1, if_pos h2, if_neg (by omega), xz0]
    · rw [if_neg h1, if_neg h2, if_pos (by omega), xz1]
theorem c_level {d : Nat} {σ : xM} {Q : Int → xM → Prop} {c : Int} : Ev d 87 0 [vI c] [] σ Q = Q (plv c) σ := by
  rw [b_D_levelOf_0]
  simp only [xiteQ (Q := Q) (σ := σ)]
  rfl
theorem c_add {d n u : Nat} {σ0 σ : xM} {s : qPS} {x : Int × Int} {v : Int} {Q : Int → xM → Prop} (h : Cs σ0 n u s σ) (hv : s.2.2 = false → v = pcs x ∧ s.2.1.length < 60) (hQ : ∀ σ', Cs σ0 n u (pad x s) σ' → Q 0 σ') : Ev d 77 0 [vR 13 4, vI v] [] σ Q := by
  obtain ⟨h1, h2, h3, h4, h5, h6, h7, h8⟩ := h
  rw [b_T_add_0]
  by_cases c : σ 13 4 0 < 60
  · rw [if_pos c, xin h7.1 c, xup_t (t' := 13) (by decide), xw (by omega) (by omega)]
    refine hQ _ ⟨Fr_trans h1 (Fr_trans (Fr_up (by decide)) (Fr_up (by decide))), fun i hi => ⟨by rw [xup_i hi, xup_t (by decide)]; exact (h2 i hi).1, by rw [xup_t (by decide), xup_i hi]; exact (h2 i hi).2⟩, by rw [xup_t (by decide), xup_t (by decide)]; exact h3, by rw [xup_t (by decide), xup_t (by decide)]; exact h4, by rw [xup_t (by decide), xup_t (by decide)]; exact h5, by rw [xup_t (by decide), xup_t (by decide)]; exact h6, by rw [xup_s]; omega, fun hb => ?_⟩
    obtain ⟨k1, k2⟩ := h8 hb
    obtain ⟨e, -⟩ := hv hb
    refine ⟨by rw [xup_s, k1]; rfl, ?_⟩
    rw [xup_t (by decide)]
    show qsk _ (pcs x :: s.2.1.map pcs)
    refine qsk_top k2 (fun j hj => ?_) ?_
    · rw [List.length_map] at hj
      rw [xup_k (by omega)]
    · rw [List.length_map, k1, Int.toNat_natCast, xup_s, e]
  · rw [if_neg c]
    refine hQ σ ⟨h1, h2, h3, h4, h5, h6, h7, fun hb => ?_⟩
    obtain ⟨k1, -⟩ := h8 hb
    have := (hv hb).2
    omega
theorem c_adv {n u : Nat} {σ0 σ : xM} {s : qPS} (h : Cs σ0 n u s σ) (hb : s.2.2 = false) (h1 : s.1 < n) (n60 : n ≤ 60) : Cs σ0 n u (padv s) (xup σ 17 0 1 (xwr (σ 17 0 1 + 1))) := by
  obtain ⟨k1, k2, k3, k4, k5, k6, k7, k8⟩ := h
  rw [k4, xs1 (by omega)]
  refine ⟨Fr_trans k1 (Fr_up (by decide)), fun i hi => by rw [xup_t (by decide), xup_t (by decide)]; exact k2 i hi, by rw [xup_k (by decide)]; exact k3, xup_s, ?_, by rw [xup_k (by decide)]; exact k6, by rw [xup_t (by decide)]; exact k7, fun _ => by rw [xup_t (by decide), xup_t (by decide)]; exact k8 hb⟩
  rw [xup_k (by decide), k5]
  show (if s.2.2 = true then (s.1 : Int) else -1) = if s.2.2 = true then ((s.1 + 1 : Nat) : Int) else -1
  rw [hb]
  rfl
theorem c_fail {d n u : Nat} {σ0 σ : xM} {s : qPS} {Q : Int → xM → Prop} (h : Cs σ0 n u s σ) (hQ : ∀ σ', Cs σ0 n u (pbad s) σ' → Q 0 σ') : Ev d 84 0 [vR 17 0] [] σ Q := by
  obtain ⟨k1, k2, k3, k4, k5, k6, k7, k8⟩ := h
  rw [b_D_failHere_0]
  by_cases c : σ 17 0 2 < 0
  · rw [if_pos c]
    refine hQ _ ⟨Fr_trans k1 (Fr_up (by decide)), fun i hi => by rw [xup_t (by decide), xup_t (by decide)]; exact k2 i hi, by rw [xup_k (by decide)]; exact k3, by rw [xup_k (by decide)]; exact k4, by rw [xup_s, k4]; rfl, by rw [xup_k (by decide)]; exact k6, by rw [xup_t (by decide)]; exact k7, fun q => by cases q⟩
  · rw [if_neg c]
    refine hQ σ ⟨k1, k2, k3, k4, ?_, k6, k7, fun q => by cases q⟩
    rw [k5]
    by_cases hb : s.2.2 = true
    · rw [if_pos hb]
      rfl
    · rw [if_neg hb] at k5
      omega
theorem c_num {n u : Nat} {t : Nat → Int} {σ0 : xM} {Q : Int → xM → Prop} (H : Hs σ0 t n) : ∀ (g i d : Nat) (v : Int) (s : qPS) (σ : xM), i + g = 4 → 0 ≤ v → v < 10 ^ i → Cs σ0 n u s σ → s.2.2 = false → s.2.1.length < 60 → (∀ σ', Cs σ0 n u (pnum t n g v s) σ' → Q 0 σ') → Ev (d + 1) 91 4 [vR 17 0, vI v, vI (i : Int)] [] σ Q
  | 0, i, d, v, s, σ, e, h0, h1, h, hb, hL, hQ => by
    rw [b_D_readNumber_4, if_neg (by omega)]
    exact c_add (x := (1, v)) h (fun _ => ⟨rfl, hL⟩) hQ
  | g + 1, i, d, v, s, σ, e, h0, h1, h, hb, hL, hQ => by
    have n60 := H.1
    have p10 : (10 : Int) ^ i ≤ 10 ^ 3 := by
      have : i = 0 ∨ i = 1 ∨ i = 2 ∨ i = 3 := by omega
      rcases this with q | q | q | q <;> subst q <;> decide
    have e3 : (10 : Int) ^ 3 = 1000 := by decide
    have p1 : (10 : Int) ^ (i + 1) = 10 ^ i * 10 := Int.pow_succ ..
    have eq : pnum t n (g + 1) v s = if 48 ≤ pl t n s ∧ pl t n s ≤ 57 then pnum t n g (v * 10 + pl t n s - 48) (padv s) else pad (1, v) s := rfl
    rw [eq] at hQ
    rw [b_D_readNumber_4, if_pos (by omega), c_next H h, c_digit]
    simp only [xbc]
    by_cases hd : 48 ≤ pl t n s ∧ pl t n s ≤ 57
    · rw [if_pos hd] at hQ
      have s1 := pl_ne (t := t) (n := n) (s := s) (by omega)
      rw [if_neg (fun q => q hd), c_next H h, xs1 (by omega), xw (x := v * 10) (by omega) (by omega), xw (x := v * 10 + pl t n s) (by omega) (by omega), xw (x := v * 10 + pl t n s - 48) (by omega) (by omega)]
      exact c_num H g (i + 1) d _ (padv s) _ (by omega) (by omega) (by omega) (c_adv h hb s1 n60) hb hL hQ
    · rw [if_neg hd] at hQ
      rw [if_pos hd]
      exact c_add (x := (1, v)) h (fun _ => ⟨rfl, hL⟩) hQ
/-- a reader of the class does this -/
def CI (σ0 : xM) (n u M : Nat) (locs : List xV) (φ : qPS → qPS) (D : Nat) : Prop := ∀ e, D ≤ e → ∀ (s : qPS) (σ : xM) (Q : Int → xM → Prop), Cs σ0 n u s σ → pWf n s → s.2.2 = false → (∀ σ', Cs σ0 n u (φ s) σ' → Q 0 σ') → Ev e M 0 locs [] σ Q
theorem c_loop {n u D : Nat} {t : Nat → Int} {σ0 : xM} {lv op : Int} {sub : qPS → qPS} {Q : Int → xM → Prop} (H : Hs σ0 t n) (l0 : 0 ≤ lv) (l5 : lv < 5) (hs : pgd n sub) (hc : CI σ0 n u 88 [vR 17 0, vI (lv + 1), vI op, vR 0 0, vR 0 0, vR 0 0] sub D) (mx : Nat) (mx60 : mx ≤ 60) :
    ∀ (g i e : Nat) (w : xV) (s : qPS) (σ : xM), i + g = mx → D + 1 ≤ e → Cs σ0 n u s σ → pWf n s → (s.2.2 = false → 1 ≤ pdp s.2.1) → (∀ σ', Cs σ0 n u (plp t n lv sub g s) σ' → Q 0 σ') → Ev e 88 34 [vR 17 0, vI lv, vI op, vI (mx : Int), vI (i : Int), w] [] σ Q
  | 0, i, e, w, s, σ, ei, he, h, hw, hd, hQ => by
    obtain ⟨e', rfl⟩ : ∃ e', e = e' + 1 := ⟨e - 1, by omega⟩
    rw [b_D_readLevel_34, if_neg (by omega)]
    exact hQ σ h
  | g + 1, i, e, w, s, σ, ei, he, h, hw, hd, hQ => by
    obtain ⟨e', rfl⟩ : ∃ e', e = e' + 1 := ⟨e - 1, by omega⟩
    have n60 := H.1
    have eq : plp t n lv sub (g + 1) s = if s.2.2 = true then s else if plv (pl t n s) = lv then plp t n lv sub g (pad (pl t n s, 0) (sub (padv s))) else s := rfl
    rw [eq] at hQ
    rw [b_D_readLevel_34, if_pos (by omega), h.2.2.2.2.1]
    by_cases hb : s.2.2 = true
    · rw [if_pos hb] at hQ
      rw [if_pos hb, if_neg (by omega)]
      exact hQ σ h
    · have hb' : s.2.2 = false := by simpa using hb
      rw [if_neg hb] at hQ
      rw [if_neg hb, if_pos (by decide), c_next H h, c_level]
      by_cases hl : plv (pl t n s) = lv
      · rw [if_pos hl] at hQ
        have s1 := pl_in hl l0
        have op' := plv_op (c := pl t n s) (by omega)
        obtain ⟨o1, o2, o3, -⟩ := xop_n op'
        obtain ⟨i1, i2⟩ := hs (padv s) (padv_w hw s1) hb'
        obtain ⟨r1, r2⟩ := plp_g (t := t) l0 hs 1 s hw hd
        have e1 : plp t n lv sub 1 s = pad (pl t n s, 0) (sub (padv s)) := by
          show (if s.2.2 = true then s else if plv (pl t n s) = lv then pad (pl t n s, 0) (sub (padv s)) else s) = _
          rw [if_neg hb, if_pos hl]
        rw [e1] at r1 r2
        have pr : xwr (-pl t n s) = -pl t n s := by
          rcases pl_rg (s := s) H with q | ⟨c, hc, q⟩ <;> rw [q] <;> rw [xw (by omega) (by omega)]
        rw [if_pos hl, show xwr (lv + 1) = lv + 1 from xw (by omega) (by omega)]
        refine hc e' (by omega) (padv s) _ _ (c_adv h hb' s1 n60) (padv_w hw s1) hb' (fun σ1 h1 => ?_)
        rw [pr, xs1 (by omega)]
        refine c_add (x := (pl t n s, 0)) h1 (fun hb2 => ⟨?_, ?_⟩) (fun σ2 h2 => ?_)
        · show _ = if pl t n s = 1 then (0 : Int) else if pl t n s = 2 then -1 - 0 else if pl t n s = 3 then -33 else -pl t n s
          rw [if_neg o1, if_neg o2, if_neg o3]
        · have := r1.1
          have k := (r1.2 hb2).1
          have k : (sub (padv s)).2.1.length + 1 ≤ (sub (padv s)).1 := k
          have j : (sub (padv s)).1 ≤ n := i1.1
          omega
        · exact c_loop H l0 l5 hs hc mx mx60 g (i + 1) (e' + 1) _ _ σ2 (by omega) he h2 r1 (fun hb2 => by rw [(r2 hb2).2.1]; exact hd hb') hQ
      · rw [if_neg hl] at hQ
        rw [if_neg hl]
        exact hQ σ h
theorem c_bin {n u D : Nat} {t : Nat → Int} {σ0 : xM} {lv op : Int} {sub : qPS → qPS} (H : Hs σ0 t n) (l0 : 0 ≤ lv) (l5 : lv < 5) (hs : pgd n sub) (hc : CI σ0 n u 88 [vR 17 0, vI (lv + 1), vI op, vR 0 0, vR 0 0, vR 0 0] sub D) : CI σ0 n u 88 [vR 17 0, vI lv, vI op, vR 0 0, vR 0 0, vR 0 0] (pbin t n lv (if lv = 2 then 1 else 60) sub) (D + 1) := by
  intro e he s σ Q h hw hb hQ
  obtain ⟨e', rfl⟩ : ∃ e', e = e' + 1 := ⟨e - 1, by omega⟩
  rw [b_D_readLevel_0, if_pos l5, show xwr (lv + 1) = lv + 1 from xw (by omega) (by omega)]
  obtain ⟨i1, i2⟩ := hs s hw hb
  have hd : (sub s).2.2 = false → 1 ≤ pdp (sub s).2.1 := fun hb2 => by
    have := pdp_0 _ (hw.2 hb).2
    rw [(i2 hb2).1]
    omega
  refine hc e' (by omega) s σ _ h hw hb (fun σ1 h1 => ?_)
  by_cases e2 : lv = 2
  · rw [if_pos e2] at hQ
    rw [if_pos e2]
    exact c_loop H l0 l5 hs hc 1 (by decide) 1 0 (e' + 1) _ _ σ1 (by decide) he h1 i1 hd hQ
  · rw [if_neg e2] at hQ
    rw [if_neg e2]
    exact c_loop H l0 l5 hs hc 60 (by decide) 60 0 (e' + 1) _ _ σ1 (by decide) he h1 i1 hd hQ
theorem c_top {n u D : Nat} {t : Nat → Int} {σ0 : xM} {op : Int} {fc : qPS → qPS} (H : Hs σ0 t n) (hs : pgd n fc) (hc : CI σ0 n u 89 [vR 17 0, vI op, vR 0 0] fc D) : CI σ0 n u 88 [vR 17 0, vI 0, vI op, vR 0 0, vR 0 0, vR 0 0] (ptop t n fc) (D + 6) := by
  have h5 : CI σ0 n u 88 [vR 17 0, vI (4 + 1), vI op, vR 0 0, vR 0 0, vR 0 0] fc (D + 1) := by
    intro e he s σ Q h hw hb hQ
    obtain ⟨e', rfl⟩ : ∃ e', e = e' + 1 := ⟨e - 1, by omega⟩
    rw [show ((4 : Int) + 1) = 5 from rfl, b_D_readLevel_0, if_neg (by decide)]
    exact hc e' (by omega) s σ _ h hw hb hQ
  have g4 : pgd n (pbin t n 4 60 fc) := pbin_g (by decide) hs
  have g3 : pgd n (pbin t n 3 60 (pbin t n 4 60 fc)) := pbin_g (by decide) g4
  have g2 : pgd n (pbin t n 2 1 (pbin t n 3 60 (pbin t n 4 60 fc))) := pbin_g (by decide) g3
  have g1 : pgd n (pbin t n 1 60 (pbin t n 2 1 (pbin t n 3 60 (pbin t n 4 60 fc)))) := pbin_g (by decide) g2
  have b4 := c_bin (lv := 4) H (by decide) (by decide) hs h5
  have b3 := c_bin (lv := 3) H (by decide) (by decide) g4 b4
  have b2 := c_bin (lv := 2) H (by decide) (by decide) g3 b3
  have b1 := c_bin (lv := 1) H (by decide) (by decide) g2 b2
  exact c_bin (lv := 0) H (by decide) (by decide) g1 b1
theorem c_close {d n u : Nat} {t : Nat → Int} {σ0 σ : xM} {s : qPS} {Q : Int → xM → Prop} (H : Hs σ0 t n) (h : Cs σ0 n u s σ) (hQ : ∀ σ', Cs σ0 n u (pcl t n s) σ' → Q 0 σ') : Ev (d + 1) 90 0 [vR 17 0] [] σ Q := by
  unfold pcl at hQ
  rw [b_D_readClosing_0, h.2.2.2.2.1]
  by_cases hb : s.2.2 = true
  · rw [if_pos hb] at hQ
    rw [if_pos hb, if_neg (by omega)]
    exact c_fail h hQ
  · have hb' : s.2.2 = false := by simpa using hb
    rw [if_neg hb] at hQ
    rw [if_neg hb, if_pos (by decide), c_next H h]
    by_cases e : pl t n s = 41
    · rw [if_pos e] at hQ ⊢
      exact hQ _ (c_adv h hb' (pl_ne (t := t) (by omega)) H.1)
    · rw [if_neg e] at hQ ⊢
      exact c_fail h hQ
theorem c_fact {n u o D : Nat} {t : Nat → Int} {σ0 : xM} {can : Bool} {fneg fpar : qPS → qPS} (H : Hs σ0 t n) (hu : u < 2) (ho : o ≤ 5) (hcan : can = true ↔ o < 5) (hD : 6 ≤ D) (g1 : can = true → pgd n fneg) (g2 : can = true → pgd n fpar) (h1 : can = true → CI σ0 n u 89 [vR 17 0, vI ((o : Int) + 1), vR 0 0] fneg D) (h2 : can = true → CI σ0 n u 88 [vR 17 0, vI 0, vI ((o : Int) + 1), vR 0 0, vR 0 0, vR 0 0] fpar D) : CI σ0 n u 89 [vR 17 0, vI (o : Int), vR 0 0] (pfs t n u can fneg fpar) (D + 1) := by
  intro e he s σ Q h hw hb hQ
  obtain ⟨e', rfl⟩ : ∃ e', e = e' + 6 := ⟨e - 6, by omega⟩
  have n60 := H.1
  obtain ⟨hL, hpw⟩ := hw.2 hb
  have xo : xwr ((o : Int) + 1) = (o : Int) + 1 := xw (by omega) (by omega)
  have hu3 : σ 17 0 3 = ((u + 2 : Nat) : Int) := h.2.2.2.2.2.1
  unfold pfs at hQ
  rw [b_D_readFactor_0, c_next H h, c_digit]
  simp only [xbc]
  by_cases hd : 48 ≤ pl t n s ∧ pl t n s ≤ 57
  · rw [if_pos hd] at hQ
    rw [if_neg (fun q => q hd), b_D_readNumber_0]
    have s1 := pl_ne (t := t) (n := n) (s := s) (by omega)
    exact c_num H 4 0 _ 0 s σ (by decide) (by decide) (by decide) h hb (by omega) hQ
  · rw [if_neg hd] at hQ
    rw [if_pos hd]
    have neg : can = true → pl t n s = 33 → (∀ σ', Cs σ0 n u (pad (3, 0) (fneg (padv s))) σ' → Q 0 σ') → Ev (e' + 5) 89 0 [vR 17 0, vI (xwr ((o : Int) + 1)), vR 0 0] [] (xup σ 17 0 1 (xwr (σ 17 0 1 + 1))) (fun _ s3 => Ev (e' + 5) 77 0 [vR 13 4, vI (-33)] [] s3 (fun _ s4 => Q 0 s4)) := by
      intro hc e33 hQ'
      have s1 := pl_ne (t := t) (n := n) (s := s) (by omega)
      rw [xo]
      refine h1 hc _ (by omega) (padv s) _ _ (c_adv h hb s1 n60) (padv_w hw s1) hb (fun σ1 k1 => ?_)
      obtain ⟨i1, i2⟩ := g1 hc (padv s) (padv_w hw s1) hb
      refine c_add (x := (3, 0)) k1 (fun hb2 => ⟨rfl, ?_⟩) hQ'
      obtain ⟨j1, j2, j3⟩ := i2 hb2
      have j3 : (fneg (padv s)).2.1.length + (s.1 + 1) ≤ s.2.1.length + (fneg (padv s)).1 := j3
      have j2 : s.1 + 1 < (fneg (padv s)).1 := j2
      have := i1.1
      omega
    have par : can = true → pl t n s = 40 → (∀ σ', Cs σ0 n u (pcl t n (fpar (padv s))) σ' → Q 0 σ') → Ev (e' + 5) 88 0 [vR 17 0, vI 0, vI (xwr ((o : Int) + 1)), vR 0 0, vR 0 0, vR 0 0] [] (xup σ 17 0 1 (xwr (σ 17 0 1 + 1))) (fun _ s5 => Ev (e' + 5) 90 0 [vR 17 0] [] s5 (fun _ s6 => Q 0 s6)) := by
      intro hc e40 hQ'
      have s1 := pl_ne (t := t) (n := n) (s := s) (by omega)
      rw [xo]
      refine h2 hc _ (by omega) (padv s) _ _ (c_adv h hb s1 n60) (padv_w hw s1) hb (fun σ1 k1 => ?_)
      exact c_close H k1 hQ'
    have rest : (∀ σ', Cs σ0 n u (if can = true then (if pl t n s = 33 then pad (3, 0) (fneg (padv s)) else if pl t n s = 40 then pcl t n (fpar (padv s)) else pbad s) else pbad s) σ' → Q 0 σ') → (if pl t n s = (33 : Int) then if (o : Int) < (5 : Int) then Ev (e' + 5) 89 0 [vR 17 0, vI (xwr ((o : Int) + 1)), vR 0 0] [] (xup σ 17 0 1 (xwr (σ 17 0 1 + 1))) (fun _ s3 => Ev (e' + 5) 77 0 [vR 13 4, vI (-33)] [] s3 (fun _ s4 => Q 0 s4)) else if pl t n s = (40 : Int) then if (o : Int) < (5 : Int) then Ev (e' + 5) 88 0 [vR 17 0, vI 0, vI (xwr ((o : Int) + 1)), vR 0 0, vR 0 0, vR 0 0] [] (xup σ 17 0 1 (xwr (σ 17 0 1 + 1))) (fun _ s5 => Ev (e' + 5) 90 0 [vR 17 0] [] s5 (fun _ s6 => Q 0 s6)) else Ev (e' + 5) 84 0 [vR 17 0] [] σ (fun _ s7 => Q 0 s7) else Ev (e' + 5) 84 0 [vR 17 0] [] σ (fun _ s8 => Q 0 s8) else if pl t n s = (40 : Int) then if (o : Int) < (5 : Int) then Ev (e' + 5) 88 0 [vR 17 0, vI 0, vI (xwr ((o : Int) + 1)), vR 0 0, vR 0 0, vR 0 0] [] (xup σ 17 0 1 (xwr (σ 17 0 1 + 1))) (fun _ s9 => Ev (e' + 5) 90 0 [vR 17 0] [] s9 (fun _ s10 => Q 0 s10)) else Ev (e' + 5) 84 0 [vR 17 0] [] σ (fun _ s11 => Q 0 s11) else Ev (e' + 5) 84 0 [vR 17 0] [] σ (fun _ s12 => Q 0 s12)) := by
      intro hQ'
      by_cases hc : can = true
      · have o5 := hcan.mp hc
        rw [if_pos hc] at hQ'
        by_cases e33 : pl t n s = 33
        · rw [if_pos e33] at hQ'
          rw [if_pos e33, if_pos (by omega)]
          exact neg hc e33 hQ'
        · rw [if_neg e33] at hQ'
          rw [if_neg e33]
          by_cases e40 : pl t n s = 40
          · rw [if_pos e40] at hQ'
            rw [if_pos e40, if_pos (by omega)]
            exact par hc e40 hQ'
          · rw [if_neg e40] at hQ'
            rw [if_neg e40]
            exact c_fail h hQ'
      · have o5 : ¬ o < 5 := fun q => hc (hcan.mpr q)
        rw [if_neg hc] at hQ'
        have fl : Ev (e' + 5) 84 0 [vR 17 0] [] σ (fun _ s7 => Q 0 s7) := c_fail h hQ'
        split
        · rw [if_neg (by omega)]
          split
          · rw [if_neg (by omega)]
            exact fl
          · exact fl
        · split
          · rw [if_neg (by omega)]
            exact fl
          · exact fl
    rcases pl_rg (s := s) H with pm | ⟨c, c256, pc⟩
    · have nn : ¬ 0 ≤ pnm u (pl t n s) := fun q => (pnm_in q).1 pm
      rw [if_neg nn] at hQ
      rw [if_pos (by omega)]
      exact rest hQ
    · have ix : ∀ (Q' : Int → xM → Prop) (s' : xM), Ev (e' + 5) 222 0 [vR 1 (((u + 2 : Nat) : Int)).toNat, vI (xi2c (pl t n s))] [] s' Q' = Q' (pnm u (pl t n s)) s' := by
        intro Q' s'
        rw [pc, Int.toNat_natCast]
        have : u = 0 ∨ u = 1 := by omega
        rcases this with q | q <;> subst q
        · exact c_ix2 c256
        · exact c_ix3 c256
      rw [if_neg (by omega), hu3]
      refine ⟨by omega, ?_⟩
      rw [ix]
      by_cases hn : 0 ≤ pnm u (pl t n s)
      · rw [if_pos hn] at hQ
        have s1 := pl_ne (t := t) (n := n) (s := s) (by omega)
        have pn := pnm_in hn
        rw [if_neg (by omega), hu3]
        refine ⟨by omega, ?_⟩
        rw [ix, xw (by omega) (by omega)]
        refine c_add (x := (2, pnm u (pl t n s))) h (fun _ => ⟨rfl, by omega⟩) (fun σ1 k1 => ?_)
        exact hQ _ (c_adv (s := pad (2, pnm u (pl t n s)) s) k1 hb s1 n60)
      · rw [if_neg hn] at hQ
        rw [if_pos (by omega)]
        exact rest hQ
theorem c_pfc {n u : Nat} {t : Nat → Int} {σ0 : xM} (H : Hs σ0 t n) (hu : u < 2) : ∀ (o : Nat) (op : Int), (op = ((5 - o : Nat) : Int) ∧ o ≤ 5) → CI σ0 n u 89 [vR 17 0, vI op, vR 0 0] (pfc t n u o) (7 * o + 7)
  | 0, op, h => by
    rw [h.1]
    exact c_fact (D := 6) H hu (by decide) (by simp) (by decide) (fun q => by cases q) (fun q => by cases q) (fun q => by cases q) (fun q => by cases q)
  | o + 1, op, h => by
    have e1 : ((5 - (o + 1) : Nat) : Int) + 1 = ((5 - o : Nat) : Int) := by omega
    have i1 := c_pfc H hu o _ ⟨rfl, by omega⟩
    have i2 := c_top (op := ((5 - o : Nat) : Int)) H (pfc_g o) i1
    rw [h.1]
    refine c_fact (D := 7 * o + 7 + 6) H hu (by omega) (by simp; omega) (by omega) (fun _ => pfc_g o) (fun _ => ptop_g (pfc_g o)) (fun _ => ?_) (fun _ => ?_)
    · rw [e1]
      exact fun e he => i1 e (by omega)
    · rw [e1]
      exact i2
