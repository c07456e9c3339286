/-! AN ARRAY OF INT ROWS, in the world of cells -/
/-- a cell more, with the references f -/
def xrw (ρ : xP) (t i : Nat) (f : Nat → Nat × Nat) : xP := fun a b k => if a = t ∧ b = i then f k else ρ a b k
/-- n cells more of the tag t -/
def xcnN (cnt : Nat → Nat) (t n : Nat) : Nat → Nat := fun a => if a = t then cnt t + n else cnt a
def xrN (ρ : xP) (t c n : Nat) : xP := fun a b k => if a = t ∧ c ≤ b ∧ b < c + n then (0, 0) else ρ a b k
def xzN (σ : xM) (t c n : Nat) : xM := fun a b k => if a = t ∧ c ≤ b ∧ b < c + n then 0 else σ a b k
/-- what was stays -/
def xExt (cnt : Nat → Nat) (ad : Nat → Nat → Nat) (cnt' : Nat → Nat) (ad' : Nat → Nat → Nat) : Prop := (∀ a b, xokr cnt a b → xokr cnt' a b ∧ ad' a b = ad a b) ∧ ∀ a b, a < 4 → ad' a b = ad a b
theorem xExt.refl {cnt : Nat → Nat} {ad : Nat → Nat → Nat} : xExt cnt ad cnt ad := ⟨fun _ _ h => ⟨h, rfl⟩, fun _ _ _ => rfl⟩
theorem xExt.trans {c1 c2 c3 : Nat → Nat} {a1 a2 a3 : Nat → Nat → Nat} (h : xExt c1 a1 c2 a2) (h' : xExt c2 a2 c3 a3) : xExt c1 a1 c3 a3 := ⟨fun a b q => ⟨(h'.1 a b (h.1 a b q).1).1, ((h'.1 a b (h.1 a b q).1).2).trans (h.1 a b q).2⟩, fun a b q => (h'.2 a b q).trans (h.2 a b q)⟩
section XE2
variable {cnt cnt' : Nat → Nat} {ad ad' : Nat → Nat → Nat}
theorem xExt.one {t q : Nat} (ht : 4 ≤ t) : xExt cnt ad (xcn cnt t) (xadd ad t (cnt t) q) := ⟨fun _ _ h => ⟨(xokr_up h ht).1, xadd_ne (xokr_up h ht).2⟩, xadd_lo ht⟩
theorem xExt.ok (h : xExt cnt ad cnt' ad') {v : xV} (hv : xok cnt v) : xok cnt' v := by
  rcases v with x | x | q
  · exact hv
  · exact hv
  · rcases hv with h1 | h1
    · exact Or.inl h1
    · exact Or.inr (h.1 _ _ h1).1
theorem xExt.cv (h : xExt cnt ad cnt' ad') {v : xV} (hv : xok cnt v) : xcv ad' v = xcv ad v := by
  rcases v with x | x | q
  · rfl
  · rfl
  · simp only [xcv]
    rcases hv with h1 | h1
    · rw [show Nat.beq q.1 0 = true from by rw [h1]; rfl]; rfl
    · rw [(h.1 _ _ h1).2]
theorem xExt.map (h : xExt cnt ad cnt' ad') : ∀ {r : List xV}, xoks cnt r → r.map (xcv ad') = r.map (xcv ad)
  | [], _ => rfl
  | v :: r, hr => by
    obtain ⟨h1, h2⟩ := xoks_c.mp hr
    rw [List.map_cons, List.map_cons, h.cv h1, xExt.map h h2]
theorem xExt.oks (h : xExt cnt ad cnt' ad') {r : List xV} (hr : xoks cnt r) : xoks cnt' r := fun v hv => h.ok (hr v hv)
theorem xExt.lr (h : xExt cnt ad cnt' ad') {M : Nat} {L : List xV} {ls : Array Slot} (hL : xLr M cnt ad L ls) : xLr M cnt' ad' L ls :=
  ⟨hL.1, hL.2.1, hL.2.2.1, fun k v hk => ⟨h.ok (hL.2.2.2 k v hk).1, (hL.2.2.2 k v hk).2.1, fun hn => by rw [h.cv (hL.2.2.2 k v hk).1]; exact (hL.2.2.2 k v hk).2.2 hn⟩⟩
end XE2
section XF2
variable {D : va_G} {ad : Nat → Nat → Nat} {ca : Nat → Nat → ClassId} {cnt : Nat → Nat} {ρ : xP} {σ : xM} {A : Nat → Prop} {U : State} {H H1 : Heap}
theorem xE_up2 {t q a b : Nat} {cA : ClassId} {f : Nat → Nat × Nat} (hG : xrvG cnt ρ) (ht : 4 ≤ t) (hn : ¬ (a = t ∧ b = cnt t)) : xE (xadd ad t (cnt t) q) (xadd ca t (cnt t) cA) (xrw ρ t (cnt t) f) (xzr σ t (cnt t)) a b = xE ad ca ρ σ a b := by
  rw [← xE_up (q := q) (cA := cA) (σ := σ) hG ht hn]
  exact xE_rcongr fun k => by unfold xrw xr0; rw [if_neg hn, if_neg hn]
/-- a cell that lies there already comes into the world -/
theorem xWd.add {t q : Nat} {cA : ClassId} {f : Nat → Nat × Nat} (h : xWd D ad ca cnt ρ σ A U H) (hG : xrvG cnt ρ) (ht4 : 4 ≤ t) (hnew : ∀ a b, xvd cnt a b → ad a b ≠ q) (hAq : A q) (hf : ∀ k, (f k).1 = 0 ∨ xokr cnt (f k).1 (f k).2)
    (he : va_at D xcl (q, xE (xadd ad t (cnt t) q) (xadd ca t (cnt t) cA) (xrw ρ t (cnt t) f) (xzr σ t (cnt t)) t (cnt t)) H) (harr : xkind t ≠ 1 → ArrOfT U cA (xaty t) ∧ va_RA U cA (xaty t)) :
    xWd D (xadd ad t (cnt t) q) (xadd ca t (cnt t) cA) (xcn cnt t) (xrw ρ t (cnt t) f) (xzr σ t (cnt t)) A U H ∧ xrvG (xcn cnt t) (xrw ρ t (cnt t) f) := by
  have hG' : xrvG (xcn cnt t) (xrw ρ t (cnt t) f) := by
    intro a b k
    unfold xrw
    by_cases hc : a = t ∧ b = cnt t
    · rw [if_pos hc]
      rcases hf k with h | h
      · exact Or.inl h
      · exact Or.inr (xokr_up h ht4).1
    · rw [if_neg hc]
      rcases hG a b k with h | h
      · exact Or.inl h
      · exact Or.inr (xokr_up h ht4).1
  refine ⟨⟨fun a b hv => ?_, fun a b a' b' hv hv' e1 => ?_, fun a b hv => ?_, fun a b k => ?_, fun a b k _ _ => hG' a b k, fun a b hv hk => ?_⟩, hG'⟩
  · rcases xvd_cn hv with ⟨rfl, rfl⟩ | ⟨hn, ho⟩
    · rw [xadd_at]
      exact he
    · rw [xE_up2 hG ht4 hn, xadd_ne hn]
      exact h.1 a b ho
  · rcases xvd_cn hv with ⟨rfl, rfl⟩ | ⟨hn, ho⟩
    · rcases xvd_cn hv' with ⟨rfl, rfl⟩ | ⟨hn', ho'⟩
      · exact ⟨rfl, rfl⟩
      · rw [xadd_at, xadd_ne hn'] at e1
        exact absurd e1.symm (hnew _ _ ho')
    · rcases xvd_cn hv' with ⟨rfl, rfl⟩ | ⟨hn', ho'⟩
      · rw [xadd_at, xadd_ne hn] at e1
        exact absurd e1 (hnew _ _ ho)
      · rw [xadd_ne hn, xadd_ne hn'] at e1
        exact h.2.1 a b a' b' ho ho' e1
  · rcases xvd_cn hv with ⟨rfl, rfl⟩ | ⟨hn, ho⟩
    · rw [xadd_at]; exact hAq
    · rw [xadd_ne hn]; exact h.2.2.1 a b ho
  · unfold xzr
    by_cases hc : a = t ∧ b = cnt t
    · rw [if_pos hc]; exact ⟨by decide, by decide⟩
    · rw [if_neg hc]; exact h.2.2.2.1 a b k
  · rcases xvd_cn hv with ⟨rfl, rfl⟩ | ⟨hn, ho⟩
    · rw [xadd_at]; exact harr hk
    · rw [xadd_ne hn]; exact h.2.2.2.2.2 a b ho hk
theorem xWd.kept (h : xWd D ad ca cnt ρ σ A U H) (hH : ∀ q : Nat, q < H.size → H1[q]? = H[q]?) : xWd D ad ca cnt ρ σ A U H1 :=
  ⟨fun t i hv => (h.1 t i hv).kept (hH _ (h.1 t i hv).lt), h.2⟩
/-- n rows come into the world -/
theorem xWd.rows {t q : Nat} {cA : ClassId} (ht4 : 4 ≤ t) (hk : xkind t = 2) (harr : ArrOfT U cA (xaty t) ∧ va_RA U cA (xaty t)) :
    ∀ n, (∀ j, j < n → A (q + j)) → (∀ j, j < n → H[q + j]? = some (arrV cA (xsz t) (fun _ => .int 0))) → xWd D ad ca cnt ρ σ A U H → xrvG cnt ρ → (∀ a b, xvd cnt a b → ad a b < q) →
      ∃ (ad' : Nat → Nat → Nat) (ca' : Nat → Nat → ClassId), xWd D ad' ca' (xcnN cnt t n) (xrN ρ t (cnt t) n) (xzN σ t (cnt t) n) A U H ∧ xrvG (xcnN cnt t n) (xrN ρ t (cnt t) n) ∧ xExt cnt ad (xcnN cnt t n) ad' ∧ (∀ a b, xvd (xcnN cnt t n) a b → ad' a b < q + n) ∧ ∀ j, j < n → ad' t (cnt t + j) = q + j := by
  intro n
  induction n with
  | zero =>
    intro _ _ h hG hlt
    have e1 : xcnN cnt t 0 = cnt := by
      funext a
      unfold xcnN
      by_cases e : a = t
      · rw [if_pos e, e]; rfl
      · rw [if_neg e]
    have e2 : xrN ρ t (cnt t) 0 = ρ := by
      funext a b k
      unfold xrN
      rw [if_neg (by omega)]
    have e3 : xzN σ t (cnt t) 0 = σ := by
      funext a b k
      unfold xzN
      rw [if_neg (by omega)]
    rw [e1, e2, e3]
    exact ⟨ad, ca, h, hG, xExt.refl, hlt, fun j hj => absurd hj (Nat.not_lt_zero _)⟩
  | succ n ih =>
    intro hA hH h hG hlt
    obtain ⟨ad', ca', h', hG', hx', hlt', hat'⟩ := ih (fun j hj => hA j (Nat.lt_succ_of_lt hj)) (fun j hj => hH j (Nat.lt_succ_of_lt hj)) h hG hlt
    have ec : xcnN cnt t n t = cnt t + n := by unfold xcnN; rw [if_pos rfl]
    have e1 : xcnN cnt t (n + 1) = xcn (xcnN cnt t n) t := by
      funext a
      unfold xcn xcnN
      by_cases e : a = t
      · rw [if_pos e, if_pos e, if_pos rfl]; omega
      · rw [if_neg e, if_neg e, if_neg e]
    have e2 : xrN ρ t (cnt t) (n + 1) = xrw (xrN ρ t (cnt t) n) t (cnt t + n) (fun _ => (0, 0)) := by
      funext a b k
      unfold xrw xrN
      by_cases e : a = t ∧ b = cnt t + n
      · rw [if_pos e, if_pos (by omega)]
      · rw [if_neg e]
        by_cases e' : a = t ∧ cnt t ≤ b ∧ b < cnt t + n
        · rw [if_pos e', if_pos (by omega)]
        · rw [if_neg e', if_neg (by omega)]
    have e3 : xzN σ t (cnt t) (n + 1) = xzr (xzN σ t (cnt t) n) t (cnt t + n) := by
      funext a b k
      unfold xzr xzN
      by_cases e : a = t ∧ b = cnt t + n
      · rw [if_pos e, if_pos (by omega)]
      · rw [if_neg e]
        by_cases e' : a = t ∧ cnt t ≤ b ∧ b < cnt t + n
        · rw [if_pos e', if_pos (by omega)]
        · rw [if_neg e', if_neg (by omega)]
    rw [e1, e2, e3, ← ec]
    have hadd := h'.add (t := t) (q := q + n) (cA := cA) (f := fun _ => (0, 0)) hG' ht4 (fun a b hv => Nat.ne_of_lt (hlt' a b hv)) (hA n (Nat.lt_succ_self n)) (fun _ => Or.inl rfl) (by
      rw [xE_i (by omega) (by omega), xadd_at]
      show H[q + n]? = some (vp_cell _ _)
      rw [vp_cell_i, hH n (Nat.lt_succ_self n)]
      congr 2
      funext j
      unfold xzr
      rw [if_pos ⟨rfl, rfl⟩]
      rfl) (fun _ => harr)
    refine ⟨_, _, hadd.1, hadd.2, hx'.trans (xExt.one ht4), fun a b hv => ?_, fun j hj => ?_⟩
    · rcases xvd_cn hv with ⟨rfl, rfl⟩ | ⟨hn, ho⟩
      · rw [xadd_at]; omega
      · rw [xadd_ne hn]
        have := hlt' a b ho
        omega
    · by_cases hj' : j = n
      · rw [hj', ← ec, xadd_at]
      · rw [xadd_ne (by rw [ec]; omega)]
        exact hat' j (by omega)
end XF2
section XG2
variable {p : Program} {l : Launch} {e : Env} {R : Room} {s : State} {m : MethodId} {args : Array Value} {below : List Frame} {meth : Method} {c : Code} {cells slots : Nat} {Q : State → Prop}
variable {M : Nat} {A : Nat → Prop} {ad : Nat → Nat → Nat} {ca : Nat → Nat → ClassId} {D : va_G} {cnt : Nat → Nat} {ρ : xP} {σ : xM}
theorem xvd_cnN {t n a b : Nat} (h : xvd (xcnN cnt t n) a b) : xvd cnt a b ∨ (a = t ∧ cnt t ≤ b ∧ b < cnt t + n) := by
  obtain ⟨h1, h2, h3⟩ := h
  unfold xcnN at h3
  by_cases e : a = t
  · rw [if_pos e] at h3
    subst e
    by_cases e2 : b < cnt a
    · exact Or.inl ⟨h1, h2, e2⟩
    · exact Or.inr ⟨rfl, by omega, h3⟩
  · rw [if_neg e] at h3
    exact Or.inl ⟨h1, h2, h3⟩
/-- the rows' references -/
def xrf (tr c n : Nat) : Nat → Nat × Nat := fun j => if j < n then (tr, c + j) else (0, 0)
set_option maxHeartbeats 4000000 in
theorem xo_multi (F : xFix p s m args meth c M A ad D) {pc x tp tr : Nat} {L r : List xV} (hd : decode (xy M).2.1 pc = .ok (.multianewarray x 2, 4)) (hk : xkind tp = 4) (hty : xaty tp = .array .int) (hkr : xkind tr = 2) (hw : Cond.classLink (xow M) x "[[I" ∈ xGT) (hwa : Cond.arrayClass .int ∈ xGT) (hs1 : xsz tp ≤ 1000) (hs2 : xsz tr ≤ 1000) (hG : xrvG cnt ρ)
    (hcells : cells + (1 + xsz tp) ≤ R.cells) (hslots : slots + (xsz tp + xsz tp * xsz tr) ≤ R.slots)
    (k : ∀ (ad' : Nat → Nat → Nat) (ca' : Nat → Nat → ClassId), xExt cnt ad (xcn (xcnN cnt tr (xsz tp)) tp) ad' → xrvG (xcn (xcnN cnt tr (xsz tp)) tp) (xrw (xrN ρ tr (cnt tr) (xsz tp)) tp (cnt tp) (xrf tr (cnt tr) (xsz tp))) →
      xNx p l e R s m args below meth c (cells + 1 + xsz tp) (slots + xsz tp + xsz tp * xsz tr) Q M A ad' ca' D (xcn (xcnN cnt tr (xsz tp)) tp) (xrw (xrN ρ tr (cnt tr) (xsz tp)) tp (cnt tp) (xrf tr (cnt tr) (xsz tp))) (pc + 4) L (vR tp (cnt tp) :: r) (xzr (xzN σ tr (cnt tr) (xsz tp)) tp (cnt tp))) :
    xNx p l e R s m args below meth c cells slots Q M A ad ca D cnt ρ pc L (vI (xlen tr) :: vI (xlen tp) :: r) σ := by
  intro H locs ls hW hS hL hs
  obtain ⟨hx2, hs'⟩ := xoks_c.mp hs
  obtain ⟨hx1, hr⟩ := xoks_c.mp hs'
  have hk0 : xkind tp ≠ 0 := by omega
  have hk0' : xkind tr ≠ 0 := by omega
  have ht4 : 4 ≤ tp := xkind_4 hk0
  have ht4' : 4 ≤ tr := xkind_4 hk0'
  have hne : tp ≠ tr := by rintro rfl; omega
  obtain ⟨el1, hl1⟩ := xlen_ok (t := tp) (by omega)
  obtain ⟨el2, hl2⟩ := xlen_ok (t := tr) (by omega)
  have h01 : 0 ≤ xlen tp := by rw [el1]; omega
  have h02 : 0 ≤ xlen tr := by rw [el2]; omega
  have hN : (Int32.ofInt (xlen tp)).toNatClampNeg = xsz tp := by rw [xn_nat h01 hx1, el1]; rfl
  have hK : (Int32.ofInt (xlen tr)).toNatClampNeg = xsz tr := by rw [xn_nat h02 hx2, el2]; rfl
  obtain ⟨hx, hb, hml, -, hown, -, hts, hex, hA, hro, hKn, -⟩ := id F
  rw [List.map_cons, List.map_cons]
  refine xm_multi (own := xow M) (index := x) (n := Int32.ofInt (xlen tp)) (k := Int32.ofInt (xlen tr)) hx hb hown (hts _ hw) hex.2.2.1 (hts _ hwa) hd (fun q => by rw [xn_0, xn_lt hx1 xn_r0] at q; omega) (fun q => by rw [xn_0, xn_lt hx2 xn_r0] at q; omega) (by rw [hN]; exact hs1) (by rw [hK]; exact hs2) hS.1 (by rw [hN]; exact hcells) (by rw [hN, hK]; exact hslots) (fun H1 cA comp kA hfA hkA hkindA hfC hsz hout hold hrows => ?_)
  rw [hN] at hsz hout hrows
  rw [hK] at hrows
  rw [hN, hK]
  obtain ⟨comp', kC, cc, hcomp', hkC, hkindC⟩ := Cond.arrayClass_spec (hts _ hwa)
  obtain rfl : comp' = comp := Option.some.inj (hcomp'.symm.trans hfC)
  have hW1 := hW.kept hold
  have hrow : ArrOfT s comp' (xaty tr) ∧ va_RA s comp' (xaty tr) := by
    rw [xarr_2 hkr]
    exact ⟨fun N z => ⟨(fun k h => by cases h), kC, hkC, cc, hkindC⟩, hfC⟩
  obtain ⟨ad', ca', hW2, hG2, hx2', hlt2, hat2⟩ := xWd.rows (q := H.size + 1) (n := xsz tp) ht4' hkr hrow (fun j _ => hA _ (by have := hS.1; omega)) (fun j hj => hrows j hj) hW1 hG (fun a b hv => Nat.lt_succ_of_lt (hW.1 a b hv).lt)
  have ecp : xcnN cnt tr (xsz tp) tp = cnt tp := by unfold xcnN; rw [if_neg hne]
  have ecr : xcnN cnt tr (xsz tp) tr = cnt tr + xsz tp := by unfold xcnN; rw [if_pos rfl]
  have hadd := hW2.add (t := tp) (q := H.size) (cA := cA) (f := xrf tr (cnt tr) (xsz tp)) hG2 ht4 (fun a b hv => by
    rcases xvd_cnN hv with ho | ⟨rfl, hb1, hb2⟩
    · rw [(hx2'.1 a b (Or.inr (Or.inr (Or.inr ho)))).2]
      exact Nat.ne_of_lt (hW.1 a b ho).lt
    · have := hat2 (b - cnt a) (by omega)
      rw [show cnt a + (b - cnt a) = b by omega] at this
      omega) (hA _ hS.1) (fun j => by
    unfold xrf
    by_cases hj : j < xsz tp
    · rw [if_pos hj]
      exact Or.inr (Or.inr (Or.inr (Or.inr ⟨ht4', xkind_lt hk0', by rw [ecr]; show cnt tr + j < _; omega⟩)))
    · rw [if_neg hj]
      exact Or.inl rfl) (by
    rw [xE_q hk, xadd_at]
    show H1[H.size]? = some (vp_cell _ _)
    rw [vp_cell_q, hout]
    congr 1
    unfold arrV
    congr 2
    funext j
    have hz : xrw (xrN ρ tr (cnt tr) (xsz tp)) tp (xcnN cnt tr (xsz tp) tp) (xrf tr (cnt tr) (xsz tp)) tp (xcnN cnt tr (xsz tp) tp) j.val = (tr, cnt tr + j.val) := by
      unfold xrw xrf
      rw [if_pos ⟨rfl, rfl⟩, if_pos j.2]
    show Value.ref (Array.size H + 1 + j.val) = va_rf (cond (Nat.beq (xrw (xrN ρ tr (cnt tr) (xsz tp)) tp (xcnN cnt tr (xsz tp) tp) (xrf tr (cnt tr) (xsz tp)) tp (xcnN cnt tr (xsz tp) tp) j.val).1 0) none (some (xadd ad' tp (xcnN cnt tr (xsz tp) tp) (Array.size H) (xrw (xrN ρ tr (cnt tr) (xsz tp)) tp (xcnN cnt tr (xsz tp) tp) (xrf tr (cnt tr) (xsz tp)) tp (xcnN cnt tr (xsz tp) tp) j.val).1 (xrw (xrN ρ tr (cnt tr) (xsz tp)) tp (xcnN cnt tr (xsz tp) tp) (xrf tr (cnt tr) (xsz tp)) tp (xcnN cnt tr (xsz tp) tp) j.val).2)))
    rw [hz]
    show _ = va_rf (cond (Nat.beq tr 0) none (some (xadd ad' tp _ _ tr (cnt tr + j.val))))
    rw [xb0 hk0', xadd_ne (fun z => hne z.1.symm), hat2 j.val j.2]
    rfl) (fun _ => by
    rw [hty]
    exact ⟨fun N z => ⟨(fun k h => by cases h), kA, hkA, comp', hkindA⟩, hfA⟩)
  rw [ecp] at hadd
  have hx3 := hx2'.trans (xExt.one (t := tp) (q := H.size) ht4)
  rw [ecp] at hx3
  have h := k _ _ hx3 hadd.2 H1 locs ls hadd.1 ⟨Nat.le_trans hS.1 (by omega), fun q h1 h2 => (hold q (Nat.lt_of_lt_of_le h1 hS.1)).trans (hS.2.1 q h1 h2), hS.2.2⟩ (hx3.lr hL) (xoks_c.mpr ⟨Or.inr (Or.inr (Or.inr (Or.inr ⟨ht4, xkind_lt hk0, by show cnt tp < xcn _ tp tp; unfold xcn; rw [if_pos rfl, ecp]; omega⟩))), hx3.oks hr⟩)
  rw [List.map_cons, xcv_R (xb0 hk0), xadd_at, hx3.map hr] at h
  exact h
end XG2
