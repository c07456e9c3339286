/-! NEW CELLS: the constructors' instructions -/
def xadd {α : Type} (f : Nat → Nat → α) (t i : Nat) (q : α) : Nat → Nat → α := fun a b => if a = t ∧ b = i then q else f a b
def xcn (cnt : Nat → Nat) (t : Nat) : Nat → Nat := fun a => if a = t then cnt t + 1 else cnt a
def xzr (σ : xM) (t i : Nat) : xM := fun a b k => if a = t ∧ b = i then 0 else σ a b k
def xr0 (ρ : xP) (t i : Nat) : xP := fun a b k => if a = t ∧ b = i then (0, 0) else ρ a b k
def xru (ρ : xP) (t i k : Nat) (v : Nat × Nat) : xP := fun a b j => if a = t ∧ b = i ∧ j = k then v else ρ a b j
def xrvG (cnt : Nat → Nat) (ρ : xP) : Prop := ∀ t i k, (ρ t i k).1 = 0 ∨ xokr cnt (ρ t i k).1 (ρ t i k).2
section XA
variable {D : va_G} {ad : Nat → Nat → Nat} {ca : Nat → Nat → ClassId} {cnt : Nat → Nat} {ρ : xP} {σ : xM} {A : Nat → Prop} {U : State} {H H1 : Heap}
theorem xadd_at {α : Type} {f : Nat → Nat → α} {t i : Nat} {q : α} : xadd f t i q t i = q := by unfold xadd; rw [if_pos ⟨rfl, rfl⟩]
theorem xadd_ne {α : Type} {f : Nat → Nat → α} {t i a b : Nat} {q : α} (h : ¬ (a = t ∧ b = i)) : xadd f t i q a b = f a b := by unfold xadd; rw [if_neg h]
theorem xvd_cn {t a b : Nat} (h : xvd (xcn cnt t) a b) : (a = t ∧ b = cnt t) ∨ (¬ (a = t ∧ b = cnt t) ∧ xvd cnt a b) := by
  obtain ⟨h1, h2, h3⟩ := h
  unfold xcn at h3
  by_cases e : a = t
  · rw [if_pos e] at h3
    subst e
    by_cases e2 : b = cnt a
    · exact Or.inl ⟨rfl, e2⟩
    · exact Or.inr ⟨fun q => e2 q.2, h1, h2, by omega⟩
  · rw [if_neg e] at h3
    exact Or.inr ⟨fun q => e q.1, h1, h2, h3⟩
theorem xvd_up {t a b : Nat} (h : xvd cnt a b) : xvd (xcn cnt t) a b ∧ ¬ (a = t ∧ b = cnt t) := by
  obtain ⟨h1, h2, h3⟩ := h
  refine ⟨⟨h1, h2, ?_⟩, ?_⟩
  · unfold xcn
    by_cases e : a = t
    · rw [if_pos e]; subst e; omega
    · rw [if_neg e]; exact h3
  · rintro ⟨rfl, rfl⟩
    omega
theorem xokr_up {t a b : Nat} (h : xokr cnt a b) (ht : 4 ≤ t) : xokr (xcn cnt t) a b ∧ ¬ (a = t ∧ b = cnt t) := by
  rcases h with h | h | h | h
  · exact ⟨Or.inl h, fun q => by omega⟩
  · exact ⟨Or.inr (Or.inl h), fun q => by omega⟩
  · exact ⟨Or.inr (Or.inr (Or.inl h)), fun q => by omega⟩
  · exact ⟨Or.inr (Or.inr (Or.inr (xvd_up h).1)), (xvd_up h).2⟩
theorem xok_up {t : Nat} {v : xV} (h : xok cnt v) (ht : 4 ≤ t) : xok (xcn cnt t) v := by
  rcases v with x | x | q
  · exact h
  · exact h
  · rcases h with h | h
    · exact Or.inl h
    · exact Or.inr (xokr_up h ht).1
theorem xcv_up {t q : Nat} {v : xV} (h : xok cnt v) (ht : 4 ≤ t) : xcv (xadd ad t (cnt t) q) v = xcv ad v := by
  rcases v with x | x | z
  · rfl
  · rfl
  · simp only [xcv]
    rcases h with h | h
    · rw [show Nat.beq z.1 0 = true from by rw [h]; rfl]; rfl
    · rw [xadd_ne (xokr_up h ht).2]
theorem xmap_up {t q : Nat} : ∀ {r : List xV}, xoks cnt r → 4 ≤ t → r.map (xcv (xadd ad t (cnt t) q)) = r.map (xcv ad)
  | [], _, _ => rfl
  | v :: r, h, ht => by
    obtain ⟨h1, h2⟩ := xoks_c.mp h
    rw [List.map_cons, List.map_cons, xcv_up h1 ht, xmap_up h2 ht]
theorem xLr_up {M t q : Nat} {L : List xV} {ls : Array Slot} (h : xLr M cnt ad L ls) (ht : 4 ≤ t) : xLr M (xcn cnt t) (xadd ad t (cnt t) q) L ls :=
  ⟨h.1, h.2.1, h.2.2.1, fun k v hk => ⟨xok_up (h.2.2.2 k v hk).1 ht, (h.2.2.2 k v hk).2.1, fun hn => by rw [xcv_up (h.2.2.2 k v hk).1 ht]; exact (h.2.2.2 k v hk).2.2 hn⟩⟩
theorem xE_up {t q a b : Nat} {cA : ClassId} (hG : xrvG cnt ρ) (ht : 4 ≤ t) (hn : ¬ (a = t ∧ b = cnt t)) : xE (xadd ad t (cnt t) q) (xadd ca t (cnt t) cA) (xr0 ρ t (cnt t)) (xzr σ t (cnt t)) a b = xE ad ca ρ σ a b := by
  have e1 : ∀ k, xzr σ t (cnt t) a b k = σ a b k := fun k => by unfold xzr; rw [if_neg hn]
  have e2 : ∀ k, xr0 ρ t (cnt t) a b k = ρ a b k := fun k => by unfold xr0; rw [if_neg hn]
  have e3 : xadd ca t (cnt t) cA a b = ca a b := xadd_ne hn
  have e4 : ∀ k, xcv (xadd ad t (cnt t) q) (xfv (xr0 ρ t (cnt t)) (xzr σ t (cnt t)) a b k) = xcv ad (xfv ρ σ a b k) := by
    intro k
    have hf : xfv (xr0 ρ t (cnt t)) (xzr σ t (cnt t)) a b k = xfv ρ σ a b k := by
      unfold xfv
      rw [e1, e2]
    rw [hf]
    unfold xfv
    split
    · rcases hG a b k with h | h
      · exact xcv_up (cnt := cnt) (Or.inl h) ht
      · exact xcv_up (cnt := cnt) (Or.inr h) ht
    · cases hb : Nat.beq (σ a b k).toNat 0 with
      | true => rfl
      | false =>
        show Value.ref _ = Value.ref _
        rw [xadd_ne (fun z => by omega)]
    · rfl
  have e5 : (fun j => cond (Nat.beq (xr0 ρ t (cnt t) a b j).1 0) none (some (xadd ad t (cnt t) q (xr0 ρ t (cnt t) a b j).1 (xr0 ρ t (cnt t) a b j).2))) = fun j => cond (Nat.beq (ρ a b j).1 0) none (some (ad (ρ a b j).1 (ρ a b j).2)) := by
    funext j
    rw [e2]
    rcases hG a b j with h | h
    · rw [h]; rfl
    · rw [xadd_ne (xokr_up h ht).2]
  unfold xE
  split
  · rw [show (fun k => xcv (xadd ad t (cnt t) q) (xfv (xr0 ρ t (cnt t)) (xzr σ t (cnt t)) a b k)) = fun k => xcv ad (xfv ρ σ a b k) from funext e4]
  · rw [e5, e3]
  · rw [e3, show (fun j => Int32.ofInt (xzr σ t (cnt t) a b j)) = fun j => Int32.ofInt (σ a b j) from funext fun j => by rw [e1]]
theorem xWd.push {t q : Nat} {e : va_E} {cA : ClassId} (h : xWd D ad ca cnt ρ σ A U H) (hG : xrvG cnt ρ) (ht4 : 4 ≤ t) (hP : va_P D xcl (xW ad ca cnt ρ σ ++ [(q, e)]) H1) (hD : va_D A (xW ad ca cnt ρ σ ++ [(q, e)]))
    (he : e = xE (xadd ad t (cnt t) q) (xadd ca t (cnt t) cA) (xr0 ρ t (cnt t)) (xzr σ t (cnt t)) t (cnt t)) (harr : xkind t ≠ 1 → ArrOfT U cA (xaty t) ∧ va_RA U cA (xaty t)) :
    xWd D (xadd ad t (cnt t) q) (xadd ca t (cnt t) cA) (xcn cnt t) (xr0 ρ t (cnt t)) (xzr σ t (cnt t)) A U H1 ∧ xrvG (xcn cnt t) (xr0 ρ t (cnt t)) := by
  have hlast : (xW ad ca cnt ρ σ ++ [(q, e)])[(xW ad ca cnt ρ σ).length]? = some (q, e) := by simp
  have hold : ∀ a b, xvd cnt a b → ∃ k : Nat, k < (xW ad ca cnt ρ σ).length ∧ (xW ad ca cnt ρ σ ++ [(q, e)])[k]? = some (ad a b, xE ad ca ρ σ a b) := by
    intro a b hv
    obtain ⟨k, -, hk⟩ := xW_idx (ad := ad) (ca := ca) (ρ := ρ) (σ := σ) hv
    have hlt := (List.getElem?_eq_some_iff.mp hk).1
    exact ⟨k, hlt, by rw [List.getElem?_append_left hlt]; exact hk⟩
  have hG' : xrvG (xcn cnt t) (xr0 ρ t (cnt t)) := by
    intro a b k
    unfold xr0
    by_cases hc : a = t ∧ b = cnt t
    · rw [if_pos hc]; exact Or.inl rfl
    · rw [if_neg hc]
      rcases hG a b k with h | h
      · exact Or.inl h
      · exact Or.inr (xokr_up h ht4).1
  refine ⟨⟨fun a b hv => ?_, fun a b a' b' hv hv' e1 => ?_, fun a b hv => ?_, fun a b k => ?_, fun a b k _ _ => hG' a b k, fun a b hv hk => ?_⟩, hG'⟩
  · rcases xvd_cn hv with ⟨rfl, rfl⟩ | ⟨hn, ho⟩
    · have := hP _ _ hlast
      rw [he] at this
      rw [xadd_at]
      exact this
    · obtain ⟨k, -, hk⟩ := hold a b ho
      rw [xE_up hG ht4 hn, xadd_ne hn]
      exact hP _ _ hk
  · rcases xvd_cn hv with ⟨rfl, rfl⟩ | ⟨hn, ho⟩
    · rcases xvd_cn hv' with ⟨rfl, rfl⟩ | ⟨hn', ho'⟩
      · exact ⟨rfl, rfl⟩
      · obtain ⟨k, hlt, hk⟩ := hold a' b' ho'
        rw [xadd_at, xadd_ne hn'] at e1
        have := hD.1 _ _ _ _ hlast hk e1
        omega
    · rcases xvd_cn hv' with ⟨rfl, rfl⟩ | ⟨hn', ho'⟩
      · obtain ⟨k, hlt, hk⟩ := hold a b ho
        rw [xadd_at, xadd_ne hn] at e1
        have := hD.1 _ _ _ _ hk hlast e1
        omega
      · rw [xadd_ne hn, xadd_ne hn'] at e1
        exact h.2.1 a b a' b' ho ho' e1
  · rcases xvd_cn hv with ⟨rfl, rfl⟩ | ⟨hn, ho⟩
    · rw [xadd_at]; exact hD.2 _ _ hlast
    · rw [xadd_ne hn]; exact h.2.2.1 a b ho
  · unfold xzr
    by_cases hc : a = t ∧ b = cnt t
    · rw [if_pos hc]; exact ⟨by decide, by decide⟩
    · rw [if_neg hc]; exact h.2.2.2.1 a b k
  · rcases xvd_cn hv with ⟨rfl, rfl⟩ | ⟨hn, ho⟩
    · rw [xadd_at]; exact harr hk
    · rw [xadd_ne hn]; exact h.2.2.2.2.2 a b ho hk
end XA
theorem xROk.ad {ad ad' : Nat → Nat → Nat} {A : Nat → Prop} {U : State} {H : Heap} (ha : ∀ t i, t < 4 → ad' t i = ad t i) (h : xROk ad A U H) : xROk ad' A U H := by
  unfold xROk at h ⊢
  rw [ha 3 0 (by decide), show (fun i => ad' 1 (i + 1)) = fun i => ad 1 (i + 1) from funext fun i => ha 1 _ (by decide), show (fun i => ad' 2 (i + 1)) = fun i => ad 2 (i + 1) from funext fun i => ha 2 _ (by decide)]
  exact h
theorem xEx.ad {ad ad' : Nat → Nat → Nat} {U : State} (ha : ∀ t i, t < 4 → ad' t i = ad t i) (h : xEx ad U) : xEx ad' U :=
  ⟨h.1, h.2.1, h.2.2.1, fun q hq => by rw [ha 1 _ (by decide)]; exact h.2.2.2 q hq⟩
theorem xFix.ad {p : Program} {s : State} {m : MethodId} {args : Array Value} {meth : Method} {c : Code} {M : Nat} {A : Nat → Prop} {ad ad' : Nat → Nat → Nat} {D : va_G} (ha : ∀ t i, t < 4 → ad' t i = ad t i) (h : xFix p s m args meth c M A ad D) : xFix p s m args meth c M A ad' D :=
  ⟨h.1, h.2.1, h.2.2.1, h.2.2.2.1, h.2.2.2.2.1, h.2.2.2.2.2.1, h.2.2.2.2.2.2.1, h.2.2.2.2.2.2.2.1.ad ha, h.2.2.2.2.2.2.2.2.1, h.2.2.2.2.2.2.2.2.2.1.ad ha, h.2.2.2.2.2.2.2.2.2.2.1, h.2.2.2.2.2.2.2.2.2.2.2⟩
theorem xadd_lo {ad : Nat → Nat → Nat} {t i q : Nat} (ht : 4 ≤ t) : ∀ a b, a < 4 → xadd ad t i q a b = ad a b := fun a b h => xadd_ne (fun z => by omega)
/-- what a new object holds -/
def xdef (t k : Nat) : Value := match xft t k with
  | 1 => .null
  | 2 => .null
  | _ => .int 0
theorem xdefault {ty : FieldType} (h : ty.isReference = true) : defaultValue ty = .null := by cases ty <;> first | rfl | cases h
section XB
variable {p : Program} {l : Launch} {e : Env} {R : Room} {s : State} {m : MethodId} {args : Array Value} {below : List Frame} {meth : Method} {c : Code} {cells slots : Nat} {Q : State → Prop}
variable {A : Nat → Prop} {ad : Nat → Nat → Nat} {ca : Nat → Nat → ClassId} {D : va_G} {cnt : Nat → Nat} {ρ : xP} {σ : xM} {H : Heap} {locs : List Loc}
/-- new, at any frame -/
theorem xq_new {cc : ByteArray} {own : String} {x t pc : Nat} {ls : Array Slot} {rest : List Value} (hx : p.tables.exec = Jvm.exec) (hb : c.code = cc) (hts : ∀ w ∈ xGT, w.before args s = true) (hown : s.vm.findClass own = some m.cls) (hK : va_K D xcl [] s) (hA : ∀ q : Nat, s.heap.size ≤ q → A q) (hW : xWd D ad ca cnt ρ σ A s H) (hG : xrvG cnt ρ) (hS : va_S A s.heap H locs)
    (ht : xkind t = 1) (hcl : Cond.classLink own x (xCt t) ∈ xGT) (hinst : Cond.instantiable (xCt t) (xsz t) ∈ xGT) (hini : Cond.initialized (xCt t) ∈ xGT) (hcells : cells + 1 ≤ R.cells) (hslots : slots + xsz t ≤ R.slots) (hd : decode cc pc = .ok (.new x, 3))
    (k : ∀ (q : Nat) (H1 : Heap), xWd D (xadd ad t (cnt t) q) (xadd ca t (cnt t) 0) (xcn cnt t) (xr0 ρ t (cnt t)) (xzr σ t (cnt t)) A s H1 → xrvG (xcn cnt t) (xr0 ρ t (cnt t)) → va_S A s.heap H1 locs → W p l e R s m args below meth c H1 locs (cells + 1) (slots + xsz t) Q (F0 m (pc + 3) ls (.ref q :: rest))) :
    W p l e R s m args below meth c H locs cells slots Q (F0 m pc ls rest) := by
  have ht4 : 4 ≤ t := xkind_4 (by rw [ht]; decide)
  refine va_new (fs := (List.range (xsz t)).map (xdef t)) hx hb hts (xcl_lay ht) (xty t) (xty_ok ht) hown (hts _ hcl) (hts _ hinst) (hts _ hini) hK hW.P hW.Dd hS hA (xcl_at ht) (fun j hj => ?_) hcells hslots hd (fun q H1 hP1 hD1 hS1 => ?_)
  · have hfs : vp_V ((List.range (xsz t)).map (xdef t)) j = xdef t j := by
      unfold vp_V
      rw [List.getD_eq_getElem?_getD, xrng_map hj]
      rfl
    rw [hfs]
    have h := xfty ht hj
    unfold xdef
    split at h
    · rename_i e1
      rw [e1, (of_decide_eq_true h).1]
      rfl
    · rename_i e1
      rw [e1, xdefault (of_decide_eq_true h)]
      rfl
    · rename_i e1
      rw [e1, (of_decide_eq_true h).1]
      rfl
    · rename_i e1
      rw [e1, (of_decide_eq_true h).1]
      rfl
    · cases h
  · have he : (Sum.inr (xci t, (List.range (xsz t)).map (xdef t)) : va_E) = xE (xadd ad t (cnt t) q) (xadd ca t (cnt t) 0) (xr0 ρ t (cnt t)) (xzr σ t (cnt t)) t (cnt t) := by
      unfold xE
      rw [ht]
      show _ = Sum.inr (xci t, _)
      congr 2
      apply List.map_congr_left
      intro k _
      unfold xdef xfv xr0 xzr
      split
      · rename_i e1; rw [e1]; simp [xcv]
      · rename_i e1; rw [e1]; simp [xcv]
      · rename_i e1 e2
        split
        · rename_i e3; exact absurd e3 e1
        · rename_i e3; exact absurd e3 e2
        · simp [xcv]
    obtain ⟨hW1, hG1⟩ := hW.push hG ht4 hP1 hD1 he (fun hn => absurd ht hn)
    exact k q H1 hW1 hG1 hS1
end XB
