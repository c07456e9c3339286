/-! MANY STEPS: what the plain machine comes to, the machine comes to -/
theorem xents_len (ad : Nat → Nat → Nat) : ∀ (as : List xV), (lg_sl (as.map (xcv ad))).length = (xents as).length
  | [] => rfl
  | v :: r => by
    have ih := xents_len ad r
    unfold lg_sl at ih ⊢
    rw [List.map_cons, List.flatMap_cons, List.length_append, ih]
    rcases v with x | x | q
    · show 1 + _ = (xents r).length + 1
      omega
    · show 2 + _ = (xents r).length + 1 + 1
      omega
    · show _ = (xents r).length + 1
      have h1 : (xcv ad (.inr (.inr q))).category = 1 := xcat1 (fun z e => by cases e)
      rw [h1, if_neg (by decide)]
      show 1 + _ = _
      omega
theorem xents_args (ad : Nat → Nat → Nat) : ∀ (as : List xV) (off j : Nat) (v : xV), (xents as)[j]? = some v → xnn v = true → (off + j, xcv ad v) ∈ lv_args off (as.map (xcv ad))
  | [], _, _, _, h, _ => by cases h
  | a :: r, off, j, v, h, hn => by
    rw [List.map_cons]
    simp only [lv_args]
    rcases a with x | x | q
    · cases j with
      | zero =>
        obtain rfl := Option.some.inj (show some (vI x) = some v from h)
        exact List.mem_cons_self
      | succ j =>
        have := xents_args ad r (off + 1) j v h hn
        rw [show off + (j + 1) = off + 1 + j by omega]
        exact List.mem_cons_of_mem _ this
    · match j, h with
      | 0, h =>
        obtain rfl := Option.some.inj (show some (vL x) = some v from h)
        exact List.mem_cons_self
      | 1, h =>
        obtain rfl := Option.some.inj (show some (vR 0 0) = some v from h)
        cases hn
      | j + 2, h =>
        have := xents_args ad r (off + 2) j v h hn
        rw [show off + (j + 2) = off + 2 + j by omega]
        exact List.mem_cons_of_mem _ this
    · have h1 : (xcv ad (.inr (.inr q))).category = 1 := xcat1 (fun z e => by cases e)
      rw [h1, if_neg (by decide)]
      cases j with
      | zero =>
        obtain rfl := Option.some.inj (show some (Sum.inr (Sum.inr q)) = some v from h)
        exact List.mem_cons_self
      | succ j =>
        have := xents_args ad r (off + 1) j v h hn
        rw [show off + (j + 1) = off + 1 + j by omega]
        exact List.mem_cons_of_mem _ this
theorem xents_ok {cnt : Nat → Nat} : ∀ (as : List xV), xoks cnt as → ∀ (j : Nat) (v : xV), (xents as)[j]? = some v → xok cnt v
  | [], _, _, _, h => by cases h
  | a :: r, hs, j, v, h => by
    obtain ⟨h1, h2⟩ := xoks_c.mp hs
    rcases a with x | x | q
    · cases j with
      | zero =>
        obtain rfl := Option.some.inj (show some (vI x) = some v from h)
        exact h1
      | succ j => exact xents_ok r h2 j v h
    · match j, h with
      | 0, h =>
        obtain rfl := Option.some.inj (show some (vL x) = some v from h)
        exact h1
      | 1, h =>
        obtain rfl := Option.some.inj (show some (vR 0 0) = some v from h)
        exact Or.inl rfl
      | j + 2, h => exact xents_ok r h2 j v h
    · cases j with
      | zero =>
        obtain rfl := Option.some.inj (show some (Sum.inr (Sum.inr q)) = some v from h)
        exact h1
      | succ j => exact xents_ok r h2 j v h
theorem xpad_at : ∀ (n j : Nat) (v : xV), (xpad n)[j]? = some v → v = vR 0 0
  | 0, _, _, h => by cases h
  | n + 1, 0, v, h => (Option.some.inj h).symm
  | n + 1, j + 1, v, h => xpad_at n j v h
theorem xpad_len : ∀ (n : Nat), (xpad n).length = n
  | 0 => rfl
  | n + 1 => congrArg (· + 1) (xpad_len n)
theorem xfit_len : ∀ (l : List xV) (n : Nat), (xfit l n).length = n
  | l, 0 => by cases l <;> rfl
  | [], n + 1 => xpad_len (n + 1)
  | v :: r, n + 1 => congrArg (· + 1) (xfit_len r n)
theorem xfit_at : ∀ (l : List xV) (n j : Nat) (v : xV), (xfit l n)[j]? = some v → l[j]? = some v ∨ v = vR 0 0
  | l, 0, j, v, h => by cases l <;> cases h
  | [], n + 1, j, v, h => Or.inr (xpad_at (n + 1) j v h)
  | a :: r, n + 1, 0, v, h => Or.inl h
  | a :: r, n + 1, j + 1, v, h => xfit_at r n j v h
theorem xlr_entry {k : Nat} {ad : Nat → Nat → Nat} {as : List xV} (hs : xoks xcnt as) (hl : ∀ j z, (xents as)[j]? = some (vL z) → xlg k j = true) (hn : (xents as).length ≤ (xrec k).2.1) :
    xLr k xcnt ad (xent k as) ((lg_sl (as.map (xcv ad)) ++ List.replicate ((xrec k).2.1 - (lg_sl (as.map (xcv ad))).length) Slot.unset).toArray) := by
  have h := lv_entry (as.map (xcv ad)) (n := (xrec k).2.1) (by rw [xents_len]; exact hn)
  refine ⟨h.1, h.2.1, xfit_len _ _, fun j v hj => ?_⟩
  rcases xfit_at _ _ _ _ hj with h1 | rfl
  · refine ⟨xents_ok as hs j v h1, fun z e => hl j z (by rw [← e]; exact h1), fun hv => ?_⟩
    have h2 := h.2.2 _ (xents_args ad as 0 j v h1 hv)
    rw [Nat.zero_add] at h2
    exact h2
  · exact ⟨Or.inl rfl, fun z e => (by cases e), fun hv => (by cases hv)⟩
theorem xmet_of {l : Launch} {d k : Nat} {as : List xV} {σ : xM} {Qk : Int → xM → Prop} (hk : k < xN) (hl : ∀ j z, (xents as)[j]? = some (vL z) → xlg k j = true) (hn : (xents as).length ≤ (xrec k).2.1)
    (H : ∀ (p : Program) (e : Env) (R : Room) (s : State) (m : MethodId) (args : Array Value) (below : List Frame) (meth : Method) (c : Code) (A : Nat → Prop) (ad : Nat → Nat → Nat) (ca : Nat → Nat → ClassId) (D : va_G), xFix p s m args meth c k A ad D → d + 1 ≤ R.frames → 40 * d + 40 ≤ R.locals →
      xNx p l e R s m args below meth c 0 0 (MQ below (xQc (xvoid k) Qk (fun σ' t => xWd D ad ca xcnt xrho σ' A t t.heap) A) args s 0 0 A) k A ad ca D xcnt xrho 0 (xent k as) [] σ) : xMet l d k as σ Qk := by
  intro D ad ca sz
  refine Met.ofW (cc := (xy k).2.1) (maxL := (xrec k).2.1) (ret := (xy k).2.2) (xm_a hk).2.2.2.2 rfl ?_
  intro p e s m args below meth c s₁ B hml hv
  obtain ⟨rfl, hsz, hW, hK, hex, hro, hoks⟩ := hv
  subst hsz
  have hown : s.vm.findClass (xow k) = some m.cls := by
    rw [← (xm_a hk).2.2.1]
    exact findClass_of_methodNamed B.named
  have F : xFix p s m (as.map (xcv ad)).toArray meth c k (xAs ad xcnt s.heap.size) ad D := ⟨B.exec, B.bytes, hml, B.returns, hown, B.notSynchronized, fun w hw => atoms_spec (ws := xws k) B.pre w (List.mem_cons_of_mem _ hw), hex, fun q h => Or.inr h, hro, hK, (name_of_methodNamed B.named B.method).1⟩
  rw [lg_entry_eq]
  exact H p e _ s m _ below meth c _ ad ca D F (Nat.le_refl _) (Nat.le_refl _) s.heap [] _ hW va_S.rf (xlr_entry hoks hl hn) (fun v hv => by cases hv)
theorem xents_nl : ∀ (as : List xV), xnl as = true → xents as = as
  | [], _ => rfl
  | .inl x :: r, h => congrArg _ (xents_nl r h)
  | .inr (.inl x) :: r, h => by cases h
  | .inr (.inr q) :: r, h => congrArg _ (xents_nl r h)
theorem xnl_no : ∀ (as : List xV), xnl as = true → ∀ (j : Nat) (z : Int), as[j]? ≠ some (vL z)
  | [], _, _, _, h => by cases h
  | .inl x :: r, hn, 0, z, h => by cases h
  | .inl x :: r, hn, j + 1, z, h => xnl_no r hn j z h
  | .inr (.inl x) :: r, hn, _, _, _ => by cases hn
  | .inr (.inr q) :: r, hn, 0, z, h => by cases h
  | .inr (.inr q) :: r, hn, j + 1, z, h => xnl_no r hn j z h
theorem xF_succ (n d M pc : Nat) (L st : List xV) (σ : xM) (Q : Int → xM → Prop) : xF (n + 1) d M pc L st σ Q = (match xat M pc with
    | none => False
    | some q => xstp q.1 M pc L st σ (fun pc' L' st' σ' => xF n d M pc' L' st' σ' Q)
        (fun k as r => match d with
          | 0 => False
          | d' + 1 => xF n d' k 0 (xent k as) [] σ (fun v σ' => xF n (d' + 1) M (pc + 3) L (xpush k v r) σ' Q))
        (fun v => Q v σ)) := rfl
theorem xsim (l : Launch) : ∀ (n d M pc : Nat) (L st : List xV) (σ : xM) (Qm : Int → xM → Prop), xF n d M pc L st σ Qm → ∀ (p : Program) (e : Env) (R : Room) (s : State) (m : MethodId) (args : Array Value) (below : List Frame) (meth : Method) (c : Code) (A : Nat → Prop) (ad : Nat → Nat → Nat) (ca : Nat → Nat → ClassId) (D : va_G), xFix p s m args meth c M A ad D → d + 1 ≤ R.frames → 40 * d + 40 ≤ R.locals →
      xNx p l e R s m args below meth c 0 0 (MQ below (xQc (xvoid M) Qm (fun σ' t => xWd D ad ca xcnt xrho σ' A t t.heap) A) args s 0 0 A) M A ad ca D xcnt xrho pc L st σ
  | 0, _, _, _, _, _, _, _, h => by cases h
  | n + 1, d, M, pc, L, st, σ, Qm, h => by
    intro p e R s m args below meth c A ad ca D F hRf hRl
    rw [xF_succ] at h
    cases hat : xat M pc with
    | none => rw [hat] at h; exact h.elim
    | some q =>
      rw [hat] at h
      obtain ⟨hd, hok, hM⟩ := xat_ok hat
      refine xstep0 F (by omega) (by omega) (Nat.zero_le _) (Nat.zero_le _) (fun pc' L' st' σ' hk => xsim l n d M pc' L' st' σ' Qm hk p e R s m args below meth c A ad ca D F hRf hRl) ?_ (fun v hv => hv) hM q.1 q.2 hd hok h
      intro k as r hkN hnl hlen hC
      cases d with
      | zero => exact hC.elim
      | succ d' =>
        refine ⟨d', _, ⟨hRf, by omega⟩, xmet_of hkN (fun j z hz => ?_) ?_ (fun p e R s m args below meth c A ad ca D F h1 h2 => xsim l n d' k 0 (xent k as) [] σ _ hC p e R s m args below meth c A ad ca D F h1 h2), fun v σ' _ hq => xsim l n (d' + 1) M (pc + 3) L (xpush k v r) σ' Qm hq p e R s m args below meth c A ad ca D F hRf hRl⟩
        · rw [xents_nl as hnl] at hz
          exact absurd hz (xnl_no as hnl j z)
        · rw [xents_nl as hnl, hlen]
          exact (xna hkN).1
/-- what the plain machine says of a method is its contract -/
theorem xmet {l : Launch} {d k : Nat} {as : List xV} {σ : xM} {Q : Int → xM → Prop} (hk : k < xN) (hl : ∀ j z, (xents as)[j]? = some (vL z) → xlg k j = true) (hn : (xents as).length ≤ (xrec k).2.1) (h : Ev d k 0 (xent k as) [] σ Q) : xMet l d k as σ Q := by
  obtain ⟨n, h⟩ := h
  exact xmet_of hk hl hn (fun p e R s m args below meth c A ad ca D F h1 h2 => xsim l n d k 0 (xent k as) [] σ Q h p e R s m args below meth c A ad ca D F h1 h2)
