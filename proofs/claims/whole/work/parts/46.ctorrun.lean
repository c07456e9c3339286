/-! CONSTRUCTORS: what was reckoned, the machine does -/
theorem xcnd_t {α : Type} {b : Bool} {x : Option α} {y : α} (h : cond b x none = some y) : b = true ∧ x = some y := by
  cases b with
  | false => cases h
  | true => exact ⟨rfl, h⟩
theorem xcnd_f {α : Type} {b : Bool} {x : Option α} {y : α} (h : cond b none x = some y) : b = false ∧ x = some y := by
  cases b with
  | true => cases h
  | false => exact ⟨rfl, h⟩
theorem xgchk_ok {g1 gf : xGt} {o : Option xGt} (h : xgchk g1 o = some gf) : o = some gf ∧ gf.2.2.2.1 ≤ g1.2.2.2.1 ∧ gf.2.2.2.2 ≤ g1.2.2.2.2 := by
  unfold xgchk at h
  cases o with
  | none => cases h
  | some g =>
    obtain ⟨hb, h⟩ := xcnd_t h
    cases h
    have hb := Bool.and_eq_true _ _ ▸ hb
    exact ⟨rfl, Nat.le_of_ble_eq_true hb.1, Nat.le_of_ble_eq_true hb.2⟩
theorem xsl_free : ∀ (l : List (Nat × Nat × Nat × Int)) (t i : Nat), xfree l t i = true → xzr (xsl l) t i = xsl l
  | [], t, i, _ => by
    funext a b k
    unfold xzr
    by_cases h : a = t ∧ b = i
    · rw [if_pos h]; rfl
    · rw [if_neg h]
  | e :: l, t, i, h => by
    have h := Bool.and_eq_true _ _ ▸ (show (!(Nat.beq e.1 t && Nat.beq e.2.1 i) && xfree l t i) = true from h)
    have ih := xsl_free l t i h.2
    funext a b k
    have ihk := congrFun (congrFun (congrFun ih a) b) k
    unfold xzr at ihk ⊢
    by_cases hc : a = t ∧ b = i
    · rw [if_pos hc] at ihk ⊢
      show 0 = xup (xsl l) e.1 e.2.1 e.2.2.1 e.2.2.2 a b k
      unfold xup
      rw [if_neg]
      · exact ihk
      · rintro ⟨h1, h2, -⟩
        have : (Nat.beq e.1 t && Nat.beq e.2.1 i) = true := by rw [← h1, ← h2, hc.1, hc.2, Nat.beq_refl, Nat.beq_refl]; rfl
        rw [this] at h
        exact Bool.false_ne_true h.1
    · rw [if_neg hc]
theorem xsl_freN : ∀ (l : List (Nat × Nat × Nat × Int)) (t i n : Nat), xfreN l t i n = true → xzN (xsl l) t i n = xsl l
  | [], t, i, n, _ => by
    funext a b k
    unfold xzN
    by_cases h : a = t ∧ i ≤ b ∧ b < i + n
    · rw [if_pos h]; rfl
    · rw [if_neg h]
  | e :: l, t, i, n, h => by
    have h := Bool.and_eq_true _ _ ▸ (show (!(Nat.beq e.1 t && Nat.ble i e.2.1 && Nat.blt e.2.1 (i + n)) && xfreN l t i n) = true from h)
    have ih := xsl_freN l t i n h.2
    funext a b k
    have ihk := congrFun (congrFun (congrFun ih a) b) k
    unfold xzN at ihk ⊢
    by_cases hc : a = t ∧ i ≤ b ∧ b < i + n
    · rw [if_pos hc] at ihk ⊢
      show 0 = xup (xsl l) e.1 e.2.1 e.2.2.1 e.2.2.2 a b k
      unfold xup
      rw [if_neg]
      · exact ihk
      · rintro ⟨h1, h2, -⟩
        have : (Nat.beq e.1 t && Nat.ble i e.2.1 && Nat.blt e.2.1 (i + n)) = true := by
          rw [← h1, ← h2, hc.1, Nat.beq_refl, Nat.ble_eq_true_of_le hc.2.1]
          exact Nat.ble_eq_true_of_le hc.2.2
        rw [this] at h
        exact Bool.false_ne_true h.1
    · rw [if_neg hc]
theorem xlr_entryG {k : Nat} {cnt : Nat → Nat} {ad : Nat → Nat → Nat} {as : List xV} (hs : xoks cnt as) (hl : ∀ j z, (xents as)[j]? = some (vL z) → xlg k j = true) (hn : (xents as).length ≤ (xrec k).2.1) :
    xLr k cnt ad (xent k as) ((lg_sl (as.map (xcv ad)) ++ List.replicate ((xrec k).2.1 - (lg_sl (as.map (xcv ad))).length) Slot.unset).toArray) := by
  have h := lv_entry (as.map (xcv ad)) (n := (xrec k).2.1) (by rw [xents_len]; exact hn)
  refine ⟨h.1, h.2.1, xfit_len _ _, fun j v hj => ?_⟩
  rcases xfit_at _ _ _ _ hj with h1 | rfl
  · refine ⟨xents_ok as hs j v h1, fun z e => hl j z (by rw [← e]; exact h1), fun hv => ?_⟩
    have h2 := h.2.2 _ (xents_args ad as 0 j v h1 hv)
    rw [Nat.zero_add] at h2
    exact h2
  · exact ⟨Or.inl rfl, fun z e => (by cases e), fun hv => (by cases hv)⟩
/-- out of the frame's rows, the contract -/
theorem xcon_of {l : Launch} {d k t i : Nat} {g gf : xGt} (hk : k < xN) (hn : 1 ≤ (xrec k).2.1) (hG : xrvG g.1 g.2.1)
    (H : ∀ (p : Program) (e : Env) (R : Room) (s : State) (m : MethodId) (args : Array Value) (below : List Frame) (meth : Method) (c : Code) (A : Nat → Prop) (ad : Nat → Nat → Nat) (ca : Nat → Nat → ClassId) (D : va_G), xFix p s m args meth c k A ad D → d + 1 ≤ R.frames → 40 * d + 40 ≤ R.locals → g.2.2.2.1 - gf.2.2.2.1 ≤ R.cells → g.2.2.2.2 - gf.2.2.2.2 ≤ R.slots →
      xNx p l e R s m args below meth c 0 0 (MQ below (xQg g.1 ad gf D A) args s (g.2.2.2.1 - gf.2.2.2.1) (g.2.2.2.2 - gf.2.2.2.2) A) k A ad ca D g.1 g.2.1 0 (xent k [vR t i]) [] (xsl g.2.2.1)) : xCon l d k [vR t i] g gf := by
  intro D ad ca sz
  refine Met.ofW (cc := (xy k).2.1) (maxL := (xrec k).2.1) (ret := (xy k).2.2) (xm_a hk).2.2.2.2 rfl ?_
  intro p e s m args below meth c s₁ B hml hv
  obtain ⟨rfl, hsz, hW, -, hK, hex, hro, hoks⟩ := hv
  subst hsz
  have hown : s.vm.findClass (xow k) = some m.cls := by
    rw [← (xm_a hk).2.2.1]
    exact findClass_of_methodNamed B.named
  have F : xFix p s m ([vR t i].map (xcv ad)).toArray meth c k (xAs ad g.1 s.heap.size) ad D := ⟨B.exec, B.bytes, hml, B.returns, hown, B.notSynchronized, fun w hw => atoms_spec (ws := xws k) B.pre w (List.mem_cons_of_mem _ hw), hex, fun q h => Or.inr h, hro, hK, (name_of_methodNamed B.named B.method).1⟩
  rw [lg_entry_eq]
  exact H p e _ s m _ below meth c _ ad ca D F (Nat.le_refl _) (Nat.le_refl _) (Nat.le_refl _) (Nat.le_refl _) s.heap [] _ hW va_S.rf (xlr_entryG hoks (fun j z hz => by
    cases j with
    | zero => cases hz
    | succ j => cases hz) hn) (fun v hv => by cases hv)
theorem xrvG_new {cnt : Nat → Nat} {ρ : xP} {t : Nat} (ht4 : 4 ≤ t) (hG : xrvG cnt ρ) : xrvG (xcn cnt t) (xr0 ρ t (cnt t)) := by
  intro a b k
  unfold xr0
  by_cases hc : a = t ∧ b = cnt t
  · rw [if_pos hc]; exact Or.inl rfl
  · rw [if_neg hc]
    rcases hG a b k with h | h
    · exact Or.inl h
    · exact Or.inr (xokr_up h ht4).1
set_option maxHeartbeats 4000000 in
theorem xGsim (l : Launch) : ∀ (n M pc : Nat) (L st : List xV) (g gf : xGt), xG n M pc L st g = some gf → ∀ (p : Program) (e : Env) (R : Room) (s : State) (m : MethodId) (args : Array Value) (below : List Frame) (meth : Method) (c : Code) (A : Nat → Prop) (ad : Nat → Nat → Nat) (ca : Nat → Nat → ClassId) (D : va_G) (cnt0 : Nat → Nat) (ad0 : Nat → Nat → Nat) (cells slots N0 S0 : Nat), xFix p s m args meth c M A ad D → n + 1 ≤ R.frames → 40 * n + 40 ≤ R.locals →
      cells + g.2.2.2.1 = N0 → slots + g.2.2.2.2 = S0 → N0 ≤ R.cells + gf.2.2.2.1 → S0 ≤ R.slots + gf.2.2.2.2 → xExt cnt0 ad0 g.1 ad → xrvG g.1 g.2.1 →
      xNx p l e R s m args below meth c cells slots (MQ below (xQg cnt0 ad0 gf D A) args s (N0 - gf.2.2.2.1) (S0 - gf.2.2.2.2) A) M A ad ca D g.1 g.2.1 pc L st (xsl g.2.2.1)
  | 0, _, _, _, _, _, _, h => by cases h
  | n + 1, M, pc, L, st, g, gf, h => by
    intro p e R s m args below meth c A ad ca D cnt0 ad0 cells slots N0 S0 F hRf hRl hc hs hN hS hx hG
    have ih := xGsim l n
    have K : ∀ pc' L' st', xG n M pc' L' st' g = some gf → xNx p l e R s m args below meth c cells slots (MQ below (xQg cnt0 ad0 gf D A) args s (N0 - gf.2.2.2.1) (S0 - gf.2.2.2.2) A) M A ad ca D g.1 g.2.1 pc' L' st' (xsl g.2.2.1) :=
      fun pc' L' st' h => ih M pc' L' st' g gf h p e R s m args below meth c A ad ca D cnt0 ad0 cells slots N0 S0 F (by omega) (by omega) hc hs hN hS hx hG
    have K2 : ∀ ρ' l' pc' L' st', xrvG g.1 ρ' → xG n M pc' L' st' (g.1, ρ', l', g.2.2.2) = some gf → xNx p l e R s m args below meth c cells slots (MQ below (xQg cnt0 ad0 gf D A) args s (N0 - gf.2.2.2.1) (S0 - gf.2.2.2.2) A) M A ad ca D g.1 ρ' pc' L' st' (xsl l') :=
      fun ρ' l' pc' L' st' hG' h => ih M pc' L' st' (g.1, ρ', l', g.2.2.2) gf h p e R s m args below meth c A ad ca D cnt0 ad0 cells slots N0 S0 F (by omega) (by omega) hc hs hN hS hx hG'
    unfold xG at h
    cases hat : xat M pc with
    | none => rw [hat] at h; cases h
    | some q =>
      rw [hat] at h
      obtain ⟨hd, hok, hM⟩ := xat_ok hat
      obtain ⟨ins, nn⟩ := q
      dsimp only at h hd hok
      cases ins
      all_goals try exact absurd (show none = some gf from h) (fun q => by cases q)
      all_goals try dsimp only at h
      case iconst z =>
        have hok := Bool.and_eq_true _ _ ▸ hok
        obtain rfl : nn = 1 := Nat.eq_of_beq_eq_true hok.1
        have h2 := of_decide_eq_true hok.2
        exact xo_iconst F hd (show xr z from ⟨by omega, by omega⟩) (K _ _ _ h)
      case bipush z =>
        have hok := Bool.and_eq_true _ _ ▸ hok
        obtain rfl : nn = 2 := Nat.eq_of_beq_eq_true hok.1
        exact xo_bipush F hd (of_decide_eq_true hok.2) (K _ _ _ h)
      case sipush z =>
        have hok := Bool.and_eq_true _ _ ▸ hok
        obtain rfl : nn = 3 := Nat.eq_of_beq_eq_true hok.1
        exact xo_sipush F hd (of_decide_eq_true hok.2) (K _ _ _ h)
      case ldc x =>
        obtain rfl : nn = 2 := Nat.eq_of_beq_eq_true hok
        split at h
        · rename_i z hz1 hz2
          exact xo_ldcS F hd hz2 (K _ _ _ h)
        · cases h
      case iload_n k =>
        obtain rfl : nn = 1 := Nat.eq_of_beq_eq_true hok
        split at h
        · rename_i x hx1
          exact xo_iload_n F hd hx1 (K _ _ _ h)
        · cases h
      case aload_n k =>
        obtain rfl : nn = 1 := Nat.eq_of_beq_eq_true hok
        split at h
        · rename_i q hq
          obtain ⟨hb, h⟩ := xcnd_f h
          exact xo_aload_n F hd hq hb (K _ _ _ h)
        · cases h
      case istore_n k =>
        have hok := Bool.and_eq_true _ _ ▸ hok
        obtain rfl : nn = 1 := Nat.eq_of_beq_eq_true hok.1
        split at h
        · obtain ⟨hb, h⟩ := xcnd_f h
          exact xo_istore_n F hd (Nat.le_of_ble_eq_true hok.2) hb (K _ _ _ h)
        · cases h
      case iinc k z =>
        have hok := Bool.and_eq_true _ _ ▸ hok
        obtain rfl : nn = 3 := Nat.eq_of_beq_eq_true hok.1
        split at h
        · rename_i x hx1
          obtain ⟨hb, h⟩ := xcnd_f h
          exact xo_iinc F hd (Nat.le_of_ble_eq_true hok.2) hb hx1 (K _ _ _ h)
        · cases h
      case if_icmp cd z =>
        have hok := Bool.and_eq_true _ _ ▸ hok
        obtain rfl : nn = 3 := Nat.eq_of_beq_eq_true hok.1
        split at h
        · rename_i y x r
          refine xo_if_icmp F hd (xjmp_ok hok.2) ?_
          cases cd <;> simp only [xcmp] at h <;> first | (cases h; done) | skip
          simp only [xif]
          by_cases hxy : x < y
          · rw [if_pos hxy]
            rw [decide_eq_true hxy] at h
            exact K _ _ _ h
          · rw [if_neg hxy]
            rw [decide_eq_false hxy] at h
            exact K _ _ _ h
        · cases h
      case goto z =>
        have hok := Bool.and_eq_true _ _ ▸ hok
        obtain rfl : nn = 3 := Nat.eq_of_beq_eq_true hok.1
        exact xo_goto F hd (xjmp_ok hok.2) (K _ _ _ h)
      case dup =>
        obtain rfl : nn = 1 := Nat.eq_of_beq_eq_true hok
        split at h
        · exact xo_dup F hd (fun z q => by cases q) (K _ _ _ h)
        · cases h
      case iastore =>
        obtain rfl : nn = 1 := Nat.eq_of_beq_eq_true hok
        split at h
        · obtain ⟨hb, h⟩ := xcnd_t h
          have hb := Bool.and_eq_true _ _ ▸ hb
          exact xo_iastore F hd (Nat.eq_of_beq_eq_true hb.1) (of_decide_eq_true hb.2) (K2 _ _ _ _ _ hG h)
        · cases h
      case return_ =>
        obtain rfl : nn = 1 := Nat.eq_of_beq_eq_true hok
        split at h
        · cases h
          sorry
        · cases h
      all_goals sorry
