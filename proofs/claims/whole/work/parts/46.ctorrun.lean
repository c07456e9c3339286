/-! CONSTRUCTORS: what was reckoned, the machine does -/
theorem xcnd_t {α : Type} {b : Bool} {x : Option α} {y : α} (h : cond b x none = some y) : b = true ∧ x = some y := by
  cases b with
  | false => cases h
  | true => exact ⟨rfl, h⟩
theorem xcnd_f {α : Type} {b : Bool} {x : Option α} {y : α} (h : cond b none x = some y) : b = false ∧ x = some y := by
  cases b with
  | true => cases h
  | false => exact ⟨rfl, h⟩
theorem xgchk_ok {g1 gf : xGt} {o : Option xGt} (h : xgchk g1 o = some gf) : o = some gf ∧ gf.2.2.2.1 ≤ g1.2.2.2.1 ∧ gf.2.2.2.2 ≤ g1.2.2.2.2 := by
  unfold xgchk at h
  cases o with
  | none => cases h
  | some g =>
    obtain ⟨hb, h⟩ := xcnd_t h
    cases h
    have hb := Bool.and_eq_true _ _ ▸ hb
    exact ⟨rfl, Nat.le_of_ble_eq_true hb.1, Nat.le_of_ble_eq_true hb.2⟩
theorem xsl_free : ∀ (l : List (Nat × Nat × Nat × Int)) (t i : Nat), xfree l t i = true → xzr (xsl l) t i = xsl l
  | [], t, i, _ => by
    funext a b k
    unfold xzr
    by_cases h : a = t ∧ b = i
    · rw [if_pos h]; rfl
    · rw [if_neg h]
  | e :: l, t, i, h => by
    have h := Bool.and_eq_true _ _ ▸ (show (!(Nat.beq e.1 t && Nat.beq e.2.1 i) && xfree l t i) = true from h)
    have ih := xsl_free l t i h.2
    funext a b k
    have ihk := congrFun (congrFun (congrFun ih a) b) k
    unfold xzr at ihk ⊢
    by_cases hc : a = t ∧ b = i
    · rw [if_pos hc] at ihk ⊢
      show 0 = xup (xsl l) e.1 e.2.1 e.2.2.1 e.2.2.2 a b k
      unfold xup
      rw [if_neg]
      · exact ihk
      · rintro ⟨h1, h2, -⟩
        have : (Nat.beq e.1 t && Nat.beq e.2.1 i) = true := by rw [← h1, ← h2, hc.1, hc.2, Nat.beq_refl, Nat.beq_refl]; rfl
        rw [this] at h
        exact Bool.false_ne_true h.1
    · rw [if_neg hc]
theorem xsl_freN : ∀ (l : List (Nat × Nat × Nat × Int)) (t i n : Nat), xfreN l t i n = true → xzN (xsl l) t i n = xsl l
  | [], t, i, n, _ => by
    funext a b k
    unfold xzN
    by_cases h : a = t ∧ i ≤ b ∧ b < i + n
    · rw [if_pos h]; rfl
    · rw [if_neg h]
  | e :: l, t, i, n, h => by
    have h := Bool.and_eq_true _ _ ▸ (show (!(Nat.beq e.1 t && Nat.ble i e.2.1 && Nat.blt e.2.1 (i + n)) && xfreN l t i n) = true from h)
    have ih := xsl_freN l t i n h.2
    funext a b k
    have ihk := congrFun (congrFun (congrFun ih a) b) k
    unfold xzN at ihk ⊢
    by_cases hc : a = t ∧ i ≤ b ∧ b < i + n
    · rw [if_pos hc] at ihk ⊢
      show 0 = xup (xsl l) e.1 e.2.1 e.2.2.1 e.2.2.2 a b k
      unfold xup
      rw [if_neg]
      · exact ihk
      · rintro ⟨h1, h2, -⟩
        have : (Nat.beq e.1 t && Nat.ble i e.2.1 && Nat.blt e.2.1 (i + n)) = true := by
          rw [← h1, ← h2, hc.1, Nat.beq_refl, Nat.ble_eq_true_of_le hc.2.1]
          exact Nat.ble_eq_true_of_le hc.2.2
        rw [this] at h
        exact Bool.false_ne_true h.1
    · rw [if_neg hc]
theorem xlr_entryG {k : Nat} {cnt : Nat → Nat} {ad : Nat → Nat → Nat} {as : List xV} (hs : xoks cnt as) (hl : ∀ j z, (xents as)[j]? = some (vL z) → xlg k j = true) (hn : (xents as).length ≤ (xrec k).2.1) :
    xLr k cnt ad (xent k as) ((lg_sl (as.map (xcv ad)) ++ List.replicate ((xrec k).2.1 - (lg_sl (as.map (xcv ad))).length) Slot.unset).toArray) := by
  have h := lv_entry (as.map (xcv ad)) (n := (xrec k).2.1) (by rw [xents_len]; exact hn)
  refine ⟨h.1, h.2.1, xfit_len _ _, fun j v hj => ?_⟩
  rcases xfit_at _ _ _ _ hj with h1 | rfl
  · refine ⟨xents_ok as hs j v h1, fun z e => hl j z (by rw [← e]; exact h1), fun hv => ?_⟩
    have h2 := h.2.2 _ (xents_args ad as 0 j v h1 hv)
    rw [Nat.zero_add] at h2
    exact h2
  · exact ⟨Or.inl rfl, fun z e => (by cases e), fun hv => (by cases hv)⟩
/-- out of the frame's rows, the contract -/
theorem xcon_of {l : Launch} {d k t i : Nat} {g gf : xGt} (hk : k < xN) (hn : 1 ≤ (xrec k).2.1) (hG : xrvG g.1 g.2.1)
    (H : ∀ (p : Program) (e : Env) (R : Room) (s : State) (m : MethodId) (args : Array Value) (below : List Frame) (meth : Method) (c : Code) (A : Nat → Prop) (ad : Nat → Nat → Nat) (ca : Nat → Nat → ClassId) (D : va_G), xFix p s m args meth c k A ad D → d + 1 ≤ R.frames → 40 * d + 40 ≤ R.locals → g.2.2.2.1 - gf.2.2.2.1 ≤ R.cells → g.2.2.2.2 - gf.2.2.2.2 ≤ R.slots →
      xNx p l e R s m args below meth c 0 0 (MQ below (xQg g.1 ad gf D A) args s (g.2.2.2.1 - gf.2.2.2.1) (g.2.2.2.2 - gf.2.2.2.2) A) k A ad ca D g.1 g.2.1 0 (xent k [vR t i]) [] (xsl g.2.2.1)) : xCon l d k [vR t i] g gf := by
  intro D ad ca sz
  refine Met.ofW (cc := (xy k).2.1) (maxL := (xrec k).2.1) (ret := (xy k).2.2) (xm_a hk).2.2.2.2 rfl ?_
  intro p e s m args below meth c s₁ B hml hv
  obtain ⟨rfl, hsz, hW, -, hK, hex, hro, hoks⟩ := hv
  subst hsz
  have hown : s.vm.findClass (xow k) = some m.cls := by
    rw [← (xm_a hk).2.2.1]
    exact findClass_of_methodNamed B.named
  have F : xFix p s m ([vR t i].map (xcv ad)).toArray meth c k (xAs ad g.1 s.heap.size) ad D := ⟨B.exec, B.bytes, hml, B.returns, hown, B.notSynchronized, fun w hw => atoms_spec (ws := xws k) B.pre w (List.mem_cons_of_mem _ hw), hex, fun q h => Or.inr h, hro, hK, (name_of_methodNamed B.named B.method).1⟩
  rw [lg_entry_eq]
  exact H p e _ s m _ below meth c _ ad ca D F (Nat.le_refl _) (Nat.le_refl _) (Nat.le_refl _) (Nat.le_refl _) s.heap [] _ hW va_S.rf (xlr_entryG hoks (fun j z hz => by
    cases j with
    | zero => cases hz
    | succ j => cases hz) hn) (fun v hv => by cases hv)
theorem xrvG_new {cnt : Nat → Nat} {ρ : xP} {t : Nat} (ht4 : 4 ≤ t) (hG : xrvG cnt ρ) : xrvG (xcn cnt t) (xr0 ρ t (cnt t)) := by
  intro a b k
  unfold xr0
  by_cases hc : a = t ∧ b = cnt t
  · rw [if_pos hc]; exact Or.inl rfl
  · rw [if_neg hc]
    rcases hG a b k with h | h
    · exact Or.inl h
    · exact Or.inr (xokr_up h ht4).1
set_option maxHeartbeats 4000000 in
theorem xGsim (l : Launch) : ∀ (n M pc : Nat) (L st : List xV) (g gf : xGt), xG n M pc L st g = some gf → ∀ (p : Program) (e : Env) (R : Room) (s : State) (m : MethodId) (args : Array Value) (below : List Frame) (meth : Method) (c : Code) (A : Nat → Prop) (ad : Nat → Nat → Nat) (ca : Nat → Nat → ClassId) (D : va_G) (cnt0 : Nat → Nat) (ad0 : Nat → Nat → Nat) (cells slots N0 S0 : Nat), xFix p s m args meth c M A ad D → n + 1 ≤ R.frames → 40 * n + 40 ≤ R.locals →
      cells + g.2.2.2.1 = N0 → slots + g.2.2.2.2 = S0 → N0 ≤ R.cells + gf.2.2.2.1 → S0 ≤ R.slots + gf.2.2.2.2 → xExt cnt0 ad0 g.1 ad → xrvG g.1 g.2.1 →
      xNx p l e R s m args below meth c cells slots (MQ below (xQg cnt0 ad0 gf D A) args s (N0 - gf.2.2.2.1) (S0 - gf.2.2.2.2) A) M A ad ca D g.1 g.2.1 pc L st (xsl g.2.2.1)
  | 0, _, _, _, _, _, _, h => by cases h
  | n + 1, M, pc, L, st, g, gf, h => by
    intro p e R s m args below meth c A ad ca D cnt0 ad0 cells slots N0 S0 F hRf hRl hc hs hN hS hx hG
    have ih := xGsim l n
    have K : ∀ pc' L' st', xG n M pc' L' st' g = some gf → xNx p l e R s m args below meth c cells slots (MQ below (xQg cnt0 ad0 gf D A) args s (N0 - gf.2.2.2.1) (S0 - gf.2.2.2.2) A) M A ad ca D g.1 g.2.1 pc' L' st' (xsl g.2.2.1) :=
      fun pc' L' st' h => ih M pc' L' st' g gf h p e R s m args below meth c A ad ca D cnt0 ad0 cells slots N0 S0 F (by omega) (by omega) hc hs hN hS hx hG
    have K2 : ∀ ρ' l' pc' L' st', xrvG g.1 ρ' → xG n M pc' L' st' (g.1, ρ', l', g.2.2.2) = some gf → xNx p l e R s m args below meth c cells slots (MQ below (xQg cnt0 ad0 gf D A) args s (N0 - gf.2.2.2.1) (S0 - gf.2.2.2.2) A) M A ad ca D g.1 ρ' pc' L' st' (xsl l') :=
      fun ρ' l' pc' L' st' hG' h => ih M pc' L' st' (g.1, ρ', l', g.2.2.2) gf h p e R s m args below meth c A ad ca D cnt0 ad0 cells slots N0 S0 F (by omega) (by omega) hc hs hN hS hx hG'
    unfold xG at h
    cases hat : xat M pc with
    | none => rw [hat] at h; cases h
    | some q =>
      rw [hat] at h
      obtain ⟨hd, hok, hM⟩ := xat_ok hat
      obtain ⟨ins, nn⟩ := q
      dsimp only at h hd hok
      cases ins
      all_goals try exact absurd (show none = some gf from h) (fun q => by cases q)
      all_goals try dsimp only at h
      case iconst z =>
        have hok := Bool.and_eq_true _ _ ▸ hok
        obtain rfl : nn = 1 := Nat.eq_of_beq_eq_true hok.1
        have h2 := of_decide_eq_true hok.2
        exact xo_iconst F hd (show xr z from ⟨by omega, by omega⟩) (K _ _ _ h)
      case bipush z =>
        have hok := Bool.and_eq_true _ _ ▸ hok
        obtain rfl : nn = 2 := Nat.eq_of_beq_eq_true hok.1
        exact xo_bipush F hd (of_decide_eq_true hok.2) (K _ _ _ h)
      case sipush z =>
        have hok := Bool.and_eq_true _ _ ▸ hok
        obtain rfl : nn = 3 := Nat.eq_of_beq_eq_true hok.1
        exact xo_sipush F hd (of_decide_eq_true hok.2) (K _ _ _ h)
      case ldc x =>
        obtain rfl : nn = 2 := Nat.eq_of_beq_eq_true hok
        split at h
        · rename_i z hz1 hz2
          exact xo_ldcS F hd hz2 (K _ _ _ h)
        · cases h
      case iload_n k =>
        obtain rfl : nn = 1 := Nat.eq_of_beq_eq_true hok
        split at h
        · rename_i x hx1
          exact xo_iload_n F hd hx1 (K _ _ _ h)
        · cases h
      case aload_n k =>
        obtain rfl : nn = 1 := Nat.eq_of_beq_eq_true hok
        split at h
        · rename_i q hq
          obtain ⟨hb, h⟩ := xcnd_f h
          exact xo_aload_n F hd hq hb (K _ _ _ h)
        · cases h
      case istore_n k =>
        have hok := Bool.and_eq_true _ _ ▸ hok
        obtain rfl : nn = 1 := Nat.eq_of_beq_eq_true hok.1
        split at h
        · obtain ⟨hb, h⟩ := xcnd_f h
          exact xo_istore_n F hd (Nat.le_of_ble_eq_true hok.2) hb (K _ _ _ h)
        · cases h
      case iinc k z =>
        have hok := Bool.and_eq_true _ _ ▸ hok
        obtain rfl : nn = 3 := Nat.eq_of_beq_eq_true hok.1
        split at h
        · rename_i x hx1
          obtain ⟨hb, h⟩ := xcnd_f h
          exact xo_iinc F hd (Nat.le_of_ble_eq_true hok.2) hb hx1 (K _ _ _ h)
        · cases h
      case if_icmp cd z =>
        have hok := Bool.and_eq_true _ _ ▸ hok
        obtain rfl : nn = 3 := Nat.eq_of_beq_eq_true hok.1
        split at h
        · rename_i y x r
          refine xo_if_icmp F hd (xjmp_ok hok.2) ?_
          cases cd <;> simp only [xcmp] at h <;> first | (cases h; done) | skip
          simp only [xif]
          by_cases hxy : x < y
          · rw [if_pos hxy]
            rw [decide_eq_true hxy] at h
            exact K _ _ _ h
          · rw [if_neg hxy]
            rw [decide_eq_false hxy] at h
            exact K _ _ _ h
        · cases h
      case goto z =>
        have hok := Bool.and_eq_true _ _ ▸ hok
        obtain rfl : nn = 3 := Nat.eq_of_beq_eq_true hok.1
        exact xo_goto F hd (xjmp_ok hok.2) (K _ _ _ h)
      case dup =>
        obtain rfl : nn = 1 := Nat.eq_of_beq_eq_true hok
        split at h
        · exact xo_dup F hd (fun z q => by cases q) (K _ _ _ h)
        · cases h
      case iastore =>
        obtain rfl : nn = 1 := Nat.eq_of_beq_eq_true hok
        split at h
        · obtain ⟨hb, h⟩ := xcnd_t h
          have hb := Bool.and_eq_true _ _ ▸ hb
          exact xo_iastore F hd (Nat.eq_of_beq_eq_true hb.1) (of_decide_eq_true hb.2) (K2 _ _ _ _ _ hG h)
        · cases h
      case return_ =>
        obtain rfl : nn = 1 := Nat.eq_of_beq_eq_true hok
        split at h
        · obtain ⟨hv, h⟩ := xcnd_t h
          cases h
          have hv := Nat.eq_of_beq_eq_true hv
          intro H locs ls hW hSS hL hss
          obtain ⟨hx0, hbb, hml, hr, hown, hlk, hts, hex, -, hro, hK, -⟩ := id F
          obtain ⟨-, hrk, -, -, -⟩ := xm_a hM
          have e1 : N0 - g.2.2.2.1 = cells := by omega
          have e2 : S0 - g.2.2.2.2 = slots := by omega
          rw [e1, e2]
          exact W.vret hx0 hbb (hr.trans (xrk_0 hrk hv)) (fun t ht hWt => ⟨⟨((ad, ca) : xAd), rfl, ⟨hx, hG⟩, by show xWd D ad ca g.1 g.2.1 (xsl g.2.2.1) A t t.heap; rw [ht]; exact hW.moved hWt.alike (fun _ _ _ h => h)⟩, hSS.F ht⟩) hSS.2.2 hd hlk
        · cases h
      case getfield x =>
        obtain rfl : nn = 3 := Nat.eq_of_beq_eq_true hok
        split at h
        · rename_i q r f hf
          obtain ⟨hb, h⟩ := xcnd_t h
          have hb := Bool.and_eq_true _ _ ▸ hb
          have hb1 := Bool.and_eq_true _ _ ▸ hb.1
          have e1 := Nat.eq_of_beq_eq_true hb1.1
          have e2 := Nat.eq_of_beq_eq_true hb1.2
          obtain ⟨q1, q2⟩ := q
          obtain ⟨f1, f2⟩ := f
          obtain rfl : q1 = f1 := e1
          have hn1 : q1 ≠ 1 := by
            rintro rfl
            exact Bool.false_ne_true (show false = true from hb.2)
          have hk : xkind q1 = 1 := (xfld_w hf).2.2.resolve_right hn1
          have hsz : f2 < xsz q1 := (xfld_w hf).2.1.resolve_right hn1
          have ev : xfv g.2.1 (xsl g.2.2.1) q1 q2 f2 = .inr (.inr (g.2.1 q1 q2 f2)) := by unfold xfv; rw [show xft q1 f2 = 1 from e2]; rfl
          refine xo_getf (q := (q1, f2)) F hd hf hk (fun _ hv hr => by show xok g.1 (xfv g.2.1 (xsl g.2.2.1) q1 q2 f2); rw [ev]; exact hr _ _ _ hv hsz) ?_
          show xNx p l e R s m args below meth c cells slots _ M A ad ca D g.1 g.2.1 (pc + 3) L (xfv g.2.1 (xsl g.2.2.1) q1 q2 f2 :: r) _
          rw [ev]
          exact K _ _ _ h
        · cases h
      case aastore =>
        obtain rfl : nn = 1 := Nat.eq_of_beq_eq_true hok
        split at h
        · rename_i w x q r
          obtain ⟨hb, h⟩ := xcnd_t h
          simp only [Bool.and_eq_true, decide_eq_true_eq] at hb
          obtain ⟨⟨⟨h1, h2⟩, h3⟩, h4⟩ := hb
          have h1 := Nat.eq_of_beq_eq_true h1
          have h2 := Nat.eq_of_beq_eq_true h2
          have hty : xaty q.1 = .object (xCt w.1) := by
            unfold xaqN at h3
            split at h3
            · rename_i C hC
              rw [hC, h3]
            · have hne : ∀ t, t < 57 → xkind t = 1 → xCt t ≠ "" := by decide +kernel
              exact absurd h3.symm (hne w.1 (xkind_lt (by rw [h2]; decide)) h2)
          intro H locs ls hW hSS hL hss
          have hvv := (xoks_c.mp hss).1
          exact xo_aast F hd h1 h2 hty h4 hG (K2 _ _ _ _ _ (xru_G hG hvv) h) H locs ls hW hSS hL hss
        · cases h
      case new x =>
        obtain rfl : nn = 3 := Nat.eq_of_beq_eq_true hok
        split at h
        · rename_i t C ht hC
          obtain ⟨C1, C2⟩ := C
          obtain ⟨hb, h'⟩ := xcnd_t h
          clear h
          simp only [Bool.and_eq_true, decide_eq_true_eq, xgcan] at hb
          obtain ⟨⟨⟨⟨h1, h2⟩, h3⟩, h4⟩, ⟨⟨h5, h6⟩, h7⟩⟩ := hb
          have h1 := Nat.eq_of_beq_eq_true h1
          have h6 : 0 < g.2.2.2.1 := Nat.le_of_ble_eq_true h6
          have h7 : xsz t ≤ g.2.2.2.2 := Nat.le_of_ble_eq_true h7
          obtain ⟨h, h8, h9⟩ := xgchk_ok h'
          clear h'
          have h8 : gf.2.2.2.1 ≤ g.2.2.2.1 - 1 := h8
          have h9 : gf.2.2.2.2 ≤ g.2.2.2.2 - xsz t := h9
          obtain rfl : C1 = xCt t := h2
          obtain ⟨qi, hqi⟩ := Option.isSome_iff_exists.mp h3
          have hx4 : x < 1000 := Nat.le_of_ble_eq_true h4
          have ht4 : 4 ≤ t := xkind_4 (by rw [h1]; decide)
          refine xo_newo (t := t) F hd h1 (xclN_ok hx4 hC) (xinN_ok hqi).1 (xinN_ok hqi).2 hG (by omega) (by omega) (fun q => ?_)
          rw [xsl_free _ _ _ h5]
          exact ih M (pc + 3) L _ (xgnew t g) gf h p e R s m args below meth c A _ _ D cnt0 ad0 (cells + 1) (slots + xsz t) N0 S0 (F.ad (xadd_lo ht4)) (by omega) (by omega) (by show cells + 1 + (g.2.2.2.1 - 1) = N0; omega) (by show slots + xsz t + (g.2.2.2.2 - xsz t) = S0; omega) hN hS (hx.trans (xExt.one ht4)) (xrvG_new ht4 hG)
        · cases h
      case newarray ty =>
        obtain rfl : nn = 2 := Nat.eq_of_beq_eq_true hok
        split at h
        · rename_i t x r ht
          obtain ⟨hb, h'⟩ := xcnd_t h
          clear h
          simp only [Bool.and_eq_true, Bool.or_eq_true, decide_eq_true_eq, xgcan] at hb
          obtain ⟨⟨⟨h1, h2⟩, h3⟩, ⟨⟨h5, h6⟩, h7⟩⟩ := hb
          have h1 : xkind t = 2 ∨ xkind t = 3 := h1.imp Nat.eq_of_beq_eq_true Nat.eq_of_beq_eq_true
          have h6 : 0 < g.2.2.2.1 := Nat.le_of_ble_eq_true h6
          have h7 : xsz t ≤ g.2.2.2.2 := Nat.le_of_ble_eq_true h7
          obtain ⟨h, h8, h9⟩ := xgchk_ok h'
          clear h'
          have h8 : gf.2.2.2.1 ≤ g.2.2.2.1 - 1 := h8
          have h9 : gf.2.2.2.2 ≤ g.2.2.2.2 - xsz t := h9
          subst h3
          have ht4 : 4 ≤ t := xkind_4 (by omega)
          have hwd : Cond.arrayClass (xaty t) ∈ xGT := by
            rcases h1 with h1 | h1
            · rw [xarr_2 h1]; exact xw_arrI
            · rw [xarr_3 h1]; exact xw_arrZ
          refine xo_newa (t := t) F hd h1 h2 hwd hG (by omega) (by omega) (fun q cA => ?_)
          rw [xsl_free _ _ _ h5]
          exact ih M (pc + 2) L _ (xgnew t g) gf h p e R s m args below meth c A _ _ D cnt0 ad0 (cells + 1) (slots + xsz t) N0 S0 (F.ad (xadd_lo ht4)) (by omega) (by omega) (by show cells + 1 + (g.2.2.2.1 - 1) = N0; omega) (by show slots + xsz t + (g.2.2.2.2 - xsz t) = S0; omega) hN hS (hx.trans (xExt.one ht4)) (xrvG_new ht4 hG)
        · cases h
      case anewarray cx =>
        obtain rfl : nn = 3 := Nat.eq_of_beq_eq_true hok
        split at h
        · rename_i t C x r ht hC
          obtain ⟨C1, C2⟩ := C
          obtain ⟨hb, h'⟩ := xcnd_t h
          clear h
          simp only [Bool.and_eq_true, decide_eq_true_eq, xgcan] at hb
          obtain ⟨⟨⟨⟨⟨h1, h2⟩, hmem⟩, h4⟩, h3⟩, ⟨⟨h5, h6⟩, h7⟩⟩ := hb
          have h1 := Nat.eq_of_beq_eq_true h1
          have h6 : 0 < g.2.2.2.1 := Nat.le_of_ble_eq_true h6
          have h7 : xsz t ≤ g.2.2.2.2 := Nat.le_of_ble_eq_true h7
          obtain ⟨h, h8, h9⟩ := xgchk_ok h'
          clear h'
          have h8 : gf.2.2.2.1 ≤ g.2.2.2.1 - 1 := h8
          have h9 : gf.2.2.2.2 ≤ g.2.2.2.2 - xsz t := h9
          subst h3
          have hx4 : cx < 1000 := Nat.le_of_ble_eq_true h4
          have ht4 : 4 ≤ t := xkind_4 (by rw [h1]; decide)
          refine xo_newq (t := t) (C := C1) F hd h1 h2 (List.contains_iff_mem.mp hmem) (xclN_ok hx4 hC) hG (by omega) (by omega) (fun q cA => ?_)
          rw [xsl_free _ _ _ h5]
          exact ih M (pc + 3) L _ (xgnew t g) gf h p e R s m args below meth c A _ _ D cnt0 ad0 (cells + 1) (slots + xsz t) N0 S0 (F.ad (xadd_lo ht4)) (by omega) (by omega) (by show cells + 1 + (g.2.2.2.1 - 1) = N0; omega) (by show slots + xsz t + (g.2.2.2.2 - xsz t) = S0; omega) hN hS (hx.trans (xExt.one ht4)) (xrvG_new ht4 hG)
        · cases h
      case multianewarray cx dm =>
        obtain rfl : nn = 4 := Nat.eq_of_beq_eq_true hok
        split at h
        · rename_i t C y x r ht hC
          obtain ⟨C1, C2⟩ := C
          obtain ⟨hb, h'⟩ := xcnd_t h
          clear h
          simp only [Bool.and_eq_true, decide_eq_true_eq] at hb
          obtain ⟨⟨⟨⟨⟨⟨⟨⟨⟨⟨⟨⟨⟨b1, b2⟩, b3⟩, b4⟩, b5⟩, b6⟩, b7⟩, b8⟩, b9⟩, b10⟩, b11⟩, b12⟩, b13⟩, b14⟩ := hb
          obtain rfl : dm = 2 := Nat.eq_of_beq_eq_true b1
          obtain rfl : C1 = "[[I" := b2
          have b3 : cx < 1000 := Nat.le_of_ble_eq_true b3
          have b13 : 1 + xsz t ≤ g.2.2.2.1 := Nat.le_of_ble_eq_true b13
          have b14 : xsz t + xsz t * xsz (t + 1) ≤ g.2.2.2.2 := Nat.le_of_ble_eq_true b14
          obtain ⟨h, h8, h9⟩ := xgchk_ok h'
          clear h'
          have h8 : gf.2.2.2.1 ≤ g.2.2.2.1 - (1 + xsz t) := h8
          have h9 : gf.2.2.2.2 ≤ g.2.2.2.2 - (xsz t + xsz t * xsz (t + 1)) := h9
          subst b9
          subst b10
          refine xo_multi (tp := t) (tr := t + 1) F hd (Nat.eq_of_beq_eq_true b4) b5 (Nat.eq_of_beq_eq_true b6) (xclN_ok b3 hC) xw_arrI (Nat.le_of_ble_eq_true b7) (Nat.le_of_ble_eq_true b8) hG (by omega) (by omega) (fun ad' ca' hx' hG' => ?_)
          rw [xsl_freN _ _ _ _ b12, xsl_free _ _ _ b11]
          exact ih M (pc + 4) L _ (xgmul t g) gf h p e R s m args below meth c A _ _ D cnt0 ad0 (cells + 1 + xsz t) (slots + xsz t + xsz t * xsz (t + 1)) N0 S0 (F.ad hx'.2) (by omega) (by omega) (by show cells + 1 + xsz t + (g.2.2.2.1 - (1 + xsz t)) = N0; omega) (by show slots + xsz t + xsz t * xsz (t + 1) + (g.2.2.2.2 - (xsz t + xsz t * xsz (t + 1))) = S0; omega) hN hS (hx.trans hx') hG'
        · cases h
      case invokespecial x =>
        obtain rfl : nn = 3 := Nat.eq_of_beq_eq_true hok
        split at h
        · rename_i q o r hq
          obtain ⟨q1, q2⟩ := q
          obtain ⟨o1, o2⟩ := o
          dsimp only at h
          have call : ∀ (kd : Nat), kd = 2 ∨ kd = 4 → xcal (xrec M).1 x = some (q1, kd) → cond (Nat.beq (xrec q1).2.2.2.1 o1 && Nat.beq (xrec q1).2.2.2.2 1 && Nat.blt q1 xN && xrs r && Nat.beq (xrec q1).2.2.1 0 && decide ((xy q1).1.name = "<init>") && !(Nat.beq o1 0) && Nat.blt 0 (xrec q1).2.1) (match xG n q1 0 (xent q1 [vR o1 o2]) [] g with
            | some g' => cond (Nat.ble g'.2.2.2.1 g.2.2.2.1 && Nat.ble g'.2.2.2.2 g.2.2.2.2) (xgchk g' (xG n M (pc + 3) L r g')) none
            | none => none) none = some gf → xNx p l e R s m args below meth c cells slots (MQ below (xQg cnt0 ad0 gf D A) args s (N0 - gf.2.2.2.1) (S0 - gf.2.2.2.2) A) M A ad ca D g.1 g.2.1 pc L (vR o1 o2 :: r) (xsl g.2.2.1) := by
            intro kd hkd hcal h
            obtain ⟨hb, h⟩ := xcnd_t h
            simp only [Bool.and_eq_true, decide_eq_true_eq] at hb
            obtain ⟨⟨⟨⟨⟨⟨⟨b1, b2⟩, b3⟩, b4⟩, b5⟩, b6⟩, b7⟩, b8⟩ := hb
            have b1 := Nat.eq_of_beq_eq_true b1
            have ho : o1 ≠ 0 := by
              rintro rfl
              exact Bool.false_ne_true (show false = true from b7)
            cases hcl : xG n q1 0 (xent q1 [vR o1 o2]) [] g with
            | none => rw [hcl] at h; cases h
            | some g' =>
              rw [hcl] at h
              obtain ⟨hb, h⟩ := xcnd_t h
              have hb := Bool.and_eq_true _ _ ▸ hb
              have c1 := Nat.le_of_ble_eq_true hb.1
              have c2 := Nat.le_of_ble_eq_true hb.2
              obtain ⟨h, h8, h9⟩ := xgchk_ok h
              have hk : q1 < xN := Nat.le_of_ble_eq_true b3
              refine xo_callG (d := n) (g := g) (g' := g') F hd hcal hkd hk b6 (Nat.eq_of_beq_eq_true b5) b1 ho (Nat.eq_of_beq_eq_true b2) b4 (by omega) (by omega) (by omega) (by omega) hG ?_ (fun ad' ca' hx' hG' => ?_)
              · exact xcon_of hk (Nat.le_of_ble_eq_true b8) hG (fun p e R s m args below meth c A ad ca D F h1 h2 h3 h4 => ih q1 0 _ [] g g' hcl p e R s m args below meth c A ad ca D g.1 ad 0 0 g.2.2.2.1 g.2.2.2.2 F h1 h2 (Nat.zero_add _) (Nat.zero_add _) (by omega) (by omega) xExt.refl hG)
              · exact ih M (pc + 3) L r g' gf h p e R s m args below meth c A ad' ca' D cnt0 ad0 _ _ N0 S0 (F.ad hx'.2) (by omega) (by omega) (by omega) (by omega) hN hS (hx.trans hx') hG'
          split at h
          · obtain ⟨hb, h'⟩ := xcnd_t h
            clear h
            simp only [Bool.and_eq_true] at hb
            obtain ⟨⟨b1, b2⟩, b3⟩ := hb
            obtain rfl : q1 = 999 := Nat.eq_of_beq_eq_true b1
            refine xo_obj F hd hq ?_ b3 (by omega) (by omega) (K _ _ _ h')
            cases hz : Nat.beq o1 0 with
            | false => rfl
            | true => rw [hz] at b2; cases b2
          · exact call 2 (Or.inl rfl) hq h
          · exact call 4 (Or.inr rfl) hq h
          · cases h
        · cases h
      case putfield x =>
        obtain rfl : nn = 3 := Nat.eq_of_beq_eq_true hok
        split at h
        · rename_i v q r f hf
          obtain ⟨q1, i⟩ := q
          obtain ⟨f1, q2⟩ := f
          obtain ⟨hb, h'⟩ := xcnd_t h
          clear h
          have hb := Bool.and_eq_true _ _ ▸ hb
          obtain rfl : q1 = f1 := Nat.eq_of_beq_eq_true hb.1
          dsimp only at h'
          have hkk := (xfld_w hf).2.2
          have hn1 : q1 ≠ 1 := by
            rintro rfl
            exact Bool.false_ne_true (show false = true from hb.2)
          have hk : xkind q1 = 1 := hkk.resolve_right hn1
          have hsz : q2 < xsz q1 := (xfld_w hf).2.1.resolve_right hn1
          have hty := xfty hk hsz
          split at h'
          · rename_i y eqt
            have eqt : xft q1 q2 = 0 := eqt
            rw [eqt] at hty
            have hty := of_decide_eq_true hty
            obtain ⟨-, h⟩ := xcnd_f h'
            intro H locs ls hW hSS hL hss
            have hy := (xoks_c.mp hss).1
            refine xo_putf (q := (q1, q2)) (y := y) F hd hf hk hy hty.2 (by show narrow (xty q1 q2) _ = _; rw [hty.1]; rfl) (by show fits (xty q1 q2) _ = _; rw [hty.1]; rfl) ?_ (K2 _ _ _ _ _ hG h) H locs ls hW hSS hL hss
            unfold xfv
            rw [show xft (q1, q2).1 (q1, q2).2 = 0 from eqt, xup_at, if_pos rfl]
            rfl
          · rename_i w eqt
            have eqt : xft q1 q2 = 1 := eqt
            obtain ⟨hb, h⟩ := xcnd_f h'
            rw [Bool.or_eq_false_iff] at hb
            have hb2 := hb.2
            rw [Bool.not_eq_false'] at hb2
            simp only [Bool.and_eq_true, decide_eq_true_eq] at hb2
            obtain ⟨⟨⟨b1, b2⟩, b3⟩, b4⟩ := hb2
            intro H locs ls hW hSS hL hss
            have hvv := (xoks_c.mp hss).1
            exact xo_putr (q := (q1, q2)) F hd hf hk eqt b2 b4 b3 (xpn_ok hf b1) hb.1 (K2 _ _ _ _ _ (xru_G hG hvv) h) hG H locs ls hW hSS hL hss
          · rename_i w eqt
            have eqt : xft q1 q2 = 2 := eqt
            obtain ⟨a, z⟩ := w
            rw [eqt] at hty
            have hty := of_decide_eq_true hty
            obtain ⟨hb, h⟩ := xcnd_t h'
            obtain rfl := Nat.eq_of_beq_eq_true hb
            intro H locs ls hW hSS hL hss
            have hy := xok_1 (xoks_c.mp hss).1
            refine xo_putf (q := (q1, q2)) (y := (z : Int)) F hd hf hk (show xr (z : Int) from ⟨by omega, by omega⟩) hty.2 (by show narrow (xty q1 q2) _ = _; rw [hty.1]; rfl) (by show fits (xty q1 q2) _ = _; rw [hty.1]; rfl) ?_ (K2 _ _ _ _ _ hG h) H locs ls hW hSS hL hss
            unfold xfv
            rw [show xft (q1, q2).1 (q1, q2).2 = 2 from eqt, xup_at, if_pos rfl]
            have : Nat.beq ((z : Int)).toNat 0 = false := by
              cases hb : Nat.beq ((z : Int)).toNat 0 with
              | false => rfl
              | true => exact absurd (Nat.eq_of_beq_eq_true hb) (by omega)
            simp only [this, cond_false]
            rfl
          · cases h'
        · cases h
