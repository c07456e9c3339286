/-! WHAT THE CONSTRUCTORS MAKE: reckoned -/
/-- the place of an instruction that makes cells, and the tag that they get -/
def xsite : List (Nat × Nat) := [(m_P_init * 1000 + 5, 5), (m_P_init * 1000 + 16, 5), (m_P_init * 1000 + 27, 17), (m_P_init * 1000 + 38, 19), (m_P_init * 1000 + 49, 25), (m_P_init * 1000 + 60, 33), (m_P_init * 1000 + 72, 35), (m_P_init * 1000 + 81, 38), (m_P_init * 1000 + 89, 39), (m_P_init * 1000 + 106, 36), (m_S_init * 1000 + 7, 6), (m_S_init * 1000 + 16, 8), (m_S_init * 1000 + 30, 11), (m_S_init * 1000 + 37, 12), (m_S_init * 1000 + 46, 16), (m_S_init * 1000 + 64, 7), (m_S_init * 1000 + 91, 9), (m_S_init * 1000 + 117, 13), (m_C_init * 1000 + 6, 10), (m_T_init * 1000 + 7, 14), (m_T_init * 1000 + 15, 15), (m_D_init * 1000 + 5, 13), (m_D_init * 1000 + 18, 18), (m_A_init * 1000 + 9, 20), (m_A_init * 1000 + 22, 22), (m_A_init * 1000 + 32, 24), (m_L_init * 1000 + 7, 26), (m_L_init * 1000 + 15, 27), (m_L_init * 1000 + 23, 28), (m_L_init * 1000 + 31, 29), (m_L_init * 1000 + 40, 30), (m_L_init * 1000 + 50, 32), (m_V_init * 1000 + 7, 34), (m_H_init * 1000 + 7, 37), (m_M_init * 1000 + 8, 41), (m_M_init * 1000 + 17, 42), (m_M_init * 1000 + 26, 43), (m_M_init * 1000 + 34, 44), (m_M_init * 1000 + 41, 45), (m_M_init * 1000 + 48, 46), (m_M_init * 1000 + 56, 47), (m_M_init * 1000 + 64, 48), (m_M_init * 1000 + 72, 49), (m_M_init * 1000 + 79, 50), (m_M_init * 1000 + 87, 51), (m_M_init * 1000 + 96, 52), (m_M_init * 1000 + 104, 53), (m_M_init * 1000 + 112, 54), (m_M_init * 1000 + 120, 55), (m_M_init * 1000 + 128, 56)]
/-- a class's name at an index of a class's pool -/
def xclN : List (Nat × (String × Nat)) := [((xrec m_P_init).1 * 1000 + 7, ("PlayParts$Stage", 100)), ((xrec m_S_init).1 * 1000 + 9, ("PlayParts$Role", 106)), ((xrec m_S_init).1 * 1000 + 17, ("PlayParts$Child", 108)), ((xrec m_S_init).1 * 1000 + 31, ("PlayParts$Text", 110)), ((xrec m_P_init).1 * 1000 + 19, ("PlayParts$Reader", 239)), ((xrec m_D_init).1 * 1000 + 9, ("PlayParts$Text", 245)), ((xrec m_P_init).1 * 1000 + 26, ("PlayParts$Caster", 269)), ((xrec m_A_init).1 * 1000 + 9, ("[[I", 275)), ((xrec m_P_init).1 * 1000 + 33, ("PlayParts$Liar", 295)), ((xrec m_L_init).1 * 1000 + 25, ("[[I", 301)), ((xrec m_P_init).1 * 1000 + 40, ("PlayParts$Voices", 333)), ((xrec m_P_init).1 * 1000 + 47, ("PlayParts$Sheet", 361))]
def xinN : List (Nat × (Nat × Nat)) := [(4, (93, 73)), (5, (101, 74)), (7, (112, 75)), (9, (129, 76)), (13, (167, 77)), (17, (240, 78)), (19, (270, 79)), (25, (296, 80)), (33, (334, 81)), (36, (363, 82)), (40, (985, 83))]
theorem xclN_all : xclN.all (fun e => decide (lw_tbl[e.2.2]? = some (.classLink (xnth "" xowL (e.1 / 1000)) (e.1 % 1000) e.2.1))) = true := by decide +kernel
theorem xinN_all : xinN.all (fun e => decide (lw_tbl[e.2.1]? = some (.instantiable (xCt e.1) (xsz e.1))) && decide (lw_tbl[e.2.2]? = some (.initialized (xCt e.1)))) = true := by decide +kernel
theorem xclN_ok {c x : Nat} {C : String} {n : Nat} (hx : x < 1000) (h : xas xclN (c * 1000 + x) = some (C, n)) : Cond.classLink (xnth "" xowL c) x C ∈ xGT := by
  have h1 := of_decide_eq_true (List.all_eq_true.mp xclN_all _ (xas_mem _ _ _ h))
  rw [show (c * 1000 + x, (C, n)).1 / 1000 = c from by show (c * 1000 + x) / 1000 = c; omega, show (c * 1000 + x, (C, n)).1 % 1000 = x from by show (c * 1000 + x) % 1000 = x; omega] at h1
  exact xGT_in _ h1 rfl
theorem xinN_ok {t : Nat} {q : Nat × Nat} (h : xas xinN t = some q) : Cond.instantiable (xCt t) (xsz t) ∈ xGT ∧ Cond.initialized (xCt t) ∈ xGT := by
  have h1 := List.all_eq_true.mp xinN_all _ (xas_mem _ _ _ h)
  rw [Bool.and_eq_true] at h1
  exact ⟨xGT_in _ (of_decide_eq_true h1.1) rfl, xGT_in _ (of_decide_eq_true h1.2) rfl⟩
theorem xw_arrI : Cond.arrayClass .int ∈ xGT := xGT_in 128 (by decide +kernel) (by decide +kernel)
theorem xw_arrZ : Cond.arrayClass .boolean ∈ xGT := xGT_in 332 (by decide +kernel) (by decide +kernel)
/-- a field's word, not of a nest mate -/
def xpn (c x : Nat) : Bool := match xas (xnth [] xfpT c) x with
  | some p => !p.2
  | none => false
theorem xpn_ok {c x : Nat} {q : Nat × Nat} (h : xfld c x = some q) (hp : xpn c x = true) : xfw c x false q ∈ lw_tbl := by
  have h1 := xall_nth (T := xfldT) (n := 14) (f := xchF) (d := []) (by decide +kernel) rfl xchF_ok c (x, q) (xas_mem (xnth [] xfldT c) x q h)
  unfold xchF at h1
  unfold xpn at hp
  cases hq : xas (xnth [] xfpT c) x with
  | none => rw [hq] at hp; cases hp
  | some p =>
    rw [hq] at hp
    simp only [hq, Bool.and_eq_true, decide_eq_true_eq] at h1
    obtain ⟨p1, p2⟩ := p
    cases p2 with
    | true => cases hp
    | false => exact List.mem_of_getElem? h1.1.1
def xaqN (t : Nat) : String := match xaty t with
  | .object C => C
  | _ => ""
def xsl : List (Nat × Nat × Nat × Int) → xM
  | [] => fun _ _ _ => 0
  | e :: l => xup (xsl l) e.1 e.2.1 e.2.2.1 e.2.2.2
/-- no int of the cell was set -/
def xfree (l : List (Nat × Nat × Nat × Int)) (t i : Nat) : Bool := l.all fun e => !(Nat.beq e.1 t && Nat.beq e.2.1 i)
def xfreN (l : List (Nat × Nat × Nat × Int)) (t i n : Nat) : Bool := l.all fun e => !(Nat.beq e.1 t && Nat.ble i e.2.1 && Nat.blt e.2.1 (i + n))
/-- how many cells of each kind, references, ints, cells and places used -/
abbrev xGt : Type := (Nat → Nat) × xP × List (Nat × Nat × Nat × Int) × Nat × Nat
def xgnew (t : Nat) (g : xGt) : xGt := (xcn g.1 t, xr0 g.2.1 t (g.1 t), g.2.2.1, g.2.2.2.1 - 1, g.2.2.2.2 - xsz t)
def xgcan (t : Nat) (g : xGt) : Bool := xfree g.2.2.1 t (g.1 t) && Nat.blt 0 g.2.2.2.1 && Nat.ble (xsz t) g.2.2.2.2
def xgmul (t : Nat) (g : xGt) : xGt := (xcn (xcnN g.1 (t + 1) (xsz t)) t, xrw (xrN g.2.1 (t + 1) (g.1 (t + 1)) (xsz t)) t (g.1 t) (xrf (t + 1) (g.1 (t + 1)) (xsz t)), g.2.2.1, g.2.2.2.1 - (1 + xsz t), g.2.2.2.2 - (xsz t + xsz t * xsz (t + 1)))
/-- what is left at the end is not more -/
def xgchk (g1 : xGt) (o : Option xGt) : Option xGt := match o with
  | some g => cond (Nat.ble g.2.2.2.1 g1.2.2.2.1 && Nat.ble g.2.2.2.2 g1.2.2.2.2) (some g) none
  | none => none
def xcmp (c : ClassFile.Cond) (x y : Int) : Option Bool := match c with
  | .ge => some (!decide (x < y))
  | _ => none
def xG : Nat → Nat → Nat → List xV → List xV → xGt → Option xGt
  | 0, _, _, _, _, _ => none
  | n + 1, M, pc, L, st, g => match xat M pc with
    | none => none
    | some q => match q.1 with
      | .iconst v => xG n M (pc + 1) L (vI v :: st) g
      | .bipush v => xG n M (pc + 2) L (vI v :: st) g
      | .sipush v => xG n M (pc + 3) L (vI v :: st) g
      | .ldc x => match xkon (xrec M).1 x, xstr (xrec M).1 x with
        | none, some z => xG n M (pc + 2) L (vR 1 z :: st) g
        | _, _ => none
      | .iload_n k => match xget L k with
        | .inl x => xG n M (pc + 1) L (vI x :: st) g
        | _ => none
      | .aload_n k => match xget L k with
        | .inr (.inr q) => cond (Nat.beq q.1 0) none (xG n M (pc + 1) L (vR q.1 q.2 :: st) g)
        | _ => none
      | .istore_n k => match st with
        | .inl x :: r => cond (xlgS M k) none (xG n M (pc + 1) (xset L k (vI x)) r g)
        | _ => none
      | .iinc k v => match xget L k with
        | .inl x => cond (xlgS M k) none (xG n M (pc + 3) (xset L k (vI (xwr (x + v)))) st g)
        | _ => none
      | .if_icmp c o => match st with
        | .inl y :: .inl x :: r => match xcmp c x y with
          | some b => xG n M (cond b (xjmp pc o) (pc + 3)) L r g
          | none => none
        | _ => none
      | .goto o => xG n M (xjmp pc o) L st g
      | .dup => match st with
        | .inr (.inr q) :: r => xG n M (pc + 1) L (vR q.1 q.2 :: vR q.1 q.2 :: r) g
        | _ => none
      | .getfield x => match st, xfld (xrec M).1 x with
        | .inr (.inr q) :: r, some f => cond (Nat.beq q.1 f.1 && Nat.beq (xft f.1 f.2) 1 && !(Nat.beq f.1 1)) (xG n M (pc + 3) L (vR (g.2.1 q.1 q.2 f.2).1 (g.2.1 q.1 q.2 f.2).2 :: r) g) none
        | _, _ => none
      | .putfield x => match st, xfld (xrec M).1 x with
        | v :: .inr (.inr q) :: r, some f => cond (Nat.beq q.1 f.1 && !(Nat.beq q.1 1)) (match xft f.1 f.2, v with
          | 0, .inl y => cond (Nat.beq q.1 1) none (xG n M (pc + 3) L r (g.1, g.2.1, (q.1, q.2, f.2, y) :: g.2.2.1, g.2.2.2))
          | 1, .inr (.inr w) => cond (Nat.beq w.1 0 || !(xpn (xrec M).1 x && (xFt f.1 f.2).2.2.2 && decide (xCt f.1 = xow M) && decide ((xy M).1.name = "<init>"))) none (xG n M (pc + 3) L r (g.1, xru g.2.1 q.1 q.2 f.2 (w.1, w.2), g.2.2.1, g.2.2.2))
          | 2, .inr (.inr w) => cond (Nat.beq w.1 1) (xG n M (pc + 3) L r (g.1, g.2.1, (q.1, q.2, f.2, (w.2 : Int)) :: g.2.2.1, g.2.2.2)) none
          | _, _ => none) none
        | _, _ => none
      | .iastore => match st with
        | .inl v :: .inl x :: .inr (.inr q) :: r => cond (xints q.1 && decide (0 ≤ x ∧ x < xlen q.1)) (xG n M (pc + 1) L r (g.1, g.2.1, (q.1, q.2, x.toNat, v) :: g.2.2.1, g.2.2.2)) none
        | _ => none
      | .aastore => match st with
        | .inr (.inr w) :: .inl x :: .inr (.inr q) :: r => cond (Nat.beq (xkind q.1) 4 && Nat.beq (xkind w.1) 1 && decide (xaqN q.1 = xCt w.1) && decide (0 ≤ x ∧ x < xlen q.1)) (xG n M (pc + 1) L r (g.1, xru g.2.1 q.1 q.2 x.toNat (w.1, w.2), g.2.2.1, g.2.2.2)) none
        | _ => none
      | .new x => match xas xsite (M * 1000 + pc), xas xclN ((xrec M).1 * 1000 + x) with
        | some t, some C => cond (Nat.beq (xkind t) 1 && decide (C.1 = xCt t) && (xas xinN t).isSome && Nat.blt x 1000 && xgcan t g) (xgchk (xgnew t g) (xG n M (pc + 3) L (vR t (g.1 t) :: st) (xgnew t g))) none
        | _, _ => none
      | .newarray ty => match xas xsite (M * 1000 + pc), st with
        | some t, .inl x :: r => cond ((Nat.beq (xkind t) 2 || Nat.beq (xkind t) 3) && decide (newarray.typeOf ty = xaty t) && decide (x = xlen t) && xgcan t g) (xgchk (xgnew t g) (xG n M (pc + 2) L (vR t (g.1 t) :: r) (xgnew t g))) none
        | _, _ => none
      | .anewarray c => match xas xsite (M * 1000 + pc), xas xclN ((xrec M).1 * 1000 + c), st with
        | some t, some C, .inl x :: r => cond (Nat.beq (xkind t) 4 && decide (xaty t = .object C.1) && ["PlayParts$Role", "PlayParts$Child", "PlayParts$Text", "PlayParts$Sheet"].contains C.1 && Nat.blt c 1000 && decide (x = xlen t) && xgcan t g) (xgchk (xgnew t g) (xG n M (pc + 3) L (vR t (g.1 t) :: r) (xgnew t g))) none
        | _, _, _ => none
      | .multianewarray c d => match xas xsite (M * 1000 + pc), xas xclN ((xrec M).1 * 1000 + c), st with
        | some t, some C, .inl y :: .inl x :: r => cond (Nat.beq d 2 && decide (C.1 = "[[I") && Nat.blt c 1000 && Nat.beq (xkind t) 4 && decide (xaty t = .array .int) && Nat.beq (xkind (t + 1)) 2 && Nat.ble (xsz t) 1000 && Nat.ble (xsz (t + 1)) 1000 && decide (x = xlen t) && decide (y = xlen (t + 1)) && xfree g.2.2.1 t (g.1 t) && xfreN g.2.2.1 (t + 1) (g.1 (t + 1)) (xsz t) && Nat.ble (1 + xsz t) g.2.2.2.1 && Nat.ble (xsz t + xsz t * xsz (t + 1)) g.2.2.2.2)
            (xgchk (xgmul t g) (xG n M (pc + 4) L (vR t (g.1 t) :: r) (xgmul t g))) none
        | _, _, _ => none
      | .invokespecial x => match xcal (xrec M).1 x, st with
        | some q, .inr (.inr o) :: r => match q.2 with
          | 5 => cond (Nat.beq q.1 999 && !(Nat.beq o.1 0) && xrs r) (xG n M (pc + 3) L r g) none
          | 2 => cond (Nat.beq (xrec q.1).2.2.2.1 o.1 && Nat.beq (xrec q.1).2.2.2.2 1 && Nat.blt q.1 xN && xrs r && Nat.beq (xrec q.1).2.2.1 0 && decide ((xy q.1).1.name = "<init>") && !(Nat.beq o.1 0) && Nat.blt 0 (xrec q.1).2.1) (match xG n q.1 0 (xent q.1 [vR o.1 o.2]) [] g with
            | some g' => cond (Nat.ble g'.2.2.2.1 g.2.2.2.1 && Nat.ble g'.2.2.2.2 g.2.2.2.2) (xgchk g' (xG n M (pc + 3) L r g')) none
            | none => none) none
          | 4 => cond (Nat.beq (xrec q.1).2.2.2.1 o.1 && Nat.beq (xrec q.1).2.2.2.2 1 && Nat.blt q.1 xN && xrs r && Nat.beq (xrec q.1).2.2.1 0 && decide ((xy q.1).1.name = "<init>") && !(Nat.beq o.1 0) && Nat.blt 0 (xrec q.1).2.1) (match xG n q.1 0 (xent q.1 [vR o.1 o.2]) [] g with
            | some g' => cond (Nat.ble g'.2.2.2.1 g.2.2.2.1 && Nat.ble g'.2.2.2.2 g.2.2.2.2) (xgchk g' (xG n M (pc + 3) L r g')) none
            | none => none) none
          | _ => none
        | _, _ => none
      | .return_ => match st with
        | [] => cond (Nat.beq (xrec M).2.2.1 0) (some g) none
        | _ => none
      | _ => none
def xg0 : xGt := (fun _ => 0, fun _ _ _ => (0, 0), [], 200, 20000)

/-- both objects -/
def xgP : Option xGt := xG 700 m_P_init 0 (xent m_P_init [vR 4 0]) [] (xgnew 4 xg0)
def xgM (g : xGt) : Option xGt := xG 200 m_M_init 0 (xent m_M_init [vR 40 0]) [] (xgnew 40 g)
def xgAll : Option xGt := match xgP with
  | some g => xgM g
  | none => none
/-- a place that holds a reference -/
def xrfp (t k : Nat) : Bool := Nat.beq (xkind t) 4 || (Nat.beq (xkind t) 1 && Nat.beq (xft t k) 1)
def xpeq (p q : Nat × Nat) : Bool := Nat.beq p.1 q.1 && Nat.beq p.2 q.2
def xgcnt (g : xGt) : Bool := (List.range 57).all fun t => Nat.blt t 4 || Nat.beq (g.1 t) (xcnt t)
def xgrho (g : xGt) : Bool := (List.range 57).all fun t => Nat.blt t 4 || (List.range (xcnt t)).all fun i => (List.range (xsz t)).all fun k => !(xrfp t k) || xpeq (g.2.1 t i k) (xrho t i k)
def xgok : Bool := match xgAll with
  | some g => xgcnt g && xgrho g && decide (g.2.2.1 = [(41, 0, 1, 1), (17, 0, 3, 1), (5, 1, 4, 1), (5, 0, 4, 1)])
  | none => false
theorem xgok_ok : xgok = true := by decide +kernel
