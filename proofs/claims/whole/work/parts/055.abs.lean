/-! THE PLAIN MACHINE: ints are Int, references are (kind of cell, which one), what the cells hold of ints is one function -/
abbrev xV : Type := Int ⊕ (Int ⊕ (Nat × Nat))
abbrev xM : Type := Nat → Nat → Nat → Int
abbrev vI (x : Int) : xV := .inl x
abbrev vL (x : Int) : xV := .inr (.inl x)
abbrev vR (t i : Nat) : xV := .inr (.inr (t, i))
/-- the int that is congruent -/
def xwr (x : Int) : Int := Int.bmod x 4294967296
def xup (f : xM) (t i k : Nat) (v : Int) : xM := fun a b c => if a = t ∧ b = i ∧ c = k then v else f a b c
def xcpy (f : xM) (t0 i0 s0 t1 i1 d0 n : Nat) : xM := fun a b c => if a = t1 ∧ b = i1 ∧ d0 ≤ c ∧ c < d0 + n then f t0 i0 (s0 + (c - d0)) else f a b c
def xshl (x y : Int) : Int := (Int32.ofInt x <<< (Int32.ofInt y &&& 31)).toInt
def xshr (x y : Int) : Int := (Int32.ofInt x >>> (Int32.ofInt y &&& 31)).toInt
def xush (x y : Int) : Int := ((Int32.ofInt x).toUInt32 >>> ((Int32.ofInt y).toUInt32 &&& Int32.toUInt32 31)).toInt32.toInt
def xand (x y : Int) : Int := (Int32.ofInt x &&& Int32.ofInt y).toInt
def xior (x y : Int) : Int := (Int32.ofInt x ||| Int32.ofInt y).toInt
def xxor (x y : Int) : Int := (Int32.ofInt x ^^^ Int32.ofInt y).toInt
def xi2b (x : Int) : Int := (Int32.ofInt x).toInt8.toInt32.toInt
def xi2s (x : Int) : Int := (Int32.ofInt x).toInt16.toInt32.toInt
def xi2c (x : Int) : Int := ((Int32.ofInt x).toUInt32 % 65536).toInt32.toInt
def xl2i (x : Int) : Int := (Int64.ofInt x).toInt32.toInt
def xlushr (x y : Int) : Int := ((Int64.ofInt x).toUInt64 >>> ((Int32.ofInt y).toInt64.toUInt64 &&& Int64.toUInt64 63)).toInt64.toInt
def xlshl (x y : Int) : Int := (Int64.ofInt x <<< ((Int32.ofInt y).toInt64 &&& 63)).toInt
def xlshr (x y : Int) : Int := (Int64.ofInt x >>> ((Int32.ofInt y).toInt64 &&& 63)).toInt
def xland (x y : Int) : Int := (Int64.ofInt x &&& Int64.ofInt y).toInt
def xlor (x y : Int) : Int := (Int64.ofInt x ||| Int64.ofInt y).toInt
def xget : List xV → Nat → xV
  | [], _ => vR 0 0
  | v :: _, 0 => v
  | _ :: r, k + 1 => xget r k
def xset : List xV → Nat → xV → List xV
  | [], _, _ => []
  | _ :: r, 0, v => v :: r
  | a :: r, k + 1, v => a :: xset r k v
def xI1 (st : List xV) (k : Int → List xV → Prop) : Prop := match st with
  | .inl x :: r => k x r
  | _ => False
def xI2 (st : List xV) (k : Int → Int → List xV → Prop) : Prop := match st with
  | .inl y :: .inl x :: r => k x y r
  | _ => False
def xL1 (st : List xV) (k : Int → List xV → Prop) : Prop := match st with
  | .inr (.inl x) :: r => k x r
  | _ => False
def xL2 (st : List xV) (k : Int → Int → List xV → Prop) : Prop := match st with
  | .inr (.inl y) :: .inr (.inl x) :: r => k x y r
  | _ => False
def xLI (st : List xV) (k : Int → Int → List xV → Prop) : Prop := match st with
  | .inl y :: .inr (.inl x) :: r => k x y r
  | _ => False
def xR1 (st : List xV) (k : Nat → Nat → List xV → Prop) : Prop := match st with
  | .inr (.inr q) :: r => k q.1 q.2 r
  | _ => False
def xIR (st : List xV) (k : Nat → Nat → Int → List xV → Prop) : Prop := match st with
  | .inl x :: .inr (.inr q) :: r => k q.1 q.2 x r
  | _ => False
def xIIR (st : List xV) (k : Nat → Nat → Int → Int → List xV → Prop) : Prop := match st with
  | .inl v :: .inl x :: .inr (.inr q) :: r => k q.1 q.2 x v r
  | _ => False
def xvI (v : xV) (k : Int → Prop) : Prop := match v with
  | .inl x => k x
  | _ => False
def xvL (v : xV) (k : Int → Prop) : Prop := match v with
  | .inr (.inl x) => k x
  | _ => False
/-- a reference that is one -/
def xvR (v : xV) (k : Nat → Nat → Prop) : Prop := match v with
  | .inr (.inr q) => cond (Nat.beq q.1 0) False (k q.1 q.2)
  | _ => False
/-- a value of one word -/
def xv1 (v : xV) (P : Prop) : Prop := match v with
  | .inl _ => P
  | .inr (.inl _) => False
  | .inr (.inr q) => cond (Nat.beq q.1 0) False P
def xif (c : ClassFile.Cond) (x y : Int) (A B : Prop) : Prop := match c with
  | .eq => if x = y then A else B
  | .ne => if x = y then B else A
  | .lt => if x < y then A else B
  | .ge => if x < y then B else A
  | .gt => if y < x then A else B
  | .le => if y < x then B else A
def xsw (x : Int) : Int → List Int → (Int → Prop) → Prop → Prop
  | _, [], _, d => d
  | lo, o :: os, k, d => if x = lo then k o else xsw x (lo + 1) os k d
def xlsw (x : Int) : List (Int × Int) → (Int → Prop) → Prop → Prop
  | [], _, d => d
  | q :: r, k, d => if x = q.1 then k q.2 else xlsw x r k d
def xjmp (pc : Nat) (o : Int) : Nat := ((pc : Int) + o).toNat
/-- the texts' bytes; the constant array -/
def xblen (i : Nat) : Int := cond (Nat.beq i 1) 0 3
def xbyt (i j : Nat) : Int := xnth 0 (xnth [] [[], [], [119, 108, 118], [119, 115, 121]] i) j
def xabv (j : Nat) : Int := xnth 0 [-1, 0, 0, 0, 1, 2, 0] j
/-- which local of a method holds a long -/
def xlg (M k : Nat) : Bool := (Nat.beq M m_P_feed || Nat.beq M m_M_feed) && Nat.beq k 1
def xlgS (M k : Nat) : Bool := match k with
  | 0 => false
  | k + 1 => xlg M k
def xpush (k : Nat) (r : Int) (st : List xV) : List xV := cond (Nat.beq (xrec k).2.2.1 0) st (vI r :: st)
def xents : List xV → List xV
  | [] => []
  | .inr (.inl x) :: r => vL x :: vR 0 0 :: xents r
  | v :: r => v :: xents r
def xpad : Nat → List xV
  | 0 => []
  | n + 1 => vR 0 0 :: xpad n
def xfit : List xV → Nat → List xV
  | l, 0 => []
  | [], n => xpad n
  | v :: r, n + 1 => v :: xfit r n
/-- a method's locals at its entry -/
def xent (k : Nat) (as : List xV) : List xV := xfit (xents as) (xrec k).2.1
def xtake : Nat → List xV → List xV → (List xV → List xV → Prop) → Prop
  | 0, acc, st, k => k acc st
  | n + 1, acc, v :: st, k => xtake n (v :: acc) st k
  | _ + 1, _, [], _ => False
/-- the receiver is of the class -/
def xrcv (t0 : Nat) (as : List xV) : Bool := match t0, as with
  | 0, _ => true
  | t0, .inr (.inr q) :: _ => Nat.beq q.1 t0
  | _, _ => false
def xnl : List xV → Bool
  | [] => true
  | .inr (.inl _) :: _ => false
  | _ :: r => xnl r
/-- what lies below a call's arguments is little -/
def xrs (r : List xV) : Bool := xnl r && Nat.ble r.length 8
def xints (t : Nat) : Bool := Nat.beq (xkind t) 2
def xstp (ins : Instr) (M pc : Nat) (L st : List xV) (σ : xM) (K : Nat → List xV → List xV → xM → Prop) (C : Nat → List xV → List xV → Prop) (R : Int → Prop) : Prop :=
  let own := (xrec M).1
  match ins with
  | .iconst n => K (pc + 1) L (vI n :: st) σ
  | .bipush n => K (pc + 2) L (vI n :: st) σ
  | .sipush n => K (pc + 3) L (vI n :: st) σ
  | .ldc x => match xkon own x with
    | some v => K (pc + 2) L (vI v :: st) σ
    | none => match xstr own x with
      | some z => K (pc + 2) L (vR 1 z :: st) σ
      | none => False
  | .ldc_w x => match xkon own x with
    | some v => K (pc + 3) L (vI v :: st) σ
    | none => False
  | .ldc2_w x => match xkonL own x with
    | some v => K (pc + 3) L (vL v :: st) σ
    | none => False
  | .iload_n k => xvI (xget L k) fun x => K (pc + 1) L (vI x :: st) σ
  | .iload k => xvI (xget L k) fun x => K (pc + 2) L (vI x :: st) σ
  | .lload_n k => xvL (xget L k) fun x => K (pc + 1) L (vL x :: st) σ
  | .aload_n k => xvR (xget L k) fun t i => K (pc + 1) L (vR t i :: st) σ
  | .aload k => xvR (xget L k) fun t i => K (pc + 2) L (vR t i :: st) σ
  | .istore_n k => cond (xlgS M k) False (xI1 st fun x r => K (pc + 1) (xset L k (vI x)) r σ)
  | .istore k => cond (xlgS M k) False (xI1 st fun x r => K (pc + 2) (xset L k (vI x)) r σ)
  | .astore_n k => cond (xlgS M k) False (xR1 st fun t i r => cond (Nat.beq t 0) False (K (pc + 1) (xset L k (vR t i)) r σ))
  | .astore k => cond (xlgS M k) False (xR1 st fun t i r => cond (Nat.beq t 0) False (K (pc + 2) (xset L k (vR t i)) r σ))
  | .iinc k n => cond (xlgS M k) False (xvI (xget L k) fun x => K (pc + 3) (xset L k (vI (xwr (x + n)))) st σ)
  | .iadd => xI2 st fun x y r => K (pc + 1) L (vI (xwr (x + y)) :: r) σ
  | .isub => xI2 st fun x y r => K (pc + 1) L (vI (xwr (x - y)) :: r) σ
  | .imul => xI2 st fun x y r => K (pc + 1) L (vI (xwr (x * y)) :: r) σ
  | .ineg => xI1 st fun x r => K (pc + 1) L (vI (xwr (-x)) :: r) σ
  | .idiv => xI2 st fun x y r => y ≠ 0 ∧ K (pc + 1) L (vI (xwr (Int.tdiv x y)) :: r) σ
  | .irem => xI2 st fun x y r => y ≠ 0 ∧ K (pc + 1) L (vI (Int.tmod x y) :: r) σ
  | .ishl => xI2 st fun x y r => K (pc + 1) L (vI (xshl x y) :: r) σ
  | .ishr => xI2 st fun x y r => K (pc + 1) L (vI (xshr x y) :: r) σ
  | .iushr => xI2 st fun x y r => K (pc + 1) L (vI (xush x y) :: r) σ
  | .iand => xI2 st fun x y r => K (pc + 1) L (vI (xand x y) :: r) σ
  | .ior => xI2 st fun x y r => K (pc + 1) L (vI (xior x y) :: r) σ
  | .ixor => xI2 st fun x y r => K (pc + 1) L (vI (xxor x y) :: r) σ
  | .i2b => xI1 st fun x r => K (pc + 1) L (vI (xi2b x) :: r) σ
  | .i2s => xI1 st fun x r => K (pc + 1) L (vI (xi2s x) :: r) σ
  | .i2c => xI1 st fun x r => K (pc + 1) L (vI (xi2c x) :: r) σ
  | .i2l => xI1 st fun x r => K (pc + 1) L (vL x :: r) σ
  | .l2i => xL1 st fun x r => K (pc + 1) L (vI (xl2i x) :: r) σ
  | .land => xL2 st fun x y r => K (pc + 1) L (vL (xland x y) :: r) σ
  | .lor => xL2 st fun x y r => K (pc + 1) L (vL (xlor x y) :: r) σ
  | .lshl => xLI st fun x y r => K (pc + 1) L (vL (xlshl x y) :: r) σ
  | .lshr => xLI st fun x y r => K (pc + 1) L (vL (xlshr x y) :: r) σ
  | .lushr => xLI st fun x y r => K (pc + 1) L (vL (xlushr x y) :: r) σ
  | .ifCond c o => xI1 st fun x r => xif c x 0 (K (xjmp pc o) L r σ) (K (pc + 3) L r σ)
  | .if_icmp c o => xI2 st fun x y r => xif c x y (K (xjmp pc o) L r σ) (K (pc + 3) L r σ)
  | .goto o => K (xjmp pc o) L st σ
  | .tableswitch d lo _ os => xI1 st fun x r => xsw x lo os.toList (fun o => K (xjmp pc o) L r σ) (K (xjmp pc d) L r σ)
  | .lookupswitch d ps => xI1 st fun x r => xlsw x ps.toList (fun o => K (xjmp pc o) L r σ) (K (xjmp pc d) L r σ)
  | .dup => match st with
    | v :: r => xv1 v (K (pc + 1) L (v :: v :: r) σ)
    | [] => False
  | .dup2 => match st with
    | v :: w :: r => xv1 v (xv1 w (K (pc + 1) L (v :: w :: v :: w :: r) σ))
    | _ => False
  | .pop => match st with
    | v :: r => xv1 v (K (pc + 1) L r σ)
    | [] => False
  | .getfield x => xR1 st fun t i r => match xfld own x with
    | some q => cond (Nat.beq t q.1) (match xft q.1 q.2 with
      | 0 => cond (Nat.beq q.1 1) (K (pc + 3) L (vI 0 :: r) σ) (K (pc + 3) L (vI (σ t i q.2) :: r) σ)
      | 1 => K (pc + 3) L (.inr (.inr (xrho t i q.2)) :: r) σ
      | 2 => (1 ≤ σ t i q.2 ∧ σ t i q.2 ≤ 3) ∧ K (pc + 3) L (vR 1 (σ t i q.2).toNat :: r) σ
      | 3 => K (pc + 3) L (vI (σ t i q.2) :: r) σ
      | _ => False) False
    | none => False
  | .putfield x => match st with
    | v :: st' => xR1 st' fun t i r => match xfld own x with
      | some q => cond (Nat.beq t q.1) (match xft q.1 q.2 with
        | 0 => cond (Nat.beq q.1 1) False (xvI v fun y => K (pc + 3) L r (xup σ t i q.2 y))
        | 2 => xvR v fun a z => cond (Nat.beq a 1) (K (pc + 3) L r (xup σ t i q.2 z)) False
        | 3 => xvI v fun y => (y = 0 ∨ y = 1) ∧ K (pc + 3) L r (xup σ t i q.2 y)
        | _ => False) False
      | none => False
    | [] => False
  | .iaload => xIR st fun t i x r => cond (xints t) ((0 ≤ x ∧ x < xlen t) ∧ K (pc + 1) L (vI (σ t i x.toNat) :: r) σ)
      (cond (Nat.beq t 3) ((0 ≤ x ∧ x < xlen t) ∧ K (pc + 1) L (vI (xabv x.toNat) :: r) σ) False)
  | .iastore => xIIR st fun t i x v r => cond (xints t) ((0 ≤ x ∧ x < xlen t) ∧ K (pc + 1) L r (xup σ t i x.toNat v)) False
  | .baload => xIR st fun t i x r => cond (Nat.beq (xkind t) 3) ((0 ≤ x ∧ x < xlen t) ∧ K (pc + 1) L (vI (σ t i x.toNat) :: r) σ)
      (cond (Nat.beq t 2) ((0 ≤ x ∧ x < xblen i) ∧ K (pc + 1) L (vI (xbyt i x.toNat) :: r) σ) False)
  | .bastore => xIIR st fun t i x v r => cond (Nat.beq (xkind t) 3) ((0 ≤ x ∧ x < xlen t) ∧ (v = 0 ∨ v = 1) ∧ K (pc + 1) L r (xup σ t i x.toNat v)) False
  | .aaload => xIR st fun t i x r => cond (Nat.beq (xkind t) 4) ((0 ≤ x ∧ x < xlen t) ∧ K (pc + 1) L (.inr (.inr (xrho t i x.toNat)) :: r) σ) False
  | .arraylength => xR1 st fun t i r => cond (Nat.ble 2 (xkind t)) (K (pc + 1) L (vI (xlen t) :: r) σ)
      (cond (Nat.beq t 2) (K (pc + 1) L (vI (xblen i) :: r) σ) False)
  | .getstatic x => match xsta own x with
    | some true => K (pc + 3) L (vR 3 0 :: st) σ
    | some false => K (pc + 3) L (vI 1 :: st) σ
    | none => False
  | .ireturn => match st with
    | [.inl x] => match (xrec M).2.2.1 with
      | 1 => R x
      | 2 => (x = 0 ∨ x = 1) ∧ R x
      | 3 => (-128 ≤ x ∧ x ≤ 127) ∧ R x
      | _ => False
    | _ => False
  | .return_ => match st with
    | [] => match (xrec M).2.2.1 with
      | 0 => R 0
      | _ => False
    | _ => False
  | .invokevirtual x => match xcal own x with
    | some q => xtake (xrec q.1).2.2.2.2 [] st fun as r => cond (Nat.beq q.2 0 && xrcv (xrec q.1).2.2.2.1 as && xnl as && xrs r) (C q.1 as r) False
    | none => False
  | .invokestatic x => match xcal own x with
    | some q => match q.2 with
      | 6 => match st with
        | .inl n :: .inl dp :: .inr (.inr b) :: .inl sp :: .inr (.inr a) :: r => cond (xints a.1 && xints b.1 && xrs r) ((0 ≤ sp ∧ 0 ≤ dp ∧ 0 ≤ n ∧ sp + n ≤ xlen a.1 ∧ dp + n ≤ xlen b.1) ∧ K (pc + 3) L r (xcpy σ a.1 a.2 sp.toNat b.1 b.2 dp.toNat n.toNat)) False
        | _ => False
      | 7 => xI2 st fun x y r => cond (xrs r) (K (pc + 3) L (vI (if x < y then y else x) :: r) σ) False
      | 8 => xI2 st fun x y r => cond (xrs r) (K (pc + 3) L (vI (if y < x then y else x) :: r) σ) False
      | 1 => xtake (xrec q.1).2.2.2.2 [] st fun as r => cond (Nat.beq (xrec q.1).2.2.2.1 0 && xnl as && xrs r) (C q.1 as r) False
      | 3 => xtake (xrec q.1).2.2.2.2 [] st fun as r => cond (Nat.beq (xrec q.1).2.2.2.1 0 && xnl as && xrs r) (C q.1 as r) False
      | _ => False
    | none => False
  | _ => False
/-- n steps of the machine, calls at most d deep: it returns, with Q -/
def xF : Nat → Nat → Nat → Nat → List xV → List xV → xM → (Int → xM → Prop) → Prop
  | 0, _, _, _, _, _, _, _ => False
  | n + 1, d, M, pc, L, st, σ, Q => match xat M pc with
    | none => False
    | some q => xstp q.1 M pc L st σ (fun pc' L' st' σ' => xF n d M pc' L' st' σ' Q)
        (fun k as r => match d with
          | 0 => False
          | d' + 1 => xF n d' k 0 (xent k as) [] σ (fun v σ' => xF n (d' + 1) M (pc + 3) L (xpush k v r) σ' Q))
        (fun v => Q v σ)
def Ev (d M pc : Nat) (L st : List xV) (σ : xM) (Q : Int → xM → Prop) : Prop := ∃ n, xF n d M pc L st σ Q
