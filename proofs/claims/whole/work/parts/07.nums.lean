/-! ints of the plain machine and of the machine -/
abbrev xr (x : Int) : Prop := -2147483648 ≤ x ∧ x < 2147483648
abbrev xrl (x : Int) : Prop := -9223372036854775808 ≤ x ∧ x < 9223372036854775808
theorem xn_to {x : Int} (h : xr x) : (Int32.ofInt x).toInt = x := by
  rw [Int32.toInt_ofInt]
  show Int.bmod x 4294967296 = x
  exact Int.bmod_eq_of_le (by have := h.1; omega) (by have := h.2; omega)
theorem xn_of (w : Int32) : Int32.ofInt w.toInt = w := Int32.ofInt_toInt w
theorem xn_rg (w : Int32) : xr w.toInt := ⟨Int32.le_toInt w, Int32.toInt_lt w⟩
theorem xn_wrr (x : Int) : xr (xwr x) := by
  unfold xwr
  exact ⟨by have := Int.le_bmod (x := x) (m := 4294967296) (by omega); omega, by have := Int.bmod_lt (x := x) (m := 4294967296) (by omega); omega⟩
theorem xn_wr (x : Int) : Int32.ofInt (xwr x) = Int32.ofInt x := by
  apply Int32.toInt_inj.mp
  rw [xn_to (xn_wrr x), Int32.toInt_ofInt]
  rfl
theorem xn_id {x : Int} (h : xr x) : xwr x = x := Int.bmod_eq_of_le (by have := h.1; omega) (by have := h.2; omega)
theorem xn_add (x y : Int) : Int32.ofInt x + Int32.ofInt y = Int32.ofInt (xwr (x + y)) := by rw [xn_wr, Int32.ofInt_add]
theorem xn_sub (x y : Int) : Int32.ofInt x - Int32.ofInt y = Int32.ofInt (xwr (x - y)) := by rw [xn_wr, Int32.ofInt_sub]
theorem xn_mul (x y : Int) : Int32.ofInt x * Int32.ofInt y = Int32.ofInt (xwr (x * y)) := by rw [xn_wr, Int32.ofInt_mul]
theorem xn_neg (x : Int) : -Int32.ofInt x = Int32.ofInt (xwr (-x)) := by rw [xn_wr, Int32.ofInt_neg]
theorem xn_div {x y : Int} (hx : xr x) (hy : xr y) : Int32.ofInt x / Int32.ofInt y = Int32.ofInt (xwr (Int.tdiv x y)) := by
  apply Int32.toInt_inj.mp
  rw [xn_to (xn_wrr _), Int32.toInt_div, xn_to hx, xn_to hy]
  rfl
theorem xn_tm {x y : Int} (hx : xr x) : xr (Int.tmod x y) := by
  have h := Int.natAbs_tmod x y
  have h2 : x.natAbs % y.natAbs ≤ x.natAbs := Nat.mod_le _ _
  rcases Int.le_total 0 x with h0 | h0
  · have h1 : 0 ≤ Int.tmod x y := Int.tmod_nonneg y h0
    constructor <;> omega
  · have h1 : Int.tmod x y ≤ 0 := by
      have := Int.tmod_nonneg y (show 0 ≤ -x by omega)
      rw [Int.neg_tmod] at this
      omega
    constructor <;> omega
theorem xn_rem {x y : Int} (hx : xr x) (hy : xr y) : Int32.ofInt x - Int32.ofInt x / Int32.ofInt y * Int32.ofInt y = Int32.ofInt (Int.tmod x y) := by
  rw [xn_div hx hy, xn_wr, ← Int32.ofInt_mul, ← Int32.ofInt_sub]
  congr 1
  have := Int.tmod_add_mul_tdiv x y
  rw [Int.mul_comm] at this
  omega
theorem xn_lt {x y : Int} (hx : xr x) (hy : xr y) : Int32.ofInt x < Int32.ofInt y ↔ x < y := by rw [Int32.lt_iff_toInt_lt, xn_to hx, xn_to hy]
theorem xn_le {x y : Int} (hx : xr x) (hy : xr y) : Int32.ofInt x ≤ Int32.ofInt y ↔ x ≤ y := by rw [Int32.le_iff_toInt_le, xn_to hx, xn_to hy]
theorem xn_eq {x y : Int} (hx : xr x) (hy : xr y) : Int32.ofInt x = Int32.ofInt y ↔ x = y := by
  constructor
  · intro h
    have := congrArg Int32.toInt h
    rwa [xn_to hx, xn_to hy] at this
  · intro h; rw [h]
theorem xn_0 : (0 : Int32) = Int32.ofInt 0 := by decide +kernel
theorem xn_r0 : xr 0 := by constructor <;> decide
theorem xn_nat {x : Int} (h0 : 0 ≤ x) (hx : xr x) : (Int32.ofInt x).toNatClampNeg = x.toNat := by
  rw [← Int32.toNat_toInt, xn_to hx]
theorem xn_in {x : Int} {n : Nat} (h0 : 0 ≤ x) (h1 : x < n) (hx : xr x) : vp_in (Int32.ofInt x) n := by
  unfold vp_in
  rw [xn_nat h0 hx]
  rintro (h | h)
  · rw [xn_0, xn_lt hx xn_r0] at h
    omega
  · omega
theorem xn_lof (w : Int64) : Int64.ofInt w.toInt = w := Int64.ofInt_toInt w
theorem xn_lrg (w : Int64) : xrl w.toInt := ⟨Int64.le_toInt w, Int64.toInt_lt w⟩
theorem xn_lto {x : Int} (h : xrl x) : (Int64.ofInt x).toInt = x := by
  rw [Int64.toInt_ofInt]
  show Int.bmod x 18446744073709551616 = x
  exact Int.bmod_eq_of_le (by have := h.1; omega) (by have := h.2; omega)
theorem xn_i2l {x : Int} (hx : xr x) : (Int32.ofInt x).toInt64 = Int64.ofInt x := by
  apply Int64.toInt_inj.mp
  rw [Int32.toInt_toInt64, xn_to hx, xn_lto (by constructor <;> have := hx.1 <;> have := hx.2 <;> omega)]
theorem xn_b {n : Int} (h : -128 ≤ n ∧ n ≤ 127) : (Int8.ofInt n).toInt32 = Int32.ofInt n := by
  apply Int32.toInt_inj.mp
  rw [Int8.toInt_toInt32, Int8.toInt_ofInt, xn_to (by constructor <;> omega)]
  show Int.bmod n 256 = n
  exact Int.bmod_eq_of_le (by omega) (by omega)
theorem xn_s {n : Int} (h : -32768 ≤ n ∧ n ≤ 32767) : (Int16.ofInt n).toInt32 = Int32.ofInt n := by
  apply Int32.toInt_inj.mp
  rw [Int16.toInt_toInt32, Int16.toInt_ofInt, xn_to (by constructor <;> omega)]
  show Int.bmod n 65536 = n
  exact Int.bmod_eq_of_le (by omega) (by omega)
theorem xn_nz {x : Int} (h : x = 0 ∨ x = 1) : narrow .boolean (.int (Int32.ofInt x)) = .int (Int32.ofInt x) := by
  rcases h with rfl | rfl <;> decide +kernel
theorem xn_nzv {x : Int} (h : x = 0 ∨ x = 1) : vp_nar .boolean (Int32.ofInt x) = Int32.ofInt x := by
  rcases h with rfl | rfl <;> decide +kernel
theorem xn_nb {x : Int} (h : -128 ≤ x ∧ x ≤ 127) : narrow .byte (.int (Int32.ofInt x)) = .int (Int32.ofInt x) := by
  have h1 : (Int32.ofInt x).toInt8.toInt32 = Int32.ofInt x := by
    apply Int32.toInt_inj.mp
    rw [Int8.toInt_toInt32, Int32.toInt_toInt8, xn_to (by constructor <;> omega)]
    exact Int.bmod_eq_of_le (by omega) (by omega)
  first
    | (show Value.int _ = _; exact congrArg Value.int h1)
    | simp [narrow, h1]
theorem xn_ofn (n : Nat) : Int32.ofNat n = Int32.ofInt (n : Int) := (by first | rfl | (apply Int32.toInt_inj.mp; simp))
