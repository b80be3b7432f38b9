/-! ===== whole numbers and the machine's ints ===== -/
def ox_i32 (x : Int) : Prop := -2147483648 ≤ x ∧ x < 2147483648
def ox_i64 (x : Int) : Prop := -9223372036854775808 ≤ x ∧ x < 9223372036854775808
theorem ox_w_in (x : Int) : ox_i32 (ox_w x) := by unfold ox_i32 ox_w; omega
theorem ox_wl_in (x : Int) : ox_i64 (ox_wl x) := by unfold ox_i64 ox_wl; omega
theorem ox_w_id {x : Int} (h : ox_i32 x) : ox_w x = x := by unfold ox_i32 at h; unfold ox_w; omega
theorem ox_toI {x : Int} (h : ox_i32 x) : (Int32.ofInt x).toInt = x := Int32.toInt_ofInt_of_le (by have := h.1; omega) (by have := h.2; omega)
theorem ox_toL {x : Int} (h : ox_i64 x) : (Int64.ofInt x).toInt = x := Int64.toInt_ofInt_of_le (by have := h.1; omega) (by have := h.2; omega)
theorem ox_toN {x : Int} (h : ox_i32 x) : (Int32.ofInt x).toNatClampNeg = x.toNat := Int32.toNatClampNeg_ofInt_of_le (by have := h.1; omega) (by have := h.2; omega)
theorem ox_of_w (x : Int) : Int32.ofInt (ox_w x) = Int32.ofInt x := by
  apply Int32.toInt_inj.mp
  rw [ox_toI (ox_w_in x), Int32.toInt_ofInt]
  show ox_w x = x.bmod 4294967296
  unfold ox_w Int.bmod
  simp only []
  split <;> omega
theorem ox_of_wl (x : Int) : Int64.ofInt (ox_wl x) = Int64.ofInt x := by
  apply Int64.toInt_inj.mp
  rw [ox_toL (ox_wl_in x), Int64.toInt_ofInt]
  show ox_wl x = x.bmod 18446744073709551616
  unfold ox_wl Int.bmod
  simp only []
  split <;> omega
theorem ox_lt {x y : Int} (hx : ox_i32 x) (hy : ox_i32 y) : Int32.ofInt x < Int32.ofInt y ↔ x < y := by rw [Int32.lt_iff_toInt_lt, ox_toI hx, ox_toI hy]
theorem ox_le {x y : Int} (hx : ox_i32 x) (hy : ox_i32 y) : Int32.ofInt x ≤ Int32.ofInt y ↔ x ≤ y := by rw [Int32.le_iff_toInt_le, ox_toI hx, ox_toI hy]
theorem ox_eq {x y : Int} (hx : ox_i32 x) (hy : ox_i32 y) : Int32.ofInt x = Int32.ofInt y ↔ x = y := by rw [← Int32.toInt_inj, ox_toI hx, ox_toI hy]
theorem ox_ltl {x y : Int} (hx : ox_i64 x) (hy : ox_i64 y) : Int64.ofInt x < Int64.ofInt y ↔ x < y := by rw [Int64.lt_iff_toInt_lt, ox_toL hx, ox_toL hy]
theorem ox_eql {x y : Int} (hx : ox_i64 x) (hy : ox_i64 y) : Int64.ofInt x = Int64.ofInt y ↔ x = y := by rw [← Int64.toInt_inj, ox_toL hx, ox_toL hy]
theorem ox_0 : Int32.ofInt 0 = 0 := rfl
theorem ox_i0 : ox_i32 0 := by unfold ox_i32; omega
theorem ox_32_64 {x : Int} (h : ox_i32 x) : ox_i64 x := by unfold ox_i32 at h; unfold ox_i64; omega
theorem ox_add (x y : Int) : Int32.ofInt x + Int32.ofInt y = Int32.ofInt (ox_w (x + y)) := by rw [ox_of_w, Int32.ofInt_add]
theorem ox_sub (x y : Int) : Int32.ofInt x - Int32.ofInt y = Int32.ofInt (ox_w (x - y)) := by rw [ox_of_w, Int32.ofInt_sub]
theorem ox_mul (x y : Int) : Int32.ofInt x * Int32.ofInt y = Int32.ofInt (ox_w (x * y)) := by rw [ox_of_w, Int32.ofInt_mul]
theorem ox_neg (x : Int) : -Int32.ofInt x = Int32.ofInt (ox_w (-x)) := by rw [ox_of_w, Int32.ofInt_neg]
theorem ox_addl (x y : Int) : Int64.ofInt x + Int64.ofInt y = Int64.ofInt (ox_wl (x + y)) := by rw [ox_of_wl, Int64.ofInt_add]
theorem ox_subl (x y : Int) : Int64.ofInt x - Int64.ofInt y = Int64.ofInt (ox_wl (x - y)) := by rw [ox_of_wl, Int64.ofInt_sub]
theorem ox_mull (x y : Int) : Int64.ofInt x * Int64.ofInt y = Int64.ofInt (ox_wl (x * y)) := by rw [ox_of_wl, Int64.ofInt_mul]
theorem ox_div {x y : Int} (hx : ox_i32 x) (hy : ox_i32 y) : Int32.ofInt x / Int32.ofInt y = Int32.ofInt (ox_w (x.tdiv y)) := by
  rw [ox_of_w]
  apply Int32.toInt_inj.mp
  rw [Int32.toInt_div, ox_toI hx, ox_toI hy, Int32.toInt_ofInt]
theorem ox_tmod_in {x y : Int} (hx : ox_i32 x) : ox_i32 (x.tmod y) := by
  have h1 : (x.tmod y).natAbs ≤ x.natAbs := by
    rw [Int.natAbs_tmod]
    exact Nat.mod_le _ _
  unfold ox_i32 at *
  by_cases h : 0 ≤ x
  · omega
  · have h2 : 0 ≤ (-x).tmod y := Int.tmod_nonneg y (by omega)
    rw [Int.neg_tmod] at h2
    omega
theorem ox_rem {x y : Int} (hx : ox_i32 x) (hy : ox_i32 y) : Int32.ofInt x - Int32.ofInt x / Int32.ofInt y * Int32.ofInt y = Int32.ofInt (x.tmod y) := by
  rw [ox_div hx hy, ox_of_w, ← Int32.ofInt_mul, ← Int32.ofInt_sub]
  congr 1
  have := Int.tmod_add_mul_tdiv x y
  rw [Int.mul_comm] at this
  omega
theorem ox_and_i (x y : Int) : Int32.ofInt x &&& Int32.ofInt y = Int32.ofInt (ox_and x y) := by unfold ox_and; rw [Int32.ofInt_toInt]
theorem ox_or_i (x y : Int) : Int32.ofInt x ||| Int32.ofInt y = Int32.ofInt (ox_or x y) := by unfold ox_or; rw [Int32.ofInt_toInt]
theorem ox_shl_i (x y : Int) : Int32.ofInt x <<< (Int32.ofInt y &&& 31) = Int32.ofInt (ox_shl x y) := by unfold ox_shl; rw [Int32.ofInt_toInt]
theorem ox_toInt_in (x : Int32) : ox_i32 x.toInt := ⟨by have := x.le_toInt; omega, by have := x.toInt_lt; omega⟩
theorem ox_i2l {x : Int} (h : ox_i32 x) : (Int32.ofInt x).toInt64 = Int64.ofInt x := by
  apply Int64.toInt_inj.mp
  rw [Int32.toInt_toInt64, ox_toI h, ox_toL (ox_32_64 h)]
theorem ox_l2i (x : Int) : (Int64.ofInt x).toInt32 = Int32.ofInt (ox_w x) := by rw [ox_of_w, Int64.toInt32_ofInt]
theorem ox_vin {x : Int} (h : ox_i32 x) {n : Nat} (h1 : 0 ≤ x ∧ x.toNat < n) : vp_in (Int32.ofInt x) n := by
  unfold vp_in
  rintro (q | q)
  · rw [← ox_0, ox_lt h ox_i0] at q; omega
  · rw [ox_toN h] at q; omega
theorem ox_nneg {x : Int} (h : ox_i32 x) (h1 : 0 ≤ x) : ¬ Int32.ofInt x < 0 := by
  rw [← ox_0, ox_lt h ox_i0]; omega
theorem ox_bvn (x : Int) : (Int32.ofInt x).toBitVec.toNat = (x % 4294967296).toNat := by
  rw [Int32.toBitVec_ofInt, BitVec.toNat_ofInt]
  rfl
theorem ox_nIof (n : Nat) : nI n = Int32.ofInt (n : Int) := rfl
theorem ox_i2c (x : Int) : ((Int32.ofInt x).toUInt32 % 65536).toInt32 = Int32.ofInt (x % 65536) := by
  rw [pk_char, ox_bvn, ox_nIof]
  congr 1
  omega
theorem ox_char_nar {x : Int} : vp_nar .char (Int32.ofInt x) = Int32.ofInt (x % 65536) := by
  rw [vp_nar_char, ← ox_i2c]
  congr 1
theorem ox_bool_nar {x : Int} : vp_nar .boolean (Int32.ofInt x) = Int32.ofInt (x % 2) := by
  show Int32.ofInt x &&& 1 = _
  rw [pk_and _ 1 rfl, ox_bvn, ox_nIof]
  congr 1
  omega
