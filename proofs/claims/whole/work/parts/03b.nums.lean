/-! whole numbers: an int on the machine is the Int of its value, within its range -/
def w32 (x : Int) : Int := Int.bmod x 4294967296
def w64 (x : Int) : Int := Int.bmod x 18446744073709551616
abbrev ir (x : Int) : Prop := -2147483648 ≤ x ∧ x ≤ 2147483647
abbrev lr (x : Int) : Prop := -9223372036854775808 ≤ x ∧ x ≤ 9223372036854775807
def i32 (x : Int) : Int32 := Int32.ofInt x
def i64 (x : Int) : Int64 := Int64.ofInt x
theorem w32_id {x : Int} (h : -2147483648 ≤ x) (h2 : x ≤ 2147483647) : w32 x = x := by
  unfold w32; rw [Int.bmod_def]; split <;> omega
theorem w64_id {x : Int} (h : -9223372036854775808 ≤ x) (h2 : x ≤ 9223372036854775807) : w64 x = x := by
  unfold w64; rw [Int.bmod_def]; split <;> omega
theorem w32_ir (x : Int) : ir (w32 x) := by
  unfold ir w32; rw [Int.bmod_def]; split <;> omega
theorem w64_lr (x : Int) : lr (w64 x) := by
  unfold lr w64; rw [Int.bmod_def]; split <;> omega
theorem i32_toInt (x : Int) : (i32 x).toInt = w32 x := by simp [i32, w32, Int32.toInt_ofInt, Int32.size]
theorem i64_toInt (x : Int) : (i64 x).toInt = w64 x := by simp [i64, w64, Int64.toInt_ofInt, Int64.size]
theorem i32_of {x : Int} (h : ir x) : (i32 x).toInt = x := by rw [i32_toInt, w32_id h.1 h.2]
theorem i64_of {x : Int} (h : lr x) : (i64 x).toInt = x := by rw [i64_toInt, w64_id h.1 h.2]
theorem i32_ti (x : Int32) : i32 x.toInt = x := Int32.ofInt_toInt x
theorem i64_ti (x : Int64) : i64 x.toInt = x := Int64.ofInt_toInt x
theorem ti_ir (x : Int32) : ir x.toInt := ⟨by have := Int32.le_toInt x; simpa using this, by have := Int32.toInt_lt x; omega⟩
theorem ti_lr (x : Int64) : lr x.toInt := ⟨by have := Int64.le_toInt x; simpa using this, by have := Int64.toInt_lt x; omega⟩
theorem i32_add (a b : Int) : i32 a + i32 b = i32 (w32 (a + b)) := by
  apply Int32.toInt_inj.mp; rw [Int32.toInt_add, i32_toInt, i32_toInt, i32_toInt]; simp [w32]
theorem i32_sub (a b : Int) : i32 a - i32 b = i32 (w32 (a - b)) := by
  apply Int32.toInt_inj.mp; rw [Int32.toInt_sub, i32_toInt, i32_toInt, i32_toInt]; simp [w32]
theorem i32_mul (a b : Int) : i32 a * i32 b = i32 (w32 (a * b)) := by
  apply Int32.toInt_inj.mp; rw [Int32.toInt_mul, i32_toInt, i32_toInt, i32_toInt]; simp [w32]
theorem i64_add (a b : Int) : i64 a + i64 b = i64 (w64 (a + b)) := by
  apply Int64.toInt_inj.mp; rw [Int64.toInt_add, i64_toInt, i64_toInt, i64_toInt]; simp [w64]
theorem i32_lt {a b : Int} (ha : ir a) (hb : ir b) : i32 a < i32 b ↔ a < b := by rw [Int32.lt_iff_toInt_lt, i32_of ha, i32_of hb]
theorem i32_le {a b : Int} (ha : ir a) (hb : ir b) : i32 a ≤ i32 b ↔ a ≤ b := by rw [Int32.le_iff_toInt_le, i32_of ha, i32_of hb]
theorem i32_eq {a b : Int} (ha : ir a) (hb : ir b) : i32 a = i32 b ↔ a = b := by rw [← Int32.toInt_inj, i32_of ha, i32_of hb]
theorem i64_lt {a b : Int} (ha : lr a) (hb : lr b) : i64 a < i64 b ↔ a < b := by rw [Int64.lt_iff_toInt_lt, i64_of ha, i64_of hb]
theorem i64_eq {a b : Int} (ha : lr a) (hb : lr b) : i64 a = i64 b ↔ a = b := by rw [← Int64.toInt_inj, i64_of ha, i64_of hb]
theorem ir0 : ir 0 := by unfold ir; omega
theorem i32_zero : i32 0 = 0 := rfl
theorem i2l_ok {x : Int} (h : ir x) : (i32 x).toInt64 = i64 x := by
  apply Int64.toInt_inj.mp; rw [Int32.toInt_toInt64, i32_of h, i64_toInt, w64_id (by have := h.1; omega) (by have := h.2; omega)]
theorem l2i_ok {x : Int} (h : lr x) : (i64 x).toInt32 = i32 (w32 x) := by
  apply Int32.toInt_inj.mp; rw [Int64.toInt_toInt32, i64_of h, i32_toInt]; simp [w32]
-- the bit operations, by the machine's own
def and32 (a b : Int) : Int := (i32 a &&& i32 b).toInt
def or32 (a b : Int) : Int := (i32 a ||| i32 b).toInt
def xor32 (a b : Int) : Int := (i32 a ^^^ i32 b).toInt
def shl32 (a b : Int) : Int := (i32 a <<< (i32 b &&& 31)).toInt
def shr32 (a b : Int) : Int := (i32 a >>> (i32 b &&& 31)).toInt
def ushr32 (a b : Int) : Int := ((i32 a).toUInt32 >>> ((i32 b).toUInt32 &&& Int32.toUInt32 31)).toInt32.toInt
def div32 (a b : Int) : Int := (i32 a / i32 b).toInt
def rem32 (a b : Int) : Int := (i32 a - i32 a / i32 b * i32 b).toInt
def and64 (a b : Int) : Int := (i64 a &&& i64 b).toInt
def or64 (a b : Int) : Int := (i64 a ||| i64 b).toInt
def shl64 (a b : Int) : Int := (i64 a <<< ((i32 b).toInt64 &&& 63)).toInt
def shr64 (a b : Int) : Int := (i64 a >>> ((i32 b).toInt64 &&& 63)).toInt
def cmp64 (a b : Int) : Int := if b < a then 1 else if a = b then 0 else -1
theorem cmp64_ok {a b : Int} (ha : lr a) (hb : lr b) : lg_cmp (i64 a) (i64 b) = i32 (cmp64 a b) := by
  unfold lg_cmp cmp64
  simp only [i64_lt hb ha, i64_eq ha hb]
  split
  · rfl
  · split <;> rfl
theorem cmp64_ir (a b : Int) : ir (cmp64 a b) := by unfold ir cmp64; split <;> (try split) <;> omega
-- an index within its row
theorem vin_ok {i : Int} {n : Nat} (h0 : 0 ≤ i) (h1 : i < n) (hn : n ≤ 65536) : vp_in (i32 i) n ∧ (i32 i).toNatClampNeg = i.toNat := by
  have hi : (i32 i).toInt = i := i32_of ⟨by omega, by omega⟩
  refine ⟨vp_in_iff.mpr (by rw [hi]; exact ⟨h0, h1⟩), ?_⟩
  show (i32 i).toInt.toNat = i.toNat
  rw [hi]
