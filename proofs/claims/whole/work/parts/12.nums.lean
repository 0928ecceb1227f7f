/-! Int32 and Int64 as Int. -/
def in32 (x : Int) : Prop := -2147483648 ≤ x ∧ x ≤ 2147483647
def in64 (x : Int) : Prop := -9223372036854775808 ≤ x ∧ x ≤ 9223372036854775807
theorem w32_in (x : Int) : in32 (w32 x) := by
  unfold in32 w32
  have h1 := Int.le_bmod (x := x) (m := 4294967296) (by decide)
  have h2 := Int.bmod_lt (x := x) (m := 4294967296) (by decide)
  omega
theorem w64_in (x : Int) : in64 (w64 x) := by
  unfold in64 w64
  have h1 := Int.le_bmod (x := x) (m := 18446744073709551616) (by decide)
  have h2 := Int.bmod_lt (x := x) (m := 18446744073709551616) (by decide)
  omega
theorem w8_in (x : Int) : -128 ≤ w8 x ∧ w8 x ≤ 127 := by
  unfold w8
  have h1 := Int.le_bmod (x := x) (m := 256) (by decide)
  have h2 := Int.bmod_lt (x := x) (m := 256) (by decide)
  omega
theorem w32_id {x : Int} (h1 : -2147483648 ≤ x) (h2 : x ≤ 2147483647) : w32 x = x := by
  unfold w32; exact Int.bmod_eq_of_le (by omega) (by omega)
theorem w64_id {x : Int} (h1 : -9223372036854775808 ≤ x) (h2 : x ≤ 9223372036854775807) : w64 x = x := by
  unfold w64; exact Int.bmod_eq_of_le (by omega) (by omega)
theorem w8_id {x : Int} (h1 : -128 ≤ x) (h2 : x ≤ 127) : w8 x = x := by
  unfold w8; exact Int.bmod_eq_of_le (by omega) (by omega)
theorem o32_t {x : Int} (h : in32 x) : (Int32.ofInt x).toInt = x := Int32.toInt_ofInt_of_le (by have := h.1; omega) (by have := h.2; omega)
theorem o64_t {x : Int} (h : in64 x) : (Int64.ofInt x).toInt = x := Int64.toInt_ofInt_of_le (by have := h.1; omega) (by have := h.2; omega)
theorem t32_in (x : Int32) : in32 x.toInt := by
  have h1 := x.minValue_le_toInt
  have h2 := x.toInt_le
  have e : Int32.maxValue.toInt = 2147483647 := by decide
  exact ⟨by simpa using h1, by omega⟩
theorem t64_in (x : Int64) : in64 x.toInt := by
  have h1 := x.minValue_le_toInt
  have h2 := x.toInt_le
  have e : Int64.maxValue.toInt = 9223372036854775807 := by decide
  exact ⟨by simpa using h1, by omega⟩
theorem o32_w (x : Int) : Int32.ofInt (w32 x) = Int32.ofInt x := by
  apply Int32.toInt.inj
  rw [Int32.toInt_ofInt, Int32.toInt_ofInt]
  unfold w32
  exact Int.bmod_bmod
theorem o64_w (x : Int) : Int64.ofInt (w64 x) = Int64.ofInt x := by
  apply Int64.toInt.inj
  rw [Int64.toInt_ofInt, Int64.toInt_ofInt]
  unfold w64
  exact Int.bmod_bmod
theorem o32_add (a b : Int) : Int32.ofInt a + Int32.ofInt b = Int32.ofInt (w32 (a + b)) := by rw [o32_w, Int32.ofInt_add]
theorem o32_sub (a b : Int) : Int32.ofInt a - Int32.ofInt b = Int32.ofInt (w32 (a - b)) := by rw [o32_w, Int32.ofInt_sub]
theorem o32_mul (a b : Int) : Int32.ofInt a * Int32.ofInt b = Int32.ofInt (w32 (a * b)) := by rw [o32_w, Int32.ofInt_mul]
theorem o32_neg (a : Int) : -Int32.ofInt a = Int32.ofInt (w32 (-a)) := by rw [o32_w, Int32.neg_ofInt]
theorem o64_add (a b : Int) : Int64.ofInt a + Int64.ofInt b = Int64.ofInt (w64 (a + b)) := by rw [o64_w, Int64.ofInt_add]
theorem o64_sub (a b : Int) : Int64.ofInt a - Int64.ofInt b = Int64.ofInt (w64 (a - b)) := by rw [o64_w, Int64.ofInt_sub]
theorem o64_mul (a b : Int) : Int64.ofInt a * Int64.ofInt b = Int64.ofInt (w64 (a * b)) := by rw [o64_w, Int64.ofInt_mul]
theorem o64_neg (a : Int) : -Int64.ofInt a = Int64.ofInt (w64 (-a)) := by rw [o64_w, Int64.neg_ofInt]
theorem o32_inj {a b : Int} (ha : in32 a) (hb : in32 b) : Int32.ofInt a = Int32.ofInt b ↔ a = b := by
  constructor
  · intro h
    have := congrArg Int32.toInt h
    rwa [o32_t ha, o32_t hb] at this
  · intro h; rw [h]
theorem o64_inj {a b : Int} (ha : in64 a) (hb : in64 b) : Int64.ofInt a = Int64.ofInt b ↔ a = b := by
  constructor
  · intro h
    have := congrArg Int64.toInt h
    rwa [o64_t ha, o64_t hb] at this
  · intro h; rw [h]
theorem o32_lt {a b : Int} (ha : in32 a) (hb : in32 b) : Int32.ofInt a < Int32.ofInt b ↔ a < b := by rw [Int32.lt_iff_toInt_lt, o32_t ha, o32_t hb]
theorem o64_lt {a b : Int} (ha : in64 a) (hb : in64 b) : Int64.ofInt a < Int64.ofInt b ↔ a < b := by rw [Int64.lt_iff_toInt_lt, o64_t ha, o64_t hb]
theorem o32_div {a b : Int} (ha : in32 a) (hb : in32 b) : Int32.ofInt a / Int32.ofInt b = Int32.ofInt (w32 (a.tdiv b)) := by
  apply Int32.toInt.inj
  rw [Int32.toInt_div, o32_t ha, o32_t hb, o32_w, Int32.toInt_ofInt]
theorem o64_div {a b : Int} (ha : in64 a) (hb : in64 b) : Int64.ofInt a / Int64.ofInt b = Int64.ofInt (w64 (a.tdiv b)) := by
  apply Int64.toInt.inj
  rw [Int64.toInt_div, o64_t ha, o64_t hb, o64_w, Int64.toInt_ofInt]
theorem tmod_in {a b : Int} {M : Int} (h1 : -M ≤ a) (h2 : a < M) : -M ≤ a.tmod b ∧ a.tmod b < M := by
  have h3 := Int.natAbs_tmod a b
  have h4 := Nat.mod_le a.natAbs b.natAbs
  by_cases ha : 0 ≤ a
  · have := Int.tmod_nonneg b ha
    omega
  · have h5 := Int.tmod_nonneg b (show 0 ≤ -a by omega)
    rw [Int.neg_tmod] at h5
    omega
theorem o32_rem {a b : Int} (ha : in32 a) (hb : in32 b) : Int32.ofInt a - Int32.ofInt a / Int32.ofInt b * Int32.ofInt b = Int32.ofInt (a.tmod b) := by
  rw [o32_div ha hb, o32_w, ← Int32.ofInt_mul, ← Int32.ofInt_sub]
  congr 1
  have := Int.tdiv_mul_add_tmod a b
  omega
theorem o64_rem {a b : Int} (ha : in64 a) (hb : in64 b) : Int64.ofInt a - Int64.ofInt a / Int64.ofInt b * Int64.ofInt b = Int64.ofInt (a.tmod b) := by
  rw [o64_div ha hb, o64_w, ← Int64.ofInt_mul, ← Int64.ofInt_sub]
  congr 1
  have := Int.tdiv_mul_add_tmod a b
  omega
theorem o32_64 {a : Int} (h : in32 a) : (Int32.ofInt a).toInt64 = Int64.ofInt a := by
  apply Int64.toInt.inj
  rw [Int32.toInt_toInt64, o32_t h, o64_t ⟨by have := h.1; omega, by have := h.2; omega⟩]
theorem o64_32 (a : Int) : (Int64.ofInt a).toInt32 = Int32.ofInt (w32 a) := by rw [o32_w]; exact Int64.toInt32_ofInt
theorem o32_8 (a : Int) : (Int32.ofInt a).toInt8.toInt32 = Int32.ofInt (w8 a) := by
  apply Int32.toInt.inj
  rw [Int32.toInt8_ofInt, Int8.toInt_toInt32, Int8.toInt_ofInt, Int32.toInt_ofInt_of_le (by have := (w8_in a).1; omega) (by have := (w8_in a).2; omega)]
  rfl
theorem n32_t (n : Nat) : Int32.ofInt (n : Int) = Int32.ofNat n := Int32.ofInt_eq_ofNat
theorem o32_cl {a : Int} (h : in32 a) (h0 : 0 ≤ a) : (Int32.ofInt a).toNatClampNeg = a.toNat := by
  rw [Int32.toNatClampNeg_ofInt_of_le (by have := h.1; omega) (by have := h.2; omega)]
theorem o32_vp {a n : Int} (h : in32 a) (h0 : 0 ≤ a) (h1 : a < n) : vp_in (Int32.ofInt a) n.toNat := by
  unfold vp_in
  rw [o32_cl h h0]
  intro q
  rcases q with q | q
  · rw [Int32.lt_iff_toInt_lt, o32_t h] at q
    have : (0 : Int32).toInt = 0 := by decide
    omega
  · omega
