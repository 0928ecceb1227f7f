/-! Bits (the first rows are pasted out of the family of bits given for pasting). -/
def bt (x : Int32) (i : Nat) : Bool := x.toBitVec.getLsbD i
theorem b_ext {x y : Int32} (h : ∀ i, i < 32 → bt x i = bt y i) : x = y := Int32.toBitVec_inj.mp (BitVec.eq_of_getLsbD_eq (fun i hi => h i hi))
theorem b_or (x y : Int32) (i : Nat) : bt (x ||| y) i = (bt x i || bt y i) := by unfold bt; rw [Int32.toBitVec_or, BitVec.getLsbD_or]
theorem b_and (x y : Int32) (i : Nat) : bt (x &&& y) i = (bt x i && bt y i) := by unfold bt; rw [Int32.toBitVec_and, BitVec.getLsbD_and]
theorem b_xor (x y : Int32) (i : Nat) : bt (x ^^^ y) i = (bt x i ^^ bt y i) := by unfold bt; rw [Int32.toBitVec_xor, BitVec.getLsbD_xor]
theorem b_big {x : Int32} {i : Nat} (h : 32 ≤ i) : bt x i = false := BitVec.getLsbD_of_ge _ _ h
theorem b_m1 : ∀ i, i < 32 → bt (-1) i = true := by decide +kernel
theorem b_0 (i : Nat) : bt 0 i = false := BitVec.getLsbD_zero
theorem s_l : ∀ n, n < 32 → ((nI n &&& 31).toBitVec.smod 32).toNat = n := by decide +kernel
theorem s_u : ∀ n, n < 32 → (((nI n).toUInt32 &&& Int32.toUInt32 31).toBitVec % 32).toNat = n := by decide +kernel
theorem b_shl (n : Nat) (hn : n < 32) (x : Int32) {i : Nat} (hi : i < 32) : bt (x <<< (nI n &&& 31)) i = (decide (n ≤ i) && bt x (i - n)) := by
  unfold bt
  rw [Int32.toBitVec_shiftLeft]
  show (x.toBitVec <<< ((nI n &&& 31).toBitVec.smod 32).toNat).getLsbD i = _
  rw [s_l n hn, BitVec.getLsbD_shiftLeft]
  rcases Nat.lt_or_ge i n with h | h
  · simp [h, Nat.not_le.mpr h]
  · simp [hi, h, Nat.not_lt.mpr h]
theorem b_sshr (n : Nat) (hn : n < 32) (x : Int32) {i : Nat} (hi : i < 32) : bt (x >>> (nI n &&& 31)) i = if n + i < 32 then bt x (n + i) else bt x 31 := by
  unfold bt
  rw [Int32.toBitVec_shiftRight]
  show (x.toBitVec.sshiftRight ((nI n &&& 31).toBitVec.smod 32).toNat).getLsbD i = _
  rw [s_l n hn, BitVec.getLsbD_sshiftRight, BitVec.msb_eq_getLsbD_last]
  simp [hi]
def Bt (x : Int) (i : Nat) : Bool := bt (Int32.ofInt x) i
theorem oi_t (y : Int32) : Int32.ofInt y.toInt = y := Int32.ofInt_toInt y
theorem Bt_or (a b : Int) (i : Nat) : Bt (i_or a b) i = (Bt a i || Bt b i) := by unfold Bt i_or; rw [oi_t, b_or]
theorem Bt_and (a b : Int) (i : Nat) : Bt (i_and a b) i = (Bt a i && Bt b i) := by unfold Bt i_and; rw [oi_t, b_and]
theorem Bt_xor (a b : Int) (i : Nat) : Bt (i_xor a b) i = (Bt a i ^^ Bt b i) := by unfold Bt i_xor; rw [oi_t, b_xor]
theorem Bt_ext {a b : Int} (ha : in32 a) (hb : in32 b) (e : ∀ i, i < 32 → Bt a i = Bt b i) : a = b := (o32_inj ha hb).1 (b_ext e)
theorem Bt_m1 {i : Nat} (hi : i < 32) : Bt (-1) i = true := b_m1 i hi
theorem Bt_1 : ∀ n : Nat, n < 32 → ∀ i : Nat, i < 32 → Bt (i_shl 1 (n : Int)) i = decide (i = n) := by decide +kernel
theorem Bt_one : ∀ i : Nat, i < 32 → Bt 1 i = decide (i = 0) := by decide +kernel
theorem oi_n (n : Nat) : Int32.ofInt (n : Int) = nI n := Int32.toBitVec_inj.mp (BitVec.ofInt_natCast 32 n)
theorem Bt_shr (x : Int) {n i : Nat} (hn : n < 32) (hi : n + i < 32) : Bt (i_shr x (n : Int)) i = Bt x (n + i) := by
  unfold Bt i_shr
  rw [oi_t, oi_n, b_sshr n hn _ (by omega), if_pos hi]
theorem in_or (a b : Int) : in32 (i_or a b) := t32_in _
theorem in_and (a b : Int) : in32 (i_and a b) := t32_in _
theorem in_xor (a b : Int) : in32 (i_xor a b) := t32_in _
theorem in_shl (a b : Int) : in32 (i_shl a b) := t32_in _
theorem and1 (y : Int) : i_and y 1 = 1 ↔ Bt y 0 = true := by
  constructor
  · intro e
    have k := Bt_and y 1 0
    rw [e, Bt_one 0 (by decide)] at k
    simpa using k.symm
  · intro e
    apply Bt_ext (in_and _ _) (by unfold in32; omega)
    intro i hi
    rw [Bt_and, Bt_one i hi]
    by_cases z : i = 0
    · rw [z, e]; rfl
    · rw [decide_eq_false z, Bool.and_false]
theorem bitT_n (x : Int) {n : Nat} (hn : n < 32) : bitT x (n : Int) = Bt x n := by
  unfold bitT
  have k := Bt_shr x (i := 0) hn (by omega)
  rw [Nat.add_zero] at k
  by_cases z : Bt x n = true
  · rw [z]; exact decide_eq_true ((and1 _).2 (by rw [k]; exact z))
  · rw [Bool.not_eq_true] at z
    rw [z]; exact decide_eq_false (fun q => by rw [(and1 _).1 q] at k; rw [z] at k; cases k)
/-- setting, taking away and turning one bit -/
theorem bit_set {x : Int} {n : Nat} (hx : in32 x) (hn : n < 32) (q : Bt x n = true) : i_or x (i_shl 1 (n : Int)) = x ∧ i_and x (i_xor (i_shl 1 (n : Int)) (-1)) = i_xor x (i_shl 1 (n : Int)) ∧ i_xor x (i_shl 1 (n : Int)) ≠ x := by
  refine ⟨Bt_ext (in_or _ _) hx (fun i hi => ?_), Bt_ext (in_and _ _) (in_xor _ _) (fun i hi => ?_), fun e => ?_⟩
  · rw [Bt_or, Bt_1 n hn i hi]
    by_cases z : i = n
    · rw [z, q]; rfl
    · rw [decide_eq_false z, Bool.or_false]
  · rw [Bt_and, Bt_xor, Bt_xor, Bt_1 n hn i hi, Bt_m1 hi]
    by_cases z : i = n
    · rw [z, q]; simp
    · rw [decide_eq_false z]; simp
  · have k := Bt_xor x (i_shl 1 (n : Int)) n
    rw [e, Bt_1 n hn n hn, q] at k
    simp at k
theorem bit_clr {x : Int} {n : Nat} (hx : in32 x) (hn : n < 32) (q : Bt x n = false) : i_and x (i_xor (i_shl 1 (n : Int)) (-1)) = x ∧ i_or x (i_shl 1 (n : Int)) = i_xor x (i_shl 1 (n : Int)) ∧ i_xor x (i_shl 1 (n : Int)) ≠ x := by
  refine ⟨Bt_ext (in_and _ _) hx (fun i hi => ?_), Bt_ext (in_or _ _) (in_xor _ _) (fun i hi => ?_), fun e => ?_⟩
  · rw [Bt_and, Bt_xor, Bt_1 n hn i hi, Bt_m1 hi]
    by_cases z : i = n
    · rw [z, q]; rfl
    · rw [decide_eq_false z]; simp
  · rw [Bt_or, Bt_xor, Bt_1 n hn i hi]
    by_cases z : i = n
    · rw [z, q]; simp
    · rw [decide_eq_false z]; simp
  · have k := Bt_xor x (i_shl 1 (n : Int)) n
    rw [e, Bt_1 n hn n hn, q] at k
    simp at k
theorem and255 (x : Int) : i_and x 255 = x % 256 := by
  have e : i_and x 255 = (BitVec.ofInt 32 x &&& BitVec.ofNat 32 255).toInt := rfl
  have t : (BitVec.ofInt 32 x &&& BitVec.ofNat 32 255).toNat = (x % 4294967296).toNat % 256 := by
    rw [BitVec.toNat_and, BitVec.toNat_ofInt]
    have : (BitVec.ofNat 32 255).toNat = 2 ^ 8 - 1 := by decide
    rw [this, Nat.and_two_pow_sub_one_eq_mod]
    rfl
  rw [e, BitVec.toInt_eq_toNat_cond, t, if_pos (by omega)]
  omega
theorem w8_w8 (x : Int) : w8 (w8 x) = w8 x := by unfold w8; exact Int.bmod_bmod
theorem w8_m (x : Int) : w8 (x % 256) = w8 x := by unfold w8; exact Int.emod_bmod ..
