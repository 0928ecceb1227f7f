/-! Sets in the order that turns one thing at a time, and in the order of their numbers. -/
def SN (f : Nat → Int) : Nat → Int
  | 0 => 0
  | n + 1 => SN f n + f n
theorem SN_cg {f g : Nat → Int} : ∀ n : Nat, (∀ i, i < n → f i = g i) → SN f n = SN g n
  | 0, _ => rfl
  | n + 1, h => by
    show SN f n + f n = SN g n + g n
    rw [SN_cg n (fun i hi => h i (by omega)), h n (by omega)]
theorem SN_app (f : Nat → Int) (m : Nat) : ∀ n : Nat, SN f (m + n) = SN f m + SN (fun i => f (m + i)) n
  | 0 => by show SN f m = SN f m + 0; rw [Int.add_zero]
  | n + 1 => by
    show SN f (m + n) + f (m + n) = SN f m + (SN (fun i => f (m + i)) n + f (m + n))
    rw [SN_app f m n, Int.add_assoc]
theorem SN_rev (f : Nat → Int) : ∀ n : Nat, SN (fun i => f (n - 1 - i)) n = SN f n
  | 0 => rfl
  | n + 1 => by
    have a := SN_app (fun i => f (n + 1 - 1 - i)) 1 n
    rw [Nat.add_comm 1 n] at a
    rw [a]
    have e : SN (fun i => (fun i => f (n + 1 - 1 - i)) (1 + i)) n = SN (fun i => f (n - 1 - i)) n := SN_cg n (fun i hi => by
      show f (n + 1 - 1 - (1 + i)) = f (n - 1 - i)
      congr 1
      omega)
    rw [e, SN_rev f n]
    show 0 + f (n + 1 - 1 - 0) + SN f n = SN f n + f n
    rw [show n + 1 - 1 - 0 = n by omega]
    omega
/-- the sum over all sets that differ from X in the first m things alone -/
def CS (f : Nat → Int) : Nat → Nat → Int
  | 0, X => f X
  | m + 1, X => CS f m X + CS f m (X ^^^ 2 ^ m)
theorem xor_r (a b c : Nat) : a ^^^ b ^^^ c = a ^^^ c ^^^ b := by rw [Nat.xor_assoc, Nat.xor_comm b c, ← Nat.xor_assoc]
theorem CS_x (f : Nat → Int) (c : Nat) : ∀ (m X : Nat), CS (fun Y => f (Y ^^^ c)) m X = CS f m (X ^^^ c)
  | 0, X => rfl
  | m + 1, X => by
    show CS (fun Y => f (Y ^^^ c)) m X + CS (fun Y => f (Y ^^^ c)) m (X ^^^ 2 ^ m) = CS f m (X ^^^ c) + CS f m (X ^^^ c ^^^ 2 ^ m)
    rw [CS_x f c m X, CS_x f c m (X ^^^ 2 ^ m), xor_r]
theorem CS_top (f : Nat → Int) (m X : Nat) : CS f (m + 1) (X ^^^ 2 ^ m) = CS f (m + 1) X := by
  show CS f m (X ^^^ 2 ^ m) + CS f m (X ^^^ 2 ^ m ^^^ 2 ^ m) = CS f m X + CS f m (X ^^^ 2 ^ m)
  rw [Nat.xor_assoc, Nat.xor_self, Nat.xor_zero, Int.add_comm]
theorem xor_top {m s : Nat} (h : s < 2 ^ m) : s ^^^ 2 ^ m = 2 ^ m + s := by
  apply Nat.eq_of_testBit_eq
  intro i
  rw [Nat.testBit_xor, Nat.testBit_two_pow]
  rcases Nat.lt_trichotomy i m with z | z | z
  · rw [Nat.testBit_two_pow_add_gt z, decide_eq_false (by omega), Bool.xor_false]
  · rw [z, Nat.testBit_two_pow_add_eq, Nat.testBit_lt_two_pow h, decide_eq_true rfl]
    rfl
  · have h2 : 2 ^ m + s < 2 ^ i := by
      have : 2 ^ (m + 1) ≤ 2 ^ i := Nat.pow_le_pow_right (by decide) z
      rw [Nat.pow_succ] at this
      omega
    have h3 : s < 2 ^ i := by omega
    rw [Nat.testBit_lt_two_pow h2, Nat.testBit_lt_two_pow h3, decide_eq_false (by omega)]
    rfl
theorem CS_plain : ∀ (m : Nat) (f : Nat → Int), CS f m 0 = SN f (2 ^ m)
  | 0, f => by
    show f 0 = 0 + f 0
    omega
  | m + 1, f => by
    have e : CS f m (0 ^^^ 2 ^ m) = SN (fun i => f (2 ^ m + i)) (2 ^ m) := by
      rw [← CS_x, CS_plain m (fun Y => f (Y ^^^ 2 ^ m))]
      exact SN_cg _ (fun i hi => by rw [xor_top hi])
    show CS f m 0 + CS f m (0 ^^^ 2 ^ m) = _
    rw [CS_plain m f, e, Nat.pow_succ, Nat.mul_two, SN_app]
def lw (i : Nat) : Nat → Nat → Nat
  | 0, a => a
  | f + 1, a => if i.testBit a = true then a else lw i f (a + 1)
theorem lw_e {i k : Nat} (hk : i.testBit k = true) (hl : ∀ j, j < k → i.testBit j = false) : ∀ (f a : Nat), a ≤ k → k < a + f → lw i f a = k
  | 0, a, h1, h2 => by omega
  | f + 1, a, h1, h2 => by
    unfold lw
    by_cases z : a = k
    · rw [z, if_pos hk]
    · rw [if_neg (by rw [hl a (by omega)]; decide)]
      exact lw_e hk hl f (a + 1) (by omega) (by omega)
theorem ex_low : ∀ (m x : Nat), 0 < x → x < 2 ^ m → ∃ k, k < m ∧ x.testBit k = true ∧ ∀ j, j < k → x.testBit j = false
  | 0, x, h0, h1 => by
    have : (2 : Nat) ^ 0 = 1 := rfl
    omega
  | m + 1, x, h0, h1 => by
    rw [Nat.pow_succ] at h1
    by_cases z : x % 2 = 1
    · exact ⟨0, by omega, by rw [Nat.testBit_zero, z]; rfl, fun j hj => by omega⟩
    · obtain ⟨k, k1, k2, k3⟩ := ex_low m (x / 2) (by omega) (by omega)
      refine ⟨k + 1, by omega, by rw [Nat.testBit_succ]; exact k2, fun j hj => ?_⟩
      cases j with
      | zero => rw [Nat.testBit_zero]; exact decide_eq_false z
      | succ j => rw [Nat.testBit_succ]; exact k3 j (by omega)
def v2 (i : Nat) : Nat := lw i 14 0
theorem v2_top {m : Nat} (hm : m < 14) : v2 (2 ^ m) = m := lw_e (by rw [Nat.testBit_two_pow]; exact decide_eq_true rfl) (fun j hj => by rw [Nat.testBit_two_pow]; exact decide_eq_false (by omega)) 14 0 (by omega) (by omega)
theorem v2_add {m i : Nat} (hm : m ≤ 14) (h0 : 0 < i) (h1 : i < 2 ^ m) : v2 (2 ^ m + i) = v2 i ∧ v2 i < m := by
  obtain ⟨k, k1, k2, k3⟩ := ex_low m i h0 h1
  have a : v2 i = k := lw_e k2 k3 14 0 (by omega) (by omega)
  have b : v2 (2 ^ m + i) = k := lw_e (by rw [Nat.testBit_two_pow_add_gt k1]; exact k2) (fun j hj => by rw [Nat.testBit_two_pow_add_gt (by omega)]; exact k3 j hj) 14 0 (by omega) (by omega)
  rw [a, b]
  exact ⟨rfl, k1⟩
def gG (X : Nat) : Nat → Nat
  | 0 => X
  | i + 1 => gG X i ^^^ 2 ^ v2 (i + 1)
theorem gG_split {m : Nat} (hm : m < 14) (X : Nat) : ∀ i : Nat, i < 2 ^ m → gG X (2 ^ m + i) = gG (gG X (2 ^ m - 1) ^^^ 2 ^ m) i
  | 0, _ => by
    have p : 0 < 2 ^ m := Nat.two_pow_pos m
    obtain ⟨q, hq⟩ : ∃ q, 2 ^ m = q + 1 := ⟨2 ^ m - 1, by omega⟩
    show gG X (2 ^ m) = gG X (2 ^ m - 1) ^^^ 2 ^ m
    have e : gG X (q + 1) = gG X q ^^^ 2 ^ v2 (q + 1) := rfl
    rw [← hq, v2_top hm] at e
    rw [e, show q = 2 ^ m - 1 by omega]
  | i + 1, hi => by
    show gG X (2 ^ m + i) ^^^ 2 ^ v2 (2 ^ m + i + 1) = gG (gG X (2 ^ m - 1) ^^^ 2 ^ m) i ^^^ 2 ^ v2 (i + 1)
    rw [gG_split hm X i (by omega), show 2 ^ m + i + 1 = 2 ^ m + (i + 1) by omega, (v2_add (by omega) (show 0 < i + 1 by omega) hi).1]
theorem gray : ∀ (m : Nat), m ≤ 14 → ∀ (f : Nat → Int) (X : Nat), SN (fun i => f (gG X i)) (2 ^ m) = CS f m X ∧ CS f m (gG X (2 ^ m - 1)) = CS f m X
  | 0, _, f, X => by
    refine ⟨?_, rfl⟩
    show 0 + f X = f X
    omega
  | m + 1, hm, f, X => by
    have p : 0 < 2 ^ m := Nat.two_pow_pos m
    have ih := gray m (by omega)
    have z : ∀ (g : Nat → Int) (W : Nat), CS g (m + 1) (gG W (2 ^ m - 1)) = CS g (m + 1) W := fun g W => by
      show CS g m (gG W (2 ^ m - 1)) + CS g m (gG W (2 ^ m - 1) ^^^ 2 ^ m) = CS g m W + CS g m (W ^^^ 2 ^ m)
      rw [(ih g W).2, ← CS_x, (ih (fun Y => g (Y ^^^ 2 ^ m)) W).2, CS_x]
    constructor
    · rw [Nat.pow_succ, Nat.mul_two, SN_app, (ih f X).1]
      have e : SN (fun i => f (gG X (2 ^ m + i))) (2 ^ m) = SN (fun i => f (gG (gG X (2 ^ m - 1) ^^^ 2 ^ m) i)) (2 ^ m) := SN_cg _ (fun i hi => by rw [gG_split (by omega) X i hi])
      rw [e, (ih f _).1]
      show _ = CS f m X + CS f m (X ^^^ 2 ^ m)
      rw [← CS_x, (ih (fun Y => f (Y ^^^ 2 ^ m)) X).2, CS_x]
    · have e : gG X (2 ^ (m + 1) - 1) = gG (gG X (2 ^ m - 1) ^^^ 2 ^ m) (2 ^ m - 1) := by
        rw [← gG_split (by omega) X (2 ^ m - 1) (by omega), Nat.pow_succ]
        congr 1
        omega
      rw [e, z, CS_top, z]
theorem gray0 {m : Nat} (hm : m ≤ 14) (f : Nat → Int) : SN (fun i => f (gG 0 i)) (2 ^ m) = SN f (2 ^ m) := by
  rw [(gray m hm f 0).1, CS_plain]
theorem gG_lt {m : Nat} (hm : m ≤ 14) : ∀ i : Nat, i < 2 ^ m → gG 0 i < 2 ^ m
  | 0, h => h
  | i + 1, h => by
    show gG 0 i ^^^ 2 ^ v2 (i + 1) < 2 ^ m
    have a := gG_lt hm i (by omega)
    have b := (v2_add hm (show 0 < i + 1 by omega) h).2
    exact Nat.xor_lt_two_pow a (Nat.pow_lt_pow_right (by decide) b)
/-- bits of an Int that is a Nat -/
theorem bitT_nat {s i : Nat} (hi : i < 32) : bitT (s : Int) (i : Int) = s.testBit i := by
  rw [bitT_n _ hi]
  unfold Bt bt
  rw [oi_n]
  show (BitVec.ofNat 32 s).getLsbD i = _
  rw [BitVec.getLsbD_ofNat, decide_eq_true hi, Bool.true_and]
theorem xor_nat {s t : Nat} (hs : s < 2147483648) (ht : t < 31) : i_xor (s : Int) (i_shl 1 (t : Int)) = ((s ^^^ 2 ^ t : Nat) : Int) := by
  have b1 : s ^^^ 2 ^ t < 2 ^ 31 := Nat.xor_lt_two_pow (show s < 2 ^ 31 from hs) (Nat.pow_lt_pow_right (by decide) ht)
  have b2 : (2 : Nat) ^ 31 = 2147483648 := by decide
  apply Bt_ext (in_xor _ _) (by unfold in32; omega)
  intro i hi
  have e1 := bitT_nat (s := s) hi
  have e2 := bitT_nat (s := s ^^^ 2 ^ t) hi
  rw [bitT_n _ hi] at e1 e2
  rw [Bt_xor, Bt_1 t (by omega) i hi, e1, e2, Nat.testBit_xor, Nat.testBit_two_pow]
  congr 1
  by_cases z : i = t
  · rw [decide_eq_true z, decide_eq_true z.symm]
  · rw [decide_eq_false z, decide_eq_false (fun x => z x.symm)]
theorem shl_nat : ∀ t : Nat, t < 31 → i_shl 1 (t : Int) = ((2 ^ t : Nat) : Int) := by decide +kernel
