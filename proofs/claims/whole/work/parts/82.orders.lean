/-! chance: all orders. -/
theorem bitT_or (u : Int) {i j : Int} (i0 : 0 ≤ i) (i1 : i < 32) (j0 : 0 ≤ j) (j1 : j < 32) : bitT (i_or u (i_shl 1 i)) j = (decide (j = i) || bitT u j) := by
  have ei : ((i.toNat : Nat) : Int) = i := by omega
  have ej : ((j.toNat : Nat) : Int) = j := by omega
  have a := bitT_n (i_or u (i_shl 1 i)) (n := j.toNat) (by omega)
  have b := bitT_n u (n := j.toNat) (by omega)
  have c := Bt_1 i.toNat (by omega) j.toNat (by omega)
  rw [ej] at a b
  rw [ei] at c
  rw [a, b, Bt_or, c, Bool.or_comm]
  congr 1
  by_cases z : j = i
  · rw [decide_eq_true z, decide_eq_true (by rw [z])]
  · rw [decide_eq_false z, decide_eq_false (by omega)]
theorem bitT_z {j : Int} (j0 : 0 ≤ j) (j1 : j < 32) : bitT 0 j = false := by
  have ej : ((j.toNat : Nat) : Int) = j := by omega
  have a := bitT_n 0 (n := j.toNat) (by omega)
  rw [ej] at a
  rw [a]
  exact BitVec.getLsbD_zero
def zP (n : Nat) (a b : Int → Int) (G : Int) : Nat → Int → Int → Int
  | 0, _, s => if s < G then 0 else 1
  | m + 1, u, s => Sm (fun i => if bitT u i = true then 0 else zP n a b G m (i_or u (i_shl 1 i)) (w64 (s + w64 (a ((n : Int) - (m + 1)) * b i)))) n 0
theorem zP_b {n : Nat} {a b : Int → Int} {G : Int} (n1 : n ≤ 7) : ∀ (m : Nat) (u s : Int), 0 ≤ zP n a b G m u s ∧ zP n a b G m u s ≤ 7 ^ m
  | 0, u, s => by
    show 0 ≤ (if s < G then 0 else 1) ∧ (if s < G then (0 : Int) else 1) ≤ 1
    split <;> omega
  | m + 1, u, s => by
    have p : (0 : Int) ≤ 7 ^ m := Int.pow_nonneg (by decide)
    have bb := Sm_b (g := fun i => if bitT u i = true then 0 else zP n a b G m (i_or u (i_shl 1 i)) (w64 (s + w64 (a ((n : Int) - (m + 1)) * b i)))) p n 0 (fun j _ _ => by
      split
      · omega
      · exact zP_b n1 m _ _)
    have pw : (7 : Int) ^ (m + 1) = 7 ^ m * 7 := Int.pow_succ _ _
    have mo : (7 : Int) ^ m * n ≤ 7 ^ m * 7 := Int.mul_le_mul_of_nonneg_left (by omega) p
    show 0 ≤ Sm _ n 0 ∧ Sm _ n 0 ≤ _
    rw [pw]
    omega
theorem p7 : ∀ m : Nat, m ≤ 6 → (7 : Int) ^ m ≤ 117649 := by
  intro m hm
  have : m = 0 ∨ m = 1 ∨ m = 2 ∨ m = 3 ∨ m = 4 ∨ m = 5 ∨ m = 6 := by omega
  rcases this with z | z | z | z | z | z | z <;> rw [z] <;> decide
def OrH (h : Hp) (n : Nat) (a b : Int → Int) (G : Int) : Prop := mR h 121 2 = n ∧ mR h 121 3 = G ∧ ∀ i : Int, 0 ≤ i → i < n → mR h 122 i = a i ∧ mR h 123 i = b i
theorem ivOr {h : Hp} {T : Int → Int} (w : Inv h T) : okF h 121 4 = true ∧ mR h 121 0 = 122 ∧ mR h 121 1 = 123 ∧ (mK h 122 = 103 ∧ mL h 122 = 7) ∧ (mK h 123 = 103 ∧ mL h 123 = 7) ∧ mR h 1 9 = 121 := ⟨okF_t w.1.2.2.2.2.2.2.2.2.2.2.1.1, w.1.2.2.2.2.2.2.2.2.2.2.1.2.1, w.1.2.2.2.2.2.2.2.2.2.2.1.2.2, w.1.2.2.2.2.2.2.2.2.2.2.2.1.1, w.1.2.2.2.2.2.2.2.2.2.2.2.1.2, w.1.2.1.2.2.2.2.2.2.2.2.2⟩
theorem cf1 {h : Hp} {T : Int → Int} (w : Inv h T) {n : Nat} {a b : Int → Int} {G : Int} (r : OrH h n a b G) (n1 : n ≤ 7) (dn : 7 ≤ n) (u s : Int) : C_Or_countFrom1 121 7 u s h = some (zP n a b G (n - 7) u s, h) := by
  have m := ivOr w
  rw [E_Or_countFrom1, if_pos m.1, r.1, if_neg (by omega), if_pos m.1, r.2.1, show n - 7 = 0 by omega]
  show _ = some (if s < G then 0 else 1, h)
  split <;> rfl
theorem cf2 {h : Hp} {T : Int → Int} (w : Inv h T) {n : Nat} {a b : Int → Int} {G : Int} (r : OrH h n a b G) (n1 : n ≤ 7) (dn : 6 ≤ n) (u s : Int) : C_Or_countFrom2 121 6 u s h = some (zP n a b G (n - 6) u s, h) := by
  have m := ivOr w
  rw [E_Or_countFrom2, if_pos m.1, r.1]
  by_cases q : n = 6
  · rw [if_neg (by omega), if_pos m.1, r.2.1, show n - 6 = 0 by omega]
    show _ = some (if s < G then 0 else 1, h)
    split <;> rfl
  · rw [if_pos (by omega), if_pos (by decide)]
    obtain ⟨k, hk⟩ : ∃ k : Nat, n - 6 = k + 1 := ⟨n - 6 - 1, by omega⟩
    have pk := p7 k (by omega)
    have ek : (n : Int) - (k + 1) = 6 := by omega
    have loop : ∀ (l : Nat) (i f : Int), 0 ≤ i → i + l = n → 0 ≤ f → f ≤ 117649 * i → P_Or_countFrom2_35 121 6 u s f i h = some (f + Sm (fun i => if bitT u i = true then 0 else zP n a b G k (i_or u (i_shl 1 i)) (w64 (s + w64 (a 6 * b i)))) l i, h) := by
      intro l
      induction l with
      | zero =>
        intro i f i0 hi f0 f1
        rw [E_Or_countFrom2_35, if_pos m.1, r.1, if_neg (by omega)]
        show _ = some (f + 0, h)
        rw [Int.add_zero]
      | succ l ih =>
        intro i f i0 hi f0 f1
        have c := cf1 w r n1 (show 7 ≤ n by omega) (i_or u (i_shl 1 i)) (w64 (s + w64 (a 6 * b i)))
        rw [show n - 7 = k by omega] at c
        have zb := zP_b (a := a) (b := b) (G := G) n1 k (i_or u (i_shl 1 i)) (w64 (s + w64 (a 6 * b i)))
        rw [E_Or_countFrom2_35, if_pos m.1, r.1, if_pos (show i < n by omega), w32_id (x := i + 1) (by omega) (by omega)]
        show _ = some (f + ((if bitT u i = true then 0 else zP n a b G k (i_or u (i_shl 1 i)) (w64 (s + w64 (a 6 * b i)))) + Sm (fun i => if bitT u i = true then 0 else zP n a b G k (i_or u (i_shl 1 i)) (w64 (s + w64 (a 6 * b i)))) l (i + 1)), h)
        by_cases z : i_and (i_shr u i) 1 = 1
        · rw [if_neg (show ¬ i_and (i_shr u i) 1 = 0 by omega), if_pos (show bitT u i = true from decide_eq_true z), Int.zero_add]
          exact ih (i + 1) f (by omega) (by omega) f0 (by omega)
        · have bz : ¬ bitT u i = true := fun e => z (of_decide_eq_true e)
          rw [if_pos ((i_and1 _).resolve_right z), if_pos m.1, m.2.1, if_pos (okA_t m.2.2.2.1 (by decide) (by decide)), if_pos m.1, m.2.2.1, if_pos (okA_t m.2.2.2.2.1 i0 (by omega)), w32_id (x := (6 : Int) + 1) (by decide) (by decide), (r.2.2 6 (by decide) (by omega)).1, (r.2.2 i i0 (by omega)).2, show (6 : Int) + 1 = 7 by decide, c, bind_some', if_neg bz]
          dsimp only
          rw [w32_id (x := f + zP n a b G k (i_or u (i_shl 1 i)) (w64 (s + w64 (a 6 * b i)))) (by omega) (by omega), ← Int.add_assoc]
          exact ih (i + 1) _ (by omega) (by omega) (by omega) (by omega)
    rw [loop n 0 0 (by omega) (by omega) (by omega) (by omega), hk, Int.zero_add]
    show _ = some (Sm (fun i => if bitT u i = true then 0 else zP n a b G k (i_or u (i_shl 1 i)) (w64 (s + w64 (a ((n : Int) - (k + 1)) * b i)))) n 0, h)
    rw [ek]
theorem cf3 {h : Hp} {T : Int → Int} (w : Inv h T) {n : Nat} {a b : Int → Int} {G : Int} (r : OrH h n a b G) (n1 : n ≤ 7) (dn : 5 ≤ n) (u s : Int) : C_Or_countFrom3 121 5 u s h = some (zP n a b G (n - 5) u s, h) := by
  have m := ivOr w
  rw [E_Or_countFrom3, if_pos m.1, r.1]
  by_cases q : n = 5
  · rw [if_neg (by omega), if_pos m.1, r.2.1, show n - 5 = 0 by omega]
    show _ = some (if s < G then 0 else 1, h)
    split <;> rfl
  · rw [if_pos (by omega), if_pos (by decide)]
    obtain ⟨k, hk⟩ : ∃ k : Nat, n - 5 = k + 1 := ⟨n - 5 - 1, by omega⟩
    have pk := p7 k (by omega)
    have ek : (n : Int) - (k + 1) = 5 := by omega
    have loop : ∀ (l : Nat) (i f : Int), 0 ≤ i → i + l = n → 0 ≤ f → f ≤ 117649 * i → P_Or_countFrom3_35 121 5 u s f i h = some (f + Sm (fun i => if bitT u i = true then 0 else zP n a b G k (i_or u (i_shl 1 i)) (w64 (s + w64 (a 5 * b i)))) l i, h) := by
      intro l
      induction l with
      | zero =>
        intro i f i0 hi f0 f1
        rw [E_Or_countFrom3_35, if_pos m.1, r.1, if_neg (by omega)]
        show _ = some (f + 0, h)
        rw [Int.add_zero]
      | succ l ih =>
        intro i f i0 hi f0 f1
        have c := cf2 w r n1 (show 6 ≤ n by omega) (i_or u (i_shl 1 i)) (w64 (s + w64 (a 5 * b i)))
        rw [show n - 6 = k by omega] at c
        have zb := zP_b (a := a) (b := b) (G := G) n1 k (i_or u (i_shl 1 i)) (w64 (s + w64 (a 5 * b i)))
        rw [E_Or_countFrom3_35, if_pos m.1, r.1, if_pos (show i < n by omega), w32_id (x := i + 1) (by omega) (by omega)]
        show _ = some (f + ((if bitT u i = true then 0 else zP n a b G k (i_or u (i_shl 1 i)) (w64 (s + w64 (a 5 * b i)))) + Sm (fun i => if bitT u i = true then 0 else zP n a b G k (i_or u (i_shl 1 i)) (w64 (s + w64 (a 5 * b i)))) l (i + 1)), h)
        by_cases z : i_and (i_shr u i) 1 = 1
        · rw [if_neg (show ¬ i_and (i_shr u i) 1 = 0 by omega), if_pos (show bitT u i = true from decide_eq_true z), Int.zero_add]
          exact ih (i + 1) f (by omega) (by omega) f0 (by omega)
        · have bz : ¬ bitT u i = true := fun e => z (of_decide_eq_true e)
          rw [if_pos ((i_and1 _).resolve_right z), if_pos m.1, m.2.1, if_pos (okA_t m.2.2.2.1 (by decide) (by decide)), if_pos m.1, m.2.2.1, if_pos (okA_t m.2.2.2.2.1 i0 (by omega)), w32_id (x := (5 : Int) + 1) (by decide) (by decide), (r.2.2 5 (by decide) (by omega)).1, (r.2.2 i i0 (by omega)).2, show (5 : Int) + 1 = 6 by decide, c, bind_some', if_neg bz]
          dsimp only
          rw [w32_id (x := f + zP n a b G k (i_or u (i_shl 1 i)) (w64 (s + w64 (a 5 * b i)))) (by omega) (by omega), ← Int.add_assoc]
          exact ih (i + 1) _ (by omega) (by omega) (by omega) (by omega)
    rw [loop n 0 0 (by omega) (by omega) (by omega) (by omega), hk, Int.zero_add]
    show _ = some (Sm (fun i => if bitT u i = true then 0 else zP n a b G k (i_or u (i_shl 1 i)) (w64 (s + w64 (a ((n : Int) - (k + 1)) * b i)))) n 0, h)
    rw [ek]
theorem cf4 {h : Hp} {T : Int → Int} (w : Inv h T) {n : Nat} {a b : Int → Int} {G : Int} (r : OrH h n a b G) (n1 : n ≤ 7) (dn : 4 ≤ n) (u s : Int) : C_Or_countFrom4 121 4 u s h = some (zP n a b G (n - 4) u s, h) := by
  have m := ivOr w
  rw [E_Or_countFrom4, if_pos m.1, r.1]
  by_cases q : n = 4
  · rw [if_neg (by omega), if_pos m.1, r.2.1, show n - 4 = 0 by omega]
    show _ = some (if s < G then 0 else 1, h)
    split <;> rfl
  · rw [if_pos (by omega), if_pos (by decide)]
    obtain ⟨k, hk⟩ : ∃ k : Nat, n - 4 = k + 1 := ⟨n - 4 - 1, by omega⟩
    have pk := p7 k (by omega)
    have ek : (n : Int) - (k + 1) = 4 := by omega
    have loop : ∀ (l : Nat) (i f : Int), 0 ≤ i → i + l = n → 0 ≤ f → f ≤ 117649 * i → P_Or_countFrom4_35 121 4 u s f i h = some (f + Sm (fun i => if bitT u i = true then 0 else zP n a b G k (i_or u (i_shl 1 i)) (w64 (s + w64 (a 4 * b i)))) l i, h) := by
      intro l
      induction l with
      | zero =>
        intro i f i0 hi f0 f1
        rw [E_Or_countFrom4_35, if_pos m.1, r.1, if_neg (by omega)]
        show _ = some (f + 0, h)
        rw [Int.add_zero]
      | succ l ih =>
        intro i f i0 hi f0 f1
        have c := cf3 w r n1 (show 5 ≤ n by omega) (i_or u (i_shl 1 i)) (w64 (s + w64 (a 4 * b i)))
        rw [show n - 5 = k by omega] at c
        have zb := zP_b (a := a) (b := b) (G := G) n1 k (i_or u (i_shl 1 i)) (w64 (s + w64 (a 4 * b i)))
        rw [E_Or_countFrom4_35, if_pos m.1, r.1, if_pos (show i < n by omega), w32_id (x := i + 1) (by omega) (by omega)]
        show _ = some (f + ((if bitT u i = true then 0 else zP n a b G k (i_or u (i_shl 1 i)) (w64 (s + w64 (a 4 * b i)))) + Sm (fun i => if bitT u i = true then 0 else zP n a b G k (i_or u (i_shl 1 i)) (w64 (s + w64 (a 4 * b i)))) l (i + 1)), h)
        by_cases z : i_and (i_shr u i) 1 = 1
        · rw [if_neg (show ¬ i_and (i_shr u i) 1 = 0 by omega), if_pos (show bitT u i = true from decide_eq_true z), Int.zero_add]
          exact ih (i + 1) f (by omega) (by omega) f0 (by omega)
        · have bz : ¬ bitT u i = true := fun e => z (of_decide_eq_true e)
          rw [if_pos ((i_and1 _).resolve_right z), if_pos m.1, m.2.1, if_pos (okA_t m.2.2.2.1 (by decide) (by decide)), if_pos m.1, m.2.2.1, if_pos (okA_t m.2.2.2.2.1 i0 (by omega)), w32_id (x := (4 : Int) + 1) (by decide) (by decide), (r.2.2 4 (by decide) (by omega)).1, (r.2.2 i i0 (by omega)).2, show (4 : Int) + 1 = 5 by decide, c, bind_some', if_neg bz]
          dsimp only
          rw [w32_id (x := f + zP n a b G k (i_or u (i_shl 1 i)) (w64 (s + w64 (a 4 * b i)))) (by omega) (by omega), ← Int.add_assoc]
          exact ih (i + 1) _ (by omega) (by omega) (by omega) (by omega)
    rw [loop n 0 0 (by omega) (by omega) (by omega) (by omega), hk, Int.zero_add]
    show _ = some (Sm (fun i => if bitT u i = true then 0 else zP n a b G k (i_or u (i_shl 1 i)) (w64 (s + w64 (a ((n : Int) - (k + 1)) * b i)))) n 0, h)
    rw [ek]
theorem cf5 {h : Hp} {T : Int → Int} (w : Inv h T) {n : Nat} {a b : Int → Int} {G : Int} (r : OrH h n a b G) (n1 : n ≤ 7) (dn : 3 ≤ n) (u s : Int) : C_Or_countFrom5 121 3 u s h = some (zP n a b G (n - 3) u s, h) := by
  have m := ivOr w
  rw [E_Or_countFrom5, if_pos m.1, r.1]
  by_cases q : n = 3
  · rw [if_neg (by omega), if_pos m.1, r.2.1, show n - 3 = 0 by omega]
    show _ = some (if s < G then 0 else 1, h)
    split <;> rfl
  · rw [if_pos (by omega), if_pos (by decide)]
    obtain ⟨k, hk⟩ : ∃ k : Nat, n - 3 = k + 1 := ⟨n - 3 - 1, by omega⟩
    have pk := p7 k (by omega)
    have ek : (n : Int) - (k + 1) = 3 := by omega
    have loop : ∀ (l : Nat) (i f : Int), 0 ≤ i → i + l = n → 0 ≤ f → f ≤ 117649 * i → P_Or_countFrom5_35 121 3 u s f i h = some (f + Sm (fun i => if bitT u i = true then 0 else zP n a b G k (i_or u (i_shl 1 i)) (w64 (s + w64 (a 3 * b i)))) l i, h) := by
      intro l
      induction l with
      | zero =>
        intro i f i0 hi f0 f1
        rw [E_Or_countFrom5_35, if_pos m.1, r.1, if_neg (by omega)]
        show _ = some (f + 0, h)
        rw [Int.add_zero]
      | succ l ih =>
        intro i f i0 hi f0 f1
        have c := cf4 w r n1 (show 4 ≤ n by omega) (i_or u (i_shl 1 i)) (w64 (s + w64 (a 3 * b i)))
        rw [show n - 4 = k by omega] at c
        have zb := zP_b (a := a) (b := b) (G := G) n1 k (i_or u (i_shl 1 i)) (w64 (s + w64 (a 3 * b i)))
        rw [E_Or_countFrom5_35, if_pos m.1, r.1, if_pos (show i < n by omega), w32_id (x := i + 1) (by omega) (by omega)]
        show _ = some (f + ((if bitT u i = true then 0 else zP n a b G k (i_or u (i_shl 1 i)) (w64 (s + w64 (a 3 * b i)))) + Sm (fun i => if bitT u i = true then 0 else zP n a b G k (i_or u (i_shl 1 i)) (w64 (s + w64 (a 3 * b i)))) l (i + 1)), h)
        by_cases z : i_and (i_shr u i) 1 = 1
        · rw [if_neg (show ¬ i_and (i_shr u i) 1 = 0 by omega), if_pos (show bitT u i = true from decide_eq_true z), Int.zero_add]
          exact ih (i + 1) f (by omega) (by omega) f0 (by omega)
        · have bz : ¬ bitT u i = true := fun e => z (of_decide_eq_true e)
          rw [if_pos ((i_and1 _).resolve_right z), if_pos m.1, m.2.1, if_pos (okA_t m.2.2.2.1 (by decide) (by decide)), if_pos m.1, m.2.2.1, if_pos (okA_t m.2.2.2.2.1 i0 (by omega)), w32_id (x := (3 : Int) + 1) (by decide) (by decide), (r.2.2 3 (by decide) (by omega)).1, (r.2.2 i i0 (by omega)).2, show (3 : Int) + 1 = 4 by decide, c, bind_some', if_neg bz]
          dsimp only
          rw [w32_id (x := f + zP n a b G k (i_or u (i_shl 1 i)) (w64 (s + w64 (a 3 * b i)))) (by omega) (by omega), ← Int.add_assoc]
          exact ih (i + 1) _ (by omega) (by omega) (by omega) (by omega)
    rw [loop n 0 0 (by omega) (by omega) (by omega) (by omega), hk, Int.zero_add]
    show _ = some (Sm (fun i => if bitT u i = true then 0 else zP n a b G k (i_or u (i_shl 1 i)) (w64 (s + w64 (a ((n : Int) - (k + 1)) * b i)))) n 0, h)
    rw [ek]
theorem cf6 {h : Hp} {T : Int → Int} (w : Inv h T) {n : Nat} {a b : Int → Int} {G : Int} (r : OrH h n a b G) (n1 : n ≤ 7) (dn : 2 ≤ n) (u s : Int) : C_Or_countFrom6 121 2 u s h = some (zP n a b G (n - 2) u s, h) := by
  have m := ivOr w
  rw [E_Or_countFrom6, if_pos m.1, r.1]
  by_cases q : n = 2
  · rw [if_neg (by omega), if_pos m.1, r.2.1, show n - 2 = 0 by omega]
    show _ = some (if s < G then 0 else 1, h)
    split <;> rfl
  · rw [if_pos (by omega), if_pos (by decide)]
    obtain ⟨k, hk⟩ : ∃ k : Nat, n - 2 = k + 1 := ⟨n - 2 - 1, by omega⟩
    have pk := p7 k (by omega)
    have ek : (n : Int) - (k + 1) = 2 := by omega
    have loop : ∀ (l : Nat) (i f : Int), 0 ≤ i → i + l = n → 0 ≤ f → f ≤ 117649 * i → P_Or_countFrom6_35 121 2 u s f i h = some (f + Sm (fun i => if bitT u i = true then 0 else zP n a b G k (i_or u (i_shl 1 i)) (w64 (s + w64 (a 2 * b i)))) l i, h) := by
      intro l
      induction l with
      | zero =>
        intro i f i0 hi f0 f1
        rw [E_Or_countFrom6_35, if_pos m.1, r.1, if_neg (by omega)]
        show _ = some (f + 0, h)
        rw [Int.add_zero]
      | succ l ih =>
        intro i f i0 hi f0 f1
        have c := cf5 w r n1 (show 3 ≤ n by omega) (i_or u (i_shl 1 i)) (w64 (s + w64 (a 2 * b i)))
        rw [show n - 3 = k by omega] at c
        have zb := zP_b (a := a) (b := b) (G := G) n1 k (i_or u (i_shl 1 i)) (w64 (s + w64 (a 2 * b i)))
        rw [E_Or_countFrom6_35, if_pos m.1, r.1, if_pos (show i < n by omega), w32_id (x := i + 1) (by omega) (by omega)]
        show _ = some (f + ((if bitT u i = true then 0 else zP n a b G k (i_or u (i_shl 1 i)) (w64 (s + w64 (a 2 * b i)))) + Sm (fun i => if bitT u i = true then 0 else zP n a b G k (i_or u (i_shl 1 i)) (w64 (s + w64 (a 2 * b i)))) l (i + 1)), h)
        by_cases z : i_and (i_shr u i) 1 = 1
        · rw [if_neg (show ¬ i_and (i_shr u i) 1 = 0 by omega), if_pos (show bitT u i = true from decide_eq_true z), Int.zero_add]
          exact ih (i + 1) f (by omega) (by omega) f0 (by omega)
        · have bz : ¬ bitT u i = true := fun e => z (of_decide_eq_true e)
          rw [if_pos ((i_and1 _).resolve_right z), if_pos m.1, m.2.1, if_pos (okA_t m.2.2.2.1 (by decide) (by decide)), if_pos m.1, m.2.2.1, if_pos (okA_t m.2.2.2.2.1 i0 (by omega)), w32_id (x := (2 : Int) + 1) (by decide) (by decide), (r.2.2 2 (by decide) (by omega)).1, (r.2.2 i i0 (by omega)).2, show (2 : Int) + 1 = 3 by decide, c, bind_some', if_neg bz]
          dsimp only
          rw [w32_id (x := f + zP n a b G k (i_or u (i_shl 1 i)) (w64 (s + w64 (a 2 * b i)))) (by omega) (by omega), ← Int.add_assoc]
          exact ih (i + 1) _ (by omega) (by omega) (by omega) (by omega)
    rw [loop n 0 0 (by omega) (by omega) (by omega) (by omega), hk, Int.zero_add]
    show _ = some (Sm (fun i => if bitT u i = true then 0 else zP n a b G k (i_or u (i_shl 1 i)) (w64 (s + w64 (a ((n : Int) - (k + 1)) * b i)))) n 0, h)
    rw [ek]
theorem cf7 {h : Hp} {T : Int → Int} (w : Inv h T) {n : Nat} {a b : Int → Int} {G : Int} (r : OrH h n a b G) (n1 : n ≤ 7) (dn : 1 ≤ n) (u s : Int) : C_Or_countFrom7 121 1 u s h = some (zP n a b G (n - 1) u s, h) := by
  have m := ivOr w
  rw [E_Or_countFrom7, if_pos m.1, r.1]
  by_cases q : n = 1
  · rw [if_neg (by omega), if_pos m.1, r.2.1, show n - 1 = 0 by omega]
    show _ = some (if s < G then 0 else 1, h)
    split <;> rfl
  · rw [if_pos (by omega), if_pos (by decide)]
    obtain ⟨k, hk⟩ : ∃ k : Nat, n - 1 = k + 1 := ⟨n - 1 - 1, by omega⟩
    have pk := p7 k (by omega)
    have ek : (n : Int) - (k + 1) = 1 := by omega
    have loop : ∀ (l : Nat) (i f : Int), 0 ≤ i → i + l = n → 0 ≤ f → f ≤ 117649 * i → P_Or_countFrom7_35 121 1 u s f i h = some (f + Sm (fun i => if bitT u i = true then 0 else zP n a b G k (i_or u (i_shl 1 i)) (w64 (s + w64 (a 1 * b i)))) l i, h) := by
      intro l
      induction l with
      | zero =>
        intro i f i0 hi f0 f1
        rw [E_Or_countFrom7_35, if_pos m.1, r.1, if_neg (by omega)]
        show _ = some (f + 0, h)
        rw [Int.add_zero]
      | succ l ih =>
        intro i f i0 hi f0 f1
        have c := cf6 w r n1 (show 2 ≤ n by omega) (i_or u (i_shl 1 i)) (w64 (s + w64 (a 1 * b i)))
        rw [show n - 2 = k by omega] at c
        have zb := zP_b (a := a) (b := b) (G := G) n1 k (i_or u (i_shl 1 i)) (w64 (s + w64 (a 1 * b i)))
        rw [E_Or_countFrom7_35, if_pos m.1, r.1, if_pos (show i < n by omega), w32_id (x := i + 1) (by omega) (by omega)]
        show _ = some (f + ((if bitT u i = true then 0 else zP n a b G k (i_or u (i_shl 1 i)) (w64 (s + w64 (a 1 * b i)))) + Sm (fun i => if bitT u i = true then 0 else zP n a b G k (i_or u (i_shl 1 i)) (w64 (s + w64 (a 1 * b i)))) l (i + 1)), h)
        by_cases z : i_and (i_shr u i) 1 = 1
        · rw [if_neg (show ¬ i_and (i_shr u i) 1 = 0 by omega), if_pos (show bitT u i = true from decide_eq_true z), Int.zero_add]
          exact ih (i + 1) f (by omega) (by omega) f0 (by omega)
        · have bz : ¬ bitT u i = true := fun e => z (of_decide_eq_true e)
          rw [if_pos ((i_and1 _).resolve_right z), if_pos m.1, m.2.1, if_pos (okA_t m.2.2.2.1 (by decide) (by decide)), if_pos m.1, m.2.2.1, if_pos (okA_t m.2.2.2.2.1 i0 (by omega)), w32_id (x := (1 : Int) + 1) (by decide) (by decide), (r.2.2 1 (by decide) (by omega)).1, (r.2.2 i i0 (by omega)).2, show (1 : Int) + 1 = 2 by decide, c, bind_some', if_neg bz]
          dsimp only
          rw [w32_id (x := f + zP n a b G k (i_or u (i_shl 1 i)) (w64 (s + w64 (a 1 * b i)))) (by omega) (by omega), ← Int.add_assoc]
          exact ih (i + 1) _ (by omega) (by omega) (by omega) (by omega)
    rw [loop n 0 0 (by omega) (by omega) (by omega) (by omega), hk, Int.zero_add]
    show _ = some (Sm (fun i => if bitT u i = true then 0 else zP n a b G k (i_or u (i_shl 1 i)) (w64 (s + w64 (a ((n : Int) - (k + 1)) * b i)))) n 0, h)
    rw [ek]
theorem cf8 {h : Hp} {T : Int → Int} (w : Inv h T) {n : Nat} {a b : Int → Int} {G : Int} (r : OrH h n a b G) (n1 : n ≤ 7) (dn : 0 ≤ n) (u s : Int) : C_Or_countFrom8 121 0 u s h = some (zP n a b G (n - 0) u s, h) := by
  have m := ivOr w
  rw [E_Or_countFrom8, if_pos m.1, r.1]
  by_cases q : n = 0
  · rw [if_neg (by omega), if_pos m.1, r.2.1, show n - 0 = 0 by omega]
    show _ = some (if s < G then 0 else 1, h)
    split <;> rfl
  · rw [if_pos (by omega), if_pos (by decide)]
    obtain ⟨k, hk⟩ : ∃ k : Nat, n - 0 = k + 1 := ⟨n - 0 - 1, by omega⟩
    have pk := p7 k (by omega)
    have ek : (n : Int) - (k + 1) = 0 := by omega
    have loop : ∀ (l : Nat) (i f : Int), 0 ≤ i → i + l = n → 0 ≤ f → f ≤ 117649 * i → P_Or_countFrom8_35 121 0 u s f i h = some (f + Sm (fun i => if bitT u i = true then 0 else zP n a b G k (i_or u (i_shl 1 i)) (w64 (s + w64 (a 0 * b i)))) l i, h) := by
      intro l
      induction l with
      | zero =>
        intro i f i0 hi f0 f1
        rw [E_Or_countFrom8_35, if_pos m.1, r.1, if_neg (by omega)]
        show _ = some (f + 0, h)
        rw [Int.add_zero]
      | succ l ih =>
        intro i f i0 hi f0 f1
        have c := cf7 w r n1 (show 1 ≤ n by omega) (i_or u (i_shl 1 i)) (w64 (s + w64 (a 0 * b i)))
        rw [show n - 1 = k by omega] at c
        have zb := zP_b (a := a) (b := b) (G := G) n1 k (i_or u (i_shl 1 i)) (w64 (s + w64 (a 0 * b i)))
        rw [E_Or_countFrom8_35, if_pos m.1, r.1, if_pos (show i < n by omega), w32_id (x := i + 1) (by omega) (by omega)]
        show _ = some (f + ((if bitT u i = true then 0 else zP n a b G k (i_or u (i_shl 1 i)) (w64 (s + w64 (a 0 * b i)))) + Sm (fun i => if bitT u i = true then 0 else zP n a b G k (i_or u (i_shl 1 i)) (w64 (s + w64 (a 0 * b i)))) l (i + 1)), h)
        by_cases z : i_and (i_shr u i) 1 = 1
        · rw [if_neg (show ¬ i_and (i_shr u i) 1 = 0 by omega), if_pos (show bitT u i = true from decide_eq_true z), Int.zero_add]
          exact ih (i + 1) f (by omega) (by omega) f0 (by omega)
        · have bz : ¬ bitT u i = true := fun e => z (of_decide_eq_true e)
          rw [if_pos ((i_and1 _).resolve_right z), if_pos m.1, m.2.1, if_pos (okA_t m.2.2.2.1 (by decide) (by decide)), if_pos m.1, m.2.2.1, if_pos (okA_t m.2.2.2.2.1 i0 (by omega)), w32_id (x := (0 : Int) + 1) (by decide) (by decide), (r.2.2 0 (by decide) (by omega)).1, (r.2.2 i i0 (by omega)).2, show (0 : Int) + 1 = 1 by decide, c, bind_some', if_neg bz]
          dsimp only
          rw [w32_id (x := f + zP n a b G k (i_or u (i_shl 1 i)) (w64 (s + w64 (a 0 * b i)))) (by omega) (by omega), ← Int.add_assoc]
          exact ih (i + 1) _ (by omega) (by omega) (by omega) (by omega)
    rw [loop n 0 0 (by omega) (by omega) (by omega) (by omega), hk, Int.zero_add]
    show _ = some (Sm (fun i => if bitT u i = true then 0 else zP n a b G k (i_or u (i_shl 1 i)) (w64 (s + w64 (a ((n : Int) - (k + 1)) * b i)))) n 0, h)
    rw [ek]
