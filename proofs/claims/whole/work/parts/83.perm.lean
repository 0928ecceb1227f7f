/-! Orders numbered: the reference's way. -/
theorem Sm_app (g : Int → Int) : ∀ (m n : Nat) (i : Int), Sm g (m + n) i = Sm g m i + Sm g n (i + m)
  | 0, n, i => by
    rw [Nat.zero_add]
    show Sm g n i = 0 + Sm g n (i + 0)
    rw [Int.zero_add, Int.add_zero]
  | m + 1, n, i => by
    rw [show m + 1 + n = (m + n) + 1 by omega]
    show g i + Sm g (m + n) (i + 1) = g i + Sm g m (i + 1) + Sm g n (i + ((m + 1 : Nat) : Int))
    rw [Sm_app g m n (i + 1), show i + ((m + 1 : Nat) : Int) = i + 1 + m by omega]
    omega
theorem Sm_shift (g : Int → Int) (k : Int) : ∀ (n : Nat) (i : Int), Sm g n (i + k) = Sm (fun r => g (r + k)) n i
  | 0, _ => rfl
  | n + 1, i => by
    show g (i + k) + Sm g n (i + k + 1) = g (i + k) + Sm (fun r => g (r + k)) n (i + 1)
    rw [← Sm_shift g k n (i + 1), show i + k + 1 = i + 1 + k by omega]
theorem Sm_blk (g : Int → Int) (c : Nat) : ∀ M : Nat, Sm g (M * c) 0 = Sm (fun q => Sm (fun r => g (q * c + r)) c 0) M 0
  | 0 => by rw [Nat.zero_mul]; rfl
  | M + 1 => by
    have a := Sm_app (fun q => Sm (fun r => g (q * c + r)) c 0) M 1 0
    rw [Nat.succ_mul, Sm_app, Sm_blk g c M, a]
    congr 1
    show Sm g c (0 + ((M * c : Nat) : Int)) = Sm (fun r => g ((0 + (M : Int)) * c + r)) c 0 + 0
    rw [Int.add_zero, Sm_shift]
    exact Sm_cg _ _ (fun j _ _ => by rw [Int.zero_add, Int.natCast_mul, Int.add_comm])
def nt (u : Int) : Nat → Int → Int → Int
  | 0, i, _ => i
  | f + 1, i, r => if bitT u i = true then nt u f (i + 1) r else if 0 < r then nt u f (i + 1) (r - 1) else i
def cU (u : Int) (l : Nat) (i : Int) : Int := Sm (fun j => if bitT u j = true then 0 else 1) l i
theorem cU_b (u : Int) : ∀ (l : Nat) (i : Int), 0 ≤ cU u l i ∧ cU u l i ≤ l := fun l i => by
  have := Sm_b (g := fun j => if bitT u j = true then 0 else 1) (B := 1) (by omega) l i (fun j _ _ => by split <;> omega)
  unfold cU
  omega
theorem nt_sum (u : Int) (F : Int → Int) : ∀ (l : Nat) (i : Int), Sm (fun r => F (nt u l i r)) (cU u l i).toNat 0 = Sm (fun j => if bitT u j = true then 0 else F j) l i
  | 0, i => rfl
  | l + 1, i => by
    have ih := nt_sum u F l (i + 1)
    have cb := cU_b u l (i + 1)
    have e : cU u (l + 1) i = (if bitT u i = true then 0 else 1) + cU u l (i + 1) := rfl
    show _ = (if bitT u i = true then 0 else F i) + Sm (fun j => if bitT u j = true then 0 else F j) l (i + 1)
    by_cases z : bitT u i = true
    · rw [if_pos z, Int.zero_add, ← ih, e, if_pos z, Int.zero_add]
      exact Sm_cg _ _ (fun r _ _ => by
        show F (if bitT u i = true then nt u l (i + 1) r else _) = _
        rw [if_pos z])
    · rw [if_neg z, ← ih, e, if_neg z, show (1 + cU u l (i + 1)).toNat = (cU u l (i + 1)).toNat + 1 by omega]
      show F (if bitT u i = true then nt u l (i + 1) 0 else if (0 : Int) < 0 then nt u l (i + 1) (0 - 1) else i) + Sm (fun r => F (nt u (l + 1) i r)) (cU u l (i + 1)).toNat (0 + 1) = _
      rw [if_neg z, if_neg (by decide), Sm_shift]
      congr 1
      exact Sm_cg _ _ (fun r r0 _ => by
        show F (if bitT u i = true then nt u l (i + 1) (r + 1) else if 0 < r + 1 then nt u l (i + 1) (r + 1 - 1) else i) = _
        rw [if_neg z, if_pos (by omega), show r + 1 - 1 = r by omega])
theorem nt_b (u : Int) : ∀ (l : Nat) (i r : Int), 0 ≤ r → r < cU u l i → i ≤ nt u l i r ∧ nt u l i r < i + l ∧ ¬ bitT u (nt u l i r) = true
  | 0, i, r, r0, r1 => by
    have : r < 0 := r1
    omega
  | l + 1, i, r, r0, r1 => by
    have e : cU u (l + 1) i = (if bitT u i = true then 0 else 1) + cU u l (i + 1) := rfl
    rw [e] at r1
    unfold nt
    by_cases z : bitT u i = true
    · rw [if_pos z] at r1 ⊢
      have := nt_b u l (i + 1) r r0 (by omega)
      exact ⟨by omega, by omega, this.2.2⟩
    · rw [if_neg z] at r1 ⊢
      by_cases q : 0 < r
      · rw [if_pos q]
        have := nt_b u l (i + 1) (r - 1) (by omega) (by omega)
        exact ⟨by omega, by omega, this.2.2⟩
      · rw [if_neg q]
        exact ⟨by omega, by omega, z⟩
theorem cU_set {u i : Int} (i0 : 0 ≤ i) (i1 : i < 32) (ni : ¬ bitT u i = true) : ∀ (l : Nat) (k : Int), 0 ≤ k → k + l ≤ 32 → cU (i_or u (i_shl 1 i)) l k = cU u l k - (if k ≤ i ∧ i < k + l then 1 else 0)
  | 0, k, k0, k1 => by
    rw [if_neg (by omega)]
    show (0 : Int) = 0 - 0
    omega
  | l + 1, k, k0, k1 => by
    have ih := cU_set i0 i1 ni l (k + 1) (by omega) (by omega)
    have e1 : cU (i_or u (i_shl 1 i)) (l + 1) k = (if bitT (i_or u (i_shl 1 i)) k = true then 0 else 1) + cU (i_or u (i_shl 1 i)) l (k + 1) := rfl
    have e2 : cU u (l + 1) k = (if bitT u k = true then 0 else 1) + cU u l (k + 1) := rfl
    rw [e1, e2, ih, bitT_or u i0 i1 k0 (by omega)]
    by_cases z : k = i
    · rw [if_pos (show (decide (k = i) || bitT u k) = true by rw [decide_eq_true z]; rfl), z, if_neg ni, if_neg (by omega), if_pos (by omega)]
      omega
    · rw [show (decide (k = i) || bitT u k) = bitT u k by rw [decide_eq_false z]; rfl]
      by_cases q : k + 1 ≤ i ∧ i < k + 1 + l
      · rw [if_pos q, if_pos (show k ≤ i ∧ i < k + ((l + 1 : Nat) : Int) by omega)]; omega
      · rw [if_neg q, if_neg (show ¬ (k ≤ i ∧ i < k + ((l + 1 : Nat) : Int)) by omega)]; omega
def rD (n : Nat) (a b : Int → Int) (G : Int) : Nat → Int → Int → Int → Int
  | 0, _, _, s => if s < G then 0 else 1
  | m + 1, u, L, s => rD n a b G m (i_or u (i_shl 1 (nt u n 0 (L % (m + 1))))) (L / (m + 1)) (w64 (s + w64 (a ((n : Int) - (m + 1)) * b (nt u n 0 (L % (m + 1))))))
def fc : Nat → Nat
  | 0 => 1
  | n + 1 => fc n * (n + 1)
theorem rD_sum {n : Nat} {a b : Int → Int} {G : Int} (n1 : n ≤ 7) : ∀ (m : Nat) (u s : Int), cU u n 0 = m → Sm (fun L => rD n a b G m u L s) (fc m) 0 = zP n a b G m u s
  | 0, u, s, hc => by
    show (if s < G then 0 else 1) + 0 = if s < G then (0 : Int) else 1
    rw [Int.add_zero]
  | m + 1, u, s, hc => by
    have ec : (((m + 1 : Nat) : Int)) = (m : Int) + 1 := by omega
    show Sm _ (fc m * (m + 1)) 0 = _
    rw [Sm_blk]
    have e1 : Sm (fun q => Sm (fun r => rD n a b G (m + 1) u (q * ((m + 1 : Nat) : Int) + r) s) (m + 1) 0) (fc m) 0 = Sm (fun q => Sm (fun r => rD n a b G m (i_or u (i_shl 1 (nt u n 0 r))) q (w64 (s + w64 (a ((n : Int) - (m + 1)) * b (nt u n 0 r))))) (m + 1) 0) (fc m) 0 :=
      Sm_cg _ _ (fun q _ _ => Sm_cg _ _ (fun r r0 r1 => by
        have m1 : (q * ((m + 1 : Nat) : Int) + r) % ((m : Int) + 1) = r := by
          rw [ec, Int.add_comm, Int.add_mul_emod_self_right]
          exact Int.emod_eq_of_lt r0 (by omega)
        have m2 : (q * ((m + 1 : Nat) : Int) + r) / ((m : Int) + 1) = q := by
          rw [ec, Int.add_comm, Int.add_mul_ediv_right _ _ (by omega), Int.ediv_eq_zero_of_lt r0 (by omega), Int.zero_add]
        show rD n a b G m (i_or u (i_shl 1 (nt u n 0 ((q * ((m + 1 : Nat) : Int) + r) % (m + 1))))) ((q * ((m + 1 : Nat) : Int) + r) / (m + 1)) (w64 (s + w64 (a ((n : Int) - (m + 1)) * b (nt u n 0 ((q * ((m + 1 : Nat) : Int) + r) % (m + 1)))))) = _
        rw [m1, m2]))
    rw [e1, Sm_swap (fun q r => rD n a b G m (i_or u (i_shl 1 (nt u n 0 r))) q (w64 (s + w64 (a ((n : Int) - (m + 1)) * b (nt u n 0 r)))))]
    have e2 : Sm (fun r => Sm (fun q => rD n a b G m (i_or u (i_shl 1 (nt u n 0 r))) q (w64 (s + w64 (a ((n : Int) - (m + 1)) * b (nt u n 0 r))))) (fc m) 0) (m + 1) 0 = Sm (fun r => zP n a b G m (i_or u (i_shl 1 (nt u n 0 r))) (w64 (s + w64 (a ((n : Int) - (m + 1)) * b (nt u n 0 r))))) (m + 1) 0 :=
      Sm_cg _ _ (fun r r0 r1 => by
        have nb := nt_b u n 0 r r0 (by rw [hc]; omega)
        exact rD_sum n1 m _ _ (by rw [cU_set (by omega) (by omega) nb.2.2 n 0 (by omega) (by omega), hc, if_pos (by omega)]; omega))
    rw [e2]
    have e3 := nt_sum u (fun i => zP n a b G m (i_or u (i_shl 1 i)) (w64 (s + w64 (a ((n : Int) - (m + 1)) * b i)))) n 0
    rw [hc, show (((m + 1 : Nat) : Int)).toNat = m + 1 by omega] at e3
    exact e3
theorem fc_b : ∀ k : Nat, k ≤ 7 → fc k ≤ 5040 := by
  intro k hk
  have : k = 0 ∨ k = 1 ∨ k = 2 ∨ k = 3 ∨ k = 4 ∨ k = 5 ∨ k = 6 ∨ k = 7 := by omega
  rcases this with z | z | z | z | z | z | z | z <;> rw [z] <;> decide
def CnH (h : Hp) (n : Nat) (a b : Int → Int) (G : Int) : Prop := mR h 124 17 = G ∧ ∀ i : Int, 0 ≤ i → i < n → mR h 132 i = a i ∧ mR h 133 i = b i
theorem m133 {h : Hp} {T : Int → Int} (w : Inv h T) : mR h 124 28 = 133 ∧ (mK h 133 = 103 ∧ mL h 133 = 24) := ⟨w.2.2.2.1.2.1.2.2.2.2.2.2.2.2, w.2.2.2.1.2.2.2.2.2.2.2.2.2.2⟩
theorem l_208 {h : Hp} {T : Int → Int} (w : Inv h T) {n : Nat} {a b : Int → Int} {G : Int} (c : CnH h n a b G) (n1 : n ≤ 7) {O mu od u L s k : Int} (k0 : 0 ≤ k) (k1 : k < n) : ∀ (l : Nat) (i r : Int), 0 ≤ i → i + l = n → 0 ≤ r → r < cU u l i → P_Mo_chance_208 124 n O mu od u L s k r i h = P_Mo_chance_178 124 n O mu od (i_or u (i_shl 1 (nt u l i r))) L (w64 (s + w64 (a k * b (nt u l i r)))) (k + 1) h := by
  have m := m132 w
  have m3 := m133 w
  intro l
  induction l with
  | zero =>
    intro i r i0 hi r0 r1
    have : r < 0 := r1
    omega
  | succ l ih =>
    intro i r i0 hi r0 r1
    have cb := cU_b u l (i + 1)
    have e : cU u (l + 1) i = (if bitT u i = true then 0 else 1) + cU u l (i + 1) := rfl
    rw [e] at r1
    rw [E_Mo_chance_208]
    unfold nt
    by_cases z : i_and (i_shr u i) 1 = 1
    · have bz : bitT u i = true := decide_eq_true z
      rw [if_pos bz] at r1
      rw [if_pos z, if_pos z, if_pos bz, w32_id (x := r - 0) (by omega) (by omega), w32_id (x := i + 1) (by omega) (by omega), Int.sub_zero]
      exact ih (i + 1) r (by omega) (by omega) r0 (by omega)
    · have bz : ¬ bitT u i = true := fun x => z (of_decide_eq_true x)
      rw [if_neg bz] at r1
      rw [if_neg z, if_neg bz]
      by_cases q : 0 < r
      · rw [if_pos q, if_neg z, if_pos q, w32_id (x := r - 1) (by omega) (by omega), w32_id (x := i + 1) (by omega) (by omega)]
        exact ih (i + 1) (r - 1) (by omega) (by omega) (by omega) (by omega)
      · rw [if_neg q, if_neg q, if_pos (ivM w), m.1, if_pos (okA_t m.2.1 k0 (by omega)), if_pos (ivM w), m3.1, if_pos (okA_t m3.2 i0 (by omega)), (c.2 k k0 k1).1, (c.2 i i0 (by omega)).2, w32_id (x := k + 1) (by omega) (by omega)]
theorem l_178 {h : Hp} {T : Int → Int} (w : Inv h T) {n : Nat} {a b : Int → Int} {G : Int} (c : CnH h n a b G) (n1 : n ≤ 7) {O mu od : Int} (mu0 : 0 ≤ mu) (mu1 : mu ≤ 5040) (od0 : 0 ≤ od) (od1 : od ≤ 5040) : ∀ (m : Nat) (u L s k : Int), cU u n 0 = m → k + m = n → 0 ≤ k → 0 ≤ L → L ≤ 5040 → P_Mo_chance_178 124 n O mu od u L s k h = P_Mo_chance_158 124 n O (mu + rD n a b G m u L s) (od + 1) h := by
  intro m
  induction m with
  | zero =>
    intro u L s k hc hk k0 L0 L1
    rw [E_Mo_chance_178, if_neg (by omega), if_pos (ivM w), c.1, w32_id (x := mu + 0) (by omega) (by omega), w32_id (x := mu + 1) (by omega) (by omega), w32_id (x := od + 1) (by omega) (by omega)]
    show _ = P_Mo_chance_158 124 n O (mu + (if s < G then 0 else 1)) (od + 1) h
    split <;> rfl
  | succ m ih =>
    intro u L s k hc hk k0 L0 L1
    have ek : (n : Int) - k = (m : Int) + 1 := by omega
    have ek2 : (n : Int) - (m + 1) = k := by omega
    have r0 := Int.emod_nonneg L (b := (m : Int) + 1) (by omega)
    have r1 := Int.emod_lt_of_pos L (b := (m : Int) + 1) (by omega)
    have d0 := Int.ediv_nonneg (a := L) (b := (m : Int) + 1) L0 (by omega)
    have d1 := Int.ediv_le_self (a := L) ((m : Int) + 1) L0
    have nb := nt_b u n 0 (L % (m + 1)) r0 (by rw [hc]; omega)
    rw [E_Mo_chance_178, if_pos (show k < n by omega), w32_id (x := (n : Int) - k) (by omega) (by omega), ek, if_neg (by omega), if_neg (by omega), Int.tdiv_eq_ediv_of_nonneg L0, Int.tmod_eq_emod_of_nonneg L0, w32_id (x := L / ((m : Int) + 1)) (by omega) (by omega), l_208 w c n1 k0 (by omega) n 0 (L % (m + 1)) (by omega) (by omega) r0 (by rw [hc]; omega), ih _ _ _ _ (by rw [cU_set (by omega) (by omega) nb.2.2 n 0 (by omega) (by omega), hc, if_pos (by omega)]; omega) (by omega) (by omega) d0 (by omega)]
    show _ = P_Mo_chance_158 124 n O (mu + rD n a b G m (i_or u (i_shl 1 (nt u n 0 (L % (m + 1))))) (L / (m + 1)) (w64 (s + w64 (a ((n : Int) - (m + 1)) * b (nt u n 0 (L % (m + 1))))))) (od + 1) h
    rw [ek2]
theorem rD_b {n : Nat} {a b : Int → Int} {G : Int} : ∀ (m : Nat) (u L s : Int), 0 ≤ rD n a b G m u L s ∧ rD n a b G m u L s ≤ 1
  | 0, u, L, s => by
    show 0 ≤ (if s < G then 0 else 1) ∧ (if s < G then (0 : Int) else 1) ≤ 1
    split <;> omega
  | m + 1, u, L, s => rD_b m _ _ _
theorem cU0 {n : Nat} (n1 : n ≤ 7) : cU 0 n 0 = n := by
  have : ∀ (l : Nat) (i : Int), 0 ≤ i → i + l ≤ 32 → cU 0 l i = l := by
    intro l
    induction l with
    | zero => intro i _ _; rfl
    | succ l ih =>
      intro i i0 i1
      have e : cU 0 (l + 1) i = (if bitT 0 i = true then 0 else 1) + cU 0 l (i + 1) := rfl
      rw [e, bitT_z i0 (by omega), if_neg (by decide), ih (i + 1) (by omega) (by omega)]
      omega
  exact this n 0 (by omega) (by omega)
theorem l_158 {h : Hp} {T : Int → Int} (w : Inv h T) {n : Nat} {a b : Int → Int} {G : Int} (c : CnH h n a b G) (n1 : n ≤ 7) : ∀ (l : Nat) (od mu : Int), 0 ≤ od → od + l = fc n → 0 ≤ mu → mu ≤ od → P_Mo_chance_158 124 n (fc n) mu od h = some (mu + Sm (fun L => rD n a b G n 0 L 0) l od, h) := by
  have fb := fc_b n n1
  intro l
  induction l with
  | zero =>
    intro od mu od0 hl mu0 mu1
    rw [E_Mo_chance_158, if_neg (by omega)]
    show _ = some (mu + 0, h)
    rw [Int.add_zero]
  | succ l ih =>
    intro od mu od0 hl mu0 mu1
    have rb := rD_b (n := n) (a := a) (b := b) (G := G) n 0 od 0
    rw [E_Mo_chance_158, if_pos (by omega), l_178 w c n1 mu0 (by omega) od0 (by omega) n 0 od 0 0 (cU0 n1) (by omega) (by omega) od0 (by omega), ih (od + 1) _ (by omega) (by omega) (by omega) (by omega)]
    show _ = some (mu + (rD n a b G n 0 od 0 + Sm (fun L => rD n a b G n 0 L 0) l (od + 1)), h)
    rw [Int.add_assoc]
theorem l_132 {h : Hp} {T : Int → Int} (w : Inv h T) {n : Nat} {a b : Int → Int} {G : Int} (c : CnH h n a b G) (n1 : n ≤ 7) : ∀ (l k : Nat), k + l = n → P_Mo_chance_132 124 n (fc k) (k + 1) h = some (zP n a b G n 0 0, h) := by
  intro l
  induction l with
  | zero =>
    intro k hk
    rw [E_Mo_chance_132, if_pos (by omega), show k = n by omega, l_158 w c n1 (fc n) 0 0 (by omega) (by omega) (by omega) (by omega), Int.zero_add, rD_sum n1 n 0 0 (cU0 n1)]
  | succ l ih =>
    intro k hk
    have fb := fc_b (k + 1) (by omega)
    have e : ((fc k : Int)) * ((k : Int) + 1) = (fc (k + 1) : Nat) := by
      show _ = ((fc k * (k + 1) : Nat) : Int)
      rw [Int.natCast_mul]
      rfl
    rw [E_Mo_chance_132, if_neg (by omega), e, w32_id (by omega) (by omega), w32_id (x := (k : Int) + 1 + 1) (by omega) (by omega)]
    exact ih (k + 1) (by omega)
