/-! alike on both sides. -/
theorem w64_ml (x y : Int) : w64 (w64 x * y) = w64 (x * y) := by unfold w64; exact Int.bmod_mul_bmod
theorem w64_mr (x y : Int) : w64 (x * w64 y) = w64 (x * y) := by unfold w64; exact Int.mul_bmod_bmod
def cz (n : Nat) (s : Int) : Int := Sm (fun i => if bitT s i = true then 1 else 0) n 0
def cs (n : Nat) (Q : Int → Int) (s : Int) : Int := Sm (fun i => if bitT s i = true then Q i else 0) n 0
theorem cz_b (n : Nat) (s : Int) : 0 ≤ cz n s ∧ cz n s ≤ n := by
  have := Sm_b (g := fun i => if bitT s i = true then 1 else 0) (B := 1) (by omega) n 0 (fun j _ _ => by split <;> omega)
  unfold cz
  omega
theorem cs_b {n : Nat} {Q : Int → Int} (b : ∀ i : Int, 0 ≤ i → i < n → 0 ≤ Q i ∧ Q i ≤ 999999) (s : Int) : 0 ≤ cs n Q s ∧ cs n Q s ≤ 999999 * n := by
  have := Sm_b (g := fun i => if bitT s i = true then Q i else 0) (B := 999999) (by omega) n 0 (fun j j0 j1 => by
    have := b j j0 (by omega)
    split <;> omega)
  unfold cs
  omega
theorem Sm_one {g g' : Int → Int} {t : Int} (e : ∀ j, j ≠ t → g' j = g j) : ∀ (l : Nat) (k : Int), k ≤ t → t < k + l → Sm g' l k = Sm g l k + (g' t - g t)
  | 0, k, h1, h2 => by omega
  | l + 1, k, h1, h2 => by
    show g' k + Sm g' l (k + 1) = g k + Sm g l (k + 1) + (g' t - g t)
    by_cases z : k = t
    · rw [z, Sm_cg (g := g') (g' := g) l (t + 1) (fun j j0 _ => e j (by omega))]
      omega
    · rw [Sm_one e l (k + 1) (by omega) (by omega), e k z]
      omega
theorem bitT_x {s t : Nat} {j : Int} (ht : t < 31) (j0 : 0 ≤ j) (j1 : j < 31) : bitT ((s ^^^ 2 ^ t : Nat) : Int) j = (bitT (s : Int) j ^^ decide (j = t)) := by
  have ej : ((j.toNat : Nat) : Int) = j := by omega
  rw [← ej, bitT_nat (by omega), bitT_nat (by omega), Nat.testBit_xor, Nat.testBit_two_pow]
  congr 1
  by_cases z : j = (t : Int)
  · rw [decide_eq_true (show t = j.toNat by omega), decide_eq_true (show ((j.toNat : Nat) : Int) = (t : Int) by omega)]
  · rw [decide_eq_false (show ¬ t = j.toNat by omega), decide_eq_false (show ¬ ((j.toNat : Nat) : Int) = (t : Int) by omega)]
theorem c_turn {n s t : Nat} {Q : Int → Int} (n1 : n ≤ 14) (ht : t < n) : (bitT ((s ^^^ 2 ^ t : Nat) : Int) (t : Int) = true → cz n ((s ^^^ 2 ^ t : Nat) : Int) = cz n s + 1 ∧ cs n Q ((s ^^^ 2 ^ t : Nat) : Int) = cs n Q s + Q t) ∧ (¬ bitT ((s ^^^ 2 ^ t : Nat) : Int) (t : Int) = true → cz n ((s ^^^ 2 ^ t : Nat) : Int) = cz n s + -1 ∧ cs n Q ((s ^^^ 2 ^ t : Nat) : Int) = cs n Q s + -1 * Q t) := by
  have ne : ∀ j : Int, j ≠ t → 0 ≤ j → j < 31 → bitT ((s ^^^ 2 ^ t : Nat) : Int) j = bitT (s : Int) j := fun j p j0 j1 => by rw [bitT_x (by omega) j0 j1, decide_eq_false p, Bool.xor_false]
  have eq : bitT ((s ^^^ 2 ^ t : Nat) : Int) (t : Int) = !bitT (s : Int) (t : Int) := by rw [bitT_x (by omega) (by omega) (by omega), decide_eq_true rfl, Bool.xor_true]
  have z1 : Sm (fun i => if bitT ((s ^^^ 2 ^ t : Nat) : Int) i = true then (1 : Int) else 0) n 0 = Sm (fun i => if 0 ≤ i ∧ i < 31 then (if bitT ((s ^^^ 2 ^ t : Nat) : Int) i = true then (1 : Int) else 0) else 0) n 0 := Sm_cg _ _ (fun j j0 j1 => by rw [if_pos (show 0 ≤ j ∧ j < 31 by omega)])
  have z2 : Sm (fun i => if bitT (s : Int) i = true then (1 : Int) else 0) n 0 = Sm (fun i => if 0 ≤ i ∧ i < 31 then (if bitT (s : Int) i = true then (1 : Int) else 0) else 0) n 0 := Sm_cg _ _ (fun j j0 j1 => by rw [if_pos (show 0 ≤ j ∧ j < 31 by omega)])
  have z3 : Sm (fun i => if bitT ((s ^^^ 2 ^ t : Nat) : Int) i = true then Q i else 0) n 0 = Sm (fun i => if 0 ≤ i ∧ i < 31 then (if bitT ((s ^^^ 2 ^ t : Nat) : Int) i = true then Q i else 0) else 0) n 0 := Sm_cg _ _ (fun j j0 j1 => by rw [if_pos (show 0 ≤ j ∧ j < 31 by omega)])
  have z4 : Sm (fun i => if bitT (s : Int) i = true then Q i else 0) n 0 = Sm (fun i => if 0 ≤ i ∧ i < 31 then (if bitT (s : Int) i = true then Q i else 0) else 0) n 0 := Sm_cg _ _ (fun j j0 j1 => by rw [if_pos (show 0 ≤ j ∧ j < 31 by omega)])
  have a := Sm_one (g := fun i => if 0 ≤ i ∧ i < 31 then (if bitT (s : Int) i = true then (1 : Int) else 0) else 0) (g' := fun i => if 0 ≤ i ∧ i < 31 then (if bitT ((s ^^^ 2 ^ t : Nat) : Int) i = true then (1 : Int) else 0) else 0) (t := t) (fun j p => by
    by_cases q : 0 ≤ j ∧ j < 31
    · rw [if_pos q, if_pos q, ne j p q.1 q.2]
    · rw [if_neg q, if_neg q]) n 0 (by omega) (by omega)
  have b := Sm_one (g := fun i => if 0 ≤ i ∧ i < 31 then (if bitT (s : Int) i = true then Q i else 0) else 0) (g' := fun i => if 0 ≤ i ∧ i < 31 then (if bitT ((s ^^^ 2 ^ t : Nat) : Int) i = true then Q i else 0) else 0) (t := t) (fun j p => by
    by_cases q : 0 ≤ j ∧ j < 31
    · rw [if_pos q, if_pos q, ne j p q.1 q.2]
    · rw [if_neg q, if_neg q]) n 0 (by omega) (by omega)
  have r : (0 : Int) ≤ t ∧ (t : Int) < 31 := by omega
  rw [if_pos r, if_pos r, ← z1, ← z2, eq] at a
  rw [if_pos r, if_pos r, ← z3, ← z4, eq] at b
  unfold cz cs
  rw [a, b, eq]
  cases bitT (s : Int) (t : Int)
  · exact ⟨fun _ => ⟨by simp, by simp⟩, fun x => absurd rfl x⟩
  · exact ⟨(fun x => by cases x), fun _ => ⟨by simp, by simp⟩⟩
/-- a set that spreads no more than the best split -/
def zf (n : Nat) (Q : Int → Int) (a u d : Int) (s : Nat) : Int := if w64 (zCl n (cz n s) (cs n Q s) a * d) < w64 (u * zBl n (cz n s)) then 0 else 1
theorem zf_b (n : Nat) (Q : Int → Int) (a u d : Int) (s : Nat) : zf n Q a u d s = 0 ∨ zf n Q a u d s = 1 := by unfold zf; split; exact Or.inl rfl; exact Or.inr rfl
theorem l_lowb {h : Hp} {i : Nat} : ∀ (f a : Nat), a + f = 14 → P_Ra_lowestBit_2 (i : Int) (a : Int) h = some (((lw i f a : Nat) : Int), h)
  | 0, a, ha => by
    rw [E_Ra_lowestBit_2, if_neg (by omega)]
    rfl
  | f + 1, a, ha => by
    have e := bitT_nat (s := i) (i := a) (by omega)
    rw [E_Ra_lowestBit_2, if_pos (by omega), w32_id (x := (a : Int) + 1) (by omega) (by omega)]
    unfold lw
    by_cases z : i_and (i_shr (i : Int) (a : Int)) 1 = 1
    · have z1 : i.testBit a = true := by rw [← e]; exact decide_eq_true z
      rw [if_neg (show ¬ i_and (i_shr (i : Int) (a : Int)) 1 = 0 by omega), if_pos z1]
    · have z1 : ¬ i.testBit a = true := by rw [← e]; exact fun x => z (of_decide_eq_true x)
      rw [if_pos ((i_and1 _).resolve_right z), if_neg z1]
      have := l_lowb (h := h) (i := i) f (a + 1) (by omega)
      rw [show ((a + 1 : Nat) : Int) = (a : Int) + 1 by omega] at this
      exact this
theorem p14 : ∀ m : Nat, m ≤ 14 → 2 ^ m ≤ 16384 := fun m hm => by
  have := Nat.pow_le_pow_right (n := 2) (by decide) hm
  omega
theorem l_alike {h : Hp} {T : Int → Int} (w : Inv h T) {n : Nat} {S : zR} (r : RaH h n S) (n2 : 2 ≤ n) (n1 : n ≤ 14) (bd : ∀ i : Int, 0 ≤ i → i < n → 0 ≤ S.1 i ∧ S.1 i ≤ 999999) {a u d : Int} : ∀ (m i : Nat) (f : Int), 1 ≤ i → i + m = 2 ^ (n - 1) → 0 ≤ f → f ≤ 2 * i → P_Ra_setsAlike_72 115 a u d f ((gG 0 (i - 1) : Nat) : Int) (cz n (gG 0 (i - 1) : Nat)) (cs n S.1 (gG 0 (i - 1) : Nat)) i h = some (f + 2 * (SN (fun j => zf n S.1 a u d (gG 0 j)) (i + m) - SN (fun j => zf n S.1 a u d (gG 0 j)) i), h) := by
  have mm := ivRa w
  have pw := p14 (n - 1) (by omega)
  have es : i_shl 1 (w32 ((n : Int) - 1)) = ((2 ^ (n - 1) : Nat) : Int) := by
    rw [w32_id (by omega) (by omega), show (n : Int) - 1 = ((n - 1 : Nat) : Int) by omega, shl_nat _ (by omega)]
  intro m
  induction m with
  | zero =>
    intro i f i0 hi f0 f1
    rw [E_Ra_setsAlike_72, if_pos mm.1, r.1, es, if_neg (by omega)]
    rw [Nat.add_zero, Int.sub_self, Int.mul_zero, Int.add_zero]
  | succ m ih =>
    intro i f i0 hi f0 f1
    have vl := (v2_add (m := n - 1) (i := i) (by omega) (by omega) (by omega)).2
    have lb : C_Ra_lowestBit (i : Int) h = some (((v2 i : Nat) : Int), h) := by
      rw [E_Ra_lowestBit]
      exact l_lowb 14 0 rfl
    have gl := gG_lt (m := n - 1) (by omega) (i - 1) (by omega)
    have gn : gG 0 i = gG 0 (i - 1) ^^^ 2 ^ v2 i := by
      obtain ⟨q, hq⟩ : ∃ q, i = q + 1 := ⟨i - 1, by omega⟩
      rw [hq]
      rfl
    have ex : i_xor ((gG 0 (i - 1) : Nat) : Int) (i_shl 1 (v2 i : Int)) = ((gG 0 i : Nat) : Int) := by rw [xor_nat (by omega) (by omega), gn]
    have ct := c_turn (s := gG 0 (i - 1)) (t := v2 i) (Q := S.1) n1 (by omega)
    rw [← gn] at ct
    have zb := cz_b n (gG 0 (i - 1) : Nat)
    have sb := cs_b bd (gG 0 (i - 1) : Nat)
    have qb := bd (v2 i) (by omega) (by omega)
    have fz := zf_b n S.1 a u d (gG 0 i)
    have cz' := cz_b n (gG 0 i : Nat)
    have ih1 := fun f f0 f1 => ih (i + 1) f (by omega) (by omega) f0 f1
    rw [show i + 1 - 1 = i by omega, show ((i + 1 : Nat) : Int) = (i : Int) + 1 by omega] at ih1
    have eS : SN (fun j => zf n S.1 a u d (gG 0 j)) (i + 1) = SN (fun j => zf n S.1 a u d (gG 0 j)) i + zf n S.1 a u d (gG 0 i) := rfl
    have ew : ∀ c z : Int, (w64 (c * d) < w64 (w64 (u * z) * w32 ((n : Int) - z))) = (w64 (c * d) < w64 (u * zBl n z)) := fun c z => by
      unfold zBl
      rw [w64_ml, w64_mr, Int.mul_assoc]
    rw [E_Ra_setsAlike_72, if_pos mm.1, r.1, es, if_pos (show (i : Int) < ((2 ^ (n - 1) : Nat) : Int) by omega), lb, bind_some']
    dsimp only
    rw [ex, w32_id (x := (i : Int) + 1) (by omega) (by omega), w32_id (x := f + 2) (by omega) (by omega)]
    have cont : ∀ (z c : Int), z = cz n (gG 0 i : Nat) → c = cs n S.1 (gG 0 i : Nat) → (C_Ra_closeness 115 z c a h).bind (fun x => if okF x.2 115 5 = true then if w64 (x.1 * d) < w64 (w64 (u * z) * w32 (mR x.2 115 0 - z)) then P_Ra_setsAlike_72 115 a u d f ((gG 0 i : Nat) : Int) z c (i + 1) x.2 else P_Ra_setsAlike_72 115 a u d (f + 2) ((gG 0 i : Nat) : Int) z c (i + 1) x.2 else none) = some (f + 2 * (SN (fun j => zf n S.1 a u d (gG 0 j)) (i + (m + 1)) - SN (fun j => zf n S.1 a u d (gG 0 j)) i), h) := fun z c ez ec => by
      rw [E_Ra_closeness, if_pos mm.1, bind_some', if_pos mm.1, r.1]
      have ecl : w64 (w64 (w64 (c * c) * w32 ((n : Int) - z)) + w64 (w64 (w64 (a - c) * w64 (a - c)) * z)) = zCl n z c a := rfl
      dsimp only
      rw [ecl]
      have cond : (w64 (zCl n z c a * d) < w64 (w64 (u * z) * w32 ((n : Int) - z))) ↔ zf n S.1 a u d (gG 0 i) = 0 := by
        rw [ew, ez, ec]
        unfold zf
        constructor
        · intro x; rw [if_pos x]
        · intro x
          by_cases y : w64 (zCl n (cz n (gG 0 i : Nat)) (cs n S.1 (gG 0 i : Nat)) a * d) < w64 (u * zBl n (cz n (gG 0 i : Nat)))
          · exact y
          · rw [if_neg y] at x; cases x
      by_cases y : w64 (zCl n z c a * d) < w64 (w64 (u * z) * w32 ((n : Int) - z))
      · have f00 := cond.1 y
        have i1 := ih1 f f0 (by omega)
        rw [if_pos y, ez, ec, i1, eS, f00, Int.add_zero, show i + 1 + m = i + (m + 1) by omega]
      · have f01 : zf n S.1 a u d (gG 0 i) = 1 := fz.resolve_left (fun x => y (cond.2 x))
        have i1 := ih1 (f + 2) (by omega) (by omega)
        rw [if_neg y, ez, ec, i1, eS, f01, show i + 1 + m = i + (m + 1) by omega]
        generalize SN (fun j => zf n S.1 a u d (gG 0 j)) (i + (m + 1)) = X
        generalize SN (fun j => zf n S.1 a u d (gG 0 j)) i = Y
        rw [show f + 2 + 2 * (X - (Y + 1)) = f + 2 * (X - Y) by omega]
    by_cases b : i_and (i_shr ((gG 0 i : Nat) : Int) (v2 i : Int)) 1 = 1
    · have bz : bitT ((gG 0 i : Nat) : Int) (v2 i : Int) = true := decide_eq_true b
      have c1 := ct.1 bz
      rw [if_pos b, if_pos mm.1, mm.2.2.1, if_pos (okA_t mm.2.2.2.2.1 (by omega) (by omega)), if_pos mm.1, (r.2 (v2 i) (by omega) (by omega)).1, w32_id (x := cz n (gG 0 (i - 1) : Nat) + 1) (by omega) (by omega), Int.one_mul, w64_id (x := S.1 (v2 i)) (by omega) (by omega), w64_id (x := cs n S.1 (gG 0 (i - 1) : Nat) + S.1 (v2 i)) (by omega) (by omega)]
      exact cont _ _ c1.1.symm c1.2.symm
    · have bz : ¬ bitT ((gG 0 i : Nat) : Int) (v2 i : Int) = true := fun x => b (of_decide_eq_true x)
      have c1 := ct.2 bz
      rw [if_neg b, if_pos mm.1, mm.2.2.1, if_pos (okA_t mm.2.2.2.2.1 (by omega) (by omega)), if_pos mm.1, (r.2 (v2 i) (by omega) (by omega)).1, w32_id (x := cz n (gG 0 (i - 1) : Nat) + -1) (by omega) (by omega), w64_id (x := -1 * S.1 (v2 i)) (by omega) (by omega), w64_id (x := cs n S.1 (gG 0 (i - 1) : Nat) + -1 * S.1 (v2 i)) (by omega) (by omega)]
      exact cont _ _ c1.1.symm c1.2.symm
theorem zBt_f {n : Nat} {Q : Int → Int} (n2 : 2 ≤ n) : (zBt n Q).2.1 = zCl n (zBt n Q).1 (sQ Q (zBt n Q).1.toNat) (sQ Q n) ∧ (zBt n Q).2.2 = zBl n (zBt n Q).1 := by
  have := itN_ind (F := zBe n Q) (fun _ p => p.1 = 0 ∨ (p.2.1 = zCl n p.1 (sQ Q p.1.toNat) (sQ Q n) ∧ p.2.2 = zBl n p.1)) (n - 1) 1 (0, 0, 1) (Or.inl rfl) (fun k p k0 k1 i => by
    unfold zBe
    by_cases q : p.1 = 0 ∨ w64 (p.2.1 * zBl n k) < w64 (zCl n k (sQ Q k.toNat) (sQ Q n) * p.2.2)
    · rw [if_pos q]; exact Or.inr ⟨rfl, rfl⟩
    · rw [if_neg q]; exact i)
  have b := (zBt_b (n := n) (Q := Q)).2 n2
  have t : (zBt n Q).1 = 0 ∨ _ := this
  exact t.resolve_left (by omega)
noncomputable def zAl (n : Nat) (S : zR) : Int := 2 * (SN (zf n S.1 (sQ S.1 n) (zBt n S.1).2.1 (zBt n S.1).2.2) (2 ^ (n - 1)) - zf n S.1 (sQ S.1 n) (zBt n S.1).2.1 (zBt n S.1).2.2 0)
theorem cz0 (n : Nat) (hn : n ≤ 14) (Q : Int → Int) : cz n ((0 : Nat) : Int) = 0 ∧ cs n Q ((0 : Nat) : Int) = 0 := by
  have z0 : ((0 : Nat) : Int) = 0 := rfl
  unfold cz cs
  rw [z0]
  constructor
  · rw [Sm_cg (g' := fun _ => 0) n 0 (fun j j0 j1 => by rw [bitT_z j0 (by omega), if_neg (by decide)]), Sm_zero]
  · rw [Sm_cg (g' := fun _ => 0) n 0 (fun j j0 j1 => by rw [bitT_z j0 (by omega), if_neg (by decide)]), Sm_zero]
theorem s_alike {h : Hp} {T : Int → Int} (w : Inv h T) {n : Nat} {S : zR} (r : RaH h n S) (n2 : 2 ≤ n) (n1 : n ≤ 14) (bd : ∀ i : Int, 0 ≤ i → i < n → 0 ≤ S.1 i ∧ S.1 i ≤ 999999) : C_Ra_setsAlike 115 h = some (zAl n S, h) := by
  have mm := ivRa w
  have b := (zBt_b (n := n) (Q := S.1)).2 n2
  have ff := zBt_f (n := n) (Q := S.1) n2
  have zk : zN (zBt n S.1).1 = (zBt n S.1).1 := if_neg (by omega)
  have pp : 0 < 2 ^ (n - 1) := Nat.two_pow_pos _
  have l := l_alike w r n2 n1 bd (a := sQ S.1 n) (u := (zBt n S.1).2.1) (d := (zBt n S.1).2.2) (2 ^ (n - 1) - 1) 1 0 (by omega) (by omega) (by omega) (by omega)
  have g0 : gG 0 (1 - 1) = 0 := rfl
  rw [g0, (cz0 n n1 S.1).1, (cz0 n n1 S.1).2, show 1 + (2 ^ (n - 1) - 1) = 2 ^ (n - 1) by omega, Int.zero_add, gray0 (show n - 1 ≤ 14 by omega)] at l
  have es : SN (fun j => zf n S.1 (sQ S.1 n) (zBt n S.1).2.1 (zBt n S.1).2.2 (gG 0 j)) 1 = zf n S.1 (sQ S.1 n) (zBt n S.1).2.1 (zBt n S.1).2.2 0 := by
    show 0 + zf n S.1 (sQ S.1 n) (zBt n S.1).2.1 (zBt n S.1).2.2 0 = _
    rw [Int.zero_add]
  rw [es] at l
  have sk := l_rsum w r (by omega) (b := (zBt n S.1).1) (by omega) (zBt n S.1).1.toNat 0 0 (by omega) (by omega)
  have ek : itN (zA S.1) (zBt n S.1).1.toNat 0 0 = sQ S.1 (zBt n S.1).1.toNat := rfl
  have en : itN (zA S.1) n 0 0 = sQ S.1 n := rfl
  rw [ek] at sk
  have sn' := l_rsum w r (by omega) (b := (n : Int)) (Int.le_refl _) n 0 0 (by omega) (by omega)
  rw [en] at sn'
  have e0 : ((0 : Nat) : Int) = 0 := rfl
  have e1 : ((1 : Nat) : Int) = 1 := rfl
  rw [e0, e1] at l
  rw [E_Ra_setsAlike, if_pos mm.1, s_split w r (by omega), bind_some', zk, if_neg (show ¬ (zBt n S.1).1 = -1 by omega), if_pos mm.1, r.1, if_neg (show ¬ 14 < (n : Int) by omega), if_pos mm.1, if_pos mm.1, E_Ra_sumOf, sn', bind_some', if_pos mm.1, E_Ra_sumOf, sk, bind_some', if_pos mm.1, E_Ra_closeness, if_pos mm.1, r.1, bind_some', if_pos mm.1, r.1]
  show P_Ra_setsAlike_72 115 (sQ S.1 n) (zCl n (zBt n S.1).1 (sQ S.1 (zBt n S.1).1.toNat) (sQ S.1 n)) (zBl n (zBt n S.1).1) 0 0 0 0 1 h = _
  rw [← ff.1, ← ff.2, l]
  rfl
noncomputable def aAlike (T : Int → Int) (k j y r : Int) : Int := cI ((okL T k j y ∧ 0 ≤ r ∧ r < catT T k 0) ∧ 2 ≤ (zSr T k j y r).1 ∧ (zSr T k j y r).1 ≤ 14) (zAl (zSr T k j y r).1 (zSr T k j y r).2) (-1)
theorem q_alike {h : Hp} {T : Int → Int} (w : Inv h T) (k j y r : Int) : ∃ h', C_LS_alike 1 k j y r h = some (aAlike T k j y r, h') ∧ Fr pZ h h' := by
  obtain ⟨h1, g1, f1, w1, e1⟩ := s_gather w k j y r
  have m1 := ivRa w1
  rw [E_LS_alike, if_pos (iv1 w), g1, bind_some']
  unfold aAlike
  by_cases q : okL T k j y ∧ 0 ≤ r ∧ r < catT T k 0
  · obtain ⟨ra, n1⟩ := e1 q
    have bd := zSr_b (y := y) (ivC w q.1.1.1 q.1.1.2).2.1 (ivH w q.1.2.1.1 q.1.2.1.2).2.1 q.2.1 q.2.2
    refine ⟨h1, ?_, f1⟩
    rw [bI_t q, if_neg n10, if_pos (iv1 w1), m1.2.2.2.2.2, if_pos m1.1, ra.1, if_pos (iv1 w1), if_pos m1.1, if_pos (iv1 w1), if_pos m1.1]
    by_cases c1 : (zSr T k j y r).1 < 2
    · rw [if_pos (by omega), cI_f (fun z => by omega)]
    · rw [if_neg (by omega)]
      by_cases c2 : 14 < (zSr T k j y r).1
      · rw [if_pos (by omega), cI_f (fun z => by omega)]
      · rw [if_neg (by omega), s_alike w1 ra (by omega) (by omega) bd, bind_some', cI_t ⟨q, by omega, by omega⟩]
  · exact ⟨h1, by rw [bI_f q, if_pos rfl, cI_f (fun z => q z.1)], f1⟩
