/-! The reference's token. -/
def RMB (h : Hp) (B : Int → Int) (L : Int) : Prop := ModS h ∧ mR h 124 2 = L ∧ Byt B L ∧ ∀ j, 0 ≤ j → j < L → mR h 125 (10 + j) = B j
def pAd (b i : Int) : Prop := b = 124 ∧ 3 ≤ i ∧ i ≤ 7
theorem RMB.of {h h' : Hp} {B : Int → Int} {L : Int} (r : RMB h B L) (f : Fr pAd h h') : RMB h' B L := by
  obtain ⟨r1, r2, r3, r4⟩ := r
  exact ⟨r1.of f.1 (fun i hi => f.2 124 i (by unfold pAd; simp at hi; omega)), by rw [f.2 124 2 (by unfold pAd; omega)]; exact r2, r3, fun j j0 j1 => by rw [f.2 125 (10 + j) (by unfold pAd; omega)]; exact r4 j j0 j1⟩
theorem RMB.w {h : Hp} {B : Int → Int} {L : Int} (r : RMB h B L) {i : Int} (v : Int) (i0 : 3 ≤ i) (i1 : i ≤ 7) : Fr pAd h (mW h 124 i v) ∧ RMB (mW h 124 i v) B L := by
  have f : Fr pAd h (mW h 124 i v) := Fr.W h v ⟨rfl, i0, i1⟩
  exact ⟨f, r.of f⟩
theorem rmo {h : Hp} {B : Int → Int} {L : Int} (r : RMB h B L) : okF h 124 12 = true := okF_t r.1.1
theorem m_byte {h : Hp} {B : Int → Int} {L q : Int} (r : RMB h B L) (q0 : 0 ≤ q) : C_Mo_byteAt 124 q h = some (if q < L then B q else -1, h) := by
  have lb := r.2.2.1.1
  rw [E_Mo_byteAt, if_pos (rmo r), r.2.1]
  by_cases z : q < L
  · rw [if_pos z, if_pos z, if_pos (rmo r), r.1.2.1.1, w32_id (x := 10 + q) (by omega) (by omega), if_pos (okA_t r.1.2.2.1 (by omega) (by omega)), r.2.2.2 q q0 z]
  · rw [if_neg z, if_neg z]
theorem m_isLt (b : Int) (h : Hp) : C_Mo_isLetter b h = some (bI (97 ≤ b ∧ b ≤ 122), h) := by
  rw [E_Mo_isLetter]
  by_cases z : b < 97
  · rw [if_pos z, bI_f (by omega)]
  · rw [if_neg z]
    by_cases y : 122 < b
    · rw [if_pos y, bI_f (by omega)]
    · rw [if_neg y, bI_t (by omega)]
theorem m_isDg (b : Int) (h : Hp) : C_Mo_isDigit b h = some (bI (48 ≤ b ∧ b ≤ 57), h) := by
  rw [E_Mo_isDigit]
  by_cases z : b < 48
  · rw [if_pos z, bI_f (by omega)]
  · rw [if_neg z]
    by_cases y : 57 < b
    · rw [if_pos y, bI_f (by omega)]
    · rw [if_neg y, bI_t (by omega)]
theorem hs_b {B : Int → Int} {a : Int} : ∀ n : Nat, (∀ j, a ≤ j → j < a + n → 97 ≤ B j ∧ B j ≤ 122) → 0 ≤ hs B a n ∧ hs B a n + 1 ≤ 32 ^ n
  | 0, _ => by show (0 : Int) ≤ 0 ∧ (0 : Int) + 1 ≤ 1; omega
  | n + 1, h => by
    have i := hs_b n (fun j j0 j1 => h j j0 (by omega))
    have d := h (a + n) (by omega) (by omega)
    show 0 ≤ 32 * hs B a n + (B (a + n) - 96) ∧ 32 * hs B a n + (B (a + n) - 96) + 1 ≤ 32 ^ (n + 1)
    rw [Int.pow_succ]
    omega
theorem p32 (n : Nat) (h : n ≤ 7) : (32 : Int) ^ n ≤ 34359738368 := by
  have : n = 0 ∨ n = 1 ∨ n = 2 ∨ n = 3 ∨ n = 4 ∨ n = 5 ∨ n = 6 ∨ n = 7 := by omega
  rcases this with z | z | z | z | z | z | z | z <;> rw [z] <;> decide
theorem m_lets (a b c d : Int) (h : Hp) (q : 0 ≤ a ∧ a ≤ 31 ∧ 0 ≤ b ∧ b ≤ 31 ∧ 0 ≤ c ∧ c ≤ 31 ∧ 0 ≤ d ∧ d ≤ 31) : C_Mo_letters a b c d h = some (((a * 32 + b) * 32 + c) * 32 + d, h) := by
  rw [E_Mo_letters, w64_id (x := a * 32) (by omega) (by omega), w64_id (x := a * 32 + b) (by omega) (by omega), w64_id (x := (a * 32 + b) * 32) (by omega) (by omega), w64_id (x := (a * 32 + b) * 32 + c) (by omega) (by omega), w64_id (x := ((a * 32 + b) * 32 + c) * 32) (by omega) (by omega), w64_id (x := ((a * 32 + b) * 32 + c) * 32 + d) (by omega) (by omega)]
theorem ml_2_1_19_5 (h : Hp) : C_Mo_letters 2 1 19 5 h = some (67173, h) := m_lets 2 1 19 5 h (by decide)
theorem ml_0_0_15_14 (h : Hp) : C_Mo_letters 0 0 15 14 h = some (494, h) := m_lets 0 0 15 14 h (by decide)
theorem ml_1_23_1_25 (h : Hp) : C_Mo_letters 1 23 1 25 h = some (56377, h) := m_lets 1 23 1 25 h (by decide)
theorem ml_20_15_23_1 (h : Hp) : C_Mo_letters 20 15 23 1 h = some (671457, h) := m_lets 20 15 23 1 h (by decide)
theorem ml_19_20_15_14 (h : Hp) : C_Mo_letters 19 20 15 14 h = some (643566, h) := m_lets 19 20 15 14 h (by decide)
theorem ml_0_8_1_19 (h : Hp) : C_Mo_letters 0 8 1 19 h = some (8243, h) := m_lets 0 8 1 19 h (by decide)
theorem ml_0_21_19_5 (h : Hp) : C_Mo_letters 0 21 19 5 h = some (22117, h) := m_lets 0 21 19 5 h (by decide)
theorem ml_0_23_1_25 (h : Hp) : C_Mo_letters 0 23 1 25 h = some (23609, h) := m_lets 0 23 1 25 h (by decide)
theorem ml_12_5_1_14 (h : Hp) : C_Mo_letters 12 5 1 14 h = some (398382, h) := m_lets 12 5 1 14 h (by decide)
theorem ml_3_1_19_20 (h : Hp) : C_Mo_letters 3 1 19 20 h = some (99956, h) := m_lets 3 1 19 20 h (by decide)
theorem ml_20_8_18_15 (h : Hp) : C_Mo_letters 20 8 18 15 h = some (664143, h) := m_lets 20 8 18 15 h (by decide)
theorem ml_6_9_18_19 (h : Hp) : C_Mo_letters 6 9 18 19 h = some (206419, h) := m_lets 6 9 18 19 h (by decide)
theorem ml_13_5_1_14 (h : Hp) : C_Mo_letters 13 5 1 14 h = some (431150, h) := m_lets 13 5 1 14 h (by decide)
theorem ml_12_1_19_20 (h : Hp) : C_Mo_letters 12 1 19 20 h = some (394868, h) := m_lets 12 1 19 20 h (by decide)
theorem ml_0_0_21_16 (h : Hp) : C_Mo_letters 0 0 21 16 h = some (688, h) := m_lets 0 0 21 16 h (by decide)
theorem ml_4_15_23_14 (h : Hp) : C_Mo_letters 4 15 23 14 h = some (147182, h) := m_lets 4 15 23 14 h (by decide)
theorem ml_19_12_15_23 (h : Hp) : C_Mo_letters 19 12 15 23 h = some (635383, h) := m_lets 19 12 15 23 h (by decide)
theorem ml_6_1_19_20 (h : Hp) : C_Mo_letters 6 1 19 20 h = some (198260, h) := m_lets 6 1 19 20 h (by decide)
theorem ml_14_5_1_18 (h : Hp) : C_Mo_letters 14 5 1 18 h = some (463922, h) := m_lets 14 5 1 18 h (by decide)
theorem ml_6_1_18_20 (h : Hp) : C_Mo_letters 6 1 18 20 h = some (198228, h) := m_lets 6 1 18 20 h (by decide)
theorem ml_0_15_4_4 (h : Hp) : C_Mo_letters 0 15 4 4 h = some (15492, h) := m_lets 0 15 4 4 h (by decide)
theorem ml_12_9_7_8 (h : Hp) : C_Mo_letters 12 9 7 8 h = some (402664, h) := m_lets 12 9 7 8 h (by decide)
theorem ml_19_16_5_5 (h : Hp) : C_Mo_letters 19 16 5 5 h = some (639141, h) := m_lets 19 16 5 5 h (by decide)
theorem ml_0_15_23_14 (h : Hp) : C_Mo_letters 0 15 23 14 h = some (16110, h) := m_lets 0 15 23 14 h (by decide)
theorem ml_0_5_18_18 (h : Hp) : C_Mo_letters 0 5 18 18 h = some (5714, h) := m_lets 0 5 18 18 h (by decide)
theorem ml_12_9_13_9 (h : Hp) : C_Mo_letters 12 9 13 9 h = some (402857, h) := m_lets 12 9 13 9 h (by decide)
theorem ml_20_18_9_5 (h : Hp) : C_Mo_letters 20 18 9 5 h = some (674085, h) := m_lets 20 18 9 5 h (by decide)
theorem ml_0_8_5_18 (h : Hp) : C_Mo_letters 0 8 5 18 h = some (8370, h) := m_lets 0 8 5 18 h (by decide)
def wC2 (x : Int) : Int := if x = 650632370 then 31 else if x = 203018418 then 32 else if x = 475056306 then 33 else if x = 6495543474 then 34 else if x = 15492 then 35 else if x = 12885268 then 41 else if x = 20452516 then 42 else if x = 16110 then 43 else if x = 5714 then 44 else if x = 12891444 then 45 else if x = 21570739 then 46 else 99
theorem m_rword (x : Int) (h : Hp) : C_Mo_ruleWord x h = some (wC2 x, h) := by
  unfold wC2
  rw [E_Mo_ruleWord]
  rw [ml_19_12_15_23, bind_some', show w64 (w64 (w64 (635383 * 1024) + 160) + 18) = 650632370 by decide]
  by_cases z31 : x = 650632370
  · rw [if_pos z31, if_pos z31]
  rw [if_neg z31, if_neg z31]
  rw [ml_6_1_19_20, bind_some', show w64 (w64 (w64 (198260 * 1024) + 160) + 18) = 203018418 by decide]
  by_cases z32 : x = 203018418
  · rw [if_pos z32, if_pos z32]
  rw [if_neg z32, if_neg z32]
  rw [ml_14_5_1_18, bind_some', show w64 (w64 (w64 (463922 * 1024) + 160) + 18) = 475056306 by decide]
  by_cases z33 : x = 475056306
  · rw [if_pos z33, if_pos z33]
  rw [if_neg z33, if_neg z33]
  rw [ml_6_1_18_20, bind_some', ml_0_8_5_18, bind_some', show w64 (w64 (198228 * 32768) + 8370) = 6495543474 by decide]
  by_cases z34 : x = 6495543474
  · rw [if_pos z34, if_pos z34]
  rw [if_neg z34, if_neg z34]
  rw [ml_0_15_4_4, bind_some']
  by_cases z35 : x = 15492
  · rw [if_pos z35, if_pos z35]
  rw [if_neg z35, if_neg z35]
  rw [ml_12_9_7_8, bind_some', show w64 (w64 (402664 * 32) + 20) = 12885268 by decide]
  by_cases z41 : x = 12885268
  · rw [if_pos z41, if_pos z41]
  rw [if_neg z41, if_neg z41]
  rw [ml_19_16_5_5, bind_some', show w64 (w64 (639141 * 32) + 4) = 20452516 by decide]
  by_cases z42 : x = 20452516
  · rw [if_pos z42, if_pos z42]
  rw [if_neg z42, if_neg z42]
  rw [ml_0_15_23_14, bind_some']
  by_cases z43 : x = 16110
  · rw [if_pos z43, if_pos z43]
  rw [if_neg z43, if_neg z43]
  rw [ml_0_5_18_18, bind_some']
  by_cases z44 : x = 5714
  · rw [if_pos z44, if_pos z44]
  rw [if_neg z44, if_neg z44]
  rw [ml_12_9_13_9, bind_some', show w64 (w64 (402857 * 32) + 20) = 12891444 by decide]
  by_cases z45 : x = 12891444
  · rw [if_pos z45, if_pos z45]
  rw [if_neg z45, if_neg z45]
  rw [ml_20_18_9_5, bind_some', show w64 (w64 (674085 * 32) + 19) = 21570739 by decide]
  by_cases z46 : x = 21570739
  · rw [if_pos z46, if_pos z46]
  rw [if_neg z46, if_neg z46]
theorem m_word (x : Int) (h : Hp) : C_Mo_wordOf x h = some (wC x, h) := by
  unfold wC
  rw [E_Mo_wordOf]
  rw [ml_2_1_19_5, bind_some']
  by_cases z1 : x = 67173
  · rw [if_pos z1, if_pos z1]
  rw [if_neg z1, if_neg z1]
  rw [ml_0_0_15_14, bind_some']
  by_cases z2 : x = 494
  · rw [if_pos z2, if_pos z2]
  rw [if_neg z2, if_neg z2]
  rw [ml_1_23_1_25, bind_some']
  by_cases z3 : x = 56377
  · rw [if_pos z3, if_pos z3]
  rw [if_neg z3, if_neg z3]
  rw [ml_20_15_23_1, bind_some', show w64 (w64 (w64 (671457 * 1024) + 576) + 4) = 687572548 by decide]
  by_cases z4 : x = 687572548
  · rw [if_pos z4, if_pos z4]
  rw [if_neg z4, if_neg z4]
  rw [ml_19_20_15_14, bind_some', show w64 (w64 (643566 * 32) + 5) = 20594117 by decide]
  by_cases z5 : x = 20594117
  · rw [if_pos z5, if_pos z5]
  rw [if_neg z5, if_neg z5]
  rw [ml_0_8_1_19, bind_some']
  by_cases z6 : x = 8243
  · rw [if_pos z6, if_pos z6]
  rw [if_neg z6, if_neg z6]
  rw [ml_0_21_19_5, bind_some']
  by_cases z11 : x = 22117
  · rw [if_pos z11, if_pos z11]
  rw [if_neg z11, if_neg z11]
  rw [ml_0_23_1_25, bind_some']
  by_cases z12 : x = 23609
  · rw [if_pos z12, if_pos z12]
  rw [if_neg z12, if_neg z12]
  rw [ml_12_5_1_14, bind_some']
  by_cases z13 : x = 398382
  · rw [if_pos z13, if_pos z13]
  rw [if_neg z13, if_neg z13]
  rw [ml_3_1_19_20, bind_some']
  by_cases z14 : x = 99956
  · rw [if_pos z14, if_pos z14]
  rw [if_neg z14, if_neg z14]
  rw [ml_20_8_18_15, bind_some', show w64 (w64 (664143 * 32) + 23) = 21252599 by decide]
  by_cases z15 : x = 21252599
  · rw [if_pos z15, if_pos z15]
  rw [if_neg z15, if_neg z15]
  rw [ml_6_9_18_19, bind_some', show w64 (w64 (206419 * 32) + 20) = 6605428 by decide]
  by_cases z21 : x = 6605428
  · rw [if_pos z21, if_pos z21]
  rw [if_neg z21, if_neg z21]
  rw [ml_13_5_1_14, bind_some']
  by_cases z22 : x = 431150
  · rw [if_pos z22, if_pos z22]
  rw [if_neg z22, if_neg z22]
  rw [ml_12_1_19_20, bind_some']
  by_cases z23 : x = 394868
  · rw [if_pos z23, if_pos z23]
  rw [if_neg z23, if_neg z23]
  rw [ml_0_0_21_16, bind_some']
  by_cases z24 : x = 688
  · rw [if_pos z24, if_pos z24]
  rw [if_neg z24, if_neg z24]
  rw [ml_4_15_23_14, bind_some']
  by_cases z25 : x = 147182
  · rw [if_pos z25, if_pos z25]
  rw [if_neg z25, if_neg z25]
  rw [m_rword, bind_some']
  rfl
theorem l_mlet {B : Int → Int} {L a : Int} (a0 : 0 ≤ a) : ∀ (n : Nat) (q x : Int) (h : Hp), RMB h B L → mR h 124 3 = q → mR h 124 4 = a → (q - a ≤ 7 → x = hs B a (q - a).toNat) → a ≤ q → q + n = L → (∀ j, a ≤ j → j < q → 97 ≤ B j ∧ B j ≤ 122) → ∃ h', P_Mo_advance_77 124 x h = some (0, h') ∧ Fr pAd h h' ∧ mR h' 124 3 = rn (ltB B) L q ∧ mR h' 124 4 = a ∧ mR h' 124 7 = (if 7 < rn (ltB B) L q - a then 99 else wC (hs B a (rn (ltB B) L q - a).toNat)) ∧ mR h' 124 5 = (if (if 7 < rn (ltB B) L q - a then 99 else wC (hs B a (rn (ltB B) L q - a).toNat)) = 99 then 4 else 3) := by
  have fin : ∀ (q x : Int) (h : Hp), RMB h B L → mR h 124 3 = q → mR h 124 4 = a → (q - a ≤ 7 → x = hs B a (q - a).toNat) → a ≤ q → q ≤ L → ¬ (q < L ∧ ltB B q = true) → ∃ h', P_Mo_advance_77 124 x h = some (0, h') ∧ Fr pAd h h' ∧ mR h' 124 3 = q ∧ mR h' 124 4 = a ∧ mR h' 124 7 = (if 7 < q - a then 99 else wC (hs B a (q - a).toNat)) ∧ mR h' 124 5 = (if (if 7 < q - a then 99 else wC (hs B a (q - a).toNat)) = 99 then 4 else 3) := by
    intro q x h r e ea ex q0 hq nl
    have lb := r.2.2.1.1
    have nl' : ¬ (97 ≤ (if q < L then B q else -1) ∧ (if q < L then B q else -1) ≤ 122) := by
      by_cases z : q < L
      · rw [if_pos z]; exact fun y => nl ⟨z, decide_eq_true y⟩
      · rw [if_neg z]; omega
    generalize hw : (if 7 < q - a then 99 else wC (hs B a (q - a).toNat)) = W
    obtain ⟨f1, r1⟩ := r.w (i := 7) W (by omega) (by omega)
    obtain ⟨f2, r2⟩ := r1.w (i := 5) (if W = 99 then 4 else 3) (by omega) (by omega)
    refine ⟨mW (mW h 124 7 W) 124 5 (if W = 99 then 4 else 3), ?_, f1.tr f2, by rw [mR_ni (by decide), mR_ni (by decide)]; exact e, by rw [mR_ni (by decide), mR_ni (by decide)]; exact ea, by rw [mR_ni (by decide), mR_same], mR_same _ _ _ _⟩
    rw [E_Mo_advance_77, if_pos (rmo r), if_pos (rmo r), e, m_byte r (by omega), bind_some', m_isLt, bind_some', bI_f nl', if_pos rfl, if_pos (rmo r), if_pos (rmo r)]
    dsimp only
    rw [e, ea, w32_id (x := q - a) (by omega) (by omega)]
    have last : (if okF (mW h 124 7 W) 124 12 = true then (if mR (mW h 124 7 W) 124 7 = 99 then (if okF (mW h 124 7 W) 124 12 = true then hb (mW (mW h 124 7 W) 124 5 4) (fun h30 => (some (0, h30) : Res)) else none) else (if okF (mW h 124 7 W) 124 12 = true then hb (mW (mW h 124 7 W) 124 5 3) (fun h29 => (some (0, h29) : Res)) else none)) else none) = some (0, mW (mW h 124 7 W) 124 5 (if W = 99 then 4 else 3)) := by
      rw [if_pos (rmo r1), mR_same]
      by_cases y : W = 99
      · rw [if_pos y, if_pos y, if_pos (rmo r1), hb_eq]
      · rw [if_neg y, if_neg y, if_pos (rmo r1), hb_eq]
    by_cases z : 7 < q - a
    · rw [if_pos z] at hw
      subst hw
      rw [if_pos z, if_pos (rmo r), hb_eq]
      exact last
    · rw [if_neg z] at hw
      rw [if_neg z, m_word, bind_some', ex (by omega), hw]
      dsimp only
      rw [if_pos (rmo r), hb_eq]
      exact last
  intro n
  induction n with
  | zero =>
    intro q x h r e ea ex q0 hq dd
    rw [rn_f (show ¬ (q < L ∧ ltB B q = true) by omega)]
    exact fin q x h r e ea ex q0 (by omega) (by omega)
  | succ n ih =>
    intro q x h r e ea ex q0 hq dd
    have lb := r.2.2.1.1
    by_cases z : 97 ≤ B q ∧ B q ≤ 122
    · have dd' : ∀ j, a ≤ j → j < q + 1 → 97 ≤ B j ∧ B j ≤ 122 := fun j j0 j1 => by
        by_cases y : j = q
        · rw [y]; exact z
        · exact dd j j0 (by omega)
      obtain ⟨f1, r1⟩ := r.w (i := 3) (q + 1) (by omega) (by omega)
      rw [rn_t (show q < L by omega) (decide_eq_true z), E_Mo_advance_77, if_pos (rmo r), if_pos (rmo r), e, m_byte r (by omega), if_pos (show q < L by omega), bind_some', m_isLt, bind_some', bI_t z, if_neg n10, if_pos (rmo r), if_pos (rmo r)]
      dsimp only
      rw [e, ea, w32_id (x := q - a) (by omega) (by omega)]
      by_cases y : q - a < 7
      · have xv := ex (by omega)
        have xb := hs_b (B := B) (a := a) (q - a).toNat (fun j j0 j1 => dd j j0 (by omega))
        have p7 := p32 (q - a).toNat (by omega)
        have en : hs B a (q + 1 - a).toNat = 32 * hs B a (q - a).toNat + (B q - 96) := by
          rw [show (q + 1 - a).toNat = (q - a).toNat + 1 by omega]
          show 32 * hs B a (q - a).toNat + (B (a + (q - a).toNat) - 96) = _
          rw [show a + ((q - a).toNat : Int) = q by omega]
        obtain ⟨h3, g3, f3, a3, b3, c3, d3⟩ := ih (q + 1) (hs B a (q + 1 - a).toNat) _ r1 (mR_same _ _ _ _) (by rw [mR_ni (by decide)]; exact ea) (fun _ => rfl) (by omega) (by omega) dd'
        refine ⟨h3, ?_, f1.tr f3, a3, b3, c3, d3⟩
        rw [if_pos y, if_pos (rmo r), if_pos (rmo r), m_byte r (by omega), if_pos (show q < L by omega), bind_some']
        dsimp only
        rw [if_pos (rmo r), if_pos (rmo r), e, hb_eq, w32_id (x := q + 1) (by omega) (by omega), xv, w64_id (x := 32 * hs B a (q - a).toNat) (by omega) (by omega), w64_id (x := 32 * hs B a (q - a).toNat + B q) (by omega) (by omega), w64_id (x := 32 * hs B a (q - a).toNat + B q - 96) (by omega) (by omega), show 32 * hs B a (q - a).toNat + B q - 96 = hs B a (q + 1 - a).toNat by omega]
        exact g3
      · obtain ⟨h3, g3, f3, a3, b3, c3, d3⟩ := ih (q + 1) x _ r1 (mR_same _ _ _ _) (by rw [mR_ni (by decide)]; exact ea) (fun _ => by omega) (by omega) (by omega) dd'
        refine ⟨h3, ?_, f1.tr f3, a3, b3, c3, d3⟩
        rw [if_neg y, if_pos (rmo r), if_pos (rmo r), hb_eq, w32_id (x := q + 1) (by omega) (by omega)]
        exact g3
    · have nl : ¬ (q < L ∧ ltB B q = true) := fun x => z (of_decide_eq_true x.2)
      rw [rn_f nl]
      exact fin q x h r e ea ex q0 (by omega) nl
theorem l_mdig {B : Int → Int} {L a : Int} (a0 : 0 ≤ a) : ∀ (n : Nat) (q : Int) (h : Hp), RMB h B L → mR h 124 3 = q → mR h 124 4 = a → (q - a ≤ 4 → mR h 124 6 = vd B a (q - a).toNat) → a ≤ q → q + n = L → (∀ j, a ≤ j → j < q → 48 ≤ B j ∧ B j ≤ 57) → ∃ h', P_Mo_advance_198 124 h = some (0, h') ∧ Fr pAd h h' ∧ mR h' 124 3 = rn (dgB B) L q ∧ mR h' 124 4 = a ∧ mR h' 124 5 = (if 4 < rn (dgB B) L q - a then 4 else 1) ∧ (rn (dgB B) L q - a ≤ 4 → mR h' 124 6 = vd B a (rn (dgB B) L q - a).toNat) := by
  have fin : ∀ (q : Int) (h : Hp), RMB h B L → mR h 124 3 = q → mR h 124 4 = a → (q - a ≤ 4 → mR h 124 6 = vd B a (q - a).toNat) → a ≤ q → q ≤ L → ¬ (q < L ∧ dgB B q = true) → ∃ h', P_Mo_advance_198 124 h = some (0, h') ∧ Fr pAd h h' ∧ mR h' 124 3 = q ∧ mR h' 124 4 = a ∧ mR h' 124 5 = (if 4 < q - a then 4 else 1) ∧ (q - a ≤ 4 → mR h' 124 6 = vd B a (q - a).toNat) := by
    intro q h r e ea ev q0 hq nl
    have lb := r.2.2.1.1
    have nl' : ¬ (48 ≤ (if q < L then B q else -1) ∧ (if q < L then B q else -1) ≤ 57) := by
      by_cases z : q < L
      · rw [if_pos z]; exact fun y => nl ⟨z, decide_eq_true y⟩
      · rw [if_neg z]; omega
    obtain ⟨f1, r1⟩ := r.w (i := 5) (if 4 < q - a then 4 else 1) (by omega) (by omega)
    refine ⟨mW h 124 5 (if 4 < q - a then 4 else 1), ?_, f1, by rw [mR_ni (by decide)]; exact e, by rw [mR_ni (by decide)]; exact ea, mR_same _ _ _ _, fun x => by rw [mR_ni (by decide)]; exact ev x⟩
    rw [E_Mo_advance_198, if_pos (rmo r), if_pos (rmo r), e, m_byte r (by omega), bind_some', m_isDg, bind_some', bI_f nl', if_pos rfl, if_pos (rmo r), if_pos (rmo r)]
    dsimp only
    rw [e, ea, w32_id (x := q - a) (by omega) (by omega)]
    by_cases z : 4 < q - a
    · rw [if_pos z, if_pos z, if_pos (rmo r), hb_eq]
    · rw [if_neg z, if_neg z, if_pos (rmo r), hb_eq]
  intro n
  induction n with
  | zero =>
    intro q h r e ea ev q0 hq dd
    rw [rn_f (show ¬ (q < L ∧ dgB B q = true) by omega)]
    exact fin q h r e ea ev q0 (by omega) (by omega)
  | succ n ih =>
    intro q h r e ea ev q0 hq dd
    have lb := r.2.2.1.1
    by_cases z : 48 ≤ B q ∧ B q ≤ 57
    · have dd' : ∀ j, a ≤ j → j < q + 1 → 48 ≤ B j ∧ B j ≤ 57 := fun j j0 j1 => by
        by_cases y : j = q
        · rw [y]; exact z
        · exact dd j j0 (by omega)
      rw [rn_t (show q < L by omega) (decide_eq_true z), E_Mo_advance_198, if_pos (rmo r), if_pos (rmo r), e, m_byte r (by omega), if_pos (show q < L by omega), bind_some', m_isDg, bind_some', bI_t z, if_neg n10, if_pos (rmo r), if_pos (rmo r)]
      dsimp only
      rw [e, ea, w32_id (x := q - a) (by omega) (by omega)]
      by_cases y : q - a < 4
      · have vv := ev (by omega)
        have vb := vd_b (B := B) (a := a) (q - a).toNat (fun j j0 j1 => dd j j0 (by omega))
        have p4 := p10 (q - a).toNat (by omega)
        have en : vd B a (q + 1 - a).toNat = vd B a (q - a).toNat * 10 + B q - 48 := by
          rw [show (q + 1 - a).toNat = (q - a).toNat + 1 by omega]
          show vd B a (q - a).toNat * 10 + B (a + (q - a).toNat) - 48 = _
          rw [show a + ((q - a).toNat : Int) = q by omega]
        obtain ⟨f1, r1⟩ := r.w (i := 6) (vd B a (q + 1 - a).toNat) (by omega) (by omega)
        obtain ⟨f2, r2⟩ := r1.w (i := 3) (q + 1) (by omega) (by omega)
        obtain ⟨h3, g3, f3, a3, b3, c3, d3⟩ := ih (q + 1) _ r2 (mR_same _ _ _ _) (by rw [mR_ni (by decide), mR_ni (by decide)]; exact ea) (fun _ => by rw [mR_ni (by decide), mR_same]) (by omega) (by omega) dd'
        refine ⟨h3, ?_, (f1.tr f2).tr f3, a3, b3, c3, d3⟩
        rw [if_pos y, if_pos (rmo r), if_pos (rmo r), if_pos (rmo r), m_byte r (by omega), if_pos (show q < L by omega), bind_some']
        dsimp only
        rw [if_pos (rmo r), vv, w32_id (x := 10 * vd B a (q - a).toNat) (by omega) (by omega), w32_id (x := 10 * vd B a (q - a).toNat + B q) (by omega) (by omega), w32_id (x := 10 * vd B a (q - a).toNat + B q - 48) (by omega) (by omega), show 10 * vd B a (q - a).toNat + B q - 48 = vd B a (q + 1 - a).toNat by omega, hb_eq, if_pos (rmo r1), if_pos (rmo r1), mR_ni (by decide), e, hb_eq, w32_id (x := q + 1) (by omega) (by omega)]
        exact g3
      · obtain ⟨f2, r2⟩ := r.w (i := 3) (q + 1) (by omega) (by omega)
        obtain ⟨h3, g3, f3, a3, b3, c3, d3⟩ := ih (q + 1) _ r2 (mR_same _ _ _ _) (by rw [mR_ni (by decide)]; exact ea) (fun _ => by omega) (by omega) (by omega) dd'
        refine ⟨h3, ?_, f2.tr f3, a3, b3, c3, d3⟩
        rw [if_neg y, if_pos (rmo r), if_pos (rmo r), hb_eq, w32_id (x := q + 1) (by omega) (by omega)]
        exact g3
    · have nl : ¬ (q < L ∧ dgB B q = true) := fun x => z (of_decide_eq_true x.2)
      rw [rn_f nl]
      exact fin q h r e ea ev q0 (by omega) nl
/-- the reference's token, looked at from place p on -/
def RM (h : Hp) (B : Int → Int) (L p : Int) : Prop := RMB h B L ∧ mR h 124 3 = tE B L p ∧ mR h 124 4 = tA B L p ∧ mR h 124 5 = (if tK B L p = 5 then 4 else tK B L p) ∧ (tK B L p = 1 → mR h 124 6 = tV B L p) ∧ (tK B L p = 3 → mR h 124 7 = tW B L p)
theorem l_mws {B : Int → Int} {L p : Int} (p0 : 0 ≤ p) (p1 : p ≤ L) : ∀ (n : Nat) (q : Int) (h : Hp), RMB h B L → mR h 124 3 = q → p ≤ q → q + n = L → rn (wsB B) L q = tA B L p → ∃ h', P_Mo_advance_0 124 h = some (0, h') ∧ Fr pAd h h' ∧ RM h' B L p := by
  have fin : ∀ (h : Hp), RMB h B L → mR h 124 3 = tA B L p → ∃ h', P_Mo_advance_0 124 h = some (0, h') ∧ Fr pAd h h' ∧ RM h' B L p := by
    intro h r e
    have lb := r.2.2.1.1
    have bb := rn_c (P := wsB B) p1
    have eA : rn (wsB B) L p = tA B L p := rfl
    rw [eA] at bb
    obtain ⟨f1, r1⟩ := r.w (i := 4) (tA B L p) (by omega) (by omega)
    have e1 : mR (mW h 124 4 (tA B L p)) 124 3 = tA B L p := by rw [mR_ni (by decide)]; exact e
    have a1 : mR (mW h 124 4 (tA B L p)) 124 4 = tA B L p := mR_same _ _ _ _
    have nw : ¬ (if tA B L p < L then B (tA B L p) else -1) = 10 ∧ ¬ (if tA B L p < L then B (tA B L p) else -1) = 32 := by
      by_cases z : tA B L p < L
      · rw [if_pos z]
        have := bb.2.2.1 z
        unfold wsB at this
        have := of_decide_eq_false this
        omega
      · rw [if_neg z]; omega
    rw [E_Mo_advance_0, if_pos (rmo r), if_pos (rmo r), e, m_byte r (by omega), bind_some', if_neg nw.1, if_pos (rmo r), if_pos (rmo r)]
    dsimp only
    rw [e, m_byte r (by omega), bind_some', if_neg nw.2]
    dsimp only
    rw [if_pos (rmo r), if_pos (rmo r), e, hb_eq]
    generalize mW h 124 4 (tA B L p) = h1 at f1 r1 e1 a1 ⊢
    rw [if_pos (rmo r1), if_pos (rmo r1), e1, m_byte r1 (by omega), bind_some']
    dsimp only
    unfold RM tV tK
    by_cases q : tA B L p < L
    · have b := r1.2.2.1.2 (tA B L p) (by omega) q
      rw [if_pos q, if_neg (show ¬ B (tA B L p) < 0 by omega), m_isLt, bind_some', if_pos q]
      by_cases l : 97 ≤ B (tA B L p) ∧ B (tA B L p) ≤ 122
      · have l' : ltB B (tA B L p) = true := decide_eq_true l
        have m : ¬ B (tA B L p) = 59 := by omega
        have ee : tE B L p = rn (ltB B) L (tA B L p) := by unfold tE; rw [if_pos q, if_neg m, if_pos l']
        obtain ⟨h3, g3, f3, x3, y3, w3, k3⟩ := l_mlet (a := tA B L p) (by omega) (L - tA B L p).toNat (tA B L p) 0 h1 r1 e1 a1 (fun _ => by rw [show (tA B L p - tA B L p).toNat = 0 by omega]; rfl) (Int.le_refl _) (by omega) (fun j j0 j1 => by omega)
        rw [← ee] at x3 w3 k3
        have tw : (if 7 < tE B L p - tA B L p then 99 else wC (hs B (tA B L p) (tE B L p - tA B L p).toNat)) = tW B L p := rfl
        rw [tw] at w3 k3
        refine ⟨h3, ?_, f1.tr f3, r1.of f3, x3, y3, ?_, ?_, ?_⟩
        · rw [bI_t l, if_neg n10]; exact g3
        · rw [k3, if_neg m, if_pos l']
          by_cases u : tW B L p = 99
          · rw [if_pos u, if_pos u]; rfl
          · rw [if_neg u, if_neg u]; rfl
        · rw [if_neg m, if_pos l']
          by_cases u : tW B L p = 99
          · rw [if_pos u]; intro x; omega
          · rw [if_neg u]; intro x; omega
        · intro _; exact w3
      · have l' : ¬ ltB B (tA B L p) = true := fun x => l (of_decide_eq_true x)
        rw [bI_f l, if_pos rfl, m_isDg, bind_some']
        by_cases d : 48 ≤ B (tA B L p) ∧ B (tA B L p) ≤ 57
        · have d' : dgB B (tA B L p) = true := decide_eq_true d
          have m : ¬ B (tA B L p) = 59 := by omega
          have ee : tE B L p = rn (dgB B) L (tA B L p) := by unfold tE; rw [if_pos q, if_neg m, if_neg l', if_pos d']
          obtain ⟨f3, r3⟩ := r1.w (i := 6) 0 (by omega) (by omega)
          obtain ⟨h4, g4, f4, x4, y4, z4, v4⟩ := l_mdig (a := tA B L p) (by omega) (L - tA B L p).toNat (tA B L p) (mW h1 124 6 0) r3 (by rw [mR_ni (by decide)]; exact e1) (by rw [mR_ni (by decide)]; exact a1) (fun _ => by rw [mR_same, show (tA B L p - tA B L p).toNat = 0 by omega]; rfl) (Int.le_refl _) (by omega) (fun j j0 j1 => by omega)
          rw [← ee] at x4 z4 v4
          refine ⟨h4, ?_, (f1.tr f3).tr f4, r3.of f4, x4, y4, ?_, ?_, ?_⟩
          · rw [bI_t d, if_neg n10]
            dsimp only
            rw [if_pos (rmo r1), hb_eq]
            exact g4
          · rw [z4, if_neg m, if_neg l', if_pos d']
            by_cases u : 4 < tE B L p - tA B L p
            · rw [if_pos u]; rfl
            · rw [if_neg u]; rfl
          · rw [if_neg m, if_neg l', if_pos d']
            by_cases u : 4 < tE B L p - tA B L p
            · rw [if_pos u]; intro x; omega
            · rw [if_neg u]; intro _; exact v4 (by omega)
          · rw [if_neg m, if_neg l', if_pos d']
            by_cases u : 4 < tE B L p - tA B L p
            · rw [if_pos u]; intro x; omega
            · rw [if_neg u]; intro x; omega
        · have d' : ¬ dgB B (tA B L p) = true := fun x => d (of_decide_eq_true x)
          obtain ⟨f3, r3⟩ := r1.w (i := 3) (tA B L p + 1) (by omega) (by omega)
          rw [bI_f d, if_pos rfl]
          dsimp only
          rw [if_pos (rmo r1), if_pos (rmo r1), e1, hb_eq, w32_id (x := tA B L p + 1) (by omega) (by omega)]
          by_cases m : B (tA B L p) = 59
          · have ee : tE B L p = tA B L p + 1 := by unfold tE; rw [if_pos q, if_pos m]
            obtain ⟨f4, r4⟩ := r3.w (i := 5) 2 (by omega) (by omega)
            rw [if_pos m, if_pos (rmo r3), hb_eq, if_pos m]
            exact ⟨_, rfl, (f1.tr f3).tr f4, r4, by rw [mR_ni (by decide), mR_same, ee], by rw [mR_ni (by decide), mR_ni (by decide)]; exact a1, by rw [mR_same]; rfl, fun x => by omega, fun x => by omega⟩
          · have ee : tE B L p = tA B L p + 1 := by unfold tE; rw [if_pos q, if_neg m, if_neg l', if_neg d']
            obtain ⟨f4, r4⟩ := r3.w (i := 5) 4 (by omega) (by omega)
            rw [if_neg m, if_pos (rmo r3), hb_eq, if_neg m, if_neg l', if_neg d']
            exact ⟨_, rfl, (f1.tr f3).tr f4, r4, by rw [mR_ni (by decide), mR_same, ee], by rw [mR_ni (by decide), mR_ni (by decide)]; exact a1, by rw [mR_same]; rfl, fun x => by omega, fun x => by omega⟩
    · have ee : tE B L p = tA B L p := by unfold tE; rw [if_neg q]
      obtain ⟨f3, r3⟩ := r1.w (i := 5) 0 (by omega) (by omega)
      rw [if_neg q, if_pos (show (-1 : Int) < 0 by decide), if_pos (rmo r1), hb_eq, if_neg q]
      exact ⟨_, rfl, f1.tr f3, r3, by rw [mR_ni (by decide), e1, ee], by rw [mR_ni (by decide)]; exact a1, by rw [mR_same]; rfl, fun x => by omega, fun x => by omega⟩
  intro n
  induction n with
  | zero =>
    intro q h r e q0 hq t
    rw [rn_f (by omega)] at t
    exact fin h r (e.trans t)
  | succ n ih =>
    intro q h r e q0 hq t
    have lb := r.2.2.1.1
    by_cases z : B q = 10 ∨ B q = 32
    · rw [rn_t (by omega) (decide_eq_true z)] at t
      obtain ⟨f1, r1⟩ := r.w (i := 3) (q + 1) (by omega) (by omega)
      obtain ⟨h2, g2, f2, a2⟩ := ih (q + 1) _ r1 (mR_same _ _ _ _) (by omega) (by omega) t
      refine ⟨h2, ?_, f1.tr f2, a2⟩
      rw [E_Mo_advance_0, if_pos (rmo r), if_pos (rmo r), e, m_byte r (by omega), bind_some', if_pos (show q < L by omega)]
      dsimp only
      by_cases y : B q = 10
      · rw [if_pos y, if_pos (rmo r), if_pos (rmo r), e, hb_eq, w32_id (x := q + 1) (by omega) (by omega)]
        exact g2
      · rw [if_neg y, if_pos (rmo r), if_pos (rmo r), e, m_byte r (by omega), bind_some', if_pos (show q < L by omega)]
        dsimp only
        rw [if_pos (show B q = 32 by omega), if_pos (rmo r), if_pos (rmo r), e, hb_eq, w32_id (x := q + 1) (by omega) (by omega)]
        exact g2
    · rw [rn_f (fun x => z (of_decide_eq_true x.2))] at t
      exact fin h r (e.trans t)
theorem m_adv {h : Hp} {B : Int → Int} {L p : Int} (r : RMB h B L) (e : mR h 124 3 = p) (p0 : 0 ≤ p) (p1 : p ≤ L) : ∃ h', C_Mo_advance 124 h = some (0, h') ∧ Fr pAd h h' ∧ RM h' B L p := by
  rw [E_Mo_advance]
  exact l_mws p0 p1 (L - p).toNat p h r e (Int.le_refl _) (by omega) rfl
