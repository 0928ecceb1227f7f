/-! A house read: the reference's line and loop. -/
noncomputable def kRu (h : Hp) : Res := if okF h 124 12 = true then (C_Mo_oneOf 124 31 35 h).bind (fun x3 => (if x3.1 = 4 then (if okF x3.2 124 12 = true then (C_Mo_numbered 124 1 9 x3.2).bind (fun x5 => (P_Mo_houseLine_252 124 x3.1 x5.1 x5.2)) else none) else (if okF x3.2 124 12 = true then (C_Mo_numbered 124 0 9999 x3.2).bind (fun x4 => (P_Mo_houseLine_252 124 x3.1 x4.1 x4.2)) else none))) else none
theorem n_rule {h h3 : Hp} {B : Int → Int} {L : Int} {s : Int × Int × Int} {V : Int → Int} (w : RowH h s V) (f3 : Fr pMt h h3) (o : SO B L s) (L5 : L ≤ 500) (t : tK B L s.1 ≠ 0) (r3 : MR h3 B L (rm3 B L (V 3) 8 s)) : ∃ h', kRu h3 = some (0, h') ∧ Fr pMl h h' ∧ MR h' B L (hsR B L s V).1 ∧ RowH h' (hsR B L s V).1 (hsR B L s V).2 := by
  have o3 := so_rm3 (a := V 3) (b := 8) o t
  have q3 := rm3_p (a := V 3) (b := 8) o t
  obtain ⟨h4, g4, f4, r4, n4⟩ := m_one r3 o3 31 35 (by decide)
  have g4' : C_Mo_oneOf 124 31 35 h3 = some ((uN1 B L s V).1, h4) := g4
  have r4' : MR h4 B L (uN1 B L s V).2 := r4
  have o4 : SO B L (uN1 B L s V).2 := so_one o3
  have q4 : (rm3 B L (V 3) 8 s).1 ≤ (uN1 B L s V).2.1 := one_p o3
  have w0 := w.2
  have ob := o.1
  have fin : ∀ lo hi : Int, uN2 B L s V = num B L lo hi (uN1 B L s V).2 → ∃ h', (if okF h4 124 12 = true then (C_Mo_numbered 124 lo hi h4).bind (fun x5 => (P_Mo_houseLine_252 124 (uN1 B L s V).1 x5.1 x5.2)) else none) = some (0, h') ∧ Fr pMl h h' ∧ MR h' B L (hsR B L s V).1 ∧ RowH h' (hsR B L s V).1 (hsR B L s V).2 := fun lo hi e => by
    obtain ⟨y, h5, g5, f5, r5, n5, c5⟩ := m_num r4' o4 lo hi
    rw [← e] at r5 n5
    have o5 : SO B L (uN2 B L s V).2 := by rw [e]; exact so_num o4
    have q5 : (uN1 B L s V).2.1 ≤ (uN2 B L s V).2.1 := by rw [e]; exact num_p o4
    have q6 := ens_q o5
    clear c5
    obtain ⟨h7, g7, f7, r7, c7, e7⟩ := n_252 r5 o5 ((f3.tr f4).tr f5) ⟨w0.1, by omega⟩ (uN1 B L s V).1 y
    rw [if_pos (mro r4'), g5, bind_some']
    show ∃ h', _ ∧ Fr pMl h h' ∧ MR h' B L (ens B L (uN2 B L s V).2) ∧ RowH h' (ens B L (uN2 B L s V).2) (if (ens B L (uN2 B L s V).2).2.1 = 0 then tRule V (uN1 B L s V).1 (uN2 B L s V).1 else V)
    refine ⟨h7, g7, f7, r7, fun z i i0 i1 => ?_, ?_⟩
    · obtain ⟨a1, a2, _⟩ := n5 (ens_0 z)
      have a3 := one_0 a1
      have a4 := rm3_0 a3.1
      have v3 : mR h 127 3 = V 3 := w.1 a4.1 3 (by decide) (by decide)
      rw [if_pos z, e7 (by rw [v3]; exact a4.2), a2]
      unfold tRule
      rw [v3]
      by_cases p1 : i = 3
      · rw [p1, up1_s, up1_s]
      · rw [up1_n p1, up1_n p1]
        by_cases p2 : i = 11 + 2 * V 3
        · rw [p2, up1_s, up1_s]
        · rw [up1_n p2, up1_n p2]
          by_cases p3 : i = 10 + 2 * V 3
          · rw [p3, up1_s, up1_s]
          · rw [up1_n p3, up1_n p3]; exact w.1 a4.1 i i0 i1
    · rw [c7]; omega
  unfold kRu
  rw [if_pos (mro r3), g4', bind_some']
  dsimp only
  by_cases y : (uN1 B L s V).1 = 4
  · rw [if_pos y]
    exact fin 1 9 (by unfold uN2; rw [if_pos y])
  · rw [if_neg y]
    exact fin 0 9999 (by unfold uN2; rw [if_neg y])
theorem n_hl {h : Hp} {B : Int → Int} {L : Int} {s : Int × Int × Int} {V : Int → Int} (r : MR h B L s) (o : SO B L s) (f : s.2.1 ≠ 1) (t : tK B L s.1 ≠ 0) (w : RowH h s V) : ∃ h', C_Mo_houseLine 124 h = some (0, h') ∧ Fr pMl h h' ∧ MR h' B L (hsL B L s V).1 ∧ RowH h' (hsL B L s V).1 (hsL B L s V).2 := by
  have L5 := r.1.1.2.2.1.1.2
  have tb := tW_b B L s.1
  by_cases k : tK B L s.1 = 3 ∧ 11 ≤ tW B L s.1 ∧ tW B L s.1 ≤ 15
  · obtain ⟨h1, g1, e8, k1, f1, r1⟩ := m_head r o f k.1 (lo := 11) (hi := 15) (by decide) k.2
    obtain ⟨f2, r2⟩ := m_nine r1 1
    have n2 : mR (mW h1 124 9 1) 124 9 = 1 := mR_same _ _ _ _
    rw [E_Mo_houseLine, if_pos (mro r), if_pos (mro r), g1, bind_some', r.1.2.2.1]
    dsimp only
    rw [if_pos k1, e8, if_pos rfl, if_pos k1, hb_eq, w32_id (x := tW B L s.1 - 11 + 11) (by omega) (by omega), show tW B L s.1 - 11 + 11 = tW B L s.1 by omega]
    have f12 := f1.tr f2
    generalize mW h1 124 9 1 = h2 at r2 n2 f12 ⊢
    have rw2 : ∀ i, mR h2 127 i = mR h 127 i := fun i => f12.2 127 i (by unfold pMt; omega)
    have er : rm3 B L (mR h2 127 3) 8 s = rm3 B L (V 3) 8 s := by
      by_cases z : s.2.1 = 0
      · rw [rw2, w.1 z 3 (by decide) (by decide)]
      · rw [rm3_nf z, rm3_nf z]
    unfold hsL
    rw [if_pos k.1]
    by_cases w1 : tW B L s.1 = 11
    · rw [if_pos w1, if_pos w1]
      exact n_use w f12 o t r2 n2 (Or.inl rfl)
    rw [if_neg w1, if_neg w1]
    by_cases w2 : tW B L s.1 = 12
    · rw [if_pos w2, if_pos w2]
      exact n_way w f12 o t r2
    rw [if_neg w2, if_neg w2]
    by_cases w3 : tW B L s.1 = 13
    · rw [if_pos w3, if_pos w3]
      exact n_lean w f12 o t r2 n2
    rw [if_neg w3, if_neg w3]
    by_cases w4 : tW B L s.1 = 14
    · rw [if_pos w4, if_pos w4]
      exact n_use w f12 o t r2 n2 (Or.inr rfl)
    rw [if_neg w4, if_neg w4]
    have w5 : tW B L s.1 = 15 := by omega
    rw [if_pos w5]
    obtain ⟨h3, g3, f3, r3, n3⟩ := m_room r2 o (a := mR h2 127 3) (b := 8) n2 (K := kRu)
    rw [er] at r3
    obtain ⟨h4, g4, f4, r4, v4⟩ := n_rule w (f12.tr f3) o L5 t r3
    rw [if_pos (mro r2), mrr r2, if_pos (mrrA r2 (by decide) (by decide))]
    exact ⟨h4, g3.trans g4, f4, r4, v4⟩
  · obtain ⟨h1, g1, f1, r1, n1⟩ := m_one r o 11 15 (by decide)
    have e : one B L 11 15 s = (0, brk B L s) := by unfold one; rw [if_neg f, if_neg k]
    have ec : hsL B L s V = (brk B L s, V) := by
      unfold hsL
      by_cases y : tK B L s.1 = 3
      · have y2 : ¬ (11 ≤ tW B L s.1 ∧ tW B L s.1 ≤ 15) := fun x => k ⟨y, x⟩
        rw [if_pos y, if_neg (by omega), if_neg (by omega), if_neg (by omega), if_neg (by omega), if_neg (by omega)]
      · rw [if_neg y]
    rw [e] at g1 r1
    have e8 : ¬ mR h1 124 8 = 0 := by rw [r1.2.2.2, if_pos brk_1]; decide
    have ep : (brk B L s).1 = s.1 := by unfold brk; rw [if_neg f]
    rw [E_Mo_houseLine, if_pos (mro r), if_pos (mro r), g1, bind_some', ec]
    dsimp only
    rw [if_pos (mro r1), if_neg e8]
    refine ⟨h1, rfl, f1.to pMt_l, r1, fun z => ?_, ?_⟩
    · have : (brk B L s).2.1 = 0 := z
      rw [brk_1] at this
      omega
    · rw [f1.2 127 3 (by unfold pMt; omega)]
      show 0 ≤ mR h 127 3 ∧ mR h 127 3 ≤ (brk B L s).1
      rw [ep]
      exact w.2
