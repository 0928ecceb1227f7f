/-! A house read; the reference's half. -/
def RowH (h : Hp) (s : Int × Int × Int) (V : Int → Int) : Prop := (s.2.1 = 0 → ∀ i, 0 ≤ i → i < 26 → mR h 127 i = V i) ∧ 0 ≤ mR h 127 3 ∧ mR h 127 3 ≤ s.1
theorem one_p {B : Int → Int} {L lo hi : Int} {s : Int × Int × Int} (o : SO B L s) : s.1 ≤ (one B L lo hi s).2.1 := by
  have b := tE_b (B := B) o.1.1 o.1.2
  unfold one
  by_cases z : s.2.1 = 1
  · rw [if_pos z]; exact Int.le_refl _
  · rw [if_neg z]
    by_cases y : tK B L s.1 = 3 ∧ lo ≤ tW B L s.1 ∧ tW B L s.1 ≤ hi
    · rw [if_pos y]; show s.1 ≤ tE B L s.1; omega
    · rw [if_neg y]; show s.1 ≤ (brk B L s).1; unfold brk; rw [if_neg z]; exact Int.le_refl _
/-- one cell of the row written, then the end of the line -/
theorem n_put {h h5 : Hp} {B : Int → Int} {L : Int} {t : Int × Int × Int} (r5 : MR h5 B L t) (o5 : SO B L t) (f5 : Fr pMt h h5) (j v : Int) : ∃ h7, okF (mW h5 127 j v) 124 12 = true ∧ (if okF (mW h5 127 j v) 124 12 = true then (C_Mo_endsLine 124 (mW h5 127 j v)).bind (fun y => (some (0, y.2) : Res)) else none) = some (0, h7) ∧ Fr pMl h h7 ∧ MR h7 B L (ens B L t) ∧ ∀ i, mR h7 127 i = if i = j then v else mR h 127 i := by
  have fw : Fr p127 h5 (mW h5 127 j v) := Fr.W h5 v rfl
  have r6 := r5.row fw
  obtain ⟨h7, g7, f7, r7⟩ := ens_i r6 o5
  refine ⟨h7, mro r6, g7, ((f5.to pMt_l).tr (fw.to p127_l)).tr (f7.to pMt_l), r7, fun i => ?_⟩
  rw [f7.2 127 i (by unfold pMt; omega), mR_mW]
  by_cases q : i = j
  · rw [if_pos ⟨rfl, q⟩, if_pos q]
  · rw [if_neg (fun z => q z.2), if_neg q, f5.2 127 i (by unfold pMt; omega)]
/-- uses and casts -/
theorem n_use {h h2 : Hp} {B : Int → Int} {L : Int} {s : Int × Int × Int} {V : Int → Int} (w : RowH h s V) (f2 : Fr pMt h h2) (o : SO B L s) (t : tK B L s.1 ≠ 0) (r2 : MR h2 B L (adv B L s)) (n2 : mR h2 124 9 = 1) {j hi : Int} (j0 : j = 0 ∨ j = 2) : ∃ h', (if okF h2 124 12 = true then (C_Mo_numbered 124 0 hi h2).bind (fun x32 => (if okF x32.2 124 12 = true then (if okA x32.2 (mR x32.2 124 10) 102 j = true then (if okF x32.2 124 12 = true then (if (mR x32.2 124 9) = 0 then (if okS x32.2 (mR x32.2 124 10) 102 j = true then hb (mW x32.2 (mR x32.2 124 10) j (i_or (mR x32.2 (mR x32.2 124 10) j) 0)) (fun h33 => (if okF h33 124 12 = true then (C_Mo_endsLine 124 h33).bind (fun x34 => (some (0, x34.2) : Res)) else none)) else none) else (if okS x32.2 (mR x32.2 124 10) 102 j = true then hb (mW x32.2 (mR x32.2 124 10) j (i_or (mR x32.2 (mR x32.2 124 10) j) (i_shl 1 x32.1))) (fun h35 => (if okF h35 124 12 = true then (C_Mo_endsLine 124 h35).bind (fun x36 => (some (0, x36.2))) else none)) else none)) else none) else none) else none)) else none) = some (0, h') ∧ Fr pMl h h' ∧ MR h' B L (hsU B L s V j hi).1 ∧ RowH h' (hsU B L s V j hi).1 (hsU B L s V j hi).2 := by
  have o1 := so_step o t
  have b := tE_b (B := B) o.1.1 o.1.2
  have pe : (adv B L s).1 = tE B L s.1 := rfl
  obtain ⟨x, h5, g5, f5, r5, n5, c5⟩ := m_num r2 o1 0 hi
  have o5 := so_num (lo := 0) (hi := hi) o1
  have p5 := num_p (lo := 0) (hi := hi) o1
  have p6 := ens_q o5
  have F5 := f2.tr f5
  have w0 := w.2
  clear c5
  rw [if_pos (mro r2), g5, bind_some', if_pos (mro r5), mrr r5, if_pos (mrrA r5 (by omega) (by omega)), if_pos (mro r5)]
  dsimp only
  show ∃ h', _ ∧ Fr pMl h h' ∧ MR h' B L (ens B L (num B L 0 hi (adv B L s)).2) ∧ RowH h' (ens B L (num B L 0 hi (adv B L s)).2) (if (ens B L (num B L 0 hi (adv B L s)).2).2.1 = 0 then up1 V j (i_or (V j) (i_shl 1 (num B L 0 hi (adv B L s)).1)) else V)
  by_cases n9 : mR h5 124 9 = 0
  · obtain ⟨h7, k7, g7, f7, r7, e7⟩ := n_put r5 o5 F5 j (i_or (mR h5 127 j) 0)
    rw [if_pos n9, if_pos (mrrS r5 (by omega) (by omega)), hb_eq, g7]
    refine ⟨h7, rfl, f7, r7, fun z => ?_, ?_⟩
    · have a := (n5 (ens_0 z)).2.2.2.2
      rw [n2, if_neg (by decide)] at a
      omega
    · rw [e7, if_neg (show ¬ (3 : Int) = j by omega)]; omega
  · obtain ⟨h7, k7, g7, f7, r7, e7⟩ := n_put r5 o5 F5 j (i_or (mR h5 127 j) (i_shl 1 x))
    rw [if_neg n9, if_pos (mrrS r5 (by omega) (by omega)), hb_eq, g7]
    refine ⟨h7, rfl, f7, r7, fun z i i0 i1 => ?_, ?_⟩
    · have a := n5 (ens_0 z)
      have vj : mR h5 127 j = V j := by rw [F5.2 127 j (by unfold pMt; omega)]; exact w.1 a.1 j (by omega) (by omega)
      rw [if_pos z, e7, vj, a.2.1]
      by_cases q : i = j
      · rw [if_pos q, q, up1_s]
      · rw [if_neg q, up1_n q]; exact w.1 a.1 i i0 i1
    · rw [e7, if_neg (show ¬ (3 : Int) = j by omega)]; omega
/-- the way -/
theorem n_way {h h2 : Hp} {B : Int → Int} {L : Int} {s : Int × Int × Int} {V : Int → Int} (w : RowH h s V) (f2 : Fr pMt h h2) (o : SO B L s) (t : tK B L s.1 ≠ 0) (r2 : MR h2 B L (adv B L s)) : ∃ h', (if okF h2 124 12 = true then (if okF h2 124 12 = true then (C_Mo_oneOf 124 21 23 h2).bind (fun x29 => (if okS x29.2 (mR h2 124 10) 102 1 = true then hb (mW x29.2 (mR h2 124 10) 1 x29.1) (fun h30 => (if okF h30 124 12 = true then (C_Mo_endsLine 124 h30).bind (fun x31 => (some (0, x31.2) : Res)) else none)) else none)) else none) else none) = some (0, h') ∧ Fr pMl h h' ∧ MR h' B L (hsW B L s V).1 ∧ RowH h' (hsW B L s V).1 (hsW B L s V).2 := by
  have o1 := so_step o t
  have b := tE_b (B := B) o.1.1 o.1.2
  have pe : (adv B L s).1 = tE B L s.1 := rfl
  obtain ⟨h5, g5, f5, r5, n5⟩ := m_one r2 o1 21 23 (by decide)
  have o5 := so_one (lo := 21) (hi := 23) o1
  have p5 := one_p (lo := 21) (hi := 23) o1
  have p6 := ens_q o5
  have F5 := f2.tr f5
  have w0 := w.2
  obtain ⟨h7, k7, g7, f7, r7, e7⟩ := n_put r5 o5 F5 1 (one B L 21 23 (adv B L s)).1
  rw [if_pos (mro r2), if_pos (mro r2), g5, bind_some', mrr r2, if_pos (mrrS r5 (by decide) (by decide)), hb_eq, g7]
  show ∃ h', _ ∧ Fr pMl h h' ∧ MR h' B L (ens B L (one B L 21 23 (adv B L s)).2) ∧ RowH h' (ens B L (one B L 21 23 (adv B L s)).2) (if (ens B L (one B L 21 23 (adv B L s)).2).2.1 = 0 then up1 V 1 (one B L 21 23 (adv B L s)).1 else V)
  refine ⟨h7, rfl, f7, r7, fun z i i0 i1 => ?_, ?_⟩
  · have a := one_0 (ens_0 z)
    rw [if_pos z, e7]
    by_cases q : i = 1
    · rw [if_pos q, q, up1_s]
    · rw [if_neg q, up1_n q]; exact w.1 a.1 i i0 i1
  · rw [e7, if_neg (by decide)]; omega
