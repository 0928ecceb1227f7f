/-! A sky read; the reference's half. -/
def RowK (h : Hp) (s : Int × Int × Int) (V : Int → Int) : Prop := (s.2.1 = 0 → ∀ i, 0 ≤ i → i < 18 → mR h 127 i = V i) ∧ 0 ≤ mR h 127 0 ∧ mR h 127 0 ≤ s.1
theorem n_set {h h2 : Hp} {B : Int → Int} {L : Int} {s : Int × Int × Int} {V : Int → Int} (w : RowK h s V) (f2 : Fr pMt h h2) (o : SO B L s) (t : tK B L s.1 ≠ 0) (r2 : MR h2 B L (adv B L s)) {j lo hi : Int} (j0 : 1 ≤ j ∧ j ≤ 5) : ∃ x h5 h7, C_Mo_numbered 124 lo hi h2 = some (x, h5) ∧ okS h5 127 102 j = true ∧ okF (mW h5 127 j x) 124 12 = true ∧ (if okF (mW h5 127 j x) 124 12 = true then (C_Mo_endsLine 124 (mW h5 127 j x)).bind (fun y => (some (0, y.2) : Res)) else none) = some (0, h7) ∧ Fr pMl h h7 ∧ MR h7 B L (skS B L s V j lo hi).1 ∧ RowK h7 (skS B L s V j lo hi).1 (skS B L s V j lo hi).2 := by
  have o1 := so_step o t
  have b := tE_b (B := B) o.1.1 o.1.2
  have pe : (adv B L s).1 = tE B L s.1 := rfl
  obtain ⟨x, h5, g5, f5, r5, n5, c5⟩ := m_num r2 o1 lo hi
  have o5 := so_num (lo := lo) (hi := hi) o1
  have p5 := num_p (lo := lo) (hi := hi) o1
  have p6 := ens_q o5
  have fw : Fr p127 h5 (mW h5 127 j x) := Fr.W h5 x rfl
  have r6 := r5.row fw
  obtain ⟨h7, g7, f7, r7⟩ := ens_i r6 o5
  have e7 : ∀ i, mR h7 127 i = if i = j then x else mR h 127 i := fun i => by
    rw [f7.2 127 i (by unfold pMt; omega), mR_mW]
    by_cases q : i = j
    · rw [if_pos ⟨rfl, q⟩, if_pos q]
    · rw [if_neg (fun z => q z.2), if_neg q, f5.2 127 i (by unfold pMt; omega), f2.2 127 i (by unfold pMt; omega)]
  have w0 := w.2
  refine ⟨x, h5, h7, g5, mrrS r5 (by omega) (by omega), mro r6, g7, (((f2.tr f5).to pMt_l).tr (fw.to p127_l)).tr (f7.to pMt_l), r7, fun z i i0 i1 => ?_, ?_⟩
  · have z' : (ens B L (num B L lo hi (adv B L s)).2).2.1 = 0 := z
    have a := n5 (ens_0 z')
    show mR h7 127 i = (if (ens B L (num B L lo hi (adv B L s)).2).2.1 = 0 then up1 V j (num B L lo hi (adv B L s)).1 else V) i
    rw [if_pos z', e7]
    by_cases q : i = j
    · rw [if_pos q, q, up1_s]; exact a.2.1
    · rw [if_neg q, up1_n q]; exact w.1 a.1 i i0 i1
  · rw [e7, if_neg (show ¬ (0 : Int) = j by omega)]
    show 0 ≤ mR h 127 0 ∧ mR h 127 0 ≤ (ens B L (num B L lo hi (adv B L s)).2).1
    omega
theorem p163 {h : Hp} {B : Int → Int} {L k : Int} {t : Int × Int × Int} (_ : MR h B L t) (k1 : k ≤ 43) : P_Mo_skyLine_163 124 k h = (if okF h 124 12 = true then (C_Mo_endsLine 124 h).bind (fun y => (some (0, y.2) : Res)) else none) := by
  rw [E_Mo_skyLine_163, if_neg (show ¬ k = 44 by omega), if_neg (show ¬ k = 45 by omega), if_neg (show ¬ k = 46 by omega)]
theorem n_light {h h3 : Hp} {B : Int → Int} {L : Int} {s : Int × Int × Int} {V : Int → Int} (w : RowK h s V) (f3 : Fr pMt h h3) (o : SO B L s) (L5 : L ≤ 500) (t : tK B L s.1 ≠ 0) (r3 : MR h3 B L (rm3 B L (V 0) 6 s)) : ∃ h', P_Mo_skyLine_53 124 41 h3 = some (0, h') ∧ Fr pMl h h' ∧ MR h' B L (skG B L s V).1 ∧ RowK h' (skG B L s V).1 (skG B L s V).2 := by
  have o3 := so_rm3 (a := V 0) (b := 6) o t
  have q3 := rm3_p (a := V 0) (b := 6) o t
  obtain ⟨x, h4, g4, f4, r4, n4, c4⟩ := m_num r3 o3 1 999
  have o4 : SO B L (kN1 B L s V).2 := so_num o3
  have q4 : (rm3 B L (V 0) 6 s).1 ≤ (kN1 B L s V).2.1 := num_p o3
  have r4' : MR h4 B L (kN1 B L s V).2 := r4
  obtain ⟨y, h5, g5, f5, r5, n5, c5⟩ := m_num r4' o4 1 9
  have o5 : SO B L (kN2 B L s V).2 := so_num o4
  have q5 : (kN1 B L s V).2.1 ≤ (kN2 B L s V).2.1 := num_p o4
  have q6 := ens_q o5
  have r5' : MR h5 B L (kN2 B L s V).2 := r5
  have ob := o.1
  have w0 := w.2
  clear c4 c5
  have rw5 : ∀ i, mR h5 127 i = mR h 127 i := fun i => by rw [f5.2 127 i (by unfold pMt; omega), f4.2 127 i (by unfold pMt; omega), f3.2 127 i (by unfold pMt; omega)]
  have F5 := (f3.tr f4).tr f5
  rw [E_Mo_skyLine_53, if_pos (mro r3), g4, bind_some', if_pos (mro r4), g5, bind_some', if_pos (mro r5'), mrr r5', if_pos (mrrA r5' (by decide) (by decide)), rw5]
  dsimp only
  have s42 : ¬ (41 : Int) = 42 := by decide
  have s43 : ¬ (41 : Int) = 43 := by decide
  show ∃ h', _ ∧ Fr pMl h h' ∧ MR h' B L (ens B L (kN2 B L s V).2) ∧ RowK h' (ens B L (kN2 B L s V).2) (if (ens B L (kN2 B L s V).2).2.1 = 0 then tLight V (kN1 B L s V).1 (kN2 B L s V).1 else V)
  by_cases l : mR h 127 0 < 6
  · have fa : Fr p127 h5 (mW h5 127 (6 + mR h 127 0) x) := Fr.W h5 x rfl
    have ra := r5'.row fa
    have fb : Fr p127 (mW h5 127 (6 + mR h 127 0) x) (mW (mW h5 127 (6 + mR h 127 0) x) 127 (12 + mR h 127 0) y) := Fr.W _ y rfl
    have rb := ra.row fb
    have fc : Fr p127 (mW (mW h5 127 (6 + mR h 127 0) x) 127 (12 + mR h 127 0) y) (mW (mW (mW h5 127 (6 + mR h 127 0) x) 127 (12 + mR h 127 0) y) 127 0 (mR h 127 0 + 1)) := Fr.W _ _ rfl
    have rc := rb.row fc
    have ea0 : mR (mW h5 127 (6 + mR h 127 0) x) 127 0 = mR h 127 0 := by rw [mR_ni (by omega), rw5]
    have eb0 : mR (mW (mW h5 127 (6 + mR h 127 0) x) 127 (12 + mR h 127 0) y) 127 0 = mR h 127 0 := by rw [mR_ni (by omega), ea0]
    have ec : ∀ i, mR (mW (mW (mW h5 127 (6 + mR h 127 0) x) 127 (12 + mR h 127 0) y) 127 0 (mR h 127 0 + 1)) 127 i = up1 (up1 (up1 (mR h 127) (6 + mR h 127 0) x) (12 + mR h 127 0) y) 0 (mR h 127 0 + 1) i := fun i => by
      rw [mR_mW]
      by_cases p1 : i = 0
      · rw [if_pos ⟨rfl, p1⟩, p1, up1_s]
      · rw [if_neg (fun z => p1 z.2), up1_n p1, mR_mW]
        by_cases p2 : i = 12 + mR h 127 0
        · rw [if_pos ⟨rfl, p2⟩, p2, up1_s]
        · rw [if_neg (fun z => p2 z.2), up1_n p2, mR_mW]
          by_cases p3 : i = 6 + mR h 127 0
          · rw [if_pos ⟨rfl, p3⟩, p3, up1_s]
          · rw [if_neg (fun z => p3 z.2), up1_n p3, rw5]
    rw [if_pos l, if_pos (mro r5'), if_pos (mro r5'), if_pos (mrrA r5' (by decide) (by decide)), w32_id (x := 6 + mR h 127 0) (by omega) (by omega), if_pos (mrrS r5' (by omega) (by omega)), hb_eq, if_pos (mro ra), if_pos (mro ra), mrr ra, if_pos (mrrA ra (by decide) (by decide)), ea0, w32_id (x := 12 + mR h 127 0) (by omega) (by omega), if_pos (mrrS ra (by omega) (by omega)), hb_eq, if_pos (mro rb), mrr rb, if_pos (mrrA rb (by decide) (by decide)), if_pos (mrrS rb (by decide) (by decide)), eb0, w32_id (x := mR h 127 0 + 1) (by omega) (by omega), hb_eq]
    have fabc := (fa.tr fb).tr fc
    generalize mW (mW (mW h5 127 (6 + mR h 127 0) x) 127 (12 + mR h 127 0) y) 127 0 (mR h 127 0 + 1) = hc at rc ec fabc ⊢
    obtain ⟨h9, g9, f9, r9⟩ := ens_i rc o5
    rw [if_neg s42, if_neg s43, p163 rc (by decide), g9]
    refine ⟨h9, rfl, ((F5.to pMt_l).tr (fabc.to p127_l)).tr (f9.to pMt_l), r9, fun z i i0 i1 => ?_, ?_⟩
    · obtain ⟨a1, a2, a3, a4, a5⟩ := n5 (ens_0 z)
      obtain ⟨d1, d2, d3, d4, d5⟩ := n4 a1
      have a2' : y = (kN2 B L s V).1 := a2
      have d2' : x = (kN1 B L s V).1 := d2
      have d6 := rm3_0 d1
      have v0 : mR h 127 0 = V 0 := w.1 d6.1 0 (by decide) (by decide)
      rw [if_pos z, f9.2 127 i (by unfold pMt; omega), ec, v0, ← a2', ← d2']
      unfold tLight
      by_cases p1 : i = 0
      · rw [p1, up1_s, up1_s]
      · rw [up1_n p1, up1_n p1]
        by_cases p2 : i = 12 + V 0
        · rw [p2, up1_s, up1_s]
        · rw [up1_n p2, up1_n p2]
          by_cases p3 : i = 6 + V 0
          · rw [p3, up1_s, up1_s]
          · rw [up1_n p3, up1_n p3]; exact w.1 d6.1 i i0 i1
    · rw [f9.2 127 0 (by unfold pMt; omega), ec, up1_s]
      omega
  · have fc : Fr p127 h5 (mW h5 127 0 (mR h 127 0 + 1)) := Fr.W _ _ rfl
    have rc := r5'.row fc
    have ec : mR (mW h5 127 0 (mR h 127 0 + 1)) 127 0 = mR h 127 0 + 1 := mR_same _ _ _ _
    rw [if_neg l, if_pos (mro r5'), if_pos (mrrA r5' (by decide) (by decide)), if_pos (mrrS r5' (by decide) (by decide)), w32_id (x := mR h 127 0 + 1) (by omega) (by omega), hb_eq]
    generalize mW h5 127 0 (mR h 127 0 + 1) = hc at rc ec fc ⊢
    obtain ⟨h9, g9, f9, r9⟩ := ens_i rc o5
    rw [if_neg s42, if_neg s43, p163 rc (by decide), g9]
    refine ⟨h9, rfl, ((F5.to pMt_l).tr (fc.to p127_l)).tr (f9.to pMt_l), r9, fun z i i0 i1 => ?_, ?_⟩
    · have d6 := rm3_0 (num_0 (num_0 (ens_0 z)).1).1
      have v0 : mR h 127 0 = V 0 := w.1 d6.1 0 (by decide) (by decide)
      omega
    · rw [f9.2 127 0 (by unfold pMt; omega), ec]
      omega
