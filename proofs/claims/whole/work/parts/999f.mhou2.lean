/-! A house read: leans and rules; the reference's half. -/
theorem n_lean {h h2 : Hp} {B : Int → Int} {L : Int} {s : Int × Int × Int} {V : Int → Int} (w : RowH h s V) (f2 : Fr pMt h h2) (o : SO B L s) (t : tK B L s.1 ≠ 0) (r2 : MR h2 B L (adv B L s)) (n2 : mR h2 124 9 = 1) : ∃ h', (if okF h2 124 12 = true then (C_Mo_numbered 124 0 5 h2).bind (fun x15 => (if okF x15.2 124 12 = true then (C_Mo_oneOf 124 24 25 x15.2).bind (fun x16 => (if x16.1 = 0 then (if okF x16.2 124 12 = true then (C_Mo_numbered 124 0 50 x16.2).bind (fun x23 => (if okF x23.2 124 12 = true then (if (mR x23.2 124 9) = 0 then (if okF x23.2 124 12 = true then (C_Mo_endsLine 124 x23.2).bind (fun x24 => (some (0, x24.2) : Res)) else none) else (if okF x23.2 124 12 = true then (if (1 : Int) = 0 then (if okS x23.2 (mR x23.2 124 10) 102 (w32 (4 + x15.1)) = true then hb (mW x23.2 (mR x23.2 124 10) (w32 (4 + x15.1)) (w32 (-x23.1))) (fun h25 => (if okF h25 124 12 = true then (C_Mo_endsLine 124 h25).bind (fun x26 => (some (0, x26.2))) else none)) else none) else (if okS x23.2 (mR x23.2 124 10) 102 (w32 (4 + x15.1)) = true then hb (mW x23.2 (mR x23.2 124 10) (w32 (4 + x15.1)) x23.1) (fun h27 => (if okF h27 124 12 = true then (C_Mo_endsLine 124 h27).bind (fun x28 => (some (0, x28.2))) else none)) else none)) else none)) else none)) else none) else (if okF x16.2 124 12 = true then (C_Mo_numbered 124 0 50 x16.2).bind (fun x17 => (if okF x17.2 124 12 = true then (if (mR x17.2 124 9) = 0 then (if okF x17.2 124 12 = true then (C_Mo_endsLine 124 x17.2).bind (fun x18 => (some (0, x18.2))) else none) else (if okF x17.2 124 12 = true then (if (0 : Int) = 0 then (if okS x17.2 (mR x17.2 124 10) 102 (w32 (4 + x15.1)) = true then hb (mW x17.2 (mR x17.2 124 10) (w32 (4 + x15.1)) (w32 (-x17.1))) (fun h19 => (if okF h19 124 12 = true then (C_Mo_endsLine 124 h19).bind (fun x20 => (some (0, x20.2))) else none)) else none) else (if okS x17.2 (mR x17.2 124 10) 102 (w32 (4 + x15.1)) = true then hb (mW x17.2 (mR x17.2 124 10) (w32 (4 + x15.1)) x17.1) (fun h21 => (if okF h21 124 12 = true then (C_Mo_endsLine 124 h21).bind (fun x22 => (some (0, x22.2))) else none)) else none)) else none)) else none)) else none))) else none)) else none) = some (0, h') ∧ Fr pMl h h' ∧ MR h' B L (hsN B L s V).1 ∧ RowH h' (hsN B L s V).1 (hsN B L s V).2 := by
  have o1 := so_step o t
  have b := tE_b (B := B) o.1.1 o.1.2
  have pe : (adv B L s).1 = tE B L s.1 := rfl
  obtain ⟨x, h5, g5, f5, r5, n5, c5⟩ := m_num r2 o1 0 5
  have x0 : 0 ≤ x ∧ x ≤ 5 := by omega
  clear c5
  have r5' : MR h5 B L (lN1 B L s).2 := r5
  have o5 : SO B L (lN1 B L s).2 := so_num o1
  have p5 : (adv B L s).1 ≤ (lN1 B L s).2.1 := num_p o1
  obtain ⟨h6, g6, f6, r6, n6⟩ := m_one r5' o5 24 25 (by decide)
  have g6' : C_Mo_oneOf 124 24 25 h5 = some ((lN2 B L s).1, h6) := g6
  have r6' : MR h6 B L (lN2 B L s).2 := r6
  have o6 : SO B L (lN2 B L s).2 := so_one o5
  have p6 : (lN1 B L s).2.1 ≤ (lN2 B L s).2.1 := one_p o5
  obtain ⟨y, h7, g7, f7, r7, n7, c7⟩ := m_num r6' o6 0 50
  have y0 : 0 ≤ y ∧ y ≤ 50 := by omega
  clear c7
  have r7' : MR h7 B L (lN3 B L s).2 := r7
  have o7 : SO B L (lN3 B L s).2 := so_num o6
  have p7 : (lN2 B L s).2.1 ≤ (lN3 B L s).2.1 := num_p o6
  have p8 := ens_q o7
  have F7 := ((f2.tr f5).tr f6).tr f7
  have w0 := w.2
  show ∃ h', _ ∧ Fr pMl h h' ∧ MR h' B L (ens B L (lN3 B L s).2) ∧ RowH h' (ens B L (lN3 B L s).2) (if (ens B L (lN3 B L s).2).2.1 = 0 then up1 V (4 + (lN1 B L s).1) (if (lN2 B L s).1 = 0 then (lN3 B L s).1 else -(lN3 B L s).1) else V)
  have good : (ens B L (lN3 B L s).2).2.1 = 0 → s.2.1 = 0 ∧ x = (lN1 B L s).1 ∧ y = (lN3 B L s).1 ∧ mR h7 124 9 = 1 := fun z => by
    obtain ⟨a1, a2, _, _, a5⟩ := n7 (ens_0 z)
    have b0 := one_0 a1
    obtain ⟨d1, d2, _, _, d5⟩ := n5 b0.1
    refine ⟨d1, d2, a2, ?_⟩
    rw [a5, n6, d5, n2]
    decide
  have plain : mR h7 124 9 = 0 → ∃ h', (if okF h7 124 12 = true then (C_Mo_endsLine 124 h7).bind (fun x => (some (0, x.2) : Res)) else none) = some (0, h') ∧ Fr pMl h h' ∧ MR h' B L (ens B L (lN3 B L s).2) ∧ RowH h' (ens B L (lN3 B L s).2) (if (ens B L (lN3 B L s).2).2.1 = 0 then up1 V (4 + (lN1 B L s).1) (if (lN2 B L s).1 = 0 then (lN3 B L s).1 else -(lN3 B L s).1) else V) := fun n9 => by
    obtain ⟨h9, g9, f9, r9⟩ := ens_i r7' o7
    refine ⟨h9, g9, (F7.tr f9).to pMt_l, r9, fun z => ?_, ?_⟩
    · have := (good z).2.2.2; omega
    · rw [f9.2 127 3 (by unfold pMt; omega), F7.2 127 3 (by unfold pMt; omega)]; omega
  have write : ∀ v : Int, ((ens B L (lN3 B L s).2).2.1 = 0 → v = if (lN2 B L s).1 = 0 then (lN3 B L s).1 else -(lN3 B L s).1) → ∃ h', (if okF (mW h7 127 (4 + x) v) 124 12 = true then (C_Mo_endsLine 124 (mW h7 127 (4 + x) v)).bind (fun x => (some (0, x.2) : Res)) else none) = some (0, h') ∧ Fr pMl h h' ∧ MR h' B L (ens B L (lN3 B L s).2) ∧ RowH h' (ens B L (lN3 B L s).2) (if (ens B L (lN3 B L s).2).2.1 = 0 then up1 V (4 + (lN1 B L s).1) (if (lN2 B L s).1 = 0 then (lN3 B L s).1 else -(lN3 B L s).1) else V) := fun v hv => by
    obtain ⟨h9, k9, g9, f9, r9, e9⟩ := n_put r7' o7 F7 (4 + x) v
    refine ⟨h9, g9, f9, r9, fun z i i0 i1 => ?_, ?_⟩
    · have gd := good z
      rw [if_pos z, e9, hv z, gd.2.1]
      by_cases q : i = 4 + (lN1 B L s).1
      · rw [if_pos q, q, up1_s]
      · rw [if_neg q, up1_n q]; exact w.1 gd.1 i i0 i1
    · rw [e9, if_neg (by omega)]; omega
  rw [if_pos (mro r2), g5, bind_some', if_pos (mro r5), g6', bind_some']
  dsimp only
  by_cases u : (lN2 B L s).1 = 0
  · rw [if_pos u, if_pos (mro r6'), g7, bind_some', if_pos (mro r7')]
    dsimp only
    by_cases n9 : mR h7 124 9 = 0
    · rw [if_pos n9]; exact plain n9
    · rw [if_neg n9, if_pos (mro r7'), if_neg (show ¬ (1 : Int) = 0 by decide), mrr r7', w32_id (x := 4 + x) (by omega) (by omega), if_pos (mrrS r7' (by omega) (by omega)), hb_eq]
      exact write y (fun z => by rw [if_pos u]; exact (good z).2.2.1)
  · rw [if_neg u, if_pos (mro r6'), g7, bind_some', if_pos (mro r7')]
    dsimp only
    by_cases n9 : mR h7 124 9 = 0
    · rw [if_pos n9]; exact plain n9
    · rw [if_neg n9, if_pos (mro r7'), if_pos rfl, mrr r7', w32_id (x := 4 + x) (by omega) (by omega), if_pos (mrrS r7' (by omega) (by omega)), hb_eq, w32_id (x := -y) (by omega) (by omega)]
      exact write (-y) (fun z => by rw [if_neg u, (good z).2.2.1])
theorem n_252 {h h5 : Hp} {B : Int → Int} {L : Int} {t : Int × Int × Int} (r5 : MR h5 B L t) (o5 : SO B L t) (f5 : Fr pMt h h5) (rb : 0 ≤ mR h 127 3 ∧ mR h 127 3 ≤ 500) (x y : Int) : ∃ h7, P_Mo_houseLine_252 124 x y h5 = some (0, h7) ∧ Fr pMl h h7 ∧ MR h7 B L (ens B L t) ∧ mR h7 127 3 = mR h 127 3 + 1 ∧ (mR h 127 3 < 8 → ∀ i, mR h7 127 i = tRule (mR h 127) x y i) := by
  have rw5 : ∀ i, mR h5 127 i = mR h 127 i := fun i => f5.2 127 i (by unfold pMt; omega)
  rw [E_Mo_houseLine_252, if_pos (mro r5), mrr r5, if_pos (mrrA r5 (by decide) (by decide)), rw5]
  by_cases l : mR h 127 3 < 8
  · have fa : Fr p127 h5 (mW h5 127 (10 + 2 * mR h 127 3) x) := Fr.W h5 x rfl
    have ra := r5.row fa
    have fb : Fr p127 (mW h5 127 (10 + 2 * mR h 127 3) x) (mW (mW h5 127 (10 + 2 * mR h 127 3) x) 127 (10 + 2 * mR h 127 3 + 1) y) := Fr.W _ y rfl
    have rbb := ra.row fb
    have fc : Fr p127 (mW (mW h5 127 (10 + 2 * mR h 127 3) x) 127 (10 + 2 * mR h 127 3 + 1) y) (mW (mW (mW h5 127 (10 + 2 * mR h 127 3) x) 127 (10 + 2 * mR h 127 3 + 1) y) 127 3 (mR h 127 3 + 1)) := Fr.W _ _ rfl
    have rc := rbb.row fc
    have ea : mR (mW h5 127 (10 + 2 * mR h 127 3) x) 127 3 = mR h 127 3 := by rw [mR_ni (by omega), rw5]
    have eb : mR (mW (mW h5 127 (10 + 2 * mR h 127 3) x) 127 (10 + 2 * mR h 127 3 + 1) y) 127 3 = mR h 127 3 := by rw [mR_ni (by omega), ea]
    have ec : ∀ i, mR (mW (mW (mW h5 127 (10 + 2 * mR h 127 3) x) 127 (10 + 2 * mR h 127 3 + 1) y) 127 3 (mR h 127 3 + 1)) 127 i = tRule (mR h 127) x y i := fun i => by
      unfold tRule
      rw [mR_mW]
      by_cases p1 : i = 3
      · rw [if_pos ⟨rfl, p1⟩, p1, up1_s]
      · rw [if_neg (fun z => p1 z.2), up1_n p1, mR_mW]
        by_cases p2 : i = 11 + 2 * mR h 127 3
        · rw [if_pos ⟨rfl, by omega⟩, p2, up1_s]
        · rw [if_neg (fun z => p2 (by omega)), up1_n p2, mR_mW]
          by_cases p3 : i = 10 + 2 * mR h 127 3
          · rw [if_pos ⟨rfl, p3⟩, p3, up1_s]
          · rw [if_neg (fun z => p3 z.2), up1_n p3, rw5]
    rw [if_pos l, if_pos (mro r5), if_pos (mro r5), if_pos (mrrA r5 (by decide) (by decide)), w32_id (x := 2 * mR h 127 3) (by omega) (by omega), w32_id (x := 10 + 2 * mR h 127 3) (by omega) (by omega), if_pos (mrrS r5 (by omega) (by omega)), hb_eq, if_pos (mro ra), if_pos (mro ra), mrr ra, if_pos (mrrA ra (by decide) (by decide)), ea, w32_id (x := 2 * mR h 127 3) (by omega) (by omega), w32_id (x := 10 + 2 * mR h 127 3) (by omega) (by omega), w32_id (x := 10 + 2 * mR h 127 3 + 1) (by omega) (by omega), if_pos (mrrS ra (by omega) (by omega)), hb_eq, if_pos (mro rbb), mrr rbb, if_pos (mrrA rbb (by decide) (by decide)), if_pos (mrrS rbb (by decide) (by decide)), eb, w32_id (x := mR h 127 3 + 1) (by omega) (by omega), hb_eq]
    have fabc := (fa.tr fb).tr fc
    generalize mW (mW (mW h5 127 (10 + 2 * mR h 127 3) x) 127 (10 + 2 * mR h 127 3 + 1) y) 127 3 (mR h 127 3 + 1) = hc at rc ec fabc ⊢
    obtain ⟨h9, g9, f9, r9⟩ := ens_i rc o5
    have e9 : ∀ i, mR h9 127 i = tRule (mR h 127) x y i := fun i => by rw [f9.2 127 i (by unfold pMt; omega), ec]
    exact ⟨h9, g9, ((f5.to pMt_l).tr (fabc.to p127_l)).tr (f9.to pMt_l), r9, by rw [e9]; exact up1_s .., fun _ => e9⟩
  · have fc : Fr p127 h5 (mW h5 127 3 (mR h 127 3 + 1)) := Fr.W _ _ rfl
    have rc := r5.row fc
    have ec : mR (mW h5 127 3 (mR h 127 3 + 1)) 127 3 = mR h 127 3 + 1 := mR_same _ _ _ _
    rw [if_neg l, if_pos (mro r5), if_pos (mrrA r5 (by decide) (by decide)), if_pos (mrrS r5 (by decide) (by decide)), w32_id (x := mR h 127 3 + 1) (by omega) (by omega), hb_eq]
    generalize mW h5 127 3 (mR h 127 3 + 1) = hc at rc ec fc ⊢
    obtain ⟨h9, g9, f9, r9⟩ := ens_i rc o5
    exact ⟨h9, g9, ((f5.to pMt_l).tr (fc.to p127_l)).tr (f9.to pMt_l), r9, by rw [f9.2 127 3 (by unfold pMt; omega), ec], fun x => absurd x l⟩
