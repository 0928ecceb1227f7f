/-! A catalogue read; the reference's half. -/
noncomputable def tlX (c off cap v : Int) (h : Hp) : Res := (if okF h 124 12 = true then (if okA h (mR h 124 10) 102 c = true then (if (mR h (mR h 124 10) c) < cap then (if okF h 124 12 = true then (if okF h 124 12 = true then (if okA h (mR h 124 10) 102 c = true then (if okS h (mR h 124 10) 102 (w32 (off + (mR h (mR h 124 10) c))) = true then hb (mW h (mR h 124 10) (w32 (off + (mR h (mR h 124 10) c))) v) (fun h40 => (if okF h40 124 12 = true then (if okA h40 (mR h40 124 10) 102 c = true then (if okS h40 (mR h40 124 10) 102 c = true then hb (mW h40 (mR h40 124 10) c (w32 ((mR h40 (mR h40 124 10) c) + 1))) (fun h41 => (if okF h41 124 12 = true then (C_Mo_endsLine 124 h41).bind (fun x42 => (some (0, x42.2) : Res)) else none)) else none) else none) else none)) else none) else none) else none) else none) else (if okF h 124 12 = true then (if okA h (mR h 124 10) 102 c = true then (if okS h (mR h 124 10) 102 c = true then hb (mW h (mR h 124 10) c (w32 ((mR h (mR h 124 10) c) + 1))) (fun h38 => (if okF h38 124 12 = true then (C_Mo_endsLine 124 h38).bind (fun x39 => (some (0, x39.2))) else none)) else none) else none) else none)) else none) else none)
theorem ens_q {B : Int → Int} {L : Int} {s : Int × Int × Int} (o : SO B L s) : s.1 ≤ (ens B L s).1 := by
  have b := tE_b (B := B) o.1.1 o.1.2
  unfold ens
  by_cases z : s.2.1 = 1
  · rw [if_pos z]; exact Int.le_refl _
  · rw [if_neg z]
    by_cases y : tK B L s.1 = 2
    · rw [if_pos y]; show s.1 ≤ tE B L s.1; omega
    · rw [if_neg y]; unfold brk; rw [if_neg z]; exact Int.le_refl _
theorem Row.of {h h' : Hp} {s : Int × Int × Int} {V : Int → Int} (w : Row h s V) (f : Fr pMt h h') : Row h' s V := by
  have e : ∀ i, mR h' 127 i = mR h 127 i := fun i => f.2 127 i (by unfold pMt; omega)
  exact ⟨fun x i i0 i1 => by rw [e]; exact w.1 x i i0 i1, fun c c0 c1 => by rw [e]; exact w.2 c c0 c1⟩
theorem m_add {h h3 : Hp} {B : Int → Int} {L : Int} {s : Int × Int × Int} {V : Int → Int} (w : Row h s V) (f3 : Fr pMt h h3) (o : SO B L s) (L5 : L ≤ 500) (t : tK B L s.1 ≠ 0) {c off cap lo hi hi' : Int} (r3 : MR h3 B L (rm3 B L (V c) cap s)) (c0 : 0 ≤ c ∧ c ≤ 2) (f0 : 0 ≤ off ∧ off + cap ≤ 330 ∧ 3 ≤ off) (hh : s.2.1 = 0 → hi' = hi) {v val : Int → Int} (hv : ∀ x, lo ≤ x → x ≤ hi → v x = val x) : ∃ h', (C_Mo_numbered 124 lo hi' h3).bind (fun x => tlX c off cap (v x.1) x.2) = some (0, h') ∧ Fr pMl h h' ∧ MR h' B L (ens B L (num B L lo hi (rm3 B L (V c) cap s)).2) ∧ Row h' (ens B L (num B L lo hi (rm3 B L (V c) cap s)).2) (if (ens B L (num B L lo hi (rm3 B L (V c) cap s)).2).2.1 = 0 then up1 (up1 V (off + V c) (val (num B L lo hi (rm3 B L (V c) cap s)).1)) c (V c + 1) else V) := by
  have o1 := so_rm3 (a := V c) (b := cap) o t
  have p1 := rm3_p (a := V c) (b := cap) o t
  have o2 := so_num (lo := lo) (hi := hi) o1
  have p2 := num_p (lo := lo) (hi := hi) o1
  have p3 := ens_q o2
  obtain ⟨x, h4, g4, f4, r4, n4, b4⟩ := m_num r3 o1 lo hi'
  have e2 : (num B L lo hi' (rm3 B L (V c) cap s)).2 = (num B L lo hi (rm3 B L (V c) cap s)).2 := by
    by_cases z : (rm3 B L (V c) cap s).2.1 = 0
    · rw [hh (rm3_0 z).1]
    · exact num_nf z
  rw [e2] at r4 n4
  have rw4 : ∀ i, mR h4 127 i = mR h 127 i := fun i => by rw [f4.2 127 i (by unfold pMt; omega), f3.2 127 i (by unfold pMt; omega)]
  have rb := w.2 c c0.1 c0.2
  have ob := o.1
  obtain ⟨h5, g5, f5, r5, d5, u5⟩ := m_tail r4 o2 (c := c) (off := off) (cap := cap) (v := v x) c0 f0 (by rw [rw4]; omega)
  refine ⟨h5, ?_, ((f3.tr f4).to pMt_l).tr f5, r5, fun z i i0 i1 => ?_, fun d d0 d1 => ?_⟩
  · rw [g4, bind_some']; exact g5
  · rw [if_pos z]
    have a := ens_0 z
    obtain ⟨a1, a2, a3, a4, a5⟩ := n4 a
    have a6 := rm3_0 a1
    have hi0 := hh a6.1
    have vx : v x = val (num B L lo hi (rm3 B L (V c) cap s)).1 := by
      rw [hv x a3 (by omega), a2, hi0]
    have vc : mR h4 127 c = V c := by rw [rw4]; exact w.1 a6.1 c (by omega) (by omega)
    rw [u5 (by rw [vc]; exact a6.2) i, vc, vx]
    by_cases y : i = c
    · rw [y, up1_s, up1_s]
    · rw [up1_n y, up1_n y]
      by_cases q : i = off + V c
      · rw [q, up1_s, up1_s]
      · rw [up1_n q, up1_n q, rw4]; exact w.1 a6.1 i i0 i1
  · have rd := w.2 d d0 d1
    rw [d5 d d0 d1, rw4, rw4]
    by_cases y : d = c
    · rw [if_pos y]; omega
    · rw [if_neg y]; omega
theorem ens_i {h : Hp} {B : Int → Int} {L : Int} {t : Int × Int × Int} (r : MR h B L t) (o : SO B L t) : ∃ h', (if okF h 124 12 = true then (C_Mo_endsLine 124 h).bind (fun x => (some (0, x.2) : Res)) else none) = some (0, h') ∧ Fr pMt h h' ∧ MR h' B L (ens B L t) := by
  obtain ⟨h1, g1, f1, r1⟩ := m_ens r o
  rw [if_pos (mro r), g1, bind_some']
  exact ⟨h1, rfl, f1, r1⟩
theorem m_wr {h8 : Hp} {B : Int → Int} {L : Int} {t : Int × Int × Int} (r8 : MR h8 B L t) (o8 : SO B L t) {x5 x6 x7 x8 : Int} (a5 : 0 ≤ x5 ∧ x5 < 24) (a6 : 0 ≤ x6 ∧ x6 < 6) : ∃ h9, (if okF h8 124 12 = true then (if okS h8 (mR h8 124 10) 102 (w32 ((w32 (33 + (w32 (6 * x5)))) + x6)) = true then hb (mW h8 (mR h8 124 10) (w32 ((w32 (33 + (w32 (6 * x5)))) + x6)) x7) (fun h13 => (if okF h13 124 12 = true then (if okS h13 (mR h13 124 10) 102 (w32 ((w32 (177 + (w32 (6 * x5)))) + x6)) = true then hb (mW h13 (mR h13 124 10) (w32 ((w32 (177 + (w32 (6 * x5)))) + x6)) x8) (fun h14 => (if okF h14 124 12 = true then (C_Mo_endsLine 124 h14).bind (fun x15 => (some (0, x15.2) : Res)) else none)) else none) else none)) else none) else none) = some (0, h9) ∧ Fr pMl h8 h9 ∧ MR h9 B L (ens B L t) ∧ ∀ i, mR h9 127 i = up1 (up1 (mR h8 127) (33 + 6 * x5 + x6) x7) (177 + 6 * x5 + x6) x8 i := by
  have fa : Fr p127 h8 (mW h8 127 (33 + 6 * x5 + x6) x7) := Fr.W h8 _ rfl
  have ra := r8.row fa
  have fb : Fr p127 (mW h8 127 (33 + 6 * x5 + x6) x7) (mW (mW h8 127 (33 + 6 * x5 + x6) x7) 127 (177 + 6 * x5 + x6) x8) := Fr.W _ _ rfl
  have rb := ra.row fb
  have eb : ∀ i, mR (mW (mW h8 127 (33 + 6 * x5 + x6) x7) 127 (177 + 6 * x5 + x6) x8) 127 i = up1 (up1 (mR h8 127) (33 + 6 * x5 + x6) x7) (177 + 6 * x5 + x6) x8 i := fun i => by
    rw [mR_mW]
    by_cases y : i = 177 + 6 * x5 + x6
    · rw [if_pos ⟨rfl, y⟩, y, up1_s]
    · rw [if_neg (fun x => y x.2), up1_n y, mR_mW]
      by_cases u : i = 33 + 6 * x5 + x6
      · rw [if_pos ⟨rfl, u⟩, u, up1_s]
      · rw [if_neg (fun x => u x.2), up1_n u]
  rw [if_pos (mro r8), mrr r8, w32_id (x := 6 * x5) (by omega) (by omega), w32_id (x := 33 + 6 * x5) (by omega) (by omega), w32_id (x := 33 + 6 * x5 + x6) (by omega) (by omega), if_pos (mrrS r8 (by omega) (by omega)), hb_eq, if_pos (mro ra), mrr ra, w32_id (x := 177 + 6 * x5) (by omega) (by omega), w32_id (x := 177 + 6 * x5 + x6) (by omega) (by omega), if_pos (mrrS ra (by omega) (by omega)), hb_eq]
  generalize mW (mW h8 127 (33 + 6 * x5 + x6) x7) 127 (177 + 6 * x5 + x6) x8 = hb' at fb rb eb ⊢
  obtain ⟨h9, g9, f9, r9⟩ := ens_i rb o8
  exact ⟨h9, g9, ((fa.tr fb).to p127_l).tr (f9.to pMt_l), r9, fun i => by rw [f9.2 127 i (by unfold pMt; omega), eb]⟩
theorem m_ent {h h2 : Hp} {B : Int → Int} {L : Int} {s : Int × Int × Int} {V : Int → Int} (w : Row h s V) (vb : V 0 ≤ 6 ∧ V 1 ≤ 24) (f2 : Fr pMt h h2) (o : SO B L s) (L5 : L ≤ 500) (t : tK B L s.1 ≠ 0) (r2 : MR h2 B L (adv B L s)) (n2 : mR h2 124 9 = 1) : ∃ h', (if okF h2 124 12 = true then (if okA h2 (mR h2 124 10) 102 1 = true then (if okF h2 124 12 = true then (C_Mo_numbered 124 0 (w32 ((mR h2 (mR h2 124 10) 1) - 1)) h2).bind (fun x5 => (if okF x5.2 124 12 = true then (if okA x5.2 (mR x5.2 124 10) 102 0 = true then (if okF x5.2 124 12 = true then (C_Mo_numbered 124 0 (w32 ((mR x5.2 (mR x5.2 124 10) 0) - 1)) x5.2).bind (fun x6 => (if okF x6.2 124 12 = true then (C_Mo_numbered 124 1 9999 x6.2).bind (fun x7 => (if okF x7.2 124 12 = true then (C_Mo_numbered 124 0 99 x7.2).bind (fun x8 => (if okF x8.2 124 12 = true then (if (mR x8.2 124 8) = 0 then (if okF x8.2 124 12 = true then (if (mR x8.2 124 9) = 0 then (if okF x8.2 124 12 = true then (C_Mo_endsLine 124 x8.2).bind (fun x10 => (some (0, x10.2) : Res)) else none) else (if x5.1 < 24 then (if x6.1 < 6 then (if okF x8.2 124 12 = true then (if okS x8.2 (mR x8.2 124 10) 102 (w32 ((w32 (33 + (w32 (6 * x5.1)))) + x6.1)) = true then hb (mW x8.2 (mR x8.2 124 10) (w32 ((w32 (33 + (w32 (6 * x5.1)))) + x6.1)) x7.1) (fun h13 => (if okF h13 124 12 = true then (if okS h13 (mR h13 124 10) 102 (w32 ((w32 (177 + (w32 (6 * x5.1)))) + x6.1)) = true then hb (mW h13 (mR h13 124 10) (w32 ((w32 (177 + (w32 (6 * x5.1)))) + x6.1)) x8.1) (fun h14 => (if okF h14 124 12 = true then (C_Mo_endsLine 124 h14).bind (fun x15 => (some (0, x15.2))) else none)) else none) else none)) else none) else none) else (if okF x8.2 124 12 = true then (C_Mo_endsLine 124 x8.2).bind (fun x12 => (some (0, x12.2))) else none)) else (if okF x8.2 124 12 = true then (C_Mo_endsLine 124 x8.2).bind (fun x11 => (some (0, x11.2))) else none))) else none) else (if okF x8.2 124 12 = true then (C_Mo_endsLine 124 x8.2).bind (fun x9 => (some (0, x9.2))) else none)) else none)) else none)) else none)) else none) else none) else none)) else none) else none) else none) = some (0, h') ∧ Fr pMl h h' ∧ MR h' B L (ctE B L s V).1 ∧ Row h' (ctE B L s V).1 (ctE B L s V).2 := by
  have o1 := so_step o t
  have ob := o.1
  have pb := tE_b (B := B) ob.1 ob.2
  have pe : (adv B L s).1 = tE B L s.1 := rfl
  have rw2 : ∀ i, mR h2 127 i = mR h 127 i := fun i => f2.2 127 i (by unfold pMt; omega)
  have b0 := w.2 0 (by decide) (by decide)
  have b1 := w.2 1 (by decide) (by decide)
  obtain ⟨x5, h5, g5, f5, r5, n5, c5⟩ := m_num r2 o1 0 (mR h 127 1 - 1)
  have e5 : (num B L 0 (mR h 127 1 - 1) (adv B L s)).2 = (eN1 B L s V).2 := by
    by_cases z : s.2.1 = 0
    · unfold eN1; rw [w.1 z 1 (by decide) (by decide)]
    · exact num_nf z
  have e5' : s.2.1 = 0 → num B L 0 (mR h 127 1 - 1) (adv B L s) = eN1 B L s V := fun z => by unfold eN1; rw [w.1 z 1 (by decide) (by decide)]
  rw [e5] at r5
  have o5 : SO B L (eN1 B L s V).2 := so_num o1
  have p5 : (adv B L s).1 ≤ (eN1 B L s V).2.1 := num_p o1
  have rw5 : ∀ i, mR h5 127 i = mR h 127 i := fun i => by rw [f5.2 127 i (by unfold pMt; omega), rw2]
  obtain ⟨x6, h6, g6, f6, r6, n6, c6⟩ := m_num r5 o5 0 (mR h 127 0 - 1)
  have e6 : (num B L 0 (mR h 127 0 - 1) (eN1 B L s V).2).2 = (eN2 B L s V).2 := by
    by_cases z : (eN1 B L s V).2.2.1 = 0
    · unfold eN2; rw [w.1 (num_0 z).1 0 (by decide) (by decide)]
    · exact num_nf z
  have e6' : s.2.1 = 0 → num B L 0 (mR h 127 0 - 1) (eN1 B L s V).2 = eN2 B L s V := fun z => by unfold eN2; rw [w.1 z 0 (by decide) (by decide)]
  rw [e6] at r6
  have o6 : SO B L (eN2 B L s V).2 := so_num o5
  have p6 : (eN1 B L s V).2.1 ≤ (eN2 B L s V).2.1 := num_p o5
  obtain ⟨x7, h7, g7, f7, r7, n7, c7⟩ := m_num r6 o6 1 9999
  have o7 : SO B L (eN3 B L s V).2 := so_num o6
  have p7 : (eN2 B L s V).2.1 ≤ (eN3 B L s V).2.1 := num_p o6
  obtain ⟨x8, h8, g8, f8, r8, n8, c8⟩ := m_num r7 o7 0 99
  have o8 : SO B L (eN4 B L s V).2 := so_num o7
  have p8 : (eN3 B L s V).2.1 ≤ (eN4 B L s V).2.1 := num_p o7
  have p9 := ens_q o8
  have rw8 : ∀ i, mR h8 127 i = mR h 127 i := fun i => by rw [f8.2 127 i (by unfold pMt; omega), f7.2 127 i (by unfold pMt; omega), f6.2 127 i (by unfold pMt; omega), rw5]
  have F8 := (((f2.tr f5).tr f6).tr f7).tr f8
  have x50 : 0 ≤ x5 := by clear c6 c7 c8; omega
  have x60 : 0 ≤ x6 := by clear c5 c7 c8; omega
  clear c5 c6 c7 c8
  rw [if_pos (mro r2), mrr r2, if_pos (mrrA r2 (by decide) (by decide)), if_pos (mro r2), rw2, w32_id (x := mR h 127 1 - 1) (by omega) (by omega), g5, bind_some', if_pos (mro r5)]
  dsimp only
  rw [mrr r5, if_pos (mrrA r5 (by decide) (by decide)), if_pos (mro r5), rw5, w32_id (x := mR h 127 0 - 1) (by omega) (by omega), g6, bind_some', if_pos (mro r6)]
  dsimp only
  rw [g7, bind_some', if_pos (mro r7)]
  dsimp only
  rw [g8, bind_some']
  dsimp only
  have r8' : MR h8 B L (eN4 B L s V).2 := r8
  rw [if_pos (mro r8')]
  have plain : (eN4 B L s V).2.2.1 ≠ 0 → ∃ h', (if okF h8 124 12 = true then (C_Mo_endsLine 124 h8).bind (fun x => (some (0, x.2) : Res)) else none) = some (0, h') ∧ Fr pMl h h' ∧ MR h' B L (ctE B L s V).1 ∧ Row h' (ctE B L s V).1 (ctE B L s V).2 := fun nz => by
    obtain ⟨h9, g9, f9, r9⟩ := ens_i r8' o8
    refine ⟨h9, g9, (F8.tr f9).to pMt_l, r9, fun z => absurd (ens_0 z) nz, fun d d0 d1 => ?_⟩
    have bd := w.2 d d0 d1
    rw [f9.2 127 d (by unfold pMt; omega), rw8]
    show 0 ≤ mR h 127 d ∧ mR h 127 d ≤ (ens B L (eN4 B L s V).2).1
    omega
  by_cases z0 : (eN4 B L s V).2.2.1 = 0
  · obtain ⟨q1, q2, q3, q4, q5⟩ := n8 z0
    obtain ⟨u1, u2, u3, u4, u5⟩ := n7 q1
    have q1' : (eN3 B L s V).2.2.1 = 0 := q1
    have u1' : (eN2 B L s V).2.2.1 = 0 := u1
    have s1 := num_0 u1'
    have s0 := num_0 s1.1
    have sf : s.2.1 = 0 := s0.1
    obtain ⟨v1, v2, v3, v4, v5⟩ := n6 (by rw [e6]; exact u1)
    obtain ⟨y1, y2, y3, y4, y5⟩ := n5 (by rw [e5]; exact v1)
    rw [e6' sf] at v2
    rw [e5' sf] at y2
    have nine : mR h8 124 9 = 1 := by rw [q5, u5, v5, y5, n2]; rfl
    have V0 : mR h 127 0 = V 0 := w.1 sf 0 (by decide) (by decide)
    have V1 : mR h 127 1 = V 1 := w.1 sf 1 (by decide) (by decide)
    have e8 : mR h8 124 8 = 0 := by rw [r8'.2.2.2]; exact if_neg (by omega)
    obtain ⟨h9, g9, f9, r9, e9⟩ := m_wr r8' o8 (x5 := x5) (x6 := x6) (x7 := x7) (x8 := x8) ⟨x50, by omega⟩ ⟨x60, by omega⟩
    rw [if_pos e8, if_pos (mro r8'), if_neg (show ¬ mR h8 124 9 = 0 by omega), if_pos (show x5 < 24 by omega), if_pos (show x6 < 6 by omega)]
    refine ⟨h9, g9, (F8.to pMt_l).tr f9, r9, fun z i i0 i1 => ?_, fun d d0 d1 => ?_⟩
    · have z' : (ens B L (eN4 B L s V).2).2.1 = 0 := z
      show mR h9 127 i = (if (ens B L (eN4 B L s V).2).2.1 = 0 then tEnter V (eN1 B L s V).1 (eN2 B L s V).1 (eN3 B L s V).1 (eN4 B L s V).1 else V) i
      have q2' : x8 = (eN4 B L s V).1 := q2
      have u2' : x7 = (eN3 B L s V).1 := u2
      rw [if_pos z', e9, ← q2', ← u2', ← v2, ← y2]
      unfold tEnter
      by_cases y : i = 177 + 6 * x5 + x6
      · rw [y, up1_s, up1_s]
      · rw [up1_n y, up1_n y]
        by_cases u : i = 33 + 6 * x5 + x6
        · rw [u, up1_s, up1_s]
        · rw [up1_n u, up1_n u, rw8]; exact w.1 sf i i0 i1
    · have bd := w.2 d d0 d1
      rw [e9, up1_n (by omega), up1_n (by omega), rw8]
      show 0 ≤ mR h 127 d ∧ mR h 127 d ≤ (ens B L (eN4 B L s V).2).1
      omega
  · by_cases z1 : (eN4 B L s V).2.2.1 = 1
    · have e8 : ¬ mR h8 124 8 = 0 := by rw [r8'.2.2.2, if_pos z1]; decide
      rw [if_neg e8]
      exact plain z0
    · have e8 : mR h8 124 8 = 0 := by rw [r8'.2.2.2]; exact if_neg z1
      rw [if_pos e8, if_pos (mro r8')]
      by_cases n9 : mR h8 124 9 = 0
      · rw [if_pos n9]; exact plain z0
      · rw [if_neg n9]
        by_cases a5 : x5 < 24
        · rw [if_pos a5]
          by_cases a6 : x6 < 6
          · obtain ⟨h9, g9, f9, r9, e9⟩ := m_wr r8' o8 (x5 := x5) (x6 := x6) (x7 := x7) (x8 := x8) ⟨x50, a5⟩ ⟨x60, a6⟩
            rw [if_pos a6]
            refine ⟨h9, g9, (F8.to pMt_l).tr f9, r9, fun z => absurd (ens_0 z) z0, fun d d0 d1 => ?_⟩
            have bd := w.2 d d0 d1
            rw [e9, up1_n (by omega), up1_n (by omega), rw8]
            show 0 ≤ mR h 127 d ∧ mR h 127 d ≤ (ens B L (eN4 B L s V).2).1
            omega
          · rw [if_neg a6]; exact plain z0
        · rw [if_neg a5]; exact plain z0
theorem m_cl {h : Hp} {B : Int → Int} {L : Int} {s : Int × Int × Int} {V : Int → Int} (r : MR h B L s) (o : SO B L s) (f : s.2.1 ≠ 1) (t : tK B L s.1 ≠ 0) (w : Row h s V) (vb : V 0 ≤ 6 ∧ V 1 ≤ 24) : ∃ h', C_Mo_catalogueLine 124 h = some (0, h') ∧ Fr pMl h h' ∧ MR h' B L (ctL B L s V).1 ∧ Row h' (ctL B L s V).1 (ctL B L s V).2 := by
  have L5 := r.1.1.2.2.1.1.2
  have tb := tW_b B L s.1
  by_cases k : tK B L s.1 = 3 ∧ tW B L s.1 ≤ 6
  · obtain ⟨h1, g1, e8, k1, f1, r1⟩ := m_head r o f k.1 (lo := 1) (hi := 6) (by decide) ⟨tb.1, k.2⟩
    obtain ⟨f2, r2⟩ := m_nine r1 1
    have n2 : mR (mW h1 124 9 1) 124 9 = 1 := mR_same _ _ _ _
    rw [E_Mo_catalogueLine, if_pos (mro r), if_pos (mro r), g1, bind_some', r.1.2.2.1]
    dsimp only
    rw [if_pos k1, e8, if_pos rfl, if_pos k1, hb_eq, w32_id (x := tW B L s.1 - 1 + 1) (by omega) (by omega), show tW B L s.1 - 1 + 1 = tW B L s.1 by omega]
    have f12 := f1.tr f2
    generalize mW h1 124 9 1 = h2 at r2 n2 f12 ⊢
    have rw2 : ∀ i, mR h2 127 i = mR h 127 i := fun i => f12.2 127 i (by unfold pMt; omega)
    have er : ∀ c b : Int, 0 ≤ c → c ≤ 2 → rm3 B L (mR h2 127 c) b s = rm3 B L (V c) b s := fun c b c0 c1 => by
      by_cases z : s.2.1 = 0
      · rw [rw2, w.1 z c c0 (by omega)]
      · rw [rm3_nf z, rm3_nf z]
    unfold ctL
    rw [if_pos k.1]
    by_cases w1 : tW B L s.1 = 1
    · obtain ⟨h3, g3, f3, r3, n3⟩ := m_room r2 o (a := mR h2 127 0) (b := 6) n2 (K := P_Mo_catalogueLine_55 124 (tW B L s.1))
      rw [er 0 6 (by decide) (by decide)] at r3
      obtain ⟨h4, g4, f4, r4, v4⟩ := m_add w (f12.tr f3) o L5 t (c := 0) (off := 3) (cap := 6) (lo := 1) (hi := 9999) (hi' := 9999) r3 (by decide) (by decide) (fun _ => rfl) (v := fun x => w32 (100 + x)) (val := fun x => 100 + x) (fun x x0 x1 => w32_id (by omega) (by omega))
      rw [if_pos w1, if_pos w1, if_pos (mro r2), mrr r2, if_pos (mrrA r2 (by decide) (by decide)), g3, E_Mo_catalogueLine_55, if_pos w1, if_pos (mro r3)]
      exact ⟨h4, g4, f4, r4, v4⟩
    rw [if_neg w1, if_neg w1]
    by_cases w2 : tW B L s.1 = 2
    · obtain ⟨h3, g3, f3, r3, n3⟩ := m_room r2 o (a := mR h2 127 0) (b := 6) n2 (K := P_Mo_catalogueLine_55 124 (tW B L s.1))
      rw [er 0 6 (by decide) (by decide)] at r3
      have rw3 : mR h3 127 0 = mR h 127 0 := by rw [f3.2 127 0 (by unfold pMt; omega), rw2]
      have rb := w.2 0 (by decide) (by decide)
      have ob := o.1
      obtain ⟨h4, g4, f4, r4, v4⟩ := m_add w (f12.tr f3) o L5 t (c := 0) (off := 3) (cap := 6) (lo := 0) (hi := V 0 - 1) (hi' := mR h 127 0 - 1) r3 (by decide) (by decide) (fun z => by rw [w.1 z 0 (by decide) (by decide)]) (v := fun x => x) (val := fun x => x) (fun x x0 x1 => rfl)
      rw [if_pos w2, if_pos w2, if_pos (mro r2), mrr r2, if_pos (mrrA r2 (by decide) (by decide)), g3, E_Mo_catalogueLine_55, if_neg w1, if_pos (mro r3), mrr r3, if_pos (mrrA r3 (by decide) (by decide)), if_pos (mro r3), rw3, w32_id (x := mR h 127 0 - 1) (by omega) (by omega)]
      exact ⟨h4, g4, f4, r4, v4⟩
    rw [if_neg w2, if_neg w2]
    have things : ∀ (K : Int), (K = 3 ∨ K = 4) → tW B L s.1 = K → ∃ h', (if okF h2 124 12 = true then (if okA h2 (mR h2 124 10) 102 1 = true then (if (mR h2 (mR h2 124 10) 1) < 24 then (P_Mo_catalogueLine_153 124 (tW B L s.1) h2) else (if okF h2 124 12 = true then (C_Mo_also 124 3 (tA B L s.1) h2).bind (fun x4 => (P_Mo_catalogueLine_153 124 (tW B L s.1) x4.2)) else none)) else none) else none) = some (0, h') ∧ Fr pMl h h' ∧ MR h' B L (ctT B L s V (if K = 3 then 1 else -1)).1 ∧ Row h' (ctT B L s V (if K = 3 then 1 else -1)).1 (ctT B L s V (if K = 3 then 1 else -1)).2 := fun K hK wK => by
      obtain ⟨h3, g3, f3, r3, n3⟩ := m_room r2 o (a := mR h2 127 1) (b := 24) n2 (K := P_Mo_catalogueLine_153 124 (tW B L s.1))
      rw [er 1 24 (by decide) (by decide)] at r3
      obtain ⟨h4, g4, f4, r4, v4⟩ := m_add w (f12.tr f3) o L5 t (c := 1) (off := 9) (cap := 24) (lo := 0) (hi := 9999) (hi' := 9999) r3 (by decide) (by decide) (fun _ => rfl) (v := fun x => if K = 3 then x else w32 (-x)) (val := fun x => (if K = 3 then 1 else -1) * x) (fun x x0 x1 => by
        by_cases z : K = 3
        · simp only [z, ↓reduceIte]; omega
        · simp only [z, ↓reduceIte]; rw [w32_id (by omega) (by omega)]; omega)
      refine ⟨h4, ?_, f4, r4, v4⟩
      rw [if_pos (mro r2), mrr r2, if_pos (mrrA r2 (by decide) (by decide)), g3, E_Mo_catalogueLine_153, if_pos (mro r3), wK]
      rcases hK with z | z
      · subst z
        exact g4
      · subst z
        exact g4
    by_cases w3 : tW B L s.1 = 3
    · rw [if_pos w3, if_pos w3]
      exact things 3 (Or.inl rfl) w3
    rw [if_neg w3, if_neg w3]
    by_cases w4 : tW B L s.1 = 4
    · rw [if_pos w4, if_pos w4]
      exact things 4 (Or.inr rfl) w4
    rw [if_neg w4, if_neg w4]
    by_cases w5 : tW B L s.1 = 5
    · obtain ⟨h3, g3, f3, r3, n3⟩ := m_room r2 o (a := mR h2 127 2) (b := 4) n2 (K := fun h => if okF h 124 12 = true then (C_Mo_numbered 124 1 9999 h).bind (fun x => tlX 2 321 4 x.1 x.2) else none)
      rw [er 2 4 (by decide) (by decide)] at r3
      obtain ⟨h4, g4, f4, r4, v4⟩ := m_add w (f12.tr f3) o L5 t (c := 2) (off := 321) (cap := 4) (lo := 1) (hi := 9999) (hi' := 9999) r3 (by decide) (by decide) (fun _ => rfl) (v := fun x => x) (val := fun x => x) (fun x x0 x1 => rfl)
      rw [if_pos w5, if_pos w5, if_pos (mro r2), mrr r2, if_pos (mrrA r2 (by decide) (by decide))]
      refine ⟨h4, g3.trans ?_, f4, r4, v4⟩
      exact (if_pos (mro r3)).trans g4
    have w6 : tW B L s.1 = 6 := by omega
    rw [if_neg w5, if_neg w5, if_pos w6]
    exact m_ent w vb f12 o L5 t r2 n2
  · obtain ⟨h1, g1, f1, r1, n1⟩ := m_one r o 1 6 (by decide)
    have e : one B L 1 6 s = (0, brk B L s) := by unfold one; rw [if_neg f, if_neg (fun x => k ⟨x.1, x.2.2⟩)]
    have ec : ctL B L s V = (brk B L s, V) := by
      unfold ctL
      by_cases y : tK B L s.1 = 3
      · have y2 : ¬ tW B L s.1 ≤ 6 := fun x => k ⟨y, x⟩
        rw [if_pos y, if_neg (by omega), if_neg (by omega), if_neg (by omega), if_neg (by omega), if_neg (by omega), if_neg (by omega)]
      · rw [if_neg y]
    rw [e] at g1 r1
    have e8 : ¬ mR h1 124 8 = 0 := by rw [r1.2.2.2, if_pos brk_1]; decide
    have ep : (brk B L s).1 = s.1 := by unfold brk; rw [if_neg f]
    rw [E_Mo_catalogueLine, if_pos (mro r), if_pos (mro r), g1, bind_some', ec]
    dsimp only
    rw [if_pos (mro r1), if_neg e8]
    refine ⟨h1, rfl, f1.to pMt_l, r1, fun z => ?_, fun d d0 d1 => ?_⟩
    · have : (brk B L s).2.1 = 0 := z
      rw [brk_1] at this
      omega
    · rw [f1.2 127 d (by unfold pMt; omega)]
      show 0 ≤ mR h 127 d ∧ mR h 127 d ≤ (brk B L s).1
      rw [ep]
      exact w.2 d d0 d1
