/-! A sky read; the reference's line and loop. -/
theorem n_sl {h : Hp} {B : Int → Int} {L : Int} {s : Int × Int × Int} {V : Int → Int} (r : MR h B L s) (o : SO B L s) (f : s.2.1 ≠ 1) (t : tK B L s.1 ≠ 0) (w : RowK h s V) : ∃ h', C_Mo_skyLine 124 h = some (0, h') ∧ Fr pMl h h' ∧ MR h' B L (skL B L s V).1 ∧ RowK h' (skL B L s V).1 (skL B L s V).2 := by
  have L5 := r.1.1.2.2.1.1.2
  have tb := tW_b B L s.1
  by_cases k : tK B L s.1 = 3 ∧ 41 ≤ tW B L s.1 ∧ tW B L s.1 ≤ 46
  · obtain ⟨h1, g1, e8, k1, f1, r1⟩ := m_head r o f k.1 (lo := 41) (hi := 46) (by decide) k.2
    obtain ⟨f2, r2⟩ := m_nine r1 1
    have n2 : mR (mW h1 124 9 1) 124 9 = 1 := mR_same _ _ _ _
    rw [E_Mo_skyLine, if_pos (mro r), if_pos (mro r), g1, bind_some', r.1.2.2.1]
    dsimp only
    rw [if_pos k1, e8, if_pos rfl, if_pos k1, hb_eq, w32_id (x := tW B L s.1 - 41 + 41) (by omega) (by omega), show tW B L s.1 - 41 + 41 = tW B L s.1 by omega]
    have f12 := f1.tr f2
    generalize mW h1 124 9 1 = h2 at r2 n2 f12 ⊢
    have rw2 : ∀ i, mR h2 127 i = mR h 127 i := fun i => f12.2 127 i (by unfold pMt; omega)
    have er : rm3 B L (mR h2 127 0) 6 s = rm3 B L (V 0) 6 s := by
      by_cases z : s.2.1 = 0
      · rw [rw2, w.1 z 0 (by decide) (by decide)]
      · rw [rm3_nf z, rm3_nf z]
    unfold skL
    rw [if_pos k.1]
    by_cases w1 : tW B L s.1 = 41
    · obtain ⟨h3, g3, f3, r3, n3⟩ := m_room r2 o (a := mR h2 127 0) (b := 6) n2 (K := P_Mo_skyLine_53 124 (tW B L s.1))
      rw [er] at r3
      obtain ⟨h4, g4, f4, r4, v4⟩ := n_light w (f12.tr f3) o L5 t r3
      rw [if_pos w1, if_pos w1, if_pos (mro r2), mrr r2, if_pos (mrrA r2 (by decide) (by decide)), g3, w1]
      exact ⟨h4, g4, f4, r4, v4⟩
    rw [if_neg w1, if_neg w1]
    by_cases w2 : tW B L s.1 = 42
    · obtain ⟨x, h5, h7, g5, k5, k6, g7, f7, r7, v7⟩ := n_set w f12 o t r2 (j := 1) (lo := 0) (hi := 1000) (by decide)
      rw [if_pos w2, if_pos w2, if_pos (mro r2), if_pos (mro r2), g5, bind_some', mrr r2]
      dsimp only
      rw [if_pos k5, hb_eq, if_neg (show ¬ tW B L s.1 = 43 by omega), E_Mo_skyLine_163, if_neg (show ¬ tW B L s.1 = 44 by omega), if_neg (show ¬ tW B L s.1 = 45 by omega), if_neg (show ¬ tW B L s.1 = 46 by omega), g7]
      exact ⟨h7, rfl, f7, r7, v7⟩
    rw [if_neg w2, if_neg w2]
    by_cases w3 : tW B L s.1 = 43
    · obtain ⟨x, h5, h7, g5, k5, k6, g7, f7, r7, v7⟩ := n_set w f12 o t r2 (j := 2) (lo := 0) (hi := 999) (by decide)
      rw [if_pos w3, if_pos w3, if_pos (mro r2), if_pos (mro r2), g5, bind_some', mrr r2]
      dsimp only
      rw [if_pos k5, hb_eq, E_Mo_skyLine_163, if_neg (show ¬ tW B L s.1 = 44 by omega), if_neg (show ¬ tW B L s.1 = 45 by omega), if_neg (show ¬ tW B L s.1 = 46 by omega), g7]
      exact ⟨h7, rfl, f7, r7, v7⟩
    rw [if_neg w3, if_neg w3, E_Mo_skyLine_163]
    by_cases w4 : tW B L s.1 = 44
    · obtain ⟨x, h5, h7, g5, k5, k6, g7, f7, r7, v7⟩ := n_set w f12 o t r2 (j := 3) (lo := 0) (hi := 50) (by decide)
      rw [if_pos w4, if_pos w4, if_pos (mro r2), if_pos (mro r2), g5, bind_some', mrr r2]
      dsimp only
      rw [if_pos k5, hb_eq, if_neg (show ¬ tW B L s.1 = 45 by omega), if_neg (show ¬ tW B L s.1 = 46 by omega), g7]
      exact ⟨h7, rfl, f7, r7, v7⟩
    rw [if_neg w4, if_neg w4]
    by_cases w5 : tW B L s.1 = 45
    · obtain ⟨x, h5, h7, g5, k5, k6, g7, f7, r7, v7⟩ := n_set w f12 o t r2 (j := 4) (lo := 1) (hi := 9999) (by decide)
      rw [if_pos w5, if_pos w5, if_pos (mro r2), if_pos (mro r2), g5, bind_some', mrr r2]
      dsimp only
      rw [if_pos k5, hb_eq, if_neg (show ¬ tW B L s.1 = 46 by omega), g7]
      exact ⟨h7, rfl, f7, r7, v7⟩
    rw [if_neg w5, if_neg w5]
    have w6 : tW B L s.1 = 46 := by omega
    obtain ⟨x, h5, h7, g5, k5, k6, g7, f7, r7, v7⟩ := n_set w f12 o t r2 (j := 5) (lo := 1) (hi := 24) (by decide)
    rw [if_pos w6, if_pos w6, if_pos (mro r2), if_pos (mro r2), g5, bind_some', mrr r2]
    dsimp only
    rw [if_pos k5, hb_eq, g7]
    exact ⟨h7, rfl, f7, r7, v7⟩
  · obtain ⟨h1, g1, f1, r1, n1⟩ := m_one r o 41 46 (by decide)
    have e : one B L 41 46 s = (0, brk B L s) := by unfold one; rw [if_neg f, if_neg k]
    have ec : skL B L s V = (brk B L s, V) := by
      unfold skL
      by_cases y : tK B L s.1 = 3
      · have y2 : ¬ (41 ≤ tW B L s.1 ∧ tW B L s.1 ≤ 46) := fun x => k ⟨y, x⟩
        rw [if_pos y, if_neg (by omega), if_neg (by omega), if_neg (by omega), if_neg (by omega), if_neg (by omega), if_neg (by omega)]
      · rw [if_neg y]
    rw [e] at g1 r1
    have e8 : ¬ mR h1 124 8 = 0 := by rw [r1.2.2.2, if_pos brk_1]; decide
    have ep : (brk B L s).1 = s.1 := by unfold brk; rw [if_neg f]
    rw [E_Mo_skyLine, if_pos (mro r), if_pos (mro r), g1, bind_some', ec]
    dsimp only
    rw [if_pos (mro r1), if_neg e8]
    refine ⟨h1, rfl, f1.to pMt_l, r1, fun z => ?_, ?_⟩
    · have : (brk B L s).2.1 = 0 := z
      rw [brk_1] at this
      omega
    · rw [f1.2 127 0 (by unfold pMt; omega)]
      show 0 ≤ mR h 127 0 ∧ mR h 127 0 ≤ (brk B L s).1
      rw [ep]
      exact w.2
theorem skL_p {B : Int → Int} {L : Int} {s : Int × Int × Int} (o : SO B L s) (t : tK B L s.1 ≠ 0) (V : Int → Int) (n : (skL B L s V).1.2.1 ≠ 1) : s.1 + 2 ≤ (skL B L s V).1.1 := by
  have c := tE_b (B := B) o.1.1 o.1.2
  have d := c.2.2.2.1 (c.2.2.2.2 t)
  have o1 := so_step o t
  have e1 : (adv B L s).1 = tE B L s.1 := rfl
  have one' : ∀ {lo hi : Int}, (ens B L (num B L lo hi (adv B L s)).2).2.1 ≠ 1 → s.1 + 2 ≤ (ens B L (num B L lo hi (adv B L s)).2).1 := fun {lo hi} x => by
    have p2 := num_p (lo := lo) (hi := hi) o1
    have p3 := ens_p (so_num (lo := lo) (hi := hi) o1) x
    omega
  unfold skL at n ⊢
  by_cases k : tK B L s.1 = 3
  · rw [if_pos k] at n ⊢
    by_cases w1 : tW B L s.1 = 41
    · rw [if_pos w1] at n ⊢
      have p1 := rm3_p (a := V 0) (b := 6) o t
      have o2 := so_rm3 (a := V 0) (b := 6) o t
      have p2 := num_p (lo := 1) (hi := 999) o2
      have o3 := so_num (lo := 1) (hi := 999) o2
      have p3 := num_p (lo := 1) (hi := 9) o3
      have o4 := so_num (lo := 1) (hi := 9) o3
      have p4 := ens_p o4 n
      have e5 : (skG B L s V).1 = ens B L (num B L 1 9 (num B L 1 999 (rm3 B L (V 0) 6 s)).2).2 := rfl
      rw [e5]
      omega
    rw [if_neg w1] at n ⊢
    by_cases w2 : tW B L s.1 = 42
    · rw [if_pos w2] at n ⊢; exact one' n
    rw [if_neg w2] at n ⊢
    by_cases w3 : tW B L s.1 = 43
    · rw [if_pos w3] at n ⊢; exact one' n
    rw [if_neg w3] at n ⊢
    by_cases w4 : tW B L s.1 = 44
    · rw [if_pos w4] at n ⊢; exact one' n
    rw [if_neg w4] at n ⊢
    by_cases w5 : tW B L s.1 = 45
    · rw [if_pos w5] at n ⊢; exact one' n
    rw [if_neg w5] at n ⊢
    by_cases w6 : tW B L s.1 = 46
    · rw [if_pos w6] at n ⊢; exact one' n
    rw [if_neg w6] at n
    exact absurd brk_1 n
  · rw [if_neg k] at n; exact absurd brk_1 n
theorem m_sky {B : Int → Int} {L a : Int} : ∀ (n : Nat) (h : Hp) (s : Int × Int × Int) (V : Int → Int), MR h B L s → SO B L s → RowK h s V → (s.2.1 = 1 ∨ L - s.1 + 1 ≤ 2 * n) → ∃ h', P_Mo_text_130 124 2 a h = P_Mo_text_206 124 2 a h' ∧ Fr pMl h h' ∧ MR h' B L (skEn B L (skI B L n (s, V))) ∧ ((skEn B L (skI B L n (s, V))).2.1 = 0 → ∀ i, 0 ≤ i → i < 18 → mR h' 127 i = (skI B L n (s, V)).2 i) := by
  have fin : ∀ (h : Hp) (s : Int × Int × Int) (V : Int → Int), MR h B L s → SO B L s → RowK h s V → ∃ h', (if okF h 124 12 = true then (if okA h (mR h 124 0) 102 5 = true then (if (mR h (mR h 124 0) 5) = 0 then (if okF h 124 12 = true then (if okA h (mR h 124 10) 102 0 = true then (if (mR h (mR h 124 10) 0) = 0 then (if okF h 124 12 = true then (if okF h 124 12 = true then (C_Mo_also 124 4 (mR h 124 4) h).bind (fun x16 => (P_Mo_text_206 124 2 a x16.2)) else none) else none) else (P_Mo_text_206 124 2 a h)) else none) else none) else (P_Mo_text_206 124 2 a h)) else none) else none) = P_Mo_text_206 124 2 a h' ∧ Fr pMl h h' ∧ MR h' B L (skEn B L (s, V)) ∧ ((skEn B L (s, V)).2.1 = 0 → ∀ i, 0 ≤ i → i < 18 → mR h' 127 i = V i) := fun h s V r o w => by
    unfold skEn
    rw [if_pos (mro r), mr0 r, if_pos (mrA r (by decide) (by decide)), r.2.1]
    by_cases z : s.2.1 = 0
    · have v0 := w.1 z 0 (by decide) (by decide)
      rw [if_pos z, if_pos (mro r), mrr r, if_pos (mrrA r (by decide) (by decide)), v0]
      by_cases y : V 0 = 0
      · obtain ⟨h1, g1, f1, r1, n1⟩ := m_also r (k := 4) (a := tA B L s.1) (by decide) o.2.2
        have en : (if s.2.1 = 0 then (s.1, 4, tA B L s.1) else s) = nte B L 4 s := rfl
        rw [en] at r1
        rw [if_pos y, if_pos y, if_pos (mro r), if_pos (mro r), r.1.2.2.1, g1, bind_some']
        exact ⟨h1, rfl, f1.to pMt_l, r1, fun x => absurd x (nte_0 (by decide))⟩
      · rw [if_neg y, if_neg y]
        exact ⟨h, rfl, Fr.rf _ h, r, w.1⟩
    · have e : (if V 0 = 0 then nte B L 4 s else s) = s := by
        unfold nte
        rw [if_neg z]
        split <;> rfl
      rw [if_neg z]
      show ∃ h', _ ∧ _ ∧ MR h' B L (if V 0 = 0 then nte B L 4 s else s) ∧ ((if V 0 = 0 then nte B L 4 s else s).2.1 = 0 → _)
      rw [e]
      exact ⟨h, rfl, Fr.rf _ h, r, w.1⟩
  have stop : ∀ (h : Hp) (s : Int × Int × Int) (V : Int → Int), MR h B L s → SO B L s → RowK h s V → (tK B L s.1 = 0 ∨ s.2.1 = 1) → ∃ h', P_Mo_text_130 124 2 a h = P_Mo_text_206 124 2 a h' ∧ Fr pMl h h' ∧ MR h' B L (skEn B L (s, V)) ∧ ((skEn B L (s, V)).2.1 = 0 → ∀ i, 0 ≤ i → i < 18 → mR h' 127 i = V i) := fun h s V r o w g => by
    rw [E_Mo_text_130, if_pos (mro r), r.2.2.2]
    by_cases z : s.2.1 = 1
    · rw [if_pos z, if_neg (by decide), if_pos rfl]
      exact fin h s V r o w
    · have k0 : tK B L s.1 = 0 := g.resolve_right z
      rw [if_neg z, if_pos rfl, if_pos (mro r), r.1.2.2.2.1, k0, if_pos (show (if (0 : Int) = 5 then (4 : Int) else 0) = 0 by decide), if_pos rfl]
      exact fin h s V r o w
  intro n
  induction n with
  | zero =>
    intro h s V r o w m
    have z : s.2.1 = 1 := by have := o.1; omega
    exact stop h s V r o w (Or.inr z)
  | succ n ih =>
    intro h s V r o w m
    have eI : skI B L (n + 1) (s, V) = if tK B L s.1 = 0 ∨ s.2.1 = 1 then (s, V) else skI B L n (skL B L s V) := rfl
    rw [eI]
    by_cases g : tK B L s.1 = 0 ∨ s.2.1 = 1
    · rw [if_pos g]
      exact stop h s V r o w g
    · have t0 : tK B L s.1 ≠ 0 := fun x => g (Or.inl x)
      have f1 : s.2.1 ≠ 1 := fun x => g (Or.inr x)
      rw [if_neg g]
      obtain ⟨h1, g1, q1, r1, w1⟩ := n_sl r o f1 t0 w
      have oL := so_skL o t0 V
      have nk : ¬ (if tK B L s.1 = 5 then 4 else tK B L s.1) = 0 := by
        by_cases y : tK B L s.1 = 5
        · rw [if_pos y]; decide
        · rw [if_neg y]; exact t0
      obtain ⟨h2, g2, q2, r2, w2⟩ := ih h1 (skL B L s V).1 (skL B L s V).2 r1 oL w1 (by
        by_cases z : (skL B L s V).1.2.1 = 1
        · exact Or.inl z
        · have := skL_p o t0 V z
          exact Or.inr (by omega))
      refine ⟨h2, ?_, q1.tr q2, r2, w2⟩
      rw [E_Mo_text_130, if_pos (mro r), r.2.2.2, if_neg f1, if_pos rfl, if_pos (mro r), r.1.2.2.2.1, if_neg nk, if_neg (show ¬ (2 : Int) = 0 by decide), if_neg (show ¬ (2 : Int) = 1 by decide), if_pos (mro r), g1, bind_some']
      exact g2
