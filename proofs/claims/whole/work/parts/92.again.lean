/-! Images taken again. -/
theorem pTo_W (b i : Int) (q : pTo 2 b i) : pW b i := by
  unfold pTo pTt pTc pTh pTk pTy at q
  unfold pW
  omega
theorem l_magn {W : Int → Int} {k : Int} (k0 : 0 ≤ k) (k1 : k < 3) : ∀ (n : Nat) (i : Int) (h : Hp), ModS h → 0 ≤ i → i + n = 1800 → (∀ x, 0 ≤ x → x < 1800 → mR h 125 (1800 * (k + 1) + x) = W x) → (∀ x, 0 ≤ x → x < i → mR h 125 x = W x) → ∃ h', P_Mo_again_22 124 k i h = some (1, h') ∧ Fr (fun b x => b = 125 ∧ 0 ≤ x ∧ x < 1800) h h' ∧ (∀ x, 0 ≤ x → x < 1800 → mR h' 125 x = W x) := by
  intro n
  induction n with
  | zero =>
    intro i h w i0 hi s d
    exact ⟨h, by rw [E_Mo_again_22, if_neg (by omega)], Fr.rf _ h, fun x x0 x1 => d x x0 (by omega)⟩
  | succ n ih =>
    intro i h w i0 hi s d
    have o := okF_t w.1
    have f1 : Fr (fun b x => b = 125 ∧ 0 ≤ x ∧ x < 1800) h (mW h 125 i (W i)) := Fr.W h _ ⟨rfl, by omega, by omega⟩
    obtain ⟨h2, g2, f2, d2⟩ := ih (i + 1) _ (w.of f1.1 (fun x _ => f1.2 124 x (by omega))) (by omega) (by omega) (fun x x0 x1 => by rw [mR_ni (by omega)]; exact s x x0 x1) (fun x x0 x1 => by
      by_cases z : x = i
      · rw [z, mR_same]
      · rw [mR_ni (by omega)]; exact d x x0 (by omega))
    refine ⟨h2, ?_, f1.tr f2, d2⟩
    rw [E_Mo_again_22, if_pos (show i < 1800 by omega), if_pos o, if_pos o, w.2.1.1, w32_id (x := k + 1) (by omega) (by omega), w32_id (x := 1800 * (k + 1)) (by omega) (by omega), w32_id (x := 1800 * (k + 1) + i) (by omega) (by omega), if_pos (okA_t w.2.2.1 (by omega) (by omega)), if_pos (okS_t w.2.2.1 (by decide) i0 (by omega)), hb_eq, s i i0 (by omega), w32_id (x := i + 1) (by omega) (by omega)]
    exact g2
theorem b_again {h : Hp} {T : Int → Int} (w : Inv h T) (m : Ims h) (k : Int) : ∃ a h1 h2 T', C_LS_again 1 k h = some (a, h1) ∧ C_Mo_again 124 k h1 = some (a, h2) ∧ Inv h2 T' ∧ Ims h2 ∧ Kp h h1 ∧ Kp h1 h2 := by
  by_cases q : 0 ≤ k ∧ k < 3
  · have o1 := iv1 w
    have i1 : mR h 1 1 = 81 := w.1.2.1.2.1
    have i0 : mR h 1 0 = 2 := w.1.2.1.1
    have l81 : mK h 81 = 115 ∧ mL h 81 = 3 := w.1.2.2.2.2.2.2.2.2.2.2.2.2.1
    have r81 := okR_t l81 (by omega) (by omega) (by omega) q.1 q.2
    have o126 : mK h 126 = 104 ∧ mL h 126 = 3 := w.2.2.2.1.2.2.2.1
    have i126 : mR h 124 1 = 126 := w.2.2.2.1.2.1.2.1
    rcases m.2.2 k q.1 q.2 with z | ⟨W, z1, z2⟩
    · refine ⟨0, h, h, T, ?_, ?_, w, m, Kp.rf h, Kp.rf h⟩
      · rw [E_LS_again, if_neg (by omega), if_pos q.2, if_pos o1, i1, if_pos r81, if_neg (by omega), if_pos z.1]
      · rw [E_Mo_again, m_isIn, bind_some', bI_t (by omega), if_neg n10, if_pos (ivM w), i126, if_pos (okB_z o126 q.1 q.2), if_pos z.2]
    · have b := z1.1
      obtain ⟨h1, g1, f1, c1⟩ := s_tcopy (A := 2) (B := mR h 81 k) ⟨w.2.1, z1.2.1, z1.2.2, by omega, by omega⟩
      have fW := f1.to pTo_W
      have cw : CIn h1 W := w.c.w fW c1
      have fC := fW.to pW_C
      have m1 := m.of (fC.to pC_I)
      have mm := w.m.of fC
      have r : ∀ b i, 81 ≤ b → mR h1 b i = mR h b i := fun b i p => f1.2 b i (fun x => by have := pTo_r x; omega)
      obtain ⟨h2, g2, f2, d2⟩ := l_magn (W := W) q.1 q.2 1800 0 h1 mm.1 (by omega) (by omega) (fun x x0 x1 => by rw [r 125 _ (by omega)]; exact z2.2 x x0 x1) (fun x x0 x1 => by omega)
      have fD : Fr pD h1 h2 := f2.to (fun b x p => by unfold pD; omega)
      refine ⟨1, h1, h2, W, ?_, ?_, Inv.j (cw.of fD) ⟨mm.1.of f2.1 (fun x _ => f2.2 124 x (by omega)), d2⟩, m1.of (fD.to pD_I), (fC.to pC_I).kI, (fD.to pD_I).kI⟩
      · rw [E_LS_again, if_neg (by omega), if_pos q.2, if_pos o1, i1, if_pos r81, if_neg (by omega), if_neg (show ¬ mR h 81 k = 0 by omega), if_pos o1, i0, if_pos o1, if_pos r81, if_pos (okF_t w.2.1.2.1), g1, bind_some']
      · have e126 : mR h1 126 k = 1 := by rw [r 126 k (by omega)]; exact z2.1
        have o2 : mK h1 126 = 104 ∧ mL h1 126 = 3 := by rw [f1.1.k, f1.1.l]; exact o126
        rw [E_Mo_again, m_isIn, bind_some', bI_t (by omega), if_neg n10, if_pos (miO mm), mm.1.2.1.2.1, if_pos (okB_z o2 q.1 q.2), if_neg (show ¬ mR h1 126 k = 0 by omega)]
        exact g2
  · refine ⟨0, h, h, T, ?_, ?_, w, m, Kp.rf h, Kp.rf h⟩
    · rw [E_LS_again]
      by_cases z : k < 0
      · rw [if_pos z]
      · rw [if_neg z, if_neg (by omega)]
    · rw [E_Mo_again, m_isIn, bind_some', bI_f (by omega), if_pos rfl]
