/-! end, on the class's side. -/
theorem TCo_end {h : Hp} {T : Int → Int} (w : CIn h T) {n : Int} (n0 : 0 ≤ n) (n1 : n ≤ T 4) : CIn (mW h 2 1 n) (up1 T 4 n) := by
  obtain ⟨w1, w2, w3⟩ := w
  have f : SK h (mW h 2 1 n) := SK.W h _ _ _
  have r : ∀ b i, ¬ (b = 2 ∧ i = 1) → mR (mW h 2 1 n) b i = mR h b i := fun b i q => by rw [mR_mW, if_neg q]
  refine ⟨?_, ?_, ?_⟩
  · unfold LSh at w1 ⊢
    simp only [f.k, f.l]
    obtain ⟨u1, u2, u3, u4, u5, u6, u7⟩ := w1
    rw [r 1 0 (by omega), r 1 1 (by omega), r 1 2 (by omega), r 1 3 (by omega), r 1 4 (by omega), r 1 5 (by omega), r 1 6 (by omega), r 1 7 (by omega), r 1 8 (by omega), r 1 9 (by omega), r 115 1 (by omega), r 115 2 (by omega), r 118 0 (by omega), r 118 1 (by omega), r 121 0 (by omega), r 121 1 (by omega), r 82 0 (by omega)]
    exact ⟨u1, u2, u3.of f (fun i _ _ => r _ i (by omega)), u4.of f (fun i _ _ => r _ i (by omega)), u5.of f (fun i _ _ => r _ i (by omega)), u6.of f (fun i _ _ => r _ i (by omega)), u7⟩
  · unfold TSh at w2 ⊢
    simp only [f.k, f.l]
    rw [r 2 0 (by omega), r 2 8 (by omega), r 2 9 (by omega), r 2 10 (by omega), r 2 11 (by omega)]
    obtain ⟨x1, x2, x3, x4, x5, x6, x7, x8, x9, x10, x11, x12⟩ := w2
    refine ⟨x1, x2, x3, x4, x5, x6, x7, x8, fun x x0 y1 => ?_, fun x x0 y1 => ?_, fun x x0 y1 => ?_, fun x x0 y1 => ?_⟩
    · rw [r (2 + 2) x (by omega)]
      exact ⟨(x9 x x0 y1).1, (x9 x x0 y1).2.of f (fun i _ _ => r _ i (by omega))⟩
    · rw [r (2 + 3) x (by omega)]
      exact ⟨(x10 x x0 y1).1, (x10 x x0 y1).2.of f (fun i _ _ => r _ i (by omega))⟩
    · rw [r (2 + 4) x (by omega)]
      exact ⟨(x11 x x0 y1).1, (x11 x x0 y1).2.of f (fun i _ _ => r _ i (by omega))⟩
    · rw [r (2 + 5) x (by omega)]
      exact x12 x x0 y1
  · unfold TCo at w3 ⊢
    obtain ⟨y1, y2, y3, y4, y5, y6, y7, y8, y9, y10, y11, y12⟩ := w3
    have t : ∀ i, i ≠ 4 → up1 T 4 n i = T i := fun i q => up1_n q
    rw [t 0 (by omega), t 1 (by omega), t 2 (by omega), t 3 (by omega), t 5 (by omega), t 6 (by omega), up1_s, mR_same, r 2 2 (by omega), r 2 3 (by omega), r 2 4 (by omega), r 2 5 (by omega), r 2 6 (by omega), r 2 7 (by omega)]
    refine ⟨⟨rfl, y1.2⟩, y2, y3, y4, y5, by omega, fun i i0 i1 => ?_, fun x x0 x1 => ?_, fun x x0 x1 => ?_, fun x x0 x1 => ?_, fun x j x0 x1 j0 j1 => ?_, fun x x0 x1 => ?_⟩
    · rw [r (2 + 1) i (by omega), t (10 + i) (by omega)]; exact y7 i i0 (by omega)
    · rw [slc_up (by omega)]; exact (y8 x x0 x1).of f (fun b i _ _ => r b i (by omega))
    · rw [slc_up (by omega)]; exact ⟨(y9 x x0 x1).1.of f (fun b i _ _ => r b i (by omega)), (y9 x x0 x1).2⟩
    · rw [slc_up (by omega)]; exact (y10 x x0 x1).of f (fun b i _ _ => r b i (by omega))
    · rw [r (2 + 63 + x) j (by omega), t _ (by omega)]; exact y11 x j x0 x1 j0 j1
    · unfold Yok; rw [t (1730 + 4 * x) (by omega), t (1731 + 4 * x) (by omega), t (1732 + 4 * x) (by omega), t (1733 + 4 * x) (by omega), t 1 (by omega)]; exact y12 x x0 x1
theorem q_end {h : Hp} {T : Int → Int} (w : CIn h T) (n : Int) : ∃ h', C_LS_end 1 n h = some (aEnd T n, h') ∧ Fr pC h h' ∧ CIn h' (tEnd T n) := by
  rw [E_LS_end]
  unfold aEnd tEnd
  have o1 : okF h 1 11 = true := okF_t w.1.1
  have o2 : okF h 2 10 = true := okF_t w.2.1.2.1
  have e0 : mR h 1 0 = 2 := w.1.2.1.1
  have e1 : mR h 2 1 = T 4 := w.2.2.1.1
  by_cases q : n < 0
  · rw [if_pos q, if_pos q, if_pos q]; exact ⟨h, rfl, Fr.rf _ h, w⟩
  · rw [if_neg q, if_neg q, if_neg q, if_pos o1, e0, if_pos o2, e1, if_pos o1, if_pos o2, hb_eq]
    by_cases q2 : T 4 < n
    · rw [if_pos q2, if_pos q2, if_pos q2]; exact ⟨h, rfl, Fr.rf _ h, w⟩
    · rw [if_neg q2, if_neg q2, if_neg q2]; exact ⟨_, rfl, Fr.W h _ (by unfold pC; omega), TCo_end w (by omega) (by omega)⟩
