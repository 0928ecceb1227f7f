/-! The reader set to the tape. -/
theorem c_opn {h : Hp} {B : Int → Int} {L : Int} (k82 : mK h 82 = 6) (r0 : mR h 82 0 = 83) (k83 : mK h 83 = 101 ∧ mL h 83 = 500) (k3 : mK h 3 = 101 ∧ mL h 3 = 500) (by' : Byt B L) (tp : ∀ j, 0 ≤ j → j < L → mR h 3 j = w8 (B j)) : ∃ h', C_Re_open 82 3 L h = some (0, h') ∧ Fr (fun b i => b = 83 ∨ (b = 82 ∧ 1 ≤ i ∧ i ≤ 7)) h h' ∧ CR h' B L (0, 0, -1) := by
  have lb := by'.1
  have o : okF h 82 6 = true := okF_t k82
  let k1 := mW h 82 1 L
  let k2 := mC k1 3 0 83 0 L
  let k4 := mW k2 82 2 0
  let k5 := mW k4 82 6 0
  let k6 := mW k5 82 7 (-1)
  have fr : Fr (fun b i => b = 83 ∨ (b = 82 ∧ 1 ≤ i ∧ i ≤ 7)) h k6 := ((((Fr.W h L (Or.inr ⟨rfl, by decide, by decide⟩)).tr (Fr.C k1 3 83 L (fun i => Or.inl rfl))).tr (Fr.W k2 0 (Or.inr ⟨rfl, by decide, by decide⟩))).tr (Fr.W k4 0 (Or.inr ⟨rfl, by decide, by decide⟩))).tr (Fr.W k5 (-1) (Or.inr ⟨rfl, by decide, by decide⟩))
  have e0 : mR k1 82 0 = 83 := by show mR (mW h 82 1 L) 82 0 = _; rw [mR_ni (by decide)]; exact r0
  have e1 : mR k1 82 1 = L := mR_same _ _ _ _
  have c2 : ∀ i, mR k2 82 i = mR k1 82 i := fun i => mC_ne (by decide)
  have c83 : ∀ j, 0 ≤ j → j < L → mR k2 83 j = w8 (B j) := fun j j0 j1 => by
    show mR (mC k1 3 0 83 0 L) 83 j = _
    rw [mC_in j0 j1]
    show mR (mW h 82 1 L) 3 j = _
    rw [mR_ne (by decide)]
    exact tp j j0 j1
  have r6 : RdB k6 B L := by
    refine ⟨k82, ?_, k83, ?_, by', fun j j0 j1 => ?_⟩
    · show mR (mW (mW (mW k2 82 2 0) 82 6 0) 82 7 (-1)) 82 0 = _; rw [mR_ni (by decide), mR_ni (by decide), mR_ni (by decide), c2, e0]
    · show mR (mW (mW (mW k2 82 2 0) 82 6 0) 82 7 (-1)) 82 1 = _; rw [mR_ni (by decide), mR_ni (by decide), mR_ni (by decide), c2, e1]
    · show mR (mW (mW (mW k2 82 2 0) 82 6 0) 82 7 (-1)) 83 j = _; rw [mR_ne (by decide), mR_ne (by decide), mR_ne (by decide)]; exact c83 j j0 j1
  have s2 : mR k6 82 2 = 0 := by show mR (mW (mW (mW k2 82 2 0) 82 6 0) 82 7 (-1)) 82 2 = _; rw [mR_ni (by decide), mR_ni (by decide), mR_same]
  have s6 : mR k6 82 6 = 0 := by show mR (mW (mW (mW k2 82 2 0) 82 6 0) 82 7 (-1)) 82 6 = _; rw [mR_ni (by decide), mR_same]
  have s7 : mR k6 82 7 = -1 := mR_same _ _ _ _
  obtain ⟨h7, g7, f7, r7⟩ := s_step r6 s2 (by decide) lb.1
  refine ⟨h7, ?_, fr.tr (f7.to (fun b i q => Or.inr ⟨q.1, by have := q.2.1; omega, by have := q.2.2; omega⟩)), r7, by rw [f7.2 82 6 (by unfold pRs; omega)]; exact s6, by rw [f7.2 82 7 (by unfold pRs; omega)]; exact s7⟩
  rw [E_Re_open, if_pos (show okY h 3 = true from decide_eq_true (by rw [k3.1]; omega)), k3.2, E_Ma_min_II, if_neg (by decide), bind_some']
  dsimp only
  rw [E_Ma_min_II]
  have m1 : (if (500 : Int) < L then (some (500, h) : Res) else some (L, h)) = some (L, h) := if_neg (by omega)
  rw [m1, bind_some', E_Ma_max_II]
  have m2 : (if (0 : Int) < L then (some (L, h) : Res) else some (0, h)) = some (L, h) := by
    by_cases z : 0 < L
    · rw [if_pos z]
    · rw [if_neg z, show L = 0 by omega]
  dsimp only
  rw [m2, bind_some']
  dsimp only
  rw [if_pos o, hb_eq]
  show (if okF k1 82 6 = true then _ else _) = _
  rw [if_pos (show okF k1 82 6 = true from o), if_pos (show okF k1 82 6 = true from o), e0, e1, if_pos (show okC k1 3 0 83 0 L = true from okC_t (h := h) k3 k83 (by decide) (by decide) (by decide) (by decide) (by decide) lb.1 (by omega) (by omega)), hb_eq]
  show (if okF k2 82 6 = true then _ else _) = _
  rw [if_pos (show okF k2 82 6 = true from o), hb_eq, if_pos (show okF k4 82 6 = true from o), hb_eq, if_pos (show okF k5 82 6 = true from o), hb_eq, if_pos (show okF k6 82 6 = true from o)]
  show (C_Re_step 82 k6).bind _ = _
  rw [g7, bind_some']
