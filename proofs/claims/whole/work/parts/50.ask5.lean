/-! Far by a rung; what is barred; fault, speed. -/
noncomputable def aFar (T : Int → Int) (k j y t r : Int) : Int := cI (okL T k j y ∧ isT T k t) (if r = -1 then frsA T k j y t else cI (0 ≤ r ∧ r < catT T k 0) (fB (catT T k) y (sclA T k j y) t r) (-1)) (-1)
theorem q_far {h : Hp} {T : Int → Int} (w : Inv h T) (k j y t r : Int) : ∃ h', C_LS_far 1 k j y t r h = some (aFar T k j y t r, h') ∧ Fr pZ h h' := by
  rw [E_LS_far, if_pos (iv1 w), s_isThing w, bind_some']
  unfold aFar
  by_cases q1 : (0 ≤ k ∧ k < T 0) ∧ 0 ≤ t ∧ t < catT T k 1
  · rw [bI_t q1, if_neg n10, if_pos (iv1 w)]
    by_cases q2 : okL T k j y
    · obtain ⟨h1, g1, g2, g3⟩ := s_Look w q2
      have w1 := w.of (g2.to pL_Z)
      have u : SU h1 (catT T k) (frsA T k j y) := g3.2.1
      have v := (ivC w q1.1.1 q1.1.2).2.1.2.1
      refine ⟨h1, ?_, g2.to pL_Z⟩
      rw [g1, bind_some', if_neg n10, cI_t ⟨q2, q1.2⟩, if_pos (iv1 w1), if_pos (iv1 w1)]
      by_cases r0 : r = -1
      · rw [if_pos r0, if_pos r0, iv16 w1, if_pos (ivS w1), lk4 g3.1, if_pos (lkA113 g3.1 q1.2.1 (by omega)), u.2.1 t q1.2.1 (by omega)]
      · rw [if_neg r0, if_neg r0, s_isRung w1, bind_some']
        by_cases q3 : 0 ≤ r ∧ r < catT T k 0
        · rw [bI_t ⟨q1.1, q3⟩, if_neg n10, if_pos (iv1 w1), iv16 w1, if_pos (ivS w1), s_farBy g3.1 q1.2.1 q1.2.2 q3.1 q3.2, bind_some', cI_t q3, fB_congr (g3.2.2 r q3.1 q3.2)]
          rfl
        · rw [bI_f (fun z => q3 z.2), if_pos rfl, cI_f q3]
    · refine ⟨h, ?_, Fr.rf _ h⟩
      rw [s_LookN w q2, bind_some', if_pos rfl, cI_f (fun z => q2 z.1)]
  · refine ⟨h, ?_, Fr.rf _ h⟩
    rw [bI_f q1, if_pos rfl, cI_f (fun z => q1 ⟨z.1.1, z.2⟩)]
theorem r_far {h : Hp} {T : Int → Int} (w : Inv h T) (k j y t r : Int) : ∃ h', C_Mo_far 124 k j y t r h = some (aFar T k j y t r, h') ∧ Fr pZ h h' := by
  have n := ivn w
  rw [E_Mo_far, if_pos (ivM w), m_areAll w, bind_some']
  unfold aFar
  by_cases q2 : okL T k j y
  · have k1 := q2.1
    have j1 := q2.2.1
    rw [bI_t q2, if_neg n10, if_pos (ivM w), m_isThing w, bind_some']
    by_cases q1 : 0 ≤ t ∧ t < catT T k 1
    · have v := (ivC w k1.1 k1.2).2.1.2.1
      have v0 := (ivC w k1.1 k1.2).2.1.1
      obtain ⟨h1, g1, g2, mk1, u1, g3, w1⟩ := r_fars w q2
      rw [bI_t ⟨q2.1, q1⟩, if_neg n10, cI_t ⟨q2, q1⟩]
      by_cases r0 : r = -1
      · refine ⟨h1, ?_, g2.to pM_Z⟩
        rw [if_pos r0, if_pos r0, if_pos (ivM w), m_catAt k1.1 (by omega), bind_some', if_pos (ivM w), m_houAt j1.1 (by omega), bind_some', if_pos (ivM w), g1, bind_some', if_pos r0, if_pos (mkO mk1), mk12 mk1, if_pos (mkA9 mk1 q1.1 (by omega)), u1.2 t q1.1 (by omega)]
      · rw [if_neg r0, if_neg r0, if_pos (ivM w), m_isRung w, bind_some']
        by_cases q3 : 0 ≤ r ∧ r < catT T k 0
        · refine ⟨h1, ?_, g2.to pM_Z⟩
          have o := mk1.2.2.2.2.2.1
          have e3 := g3 r q3.1 q3.2
          have sb := sclT_b o mk1.2.2.2.2.2.2.1 y (catT T k 0).toNat (by omega) r
          have es : sclA T k j y r = sclT (catT T k) (houT T j) y (catT T k 0).toNat r := rfl
          rw [← es, ← e3] at sb
          have fb := fB_b o (y := y) (S := mR h1 128) q1.1 q1.2 q3.1 q3.2 sb.1 sb.2
          rw [bI_t ⟨q2.1, q3⟩, if_neg n10, cI_t q3, if_pos (ivM w), m_catAt k1.1 (by omega), bind_some', if_pos (ivM w), m_houAt j1.1 (by omega), bind_some', if_pos (ivM w), g1, bind_some', if_neg r0, if_pos (mkO mk1), mk11 mk1, if_pos (mkA8 mk1 q3.1 (by omega)), ← fB_congr (y := y) (t := t) e3]
          by_cases s0 : mR h1 128 r < 0
          · rw [if_pos s0, fb.2.2.2 (Or.inr (by omega))]
          · rw [if_neg s0, if_pos (mkO mk1), m_known mk1 q1.1 q1.2 q3.1 q3.2, bind_some']
            by_cases x0 : rawY (catT T k) y t r = 0
            · rw [fb.2.2.2 (Or.inl x0)]
              simp only [x0, ↓reduceIte]
            · simp only [x0, ↓reduceIte, n10, mkO mk1, m_farBy mk1 q1.1 q1.2 q3.1 q3.2 x0 (show mR h1 128 r ≠ -1 by omega), bind_some']
        · refine ⟨h, ?_, Fr.rf _ h⟩
          rw [bI_f (fun z => q3 z.2), if_pos rfl, cI_f q3]
    · refine ⟨h, ?_, Fr.rf _ h⟩
      rw [bI_f (fun z => q1 z.2), if_pos rfl, cI_f (fun z => q1 z.2)]
  · refine ⟨h, ?_, Fr.rf _ h⟩
    rw [bI_f q2, if_pos rfl, cI_f (fun z => q2 z.1)]
noncomputable def aSpeed (T : Int → Int) (k t : Int) : Int := cI ((0 ≤ k ∧ k < T 0) ∧ isT T k t) (catT T k (9 + t)) (-10000)
theorem q_speed {h : Hp} {T : Int → Int} (w : Inv h T) (k t : Int) : C_LS_speed 1 k t h = some (aSpeed T k t, h) := by
  have n := ivn w
  rw [E_LS_speed, if_pos (iv1 w), s_isThing w, bind_some']
  unfold aSpeed
  by_cases q1 : (0 ≤ k ∧ k < T 0) ∧ 0 ≤ t ∧ t < catT T k 1
  · have c := ivC w q1.1.1 q1.1.2
    have v := c.2.1.2.1
    rw [bI_t q1, if_neg n10, cI_t ⟨q1.1, q1.2⟩, if_pos (iv1 w), iv10 w, if_pos (iv2 w), iv28 w, if_pos (ivR4 w q1.1.1 (by omega)), iv4 w q1.1.1 (by omega), if_pos (cF c.1.1), c6 c.1.1, if_pos (cA4 c.1.1 q1.2.1 (by omega)), c.1.2.2.2.2.2.1 t q1.2.1 q1.2.2]
  · rw [bI_f q1, if_pos rfl, cI_f (fun z => q1 ⟨z.1, z.2⟩)]
theorem r_speed {h : Hp} {T : Int → Int} (w : Inv h T) (k t : Int) : C_Mo_speed 124 k t h = some (aSpeed T k t, h) := by
  have n := ivn w
  rw [E_Mo_speed, if_pos (ivM w), m_isThing w, bind_some']
  unfold aSpeed
  by_cases q1 : (0 ≤ k ∧ k < T 0) ∧ 0 ≤ t ∧ t < catT T k 1
  · have v := (ivC w q1.1.1 q1.1.2).2.1.2.1
    rw [bI_t q1, if_neg n10, cI_t ⟨q1.1, q1.2⟩, if_pos (ivM w), if_pos (ivM w), m_catAt q1.1.1 (by omega), bind_some']
    simp (disch := omega) only [ivM0 w, w32_id (x := 520 + 330 * k + 9), w32_id (x := 520 + 330 * k + 9 + t), ivMA w, ivMT w, ↓reduceIte]
    rw [Int.add_assoc, catE (T := T) (k := k) (o := 9 + t) (by omega) (by omega)]
  · rw [bI_f q1, if_pos rfl, cI_f (fun z => q1 ⟨z.1, z.2⟩)]
def aFault (T : Int → Int) (x : Int) : Int := if x = 0 then T 5 else if x = 1 then T 6 else -1
theorem q_fault {h : Hp} {T : Int → Int} (w : Inv h T) (x : Int) : C_LS_fault 1 x h = some (aFault T x, h) := by
  rw [E_LS_fault]
  simp only [iv1 w, iv10 w, iv16 w, iv2 w, iv28 w, iv29 w, iv24 w, iv25 w, iv26 w, ivR4 w, ivR5 w, iv4 w, iv5 w, ivS w, ↓reduceIte, bind_some', hb_eq, w.2.2.1.1.2.1, w.2.2.1.1.2.2.1, aFault]
  by_cases x0 : x = 0
  · rw [if_pos x0, if_pos x0]
  · by_cases x1 : x = 1
    · rw [if_neg x0, if_pos x1, if_neg x0, if_pos x1]
    · rw [if_neg x0, if_neg x1, if_neg x0, if_neg x1]
theorem r_fault {h : Hp} {T : Int → Int} (w : Inv h T) (x : Int) : C_Mo_fault 124 x h = some (aFault T x, h) := by
  rw [E_Mo_fault]
  simp (disch := omega) only [ivM w, ivM0 w, ivMA w, ivMT w, ↓reduceIte, aFault]
  by_cases x0 : x = 0
  · rw [if_pos x0, if_pos x0]
  · by_cases x1 : x = 1
    · rw [if_neg x0, if_pos x1, if_neg x0, if_pos x1]
    · rw [if_neg x0, if_neg x1, if_neg x0, if_neg x1]
