/-! Entries; what a house holds. -/
noncomputable def aEntry (T : Int → Int) (k t r f : Int) : Int := cI ((0 ≤ k ∧ k < T 0) ∧ (0 ≤ t ∧ t < catT T k 1) ∧ 0 ≤ r ∧ r < catT T k 0) (if catT T k (33 + 6 * t + r) = 0 then -1 else if f = 0 then catT T k (33 + 6 * t + r) else catT T k (177 + 6 * t + r)) (-1)
theorem q_entry {h : Hp} {T : Int → Int} (w : Inv h T) (k t r f : Int) : C_LS_entry 1 k t r f h = some (aEntry T k t r f, h) := by
  have n := ivn w
  rw [E_LS_entry, if_pos (iv1 w), s_isThing w, bind_some']
  unfold aEntry
  by_cases q1 : (0 ≤ k ∧ k < T 0) ∧ 0 ≤ t ∧ t < catT T k 1
  · rw [bI_t q1, if_neg n10, if_pos (iv1 w), s_isRung w, bind_some']
    by_cases q2 : 0 ≤ r ∧ r < catT T k 0
    · have c := ivC w q1.1.1 q1.1.2
      have v := c.2.1.2.1
      have v0 := c.2.1.1
      have e := c.1.2.2.2.2.2.2 t r q1.2.1 q1.2.2 q2.1 q2.2
      rw [bI_t ⟨q1.1, q2⟩, if_neg n10, cI_t ⟨q1.1, q1.2, q2⟩, if_pos (iv1 w), iv10 w, if_pos (iv2 w), iv28 w, if_pos (ivR4 w q1.1.1 (by omega)), iv4 w q1.1.1 (by omega), if_pos (cF c.1.1), c7 c.1.1, c8 c.1.1, w32_id (x := t * 6) (by omega) (by omega), w32_id (x := t * 6 + r) (by omega) (by omega), if_pos (cA5 c.1.1 (by omega) (by omega)), e.1, if_pos (cF c.1.1), if_pos (cA5 c.1.1 (by omega) (by omega)), if_pos (cF c.1.1), if_pos (cA6 c.1.1 (by omega) (by omega))]
      by_cases x0 : catT T k (33 + 6 * t + r) = 0
      · rw [if_pos x0, if_pos x0]
      · rw [if_neg x0, if_neg x0, e.2 x0]
        by_cases f0 : f = 0
        · rw [if_pos f0, if_pos f0]
        · rw [if_neg f0, if_neg f0]
    · rw [bI_f (fun z => q2 z.2), if_pos rfl, cI_f (fun z => q2 z.2.2)]
  · rw [bI_f q1, if_pos rfl, cI_f (fun z => q1 ⟨z.1, z.2.1⟩)]
theorem r_entry {h : Hp} {T : Int → Int} (w : Inv h T) (k t r f : Int) : C_Mo_entry 124 k t r f h = some (aEntry T k t r f, h) := by
  have n := ivn w
  rw [E_Mo_entry, if_pos (ivM w), m_isThing w, bind_some']
  unfold aEntry
  by_cases q1 : (0 ≤ k ∧ k < T 0) ∧ 0 ≤ t ∧ t < catT T k 1
  · rw [bI_t q1, if_neg n10, if_pos (ivM w), m_isRung w, bind_some']
    by_cases q2 : 0 ≤ r ∧ r < catT T k 0
    · have c := ivC w q1.1.1 q1.1.2
      have v := c.2.1.2.1
      have v0 := c.2.1.1
      have e1 : T (520 + 330 * k + 33 + 6 * t + r) = catT T k (33 + 6 * t + r) := by rw [← catE (T := T) (k := k) (by omega) (by omega)]; congr 1; omega
      have e2 : T (520 + 330 * k + 177 + 6 * t + r) = catT T k (177 + 6 * t + r) := by rw [← catE (T := T) (k := k) (by omega) (by omega)]; congr 1; omega
      rw [bI_t ⟨q1.1, q2⟩, if_neg n10, cI_t ⟨q1.1, q1.2, q2⟩, if_pos (ivM w), m_catAt q1.1.1 (by omega), bind_some']
      simp (disch := omega) only [ivM w, ivM0 w, w32_id (x := 520 + 330 * k + 33), w32_id (x := 520 + 330 * k + 177), w32_id (x := 6 * t), w32_id (x := 520 + 330 * k + 33 + 6 * t), w32_id (x := 520 + 330 * k + 33 + 6 * t + r), w32_id (x := 520 + 330 * k + 177 + 6 * t), w32_id (x := 520 + 330 * k + 177 + 6 * t + r), ivMA w, ivMT w, ↓reduceIte, e1, e2]
      by_cases x0 : catT T k (33 + 6 * t + r) = 0
      · rw [if_pos x0, if_pos x0]
      · rw [if_neg x0, if_neg x0]
        by_cases f0 : f = 0
        · rw [if_pos f0, if_pos f0]
        · rw [if_neg f0, if_neg f0]
    · rw [bI_f (fun z => q2 z.2), if_pos rfl, cI_f (fun z => q2 z.2.2)]
  · rw [bI_f q1, if_pos rfl, cI_f (fun z => q1 ⟨z.1, z.2.1⟩)]
noncomputable def aOf (T : Int → Int) (k x : Int) : Int := cI (0 ≤ k ∧ k < T 1) (if 0 ≤ x ∧ x ≤ 3 then houT T k x else if 10 ≤ x ∧ x ≤ 15 then houT T k (x - 6) else -100) (-100)
theorem q_of {h : Hp} {T : Int → Int} (w : Inv h T) (k x : Int) : C_LS_of 1 k x h = some (aOf T k x, h) := by
  have n := ivn w
  rw [E_LS_of, if_pos (iv1 w), s_isHou w, bind_some']
  unfold aOf
  by_cases q1 : 0 ≤ k ∧ k < T 1
  · have c := (ivH w q1.1 q1.2).1
    rw [bI_t q1, if_neg n10, cI_t q1]
    simp (disch := omega) only [iv1 w, iv10 w, iv16 w, iv2 w, iv28 w, iv29 w, iv24 w, iv25 w, iv26 w, ivR4 w, ivR5 w, iv4 w, iv5 w, ivS w, ↓reduceIte, bind_some', hb_eq, hF c.1, c.2.2.1, c.2.2.2.1, c.2.2.2.2.1, c.2.2.2.2.2.1, h4 c.1]
    by_cases x0 : x = 0
    · rw [if_pos x0, x0, if_pos (by omega)]
    · by_cases x1 : x = 1
      · rw [if_neg x0, if_pos x1, x1, if_pos (by omega)]
      · by_cases x2 : x = 2
        · rw [if_neg x0, if_neg x1, if_pos x2, x2, if_pos (by omega)]
        · by_cases x3 : x = 3
          · rw [if_neg x0, if_neg x1, if_neg x2, if_pos x3, x3, if_pos (by omega)]
          · rw [if_neg x0, if_neg x1, if_neg x2, if_neg x3, if_neg (show ¬ (0 ≤ x ∧ x ≤ 3) by omega)]
            by_cases y0 : x < 10
            · rw [if_pos y0, if_neg (show ¬ (10 ≤ x ∧ x ≤ 15) by omega)]
            · rw [if_neg y0]
              by_cases y1 : x < 16
              · rw [if_pos y1, w32_id (x := x - 10) (by omega) (by omega), if_pos (hA1 c.1 (by omega) (by omega)), c.2.2.2.2.2.2.1 (x - 10) (by omega) (by omega), if_pos (show 10 ≤ x ∧ x ≤ 15 by omega), show 4 + (x - 10) = x - 6 by omega]
              · rw [if_neg y1, if_neg (show ¬ (10 ≤ x ∧ x ≤ 15) by omega)]
  · rw [bI_f q1, if_pos rfl, cI_f q1]
theorem r_of {h : Hp} {T : Int → Int} (w : Inv h T) (k x : Int) : C_Mo_of 124 k x h = some (aOf T k x, h) := by
  have n := ivn w
  rw [E_Mo_of, if_pos (ivM w), m_isOf w (by omega) (by omega), bind_some']
  unfold aOf
  by_cases q1 : 0 ≤ k ∧ k < T 1
  · rw [bI_t q1, if_neg n10, cI_t q1, m_isIn, bind_some']
    by_cases x0 : 10 ≤ x ∧ x ≤ 15
    · rw [bI_t x0, if_neg n10, if_pos (ivM w), if_pos (ivM w), m_houAt q1.1 (by omega), bind_some', if_neg (show ¬ (0 ≤ x ∧ x ≤ 3) by omega), if_pos x0]
      have e : T (1510 + 26 * k + 4 + x - 10) = houT T k (x - 6) := by rw [← houE (T := T) (k := k) (by omega) (by omega)]; congr 1; omega
      simp (disch := omega) only [ivM0 w, w32_id (x := 1510 + 26 * k + 4), w32_id (x := 1510 + 26 * k + 4 + x), w32_id (x := 1510 + 26 * k + 4 + x - 10), ivMA w, ivMT w, ↓reduceIte, e]
    · rw [bI_f x0, if_pos rfl, m_isIn, bind_some']
      by_cases x1 : 0 ≤ x ∧ x ≤ 3
      · rw [bI_t x1, if_neg n10, if_pos (ivM w), if_pos (ivM w), m_houAt q1.1 (by omega), bind_some', if_pos x1]
        have e : T (1510 + 26 * k + x) = houT T k x := houE (by omega) (by omega)
        simp (disch := omega) only [ivM0 w, w32_id (x := 1510 + 26 * k + x), ivMA w, ivMT w, ↓reduceIte, e]
      · rw [bI_f x1, if_pos rfl, if_neg x1, if_neg x0]
  · rw [bI_f q1, if_pos rfl, cI_f q1]
