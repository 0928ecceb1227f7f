/-! Questions that look once, on both sides. -/
noncomputable def cI (p : Prop) (a b : Int) : Int := @ite _ p (Classical.propDecidable p) a b
theorem cI_t {p : Prop} {a b : Int} (q : p) : cI p a b = a := if_pos q
theorem cI_f {p : Prop} {a b : Int} (q : ¬ p) : cI p a b = b := if_neg q
theorem m_isThing {h : Hp} {T : Int → Int} (w : Inv h T) (k t : Int) : C_Mo_isThing 124 k t h = some (bI ((0 ≤ k ∧ k < T 0) ∧ 0 ≤ t ∧ t < catT T k 1), h) := by
  have n := ivn w
  rw [E_Mo_isThing, if_pos (ivM w), m_isOf w (by omega) (by omega), bind_some']
  by_cases q : 0 ≤ k ∧ k < T 0
  · have v := (ivC w q.1 q.2).2.1.2.1
    rw [bI_t q, if_neg n10, if_pos (ivM w), if_pos (ivM w), m_catAt q.1 (by omega), bind_some']
    simp (disch := omega) only [ivM0 w, w32_id (x := 520 + 330 * k + 1), ivMA w, ivMT w, ↓reduceIte, m_isIn, bind_some']
    have e : T (520 + 330 * k + 1) = catT T k 1 := catE (by omega) (by omega)
    rw [e, w32_id (by omega) (by omega), bI_c (y := 0 ≤ t ∧ t < catT T k 1) (by omega)]
    by_cases q2 : 0 ≤ t ∧ t < catT T k 1
    · rw [bI_t q2, if_neg n10, bI_t ⟨q, q2⟩]
    · rw [bI_f q2, if_pos rfl, bI_f (fun z => q2 z.2)]
  · rw [bI_f q, if_pos rfl, bI_f (fun z => q z.1)]
theorem m_isRung {h : Hp} {T : Int → Int} (w : Inv h T) (k t : Int) : C_Mo_isRung 124 k t h = some (bI ((0 ≤ k ∧ k < T 0) ∧ 0 ≤ t ∧ t < catT T k 0), h) := by
  have n := ivn w
  rw [E_Mo_isRung, if_pos (ivM w), m_isOf w (by omega) (by omega), bind_some']
  by_cases q : 0 ≤ k ∧ k < T 0
  · have v := (ivC w q.1 q.2).2.1.1
    rw [bI_t q, if_neg n10, if_pos (ivM w), if_pos (ivM w), m_catAt q.1 (by omega), bind_some']
    simp (disch := omega) only [ivM0 w, w32_id (x := 520 + 330 * k + 0), ivMA w, ivMT w, ↓reduceIte, m_isIn, bind_some']
    have e : T (520 + 330 * k + 0) = catT T k 0 := catE (by omega) (by omega)
    rw [e, w32_id (by omega) (by omega), bI_c (y := 0 ≤ t ∧ t < catT T k 0) (by omega)]
    by_cases q2 : 0 ≤ t ∧ t < catT T k 0
    · rw [bI_t q2, if_neg n10, bI_t ⟨q, q2⟩]
    · rw [bI_f q2, if_pos rfl, bI_f (fun z => q2 z.2)]
  · rw [bI_f q, if_pos rfl, bI_f (fun z => q z.1)]
noncomputable def sclA (T : Int → Int) (k j y : Int) : Int → Int := sclT (catT T k) (houT T j) y (catT T k 0).toNat
noncomputable def frsA (T : Int → Int) (k j y : Int) : Int → Int := frs (catT T k) (houT T j) y
noncomputable def aScale (T : Int → Int) (k j y r : Int) : Int := cI (okL T k j y ∧ 0 ≤ r ∧ r < catT T k 0) (sclA T k j y r) (-1)
theorem q_scale {h : Hp} {T : Int → Int} (w : Inv h T) (k j y r : Int) : ∃ h', C_LS_scale 1 k j y r h = some (aScale T k j y r, h') ∧ Fr pZ h h' := by
  rw [E_LS_scale, if_pos (iv1 w), s_isRung w, bind_some']
  unfold aScale
  by_cases q1 : (0 ≤ k ∧ k < T 0) ∧ 0 ≤ r ∧ r < catT T k 0
  · rw [bI_t q1, if_neg n10, if_pos (iv1 w)]
    by_cases q2 : okL T k j y
    · obtain ⟨h1, g1, g2, g3⟩ := s_Look w q2
      have w1 := w.of (g2.to pL_Z)
      have v := (ivC w q1.1.1 q1.1.2).2.1.1
      refine ⟨h1, ?_, g2.to pL_Z⟩
      rw [g1, bind_some', if_neg n10, cI_t ⟨q2, q1.2⟩, if_pos (iv1 w1), iv16 w1, if_pos (ivS w1), lk3 g3.1, if_pos (lkA112 g3.1 q1.2.1 (by omega)), g3.2.2 r q1.2.1 q1.2.2]
      rfl
    · refine ⟨h, ?_, Fr.rf _ h⟩
      rw [s_LookN w q2, bind_some', if_pos rfl, cI_f (fun z => q2 z.1)]
  · refine ⟨h, ?_, Fr.rf _ h⟩
    rw [bI_f q1, if_pos rfl, cI_f (fun z => q1 ⟨z.1.1, z.2⟩)]
theorem r_scale {h : Hp} {T : Int → Int} (w : Inv h T) (k j y r : Int) : ∃ h', C_Mo_scale 124 k j y r h = some (aScale T k j y r, h') ∧ Fr pZ h h' := by
  have n := ivn w
  rw [E_Mo_scale, if_pos (ivM w), m_areAll w, bind_some']
  unfold aScale
  by_cases q2 : okL T k j y
  · have k1 := q2.1
    have j1 := q2.2.1
    rw [bI_t q2, if_neg n10, if_pos (ivM w), m_isRung w, bind_some']
    by_cases q1 : 0 ≤ r ∧ r < catT T k 0
    · have v := (ivC w k1.1 k1.2).2.1.1
      rw [bI_t ⟨q2.1, q1⟩, if_neg n10, if_pos (ivM w), m_catAt k1.1 (by omega), bind_some', if_pos (ivM w), m_houAt j1.1 (by omega), bind_some', if_pos (ivM w)]
      have mk := Inv.mk w (y := y) k1.1 k1.2 j1.1 j1.2
      obtain ⟨h1, g1, g2, g3⟩ := m_ladder mk
      have mk1 := mk.of g2
      refine ⟨h1, ?_, g2.to pM_Z⟩
      rw [g1, bind_some', if_pos (mkO mk1), mk11 mk1, if_pos (mkA8 mk1 q1.1 (by omega)), g3 r q1.1 q1.2, cI_t ⟨q2, q1⟩]
      rfl
    · refine ⟨h, ?_, Fr.rf _ h⟩
      rw [bI_f (fun z => q1 z.2), if_pos rfl, cI_f (fun z => q1 z.2)]
  · refine ⟨h, ?_, Fr.rf _ h⟩
    rw [bI_f q2, if_pos rfl, cI_f (fun z => q2 z.1)]
noncomputable def aLine (T : Int → Int) (k j y x : Int) : Int := cI (okL T k j y) (if x = 0 then sg (frsA T k j y) gN (-1) 24 else if x = 1 then slX (catT T k) (frsA T k j y) (-1) else if x = 2 then tuS (catT T k) (frsA T k j y) else if x = 3 then crS (catT T k) (frsA T k j y) else -2000000000) (-2000000000)
theorem q_line {h : Hp} {T : Int → Int} (w : Inv h T) (k j y x : Int) : ∃ h', C_LS_line 1 k j y x h = some (aLine T k j y x, h') ∧ Fr pZ h h' := by
  rw [E_LS_line, if_pos (iv1 w)]
  unfold aLine
  by_cases q2 : okL T k j y
  · obtain ⟨h1, g1, g2, g3⟩ := s_Look w q2
    have w1 := w.of (g2.to pL_Z)
    have u := g3.2.1
    refine ⟨h1, ?_, g2.to pL_Z⟩
    rw [g1, bind_some', if_neg n10, cI_t q2]
    simp only [iv1 w1, iv16 w1, ivS w1, ↓reduceIte, s_slope g3.1 u, s_turned g3.1 u, s_crossed g3.1 u, bind_some', u.2.2.1]
    by_cases x0 : x = 0
    · simp only [x0, ↓reduceIte]; rfl
    · by_cases x1 : x = 1
      · simp only [x1, ↓reduceIte, n10]; rfl
      · by_cases x2 : x = 2
        · simp only [x2, ↓reduceIte, (by decide : ¬ ((2 : Int) = 0)), (by decide : ¬ ((2 : Int) = 1))]; rfl
        · by_cases x3 : x = 3
          · simp only [x3, ↓reduceIte, (by decide : ¬ ((3 : Int) = 0)), (by decide : ¬ ((3 : Int) = 1)), (by decide : ¬ ((3 : Int) = 2))]; rfl
          · simp only [x0, x1, x2, x3, ↓reduceIte]
  · refine ⟨h, ?_, Fr.rf _ h⟩
    rw [s_LookN w q2, bind_some', if_pos rfl, cI_f q2]
theorem r_line {h : Hp} {T : Int → Int} (w : Inv h T) (k j y x : Int) : ∃ h', C_Mo_line 124 k j y x h = some (aLine T k j y x, h') ∧ Fr pZ h h' := by
  have n := ivn w
  rw [E_Mo_line, if_pos (ivM w), m_areAll w, bind_some']
  unfold aLine
  by_cases q2 : okL T k j y
  · have k1 := q2.1
    have j1 := q2.2.1
    rw [bI_t q2, if_neg n10, m_isIn, bind_some', cI_t q2]
    by_cases q1 : 0 ≤ x ∧ x ≤ 3
    · rw [bI_t q1, if_neg n10, if_pos (ivM w), m_catAt k1.1 (by omega), bind_some', if_pos (ivM w), m_houAt j1.1 (by omega), bind_some', if_pos (ivM w)]
      have mk := Inv.mk w (y := y) k1.1 k1.2 j1.1 j1.2
      obtain ⟨h1, g1, g2, mk1, u1, g3⟩ := m_fars mk
      obtain ⟨h2, p1, p2, p3⟩ := m_sums mk1 u1 (-1)
      have mk2 := mk1.of (p2.to pN_M)
      refine ⟨h2, ?_, (g2.tr (p2.to pN_M)).to pM_Z⟩
      have eF : frs (slc T (520 + 330 * k) 330) (slc T (1510 + 26 * j) 26) y = frsA T k j y := rfl
      have eV : slc T (520 + 330 * k) 330 = catT T k := rfl
      rw [eF] at p1
      rw [eF, eV] at p3
      rw [g1, bind_some', if_pos (mkO mk1), m_catAt k1.1 (by omega), bind_some', if_pos (mkO mk1), p1, bind_some']
      simp only [mkO mk2, ↓reduceIte, p3.1, p3.2.1, p3.2.2.1, p3.2.2.2.1, p3.2.2.2.2.1, p3.2.2.2.2.2]
      have x4 : x = 0 ∨ x = 1 ∨ x = 2 ∨ x = 3 := by omega
      rcases x4 with z | z | z | z
      · rw [z, if_pos rfl, if_pos rfl]
      · rw [z, if_neg n10, if_pos rfl, if_neg n10, if_pos rfl]
        by_cases s0 : sg (frsA T k j y) (gDD (frsA T k j y)) (-1) 24 = 0
        · simp only [s0, ↓reduceIte]
          unfold slX
          rw [if_pos s0]
        · simp only [s0, ↓reduceIte, n10, m_slope (mkO mk2) p3 s0, bind_some']
      · simp only [z, ↓reduceIte, (by decide : ¬ ((2 : Int) = 0)), (by decide : ¬ ((2 : Int) = 1)), tuS]
        by_cases s0 : sg (frsA T k j y) (gVD (catT T k) (frsA T k j y)) (-1) 24 = 0 <;> simp [s0]
      · simp only [z, ↓reduceIte, (by decide : ¬ ((3 : Int) = 0)), (by decide : ¬ ((3 : Int) = 1)), (by decide : ¬ ((3 : Int) = 2)), crS]
        have e : w64 (w64 (sg (frsA T k j y) gN (-1) 24 * sg (frsA T k j y) (gDD (frsA T k j y)) (-1) 24) - w64 (sg (frsA T k j y) (frsA T k j y) (-1) 24 * sg (frsA T k j y) (frsA T k j y) (-1) 24)) = crB (frsA T k j y) := rfl
        rw [e]
        by_cases s0 : crB (frsA T k j y) = 0 <;> simp [s0]
    · refine ⟨h, ?_, Fr.rf _ h⟩
      rw [bI_f q1, if_pos rfl, if_neg (by omega), if_neg (by omega), if_neg (by omega), if_neg (by omega)]
  · refine ⟨h, ?_, Fr.rf _ h⟩
    rw [bI_f q2, if_pos rfl, cI_f q2]
