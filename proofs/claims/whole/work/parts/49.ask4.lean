/-! Far, left, without, age. -/
def isT (T : Int → Int) (k t : Int) : Prop := 0 ≤ t ∧ t < catT T k 1
noncomputable def aWithout (T : Int → Int) (k j y t : Int) : Int := cI (okL T k j y ∧ isT T k t) (slB (catT T k) (frsA T k j y) t) (-2000000000)
theorem q_without {h : Hp} {T : Int → Int} (w : Inv h T) (k j y t : Int) : ∃ h', C_LS_without 1 k j y t h = some (aWithout T k j y t, h') ∧ Fr pZ h h' := by
  rw [E_LS_without, if_pos (iv1 w), s_isThing w, bind_some']
  unfold aWithout
  by_cases q1 : (0 ≤ k ∧ k < T 0) ∧ 0 ≤ t ∧ t < catT T k 1
  · rw [bI_t q1, if_neg n10, if_pos (iv1 w)]
    by_cases q2 : okL T k j y
    · obtain ⟨h1, g1, g2, g3⟩ := s_Look w q2
      have w1 := w.of (g2.to pL_Z)
      have u : SU h1 (catT T k) (frsA T k j y) := g3.2.1
      refine ⟨h1, ?_, g2.to pL_Z⟩
      rw [g1, bind_some', if_neg n10, cI_t ⟨q2, q1.2⟩, if_pos (iv1 w1), iv16 w1, if_pos (ivS w1), s_slopeBut g3.1 u q1.2.1 q1.2.2, bind_some']
    · refine ⟨h, ?_, Fr.rf _ h⟩
      rw [s_LookN w q2, bind_some', if_pos rfl, cI_f (fun z => q2 z.1)]
  · refine ⟨h, ?_, Fr.rf _ h⟩
    rw [bI_f q1, if_pos rfl, cI_f (fun z => q1 ⟨z.1.1, z.2⟩)]
theorem r_without {h : Hp} {T : Int → Int} (w : Inv h T) (k j y t : Int) : ∃ h', C_Mo_without 124 k j y t h = some (aWithout T k j y t, h') ∧ Fr pZ h h' := by
  have n := ivn w
  rw [E_Mo_without, if_pos (ivM w), m_areAll w, bind_some']
  unfold aWithout
  by_cases q2 : okL T k j y
  · have k1 := q2.1
    have j1 := q2.2.1
    rw [bI_t q2, if_neg n10, if_pos (ivM w), m_isThing w, bind_some']
    by_cases q1 : 0 ≤ t ∧ t < catT T k 1
    · have v := (ivC w k1.1 k1.2).2.1.2.1
      rw [bI_t ⟨q2.1, q1⟩, if_neg n10, if_pos (ivM w), m_catAt k1.1 (by omega), bind_some', if_pos (ivM w), m_houAt j1.1 (by omega), bind_some', if_pos (ivM w), cI_t ⟨q2, q1⟩]
      obtain ⟨h1, g1, g2, mk1, u1, g3, w1⟩ := r_fars w q2
      have o := mk1.2.2.2.2.2.1
      rw [g1, bind_some', if_pos (mkO mk1), mk12 mk1, if_pos (mkA9 mk1 q1.1 (by omega)), u1.2 t q1.1 (by omega), if_pos (mkO mk1)]
      by_cases f0 : frsA T k j y t < 0
      · refine ⟨h1, ?_, g2.to pM_Z⟩
        rw [if_pos f0, show slB (catT T k) (frsA T k j y) t = -2000000000 from if_pos f0]
      · obtain ⟨h2, p1, p2, p3⟩ := m_sums mk1 u1 t
        have mk2 := mk1.of (p2.to pN_M)
        refine ⟨h2, ?_, (g2.tr (p2.to pN_M)).to pM_Z⟩
        rw [if_neg f0, p1, bind_some']
        by_cases s0 : sg (frsA T k j y) (gDD (frsA T k j y)) t 24 = 0
        · rw [(slB_k o u1.1 f0).2 s0]
          simp only [s0, ↓reduceIte]
        · rw [show slB (catT T k) (frsA T k j y) t = slX (catT T k) (frsA T k j y) t from if_neg f0]
          simp only [s0, ↓reduceIte, n10, m_slope (mkO mk2) p3 s0, bind_some', mkO mk2]
    · refine ⟨h, ?_, Fr.rf _ h⟩
      rw [bI_f (fun z => q1 z.2), if_pos rfl, cI_f (fun z => q1 z.2)]
  · refine ⟨h, ?_, Fr.rf _ h⟩
    rw [bI_f q2, if_pos rfl, cI_f (fun z => q2 z.1)]
noncomputable def aLeft (T : Int → Int) (k j y t : Int) : Int := cI (okL T k j y ∧ isT T k t ∧ ¬ frsA T k j y t < 0 ∧ sg (frsA T k j y) (gDD (frsA T k j y)) (-1) 24 ≠ 0) (lfO (catT T k) (frsA T k j y) (slX (catT T k) (frsA T k j y) (-1)) t) (-1000000)
theorem q_left {h : Hp} {T : Int → Int} (w : Inv h T) (k j y t : Int) : ∃ h', C_LS_left 1 k j y t h = some (aLeft T k j y t, h') ∧ Fr pZ h h' := by
  rw [E_LS_left, if_pos (iv1 w), s_isThing w, bind_some']
  unfold aLeft
  by_cases q1 : (0 ≤ k ∧ k < T 0) ∧ 0 ≤ t ∧ t < catT T k 1
  · rw [bI_t q1, if_neg n10, if_pos (iv1 w)]
    by_cases q2 : okL T k j y
    · obtain ⟨h1, g1, g2, g3⟩ := s_Look w q2
      have w1 := w.of (g2.to pL_Z)
      have u : SU h1 (catT T k) (frsA T k j y) := g3.2.1
      have o := g3.1.2.2.2.2.2.2.1
      have v := (ivC w q1.1.1 q1.1.2).2.1.2.1
      have ft := u.1 t q1.2.1 (by omega)
      refine ⟨h1, ?_, g2.to pL_Z⟩
      rw [g1, bind_some', if_neg n10, if_pos (iv1 w1), iv16 w1, if_pos (ivS w1), s_slope g3.1 u, bind_some']
      by_cases s0 : sg (frsA T k j y) (gDD (frsA T k j y)) (-1) 24 = 0
      · rw [if_pos ((slX_n o u.1 (-1)).2 s0), cI_f (fun z => z.2.2.2 s0)]
      · rw [if_neg (fun z => s0 ((slX_n o u.1 (-1)).1 z)), if_pos (iv1 w1), iv16 w1, if_pos (ivS w1), lk4 g3.1, if_pos (lkA113 g3.1 q1.2.1 (by omega)), u.2.1 t q1.2.1 (by omega), if_pos (iv1 w1), if_pos (ivS w1)]
        by_cases f0 : frsA T k j y t = -1
        · rw [if_pos f0, cI_f (fun z => z.2.2.1 (by omega))]
        · rw [if_neg f0, s_leftOf g3.1 u q1.2.1 q1.2.2, bind_some', cI_t ⟨q2, q1.2, by omega, s0⟩]
    · refine ⟨h, ?_, Fr.rf _ h⟩
      rw [s_LookN w q2, bind_some', if_pos rfl, cI_f (fun z => q2 z.1)]
  · refine ⟨h, ?_, Fr.rf _ h⟩
    rw [bI_f q1, if_pos rfl, cI_f (fun z => q1 ⟨z.1.1, z.2.1⟩)]
theorem r_left {h : Hp} {T : Int → Int} (w : Inv h T) (k j y t : Int) : ∃ h', C_Mo_left 124 k j y t h = some (aLeft T k j y t, h') ∧ Fr pZ h h' := by
  have n := ivn w
  rw [E_Mo_left, if_pos (ivM w), m_areAll w, bind_some']
  unfold aLeft
  by_cases q2 : okL T k j y
  · have k1 := q2.1
    have j1 := q2.2.1
    rw [bI_t q2, if_neg n10, if_pos (ivM w), m_isThing w, bind_some']
    by_cases q1 : 0 ≤ t ∧ t < catT T k 1
    · have v := (ivC w k1.1 k1.2).2.1.2.1
      rw [bI_t ⟨q2.1, q1⟩, if_neg n10, if_pos (ivM w), m_catAt k1.1 (by omega), bind_some', if_pos (ivM w), m_houAt j1.1 (by omega), bind_some', if_pos (ivM w)]
      obtain ⟨h1, g1, g2, mk1, u1, g3, w1⟩ := r_fars w q2
      rw [g1, bind_some', if_pos (mkO mk1), mk12 mk1, if_pos (mkA9 mk1 q1.1 (by omega)), u1.2 t q1.1 (by omega), if_pos (mkO mk1)]
      by_cases f0 : frsA T k j y t < 0
      · refine ⟨h1, ?_, g2.to pM_Z⟩
        rw [if_pos f0, cI_f (fun z => z.2.2.1 f0)]
      · obtain ⟨h2, p1, p2, p3⟩ := m_sums mk1 u1 (-1)
        have mk2 := mk1.of (p2.to pN_M)
        have u2 := u1.of p2
        refine ⟨h2, ?_, (g2.tr (p2.to pN_M)).to pM_Z⟩
        rw [if_neg f0, p1, bind_some']
        by_cases s0 : sg (frsA T k j y) (gDD (frsA T k j y)) (-1) 24 = 0
        · rw [cI_f (fun z => z.2.2.2 s0)]
          simp only [s0, ↓reduceIte]
        · rw [cI_t ⟨q2, q1, f0, s0⟩]
          simp only [s0, ↓reduceIte, n10, m_slope (mkO mk2) p3 s0, bind_some', mkO mk2, m_left mk2 u2 q1.1 (show t < 24 by omega)]
    · refine ⟨h, ?_, Fr.rf _ h⟩
      rw [bI_f (fun z => q1 z.2), if_pos rfl, cI_f (fun z => q1 z.2.1)]
  · refine ⟨h, ?_, Fr.rf _ h⟩
    rw [bI_f q2, if_pos rfl, cI_f (fun z => q2 z.1)]
def agB (x : Int) : Int := if 0 < x then w32 (w64 (Int.tdiv 100000000 x)) else -1
theorem s_ageBy (x : Int) (h : Hp) : C_LS_ageBy x h = some (agB x, h) := by
  rw [E_LS_ageBy]
  unfold agB
  by_cases q : 0 < x
  · rw [if_pos q, if_neg (by omega), if_pos q]
  · rw [if_neg q, if_neg q]
noncomputable def aAge (T : Int → Int) (k j y : Int) : Int := cI (okL T k j y) (agB (slX (catT T k) (frsA T k j y) (-1))) (-1)
theorem q_age {h : Hp} {T : Int → Int} (w : Inv h T) (k j y : Int) : ∃ h', C_LS_age 1 k j y h = some (aAge T k j y, h') ∧ Fr pZ h h' := by
  rw [E_LS_age, if_pos (iv1 w)]
  unfold aAge
  by_cases q2 : okL T k j y
  · obtain ⟨h1, g1, g2, g3⟩ := s_Look w q2
    have w1 := w.of (g2.to pL_Z)
    have u : SU h1 (catT T k) (frsA T k j y) := g3.2.1
    refine ⟨h1, ?_, g2.to pL_Z⟩
    rw [g1, bind_some', if_neg n10, cI_t q2, if_pos (iv1 w1), iv16 w1, if_pos (ivS w1), s_slope g3.1 u, bind_some', s_ageBy, bind_some']
  · refine ⟨h, ?_, Fr.rf _ h⟩
    rw [s_LookN w q2, bind_some', if_pos rfl, cI_f q2]
theorem r_age {h : Hp} {T : Int → Int} (w : Inv h T) (k j y : Int) : ∃ h', C_Mo_age 124 k j y h = some (aAge T k j y, h') ∧ Fr pZ h h' := by
  have n := ivn w
  rw [E_Mo_age, if_pos (ivM w), m_areAll w, bind_some']
  unfold aAge
  by_cases q2 : okL T k j y
  · have k1 := q2.1
    have j1 := q2.2.1
    rw [bI_t q2, if_neg n10, if_pos (ivM w), m_catAt k1.1 (by omega), bind_some', if_pos (ivM w), m_houAt j1.1 (by omega), bind_some', if_pos (ivM w), cI_t q2]
    obtain ⟨h1, g1, g2, g3⟩ := m_slopeOf (ivMK w (y := y) k1.1 k1.2 j1.1 j1.2)
    refine ⟨h1, ?_, g2.to pM_Z⟩
    have eF : frs (catT T k) (houT T j) y = frsA T k j y := rfl
    rw [g1, bind_some', eF]
    unfold agB
    by_cases q : 0 < slX (catT T k) (frsA T k j y) (-1)
    · rw [if_pos q, if_neg (by show ¬ slX (catT T k) (frsA T k j y) (-1) = 0; omega), if_pos q]
    · rw [if_neg q, if_neg q]
  · refine ⟨h, ?_, Fr.rf _ h⟩
    rw [bI_f q2, if_pos rfl, cI_f q2]
