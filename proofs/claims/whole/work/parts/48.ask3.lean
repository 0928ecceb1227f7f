/-! More questions that look once. -/
theorem ivMK {h : Hp} {T : Int → Int} (w : Inv h T) {k j y : Int} (k0 : 0 ≤ k) (k1 : k < T 0) (j0 : 0 ≤ j) (j1 : j < T 1) : MK h (520 + 330 * k) (1510 + 26 * j) y (catT T k) (houT T j) := Inv.mk w k0 k1 j0 j1
/-- the reference's way up to the fars -/
theorem r_fars {h : Hp} {T : Int → Int} (w : Inv h T) {k j y : Int} (q : okL T k j y) : ∃ h', C_Mo_farsOf 124 (520 + 330 * k) (1510 + 26 * j) y h = some (0, h') ∧ Fr pM h h' ∧ MK h' (520 + 330 * k) (1510 + 26 * j) y (catT T k) (houT T j) ∧ FM h' (catT T k) (frsA T k j y) ∧ (∀ i, 0 ≤ i → i < catT T k 0 → mR h' 128 i = sclA T k j y i) ∧ Inv h' T := by
  obtain ⟨h1, g1, g2, g3, g4, g5⟩ := m_fars (ivMK w (y := y) q.1.1 q.1.2 q.2.1.1 q.2.1.2)
  exact ⟨h1, g1, g2, g3, g4, g5, w.of (g2.to pM_Z)⟩
noncomputable def aSpread (T : Int → Int) (k j y : Int) : Int := cI (okL T k j y ∧ sg (frsA T k j y) (gDD (frsA T k j y)) (-1) 24 ≠ 0) (spX (catT T k) (frsA T k j y) (-1) (slX (catT T k) (frsA T k j y) (-1))) (-1)
theorem q_spread {h : Hp} {T : Int → Int} (w : Inv h T) (k j y : Int) : ∃ h', C_LS_spread 1 k j y h = some (aSpread T k j y, h') ∧ Fr pZ h h' := by
  rw [E_LS_spread, if_pos (iv1 w)]
  unfold aSpread
  by_cases q2 : okL T k j y
  · obtain ⟨h1, g1, g2, g3⟩ := s_Look w q2
    have w1 := w.of (g2.to pL_Z)
    have u : SU h1 (catT T k) (frsA T k j y) := g3.2.1
    have o := g3.1.2.2.2.2.2.2.1
    refine ⟨h1, ?_, g2.to pL_Z⟩
    rw [g1, bind_some', if_neg n10, if_pos (iv1 w1), iv16 w1, if_pos (ivS w1), s_slope g3.1 u, bind_some']
    by_cases s0 : sg (frsA T k j y) (gDD (frsA T k j y)) (-1) 24 = 0
    · rw [if_pos ((slX_n o u.1 (-1)).2 s0), cI_f (fun z => z.2 s0)]
    · rw [if_neg (fun z => s0 ((slX_n o u.1 (-1)).1 z)), if_pos (iv1 w1), iv16 w1, if_pos (ivS w1), s_spread g3.1 u, bind_some', cI_t ⟨q2, s0⟩]
  · refine ⟨h, ?_, Fr.rf _ h⟩
    rw [s_LookN w q2, bind_some', if_pos rfl, cI_f (fun z => q2 z.1)]
theorem r_spread {h : Hp} {T : Int → Int} (w : Inv h T) (k j y : Int) : ∃ h', C_Mo_spread 124 k j y h = some (aSpread T k j y, h') ∧ Fr pZ h h' := by
  have n := ivn w
  rw [E_Mo_spread, if_pos (ivM w), m_areAll w, bind_some']
  unfold aSpread
  by_cases q2 : okL T k j y
  · have k1 := q2.1
    have j1 := q2.2.1
    rw [bI_t q2, if_neg n10, if_pos (ivM w), m_catAt k1.1 (by omega), bind_some', if_pos (ivM w), m_houAt j1.1 (by omega), bind_some', if_pos (ivM w)]
    obtain ⟨h1, g1, g2, mk1, u1, g3, w1⟩ := r_fars w q2
    obtain ⟨h2, p1, p2, p3⟩ := m_sums mk1 u1 (-1)
    have mk2 := mk1.of (p2.to pN_M)
    have u2 := u1.of p2
    refine ⟨h2, ?_, (g2.tr (p2.to pN_M)).to pM_Z⟩
    rw [g1, bind_some', if_pos (mkO mk1), p1, bind_some']
    by_cases s0 : sg (frsA T k j y) (gDD (frsA T k j y)) (-1) 24 = 0
    · simp only [s0, ↓reduceIte]
      rw [cI_f (fun z => z.2 rfl)]
    · simp only [s0, ↓reduceIte, n10, m_slope (mkO mk2) p3 s0, bind_some', mkO mk2, m_spread mk2 u2]
      rw [cI_t ⟨q2, s0⟩]
  · refine ⟨h, ?_, Fr.rf _ h⟩
    rw [bI_f q2, if_pos rfl, cI_f (fun z => q2 z.1)]
noncomputable def aOdd (T : Int → Int) (k j y x : Int) : Int := cI (okL T k j y) (if x = 0 then od (catT T k) (frsA T k j y) else hv (catT T k) (frsA T k j y)) (-1)
theorem q_odd {h : Hp} {T : Int → Int} (w : Inv h T) (k j y x : Int) : ∃ h', C_LS_odd 1 k j y x h = some (aOdd T k j y x, h') ∧ Fr pZ h h' := by
  rw [E_LS_odd, if_pos (iv1 w)]
  unfold aOdd
  by_cases q2 : okL T k j y
  · obtain ⟨h1, g1, g2, g3⟩ := s_Look w q2
    have w1 := w.of (g2.to pL_Z)
    have u : SU h1 (catT T k) (frsA T k j y) := g3.2.1
    refine ⟨h1, ?_, g2.to pL_Z⟩
    rw [g1, bind_some', if_neg n10, cI_t q2, if_pos (iv1 w1), iv16 w1, if_pos (ivS w1), if_pos (iv1 w1), if_pos (ivS w1)]
    by_cases x0 : x = 0
    · rw [if_pos x0, if_pos x0, s_odd g3.1 u, bind_some']
    · rw [if_neg x0, if_neg x0, s_heavy g3.1 u, bind_some']
  · refine ⟨h, ?_, Fr.rf _ h⟩
    rw [s_LookN w q2, bind_some', if_pos rfl, cI_f q2]
theorem r_odd {h : Hp} {T : Int → Int} (w : Inv h T) (k j y x : Int) : ∃ h', C_Mo_odd 124 k j y x h = some (aOdd T k j y x, h') ∧ Fr pZ h h' := by
  have n := ivn w
  rw [E_Mo_odd, if_pos (ivM w), m_areAll w, bind_some']
  unfold aOdd
  by_cases q2 : okL T k j y
  · have k1 := q2.1
    have j1 := q2.2.1
    rw [bI_t q2, if_neg n10, if_pos (ivM w), m_catAt k1.1 (by omega), bind_some', if_pos (ivM w), m_houAt j1.1 (by omega), bind_some', if_pos (ivM w), cI_t q2]
    obtain ⟨h1, g1, g2, mk1, u1, g3, w1⟩ := r_fars w q2
    rw [g1, bind_some', if_pos (mkO mk1), m_catAt k1.1 (by omega), bind_some', if_pos (mkO mk1)]
    by_cases x0 : x = 0
    · obtain ⟨h2, p1, p2⟩ := m_odd mk1 u1
      refine ⟨h2, ?_, (g2.tr (p2.to pN_M)).to pM_Z⟩
      rw [x0, if_pos rfl, p1, bind_some']
    · obtain ⟨h2, p1, p2⟩ := m_heavy mk1 u1 x0
      refine ⟨h2, ?_, (g2.tr (p2.to pN_M)).to pM_Z⟩
      rw [if_neg x0, p1, bind_some']
  · refine ⟨h, ?_, Fr.rf _ h⟩
    rw [bI_f q2, if_pos rfl, cI_f q2]
noncomputable def aSpan (T : Int → Int) (k j y x : Int) : Int := cI (okL T k j y) (if x = 0 then low (catT T k) (frsA T k j y) else high (catT T k) (frsA T k j y)) (-2000000000)
theorem q_span {h : Hp} {T : Int → Int} (w : Inv h T) (k j y x : Int) : ∃ h', C_LS_span 1 k j y x h = some (aSpan T k j y x, h') ∧ Fr pZ h h' := by
  rw [E_LS_span, if_pos (iv1 w)]
  unfold aSpan
  by_cases q2 : okL T k j y
  · obtain ⟨h1, g1, g2, g3⟩ := s_Look w q2
    have w1 := w.of (g2.to pL_Z)
    have u : SU h1 (catT T k) (frsA T k j y) := g3.2.1
    refine ⟨h1, ?_, g2.to pL_Z⟩
    rw [g1, bind_some', if_neg n10, cI_t q2, if_pos (iv1 w1), iv16 w1, if_pos (ivS w1), if_pos (iv1 w1), if_pos (ivS w1)]
    by_cases x0 : x = 0
    · rw [if_pos x0, if_pos x0, s_low g3.1 u, bind_some']
    · rw [if_neg x0, if_neg x0, s_high g3.1 u, bind_some']
  · refine ⟨h, ?_, Fr.rf _ h⟩
    rw [s_LookN w q2, bind_some', if_pos rfl, cI_f q2]
/-- no lowest one, no highest one -/
theorem lo_hi (V F : Int → Int) : low V F = -2000000000 ↔ high V F = -2000000000 := by
  have := itN_ind (F := fun t (p : Int × Int) => (loF V F t p.1, hiF V F t p.2)) (fun _ p => (p.1 = -2000000000 ↔ p.2 = -2000000000)) 24 0 (-2000000000, -2000000000) (Iff.rfl) (fun j p _ _ i => by
    show loF V F j p.1 = -2000000000 ↔ hiF V F j p.2 = -2000000000
    unfold loF hiF
    by_cases z : slB V F j = -2000000000
    · rw [if_pos z, if_pos z]; exact i
    · rw [if_neg z, if_neg z]
      by_cases y : p.1 = -2000000000
      · rw [if_pos (Or.inl y), if_pos (Or.inl (i.1 y))]
      · have y2 : p.2 ≠ -2000000000 := fun k => y (i.2 k)
        constructor
        · intro k
          split at k
          · exact absurd k z
          · exact absurd k y
        · intro k
          split at k
          · exact absurd k z
          · exact absurd k y2)
  have e : ∀ (n : Nat) (t l g : Int), itN (fun t (p : Int × Int) => (loF V F t p.1, hiF V F t p.2)) n t (l, g) = (itN (loF V F) n t l, itN (hiF V F) n t g) := by
    intro n
    induction n with
    | zero => intro t l g; rfl
    | succ n ih => intro t l g; exact ih (t + 1) _ _
  rw [e] at this
  exact this
theorem r_span {h : Hp} {T : Int → Int} (w : Inv h T) (k j y x : Int) : ∃ h', C_Mo_span 124 k j y x h = some (aSpan T k j y x, h') ∧ Fr pZ h h' := by
  have n := ivn w
  rw [E_Mo_span, if_pos (ivM w), m_areAll w, bind_some']
  unfold aSpan
  by_cases q2 : okL T k j y
  · have k1 := q2.1
    have j1 := q2.2.1
    rw [bI_t q2, if_neg n10, if_pos (ivM w), m_catAt k1.1 (by omega), bind_some', if_pos (ivM w), m_houAt j1.1 (by omega), bind_some', if_pos (ivM w), cI_t q2]
    obtain ⟨h1, g1, g2, mk1, u1, g3, w1⟩ := r_fars w q2
    obtain ⟨h2, p1, p2, p3⟩ := m_spans mk1 u1
    have mk2 := mk1.of (p2.to pO_M)
    refine ⟨h2, ?_, (g2.tr (p2.to pO_M)).to pM_Z⟩
    rw [g1, bind_some', if_pos (mkO mk1), m_catAt k1.1 (by omega), bind_some', if_pos (mkO mk1), p1, bind_some']
    by_cases l0 : low (catT T k) (frsA T k j y) = -2000000000
    · have l1 := (lo_hi _ _).1 l0
      simp only [l0, l1, ↓reduceIte, ite_self]
    · have l1 := p3 l0
      simp only [l0, ↓reduceIte, n10, mkO mk2, l1.1, l1.2]
      by_cases x0 : x = 0
      · rw [if_pos x0, if_pos x0]
      · rw [if_neg x0, if_neg x0]
  · refine ⟨h, ?_, Fr.rf _ h⟩
    rw [bI_f q2, if_pos rfl, cI_f q2]
