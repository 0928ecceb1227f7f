/-! The reference's tried house; up, worst. -/
def pT (b i : Int) : Prop := b = 125 ∧ 7200 ≤ i ∧ i < 7226
theorem pT_Z (b i : Int) (q : pT b i) : pZ b i := by unfold pT at q; unfold pZ; omega
def Trd (h : Hp) (U : Int → Int) : Prop := ∀ o, 0 ≤ o → o < 26 → mR h 125 (7200 + o) = U o
theorem Trd.of {h h' : Hp} {U : Int → Int} (w : Trd h U) (f : Fr pM h h') : Trd h' U := fun o o0 o1 => by rw [f.2 125 _ (by unfold pM; omega)]; exact w o o0 o1
theorem Trd.up {h : Hp} {U : Int → Int} (w : Trd h U) (o v : Int) : Trd (mW h 125 (7200 + o) v) (up1 U o v) := fun i i0 i1 => by
  rw [mR_mW]
  by_cases z : i = o
  · rw [z, up1_s, if_pos ⟨rfl, rfl⟩]
  · rw [up1_n z, if_neg (by omega)]; exact w i i0 i1
theorem ivMS {h : Hp} {T : Int → Int} (w : Inv h T) {i : Int} (i0 : 0 ≤ i) (i1 : i < 7560) : okS h 125 102 i = true := okS_t w.2.2.2.1.2.2.1 (by decide) i0 i1
theorem ivMT2 {h : Hp} {T : Int → Int} (w : Inv h T) {k j y : Int} {U : Int → Int} (k0 : 0 ≤ k) (k1 : k < T 0) (t : Trd h U) (u : Uok U) : MK h (520 + 330 * k) 7200 y (catT T k) U := by
  have n := ivn w
  exact ⟨w.2.2.2.1, by omega, by omega, fun o o0 o1 => (ivMT w (by omega) (by omega)).trans (catE o0 o1), t, (ivC w k0 k1).2.1, u, rfl⟩
theorem l_tries {T : Int → Int} {j : Int} (j0 : 0 ≤ j) (j1 : j < T 1) : ∀ (n : Nat) (i : Int) (h : Hp), Inv h T → 0 ≤ i → i + n = 26 → (∀ o, 0 ≤ o → o < i → mR h 125 (7200 + o) = houT T j o) → ∃ h', P_Mo_tries_2 124 j i h = some (0, h') ∧ Fr pT h h' ∧ Trd h' (houT T j) := by
  intro n
  induction n with
  | zero =>
    intro i h w i0 hi hs
    refine ⟨h, ?_, Fr.rf _ h, fun o o0 o1 => hs o o0 (by omega)⟩
    rw [E_Mo_tries_2, if_neg (by omega)]
  | succ n ih =>
    intro i h w i0 hi hs
    have nn := ivn w
    have e : T (1510 + 26 * j + i) = houT T j i := houE (by omega) (by omega)
    have f1 : Fr pT h (mW h 125 (7200 + i) (houT T j i)) := Fr.W h _ (by unfold pT; omega)
    have w1 := w.of (f1.to pT_Z)
    obtain ⟨h2, g2, f2, t2⟩ := ih (i + 1) _ w1 (by omega) (by omega) (fun o o0 o1 => by
      rw [mR_mW]
      by_cases z : o = i
      · rw [z, if_pos ⟨rfl, rfl⟩]
      · rw [if_neg (by omega)]; exact hs o o0 (by omega))
    refine ⟨h2, ?_, f1.tr f2, t2⟩
    rw [E_Mo_tries_2, if_pos (show i < 26 by omega), if_pos (ivM w), if_pos (ivM w), if_pos (ivM w), m_houAt j0 (by omega), bind_some', ivM0 w]
    dsimp only
    rw [w32_id (x := 1510 + 26 * j + i) (by omega) (by omega), if_pos (ivMA w (by omega) (by omega)), w32_id (x := 7200 + i) (by omega) (by omega), if_pos (ivMS w (by omega) (by omega)), hb_eq, ivMT w (by omega) (by omega), e, w32_id (x := i + 1) (by omega) (by omega)]
    exact g2
theorem m_tries {h : Hp} {T : Int → Int} (w : Inv h T) {j : Int} (j0 : 0 ≤ j) (j1 : j < T 1) : ∃ h', C_Mo_tries 124 j h = some (0, h') ∧ Fr pT h h' ∧ Trd h' (houT T j) ∧ Inv h' T := by
  obtain ⟨h1, g1, f1, t1⟩ := l_tries j0 j1 26 0 h w (by omega) (by omega) (fun o o0 o1 => by omega)
  exact ⟨h1, by rw [E_Mo_tries]; exact g1, f1, t1, w.of (f1.to pT_Z)⟩
theorem m_takes {h : Hp} {T U : Int → Int} (w : Inv h T) (t : Trd h U) {j r : Int} (j0 : 0 ≤ j) (j1 : j < T 1) (r0 : 0 ≤ r) (r1 : r < 6) : ∃ h', C_Mo_takes 124 j r h = some (0, h') ∧ Fr pT h h' ∧ Trd h' (zFol U (houT T j) r) ∧ Inv h' T := by
  have nn := ivn w
  have e0 : T (1510 + 26 * j + 0) = houT T j 0 := houE (by omega) (by omega)
  have e4 : T (1510 + 26 * j + 4 + r) = houT T j (4 + r) := by rw [Int.add_assoc]; exact houE (by omega) (by omega)
  have t0 := t 0 (by omega) (by omega)
  rw [show (7200 + 0 : Int) = 7200 by decide] at t0
  have f1 : Fr pT h (mW h 125 7200 (i_or (i_and (U 0) (i_xor (i_shl 1 r) (-1))) (i_and (houT T j 0) (i_shl 1 r)))) := Fr.W h _ (by unfold pT; omega)
  have w1 := w.of (f1.to pT_Z)
  have t1 := t.up 0 (i_or (i_and (U 0) (i_xor (i_shl 1 r) (-1))) (i_and (houT T j 0) (i_shl 1 r)))
  rw [show (7200 + 0 : Int) = 7200 by decide] at t1
  have t2 := t1.up (4 + r) (houT T j (4 + r))
  rw [show 7200 + (4 + r) = 7204 + r by omega] at t2
  have f2 : Fr pT (mW h 125 7200 (i_or (i_and (U 0) (i_xor (i_shl 1 r) (-1))) (i_and (houT T j 0) (i_shl 1 r)))) _ := Fr.W _ (houT T j (4 + r)) (show pT 125 (7204 + r) by unfold pT; omega)
  refine ⟨_, ?_, f1.tr f2, t2, w1.of (f2.to pT_Z)⟩
  rw [E_Mo_takes, if_pos (ivM w), if_pos (ivM w), ivM0 w, if_pos (ivMA w (by omega) (by omega)), if_pos (ivM w), if_pos (ivM w), m_houAt j0 (by omega), bind_some']
  dsimp only
  rw [w32_id (x := 1510 + 26 * j + 0) (by omega) (by omega), if_pos (ivMA w (by omega) (by omega)), if_pos (ivMS w (by omega) (by omega)), hb_eq, t0, ivMT w (by omega) (by omega), e0, if_pos (ivM w1), if_pos (ivM w1), if_pos (ivM w1), m_houAt j0 (by omega), bind_some', ivM0 w1]
  dsimp only
  rw [w32_id (x := 1510 + 26 * j + 4) (by omega) (by omega), w32_id (x := 1510 + 26 * j + 4 + r) (by omega) (by omega), if_pos (ivMA w1 (by omega) (by omega)), w32_id (x := 7204 + r) (by omega) (by omega), if_pos (ivMS w1 (by omega) (by omega)), hb_eq, ivMT w1 (by omega) (by omega), e4]
theorem m_upOf {h : Hp} {T : Int → Int} (w : Inv h T) {k j y r : Int} (q : okL T k j y) (r0 : 0 ≤ r) (r1 : r < 6) : ∃ h', C_Mo_upOf 124 (520 + 330 * k) j y r h = some (zUp T k j y r, h') ∧ Fr pZ h h' ∧ Inv h' T := by
  have nn := ivn w
  have j1 := q.2.1
  have d := ivH w j1.1 j1.2
  have l := d.2.2.1 r r0 r1
  obtain ⟨h1, g1, f1, d1⟩ := m_slopeOf (ivMK w (y := y) q.1.1 q.1.2 j1.1 j1.2)
  have w1 := w.of (f1.to pM_Z)
  obtain ⟨h2, g2, f2, t2, w2⟩ := m_tries w1 j1.1 j1.2
  have t3 := t2.up (4 + r) (houT T j (4 + r) + 1)
  rw [show 7200 + (4 + r) = 7204 + r by omega] at t3
  have f3 : Fr pT h2 (mW h2 125 (7204 + r) (houT T j (4 + r) + 1)) := Fr.W h2 _ (by unfold pT; omega)
  have w3 := w2.of (f3.to pT_Z)
  have te := t2 (4 + r) (by omega) (by omega)
  rw [show 7200 + (4 + r) = 7204 + r by omega] at te
  obtain ⟨h4, g4, f4, d4⟩ := m_slopeOf (ivMT2 w3 (j := j) (y := y) q.1.1 q.1.2 t3 (zL_ok d r0 r1))
  refine ⟨h4, ?_, (((f1.to pM_Z).tr (f2.to pT_Z)).tr (f3.to pT_Z)).tr (f4.to pM_Z), w3.of (f4.to pM_Z)⟩
  rw [E_Mo_upOf, if_pos (ivM w), m_houAt j1.1 (by omega), bind_some', if_pos (ivM w), g1, bind_some', if_pos (ivM w1), g2, bind_some', if_pos (ivM w2), ivM0 w2, w32_id (x := 7204 + r) (by omega) (by omega), if_pos (ivMA w2 (by omega) (by omega)), if_pos (ivMS w2 (by omega) (by omega)), hb_eq, te, w32_id (x := houT T j (4 + r) + 1) (by omega) (by omega), if_pos (ivM w3), g4, bind_some']
  show (if zS (catT T k) (houT T j) y = -2000000000 then _ else if zS (catT T k) (zL (houT T j) r) y = -2000000000 then _ else some (w64 (zS (catT T k) (zL (houT T j) r) y - zS (catT T k) (houT T j) y), h4)) = _
  unfold zUp zD
  by_cases a : zS (catT T k) (houT T j) y = -2000000000
  · rw [if_pos a, if_pos a]
  · rw [if_neg a, if_neg a]
    by_cases b : zS (catT T k) (zL (houT T j) r) y = -2000000000
    · rw [if_pos b, if_pos b]
    · rw [if_neg b, if_neg b]
theorem r_up {h : Hp} {T : Int → Int} (w : Inv h T) (k j y r : Int) : ∃ h', C_Mo_up 124 k j y r h = some (aUp T k j y r, h') ∧ Fr pZ h h' := by
  have n := ivn w
  rw [E_Mo_up, if_pos (ivM w), m_areAll w, bind_some']
  unfold aUp
  by_cases q2 : okL T k j y
  · have k1 := q2.1
    rw [bI_t q2, if_neg n10, if_pos (ivM w), m_isRung w, bind_some']
    by_cases q1 : 0 ≤ r ∧ r < catT T k 0
    · have v := (ivC w k1.1 k1.2).2.1.1
      obtain ⟨h1, g1, f1, w1⟩ := m_upOf w (r := r) q2 q1.1 (by omega)
      refine ⟨h1, ?_, f1⟩
      rw [bI_t ⟨q2.1, q1⟩, if_neg n10, if_pos (ivM w), m_catAt k1.1 (by omega), bind_some', if_pos (ivM w), g1, bind_some', cI_t ⟨q2, q1⟩]
    · refine ⟨h, ?_, Fr.rf _ h⟩
      rw [bI_f (fun z => q1 z.2), if_pos rfl, cI_f (fun z => q1 z.2)]
  · refine ⟨h, ?_, Fr.rf _ h⟩
    rw [bI_f q2, if_pos rfl, cI_f (fun z => q2 z.1)]
theorem l_mworst {T : Int → Int} {k j y : Int} (q : okL T k j y) : ∀ (n : Nat) (r : Int) (h : Hp) (p : Int × Int), Inv h T → 0 ≤ r → r + n = catT T k 0 → ∃ h', P_Mo_worst_28 124 j y (520 + 330 * k) p.1 p.2 r h = some ((itN (zG (zUp T k j y)) n r p).1, h') ∧ Fr pZ h h' := by
  intro n
  induction n with
  | zero =>
    intro r h p w r0 hr
    have nn := ivn w
    have k1 := q.1
    have e0 : T (520 + 330 * k + 0) = catT T k 0 := catE (by omega) (by omega)
    refine ⟨h, ?_, Fr.rf _ h⟩
    rw [E_Mo_worst_28, if_pos (ivM w), ivM0 w, w32_id (x := 520 + 330 * k + 0) (by omega) (by omega), if_pos (ivMA w (by omega) (by omega)), ivMT w (by omega) (by omega), e0, if_neg (by omega)]
    rfl
  | succ n ih =>
    intro r h p w r0 hr
    have nn := ivn w
    have k1 := q.1
    have v := (ivC w k1.1 k1.2).2.1.1
    have e0 : T (520 + 330 * k + 0) = catT T k 0 := catE (by omega) (by omega)
    obtain ⟨h1, g1, f1, w1⟩ := m_upOf w (r := r) q r0 (by omega)
    rw [E_Mo_worst_28, if_pos (ivM w), ivM0 w, w32_id (x := 520 + 330 * k + 0) (by omega) (by omega), if_pos (ivMA w (by omega) (by omega)), ivMT w (by omega) (by omega), e0, if_pos (show r < catT T k 0 by omega), if_pos (ivM w), g1, bind_some', w32_id (x := r + 1) (by omega) (by omega)]
    simp only [m_apart, bind_some']
    show ∃ h', _ = some ((itN (zG (zUp T k j y)) n (r + 1) (zG (zUp T k j y) r p)).1, h') ∧ _
    by_cases z : zUp T k j y r = -2000000000
    · rw [if_pos z]
      have e : zG (zUp T k j y) r p = p := if_pos z
      rw [e]
      obtain ⟨h2, g2, f2⟩ := ih (r + 1) h1 p w1 (by omega) (by omega)
      exact ⟨h2, g2, f1.tr f2⟩
    · rw [if_neg z]
      obtain ⟨h2, g2, f2⟩ := ih (r + 1) h1 (zG (zUp T k j y) r p) w1 (by omega) (by omega)
      by_cases s : p.1 < 0
      · have e : zG (zUp T k j y) r p = (r, apt (zUp T k j y r)) := by unfold zG; rw [if_neg z, if_pos (Or.inl s)]
        rw [if_pos s, e]
        rw [e] at g2
        exact ⟨h2, g2, f1.tr f2⟩
      · rw [if_neg s]
        by_cases s2 : p.2 < apt (zUp T k j y r)
        · have e : zG (zUp T k j y) r p = (r, apt (zUp T k j y r)) := by unfold zG; rw [if_neg z, if_pos (Or.inr s2)]
          rw [e] at g2
          refine ⟨h2, ?_, f1.tr f2⟩
          rw [if_pos (show p.2 < (if zUp T k j y r < 0 then w64 (-zUp T k j y r) else zUp T k j y r) from s2), e]
          exact g2
        · have e : zG (zUp T k j y) r p = p := by unfold zG; rw [if_neg z, if_neg (by omega)]
          rw [e] at g2
          refine ⟨h2, ?_, f1.tr f2⟩
          rw [if_neg (show ¬ p.2 < (if zUp T k j y r < 0 then w64 (-zUp T k j y r) else zUp T k j y r) from s2), e]
          exact g2
theorem r_worst {h : Hp} {T : Int → Int} (w : Inv h T) (k j y : Int) : ∃ h', C_Mo_worst 124 k j y h = some (aWorst T k j y, h') ∧ Fr pZ h h' := by
  have n := ivn w
  rw [E_Mo_worst, if_pos (ivM w), m_areAll w, bind_some']
  unfold aWorst
  by_cases q2 : okL T k j y
  · have k1 := q2.1
    have v := (ivC w k1.1 k1.2).2.1.1
    obtain ⟨h1, g1, f1⟩ := l_mworst q2 (catT T k 0).toNat 0 h (-1, 0) w (by omega) (by omega)
    refine ⟨h1, ?_, f1⟩
    rw [bI_t q2, if_neg n10, if_pos (ivM w), m_catAt k1.1 (by omega), bind_some', cI_t q2]
    exact g1
  · refine ⟨h, ?_, Fr.rf _ h⟩
    rw [bI_f q2, if_pos rfl, cI_f q2]
