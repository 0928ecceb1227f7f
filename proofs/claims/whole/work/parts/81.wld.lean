/-! worlds. -/
theorem s_spans {h : Hp} {c hh y : Int} {V U : Int → Int} (w : LK h c hh y V U) {F : Int → Int} (u : SU h V F) (x : Int) : C_Su_spans 99 x h = some (if low V F = -2000000000 then 0 else if x < low V F then 0 else if high V F < x then 0 else 1, h) := by
  rw [E_Su_spans, if_pos (lkS w), s_low w u, bind_some', if_pos (lkS w), s_high w u, bind_some']
  dsimp only
  split
  · rfl
  · split
    · rfl
    · split <;> rfl
noncomputable def zHi (V F : Int → Int) (x : Int) : Int := if low V F = -2000000000 then 0 else if x < low V F then 0 else if high V F < x then 0 else 1
theorem zHi_b (V F : Int → Int) (x : Int) : zHi V F x = 0 ∨ zHi V F x = 1 := by
  unfold zHi
  split
  · exact Or.inl rfl
  · split
    · exact Or.inl rfl
    · split
      · exact Or.inl rfl
      · exact Or.inr rfl
noncomputable def zWV (T : Int → Int) (k seed i : Int) : Int → Int := zMade (skyT T k) (w32 (seed + i))
noncomputable def zWs (T : Int → Int) (k j seed i : Int) : Int := zS (zWV T k seed i) (houT T j) 0
/-- lined, hit, together -/
noncomputable def zWo (T : Int → Int) (k j seed i : Int) (p : Int × Int × Int) : Int × Int × Int := (if zWs T k j seed i = -2000000000 then p.1 else p.1 + 1, p.2.1 + zHi (zWV T k seed i) (frs (zWV T k seed i) (houT T j) 0) (10 * skyT T k 1), if zWs T k j seed i = -2000000000 then p.2.2 else w64 (p.2.2 + zWs T k j seed i))
noncomputable def zWe (p : Int × Int × Int) (x : Int) : Int := if x = 0 then p.1 else if x = 2 then p.2.1 else if p.1 = 0 then -1 else w64 (Int.tdiv p.2.2 p.1)
def kWo (T : Int → Int) (k j n x : Int) : Prop := (0 ≤ k ∧ k < T 2) ∧ (0 ≤ j ∧ j < T 1) ∧ (1 ≤ n ∧ n ≤ 20) ∧ (0 ≤ x ∧ x ≤ 2)
noncomputable def aWorlds (T : Int → Int) (k j seed n x : Int) : Int := cI (kWo T k j n x) (zWe (itN (zWo T k j seed) n.toNat 0 (0, 0, 0)) x) (-1)
def wI (p : Int × Int × Int) (i : Int) : Prop := (0 ≤ p.1 ∧ p.1 ≤ i) ∧ (0 ≤ p.2.1 ∧ p.2.1 ≤ i) ∧ (-9223372036854775808 ≤ p.2.2 ∧ p.2.2 ≤ 9223372036854775807)
theorem wI_s {T : Int → Int} {k j seed i : Int} {p : Int × Int × Int} (w : wI p i) : wI (zWo T k j seed i p) (i + 1) := by
  unfold wI at w ⊢
  unfold zWo
  dsimp only
  have := zHi_b (zWV T k seed i) (frs (zWV T k seed i) (houT T j) 0) (10 * skyT T k 1)
  by_cases q : zWs T k j seed i = -2000000000
  · rw [if_pos q, if_pos q]; omega
  · have := w64_in (p.2.2 + zWs T k j seed i)
    unfold in64 at this
    rw [if_neg q, if_neg q]; omega
theorem l_worlds {T : Int → Int} {k j seed N x : Int} (k0 : 0 ≤ k) (k1 : k < T 2) (j0 : 0 ≤ j) (j1 : j < T 1) (N1 : N ≤ 20) (x0 : 0 ≤ x ∧ x ≤ 2) : ∀ (n : Nat) (i : Int) (h : Hp) (p : Int × Int × Int), Inv h T → wI p i → 0 ≤ i → i + n = N → ∃ h', P_LS_worlds_67 1 j seed N x (56 + 3 * k) p.1 p.2.1 p.2.2 i h = some (zWe (itN (zWo T k j seed) n i p) x, h') ∧ Fr pZ h h' := by
  intro n
  induction n with
  | zero =>
    intro i h p w wi i0 hi
    refine ⟨h, ?_, Fr.rf _ h⟩
    rw [E_LS_worlds_67, if_neg (by omega)]
    show _ = some (zWe p x, h)
    unfold zWe
    by_cases a : x = 0
    · rw [if_pos a, if_pos a]
    · rw [if_neg a, if_neg a]
      by_cases b : x = 2
      · rw [if_pos b, if_pos b]
      · rw [if_neg b, if_neg b]
        by_cases c : p.1 = 0
        · rw [if_pos c, if_pos c]
        · rw [if_neg c, if_neg c, if_neg c]
  | succ n ih =>
    intro i h p w wi i0 hi
    have nn := ivn w
    have c := ivK w k0 k1
    have s1 := c.2.2.1.2.1
    have d := ivH w j0 j1
    have e3 : mR h 1 3 = 84 := w.1.2.1.2.2.2.1
    obtain ⟨h1, g1, f1, d1⟩ := s_fillC c (by omega) w.1.2.2.1 (w32 (seed + i))
    have f1z : Fr pZ h h1 := f1.to (fun b i q => by unfold pCa at q; unfold pZ; omega)
    have w1 := w.of f1z
    have e31 : mR h1 1 3 = 84 := w1.1.2.1.2.2.2.1
    have dh := ivH w1 j0 j1
    obtain ⟨h2, g2, f2, l2⟩ := s_look (y := 0) w1.1.2.2.2.2.2.1 d1.1 dh.1 d1.2.1 dh.2.1
    have f2z := f2.to pL_Z
    have w2 := w1.of f2z
    have c2 := ivK w2 k0 k1
    have es : C_Su_slope 99 h2 = some (zWs T k j seed i, h2) := s_slope l2.1 l2.2.1
    have ep : C_Su_spans 99 (10 * skyT T k 1) h2 = some (zHi (zWV T k seed i) (frs (zWV T k seed i) (houT T j) 0) (10 * skyT T k 1), h2) := s_spans l2.1 l2.2.1 _
    have ws := wI_s (T := T) (k := k) (j := j) (seed := seed) wi
    obtain ⟨h3, g3, f3⟩ := ih (i + 1) h2 (zWo T k j seed i p) w2 ws (by omega) (by omega)
    refine ⟨h3, ?_, (f1z.tr f2z).tr f3⟩
    unfold wI at wi
    rw [E_LS_worlds_67, if_pos (show i < N by omega), if_pos (iv1 w), if_pos (skF c), e3, g1, bind_some', if_pos (iv1 w1), if_pos (iv1 w1), if_pos (iv1 w1), iv10 w1, if_pos (iv2 w1), iv29 w1, if_pos (ivR5 w1 j0 (by omega)), iv16 w1, if_pos (ivS w1), e31, iv5 w1 j0 (by omega), g2, bind_some', if_pos (iv1 w2), iv16 w2, if_pos (ivS w2), es, bind_some', if_pos (iv1 w2), if_pos (skF c2), iv16 w2, if_pos (ivS w2), c2.2.1 1 (by omega) (by omega), w64_id (x := 10 * skyT T k 1) (by omega) (by omega), ep, bind_some', w32_id (x := i + 1) (by omega) (by omega), w32_id (x := p.1 + 1) (by omega) (by omega), w32_id (x := p.2.1 + 1) (by omega) (by omega)]
    dsimp only
    show _ = some (zWe (itN (zWo T k j seed) n (i + 1) (zWo T k j seed i p)) x, h3)
    rw [← g3]
    unfold zWo
    dsimp only
    by_cases q : zWs T k j seed i = -2000000000
    · rw [if_pos q, if_pos q, if_pos q]
      rcases zHi_b (zWV T k seed i) (frs (zWV T k seed i) (houT T j) 0) (10 * skyT T k 1) with z | z
      · rw [z, if_pos rfl, Int.add_zero]
      · rw [z, if_neg n10]
    · rw [if_neg q, if_neg q, if_neg q, if_pos (iv1 w2), if_pos (skF c2), if_pos (ivS w2), bind_some']
      rcases zHi_b (zWV T k seed i) (frs (zWV T k seed i) (houT T j) 0) (10 * skyT T k 1) with z | z
      · rw [z, if_pos rfl, Int.add_zero]
      · rw [z, if_neg n10]
theorem q_worlds {h : Hp} {T : Int → Int} (w : Inv h T) (k j seed n x : Int) : ∃ h', C_LS_worlds 1 k j seed n x h = some (aWorlds T k j seed n x, h') ∧ Fr pZ h h' := by
  have nn := ivn w
  rw [E_LS_worlds, if_pos (iv1 w), s_isSky w, bind_some']
  unfold aWorlds
  by_cases q1 : 0 ≤ k ∧ k < T 2
  · rw [bI_t q1, if_neg n10, if_pos (iv1 w), s_isHou w, bind_some']
    by_cases q2 : 0 ≤ j ∧ j < T 1
    · rw [bI_t q2, if_neg n10]
      by_cases q3 : 1 ≤ n ∧ n ≤ 20
      · rw [if_neg (show ¬ n < 1 by omega), if_neg (show ¬ 20 < n by omega)]
        by_cases q4 : 0 ≤ x ∧ x ≤ 2
        · have i6 := iv6 w q1.1 (show k < 3 by omega)
          obtain ⟨h1, g1, f1⟩ := l_worlds (seed := seed) (N := n) q1.1 q1.2 q2.1 q2.2 q3.2 q4 n.toNat 0 h (0, 0, 0) w (by unfold wI; dsimp only; omega) (by omega) (by omega)
          refine ⟨h1, ?_, f1⟩
          rw [if_neg (show ¬ x < 0 by omega), if_neg (show ¬ 2 < x by omega), if_pos (iv1 w), iv10 w, if_pos (iv2 w), i6.1, if_pos i6.2.1, i6.2.2, cI_t ⟨q1, q2, q3, q4⟩]
          exact g1
        · refine ⟨h, ?_, Fr.rf _ h⟩
          rw [cI_f (fun z => q4 z.2.2.2)]
          by_cases z : x < 0
          · rw [if_pos z]
          · rw [if_neg z, if_pos (by omega)]
      · refine ⟨h, ?_, Fr.rf _ h⟩
        rw [cI_f (fun z => q3 z.2.2.1)]
        by_cases z : n < 1
        · rw [if_pos z]
        · rw [if_neg z, if_pos (by omega)]
    · exact ⟨h, by rw [bI_f q2, if_pos rfl, cI_f (fun z => q2 z.2.1)], Fr.rf _ h⟩
  · exact ⟨h, by rw [bI_f q1, if_pos rfl, cI_f (fun z => q1 z.1)], Fr.rf _ h⟩
theorem l_mworlds {T : Int → Int} {k j seed N x : Int} (k0 : 0 ≤ k) (k1 : k < T 2) (j0 : 0 ≤ j) (j1 : j < T 1) (N1 : N ≤ 20) (x0 : 0 ≤ x ∧ x ≤ 2) : ∀ (n : Nat) (i : Int) (h : Hp) (p : Int × Int × Int), Inv h T → wI p i → 0 ≤ i → i + n = N → ∃ h', P_Mo_worlds_54 124 k j seed N x p.1 p.2.2 p.2.1 i h = some (zWe (itN (zWo T k j seed) n i p) x, h') ∧ Fr pZ h h' := by
  intro n
  induction n with
  | zero =>
    intro i h p w wi i0 hi
    refine ⟨h, ?_, Fr.rf _ h⟩
    rw [E_Mo_worlds_54, if_neg (by omega)]
    show _ = some (zWe p x, h)
    unfold zWe
    by_cases a : x = 1
    · rw [if_pos a, if_neg (show ¬ x = 0 by omega), if_neg (show ¬ x = 2 by omega)]
      by_cases c : p.1 = 0
      · rw [if_pos c, if_pos c]
      · rw [if_neg c, if_neg c, if_neg c]
    · rw [if_neg a]
      by_cases b : x = 0
      · rw [if_pos b, if_pos b]
      · rw [if_neg b, if_neg b, if_pos (show x = 2 by omega)]
  | succ n ih =>
    intro i h p w wi i0 hi
    have nn := ivn w
    have so := (ivK w k0 k1).2.2.1
    have s1 := so.2.1
    have d := ivH w j0 j1
    obtain ⟨h1, g1, f1, xx, m1⟩ := m_makes (A := 7230) (B := 1670 + 18 * k) (S := skyT T k) w.2.2.2.1 (by omega) (by omega) (by omega) (fun o o0 o1 => ivMK6 w k0 (by omega) o0 o1) so (w32 (seed + i))
    have f1z : Fr pZ h h1 := f1.to (fun b i q => by unfold pMk at q; unfold pZ; omega)
    have w1 := w.of f1z
    -- the class says that what is made is sound
    obtain ⟨_, _, _, dd⟩ := s_fillC (ivK w k0 k1) (by omega) w.1.2.2.1 (w32 (seed + i))
    have mk : MK h1 7230 (1510 + 26 * j) 0 (zWV T k seed i) (houT T j) := ⟨w1.2.2.2.1, by omega, by omega, m1.2.2.2.2.2.1, fun o o0 o1 => (ivMT w1 (by omega) (by omega)).trans (houE o0 o1), dd.2.1, d.2.1, rfl⟩
    obtain ⟨h2, g2, f2, mk2, fm2, _⟩ := m_slopeOf mk
    have w2 := w1.of (f2.to pM_Z)
    obtain ⟨h3, g3, f3, s3⟩ := m_spans mk2 fm2
    have w3 := w2.of ((f3.to pO_M).to pM_Z)
    have e1 : mR h2 125 (1670 + 18 * k + 1) = skyT T k 1 := ivMK6 w2 k0 (by omega) (by omega) (by omega)
    have ez : slX (zWV T k seed i) (frs (zWV T k seed i) (houT T j) 0) (-1) = zWs T k j seed i := rfl
    have ws := wI_s (T := T) (k := k) (j := j) (seed := seed) wi
    obtain ⟨h4, g4, f4⟩ := ih (i + 1) h3 (zWo T k j seed i p) w3 ws (by omega) (by omega)
    refine ⟨h4, ?_, ((f1z.tr (f2.to pM_Z)).tr ((f3.to pO_M).to pM_Z)).tr f4⟩
    unfold wI at wi
    have tail : ∀ a b : Int, P_Mo_worlds_127 124 k j seed N x a p.2.1 i p.2.2 b h2 = P_Mo_worlds_54 124 k j seed N x a (w64 (p.2.2 + b)) (p.2.1 + zHi (zWV T k seed i) (frs (zWV T k seed i) (houT T j) 0) (10 * skyT T k 1)) (i + 1) h3 := fun a b => by
      rw [E_Mo_worlds_127, if_pos (ivM w2), m_skyAt k0 (by omega), bind_some', ivM0 w2]
      dsimp only
      rw [w32_id (x := 1670 + 18 * k + 1) (by omega) (by omega), if_pos (ivMA w2 (by omega) (by omega)), if_pos (ivM w2), g3, bind_some', e1, w64_id (x := 10 * skyT T k 1) (by omega) (by omega), w64_id (x := p.2.1 + 0) (by omega) (by omega), w64_id (x := p.2.1 + 1) (by omega) (by omega), w32_id (x := i + 1) (by omega) (by omega), if_pos (ivM w3), if_pos (ivM w3)]
      dsimp only
      unfold zHi
      by_cases z : low (zWV T k seed i) (frs (zWV T k seed i) (houT T j) 0) = -2000000000
      · rw [if_pos z, if_pos rfl, if_pos z]
      · rw [if_neg z, if_neg n10, (s3 z).1, (s3 z).2, if_neg z]
        by_cases z2 : 10 * skyT T k 1 < low (zWV T k seed i) (frs (zWV T k seed i) (houT T j) 0)
        · rw [if_pos z2, if_pos z2]
        · rw [if_neg z2, if_neg z2]
          by_cases z3 : high (zWV T k seed i) (frs (zWV T k seed i) (houT T j) 0) < 10 * skyT T k 1
          · rw [if_pos z3, if_pos z3]
          · rw [if_neg z3, if_neg z3]
    rw [E_Mo_worlds_54, if_pos (show i < N by omega), m_skyAt k0 (by omega), bind_some', if_pos (ivM w), g1, bind_some', if_pos (ivM w1), m_houAt j0 (by omega), bind_some', if_pos (ivM w1), g2, bind_some', ez, w64_id (x := p.1 + 0) (by omega) (by omega), w64_id (x := p.1 + 1) (by omega) (by omega)]
    dsimp only
    show _ = some (zWe (itN (zWo T k j seed) n (i + 1) (zWo T k j seed i p)) x, h4)
    rw [← g4]
    unfold zWo
    dsimp only
    by_cases q : zWs T k j seed i = -2000000000
    · rw [if_pos q, if_pos q, if_pos q, if_pos q, tail, Int.add_zero, Int.add_zero, w64_id (x := p.2.2) (by omega) (by omega)]
    · rw [if_neg q, if_neg q, if_neg q, if_neg q, tail]
theorem r_worlds {h : Hp} {T : Int → Int} (w : Inv h T) (k j seed n x : Int) : ∃ h', C_Mo_worlds 124 k j seed n x h = some (aWorlds T k j seed n x, h') ∧ Fr pZ h h' := by
  have nn := ivn w
  rw [E_Mo_worlds, if_pos (ivM w), m_isSky w, bind_some']
  unfold aWorlds
  by_cases q1 : 0 ≤ k ∧ k < T 2
  · rw [bI_t q1, if_neg n10, if_pos (ivM w), m_isOf w (by omega) (by omega), bind_some']
    by_cases q2 : 0 ≤ j ∧ j < T 1
    · rw [bI_t q2, if_neg n10, m_isIn, bind_some']
      by_cases q3 : 1 ≤ n ∧ n ≤ 20
      · rw [bI_t q3, if_neg n10, m_isIn, bind_some']
        by_cases q4 : 0 ≤ x ∧ x ≤ 2
        · obtain ⟨h1, g1, f1⟩ := l_mworlds (seed := seed) (N := n) q1.1 q1.2 q2.1 q2.2 q3.2 q4 n.toNat 0 h (0, 0, 0) w (by unfold wI; dsimp only; omega) (by omega) (by omega)
          refine ⟨h1, ?_, f1⟩
          rw [bI_t q4, if_neg n10, cI_t ⟨q1, q2, q3, q4⟩]
          exact g1
        · exact ⟨h, by rw [bI_f q4, if_pos rfl, cI_f (fun z => q4 z.2.2.2)], Fr.rf _ h⟩
      · exact ⟨h, by rw [bI_f q3, if_pos rfl, cI_f (fun z => q3 z.2.2.1)], Fr.rf _ h⟩
    · exact ⟨h, by rw [bI_f q2, if_pos rfl, cI_f (fun z => q2 z.2.1)], Fr.rf _ h⟩
  · exact ⟨h, by rw [bI_f q1, if_pos rfl, cI_f (fun z => q1 z.1)], Fr.rf _ h⟩
