/-! since, stands, changes, beside. -/
def zSi (g : Int → Int) : Nat → Int → Int
  | 0, _ => -1
  | n + 1, y => if g y = -2000000000 then zSi g n (y + 1) else y
def okK (T : Int → Int) (k j : Int) : Prop := (0 ≤ k ∧ k < T 0) ∧ 0 ≤ j ∧ j < T 1
noncomputable def aSince (T : Int → Int) (k j : Int) : Int := cI (okK T k j) (zSi (zS (catT T k) (houT T j)) 100 0) (-1)
theorem okK_L {T : Int → Int} {k j : Int} : okL T k j 0 ↔ okK T k j := ⟨fun q => ⟨q.1, q.2.1⟩, fun q => ⟨q.1, q.2, by omega⟩⟩
theorem l_since {h : Hp} {T g : Int → Int} (w : Inv h T) (e : ∀ s, 0 ≤ s → s < 100 → mR h 119 s = g s) : ∀ (n : Nat) (y : Int), 0 ≤ y → y + n = 100 → P_LS_since_49 1 y h = some (zSi g n y, h) := by
  have m := ivCh w
  intro n
  induction n with
  | zero =>
    intro y y0 hy
    rw [E_LS_since_49, if_neg (by omega)]
    rfl
  | succ n ih =>
    intro y y0 hy
    rw [E_LS_since_49, if_pos (show y < 100 by omega), if_pos (iv1 w), m.2.2.2.2.2, if_pos m.1, m.2.1, if_pos (okA_t m.2.2.2.1 y0 (by omega)), e y y0 (by omega), w32_id (x := y + 1) (by omega) (by omega)]
    unfold zSi
    by_cases q : g y = -2000000000
    · rw [if_pos q, if_pos q]; exact ih (y + 1) (by omega) (by omega)
    · rw [if_neg q, if_neg q]
theorem q_since {h : Hp} {T : Int → Int} (w : Inv h T) (k j : Int) : ∃ h', C_LS_since 1 k j h = some (aSince T k j, h') ∧ Fr pZ h h' := by
  have n := ivn w
  have m := ivCh w
  rw [E_LS_since, if_pos (iv1 w), s_isCat w, bind_some']
  unfold aSince
  by_cases q1 : 0 ≤ k ∧ k < T 0
  · rw [bI_t q1, if_neg n10, if_pos (iv1 w), s_isHou w, bind_some']
    by_cases q2 : 0 ≤ j ∧ j < T 1
    · obtain ⟨h1, g1, f1, w1, e1⟩ := s_fill w q1.1 q1.2 q2.1 q2.2
      refine ⟨h1, ?_, f1⟩
      rw [bI_t q2, if_neg n10, if_pos (iv1 w), if_pos (iv1 w), if_pos (iv1 w), iv10 w, if_pos (iv2 w), iv28 w, if_pos (ivR4 w q1.1 (by omega)), if_pos (iv1 w), if_pos (iv2 w), iv29 w, if_pos (ivR5 w q2.1 (by omega)), m.2.2.2.2.2, if_pos m.1, iv16 w, iv4 w q1.1 (by omega), iv5 w q2.1 (by omega), g1, bind_some', cI_t ⟨q1, q2⟩]
      exact l_since w1 e1 100 0 (by omega) (by omega)
    · exact ⟨h, by rw [bI_f q2, if_pos rfl, cI_f (fun z => q2 z.2)], Fr.rf _ h⟩
  · exact ⟨h, by rw [bI_f q1, if_pos rfl, cI_f (fun z => q1 z.1)], Fr.rf _ h⟩
theorem m_sl {h : Hp} {T : Int → Int} (w : Inv h T) {k j y : Int} (k0 : 0 ≤ k) (k1 : k < T 0) (j0 : 0 ≤ j) (j1 : j < T 1) : ∃ h', C_Mo_slopeOf 124 (520 + 330 * k) (1510 + 26 * j) y h = some (zS (catT T k) (houT T j) y, h') ∧ Fr pZ h h' ∧ Inv h' T := by
  obtain ⟨h1, g1, f1, d1⟩ := m_slopeOf (ivMK w (y := y) k0 k1 j0 j1)
  exact ⟨h1, g1, f1.to pM_Z, w.of (f1.to pM_Z)⟩
theorem l_msince {T : Int → Int} {k j : Int} (k0 : 0 ≤ k) (k1 : k < T 0) (j0 : 0 ≤ j) (j1 : j < T 1) : ∀ (n : Nat) (y : Int) (h : Hp), Inv h T → 0 ≤ y → y + n = 100 → ∃ h', P_Mo_since_14 124 k j y h = some (zSi (zS (catT T k) (houT T j)) n y, h') ∧ Fr pZ h h' := by
  intro n
  induction n with
  | zero =>
    intro y h w y0 hy
    refine ⟨h, ?_, Fr.rf _ h⟩
    rw [E_Mo_since_14, if_neg (by omega)]
    rfl
  | succ n ih =>
    intro y h w y0 hy
    have nn := ivn w
    obtain ⟨h1, g1, f1, w1⟩ := m_sl w (y := y) k0 k1 j0 j1
    rw [E_Mo_since_14, if_pos (show y < 100 by omega), if_pos (ivM w), m_catAt k0 (by omega), bind_some', if_pos (ivM w), m_houAt j0 (by omega), bind_some', if_pos (ivM w), g1, bind_some', w32_id (x := y + 1) (by omega) (by omega)]
    unfold zSi
    by_cases q : zS (catT T k) (houT T j) y = -2000000000
    · obtain ⟨h2, g2, f2⟩ := ih (y + 1) h1 w1 (by omega) (by omega)
      rw [if_pos q, if_pos q]
      exact ⟨h2, g2, f1.tr f2⟩
    · rw [if_neg q, if_neg q]
      exact ⟨h1, rfl, f1⟩
theorem r_since {h : Hp} {T : Int → Int} (w : Inv h T) (k j : Int) : ∃ h', C_Mo_since 124 k j h = some (aSince T k j, h') ∧ Fr pZ h h' := by
  rw [E_Mo_since, if_pos (ivM w), m_areAll w, bind_some']
  unfold aSince
  by_cases q : okK T k j
  · rw [bI_t (okK_L.2 q), if_neg n10, cI_t q]
    exact l_msince q.1.1 q.1.2 q.2.1 q.2.2 100 0 h w (by omega) (by omega)
  · exact ⟨h, by rw [bI_f (fun z => q (okK_L.1 z)), if_pos rfl, cI_f q], Fr.rf _ h⟩
def zSd (g : Int → Int) (l m : Int) : Nat → Int → Int
  | 0, f => f
  | n + 1, f => if g (f - 1) = -2000000000 then f else if m < apt (w64 (g (f - 1) - l)) then f else zSd g l m n (f - 1)
noncomputable def zMy (l p : Int) : Int := w64 (Int.tdiv (w64 (p * apt l)) 100)
noncomputable def aStands (T : Int → Int) (k j p : Int) : Int := cI (okK T k j ∧ 0 ≤ p ∧ p ≤ 100) (if zS (catT T k) (houT T j) 99 = -2000000000 then -1 else zSd (zS (catT T k) (houT T j)) (zS (catT T k) (houT T j) 99) (zMy (zS (catT T k) (houT T j) 99) p) 99 99) (-1)
theorem l_stands {h : Hp} {T g : Int → Int} (w : Inv h T) (e : ∀ s, 0 ≤ s → s < 100 → mR h 119 s = g s) {l m : Int} (lb : -9999000 ≤ l ∧ l ≤ 9999000) (gb : ∀ s, g s = -2000000000 ∨ (-9999000 ≤ g s ∧ g s ≤ 9999000)) : ∀ (n : Nat) (f : Int), f = n → f < 100 → P_LS_stands_99 1 l m f h = some (zSd g l m n f, h) := by
  have mm := ivCh w
  intro n
  induction n with
  | zero =>
    intro f hf f1
    rw [E_LS_stands_99, if_neg (by omega)]
    rfl
  | succ n ih =>
    intro f hf f1
    have b := gb (f - 1)
    rw [E_LS_stands_99, if_pos (show 0 < f by omega), if_pos (iv1 w), mm.2.2.2.2.2, if_pos mm.1, mm.2.1, w32_id (x := f - 1) (by omega) (by omega), if_pos (okA_t mm.2.2.2.1 (by omega) (by omega)), e (f - 1) (by omega) (by omega), if_pos (iv1 w), if_pos mm.1, if_pos (okA_t mm.2.2.2.1 (by omega) (by omega)), s_apart, bind_some', w32_id (x := f + -1) (by omega) (by omega)]
    unfold zSd
    by_cases q : g (f - 1) = -2000000000
    · rw [if_pos q, if_pos q]
    · have ae := apt_e (x := g (f - 1)) (y := l) (by omega) (by omega)
      rw [if_neg q, if_neg q, ae.1]
      dsimp only
      by_cases z : m < apt (w64 (g (f - 1) - l))
      · rw [if_pos z, if_pos z]
      · rw [if_neg z, if_neg z]; exact ih (f - 1) (by omega) (by omega)
theorem q_stands {h : Hp} {T : Int → Int} (w : Inv h T) (k j p : Int) : ∃ h', C_LS_stands 1 k j p h = some (aStands T k j p, h') ∧ Fr pZ h h' := by
  have n := ivn w
  have m := ivCh w
  rw [E_LS_stands, if_pos (iv1 w), s_isCat w, bind_some']
  unfold aStands
  by_cases q1 : 0 ≤ k ∧ k < T 0
  · rw [bI_t q1, if_neg n10, if_pos (iv1 w), s_isHou w, bind_some']
    by_cases q2 : 0 ≤ j ∧ j < T 1
    · rw [bI_t q2, if_neg n10]
      by_cases q3 : 0 ≤ p ∧ p ≤ 100
      · obtain ⟨h1, g1, f1, w1, e1⟩ := s_fill w q1.1 q1.2 q2.1 q2.2
        have m1 := ivCh w1
        refine ⟨h1, ?_, f1⟩
        rw [if_neg (show ¬ p < 0 by omega), if_neg (show ¬ 100 < p by omega), if_pos (iv1 w), if_pos (iv1 w), if_pos (iv1 w), iv10 w, if_pos (iv2 w), iv28 w, if_pos (ivR4 w q1.1 (by omega)), if_pos (iv1 w), if_pos (iv2 w), iv29 w, if_pos (ivR5 w q2.1 (by omega)), m.2.2.2.2.2, if_pos m.1, iv16 w, iv4 w q1.1 (by omega), iv5 w q2.1 (by omega), g1, bind_some', cI_t ⟨⟨q1, q2⟩, q3⟩, if_pos (iv1 w1), m1.2.2.2.2.2, if_pos m1.1, m1.2.1, if_pos (okA_t m1.2.2.2.1 (by omega) (by omega)), e1 99 (by omega) (by omega), s_apart, bind_some']
        have gb : ∀ s, zS (catT T k) (houT T j) s = -2000000000 ∨ (-9999000 ≤ zS (catT T k) (houT T j) s ∧ zS (catT T k) (houT T j) s ≤ 9999000) := fun s => zS_b (ivC w q1.1 q1.2).2.1 (ivH w q2.1 q2.2).2.1 s
        by_cases z : zS (catT T k) (houT T j) 99 = -2000000000
        · rw [if_pos z, if_pos z]
        · have lb := (gb 99).resolve_left z
          have ae := apt_e (x := zS (catT T k) (houT T j) 99) (y := 0) (by omega) (by omega)
          rw [show zS (catT T k) (houT T j) 99 - 0 = zS (catT T k) (houT T j) 99 by omega, w64_id (x := zS (catT T k) (houT T j) 99) (by omega) (by omega)] at ae
          rw [if_neg z, if_neg z, show zS (catT T k) (houT T j) 99 - 0 = zS (catT T k) (houT T j) 99 by omega, w64_id (x := zS (catT T k) (houT T j) 99) (by omega) (by omega), ae.1]
          exact l_stands w1 e1 lb gb 99 99 rfl (by omega)
      · refine ⟨h, ?_, Fr.rf _ h⟩
        rw [cI_f (fun z => q3 z.2)]
        by_cases z : p < 0
        · rw [if_pos z]
        · rw [if_neg z, if_pos (show 100 < p by omega)]
    · exact ⟨h, by rw [bI_f q2, if_pos rfl, cI_f (fun z => q2 z.1.2)], Fr.rf _ h⟩
  · exact ⟨h, by rw [bI_f q1, if_pos rfl, cI_f (fun z => q1 z.1.1)], Fr.rf _ h⟩
theorem l_mstands {T : Int → Int} {k j p l : Int} (k0 : 0 ≤ k) (k1 : k < T 0) (j0 : 0 ≤ j) (j1 : j < T 1) : ∀ (n : Nat) (y : Int) (h : Hp), Inv h T → y + 1 = n → y < 99 → ∃ h', P_Mo_stands_66 124 j p (520 + 330 * k) l (y + 1) 1 y h = some (zSd (zS (catT T k) (houT T j)) l (zMy l p) n (y + 1), h') ∧ Fr pZ h h' := by
  intro n
  induction n with
  | zero =>
    intro y h w hy y1
    refine ⟨h, ?_, Fr.rf _ h⟩
    rw [E_Mo_stands_66, if_pos (by omega)]
    rfl
  | succ n ih =>
    intro y h w hy y1
    have nn := ivn w
    obtain ⟨h1, g1, f1, w1⟩ := m_sl w (y := y) k0 k1 j0 j1
    have off : ∀ (g : Hp) (F : Int), P_Mo_stands_66 124 j p (520 + 330 * k) l F 0 (y - 1) g = some (F, g) := fun g F => by
      rw [E_Mo_stands_66]
      by_cases z : y - 1 < 0
      · rw [if_pos z]
      · rw [if_neg z, if_pos rfl]
    have em : w64 (Int.tdiv (w64 (apt l * p)) 100) = zMy l p := by unfold zMy; rw [Int.mul_comm]
    rw [E_Mo_stands_66, if_neg (show ¬ y < 0 by omega), if_neg n10, if_pos (ivM w), m_houAt j0 (by omega), bind_some', if_pos (ivM w), g1, bind_some', w32_id (x := y + -1) (by omega) (by omega), show y + -1 = y - 1 by omega]
    simp only [m_apart, bind_some', ↓reduceIte, n10]
    unfold zSd
    rw [show y + 1 - 1 = y by omega]
    by_cases q : zS (catT T k) (houT T j) y = -2000000000
    · rw [if_pos q, if_pos q]
      exact ⟨h1, off h1 (y + 1), f1⟩
    · rw [if_neg q, if_neg q]
      have e1 : (if w64 (zS (catT T k) (houT T j) y - l) < 0 then w64 (-w64 (zS (catT T k) (houT T j) y - l)) else w64 (zS (catT T k) (houT T j) y - l)) = apt (w64 (zS (catT T k) (houT T j) y - l)) := rfl
      have e2 : (if l < 0 then w64 (-l) else l) = apt l := rfl
      rw [e1, e2, em]
      by_cases z : zMy l p < apt (w64 (zS (catT T k) (houT T j) y - l))
      · rw [if_pos z, if_pos z]
        exact ⟨h1, off h1 (y + 1), f1⟩
      · rw [if_neg z, if_neg z]
        obtain ⟨h2, g2, f2⟩ := ih (y - 1) h1 w1 (by omega) (by omega)
        rw [show y - 1 + 1 = y by omega] at g2
        exact ⟨h2, g2, f1.tr f2⟩
theorem r_stands {h : Hp} {T : Int → Int} (w : Inv h T) (k j p : Int) : ∃ h', C_Mo_stands 124 k j p h = some (aStands T k j p, h') ∧ Fr pZ h h' := by
  have n := ivn w
  rw [E_Mo_stands, if_pos (ivM w), m_areAll w, bind_some']
  unfold aStands
  by_cases q : okK T k j
  · rw [bI_t (okK_L.2 q), if_neg n10, m_isIn, bind_some']
    by_cases q3 : 0 ≤ p ∧ p ≤ 100
    · have k1 := q.1
      have j1 := q.2
      obtain ⟨h1, g1, f1, w1⟩ := m_sl w (y := 99) k1.1 k1.2 j1.1 j1.2
      rw [bI_t q3, if_neg n10, if_pos (ivM w), m_catAt k1.1 (by omega), bind_some', if_pos (ivM w), m_houAt j1.1 (by omega), bind_some', if_pos (ivM w), g1, bind_some', cI_t ⟨q, q3⟩]
      by_cases z : zS (catT T k) (houT T j) 99 = -2000000000
      · rw [if_pos z, if_pos z]; exact ⟨h1, rfl, f1⟩
      · obtain ⟨h2, g2, f2⟩ := l_mstands (p := p) (l := zS (catT T k) (houT T j) 99) k1.1 k1.2 j1.1 j1.2 99 98 h1 w1 rfl (by omega)
        rw [if_neg z, if_neg z]
        exact ⟨h2, g2, f1.tr f2⟩
    · exact ⟨h, by rw [bI_f q3, if_pos rfl, cI_f (fun z => q3 z.2)], Fr.rf _ h⟩
  · exact ⟨h, by rw [bI_f (fun z => q (okK_L.1 z)), if_pos rfl, cI_f (fun z => q z.1)], Fr.rf _ h⟩
def zCh (g : Int → Int) (y c : Int) : Int := if g y = g (y - 1) then c else c + 1
noncomputable def aChanges (T : Int → Int) (k j : Int) : Int := cI (okK T k j) (itN (zCh (zS (catT T k) (houT T j))) 99 1 0) (-1)
theorem l_changes {h : Hp} {T g : Int → Int} (w : Inv h T) (e : ∀ s, 0 ≤ s → s < 100 → mR h 119 s = g s) : ∀ (n : Nat) (y c : Int), 1 ≤ y → y + n = 100 → 0 ≤ c → c ≤ y → P_LS_changes_52 1 c y h = some (itN (zCh g) n y c, h) := by
  have m := ivCh w
  intro n
  induction n with
  | zero =>
    intro y c y0 hy c0 c1
    rw [E_LS_changes_52, if_neg (by omega)]
    rfl
  | succ n ih =>
    intro y c y0 hy c0 c1
    rw [E_LS_changes_52, if_pos (show y < 100 by omega), if_pos (iv1 w), m.2.2.2.2.2, if_pos m.1, m.2.1, if_pos (okA_t m.2.2.2.1 (by omega) (by omega)), if_pos (iv1 w), if_pos m.1, w32_id (x := y - 1) (by omega) (by omega), if_pos (okA_t m.2.2.2.1 (by omega) (by omega)), e y (by omega) (by omega), e (y - 1) (by omega) (by omega), w32_id (x := y + 1) (by omega) (by omega), w32_id (x := c + 1) (by omega) (by omega)]
    show _ = some (itN (zCh g) n (y + 1) (zCh g y c), h)
    unfold zCh
    by_cases q : g y = g (y - 1)
    · rw [if_pos q, if_pos q]; exact ih (y + 1) c (by omega) (by omega) c0 (by omega)
    · rw [if_neg q, if_neg q]; exact ih (y + 1) (c + 1) (by omega) (by omega) (by omega) (by omega)
theorem q_changes {h : Hp} {T : Int → Int} (w : Inv h T) (k j : Int) : ∃ h', C_LS_changes 1 k j h = some (aChanges T k j, h') ∧ Fr pZ h h' := by
  have n := ivn w
  have m := ivCh w
  rw [E_LS_changes, if_pos (iv1 w), s_isCat w, bind_some']
  unfold aChanges
  by_cases q1 : 0 ≤ k ∧ k < T 0
  · rw [bI_t q1, if_neg n10, if_pos (iv1 w), s_isHou w, bind_some']
    by_cases q2 : 0 ≤ j ∧ j < T 1
    · obtain ⟨h1, g1, f1, w1, e1⟩ := s_fill w q1.1 q1.2 q2.1 q2.2
      refine ⟨h1, ?_, f1⟩
      rw [bI_t q2, if_neg n10, if_pos (iv1 w), if_pos (iv1 w), if_pos (iv1 w), iv10 w, if_pos (iv2 w), iv28 w, if_pos (ivR4 w q1.1 (by omega)), if_pos (iv1 w), if_pos (iv2 w), iv29 w, if_pos (ivR5 w q2.1 (by omega)), m.2.2.2.2.2, if_pos m.1, iv16 w, iv4 w q1.1 (by omega), iv5 w q2.1 (by omega), g1, bind_some', cI_t ⟨q1, q2⟩]
      exact l_changes w1 e1 99 1 0 (by omega) (by omega) (by omega) (by omega)
    · exact ⟨h, by rw [bI_f q2, if_pos rfl, cI_f (fun z => q2 z.2)], Fr.rf _ h⟩
  · exact ⟨h, by rw [bI_f q1, if_pos rfl, cI_f (fun z => q1 z.1)], Fr.rf _ h⟩
theorem l_mchanges {T : Int → Int} {k j : Int} (k0 : 0 ≤ k) (k1 : k < T 0) (j0 : 0 ≤ j) (j1 : j < T 1) : ∀ (n : Nat) (y c : Int) (h : Hp), Inv h T → 1 ≤ y → y + n = 100 → 0 ≤ c → c ≤ y → ∃ h', P_Mo_changes_37 124 j (520 + 330 * k) (zS (catT T k) (houT T j) (y - 1)) c y h = some (itN (zCh (zS (catT T k) (houT T j))) n y c, h') ∧ Fr pZ h h' := by
  intro n
  induction n with
  | zero =>
    intro y c h w y0 hy c0 c1
    refine ⟨h, ?_, Fr.rf _ h⟩
    rw [E_Mo_changes_37, if_neg (by omega)]
    rfl
  | succ n ih =>
    intro y c h w y0 hy c0 c1
    have nn := ivn w
    obtain ⟨h1, g1, f1, w1⟩ := m_sl w (y := y) k0 k1 j0 j1
    rw [E_Mo_changes_37, if_pos (show y < 100 by omega), if_pos (ivM w), m_houAt j0 (by omega), bind_some', if_pos (ivM w), g1, bind_some', w32_id (x := y + 1) (by omega) (by omega), w32_id (x := c + 1) (by omega) (by omega), w32_id (x := c + 0) (by omega) (by omega), Int.add_zero]
    dsimp only
    show ∃ h', _ = some (itN (zCh (zS (catT T k) (houT T j))) n (y + 1) (zCh (zS (catT T k) (houT T j)) y c), h') ∧ _
    unfold zCh
    by_cases q : zS (catT T k) (houT T j) y = zS (catT T k) (houT T j) (y - 1)
    · rw [if_pos q, if_pos q]
      obtain ⟨h2, g2, f2⟩ := ih (y + 1) c h1 w1 (by omega) (by omega) c0 (by omega)
      rw [show y + 1 - 1 = y by omega] at g2
      exact ⟨h2, g2, f1.tr f2⟩
    · rw [if_neg q, if_neg q]
      obtain ⟨h2, g2, f2⟩ := ih (y + 1) (c + 1) h1 w1 (by omega) (by omega) (by omega) (by omega)
      rw [show y + 1 - 1 = y by omega] at g2
      exact ⟨h2, g2, f1.tr f2⟩
theorem r_changes {h : Hp} {T : Int → Int} (w : Inv h T) (k j : Int) : ∃ h', C_Mo_changes 124 k j h = some (aChanges T k j, h') ∧ Fr pZ h h' := by
  have n := ivn w
  rw [E_Mo_changes, if_pos (ivM w), m_areAll w, bind_some']
  unfold aChanges
  by_cases q : okK T k j
  · have k1 := q.1
    have j1 := q.2
    obtain ⟨h1, g1, f1, w1⟩ := m_sl w (y := 0) k1.1 k1.2 j1.1 j1.2
    obtain ⟨h2, g2, f2⟩ := l_mchanges k1.1 k1.2 j1.1 j1.2 99 1 0 h1 w1 (by omega) (by omega) (by omega) (by omega)
    refine ⟨h2, ?_, f1.tr f2⟩
    rw [bI_t (okK_L.2 q), if_neg n10, if_pos (ivM w), m_catAt k1.1 (by omega), bind_some', if_pos (ivM w), m_houAt j1.1 (by omega), bind_some', if_pos (ivM w), g1, bind_some', cI_t q]
    exact g2
  · exact ⟨h, by rw [bI_f (fun z => q (okK_L.1 z)), if_pos rfl, cI_f q], Fr.rf _ h⟩
noncomputable def zBs (s a b : Int) : Int := if s = -2000000000 then -2000000000 else if b < s then w64 (s - b) else if s < a then w64 (s - a) else 0
noncomputable def aBeside (T : Int → Int) (k j y a b : Int) : Int := cI (okL T k j y ∧ a ≤ b) (zBs (zS (catT T k) (houT T j) y) a b) (-2000000000)
theorem q_beside {h : Hp} {T : Int → Int} (w : Inv h T) (k j y a b : Int) : ∃ h', C_LS_beside 1 k j y a b h = some (aBeside T k j y a b, h') ∧ Fr pZ h h' := by
  rw [E_LS_beside]
  unfold aBeside
  by_cases q1 : a ≤ b
  · rw [if_neg (show ¬ b < a by omega), if_pos (iv1 w)]
    by_cases q2 : okL T k j y
    · obtain ⟨h1, g1, g2, g3⟩ := s_Look w q2
      have w1 := w.of (g2.to pL_Z)
      have es : C_Su_slope 99 h1 = some (zS (catT T k) (houT T j) y, h1) := s_slope g3.1 g3.2.1
      refine ⟨h1, ?_, g2.to pL_Z⟩
      rw [g1, bind_some', if_neg n10, if_pos (iv1 w1), iv16 w1, if_pos (ivS w1), es, bind_some', cI_t ⟨q2, q1⟩]
      unfold zBs
      dsimp only
      split
      · rfl
      · split
        · rfl
        · split <;> rfl
    · exact ⟨h, by rw [s_LookN w q2, bind_some', if_pos rfl, cI_f (fun z => q2 z.1)], Fr.rf _ h⟩
  · exact ⟨h, by rw [if_pos (show b < a by omega), cI_f (fun z => q1 z.2)], Fr.rf _ h⟩
theorem r_beside {h : Hp} {T : Int → Int} (w : Inv h T) (k j y a b : Int) : ∃ h', C_Mo_beside 124 k j y a b h = some (aBeside T k j y a b, h') ∧ Fr pZ h h' := by
  have n := ivn w
  rw [E_Mo_beside, if_pos (ivM w), m_areAll w, bind_some']
  unfold aBeside
  by_cases q2 : okL T k j y
  · have k1 := q2.1
    have j1 := q2.2.1
    rw [bI_t q2, if_neg n10]
    by_cases q1 : a ≤ b
    · obtain ⟨h1, g1, f1, w1⟩ := m_sl w (y := y) k1.1 k1.2 j1.1 j1.2
      refine ⟨h1, ?_, f1⟩
      rw [if_neg (show ¬ b < a by omega), if_pos (ivM w), m_catAt k1.1 (by omega), bind_some', if_pos (ivM w), m_houAt j1.1 (by omega), bind_some', if_pos (ivM w), g1, bind_some', cI_t ⟨q2, q1⟩]
      unfold zBs
      dsimp only
      split
      · rfl
      · split
        · rfl
        · split <;> rfl
    · exact ⟨h, by rw [if_pos (show b < a by omega), cI_f (fun z => q1 z.2)], Fr.rf _ h⟩
  · exact ⟨h, by rw [bI_f q2, if_pos rfl, cI_f (fun z => q2 z.1)], Fr.rf _ h⟩
