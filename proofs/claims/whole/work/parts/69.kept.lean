/-! What was said: kept. -/
def yH (T : Int → Int) (i : Int) : Int := T (1730 + 4 * i)
def yL (T : Int → Int) (i : Int) : Int := T (1732 + 4 * i)
def yU (T : Int → Int) (i : Int) : Int := T (1733 + 4 * i)
noncomputable def zK (T : Int → Int) (k i y : Int) : Int := zS (catT T k) (houT T (yH T i)) y
def zHo (s a b : Int) : Int := if s = -2000000000 then 0 else if s < a then 0 else if b < s then 0 else 1
theorem ivY {h : Hp} {T : Int → Int} (w : Inv h T) {i : Int} (i0 : 0 ≤ i) (i1 : i < T 3) : Yok T i ∧ okR h 7 i = true ∧ mR h 7 i = 65 + i ∧ okF h (65 + i) 7 = true ∧ mR h (65 + i) 0 = yH T i ∧ mR h (65 + i) 1 = T (1731 + 4 * i) ∧ mR h (65 + i) 2 = yL T i ∧ mR h (65 + i) 3 = yU T i := by
  have n := ivn w
  have x2 := w.2.1.2.2.2.2.2.2.2.2.2.2.2 i i0 (by omega)
  have y := fun j => w.2.2.1.2.2.2.2.2.2.2.2.2.2.1 i j i0 i1
  have y0 := y 0 (by omega) (by omega)
  have y1 := y 1 (by omega) (by omega)
  have y2 := y 2 (by omega) (by omega)
  have y3 := y 3 (by omega) (by omega)
  rw [show 1730 + 4 * i + 0 = 1730 + 4 * i by omega] at y0
  rw [show 1730 + 4 * i + 1 = 1731 + 4 * i by omega] at y1
  rw [show 1730 + 4 * i + 2 = 1732 + 4 * i by omega] at y2
  rw [show 1730 + 4 * i + 3 = 1733 + 4 * i by omega] at y3
  exact ⟨w.2.2.1.2.2.2.2.2.2.2.2.2.2.2 i i0 i1, okR_t (k := 114) w.2.1.2.2.2.2.2.2.2.1 (by decide) (by decide) (by decide) i0 (by omega), x2.1, okF_t x2.2, y0, y1, y2, y3⟩
theorem iv27 {h : Hp} {T : Int → Int} (w : Inv h T) : mR h 2 7 = T 3 ∧ mR h 2 11 = 7 := ⟨w.2.2.1.1.2.2.2.2.2.2, w.2.1.2.2.1.2.2.2.2⟩
theorem s_last {h : Hp} {T : Int → Int} (w : Inv h T) {k i : Int} (k0 : 0 ≤ k) (k1 : k < T 0) (i0 : 0 ≤ i) (i1 : i < T 3) : ∃ h', C_LS_lastSlope 1 (8 + 8 * k) (65 + i) h = some (zK T k i 99, h') ∧ Fr pZ h h' ∧ Inv h' T := by
  have n := ivn w
  have y := ivY w i0 i1
  have yk : 0 ≤ yH T i ∧ yH T i < T 1 := y.1.1
  obtain ⟨h1, g1, f1, l1, w1⟩ := s_LookH w (y := 99) k0 k1 yk.1 yk.2
  have es : C_Su_slope 99 h1 = some (zK T k i 99, h1) := s_slope l1.1 l1.2.1
  refine ⟨h1, ?_, f1.to pL_Z, w1⟩
  rw [E_LS_lastSlope, if_pos (iv1 w), if_pos (iv1 w), iv10 w, if_pos (iv2 w), if_pos y.2.2.2.1, y.2.2.2.2.1, iv29 w, if_pos (ivR5 w yk.1 (by omega)), iv16 w, if_pos (ivS w), iv5 w yk.1 (by omega), g1, bind_some', if_pos (iv1 w1), iv16 w1, if_pos (ivS w1), es, bind_some']
theorem s_holds {h : Hp} {T : Int → Int} (w : Inv h T) {i : Int} (i0 : 0 ≤ i) (i1 : i < T 3) (s : Int) : C_Sa_holds (65 + i) s h = some (zHo s (yL T i) (yU T i), h) := by
  have y := ivY w i0 i1
  rw [E_Sa_holds, if_pos y.2.2.2.1, if_pos y.2.2.2.1, y.2.2.2.2.2.2.1, y.2.2.2.2.2.2.2]
  unfold zHo
  split
  · rfl
  · split
    · rfl
    · split <;> rfl
theorem zHo_b (s a b : Int) : zHo s a b = 0 ∨ zHo s a b = 1 := by
  unfold zHo
  split
  · exact Or.inl rfl
  · split
    · exact Or.inl rfl
    · split
      · exact Or.inl rfl
      · exact Or.inr rfl
noncomputable def zC0 (T : Int → Int) (k i c : Int) : Int := if zHo (zK T k i 99) (yL T i) (yU T i) = 0 then c else c + 1
noncomputable def zC1 (T : Int → Int) (k i c : Int) : Int := if zK T k i 99 = -2000000000 then c else c + 1
theorem l_ck0 {T : Int → Int} {k : Int} (k0 : 0 ≤ k) (k1 : k < T 0) : ∀ (n : Nat) (i c : Int) (h : Hp), Inv h T → 0 ≤ i → i + n = T 3 → 0 ≤ c → c ≤ i → ∃ h', P_LS_countKept_4 1 (8 + 8 * k) c i h = some (itN (zC0 T k) n i c, h') ∧ Fr pZ h h' := by
  intro n
  induction n with
  | zero =>
    intro i c h w i0 hi c0 c1
    refine ⟨h, ?_, Fr.rf _ h⟩
    rw [E_LS_countKept_4, if_pos (iv1 w), iv10 w, if_pos (iv2 w), (iv27 w).1, if_neg (by omega)]
    rfl
  | succ n ih =>
    intro i c h w i0 hi c0 c1
    have nn := ivn w
    have y := ivY w i0 (by omega)
    obtain ⟨h1, g1, f1, w1⟩ := s_last w k0 k1 i0 (show i < T 3 by omega)
    have y1 := ivY w1 i0 (by omega)
    rw [E_LS_countKept_4, if_pos (iv1 w), iv10 w, if_pos (iv2 w), (iv27 w).1, if_pos (show i < T 3 by omega), if_pos (iv1 w), if_pos (iv2 w), (iv27 w).2, if_pos y.2.1, if_pos (iv1 w), if_pos (iv2 w), if_pos y.2.1, if_pos (iv1 w), y.2.2.1, g1, bind_some', if_pos y1.2.2.2.1, s_holds w1 i0 (by omega), bind_some', w32_id (x := i + 1) (by omega) (by omega), w32_id (x := c + 1) (by omega) (by omega)]
    dsimp only
    show ∃ h', _ = some (itN (zC0 T k) n (i + 1) (zC0 T k i c), h') ∧ _
    unfold zC0
    by_cases q : zHo (zK T k i 99) (yL T i) (yU T i) = 0
    · rw [if_pos q, if_pos q]
      obtain ⟨h2, g2, f2⟩ := ih (i + 1) c h1 w1 (by omega) (by omega) c0 (by omega)
      exact ⟨h2, g2, f1.tr f2⟩
    · rw [if_neg q, if_neg q]
      obtain ⟨h2, g2, f2⟩ := ih (i + 1) (c + 1) h1 w1 (by omega) (by omega) (by omega) (by omega)
      exact ⟨h2, g2, f1.tr f2⟩
theorem l_ck1 {T : Int → Int} {k : Int} (k0 : 0 ≤ k) (k1 : k < T 0) : ∀ (n : Nat) (i c : Int) (h : Hp), Inv h T → 0 ≤ i → i + n = T 3 → 0 ≤ c → c ≤ i → ∃ h', P_LS_countLined_4 1 (8 + 8 * k) c i h = some (itN (zC1 T k) n i c, h') ∧ Fr pZ h h' := by
  intro n
  induction n with
  | zero =>
    intro i c h w i0 hi c0 c1
    refine ⟨h, ?_, Fr.rf _ h⟩
    rw [E_LS_countLined_4, if_pos (iv1 w), iv10 w, if_pos (iv2 w), (iv27 w).1, if_neg (by omega)]
    rfl
  | succ n ih =>
    intro i c h w i0 hi c0 c1
    have nn := ivn w
    have y := ivY w i0 (by omega)
    obtain ⟨h1, g1, f1, w1⟩ := s_last w k0 k1 i0 (show i < T 3 by omega)
    rw [E_LS_countLined_4, if_pos (iv1 w), iv10 w, if_pos (iv2 w), (iv27 w).1, if_pos (show i < T 3 by omega), if_pos (iv1 w), if_pos (iv2 w), (iv27 w).2, if_pos y.2.1, if_pos (iv1 w), y.2.2.1, g1, bind_some', w32_id (x := i + 1) (by omega) (by omega), w32_id (x := c + 1) (by omega) (by omega)]
    dsimp only
    show ∃ h', _ = some (itN (zC1 T k) n (i + 1) (zC1 T k i c), h') ∧ _
    unfold zC1
    by_cases q : zK T k i 99 = -2000000000
    · rw [if_pos q, if_pos q]
      obtain ⟨h2, g2, f2⟩ := ih (i + 1) c h1 w1 (by omega) (by omega) c0 (by omega)
      exact ⟨h2, g2, f1.tr f2⟩
    · rw [if_neg q, if_neg q]
      obtain ⟨h2, g2, f2⟩ := ih (i + 1) (c + 1) h1 w1 (by omega) (by omega) (by omega) (by omega)
      exact ⟨h2, g2, f1.tr f2⟩
/-- how much wider -/
def zWf (s a b : Int) : Int := w64 (Int.tdiv (w64 (w64 (w64 (apt (2 * s - a - b) * 100) + (b - a)) - 1)) (b - a))
noncomputable def zC2 (T : Int → Int) (k i c : Int) : Int := if zK T k i 99 = -2000000000 then c else if c < zWf (zK T k i 99) (yL T i) (yU T i) then zWf (zK T k i 99) (yL T i) (yU T i) else c
noncomputable def zWi (m : Int) : Int := if 1000000 < m then -1 else w32 m
theorem s_wfor {h : Hp} {T : Int → Int} (w : Inv h T) {i : Int} (i0 : 0 ≤ i) (i1 : i < T 3) {s : Int} (sb : -9999000 ≤ s ∧ s ≤ 9999000) : C_Sa_widthFor (65 + i) s h = some (zWf s (yL T i) (yU T i), h) := by
  have y := ivY w i0 i1
  have yb : -999999 ≤ yL T i ∧ yL T i < yU T i ∧ yU T i ≤ 999999 := y.1.2.2
  have ae := apt_e (x := 2 * s) (y := yL T i + yU T i) (by omega) (by omega)
  rw [w64_id (x := 2 * s - (yL T i + yU T i)) (by omega) (by omega), show 2 * s - (yL T i + yU T i) = 2 * s - yL T i - yU T i by omega] at ae
  rw [E_Sa_widthFor, if_pos y.2.2.2.1, if_pos y.2.2.2.1, y.2.2.2.2.2.2.1, y.2.2.2.2.2.2.2, w64_id (x := yU T i - yL T i) (by omega) (by omega), if_pos (show 0 < yU T i - yL T i by omega), if_pos y.2.2.2.1, if_pos y.2.2.2.1, w64_id (x := 2 * s) (by omega) (by omega), w64_id (x := yL T i + yU T i) (by omega) (by omega), s_apart, bind_some', if_neg (show ¬ yU T i - yL T i = 0 by omega), show 2 * s - (yL T i + yU T i) = 2 * s - yL T i - yU T i by omega]
  dsimp only
  rw [show (if 2 * s < yL T i + yU T i then w64 (yL T i + yU T i - 2 * s) else w64 (2 * s - yL T i - yU T i)) = apt (2 * s - yL T i - yU T i) from by
    rw [← ae.1, w64_id (x := 2 * s - yL T i - yU T i) (by omega) (by omega)]]
  rfl
theorem l_ck2 {T : Int → Int} {k : Int} (k0 : 0 ≤ k) (k1 : k < T 0) : ∀ (n : Nat) (i c : Int) (h : Hp), Inv h T → 0 ≤ i → i + n = T 3 → ∃ h', P_LS_wider_5 1 (8 + 8 * k) c i h = some (zWi (itN (zC2 T k) n i c), h') ∧ Fr pZ h h' := by
  intro n
  induction n with
  | zero =>
    intro i c h w i0 hi
    refine ⟨h, ?_, Fr.rf _ h⟩
    rw [E_LS_wider_5, if_pos (iv1 w), iv10 w, if_pos (iv2 w), (iv27 w).1, if_neg (by omega)]
    show _ = some (zWi c, h)
    unfold zWi
    split <;> rfl
  | succ n ih =>
    intro i c h w i0 hi
    have nn := ivn w
    have y := ivY w i0 (by omega)
    have yk : 0 ≤ yH T i ∧ yH T i < T 1 := y.1.1
    obtain ⟨h1, g1, f1, w1⟩ := s_last w k0 k1 i0 (show i < T 3 by omega)
    have y1 := ivY w1 i0 (by omega)
    rw [E_LS_wider_5, if_pos (iv1 w), iv10 w, if_pos (iv2 w), (iv27 w).1, if_pos (show i < T 3 by omega), if_pos (iv1 w), if_pos (iv2 w), (iv27 w).2, if_pos y.2.1, if_pos (iv1 w), y.2.2.1, g1, bind_some', w32_id (x := i + 1) (by omega) (by omega), if_pos (iv1 w1), iv10 w1, if_pos (iv2 w1), (iv27 w1).2, if_pos y1.2.1, y1.2.2.1, if_pos y1.2.2.2.1]
    dsimp only
    show ∃ h', _ = some (zWi (itN (zC2 T k) n (i + 1) (zC2 T k i c)), h') ∧ _
    unfold zC2
    by_cases q : zK T k i 99 = -2000000000
    · rw [if_pos q, if_pos q]
      obtain ⟨h2, g2, f2⟩ := ih (i + 1) c h1 w1 (by omega) (by omega)
      exact ⟨h2, g2, f1.tr f2⟩
    · have sb : -9999000 ≤ zK T k i 99 ∧ zK T k i 99 ≤ 9999000 := (zS_b (ivC w k0 k1).2.1 (ivH w yk.1 yk.2).2.1 99).resolve_left q
      rw [if_neg q, if_neg q, s_wfor w1 i0 (by omega) sb, bind_some', s_max, bind_some']
      dsimp only
      obtain ⟨h2, g2, f2⟩ := ih (i + 1) _ h1 w1 (by omega) (by omega)
      exact ⟨h2, g2, f1.tr f2⟩
/-- until -/
noncomputable def zUn (g : Int → Int) (a b : Int) : Nat → Int → Int
  | 0, _ => -1
  | n + 1, y => if zHo (g y) a b = 0 then y else zUn g a b n (y + 1)
theorem l_until {h : Hp} {T g : Int → Int} (w : Inv h T) (e : ∀ s, 0 ≤ s → s < 100 → mR h 119 s = g s) {i : Int} (i0 : 0 ≤ i) (i1 : i < T 3) : ∀ (n : Nat) (y : Int), 0 ≤ y → y + n = 100 → P_LS_until_29 1 (65 + i) y h = some (zUn g (yL T i) (yU T i) n y, h) := by
  have m := ivCh w
  have yy := ivY w i0 i1
  intro n
  induction n with
  | zero =>
    intro y y0 hy
    rw [E_LS_until_29, if_neg (by omega)]
    rfl
  | succ n ih =>
    intro y y0 hy
    rw [E_LS_until_29, if_pos (show y < 100 by omega), if_pos (iv1 w), m.2.2.2.2.2, if_pos m.1, m.2.1, if_pos (okA_t m.2.2.2.1 y0 (by omega)), e y y0 (by omega), if_pos yy.2.2.2.1, s_holds w i0 i1, bind_some', w32_id (x := y + 1) (by omega) (by omega)]
    dsimp only
    unfold zUn
    by_cases q : zHo (g y) (yL T i) (yU T i) = 0
    · rw [if_pos q, if_pos q]
    · rw [if_neg q, if_neg q]; exact ih (y + 1) (by omega) (by omega)
theorem s_until {h : Hp} {T : Int → Int} (w : Inv h T) {k i : Int} (k0 : 0 ≤ k) (k1 : k < T 0) (i0 : 0 ≤ i) (i1 : i < T 3) : ∃ h', C_LS_until 1 (8 + 8 * k) (65 + i) h = some (zUn (zK T k i) (yL T i) (yU T i) (100 - T (1731 + 4 * i)).toNat (T (1731 + 4 * i)), h') ∧ Fr pZ h h' := by
  have n := ivn w
  have m := ivCh w
  have y := ivY w i0 i1
  have yk : 0 ≤ yH T i ∧ yH T i < T 1 := y.1.1
  have yy := y.1.2.1
  obtain ⟨h1, g1, f1, w1, e1⟩ := s_fill w k0 k1 yk.1 yk.2
  have y1 := ivY w1 i0 i1
  refine ⟨h1, ?_, f1⟩
  rw [E_LS_until, if_pos (iv1 w), if_pos (iv1 w), if_pos (iv1 w), iv10 w, if_pos (iv2 w), if_pos y.2.2.2.1, y.2.2.2.2.1, iv29 w, if_pos (ivR5 w yk.1 (by omega)), m.2.2.2.2.2, if_pos m.1, iv16 w, iv5 w yk.1 (by omega), g1, bind_some', if_pos y1.2.2.2.1, y1.2.2.2.2.2.1]
  exact l_until w1 e1 i0 i1 (100 - T (1731 + 4 * i)).toNat (T (1731 + 4 * i)) (by omega) (by omega)
noncomputable def aKept (T : Int → Int) (k x : Int) : Int := cI (0 ≤ k ∧ k < T 0) (if x = 0 then itN (zC0 T k) (T 3).toNat 0 0 else if x = 1 then itN (zC1 T k) (T 3).toNat 0 0 else if x = 2 then zWi (itN (zC2 T k) (T 3).toNat 0 0) else if 10 ≤ x ∧ x < 10 + T 3 then zHo (zK T k (x - 10) 99) (yL T (x - 10)) (yU T (x - 10)) else if 30 ≤ x ∧ x < 30 + T 3 then zUn (zK T k (x - 30)) (yL T (x - 30)) (yU T (x - 30)) (100 - T (1731 + 4 * (x - 30))).toNat (T (1731 + 4 * (x - 30))) else -1) (-1)
theorem q_kept {h : Hp} {T : Int → Int} (w : Inv h T) (k x : Int) : ∃ h', C_LS_kept 1 k x h = some (aKept T k x, h') ∧ Fr pZ h h' := by
  have n := ivn w
  rw [E_LS_kept, if_pos (iv1 w), s_isCat w, bind_some']
  unfold aKept
  by_cases q1 : 0 ≤ k ∧ k < T 0
  · rw [bI_t q1, if_neg n10, cI_t q1, if_pos (iv1 w), iv10 w, if_pos (iv2 w), iv28 w, if_pos (ivR4 w q1.1 (by omega)), iv4 w q1.1 (by omega)]
    dsimp only
    by_cases x0 : x = 0
    · obtain ⟨h1, g1, f1⟩ := l_ck0 q1.1 q1.2 (T 3).toNat 0 0 h w (by omega) (by omega) (by omega) (by omega)
      rw [if_pos x0, if_pos x0, if_pos (iv1 w), E_LS_countKept, g1, bind_some']; exact ⟨h1, rfl, f1⟩
    · rw [if_neg x0, if_neg x0]
      by_cases x1 : x = 1
      · obtain ⟨h1, g1, f1⟩ := l_ck1 q1.1 q1.2 (T 3).toNat 0 0 h w (by omega) (by omega) (by omega) (by omega)
        rw [if_pos x1, if_pos x1, if_pos (iv1 w), E_LS_countLined, g1, bind_some']; exact ⟨h1, rfl, f1⟩
      · rw [if_neg x1, if_neg x1]
        by_cases x2 : x = 2
        · obtain ⟨h1, g1, f1⟩ := l_ck2 q1.1 q1.2 (T 3).toNat 0 0 h w (by omega) (by omega)
          rw [if_pos x2, if_pos x2, if_pos (iv1 w), E_LS_wider, g1, bind_some']; exact ⟨h1, rfl, f1⟩
        · rw [if_neg x2, if_neg x2, if_pos (iv1 w), if_pos (iv2 w), (iv27 w).1, w32_id (x := 30 + T 3) (by omega) (by omega), w32_id (x := 10 + T 3) (by omega) (by omega)]
          by_cases y1 : 10 ≤ x ∧ x < 10 + T 3
          · have y := ivY w (i := x - 10) (by omega) (by omega)
            obtain ⟨h1, g1, f1, w1⟩ := s_last w q1.1 q1.2 (i := x - 10) (by omega) (by omega)
            have yy := ivY w1 (i := x - 10) (by omega) (by omega)
            refine ⟨h1, ?_, f1⟩
            rw [if_neg (show ¬ x < 10 by omega), if_pos (iv1 w), if_pos (iv2 w), if_pos y1.2, if_pos (iv1 w), if_pos (iv2 w), (iv27 w).2, w32_id (x := x - 10) (by omega) (by omega), if_pos y.2.1, if_pos (iv1 w), y.2.2.1, g1, bind_some', if_pos yy.2.2.2.1, s_holds w1 (by omega) (by omega), bind_some', if_pos y1]
            dsimp only
            rcases zHo_b (zK T k (x - 10) 99) (yL T (x - 10)) (yU T (x - 10)) with z | z
            · rw [z, if_pos rfl]
            · rw [z, if_neg n10]
          · rw [if_neg y1]
            have key : ∃ h', (if x < 30 then some (-1, h) else if x < 30 + T 3 then (if okR h 7 (w32 (x - 30)) = true then (C_LS_until 1 (8 + 8 * k) (mR h 7 (w32 (x - 30))) h).bind (fun z => some (z.1, z.2)) else none) else some (-1, h)) = some (if 30 ≤ x ∧ x < 30 + T 3 then zUn (zK T k (x - 30)) (yL T (x - 30)) (yU T (x - 30)) (100 - T (1731 + 4 * (x - 30))).toNat (T (1731 + 4 * (x - 30))) else -1, h') ∧ Fr pZ h h' := by
              by_cases y2 : x < 30
              · exact ⟨h, by rw [if_pos y2, if_neg (by omega)], Fr.rf _ h⟩
              · rw [if_neg y2]
                by_cases y3 : x < 30 + T 3
                · have y := ivY w (i := x - 30) (by omega) (by omega)
                  obtain ⟨h1, g1, f1⟩ := s_until w q1.1 q1.2 (i := x - 30) (by omega) (by omega)
                  refine ⟨h1, ?_, f1⟩
                  rw [if_pos y3, w32_id (x := x - 30) (by omega) (by omega), if_pos y.2.1, y.2.2.1, g1, bind_some', if_pos (show 30 ≤ x ∧ x < 30 + T 3 by omega)]
                · exact ⟨h, by rw [if_neg y3, if_neg (by omega)], Fr.rf _ h⟩
            obtain ⟨h1, g1, f1⟩ := key
            refine ⟨h1, ?_, f1⟩
            simp only [iv1 w, iv2 w, ↓reduceIte, (iv27 w).2]
            by_cases y2 : x < 10
            · rw [if_pos y2]; exact g1
            · rw [if_neg y2, if_neg (show ¬ x < 10 + T 3 by omega)]; exact g1
  · exact ⟨h, by rw [bI_f q1, if_pos rfl, cI_f q1], Fr.rf _ h⟩
/-! the reference -/
theorem ivYm {h : Hp} {T : Int → Int} (w : Inv h T) {i : Int} (i0 : 0 ≤ i) (i1 : i < T 3) : mR h 125 (1730 + 4 * i) = yH T i ∧ mR h 125 (1730 + 4 * i + 1) = T (1731 + 4 * i) ∧ mR h 125 (1730 + 4 * i + 2) = yL T i ∧ mR h 125 (1730 + 4 * i + 3) = yU T i := by
  have n := ivn w
  refine ⟨ivMT w (by omega) (by omega), ?_, ?_, ?_⟩
  · rw [ivMT w (by omega) (by omega), show 1730 + 4 * i + 1 = 1731 + 4 * i by omega]
  · rw [ivMT w (by omega) (by omega), show 1730 + 4 * i + 2 = 1732 + 4 * i by omega]; rfl
  · rw [ivMT w (by omega) (by omega), show 1730 + 4 * i + 3 = 1733 + 4 * i by omega]; rfl
theorem m_keeps {h : Hp} {T : Int → Int} (w : Inv h T) {k i y : Int} (k0 : 0 ≤ k) (k1 : k < T 0) (i0 : 0 ≤ i) (i1 : i < T 3) : ∃ h', C_Mo_keeps 124 (520 + 330 * k) i y h = some (zHo (zK T k i y) (yL T i) (yU T i), h') ∧ Fr pZ h h' ∧ Inv h' T := by
  have n := ivn w
  have yy := ivY w i0 i1
  have yk : 0 ≤ yH T i ∧ yH T i < T 1 := yy.1.1
  have a := ivYm w i0 i1
  obtain ⟨h1, g1, f1, w1⟩ := m_sl w (y := y) k0 k1 yk.1 yk.2
  have b := ivYm w1 i0 i1
  have ez : zS (catT T k) (houT T (yH T i)) y = zK T k i y := rfl
  rw [ez] at g1
  refine ⟨h1, ?_, f1, w1⟩
  rw [E_Mo_keeps, if_pos (ivM w), ivM0 w, w32_id (x := 4 * i) (by omega) (by omega), w32_id (x := 1730 + 4 * i) (by omega) (by omega), if_pos (ivMA w (by omega) (by omega)), if_pos (ivM w), a.1, m_houAt yk.1 (by omega), bind_some', if_pos (ivM w), g1, bind_some', if_pos (ivM w1), ivM0 w1, w32_id (x := 1730 + 4 * i + 2) (by omega) (by omega), if_pos (ivMA w1 (by omega) (by omega)), if_pos (ivM w1), w32_id (x := 1730 + 4 * i + 3) (by omega) (by omega), if_pos (ivMA w1 (by omega) (by omega)), b.2.2.1, b.2.2.2]
  unfold zHo
  dsimp only
  split
  · rfl
  · split
    · rfl
    · split <;> rfl
theorem l_mck0 {T : Int → Int} {k : Int} (k0 : 0 ≤ k) (k1 : k < T 0) : ∀ (n : Nat) (i c : Int) (h : Hp), Inv h T → 0 ≤ i → i + n = T 3 → 0 ≤ c → c ≤ i → ∃ h', P_Mo_kept_111 124 0 (520 + 330 * k) c i h = some (itN (zC0 T k) n i c, h') ∧ Fr pZ h h' := by
  intro n
  induction n with
  | zero =>
    intro i c h w i0 hi c0 c1
    refine ⟨h, ?_, Fr.rf _ h⟩
    rw [E_Mo_kept_111, if_pos (ivM w), ivM0 w, if_pos (ivMA w (by omega) (by omega)), ivMT w (by omega) (by omega), if_neg (by omega)]
    rfl
  | succ n ih =>
    intro i c h w i0 hi c0 c1
    have nn := ivn w
    obtain ⟨h1, g1, f1, w1⟩ := m_keeps w (y := 99) k0 k1 i0 (show i < T 3 by omega)
    rw [E_Mo_kept_111, if_pos (ivM w), ivM0 w, if_pos (ivMA w (by omega) (by omega)), ivMT w (by omega) (by omega), if_pos (show i < T 3 by omega), if_pos rfl, if_pos (ivM w), g1, bind_some', w32_id (x := i + 1) (by omega) (by omega), w32_id (x := c + 1) (by omega) (by omega), w32_id (x := c + 0) (by omega) (by omega), Int.add_zero]
    dsimp only
    show ∃ h', _ = some (itN (zC0 T k) n (i + 1) (zC0 T k i c), h') ∧ _
    unfold zC0
    by_cases q : zHo (zK T k i 99) (yL T i) (yU T i) = 0
    · rw [if_pos q, if_pos q]
      obtain ⟨h2, g2, f2⟩ := ih (i + 1) c h1 w1 (by omega) (by omega) c0 (by omega)
      exact ⟨h2, g2, f1.tr f2⟩
    · rw [if_neg q, if_neg q]
      obtain ⟨h2, g2, f2⟩ := ih (i + 1) (c + 1) h1 w1 (by omega) (by omega) (by omega) (by omega)
      exact ⟨h2, g2, f1.tr f2⟩
theorem l_mck1 {T : Int → Int} {k : Int} (k0 : 0 ≤ k) (k1 : k < T 0) : ∀ (n : Nat) (i c : Int) (h : Hp), Inv h T → 0 ≤ i → i + n = T 3 → 0 ≤ c → c ≤ i → ∃ h', P_Mo_kept_111 124 1 (520 + 330 * k) c i h = some (itN (zC1 T k) n i c, h') ∧ Fr pZ h h' := by
  intro n
  induction n with
  | zero =>
    intro i c h w i0 hi c0 c1
    refine ⟨h, ?_, Fr.rf _ h⟩
    rw [E_Mo_kept_111, if_pos (ivM w), ivM0 w, if_pos (ivMA w (by omega) (by omega)), ivMT w (by omega) (by omega), if_neg (by omega)]
    rfl
  | succ n ih =>
    intro i c h w i0 hi c0 c1
    have nn := ivn w
    have yy := ivY w i0 (by omega)
    have yk : 0 ≤ yH T i ∧ yH T i < T 1 := yy.1.1
    have a := ivYm w i0 (by omega)
    obtain ⟨h1, g1, f1, w1⟩ := m_sl w (y := 99) k0 k1 yk.1 yk.2
    have ez : zS (catT T k) (houT T (yH T i)) 99 = zK T k i 99 := rfl
    rw [ez] at g1
    rw [E_Mo_kept_111, if_pos (ivM w), ivM0 w, if_pos (ivMA w (by omega) (by omega)), ivMT w (by omega) (by omega), if_pos (show i < T 3 by omega), if_neg n10, if_pos (ivM w), w32_id (x := 4 * i) (by omega) (by omega), w32_id (x := 1730 + 4 * i) (by omega) (by omega), if_pos (ivMA w (by omega) (by omega)), if_pos (ivM w), a.1, m_houAt yk.1 (by omega), bind_some', if_pos (ivM w), g1, bind_some', w32_id (x := i + 1) (by omega) (by omega), w32_id (x := c + 1) (by omega) (by omega), w32_id (x := c + 0) (by omega) (by omega), Int.add_zero]
    dsimp only
    show ∃ h', _ = some (itN (zC1 T k) n (i + 1) (zC1 T k i c), h') ∧ _
    unfold zC1
    by_cases q : zK T k i 99 = -2000000000
    · rw [if_pos q, if_pos q]
      obtain ⟨h2, g2, f2⟩ := ih (i + 1) c h1 w1 (by omega) (by omega) c0 (by omega)
      exact ⟨h2, g2, f1.tr f2⟩
    · rw [if_neg q, if_neg q]
      obtain ⟨h2, g2, f2⟩ := ih (i + 1) (c + 1) h1 w1 (by omega) (by omega) (by omega) (by omega)
      exact ⟨h2, g2, f1.tr f2⟩
theorem l_mck2 {T : Int → Int} {k : Int} (k0 : 0 ≤ k) (k1 : k < T 0) : ∀ (n : Nat) (i c : Int) (h : Hp), Inv h T → 0 ≤ i → i + n = T 3 → ∃ h', P_Mo_wider_5 124 (520 + 330 * k) c i h = some (zWi (itN (zC2 T k) n i c), h') ∧ Fr pZ h h' := by
  intro n
  induction n with
  | zero =>
    intro i c h w i0 hi
    refine ⟨h, ?_, Fr.rf _ h⟩
    rw [E_Mo_wider_5, if_pos (ivM w), ivM0 w, if_pos (ivMA w (by omega) (by omega)), ivMT w (by omega) (by omega), if_neg (by omega)]
    show _ = some (zWi c, h)
    unfold zWi
    split <;> rfl
  | succ n ih =>
    intro i c h w i0 hi
    have nn := ivn w
    have yy := ivY w i0 (by omega)
    have yk : 0 ≤ yH T i ∧ yH T i < T 1 := yy.1.1
    have yb : -999999 ≤ yL T i ∧ yL T i < yU T i ∧ yU T i ≤ 999999 := yy.1.2.2
    have a := ivYm w i0 (by omega)
    obtain ⟨h1, g1, f1, w1⟩ := m_sl w (y := 99) k0 k1 yk.1 yk.2
    have b := ivYm w1 i0 (by omega)
    have ez : zS (catT T k) (houT T (yH T i)) 99 = zK T k i 99 := rfl
    rw [ez] at g1
    have A2 : okA h1 125 102 (1730 + 4 * i + 2) = true := ivMA w1 (by omega) (by omega)
    have A3 : okA h1 125 102 (1730 + 4 * i + 3) = true := ivMA w1 (by omega) (by omega)
    rw [E_Mo_wider_5, if_pos (ivM w), ivM0 w, if_pos (ivMA w (by omega) (by omega)), ivMT w (by omega) (by omega), if_pos (show i < T 3 by omega), if_pos (ivM w), w32_id (x := 4 * i) (by omega) (by omega), w32_id (x := 1730 + 4 * i) (by omega) (by omega), if_pos (ivMA w (by omega) (by omega)), if_pos (ivM w), a.1, m_houAt yk.1 (by omega), bind_some', if_pos (ivM w), g1, bind_some', w32_id (x := i + 1) (by omega) (by omega), w32_id (x := 1730 + 4 * i + 2) (by omega) (by omega), w32_id (x := 1730 + 4 * i + 3) (by omega) (by omega)]
    show ∃ h', _ = some (zWi (itN (zC2 T k) n (i + 1) (zC2 T k i c)), h') ∧ _
    dsimp only
    by_cases q : zK T k i 99 = -2000000000
    · have e : zC2 T k i c = c := if_pos q
      rw [if_pos q, e]
      obtain ⟨h2, g2, f2⟩ := ih (i + 1) c h1 w1 (by omega) (by omega)
      exact ⟨h2, g2, f1.tr f2⟩
    · have sb : -9999000 ≤ zK T k i 99 ∧ zK T k i 99 ≤ 9999000 := (zS_b (ivC w k0 k1).2.1 (ivH w yk.1 yk.2).2.1 99).resolve_left q
      have e : zC2 T k i c = if c < zWf (zK T k i 99) (yL T i) (yU T i) then zWf (zK T k i 99) (yL T i) (yU T i) else c := if_neg q
      rw [if_neg q, if_pos (ivM w1), ivM0 w1, if_pos A2, if_pos (ivM w1), if_pos A3, b.2.2.1, b.2.2.2, w64_id (x := 2 * zK T k i 99) (by omega) (by omega), w64_id (x := 2 * zK T k i 99 - yL T i) (by omega) (by omega), w64_id (x := 2 * zK T k i 99 - yL T i - yU T i) (by omega) (by omega), m_apart, bind_some']
      dsimp only
      rw [if_pos (ivM w1), ivM0 w1, if_pos A3, if_pos (ivM w1), if_pos A2, b.2.2.1, b.2.2.2, w32_id (x := yU T i - yL T i) (by omega) (by omega), if_neg (show ¬ yU T i - yL T i = 0 by omega)]
      have ew : w64 (Int.tdiv (w64 (w64 (w64 (100 * (if 2 * zK T k i 99 - yL T i - yU T i < 0 then w64 (-(2 * zK T k i 99 - yL T i - yU T i)) else 2 * zK T k i 99 - yL T i - yU T i)) + (yU T i - yL T i)) - 1)) (yU T i - yL T i)) = zWf (zK T k i 99) (yL T i) (yU T i) := by
        unfold zWf apt
        rw [Int.mul_comm 100]
      rw [ew, e]
      obtain ⟨h2, g2, f2⟩ := ih (i + 1) (if c < zWf (zK T k i 99) (yL T i) (yU T i) then zWf (zK T k i 99) (yL T i) (yU T i) else c) h1 w1 (by omega) (by omega)
      refine ⟨h2, ?_, f1.tr f2⟩
      by_cases z : c < zWf (zK T k i 99) (yL T i) (yU T i)
      · rw [if_pos z] at g2 ⊢
        rw [if_pos z]; exact g2
      · rw [if_neg z] at g2 ⊢
        rw [if_neg z]; exact g2
theorem l_muntil {T : Int → Int} {k i : Int} (k0 : 0 ≤ k) (k1 : k < T 0) (i0 : 0 ≤ i) (i1 : i < T 3) : ∀ (n : Nat) (y : Int) (h : Hp), Inv h T → 0 ≤ y → y + n = 100 → ∃ h', P_Mo_until_15 124 (520 + 330 * k) i y h = some (zUn (zK T k i) (yL T i) (yU T i) n y, h') ∧ Fr pZ h h' := by
  intro n
  induction n with
  | zero =>
    intro y h w y0 hy
    refine ⟨h, ?_, Fr.rf _ h⟩
    rw [E_Mo_until_15, if_neg (by omega)]
    rfl
  | succ n ih =>
    intro y h w y0 hy
    obtain ⟨h1, g1, f1, w1⟩ := m_keeps w (y := y) k0 k1 i0 i1
    rw [E_Mo_until_15, if_pos (show y < 100 by omega), if_pos (ivM w), g1, bind_some', w32_id (x := y + 1) (by omega) (by omega)]
    dsimp only
    unfold zUn
    by_cases q : zHo (zK T k i y) (yL T i) (yU T i) = 0
    · rw [if_pos q, if_pos q]; exact ⟨h1, rfl, f1⟩
    · rw [if_neg q, if_neg q]
      obtain ⟨h2, g2, f2⟩ := ih (y + 1) h1 w1 (by omega) (by omega)
      exact ⟨h2, g2, f1.tr f2⟩
theorem r_kept {h : Hp} {T : Int → Int} (w : Inv h T) (k x : Int) : ∃ h', C_Mo_kept 124 k x h = some (aKept T k x, h') ∧ Fr pZ h h' := by
  have n := ivn w
  rw [E_Mo_kept, if_pos (ivM w), m_isOf w (by omega) (by omega), bind_some']
  unfold aKept
  by_cases q1 : 0 ≤ k ∧ k < T 0
  · rw [bI_t q1, if_neg n10, cI_t q1, if_pos (ivM w), m_catAt q1.1 (by omega), bind_some']
    dsimp only
    by_cases x2 : x = 2
    · obtain ⟨h1, g1, f1⟩ := l_mck2 q1.1 q1.2 (T 3).toNat 0 0 h w (by omega) (by omega)
      rw [if_pos x2, if_neg (show ¬ x = 0 by omega), if_neg (show ¬ x = 1 by omega), if_pos x2, if_pos (ivM w), E_Mo_wider, g1, bind_some']; exact ⟨h1, rfl, f1⟩
    · rw [if_neg x2, if_pos (ivM w), ivM0 w, if_pos (ivMA w (by omega) (by omega)), ivMT w (by omega) (by omega), w32_id (x := 9 + T 3) (by omega) (by omega), m_isIn, bind_some']
      by_cases y1 : 10 ≤ x ∧ x < 10 + T 3
      · obtain ⟨h1, g1, f1, w1⟩ := m_keeps w (y := 99) q1.1 q1.2 (i := x - 10) (by omega) (by omega)
        refine ⟨h1, ?_, f1⟩
        rw [bI_t (show 10 ≤ x ∧ x ≤ 9 + T 3 by omega), if_neg n10, if_pos (ivM w), w32_id (x := x - 10) (by omega) (by omega), g1, bind_some', if_neg (show ¬ x = 0 by omega), if_neg (show ¬ x = 1 by omega), if_neg x2, if_pos y1]
        dsimp only
        rcases zHo_b (zK T k (x - 10) 99) (yL T (x - 10)) (yU T (x - 10)) with z | z
        · rw [z, if_pos rfl]
        · rw [z, if_neg n10]
      · rw [bI_f (show ¬ (10 ≤ x ∧ x ≤ 9 + T 3) by omega), if_pos rfl, if_pos (ivM w), ivM0 w, if_pos (ivMA w (by omega) (by omega)), ivMT w (by omega) (by omega), w32_id (x := 29 + T 3) (by omega) (by omega), m_isIn, bind_some', if_neg y1, if_neg x2]
        by_cases y2 : 30 ≤ x ∧ x < 30 + T 3
        · have yy := (ivY w (i := x - 30) (by omega) (by omega)).1.2.1
          have b := ivYm w (i := x - 30) (by omega) (by omega)
          obtain ⟨h1, g1, f1⟩ := l_muntil q1.1 q1.2 (i := x - 30) (by omega) (by omega) (100 - T (1731 + 4 * (x - 30))).toNat (T (1731 + 4 * (x - 30))) h w (by omega) (by omega)
          refine ⟨h1, ?_, f1⟩
          rw [bI_t (show 30 ≤ x ∧ x ≤ 29 + T 3 by omega), if_neg n10, if_pos (ivM w), w32_id (x := x - 30) (by omega) (by omega), E_Mo_until, if_pos (ivM w), ivM0 w, w32_id (x := 4 * (x - 30)) (by omega) (by omega), w32_id (x := 1730 + 4 * (x - 30)) (by omega) (by omega), w32_id (x := 1730 + 4 * (x - 30) + 1) (by omega) (by omega), if_pos (ivMA w (by omega) (by omega)), b.2.1, g1, bind_some', if_neg (show ¬ x = 0 by omega), if_neg (show ¬ x = 1 by omega), if_pos y2]
        · rw [bI_f (show ¬ (30 ≤ x ∧ x ≤ 29 + T 3) by omega), if_pos rfl, if_neg y2]
          by_cases x0 : x = 0
          · rw [if_pos x0, if_pos x0, x0]; exact l_mck0 q1.1 q1.2 (T 3).toNat 0 0 h w (by omega) (by omega) (by omega) (by omega)
          · rw [if_neg x0, if_neg x0]
            by_cases x1 : x = 1
            · rw [if_pos x1, if_pos x1, x1]; exact l_mck1 q1.1 q1.2 (T 3).toNat 0 0 h w (by omega) (by omega) (by omega) (by omega)
            · rw [if_neg x1, if_neg x1]; exact ⟨h, rfl, Fr.rf _ h⟩
  · exact ⟨h, by rw [bI_f q1, if_pos rfl, cI_f q1], Fr.rf _ h⟩
