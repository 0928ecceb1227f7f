/-! part, path, agree. -/
noncomputable def zPr (T : Int → Int) (k a b y r : Int) : Int := zD (zS (catT T k) (houT T a) y) (zS (catT T k) (zFol (houT T a) (houT T b) r) y)
noncomputable def aPart (T : Int → Int) (k a b y : Int) : Int := cI (okL T k a y ∧ 0 ≤ b ∧ b < T 1) (if zS (catT T k) (houT T a) y = -2000000000 then -1 else (itN (zG (zPr T k a b y)) (catT T k 0).toNat 0 (-1, 0)).1) (-1)
/-- the draft is a, at one rung b -/
theorem s_FolD {h : Hp} {T U : Int → Int} (w : Inv h T) (v : HouV h 92 U) (u : Uok U) {b r : Int} (b0 : 0 ≤ b) (b1 : b < T 1) (r0 : 0 ≤ r) (r1 : r < 6) : ∃ h', C_Ho_follow 92 (32 + 4 * b) r h = some (0, h') ∧ Fr pZ h h' ∧ HouV h' 92 (zFol U (houT T b) r) ∧ Inv h' T ∧ Uok (zFol U (houT T b) r) := by
  have n := ivn w
  have c := ivH w b0 b1
  obtain ⟨h1, g1, g2, g3⟩ := s_follow v c.1 u.1.1 (by omega) r0 r1
  exact ⟨h1, g1, g2.to pH_Z, g3, w.of (g2.to pH_Z), zFol_ok u c.2.1 r0 r1⟩
theorem zD_n {H s : Int} (n : H ≠ -2000000000) (sb : s = -2000000000 ∨ (-9999000 ≤ s ∧ s ≤ 9999000)) (hb : -9999000 ≤ H ∧ H ≤ 9999000) : (zD H s = -2000000000 ↔ s = -2000000000) ∧ (s ≠ -2000000000 → zD H s = w64 (s - H) ∧ (if s < H then w64 (H - s) else w64 (s - H)) = apt (zD H s) ∧ 0 ≤ apt (zD H s)) := by
  unfold zD
  rw [if_neg n]
  by_cases q : s = -2000000000
  · rw [if_pos q]; exact ⟨⟨fun _ => q, fun _ => rfl⟩, fun z => absurd q z⟩
  · rw [if_neg q]
    have e := apt_e (x := s) (y := H) (by omega) (by omega)
    refine ⟨⟨fun z => ?_, fun z => absurd z q⟩, fun _ => ⟨rfl, e⟩⟩
    rw [w64_id (by omega) (by omega)] at z
    omega
theorem l_part {T : Int → Int} {k a b y : Int} (q : okL T k a y) (b0 : 0 ≤ b) (b1 : b < T 1) (hn : zS (catT T k) (houT T a) y ≠ -2000000000) : ∀ (n : Nat) (r : Int) (h : Hp) (p : Int × Int), Inv h T → 0 ≤ r → r + n = catT T k 0 → ∃ h', P_LS_part_52 1 a b y (8 + 8 * k) (zS (catT T k) (houT T a) y) p.1 (zQ p) r h = some ((itN (zG (zPr T k a b y)) n r p).1, h') ∧ Fr pZ h h' := by
  intro n
  induction n with
  | zero =>
    intro r h p w r0 hr
    have c := ivC w q.1.1 q.1.2
    refine ⟨h, ?_, Fr.rf _ h⟩
    rw [E_LS_part_52, if_pos (cF c.1.1), c.1.2.2.1, if_neg (by omega)]
    rfl
  | succ n ih =>
    intro r h p w r0 hr
    have nn := ivn w
    have c := ivC w q.1.1 q.1.2
    have d := ivH w q.2.1.1 q.2.1.2
    have v := c.2.1.1
    have j1 := q.2.1
    obtain ⟨h1, g1, f1, v1, w1⟩ := s_CopyD w j1.1 j1.2
    obtain ⟨h2, g2, f2, v2, w2, u2⟩ := s_FolD w1 v1 d.2.1 (r := r) b0 b1 r0 (by omega)
    obtain ⟨h3, g3, f3, l3, w3⟩ := s_LookD w2 (y := y) q.1.1 q.1.2 v2 u2
    have es : C_Su_slope 99 h3 = some (zS (catT T k) (zFol (houT T a) (houT T b) r) y, h3) := s_slope l3.1 l3.2.1
    have ff := (f1.tr f2).tr f3
    have bH : -9999000 ≤ zS (catT T k) (houT T a) y ∧ zS (catT T k) (houT T a) y ≤ 9999000 := (zS_b c.2.1 d.2.1 y).resolve_left hn
    have zn := zD_n hn (zS_b c.2.1 u2 y) bH
    rw [E_LS_part_52, if_pos (cF c.1.1), c.1.2.2.1, if_pos (show r < catT T k 0 by omega), if_neg hn, if_pos (iv1 w), if_pos (iv1 w), iv10 w, if_pos (iv2 w), iv29 w, if_pos (ivR5 w j1.1 (by omega)), iv14 w, if_pos (ivDF w), iv5 w j1.1 (by omega), g1, bind_some', if_pos (iv1 w1), if_pos (iv1 w1), iv10 w1, if_pos (iv2 w1), iv29 w1, if_pos (ivR5 w1 b0 (by omega)), iv14 w1, if_pos (ivDF w1), iv5 w1 b0 (by omega), g2, bind_some', if_pos (iv1 w2), if_pos (iv1 w2), iv16 w2, if_pos (ivS w2), iv14 w2, g3, bind_some', if_pos (iv1 w3), iv16 w3, if_pos (ivS w3), es, bind_some', w32_id (x := r + 1) (by omega) (by omega)]
    simp only [s_apart, bind_some']
    show ∃ h', _ = some ((itN (zG (zPr T k a b y)) n (r + 1) (zG (zPr T k a b y) r p)).1, h') ∧ _
    by_cases z : zS (catT T k) (zFol (houT T a) (houT T b) r) y = -2000000000
    · rw [if_pos z]
      have e : zG (zPr T k a b y) r p = p := if_pos (zn.1.2 z)
      rw [e]
      obtain ⟨h4, g4, f4⟩ := ih (r + 1) h3 p w3 (by omega) (by omega)
      exact ⟨h4, g4, ff.tr f4⟩
    · rw [if_neg z, (zn.2 z).2.1]
      have cc := zG_c (g := zPr T k a b y) (r := r) (p := p) (fun e => z (zn.1.1 e)) rfl (zn.2 z).2.2 r0
      have ez : zD (zS (catT T k) (houT T a) y) (zS (catT T k) (zFol (houT T a) (houT T b) r) y) = zPr T k a b y r := rfl
      rw [ez]
      by_cases s : zQ p < apt (zPr T k a b y r)
      · rw [if_pos s]
        obtain ⟨h4, g4, f4⟩ := ih (r + 1) h3 (zG (zPr T k a b y) r p) w3 (by omega) (by omega)
        rw [(cc.1 s).1, (cc.1 s).2] at g4
        exact ⟨h4, g4, ff.tr f4⟩
      · rw [if_neg s, cc.2 s]
        obtain ⟨h4, g4, f4⟩ := ih (r + 1) h3 p w3 (by omega) (by omega)
        exact ⟨h4, g4, ff.tr f4⟩
theorem q_part {h : Hp} {T : Int → Int} (w : Inv h T) (k a b y : Int) : ∃ h', C_LS_part 1 k a b y h = some (aPart T k a b y, h') ∧ Fr pZ h h' := by
  have n := ivn w
  rw [E_LS_part, if_pos (iv1 w), s_isHou w, bind_some']
  unfold aPart
  by_cases q1 : 0 ≤ b ∧ b < T 1
  · rw [bI_t q1, if_neg n10, if_pos (iv1 w)]
    by_cases q2 : okL T k a y
    · obtain ⟨h1, g1, g2, g3⟩ := s_Look w q2
      have w1 := w.of (g2.to pL_Z)
      have c := ivC w1 q2.1.1 q2.1.2
      have v := c.2.1.1
      have k1 := q2.1
      have es : C_Su_slope 99 h1 = some (zS (catT T k) (houT T a) y, h1) := s_slope g3.1 g3.2.1
      rw [g1, bind_some', if_neg n10, if_pos (iv1 w1), iv10 w1, if_pos (iv2 w1), iv28 w1, if_pos (ivR4 w1 k1.1 (by omega)), if_pos (iv1 w1), iv16 w1, if_pos (ivS w1), es, bind_some', iv4 w1 k1.1 (by omega), cI_t ⟨q2, q1⟩]
      by_cases z : zS (catT T k) (houT T a) y = -2000000000
      · refine ⟨h1, ?_, g2.to pL_Z⟩
        rw [E_LS_part_52, if_pos (cF c.1.1), c.1.2.2.1, if_pos z]
        by_cases s : (0 : Int) < catT T k 0
        · rw [if_pos s, if_pos z]
        · rw [if_neg s, if_pos z]
      · obtain ⟨h2, p1, p2⟩ := l_part q2 q1.1 q1.2 z (catT T k 0).toNat 0 h1 (-1, 0) w1 (by omega) (by omega)
        refine ⟨h2, ?_, (g2.to pL_Z).tr p2⟩
        rw [if_neg z]
        exact p1
    · refine ⟨h, ?_, Fr.rf _ h⟩
      rw [s_LookN w q2, bind_some', if_pos rfl, cI_f (fun z => q2 z.1)]
  · refine ⟨h, ?_, Fr.rf _ h⟩
    rw [bI_f q1, if_pos rfl, cI_f (fun z => q1 z.2)]
theorem l_mpart {T : Int → Int} {k a b y : Int} (q : okL T k a y) (b0 : 0 ≤ b) (b1 : b < T 1) (hn : zS (catT T k) (houT T a) y ≠ -2000000000) : ∀ (n : Nat) (r : Int) (h : Hp) (p : Int × Int), Inv h T → 0 ≤ r → r + n = catT T k 0 → ∃ h', P_Mo_part_53 124 a b y (520 + 330 * k) (zS (catT T k) (houT T a) y) p.1 p.2 r h = some ((itN (zG (zPr T k a b y)) n r p).1, h') ∧ Fr pZ h h' := by
  intro n
  induction n with
  | zero =>
    intro r h p w r0 hr
    have nn := ivn w
    have k1 := q.1
    have e0 : T (520 + 330 * k + 0) = catT T k 0 := catE (by omega) (by omega)
    refine ⟨h, ?_, Fr.rf _ h⟩
    rw [E_Mo_part_53, if_pos (ivM w), ivM0 w, w32_id (x := 520 + 330 * k + 0) (by omega) (by omega), if_pos (ivMA w (by omega) (by omega)), ivMT w (by omega) (by omega), e0, if_neg (by omega)]
    rfl
  | succ n ih =>
    intro r h p w r0 hr
    have nn := ivn w
    have k1 := q.1
    have j1 := q.2.1
    have c := ivC w q.1.1 q.1.2
    have d := ivH w q.2.1.1 q.2.1.2
    have db := ivH w b0 b1
    have v := c.2.1.1
    have e0 : T (520 + 330 * k + 0) = catT T k 0 := catE (by omega) (by omega)
    obtain ⟨h1, g1, f1, t1, w1⟩ := m_tries w j1.1 j1.2
    obtain ⟨h2, g2, f2, t2, w2⟩ := m_takes w1 t1 (r := r) b0 b1 r0 (by omega)
    have u2 := zFol_ok d.2.1 db.2.1 (r := r) r0 (by omega)
    obtain ⟨h3, g3, f3, d3⟩ := m_slopeOf (ivMT2 w2 (j := a) (y := y) q.1.1 q.1.2 t2 u2)
    have w3 := w2.of (f3.to pM_Z)
    have ff := ((f1.to pT_Z).tr (f2.to pT_Z)).tr (f3.to pM_Z)
    have bH : -9999000 ≤ zS (catT T k) (houT T a) y ∧ zS (catT T k) (houT T a) y ≤ 9999000 := (zS_b c.2.1 d.2.1 y).resolve_left hn
    have zn := zD_n hn (zS_b c.2.1 u2 y) bH
    rw [E_Mo_part_53, if_pos (ivM w), ivM0 w, w32_id (x := 520 + 330 * k + 0) (by omega) (by omega), if_pos (ivMA w (by omega) (by omega)), ivMT w (by omega) (by omega), e0, if_pos (show r < catT T k 0 by omega), if_neg hn, if_pos (ivM w), g1, bind_some', if_pos (ivM w1), g2, bind_some', if_pos (ivM w2), g3, bind_some', w32_id (x := r + 1) (by omega) (by omega)]
    have ezs : slX (catT T k) (frs (catT T k) (zFol (houT T a) (houT T b) r) y) (-1) = zS (catT T k) (zFol (houT T a) (houT T b) r) y := rfl
    simp only [m_apart, bind_some', ezs]
    show ∃ h', _ = some ((itN (zG (zPr T k a b y)) n (r + 1) (zG (zPr T k a b y) r p)).1, h') ∧ _
    have ez : zD (zS (catT T k) (houT T a) y) (zS (catT T k) (zFol (houT T a) (houT T b) r) y) = zPr T k a b y r := rfl
    by_cases z : zS (catT T k) (zFol (houT T a) (houT T b) r) y = -2000000000
    · rw [if_pos z]
      have e : zG (zPr T k a b y) r p = p := if_pos (zn.1.2 z)
      rw [e]
      obtain ⟨h4, g4, f4⟩ := ih (r + 1) h3 p w3 (by omega) (by omega)
      exact ⟨h4, g4, ff.tr f4⟩
    · have zp : ¬ zPr T k a b y r = -2000000000 := fun e => z (zn.1.1 e)
      have wz : w64 (zS (catT T k) (zFol (houT T a) (houT T b) r) y - zS (catT T k) (houT T a) y) = zPr T k a b y r := (zn.2 z).1.symm
      rw [if_neg z, wz]
      obtain ⟨h4, g4, f4⟩ := ih (r + 1) h3 (zG (zPr T k a b y) r p) w3 (by omega) (by omega)
      by_cases s : p.1 < 0
      · have e : zG (zPr T k a b y) r p = (r, apt (zPr T k a b y r)) := by unfold zG; rw [if_neg zp, if_pos (Or.inl s)]
        rw [if_pos s, e]
        rw [e] at g4
        exact ⟨h4, g4, ff.tr f4⟩
      · rw [if_neg s]
        by_cases s2 : p.2 < apt (zPr T k a b y r)
        · have e : zG (zPr T k a b y) r p = (r, apt (zPr T k a b y r)) := by unfold zG; rw [if_neg zp, if_pos (Or.inr s2)]
          rw [e] at g4
          refine ⟨h4, ?_, ff.tr f4⟩
          rw [if_pos (show p.2 < (if zPr T k a b y r < 0 then w64 (-zPr T k a b y r) else zPr T k a b y r) from s2), e]
          exact g4
        · have e : zG (zPr T k a b y) r p = p := by unfold zG; rw [if_neg zp, if_neg (by omega)]
          rw [e] at g4
          refine ⟨h4, ?_, ff.tr f4⟩
          rw [if_neg (show ¬ p.2 < (if zPr T k a b y r < 0 then w64 (-zPr T k a b y r) else zPr T k a b y r) from s2), e]
          exact g4
theorem r_part {h : Hp} {T : Int → Int} (w : Inv h T) (k a b y : Int) : ∃ h', C_Mo_part 124 k a b y h = some (aPart T k a b y, h') ∧ Fr pZ h h' := by
  have n := ivn w
  rw [E_Mo_part, if_pos (ivM w), m_areAll w, bind_some']
  unfold aPart
  by_cases q2 : okL T k a y
  · have k1 := q2.1
    have j1 := q2.2.1
    have v := (ivC w k1.1 k1.2).2.1.1
    rw [bI_t q2, if_neg n10, if_pos (ivM w), m_isOf w (by omega) (by omega), bind_some']
    by_cases q1 : 0 ≤ b ∧ b < T 1
    · obtain ⟨h1, g1, f1, d1⟩ := m_slopeOf (ivMK w (y := y) k1.1 k1.2 j1.1 j1.2)
      have w1 := w.of (f1.to pM_Z)
      have ezs : slX (catT T k) (frs (catT T k) (houT T a) y) (-1) = zS (catT T k) (houT T a) y := rfl
      rw [bI_t q1, if_neg n10, if_pos (ivM w), m_catAt k1.1 (by omega), bind_some', if_pos (ivM w), m_houAt j1.1 (by omega), bind_some', if_pos (ivM w), g1, bind_some', ezs, cI_t ⟨q2, q1⟩]
      by_cases z : zS (catT T k) (houT T a) y = -2000000000
      · have e0 : T (520 + 330 * k + 0) = catT T k 0 := catE (by omega) (by omega)
        refine ⟨h1, ?_, f1.to pM_Z⟩
        rw [E_Mo_part_53, if_pos (ivM w1), ivM0 w1, w32_id (x := 520 + 330 * k + 0) (by omega) (by omega), if_pos (ivMA w1 (by omega) (by omega)), ivMT w1 (by omega) (by omega), e0, if_pos z]
        by_cases s : (0 : Int) < catT T k 0
        · rw [if_pos s, if_pos z]
        · rw [if_neg s, if_pos z]
      · obtain ⟨h2, p1, p2⟩ := l_mpart q2 q1.1 q1.2 z (catT T k 0).toNat 0 h1 (-1, 0) w1 (by omega) (by omega)
        refine ⟨h2, ?_, (f1.to pM_Z).tr p2⟩
        rw [if_neg z]
        exact p1
    · refine ⟨h, ?_, Fr.rf _ h⟩
      rw [bI_f q1, if_pos rfl, cI_f (fun z => q1 z.2)]
  · refine ⟨h, ?_, Fr.rf _ h⟩
    rw [bI_f q2, if_pos rfl, cI_f (fun z => q2 z.1)]
/-- path -/
noncomputable def zPt (T : Int → Int) (a b : Int) (n : Nat) : Int → Int := itN (fun r U => zFol U (houT T b) r) n 0 (houT T a)
noncomputable def aPath (T : Int → Int) (k a b y r : Int) : Int := cI (okL T k a y ∧ (0 ≤ b ∧ b < T 1) ∧ 0 ≤ r ∧ r < catT T k 0) (zS (catT T k) (zPt T a b (r + 1).toNat) y) (-2000000000)
theorem l_path {T : Int → Int} {k b y R : Int} (k0 : 0 ≤ k) (k1 : k < T 0) (b0 : 0 ≤ b) (b1 : b < T 1) (R1 : R < 6) : ∀ (n : Nat) (r : Int) (h : Hp) (U : Int → Int), Inv h T → HouV h 92 U → Uok U → 0 ≤ r → r + n = R + 1 → ∃ h', P_LS_path_65 1 k b y R r h = some (zS (catT T k) (itN (fun r U => zFol U (houT T b) r) n r U) y, h') ∧ Fr pZ h h' := by
  intro n
  induction n with
  | zero =>
    intro r h U w hv u r0 hr
    have nn := ivn w
    obtain ⟨h3, g3, f3, l3, w3⟩ := s_LookD w (y := y) k0 k1 hv u
    have es : C_Su_slope 99 h3 = some (zS (catT T k) U y, h3) := s_slope l3.1 l3.2.1
    refine ⟨h3, ?_, f3⟩
    rw [E_LS_path_65, if_pos (show R < r by omega), if_pos (iv1 w), if_pos (iv1 w), iv10 w, if_pos (iv2 w), iv28 w, if_pos (ivR4 w k0 (by omega)), if_pos (iv1 w), iv16 w, if_pos (ivS w), iv4 w k0 (by omega), iv14 w, g3, bind_some', if_pos (iv1 w3), iv16 w3, if_pos (ivS w3), es, bind_some']
    rfl
  | succ n ih =>
    intro r h U w hv u r0 hr
    have nn := ivn w
    obtain ⟨h2, g2, f2, v2, w2, u2⟩ := s_FolD w hv u (r := r) b0 b1 r0 (by omega)
    obtain ⟨h3, g3, f3⟩ := ih (r + 1) h2 _ w2 v2 u2 (by omega) (by omega)
    refine ⟨h3, ?_, f2.tr f3⟩
    rw [E_LS_path_65, if_neg (show ¬ R < r by omega), if_pos (iv1 w), if_pos (iv1 w), iv10 w, if_pos (iv2 w), iv29 w, if_pos (ivR5 w b0 (by omega)), iv14 w, if_pos (ivDF w), iv5 w b0 (by omega), g2, bind_some', w32_id (x := r + 1) (by omega) (by omega)]
    exact g3
theorem q_path {h : Hp} {T : Int → Int} (w : Inv h T) (k a b y r : Int) : ∃ h', C_LS_path 1 k a b y r h = some (aPath T k a b y r, h') ∧ Fr pZ h h' := by
  have n := ivn w
  rw [E_LS_path, if_pos (iv1 w), s_isCat w, bind_some']
  unfold aPath
  by_cases q1 : 0 ≤ k ∧ k < T 0
  · rw [bI_t q1, if_neg n10, if_pos (iv1 w), s_isHou w, bind_some']
    by_cases q2 : 0 ≤ a ∧ a < T 1
    · rw [bI_t q2, if_neg n10, if_pos (iv1 w), s_isHou w, bind_some']
      by_cases q3 : 0 ≤ b ∧ b < T 1
      · rw [bI_t q3, if_neg n10, s_isYear, bind_some']
        by_cases q4 : 0 ≤ y ∧ y < 100
        · rw [bI_t q4, if_neg n10, if_pos (iv1 w), s_isRung w, bind_some']
          by_cases q5 : 0 ≤ r ∧ r < catT T k 0
          · have v := (ivC w q1.1 q1.2).2.1.1
            have d := ivH w q2.1 q2.2
            obtain ⟨h1, g1, f1, v1, w1⟩ := s_CopyD w q2.1 q2.2
            obtain ⟨h2, g2, f2⟩ := l_path (y := y) (R := r) q1.1 q1.2 q3.1 q3.2 (by omega) (r + 1).toNat 0 h1 _ w1 v1 d.2.1 (by omega) (by omega)
            refine ⟨h2, ?_, f1.tr f2⟩
            rw [bI_t ⟨q1, q5⟩, if_neg n10, if_pos (iv1 w), if_pos (iv1 w), iv10 w, if_pos (iv2 w), iv29 w, if_pos (ivR5 w q2.1 (by omega)), iv14 w, if_pos (ivDF w), iv5 w q2.1 (by omega), g1, bind_some', cI_t ⟨⟨q1, q2, q4⟩, q3, q5⟩]
            exact g2
          · exact ⟨h, by rw [bI_f (fun z => q5 z.2), if_pos rfl, cI_f (fun z => q5 z.2.2)], Fr.rf _ h⟩
        · exact ⟨h, by rw [bI_f q4, if_pos rfl, cI_f (fun z => q4 z.1.2.2)], Fr.rf _ h⟩
      · exact ⟨h, by rw [bI_f q3, if_pos rfl, cI_f (fun z => q3 z.2.1)], Fr.rf _ h⟩
    · exact ⟨h, by rw [bI_f q2, if_pos rfl, cI_f (fun z => q2 z.1.2.1)], Fr.rf _ h⟩
  · exact ⟨h, by rw [bI_f q1, if_pos rfl, cI_f (fun z => q1 z.1.1)], Fr.rf _ h⟩
theorem l_mpath {T : Int → Int} {k b y R : Int} (k0 : 0 ≤ k) (k1 : k < T 0) (b0 : 0 ≤ b) (b1 : b < T 1) (R1 : R < 6) : ∀ (n : Nat) (r : Int) (h : Hp) (U : Int → Int), Inv h T → Trd h U → Uok U → 0 ≤ r → r + n = R + 1 → ∃ h', P_Mo_path_42 124 k b y R r h = some (zS (catT T k) (itN (fun r U => zFol U (houT T b) r) n r U) y, h') ∧ Fr pZ h h' := by
  intro n
  induction n with
  | zero =>
    intro r h U w t u r0 hr
    have nn := ivn w
    obtain ⟨h3, g3, f3, d3⟩ := m_slopeOf (ivMT2 w (j := b) (y := y) k0 k1 t u)
    refine ⟨h3, ?_, f3.to pM_Z⟩
    rw [E_Mo_path_42, if_pos (show R < r by omega), if_pos (ivM w), m_catAt k0 (by omega), bind_some', if_pos (ivM w), g3, bind_some']
    rfl
  | succ n ih =>
    intro r h U w t u r0 hr
    have nn := ivn w
    have db := ivH w b0 b1
    obtain ⟨h2, g2, f2, t2, w2⟩ := m_takes w t (r := r) b0 b1 r0 (by omega)
    obtain ⟨h3, g3, f3⟩ := ih (r + 1) h2 _ w2 t2 (zFol_ok u db.2.1 r0 (by omega)) (by omega) (by omega)
    refine ⟨h3, ?_, (f2.to pT_Z).tr f3⟩
    rw [E_Mo_path_42, if_neg (show ¬ R < r by omega), if_pos (ivM w), g2, bind_some', w32_id (x := r + 1) (by omega) (by omega)]
    exact g3
theorem r_path {h : Hp} {T : Int → Int} (w : Inv h T) (k a b y r : Int) : ∃ h', C_Mo_path 124 k a b y r h = some (aPath T k a b y r, h') ∧ Fr pZ h h' := by
  have n := ivn w
  rw [E_Mo_path, if_pos (ivM w), m_areAll w, bind_some']
  unfold aPath
  by_cases q2 : okL T k a y
  · rw [bI_t q2, if_neg n10, if_pos (ivM w), m_isOf w (by omega) (by omega), bind_some']
    by_cases q3 : 0 ≤ b ∧ b < T 1
    · rw [bI_t q3, if_neg n10, if_pos (ivM w), m_isRung w, bind_some']
      by_cases q5 : 0 ≤ r ∧ r < catT T k 0
      · have v := (ivC w q2.1.1 q2.1.2).2.1.1
        have d := ivH w q2.2.1.1 q2.2.1.2
        obtain ⟨h1, g1, f1, t1, w1⟩ := m_tries w q2.2.1.1 q2.2.1.2
        obtain ⟨h2, g2, f2⟩ := l_mpath (y := y) (R := r) q2.1.1 q2.1.2 q3.1 q3.2 (by omega) (r + 1).toNat 0 h1 _ w1 t1 d.2.1 (by omega) (by omega)
        refine ⟨h2, ?_, (f1.to pT_Z).tr f2⟩
        rw [bI_t ⟨q2.1, q5⟩, if_neg n10, if_pos (ivM w), g1, bind_some', cI_t ⟨q2, q3, q5⟩]
        exact g2
      · exact ⟨h, by rw [bI_f (fun z => q5 z.2), if_pos rfl, cI_f (fun z => q5 z.2.2)], Fr.rf _ h⟩
    · exact ⟨h, by rw [bI_f q3, if_pos rfl, cI_f (fun z => q3 z.2.1)], Fr.rf _ h⟩
  · exact ⟨h, by rw [bI_f q2, if_pos rfl, cI_f (fun z => q2 z.1)], Fr.rf _ h⟩
