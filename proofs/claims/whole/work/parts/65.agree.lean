/-! agree, strait. -/
theorem s_LookH {h : Hp} {T : Int → Int} (w : Inv h T) {k b y : Int} (k0 : 0 ≤ k) (k1 : k < T 0) (b0 : 0 ≤ b) (b1 : b < T 1) : ∃ h', C_Su_look 99 (8 + 8 * k) (32 + 4 * b) y h = some (0, h') ∧ Fr pL h h' ∧ LKd h' (8 + 8 * k) (32 + 4 * b) y (catT T k) (houT T b) ∧ Inv h' T := by
  have c := ivC w k0 k1
  have d := ivH w b0 b1
  obtain ⟨h1, g1, g2, g3⟩ := s_look (y := y) w.1.2.2.2.2.2.1 c.1 d.1 c.2.1 d.2.1
  exact ⟨h1, g1, g2, g3, w.of (g2.to pL_Z)⟩
noncomputable def zAg (V F G : Int → Int) : Int := if low V F = -2000000000 then 0 else if low V G = -2000000000 then 0 else if high V G < low V F then 0 else if high V F < low V G then 0 else 1
noncomputable def aAgree (T : Int → Int) (k a b y : Int) : Int := cI (okL T k a y ∧ 0 ≤ b ∧ b < T 1) (zAg (catT T k) (frsA T k a y) (frsA T k b y)) 0
theorem q_agree {h : Hp} {T : Int → Int} (w : Inv h T) (k a b y : Int) : ∃ h', C_LS_agree 1 k a b y h = some (aAgree T k a b y, h') ∧ Fr pZ h h' := by
  have n := ivn w
  rw [E_LS_agree, if_pos (iv1 w), s_isHou w, bind_some']
  unfold aAgree
  by_cases q1 : 0 ≤ b ∧ b < T 1
  · rw [bI_t q1, if_neg n10, if_pos (iv1 w)]
    by_cases q2 : okL T k a y
    · obtain ⟨h1, g1, g2, g3⟩ := s_Look w q2
      have w1 := w.of (g2.to pL_Z)
      have k1 := q2.1
      obtain ⟨h2, p1, p2, p3, w2⟩ := s_LookH w1 (y := y) k1.1 k1.2 q1.1 q1.2
      refine ⟨h2, ?_, (g2.to pL_Z).tr (p2.to pL_Z)⟩
      have e1 : C_Su_lowest 99 h1 = some (low (catT T k) (frsA T k a y), h1) := s_low g3.1 g3.2.1
      have e2 : C_Su_highest 99 h1 = some (high (catT T k) (frsA T k a y), h1) := s_high g3.1 g3.2.1
      have e3 : C_Su_lowest 99 h2 = some (low (catT T k) (frsA T k b y), h2) := s_low p3.1 p3.2.1
      have e4 : C_Su_highest 99 h2 = some (high (catT T k) (frsA T k b y), h2) := s_high p3.1 p3.2.1
      rw [g1, bind_some', if_neg n10, if_pos (iv1 w1), iv16 w1, if_pos (ivS w1), e1, bind_some', if_pos (iv1 w1), iv16 w1, if_pos (ivS w1), e2, bind_some', if_pos (iv1 w1), if_pos (iv1 w1), iv10 w1, if_pos (iv2 w1), iv28 w1, if_pos (ivR4 w1 k1.1 (by omega)), if_pos (iv1 w1), if_pos (iv2 w1), iv29 w1, if_pos (ivR5 w1 q1.1 (by omega)), iv16 w1, if_pos (ivS w1), iv4 w1 k1.1 (by omega), iv5 w1 q1.1 (by omega), p1, bind_some', if_pos (iv1 w2), iv16 w2, if_pos (ivS w2), e3, bind_some', if_pos (iv1 w2), iv16 w2, if_pos (ivS w2), e4, bind_some', cI_t ⟨q2, q1⟩]
      dsimp only
      unfold zAg
      by_cases c1 : low (catT T k) (frsA T k a y) = -2000000000
      · rw [if_pos c1, if_pos c1]
      · rw [if_neg c1, if_neg c1]
        by_cases c2 : low (catT T k) (frsA T k b y) = -2000000000
        · rw [if_pos c2, if_pos c2]
        · rw [if_neg c2, if_neg c2]
          by_cases c3 : high (catT T k) (frsA T k b y) < low (catT T k) (frsA T k a y)
          · rw [if_pos c3, if_pos c3]
          · rw [if_neg c3, if_neg c3]
            by_cases c4 : high (catT T k) (frsA T k a y) < low (catT T k) (frsA T k b y)
            · rw [if_pos c4, if_pos c4]
            · rw [if_neg c4, if_neg c4]
    · exact ⟨h, by rw [s_LookN w q2, bind_some', if_pos rfl, cI_f (fun z => q2 z.1)], Fr.rf _ h⟩
  · exact ⟨h, by rw [bI_f q1, if_pos rfl, cI_f (fun z => q1 z.2)], Fr.rf _ h⟩
theorem r_agree {h : Hp} {T : Int → Int} (w : Inv h T) (k a b y : Int) : ∃ h', C_Mo_agree 124 k a b y h = some (aAgree T k a b y, h') ∧ Fr pZ h h' := by
  have n := ivn w
  rw [E_Mo_agree, if_pos (ivM w), m_areAll w, bind_some']
  unfold aAgree
  by_cases q2 : okL T k a y
  · have k1 := q2.1
    have j1 := q2.2.1
    rw [bI_t q2, if_neg n10, if_pos (ivM w), m_isOf w (by omega) (by omega), bind_some']
    by_cases q1 : 0 ≤ b ∧ b < T 1
    · rw [bI_t q1, if_neg n10, if_pos (ivM w), m_catAt k1.1 (by omega), bind_some', if_pos (ivM w), m_houAt j1.1 (by omega), bind_some', if_pos (ivM w), cI_t ⟨q2, q1⟩]
      obtain ⟨h1, g1, g2, mk1, u1, g3, w1⟩ := r_fars w q2
      obtain ⟨h2, p1, p2, p3⟩ := m_spans mk1 u1
      have w2 := w1.of ((p2.to pO_M).to pM_Z)
      rw [g1, bind_some', if_pos (ivM w1), p1, bind_some']
      unfold zAg
      by_cases c1 : low (catT T k) (frsA T k a y) = -2000000000
      · refine ⟨h2, ?_, (g2.tr (p2.to pO_M)).to pM_Z⟩
        simp only [c1, ↓reduceIte]
      · obtain ⟨h3, r1, r2, mk3, u3, r3, w3⟩ := r_fars w2 (k := k) (j := b) (y := y) ⟨k1, q1, q2.2.2⟩
        obtain ⟨h4, s1, s2, s3⟩ := m_spans mk3 u3
        have w4 := w3.of ((s2.to pO_M).to pM_Z)
        have o4 := ivM w4
        refine ⟨h4, ?_, ((g2.tr (p2.to pO_M)).tr (r2.tr (s2.to pO_M))).to pM_Z⟩
        simp only [c1, ↓reduceIte, n10, ivM w2, m_houAt q1.1 (show b < 6 by omega), bind_some', r1, ivM w3, s1]
        by_cases c2 : low (catT T k) (frsA T k b y) = -2000000000
        · simp only [c2, ↓reduceIte]
        · simp only [c2, ↓reduceIte, n10, o4, (p3 c1).1, (p3 c1).2, (s3 c2).1, (s3 c2).2]
          by_cases c3 : high (catT T k) (frsA T k b y) < low (catT T k) (frsA T k a y)
          · rw [if_pos c3, if_pos c3]
          · rw [if_neg c3, if_neg c3]
            by_cases c4 : high (catT T k) (frsA T k a y) < low (catT T k) (frsA T k b y)
            · rw [if_pos c4, if_pos c4]
            · rw [if_neg c4, if_neg c4]
    · exact ⟨h, by rw [bI_f q1, if_pos rfl, cI_f (fun z => q1 z.2)], Fr.rf _ h⟩
  · exact ⟨h, by rw [bI_f q2, if_pos rfl, cI_f (fun z => q2 z.1)], Fr.rf _ h⟩
/-- low and high together -/
theorem lo_hi_b {V F : Int → Int} (o : Vok V) (f : Fok V F) : low V F ≠ -2000000000 → -9999000 ≤ low V F ∧ low V F ≤ high V F ∧ high V F ≤ 9999000 := by
  have := itN_ind (F := fun t (p : Int × Int) => (loF V F t p.1, hiF V F t p.2)) (fun _ p => (p.1 = -2000000000 ∧ p.2 = -2000000000) ∨ (p.1 ≠ -2000000000 ∧ p.2 ≠ -2000000000 ∧ -9999000 ≤ p.1 ∧ p.1 ≤ p.2 ∧ p.2 ≤ 9999000)) 24 0 (-2000000000, -2000000000) (Or.inl ⟨rfl, rfl⟩) (fun j p _ _ i => by
    show (loF V F j p.1 = -2000000000 ∧ hiF V F j p.2 = -2000000000) ∨ _
    dsimp only
    unfold loF hiF
    by_cases z : slB V F j = -2000000000
    · rw [if_pos z, if_pos z]; exact i
    · have b := slB_b o f j z
      rw [if_neg z, if_neg z]
      rcases i with i | i
      · rw [if_pos (Or.inl i.1), if_pos (Or.inl i.2)]; omega
      · by_cases c1 : p.1 = -2000000000 ∨ slB V F j < p.1
        · rw [if_pos c1]
          by_cases c2 : p.2 = -2000000000 ∨ p.2 < slB V F j
          · rw [if_pos c2]; omega
          · rw [if_neg c2]; omega
        · rw [if_neg c1]
          by_cases c2 : p.2 = -2000000000 ∨ p.2 < slB V F j
          · rw [if_pos c2]; omega
          · rw [if_neg c2]; omega)
  have e : ∀ (n : Nat) (t l g : Int), itN (fun t (p : Int × Int) => (loF V F t p.1, hiF V F t p.2)) n t (l, g) = (itN (loF V F) n t l, itN (hiF V F) n t g) := by
    intro n
    induction n with
    | zero => intro t l g; rfl
    | succ n ih => intro t l g; exact ih (t + 1) _ _
  rw [e] at this
  intro q
  rcases this with i | i
  · exact absurd i.1 q
  · exact i.2.2
def zWd (V F : Int → Int) : Int := if low V F = -2000000000 then -1 else w64 (high V F - low V F)
theorem zWd_b {V F : Int → Int} (o : Vok V) (f : Fok V F) : (zWd V F = -1 ↔ low V F = -2000000000) ∧ -1 ≤ zWd V F := by
  unfold zWd
  by_cases q : low V F = -2000000000
  · rw [if_pos q]; exact ⟨⟨fun _ => q, fun _ => rfl⟩, by omega⟩
  · have b := lo_hi_b o f q
    rw [if_neg q, w64_id (by omega) (by omega)]
    exact ⟨⟨fun z => by omega, fun z => absurd z q⟩, by omega⟩
theorem s_width {h : Hp} {c hh y : Int} {V U : Int → Int} (w : LK h c hh y V U) {F : Int → Int} (u : SU h V F) : C_Su_width 99 h = some (zWd V F, h) := by
  rw [E_Su_width, if_pos (lkS w), s_low w u, bind_some']
  unfold zWd
  by_cases q : low V F = -2000000000
  · rw [if_pos q, if_pos q]
  · rw [if_neg q, if_neg q, if_pos (lkS w), s_high w u, bind_some']
/-- the least of widths, the first of equals -/
def zM (g : Int → Int) (r : Int) (p : Int × Int) : Int × Int := if g r = -1 then p else if p.1 < 0 ∨ g r < p.2 then (r, g r) else p
noncomputable def zU0 (U : Int → Int) (r : Int) : Int → Int := up1 U 0 (i_and (U 0) (i_xor (i_shl 1 r) (-1)))
noncomputable def zSt (T : Int → Int) (k j y r : Int) : Int := if bitT (houT T j 0) r = true then zWd (catT T k) (frs (catT T k) (zU0 (houT T j) r) y) else -1
noncomputable def aStrait (T : Int → Int) (k j y : Int) : Int := cI (okL T k j y) (itN (zM (zSt T k j y)) (catT T k 0).toNat 0 (-1, 0)).1 (-1)
theorem zM_i {g : Int → Int} {r : Int} {p : Int × Int} (i : -1 ≤ p.1) (r0 : 0 ≤ r) : -1 ≤ (zM g r p).1 := by
  unfold zM
  split
  · exact i
  · split
    · show -1 ≤ r; omega
    · exact i
theorem l_strait {T : Int → Int} {k j y : Int} (q : okL T k j y) : ∀ (n : Nat) (r : Int) (h : Hp) (p : Int × Int), Inv h T → -1 ≤ p.1 → 0 ≤ r → r + n = catT T k 0 → ∃ h', P_LS_strait_56 1 y (8 + 8 * k) (32 + 4 * j) p.1 p.2 r h = some ((itN (zM (zSt T k j y)) n r p).1, h') ∧ Fr pZ h h' := by
  intro n
  induction n with
  | zero =>
    intro r h p w i r0 hr
    have c := ivC w q.1.1 q.1.2
    refine ⟨h, ?_, Fr.rf _ h⟩
    rw [E_LS_strait_56, if_pos (cF c.1.1), c.1.2.2.1, if_neg (by omega)]
    rfl
  | succ n ih =>
    intro r h p w i r0 hr
    have nn := ivn w
    have c := ivC w q.1.1 q.1.2
    have d := ivH w q.2.1.1 q.2.1.2
    have v := c.2.1.1
    have j1 := q.2.1
    have i2 := zM_i (g := zSt T k j y) (r := r) i r0
    rw [E_LS_strait_56, if_pos (cF c.1.1), c.1.2.2.1, if_pos (show r < catT T k 0 by omega), if_pos (hF d.1.1), E_Ho_usesRung, if_pos (hF d.1.1), d.1.2.2.1, w32_id (x := r + 1) (by omega) (by omega)]
    show ∃ h', _ = some ((itN (zM (zSt T k j y)) n (r + 1) (zM (zSt T k j y) r p)).1, h') ∧ _
    by_cases b : i_and (i_shr (houT T j 0) r) 1 = 1
    · have bt : bitT (houT T j 0) r = true := decide_eq_true b
      obtain ⟨h1, g1, f1, v1, w1⟩ := s_CopyD w j1.1 j1.2
      have d1 := ivH w1 j1.1 j1.2
      have v2 := v1.up0 (p := i_and (houT T j 0) (i_xor (i_shl 1 r) (-1)))
      have f2 : Fr pZ h1 (mW h1 92 0 (i_and (houT T j 0) (i_xor (i_shl 1 r) (-1)))) := Fr.W h1 _ (by unfold pZ; omega)
      have w2 := w1.of f2
      have u2 : Uok (zU0 (houT T j) r) := d.2.1.up0
      obtain ⟨h3, g3, f3, l3, w3⟩ := s_LookD w2 (y := y) q.1.1 q.1.2 v2 u2
      have ew : C_Su_width 99 h3 = some (zSt T k j y r, h3) := by
        have := s_width l3.1 l3.2.1
        unfold zSt
        rw [if_pos bt]; exact this
      have ff := (f1.tr f2).tr f3
      rw [if_pos b, bind_some', if_neg n10, if_pos (iv1 w), iv14 w, if_pos (ivDF w), g1, bind_some', if_pos (iv1 w1), if_pos (hF d1.1.1), iv14 w1, if_pos (ivDF w1), d1.1.2.2.1, hb_eq, if_pos (iv1 w2), if_pos (iv1 w2), iv16 w2, if_pos (ivS w2), iv14 w2, g3, bind_some', if_pos (iv1 w3), iv16 w3, if_pos (ivS w3), ew, bind_some']
      obtain ⟨h4, g4, f4⟩ := ih (r + 1) h3 _ w3 i2 (by omega) (by omega)
      refine ⟨h4, ?_, ff.tr f4⟩
      dsimp only
      revert g4
      unfold zM
      by_cases z : zSt T k j y r = -1
      · rw [if_pos z, if_pos z]; exact fun g => g
      · rw [if_neg z, if_neg z]
        by_cases s : p.1 = -1
        · rw [if_pos s, if_pos (Or.inl (by omega))]; exact fun g => g
        · rw [if_neg s]
          by_cases s2 : zSt T k j y r < p.2
          · rw [if_pos s2, if_pos (Or.inr s2)]; exact fun g => g
          · rw [if_neg s2, if_neg (by omega)]; exact fun g => g
    · have bt : ¬ bitT (houT T j 0) r = true := fun e => b (of_decide_eq_true e)
      have e1 : zSt T k j y r = -1 := if_neg bt
      have e : zM (zSt T k j y) r p = p := if_pos e1
      rw [if_neg b, bind_some', if_pos rfl, e]
      exact ih (r + 1) h p w i (by omega) (by omega)
theorem q_strait {h : Hp} {T : Int → Int} (w : Inv h T) (k j y : Int) : ∃ h', C_LS_strait 1 k j y h = some (aStrait T k j y, h') ∧ Fr pZ h h' := by
  have n := ivn w
  rw [E_LS_strait, if_pos (iv1 w), s_isCat w, bind_some']
  unfold aStrait
  by_cases q1 : 0 ≤ k ∧ k < T 0
  · rw [bI_t q1, if_neg n10, if_pos (iv1 w), s_isHou w, bind_some']
    by_cases q2 : 0 ≤ j ∧ j < T 1
    · rw [bI_t q2, if_neg n10, s_isYear, bind_some']
      by_cases q4 : 0 ≤ y ∧ y < 100
      · have v := (ivC w q1.1 q1.2).2.1.1
        obtain ⟨h1, g1, f1⟩ := l_strait ⟨q1, q2, q4⟩ (catT T k 0).toNat 0 h (-1, 0) w (by decide) (by omega) (by omega)
        refine ⟨h1, ?_, f1⟩
        rw [bI_t q4, if_neg n10, if_pos (iv1 w), iv10 w, if_pos (iv2 w), iv28 w, if_pos (ivR4 w q1.1 (by omega)), if_pos (iv1 w), if_pos (iv2 w), iv29 w, if_pos (ivR5 w q2.1 (by omega)), iv4 w q1.1 (by omega), iv5 w q2.1 (by omega), cI_t ⟨q1, q2, q4⟩]
        exact g1
      · exact ⟨h, by rw [bI_f q4, if_pos rfl, cI_f (fun z => q4 z.2.2)], Fr.rf _ h⟩
    · exact ⟨h, by rw [bI_f q2, if_pos rfl, cI_f (fun z => q2 z.2.1)], Fr.rf _ h⟩
  · exact ⟨h, by rw [bI_f q1, if_pos rfl, cI_f (fun z => q1 z.1)], Fr.rf _ h⟩
theorem l_mstrait {T : Int → Int} {k j y : Int} (q : okL T k j y) : ∀ (n : Nat) (r : Int) (h : Hp) (p : Int × Int), Inv h T → 0 ≤ r → r + n = catT T k 0 → ∃ h', P_Mo_strait_28 124 j y (520 + 330 * k) p.1 p.2 r h = some ((itN (zM (zSt T k j y)) n r p).1, h') ∧ Fr pZ h h' := by
  intro n
  induction n with
  | zero =>
    intro r h p w r0 hr
    have nn := ivn w
    have k1 := q.1
    have e0 : T (520 + 330 * k + 0) = catT T k 0 := catE (by omega) (by omega)
    refine ⟨h, ?_, Fr.rf _ h⟩
    rw [E_Mo_strait_28, if_pos (ivM w), ivM0 w, w32_id (x := 520 + 330 * k + 0) (by omega) (by omega), if_pos (ivMA w (by omega) (by omega)), ivMT w (by omega) (by omega), e0, if_neg (by omega)]
    rfl
  | succ n ih =>
    intro r h p w r0 hr
    have nn := ivn w
    have c := ivC w q.1.1 q.1.2
    have d := ivH w q.2.1.1 q.2.1.2
    have v := c.2.1.1
    have k1 := q.1
    have j1 := q.2.1
    have e0 : T (520 + 330 * k + 0) = catT T k 0 := catE (by omega) (by omega)
    have eu : T (1510 + 26 * j + 0) = houT T j 0 := houE (by omega) (by omega)
    rw [E_Mo_strait_28, if_pos (ivM w), ivM0 w, w32_id (x := 520 + 330 * k + 0) (by omega) (by omega), if_pos (ivMA w (by omega) (by omega)), ivMT w (by omega) (by omega), e0, if_pos (show r < catT T k 0 by omega), if_pos (ivM w), if_pos (ivM w), m_houAt j1.1 (by omega), bind_some', w32_id (x := r + 1) (by omega) (by omega)]
    dsimp only
    rw [w32_id (x := 1510 + 26 * j + 0) (by omega) (by omega), if_pos (ivMA w (by omega) (by omega)), ivMT w (by omega) (by omega), eu]
    show ∃ h', _ = some ((itN (zM (zSt T k j y)) n (r + 1) (zM (zSt T k j y) r p)).1, h') ∧ _
    by_cases b : i_and (i_shr (houT T j 0) r) 1 = 1
    · have bt : bitT (houT T j 0) r = true := decide_eq_true b
      obtain ⟨h1, g1, f1, t1, w1⟩ := m_tries w j1.1 j1.2
      have t10 := t1 0 (by omega) (by omega)
      rw [show (7200 + 0 : Int) = 7200 by decide] at t10
      have t2 := t1.up 0 (i_and (houT T j 0) (i_xor (i_shl 1 r) (-1)))
      rw [show (7200 + 0 : Int) = 7200 by decide] at t2
      have f2 : Fr pT h1 (mW h1 125 7200 (i_and (houT T j 0) (i_xor (i_shl 1 r) (-1)))) := Fr.W h1 _ (by unfold pT; omega)
      have w2 := w1.of (f2.to pT_Z)
      have u2 : Uok (zU0 (houT T j) r) := d.2.1.up0
      obtain ⟨h3, g3, f3, mk3, u3, s3⟩ := m_fars (ivMT2 w2 (j := j) (y := y) k1.1 k1.2 t2 u2)
      obtain ⟨h4, g4, f4, s4⟩ := m_spans mk3 u3
      have w3 := w2.of (f3.to pM_Z)
      have w4 := w3.of ((f4.to pO_M).to pM_Z)
      have o4 := ivM w4
      have zb := zWd_b c.2.1 u3.1
      have ez : zSt T k j y r = zWd (catT T k) (frs (catT T k) (zU0 (houT T j) r) y) := if_pos bt
      have ff := (((f1.to pT_Z).tr (f2.to pT_Z)).tr (f3.to pM_Z)).tr ((f4.to pO_M).to pM_Z)
      obtain ⟨h5, g5, f5⟩ := ih (r + 1) h4 (zM (zSt T k j y) r p) w4 (by omega) (by omega)
      refine ⟨h5, ?_, ff.tr f5⟩
      have eV : up1 (houT T j) 0 (i_and (houT T j 0) (i_xor (i_shl 1 r) (-1))) = zU0 (houT T j) r := rfl
      rw [eV] at g4 s4 zb
      rw [if_neg (show ¬ i_and (i_shr (houT T j 0) r) 1 = 0 by omega), if_pos (ivM w), g1, bind_some', if_pos (ivM w1), ivM0 w1, if_pos (ivMA w1 (by omega) (by omega)), if_pos (ivMS w1 (by omega) (by omega)), hb_eq, t10, if_pos (ivM w2), g3, bind_some', if_pos (ivM w3), g4, bind_some']
      by_cases z : low (catT T k) (frs (catT T k) (zU0 (houT T j) r) y) = -2000000000
      · have e : zM (zSt T k j y) r p = p := if_pos (by rw [ez]; exact zb.1.2 z)
        rw [e] at g5 ⊢
        simp only [z, ↓reduceIte]
        exact g5
      · have zz : ¬ zSt T k j y r = -1 := fun x => z (zb.1.1 (by rw [← ez]; exact x))
        have ew : w64 (high (catT T k) (frs (catT T k) (zU0 (houT T j) r) y) - low (catT T k) (frs (catT T k) (zU0 (houT T j) r) y)) = zSt T k j y r := by rw [ez]; unfold zWd; rw [if_neg z]
        simp only [z, ↓reduceIte, n10, o4, (s4 z).1, (s4 z).2, ew]
        revert g5
        unfold zM
        rw [if_neg zz]
        by_cases s : p.1 < 0
        · rw [if_pos s, if_pos (Or.inl s)]; exact fun g => g
        · rw [if_neg s]
          by_cases s2 : zSt T k j y r < p.2
          · rw [if_pos s2, if_pos (Or.inr s2)]; exact fun g => g
          · rw [if_neg s2, if_neg (by omega)]; exact fun g => g
    · have bt : ¬ bitT (houT T j 0) r = true := fun e => b (of_decide_eq_true e)
      have e1 : zSt T k j y r = -1 := if_neg bt
      have e : zM (zSt T k j y) r p = p := if_pos e1
      have b0 : i_and (i_shr (houT T j 0) r) 1 = 0 := (i_and1 _).resolve_right b
      rw [if_pos b0, e]
      exact ih (r + 1) h p w (by omega) (by omega)
theorem r_strait {h : Hp} {T : Int → Int} (w : Inv h T) (k j y : Int) : ∃ h', C_Mo_strait 124 k j y h = some (aStrait T k j y, h') ∧ Fr pZ h h' := by
  have n := ivn w
  rw [E_Mo_strait, if_pos (ivM w), m_areAll w, bind_some']
  unfold aStrait
  by_cases q2 : okL T k j y
  · have k1 := q2.1
    have v := (ivC w k1.1 k1.2).2.1.1
    obtain ⟨h1, g1, f1⟩ := l_mstrait q2 (catT T k 0).toNat 0 h (-1, 0) w (by omega) (by omega)
    refine ⟨h1, ?_, f1⟩
    rw [bI_t q2, if_neg n10, if_pos (ivM w), m_catAt k1.1 (by omega), bind_some', cI_t q2]
    exact g1
  · exact ⟨h, by rw [bI_f q2, if_pos rfl, cI_f q2], Fr.rf _ h⟩
