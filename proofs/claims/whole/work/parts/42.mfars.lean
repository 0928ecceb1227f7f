/-! The reference: rules and all fars. -/
theorem FM.same {h : Hp} {V F : Int → Int} (u : FM h V F) {t : Int} (n : F t < 0) (t0 : 0 ≤ t) (t1 : t < 24) : FM (mW h 129 t (-1)) V F := by
  refine ⟨u.1, fun s s0 s1 => ?_⟩
  rw [mR_mW]
  by_cases q : s = t
  · rw [if_pos ⟨rfl, q⟩, q]; have := u.1 t t0 t1; omega
  · rw [if_neg (fun z => q z.2)]; exact u.2 s s0 s1
theorem m_thr {h : Hp} {a b y : Int} {V U : Int → Int} (w : MK h a b y V U) {F : Int → Int} (u : FM h V F) {k z t : Int} (k0 : 0 ≤ k) (k1 : k < 4) (t0 : 0 ≤ t) (t1 : t < 24) : P_Mo_rules_3 124 a k z t h = P_Mo_rules_109 124 a k z t (if thr V F k z t = true then 1 else 0) h := by
  have nn := mkn w
  rw [E_Mo_rules_3, if_pos t1, if_pos k1, if_pos (mkO w), mk0 w, w32_id (x := a + 9) (by omega) (by omega), w32_id (x := a + 9 + t) (by omega) (by omega), if_pos (mkA w (by omega) (by omega)), mkV9 w t0 t1, m_size, bind_some']
  simp (disch := omega) only [mkO w, mk12 w, mkA9 w, ↓reduceIte, u.2 t]
  unfold thr
  by_cases x0 : k = 0
  · simp only [x0, if_true, decide_eq_true_eq]; split <;> rfl
  · by_cases x1 : k = 1
    · simp only [x1, if_true, if_false, decide_eq_true_eq, (by decide : ¬ ((1 : Int) = 0))]; split <;> rfl
    · by_cases x2 : k = 2
      · simp only [x2, if_true, if_false, decide_eq_true_eq, (by decide : ¬ ((2 : Int) = 0)), (by decide : ¬ ((2 : Int) = 1))]; split <;> rfl
      · have x3 : k = 3 := by omega
        simp only [x3, if_true, if_false, decide_eq_true_eq, (by decide : ¬ ((3 : Int) = 0)), (by decide : ¬ ((3 : Int) = 1)), (by decide : ¬ ((3 : Int) = 2))]; split <;> rfl
theorem l_m3 {a b y k z : Int} {V U : Int → Int} (k0 : 0 ≤ k) (k1 : k < 4) : ∀ (n : Nat) (t : Int) (h : Hp) (F : Int → Int), MK h a b y V U → FM h V F → 0 ≤ t → t + n = 24 → ∃ h', P_Mo_rules_3 124 a k z t h = some (0, h') ∧ Fr pR h h' ∧ FM h' V (itN (drF V k z) n t F) := by
  intro n
  induction n with
  | zero =>
    intro t h F w u t0 ht
    refine ⟨h, ?_, Fr.rf _ h, u⟩
    rw [E_Mo_rules_3, if_neg (by omega), if_neg (by omega), E_Mo_rules_145]
    split <;> rfl
  | succ n ih =>
    intro t h F w u t0 ht
    have t1 : t < 24 := by omega
    have ft := u.1 t t0 t1
    have f1 : Fr pR h (mW h 129 t (-1)) := Fr.W h _ (Or.inr rfl)
    rw [m_thr w u k0 k1 t0 t1, E_Mo_rules_109, w32_id (x := t + 1) (by omega) (by omega)]
    by_cases q1 : thr V F k z t = true
    · simp only [q1, if_true, (by decide : ¬ ((1 : Int) = 0)), if_false, mkO w, mk12 w, mkS9 w t0 t1, hb_eq]
      by_cases q2 : F t < 0
      · obtain ⟨h2, g1, g2, g3⟩ := ih (t + 1) (mW h 129 t (-1)) F (w.of (f1.to pR_M)) (u.same q2 t0 t1) (by omega) (by omega)
        refine ⟨h2, g1, f1.tr g2, ?_⟩
        show FM h2 V (itN (drF V k z) n (t + 1) (drF V k z t F))
        rw [show drF V k z t F = F from if_pos q2]
        exact g3
      · have t2 : t < V 1 := by omega
        obtain ⟨h2, g1, g2, g3⟩ := ih (t + 1) (mW h 129 t (-1)) _ (w.of (f1.to pR_M)) (FM.up w u t2 (by omega) (by omega)) (by omega) (by omega)
        refine ⟨h2, g1, f1.tr g2, ?_⟩
        show FM h2 V (itN (drF V k z) n (t + 1) (drF V k z t F))
        rw [show drF V k z t F = up1 F t (-1) by unfold drF; rw [if_neg q2, if_pos q1]]
        exact g3
    · simp only [q1, if_true, if_false]
      obtain ⟨h2, g1, g2, g3⟩ := ih (t + 1) h F w u (by omega) (by omega)
      refine ⟨h2, g1, g2, ?_⟩
      show FM h2 V (itN (drF V k z) n (t + 1) (drF V k z t F))
      rw [show drF V k z t F = F by unfold drF; rw [if_neg q1, ite_self]]
      exact g3
theorem m_rules {h : Hp} {a b y : Int} {V U : Int → Int} (w : MK h a b y V U) {F : Int → Int} (u : FM h V F) {i : Int} (i0 : 0 ≤ i) (i1 : i < U 3) : ∃ h', C_Mo_rules 124 a (U (10 + 2 * i)) (U (11 + 2 * i)) h = some (0, h') ∧ Fr pR h h' ∧ FM h' V (ruF V U i F) := by
  have r := w.2.2.2.2.2.2.1.2.2 i i0 i1
  rw [E_Mo_rules]
  unfold ruF
  by_cases q : U (10 + 2 * i) = 4
  · rw [if_pos q]
    obtain ⟨h2, g1, g2, g3⟩ := l_m145 r.2.2.2 (U (11 + 2 * i)).toNat 0 h F w u (by omega) (by omega)
    refine ⟨h2, ?_, g2, g3⟩
    rw [E_Mo_rules_3, if_pos (by decide), if_neg (by omega), if_pos q]
    exact g1
  · rw [if_neg q]
    exact l_m3 r.1 (by omega) 24 0 h F w u (by omega) (by omega)
theorem l_m84 {a b y : Int} {V U : Int → Int} : ∀ (n : Nat) (i : Int) (h : Hp) (F : Int → Int), MK h a b y V U → FM h V F → 0 ≤ i → i + n = U 3 → ∃ h', P_Mo_farsOf_84 124 a b i h = some (0, h') ∧ Fr pR h h' ∧ FM h' V (itN (ruF V U) n i F) := by
  intro n
  induction n with
  | zero =>
    intro i h F w u i0 hi
    have nn := mkn w
    refine ⟨h, ?_, Fr.rf _ h, u⟩
    rw [E_Mo_farsOf_84]
    have : ¬ i < U 3 := by omega
    simp (disch := omega) only [mkO w, mk0 w, mk11 w, mk12 w, mkA w, mkA8 w, mkA9 w, mkS8 w, mkS9 w, mkV0 w, mkV1 w, mkV3 w, mkV9 w, mkV33 w, mkV177 w, mkU0 w, mkU1 w, mkU2 w, mkU3 w, mkU4 w, mkU10 w, mkU11 w, w32_id, ↓reduceIte, bind_some', hb_eq, this]
  | succ n ih =>
    intro i h F w u i0 hi
    have nn := mkn w
    have q : i < U 3 := by omega
    obtain ⟨h1, g1, g2, g3⟩ := m_rules w u i0 q
    obtain ⟨h2, k1, k2, k3⟩ := ih (i + 1) h1 _ (w.of (g2.to pR_M)) g3 (by omega) (by omega)
    refine ⟨h2, ?_, g2.tr k2, k3⟩
    rw [E_Mo_farsOf_84]
    simp (disch := omega) only [mkO w, mk0 w, mk11 w, mk12 w, mkA w, mkA8 w, mkA9 w, mkS8 w, mkS9 w, mkV0 w, mkV1 w, mkV3 w, mkV9 w, mkV33 w, mkV177 w, mkU0 w, mkU1 w, mkU2 w, mkU3 w, mkU4 w, mkU10 w, mkU11 w, w32_id, ↓reduceIte, bind_some', hb_eq, q]
    rw [g1, bind_some']
    exact k1
theorem l_m10 {a b y : Int} {V U : Int → Int} : ∀ (n : Nat) (t : Int) (h : Hp), MK h a b y V U → (∀ s, 0 ≤ s → s < t → mR h 129 s = fr0 V U y s) → 0 ≤ t → t + n = 24 → (∀ i, 0 ≤ i → i < V 0 → mR h 128 i = sclT V U y (V 0).toNat i) → ∃ h', P_Mo_farsOf_10 124 a b y t h = some (0, h') ∧ Fr pR h h' ∧ FM h' V (frs V U y) := by
  intro n
  induction n with
  | zero =>
    intro t h w u t0 ht hs
    have nn := mkn w
    have o := w.2.2.2.2.2.1
    have f : Fok V (fr0 V U y) := by
      intro s s0 s1
      unfold fr0
      by_cases z : V 1 ≤ s
      · rw [if_pos z]; exact ⟨by omega, by omega, fun _ => rfl⟩
      · rw [if_neg z]
        by_cases z2 : bitT (U 2) s = true
        · rw [if_pos z2]; exact ⟨by omega, by omega, fun _ => rfl⟩
        · rw [if_neg z2]
          have b := pk_b o (y := y) (us := U 0) (way := U 1) (S := sclT V U y (V 0).toNat) s0 (by omega) (fun r _ _ => sclT_b o w.2.2.2.2.2.2.1 y (V 0).toNat (by omega) r)
          exact ⟨b.1, b.2, fun q => absurd q z⟩
    obtain ⟨h1, g1, g2, g3⟩ := l_m84 (U 3).toNat 0 h _ w ⟨f, fun s s0 s1 => u s s0 (by omega)⟩ (by omega) (by omega)
    refine ⟨h1, ?_, g2, g3⟩
    rw [E_Mo_farsOf_10, if_neg (by omega)]
    exact g1
  | succ n ih =>
    intro t h w u t0 ht hs
    have nn := mkn w
    have o := w.2.2.2.2.2.1
    have t1 : t < 24 := by omega
    have f1 : ∀ v, Fr pR h (mW h 129 t v) := fun v => Fr.W h v (Or.inr rfl)
    have st : ∀ v, v = fr0 V U y t → ∃ h', P_Mo_farsOf_10 124 a b y (t + 1) (mW h 129 t v) = some (0, h') ∧ Fr pR h h' ∧ FM h' V (frs V U y) := fun v hv => by
      obtain ⟨h2, g1, g2, g3⟩ := ih (t + 1) (mW h 129 t v) (w.of ((f1 v).to pR_M)) (fun s s0 s1 => by
        rw [mR_mW]
        by_cases q : s = t
        · rw [if_pos ⟨rfl, q⟩, q, hv]
        · rw [if_neg (fun z => q z.2)]; exact u s s0 (by omega)) (by omega) (by omega) (fun i i0 i1 => by rw [mR_ne (by decide)]; exact hs i i0 i1)
      exact ⟨h2, g1, (f1 v).tr g2, g3⟩
    rw [E_Mo_farsOf_10, if_pos t1]
    by_cases q : t < V 1
    · have pe : pk V y (mR h 128) (U 0) (U 1) t = pk V y (sclT V U y (V 0).toNat) (U 0) (U 1) t := pk_congr nn.2.2.1 hs
      have sb : ∀ r, 0 ≤ r → r < V 0 → -1 ≤ mR h 128 r ∧ mR h 128 r ≤ 9999999 := fun r r0 r1 => by rw [hs r r0 r1]; exact sclT_b o w.2.2.2.2.2.2.1 y (V 0).toNat (by omega) r
      simp (disch := omega) only [mkO w, mk0 w, mk11 w, mk12 w, mkA w, mkA8 w, mkA9 w, mkS8 w, mkS9 w, mkV0 w, mkV1 w, mkV3 w, mkV9 w, mkV33 w, mkV177 w, mkU0 w, mkU1 w, mkU2 w, mkU3 w, mkU4 w, mkU10 w, mkU11 w, w32_id, ↓reduceIte, bind_some', hb_eq, q, m_cast w, m_farOf w t0 q sb, pe]
      by_cases q1 : bitT (U 2) t = true
      · simp only [q1, if_true, (by decide : ¬ ((1 : Int) = 0)), if_false]
        exact st (-1) (by unfold fr0; rw [if_neg (by omega), if_pos q1])
      · simp only [q1, if_true, if_false]
        exact st _ (by unfold fr0; rw [if_neg (by omega), if_neg q1])
    · simp (disch := omega) only [mkO w, mk0 w, mk11 w, mk12 w, mkA w, mkA8 w, mkA9 w, mkS8 w, mkS9 w, mkV0 w, mkV1 w, mkV3 w, mkV9 w, mkV33 w, mkV177 w, mkU0 w, mkU1 w, mkU2 w, mkU3 w, mkU4 w, mkU10 w, mkU11 w, w32_id, ↓reduceIte, bind_some', hb_eq, q]
      exact st (-1) (by unfold fr0; rw [if_pos (by omega)])
/-- what the reference holds after reckoning the fars -/
noncomputable def MKd (h : Hp) (a b y : Int) (V U : Int → Int) : Prop := MK h a b y V U ∧ FM h V (frs V U y) ∧ ∀ i, 0 ≤ i → i < V 0 → mR h 128 i = sclT V U y (V 0).toNat i
theorem m_fars {h : Hp} {a b y : Int} {V U : Int → Int} (w : MK h a b y V U) : ∃ h', C_Mo_farsOf 124 a b y h = some (0, h') ∧ Fr pM h h' ∧ MKd h' a b y V U := by
  obtain ⟨h1, g1, g2, g3⟩ := m_ladder w
  have w1 := w.of g2
  obtain ⟨h2, k1, k2, k3⟩ := l_m10 24 0 h1 w1 (fun s s0 s1 => by omega) (by omega) (by omega) g3
  refine ⟨h2, ?_, g2.tr (k2.to pR_M), w1.of (k2.to pR_M), k3, fun i i0 i1 => ?_⟩
  · rw [E_Mo_farsOf, if_pos (mkO w), g1, bind_some']
    exact k1
  · rw [k2.2 128 i (by unfold pR; omega)]; exact g3 i i0 i1
