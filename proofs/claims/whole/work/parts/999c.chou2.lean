/-! A house read: way, lean, rule, and the loop; the class's half. -/
theorem h_way {h : Hp} {B : Int → Int} {L : Int} {s : Int × Int × Int} {V : Int → Int} (r : CR h B L s) (o : SO B L s) (w : HouC h 92 V) (st : Str h) (t : tK B L s.1 = 3) : ∃ h', C_Re_readWay 82 92 h = some (0, h') ∧ Fr pRh h h' ∧ CR h' B L (hsW B L s V).1 ∧ HouC h' 92 (hsW B L s V).2 := by
  obtain ⟨h1, g1, f1, r1⟩ := c_stp r o.1 (by omega)
  have o1 := so_step o (show tK B L s.1 ≠ 0 by omega)
  have st1 := st.fr f1 (fun b i q => by unfold pRf; omega)
  have i18 : C_Re_isWord 82 (-18) h1 = some (bI (tK B L (adv B L s).1 = 3 ∧ tW B L (adv B L s).1 = 21), h1) := c_isw r1.1 st1 o1.1.1 o1.1.2 (k := 8) (by decide)
  have i19 : C_Re_isWord 82 (-19) h1 = some (bI (tK B L (adv B L s).1 = 3 ∧ tW B L (adv B L s).1 = 22), h1) := c_isw r1.1 st1 o1.1.1 o1.1.2 (k := 9) (by decide)
  have i20 : C_Re_isWord 82 (-20) h1 = some (bI (tK B L (adv B L s).1 = 3 ∧ tW B L (adv B L s).1 = 23), h1) := c_isw r1.1 st1 o1.1.1 o1.1.2 (k := 10) (by decide)
  have fin : ∀ (wy : Int), (wy = -1 ∧ ¬ (tK B L (adv B L s).1 = 3 ∧ 21 ≤ tW B L (adv B L s).1 ∧ tW B L (adv B L s).1 ≤ 23)) ∨ ((tK B L (adv B L s).1 = 3 ∧ 21 ≤ tW B L (adv B L s).1 ∧ tW B L (adv B L s).1 ≤ 23) ∧ wy = tW B L (adv B L s).1 - 21) → ∃ h', P_Re_readWay_44 82 92 wy h1 = some (0, h') ∧ Fr pRh h h' ∧ CR h' B L (hsW B L s V).1 ∧ HouC h' 92 (hsW B L s V).2 := fun wy hw => by
    obtain ⟨h2, g2, f2, r2⟩ := c_one r1 o1.1 (lo := 21) (hi := 23) rfl
    have o2 := so_one (lo := 21) (hi := 23) o1
    obtain ⟨h3, g3, f3, r3⟩ := c_ens r2 o2.1
    have F := (f1.tr f2).tr f3
    have w3 := w.rd F
    show ∃ h', _ ∧ Fr pRh h h' ∧ CR h' B L (ens B L (one B L 21 23 (adv B L s)).2) ∧ HouC h' 92 (if (ens B L (one B L 21 23 (adv B L s)).2).2.1 = 0 then up1 V 1 (one B L 21 23 (adv B L s)).1 else V)
    have tail : (wy = -1 → (ens B L (one B L 21 23 (adv B L s)).2).2.1 ≠ 0) → ((ens B L (one B L 21 23 (adv B L s)).2).2.1 = 0 → wy = (one B L 21 23 (adv B L s)).1) → ∃ h', (if (bI ((ens B L (one B L 21 23 (adv B L s)).2).2.1 = 0)) = 0 then (some (0, h3) : Res) else (if okF h3 92 3 = true then hb (mW h3 92 1 wy) (fun h10 => (some (0, h10))) else none)) = some (0, h') ∧ Fr pRh h h' ∧ CR h' B L (ens B L (one B L 21 23 (adv B L s)).2) ∧ HouC h' 92 (if (ens B L (one B L 21 23 (adv B L s)).2).2.1 = 0 then up1 V 1 (one B L 21 23 (adv B L s)).1 else V) := fun q1 q2 => by
      by_cases z : (ens B L (one B L 21 23 (adv B L s)).2).2.1 = 0
      · obtain ⟨f4, w4⟩ := h_set w3 (j := 1) (v := (one B L 21 23 (adv B L s)).1) (by decide) (fun q => by omega)
        rw [bI_t z, if_neg (by decide), if_pos (hF w3.1.1), hb_eq, if_pos z, q2 z]
        exact ⟨_, rfl, (F.to pRf_h).tr (f4.to pH_h), r3.ne f4 pH_n, w4⟩
      · rw [bI_f z, if_pos rfl, if_neg z]
        exact ⟨h3, rfl, F.to pRf_h, r3, w3⟩
    rw [E_Re_readWay_44]
    rcases hw with ⟨q, c⟩ | ⟨c, q⟩
    · rw [bI_f c] at g2
      rw [if_pos q, if_pos (cro r1), g2, bind_some', if_pos (cro r2), g3, bind_some']
      refine tail (fun _ z => ?_) (fun z => ?_)
      · have := one_0 (ens_0 z)
        unfold one at z
        have f0 : ¬ (adv B L s).2.1 = 1 := by omega
        rw [if_neg f0, if_neg c] at z
        rw [ens_1 brk_1, brk_1] at z
        omega
      · have := one_0 (ens_0 z)
        unfold one at z
        have f0 : ¬ (adv B L s).2.1 = 1 := by omega
        rw [if_neg f0, if_neg c] at z
        rw [ens_1 brk_1, brk_1] at z
        omega
    · rw [bI_t c] at g2
      rw [if_neg (show ¬ wy = -1 by omega), if_pos (cro r1), g2, bind_some', if_pos (cro r2), g3, bind_some']
      refine tail (fun x => by omega) (fun z => ?_)
      have := one_0 (ens_0 z)
      unfold one
      have f0 : ¬ (adv B L s).2.1 = 1 := by omega
      rw [if_neg f0, if_pos c]
      exact q
  rw [E_Re_readWay, if_pos (cro r), g1, bind_some', if_pos (cro r1), i18, bind_some']
  by_cases w1 : tK B L (adv B L s).1 = 3 ∧ tW B L (adv B L s).1 = 21
  · rw [bI_t w1, if_neg n10]
    exact fin 0 (Or.inr ⟨by omega, by omega⟩)
  rw [bI_f w1, if_pos rfl, if_pos (cro r1), i19, bind_some']
  by_cases w2 : tK B L (adv B L s).1 = 3 ∧ tW B L (adv B L s).1 = 22
  · rw [bI_t w2, if_neg n10]
    exact fin 1 (Or.inr ⟨by omega, by omega⟩)
  rw [bI_f w2, if_pos rfl, if_pos (cro r1), i20, bind_some']
  by_cases w3 : tK B L (adv B L s).1 = 3 ∧ tW B L (adv B L s).1 = 23
  · rw [bI_t w3, if_neg n10]
    exact fin 2 (Or.inr ⟨by omega, by omega⟩)
  rw [bI_f w3, if_pos rfl]
  exact fin (-1) (Or.inl ⟨rfl, by omega⟩)
/-- a lean told -/
theorem h_lset {h : Hp} {V : Int → Int} (w : HouC h 92 V) {k v : Int} (k0 : 0 ≤ k ∧ k < 6) (vb : -50 ≤ v ∧ v ≤ 50) : Fr (pH 92) h (mW h 93 k v) ∧ HouC (mW h 93 k v) 92 (up1 V (4 + k) v) := by
  have f : Fr (pH 92) h (mW h 93 k v) := Fr.W h v (by unfold pH; omega)
  obtain ⟨⟨a1, a2, a3, a4, a5, a6, a7, a8⟩, ⟨u1, u2, u3⟩, b2, b3⟩ := w
  have up : ∀ i, i ≠ 4 + k → up1 V (4 + k) v i = V i := fun i n => up1_n n
  have lb : ∀ r, 0 ≤ r → r < 6 → -50 ≤ up1 V (4 + k) v (4 + r) ∧ up1 V (4 + k) v (4 + r) ≤ 50 := fun r r0 r1 => by
    by_cases q : r = k
    · rw [q, up1_s]; exact vb
    · rw [up (4 + r) (by omega)]; exact b2 r r0 r1
  refine ⟨f, ⟨a1.of f.1 (fun i i0 i1 => mR_ne (by decide)), a2, ?_, ?_, ?_, ?_, fun r r0 r1 => ?_, fun i i0 i1 => ?_⟩, ⟨?_, fun r r0 r1 => ?_, fun i i0 i1 => ?_⟩, lb, ?_⟩
  · rw [mR_ne (by decide), up 0 (by omega)]; exact a3
  · rw [mR_ne (by decide), up 1 (by omega)]; exact a4
  · rw [mR_ne (by decide), up 2 (by omega)]; exact a5
  · rw [mR_ne (by decide), up 3 (by omega)]; exact a6
  · show mR (mW h 93 k v) 93 r = _
    rw [mR_mW]
    by_cases q : r = k
    · rw [if_pos ⟨rfl, q⟩, q, up1_s]
    · rw [if_neg (fun z => q z.2), up (4 + r) (by omega)]; exact a7 r r0 r1
  · rw [up 3 (by omega)] at i1
    rw [mR_ne (by decide), mR_ne (by decide), up (10 + 2 * i) (by omega), up (11 + 2 * i) (by omega)]; exact a8 i i0 i1
  · rw [up 3 (by omega)]; exact u1
  · have := lb r r0 r1
    omega
  · rw [up 3 (by omega)] at i1
    rw [up (10 + 2 * i) (by omega), up (11 + 2 * i) (by omega)]; exact u3 i i0 i1
  · rw [up 2 (by omega)]; exact b3
/-- a rule told -/
theorem h_rset {h : Hp} {V : Int → Int} (w : HouC h 92 V) (l : V 3 < 8) {x y : Int} (hx : 0 ≤ x ∧ x ≤ 4) (hy : 0 ≤ y ∧ y ≤ 9999) : ∃ h', C_Ho_addRule 92 x y h = some (0, h') ∧ Fr (pH 92) h h' ∧ HouC h' 92 (tRule V x y) := by
  obtain ⟨⟨a1, a2, a3, a4, a5, a6, a7, a8⟩, ⟨u1, u2, u3⟩, b2, b3⟩ := w
  have o : okF h 92 3 = true := hF a1
  let k1 := mW h 94 (V 3) x
  let k2 := mW k1 95 (V 3) y
  let k3 := mW k2 92 3 (V 3 + 1)
  have e1 : ∀ i, mR k1 92 i = mR h 92 i := fun i => mR_ne (by decide)
  have e2 : ∀ i, mR k2 92 i = mR h 92 i := fun i => by show mR (mW k1 95 (V 3) y) 92 i = _; rw [mR_ne (by decide), e1]
  have e3 : ∀ i, i ≠ 3 → mR k3 92 i = mR h 92 i := fun i n => by show mR (mW k2 92 3 (V 3 + 1)) 92 i = _; rw [mR_ni n, e2]
  have e33 : mR k3 92 3 = V 3 + 1 := mR_same _ _ _ _
  have e93 : ∀ i, mR k3 93 i = mR h 93 i := fun i => by show mR (mW (mW (mW h 94 (V 3) x) 95 (V 3) y) 92 3 (V 3 + 1)) 93 i = _; rw [mR_ne (by decide), mR_ne (by decide), mR_ne (by decide)]
  have e94 : ∀ i, mR k3 94 i = if i = V 3 then x else mR h 94 i := fun i => by
    show mR (mW (mW (mW h 94 (V 3) x) 95 (V 3) y) 92 3 (V 3 + 1)) 94 i = _
    rw [mR_ne (by decide), mR_ne (by decide), mR_mW]
    by_cases q : i = V 3
    · rw [if_pos ⟨rfl, q⟩, if_pos q]
    · rw [if_neg (fun z => q z.2), if_neg q]
  have e95 : ∀ i, mR k3 95 i = if i = V 3 then y else mR h 95 i := fun i => by
    show mR (mW (mW (mW h 94 (V 3) x) 95 (V 3) y) 92 3 (V 3 + 1)) 95 i = _
    rw [mR_ne (by decide), mR_mW]
    by_cases q : i = V 3
    · rw [if_pos ⟨rfl, q⟩, if_pos q]
    · rw [if_neg (fun z => q z.2), if_neg q, mR_ne (by decide)]
  have fr : Fr (pH 92) h k3 := ((Fr.W h x (by unfold pH; omega)).tr (Fr.W k1 y (by unfold pH; omega))).tr (Fr.W k2 (V 3 + 1) (by unfold pH; omega))
  have l94 : mK h 94 = 102 ∧ mL h 94 = 8 := a1.2.2.2.2.1
  have l95 : mK h 95 = 102 ∧ mL h 95 = 8 := a1.2.2.2.2.2
  have g5 : mR h 92 5 = 94 := h5 a1
  have g6 : mR h 92 6 = 95 := h6 a1
  refine ⟨k3, ?_, fr, ?_⟩
  · rw [E_Ho_addRule, if_pos o, a6, if_pos l, if_pos o, if_pos o, g5, if_pos (okS_t l94 (by decide) u1.1 (by omega)), hb_eq]
    show (if okF k1 92 3 = true then _ else _) = _
    rw [if_pos (show okF k1 92 3 = true from o), if_pos (show okF k1 92 3 = true from o), e1 6, g6, e1 3, a6, if_pos (show okS k1 95 102 (V 3) = true from okS_t l95 (by decide) u1.1 (by omega)), hb_eq]
    show (if okF k2 92 3 = true then _ else _) = _
    rw [if_pos (show okF k2 92 3 = true from o), if_pos (show okF k2 92 3 = true from o), e2 3, a6, w32_id (x := V 3 + 1) (by omega) (by omega), hb_eq]
  · have t3 : tRule V x y 3 = V 3 + 1 := up1_s ..
    have tn : ∀ i, i ≠ 3 → i ≠ 10 + 2 * V 3 → i ≠ 11 + 2 * V 3 → tRule V x y i = V i := fun i p0 p1 p2 => by unfold tRule; rw [up1_n p0, up1_n p2, up1_n p1]
    have t10 : tRule V x y (10 + 2 * V 3) = x := by unfold tRule; rw [up1_n (by omega), up1_n (by omega), up1_s]
    have t11 : tRule V x y (11 + 2 * V 3) = y := by unfold tRule; rw [up1_n (by omega), up1_s]
    refine ⟨⟨a1.of fr.1 (fun i i0 i1 => e3 i (by omega)), a2, ?_, ?_, ?_, ?_, fun r r0 r1 => ?_, fun i i0 i1 => ?_⟩, ⟨?_, fun r r0 r1 => ?_, fun i i0 i1 => ?_⟩, fun r r0 r1 => ?_, ?_⟩
    · rw [e3 0 (by decide), tn 0 (by omega) (by omega) (by omega)]; exact a3
    · rw [e3 1 (by decide), tn 1 (by omega) (by omega) (by omega)]; exact a4
    · rw [e3 2 (by decide), tn 2 (by omega) (by omega) (by omega)]; exact a5
    · rw [e33, t3]
    · rw [tn (4 + r) (by omega) (by omega) (by omega)]
      show mR k3 93 r = _
      rw [e93]; exact a7 r r0 r1
    · rw [t3] at i1
      show mR k3 94 i = _ ∧ mR k3 95 i = _
      rw [e94, e95]
      by_cases q : i = V 3
      · rw [if_pos q, if_pos q, q, t10, t11]; exact ⟨rfl, rfl⟩
      · rw [if_neg q, if_neg q, tn (10 + 2 * i) (by omega) (by omega) (by omega), tn (11 + 2 * i) (by omega) (by omega) (by omega)]
        exact a8 i i0 (by omega)
    · rw [t3]; omega
    · rw [tn (4 + r) (by omega) (by omega) (by omega)]; exact u2 r r0 r1
    · rw [t3] at i1
      by_cases q : i = V 3
      · rw [q, t10, t11]; omega
      · rw [tn (10 + 2 * i) (by omega) (by omega) (by omega), tn (11 + 2 * i) (by omega) (by omega) (by omega)]
        exact u3 i i0 (by omega)
    · rw [tn (4 + r) (by omega) (by omega) (by omega)]; exact b2 r r0 r1
    · rw [tn 2 (by omega) (by omega) (by omega)]; exact b3
