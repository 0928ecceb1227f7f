/-! The beginning: everything made, nothing told. -/
theorem al_z (h : Hp) (a i c v : Int) (n : Nat) (ha : a ≤ mT h) (j : Int) : mR (mW (mA h c n) a i v) (mT h + 1) j = 0 := by rw [mR_ne (by omega), mR_A, if_pos rfl]
theorem Ext.W (h : Hp) (a i v : Int) : Ext a h (mW h a i v) := ⟨Int.le_refl _, fun _ _ => ⟨rfl, rfl⟩, fun _ _ _ n => mR_ne n, by rw [mS_W, mT_W]; omega⟩
def ReS (h : Hp) (a : Int) : Prop := 0 < a ∧ mK h a = 6 ∧ mR h a 0 = a + 1 ∧ (mK h (a + 1) = 101 ∧ mL h (a + 1) = 500)
def RaS (h : Hp) (a : Int) : Prop := 0 < a ∧ mK h a = 5 ∧ (mR h a 1 = a + 1 ∧ mR h a 2 = a + 2) ∧ (mK h (a + 1) = 102 ∧ mL h (a + 1) = 24) ∧ (mK h (a + 2) = 103 ∧ mL h (a + 2) = 24)
def ChS (h : Hp) (a : Int) : Prop := 0 < a ∧ mK h a = 2 ∧ (mR h a 0 = a + 1 ∧ mR h a 1 = a + 2) ∧ (mK h (a + 1) = 103 ∧ mL h (a + 1) = 100) ∧ (mK h (a + 2) = 104 ∧ mL h (a + 2) = 100)
def OrS (h : Hp) (a : Int) : Prop := 0 < a ∧ mK h a = 4 ∧ (mR h a 0 = a + 1 ∧ mR h a 1 = a + 2) ∧ (mK h (a + 1) = 103 ∧ mL h (a + 1) = 7) ∧ (mK h (a + 2) = 103 ∧ mL h (a + 2) = 7)
def SuS (h : Hp) (a : Int) : Prop := 0 < a ∧ mK h a = 9 ∧ (mR h a 3 = a + 13 ∧ mR h a 4 = a + 14 ∧ mR h a 5 = a + 15) ∧ (mK h (a + 13) = 102 ∧ mL h (a + 13) = 6) ∧ (mK h (a + 14) = 102 ∧ mL h (a + 14) = 24) ∧ (mK h (a + 15) = 102 ∧ mL h (a + 15) = 24)
theorem ReS.ext {h h' : Hp} {c a : Int} (w : ReS h c) (e : Ext a h h') (q : c + 1 ≤ mT h) (n : c ≠ a) : ReS h' c := by
  unfold ReS at w ⊢
  simp (disch := omega) only [e.k, e.l, e.r]
  exact w
theorem RaS.ext {h h' : Hp} {c a : Int} (w : RaS h c) (e : Ext a h h') (q : c + 2 ≤ mT h) (n : c ≠ a) : RaS h' c := by
  unfold RaS at w ⊢
  simp (disch := omega) only [e.k, e.l, e.r]
  exact w
theorem ChS.ext {h h' : Hp} {c a : Int} (w : ChS h c) (e : Ext a h h') (q : c + 2 ≤ mT h) (n : c ≠ a) : ChS h' c := by
  unfold ChS at w ⊢
  simp (disch := omega) only [e.k, e.l, e.r]
  exact w
theorem OrS.ext {h h' : Hp} {c a : Int} (w : OrS h c) (e : Ext a h h') (q : c + 2 ≤ mT h) (n : c ≠ a) : OrS h' c := by
  unfold OrS at w ⊢
  simp (disch := omega) only [e.k, e.l, e.r]
  exact w
theorem SuS.ext {h h' : Hp} {c a : Int} (w : SuS h c) (e : Ext a h h') (q : c + 15 ≤ mT h) (n : c ≠ a) : SuS h' c := by
  unfold SuS at w ⊢
  simp (disch := omega) only [e.k, e.l, e.r]
  exact w
theorem s_reinit {h : Hp} {a : Int} (a0 : 0 < a) (ta : mT h = a) (k : mK h a = 6) : ∃ h', C_Re_init a h = some (0, h') ∧ Ext a h h' ∧ mT h' = a + 1 ∧ ReS h' a := by
  have o := okF_t k
  rw [E_Re_init, if_pos a0]
  have x0 := al_st h a 0 101 500 (by omega)
  rw [hb_eq, okF_A (show a ≤ mT h by omega), if_pos o, hb_eq]
  generalize mW (mA h 101 500) a 0 (mT h + 1) = h1 at x0 ⊢
  have t1 := x0.2.1
  have o1 : okF h1 a 6 = true := okF_t (by rw [x0.1.k (show a ≤ mT h by omega)]; exact of_decide_eq_true o)
  have e1 := Ext.rf a h1
  have e0 := x0.1.tr e1
  have m0 : mT h + 1 = a + 1 := by omega
  have f0 : mR h1 a 0 = a + 1 := by rw [x0.2.2.2, if_pos rfl, m0]
  have z0 : mK h1 (a + 1) = 101 ∧ mL h1 (a + 1) = 500 := by rw [e1.k (by omega), e1.l (by omega), ← m0]; exact x0.2.2.1
  refine ⟨h1, rfl, e0, by omega, a0, ?_, f0, z0⟩
  rw [e0.k (by omega)]; exact k
theorem s_rainit {h : Hp} {a : Int} (a0 : 0 < a) (ta : mT h = a) (k : mK h a = 5) : ∃ h', C_Ra_init a h = some (0, h') ∧ Ext a h h' ∧ mT h' = a + 2 ∧ RaS h' a := by
  have o := okF_t k
  rw [E_Ra_init, if_pos a0]
  have x0 := al_st h a 1 102 24 (by omega)
  rw [hb_eq, okF_A (show a ≤ mT h by omega), if_pos o, hb_eq]
  generalize mW (mA h 102 24) a 1 (mT h + 1) = h1 at x0 ⊢
  have t1 := x0.2.1
  have o1 : okF h1 a 5 = true := okF_t (by rw [x0.1.k (show a ≤ mT h by omega)]; exact of_decide_eq_true o)
  have x1 := al_st h1 a 2 103 24 (by omega)
  rw [hb_eq, okF_A (show a ≤ mT h1 by omega), if_pos o1, hb_eq]
  generalize mW (mA h1 103 24) a 2 (mT h1 + 1) = h2 at x1 ⊢
  have t2 := x1.2.1
  have o2 : okF h2 a 5 = true := okF_t (by rw [x1.1.k (show a ≤ mT h1 by omega)]; exact of_decide_eq_true o1)
  have e2 := Ext.rf a h2
  have e1 := x1.1.tr e2
  have e0 := x0.1.tr e1
  have m0 : mT h + 1 = a + 1 := by omega
  have f0 : mR h2 a 1 = a + 1 := by rw [x1.2.2.2, if_neg (by decide), x0.2.2.2, if_pos rfl, m0]
  have z0 : mK h2 (a + 1) = 102 ∧ mL h2 (a + 1) = 24 := by rw [e1.k (by omega), e1.l (by omega), ← m0]; exact x0.2.2.1
  have m1 : mT h1 + 1 = a + 2 := by omega
  have f1 : mR h2 a 2 = a + 2 := by rw [x1.2.2.2, if_pos rfl, m1]
  have z1 : mK h2 (a + 2) = 103 ∧ mL h2 (a + 2) = 24 := by rw [e2.k (by omega), e2.l (by omega), ← m1]; exact x1.2.2.1
  refine ⟨h2, rfl, e0, by omega, a0, ?_, ⟨f0, f1⟩, z0, z1⟩
  rw [e0.k (by omega)]; exact k
theorem s_chinit {h : Hp} {a : Int} (a0 : 0 < a) (ta : mT h = a) (k : mK h a = 2) : ∃ h', C_Ch_init a h = some (0, h') ∧ Ext a h h' ∧ mT h' = a + 2 ∧ ChS h' a := by
  have o := okF_t k
  rw [E_Ch_init, if_pos a0]
  have x0 := al_st h a 0 103 100 (by omega)
  rw [hb_eq, okF_A (show a ≤ mT h by omega), if_pos o, hb_eq]
  generalize mW (mA h 103 100) a 0 (mT h + 1) = h1 at x0 ⊢
  have t1 := x0.2.1
  have o1 : okF h1 a 2 = true := okF_t (by rw [x0.1.k (show a ≤ mT h by omega)]; exact of_decide_eq_true o)
  have x1 := al_st h1 a 1 104 100 (by omega)
  rw [hb_eq, okF_A (show a ≤ mT h1 by omega), if_pos o1, hb_eq]
  generalize mW (mA h1 104 100) a 1 (mT h1 + 1) = h2 at x1 ⊢
  have t2 := x1.2.1
  have o2 : okF h2 a 2 = true := okF_t (by rw [x1.1.k (show a ≤ mT h1 by omega)]; exact of_decide_eq_true o1)
  have e2 := Ext.rf a h2
  have e1 := x1.1.tr e2
  have e0 := x0.1.tr e1
  have m0 : mT h + 1 = a + 1 := by omega
  have f0 : mR h2 a 0 = a + 1 := by rw [x1.2.2.2, if_neg (by decide), x0.2.2.2, if_pos rfl, m0]
  have z0 : mK h2 (a + 1) = 103 ∧ mL h2 (a + 1) = 100 := by rw [e1.k (by omega), e1.l (by omega), ← m0]; exact x0.2.2.1
  have m1 : mT h1 + 1 = a + 2 := by omega
  have f1 : mR h2 a 1 = a + 2 := by rw [x1.2.2.2, if_pos rfl, m1]
  have z1 : mK h2 (a + 2) = 104 ∧ mL h2 (a + 2) = 100 := by rw [e2.k (by omega), e2.l (by omega), ← m1]; exact x1.2.2.1
  refine ⟨h2, rfl, e0, by omega, a0, ?_, ⟨f0, f1⟩, z0, z1⟩
  rw [e0.k (by omega)]; exact k
theorem s_orinit {h : Hp} {a : Int} (a0 : 0 < a) (ta : mT h = a) (k : mK h a = 4) : ∃ h', C_Or_init a h = some (0, h') ∧ Ext a h h' ∧ mT h' = a + 2 ∧ OrS h' a := by
  have o := okF_t k
  rw [E_Or_init, if_pos a0]
  have x0 := al_st h a 0 103 7 (by omega)
  rw [hb_eq, okF_A (show a ≤ mT h by omega), if_pos o, hb_eq]
  generalize mW (mA h 103 7) a 0 (mT h + 1) = h1 at x0 ⊢
  have t1 := x0.2.1
  have o1 : okF h1 a 4 = true := okF_t (by rw [x0.1.k (show a ≤ mT h by omega)]; exact of_decide_eq_true o)
  have x1 := al_st h1 a 1 103 7 (by omega)
  rw [hb_eq, okF_A (show a ≤ mT h1 by omega), if_pos o1, hb_eq]
  generalize mW (mA h1 103 7) a 1 (mT h1 + 1) = h2 at x1 ⊢
  have t2 := x1.2.1
  have o2 : okF h2 a 4 = true := okF_t (by rw [x1.1.k (show a ≤ mT h1 by omega)]; exact of_decide_eq_true o1)
  have e2 := Ext.rf a h2
  have e1 := x1.1.tr e2
  have e0 := x0.1.tr e1
  have m0 : mT h + 1 = a + 1 := by omega
  have f0 : mR h2 a 0 = a + 1 := by rw [x1.2.2.2, if_neg (by decide), x0.2.2.2, if_pos rfl, m0]
  have z0 : mK h2 (a + 1) = 103 ∧ mL h2 (a + 1) = 7 := by rw [e1.k (by omega), e1.l (by omega), ← m0]; exact x0.2.2.1
  have m1 : mT h1 + 1 = a + 2 := by omega
  have f1 : mR h2 a 1 = a + 2 := by rw [x1.2.2.2, if_pos rfl, m1]
  have z1 : mK h2 (a + 2) = 103 ∧ mL h2 (a + 2) = 7 := by rw [e2.k (by omega), e2.l (by omega), ← m1]; exact x1.2.2.1
  refine ⟨h2, rfl, e0, by omega, a0, ?_, ⟨f0, f1⟩, z0, z1⟩
  rw [e0.k (by omega)]; exact k
/-- a new object, made, kept in field i -/
theorem ob_st {h h1 : Hp} {a i c : Int} {n : Nat} (ha : a ≤ mT h) (e1 : Ext (mT h + 1) (mA h c n) h1) (hn : n ≤ 7560 := by decide) : Ext a h (mW h1 a i (mT h + 1)) ∧ Ext a h1 (mW h1 a i (mT h + 1)) ∧ mT (mW h1 a i (mT h + 1)) = mT h1 ∧ (∀ j, mR (mW h1 a i (mT h + 1)) a j = if j = i then mT h + 1 else mR h a j) ∧ mK h1 a = mK h a := by
  have x := al_new h a c n hn
  have t := x.2.1
  refine ⟨x.1.put e1 (by omega), Ext.W h1 a i _, rfl, fun j => ?_, ?_⟩
  · rw [mR_mW, e1.r (show a ≤ mT (mA h c n) by omega) (by omega), mR_A, if_neg (show ¬ a = mT h + 1 by omega)]
    by_cases z : j = i
    · rw [if_pos ⟨rfl, z⟩, if_pos z]
    · rw [if_neg (fun x => z x.2), if_neg z]
  · rw [e1.k (by omega), x.1.k ha]
theorem s_suinit {h : Hp} {a : Int} (a0 : 0 < a) (ta : mT h = a) (k : mK h a = 9) : ∃ h', C_Su_init a h = some (0, h') ∧ Ext a h h' ∧ mT h' = a + 15 ∧ SuS h' a := by
  rw [E_Su_init, if_pos a0]
  have y1 := al_new h a 1 10
  have u1 := y1.2.1
  obtain ⟨q1, g1, c1, v1, s1⟩ := s_cinit (a := mT h + 1) (by omega) u1 y1.2.2.1.1
  have x1 := ob_st (i := 0) (show a ≤ mT h by omega) c1
  have ok1 : okF q1 a 9 = true := okF_t (by rw [x1.2.2.2.2]; exact k)
  rw [hb_eq, if_pos (okF_t y1.2.2.1.1), g1, bind_some', if_pos ok1, hb_eq]
  generalize mW q1 a 0 (mT h + 1) = h1 at x1 ⊢
  have t1 : mT h1 = mT h + 1 + 7 := by rw [x1.2.2.1]; exact v1
  have k1 : mK h1 a = 9 := by rw [x1.1.k (show a ≤ mT h by omega)]; exact k
  have y2 := al_new h1 a 3 7
  have u2 := y2.2.1
  obtain ⟨q2, g2, c2, v2, s2⟩ := s_hinit (a := mT h1 + 1) (by omega) u2 y2.2.2.1.1
  have x2 := ob_st (i := 1) (show a ≤ mT h1 by omega) c2
  have ok2 : okF q2 a 9 = true := okF_t (by rw [x2.2.2.2.2]; exact k1)
  rw [hb_eq, if_pos (okF_t y2.2.2.1.1), g2, bind_some', if_pos ok2, hb_eq]
  generalize mW q2 a 1 (mT h1 + 1) = h2 at x2 ⊢
  have t2 : mT h2 = mT h1 + 1 + 3 := by rw [x2.2.2.1]; exact v2
  have k2 : mK h2 a = 9 := by rw [x2.1.k (show a ≤ mT h1 by omega)]; exact k1
  have x3 := al_st h2 a 3 102 6 (by omega)
  have z3 := al_z h2 a 3 102 (mT h2 + 1) 6 (by omega)
  rw [hb_eq, okF_A (show a ≤ mT h2 by omega), if_pos (okF_t k2), hb_eq]
  generalize mW (mA h2 102 6) a 3 (mT h2 + 1) = h3 at x3 z3 ⊢
  have t3 := x3.2.1
  have k3 : mK h3 a = 9 := by rw [x3.1.k (show a ≤ mT h2 by omega)]; exact k2
  have x4 := al_st h3 a 4 102 24 (by omega)
  have z4 := al_z h3 a 4 102 (mT h3 + 1) 24 (by omega)
  rw [hb_eq, okF_A (show a ≤ mT h3 by omega), if_pos (okF_t k3), hb_eq]
  generalize mW (mA h3 102 24) a 4 (mT h3 + 1) = h4 at x4 z4 ⊢
  have t4 := x4.2.1
  have k4 : mK h4 a = 9 := by rw [x4.1.k (show a ≤ mT h3 by omega)]; exact k3
  have x5 := al_st h4 a 5 102 24 (by omega)
  have z5 := al_z h4 a 5 102 (mT h4 + 1) 24 (by omega)
  rw [hb_eq, okF_A (show a ≤ mT h4 by omega), if_pos (okF_t k4), hb_eq]
  generalize mW (mA h4 102 24) a 5 (mT h4 + 1) = h5 at x5 z5 ⊢
  have t5 := x5.2.1
  have k5 : mK h5 a = 9 := by rw [x5.1.k (show a ≤ mT h4 by omega)]; exact k4
  have e5 := x4.1.tr x5.1
  have e0 := x1.1.tr (x2.1.tr (x3.1.tr e5))
  have m3 : mT h2 + 1 = a + 13 := by omega
  have m4 : mT h3 + 1 = a + 14 := by omega
  have m5 : mT h4 + 1 = a + 15 := by omega
  refine ⟨h5, rfl, e0, by omega, a0, k5, ⟨?_, ?_, ?_⟩, ?_, ?_, ?_⟩
  · rw [x5.2.2.2, if_neg (by decide), x4.2.2.2, if_neg (by decide), x3.2.2.2, if_pos rfl, m3]
  · rw [x5.2.2.2, if_neg (by decide), x4.2.2.2, if_pos rfl, m4]
  · rw [x5.2.2.2, if_pos rfl, m5]
  · rw [e5.k (by omega), e5.l (by omega), ← m3]; exact x3.2.2.1
  · rw [x5.1.k (by omega), x5.1.l (by omega), ← m4]; exact x4.2.2.1
  · rw [← m5]; exact x5.2.2.1
theorem s_lsinit {h : Hp} (ta : mT h = 1) (k : mK h 1 = 11) : ∃ h', C_LS_init 1 h = some (0, h') ∧ Ext 1 h h' ∧ mT h' = 123 ∧ LSh h' ∧ TSh h' 2 ∧ (∀ i, 1 ≤ i → i ≤ 7 → mR h' 2 i = zero7 i) ∧ ∀ i, mR h' 81 i = 0 := by
  rw [E_LS_init, if_pos (by decide)]
  have y1 := al_new h 1 10 12
  have u1 := y1.2.1
  obtain ⟨q1, g1, c1, v1, s1, w1⟩ := s_tinit (A := mT h + 1) (by omega) u1 y1.2.2.1.1 y1.2.2.2
  have x1 := ob_st (i := 0) (show 1 ≤ mT h by omega) c1
  have ok1 : okF q1 1 11 = true := okF_t (by rw [x1.2.2.2.2]; exact k)
  rw [hb_eq, if_pos (okF_t y1.2.2.1.1), g1, bind_some', if_pos ok1, hb_eq]
  generalize mW q1 1 0 (mT h + 1) = h1 at x1 ⊢
  have t1 : mT h1 = mT h + 1 + 78 := by rw [x1.2.2.1]; exact v1
  have k1 : mK h1 1 = 11 := by rw [x1.1.k (show 1 ≤ mT h by omega)]; exact k
  have x2 := al_st h1 1 1 115 3 (by omega)
  have z2 := al_z h1 1 1 115 (mT h1 + 1) 3 (by omega)
  rw [hb_eq, okF_A (show 1 ≤ mT h1 by omega), if_pos (okF_t k1), hb_eq]
  generalize mW (mA h1 115 3) 1 1 (mT h1 + 1) = h2 at x2 z2 ⊢
  have t2 := x2.2.1
  have k2 : mK h2 1 = 11 := by rw [x2.1.k (show 1 ≤ mT h1 by omega)]; exact k1
  have y3 := al_new h2 1 6 8
  have u3 := y3.2.1
  obtain ⟨q3, g3, c3, v3, s3⟩ := s_reinit (a := mT h2 + 1) (by omega) u3 y3.2.2.1.1
  have x3 := ob_st (i := 2) (show 1 ≤ mT h2 by omega) c3
  have ok3 : okF q3 1 11 = true := okF_t (by rw [x3.2.2.2.2]; exact k2)
  rw [hb_eq, if_pos (okF_t y3.2.2.1.1), g3, bind_some', if_pos ok3, hb_eq]
  generalize mW q3 1 2 (mT h2 + 1) = h3 at x3 ⊢
  have t3 : mT h3 = mT h2 + 1 + 1 := by rw [x3.2.2.1]; exact v3
  have k3 : mK h3 1 = 11 := by rw [x3.1.k (show 1 ≤ mT h2 by omega)]; exact k2
  have y4 := al_new h3 1 1 10
  have u4 := y4.2.1
  obtain ⟨q4, g4, c4, v4, s4⟩ := s_cinit (a := mT h3 + 1) (by omega) u4 y4.2.2.1.1
  have x4 := ob_st (i := 3) (show 1 ≤ mT h3 by omega) c4
  have ok4 : okF q4 1 11 = true := okF_t (by rw [x4.2.2.2.2]; exact k3)
  rw [hb_eq, if_pos (okF_t y4.2.2.1.1), g4, bind_some', if_pos ok4, hb_eq]
  generalize mW q4 1 3 (mT h3 + 1) = h4 at x4 ⊢
  have t4 : mT h4 = mT h3 + 1 + 7 := by rw [x4.2.2.1]; exact v4
  have k4 : mK h4 1 = 11 := by rw [x4.1.k (show 1 ≤ mT h3 by omega)]; exact k3
  have y5 := al_new h4 1 3 7
  have u5 := y5.2.1
  obtain ⟨q5, g5, c5, v5, s5⟩ := s_hinit (a := mT h4 + 1) (by omega) u5 y5.2.2.1.1
  have x5 := ob_st (i := 4) (show 1 ≤ mT h4 by omega) c5
  have ok5 : okF q5 1 11 = true := okF_t (by rw [x5.2.2.2.2]; exact k4)
  rw [hb_eq, if_pos (okF_t y5.2.2.1.1), g5, bind_some', if_pos ok5, hb_eq]
  generalize mW q5 1 4 (mT h4 + 1) = h5 at x5 ⊢
  have t5 : mT h5 = mT h4 + 1 + 3 := by rw [x5.2.2.1]; exact v5
  have k5 : mK h5 1 = 11 := by rw [x5.1.k (show 1 ≤ mT h4 by omega)]; exact k4
  have y6 := al_new h5 1 8 8
  have u6 := y6.2.1
  obtain ⟨q6, g6, c6, v6, s6⟩ := s_kinit (a := mT h5 + 1) (by omega) u6 y6.2.2.1.1
  have x6 := ob_st (i := 5) (show 1 ≤ mT h5 by omega) c6
  have ok6 : okF q6 1 11 = true := okF_t (by rw [x6.2.2.2.2]; exact k5)
  rw [hb_eq, if_pos (okF_t y6.2.2.1.1), g6, bind_some', if_pos ok6, hb_eq]
  generalize mW q6 1 5 (mT h5 + 1) = h6 at x6 ⊢
  have t6 : mT h6 = mT h5 + 1 + 2 := by rw [x6.2.2.1]; exact v6
  have k6 : mK h6 1 = 11 := by rw [x6.1.k (show 1 ≤ mT h5 by omega)]; exact k5
  have y7 := al_new h6 1 9 12
  have u7 := y7.2.1
  obtain ⟨q7, g7, c7, v7, s7⟩ := s_suinit (a := mT h6 + 1) (by omega) u7 y7.2.2.1.1
  have x7 := ob_st (i := 6) (show 1 ≤ mT h6 by omega) c7
  have ok7 : okF q7 1 11 = true := okF_t (by rw [x7.2.2.2.2]; exact k6)
  rw [hb_eq, if_pos (okF_t y7.2.2.1.1), g7, bind_some', if_pos ok7, hb_eq]
  generalize mW q7 1 6 (mT h6 + 1) = h7 at x7 ⊢
  have t7 : mT h7 = mT h6 + 1 + 15 := by rw [x7.2.2.1]; exact v7
  have k7 : mK h7 1 = 11 := by rw [x7.1.k (show 1 ≤ mT h6 by omega)]; exact k6
  have y8 := al_new h7 1 5 3
  have u8 := y8.2.1
  obtain ⟨q8, g8, c8, v8, s8⟩ := s_rainit (a := mT h7 + 1) (by omega) u8 y8.2.2.1.1
  have x8 := ob_st (i := 7) (show 1 ≤ mT h7 by omega) c8
  have ok8 : okF q8 1 11 = true := okF_t (by rw [x8.2.2.2.2]; exact k7)
  rw [hb_eq, if_pos (okF_t y8.2.2.1.1), g8, bind_some', if_pos ok8, hb_eq]
  generalize mW q8 1 7 (mT h7 + 1) = h8 at x8 ⊢
  have t8 : mT h8 = mT h7 + 1 + 2 := by rw [x8.2.2.1]; exact v8
  have k8 : mK h8 1 = 11 := by rw [x8.1.k (show 1 ≤ mT h7 by omega)]; exact k7
  have y9 := al_new h8 1 2 2
  have u9 := y9.2.1
  obtain ⟨q9, g9, c9, v9, s9⟩ := s_chinit (a := mT h8 + 1) (by omega) u9 y9.2.2.1.1
  have x9 := ob_st (i := 8) (show 1 ≤ mT h8 by omega) c9
  have ok9 : okF q9 1 11 = true := okF_t (by rw [x9.2.2.2.2]; exact k8)
  rw [hb_eq, if_pos (okF_t y9.2.2.1.1), g9, bind_some', if_pos ok9, hb_eq]
  generalize mW q9 1 8 (mT h8 + 1) = h9 at x9 ⊢
  have t9 : mT h9 = mT h8 + 1 + 2 := by rw [x9.2.2.1]; exact v9
  have k9 : mK h9 1 = 11 := by rw [x9.1.k (show 1 ≤ mT h8 by omega)]; exact k8
  have y10 := al_new h9 1 4 4
  have u10 := y10.2.1
  obtain ⟨q10, g10, c10, v10, s10⟩ := s_orinit (a := mT h9 + 1) (by omega) u10 y10.2.2.1.1
  have x10 := ob_st (i := 9) (show 1 ≤ mT h9 by omega) c10
  have ok10 : okF q10 1 11 = true := okF_t (by rw [x10.2.2.2.2]; exact k9)
  rw [hb_eq, if_pos (okF_t y10.2.2.1.1), g10, bind_some', if_pos ok10, hb_eq]
  generalize mW q10 1 9 (mT h9 + 1) = h10 at x10 ⊢
  have t10 : mT h10 = mT h9 + 1 + 2 := by rw [x10.2.2.1]; exact v10
  have k10 : mK h10 1 = 11 := by rw [x10.1.k (show 1 ≤ mT h9 by omega)]; exact k9
  have e10 := Ext.rf 1 h10
  have e9 := x10.1.tr e10
  have e8 := x9.1.tr e9
  have e7 := x8.1.tr e8
  have e6 := x7.1.tr e7
  have e5 := x6.1.tr e6
  have e4 := x5.1.tr e5
  have e3 := x4.1.tr e4
  have e2 := x3.1.tr e3
  have e1 := x2.1.tr e2
  have e0 := x1.1.tr e1
  have m1 : mT h + 1 = 2 := by omega
  have m2 : mT h1 + 1 = 81 := by omega
  have m3 : mT h2 + 1 = 82 := by omega
  have m4 : mT h3 + 1 = 84 := by omega
  have m5 : mT h4 + 1 = 92 := by omega
  have m6 : mT h5 + 1 = 96 := by omega
  have m7 : mT h6 + 1 = 99 := by omega
  have m8 : mT h7 + 1 = 115 := by omega
  have m9 : mT h8 + 1 = 118 := by omega
  have m10 : mT h9 + 1 = 121 := by omega
  rw [m1] at s1
  rw [m3] at s3
  rw [m4] at s4
  rw [m5] at s5
  rw [m6] at s6
  rw [m7] at s7
  rw [m8] at s8
  rw [m9] at s9
  rw [m10] at s10
  rw [m1] at w1
  rw [m2] at z2
  have r1 : TSh h10 2 := (s1.ext (x1.2.1) (by omega) (by omega)).ext e1 (by omega) (by omega)
  have r3 : ReS h10 82 := (s3.ext (x3.2.1) (by omega) (by omega)).ext e3 (by omega) (by omega)
  have r4 : CatS h10 84 := (s4.ext (x4.2.1) (by omega) (by omega)).ext e4 (by omega) (by omega)
  have r5 : HouS h10 92 := (s5.ext (x5.2.1) (by omega) (by omega)).ext e5 (by omega) (by omega)
  have r6 : SkyS h10 96 := (s6.ext (x6.2.1) (by omega) (by omega)).ext e6 (by omega) (by omega)
  have r7 : SuS h10 99 := (s7.ext (x7.2.1) (by omega) (by omega)).ext e7 (by omega) (by omega)
  have r8 : RaS h10 115 := (s8.ext (x8.2.1) (by omega) (by omega)).ext e8 (by omega) (by omega)
  have r9 : ChS h10 118 := (s9.ext (x9.2.1) (by omega) (by omega)).ext e9 (by omega) (by omega)
  have r10 : OrS h10 121 := (s10.ext (x10.2.1) (by omega) (by omega)).ext e10 (by omega) (by omega)
  have f1 : mR h10 1 0 = 2 := by rw [x10.2.2.2.1, if_neg (by decide), x9.2.2.2.1, if_neg (by decide), x8.2.2.2.1, if_neg (by decide), x7.2.2.2.1, if_neg (by decide), x6.2.2.2.1, if_neg (by decide), x5.2.2.2.1, if_neg (by decide), x4.2.2.2.1, if_neg (by decide), x3.2.2.2.1, if_neg (by decide), x2.2.2.2, if_neg (by decide), x1.2.2.2.1, if_pos rfl, m1]
  have f2 : mR h10 1 1 = 81 := by rw [x10.2.2.2.1, if_neg (by decide), x9.2.2.2.1, if_neg (by decide), x8.2.2.2.1, if_neg (by decide), x7.2.2.2.1, if_neg (by decide), x6.2.2.2.1, if_neg (by decide), x5.2.2.2.1, if_neg (by decide), x4.2.2.2.1, if_neg (by decide), x3.2.2.2.1, if_neg (by decide), x2.2.2.2, if_pos rfl, m2]
  have f3 : mR h10 1 2 = 82 := by rw [x10.2.2.2.1, if_neg (by decide), x9.2.2.2.1, if_neg (by decide), x8.2.2.2.1, if_neg (by decide), x7.2.2.2.1, if_neg (by decide), x6.2.2.2.1, if_neg (by decide), x5.2.2.2.1, if_neg (by decide), x4.2.2.2.1, if_neg (by decide), x3.2.2.2.1, if_pos rfl, m3]
  have f4 : mR h10 1 3 = 84 := by rw [x10.2.2.2.1, if_neg (by decide), x9.2.2.2.1, if_neg (by decide), x8.2.2.2.1, if_neg (by decide), x7.2.2.2.1, if_neg (by decide), x6.2.2.2.1, if_neg (by decide), x5.2.2.2.1, if_neg (by decide), x4.2.2.2.1, if_pos rfl, m4]
  have f5 : mR h10 1 4 = 92 := by rw [x10.2.2.2.1, if_neg (by decide), x9.2.2.2.1, if_neg (by decide), x8.2.2.2.1, if_neg (by decide), x7.2.2.2.1, if_neg (by decide), x6.2.2.2.1, if_neg (by decide), x5.2.2.2.1, if_pos rfl, m5]
  have f6 : mR h10 1 5 = 96 := by rw [x10.2.2.2.1, if_neg (by decide), x9.2.2.2.1, if_neg (by decide), x8.2.2.2.1, if_neg (by decide), x7.2.2.2.1, if_neg (by decide), x6.2.2.2.1, if_pos rfl, m6]
  have f7 : mR h10 1 6 = 99 := by rw [x10.2.2.2.1, if_neg (by decide), x9.2.2.2.1, if_neg (by decide), x8.2.2.2.1, if_neg (by decide), x7.2.2.2.1, if_pos rfl, m7]
  have f8 : mR h10 1 7 = 115 := by rw [x10.2.2.2.1, if_neg (by decide), x9.2.2.2.1, if_neg (by decide), x8.2.2.2.1, if_pos rfl, m8]
  have f9 : mR h10 1 8 = 118 := by rw [x10.2.2.2.1, if_neg (by decide), x9.2.2.2.1, if_pos rfl, m9]
  have f10 : mR h10 1 9 = 121 := by rw [x10.2.2.2.1, if_pos rfl, m10]
  have a2 : mK h10 81 = 115 ∧ mL h10 81 = 3 := by rw [e2.k (by omega), e2.l (by omega), ← m2]; exact x2.2.2.1
  refine ⟨h10, rfl, e0, by omega, ⟨k10, ⟨f1, f2, f3, f4, f5, f6, f7, f8, f9, f10⟩, r4, r5, r6, ⟨r7.2.1, r7.2.2.1, r7.2.2.2.1, r7.2.2.2.2.1, r7.2.2.2.2.2⟩, ⟨r8.2.1, r8.2.2.1.1, r8.2.2.1.2⟩, ⟨r8.2.2.2.1, r8.2.2.2.2⟩, ⟨r9.2.1, r9.2.2.1.1, r9.2.2.1.2⟩, ⟨r9.2.2.2.1, r9.2.2.2.2⟩, ⟨r10.2.1, r10.2.2.1.1, r10.2.2.1.2⟩, ⟨r10.2.2.2.1, r10.2.2.2.2⟩, a2, ⟨r3.2.1, r3.2.2.1⟩, r3.2.2.2⟩, r1, fun i i0 i1 => ?_, fun i => ?_⟩
  · rw [e1.r (by omega) (by omega), x1.2.1.r (by omega) (by omega)]
    exact w1 i i0 i1
  · rw [e2.r (by omega) (by omega)]
    exact z2 i
theorem s_moinit {h : Hp} (ta : mT h = 124) (k : mK h 124 = 12) : ∃ h', C_Mo_init 124 h = some (0, h') ∧ (∀ b, b ≤ 123 → mK h' b = mK h b ∧ mL h' b = mL h b ∧ ∀ i, mR h' b i = mR h b i) ∧ mT h' = 133 ∧ ModS h' ∧ (∀ i, mR h' 125 i = if i = 6 then -1 else 0) ∧ (∀ i, mR h' 126 i = 0) ∧ mS h' ≤ mS h + 7560 * 9 := by
  rw [E_Mo_init, if_pos (by decide)]
  have x1 := al_st h 124 0 102 7560 (by omega)
  have z1 := al_z h 124 0 102 (mT h + 1) 7560 (by omega)
  rw [hb_eq, okF_A (show 124 ≤ mT h by omega), if_pos (okF_t k), hb_eq]
  generalize mW (mA h 102 7560) 124 0 (mT h + 1) = h1 at x1 z1 ⊢
  have t1 := x1.2.1
  have k1 : mK h1 124 = 12 := by rw [x1.1.k (show 124 ≤ mT h by omega)]; exact k
  have x2 := al_st h1 124 1 104 3 (by omega)
  have z2 := al_z h1 124 1 104 (mT h1 + 1) 3 (by omega)
  rw [hb_eq, okF_A (show 124 ≤ mT h1 by omega), if_pos (okF_t k1), hb_eq]
  generalize mW (mA h1 104 3) 124 1 (mT h1 + 1) = h2 at x2 z2 ⊢
  have t2 := x2.2.1
  have k2 : mK h2 124 = 12 := by rw [x2.1.k (show 124 ≤ mT h1 by omega)]; exact k1
  have x3 := al_st h2 124 10 102 330 (by omega)
  have z3 := al_z h2 124 10 102 (mT h2 + 1) 330 (by omega)
  rw [hb_eq, okF_A (show 124 ≤ mT h2 by omega), if_pos (okF_t k2), hb_eq]
  generalize mW (mA h2 102 330) 124 10 (mT h2 + 1) = h3 at x3 z3 ⊢
  have t3 := x3.2.1
  have k3 : mK h3 124 = 12 := by rw [x3.1.k (show 124 ≤ mT h2 by omega)]; exact k2
  have x4 := al_st h3 124 11 102 6 (by omega)
  have z4 := al_z h3 124 11 102 (mT h3 + 1) 6 (by omega)
  rw [hb_eq, okF_A (show 124 ≤ mT h3 by omega), if_pos (okF_t k3), hb_eq]
  generalize mW (mA h3 102 6) 124 11 (mT h3 + 1) = h4 at x4 z4 ⊢
  have t4 := x4.2.1
  have k4 : mK h4 124 = 12 := by rw [x4.1.k (show 124 ≤ mT h3 by omega)]; exact k3
  have x5 := al_st h4 124 12 102 24 (by omega)
  have z5 := al_z h4 124 12 102 (mT h4 + 1) 24 (by omega)
  rw [hb_eq, okF_A (show 124 ≤ mT h4 by omega), if_pos (okF_t k4), hb_eq]
  generalize mW (mA h4 102 24) 124 12 (mT h4 + 1) = h5 at x5 z5 ⊢
  have t5 := x5.2.1
  have k5 : mK h5 124 = 12 := by rw [x5.1.k (show 124 ≤ mT h4 by omega)]; exact k4
  have x6 := al_st h5 124 22 102 24 (by omega)
  have z6 := al_z h5 124 22 102 (mT h5 + 1) 24 (by omega)
  rw [hb_eq, okF_A (show 124 ≤ mT h5 by omega), if_pos (okF_t k5), hb_eq]
  generalize mW (mA h5 102 24) 124 22 (mT h5 + 1) = h6 at x6 z6 ⊢
  have t6 := x6.2.1
  have k6 : mK h6 124 = 12 := by rw [x6.1.k (show 124 ≤ mT h5 by omega)]; exact k5
  have x7 := al_st h6 124 23 102 24 (by omega)
  have z7 := al_z h6 124 23 102 (mT h6 + 1) 24 (by omega)
  rw [hb_eq, okF_A (show 124 ≤ mT h6 by omega), if_pos (okF_t k6), hb_eq]
  generalize mW (mA h6 102 24) 124 23 (mT h6 + 1) = h7 at x7 z7 ⊢
  have t7 := x7.2.1
  have k7 : mK h7 124 = 12 := by rw [x7.1.k (show 124 ≤ mT h6 by omega)]; exact k6
  have x8 := al_st h7 124 27 103 24 (by omega)
  have z8 := al_z h7 124 27 103 (mT h7 + 1) 24 (by omega)
  rw [hb_eq, okF_A (show 124 ≤ mT h7 by omega), if_pos (okF_t k7), hb_eq]
  generalize mW (mA h7 103 24) 124 27 (mT h7 + 1) = h8 at x8 z8 ⊢
  have t8 := x8.2.1
  have k8 : mK h8 124 = 12 := by rw [x8.1.k (show 124 ≤ mT h7 by omega)]; exact k7
  have x9 := al_st h8 124 28 103 24 (by omega)
  have z9 := al_z h8 124 28 103 (mT h8 + 1) 24 (by omega)
  rw [hb_eq, okF_A (show 124 ≤ mT h8 by omega), if_pos (okF_t k8), hb_eq]
  generalize mW (mA h8 103 24) 124 28 (mT h8 + 1) = h9 at x9 z9 ⊢
  have t9 := x9.2.1
  have k9 : mK h9 124 = 12 := by rw [x9.1.k (show 124 ≤ mT h8 by omega)]; exact k8
  have e9 := Ext.rf 124 h9
  have e8 := x9.1.tr e9
  have e7 := x8.1.tr e8
  have e6 := x7.1.tr e7
  have e5 := x6.1.tr e6
  have e4 := x5.1.tr e5
  have e3 := x4.1.tr e4
  have e2 := x3.1.tr e3
  have e1 := x2.1.tr e2
  have e0 := x1.1.tr e1
  have m1 : mT h + 1 = 125 := by omega
  have m2 : mT h1 + 1 = 126 := by omega
  have m3 : mT h2 + 1 = 127 := by omega
  have m4 : mT h3 + 1 = 128 := by omega
  have m5 : mT h4 + 1 = 129 := by omega
  have m6 : mT h5 + 1 = 130 := by omega
  have m7 : mT h6 + 1 = 131 := by omega
  have m8 : mT h7 + 1 = 132 := by omega
  have m9 : mT h8 + 1 = 133 := by omega
  rw [m1] at z1
  rw [m2] at z2
  have f1 : mR h9 124 0 = 125 := by rw [x9.2.2.2, if_neg (by decide), x8.2.2.2, if_neg (by decide), x7.2.2.2, if_neg (by decide), x6.2.2.2, if_neg (by decide), x5.2.2.2, if_neg (by decide), x4.2.2.2, if_neg (by decide), x3.2.2.2, if_neg (by decide), x2.2.2.2, if_neg (by decide), x1.2.2.2, if_pos rfl, m1]
  have a1 : mK h9 125 = 102 ∧ mL h9 125 = 7560 := by rw [e1.k (by omega), e1.l (by omega), ← m1]; exact x1.2.2.1
  have f2 : mR h9 124 1 = 126 := by rw [x9.2.2.2, if_neg (by decide), x8.2.2.2, if_neg (by decide), x7.2.2.2, if_neg (by decide), x6.2.2.2, if_neg (by decide), x5.2.2.2, if_neg (by decide), x4.2.2.2, if_neg (by decide), x3.2.2.2, if_neg (by decide), x2.2.2.2, if_pos rfl, m2]
  have a2 : mK h9 126 = 104 ∧ mL h9 126 = 3 := by rw [e2.k (by omega), e2.l (by omega), ← m2]; exact x2.2.2.1
  have f3 : mR h9 124 10 = 127 := by rw [x9.2.2.2, if_neg (by decide), x8.2.2.2, if_neg (by decide), x7.2.2.2, if_neg (by decide), x6.2.2.2, if_neg (by decide), x5.2.2.2, if_neg (by decide), x4.2.2.2, if_neg (by decide), x3.2.2.2, if_pos rfl, m3]
  have a3 : mK h9 127 = 102 ∧ mL h9 127 = 330 := by rw [e3.k (by omega), e3.l (by omega), ← m3]; exact x3.2.2.1
  have f4 : mR h9 124 11 = 128 := by rw [x9.2.2.2, if_neg (by decide), x8.2.2.2, if_neg (by decide), x7.2.2.2, if_neg (by decide), x6.2.2.2, if_neg (by decide), x5.2.2.2, if_neg (by decide), x4.2.2.2, if_pos rfl, m4]
  have a4 : mK h9 128 = 102 ∧ mL h9 128 = 6 := by rw [e4.k (by omega), e4.l (by omega), ← m4]; exact x4.2.2.1
  have f5 : mR h9 124 12 = 129 := by rw [x9.2.2.2, if_neg (by decide), x8.2.2.2, if_neg (by decide), x7.2.2.2, if_neg (by decide), x6.2.2.2, if_neg (by decide), x5.2.2.2, if_pos rfl, m5]
  have a5 : mK h9 129 = 102 ∧ mL h9 129 = 24 := by rw [e5.k (by omega), e5.l (by omega), ← m5]; exact x5.2.2.1
  have f6 : mR h9 124 22 = 130 := by rw [x9.2.2.2, if_neg (by decide), x8.2.2.2, if_neg (by decide), x7.2.2.2, if_neg (by decide), x6.2.2.2, if_pos rfl, m6]
  have a6 : mK h9 130 = 102 ∧ mL h9 130 = 24 := by rw [e6.k (by omega), e6.l (by omega), ← m6]; exact x6.2.2.1
  have f7 : mR h9 124 23 = 131 := by rw [x9.2.2.2, if_neg (by decide), x8.2.2.2, if_neg (by decide), x7.2.2.2, if_pos rfl, m7]
  have a7 : mK h9 131 = 102 ∧ mL h9 131 = 24 := by rw [e7.k (by omega), e7.l (by omega), ← m7]; exact x7.2.2.1
  have f8 : mR h9 124 27 = 132 := by rw [x9.2.2.2, if_neg (by decide), x8.2.2.2, if_pos rfl, m8]
  have a8 : mK h9 132 = 103 ∧ mL h9 132 = 24 := by rw [e8.k (by omega), e8.l (by omega), ← m8]; exact x8.2.2.1
  have f9 : mR h9 124 28 = 133 := by rw [x9.2.2.2, if_pos rfl, m9]
  have a9 : mK h9 133 = 103 ∧ mL h9 133 = 24 := by rw [e9.k (by omega), e9.l (by omega), ← m9]; exact x9.2.2.1
  have z125 : ∀ i, mR h9 125 i = 0 := fun i => by rw [e1.r (by omega) (by omega)]; exact z1 i
  have z126 : ∀ i, mR h9 126 i = 0 := fun i => by rw [e2.r (by omega) (by omega)]; exact z2 i
  rw [if_pos (okF_t k9), f1, if_pos (okS_t a1 (by decide) (by decide) (by decide)), hb_eq]
  have md : ModS h9 := ⟨k9, ⟨f1, f2, f3, f4, f5, f6, f7, f8, f9⟩, a1, a2, a3, a4, a5, a6, a7, a8, a9⟩
  refine ⟨_, rfl, fun b q => ⟨e0.k (by omega), e0.l (by omega), fun i => ?_⟩, by rw [mT_W]; omega, md.of (SK.W h9 _ _ _) (fun i _ => mR_ne (by decide)), fun i => ?_, fun i => ?_, by have := e0.2.2.2; rw [mS_W]; omega⟩
  · rw [mR_ne (by omega), e0.r (by omega) (by omega)]
  · rw [mR_mW, z125]
    by_cases z : i = 6
    · rw [if_pos ⟨rfl, z⟩, if_pos z]
    · rw [if_neg (fun x => z x.2), if_neg z]
  · rw [mR_ne (by decide)]; exact z126 i
def T0 (i : Int) : Int := if i = 6 then -1 else 0
theorem s_start {h : Hp} (t : mT h = 0) (ts : mS h = 0) (s : Int) : ∃ h', C_La_law s h = P_La_law_18 s 1 124 0 h' ∧ Inv h' T0 ∧ Ims h' ∧ ∀ b, b ≤ 0 → mK h' b = mK h b ∧ mL h' b = mL h b ∧ ∀ i, mR h' b i = mR h b i := by
  have y1 := al_new h 0 11 10
  have m1 : mT h + 1 = 1 := by omega
  have u1 := y1.2.1
  have o1 := y1.2.2.1.1
  rw [m1] at u1 o1
  obtain ⟨h1, g1, e1, t1, l1, s1, w1, z1⟩ := s_lsinit u1 o1
  have y2 := al_new h1 0 12 29
  have m2 : mT h1 + 1 = 124 := by omega
  have u2 := y2.2.1
  have o2 := y2.2.2.1.1
  rw [m2] at u2 o2
  obtain ⟨h2, g2, k2, t2, d2, c2, z2, n2⟩ := s_moinit u2 o2
  have E : Ext 200 h1 h2 := ⟨by omega, fun b q => ⟨by rw [(k2 b (by omega)).1, y2.1.k q], by rw [(k2 b (by omega)).2.1, y2.1.l q]⟩, fun b i q _ => by rw [(k2 b (by omega)).2.2 i, mR_A, if_neg (by omega)], by have := y2.1.2.2.2; omega⟩
  have cells : ∀ b i, b ≤ 123 → mR h2 b i = mR h1 b i := fun b i q => E.r (by omega) (by omega)
  have ls : LSh h2 := by
    unfold LSh at l1 ⊢
    obtain ⟨w1, w2, w3, w4, w5, w6, w7⟩ := l1
    refine ⟨?_, ?_, w3.ext E (by omega) (by omega), w4.ext E (by omega) (by omega), w5.ext E (by omega) (by omega), ?_, ?_⟩
    · rw [E.k (by omega)]; exact w1
    · simp (disch := omega) only [E.r]; exact w2
    · unfold SurS at w6 ⊢
      simp (disch := omega) only [E.k, E.l, E.r]; exact w6
    · simp (disch := omega) only [E.k, E.l, E.r]; exact w7
  refine ⟨h2, ?_, ⟨ls, s1.ext E (by omega) (by omega), ?_, d2, fun i _ _ => c2 i⟩, ⟨⟨by omega, ⟨by unfold nz; rw [cells 81 0 (by omega), cells 81 1 (by omega), cells 81 2 (by omega), z1, z1, z1, if_pos rfl]; omega, by have := y1.1.2.2.2; have := e1.2.2.2; have := E.2.2.2; omega⟩⟩, fun k j _ _ _ _ _ x => absurd (by rw [cells 81 k (by omega)]; exact z1 k) x, fun k _ _ => Or.inl ⟨by rw [cells 81 k (by omega)]; exact z1 k, z2 k⟩⟩, fun b q => ⟨?_, ?_, fun i => ?_⟩⟩
  · rw [E_La_law, hb_eq, m1, if_pos (okF_t o1), g1, bind_some', hb_eq, m2]
    dsimp only
    rw [if_pos (okF_t o2), g2, bind_some']
  · have f : ∀ i, 1 ≤ i → i ≤ 7 → mR h2 2 i = zero7 i := fun i i0 i1 => by rw [cells 2 i (by omega)]; exact w1 i i0 i1
    have z0 : T0 0 = 0 := rfl
    have z1 : T0 1 = 0 := rfl
    have z2 : T0 2 = 0 := rfl
    have z3 : T0 3 = 0 := rfl
    have z4 : T0 4 = 0 := rfl
    refine ⟨⟨f 1 (by omega) (by omega), f 2 (by omega) (by omega), f 3 (by omega) (by omega), f 4 (by omega) (by omega), f 5 (by omega) (by omega), f 6 (by omega) (by omega), f 7 (by omega) (by omega)⟩, by omega, by omega, by omega, by omega, by omega, fun i i0 i1 => by omega, fun i i0 i1 => by omega, fun i i0 i1 => by omega, fun i i0 i1 => by omega, fun i j i0 i1 => by omega, fun i i0 i1 => by omega⟩
  · rw [E.k (by omega), e1.k (by omega), y1.1.k (by omega)]
  · rw [E.l (by omega), e1.l (by omega), y1.1.l (by omega)]
  · rw [cells b i (by omega), e1.r (by omega) (by omega), mR_A, if_neg (by omega)]
