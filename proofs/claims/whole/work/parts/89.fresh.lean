/-! Cells made anew: what is told, told afresh. -/
def mS (h : Hp) : Int := (h.1.2 : Int)
def Ext (a : Int) (h h' : Hp) : Prop := mT h ≤ mT h' ∧ (∀ b, b ≤ mT h → mK h' b = mK h b ∧ mL h' b = mL h b) ∧ (∀ b i, b ≤ mT h → b ≠ a → mR h' b i = mR h b i) ∧ mS h' ≤ mS h + 7560 * (mT h' - mT h)
theorem Ext.rf (a : Int) (h : Hp) : Ext a h h := ⟨Int.le_refl _, fun _ _ => ⟨rfl, rfl⟩, fun _ _ _ _ => rfl, by omega⟩
theorem Ext.tr {a : Int} {x y z : Hp} (e : Ext a x y) (f : Ext a y z) : Ext a x z := ⟨Int.le_trans e.1 f.1, fun b q => ⟨(f.2.1 b (Int.le_trans q e.1)).1.trans (e.2.1 b q).1, (f.2.1 b (Int.le_trans q e.1)).2.trans (e.2.1 b q).2⟩, fun b i q n => (f.2.2.1 b i (Int.le_trans q e.1) n).trans (e.2.2.1 b i q n), by have := e.2.2.2; have := f.2.2.2; omega⟩
theorem Ext.k {a : Int} {h h' : Hp} (e : Ext a h h') {b : Int} (q : b ≤ mT h) : mK h' b = mK h b := (e.2.1 b q).1
theorem Ext.l {a : Int} {h h' : Hp} (e : Ext a h h') {b : Int} (q : b ≤ mT h) : mL h' b = mL h b := (e.2.1 b q).2
theorem Ext.r {a : Int} {h h' : Hp} (e : Ext a h h') {b i : Int} (q : b ≤ mT h) (n : b ≠ a) : mR h' b i = mR h b i := e.2.2.1 b i q n
theorem mT_W (h : Hp) (a i v : Int) : mT (mW h a i v) = mT h := rfl
theorem mS_W (h : Hp) (a i v : Int) : mS (mW h a i v) = mS h := rfl
theorem mS_A (h : Hp) (c : Int) (n : Nat) : mS (mA h c n) = mS h + n := by show ((h.1.2 + n : Nat) : Int) = (h.1.2 : Int) + n; omega
theorem mT_A (h : Hp) (c : Int) (n : Nat) : mT (mA h c n) = mT h + 1 := by show ((h.1.1 + 1 : Nat) : Int) = (h.1.1 : Int) + 1; omega
theorem mK_A (h : Hp) (c : Int) (n : Nat) (b : Int) : mK (mA h c n) b = if b = mT h + 1 then c else mK h b := by
  show (if b = (h.1.1 : Int) + 1 then (c, (n : Int)) else h.2.1 b).1 = if b = (h.1.1 : Int) + 1 then c else (h.2.1 b).1
  split <;> rfl
theorem mL_A (h : Hp) (c : Int) (n : Nat) (b : Int) : mL (mA h c n) b = if b = mT h + 1 then (n : Int) else mL h b := by
  show (if b = (h.1.1 : Int) + 1 then (c, (n : Int)) else h.2.1 b).2 = if b = (h.1.1 : Int) + 1 then (n : Int) else (h.2.1 b).2
  split <;> rfl
theorem mR_A (h : Hp) (c : Int) (n : Nat) (b i : Int) : mR (mA h c n) b i = if b = mT h + 1 then 0 else mR h b i := rfl
theorem okF_A {h : Hp} {a c k : Int} {n : Nat} (ha : a ≤ mT h) : okF (mA h c n) a k = okF h a k := by
  unfold okF
  rw [mK_A, if_neg (by omega)]
/-- a new cell, kept in field i of a -/
theorem al_st (h : Hp) (a i c : Int) (n : Nat) (ha : a ≤ mT h) (hn : n ≤ 7560 := by decide) : Ext a h (mW (mA h c n) a i (mT h + 1)) ∧ mT (mW (mA h c n) a i (mT h + 1)) = mT h + 1 ∧ (mK (mW (mA h c n) a i (mT h + 1)) (mT h + 1) = c ∧ mL (mW (mA h c n) a i (mT h + 1)) (mT h + 1) = n) ∧ ∀ j, mR (mW (mA h c n) a i (mT h + 1)) a j = if j = i then mT h + 1 else mR h a j := by
  refine ⟨⟨by rw [mT_W, mT_A]; omega, fun b q => ⟨?_, ?_⟩, fun b j q nb => ?_, by rw [mS_W, mS_A, mT_W, mT_A]; omega⟩, by rw [mT_W, mT_A], ⟨?_, ?_⟩, fun j => ?_⟩
  · show mK (mA h c n) b = _; rw [mK_A, if_neg (by omega)]
  · show mL (mA h c n) b = _; rw [mL_A, if_neg (by omega)]
  · rw [mR_ne nb, mR_A, if_neg (by omega)]
  · show mK (mA h c n) (mT h + 1) = _; rw [mK_A, if_pos rfl]
  · show mL (mA h c n) (mT h + 1) = _; rw [mL_A, if_pos rfl]
  · rw [mR_mW, mR_A, if_neg (show ¬ a = mT h + 1 by omega)]
    by_cases z : j = i
    · rw [if_pos ⟨rfl, z⟩, if_pos z]
    · rw [if_neg (fun x => z x.2), if_neg z]
/-- a new cell, kept nowhere yet -/
theorem al_new (h : Hp) (a c : Int) (n : Nat) (hn : n ≤ 7560 := by decide) : Ext a h (mA h c n) ∧ mT (mA h c n) = mT h + 1 ∧ (mK (mA h c n) (mT h + 1) = c ∧ mL (mA h c n) (mT h + 1) = n) ∧ ∀ j, mR (mA h c n) (mT h + 1) j = 0 := by
  refine ⟨⟨by rw [mT_A]; omega, fun b q => ⟨by rw [mK_A, if_neg (by omega)], by rw [mL_A, if_neg (by omega)]⟩, fun b j q nb => by rw [mR_A, if_neg (by omega)], by rw [mS_A, mT_A]; omega⟩, mT_A h c n, ⟨by rw [mK_A, if_pos rfl], by rw [mL_A, if_pos rfl]⟩, fun j => by rw [mR_A, if_pos rfl]⟩

theorem s_cinit {h : Hp} {a : Int} (a0 : 0 < a) (ta : mT h = a) (k : mK h a = 1) : ∃ h', C_Ca_init a h = some (0, h') ∧ Ext a h h' ∧ mT h' = a + 7 ∧ CatS h' a := by
  have o := okF_t k
  rw [E_Ca_init, if_pos a0]
  have x0 := al_st h a 3 102 6 (by omega)
  rw [hb_eq, okF_A (show a ≤ mT h by omega), if_pos o, hb_eq]
  generalize mW (mA h 102 6) a 3 (mT h + 1) = h1 at x0 ⊢
  have t1 := x0.2.1
  have o1 : okF h1 a 1 = true := okF_t (by rw [x0.1.k (show a ≤ mT h by omega)]; exact of_decide_eq_true o)
  have x1 := al_st h1 a 4 102 6 (by omega)
  rw [hb_eq, okF_A (show a ≤ mT h1 by omega), if_pos o1, hb_eq]
  generalize mW (mA h1 102 6) a 4 (mT h1 + 1) = h2 at x1 ⊢
  have t2 := x1.2.1
  have o2 : okF h2 a 1 = true := okF_t (by rw [x1.1.k (show a ≤ mT h1 by omega)]; exact of_decide_eq_true o1)
  have x2 := al_st h2 a 5 102 6 (by omega)
  rw [hb_eq, okF_A (show a ≤ mT h2 by omega), if_pos o2, hb_eq]
  generalize mW (mA h2 102 6) a 5 (mT h2 + 1) = h3 at x2 ⊢
  have t3 := x2.2.1
  have o3 : okF h3 a 1 = true := okF_t (by rw [x2.1.k (show a ≤ mT h2 by omega)]; exact of_decide_eq_true o2)
  have x3 := al_st h3 a 6 102 24 (by omega)
  rw [hb_eq, okF_A (show a ≤ mT h3 by omega), if_pos o3, hb_eq]
  generalize mW (mA h3 102 24) a 6 (mT h3 + 1) = h4 at x3 ⊢
  have t4 := x3.2.1
  have o4 : okF h4 a 1 = true := okF_t (by rw [x3.1.k (show a ≤ mT h3 by omega)]; exact of_decide_eq_true o3)
  have x4 := al_st h4 a 7 102 144 (by omega)
  rw [hb_eq, okF_A (show a ≤ mT h4 by omega), if_pos o4, hb_eq]
  generalize mW (mA h4 102 144) a 7 (mT h4 + 1) = h5 at x4 ⊢
  have t5 := x4.2.1
  have o5 : okF h5 a 1 = true := okF_t (by rw [x4.1.k (show a ≤ mT h4 by omega)]; exact of_decide_eq_true o4)
  have x5 := al_st h5 a 8 102 144 (by omega)
  rw [hb_eq, okF_A (show a ≤ mT h5 by omega), if_pos o5, hb_eq]
  generalize mW (mA h5 102 144) a 8 (mT h5 + 1) = h6 at x5 ⊢
  have t6 := x5.2.1
  have o6 : okF h6 a 1 = true := okF_t (by rw [x5.1.k (show a ≤ mT h5 by omega)]; exact of_decide_eq_true o5)
  have x6 := al_st h6 a 9 102 4 (by omega)
  rw [hb_eq, okF_A (show a ≤ mT h6 by omega), if_pos o6, hb_eq]
  generalize mW (mA h6 102 4) a 9 (mT h6 + 1) = h7 at x6 ⊢
  have t7 := x6.2.1
  have o7 : okF h7 a 1 = true := okF_t (by rw [x6.1.k (show a ≤ mT h6 by omega)]; exact of_decide_eq_true o6)
  have e7 := Ext.rf a h7
  have e6 := x6.1.tr e7
  have e5 := x5.1.tr e6
  have e4 := x4.1.tr e5
  have e3 := x3.1.tr e4
  have e2 := x2.1.tr e3
  have e1 := x1.1.tr e2
  have e0 := x0.1.tr e1
  have m0 : mT h + 1 = a + 1 := by omega
  have f0 : mR h7 a 3 = a + 1 := by rw [x6.2.2.2, if_neg (by decide), x5.2.2.2, if_neg (by decide), x4.2.2.2, if_neg (by decide), x3.2.2.2, if_neg (by decide), x2.2.2.2, if_neg (by decide), x1.2.2.2, if_neg (by decide), x0.2.2.2, if_pos rfl, m0]
  have z0 : mK h7 (a + 1) = 102 ∧ mL h7 (a + 1) = 6 := by rw [e1.k (by omega), e1.l (by omega), ← m0]; exact x0.2.2.1
  have m1 : mT h1 + 1 = a + 2 := by omega
  have f1 : mR h7 a 4 = a + 2 := by rw [x6.2.2.2, if_neg (by decide), x5.2.2.2, if_neg (by decide), x4.2.2.2, if_neg (by decide), x3.2.2.2, if_neg (by decide), x2.2.2.2, if_neg (by decide), x1.2.2.2, if_pos rfl, m1]
  have z1 : mK h7 (a + 2) = 102 ∧ mL h7 (a + 2) = 6 := by rw [e2.k (by omega), e2.l (by omega), ← m1]; exact x1.2.2.1
  have m2 : mT h2 + 1 = a + 3 := by omega
  have f2 : mR h7 a 5 = a + 3 := by rw [x6.2.2.2, if_neg (by decide), x5.2.2.2, if_neg (by decide), x4.2.2.2, if_neg (by decide), x3.2.2.2, if_neg (by decide), x2.2.2.2, if_pos rfl, m2]
  have z2 : mK h7 (a + 3) = 102 ∧ mL h7 (a + 3) = 6 := by rw [e3.k (by omega), e3.l (by omega), ← m2]; exact x2.2.2.1
  have m3 : mT h3 + 1 = a + 4 := by omega
  have f3 : mR h7 a 6 = a + 4 := by rw [x6.2.2.2, if_neg (by decide), x5.2.2.2, if_neg (by decide), x4.2.2.2, if_neg (by decide), x3.2.2.2, if_pos rfl, m3]
  have z3 : mK h7 (a + 4) = 102 ∧ mL h7 (a + 4) = 24 := by rw [e4.k (by omega), e4.l (by omega), ← m3]; exact x3.2.2.1
  have m4 : mT h4 + 1 = a + 5 := by omega
  have f4 : mR h7 a 7 = a + 5 := by rw [x6.2.2.2, if_neg (by decide), x5.2.2.2, if_neg (by decide), x4.2.2.2, if_pos rfl, m4]
  have z4 : mK h7 (a + 5) = 102 ∧ mL h7 (a + 5) = 144 := by rw [e5.k (by omega), e5.l (by omega), ← m4]; exact x4.2.2.1
  have m5 : mT h5 + 1 = a + 6 := by omega
  have f5 : mR h7 a 8 = a + 6 := by rw [x6.2.2.2, if_neg (by decide), x5.2.2.2, if_pos rfl, m5]
  have z5 : mK h7 (a + 6) = 102 ∧ mL h7 (a + 6) = 144 := by rw [e6.k (by omega), e6.l (by omega), ← m5]; exact x5.2.2.1
  have m6 : mT h6 + 1 = a + 7 := by omega
  have f6 : mR h7 a 9 = a + 7 := by rw [x6.2.2.2, if_pos rfl, m6]
  have z6 : mK h7 (a + 7) = 102 ∧ mL h7 (a + 7) = 4 := by rw [e7.k (by omega), e7.l (by omega), ← m6]; exact x6.2.2.1
  refine ⟨h7, rfl, e0, by omega, a0, ?_, ⟨f0, f1, f2, f3, f4, f5, f6⟩, z0, z1, z2, z3, z4, z5, z6⟩
  rw [e0.k (by omega)]; exact k
theorem s_hinit {h : Hp} {a : Int} (a0 : 0 < a) (ta : mT h = a) (k : mK h a = 3) : ∃ h', C_Ho_init a h = some (0, h') ∧ Ext a h h' ∧ mT h' = a + 3 ∧ HouS h' a := by
  have o := okF_t k
  rw [E_Ho_init, if_pos a0]
  have x0 := al_st h a 4 102 6 (by omega)
  rw [hb_eq, okF_A (show a ≤ mT h by omega), if_pos o, hb_eq]
  generalize mW (mA h 102 6) a 4 (mT h + 1) = h1 at x0 ⊢
  have t1 := x0.2.1
  have o1 : okF h1 a 3 = true := okF_t (by rw [x0.1.k (show a ≤ mT h by omega)]; exact of_decide_eq_true o)
  have x1 := al_st h1 a 5 102 8 (by omega)
  rw [hb_eq, okF_A (show a ≤ mT h1 by omega), if_pos o1, hb_eq]
  generalize mW (mA h1 102 8) a 5 (mT h1 + 1) = h2 at x1 ⊢
  have t2 := x1.2.1
  have o2 : okF h2 a 3 = true := okF_t (by rw [x1.1.k (show a ≤ mT h1 by omega)]; exact of_decide_eq_true o1)
  have x2 := al_st h2 a 6 102 8 (by omega)
  rw [hb_eq, okF_A (show a ≤ mT h2 by omega), if_pos o2, hb_eq]
  generalize mW (mA h2 102 8) a 6 (mT h2 + 1) = h3 at x2 ⊢
  have t3 := x2.2.1
  have o3 : okF h3 a 3 = true := okF_t (by rw [x2.1.k (show a ≤ mT h2 by omega)]; exact of_decide_eq_true o2)
  have e3 := Ext.rf a h3
  have e2 := x2.1.tr e3
  have e1 := x1.1.tr e2
  have e0 := x0.1.tr e1
  have m0 : mT h + 1 = a + 1 := by omega
  have f0 : mR h3 a 4 = a + 1 := by rw [x2.2.2.2, if_neg (by decide), x1.2.2.2, if_neg (by decide), x0.2.2.2, if_pos rfl, m0]
  have z0 : mK h3 (a + 1) = 102 ∧ mL h3 (a + 1) = 6 := by rw [e1.k (by omega), e1.l (by omega), ← m0]; exact x0.2.2.1
  have m1 : mT h1 + 1 = a + 2 := by omega
  have f1 : mR h3 a 5 = a + 2 := by rw [x2.2.2.2, if_neg (by decide), x1.2.2.2, if_pos rfl, m1]
  have z1 : mK h3 (a + 2) = 102 ∧ mL h3 (a + 2) = 8 := by rw [e2.k (by omega), e2.l (by omega), ← m1]; exact x1.2.2.1
  have m2 : mT h2 + 1 = a + 3 := by omega
  have f2 : mR h3 a 6 = a + 3 := by rw [x2.2.2.2, if_pos rfl, m2]
  have z2 : mK h3 (a + 3) = 102 ∧ mL h3 (a + 3) = 8 := by rw [e3.k (by omega), e3.l (by omega), ← m2]; exact x2.2.2.1
  refine ⟨h3, rfl, e0, by omega, a0, ?_, ⟨f0, f1, f2⟩, z0, z1, z2⟩
  rw [e0.k (by omega)]; exact k
theorem s_kinit {h : Hp} {a : Int} (a0 : 0 < a) (ta : mT h = a) (k : mK h a = 8) : ∃ h', C_Sk_init a h = some (0, h') ∧ Ext a h h' ∧ mT h' = a + 2 ∧ SkyS h' a := by
  have o := okF_t k
  rw [E_Sk_init, if_pos a0]
  have x0 := al_st h a 6 102 6 (by omega)
  rw [hb_eq, okF_A (show a ≤ mT h by omega), if_pos o, hb_eq]
  generalize mW (mA h 102 6) a 6 (mT h + 1) = h1 at x0 ⊢
  have t1 := x0.2.1
  have o1 : okF h1 a 8 = true := okF_t (by rw [x0.1.k (show a ≤ mT h by omega)]; exact of_decide_eq_true o)
  have x1 := al_st h1 a 7 102 6 (by omega)
  rw [hb_eq, okF_A (show a ≤ mT h1 by omega), if_pos o1, hb_eq]
  generalize mW (mA h1 102 6) a 7 (mT h1 + 1) = h2 at x1 ⊢
  have t2 := x1.2.1
  have o2 : okF h2 a 8 = true := okF_t (by rw [x1.1.k (show a ≤ mT h1 by omega)]; exact of_decide_eq_true o1)
  have e2 := Ext.rf a h2
  have e1 := x1.1.tr e2
  have e0 := x0.1.tr e1
  have m0 : mT h + 1 = a + 1 := by omega
  have f0 : mR h2 a 6 = a + 1 := by rw [x1.2.2.2, if_neg (by decide), x0.2.2.2, if_pos rfl, m0]
  have z0 : mK h2 (a + 1) = 102 ∧ mL h2 (a + 1) = 6 := by rw [e1.k (by omega), e1.l (by omega), ← m0]; exact x0.2.2.1
  have m1 : mT h1 + 1 = a + 2 := by omega
  have f1 : mR h2 a 7 = a + 2 := by rw [x1.2.2.2, if_pos rfl, m1]
  have z1 : mK h2 (a + 2) = 102 ∧ mL h2 (a + 2) = 6 := by rw [e2.k (by omega), e2.l (by omega), ← m1]; exact x1.2.2.1
  refine ⟨h2, rfl, e0, by omega, a0, ?_, ⟨f0, f1⟩, z0, z1⟩
  rw [e0.k (by omega)]; exact k
