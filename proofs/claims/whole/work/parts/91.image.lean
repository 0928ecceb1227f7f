/-! Images. -/
theorem SurS.ext {h h' : Hp} {a : Int} (w : SurS h) (e : Ext a h h') (q : 133 ≤ mT h) (n : a ≠ 99) : SurS h' := by
  unfold SurS at w ⊢
  simp (disch := omega) only [e.k, e.l, e.r]
  exact w
theorem ModS.ext {h h' : Hp} {a : Int} (w : ModS h) (e : Ext a h h') (q : 133 ≤ mT h) (n : a ≠ 124) : ModS h' := by
  unfold ModS at w ⊢
  simp (disch := omega) only [e.k, e.l, e.r]
  exact w
theorem LSh.ext {h h' : Hp} {a : Int} (w : LSh h) (e : Ext a h h') (q : 133 ≤ mT h) (n : a = 81 ∨ 133 < a) : LSh h' := by
  unfold LSh at w ⊢
  obtain ⟨w1, w2, w3, w4, w5, w6, w7⟩ := w
  refine ⟨?_, ?_, w3.ext e (by omega) (by omega), w4.ext e (by omega) (by omega), w5.ext e (by omega) (by omega), w6.ext e q (by omega), ?_⟩
  · rw [e.k (by omega)]; exact w1
  · simp (disch := omega) only [e.r]
    exact w2
  · simp (disch := omega) only [e.k, e.l, e.r]
    exact w7
theorem TSh.ext {h h' : Hp} {A a : Int} (w : TSh h A) (e : Ext a h h') (q : A + 78 ≤ mT h) (n : a < A ∨ A + 78 < a) : TSh h' A := by
  unfold TSh at w ⊢
  obtain ⟨w1, w2, w3, w4, w5, w6, w7, w8, w9, w10, w11, w12⟩ := w
  refine ⟨w1, ?_, ?_, ?_, ?_, ?_, ?_, ?_, fun x x0 x1 => ?_, fun x x0 x1 => ?_, fun x x0 x1 => ?_, fun x x0 x1 => ?_⟩
  · rw [e.k (by omega)]; exact w2
  · simp (disch := omega) only [e.r]; exact w3
  · rw [e.k (by omega), e.l (by omega)]; exact w4
  · rw [e.k (by omega), e.l (by omega)]; exact w5
  · rw [e.k (by omega), e.l (by omega)]; exact w6
  · rw [e.k (by omega), e.l (by omega)]; exact w7
  · rw [e.k (by omega), e.l (by omega)]; exact w8
  · rw [e.r (by omega) (by omega)]
    exact ⟨(w9 x x0 x1).1, (w9 x x0 x1).2.ext e (by omega) (by omega)⟩
  · rw [e.r (by omega) (by omega)]
    exact ⟨(w10 x x0 x1).1, (w10 x x0 x1).2.ext e (by omega) (by omega)⟩
  · rw [e.r (by omega) (by omega)]
    exact ⟨(w11 x x0 x1).1, (w11 x x0 x1).2.ext e (by omega) (by omega)⟩
  · rw [e.r (by omega) (by omega), e.k (by omega)]
    exact w12 x x0 x1
theorem TCo.ext {h h' : Hp} {A a : Int} {T : Int → Int} (w : TCo h A T) (e : Ext a h h') (q : A + 78 ≤ mT h) (n : a < A ∨ A + 78 < a) : TCo h' A T := by
  unfold TCo at w ⊢
  have r : ∀ b i, A ≤ b → b ≤ A + 78 → mR h' b i = mR h b i := fun b i b0 b1 => e.r (by omega) (by omega)
  rw [r A 1 (by omega) (by omega), r A 2 (by omega) (by omega), r A 3 (by omega) (by omega), r A 4 (by omega) (by omega), r A 5 (by omega) (by omega), r A 6 (by omega) (by omega), r A 7 (by omega) (by omega)]
  obtain ⟨w1, w2, w3, w4, w5, w6, w7, w8, w9, w10, w11, w12⟩ := w
  refine ⟨w1, w2, w3, w4, w5, w6, fun i i0 i1 => ?_, fun x x0 x1 => ?_, fun x x0 x1 => ?_, fun x x0 x1 => ?_, fun x j x0 x1 j0 j1 => ?_, w12⟩
  · rw [r (A + 1) i (by omega) (by omega)]; exact w7 i i0 i1
  · obtain ⟨⟨c1, c2, c3, c4, c5, c6, c7⟩, d2, d3, d4, d5, d6⟩ := w8 x x0 x1
    refine ⟨⟨c1.ext e (by omega) (by omega), c2, ?_, ?_, fun y y0 y1 => ?_, fun y y0 y1 => ?_, fun t y t0 t1 y0 y1 => ?_⟩, d2, ?_, d4, fun y y0 y1 => ?_, fun y y0 y1 => ?_⟩
    · rw [r _ 0 (by omega) (by omega)]; exact c3
    · rw [r _ 1 (by omega) (by omega)]; exact c4
    · rw [r _ y (by omega) (by omega), r _ y (by omega) (by omega), r _ y (by omega) (by omega)]; exact c5 y y0 y1
    · rw [r _ y (by omega) (by omega)]; exact c6 y y0 y1
    · rw [r _ (t * 6 + y) (by omega) (by omega), r _ (t * 6 + y) (by omega) (by omega)]; exact c7 t y t0 t1 y0 y1
    · rw [r _ 2 (by omega) (by omega)]; exact d3
    · rw [r _ y (by omega) (by omega)]; exact d5 y y0 y1
    · rw [r _ y (by omega) (by omega)]; exact d6 y y0 y1
  · obtain ⟨⟨c1, c2, c3, c4, c5, c6, c7, c8⟩, d2⟩ := w9 x x0 x1
    refine ⟨⟨c1.ext e (by omega) (by omega), c2, ?_, ?_, ?_, ?_, fun y y0 y1 => ?_, fun y y0 y1 => ?_⟩, d2⟩
    · rw [r _ 0 (by omega) (by omega)]; exact c3
    · rw [r _ 1 (by omega) (by omega)]; exact c4
    · rw [r _ 2 (by omega) (by omega)]; exact c5
    · rw [r _ 3 (by omega) (by omega)]; exact c6
    · rw [r _ y (by omega) (by omega)]; exact c7 y y0 y1
    · rw [r _ y (by omega) (by omega), r _ y (by omega) (by omega)]; exact c8 y y0 y1
  · obtain ⟨c1, c2, c3, c4⟩ := w10 x x0 x1
    refine ⟨c1.ext e (by omega) (by omega), fun y y0 y1 => ?_, c3, fun y y0 y1 => ?_⟩
    · rw [r _ y (by omega) (by omega)]; exact c2 y y0 y1
    · rw [r _ y (by omega) (by omega), r _ y (by omega) (by omega)]; exact c4 y y0 y1
  · rw [r (A + 63 + x) j (by omega) (by omega)]; exact w11 x j x0 x1 j0 j1
/-- an image: the class's half, the reference's half -/
def CIm (h : Hp) (k : Int) (W : Int → Int) : Prop := (134 ≤ mR h 81 k ∧ mR h 81 k + 78 ≤ mT h) ∧ TSh h (mR h 81 k) ∧ TCo h (mR h 81 k) W
def MIm (h : Hp) (k : Int) (W : Int → Int) : Prop := mR h 126 k = 1 ∧ ∀ i, 0 ≤ i → i < 1800 → mR h 125 (1800 * (k + 1) + i) = W i
def Apt (h : Hp) : Prop := ∀ k j, 0 ≤ k → k < 3 → 0 ≤ j → j < 3 → k ≠ j → mR h 81 k ≠ 0 → mR h 81 j ≠ 0 → mR h 81 k + 78 < mR h 81 j ∨ mR h 81 j + 78 < mR h 81 k
/-- how many images there are not yet; how much memory is used -/
def nz (h : Hp) : Int := (if mR h 81 0 = 0 then 1 else 0) + (if mR h 81 1 = 0 then 1 else 0) + (if mR h 81 2 = 0 then 1 else 0)
def Cap (h : Hp) : Prop := mT h + 79 * nz h ≤ 370 ∧ mS h ≤ 7560 * mT h
theorem SK.s {h h' : Hp} (w : SK h h') : mS h' = mS h := by unfold mS; rw [w.1]
def Ims (h : Hp) : Prop := (133 ≤ mT h ∧ Cap h) ∧ Apt h ∧ ∀ k, 0 ≤ k → k < 3 → (mR h 81 k = 0 ∧ mR h 126 k = 0) ∨ ∃ W, CIm h k W ∧ MIm h k W
theorem SK.t {h h' : Hp} (w : SK h h') : mT h' = mT h := by unfold mT; rw [w.1]
theorem CIm.of {h h' : Hp} {k : Int} {W : Int → Int} (w : CIm h k W) (s : SK h h') (e : mR h' 81 k = mR h 81 k) (r : ∀ b i, mR h 81 k ≤ b → b ≤ mR h 81 k + 78 → mR h' b i = mR h b i) : CIm h' k W := by
  obtain ⟨w1, w2, w3⟩ := w
  unfold CIm
  rw [e, s.t]
  exact ⟨w1, w2.of s r, w3.of s r⟩
theorem MIm.of {h h' : Hp} {k : Int} {W : Int → Int} (w : MIm h k W) (e : mR h' 126 k = mR h 126 k) (r : ∀ i, 0 ≤ i → i < 1800 → mR h' 125 (1800 * (k + 1) + i) = mR h 125 (1800 * (k + 1) + i)) : MIm h' k W := by
  unfold MIm
  rw [e]
  exact ⟨w.1, fun i i0 i1 => by rw [r i i0 i1]; exact w.2 i i0 i1⟩
theorem Cap.of {h h' : Hp} (c : Cap h) (s : SK h h') (e : ∀ k, mR h' 81 k = mR h 81 k) : Cap h' := by
  unfold Cap nz at c ⊢
  rw [s.t, s.s, e, e, e]
  exact c
theorem Cap.b {h : Hp} (c : Cap h) : mT h ≤ 370 ∧ mS h ≤ 2797200 := by
  have n : 0 ≤ nz h := by
    unfold nz
    split <;> split <;> split <;> decide
  have := c.1
  have := c.2
  omega
theorem Cap.add {h h' : Hp} {k : Int} (c : Cap h) (k0 : 0 ≤ k) (k1 : k < 3) (z : mR h 81 k = 0) (n : mR h' 81 k ≠ 0) (o : ∀ x, x ≠ k → mR h' 81 x = mR h 81 x) (t : mT h' = mT h + 79) (s : mS h' ≤ mS h + 7560 * (mT h' - mT h)) : Cap h' := by
  have e : nz h' = nz h - 1 := by
    have : k = 0 ∨ k = 1 ∨ k = 2 := by omega
    unfold nz
    rcases this with y | y | y
    · rw [y] at z n o; rw [o 1 (by decide), o 2 (by decide), if_neg n, if_pos z]; omega
    · rw [y] at z n o; rw [o 0 (by decide), o 2 (by decide), if_neg n, if_pos z]; omega
    · rw [y] at z n o; rw [o 0 (by decide), o 1 (by decide), if_neg n, if_pos z]; omega
  have := c.1
  have := c.2
  exact ⟨by omega, by omega⟩
def pI (b i : Int) : Prop := (2 ≤ b ∧ b ≤ 133) ∧ b ≠ 81 ∧ b ≠ 126 ∧ ¬ (b = 125 ∧ 1800 ≤ i ∧ i < 7200)
theorem pZ_I (b i : Int) (q : pZ b i) : pI b i := by unfold pZ at q; unfold pI; omega
theorem pC_I (b i : Int) (q : pC b i) : pI b i := by unfold pC at q; unfold pI; omega
theorem pD_I (b i : Int) (q : pD b i) : pI b i := by unfold pD at q; unfold pI; omega
theorem Ims.of {h h' : Hp} (w : Ims h) (f : Fr pI h h') : Ims h' := by
  have e : ∀ k, mR h' 81 k = mR h 81 k := fun k => f.2 81 k (by unfold pI; omega)
  obtain ⟨w1, w2, w3⟩ := w
  refine ⟨⟨by rw [f.1.t]; exact w1.1, w1.2.of f.1 e⟩, fun k j k0 k1 j0 j1 n => by rw [e k, e j]; exact w2 k j k0 k1 j0 j1 n, fun k k0 k1 => ?_⟩
  rcases w3 k k0 k1 with z | ⟨W, z1, z2⟩
  · exact Or.inl ⟨by rw [e k]; exact z.1, by rw [f.2 126 k (by unfold pI; omega)]; exact z.2⟩
  · exact Or.inr ⟨W, z1.of f.1 (e k) (fun b i b0 b1 => f.2 b i (by have := z1.1; unfold pI; omega)), z2.of (f.2 126 k (by unfold pI; omega)) (fun i i0 i1 => f.2 125 _ (by unfold pI; omega))⟩
/-- what the script sees of a step -/
def Kp (h h' : Hp) : Prop := (∀ b, b ≤ 0 → mK h' b = mK h b ∧ mL h' b = mL h b ∧ ∀ i, mR h' b i = mR h b i) ∧ mK h' 1 = mK h 1 ∧ mK h' 124 = mK h 124
theorem Kp.tr {a b c : Hp} (e : Kp a b) (f : Kp b c) : Kp a c := ⟨fun x q => ⟨(f.1 x q).1.trans (e.1 x q).1, (f.1 x q).2.1.trans (e.1 x q).2.1, fun i => ((f.1 x q).2.2 i).trans ((e.1 x q).2.2 i)⟩, f.2.1.trans e.2.1, f.2.2.trans e.2.2⟩
theorem Kp.rf (h : Hp) : Kp h h := ⟨fun _ _ => ⟨rfl, rfl, fun _ => rfl⟩, rfl, rfl⟩
theorem Fr.kp {p : Int → Int → Prop} {h h' : Hp} (f : Fr p h h') (n : ∀ b i, b ≤ 0 → ¬ p b i) : Kp h h' := ⟨fun b q => ⟨f.1.k b, f.1.l b, fun i => f.2 b i (n b i q)⟩, f.1.k 1, f.1.k 124⟩
theorem Fr.kI {h h' : Hp} (f : Fr pI h h') : Kp h h' := f.kp (fun b i q => by unfold pI; omega)
theorem Ext.kp {a : Int} {h h' : Hp} (e : Ext a h h') (q : 133 ≤ mT h) (n : 0 < a) : Kp h h' := ⟨fun b p => ⟨e.k (by omega), e.l (by omega), fun i => e.r (by omega) (by omega)⟩, e.k (by omega), e.k (by omega)⟩
theorem LSh.lo2 {h h' : Hp} (w : LSh h) (f : SK h h') (r : ∀ b i, b ≤ 124 → mR h' b i = mR h b i) : LSh h' := by
  unfold LSh at w ⊢
  simp only [f.k, f.l]
  obtain ⟨w1, w2, w3, w4, w5, w6, w7⟩ := w
  refine ⟨w1, ?_, w3.of f (fun i _ _ => r _ i (by omega)), w4.of f (fun i _ _ => r _ i (by omega)), w5.of f (fun i _ _ => r _ i (by omega)), w6.of f (fun i _ _ => r _ i (by omega)), ?_⟩
  · simp (disch := omega) only [r]; exact w2
  · simp (disch := omega) only [r]; exact w7
def Oth (h : Hp) (k : Int) : Prop := ∀ j, 0 ≤ j → j < 3 → j ≠ k → (mR h 81 j = 0 ∧ mR h 126 j = 0) ∨ ∃ W, CIm h j W ∧ MIm h j W
theorem im_copy {h : Hp} {T : Int → Int} (w : Inv h T) {k : Int} (k0 : 0 ≤ k) (k1 : k < 3) (m1 : 133 ≤ mT h ∧ Cap h) (ap : Apt h) (a : 134 ≤ mR h 81 k ∧ mR h 81 k + 78 ≤ mT h) (s : TSh h (mR h 81 k)) (oth : Oth h k) : ∃ h', C_To_copy (mR h 81 k) 2 h = some (0, h') ∧ Inv h' T ∧ Kp h h' ∧ (133 ≤ mT h' ∧ Cap h') ∧ Apt h' ∧ CIm h' k T ∧ Oth h' k := by
  obtain ⟨h3, g3, f3, c3⟩ := s_tcopy (A := mR h 81 k) (B := 2) ⟨s, w.2.1, w.2.2.1, by omega, by omega⟩
  have r : ∀ b i, ¬ (mR h 81 k ≤ b ∧ b ≤ mR h 81 k + 78) → mR h3 b i = mR h b i := fun b i q => f3.2 b i (fun x => q (pTo_r x))
  have e : ∀ j, mR h3 81 j = mR h 81 j := fun j => r 81 j (by omega)
  refine ⟨h3, g3, ⟨w.1.lo2 f3.1 (fun b i q => r b i (by omega)), w.2.1.of f3.1 (fun b i _ _ => r b i (by omega)), w.2.2.1.of f3.1 (fun b i _ _ => r b i (by omega)), w.2.2.2.1.of f3.1 (fun i _ => r 124 i (by omega)), fun i i0 i1 => ?_⟩, ?_, ⟨by rw [f3.1.t]; exact m1.1, m1.2.of f3.1 e⟩, fun x j x0 x1 j0 j1 n => by rw [e x, e j]; exact ap x j x0 x1 j0 j1 n, ?_, fun j j0 j1 n => ?_⟩
  · rw [r 125 i (by omega)]; exact w.2.2.2.2 i i0 i1
  · exact f3.kp (fun b i q x => by have := pTo_r x; omega)
  · unfold CIm
    rw [e k, f3.1.t]
    exact ⟨a, s.t f3, c3⟩
  · rcases oth j j0 j1 n with z | ⟨W, z1, z2⟩
    · exact Or.inl ⟨by rw [e j]; exact z.1, by rw [r 126 j (by omega)]; exact z.2⟩
    · have d := ap k j k0 k1 j0 j1 (fun x => n x.symm) (by omega) (by have := z1.1; omega)
      exact Or.inr ⟨W, z1.of f3.1 (e j) (fun b i b0 b1 => r b i (by omega)), z2.of (r 126 j (by omega)) (fun i i0 i1 => r 125 _ (by omega))⟩
/-- the image's class half -/
theorem q_image {h : Hp} {T : Int → Int} (w : Inv h T) (m : Ims h) {k : Int} (k0 : 0 ≤ k) (k1 : k < 3) : ∃ h', C_LS_image 1 k h = some (1, h') ∧ Inv h' T ∧ Kp h h' ∧ (133 ≤ mT h' ∧ Cap h') ∧ Apt h' ∧ CIm h' k T ∧ Oth h' k := by
  obtain ⟨⟨m1, mc⟩, m2, m3⟩ := m
  have o1 := iv1 w
  have i1 : mR h 1 1 = 81 := w.1.2.1.2.1
  have i0 : mR h 1 0 = 2 := w.1.2.1.1
  have l81 : mK h 81 = 115 ∧ mL h 81 = 3 := w.1.2.2.2.2.2.2.2.2.2.2.2.2.1
  have r81 := okR_t l81 (by omega) (by omega) (by omega) k0 k1
  rw [E_LS_image, if_neg (by omega), if_pos k1, if_pos o1, i1, if_pos r81]
  rcases m3 k k0 k1 with z | ⟨W, z1, z2⟩
  · have x0 := al_new h 81 10 12
    have oo : okF (mA h 10 12) (mT h + 1) 10 = true := okF_t x0.2.2.1.1
    obtain ⟨h1, g1, e1, t1, s1, u1⟩ := s_tinit (A := mT h + 1) (by omega) x0.2.1 x0.2.2.1.1 x0.2.2.2
    have ae : mK h1 81 = 115 ∧ mL h1 81 = 3 := by rw [e1.k (by rw [x0.2.1]; omega), e1.l (by rw [x0.2.1]; omega), x0.1.k (by omega), x0.1.l (by omega)]; exact l81
    have kv : mK h1 (mT h + 1) = ecK 115 := s1.2.1
    have e2 : Ext 81 h (mW h1 81 k (mT h + 1)) := x0.1.put e1 (by omega)
    have s2 : TSh (mW h1 81 k (mT h + 1)) (mT h + 1) := s1.of (SK.W h1 _ _ _) (fun b i b0 b1 => mR_ne (by omega))
    have p2 : mR (mW h1 81 k (mT h + 1)) 81 k = mT h + 1 := mR_same _ _ _ _
    have n2 : ∀ x, x ≠ k → mR (mW h1 81 k (mT h + 1)) 81 x = mR h 81 x := fun x q => by rw [mR_ni q, e1.r (by rw [x0.2.1]; omega) (by omega), mR_A, if_neg (by omega)]
    have t2 : mT (mW h1 81 k (mT h + 1)) = mT h + 1 + 78 := by rw [mT_W]; omega
    rw [if_neg (by omega), if_pos z.1, if_pos o1, hb_eq, if_pos oo, g1, bind_some', if_pos (okQ_t ae (by omega) (by omega) (by omega) k0 k1 kv (by omega)), hb_eq]
    generalize mW h1 81 k (mT h + 1) = h2 at e2 s2 p2 n2 t2 ⊢
    have w2 : Inv h2 T := ⟨w.1.ext e2 m1 (Or.inl rfl), w.2.1.ext e2 (by omega) (by omega), w.2.2.1.ext e2 (by omega) (by omega), w.2.2.2.1.ext e2 m1 (by omega), fun i i0 i1 => by rw [e2.r (by omega) (by omega)]; exact w.2.2.2.2 i i0 i1⟩
    have lim : ∀ j, 0 ≤ j → j < 3 → mR h 81 j ≠ 0 → mR h 81 j + 78 ≤ mT h := fun j j0 j1 n => by
      rcases m3 j j0 j1 with y | ⟨W, y1, _⟩
      · exact absurd y.1 n
      · exact y1.1.2
    have ap2 : Apt h2 := fun x j x0 x1 j0 j1 n => by
      by_cases y : x = k
      · rw [y, p2, n2 j (by omega)]
        intro _ q
        have := lim j j0 j1 q
        omega
      · rw [n2 x y]
        by_cases y2 : j = k
        · rw [y2, p2]
          intro q _
          have := lim x x0 x1 q
          omega
        · rw [n2 j y2]
          exact m2 x j x0 x1 j0 j1 n
    have ot2 : Oth h2 k := fun j j0 j1 n => by
      rcases m3 j j0 j1 with y | ⟨W, y1, y2⟩
      · exact Or.inl ⟨by rw [n2 j n]; exact y.1, by rw [e2.r (by omega) (by omega)]; exact y.2⟩
      · refine Or.inr ⟨W, ?_, y2.of (e2.r (by omega) (by omega)) (fun i i0 i1 => e2.r (by omega) (by omega))⟩
        have b := y1.1
        unfold CIm
        rw [n2 j n, t2]
        exact ⟨by omega, y1.2.1.ext e2 (by omega) (by omega), y1.2.2.ext e2 (by omega) (by omega)⟩
    rw [← p2] at s2
    obtain ⟨h3, g3, w3, kp3, m3', ap3, c3, ot3⟩ := im_copy w2 k0 k1 ⟨by omega, mc.add k0 k1 z.1 (by omega) n2 (by omega) e2.2.2.2⟩ ap2 (by omega) s2 ot2
    refine ⟨h3, ?_, w3, (e2.kp m1 (by omega)).tr kp3, m3', ap3, c3, ot3⟩
    have j1 : mR h2 1 1 = 81 := w2.1.2.1.2.1
    have j0 : mR h2 1 0 = 2 := w2.1.2.1.1
    have r2 := okR_t (h := h2) w2.1.2.2.2.2.2.2.2.2.2.2.2.2.1 (by omega) (by omega) (by omega) k0 k1
    rw [if_pos (iv1 w2), j1, if_pos r2, if_pos (iv1 w2), j0, if_pos (okF_t s2.2.1), g3, bind_some']
  · obtain ⟨h3, g3, w3, kp3, m3', ap3, c3, ot3⟩ := im_copy w k0 k1 ⟨m1, mc⟩ m2 z1.1 z1.2.1 (fun j j0 j1 _ => m3 j j0 j1)
    have b := z1.1
    refine ⟨h3, ?_, w3, kp3, m3', ap3, c3, ot3⟩
    rw [if_neg (by omega), if_neg (show ¬ mR h 81 k = 0 by omega), if_pos o1, if_pos r81, if_pos o1, i0, if_pos (okF_t z1.2.1.2.1), g3, bind_some']
/-- the reference's half -/
theorem l_mimg {T : Int → Int} {k : Int} (k0 : 0 ≤ k) (k1 : k < 3) : ∀ (n : Nat) (i : Int) (h : Hp), Inv h T → 0 ≤ i → i + n = 1800 → (∀ x, 0 ≤ x → x < i → mR h 125 (1800 * (k + 1) + x) = T x) → ∃ h', P_Mo_image_20 124 k i h = some (1, h') ∧ Fr (fun b x => b = 125 ∧ 1800 * (k + 1) ≤ x ∧ x < 1800 * (k + 1) + 1800) h h' ∧ (∀ x, 0 ≤ x → x < 1800 → mR h' 125 (1800 * (k + 1) + x) = T x) := by
  intro n
  induction n with
  | zero =>
    intro i h w i0 hi d
    exact ⟨h, by rw [E_Mo_image_20, if_neg (by omega)], Fr.rf _ h, fun x x0 x1 => d x x0 (by omega)⟩
  | succ n ih =>
    intro i h w i0 hi d
    have w' := w.m
    have f1 : Fr (fun b x => b = 125 ∧ 1800 * (k + 1) ≤ x ∧ x < 1800 * (k + 1) + 1800) h (mW h 125 (1800 * (k + 1) + i) (T i)) := Fr.W h _ ⟨rfl, by omega, by omega⟩
    have w1 : Inv (mW h 125 (1800 * (k + 1) + i) (T i)) T := ⟨w.1.lo2 f1.1 (fun b x q => f1.2 b x (by omega)), w.2.1.of f1.1 (fun b x _ _ => f1.2 b x (by omega)), w.2.2.1.of f1.1 (fun b x _ _ => f1.2 b x (by omega)), w.2.2.2.1.of f1.1 (fun x _ => f1.2 124 x (by omega)), fun x x0 x1 => by rw [f1.2 125 x (by omega)]; exact w.2.2.2.2 x x0 x1⟩
    obtain ⟨h2, g2, f2, d2⟩ := ih (i + 1) _ w1 (by omega) (by omega) (fun x x0 x1 => by
      by_cases z : x = i
      · rw [z, mR_same]
      · rw [mR_ni (by omega)]; exact d x x0 (by omega))
    refine ⟨h2, ?_, f1.tr f2, d2⟩
    rw [E_Mo_image_20, if_pos (show i < 1800 by omega), if_pos (miO w'), if_pos (miO w'), mi0 w', if_pos (miA w' i0 (by omega)), w32_id (x := k + 1) (by omega) (by omega), w32_id (x := 1800 * (k + 1)) (by omega) (by omega), w32_id (x := 1800 * (k + 1) + i) (by omega) (by omega), if_pos (miS w' (by omega) (by omega)), hb_eq, w'.2 i i0 (by omega), w32_id (x := i + 1) (by omega) (by omega)]
    exact g2
theorem b_image {h : Hp} {T : Int → Int} (w : Inv h T) (m : Ims h) (k : Int) : ∃ a h1 h2, C_LS_image 1 k h = some (a, h1) ∧ C_Mo_image 124 k h1 = some (a, h2) ∧ Inv h2 T ∧ Ims h2 ∧ Kp h h1 ∧ Kp h1 h2 := by
  by_cases q : 0 ≤ k ∧ k < 3
  · obtain ⟨h1, g1, w1, kp1, m1, ap1, c1, ot1⟩ := q_image w m q.1 q.2
    have w1' := w1.m
    have o126 : mK h1 126 = 104 ∧ mL h1 126 = 3 := w1.2.2.2.1.2.2.2.1
    have f1 : Fr (fun b x => b = 126 ∧ x = k) h1 (mW h1 126 k 1) := Fr.W h1 _ ⟨rfl, rfl⟩
    have w2 : Inv (mW h1 126 k 1) T := ⟨w1.1.lo2 f1.1 (fun b x q => f1.2 b x (by omega)), w1.2.1.of f1.1 (fun b x _ _ => f1.2 b x (by omega)), w1.2.2.1.of f1.1 (fun b x _ _ => f1.2 b x (by omega)), w1.2.2.2.1.of f1.1 (fun x _ => f1.2 124 x (by omega)), fun x x0 x1 => by rw [f1.2 125 x (by omega)]; exact w1.2.2.2.2 x x0 x1⟩
    have s2 : mR (mW h1 126 k 1) 126 k = 1 := mR_same _ _ _ _
    have gE : C_Mo_image 124 k h1 = P_Mo_image_20 124 k 0 (mW h1 126 k 1) := by
      rw [E_Mo_image, m_isIn, bind_some', bI_t (by omega), if_neg n10, if_pos (ivM w1), w1.2.2.2.1.2.1.2.1, if_neg (show ¬ okS h1 126 101 k = true from fun x => by
        have y := (of_decide_eq_true x).1
        rw [o126.1] at y
        omega), if_pos ⟨okS_t o126 (by omega) q.1 q.2, Or.inr rfl⟩, hb_eq]
    generalize mW h1 126 k 1 = hq at f1 w2 s2 gE
    obtain ⟨h2, g2, f2, d2⟩ := l_mimg q.1 q.2 1800 0 hq w2 (by omega) (by omega) (fun x x0 x1 => by omega)
    have w3 : Inv h2 T := ⟨w2.1.lo2 f2.1 (fun b x q => f2.2 b x (by omega)), w2.2.1.of f2.1 (fun b x _ _ => f2.2 b x (by omega)), w2.2.2.1.of f2.1 (fun b x _ _ => f2.2 b x (by omega)), w2.2.2.2.1.of f2.1 (fun x _ => f2.2 124 x (by omega)), fun x x0 x1 => by rw [f2.2 125 x (by omega)]; exact w2.2.2.2.2 x x0 x1⟩
    have sk : SK h1 h2 := f1.1.tr f2.1
    have r : ∀ b i, ¬ (b = 126 ∧ i = k) → ¬ (b = 125 ∧ 1800 * (k + 1) ≤ i ∧ i < 1800 * (k + 1) + 1800) → mR h2 b i = mR h1 b i := fun b i p1 p2 => by rw [f2.2 b i p2, f1.2 b i p1]
    have e : ∀ j, mR h2 81 j = mR h1 81 j := fun j => r 81 j (by omega) (by omega)
    refine ⟨1, h1, h2, g1, gE.trans g2, w3, ⟨⟨by rw [sk.t]; exact m1.1, m1.2.of sk e⟩, fun x j x0 x1 j0 j1 n => by rw [e x, e j]; exact ap1 x j x0 x1 j0 j1 n, fun j j0 j1 => ?_⟩, kp1, (f1.kp (fun b i q x => by omega)).tr (f2.kp (fun b i q x => by omega))⟩
    by_cases z : j = k
    · rw [z]
      refine Or.inr ⟨T, c1.of sk (e k) (fun b i b0 b1 => r b i (by have := c1.1; omega) (by have := c1.1; omega)), ?_, d2⟩
      rw [f2.2 126 k (by omega)]
      exact s2
    · rcases ot1 j j0 j1 z with y | ⟨W, y1, y2⟩
      · exact Or.inl ⟨by rw [e j]; exact y.1, by rw [r 126 j (by omega) (by omega)]; exact y.2⟩
      · exact Or.inr ⟨W, y1.of sk (e j) (fun b i b0 b1 => r b i (by have := y1.1; omega) (by have := y1.1; omega)), y2.of (r 126 j (by omega) (by omega)) (fun i i0 i1 => r 125 _ (by omega) (by omega))⟩
  · refine ⟨0, h, h, ?_, ?_, w, m, Kp.rf h, Kp.rf h⟩
    · rw [E_LS_image]
      by_cases z : k < 0
      · rw [if_pos z]
      · rw [if_neg z, if_neg (by omega)]
    · rw [E_Mo_image, m_isIn, bind_some', bI_f (by omega), if_pos rfl]
