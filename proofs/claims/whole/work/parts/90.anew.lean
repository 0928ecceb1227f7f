/-! What is told, made anew. -/
theorem okQ_t {h : Hp} {a i v n k : Int} (hk : mK h a = k ∧ mL h a = n) (k1 : 111 ≤ k) (k2 : k ≤ 115) (ha : 0 < a) (h0 : 0 ≤ i) (h1 : i < n) (kv : mK h v = ecK k) (v0 : 0 < v) : okQ h a i v = true := decide_eq_true ⟨by rw [hk.1]; exact k1, by rw [hk.1]; exact k2, h0, by rw [hk.2]; exact h1, ha, by rw [hk.1]; exact kv, v0⟩
theorem CatS.ext {h h' : Hp} {c a : Int} (w : CatS h c) (e : Ext a h h') (q : c + 7 ≤ mT h) (n : c ≠ a) : CatS h' c := by
  unfold CatS at w ⊢
  simp (disch := omega) only [e.k, e.l, e.r]
  exact w
theorem HouS.ext {h h' : Hp} {c a : Int} (w : HouS h c) (e : Ext a h h') (q : c + 3 ≤ mT h) (n : c ≠ a) : HouS h' c := by
  unfold HouS at w ⊢
  simp (disch := omega) only [e.k, e.l, e.r]
  exact w
theorem SkyS.ext {h h' : Hp} {c a : Int} (w : SkyS h c) (e : Ext a h h') (q : c + 2 ≤ mT h) (n : c ≠ a) : SkyS h' c := by
  unfold SkyS at w ⊢
  simp (disch := omega) only [e.k, e.l, e.r]
  exact w
def SayS (h : Hp) (c : Int) : Prop := mK h c = 7
theorem SayS.ext {h h' : Hp} {c a : Int} (w : SayS h c) (e : Ext a h h') (q : c + 0 ≤ mT h) (_ : c ≠ a) : SayS h' c := by
  unfold SayS at w ⊢
  rw [e.k (by omega)]
  exact w
theorem s_yinit {h : Hp} {a : Int} (a0 : 0 < a) (ta : mT h = a) (k : mK h a = 7) : ∃ h', C_Sa_init a h = some (0, h') ∧ Ext a h h' ∧ mT h' = a + 0 ∧ SayS h' a := ⟨h, by rw [E_Sa_init, if_pos a0], Ext.rf a h, by omega, k⟩
def TIn (h : Hp) (A : Int) : Prop := 0 < A ∧ mK h A = 10 ∧ (mR h A 0 = A + 1 ∧ mR h A 8 = A + 2 ∧ mR h A 9 = A + 3 ∧ mR h A 10 = A + 4 ∧ mR h A 11 = A + 5) ∧ (mK h (A + 1) = 101 ∧ mL h (A + 1) = 500) ∧ (mK h (A + 2) = 111 ∧ mL h (A + 2) = 3) ∧ (mK h (A + 3) = 112 ∧ mL h (A + 3) = 6) ∧ (mK h (A + 4) = 113 ∧ mL h (A + 4) = 3) ∧ (mK h (A + 5) = 114 ∧ mL h (A + 5) = 16)
theorem TIn.ext {h h' : Hp} {A a : Int} (w : TIn h A) (e : Ext a h h') (q : A + 5 ≤ mT h) (n : A ≠ a) : TIn h' A := by
  unfold TIn at w ⊢
  simp (disch := omega) only [e.k, e.l, e.r]
  exact w
/-- a new thing, made and kept in a row -/
theorem Ext.put {a c i v : Int} {h h1 h2 : Hp} (e : Ext a h h1) (f : Ext c h1 h2) (q : mT h < c) : Ext a h (mW h2 a i v) := ⟨by rw [mT_W]; exact Int.le_trans e.1 f.1, fun b p => ⟨(f.k (Int.le_trans p e.1)).trans (e.k p), (f.l (Int.le_trans p e.1)).trans (e.l p)⟩, fun b j p n => by rw [mR_ne n, f.r (Int.le_trans p e.1) (by omega), e.r p n], by have := e.2.2.2; have := f.2.2.2; rw [mS_W, mT_W]; omega⟩

theorem l_ti54 {A : Int} : ∀ (n : Nat) (k : Int) (h : Hp), TIn h A → mT h = A + 5 + 8 * k → 0 ≤ k → k + n = 3 → (∀ x, 0 ≤ x → x < k → mR h (A + 2) x = A + 6 + 8 * x ∧ CatS h (A + 6 + 8 * x)) → ∃ h', P_To_init_54 A k h = P_To_init_80 A 0 h' ∧ TIn h' A ∧ Ext (A + 2) h h' ∧ mT h' = A + 29 ∧ (∀ x, 0 ≤ x → x < 3 → mR h' (A + 2) x = A + 6 + 8 * x ∧ CatS h' (A + 6 + 8 * x)) := by
  intro n
  induction n with
  | zero =>
    intro k h w t k0 hk d
    refine ⟨h, ?_, w, Ext.rf _ h, by omega, fun x x0 x1 => d x x0 (by omega)⟩
    rw [E_To_init_54, if_neg (by omega)]
  | succ n ih =>
    intro k h w t k0 hk d
    have A0 := w.1
    have x0 := al_new h (A + 2) 1 10
    have o0 := okF_t w.2.1
    have oo : okF (mA h 1 10) (mT h + 1) 1 = true := okF_t x0.2.2.1.1
    obtain ⟨h1, g1, e1, t1, s1⟩ := s_cinit (a := mT h + 1) (by omega) x0.2.1 x0.2.2.1.1
    have ae : mK h1 (A + 2) = 111 ∧ mL h1 (A + 2) = 3 := by rw [e1.k (by rw [x0.2.1]; omega), e1.l (by rw [x0.2.1]; omega), x0.1.k (by omega), x0.1.l (by omega)]; exact w.2.2.2.2.1
    have kv : mK h1 (mT h + 1) = 1 := by rw [e1.k (by rw [x0.2.1]; omega)]; exact x0.2.2.1.1
    have e2 : Ext (A + 2) h (mW h1 (A + 2) k (mT h + 1)) := x0.1.put e1 (by omega)
    have s2 : CatS (mW h1 (A + 2) k (mT h + 1)) (mT h + 1) := s1.of (SK.W h1 _ _ _) (fun i _ _ => mR_ne (by omega))
    have m2 : mR (mW h1 (A + 2) k (mT h + 1)) (A + 2) k = mT h + 1 := mR_same _ _ _ _
    have n2 : ∀ x, x ≠ k → mR (mW h1 (A + 2) k (mT h + 1)) (A + 2) x = mR h (A + 2) x := fun x q => by rw [mR_ni q, e1.r (by rw [x0.2.1]; omega) (by omega), mR_A, if_neg (by omega)]
    have t2 : mT (mW h1 (A + 2) k (mT h + 1)) = A + 5 + 8 * (k + 1) := by rw [mT_W]; omega
    have gE : P_To_init_54 A k h = P_To_init_54 A (k + 1) (mW h1 (A + 2) k (mT h + 1)) := by
      rw [E_To_init_54, if_pos (show k < 3 by omega), if_pos o0, hb_eq, if_pos oo, g1, bind_some', w.2.2.1.2.1, if_pos (okQ_t ae (by omega) (by omega) (by omega) k0 (by omega) kv (by omega)), hb_eq, w32_id (x := k + 1) (by omega) (by omega)]
    generalize mW h1 (A + 2) k (mT h + 1) = h2 at e2 s2 m2 n2 t2 gE
    have mc : mT h + 1 = A + 6 + 8 * k := by omega
    rw [mc] at s2 m2
    obtain ⟨h3, g3, w3, e3, t3, d3⟩ := ih (k + 1) h2 (w.ext e2 (by omega) (by omega)) t2 (by omega) (by omega) (fun x p0 p1 => by
      by_cases z : x = k
      · rw [z]; exact ⟨m2, s2⟩
      · rw [n2 x z]; exact ⟨(d x p0 (by omega)).1, (d x p0 (by omega)).2.ext e2 (by omega) (by omega)⟩)
    exact ⟨h3, gE.trans g3, w3, e2.tr e3, t3, d3⟩
theorem l_ti80 {A : Int} : ∀ (n : Nat) (k : Int) (h : Hp), TIn h A → mT h = A + 29 + 4 * k → 0 ≤ k → k + n = 6 → (∀ x, 0 ≤ x → x < k → mR h (A + 3) x = A + 30 + 4 * x ∧ HouS h (A + 30 + 4 * x)) → ∃ h', P_To_init_80 A k h = P_To_init_107 A 0 h' ∧ TIn h' A ∧ Ext (A + 3) h h' ∧ mT h' = A + 53 ∧ (∀ x, 0 ≤ x → x < 6 → mR h' (A + 3) x = A + 30 + 4 * x ∧ HouS h' (A + 30 + 4 * x)) := by
  intro n
  induction n with
  | zero =>
    intro k h w t k0 hk d
    refine ⟨h, ?_, w, Ext.rf _ h, by omega, fun x x0 x1 => d x x0 (by omega)⟩
    rw [E_To_init_80, if_neg (by omega)]
  | succ n ih =>
    intro k h w t k0 hk d
    have A0 := w.1
    have x0 := al_new h (A + 3) 3 7
    have o0 := okF_t w.2.1
    have oo : okF (mA h 3 7) (mT h + 1) 3 = true := okF_t x0.2.2.1.1
    obtain ⟨h1, g1, e1, t1, s1⟩ := s_hinit (a := mT h + 1) (by omega) x0.2.1 x0.2.2.1.1
    have ae : mK h1 (A + 3) = 112 ∧ mL h1 (A + 3) = 6 := by rw [e1.k (by rw [x0.2.1]; omega), e1.l (by rw [x0.2.1]; omega), x0.1.k (by omega), x0.1.l (by omega)]; exact w.2.2.2.2.2.1
    have kv : mK h1 (mT h + 1) = 3 := by rw [e1.k (by rw [x0.2.1]; omega)]; exact x0.2.2.1.1
    have e2 : Ext (A + 3) h (mW h1 (A + 3) k (mT h + 1)) := x0.1.put e1 (by omega)
    have s2 : HouS (mW h1 (A + 3) k (mT h + 1)) (mT h + 1) := s1.of (SK.W h1 _ _ _) (fun i _ _ => mR_ne (by omega))
    have m2 : mR (mW h1 (A + 3) k (mT h + 1)) (A + 3) k = mT h + 1 := mR_same _ _ _ _
    have n2 : ∀ x, x ≠ k → mR (mW h1 (A + 3) k (mT h + 1)) (A + 3) x = mR h (A + 3) x := fun x q => by rw [mR_ni q, e1.r (by rw [x0.2.1]; omega) (by omega), mR_A, if_neg (by omega)]
    have t2 : mT (mW h1 (A + 3) k (mT h + 1)) = A + 29 + 4 * (k + 1) := by rw [mT_W]; omega
    have gE : P_To_init_80 A k h = P_To_init_80 A (k + 1) (mW h1 (A + 3) k (mT h + 1)) := by
      rw [E_To_init_80, if_pos (show k < 6 by omega), if_pos o0, hb_eq, if_pos oo, g1, bind_some', w.2.2.1.2.2.1, if_pos (okQ_t ae (by omega) (by omega) (by omega) k0 (by omega) kv (by omega)), hb_eq, w32_id (x := k + 1) (by omega) (by omega)]
    generalize mW h1 (A + 3) k (mT h + 1) = h2 at e2 s2 m2 n2 t2 gE
    have mc : mT h + 1 = A + 30 + 4 * k := by omega
    rw [mc] at s2 m2
    obtain ⟨h3, g3, w3, e3, t3, d3⟩ := ih (k + 1) h2 (w.ext e2 (by omega) (by omega)) t2 (by omega) (by omega) (fun x p0 p1 => by
      by_cases z : x = k
      · rw [z]; exact ⟨m2, s2⟩
      · rw [n2 x z]; exact ⟨(d x p0 (by omega)).1, (d x p0 (by omega)).2.ext e2 (by omega) (by omega)⟩)
    exact ⟨h3, gE.trans g3, w3, e2.tr e3, t3, d3⟩
theorem l_ti107 {A : Int} : ∀ (n : Nat) (k : Int) (h : Hp), TIn h A → mT h = A + 53 + 3 * k → 0 ≤ k → k + n = 3 → (∀ x, 0 ≤ x → x < k → mR h (A + 4) x = A + 54 + 3 * x ∧ SkyS h (A + 54 + 3 * x)) → ∃ h', P_To_init_107 A k h = P_To_init_133 A 0 h' ∧ TIn h' A ∧ Ext (A + 4) h h' ∧ mT h' = A + 62 ∧ (∀ x, 0 ≤ x → x < 3 → mR h' (A + 4) x = A + 54 + 3 * x ∧ SkyS h' (A + 54 + 3 * x)) := by
  intro n
  induction n with
  | zero =>
    intro k h w t k0 hk d
    refine ⟨h, ?_, w, Ext.rf _ h, by omega, fun x x0 x1 => d x x0 (by omega)⟩
    rw [E_To_init_107, if_neg (by omega)]
  | succ n ih =>
    intro k h w t k0 hk d
    have A0 := w.1
    have x0 := al_new h (A + 4) 8 8
    have o0 := okF_t w.2.1
    have oo : okF (mA h 8 8) (mT h + 1) 8 = true := okF_t x0.2.2.1.1
    obtain ⟨h1, g1, e1, t1, s1⟩ := s_kinit (a := mT h + 1) (by omega) x0.2.1 x0.2.2.1.1
    have ae : mK h1 (A + 4) = 113 ∧ mL h1 (A + 4) = 3 := by rw [e1.k (by rw [x0.2.1]; omega), e1.l (by rw [x0.2.1]; omega), x0.1.k (by omega), x0.1.l (by omega)]; exact w.2.2.2.2.2.2.1
    have kv : mK h1 (mT h + 1) = 8 := by rw [e1.k (by rw [x0.2.1]; omega)]; exact x0.2.2.1.1
    have e2 : Ext (A + 4) h (mW h1 (A + 4) k (mT h + 1)) := x0.1.put e1 (by omega)
    have s2 : SkyS (mW h1 (A + 4) k (mT h + 1)) (mT h + 1) := s1.of (SK.W h1 _ _ _) (fun i _ _ => mR_ne (by omega))
    have m2 : mR (mW h1 (A + 4) k (mT h + 1)) (A + 4) k = mT h + 1 := mR_same _ _ _ _
    have n2 : ∀ x, x ≠ k → mR (mW h1 (A + 4) k (mT h + 1)) (A + 4) x = mR h (A + 4) x := fun x q => by rw [mR_ni q, e1.r (by rw [x0.2.1]; omega) (by omega), mR_A, if_neg (by omega)]
    have t2 : mT (mW h1 (A + 4) k (mT h + 1)) = A + 53 + 3 * (k + 1) := by rw [mT_W]; omega
    have gE : P_To_init_107 A k h = P_To_init_107 A (k + 1) (mW h1 (A + 4) k (mT h + 1)) := by
      rw [E_To_init_107, if_pos (show k < 3 by omega), if_pos o0, hb_eq, if_pos oo, g1, bind_some', w.2.2.1.2.2.2.1, if_pos (okQ_t ae (by omega) (by omega) (by omega) k0 (by omega) kv (by omega)), hb_eq, w32_id (x := k + 1) (by omega) (by omega)]
    generalize mW h1 (A + 4) k (mT h + 1) = h2 at e2 s2 m2 n2 t2 gE
    have mc : mT h + 1 = A + 54 + 3 * k := by omega
    rw [mc] at s2 m2
    obtain ⟨h3, g3, w3, e3, t3, d3⟩ := ih (k + 1) h2 (w.ext e2 (by omega) (by omega)) t2 (by omega) (by omega) (fun x p0 p1 => by
      by_cases z : x = k
      · rw [z]; exact ⟨m2, s2⟩
      · rw [n2 x z]; exact ⟨(d x p0 (by omega)).1, (d x p0 (by omega)).2.ext e2 (by omega) (by omega)⟩)
    exact ⟨h3, gE.trans g3, w3, e2.tr e3, t3, d3⟩
theorem l_ti133 {A : Int} : ∀ (n : Nat) (k : Int) (h : Hp), TIn h A → mT h = A + 62 + 1 * k → 0 ≤ k → k + n = 16 → (∀ x, 0 ≤ x → x < k → mR h (A + 5) x = A + 63 + 1 * x ∧ SayS h (A + 63 + 1 * x)) → ∃ h', P_To_init_133 A k h = some (0, h') ∧ TIn h' A ∧ Ext (A + 5) h h' ∧ mT h' = A + 78 ∧ (∀ x, 0 ≤ x → x < 16 → mR h' (A + 5) x = A + 63 + 1 * x ∧ SayS h' (A + 63 + 1 * x)) := by
  intro n
  induction n with
  | zero =>
    intro k h w t k0 hk d
    refine ⟨h, ?_, w, Ext.rf _ h, by omega, fun x x0 x1 => d x x0 (by omega)⟩
    rw [E_To_init_133, if_neg (by omega)]
  | succ n ih =>
    intro k h w t k0 hk d
    have A0 := w.1
    have x0 := al_new h (A + 5) 7 4
    have o0 := okF_t w.2.1
    have oo : okF (mA h 7 4) (mT h + 1) 7 = true := okF_t x0.2.2.1.1
    obtain ⟨h1, g1, e1, t1, s1⟩ := s_yinit (a := mT h + 1) (by omega) x0.2.1 x0.2.2.1.1
    have ae : mK h1 (A + 5) = 114 ∧ mL h1 (A + 5) = 16 := by rw [e1.k (by rw [x0.2.1]; omega), e1.l (by rw [x0.2.1]; omega), x0.1.k (by omega), x0.1.l (by omega)]; exact w.2.2.2.2.2.2.2
    have kv : mK h1 (mT h + 1) = 7 := by rw [e1.k (by rw [x0.2.1]; omega)]; exact x0.2.2.1.1
    have e2 : Ext (A + 5) h (mW h1 (A + 5) k (mT h + 1)) := x0.1.put e1 (by omega)
    have s2 : SayS (mW h1 (A + 5) k (mT h + 1)) (mT h + 1) := s1
    have m2 : mR (mW h1 (A + 5) k (mT h + 1)) (A + 5) k = mT h + 1 := mR_same _ _ _ _
    have n2 : ∀ x, x ≠ k → mR (mW h1 (A + 5) k (mT h + 1)) (A + 5) x = mR h (A + 5) x := fun x q => by rw [mR_ni q, e1.r (by rw [x0.2.1]; omega) (by omega), mR_A, if_neg (by omega)]
    have t2 : mT (mW h1 (A + 5) k (mT h + 1)) = A + 62 + 1 * (k + 1) := by rw [mT_W]; omega
    have gE : P_To_init_133 A k h = P_To_init_133 A (k + 1) (mW h1 (A + 5) k (mT h + 1)) := by
      rw [E_To_init_133, if_pos (show k < 16 by omega), if_pos o0, hb_eq, if_pos oo, g1, bind_some', w.2.2.1.2.2.2.2, if_pos (okQ_t ae (by omega) (by omega) (by omega) k0 (by omega) kv (by omega)), hb_eq, w32_id (x := k + 1) (by omega) (by omega)]
    generalize mW h1 (A + 5) k (mT h + 1) = h2 at e2 s2 m2 n2 t2 gE
    have mc : mT h + 1 = A + 63 + 1 * k := by omega
    rw [mc] at s2 m2
    obtain ⟨h3, g3, w3, e3, t3, d3⟩ := ih (k + 1) h2 (w.ext e2 (by omega) (by omega)) t2 (by omega) (by omega) (fun x p0 p1 => by
      by_cases z : x = k
      · rw [z]; exact ⟨m2, s2⟩
      · rw [n2 x z]; exact ⟨(d x p0 (by omega)).1, (d x p0 (by omega)).2.ext e2 (by omega) (by omega)⟩)
    exact ⟨h3, gE.trans g3, w3, e2.tr e3, t3, d3⟩
/-- nothing told -/
def zero7 (i : Int) : Int := if i = 3 then -1 else 0
theorem s_tinit {h : Hp} {A : Int} (A0 : 0 < A) (tA : mT h = A) (k : mK h A = 10) (z : ∀ i, mR h A i = 0) : ∃ h', C_To_init A h = some (0, h') ∧ Ext A h h' ∧ mT h' = A + 78 ∧ TSh h' A ∧ ∀ i, 1 ≤ i → i ≤ 7 → mR h' A i = zero7 i := by
  have o := okF_t k
  have x0 := al_st h A 0 101 500 (by omega)
  rw [E_To_init, if_pos A0, hb_eq, okF_A (show A ≤ mT h by omega), if_pos o, hb_eq]
  generalize mW (mA h 101 500) A 0 (mT h + 1) = h1 at x0 ⊢
  have t1 := x0.2.1
  have k1 : mK h1 A = 10 := by rw [x0.1.k (by omega)]; exact k
  have o1 := okF_t k1
  rw [if_pos o1, hb_eq]
  have xw : Ext A h1 (mW h1 A 3 (-1)) ∧ mT (mW h1 A 3 (-1)) = mT h1 ∧ ∀ j, mR (mW h1 A 3 (-1)) A j = if j = 3 then -1 else mR h1 A j := ⟨⟨Int.le_refl _, fun b _ => ⟨rfl, rfl⟩, fun b i _ n => mR_ne n, by rw [mS_W, mT_W]; omega⟩, rfl, fun j => by
    rw [mR_mW]
    by_cases q : j = 3
    · rw [if_pos ⟨rfl, q⟩, if_pos q]
    · rw [if_neg (fun e => q e.2), if_neg q]⟩
  generalize mW h1 A 3 (-1) = h2 at xw ⊢
  have t2 := xw.2.1
  have k2 : mK h2 A = 10 := by rw [xw.1.k (by omega)]; exact k1

  have x1 := al_st h2 A 8 111 3 (by omega)
  rw [hb_eq, okF_A (show A ≤ mT h2 by omega), if_pos (okF_t k2), hb_eq]
  generalize mW (mA h2 111 3) A 8 (mT h2 + 1) = h3 at x1 ⊢
  have t3 := x1.2.1
  have k3 : mK h3 A = 10 := by rw [x1.1.k (by omega)]; exact k2
  have x2 := al_st h3 A 9 112 6 (by omega)
  rw [hb_eq, okF_A (show A ≤ mT h3 by omega), if_pos (okF_t k3), hb_eq]
  generalize mW (mA h3 112 6) A 9 (mT h3 + 1) = h4 at x2 ⊢
  have t4 := x2.2.1
  have k4 : mK h4 A = 10 := by rw [x2.1.k (by omega)]; exact k3
  have x3 := al_st h4 A 10 113 3 (by omega)
  rw [hb_eq, okF_A (show A ≤ mT h4 by omega), if_pos (okF_t k4), hb_eq]
  generalize mW (mA h4 113 3) A 10 (mT h4 + 1) = h5 at x3 ⊢
  have t5 := x3.2.1
  have k5 : mK h5 A = 10 := by rw [x3.1.k (by omega)]; exact k4
  have x4 := al_st h5 A 11 114 16 (by omega)
  rw [hb_eq, okF_A (show A ≤ mT h5 by omega), if_pos (okF_t k5), hb_eq]
  generalize mW (mA h5 114 16) A 11 (mT h5 + 1) = h6 at x4 ⊢
  have t6 := x4.2.1
  have k6 : mK h6 A = 10 := by rw [x4.1.k (by omega)]; exact k5
  have e6 := Ext.rf A h6
  have e5 := x4.1.tr e6
  have e4 := x3.1.tr e5
  have e3 := x2.1.tr e4
  have e2 := x1.1.tr e3
  have e1 := xw.1.tr e2
  have e0 := x0.1.tr e1
  have m0 : mT h + 1 = A + 1 := by omega
  have m2 : mT h2 + 1 = A + 2 := by omega
  have m3 : mT h3 + 1 = A + 3 := by omega
  have m4 : mT h4 + 1 = A + 4 := by omega
  have m5 : mT h5 + 1 = A + 5 := by omega
  have fr : ∀ i, mR h6 A i = if i = 11 then A + 5 else if i = 10 then A + 4 else if i = 9 then A + 3 else if i = 8 then A + 2 else if i = 3 then -1 else if i = 0 then A + 1 else 0 := fun i => by
    rw [x4.2.2.2, x3.2.2.2, x2.2.2.2, x1.2.2.2, xw.2.2, x0.2.2.2, m0, m2, m3, m4, m5, z]
  have w6 : TIn h6 A := by
    refine ⟨A0, k6, ⟨by rw [fr]; rfl, by rw [fr]; rfl, by rw [fr]; rfl, by rw [fr]; rfl, by rw [fr]; rfl⟩, ?_, ?_, ?_, ?_, ?_⟩
    · rw [e1.k (by omega), e1.l (by omega), ← m0]; exact x0.2.2.1
    · rw [e3.k (by omega), e3.l (by omega), ← m2]; exact x1.2.2.1
    · rw [e4.k (by omega), e4.l (by omega), ← m3]; exact x2.2.2.1
    · rw [e5.k (by omega), e5.l (by omega), ← m4]; exact x3.2.2.1
    · rw [← m5]; exact x4.2.2.1
  obtain ⟨c1, g1, w1, y1, u1, d1⟩ := l_ti54 3 0 h6 w6 (by omega) (by omega) (by omega) (fun x x0 x1 => by omega)
  obtain ⟨c2, g2, w2, y2, u2, d2⟩ := l_ti80 6 0 c1 w1 (by omega) (by omega) (by omega) (fun x x0 x1 => by omega)
  obtain ⟨c3, g3, w3, y3, u3, d3⟩ := l_ti107 3 0 c2 w2 (by omega) (by omega) (by omega) (fun x x0 x1 => by omega)
  obtain ⟨c4, g4, w4, y4, u4, d4⟩ := l_ti133 16 0 c3 w3 (by omega) (by omega) (by omega) (fun x x0 x1 => by omega)
  refine ⟨c4, ?_, ⟨?_, fun b q => ?_, fun b i q nb => ?_, by have := e0.2.2.2; have := y1.2.2.2; have := y2.2.2.2; have := y3.2.2.2; have := y4.2.2.2; omega⟩, u4, ?_, fun i i0 i1 => ?_⟩
  · rw [g1, g2, g3, g4]
  · omega
  · rw [y4.k (by omega), y3.k (by omega), y2.k (by omega), y1.k (by omega), e0.k q, y4.l (by omega), y3.l (by omega), y2.l (by omega), y1.l (by omega), e0.l q]; exact ⟨rfl, rfl⟩
  · rw [y4.r (by omega) (by omega), y3.r (by omega) (by omega), y2.r (by omega) (by omega), y1.r (by omega) (by omega), e0.r q nb]
  · obtain ⟨v1, v2, v3, v4, v5, v6, v7, v8⟩ := w4
    refine ⟨v1, v2, v3, v4, v5, v6, v7, v8, fun x x0 x1 => ?_, fun x x0 x1 => ?_, fun x x0 x1 => ?_, fun x x0 x1 => ?_⟩
    · rw [y4.r (by omega) (by omega), y3.r (by omega) (by omega), y2.r (by omega) (by omega)]
      exact ⟨(d1 x x0 x1).1, (((d1 x x0 x1).2.ext y2 (by omega) (by omega)).ext y3 (by omega) (by omega)).ext y4 (by omega) (by omega)⟩
    · rw [y4.r (by omega) (by omega), y3.r (by omega) (by omega)]
      exact ⟨(d2 x x0 x1).1, ((d2 x x0 x1).2.ext y3 (by omega) (by omega)).ext y4 (by omega) (by omega)⟩
    · rw [y4.r (by omega) (by omega)]
      exact ⟨(d3 x x0 x1).1, (d3 x x0 x1).2.ext y4 (by omega) (by omega)⟩
    · have := d4 x x0 x1
      rw [Int.one_mul] at this
      exact this
  · rw [y4.r (by omega) (by omega), y3.r (by omega) (by omega), y2.r (by omega) (by omega), y1.r (by omega) (by omega), fr, if_neg (by omega), if_neg (by omega), if_neg (by omega), if_neg (by omega)]
    unfold zero7
    by_cases q : i = 3
    · rw [if_pos q, if_pos q]
    · rw [if_neg q, if_neg q, if_neg (by omega)]
