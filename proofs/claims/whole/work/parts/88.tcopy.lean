/-! What is told, copied whole. -/
def pTt (A b i : Int) : Prop := (b = A ∧ 1 ≤ i ∧ i ≤ 7) ∨ b = A + 1
def pTc (A b i : Int) : Prop := (A + 6 ≤ b ∧ b ≤ A + 29) ∧ ¬ ((b = A + 6 ∨ b = A + 14 ∨ b = A + 22) ∧ 3 ≤ i ∧ i ≤ 9)
def pTh (A b i : Int) : Prop := (A + 30 ≤ b ∧ b ≤ A + 53) ∧ ¬ ((b = A + 30 ∨ b = A + 34 ∨ b = A + 38 ∨ b = A + 42 ∨ b = A + 46 ∨ b = A + 50) ∧ 4 ≤ i ∧ i ≤ 6)
def pTk (A b i : Int) : Prop := (A + 54 ≤ b ∧ b ≤ A + 62) ∧ ¬ ((b = A + 54 ∨ b = A + 57 ∨ b = A + 60) ∧ 6 ≤ i ∧ i ≤ 7)
def pTy (A b _ : Int) : Prop := A + 63 ≤ b ∧ b ≤ A + 78
def pTo (A b i : Int) : Prop := pTt A b i ∨ pTc A b i ∨ pTh A b i ∨ pTk A b i ∨ pTy A b i
theorem pTo_r {A b i : Int} (q : pTo A b i) : A ≤ b ∧ b ≤ A + 78 := by
  unfold pTo pTt pTc pTh pTk pTy at q; omega
theorem TSh.t {h h' : Hp} {A : Int} (w : TSh h A) (f : Fr (pTo A) h h') : TSh h' A := by
  have r : ∀ b i, ¬ pTo A b i → mR h' b i = mR h b i := f.2
  unfold TSh at w ⊢
  simp only [f.1.k, f.1.l]
  rw [r A 0 (by unfold pTo pTt pTc pTh pTk pTy; omega), r A 8 (by unfold pTo pTt pTc pTh pTk pTy; omega), r A 9 (by unfold pTo pTt pTc pTh pTk pTy; omega), r A 10 (by unfold pTo pTt pTc pTh pTk pTy; omega), r A 11 (by unfold pTo pTt pTc pTh pTk pTy; omega)]
  obtain ⟨x1, x2, x3, x4, x5, x6, x7, x8, x9, x10, x11, x12⟩ := w
  refine ⟨x1, x2, x3, x4, x5, x6, x7, x8, fun x x0 y1 => ?_, fun x x0 y1 => ?_, fun x x0 y1 => ?_, fun x x0 y1 => ?_⟩
  · rw [r (A + 2) x (by unfold pTo pTt pTc pTh pTk pTy; omega)]
    exact ⟨(x9 x x0 y1).1, (x9 x x0 y1).2.of f.1 (fun i _ _ => r _ i (by unfold pTo pTt pTc pTh pTk pTy; omega))⟩
  · rw [r (A + 3) x (by unfold pTo pTt pTc pTh pTk pTy; omega)]
    exact ⟨(x10 x x0 y1).1, (x10 x x0 y1).2.of f.1 (fun i _ _ => r _ i (by unfold pTo pTt pTc pTh pTk pTy; omega))⟩
  · rw [r (A + 4) x (by unfold pTo pTt pTc pTh pTk pTy; omega)]
    exact ⟨(x11 x x0 y1).1, (x11 x x0 y1).2.of f.1 (fun i _ _ => r _ i (by unfold pTo pTt pTc pTh pTk pTy; omega))⟩
  · rw [r (A + 5) x (by unfold pTo pTt pTc pTh pTk pTy; omega)]
    exact x12 x x0 y1
/-- the two, apart -/
def Two (h : Hp) (A B : Int) (T : Int → Int) : Prop := TSh h A ∧ TSh h B ∧ TCo h B T ∧ (A + 78 < B ∨ B + 78 < A) ∧ (A + 78 < 99 ∨ 133 < A)
theorem Two.of {h h' : Hp} {A B : Int} {T : Int → Int} (w : Two h A B T) (f : Fr (pTo A) h h') : Two h' A B T := by
  obtain ⟨a, b, t, d, n⟩ := w
  have r : ∀ x i, B ≤ x → x ≤ B + 78 → mR h' x i = mR h x i := fun x i x0 x1 => f.2 x i (fun q => by have := pTo_r q; omega)
  exact ⟨a.t f, b.of f.1 r, t.of f.1 r, d, n⟩
theorem l_tc {A B : Int} {T : Int → Int} : ∀ (n : Nat) (k : Int) (h : Hp), Two h A B T → mR h A 4 = T 0 → 0 ≤ k → k + n = T 0 → (∀ x, 0 ≤ x → x < k → CatC h (A + 6 + 8 * x) (slc T (520 + 330 * x) 330)) → ∃ h', P_To_copy_74 A B k h = P_To_copy_105 A B 0 h' ∧ Fr (pTc A) h h' ∧ (∀ x, 0 ≤ x → x < T 0 → CatC h' (A + 6 + 8 * x) (slc T (520 + 330 * x) 330)) := by
  intro n
  induction n with
  | zero =>
    intro k h w e k0 hk d
    refine ⟨h, ?_, Fr.rf _ h, fun x x0 x1 => d x x0 (by omega)⟩
    rw [E_To_copy_74, if_pos (okF_t w.1.2.1), e, if_neg (by omega)]
  | succ n ih =>
    intro k h w e k0 hk d
    obtain ⟨a, b, t, dis, nA⟩ := w
    have t0 := t.2.1
    have a9 := a.2.2.2.2.2.2.2.2.1 k k0 (by omega)
    have b9 := b.2.2.2.2.2.2.2.2.1 k k0 (by omega)
    have ap := a.1
    have bp := b.1
    obtain ⟨h1, g1, f1, c1⟩ := s_ccopy (d := A + 6 + 8 * k) (t.2.2.2.2.2.2.2.1 k k0 (by omega)) a9.2 (by omega) (by omega)
    have f2 : Fr (pTc A) h h1 := f1.to (fun x i q => by unfold pCa at q; unfold pTc; omega)
    have w1 : Two h1 A B T := Two.of ⟨a, b, t, dis, nA⟩ (f2.to (fun x i q => Or.inr (Or.inl q)))
    obtain ⟨h2, g2, f3, c2⟩ := ih (k + 1) h1 w1 (by rw [f2.2 A 4 (by unfold pTc; omega)]; exact e) (by omega) (by omega) (fun x x0 x1 => by
      by_cases z : x = k
      · rw [z]; exact c1
      · exact (d x x0 (by omega)).of f2.1 (fun y i y0 y1 => f1.2 y i (by unfold pCa; omega)))
    refine ⟨h2, ?_, f2.tr f3, c2⟩
    rw [E_To_copy_74, if_pos (okF_t a.2.1), e, if_pos (show k < T 0 by omega), if_pos (okF_t a.2.1), a.2.2.1.2.1, if_pos (okR_t a.2.2.2.2.1 (by omega) (by omega) (by omega) k0 (by omega)), if_pos (okF_t b.2.1), b.2.2.1.2.1, if_pos (okR_t b.2.2.2.2.1 (by omega) (by omega) (by omega) k0 (by omega)), a9.1, b9.1, if_pos (cF a9.2), g1, bind_some', w32_id (x := k + 1) (by omega) (by omega)]
    exact g2
theorem l_th {A B : Int} {T : Int → Int} : ∀ (n : Nat) (k : Int) (h : Hp), Two h A B T → mR h A 5 = T 1 → 0 ≤ k → k + n = T 1 → (∀ x, 0 ≤ x → x < k → HouC h (A + 30 + 4 * x) (slc T (1510 + 26 * x) 26)) → ∃ h', P_To_copy_105 A B k h = P_To_copy_136 A B 0 h' ∧ Fr (pTh A) h h' ∧ (∀ x, 0 ≤ x → x < T 1 → HouC h' (A + 30 + 4 * x) (slc T (1510 + 26 * x) 26)) := by
  intro n
  induction n with
  | zero =>
    intro k h w e k0 hk d
    refine ⟨h, ?_, Fr.rf _ h, fun x x0 x1 => d x x0 (by omega)⟩
    rw [E_To_copy_105, if_pos (okF_t w.1.2.1), e, if_neg (by omega)]
  | succ n ih =>
    intro k h w e k0 hk d
    obtain ⟨a, b, t, dis, nA⟩ := w
    have t0 := t.2.2.1
    have a9 := a.2.2.2.2.2.2.2.2.2.1 k k0 (by omega)
    have b9 := b.2.2.2.2.2.2.2.2.2.1 k k0 (by omega)
    have ap := a.1
    have bp := b.1
    have hc := t.2.2.2.2.2.2.2.2.1 k k0 (by omega)
    obtain ⟨h1, g1, f1, c1⟩ := s_hcopy (d := A + 30 + 4 * k) hc.1 hc.2.1.1.2 a9.2 (by omega) (by omega)
    have f2 : Fr (pTh A) h h1 := f1.to (fun x i q => by unfold pH at q; unfold pTh; omega)
    have w1 : Two h1 A B T := Two.of ⟨a, b, t, dis, nA⟩ (f2.to (fun x i q => Or.inr (Or.inr (Or.inl q))))
    obtain ⟨h2, g2, f3, c2⟩ := ih (k + 1) h1 w1 (by rw [f2.2 A 5 (by unfold pTh; omega)]; exact e) (by omega) (by omega) (fun x x0 x1 => by
      by_cases z : x = k
      · rw [z]; exact ⟨c1, hc.2⟩
      · exact ⟨(d x x0 (by omega)).1.of f2.1 (fun y i y0 y1 => f1.2 y i (by unfold pH; omega)), (d x x0 (by omega)).2⟩)
    refine ⟨h2, ?_, f2.tr f3, c2⟩
    rw [E_To_copy_105, if_pos (okF_t a.2.1), e, if_pos (show k < T 1 by omega), if_pos (okF_t a.2.1), a.2.2.1.2.2.1, if_pos (okR_t a.2.2.2.2.2.1 (by omega) (by omega) (by omega) k0 (by omega)), if_pos (okF_t b.2.1), b.2.2.1.2.2.1, if_pos (okR_t b.2.2.2.2.2.1 (by omega) (by omega) (by omega) k0 (by omega)), a9.1, b9.1, if_pos (hF a9.2), g1, bind_some', w32_id (x := k + 1) (by omega) (by omega)]
    exact g2
theorem l_tk {A B : Int} {T : Int → Int} : ∀ (n : Nat) (k : Int) (h : Hp), Two h A B T → mR h A 6 = T 2 → 0 ≤ k → k + n = T 2 → (∀ x, 0 ≤ x → x < k → SkyC h (A + 54 + 3 * x) (slc T (1670 + 18 * x) 18)) → ∃ h', P_To_copy_136 A B k h = P_To_copy_167 A B 0 h' ∧ Fr (pTk A) h h' ∧ (∀ x, 0 ≤ x → x < T 2 → SkyC h' (A + 54 + 3 * x) (slc T (1670 + 18 * x) 18)) := by
  intro n
  induction n with
  | zero =>
    intro k h w e k0 hk d
    refine ⟨h, ?_, Fr.rf _ h, fun x x0 x1 => d x x0 (by omega)⟩
    rw [E_To_copy_136, if_pos (okF_t w.1.2.1), e, if_neg (by omega)]
  | succ n ih =>
    intro k h w e k0 hk d
    obtain ⟨a, b, t, dis, nA⟩ := w
    have t0 := t.2.2.2.1
    have a9 := a.2.2.2.2.2.2.2.2.2.2.1 k k0 (by omega)
    have b9 := b.2.2.2.2.2.2.2.2.2.2.1 k k0 (by omega)
    have ap := a.1
    have bp := b.1
    obtain ⟨h1, g1, f1, c1⟩ := s_kcopy (d := A + 54 + 3 * k) (t.2.2.2.2.2.2.2.2.2.1 k k0 (by omega)) a9.2 (by omega)
    have f2 : Fr (pTk A) h h1 := f1.to (fun x i q => by unfold pSk at q; unfold pTk; omega)
    have w1 : Two h1 A B T := Two.of ⟨a, b, t, dis, nA⟩ (f2.to (fun x i q => Or.inr (Or.inr (Or.inr (Or.inl q)))))
    obtain ⟨h2, g2, f3, c2⟩ := ih (k + 1) h1 w1 (by rw [f2.2 A 6 (by unfold pTk; omega)]; exact e) (by omega) (by omega) (fun x x0 x1 => by
      by_cases z : x = k
      · rw [z]; exact c1
      · exact (d x x0 (by omega)).of f2.1 (fun y i y0 y1 => f1.2 y i (by unfold pSk; omega)))
    refine ⟨h2, ?_, f2.tr f3, c2⟩
    rw [E_To_copy_136, if_pos (okF_t a.2.1), e, if_pos (show k < T 2 by omega), if_pos (okF_t a.2.1), a.2.2.1.2.2.2.1, if_pos (okR_t a.2.2.2.2.2.2.1 (by omega) (by omega) (by omega) k0 (by omega)), if_pos (okF_t b.2.1), b.2.2.1.2.2.2.1, if_pos (okR_t b.2.2.2.2.2.2.1 (by omega) (by omega) (by omega) k0 (by omega)), a9.1, b9.1, if_pos (okF_t a9.2.2.1), g1, bind_some', w32_id (x := k + 1) (by omega) (by omega)]
    exact g2
theorem s_saset {h : Hp} {c : Int} (k : mK h c = 7) (x y z v : Int) : ∃ h', C_Sa_set c x y z v h = some (0, h') ∧ Fr (fun b _ => b = c) h h' ∧ mR h' c 0 = x ∧ mR h' c 1 = y ∧ mR h' c 2 = z ∧ mR h' c 3 = v := by
  have o := okF_t k
  refine ⟨mW (mW (mW (mW h c 0 x) c 1 y) c 2 z) c 3 v, ?_, ?_, ?_, ?_, ?_, ?_⟩
  · rw [E_Sa_set, if_pos o, hb_eq, okF_W, if_pos o, hb_eq, okF_W, okF_W, if_pos o, hb_eq, okF_W, okF_W, okF_W, if_pos o, hb_eq]
  · exact (((Fr.W (p := fun b _ => b = c) (a := c) (i := 0) h x rfl).tr (Fr.W (a := c) (i := 1) _ y rfl)).tr (Fr.W (a := c) (i := 2) _ z rfl)).tr (Fr.W (a := c) (i := 3) _ v rfl)
  · rw [mR_ni (by omega), mR_ni (by omega), mR_ni (by omega), mR_same]
  · rw [mR_ni (by omega), mR_ni (by omega), mR_same]
  · rw [mR_ni (by omega), mR_same]
  · rw [mR_same]
theorem l_ty {A B : Int} {T : Int → Int} : ∀ (n : Nat) (k : Int) (h : Hp), Two h A B T → mR h A 7 = T 3 → 0 ≤ k → k + n = T 3 → (∀ x j, 0 ≤ x → x < k → 0 ≤ j → j < 4 → mR h (A + 63 + x) j = T (1730 + 4 * x + j)) → ∃ h', P_To_copy_167 A B k h = some (0, h') ∧ Fr (pTy A) h h' ∧ (∀ x j, 0 ≤ x → x < T 3 → 0 ≤ j → j < 4 → mR h' (A + 63 + x) j = T (1730 + 4 * x + j)) := by
  intro n
  induction n with
  | zero =>
    intro k h w e k0 hk d
    refine ⟨h, ?_, Fr.rf _ h, fun x j x0 x1 => d x j x0 (by omega)⟩
    rw [E_To_copy_167, if_pos (okF_t w.1.2.1), e, if_neg (by omega)]
  | succ n ih =>
    intro k h w e k0 hk d
    obtain ⟨a, b, t, dis, nA⟩ := w
    have t0 := t.2.2.2.2.1
    have a9 := a.2.2.2.2.2.2.2.2.2.2.2 k k0 (by omega)
    have b9 := b.2.2.2.2.2.2.2.2.2.2.2 k k0 (by omega)
    have ap := a.1
    have bp := b.1
    have y := fun j j0 j1 => t.2.2.2.2.2.2.2.2.2.2.1 k j k0 (by omega) j0 j1
    obtain ⟨h1, g1, f1, c0, c1, c2, c3⟩ := s_saset a9.2 (T (1730 + 4 * k + 0)) (T (1730 + 4 * k + 1)) (T (1730 + 4 * k + 2)) (T (1730 + 4 * k + 3))
    have f2 : Fr (pTy A) h h1 := f1.to (fun x i q => by unfold pTy; omega)
    have w1 : Two h1 A B T := Two.of ⟨a, b, t, dis, nA⟩ (f2.to (fun x i q => Or.inr (Or.inr (Or.inr (Or.inr q)))))
    obtain ⟨h2, g2, f3, c4⟩ := ih (k + 1) h1 w1 (by rw [f2.2 A 7 (by unfold pTy; omega)]; exact e) (by omega) (by omega) (fun x j x0 x1 j0 j1 => by
      by_cases z : x = k
      · rw [z]
        have : j = 0 ∨ j = 1 ∨ j = 2 ∨ j = 3 := by omega
        rcases this with z | z | z | z
        · rw [z]; exact c0
        · rw [z]; exact c1
        · rw [z]; exact c2
        · rw [z]; exact c3
      · rw [f1.2 (A + 63 + x) j (by omega)]; exact d x j x0 (by omega) j0 j1)
    refine ⟨h2, ?_, f2.tr f3, c4⟩
    have o := okF_t b9.2
    rw [E_To_copy_167, if_pos (okF_t a.2.1), e, if_pos (show k < T 3 by omega), if_pos (okF_t b.2.1), b.2.2.1.2.2.2.2, if_pos (okR_t b.2.2.2.2.2.2.2.1 (by omega) (by omega) (by omega) k0 (by omega)), if_pos (okF_t a.2.1), a.2.2.1.2.2.2.2, if_pos (okR_t a.2.2.2.2.2.2.2.1 (by omega) (by omega) (by omega) k0 (by omega)), a9.1, b9.1, if_pos o, if_pos o, if_pos o, if_pos o, if_pos (okF_t a9.2), y 0 (by omega) (by omega), y 1 (by omega) (by omega), y 2 (by omega) (by omega), y 3 (by omega) (by omega), g1, bind_some', w32_id (x := k + 1) (by omega) (by omega)]
    exact g2
theorem s_tcopy {h : Hp} {A B : Int} {T : Int → Int} (w : Two h A B T) : ∃ h', C_To_copy A B h = some (0, h') ∧ Fr (pTo A) h h' ∧ TCo h' A T := by
  obtain ⟨a, b, t, dis, nA⟩ := w
  have ap := a.1
  have bp := b.1
  have oa := okF_t a.2.1
  have ob := okF_t b.2.1
  let k1 := mC h (B + 1) 0 (A + 1) 0 500
  let k2 := mW k1 A 1 (T 4)
  let k3 := mW k2 A 2 (T 5)
  let k4 := mW k3 A 3 (T 6)
  let k5 := mW k4 A 4 (T 0)
  let k6 := mW k5 A 5 (T 1)
  let k7 := mW k6 A 6 (T 2)
  let k8 := mW k7 A 7 (T 3)
  have r1 : ∀ x i, x ≠ A + 1 → mR k1 x i = mR h x i := fun x i q => mC_ne q
  have c1 : ∀ i, 0 ≤ i → i < 500 → mR k1 (A + 1) i = mR h (B + 1) i := fun i i0 i1 => mC_in i0 i1
  have r2 : ∀ x i, x ≠ A → mR k2 x i = mR k1 x i := fun x i q => mR_ne q
  have r3 : ∀ x i, x ≠ A → mR k3 x i = mR k2 x i := fun x i q => mR_ne q
  have r4 : ∀ x i, x ≠ A → mR k4 x i = mR k3 x i := fun x i q => mR_ne q
  have r5 : ∀ x i, x ≠ A → mR k5 x i = mR k4 x i := fun x i q => mR_ne q
  have r6 : ∀ x i, x ≠ A → mR k6 x i = mR k5 x i := fun x i q => mR_ne q
  have r7 : ∀ x i, x ≠ A → mR k7 x i = mR k6 x i := fun x i q => mR_ne q
  have r8 : ∀ x i, x ≠ A → mR k8 x i = mR k7 x i := fun x i q => mR_ne q
  have t1 := t.1
  have q1 : mR k1 B 1 = T 4 := by rw [r1 B 1 (by omega)]; exact t1.1
  have q2 : mR k2 B 2 = T 5 := by rw [r2 B 2 (by omega), r1 B 2 (by omega)]; exact t1.2.1
  have q3 : mR k3 B 3 = T 6 := by rw [r3 B 3 (by omega), r2 B 3 (by omega), r1 B 3 (by omega)]; exact t1.2.2.1
  have q4 : mR k4 B 4 = T 0 := by rw [r4 B 4 (by omega), r3 B 4 (by omega), r2 B 4 (by omega), r1 B 4 (by omega)]; exact t1.2.2.2.1
  have q5 : mR k5 B 5 = T 1 := by rw [r5 B 5 (by omega), r4 B 5 (by omega), r3 B 5 (by omega), r2 B 5 (by omega), r1 B 5 (by omega)]; exact t1.2.2.2.2.1
  have q6 : mR k6 B 6 = T 2 := by rw [r6 B 6 (by omega), r5 B 6 (by omega), r4 B 6 (by omega), r3 B 6 (by omega), r2 B 6 (by omega), r1 B 6 (by omega)]; exact t1.2.2.2.2.2.1
  have q7 : mR k7 B 7 = T 3 := by rw [r7 B 7 (by omega), r6 B 7 (by omega), r5 B 7 (by omega), r4 B 7 (by omega), r3 B 7 (by omega), r2 B 7 (by omega), r1 B 7 (by omega)]; exact t1.2.2.2.2.2.2
  have e1 : mR k8 A 1 = T 4 := by show mR (mW (mW (mW (mW (mW (mW (mW k1 A 1 _) A 2 _) A 3 _) A 4 _) A 5 _) A 6 _) A 7 _) A 1 = _; rw [mR_ni (by omega), mR_ni (by omega), mR_ni (by omega), mR_ni (by omega), mR_ni (by omega), mR_ni (by omega), mR_same]
  have e2 : mR k8 A 2 = T 5 := by show mR (mW (mW (mW (mW (mW (mW (mW k1 A 1 _) A 2 _) A 3 _) A 4 _) A 5 _) A 6 _) A 7 _) A 2 = _; rw [mR_ni (by omega), mR_ni (by omega), mR_ni (by omega), mR_ni (by omega), mR_ni (by omega), mR_same]
  have e3 : mR k8 A 3 = T 6 := by show mR (mW (mW (mW (mW (mW (mW (mW k1 A 1 _) A 2 _) A 3 _) A 4 _) A 5 _) A 6 _) A 7 _) A 3 = _; rw [mR_ni (by omega), mR_ni (by omega), mR_ni (by omega), mR_ni (by omega), mR_same]
  have e4 : mR k8 A 4 = T 0 := by show mR (mW (mW (mW (mW (mW (mW (mW k1 A 1 _) A 2 _) A 3 _) A 4 _) A 5 _) A 6 _) A 7 _) A 4 = _; rw [mR_ni (by omega), mR_ni (by omega), mR_ni (by omega), mR_same]
  have e5 : mR k8 A 5 = T 1 := by show mR (mW (mW (mW (mW (mW (mW (mW k1 A 1 _) A 2 _) A 3 _) A 4 _) A 5 _) A 6 _) A 7 _) A 5 = _; rw [mR_ni (by omega), mR_ni (by omega), mR_same]
  have e6 : mR k8 A 6 = T 2 := by show mR (mW (mW (mW (mW (mW (mW (mW k1 A 1 _) A 2 _) A 3 _) A 4 _) A 5 _) A 6 _) A 7 _) A 6 = _; rw [mR_ni (by omega), mR_same]
  have e7 : mR k8 A 7 = T 3 := mR_same _ _ _ _
  have et : ∀ i, 0 ≤ i → i < 500 → mR k8 (A + 1) i = mR h (B + 1) i := fun i i0 i1 => by rw [r8 _ i (by omega), r7 _ i (by omega), r6 _ i (by omega), r5 _ i (by omega), r4 _ i (by omega), r3 _ i (by omega), r2 _ i (by omega), c1 i i0 i1]
  have f8 : Fr (pTt A) h k8 := by
    have f1 : Fr (pTt A) h k1 := Fr.C h (B + 1) (A + 1) 500 (fun i => Or.inr rfl)
    exact ((((((f1.tr (Fr.W k1 (T 4) (by unfold pTt; omega))).tr (Fr.W k2 (T 5) (by unfold pTt; omega))).tr (Fr.W k3 (T 6) (by unfold pTt; omega))).tr (Fr.W k4 (T 0) (by unfold pTt; omega))).tr (Fr.W k5 (T 1) (by unfold pTt; omega))).tr (Fr.W k6 (T 2) (by unfold pTt; omega))).tr (Fr.W k7 (T 3) (by unfold pTt; omega))
  have g : C_To_copy A B h = P_To_copy_74 A B 0 k8 := by
    rw [E_To_copy, if_pos ob, if_pos oa, b.2.2.1.1, a.2.2.1.1, if_pos (okC_t b.2.2.2.1 a.2.2.2.1 (by decide) (by omega) (by omega) (by omega) (by omega) (by omega) (by omega) (by omega)), hb_eq]
    show (if okF k1 B 10 = true then _ else _) = _
    rw [if_pos (show okF k1 B 10 = true from ob), if_pos (show okF k1 A 10 = true from oa), q1, hb_eq]
    show (if okF k2 B 10 = true then _ else _) = _
    rw [if_pos (show okF k2 B 10 = true from ob), if_pos (show okF k2 A 10 = true from oa), q2, hb_eq]
    show (if okF k3 B 10 = true then _ else _) = _
    rw [if_pos (show okF k3 B 10 = true from ob), if_pos (show okF k3 A 10 = true from oa), q3, hb_eq]
    show (if okF k4 B 10 = true then _ else _) = _
    rw [if_pos (show okF k4 B 10 = true from ob), if_pos (show okF k4 A 10 = true from oa), q4, hb_eq]
    show (if okF k5 B 10 = true then _ else _) = _
    rw [if_pos (show okF k5 B 10 = true from ob), if_pos (show okF k5 A 10 = true from oa), q5, hb_eq]
    show (if okF k6 B 10 = true then _ else _) = _
    rw [if_pos (show okF k6 B 10 = true from ob), if_pos (show okF k6 A 10 = true from oa), q6, hb_eq]
    show (if okF k7 B 10 = true then _ else _) = _
    rw [if_pos (show okF k7 B 10 = true from ob), if_pos (show okF k7 A 10 = true from oa), q7, hb_eq]
  rw [g]
  generalize k8 = m0 at f8 e1 e2 e3 e4 e5 e6 e7 et
  have v0 := t.2.1
  have v1 := t.2.2.1
  have v2 := t.2.2.2.1
  have v3 := t.2.2.2.2.1
  have v4 := t.2.2.2.2.2.1
  have fo := f8.to (fun x i q => (Or.inl q : pTo A x i))
  have w0 : Two m0 A B T := Two.of ⟨a, b, t, dis, nA⟩ fo
  obtain ⟨m1, g1, f1, d1⟩ := l_tc (T 0).toNat 0 m0 w0 e4 (by omega) (by omega) (fun x x0 x1 => by omega)
  have w1 := w0.of (f1.to (fun x i q => Or.inr (Or.inl q)))
  obtain ⟨m2, g2, f2, d2⟩ := l_th (T 1).toNat 0 m1 w1 (by rw [f1.2 A 5 (by unfold pTc; omega)]; exact e5) (by omega) (by omega) (fun x x0 x1 => by omega)
  have w2 := w1.of (f2.to (fun x i q => Or.inr (Or.inr (Or.inl q))))
  obtain ⟨m3, g3, f3, d3⟩ := l_tk (T 2).toNat 0 m2 w2 (by rw [f2.2 A 6 (by unfold pTh; omega), f1.2 A 6 (by unfold pTc; omega)]; exact e6) (by omega) (by omega) (fun x x0 x1 => by omega)
  have w3 := w2.of (f3.to (fun x i q => Or.inr (Or.inr (Or.inr (Or.inl q)))))
  obtain ⟨m4, g4, f4, d4⟩ := l_ty (T 3).toNat 0 m3 w3 (by rw [f3.2 A 7 (by unfold pTk; omega), f2.2 A 7 (by unfold pTh; omega), f1.2 A 7 (by unfold pTc; omega)]; exact e7) (by omega) (by omega) (fun x j x0 x1 => by omega)
  have back : ∀ x i, x ≤ A + 5 → mR m4 x i = mR m0 x i := fun x i q => by rw [f4.2 x i (by unfold pTy; omega), f3.2 x i (by unfold pTk; omega), f2.2 x i (by unfold pTh; omega), f1.2 x i (by unfold pTc; omega)]
  refine ⟨m4, by rw [g1, g2, g3, g4], (((fo.tr (f1.to (fun x i q => Or.inr (Or.inl q)))).tr (f2.to (fun x i q => Or.inr (Or.inr (Or.inl q))))).tr (f3.to (fun x i q => Or.inr (Or.inr (Or.inr (Or.inl q)))))).tr (f4.to (fun x i q => Or.inr (Or.inr (Or.inr (Or.inr q))))), ?_⟩
  unfold TCo
  rw [back A 1 (by omega), back A 2 (by omega), back A 3 (by omega), back A 4 (by omega), back A 5 (by omega), back A 6 (by omega), back A 7 (by omega)]
  refine ⟨⟨e1, e2, e3, e4, e5, e6, e7⟩, v0, v1, v2, v3, v4, fun i i0 i1 => ?_, fun x x0 x1 => ?_, fun x x0 x1 => ?_, fun x x0 x1 => ?_, d4, t.2.2.2.2.2.2.2.2.2.2.2⟩
  · rw [back (A + 1) i (by omega), et i i0 (by omega)]; exact t.2.2.2.2.2.2.1 i i0 i1
  · exact (d1 x x0 x1).of (f2.1.tr (f3.1.tr f4.1)) (fun y i y0 y1 => by rw [f4.2 y i (by unfold pTy; omega), f3.2 y i (by unfold pTk; omega), f2.2 y i (by unfold pTh; omega)])
  · exact ⟨(d2 x x0 x1).1.of (f3.1.tr f4.1) (fun y i y0 y1 => by rw [f4.2 y i (by unfold pTy; omega), f3.2 y i (by unfold pTk; omega)]), (d2 x x0 x1).2⟩
  · exact (d3 x x0 x1).of f4.1 (fun y i y0 y1 => by rw [f4.2 y i (by unfold pTy; omega)])
