/-! Joining, dropping, forgetting. -/
def up1 (F : Int → Int) (t v s : Int) : Int := if s = t then v else F s
theorem up1_s (F : Int → Int) (t v : Int) : up1 F t v t = v := if_pos rfl
theorem up1_n {F : Int → Int} {t v s : Int} (q : s ≠ t) : up1 F t v s = F s := if_neg q
theorem sg_join {F g g' : Int → Int} {t d : Int} (t0 : 0 ≤ t) (t1 : t < 24) (n : F t < 0) (d0 : 0 ≤ d) (e : ∀ s, s ≠ t → g' s = g s) : sg (up1 F t d) g' (-1) 24 = sg F g (-1) 24 + g' t := by
  rw [sg_one (F := F) (F' := up1 F t d) (g := g) (g' := g') (x := -1) (x' := -1) (s := t) 24 (fun s _ _ q => by unfold tmS; rw [up1_n q, e s q]) t0 t1]
  have a1 : tmS F g (-1) t = 0 := if_pos (Or.inl n)
  have a2 : tmS (up1 F t d) g' (-1) t = g' t := if_neg (by rw [up1_s]; omega)
  rw [a1, a2]; omega
theorem sg_drop {F g g' : Int → Int} {t : Int} (t0 : 0 ≤ t) (t1 : t < 24) (p : 0 ≤ F t) (e : ∀ s, s ≠ t → g' s = g s) : sg (up1 F t (-1)) g' (-1) 24 = sg F g (-1) 24 - g t := by
  rw [sg_one (F := F) (F' := up1 F t (-1)) (g := g) (g' := g') (x := -1) (x' := -1) (s := t) 24 (fun s _ _ q => by unfold tmS; rw [up1_n q, e s q]) t0 t1]
  have a1 : tmS F g (-1) t = g t := if_neg (by omega)
  have a2 : tmS (up1 F t (-1)) g' (-1) t = 0 := if_pos (Or.inl (by rw [up1_s]; omega))
  rw [a1, a2]; omega
theorem sg_but {F g : Int → Int} {t : Int} (t0 : 0 ≤ t) (t1 : t < 24) (p : 0 ≤ F t) : sg F g t 24 = sg F g (-1) 24 - g t := by
  rw [sg_one (F := F) (F' := F) (g := g) (g' := g) (x := -1) (x' := t) (s := t) 24 (fun s s0 _ q => by
    unfold tmS
    by_cases z : F s < 0
    · rw [if_pos (Or.inl z), if_pos (Or.inl z)]
    · rw [if_neg (by omega), if_neg (by omega)]) t0 t1]
  have a1 : tmS F g (-1) t = g t := if_neg (by omega)
  have a2 : tmS F g t t = 0 := if_pos (Or.inr rfl)
  rw [a1, a2]; omega
def pF (b i : Int) : Prop := (b = 99 ∧ 6 ≤ i) ∨ b = 113
theorem pF_S (b i : Int) (q : pF b i) : pS b i := by unfold pF at q; unfold pS; omega
def six (h : Hp) (a b c d e f : Int) : Hp := mW (mW (mW (mW (mW (mW h 99 6 a) 99 7 b) 99 8 c) 99 9 d) 99 10 e) 99 11 f
theorem six_fr (h : Hp) (a b c d e f : Int) : Fr pF h (six h a b c d e f) :=
  (((((Fr.W h a (Or.inl ⟨rfl, by decide⟩)).tr (Fr.W _ b (Or.inl ⟨rfl, by decide⟩))).tr (Fr.W _ c (Or.inl ⟨rfl, by decide⟩))).tr (Fr.W _ d (Or.inl ⟨rfl, by decide⟩))).tr (Fr.W _ e (Or.inl ⟨rfl, by decide⟩))).tr (Fr.W _ f (Or.inl ⟨rfl, by decide⟩))
theorem six_o (h : Hp) (a b c d e f x i : Int) (q : x ≠ 99) : mR (six h a b c d e f) x i = mR h x i := by
  unfold six; rw [mR_ne q, mR_ne q, mR_ne q, mR_ne q, mR_ne q, mR_ne q]
theorem six6 (h : Hp) (a b c d e f : Int) : mR (six h a b c d e f) 99 6 = a := by simp [six, mR_mW]
theorem six7 (h : Hp) (a b c d e f : Int) : mR (six h a b c d e f) 99 7 = b := by simp [six, mR_mW]
theorem six8 (h : Hp) (a b c d e f : Int) : mR (six h a b c d e f) 99 8 = c := by simp [six, mR_mW]
theorem six9 (h : Hp) (a b c d e f : Int) : mR (six h a b c d e f) 99 9 = d := by simp [six, mR_mW]
theorem six10 (h : Hp) (a b c d e f : Int) : mR (six h a b c d e f) 99 10 = e := by simp [six, mR_mW]
theorem six11 (h : Hp) (a b c d e f : Int) : mR (six h a b c d e f) 99 11 = f := by simp [six, mR_mW]
theorem s_add {h : Hp} (k : okF h 99 9 = true) {V F : Int → Int} (o : Vok V) (f : Fok V F) (e6 : mR h 99 6 = sg F gN (-1) 24) (e7 : mR h 99 7 = sg F (gvV V) (-1) 24) (e8 : mR h 99 8 = sg F F (-1) 24) (e9 : mR h 99 9 = sg F (gVV V) (-1) 24) (e10 : mR h 99 10 = sg F (gVD V F) (-1) 24) (e11 : mR h 99 11 = sg F (gDD F) (-1) 24) {a b d : Int} (ha : a = 1 ∨ a = -1) (b0 : -9999 ≤ b) (b1 : b ≤ 9999) (d0 : 0 ≤ d) (d1 : d ≤ 9999999) : C_Su_addTimes 99 a b d h = some (0, six h (sg F gN (-1) 24 + a) (sg F (gvV V) (-1) 24 + a * b) (sg F F (-1) 24 + a * d) (sg F (gVV V) (-1) 24 + a * (b * b)) (sg F (gVD V F) (-1) 24 + a * (b * d)) (sg F (gDD F) (-1) 24 + a * (d * d))) := by
  rw [s_addTimes k, e6, e7, e8, e9, e10, e11]
  have s := sgb o f (-1)
  have m1 := mul_d 9999 9999 b0 b1 b0 b1
  have m2 := mul_c 9999 9999999 b0 b1 d0 d1
  have m3 := mul_b 9999999 9999999 d0 d1 d0 d1
  have x1 : w64 (a * b) = a * b := by rcases ha with q | q <;> rw [q] <;> exact w64_id (by omega) (by omega)
  have x2 : w64 (a * d) = a * d := by rcases ha with q | q <;> rw [q] <;> exact w64_id (by omega) (by omega)
  have x3 : w64 (a * b * b) = a * (b * b) := by rw [Int.mul_assoc]; rcases ha with q | q <;> rw [q] <;> exact w64_id (by omega) (by omega)
  have x4 : w64 (a * b * d) = a * (b * d) := by rw [Int.mul_assoc]; rcases ha with q | q <;> rw [q] <;> exact w64_id (by omega) (by omega)
  have x5 : w64 (a * d * d) = a * (d * d) := by rw [Int.mul_assoc]; rcases ha with q | q <;> rw [q] <;> exact w64_id (by omega) (by omega)
  rw [x1, x2, x3, x4, x5]
  have y0 : w32 (sg F gN (-1) 24 + a) = sg F gN (-1) 24 + a := w32_id (by omega) (by omega)
  have y1 : w64 (sg F (gvV V) (-1) 24 + a * b) = sg F (gvV V) (-1) 24 + a * b := by rcases ha with q | q <;> rw [q] <;> exact w64_id (by omega) (by omega)
  have y2 : w64 (sg F F (-1) 24 + a * d) = sg F F (-1) 24 + a * d := by rcases ha with q | q <;> rw [q] <;> exact w64_id (by omega) (by omega)
  have y3 : w64 (sg F (gVV V) (-1) 24 + a * (b * b)) = sg F (gVV V) (-1) 24 + a * (b * b) := by rcases ha with q | q <;> rw [q] <;> exact w64_id (by omega) (by omega)
  have y4 : w64 (sg F (gVD V F) (-1) 24 + a * (b * d)) = sg F (gVD V F) (-1) 24 + a * (b * d) := by rcases ha with q | q <;> rw [q] <;> exact w64_id (by omega) (by omega)
  have y5 : w64 (sg F (gDD F) (-1) 24 + a * (d * d)) = sg F (gDD F) (-1) 24 + a * (d * d) := by rcases ha with q | q <;> rw [q] <;> exact w64_id (by omega) (by omega)
  rw [y0, y1, y2, y3, y4, y5]
  rfl
theorem Fok_up {V F : Int → Int} (f : Fok V F) {t d : Int} (t1 : t < V 1) (d0 : -1 ≤ d) (d1 : d ≤ 9999999) : Fok V (up1 F t d) := by
  intro s s0 s1
  by_cases q : s = t
  · rw [q, up1_s]; omega
  · rw [up1_n q]; exact f s s0 s1
theorem s_join {h : Hp} {c hh y : Int} {V U : Int → Int} (w : LK h c hh y V U) {F : Int → Int} (u : SU h V F) {t d : Int} (t0 : 0 ≤ t) (t1 : t < V 1) (n : F t = -1) (d0 : 0 ≤ d) (d1 : d ≤ 9999999) : ∃ h', C_Su_join 99 t d h = some (0, h') ∧ Fr pF h h' ∧ SU h' V (up1 F t d) := by
  have n0 := lkn0 w
  have n1 := lkn1 w
  have o := w.2.2.2.2.2.2.1
  have f1 : Fr pF h (mW h 113 t d) := Fr.W h d (Or.inr rfl)
  have w1 := w.of (f1.to pF_S)
  obtain ⟨f, ur, e6, e7, e8, e9, e10, e11⟩ := u
  have v := o.2.2.2.1 t t0 t1
  rw [E_Su_join]
  simp (disch := omega) only [lkS w, if_true, lk4 w, lkS113 w, hb_eq, lkS w1, lk0 w1, lkC w1, lkc6 w1, lkA4 w1, lkv4 w1]
  rw [s_add (lkS w1) o f (by rw [mR_ne (by decide), e6]) (by rw [mR_ne (by decide), e7]) (by rw [mR_ne (by decide), e8]) (by rw [mR_ne (by decide), e9]) (by rw [mR_ne (by decide), e10]) (by rw [mR_ne (by decide), e11]) (Or.inl rfl) v.1 v.2 d0 d1]
  refine ⟨_, rfl, f1.tr (six_fr _ _ _ _ _ _ _), Fok_up f t1 (by omega) d1, ?_, ?_, ?_, ?_, ?_, ?_, ?_⟩
  · intro s s0 s1
    rw [six_o _ _ _ _ _ _ _ _ _ (by decide), mR_mW]
    by_cases q : s = t
    · rw [if_pos ⟨rfl, q⟩, q, up1_s]
    · rw [if_neg (fun z => q z.2), up1_n q]; exact ur s s0 s1
  · rw [six6, sg_join (g := gN) t0 (by omega) (by omega) d0 (fun _ _ => rfl)]; rfl
  · rw [six7, sg_join (g := gvV V) t0 (by omega) (by omega) d0 (fun _ _ => rfl), Int.one_mul]; rfl
  · rw [six8, sg_join (g := F) t0 (by omega) (by omega) d0 (fun s q => up1_n q), Int.one_mul, up1_s]
  · rw [six9, sg_join (g := gVV V) t0 (by omega) (by omega) d0 (fun _ _ => rfl), Int.one_mul]; rfl
  · rw [six10, sg_join (g := gVD V F) t0 (by omega) (by omega) d0 (fun s q => by unfold gVD; rw [up1_n q]), Int.one_mul]
    unfold gVD; rw [up1_s]
  · rw [six11, sg_join (g := gDD F) t0 (by omega) (by omega) d0 (fun s q => by unfold gDD; rw [up1_n q]), Int.one_mul]
    unfold gDD; rw [up1_s]
theorem s_drop {h : Hp} {c hh y : Int} {V U : Int → Int} (w : LK h c hh y V U) {F : Int → Int} (u : SU h V F) {t : Int} (t0 : 0 ≤ t) (t1 : t < V 1) (p : 0 ≤ F t) : ∃ h', C_Su_drop 99 t h = some (0, h') ∧ Fr pF h h' ∧ SU h' V (up1 F t (-1)) := by
  have n0 := lkn0 w
  have n1 := lkn1 w
  have o := w.2.2.2.2.2.2.1
  obtain ⟨f, ur, e6, e7, e8, e9, e10, e11⟩ := u
  have v := o.2.2.2.1 t t0 t1
  have d1 := (f t t0 (by omega)).2.1
  rw [E_Su_drop]
  simp (disch := omega) only [lkS w, if_true, lk0 w, lk4 w, lkC w, lkc6 w, lkA4 w, lkv4 w, lkA113 w, ur t]
  rw [s_add (lkS w) o f e6 e7 e8 e9 e10 e11 (Or.inr rfl) v.1 v.2 p d1]
  have f1 := six_fr h (sg F gN (-1) 24 + -1) (sg F (gvV V) (-1) 24 + -1 * V (9 + t)) (sg F F (-1) 24 + -1 * F t) (sg F (gVV V) (-1) 24 + -1 * (V (9 + t) * V (9 + t))) (sg F (gVD V F) (-1) 24 + -1 * (V (9 + t) * F t)) (sg F (gDD F) (-1) 24 + -1 * (F t * F t))
  have w1 := w.of (f1.to pF_S)
  rw [bind_some']
  simp (disch := omega) only [lkS w1, if_true, lk4 w1, lkS113 w1, hb_eq]
  refine ⟨_, rfl, f1.tr (Fr.W _ _ (Or.inr rfl)), Fok_up f t1 (by omega) (by omega), ?_, ?_, ?_, ?_, ?_, ?_, ?_⟩
  · intro s s0 s1
    rw [mR_mW]
    by_cases q : s = t
    · rw [if_pos ⟨rfl, q⟩, q, up1_s]
    · rw [if_neg (fun z => q z.2), up1_n q, six_o _ _ _ _ _ _ _ _ _ (by decide)]; exact ur s s0 s1
  · rw [mR_ne (by decide), six6, sg_drop (g := gN) t0 (by omega) p (fun _ _ => rfl)]; rfl
  · rw [mR_ne (by decide), six7, sg_drop (g := gvV V) t0 (by omega) p (fun _ _ => rfl)]; unfold gvV; omega
  · rw [mR_ne (by decide), six8, sg_drop (g := F) t0 (by omega) p (fun s q => up1_n q)]; omega
  · rw [mR_ne (by decide), six9, sg_drop (g := gVV V) t0 (by omega) p (fun _ _ => rfl)]; show _ = _ - V (9 + t) * V (9 + t); omega
  · rw [mR_ne (by decide), six10, sg_drop (g := gVD V F) t0 (by omega) p (fun s q => by unfold gVD; rw [up1_n q])]; show _ = _ - V (9 + t) * F t; omega
  · rw [mR_ne (by decide), six11, sg_drop (g := gDD F) t0 (by omega) p (fun s q => by unfold gDD; rw [up1_n q])]; show _ = _ - F t * F t; omega
theorem sg_none {F g : Int → Int} {x : Int} : ∀ n : Nat, (∀ t : Int, 0 ≤ t → t < n → F t < 0) → sg F g x n = 0
  | 0, _ => rfl
  | n + 1, h => by
    unfold sg
    rw [sg_none n (fun t t0 t1 => h t t0 (by omega))]
    unfold tmS
    rw [if_pos (Or.inl (h n (by omega) (by omega)))]; rfl
theorem l_forget {c hh y : Int} {V U : Int → Int} : ∀ (n : Nat) (k : Int) (h : Hp), LK h c hh y V U → 0 ≤ k → k + n = 24 → (∀ i, 0 ≤ i → i < k → mR h 113 i = -1) → ∃ h', P_Su_forget_2 99 k h = some (0, h') ∧ Fr pF h h' ∧ SU h' V (fun _ => -1) := by
  intro n
  induction n with
  | zero =>
    intro k h w k0 hk hs
    rw [E_Su_forget_2]
    have : ¬ k < 24 := by omega
    simp only [this, if_false, hb_eq, okF_W, lkS w, if_true]
    refine ⟨six h 0 0 0 0 0 0, rfl, six_fr _ _ _ _ _ _ _, fun t _ _ => ⟨Int.le_refl _, (by decide : (-1 : Int) ≤ 9999999), fun _ => rfl⟩, fun t t0 t1 => ?_, ?_, ?_, ?_, ?_, ?_, ?_⟩
    · rw [six_o _ _ _ _ _ _ _ _ _ (by decide)]; exact hs t t0 (by omega)
    · rw [six6, sg_none 24 (fun t _ _ => by decide)]
    · rw [six7, sg_none 24 (fun t _ _ => by decide)]
    · rw [six8, sg_none 24 (fun t _ _ => by decide)]
    · rw [six9, sg_none 24 (fun t _ _ => by decide)]
    · rw [six10, sg_none 24 (fun t _ _ => by decide)]
    · rw [six11, sg_none 24 (fun t _ _ => by decide)]
  | succ n ih =>
    intro k h w k0 hk hs
    have f1 : Fr pF h (mW h 113 k (-1)) := Fr.W h _ (Or.inr rfl)
    obtain ⟨h', g1, g2, g3⟩ := ih (k + 1) (mW h 113 k (-1)) (w.of (f1.to pF_S)) (by omega) (by omega) (fun i i0 i1 => by
      rw [mR_mW]
      by_cases q : i = k
      · rw [if_pos ⟨rfl, q⟩]
      · rw [if_neg (fun z => q z.2)]; exact hs i i0 (by omega))
    refine ⟨h', ?_, f1.tr g2, g3⟩
    rw [E_Su_forget_2]
    have : k < 24 := by omega
    simp (disch := omega) only [this, if_true, lkS w, lk4 w, lkS113 w, hb_eq, w32_id]
    exact g1
