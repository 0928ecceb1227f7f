/-! The reference: the ladder. -/
def ModS (h : Hp) : Prop := mK h 124 = 12 ∧ (mR h 124 0 = 125 ∧ mR h 124 1 = 126 ∧ mR h 124 10 = 127 ∧ mR h 124 11 = 128 ∧ mR h 124 12 = 129 ∧ mR h 124 22 = 130 ∧ mR h 124 23 = 131 ∧ mR h 124 27 = 132 ∧ mR h 124 28 = 133) ∧ (mK h 125 = 102 ∧ mL h 125 = 7560) ∧ (mK h 126 = 104 ∧ mL h 126 = 3) ∧ (mK h 127 = 102 ∧ mL h 127 = 330) ∧ (mK h 128 = 102 ∧ mL h 128 = 6) ∧ (mK h 129 = 102 ∧ mL h 129 = 24) ∧ (mK h 130 = 102 ∧ mL h 130 = 24) ∧ (mK h 131 = 102 ∧ mL h 131 = 24) ∧ (mK h 132 = 103 ∧ mL h 132 = 24) ∧ (mK h 133 = 103 ∧ mL h 133 = 24)
theorem ModS.of {h h' : Hp} (w : ModS h) (k : SK h h') (r : ∀ i, i ∈ [0, 1, 10, 11, 12, 22, 23, 27, 28] → mR h' 124 i = mR h 124 i) : ModS h' := by
  unfold ModS at w ⊢
  simp only [k.k, k.l]
  rw [r 0 (by simp), r 1 (by simp), r 10 (by simp), r 11 (by simp), r 12 (by simp), r 22 (by simp), r 23 (by simp), r 27 (by simp), r 28 (by simp)]
  exact w
def MK (h : Hp) (a b y : Int) (V U : Int → Int) : Prop := ModS h ∧ (0 ≤ a ∧ a + 330 ≤ 7560) ∧ (0 ≤ b ∧ b + 26 ≤ 7560) ∧ (∀ o, 0 ≤ o → o < 330 → mR h 125 (a + o) = V o) ∧ (∀ o, 0 ≤ o → o < 26 → mR h 125 (b + o) = U o) ∧ Vok V ∧ Uok U ∧ y = y
def pM (b i : Int) : Prop := (b = 124 ∧ 13 ≤ i ∧ i ≤ 21) ∨ b = 128 ∨ b = 129
theorem MK.of {h h' : Hp} {a b y : Int} {V U : Int → Int} (w : MK h a b y V U) (f : Fr pM h h') : MK h' a b y V U := by
  refine ⟨w.1.of f.1 (fun i hi => f.2 124 i (by unfold pM; simp at hi; omega)), w.2.1, w.2.2.1, fun o o0 o1 => ?_, fun o o0 o1 => ?_, w.2.2.2.2.2⟩
  · rw [f.2 125 _ (by unfold pM; omega)]; exact w.2.2.2.1 o o0 o1
  · rw [f.2 125 _ (by unfold pM; omega)]; exact w.2.2.2.2.1 o o0 o1
theorem mkO {h : Hp} {a b y : Int} {V U : Int → Int} (w : MK h a b y V U) : okF h 124 12 = true := okF_t w.1.1
theorem mk0 {h : Hp} {a b y : Int} {V U : Int → Int} (w : MK h a b y V U) : mR h 124 0 = 125 := w.1.2.1.1
theorem mk11 {h : Hp} {a b y : Int} {V U : Int → Int} (w : MK h a b y V U) : mR h 124 11 = 128 := w.1.2.1.2.2.2.1
theorem mk12 {h : Hp} {a b y : Int} {V U : Int → Int} (w : MK h a b y V U) : mR h 124 12 = 129 := w.1.2.1.2.2.2.2.1
theorem mkA {h : Hp} {a b y : Int} {V U : Int → Int} (w : MK h a b y V U) {i : Int} (h0 : 0 ≤ i) (h1 : i < 7560) : okA h 125 102 i = true := okA_t w.1.2.2.1 h0 h1
theorem mkA8 {h : Hp} {a b y : Int} {V U : Int → Int} (w : MK h a b y V U) {i : Int} (h0 : 0 ≤ i) (h1 : i < 6) : okA h 128 102 i = true := okA_t w.1.2.2.2.2.2.1 h0 h1
theorem mkA9 {h : Hp} {a b y : Int} {V U : Int → Int} (w : MK h a b y V U) {i : Int} (h0 : 0 ≤ i) (h1 : i < 24) : okA h 129 102 i = true := okA_t w.1.2.2.2.2.2.2.1 h0 h1
theorem mkS8 {h : Hp} {a b y : Int} {V U : Int → Int} (w : MK h a b y V U) {i : Int} (h0 : 0 ≤ i) (h1 : i < 6) : okS h 128 102 i = true := okS_t w.1.2.2.2.2.2.1 (by omega) h0 h1
theorem mkS9 {h : Hp} {a b y : Int} {V U : Int → Int} (w : MK h a b y V U) {i : Int} (h0 : 0 ≤ i) (h1 : i < 24) : okS h 129 102 i = true := okS_t w.1.2.2.2.2.2.2.1 (by omega) h0 h1
theorem mkn {h : Hp} {a b y : Int} {V U : Int → Int} (w : MK h a b y V U) : (0 ≤ a ∧ a + 330 ≤ 7560) ∧ (0 ≤ b ∧ b + 26 ≤ 7560) ∧ (0 ≤ V 0 ∧ V 0 ≤ 6) ∧ (0 ≤ V 1 ∧ V 1 ≤ 24) ∧ (0 ≤ U 3 ∧ U 3 ≤ 8) := ⟨w.2.1, w.2.2.1, w.2.2.2.2.2.1.1, w.2.2.2.2.2.1.2.1, w.2.2.2.2.2.2.1.1⟩
theorem mkV0 {h : Hp} {a b y : Int} {V U : Int → Int} (w : MK h a b y V U) : mR h 125 (a + 0) = V 0 := w.2.2.2.1 0 (by omega) (by omega)
theorem mkV1 {h : Hp} {a b y : Int} {V U : Int → Int} (w : MK h a b y V U) : mR h 125 (a + 1) = V 1 := w.2.2.2.1 1 (by omega) (by omega)
theorem mkV3 {h : Hp} {a b y : Int} {V U : Int → Int} (w : MK h a b y V U) {r : Int} (h0 : 0 ≤ r) (h1 : r < 6) : mR h 125 (a + 3 + r) = V (3 + r) := by rw [Int.add_assoc]; exact w.2.2.2.1 _ (by omega) (by omega)
theorem mkV9 {h : Hp} {a b y : Int} {V U : Int → Int} (w : MK h a b y V U) {t : Int} (h0 : 0 ≤ t) (h1 : t < 24) : mR h 125 (a + 9 + t) = V (9 + t) := by rw [Int.add_assoc]; exact w.2.2.2.1 _ (by omega) (by omega)
theorem mkV33 {h : Hp} {a b y : Int} {V U : Int → Int} (w : MK h a b y V U) {t r : Int} (h0 : 0 ≤ t) (h1 : t < 24) (r0 : 0 ≤ r) (r1 : r < 6) : mR h 125 (a + 33 + 6 * t + r) = V (33 + 6 * t + r) := by rw [show a + 33 + 6 * t + r = a + (33 + 6 * t + r) by omega]; exact w.2.2.2.1 _ (by omega) (by omega)
theorem mkV177 {h : Hp} {a b y : Int} {V U : Int → Int} (w : MK h a b y V U) {t r : Int} (h0 : 0 ≤ t) (h1 : t < 24) (r0 : 0 ≤ r) (r1 : r < 6) : mR h 125 (a + 177 + 6 * t + r) = V (177 + 6 * t + r) := by rw [show a + 177 + 6 * t + r = a + (177 + 6 * t + r) by omega]; exact w.2.2.2.1 _ (by omega) (by omega)
theorem mkU0 {h : Hp} {a b y : Int} {V U : Int → Int} (w : MK h a b y V U) : mR h 125 (b + 0) = U 0 := w.2.2.2.2.1 0 (by omega) (by omega)
theorem mkU1 {h : Hp} {a b y : Int} {V U : Int → Int} (w : MK h a b y V U) : mR h 125 (b + 1) = U 1 := w.2.2.2.2.1 1 (by omega) (by omega)
theorem mkU2 {h : Hp} {a b y : Int} {V U : Int → Int} (w : MK h a b y V U) : mR h 125 (b + 2) = U 2 := w.2.2.2.2.1 2 (by omega) (by omega)
theorem mkU3 {h : Hp} {a b y : Int} {V U : Int → Int} (w : MK h a b y V U) : mR h 125 (b + 3) = U 3 := w.2.2.2.2.1 3 (by omega) (by omega)
theorem mkU4 {h : Hp} {a b y : Int} {V U : Int → Int} (w : MK h a b y V U) {r : Int} (h0 : 0 ≤ r) (h1 : r < 6) : mR h 125 (b + 4 + r) = U (4 + r) := by rw [Int.add_assoc]; exact w.2.2.2.2.1 _ (by omega) (by omega)
theorem mkU10 {h : Hp} {a b y : Int} {V U : Int → Int} (w : MK h a b y V U) {i : Int} (h0 : 0 ≤ i) (h1 : i < 8) : mR h 125 (b + 10 + 2 * i) = U (10 + 2 * i) := by rw [Int.add_assoc]; exact w.2.2.2.2.1 _ (by omega) (by omega)
theorem mkU11 {h : Hp} {a b y : Int} {V U : Int → Int} (w : MK h a b y V U) {i : Int} (h0 : 0 ≤ i) (h1 : i < 8) : mR h 125 (b + 10 + 2 * i + 1) = U (11 + 2 * i) := by rw [show b + 10 + 2 * i + 1 = b + (11 + 2 * i) by omega]; exact w.2.2.2.2.1 _ (by omega) (by omega)
theorem m_cast {h : Hp} {a b y : Int} {V U : Int → Int} (w : MK h a b y V U) {t : Int} : C_Mo_isCast 124 b t h = some (if bitT (U 2) t = true then 1 else 0, h) := by
  have n := mkn w
  rw [E_Mo_isCast]
  simp (disch := omega) only [mkO w, mk0 w, mk11 w, mk12 w, mkA w, mkA8 w, mkA9 w, mkS8 w, mkS9 w, mkV0 w, mkV1 w, mkV3 w, mkV9 w, mkV33 w, mkV177 w, mkU0 w, mkU1 w, mkU2 w, mkU3 w, mkU4 w, mkU10 w, mkU11 w, w32_id, ↓reduceIte, bind_some', hb_eq, bitT, decide_eq_true_eq]
  split <;> rfl
theorem m_known {h : Hp} {a b y : Int} {V U : Int → Int} (w : MK h a b y V U) {t r : Int} (t0 : 0 ≤ t) (t1 : t < V 1) (r0 : 0 ≤ r) (r1 : r < V 0) : C_Mo_isKnown 124 a t r y h = some (if rawY V y t r = 0 then 0 else 1, h) := by
  have n := mkn w
  rw [E_Mo_isKnown]
  have k := w.2.2.2.2.2.1.2.2.2.2 t r t0 t1 r0 r1
  simp (disch := omega) only [mkO w, mk0 w, mk11 w, mk12 w, mkA w, mkA8 w, mkA9 w, mkS8 w, mkS9 w, mkV0 w, mkV1 w, mkV3 w, mkV9 w, mkV33 w, mkV177 w, mkU0 w, mkU1 w, mkU2 w, mkU3 w, mkU4 w, mkU10 w, mkU11 w, w32_id, ↓reduceIte, bind_some', hb_eq]
  unfold rawY
  by_cases q : y < V (177 + 6 * t + r)
  · simp only [q, if_true]
    split <;> rfl
  · simp only [q, if_false]
    by_cases q2 : 0 < V (33 + 6 * t + r)
    · rw [if_pos q2, if_neg (by omega)]
    · rw [if_neg q2, if_pos (by omega)]
theorem m_atMost (x : Int) (h : Hp) : C_Mo_atMost x h = some (atM x, h) := by
  rw [E_Mo_atMost]; unfold atM; split <;> rfl
theorem m_farBy {h : Hp} {a b y : Int} {V U : Int → Int} (w : MK h a b y V U) {t r : Int} (t0 : 0 ≤ t) (t1 : t < V 1) (r0 : 0 ≤ r) (r1 : r < V 0) (k : rawY V y t r ≠ 0) (s : mR h 128 r ≠ -1) : C_Mo_farBy 124 a t r h = some (fB V y (mR h 128) t r, h) := by
  have n := mkn w
  have e : rawY V y t r = V (33 + 6 * t + r) := by
    unfold rawY at k ⊢
    by_cases q : y < V (177 + 6 * t + r)
    · rw [if_pos q] at k; exact absurd rfl k
    · rw [if_neg q]
  have f : fB V y (mR h 128) t r = atM (w64 (Int.tdiv (w64 (rawY V y t r * mR h 128 r)) 1000)) := if_neg (fun z => z.elim k s)
  rw [E_Mo_farBy, f, e]
  simp (disch := omega) only [mkO w, mk0 w, mk11 w, mk12 w, mkA w, mkA8 w, mkA9 w, mkS8 w, mkS9 w, mkV0 w, mkV1 w, mkV3 w, mkV9 w, mkV33 w, mkV177 w, mkU0 w, mkU1 w, mkU2 w, mkU3 w, mkU4 w, mkU10 w, mkU11 w, w32_id, ↓reduceIte, bind_some', hb_eq, m_atMost]
theorem l_ladder53 {h : Hp} {a b y : Int} {V U : Int → Int} (w : MK h a b y V U) {r q : Int} (r0 : 0 ≤ r) (r1 : r < V 0) (q0 : 0 ≤ q) (q1 : q < V 0) (s0 : -1 ≤ mR h 128 q) (s1 : mR h 128 q ≤ 9999999) (s2 : mR h 128 q ≠ -1) :
    ∀ (n : Nat) (t : Int) (p : Int × Int), 0 ≤ t → t + n = V 1 → P_Mo_ladder_53 124 a b y r q p.1 p.2 t h = P_Mo_ladder_160 124 a b y r (itN (fsO V y (mR h 128) (U 2) r q) n t p).1 (itN (fsO V y (mR h 128) (U 2) r q) n t p).2 h := by
  have nn := mkn w
  have o := w.2.2.2.2.2.1
  intro n
  induction n with
  | zero =>
    intro t p t0 ht
    rw [E_Mo_ladder_53]
    have : ¬ t < V 1 := by omega
    simp (disch := omega) only [mkO w, mk0 w, mk11 w, mk12 w, mkA w, mkA8 w, mkA9 w, mkS8 w, mkS9 w, mkV0 w, mkV1 w, mkV3 w, mkV9 w, mkV33 w, mkV177 w, mkU0 w, mkU1 w, mkU2 w, mkU3 w, mkU4 w, mkU10 w, mkU11 w, w32_id, ↓reduceIte, bind_some', hb_eq, this, if_false, itN]
  | succ n ih =>
    intro t p t0 ht
    rw [E_Mo_ladder_53]
    have z : t < V 1 := by omega
    have ns : ¬ mR h 128 q < 0 := by omega
    have fb := fB_b o (y := y) (S := mR h 128) t0 z q0 q1 s0 s1
    have e : ∀ x, fsO V y (mR h 128) (U 2) r q t p = x → itN (fsO V y (mR h 128) (U 2) r q) n (t + 1) (fsO V y (mR h 128) (U 2) r q t p) = itN (fsO V y (mR h 128) (U 2) r q) n (t + 1) x := fun x q => by rw [q]
    simp (disch := omega) only [mkO w, mk0 w, mk11 w, mk12 w, mkA w, mkA8 w, mkA9 w, mkS8 w, mkS9 w, mkV0 w, mkV1 w, mkV3 w, mkV9 w, mkV33 w, mkV177 w, mkU0 w, mkU1 w, mkU2 w, mkU3 w, mkU4 w, mkU10 w, mkU11 w, w32_id, ↓reduceIte, bind_some', hb_eq, z, ns, if_false, m_cast w, m_known w, itN]
    by_cases x1 : bitT (U 2) t = true
    · rw [e p (by simp [fsO, x1])]
      simp only [x1, if_true, (by decide : ¬ ((1 : Int) = 0)), if_false]
      exact ih (t + 1) p (by omega) (by omega)
    · simp only [x1, if_false, if_true]
      by_cases x2 : rawY V y t r = 0
      · rw [e p (by simp [fsO, x2])]
        simp only [x2, if_true]
        exact ih (t + 1) p (by omega) (by omega)
      · simp only [x2, if_false, (by decide : ¬ ((1 : Int) = 0))]
        by_cases x3 : rawY V y t q = 0
        · have x4 : fB V y (mR h 128) t q = -1 := fb.2.2.2 (Or.inl x3)
          rw [e p (by simp [fsO, x4])]
          simp only [x3, if_true]
          exact ih (t + 1) p (by omega) (by omega)
        · have x4 : fB V y (mR h 128) t q ≠ -1 := fun i => (fb.2.2.1 i).elim x3 s2
          have x5 : rawY V y t r = V (33 + 6 * t + r) := by
            unfold rawY at x2 ⊢
            by_cases q : y < V (177 + 6 * t + r)
            · rw [if_pos q] at x2; exact absurd rfl x2
            · rw [if_neg q]
          rw [e (w64 (p.1 + fB V y (mR h 128) t q), w64 (p.2 + rawY V y t r)) (by simp [fsO, x1, x2, x4])]
          simp (disch := omega) only [x3, if_false, (by decide : ¬ ((1 : Int) = 0)), m_farBy w t0 z q0 q1 x3 s2, bind_some', mkO w, if_true, mk0 w, mkA w, mkV33 w, w32_id, ← x5]
          exact ih (t + 1) (_, _) (by omega) (by omega)
theorem l_ladder160 {h : Hp} {a b y : Int} {V U : Int → Int} (w : MK h a b y V U) {r f s : Int} (r0 : 0 ≤ r) (r1 : r < V 0) (f0 : 0 ≤ f) (f1 : f ≤ 239999976) (s0 : 0 ≤ s) : P_Mo_ladder_160 124 a b y r f s h = P_Mo_ladder_3 124 a b y (r + 1) (mW h 128 r (clR (scE (f, s)) (U (4 + r)))) := by
  have nn := mkn w
  rw [E_Mo_ladder_160]
  by_cases q : s = 0
  · rw [if_pos q]
    have e : clR (scE (f, s)) (U (4 + r)) = -1 := by unfold clR; rw [if_pos (by unfold scE; rw [if_pos q])]
    simp (disch := omega) only [mkO w, mk0 w, mk11 w, mk12 w, mkA w, mkA8 w, mkA9 w, mkS8 w, mkS9 w, mkV0 w, mkV1 w, mkV3 w, mkV9 w, mkV33 w, mkV177 w, mkU0 w, mkU1 w, mkU2 w, mkU3 w, mkU4 w, mkU10 w, mkU11 w, w32_id, ↓reduceIte, bind_some', hb_eq, e, (by decide : (-1 : Int) < 0)]
  · rw [if_neg q, if_neg q]
    have d0 : scE (f, s) = w64 (Int.tdiv (w64 (1000 * f)) s) := if_neg q
    have d1 := Int.ediv_nonneg (a := 1000 * f) (b := s) (by omega) s0
    have d2 := Int.ediv_le_self (a := 1000 * f) s (by omega)
    have d3 : w64 (Int.tdiv (w64 (1000 * f)) s) = 1000 * f / s := by
      rw [w64_id (x := 1000 * f) (by omega) (by omega), Int.tdiv_eq_ediv_of_nonneg (by omega), w64_id (by omega) (by omega)]
    have e : clR (scE (f, s)) (U (4 + r)) = atM (w64 (Int.tdiv (w64 ((1000 * f / s) * w32 (100 + U (4 + r)))) 100)) := by unfold clR; rw [d0, d3, if_neg (by omega)]
    have ng : ¬ (1000 * f / s) < 0 := by omega
    rw [d3, e]
    have uk := w.2.2.2.2.2.2.1.2.1 r r0 (by omega)
    simp (disch := omega) only [mkO w, if_true, mk0 w, mk11 w, mkA w, mkU4 w, mkS8 w, ng, if_false, m_atMost, bind_some', hb_eq, w32_id (x := b + 4), w32_id (x := b + 4 + r), w32_id (x := r + 1)]
theorem l_ladder {a b y : Int} {V U : Int → Int} : ∀ (n : Nat) (k : Nat) (h : Hp), MK h a b y V U → k + n = V 0 → (∀ i : Int, 0 ≤ i → i < k → mR h 128 i = sclT V U y k i) →
    ∃ h', P_Mo_ladder_3 124 a b y k h = some (0, h') ∧ Fr pM h h' ∧ (∀ i, 0 ≤ i → i < V 0 → mR h' 128 i = sclT V U y (V 0).toNat i) := by
  intro n
  induction n with
  | zero =>
    intro k h w hk hs
    have nn := mkn w
    refine ⟨h, ?_, Fr.rf _ h, ?_⟩
    · rw [E_Mo_ladder_3]
      have : ¬ (k : Int) < V 0 := by omega
      simp (disch := omega) only [mkO w, mk0 w, mk11 w, mk12 w, mkA w, mkA8 w, mkA9 w, mkS8 w, mkS9 w, mkV0 w, mkV1 w, mkV3 w, mkV9 w, mkV33 w, mkV177 w, mkU0 w, mkU1 w, mkU2 w, mkU3 w, mkU4 w, mkU10 w, mkU11 w, w32_id, ↓reduceIte, bind_some', hb_eq, this, if_false]
    · intro i i0 i1
      rw [show (V 0).toNat = k by omega]
      exact hs i i0 (by omega)
  | succ n ih =>
    intro k h w hk hs
    have nn := mkn w
    have o := w.2.2.2.2.2.1
    have uk := w.2.2.2.2.2.2.1
    have kk : (k : Int) < V 0 := by omega
    have f : Fr pM h (mW h 128 k (clV V U y (mR h 128) k)) := Fr.W h _ (Or.inr (Or.inl rfl))
    have v1 := o.2.2.1 k (by omega) kk
    obtain ⟨h', g1, f', g2⟩ := ih (k + 1) (mW h 128 k (clV V U y (mR h 128) k)) (w.of f) (by omega) (fun i i0 i1 => by
      unfold sclT
      rw [mR_mW]
      by_cases q : i = (k : Int)
      · rw [if_pos ⟨rfl, q⟩, if_pos q]
        refine clV_congr (fun q => ?_)
        exact hs _ v1.1 (v1.2.2 q)
      · rw [if_neg (fun e => q e.2), if_neg q]
        exact hs i i0 (by omega))
    refine ⟨h', ?_, f.tr f', g2⟩
    have e2 : ((k + 1 : Nat) : Int) = (k : Int) + 1 := by omega
    rw [e2] at g1
    rw [← g1, E_Mo_ladder_3]
    simp (disch := omega) only [mkO w, mk0 w, mk11 w, mk12 w, mkA w, mkA8 w, mkA9 w, mkS8 w, mkS9 w, mkV0 w, mkV1 w, mkV3 w, mkV9 w, mkV33 w, mkV177 w, mkU0 w, mkU1 w, mkU2 w, mkU3 w, mkU4 w, mkU10 w, mkU11 w, w32_id, ↓reduceIte, bind_some', hb_eq, kk]
    by_cases q : V (3 + (k : Int)) < 100
    · rw [if_pos q]
      have q2 := v1.2.2 q
      have sb := sclT_b o uk y k (by omega) (V (3 + k))
      rw [← hs _ v1.1 q2] at sb
      have ce : clV V U y (mR h 128) k = clR (scE (itN (fsO V y (mR h 128) (U 2) k (V (3 + k))) (V 1).toNat 0 (0, 0))) (U (4 + k)) := by unfold clV scO; rw [if_pos q]
      rw [ce]
      by_cases q3 : mR h 128 (V (3 + k)) = -1
      · have ie : itN (fsO V y (mR h 128) (U 2) k (V (3 + k))) (V 1).toNat 0 (0, 0) = (0, 0) := itN_idle _ _ _ (fun j _ _ => by
          have : fB V y (mR h 128) j (V (3 + k)) = -1 := if_pos (Or.inr q3)
          simp [fsO, this])
        rw [ie, ← l_ladder160 w (by omega) kk (by omega) (by omega) (by omega), E_Mo_ladder_53]
        have q4 : mR h 128 (V (3 + k)) < 0 := by omega
        simp (disch := omega) only [mkO w, mk0 w, mk11 w, mk12 w, mkA w, mkA8 w, mkA9 w, mkS8 w, mkS9 w, mkV0 w, mkV1 w, mkV3 w, mkV9 w, mkV33 w, mkV177 w, mkU0 w, mkU1 w, mkU2 w, mkU3 w, mkU4 w, mkU10 w, mkU11 w, w32_id, ↓reduceIte, bind_some', hb_eq, q4]
        split <;> rfl
      · have fb := fsO_b o (y := y) (cb := U 2) (r := k) (q := V (3 + k)) (S := mR h 128) (by omega) kk v1.1 (by omega) sb.1 sb.2 (V 1).toNat (by omega)
        rw [l_ladder53 w (by omega) kk v1.1 (by omega) sb.1 sb.2 q3 (V 1).toNat 0 (0, 0) (by omega) (by omega), l_ladder160 w (by omega) kk (by omega) (by omega) (by omega)]
    · rw [if_neg q]
      have q4 : ¬ V (3 + (k : Int)) - 100 < 0 := by omega
      have ce : clV V U y (mR h 128) k = atM (w64 (Int.tdiv (w64 ((V (3 + k) - 100) * w32 (100 + U (4 + k)))) 100)) := by unfold clV clR; rw [if_neg q, if_neg (by omega)]
      have uu := uk.2.1 k (by omega) (by omega)
      rw [ce, w32_id (x := 100 + U (4 + (k : Int))) (by omega) (by omega)]
      simp (disch := omega) only [mkO w, mk0 w, mk11 w, mk12 w, mkA w, mkA8 w, mkA9 w, mkS8 w, mkS9 w, mkV0 w, mkV1 w, mkV3 w, mkV9 w, mkV33 w, mkV177 w, mkU0 w, mkU1 w, mkU2 w, mkU3 w, mkU4 w, mkU10 w, mkU11 w, w32_id, ↓reduceIte, bind_some', hb_eq, q4, if_false, m_atMost]
theorem m_ladder {h : Hp} {a b y : Int} {V U : Int → Int} (w : MK h a b y V U) : ∃ h', C_Mo_ladder 124 a b y h = some (0, h') ∧ Fr pM h h' ∧ (∀ i, 0 ≤ i → i < V 0 → mR h' 128 i = sclT V U y (V 0).toNat i) := by
  have nn := mkn w
  rw [E_Mo_ladder]
  exact l_ladder (V 0).toNat 0 h w (by omega) (fun i i0 i1 => by omega)
