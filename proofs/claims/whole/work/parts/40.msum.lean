/-! The reference: sums, spreads, the odd one. -/
def pN (b i : Int) : Prop := b = 124 ∧ 13 ≤ i ∧ i ≤ 18
theorem pN_M (b i : Int) (q : pN b i) : pM b i := by unfold pN at q; unfold pM; omega
def sixM (h : Hp) (a b c d e f : Int) : Hp := mW (mW (mW (mW (mW (mW h 124 13 a) 124 14 b) 124 15 c) 124 16 d) 124 17 e) 124 18 f
theorem sixM_fr (h : Hp) (a b c d e f : Int) : Fr pN h (sixM h a b c d e f) :=
  (((((Fr.W h a ⟨rfl, by decide⟩).tr (Fr.W _ b ⟨rfl, by decide⟩)).tr (Fr.W _ c ⟨rfl, by decide⟩)).tr (Fr.W _ d ⟨rfl, by decide⟩)).tr (Fr.W _ e ⟨rfl, by decide⟩)).tr (Fr.W _ f ⟨rfl, by decide⟩)
theorem sixM13 (h : Hp) (a b c d e f : Int) : mR (sixM h a b c d e f) 124 13 = a := by simp [sixM, mR_mW]
theorem sixM14 (h : Hp) (a b c d e f : Int) : mR (sixM h a b c d e f) 124 14 = b := by simp [sixM, mR_mW]
theorem sixM15 (h : Hp) (a b c d e f : Int) : mR (sixM h a b c d e f) 124 15 = c := by simp [sixM, mR_mW]
theorem sixM16 (h : Hp) (a b c d e f : Int) : mR (sixM h a b c d e f) 124 16 = d := by simp [sixM, mR_mW]
theorem sixM17 (h : Hp) (a b c d e f : Int) : mR (sixM h a b c d e f) 124 17 = e := by simp [sixM, mR_mW]
theorem sixM18 (h : Hp) (a b c d e f : Int) : mR (sixM h a b c d e f) 124 18 = f := by simp [sixM, mR_mW]
/-- the fars of the reference -/
def FM (h : Hp) (V F : Int → Int) : Prop := Fok V F ∧ ∀ t, 0 ≤ t → t < 24 → mR h 129 t = F t
theorem FM.of {h h' : Hp} {V F : Int → Int} (w : FM h V F) (f : Fr pN h h') : FM h' V F := ⟨w.1, fun t t0 t1 => by rw [f.2 129 t (by unfold pN; omega)]; exact w.2 t t0 t1⟩
theorem l_sumStep {h : Hp} {a b y : Int} {V U : Int → Int} (w : MK h a b y V U) {F : Int → Int} (u : FM h V F) {t x : Int} (t0 : 0 ≤ t) (t1 : t < 24) (p : ¬ F t < 0) (tx : t ≠ x) : P_Mo_sums_32 124 a x t h = P_Mo_sums_32 124 a x (t + 1) (sixM h (w32 (mR h 124 13 + 1)) (w64 (mR h 124 14 + V (9 + t))) (w64 (mR h 124 15 + F t)) (w64 (mR h 124 16 + w64 (V (9 + t) * V (9 + t)))) (w64 (mR h 124 17 + w64 (V (9 + t) * F t))) (w64 (mR h 124 18 + w64 (F t * F t)))) := by
  have nn := mkn w
  have k := mkO w
  rw [E_Mo_sums_32]
  have n14 : ∀ (g : Hp) (i v : Int), i < 14 → mR (mW g 124 i v) 124 14 = mR g 124 14 := fun g i v q => mR_ni (by omega)
  have n15 : ∀ (g : Hp) (i v : Int), i < 15 → mR (mW g 124 i v) 124 15 = mR g 124 15 := fun g i v q => mR_ni (by omega)
  have n16 : ∀ (g : Hp) (i v : Int), i < 16 → mR (mW g 124 i v) 124 16 = mR g 124 16 := fun g i v q => mR_ni (by omega)
  have n17 : ∀ (g : Hp) (i v : Int), i < 17 → mR (mW g 124 i v) 124 17 = mR g 124 17 := fun g i v q => mR_ni (by omega)
  have n18 : ∀ (g : Hp) (i v : Int), i < 18 → mR (mW g 124 i v) 124 18 = mR g 124 18 := fun g i v q => mR_ni (by omega)
  rw [if_pos t1, if_pos (mkO w), mk12 w, if_pos (mkA9 w t0 t1), u.2 t t0 t1, if_neg p, if_neg tx, if_pos (mkO w), mk0 w, w32_id (x := a + 9) (by omega) (by omega), w32_id (x := a + 9 + t) (by omega) (by omega), w32_id (x := t + 1) (by omega) (by omega), if_pos (mkA w (by omega) (by omega)), mkV9 w t0 t1, if_pos (mkO w), if_pos (mkA9 w t0 t1), if_pos (mkO w), if_pos (mkO w)]
  rw [hb_eq]
  simp (disch := decide) only [okF_W, k, ↓reduceIte, n14]
  rw [hb_eq]
  simp (disch := decide) only [okF_W, k, ↓reduceIte, n15]
  rw [hb_eq]
  simp (disch := decide) only [okF_W, k, ↓reduceIte, n16]
  rw [hb_eq]
  simp (disch := decide) only [okF_W, k, ↓reduceIte, n17]
  rw [hb_eq]
  simp (disch := decide) only [okF_W, k, ↓reduceIte, n18]
  rw [hb_eq]
  rfl
theorem sgbN {V F : Int → Int} (o : Vok V) (f : Fok V F) (x : Int) (n : Nat) (hn : n ≤ 24) : (-24 ≤ sg F gN x n ∧ sg F gN x n ≤ 24) ∧ (-239976 ≤ sg F (gvV V) x n ∧ sg F (gvV V) x n ≤ 239976) ∧ (-239999976 ≤ sg F F x n ∧ sg F F x n ≤ 239999976) ∧ (-2399520024 ≤ sg F (gVV V) x n ∧ sg F (gVV V) x n ≤ 2399520024) ∧ (-2399759760024 ≤ sg F (gVD V F) x n ∧ sg F (gVD V F) x n ≤ 2399759760024) ∧ (-2399999520000024 ≤ sg F (gDD F) x n ∧ sg F (gDD F) x n ≤ 2399999520000024) := by
  have b1 := sg_b (F := F) (g := gN) (x := x) 1 n (fun t _ _ _ => by unfold gN; omega) (by omega)
  have b2 := sg_b (F := F) (g := gvV V) (x := x) 9999 n (fun t t0 t1 p => by have := gb o f t0 (by omega) p; unfold gvV; omega) (by omega)
  have b3 := sg_b (F := F) (g := F) (x := x) 9999999 n (fun t t0 t1 p => by have := gb o f t0 (by omega) p; omega) (by omega)
  have b4 := sg_b (F := F) (g := gVV V) (x := x) 99980001 n (fun t t0 t1 p => by have := gb o f t0 (by omega) p; omega) (by omega)
  have b5 := sg_b (F := F) (g := gVD V F) (x := x) 99989990001 n (fun t t0 t1 p => by have := gb o f t0 (by omega) p; omega) (by omega)
  have b6 := sg_b (F := F) (g := gDD F) (x := x) 99999980000001 n (fun t t0 t1 p => by have := gb o f t0 (by omega) p; omega) (by omega)
  omega
def SM (h : Hp) (V F : Int → Int) (x : Int) (n : Nat) : Prop := mR h 124 13 = sg F gN x n ∧ mR h 124 14 = sg F (gvV V) x n ∧ mR h 124 15 = sg F F x n ∧ mR h 124 16 = sg F (gVV V) x n ∧ mR h 124 17 = sg F (gVD V F) x n ∧ mR h 124 18 = sg F (gDD F) x n
theorem l_sums {a b y x : Int} {V U F : Int → Int} : ∀ (n k : Nat) (h : Hp), MK h a b y V U → FM h V F → SM h V F x k → k + n = 24 → ∃ h', P_Mo_sums_32 124 a x k h = some (if sg F (gDD F) x 24 = 0 then 0 else 1, h') ∧ Fr pN h h' ∧ SM h' V F x 24 := by
  intro n
  induction n with
  | zero =>
    intro k h w u s hk
    rw [show k = 24 by omega] at s ⊢
    refine ⟨h, ?_, Fr.rf _ h, s⟩
    rw [E_Mo_sums_32]
    simp only [(by decide : ¬ (((24 : Nat) : Int) < 24)), ↓reduceIte, mkO w, s.2.2.2.2.2]
    split <;> rfl
  | succ n ih =>
    intro k h w u s hk
    have nn := mkn w
    have o := w.2.2.2.2.2.1
    have ft := u.1 k (by omega) (by omega)
    have st : ∀ g : Int → Int, sg F g x (k + 1) = sg F g x k + tmS F g x k := fun g => rfl
    have e2 : ((k + 1 : Nat) : Int) = (k : Int) + 1 := by omega
    by_cases q : F k < 0 ∨ (k : Int) = x
    · have z : ∀ g : Int → Int, tmS F g x k = 0 := fun g => if_pos q
      obtain ⟨h', g1, g2, g3⟩ := ih (k + 1) h w u (by unfold SM at s ⊢; simp only [st, z, Int.add_zero]; exact s) (by omega)
      refine ⟨h', ?_, g2, g3⟩
      rw [e2] at g1
      rw [← g1, E_Mo_sums_32]
      have k1 : (k : Int) < 24 := by omega
      rw [if_pos k1, if_pos (mkO w), mk12 w, if_pos (mkA9 w (by omega) (by omega)), u.2 k (by omega) (by omega), w32_id (x := (k : Int) + 1) (by omega) (by omega)]
      by_cases q2 : F k < 0
      · rw [if_pos q2]
      · rw [if_neg q2, if_pos (q.resolve_left q2)]
    · have p : ¬ F k < 0 := fun z => q (Or.inl z)
      have tx : (k : Int) ≠ x := fun z => q (Or.inr z)
      have z : ∀ g : Int → Int, tmS F g x k = g k := fun g => if_neg q
      have b0 := sgbN o u.1 x k (by omega)
      have b1 := gb o u.1 (t := k) (by omega) (by omega) (by omega)
      have x1 : V (9 + (k : Int)) * V (9 + (k : Int)) = gVV V k := rfl
      have x2 : V (9 + (k : Int)) * F k = gVD V F k := rfl
      have x3 : F (k : Int) * F k = gDD F k := rfl
      have x4 : V (9 + (k : Int)) = gvV V k := rfl
      have y1 : w64 (gVV V k) = gVV V k := w64_id (by omega) (by omega)
      have y2 : w64 (gVD V F k) = gVD V F k := w64_id (by omega) (by omega)
      have y3 : w64 (gDD F k) = gDD F k := w64_id (by omega) (by omega)
      have fr := sixM_fr h (w32 (mR h 124 13 + 1)) (w64 (mR h 124 14 + V (9 + (k : Int)))) (w64 (mR h 124 15 + F k)) (w64 (mR h 124 16 + w64 (V (9 + (k : Int)) * V (9 + (k : Int))))) (w64 (mR h 124 17 + w64 (V (9 + (k : Int)) * F k))) (w64 (mR h 124 18 + w64 (F k * F k)))
      obtain ⟨h', g1, g2, g3⟩ := ih (k + 1) _ (w.of (fr.to pN_M)) (u.of fr) (by
        unfold SM at s ⊢
        rw [sixM13, sixM14, sixM15, sixM16, sixM17, sixM18, s.1, s.2.1, s.2.2.1, s.2.2.2.1, s.2.2.2.2.1, s.2.2.2.2.2, x1, x2, x3, y1, y2, y3]
        simp only [st, z]
        exact ⟨w32_id (by omega) (by omega), w64_id (by omega) (by omega), w64_id (by omega) (by omega), w64_id (by omega) (by omega), w64_id (by omega) (by omega), w64_id (by omega) (by omega)⟩) (by omega)
      refine ⟨h', ?_, fr.tr g2, g3⟩
      rw [e2] at g1
      rw [l_sumStep w u (by omega) (by omega) p tx]
      exact g1
theorem m_sums {h : Hp} {a b y : Int} {V U : Int → Int} (w : MK h a b y V U) {F : Int → Int} (u : FM h V F) (x : Int) : ∃ h', C_Mo_sums 124 a x h = some (if sg F (gDD F) x 24 = 0 then 0 else 1, h') ∧ Fr pN h h' ∧ SM h' V F x 24 := by
  have fr := sixM_fr h 0 0 0 0 0 0
  obtain ⟨h', g1, g2, g3⟩ := l_sums (x := x) 24 0 _ (w.of (fr.to pN_M)) (u.of fr) (by
    unfold SM
    rw [sixM13, sixM14, sixM15, sixM16, sixM17, sixM18]
    exact ⟨rfl, rfl, rfl, rfl, rfl, rfl⟩) (by omega)
  refine ⟨h', ?_, fr.tr g2, g3⟩
  rw [E_Mo_sums]
  simp only [mkO w, hb_eq, okF_W, ↓reduceIte]
  exact g1
theorem m_slope {h : Hp} {V F : Int → Int} {x : Int} (k : okF h 124 12 = true) (s : SM h V F x 24) (q : sg F (gDD F) x 24 ≠ 0) : C_Mo_slope 124 h = some (slX V F x, h) := by
  rw [E_Mo_slope]
  simp only [k, ↓reduceIte, s.2.2.2.2.1, s.2.2.2.2.2, q]
  unfold slX
  rw [if_neg q]
theorem m_left {h : Hp} {a b y : Int} {V U : Int → Int} (w : MK h a b y V U) {F : Int → Int} (u : FM h V F) {t H : Int} (t0 : 0 ≤ t) (t1 : t < 24) : C_Mo_leftOf 124 a t H h = some (lfO V F H t, h) := by
  have nn := mkn w
  rw [E_Mo_leftOf]
  simp (disch := omega) only [mkO w, mk0 w, mk12 w, mkA w, mkA9 w, mkV9 w, w32_id (x := a + 9), w32_id (x := a + 9 + t), ↓reduceIte, u.2 t]
  unfold lfO lfW
  split
  · rfl
  · split <;> rfl
theorem l_mspread {h : Hp} {a b y : Int} {V U : Int → Int} (w : MK h a b y V U) {F : Int → Int} (u : FM h V F) {x H : Int} :
    ∀ (n : Nat) (t p : Int), 0 ≤ t → t + n = 24 → P_Mo_spreadOf_6 124 a x H p t h = some (itN (spF V F x H) n t p, h) := by
  intro n
  induction n with
  | zero =>
    intro t p t0 ht
    rw [E_Mo_spreadOf_6, if_neg (by omega)]
    rfl
  | succ n ih =>
    intro t p t0 ht
    rw [E_Mo_spreadOf_6]
    have t1 : t < 24 := by omega
    simp (disch := omega) only [t1, mkO w, mk12 w, mkA9 w, ↓reduceIte, u.2 t, w32_id (x := t + 1), m_left w u, bind_some', itN]
    by_cases q1 : F t < 0
    · have e : spF V F x H t p = p := if_pos (Or.inl q1)
      rw [if_pos q1, e]
      exact ih (t + 1) p (by omega) (by omega)
    · by_cases q2 : t = x
      · have e : spF V F x H t p = p := if_pos (Or.inr q2)
        rw [if_neg q1, if_pos q2, e]
        exact ih (t + 1) p (by omega) (by omega)
      · have e : spF V F x H t p = w64 (p + w64 (lfO V F H t * lfO V F H t)) := if_neg (fun z => z.elim q1 q2)
        rw [if_neg q1, if_neg q2, e]
        exact ih (t + 1) _ (by omega) (by omega)
theorem m_spread {h : Hp} {a b y : Int} {V U : Int → Int} (w : MK h a b y V U) {F : Int → Int} (u : FM h V F) (x H : Int) : C_Mo_spreadOf 124 a x H h = some (spX V F x H, h) := by
  rw [E_Mo_spreadOf]
  exact l_mspread w u 24 0 0 (by omega) (by omega)
theorem lfO_b (V F : Int → Int) (H t : Int) : -999999 ≤ lfO V F H t ∧ lfO V F H t ≤ 999999 := by
  unfold lfO
  split
  · omega
  · split
    · omega
    · rw [w32_id (by omega) (by omega)]; omega
theorem spX_b (V F : Int → Int) (x H : Int) : 0 ≤ spX V F x H ∧ spX V F x H ≤ 23999952000024 := by
  have := itN_ind (F := spF V F x H) (fun j p => 0 ≤ p ∧ p ≤ 999998000001 * j) 24 0 0 (by simp) (fun j p h0 h1 i => by
    unfold spF
    split
    · omega
    · have b := lfO_b V F H j
      have m := mul_d 999999 999999 b.1 b.2 b.1 b.2
      have m4 : 0 ≤ lfO V F H j * lfO V F H j := by
        by_cases q : 0 ≤ lfO V F H j
        · exact Int.mul_nonneg q q
        · exact Int.mul_nonneg_of_nonpos_of_nonpos (by omega) (by omega)
      rw [w64_id (x := lfO V F H j * lfO V F H j) (by omega) (by omega), w64_id (by omega) (by omega)]
      omega)
  unfold spX
  have e : (0 : Int) + ((24 : Nat) : Int) = 24 := rfl
  rw [e] at this
  omega
theorem m_apart (x : Int) (h : Hp) : C_Mo_apart x h = some (if x < 0 then w64 (-x) else x, h) := by
  rw [E_Mo_apart]; split <;> rfl
/-- how far two slopes are apart -/
def apt (x : Int) : Int := if x < 0 then w64 (-x) else x
def hvF (V F : Int → Int) (H t : Int) (p : Int × Int) : Int × Int := if slB V F t = -2000000000 then p else if p.1 < 0 ∨ p.2 < apt (w64 (slB V F t - H)) then (t, apt (w64 (slB V F t - H))) else p
def hv (V F : Int → Int) : Int := (itN (hvF V F (slX V F (-1))) 24 0 (-1, 0)).1
