/-! Sums over the things that have a far. -/
theorem pk_b {V : Int → Int} (o : Vok V) {y t us way : Int} {S : Int → Int} (t0 : 0 ≤ t) (t1 : t < V 1) (s : ∀ r, 0 ≤ r → r < V 0 → -1 ≤ S r ∧ S r ≤ 9999999) : -1 ≤ pk V y S us way t ∧ pk V y S us way t ≤ 9999999 := by
  have v := o.1
  have := itN_ind (F := pkF V y S t us way) (fun j a => pkI V j a ∧ 0 ≤ a.2.2 ∧ a.2.2 ≤ 9999999 * a.2.1) (V 0).toNat 0 (-1, 0, 0) ⟨Or.inl ⟨rfl, rfl⟩, by simp, by simp⟩ (fun j b h0 h1 i => by
    refine ⟨pkI_s i.1 v.2 h0 (by omega), ?_⟩
    have f := fB_b o (y := y) (S := S) (t := t) (r := j) t0 t1 h0 (by omega) (s j h0 (by omega)).1 (s j h0 (by omega)).2
    have ib : 0 ≤ b.2.1 ∧ b.2.1 ≤ 6 := by have := i.1; unfold pkI at this; omega
    have i2 := i.2
    by_cases q : bitT us j = true ∧ fB V y S t j ≠ -1
    · have e : (pkF V y S t us way j b).2 = (w32 (b.2.1 + 1), w64 (b.2.2 + fB V y S t j)) := by unfold pkF; rw [if_pos q]
      rw [e]
      have q2 := q.2
      show 0 ≤ w64 _ ∧ w64 _ ≤ 9999999 * w32 _
      rw [w32_id (by omega) (by omega), w64_id (by omega) (by omega)]
      omega
    · rw [pkF_no q]; exact i2)
  rw [show (0 : Int) + ((V 0).toNat : Int) = V 0 by omega] at this
  unfold pk pkE
  split
  · omega
  · rename_i q
    have i := this.1
    have i2 := this.2
    unfold pkI at i
    have ia : 0 ≤ (itN (pkF V y S t us way) (V 0).toNat 0 (-1, 0, 0)).1 ∧ (itN (pkF V y S t us way) (V 0).toNat 0 (-1, 0, 0)).1 < V 0 ∧ 0 < (itN (pkF V y S t us way) (V 0).toNat 0 (-1, 0, 0)).2.1 ∧ (itN (pkF V y S t us way) (V 0).toNat 0 (-1, 0, 0)).2.1 ≤ 6 := by omega
    split
    · rw [Int.tdiv_eq_ediv_of_nonneg i2.1]
      have d1 := Int.ediv_nonneg i2.1 (b := (itN (pkF V y S t us way) (V 0).toNat 0 (-1, 0, 0)).2.1) (by omega)
      have d2 := Int.ediv_le_ediv ia.2.2.1 i2.2
      rw [Int.mul_ediv_cancel _ (by omega)] at d2
      rw [w64_id (by omega) (by omega), w32_id (by omega) (by omega)]
      omega
    · exact (fB_b o t0 t1 ia.1 ia.2.1 (s _ ia.1 ia.2.1).1 (s _ ia.1 ia.2.1).2).imp id And.left
def tmS (F g : Int → Int) (x t : Int) : Int := if F t < 0 ∨ t = x then 0 else g t
def sg (F g : Int → Int) (x : Int) : Nat → Int
  | 0 => 0
  | n + 1 => sg F g x n + tmS F g x n
theorem sg_congr {F F' g g' : Int → Int} {x x' : Int} : ∀ n : Nat, (∀ t : Int, 0 ≤ t → t < n → tmS F g x t = tmS F' g' x' t) → sg F g x n = sg F' g' x' n
  | 0, _ => rfl
  | n + 1, h => by
    unfold sg
    rw [sg_congr n (fun t t0 t1 => h t t0 (by omega)), h n (by omega) (by omega)]
theorem sg_one {F F' g g' : Int → Int} {x x' s : Int} : ∀ n : Nat, (∀ t : Int, 0 ≤ t → t < n → t ≠ s → tmS F' g' x' t = tmS F g x t) → 0 ≤ s → s < n → sg F' g' x' n = sg F g x n - tmS F g x s + tmS F' g' x' s
  | 0, _, h0, h1 => by omega
  | n + 1, h, h0, h1 => by
    unfold sg
    by_cases q : s = n
    · rw [sg_congr n (fun t t0 t1 => h t t0 (by omega) (by omega)), q]
      omega
    · rw [sg_one n (fun t t0 t1 => h t t0 (by omega)) h0 (by omega), h n (by omega) (by omega) (by omega)]
      omega
theorem sg_b {F g : Int → Int} {x : Int} (B : Int) : ∀ n : Nat, (∀ t : Int, 0 ≤ t → t < n → 0 ≤ F t → -B ≤ g t ∧ g t ≤ B) → 0 ≤ B → -(B * n) ≤ sg F g x n ∧ sg F g x n ≤ B * n
  | 0, _, _ => by simp [sg]
  | n + 1, h, b => by
    have ih := sg_b (F := F) (g := g) (x := x) B n (fun t t0 t1 => h t t0 (by omega)) b
    unfold sg
    have e : B * ((n + 1 : Nat) : Int) = B * n + B := by rw [Int.natCast_succ, Int.mul_add, Int.mul_one]
    rw [e]
    unfold tmS
    split
    · omega
    · rename_i q
      have := h n (by omega) (by omega) (by omega)
      omega
theorem sg_mono {F g g' : Int → Int} {x : Int} (k : Int) : ∀ n : Nat, (∀ t : Int, 0 ≤ t → t < n → 0 ≤ F t → -(k * g' t) ≤ g t ∧ g t ≤ k * g' t) → -(k * sg F g' x n) ≤ sg F g x n ∧ sg F g x n ≤ k * sg F g' x n
  | 0, _ => by simp [sg]
  | n + 1, h => by
    have ih := sg_mono (F := F) (g := g) (g' := g') (x := x) k n (fun t t0 t1 => h t t0 (by omega))
    unfold sg
    rw [Int.mul_add]
    unfold tmS
    split
    · rw [Int.mul_zero]; omega
    · rename_i q
      have := h n (by omega) (by omega) (by omega)
      omega
theorem sg_nn {F g : Int → Int} {x : Int} : ∀ n : Nat, (∀ t : Int, 0 ≤ t → t < n → 0 ≤ F t → 0 ≤ g t) → 0 ≤ sg F g x n
  | 0, _ => by simp [sg]
  | n + 1, h => by
    have ih := sg_nn (F := F) (g := g) (x := x) n (fun t t0 t1 => h t t0 (by omega))
    unfold sg tmS
    split
    · omega
    · rename_i q
      have := h n (by omega) (by omega) (by omega)
      omega
def vS (V : Int → Int) (t : Int) : Int := V (9 + t)
/-- the six sums: how many, v, d, vv, vd, dd -/
def gN (_ : Int) : Int := 1
def gvV (V : Int → Int) (t : Int) : Int := V (9 + t)
def gVV (V : Int → Int) (t : Int) : Int := V (9 + t) * V (9 + t)
def gVD (V F : Int → Int) (t : Int) : Int := V (9 + t) * F t
def gDD (F : Int → Int) (t : Int) : Int := F t * F t
def Fok (V F : Int → Int) : Prop := ∀ t, 0 ≤ t → t < 24 → -1 ≤ F t ∧ F t ≤ 9999999 ∧ (V 1 ≤ t → F t = -1)
def SU (h : Hp) (V F : Int → Int) : Prop := Fok V F ∧ (∀ t, 0 ≤ t → t < 24 → mR h 113 t = F t) ∧ mR h 99 6 = sg F gN (-1) 24 ∧ mR h 99 7 = sg F (gvV V) (-1) 24 ∧ mR h 99 8 = sg F F (-1) 24 ∧ mR h 99 9 = sg F (gVV V) (-1) 24 ∧ mR h 99 10 = sg F (gVD V F) (-1) 24 ∧ mR h 99 11 = sg F (gDD F) (-1) 24
theorem mul_c {a b : Int} (A B : Int) (a0 : -A ≤ a) (a1 : a ≤ A) (b0 : 0 ≤ b) (b1 : b ≤ B) : -(A * B) ≤ a * b ∧ a * b ≤ A * B := by
  have hA : 0 ≤ A := by omega
  constructor
  · have h1 : -A * b ≤ a * b := Int.mul_le_mul_of_nonneg_right a0 b0
    have h2 : A * b ≤ A * B := Int.mul_le_mul_of_nonneg_left b1 hA
    have h3 : -A * b = -(A * b) := Int.neg_mul A b
    omega
  · exact Int.le_trans (Int.mul_le_mul_of_nonneg_right a1 b0) (Int.mul_le_mul_of_nonneg_left b1 hA)
theorem mul_d {a b : Int} (A B : Int) (a0 : -A ≤ a) (a1 : a ≤ A) (b0 : -B ≤ b) (b1 : b ≤ B) : -(A * B) ≤ a * b ∧ a * b ≤ A * B := by
  by_cases q : 0 ≤ b
  · exact mul_c A B a0 a1 q b1
  · have := mul_c (a := a) (b := -b) A B a0 a1 (by omega) (by omega)
    rw [Int.mul_neg] at this
    omega
/-- the bounds of each term -/
theorem gb {V F : Int → Int} (o : Vok V) (f : Fok V F) {t : Int} (t0 : 0 ≤ t) (t1 : t < 24) (p : 0 ≤ F t) : t < V 1 ∧ (-9999 ≤ V (9 + t) ∧ V (9 + t) ≤ 9999) ∧ F t ≤ 9999999 ∧ (0 ≤ gVV V t ∧ gVV V t ≤ 99980001) ∧ (-99989990001 ≤ gVD V F t ∧ gVD V F t ≤ 99989990001) ∧ (0 ≤ gDD F t ∧ gDD F t ≤ 99999980000001) := by
  have f1 := f t t0 t1
  have t2 : t < V 1 := by omega
  have v := o.2.2.2.1 t t0 t2
  have m1 := mul_d 9999 9999 v.1 v.2 v.1 v.2
  have m2 := mul_c 9999 9999999 v.1 v.2 p f1.2.1
  have m3 := mul_b 9999999 9999999 p f1.2.1 p f1.2.1
  have m4 : 0 ≤ V (9 + t) * V (9 + t) := by
    by_cases q : 0 ≤ V (9 + t)
    · exact Int.mul_nonneg q q
    · exact Int.mul_nonneg_of_nonpos_of_nonpos (by omega) (by omega)
  unfold gVV gVD gDD
  omega
theorem sgb {V F : Int → Int} (o : Vok V) (f : Fok V F) (x : Int) : (-24 ≤ sg F gN x 24 ∧ sg F gN x 24 ≤ 24) ∧ (-239976 ≤ sg F (gvV V) x 24 ∧ sg F (gvV V) x 24 ≤ 239976) ∧ (-239999976 ≤ sg F F x 24 ∧ sg F F x 24 ≤ 239999976) ∧ (-2399520024 ≤ sg F (gVV V) x 24 ∧ sg F (gVV V) x 24 ≤ 2399520024) ∧ (-2399759760024 ≤ sg F (gVD V F) x 24 ∧ sg F (gVD V F) x 24 ≤ 2399759760024) ∧ (0 ≤ sg F (gDD F) x 24 ∧ sg F (gDD F) x 24 ≤ 2399999520000024) := by
  have b1 := sg_b (F := F) (g := gN) (x := x) 1 24 (fun t _ _ _ => by unfold gN; omega) (by omega)
  have b2 := sg_b (F := F) (g := gvV V) (x := x) 9999 24 (fun t t0 t1 p => by have := gb o f t0 t1 p; unfold gvV; omega) (by omega)
  have b3 := sg_b (F := F) (g := F) (x := x) 9999999 24 (fun t t0 t1 p => by have := gb o f t0 t1 p; omega) (by omega)
  have b4 := sg_b (F := F) (g := gVV V) (x := x) 99980001 24 (fun t t0 t1 p => by have := gb o f t0 t1 p; omega) (by omega)
  have b5 := sg_b (F := F) (g := gVD V F) (x := x) 99989990001 24 (fun t t0 t1 p => by have := gb o f t0 t1 p; omega) (by omega)
  have b6 := sg_b (F := F) (g := gDD F) (x := x) 99999980000001 24 (fun t t0 t1 p => by have := gb o f t0 t1 p; omega) (by omega)
  have b7 := sg_nn (F := F) (g := gDD F) (x := x) 24 (fun t t0 t1 p => by have := gb o f t0 t1 p; omega)
  omega
theorem s_addTimes {h : Hp} (k : okF h 99 9 = true) (a b d : Int) : C_Su_addTimes 99 a b d h = some (0, mW (mW (mW (mW (mW (mW h 99 6 (w32 (mR h 99 6 + a))) 99 7 (w64 (mR h 99 7 + w64 (a * b)))) 99 8 (w64 (mR h 99 8 + w64 (a * d)))) 99 9 (w64 (mR h 99 9 + w64 (w64 (a * b) * b)))) 99 10 (w64 (mR h 99 10 + w64 (w64 (a * b) * d)))) 99 11 (w64 (mR h 99 11 + w64 (w64 (a * d) * d)))) := by
  rw [E_Su_addTimes]
  have n76 : ∀ (g : Hp) (v : Int), mR (mW g 99 6 v) 99 7 = mR g 99 7 := fun g v => mR_ni (by decide)
  have n8 : ∀ (g : Hp) (i v : Int), i < 8 → mR (mW g 99 i v) 99 8 = mR g 99 8 := fun g i v q => mR_ni (by omega)
  have n9 : ∀ (g : Hp) (i v : Int), i < 9 → mR (mW g 99 i v) 99 9 = mR g 99 9 := fun g i v q => mR_ni (by omega)
  have n10 : ∀ (g : Hp) (i v : Int), i < 10 → mR (mW g 99 i v) 99 10 = mR g 99 10 := fun g i v q => mR_ni (by omega)
  have n11 : ∀ (g : Hp) (i v : Int), i < 11 → mR (mW g 99 i v) 99 11 = mR g 99 11 := fun g i v q => mR_ni (by omega)
  simp only [k, if_true]
  rw [hb_eq]
  simp only [okF_W, k, if_true, n76]
  rw [hb_eq]
  simp (disch := decide) only [okF_W, k, if_true, n8]
  rw [hb_eq]
  simp (disch := decide) only [okF_W, k, if_true, n9]
  rw [hb_eq]
  simp (disch := decide) only [okF_W, k, if_true, n10]
  rw [hb_eq]
  simp (disch := decide) only [okF_W, k, if_true, n11]
  rw [hb_eq]
