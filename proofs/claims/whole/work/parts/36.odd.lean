/-! Slopes, spreads, the odd one. -/
theorem itN_add {α : Type} (F : Int → α → α) : ∀ (m n : Nat) (i : Int) (a : α), itN F (m + n) i a = itN F n (i + m) (itN F m i a)
  | 0, n, i, a => by simp [itN]
  | m + 1, n, i, a => by
    rw [show m + 1 + n = (m + n) + 1 by omega]
    show itN F (m + n) (i + 1) (F i a) = itN F n (i + ((m + 1 : Nat) : Int)) (itN F m (i + 1) (F i a))
    rw [itN_add F m n (i + 1) (F i a)]
    congr 1
    omega
theorem itN_idle {α : Type} {F : Int → α → α} : ∀ (n : Nat) (i : Int) (a : α), (∀ j, i ≤ j → j < i + n → F j a = a) → itN F n i a = a
  | 0, _, _, _ => rfl
  | n + 1, i, a, h => by
    show itN F n (i + 1) (F i a) = a
    rw [h i (by omega) (by omega)]
    exact itN_idle n (i + 1) a (fun j h0 h1 => h j (by omega) (by omega))
theorem itN_cut {α : Type} {F : Int → α → α} {m : Int} (m0 : 0 ≤ m) (m1 : m ≤ 24) (a : α) (h : ∀ j b, m ≤ j → j < 24 → F j b = b) : itN F 24 0 a = itN F m.toNat 0 a := by
  have e := itN_add F m.toNat (24 - m.toNat) 0 a
  rw [show m.toNat + (24 - m.toNat) = 24 by omega] at e
  rw [e]
  exact itN_idle _ _ _ (fun j h0 h1 => h j _ (by omega) (by omega))
def slX (V F : Int → Int) (x : Int) : Int := if sg F (gDD F) x 24 = 0 then -2000000000 else w64 (Int.tdiv (w64 (1000 * sg F (gVD V F) x 24)) (sg F (gDD F) x 24))
def slB (V F : Int → Int) (t : Int) : Int := if F t < 0 then -2000000000 else slX V F t
def lfW (V F : Int → Int) (H t : Int) : Int := w64 (V (9 + t) - w64 (Int.tdiv (w64 (H * F t)) 1000))
def lfO (V F : Int → Int) (H t : Int) : Int := if 999999 < lfW V F H t then 999999 else if lfW V F H t < -999999 then -999999 else w32 (lfW V F H t)
def spF (V F : Int → Int) (x H t a : Int) : Int := if F t < 0 ∨ t = x then a else w64 (a + w64 (lfO V F H t * lfO V F H t))
def spX (V F : Int → Int) (x H : Int) : Int := itN (spF V F x H) 24 0 0
def odF (V F : Int → Int) (t : Int) (a : Int × Int) : Int × Int := if slB V F t = -2000000000 then a else if a.1 = -1 ∨ spX V F t (slB V F t) < a.2 then (t, spX V F t (slB V F t)) else a
def od (V F : Int → Int) : Int := (itN (odF V F) 24 0 (-1, 0)).1
theorem SU.congr {h : Hp} {V F G : Int → Int} (u : SU h V F) (e : ∀ t, 0 ≤ t → t < 24 → F t = G t) : SU h V G := by
  obtain ⟨f, ur, e6, e7, e8, e9, e10, e11⟩ := u
  have c : ∀ g g' : Int → Int, (∀ t, 0 ≤ t → t < 24 → g t = g' t) → sg F g (-1) 24 = sg G g' (-1) 24 := fun g g' eg => sg_congr 24 (fun t t0 t1 => by unfold tmS; rw [e t t0 t1, eg t t0 t1])
  refine ⟨fun t t0 t1 => by rw [← e t t0 t1]; exact f t t0 t1, fun t t0 t1 => by rw [← e t t0 t1]; exact ur t t0 t1, ?_, ?_, ?_, ?_, ?_, ?_⟩
  · rw [e6]; exact c _ _ (fun _ _ _ => rfl)
  · rw [e7]; exact c _ _ (fun _ _ _ => rfl)
  · rw [e8]; exact c _ _ e
  · rw [e9]; exact c _ _ (fun _ _ _ => rfl)
  · rw [e10]; exact c _ _ (fun t t0 t1 => by unfold gVD; rw [e t t0 t1])
  · rw [e11]; exact c _ _ (fun t t0 t1 => by unfold gDD; rw [e t t0 t1])
theorem slX_b {V F : Int → Int} (o : Vok V) (f : Fok V F) (x : Int) (q : sg F (gDD F) x 24 ≠ 0) : slX V F x = Int.tdiv (1000 * sg F (gVD V F) x 24) (sg F (gDD F) x 24) ∧ -9999000 ≤ slX V F x ∧ slX V F x ≤ 9999000 := by
  have s := sgb o f x
  have m := sg_mono (F := F) (g := gVD V F) (g' := gDD F) (x := x) 9999 24 (fun t t0 t1 p => by
    have b := gb o f t0 t1 p
    have v := b.2.1
    unfold gVD gDD
    have i1 : F t ≤ F t * F t := by
      by_cases z : F t = 0
      · rw [z]; decide
      · have := Int.mul_le_mul_of_nonneg_right (show (1 : Int) ≤ F t by omega) p
        omega
    have m := mul_c (b := F t) 9999 (F t) v.1 v.2 p (Int.le_refl _)
    omega)
  have e : slX V F x = w64 (Int.tdiv (1000 * sg F (gVD V F) x 24) (sg F (gDD F) x 24)) := by unfold slX; rw [if_neg q, w64_id (x := 1000 * _) (by omega) (by omega)]
  have b : -9999000 ≤ Int.tdiv (1000 * sg F (gVD V F) x 24) (sg F (gDD F) x 24) ∧ Int.tdiv (1000 * sg F (gVD V F) x 24) (sg F (gDD F) x 24) ≤ 9999000 := by
    have p : 0 < sg F (gDD F) x 24 := by omega
    by_cases z : 0 ≤ 1000 * sg F (gVD V F) x 24
    · rw [Int.tdiv_eq_ediv_of_nonneg z]
      have a1 := Int.ediv_nonneg z (Int.le_of_lt p)
      have a2 := Int.ediv_le_ediv p (show 1000 * sg F (gVD V F) x 24 ≤ 9999000 * sg F (gDD F) x 24 by omega)
      rw [Int.mul_ediv_cancel _ q] at a2
      omega
    · have e2 : 1000 * sg F (gVD V F) x 24 = -(-(1000 * sg F (gVD V F) x 24)) := by omega
      rw [e2, Int.neg_tdiv, Int.tdiv_eq_ediv_of_nonneg (show 0 ≤ -(1000 * sg F (gVD V F) x 24) by omega)]
      have a1 := Int.ediv_nonneg (show 0 ≤ -(1000 * sg F (gVD V F) x 24) by omega) (Int.le_of_lt p)
      have a2 := Int.ediv_le_ediv p (show -(1000 * sg F (gVD V F) x 24) ≤ 9999000 * sg F (gDD F) x 24 by omega)
      rw [Int.mul_ediv_cancel _ q] at a2
      omega
  rw [w64_id (by omega) (by omega)] at e
  rw [e]
  exact ⟨rfl, b⟩
theorem slX_n {V F : Int → Int} (o : Vok V) (f : Fok V F) (x : Int) : slX V F x = -2000000000 ↔ sg F (gDD F) x 24 = 0 := by
  constructor
  · intro e
    by_cases q : sg F (gDD F) x 24 = 0
    · exact q
    · have := slX_b o f x q
      omega
  · intro e
    unfold slX
    rw [if_pos e]
theorem s_slope {h : Hp} {c hh y : Int} {V U : Int → Int} (w : LK h c hh y V U) {F : Int → Int} (u : SU h V F) : C_Su_slope 99 h = some (slX V F (-1), h) := by
  rw [E_Su_slope]
  simp only [lkS w, if_true, u.2.2.2.2.2.2.1, u.2.2.2.2.2.2.2, slX]
  by_cases q : sg F (gDD F) (-1) 24 = 0 <;> simp [q]
theorem s_slopeBut {h : Hp} {c hh y : Int} {V U : Int → Int} (w : LK h c hh y V U) {F : Int → Int} (u : SU h V F) {t : Int} (t0 : 0 ≤ t) (t1 : t < V 1) : C_Su_slopeBut 99 t h = some (slB V F t, h) := by
  have n1 := lkn1 w
  have o := w.2.2.2.2.2.2.1
  obtain ⟨f, ur, e6, e7, e8, e9, e10, e11⟩ := u
  rw [E_Su_slopeBut]
  simp (disch := omega) only [lkS w, lkC w, lkH w, lk0 w, lk1 w, lk2 w, lk3 w, lk4 w, lkc0 w, lkc1 w, lkc3 w, lkc4 w, lkc5 w, lkc6 w, lkc7 w, lkc8 w, lkh0 w, lkh1 w, lkh2 w, lkh3 w, lkh4 w, lkh5 w, lkh6 w, lkA1 w, lkA2 w, lkA3 w, lkA4 w, lkA5 w, lkA6 w, lkB1 w, lkB2 w, lkB3 w, lkA112 w, lkA113 w, lkS112 w, lkS113 w, lkv1 w, lkv3 w, lkv4 w, lkv5 w, lkv6 w, lkw1 w, lkw2 w, lkw3 w, w32_id, ↓reduceIte, bind_some', hb_eq, lt_w1 w, lt_w2 w, ur t, e10, e11]
  have ft := f t t0 (by omega)
  by_cases q : F t = -1
  · have q2 : F t < 0 := by omega
    simp only [q, if_true, slB, (by decide : (-1 : Int) < 0)]
  · have p : 0 ≤ F t := by omega
    have q2 : ¬ F t < 0 := by omega
    have b := gb o f t0 (by omega) p
    have s := sgb o f (-1)
    have c1 := sg_but (F := F) (g := gDD F) t0 (by omega) p
    have c2 := sg_but (F := F) (g := gVD V F) t0 (by omega) p
    have x1 : F t * F t = gDD F t := rfl
    have x2 : V (9 + t) * F t = gVD V F t := rfl
    have y1 : w64 (gDD F t) = gDD F t := w64_id (by omega) (by omega)
    have y2 : w64 (gVD V F t) = gVD V F t := w64_id (by omega) (by omega)
    have y3 : w64 (sg F (gDD F) (-1) 24 - gDD F t) = sg F (gDD F) t 24 := by rw [c1]; exact w64_id (by omega) (by omega)
    have y4 : w64 (sg F (gVD V F) (-1) 24 - gVD V F t) = sg F (gVD V F) t 24 := by rw [c2]; exact w64_id (by omega) (by omega)
    simp only [q, q2, if_false, slB, slX, x1, x2, y1, y2, y3, y4]
    by_cases z : sg F (gDD F) t 24 = 0 <;> simp [z]
theorem s_leftOf {h : Hp} {c hh y : Int} {V U : Int → Int} (w : LK h c hh y V U) {F : Int → Int} (u : SU h V F) {t H : Int} (t0 : 0 ≤ t) (t1 : t < V 1) : C_Su_leftOf 99 t H h = some (lfO V F H t, h) := by
  have n1 := lkn1 w
  obtain ⟨f, ur, _⟩ := u
  rw [E_Su_leftOf]
  simp (disch := omega) only [lkS w, if_true, lk0 w, lkC w, lkc6 w, lkA4 w, lk4 w, lkA113 w, lkv4 w, ur t]
  unfold lfO lfW
  split
  · rfl
  · split <;> rfl
theorem l_spread {h : Hp} {c hh y : Int} {V U : Int → Int} (w : LK h c hh y V U) {F : Int → Int} (u : SU h V F) {x H : Int} :
    ∀ (n : Nat) (t a : Int), 0 ≤ t → t + n = V 1 → P_Su_spreadBut_6 99 x H a t h = some (itN (spF V F x H) n t a, h) := by
  have n1 := lkn1 w
  intro n
  induction n with
  | zero =>
    intro t a t0 ht
    rw [E_Su_spreadBut_6]
    have : ¬ t < V 1 := by omega
    simp only [lkS w, lkC w, lkH w, lk0 w, lk1 w, lk2 w, lk3 w, lk4 w, lkc0 w, lkc1 w, lkc3 w, lkc4 w, lkc5 w, lkc6 w, lkc7 w, lkc8 w, lkh0 w, lkh1 w, lkh2 w, lkh3 w, lkh4 w, lkh5 w, lkh6 w, lkA1 w, lkA2 w, lkA3 w, lkA4 w, lkA5 w, lkA6 w, lkB1 w, lkB2 w, lkB3 w, lkA112 w, lkA113 w, lkS112 w, lkS113 w, lkv1 w, lkv3 w, lkv4 w, lkv5 w, lkv6 w, lkw1 w, lkw2 w, lkw3 w, w32_id, ↓reduceIte, bind_some', hb_eq, lt_w1 w, lt_w2 w, this, if_false, itN]
  | succ n ih =>
    intro t a t0 ht
    rw [E_Su_spreadBut_6]
    have q : t < V 1 := by omega
    have ft := u.1 t t0 (by omega)
    simp (disch := omega) only [lkS w, lkC w, lkH w, lk0 w, lk1 w, lk2 w, lk3 w, lk4 w, lkc0 w, lkc1 w, lkc3 w, lkc4 w, lkc5 w, lkc6 w, lkc7 w, lkc8 w, lkh0 w, lkh1 w, lkh2 w, lkh3 w, lkh4 w, lkh5 w, lkh6 w, lkA1 w, lkA2 w, lkA3 w, lkA4 w, lkA5 w, lkA6 w, lkB1 w, lkB2 w, lkB3 w, lkA112 w, lkA113 w, lkS112 w, lkS113 w, lkv1 w, lkv3 w, lkv4 w, lkv5 w, lkv6 w, lkw1 w, lkw2 w, lkw3 w, w32_id, ↓reduceIte, bind_some', hb_eq, lt_w1 w, lt_w2 w, q, u.2.1 t, s_leftOf w u, itN]
    by_cases q1 : t = x
    · have e : spF V F x H t a = a := if_pos (Or.inr q1)
      rw [if_pos q1, e]
      exact ih (t + 1) a (by omega) (by omega)
    · by_cases q2 : F t = -1
      · have e : spF V F x H t a = a := if_pos (Or.inl (by omega))
        simp only [q1, q2, if_true, if_false]
        rw [e]
        exact ih (t + 1) a (by omega) (by omega)
      · have e : spF V F x H t a = w64 (a + w64 (lfO V F H t * lfO V F H t)) := if_neg (by omega)
        simp only [q1, q2, if_false]
        rw [e]
        exact ih (t + 1) _ (by omega) (by omega)
theorem s_spread {h : Hp} {c hh y : Int} {V U : Int → Int} (w : LK h c hh y V U) {F : Int → Int} (u : SU h V F) (x H : Int) : C_Su_spreadBut 99 x H h = some (spX V F x H, h) := by
  have n1 := lkn1 w
  rw [E_Su_spreadBut]
  unfold spX
  rw [itN_cut (F := spF V F x H) n1.1 n1.2 _ (fun j b h0 h1 => if_pos (Or.inl (by have := (u.1 j (by omega) h1).2.2 h0; omega)))]
  exact l_spread w u (V 1).toNat 0 0 (by omega) (by omega)
theorem l_odd {h : Hp} {c hh y : Int} {V U : Int → Int} (w : LK h c hh y V U) {F : Int → Int} (u : SU h V F) :
    ∀ (n : Nat) (t : Int) (a : Int × Int), 0 ≤ t → t + n = V 1 → P_Su_oddOne_7 99 a.1 a.2 t h = some ((itN (odF V F) n t a).1, h) := by
  have n1 := lkn1 w
  intro n
  induction n with
  | zero =>
    intro t a t0 ht
    rw [E_Su_oddOne_7]
    have : ¬ t < V 1 := by omega
    simp only [lkS w, lkC w, lkH w, lk0 w, lk1 w, lk2 w, lk3 w, lk4 w, lkc0 w, lkc1 w, lkc3 w, lkc4 w, lkc5 w, lkc6 w, lkc7 w, lkc8 w, lkh0 w, lkh1 w, lkh2 w, lkh3 w, lkh4 w, lkh5 w, lkh6 w, lkA1 w, lkA2 w, lkA3 w, lkA4 w, lkA5 w, lkA6 w, lkB1 w, lkB2 w, lkB3 w, lkA112 w, lkA113 w, lkS112 w, lkS113 w, lkv1 w, lkv3 w, lkv4 w, lkv5 w, lkv6 w, lkw1 w, lkw2 w, lkw3 w, w32_id, ↓reduceIte, bind_some', hb_eq, lt_w1 w, lt_w2 w, this, if_false, itN]
  | succ n ih =>
    intro t a t0 ht
    rw [E_Su_oddOne_7]
    have q : t < V 1 := by omega
    have e : ∀ b, odF V F t a = b → itN (odF V F) n (t + 1) (odF V F t a) = itN (odF V F) n (t + 1) b := fun b q => by rw [q]
    simp (disch := omega) only [lkS w, lkC w, lkH w, lk0 w, lk1 w, lk2 w, lk3 w, lk4 w, lkc0 w, lkc1 w, lkc3 w, lkc4 w, lkc5 w, lkc6 w, lkc7 w, lkc8 w, lkh0 w, lkh1 w, lkh2 w, lkh3 w, lkh4 w, lkh5 w, lkh6 w, lkA1 w, lkA2 w, lkA3 w, lkA4 w, lkA5 w, lkA6 w, lkB1 w, lkB2 w, lkB3 w, lkA112 w, lkA113 w, lkS112 w, lkS113 w, lkv1 w, lkv3 w, lkv4 w, lkv5 w, lkv6 w, lkw1 w, lkw2 w, lkw3 w, w32_id, ↓reduceIte, bind_some', hb_eq, lt_w1 w, lt_w2 w, q, s_slopeBut w u, s_spread w u, itN]
    by_cases q1 : slB V F t = -2000000000
    · rw [e a (if_pos q1)]
      simp only [q1, if_true]
      exact ih (t + 1) a (by omega) (by omega)
    · simp only [q1, if_false]
      by_cases q2 : a.1 = -1
      · rw [e (t, spX V F t (slB V F t)) (by unfold odF; rw [if_neg q1, if_pos (Or.inl q2)])]
        simp only [q2, if_true]
        exact ih (t + 1) (_, _) (by omega) (by omega)
      · by_cases q3 : spX V F t (slB V F t) < a.2
        · rw [e (t, spX V F t (slB V F t)) (by unfold odF; rw [if_neg q1, if_pos (Or.inr q3)])]
          simp only [q2, q3, if_true, if_false]
          exact ih (t + 1) (_, _) (by omega) (by omega)
        · rw [e a (by unfold odF; rw [if_neg q1, if_neg (fun z => z.elim q2 q3)])]
          simp only [q2, q3, if_false]
          exact ih (t + 1) a (by omega) (by omega)
theorem slB_o {V F : Int → Int} (f : Fok V F) {j : Int} (j0 : 0 ≤ j) (j1 : j < 24) (v : V 1 ≤ j) : slB V F j = -2000000000 := if_pos (by have := (f j j0 j1).2.2 v; omega)
theorem s_odd {h : Hp} {c hh y : Int} {V U : Int → Int} (w : LK h c hh y V U) {F : Int → Int} (u : SU h V F) : C_Su_oddOne 99 h = some (od V F, h) := by
  have n1 := lkn1 w
  rw [E_Su_oddOne]
  unfold od
  rw [itN_cut (F := odF V F) n1.1 n1.2 _ (fun j b h0 h1 => if_pos (slB_o u.1 (by omega) h1 h0))]
  exact l_odd w u (V 1).toNat 0 (-1, 0) (by omega) (by omega)
theorem od_r {V F : Int → Int} (f : Fok V F) : od V F = -1 ∨ (0 ≤ od V F ∧ od V F < 24 ∧ 0 ≤ F (od V F)) := by
  have := itN_ind (F := odF V F) (fun _ a => a.1 = -1 ∨ (0 ≤ a.1 ∧ a.1 < 24 ∧ 0 ≤ F a.1)) 24 0 (-1, 0) (Or.inl rfl) (fun j b h0 h1 i => by
    unfold odF
    split
    · exact i
    · rename_i q
      split
      · refine Or.inr ⟨h0, by omega, ?_⟩
        by_cases z : F j < 0
        · exact absurd (if_pos z) q
        · show 0 ≤ F j
          omega
      · exact i)
  exact this
