/-! Lowest, highest, heaviest; turned and crossed slopes: both sides. -/
def loF (V F : Int → Int) (t l : Int) : Int := if slB V F t = -2000000000 then l else if l = -2000000000 ∨ slB V F t < l then slB V F t else l
def hiF (V F : Int → Int) (t l : Int) : Int := if slB V F t = -2000000000 then l else if l = -2000000000 ∨ l < slB V F t then slB V F t else l
def low (V F : Int → Int) : Int := itN (loF V F) 24 0 (-2000000000)
def high (V F : Int → Int) : Int := itN (hiF V F) 24 0 (-2000000000)
def tuS (V F : Int → Int) : Int := if sg F (gVD V F) (-1) 24 = 0 then -2000000000 else w64 (Int.tdiv (w64 (1000 * sg F (gVV V) (-1) 24)) (sg F (gVD V F) (-1) 24))
def crB (F : Int → Int) : Int := w64 (w64 (sg F gN (-1) 24 * sg F (gDD F) (-1) 24) - w64 (sg F F (-1) 24 * sg F F (-1) 24))
def crS (V F : Int → Int) : Int := if crB F = 0 then -2000000000 else w64 (Int.tdiv (w64 (1000 * w64 (w64 (sg F gN (-1) 24 * sg F (gVD V F) (-1) 24) - w64 (sg F (gvV V) (-1) 24 * sg F F (-1) 24)))) (crB F))
theorem slB_b {V F : Int → Int} (o : Vok V) (f : Fok V F) (t : Int) (q : slB V F t ≠ -2000000000) : ¬ F t < 0 ∧ slB V F t = slX V F t ∧ sg F (gDD F) t 24 ≠ 0 ∧ -9999000 ≤ slB V F t ∧ slB V F t ≤ 9999000 := by
  by_cases z : F t < 0
  · exact absurd (if_pos z) q
  · have e : slB V F t = slX V F t := if_neg z
    have n : sg F (gDD F) t 24 ≠ 0 := fun k => q ((slB_k o f z).2 k)
    have b := slX_b o f t n
    rw [e]
    exact ⟨z, rfl, n, b.2⟩
theorem s_turned {h : Hp} {c hh y : Int} {V U : Int → Int} (w : LK h c hh y V U) {F : Int → Int} (u : SU h V F) : C_Su_turnedSlope 99 h = some (tuS V F, h) := by
  rw [E_Su_turnedSlope]
  simp only [lkS w, if_true, u.2.2.2.2.2.1, u.2.2.2.2.2.2.1, tuS]
  by_cases q : sg F (gVD V F) (-1) 24 = 0 <;> simp [q]
theorem s_crossed {h : Hp} {c hh y : Int} {V U : Int → Int} (w : LK h c hh y V U) {F : Int → Int} (u : SU h V F) : C_Su_crossedSlope 99 h = some (crS V F, h) := by
  rw [E_Su_crossedSlope]
  simp only [lkS w, if_true, u.2.2.1, u.2.2.2.1, u.2.2.2.2.1, u.2.2.2.2.2.2.1, u.2.2.2.2.2.2.2]
  unfold crS
  have e : w64 (w64 (sg F gN (-1) 24 * sg F (gDD F) (-1) 24) - w64 (sg F F (-1) 24 * sg F F (-1) 24)) = crB F := rfl
  rw [e]
  by_cases q : crB F = 0 <;> simp [q]
theorem l_low {h : Hp} {c hh y : Int} {V U : Int → Int} (w : LK h c hh y V U) {F : Int → Int} (u : SU h V F) : ∀ (n : Nat) (t l : Int), 0 ≤ t → t + n = V 1 → P_Su_lowest_6 99 l t h = some (itN (loF V F) n t l, h) := by
  have n1 := lkn1 w
  intro n
  induction n with
  | zero =>
    intro t l t0 ht
    rw [E_Su_lowest_6]
    have : ¬ t < V 1 := by omega
    simp only [lkS w, lkC w, lkH w, lk0 w, lk1 w, lk2 w, lk3 w, lk4 w, lkc0 w, lkc1 w, lkc3 w, lkc4 w, lkc5 w, lkc6 w, lkc7 w, lkc8 w, lkh0 w, lkh1 w, lkh2 w, lkh3 w, lkh4 w, lkh5 w, lkh6 w, lkA1 w, lkA2 w, lkA3 w, lkA4 w, lkA5 w, lkA6 w, lkB1 w, lkB2 w, lkB3 w, lkA112 w, lkA113 w, lkS112 w, lkS113 w, lkv1 w, lkv3 w, lkv4 w, lkv5 w, lkv6 w, lkw1 w, lkw2 w, lkw3 w, w32_id, ↓reduceIte, bind_some', hb_eq, lt_w1 w, lt_w2 w, this, itN]
  | succ n ih =>
    intro t l t0 ht
    have q : t < V 1 := by omega
    have e : ∀ b, loF V F t l = b → itN (loF V F) (n + 1) t l = itN (loF V F) n (t + 1) b := fun b q => by rw [← q]; rfl
    rw [E_Su_lowest_6]
    simp (disch := omega) only [lkS w, lkC w, lkH w, lk0 w, lk1 w, lk2 w, lk3 w, lk4 w, lkc0 w, lkc1 w, lkc3 w, lkc4 w, lkc5 w, lkc6 w, lkc7 w, lkc8 w, lkh0 w, lkh1 w, lkh2 w, lkh3 w, lkh4 w, lkh5 w, lkh6 w, lkA1 w, lkA2 w, lkA3 w, lkA4 w, lkA5 w, lkA6 w, lkB1 w, lkB2 w, lkB3 w, lkA112 w, lkA113 w, lkS112 w, lkS113 w, lkv1 w, lkv3 w, lkv4 w, lkv5 w, lkv6 w, lkw1 w, lkw2 w, lkw3 w, w32_id, ↓reduceIte, bind_some', hb_eq, lt_w1 w, lt_w2 w, q, s_slopeBut w u]
    by_cases q1 : slB V F t = -2000000000
    · rw [if_pos q1, e l (if_pos q1)]
      exact ih (t + 1) l (by omega) (by omega)
    · rw [if_neg q1]
      by_cases q2 : l = -2000000000
      · rw [if_pos q2, e (slB V F t) (by unfold loF; rw [if_neg q1, if_pos (Or.inl q2)])]
        exact ih (t + 1) _ (by omega) (by omega)
      · rw [if_neg q2]
        by_cases q3 : slB V F t < l
        · rw [if_pos q3, e (slB V F t) (by unfold loF; rw [if_neg q1, if_pos (Or.inr q3)])]
          exact ih (t + 1) _ (by omega) (by omega)
        · rw [if_neg q3, e l (by unfold loF; rw [if_neg q1, if_neg (fun z => z.elim q2 q3)])]
          exact ih (t + 1) _ (by omega) (by omega)
theorem s_low {h : Hp} {c hh y : Int} {V U : Int → Int} (w : LK h c hh y V U) {F : Int → Int} (u : SU h V F) : C_Su_lowest 99 h = some (low V F, h) := by
  have n1 := lkn1 w
  rw [E_Su_lowest]
  unfold low
  rw [itN_cut (F := loF V F) n1.1 n1.2 _ (fun j b h0 h1 => if_pos (slB_o u.1 (by omega) h1 h0))]
  exact l_low w u (V 1).toNat 0 _ (by omega) (by omega)
theorem s_max (x y : Int) (h : Hp) : C_Ma_max_JJ x y h = some (if x < y then y else x, h) := by
  rw [E_Ma_max_JJ]; split <;> rfl
theorem l_high {h : Hp} {c hh y : Int} {V U : Int → Int} (w : LK h c hh y V U) {F : Int → Int} (u : SU h V F) : ∀ (n : Nat) (t l : Int), 0 ≤ t → t + n = V 1 → -2000000000 ≤ l → P_Su_highest_6 99 l t h = some (itN (hiF V F) n t l, h) := by
  have n1 := lkn1 w
  have o := w.2.2.2.2.2.2.1
  intro n
  induction n with
  | zero =>
    intro t l t0 ht l0
    rw [E_Su_highest_6]
    have : ¬ t < V 1 := by omega
    simp only [lkS w, lkC w, lkH w, lk0 w, lk1 w, lk2 w, lk3 w, lk4 w, lkc0 w, lkc1 w, lkc3 w, lkc4 w, lkc5 w, lkc6 w, lkc7 w, lkc8 w, lkh0 w, lkh1 w, lkh2 w, lkh3 w, lkh4 w, lkh5 w, lkh6 w, lkA1 w, lkA2 w, lkA3 w, lkA4 w, lkA5 w, lkA6 w, lkB1 w, lkB2 w, lkB3 w, lkA112 w, lkA113 w, lkS112 w, lkS113 w, lkv1 w, lkv3 w, lkv4 w, lkv5 w, lkv6 w, lkw1 w, lkw2 w, lkw3 w, w32_id, ↓reduceIte, bind_some', hb_eq, lt_w1 w, lt_w2 w, this, itN]
  | succ n ih =>
    intro t l t0 ht l0
    have q : t < V 1 := by omega
    have e : ∀ b, hiF V F t l = b → itN (hiF V F) (n + 1) t l = itN (hiF V F) n (t + 1) b := fun b q => by rw [← q]; rfl
    rw [E_Su_highest_6]
    simp (disch := omega) only [lkS w, lkC w, lkH w, lk0 w, lk1 w, lk2 w, lk3 w, lk4 w, lkc0 w, lkc1 w, lkc3 w, lkc4 w, lkc5 w, lkc6 w, lkc7 w, lkc8 w, lkh0 w, lkh1 w, lkh2 w, lkh3 w, lkh4 w, lkh5 w, lkh6 w, lkA1 w, lkA2 w, lkA3 w, lkA4 w, lkA5 w, lkA6 w, lkB1 w, lkB2 w, lkB3 w, lkA112 w, lkA113 w, lkS112 w, lkS113 w, lkv1 w, lkv3 w, lkv4 w, lkv5 w, lkv6 w, lkw1 w, lkw2 w, lkw3 w, w32_id, ↓reduceIte, bind_some', hb_eq, lt_w1 w, lt_w2 w, q, s_slopeBut w u, s_max]
    by_cases q1 : slB V F t = -2000000000
    · rw [e l (if_pos q1), if_neg (by omega)]
      exact ih (t + 1) l (by omega) (by omega) l0
    · have b := (slB_b o u.1 t q1).2.2.2
      by_cases q3 : l < slB V F t
      · rw [if_pos q3, e (slB V F t) (by unfold hiF; rw [if_neg q1, if_pos (Or.inr q3)])]
        exact ih (t + 1) _ (by omega) (by omega) (by omega)
      · rw [if_neg q3, e l (by unfold hiF; rw [if_neg q1, if_neg (fun z => z.elim (fun z => by omega) q3)])]
        exact ih (t + 1) _ (by omega) (by omega) l0
theorem s_high {h : Hp} {c hh y : Int} {V U : Int → Int} (w : LK h c hh y V U) {F : Int → Int} (u : SU h V F) : C_Su_highest 99 h = some (high V F, h) := by
  have n1 := lkn1 w
  rw [E_Su_highest]
  unfold high
  rw [itN_cut (F := hiF V F) n1.1 n1.2 _ (fun j b h0 h1 => if_pos (slB_o u.1 (by omega) h1 h0))]
  exact l_high w u (V 1).toNat 0 _ (by omega) (by omega) (by omega)
theorem s_apart (x y : Int) (h : Hp) : C_LS_apart x y h = some (if x < y then w64 (y - x) else w64 (x - y), h) := by
  rw [E_LS_apart]; split <;> rfl
theorem apt_e {x y : Int} (a0 : -4000000000 ≤ x - y) (a1 : x - y ≤ 4000000000) : (if x < y then w64 (y - x) else w64 (x - y)) = apt (w64 (x - y)) ∧ 0 ≤ apt (w64 (x - y)) := by
  rw [w64_id (x := x - y) (by omega) (by omega)]
  unfold apt
  by_cases q : x < y
  · rw [if_pos q, if_pos (by omega), w64_id (by omega) (by omega), w64_id (by omega) (by omega)]; omega
  · rw [if_neg q, if_neg (by omega)]; omega
theorem l_heavy {h : Hp} {c hh y : Int} {V U : Int → Int} (w : LK h c hh y V U) {F : Int → Int} (u : SU h V F) {H : Int} (hh : ∀ t, slB V F t ≠ -2000000000 → 0 ≤ t → t < 24 → -9999000 ≤ H ∧ H ≤ 9999000) : ∀ (n : Nat) (t : Int) (p : Int × Int), 0 ≤ t → t + n = V 1 → P_Su_heavyOne_15 99 H p.1 (if p.1 < 0 then -1 else p.2) t h = some ((itN (hvF V F H) n t p).1, h) := by
  have n1 := lkn1 w
  have o := w.2.2.2.2.2.2.1
  intro n
  induction n with
  | zero =>
    intro t p t0 ht
    rw [E_Su_heavyOne_15]
    have : ¬ t < V 1 := by omega
    simp only [lkS w, lkC w, lkH w, lk0 w, lk1 w, lk2 w, lk3 w, lk4 w, lkc0 w, lkc1 w, lkc3 w, lkc4 w, lkc5 w, lkc6 w, lkc7 w, lkc8 w, lkh0 w, lkh1 w, lkh2 w, lkh3 w, lkh4 w, lkh5 w, lkh6 w, lkA1 w, lkA2 w, lkA3 w, lkA4 w, lkA5 w, lkA6 w, lkB1 w, lkB2 w, lkB3 w, lkA112 w, lkA113 w, lkS112 w, lkS113 w, lkv1 w, lkv3 w, lkv4 w, lkv5 w, lkv6 w, lkw1 w, lkw2 w, lkw3 w, w32_id, ↓reduceIte, bind_some', hb_eq, lt_w1 w, lt_w2 w, this, itN]
  | succ n ih =>
    intro t p t0 ht
    have q : t < V 1 := by omega
    have e : ∀ b, hvF V F H t p = b → itN (hvF V F H) (n + 1) t p = itN (hvF V F H) n (t + 1) b := fun b q => by rw [← q]; rfl
    rw [E_Su_heavyOne_15]
    simp (disch := omega) only [lkS w, lkC w, lkH w, lk0 w, lk1 w, lk2 w, lk3 w, lk4 w, lkc0 w, lkc1 w, lkc3 w, lkc4 w, lkc5 w, lkc6 w, lkc7 w, lkc8 w, lkh0 w, lkh1 w, lkh2 w, lkh3 w, lkh4 w, lkh5 w, lkh6 w, lkA1 w, lkA2 w, lkA3 w, lkA4 w, lkA5 w, lkA6 w, lkB1 w, lkB2 w, lkB3 w, lkA112 w, lkA113 w, lkS112 w, lkS113 w, lkv1 w, lkv3 w, lkv4 w, lkv5 w, lkv6 w, lkw1 w, lkw2 w, lkw3 w, w32_id, ↓reduceIte, bind_some', hb_eq, lt_w1 w, lt_w2 w, q, s_slopeBut w u, s_apart]
    by_cases q1 : slB V F t = -2000000000
    · rw [if_pos q1, e p (if_pos q1)]
      exact ih (t + 1) p (by omega) (by omega)
    · rw [if_neg q1]
      have b := (slB_b o u.1 t q1).2.2.2
      have hb := hh t q1 t0 (by omega)
      have ae := apt_e (x := slB V F t) (y := H) (by omega) (by omega)
      rw [ae.1]
      by_cases q2 : p.1 < 0 ∨ p.2 < apt (w64 (slB V F t - H))
      · rw [e (t, apt (w64 (slB V F t - H))) (by unfold hvF; rw [if_neg q1, if_pos q2]), if_pos (by split <;> omega)]
        have z := ih (t + 1) (t, apt (w64 (slB V F t - H))) (by omega) (by omega)
        rw [show (if ((t, apt (w64 (slB V F t - H))) : Int × Int).1 < 0 then -1 else ((t, apt (w64 (slB V F t - H))) : Int × Int).2) = apt (w64 (slB V F t - H)) from if_neg (by show ¬ t < 0; omega)] at z
        exact z
      · rw [e p (by unfold hvF; rw [if_neg q1, if_neg q2]), if_neg (by split <;> omega)]
        exact ih (t + 1) p (by omega) (by omega)
theorem s_heavy {h : Hp} {c hh y : Int} {V U : Int → Int} (w : LK h c hh y V U) {F : Int → Int} (u : SU h V F) : C_Su_heavyOne 99 h = some (hv V F, h) := by
  have n1 := lkn1 w
  have o := w.2.2.2.2.2.2.1
  rw [E_Su_heavyOne, if_pos (lkS w), s_slope w u, bind_some']
  unfold hv
  rw [itN_cut (F := hvF V F (slX V F (-1))) n1.1 n1.2 _ (fun j b h0 h1 => if_pos (slB_o u.1 (by omega) h1 h0))]
  refine l_heavy w u (fun t q t0 t1 => ?_) (V 1).toNat 0 (-1, 0) (by omega) (by omega)
  by_cases z : sg F (gDD F) (-1) 24 = 0
  · exact absurd (sl_none o u.1 z t0 t1) q
  · exact (slX_b o u.1 (-1) z).2
