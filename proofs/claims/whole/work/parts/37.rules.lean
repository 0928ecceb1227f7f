/-! Rules; the whole look. -/
def pac (v : Int) : Int := if v < 0 then w32 (-v) else v
def thr (V F : Int → Int) (k z t : Int) : Bool := if k = 0 then decide (pac (V (9 + t)) < z) else if k = 1 then decide (z < pac (V (9 + t))) else if k = 2 then decide (F t < z) else if k = 3 then decide (z < F t) else false
def drF (V : Int → Int) (k z t : Int) (F : Int → Int) : Int → Int := if F t < 0 then F else if thr V F k z t = true then up1 F t (-1) else F
def doF (V : Int → Int) (_ : Int) (F : Int → Int) : Int → Int := if od V F = -1 then F else up1 F (od V F) (-1)
def ruF (V U : Int → Int) (i : Int) (F : Int → Int) : Int → Int := if U (10 + 2 * i) = 4 then itN (doF V) (U (11 + 2 * i)).toNat 0 F else itN (drF V (U (10 + 2 * i)) (U (11 + 2 * i))) 24 0 F
noncomputable def fr0 (V U : Int → Int) (y t : Int) : Int := if V 1 ≤ t then -1 else if bitT (U 2) t = true then -1 else pk V y (sclT V U y (V 0).toNat) (U 0) (U 1) t
noncomputable def frs (V U : Int → Int) (y : Int) : Int → Int := itN (ruF V U) (U 3).toNat 0 (fr0 V U y)
theorem s_thrown {h : Hp} {c hh y : Int} {V U : Int → Int} (w : LK h c hh y V U) {F : Int → Int} (u : SU h V F) {t k z : Int} (t0 : 0 ≤ t) (t1 : t < V 1) : C_Su_isThrown 99 t k z h = some (if thr V F k z t = true then 1 else 0, h) := by
  have n1 := lkn1 w
  rw [E_Su_isThrown]
  simp (disch := omega) only [lkS w, if_true, lk0 w, lkC w, lkc6 w, lkA4 w, lk4 w, lkA113 w, lkv4 w, u.2.1 t]
  unfold thr pac
  by_cases q : V (9 + t) < 0
  · simp only [q, if_true]
    by_cases k0 : k = 0
    · simp only [k0, if_true, decide_eq_true_eq]; split <;> rfl
    · by_cases k1 : k = 1
      · simp only [k0, k1, if_true, if_false, decide_eq_true_eq, (by decide : ¬ ((1 : Int) = 0))]; split <;> rfl
      · by_cases k2 : k = 2
        · simp only [k2, if_true, if_false, decide_eq_true_eq, (by decide : ¬ ((2 : Int) = 0)), (by decide : ¬ ((2 : Int) = 1))]; split <;> rfl
        · by_cases k3 : k = 3
          · simp only [k3, if_true, if_false, decide_eq_true_eq, (by decide : ¬ ((3 : Int) = 0)), (by decide : ¬ ((3 : Int) = 1)), (by decide : ¬ ((3 : Int) = 2))]; split <;> rfl
          · simp [k0, k1, k2, k3]
  · simp only [q, if_false]
    by_cases k0 : k = 0
    · simp only [k0, if_true, decide_eq_true_eq]; split <;> rfl
    · by_cases k1 : k = 1
      · simp only [k0, k1, if_true, if_false, decide_eq_true_eq, (by decide : ¬ ((1 : Int) = 0))]; split <;> rfl
      · by_cases k2 : k = 2
        · simp only [k2, if_true, if_false, decide_eq_true_eq, (by decide : ¬ ((2 : Int) = 0)), (by decide : ¬ ((2 : Int) = 1))]; split <;> rfl
        · by_cases k3 : k = 3
          · simp only [k3, if_true, if_false, decide_eq_true_eq, (by decide : ¬ ((3 : Int) = 0)), (by decide : ¬ ((3 : Int) = 1)), (by decide : ¬ ((3 : Int) = 2))]; split <;> rfl
          · simp [k0, k1, k2, k3]
theorem l_dropBy {c hh y k z : Int} {V U : Int → Int} : ∀ (n : Nat) (t : Int) (h : Hp) (F : Int → Int), LK h c hh y V U → SU h V F → 0 ≤ t → t + n = V 1 → ∃ h', P_Su_dropBy_2 99 k z t h = some (0, h') ∧ Fr pF h h' ∧ SU h' V (itN (drF V k z) n t F) := by
  intro n
  induction n with
  | zero =>
    intro t h F w u t0 ht
    refine ⟨h, ?_, Fr.rf _ h, u⟩
    rw [E_Su_dropBy_2]
    have : ¬ t < V 1 := by omega
    simp only [lkS w, lkC w, lkH w, lk0 w, lk1 w, lk2 w, lk3 w, lk4 w, lkc0 w, lkc1 w, lkc3 w, lkc4 w, lkc5 w, lkc6 w, lkc7 w, lkc8 w, lkh0 w, lkh1 w, lkh2 w, lkh3 w, lkh4 w, lkh5 w, lkh6 w, lkA1 w, lkA2 w, lkA3 w, lkA4 w, lkA5 w, lkA6 w, lkB1 w, lkB2 w, lkB3 w, lkA112 w, lkA113 w, lkS112 w, lkS113 w, lkv1 w, lkv3 w, lkv4 w, lkv5 w, lkv6 w, lkw1 w, lkw2 w, lkw3 w, w32_id, ↓reduceIte, bind_some', hb_eq, lt_w1 w, lt_w2 w, this, if_false]
  | succ n ih =>
    intro t h F w u t0 ht
    have n1 := lkn1 w
    have q : t < V 1 := by omega
    have ft := u.1 t t0 (by omega)
    rw [E_Su_dropBy_2]
    simp (disch := omega) only [lkS w, lkC w, lkH w, lk0 w, lk1 w, lk2 w, lk3 w, lk4 w, lkc0 w, lkc1 w, lkc3 w, lkc4 w, lkc5 w, lkc6 w, lkc7 w, lkc8 w, lkh0 w, lkh1 w, lkh2 w, lkh3 w, lkh4 w, lkh5 w, lkh6 w, lkA1 w, lkA2 w, lkA3 w, lkA4 w, lkA5 w, lkA6 w, lkB1 w, lkB2 w, lkB3 w, lkA112 w, lkA113 w, lkS112 w, lkS113 w, lkv1 w, lkv3 w, lkv4 w, lkv5 w, lkv6 w, lkw1 w, lkw2 w, lkw3 w, w32_id, ↓reduceIte, bind_some', hb_eq, lt_w1 w, lt_w2 w, q, u.2.1 t, s_thrown w u, itN]
    by_cases q1 : F t = -1
    · rw [show drF V k z t F = F from if_pos (by omega)]
      simp only [q1, if_true]
      exact ih (t + 1) h F w u (by omega) (by omega)
    · simp only [q1, if_false]
      by_cases q2 : thr V F k z t = true
      · rw [show drF V k z t F = up1 F t (-1) by unfold drF; rw [if_neg (by omega), if_pos q2]]
        obtain ⟨h1, g1, g2, g3⟩ := s_drop w u t0 q (by omega)
        have w1 := w.of (g2.to pF_S)
        obtain ⟨h2, g4, g5, g6⟩ := ih (t + 1) h1 _ w1 g3 (by omega) (by omega)
        refine ⟨h2, ?_, g2.tr g5, g6⟩
        simp only [q2, if_true, (by decide : ¬ ((1 : Int) = 0)), if_false, g1, bind_some']
        exact g4
      · rw [show drF V k z t F = F by unfold drF; rw [if_neg (by omega), if_neg q2]]
        simp only [q2, if_true, if_false]
        exact ih (t + 1) h F w u (by omega) (by omega)
theorem s_dropBy {h : Hp} {c hh y : Int} {V U : Int → Int} (w : LK h c hh y V U) {F : Int → Int} (u : SU h V F) (k z : Int) : ∃ h', C_Su_dropBy 99 k z h = some (0, h') ∧ Fr pF h h' ∧ SU h' V (itN (drF V k z) 24 0 F) := by
  have n1 := lkn1 w
  rw [E_Su_dropBy]
  obtain ⟨h', g1, g2, g3⟩ := l_dropBy (k := k) (z := z) (V 1).toNat 0 h F w u (by omega) (by omega)
  refine ⟨h', g1, g2, ?_⟩
  have e := itN_add (drF V k z) (V 1).toNat (24 - (V 1).toNat) 0 F
  rw [show (V 1).toNat + (24 - (V 1).toNat) = 24 by omega] at e
  rw [e, itN_idle (F := drF V k z) _ _ _ (fun j h0 h1 => if_pos (by have := (g3.1 j (by omega) (by omega)).2.2 (by omega); omega))]
  exact g3
theorem l_dropOdd {c hh y z : Int} {V U : Int → Int} (z1 : z ≤ 9999999) : ∀ (n : Nat) (i : Int) (h : Hp) (F : Int → Int), LK h c hh y V U → SU h V F → 0 ≤ i → i + n = z → ∃ h', P_Su_dropOdd_2 99 z i h = some (0, h') ∧ Fr pF h h' ∧ SU h' V (itN (doF V) n i F) := by
  intro n
  induction n with
  | zero =>
    intro i h F w u i0 hi
    refine ⟨h, ?_, Fr.rf _ h, u⟩
    rw [E_Su_dropOdd_2]
    have : ¬ i < z := by omega
    simp only [this, if_false]
  | succ n ih =>
    intro i h F w u i0 hi
    have n1 := lkn1 w
    have q : i < z := by omega
    rw [E_Su_dropOdd_2]
    simp (disch := omega) only [lkS w, lkC w, lkH w, lk0 w, lk1 w, lk2 w, lk3 w, lk4 w, lkc0 w, lkc1 w, lkc3 w, lkc4 w, lkc5 w, lkc6 w, lkc7 w, lkc8 w, lkh0 w, lkh1 w, lkh2 w, lkh3 w, lkh4 w, lkh5 w, lkh6 w, lkA1 w, lkA2 w, lkA3 w, lkA4 w, lkA5 w, lkA6 w, lkB1 w, lkB2 w, lkB3 w, lkA112 w, lkA113 w, lkS112 w, lkS113 w, lkv1 w, lkv3 w, lkv4 w, lkv5 w, lkv6 w, lkw1 w, lkw2 w, lkw3 w, w32_id, ↓reduceIte, bind_some', hb_eq, lt_w1 w, lt_w2 w, q, s_odd w u, itN]
    by_cases q1 : od V F = -1
    · have e : ∀ j, doF V j F = F := fun j => if_pos q1
      refine ⟨h, ?_, Fr.rf _ h, ?_⟩
      · simp only [q1, if_true]
      · rw [e i, itN_idle _ _ _ (fun j _ _ => e j)]
        exact u
    · have r : 0 ≤ od V F ∧ od V F < 24 ∧ 0 ≤ F (od V F) := (od_r u.1).resolve_left q1
      have r1 : od V F < V 1 := by
        by_cases z : od V F < V 1
        · exact z
        · have := (u.1 (od V F) r.1 r.2.1).2.2 (by omega)
          omega
      obtain ⟨h1, g1, g2, g3⟩ := s_drop w u r.1 r1 r.2.2
      have w1 := w.of (g2.to pF_S)
      obtain ⟨h2, g4, g5, g6⟩ := ih (i + 1) h1 _ w1 g3 (by omega) (by omega)
      rw [show doF V i F = up1 F (od V F) (-1) from if_neg q1]
      refine ⟨h2, ?_, g2.tr g5, g6⟩
      simp only [q1, if_false, g1, bind_some']
      exact g4
theorem l_look107 {c hh y : Int} {V U : Int → Int} : ∀ (n : Nat) (i : Int) (h : Hp) (F : Int → Int), LK h c hh y V U → SU h V F → 0 ≤ i → i + n = U 3 → ∃ h', P_Su_look_107 99 hh i h = some (0, h') ∧ Fr pF h h' ∧ SU h' V (itN (ruF V U) n i F) := by
  intro n
  induction n with
  | zero =>
    intro i h F w u i0 hi
    refine ⟨h, ?_, Fr.rf _ h, u⟩
    rw [E_Su_look_107]
    have : ¬ i < U 3 := by omega
    simp only [lkS w, lkC w, lkH w, lk0 w, lk1 w, lk2 w, lk3 w, lk4 w, lkc0 w, lkc1 w, lkc3 w, lkc4 w, lkc5 w, lkc6 w, lkc7 w, lkc8 w, lkh0 w, lkh1 w, lkh2 w, lkh3 w, lkh4 w, lkh5 w, lkh6 w, lkA1 w, lkA2 w, lkA3 w, lkA4 w, lkA5 w, lkA6 w, lkB1 w, lkB2 w, lkB3 w, lkA112 w, lkA113 w, lkS112 w, lkS113 w, lkv1 w, lkv3 w, lkv4 w, lkv5 w, lkv6 w, lkw1 w, lkw2 w, lkw3 w, w32_id, ↓reduceIte, bind_some', hb_eq, lt_w1 w, lt_w2 w, this, if_false]
  | succ n ih =>
    intro i h F w u i0 hi
    have n3 := w.2.2.2.2.2.2.2.1
    have q : i < U 3 := by omega
    have ru := w.2.2.2.2.2.2.2.2.2 i i0 q
    rw [E_Su_look_107]
    simp (disch := omega) only [lkS w, lkC w, lkH w, lk0 w, lk1 w, lk2 w, lk3 w, lk4 w, lkc0 w, lkc1 w, lkc3 w, lkc4 w, lkc5 w, lkc6 w, lkc7 w, lkc8 w, lkh0 w, lkh1 w, lkh2 w, lkh3 w, lkh4 w, lkh5 w, lkh6 w, lkA1 w, lkA2 w, lkA3 w, lkA4 w, lkA5 w, lkA6 w, lkB1 w, lkB2 w, lkB3 w, lkA112 w, lkA113 w, lkS112 w, lkS113 w, lkv1 w, lkv3 w, lkv4 w, lkv5 w, lkv6 w, lkw1 w, lkw2 w, lkw3 w, w32_id, ↓reduceIte, bind_some', hb_eq, lt_w1 w, lt_w2 w, q, itN]
    by_cases q1 : U (10 + 2 * i) = 4
    · rw [show ruF V U i F = itN (doF V) (U (11 + 2 * i)).toNat 0 F from if_pos q1]
      obtain ⟨h1, g1, g2, g3⟩ := l_dropOdd ru.2.2.2 (U (11 + 2 * i)).toNat 0 h F w u (by omega) (by omega)
      have w1 := w.of (g2.to pF_S)
      obtain ⟨h2, g4, g5, g6⟩ := ih (i + 1) h1 _ w1 g3 (by omega) (by omega)
      refine ⟨h2, ?_, g2.tr g5, g6⟩
      rw [if_pos q1, E_Su_dropOdd, g1, bind_some']
      exact g4
    · rw [show ruF V U i F = itN (drF V (U (10 + 2 * i)) (U (11 + 2 * i))) 24 0 F from if_neg q1]
      obtain ⟨h1, g1, g2, g3⟩ := s_dropBy w u (U (10 + 2 * i)) (U (11 + 2 * i))
      have w1 := w.of (g2.to pF_S)
      obtain ⟨h2, g4, g5, g6⟩ := ih (i + 1) h1 _ w1 g3 (by omega) (by omega)
      refine ⟨h2, ?_, g2.tr g5, g6⟩
      rw [if_neg q1, g1, bind_some']
      exact g4
theorem l_look46 {c hh y : Int} {V U : Int → Int} : ∀ (n : Nat) (t : Int) (h : Hp), LK h c hh y V U → SU h V (fun s => if s < t then fr0 V U y s else -1) → 0 ≤ t → t + n = V 1 → (∀ i, 0 ≤ i → i < V 0 → mR h 112 i = sclT V U y (V 0).toNat i) → ∃ h', P_Su_look_46 99 c hh t h = some (0, h') ∧ Fr pF h h' ∧ SU h' V (frs V U y) := by
  intro n
  induction n with
  | zero =>
    intro t h w u t0 ht hs
    have n3 := w.2.2.2.2.2.2.2.1
    have u1 : SU h V (fr0 V U y) := u.congr (fun s s0 s1 => by
      show (if s < t then fr0 V U y s else -1) = fr0 V U y s
      by_cases z : s < t
      · rw [if_pos z]
      · rw [if_neg z]; unfold fr0; rw [if_pos (by omega)])
    obtain ⟨h1, g1, g2, g3⟩ := l_look107 (U 3).toNat 0 h _ w u1 (by omega) (by omega)
    refine ⟨h1, ?_, g2, g3⟩
    rw [E_Su_look_46]
    have : ¬ t < V 1 := by omega
    simp only [lkS w, lkC w, lkH w, lk0 w, lk1 w, lk2 w, lk3 w, lk4 w, lkc0 w, lkc1 w, lkc3 w, lkc4 w, lkc5 w, lkc6 w, lkc7 w, lkc8 w, lkh0 w, lkh1 w, lkh2 w, lkh3 w, lkh4 w, lkh5 w, lkh6 w, lkA1 w, lkA2 w, lkA3 w, lkA4 w, lkA5 w, lkA6 w, lkB1 w, lkB2 w, lkB3 w, lkA112 w, lkA113 w, lkS112 w, lkS113 w, lkv1 w, lkv3 w, lkv4 w, lkv5 w, lkv6 w, lkw1 w, lkw2 w, lkw3 w, w32_id, ↓reduceIte, bind_some', hb_eq, lt_w1 w, lt_w2 w, this, if_false]
    exact g1
  | succ n ih =>
    intro t h w u t0 ht hs
    have n0 := lkn0 w
    have n1 := lkn1 w
    have o := w.2.2.2.2.2.2.1
    have q : t < V 1 := by omega
    have no : ¬ V 1 ≤ t := by omega
    have pe : pk V y (mR h 112) (U 0) (U 1) t = pk V y (sclT V U y (V 0).toNat) (U 0) (U 1) t := pk_congr n0 hs
    rw [E_Su_look_46]
    simp (disch := omega) only [lkS w, lkC w, lkH w, lk0 w, lk1 w, lk2 w, lk3 w, lk4 w, lkc0 w, lkc1 w, lkc3 w, lkc4 w, lkc5 w, lkc6 w, lkc7 w, lkc8 w, lkh0 w, lkh1 w, lkh2 w, lkh3 w, lkh4 w, lkh5 w, lkh6 w, lkA1 w, lkA2 w, lkA3 w, lkA4 w, lkA5 w, lkA6 w, lkB1 w, lkB2 w, lkB3 w, lkA112 w, lkA113 w, lkS112 w, lkS113 w, lkv1 w, lkv3 w, lkv4 w, lkv5 w, lkv6 w, lkw1 w, lkw2 w, lkw3 w, w32_id, ↓reduceIte, bind_some', hb_eq, lt_w1 w, lt_w2 w, q, s_casts w, s_pick w, pe]
    by_cases q1 : bitT (U 2) t = true
    · have e : fr0 V U y t = -1 := by unfold fr0; rw [if_neg no, if_pos q1]
      simp only [q1, if_true, (by decide : ¬ ((1 : Int) = 0)), if_false]
      exact ih (t + 1) h w (u.congr (fun s s0 s1 => by
        show (if s < t then fr0 V U y s else -1) = (if s < t + 1 then fr0 V U y s else -1)
        by_cases z : s < t
        · rw [if_pos z, if_pos (by omega)]
        · by_cases z2 : s = t
          · rw [if_neg z, if_pos (by omega), z2, e]
          · rw [if_neg z, if_neg (by omega)])) (by omega) (by omega) hs
    · have e : fr0 V U y t = pk V y (sclT V U y (V 0).toNat) (U 0) (U 1) t := by unfold fr0; rw [if_neg no, if_neg q1]
      simp only [q1, if_true, if_false]
      by_cases q2 : pk V y (sclT V U y (V 0).toNat) (U 0) (U 1) t = -1
      · simp only [q2, if_true]
        exact ih (t + 1) h w (u.congr (fun s s0 s1 => by
          show (if s < t then fr0 V U y s else -1) = (if s < t + 1 then fr0 V U y s else -1)
          by_cases z : s < t
          · rw [if_pos z, if_pos (by omega)]
          · by_cases z2 : s = t
            · rw [if_neg z, if_pos (by omega), z2, e, q2]
            · rw [if_neg z, if_neg (by omega)])) (by omega) (by omega) hs
      · have b := pk_b o (y := y) (us := U 0) (way := U 1) (S := sclT V U y (V 0).toNat) t0 q (fun r _ _ => sclT_b o w.2.2.2.2.2.2.2 y (V 0).toNat (by omega) r)
        obtain ⟨h1, g1, g2, g3⟩ := s_join w u t0 q (if_neg (by omega)) (show 0 ≤ pk V y (sclT V U y (V 0).toNat) (U 0) (U 1) t by omega) b.2
        have w1 := w.of (g2.to pF_S)
        obtain ⟨h2, g4, g5, g6⟩ := ih (t + 1) h1 w1 (g3.congr (fun s s0 s1 => by
          by_cases z2 : s = t
          · rw [z2, up1_s]
            show _ = (if t < t + 1 then fr0 V U y t else -1)
            rw [if_pos (by omega), e]
          · rw [up1_n z2]
            show (if s < t then fr0 V U y s else -1) = (if s < t + 1 then fr0 V U y s else -1)
            by_cases z : s < t
            · rw [if_pos z, if_pos (by omega)]
            · rw [if_neg z, if_neg (by omega)])) (by omega) (by omega) (fun i i0 i1 => by
          rw [g2.2 112 i (by unfold pF; omega)]; exact hs i i0 i1)
        refine ⟨h2, ?_, g2.tr g5, g6⟩
        simp only [q2, if_false, g1, bind_some']
        exact g4
def pL (b i : Int) : Prop := (b = 99 ∧ (i ≤ 2 ∨ 6 ≤ i)) ∨ b = 112 ∨ b = 113
/-- what the survey holds after a look -/
noncomputable def LKd (h : Hp) (c hh y : Int) (V U : Int → Int) : Prop := LK h c hh y V U ∧ SU h V (frs V U y) ∧ ∀ i, 0 ≤ i → i < V 0 → mR h 112 i = sclT V U y (V 0).toNat i
theorem s_look {h : Hp} {c hh y : Int} {V U : Int → Int} (s : SurS h) (cv : CatV h c V) (hv : HouV h hh U) (o : Vok V) (u : Uok U) : ∃ h', C_Su_look 99 c hh y h = some (0, h') ∧ Fr pL h h' ∧ LKd h' c hh y V U := by
  have n1 := cv.2.1
  have n2 := hv.2.1
  have f0 : Fr pL h (mW (mW (mW h 99 0 c) 99 1 hh) 99 2 y) := ((Fr.W h c (Or.inl ⟨rfl, by decide⟩)).tr (Fr.W _ hh (Or.inl ⟨rfl, by decide⟩))).tr (Fr.W _ y (Or.inl ⟨rfl, by decide⟩))
  have w : LK (mW (mW (mW h 99 0 c) 99 1 hh) 99 2 y) c hh y V U := by
    refine ⟨s.of f0.1 (fun i i0 i1 => f0.2 99 i (by unfold pL; omega)), cv.of f0.1 (fun b i _ _ => f0.2 b i (by unfold pL; omega)), hv.of f0.1 (fun b i _ _ => f0.2 b i (by unfold pL; omega)), ?_, ?_, ?_, o, u⟩
    · simp [mR_mW]
    · simp [mR_mW]
    · simp [mR_mW]
  have hF : okF h 99 9 = true := sF s
  rw [E_Su_look]
  simp only [hF, if_true, hb_eq, okF_W]
  obtain ⟨h1, f1, g1, g2⟩ := l_look18 (V 0).toNat 0 _ w (by have := o.1; omega) (fun i i0 i1 => by omega)
  have w1 := w.of f1
  obtain ⟨h2, k1, k2, k3⟩ := l_forget 24 0 h1 w1 (by omega) (by omega) (fun i i0 i1 => by omega)
  have w2 := w1.of (k2.to pF_S)
  obtain ⟨h3, m1, m2, m3⟩ := l_look46 (V 1).toNat 0 h2 w2 (k3.congr (fun s s0 s1 => by
    show -1 = (if s < 0 then fr0 V U y s else -1)
    rw [if_neg (by omega)])) (by omega) (by have := o.2.1; omega) (fun i i0 i1 => by rw [k2.2 112 i (by unfold pF; omega)]; exact g1 i i0 i1)
  refine ⟨h3, ?_, ((f0.tr (f1.to (fun b i q => by unfold pS at q; unfold pL; omega))).tr (k2.to (fun b i q => by unfold pF at q; unfold pL; omega))).tr (m2.to (fun b i q => by unfold pF at q; unfold pL; omega)), w2.of (m2.to pF_S), m3, fun i i0 i1 => by rw [m2.2 112 i (by unfold pF; omega), k2.2 112 i (by unfold pF; omega)]; exact g1 i i0 i1⟩
  have z0 : ((0 : Nat) : Int) = 0 := rfl
  rw [z0] at g2
  rw [g2, E_Su_look_18]
  have nl : ¬ V 0 < V 0 := by omega
  simp only [lkC w1, lkc0 w1, nl, if_true, if_false, lkS w1, E_Su_forget, k1, bind_some']
  exact m1
