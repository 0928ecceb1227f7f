/-! Picking a far; sums over things; joining and dropping. -/
def ahd (V : Int → Int) (way r b : Int) : Prop := if way = 2 then ¬ stp V 6 r < stp V 6 b else stp V 6 r < stp V 6 b
theorem ahd_d (V : Int → Int) (way r b : Int) : ahd V way r b ∨ ¬ ahd V way r b := Classical.em _
noncomputable def pkF (V : Int → Int) (y : Int) (S : Int → Int) (t us way r : Int) (a : Int × Int × Int) : Int × Int × Int :=
  if bitT us r = true ∧ fB V y S t r ≠ -1 then (@ite _ (a.1 = -1 ∨ ahd V way r a.1) (Classical.propDecidable _) r a.1, w32 (a.2.1 + 1), w64 (a.2.2 + fB V y S t r)) else a
def pkE (V : Int → Int) (y : Int) (S : Int → Int) (t way : Int) (a : Int × Int × Int) : Int := if a.2.1 = 0 then -1 else if way = 1 then w32 (w64 (Int.tdiv a.2.2 a.2.1)) else fB V y S t a.1
noncomputable def pk (V : Int → Int) (y : Int) (S : Int → Int) (us way t : Int) : Int := pkE V y S t way (itN (pkF V y S t us way) (V 0).toNat 0 (-1, 0, 0))
theorem pkF_no {V : Int → Int} {y : Int} {S : Int → Int} {t us way r : Int} {a : Int × Int × Int} (q : ¬ (bitT us r = true ∧ fB V y S t r ≠ -1)) : pkF V y S t us way r a = a := if_neg q
theorem pkF_y {V : Int → Int} {y : Int} {S : Int → Int} {t us way r : Int} {a : Int × Int × Int} (q : bitT us r = true) (q2 : fB V y S t r ≠ -1) (q3 : a.1 = -1 ∨ ahd V way r a.1) : pkF V y S t us way r a = (r, w32 (a.2.1 + 1), w64 (a.2.2 + fB V y S t r)) := by
  unfold pkF; rw [if_pos ⟨q, q2⟩, if_pos q3]
theorem pkF_z {V : Int → Int} {y : Int} {S : Int → Int} {t us way r : Int} {a : Int × Int × Int} (q : bitT us r = true) (q2 : fB V y S t r ≠ -1) (q3 : ¬ (a.1 = -1 ∨ ahd V way r a.1)) : pkF V y S t us way r a = (a.1, w32 (a.2.1 + 1), w64 (a.2.2 + fB V y S t r)) := by
  unfold pkF; rw [if_pos ⟨q, q2⟩, if_neg q3]
def pkI (V : Int → Int) (r : Int) (a : Int × Int × Int) : Prop := (a.1 = -1 ∧ a.2.1 = 0) ∨ (0 ≤ a.1 ∧ a.1 < V 0 ∧ 0 < a.2.1 ∧ a.2.1 ≤ r)
theorem pkI_s {V : Int → Int} {y : Int} {S : Int → Int} {t us way r : Int} {a : Int × Int × Int} (i : pkI V r a) (v : V 0 ≤ 6) (r0 : 0 ≤ r) (r1 : r < V 0) : pkI V (r + 1) (pkF V y S t us way r a) := by
  by_cases q : bitT us r = true ∧ fB V y S t r ≠ -1
  · by_cases q3 : a.1 = -1 ∨ ahd V way r a.1
    · rw [pkF_y q.1 q.2 q3]
      unfold pkI at i ⊢
      have : w32 (a.2.1 + 1) = a.2.1 + 1 := w32_id (by omega) (by omega)
      simp only [this]
      omega
    · rw [pkF_z q.1 q.2 q3]
      have q4 : a.1 ≠ -1 := fun e => q3 (Or.inl e)
      unfold pkI at i ⊢
      have : w32 (a.2.1 + 1) = a.2.1 + 1 := w32_id (by omega) (by omega)
      simp only [this]
      omega
  · rw [pkF_no q]
    unfold pkI at i ⊢
    omega
theorem s_ahead {h : Hp} {c hh y : Int} {V U : Int → Int} (w : LK h c hh y V U) {r b way : Int} (r0 : 0 ≤ r) (r1 : r < V 0) (b0 : 0 ≤ b) (b1 : b < V 0) : C_Su_goesAhead 99 r b way h = some (@ite _ (ahd V way r b) (Classical.propDecidable _) 1 0, h) := by
  have n0 := lkn0 w
  rw [E_Su_goesAhead]
  simp (disch := omega) only [lkS w, lkC w, lkH w, lk0 w, lk1 w, lk2 w, lk3 w, lk4 w, lkc0 w, lkc1 w, lkc3 w, lkc4 w, lkc5 w, lkc6 w, lkc7 w, lkc8 w, lkh0 w, lkh1 w, lkh2 w, lkh3 w, lkh4 w, lkh5 w, lkh6 w, lkA1 w, lkA2 w, lkA3 w, lkA4 w, lkA5 w, lkA6 w, lkB1 w, lkB2 w, lkB3 w, lkA112 w, lkA113 w, lkS112 w, lkS113 w, lkv1 w, lkv3 w, lkv4 w, lkv5 w, lkv6 w, lkw1 w, lkw2 w, lkw3 w, w32_id, ↓reduceIte, bind_some', hb_eq, lt_w1 w, lt_w2 w]
  unfold ahd
  by_cases q : way = 2
  · simp only [q, if_true]
    by_cases q2 : stp V 6 r < stp V 6 b
    · simp [q2]
    · simp [q2]
  · simp only [q, if_false]
    by_cases q2 : stp V 6 r < stp V 6 b
    · simp [q2]
    · simp [q2]
theorem l_pick {h : Hp} {c hh y : Int} {V U : Int → Int} (w : LK h c hh y V U) {t us way : Int} (t0 : 0 ≤ t) (t1 : t < V 1) :
    ∀ (n : Nat) (r : Int) (a : Int × Int × Int), 0 ≤ r → r + n = V 0 → pkI V r a → P_Su_pick_12 99 t us way a.1 a.2.1 a.2.2 r h = some (pkE V y (mR h 112) t way (itN (pkF V y (mR h 112) t us way) n r a), h) := by
  have n0 := lkn0 w
  have n1 := lkn1 w
  intro n
  induction n with
  | zero =>
    intro r a r0 hr i
    rw [E_Su_pick_12]
    have : ¬ r < V 0 := by omega
    simp only [lkS w, lkC w, lkH w, lk0 w, lk1 w, lk2 w, lk3 w, lk4 w, lkc0 w, lkc1 w, lkc3 w, lkc4 w, lkc5 w, lkc6 w, lkc7 w, lkc8 w, lkh0 w, lkh1 w, lkh2 w, lkh3 w, lkh4 w, lkh5 w, lkh6 w, lkA1 w, lkA2 w, lkA3 w, lkA4 w, lkA5 w, lkA6 w, lkB1 w, lkB2 w, lkB3 w, lkA112 w, lkA113 w, lkS112 w, lkS113 w, lkv1 w, lkv3 w, lkv4 w, lkv5 w, lkv6 w, lkw1 w, lkw2 w, lkw3 w, w32_id, ↓reduceIte, bind_some', hb_eq, lt_w1 w, lt_w2 w, this, if_false, itN, pkE]
    by_cases q : a.2.1 = 0
    · simp [q]
    · by_cases q2 : way = 1
      · simp [q, q2]
      · unfold pkI at i
        simp (disch := omega) only [q, q2, if_false, s_farBy w, bind_some']
  | succ n ih =>
    intro r a r0 hr i
    have e : ∀ b, pkF V y (mR h 112) t us way r a = b → itN (pkF V y (mR h 112) t us way) n (r + 1) (pkF V y (mR h 112) t us way r a) = itN (pkF V y (mR h 112) t us way) n (r + 1) b := fun b q => by rw [q]
    rw [E_Su_pick_12]
    have q : r < V 0 := by omega
    have is := pkI_s (y := y) (S := mR h 112) (t := t) (us := us) (way := way) i n0.2 r0 q
    simp (disch := omega) only [lkS w, lkC w, lkH w, lk0 w, lk1 w, lk2 w, lk3 w, lk4 w, lkc0 w, lkc1 w, lkc3 w, lkc4 w, lkc5 w, lkc6 w, lkc7 w, lkc8 w, lkh0 w, lkh1 w, lkh2 w, lkh3 w, lkh4 w, lkh5 w, lkh6 w, lkA1 w, lkA2 w, lkA3 w, lkA4 w, lkA5 w, lkA6 w, lkB1 w, lkB2 w, lkB3 w, lkA112 w, lkA113 w, lkS112 w, lkS113 w, lkv1 w, lkv3 w, lkv4 w, lkv5 w, lkv6 w, lkw1 w, lkw2 w, lkw3 w, w32_id, ↓reduceIte, bind_some', hb_eq, lt_w1 w, lt_w2 w, q, itN, s_farBy w]
    by_cases q1 : bitT us r = true
    · have q1' : i_and (i_shr us r) 1 = 1 := of_decide_eq_true q1
      simp only [q1', if_true]
      by_cases q2 : fB V y (mR h 112) t r = -1
      · rw [e a (pkF_no (fun z => z.2 q2))]
        simp only [q2, if_true]
        rw [pkF_no (fun z => z.2 q2)] at is
        exact ih (r + 1) a (by omega) (by omega) is
      · simp only [q2, if_false]
        by_cases q3 : a.1 = -1
        · rw [pkF_y q1 q2 (Or.inl q3)] at is
          rw [e _ (pkF_y q1 q2 (Or.inl q3))]
          simp only [q3, if_true]
          exact ih (r + 1) (_, _, _) (by omega) (by omega) is
        · have ia : 0 ≤ a.1 ∧ a.1 < V 0 := by unfold pkI at i; omega
          simp only [q3, if_false, s_ahead w r0 q ia.1 ia.2, bind_some']
          by_cases q4 : ahd V way r a.1
          · rw [pkF_y q1 q2 (Or.inr q4)] at is
            rw [e _ (pkF_y q1 q2 (Or.inr q4))]
            simp only [q4, if_true, (by decide : ¬ ((1 : Int) = 0)), if_false]
            exact ih (r + 1) (_, _, _) (by omega) (by omega) is
          · have q5 : ¬ (a.1 = -1 ∨ ahd V way r a.1) := fun z => z.elim q3 q4
            rw [pkF_z q1 q2 q5] at is
            rw [e _ (pkF_z q1 q2 q5)]
            simp only [q4, if_false, if_true]
            exact ih (r + 1) (_, _, _) (by omega) (by omega) is
    · have q1' : ¬ i_and (i_shr us r) 1 = 1 := fun z => q1 (decide_eq_true z)
      rw [e a (pkF_no (fun z => q1 z.1))]
      rw [pkF_no (fun z => q1 z.1)] at is
      simp only [q1', if_false, if_true]
      exact ih (r + 1) a (by omega) (by omega) is
theorem s_pick {h : Hp} {c hh y : Int} {V U : Int → Int} (w : LK h c hh y V U) {t us way : Int} (t0 : 0 ≤ t) (t1 : t < V 1) : C_Su_pick 99 t us way h = some (pk V y (mR h 112) us way t, h) := by
  have n0 := lkn0 w
  rw [E_Su_pick]
  exact l_pick w t0 t1 (V 0).toNat 0 (-1, 0, 0) (by omega) (by omega) (Or.inl ⟨rfl, rfl⟩)
theorem pkF_congr {V : Int → Int} {y : Int} {S T : Int → Int} {t us way r : Int} {a : Int × Int × Int} (e : S r = T r) : pkF V y S t us way r a = pkF V y T t us way r a := by
  unfold pkF; rw [fB_congr e]
theorem pkI_n {V : Int → Int} {y : Int} {S : Int → Int} {t us way : Int} (v : 0 ≤ V 0 ∧ V 0 ≤ 6) : pkI V (V 0) (itN (pkF V y S t us way) (V 0).toNat 0 (-1, 0, 0)) := by
  have := itN_ind (F := pkF V y S t us way) (pkI V) (V 0).toNat 0 (-1, 0, 0) (Or.inl ⟨rfl, rfl⟩) (fun j b h0 h1 i => pkI_s i v.2 h0 (by omega))
  rw [show (0 : Int) + ((V 0).toNat : Int) = V 0 by omega] at this
  exact this
theorem pk_congr {V : Int → Int} {y : Int} {S T : Int → Int} {t us way : Int} (v : 0 ≤ V 0 ∧ V 0 ≤ 6) (e : ∀ r, 0 ≤ r → r < V 0 → S r = T r) : pk V y S us way t = pk V y T us way t := by
  unfold pk
  rw [itN_congr (G := pkF V y T t us way) _ _ _ (fun j b h0 h1 => pkF_congr (e j h0 (by omega)))]
  have i := pkI_n (V := V) (y := y) (S := T) (t := t) (us := us) (way := way) v
  unfold pkE
  by_cases q : (itN (pkF V y T t us way) (V 0).toNat 0 (-1, 0, 0)).2.1 = 0
  · simp [q]
  · unfold pkI at i
    have ia : 0 ≤ (itN (pkF V y T t us way) (V 0).toNat 0 (-1, 0, 0)).1 ∧ (itN (pkF V y T t us way) (V 0).toNat 0 (-1, 0, 0)).1 < V 0 := by omega
    rw [fB_congr (e _ ia.1 ia.2)]
