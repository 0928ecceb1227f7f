/-! Bounds of the ladder; the table of scales; climbing. -/
theorem atM_id {x : Int} (h0 : 0 ≤ x) : 0 ≤ atM x ∧ atM x ≤ 9999999 := by
  unfold atM
  split
  · omega
  · rw [w32_id (by omega) (by omega)]; omega
theorem rawY_b {V : Int → Int} (o : Vok V) {y t r : Int} (t0 : 0 ≤ t) (t1 : t < V 1) (r0 : 0 ≤ r) (r1 : r < V 0) : 0 ≤ rawY V y t r ∧ rawY V y t r ≤ 9999 := by
  have := o.2.2.2.2 t r t0 t1 r0 r1
  unfold rawY
  split <;> omega
theorem mul_b {a b : Int} (A B : Int) (a0 : 0 ≤ a) (a1 : a ≤ A) (b0 : 0 ≤ b) (b1 : b ≤ B) : 0 ≤ a * b ∧ a * b ≤ A * B :=
  ⟨Int.mul_nonneg a0 b0, Int.mul_le_mul a1 b1 b0 (Int.le_trans a0 a1)⟩
theorem fB_b {V : Int → Int} (o : Vok V) {y t r : Int} {S : Int → Int} (t0 : 0 ≤ t) (t1 : t < V 1) (r0 : 0 ≤ r) (r1 : r < V 0) (s0 : -1 ≤ S r) (s1 : S r ≤ 9999999) : -1 ≤ fB V y S t r ∧ fB V y S t r ≤ 9999999 ∧ (fB V y S t r = -1 ↔ (rawY V y t r = 0 ∨ S r = -1)) := by
  have k := rawY_b o (y := y) t0 t1 r0 r1
  unfold fB
  by_cases q : rawY V y t r = 0 ∨ S r = -1
  · simp only [q, if_true]
    exact ⟨by omega, by omega, trivial⟩
  · simp only [q, if_false]
    have m := mul_b 9999 9999999 k.1 k.2 (show 0 ≤ S r by omega) s1
    rw [w64_id (x := rawY V y t r * S r) (by omega) (by omega), Int.tdiv_eq_ediv_of_nonneg m.1, w64_id (by omega) (by omega)]
    have := atM_id (x := rawY V y t r * S r / 1000) (by omega)
    exact ⟨by omega, by omega, ⟨fun z => by omega, fun z => z.elim⟩⟩
theorem fsO_b {V : Int → Int} (o : Vok V) {y cb r q : Int} {S : Int → Int} (r0 : 0 ≤ r) (r1 : r < V 0) (q0 : 0 ≤ q) (q1 : q < V 0) (s0 : -1 ≤ S q) (s1 : S q ≤ 9999999) (n : Nat) (hn : n ≤ V 1) : (0 ≤ (itN (fsO V y S cb r q) n 0 (0, 0)).1 ∧ (itN (fsO V y S cb r q) n 0 (0, 0)).1 ≤ 9999999 * n) ∧ (0 ≤ (itN (fsO V y S cb r q) n 0 (0, 0)).2 ∧ (itN (fsO V y S cb r q) n 0 (0, 0)).2 ≤ 9999 * n) := by
  have := itN_ind (F := fsO V y S cb r q) (fun j b => (0 ≤ b.1 ∧ b.1 ≤ 9999999 * j) ∧ (0 ≤ b.2 ∧ b.2 ≤ 9999 * j)) n 0 (0, 0) (by simp) (fun j b h0 h1 hb => by
    have v1 := o.2.1
    have f := fB_b o (y := y) (S := S) (t := j) (r := q) h0 (by omega) q0 q1 s0 s1
    have k := rawY_b o (y := y) (t := j) h0 (by omega) r0 r1
    unfold fsO
    split
    · omega
    · rename_i z
      have z1 : fB V y S j q ≠ -1 := fun e => z (Or.inr (Or.inl e))
      show (0 ≤ w64 _ ∧ w64 _ ≤ _) ∧ (0 ≤ w64 _ ∧ w64 _ ≤ _)
      rw [w64_id (by omega) (by omega), w64_id (by omega) (by omega)]
      omega)
  simpa using this
theorem scO_b {V : Int → Int} (o : Vok V) {y cb r q : Int} {S : Int → Int} (r0 : 0 ≤ r) (r1 : r < V 0) (q0 : 0 ≤ q) (q1 : q < V 0) (s0 : -1 ≤ S q) (s1 : S q ≤ 9999999) : -1 ≤ scO V y S cb r q ∧ scO V y S cb r q ≤ 239999976000 := by
  have v1 := o.2.1
  have b := fsO_b o (y := y) (cb := cb) r0 r1 q0 q1 s0 s1 (V 1).toNat (by omega)
  unfold scO scE
  split
  · omega
  · rw [w64_id (x := 1000 * _) (by omega) (by omega), Int.tdiv_eq_ediv_of_nonneg (by omega)]
    have d1 := Int.ediv_nonneg (a := 1000 * (itN (fsO V y S cb r q) (V 1).toNat 0 (0, 0)).1) (b := (itN (fsO V y S cb r q) (V 1).toNat 0 (0, 0)).2) (by omega) b.2.1
    have d2 := Int.ediv_le_self (a := 1000 * (itN (fsO V y S cb r q) (V 1).toNat 0 (0, 0)).1) (itN (fsO V y S cb r q) (V 1).toNat 0 (0, 0)).2 (by omega)
    rw [w64_id (by omega) (by omega)]
    omega
theorem clR_b {s l : Int} (s0 : -1 ≤ s) (s1 : s ≤ 239999976000) (l0 : -51 ≤ l) (l1 : l ≤ 51) : -1 ≤ clR s l ∧ clR s l ≤ 9999999 := by
  unfold clR
  split
  · omega
  · have m := mul_b (a := s) (b := 100 + l) 239999976000 151 (by omega) s1 (by omega) (by omega)
    rw [w32_id (x := 100 + l) (by omega) (by omega), w64_id (x := s * (100 + l)) (by omega) (by omega), Int.tdiv_eq_ediv_of_nonneg m.1, w64_id (by omega) (by omega)]
    have := atM_id (x := s * (100 + l) / 100) (by omega)
    omega
theorem fB_congr {V : Int → Int} {y t r : Int} {S T : Int → Int} (e : S r = T r) : fB V y S t r = fB V y T t r := by unfold fB; rw [e]
theorem scO_congr {V : Int → Int} {y cb r q : Int} {S T : Int → Int} (e : S q = T q) : scO V y S cb r q = scO V y T cb r q := by
  unfold scO
  rw [itN_congr (G := fsO V y T cb r q)]
  intro j b _ _
  unfold fsO
  rw [fB_congr e]
theorem clV_congr {V U : Int → Int} {y r : Int} {S T : Int → Int} (e : V (3 + r) < 100 → S (V (3 + r)) = T (V (3 + r))) : clV V U y S r = clV V U y T r := by
  unfold clV
  by_cases q : V (3 + r) < 100
  · simp only [q, if_true]; rw [scO_congr (e q)]
  · simp only [q, if_false]
/-- the scales of the first n rungs -/
def sclT (V U : Int → Int) (y : Int) : Nat → Int → Int
  | 0, _ => -1
  | n + 1, i => if i = n then clV V U y (sclT V U y n) n else sclT V U y n i
theorem sclT_b {V U : Int → Int} (o : Vok V) (u : Uok U) (y : Int) : ∀ n : Nat, n ≤ V 0 → ∀ i, -1 ≤ sclT V U y n i ∧ sclT V U y n i ≤ 9999999
  | 0, _, i => by simp [sclT]
  | n + 1, hn, i => by
    have ih := sclT_b o u y n (by omega)
    have v0 := o.1
    unfold sclT
    split
    · unfold clV
      have u1 := u.2.1 n (by omega) (by omega)
      have v1 := o.2.2.1 n (by omega) (by omega)
      split
      · rename_i q
        have q2 := v1.2.2 q
        have b := scO_b o (y := y) (cb := U 2) (r := n) (q := V (3 + n)) (S := sclT V U y n) (by omega) (by omega) (by omega) (by omega) (ih _).1 (ih _).2
        exact clR_b b.1 b.2 u1.1 u1.2
      · exact clR_b (by omega) (by omega) u1.1 u1.2
    · exact ih i
theorem s_min (x : Int) (h : Hp) : C_Ma_min_JJ 9999999 x h = some (if x < 9999999 then x else 9999999, h) := by
  rw [E_Ma_min_JJ]; split <;> rfl
theorem atM_m (x : Int) : w32 (if x < 9999999 then x else 9999999) = atM x := by
  unfold atM
  by_cases q : x < 9999999
  · rw [if_pos q, if_neg (by omega)]
  · rw [if_neg q]
    by_cases q2 : 9999999 < x
    · rw [if_pos q2, w32_id (by omega) (by omega)]
    · rw [if_neg q2, show x = 9999999 by omega]
theorem okS_id (h : Hp) (a b c : Int) : okS h a b c = okS h a b c := rfl
theorem s_climb {h : Hp} {c hh y : Int} {V U : Int → Int} (w : LK h c hh y V U) {r : Int} (r0 : 0 ≤ r) (r1 : r < V 0) : C_Su_climb 99 r h = some (0, mW h 112 r (clV V U y (mR h 112) r)) := by
  have n0 := lkn0 w
  have n1 := lkn1 w
  rw [E_Su_climb]
  have v1 := w.2.2.2.2.2.2.1.2.2.1 r r0 r1
  by_cases q : V (3 + r) < 100
  · have e : onV V r = V (3 + r) := if_pos q
    have q2 := v1.2.2 q
    have q3 : ¬ V (3 + r) = -1 := by omega
    simp (disch := omega) only [lkS w, lkC w, lkH w, lk0 w, lk1 w, lk2 w, lk3 w, lk4 w, lkc0 w, lkc1 w, lkc3 w, lkc4 w, lkc5 w, lkc6 w, lkc7 w, lkc8 w, lkh0 w, lkh1 w, lkh2 w, lkh3 w, lkh4 w, lkh5 w, lkh6 w, lkA1 w, lkA2 w, lkA3 w, lkA4 w, lkA5 w, lkA6 w, lkB1 w, lkB2 w, lkB3 w, lkA112 w, lkA113 w, lkS112 w, lkS113 w, lkv1 w, lkv3 w, lkv4 w, lkv5 w, lkv6 w, lkw1 w, lkw2 w, lkw3 w, w32_id, ↓reduceIte, bind_some', hb_eq, lt_w1 w, lt_w2 w, e, q3, if_false, s_scaleOn w, s_min, atM_m]
    unfold clV clR
    simp only [q, if_true]
    by_cases q4 : scO V y (mR h 112) (U 2) r (V (3 + r)) = -1
    · simp only [q4, if_true]
    · simp only [q4, if_false]
  · have e : onV V r = -1 := if_neg q
    have q4 : ¬ V (3 + r) - 100 = -1 := by omega
    simp (disch := omega) only [lkS w, lkC w, lkH w, lk0 w, lk1 w, lk2 w, lk3 w, lk4 w, lkc0 w, lkc1 w, lkc3 w, lkc4 w, lkc5 w, lkc6 w, lkc7 w, lkc8 w, lkh0 w, lkh1 w, lkh2 w, lkh3 w, lkh4 w, lkh5 w, lkh6 w, lkA1 w, lkA2 w, lkA3 w, lkA4 w, lkA5 w, lkA6 w, lkB1 w, lkB2 w, lkB3 w, lkA112 w, lkA113 w, lkS112 w, lkS113 w, lkv1 w, lkv3 w, lkv4 w, lkv5 w, lkv6 w, lkw1 w, lkw2 w, lkw3 w, w32_id, ↓reduceIte, bind_some', hb_eq, lt_w1 w, lt_w2 w, e, lkv2 w r0 r1 e, q4, if_false, s_min, atM_m]
    unfold clV clR
    simp only [q, q4, if_false]
theorem l_look18 {c hh y : Int} {V U : Int → Int} : ∀ (n : Nat) (k : Nat) (h : Hp), LK h c hh y V U → k + n = V 0 → (∀ i : Int, 0 ≤ i → i < k → mR h 112 i = sclT V U y k i) →
    ∃ h', Fr pS h h' ∧ (∀ i, 0 ≤ i → i < V 0 → mR h' 112 i = sclT V U y (V 0).toNat i) ∧ P_Su_look_18 99 c hh k h = P_Su_look_18 99 c hh (V 0) h' := by
  intro n
  induction n with
  | zero =>
    intro k h w hk hs
    refine ⟨h, Fr.rf _ h, ?_, ?_⟩
    · intro i i0 i1
      rw [show (V 0).toNat = k by omega]
      exact hs i i0 (by omega)
    · rw [show (k : Int) = V 0 by omega]
  | succ n ih =>
    intro k h w hk hs
    have n0 := lkn0 w
    have f : Fr pS h (mW h 112 k (clV V U y (mR h 112) k)) := Fr.W h _ (Or.inr (Or.inl rfl))
    obtain ⟨h', f', g1, g2⟩ := ih (k + 1) (mW h 112 k (clV V U y (mR h 112) k)) (w.of f) (by omega) (fun i i0 i1 => by
      unfold sclT
      rw [mR_mW]
      by_cases q : i = (k : Int)
      · rw [if_pos ⟨rfl, q⟩, if_pos q]
        refine clV_congr (fun q => ?_)
        have v1 := w.2.2.2.2.2.2.1.2.2.1 k (by omega) (by omega)
        exact hs _ v1.1 (v1.2.2 q)
      · rw [if_neg (fun e => q e.2), if_neg q]
        exact hs i i0 (by omega))
    refine ⟨h', f.tr f', g1, ?_⟩
    rw [← g2, E_Su_look_18]
    have q : (k : Int) < V 0 := by omega
    simp (disch := omega) only [lkS w, lkC w, lkH w, lk0 w, lk1 w, lk2 w, lk3 w, lk4 w, lkc0 w, lkc1 w, lkc3 w, lkc4 w, lkc5 w, lkc6 w, lkc7 w, lkc8 w, lkh0 w, lkh1 w, lkh2 w, lkh3 w, lkh4 w, lkh5 w, lkh6 w, lkA1 w, lkA2 w, lkA3 w, lkA4 w, lkA5 w, lkA6 w, lkB1 w, lkB2 w, lkB3 w, lkA112 w, lkA113 w, lkS112 w, lkS113 w, lkv1 w, lkv3 w, lkv4 w, lkv5 w, lkv6 w, lkw1 w, lkw2 w, lkw3 w, w32_id, ↓reduceIte, bind_some', hb_eq, lt_w1 w, lt_w2 w, q, s_climb w]
    rfl
