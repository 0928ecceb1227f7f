/-! The reference: fars, sums. -/
theorem i_and1 (x : Int) : i_and x 1 = 0 ∨ i_and x 1 = 1 := by
  unfold i_and
  have e : (Int32.ofInt x &&& Int32.ofInt 1).toInt = ((Int32.ofInt x).toBitVec &&& 1#32).toInt := rfl
  rw [e]
  generalize (Int32.ofInt x).toBitVec = z
  have h1 : (z &&& 1#32).toNat = z.toNat % 2 := by rw [BitVec.toNat_and]; exact Nat.and_one_is_mod _
  have h2 := Nat.mod_two_eq_zero_or_one z.toNat
  have h3 : (z &&& 1#32).toInt = ((z &&& 1#32).toNat : Int) := by rw [BitVec.toInt_eq_toNat_cond, if_pos (by omega)]
  omega
theorem stp_le {V : Int → Int} (o : Vok V) : ∀ (n : Nat) (r : Int), 0 ≤ r → r < n → r < V 0 → stp V 6 r = stp V n r := by
  have key : ∀ (m n : Nat) (r : Int), 0 ≤ r → r < n → r < m → r < V 0 → stp V m r = stp V n r := by
    intro m
    induction m with
    | zero => intro n r r0 _ r2 _; omega
    | succ m ih =>
      intro n r r0 r1 r2 r3
      cases n with
      | zero => omega
      | succ n =>
        unfold stp
        by_cases q : V (3 + r) < 100
        · rw [if_pos q, if_pos q]
          have v := o.2.2.1 r r0 r3
          have := v.2.2 q
          rw [ih n (V (3 + r)) v.1 (by omega) (by omega) (by omega)]
        · rw [if_neg q, if_neg q]
  intro n r r0 r1 r2
  have := o.1
  exact key 6 n r r0 r1 (by omega) r2
theorem l_step {h : Hp} {a b y : Int} {V U : Int → Int} (w : MK h a b y V U) : ∀ (n : Nat) (r k : Int), 0 ≤ r → r < n → r < V 0 → 0 ≤ k → k + n ≤ 100 → P_Mo_step_5 124 a k r h = some (k + stp V n r, h) := by
  have nn := mkn w
  have o := w.2.2.2.2.2.1
  intro n
  induction n with
  | zero => intro r k r0 r1; omega
  | succ n ih =>
    intro r k r0 r1 r2 k0 k1
    rw [E_Mo_step_5]
    have v := o.2.2.1 r r0 r2
    simp (disch := omega) only [mkO w, mk0 w, mk11 w, mk12 w, mkA w, mkA8 w, mkA9 w, mkS8 w, mkS9 w, mkV0 w, mkV1 w, mkV3 w, mkV9 w, mkV33 w, mkV177 w, mkU0 w, mkU1 w, mkU2 w, mkU3 w, mkU4 w, mkU10 w, mkU11 w, w32_id, ↓reduceIte, bind_some', hb_eq, stp]
    by_cases q : V (3 + r) < 100
    · have := v.2.2 q
      rw [if_pos q, if_pos q, ih (V (3 + r)) (k + 1) v.1 (by omega) (by omega) (by omega) (by omega)]
      congr 2; omega
    · rw [if_neg q, if_neg q]; congr 2; omega
theorem m_step {h : Hp} {a b y : Int} {V U : Int → Int} (w : MK h a b y V U) {r : Int} (r0 : 0 ≤ r) (r1 : r < V 0) : C_Mo_step 124 a r h = some (stp V 6 r, h) := by
  have nn := mkn w
  rw [E_Mo_step, l_step w 6 r 0 r0 (by omega) r1 (by omega) (by omega)]
  congr 2; omega
theorem l_farOf {h : Hp} {a b y : Int} {V U : Int → Int} (w : MK h a b y V U) {t us way : Int} (t0 : 0 ≤ t) (t1 : t < V 1) (s : ∀ r, 0 ≤ r → r < V 0 → -1 ≤ mR h 128 r ∧ mR h 128 r ≤ 9999999) :
    ∀ (n : Nat) (r : Int) (p : Int × Int × Int), 0 ≤ r → r + n = V 0 → pkI V r p → (p.1 ≠ -1 → fB V y (mR h 128) t p.1 ≠ -1) → P_Mo_farOf_12 124 a t us way y p.1 p.2.2 p.2.1 r h = some (pkE V y (mR h 128) t way (itN (pkF V y (mR h 128) t us way) n r p), h) := by
  have nn := mkn w
  have o := w.2.2.2.2.2.1
  intro n
  induction n with
  | zero =>
    intro r p r0 hr i k
    rw [E_Mo_farOf_12]
    have : ¬ r < V 0 := by omega
    simp (disch := omega) only [mkO w, mk0 w, mk11 w, mk12 w, mkA w, mkA8 w, mkA9 w, mkS8 w, mkS9 w, mkV0 w, mkV1 w, mkV3 w, mkV9 w, mkV33 w, mkV177 w, mkU0 w, mkU1 w, mkU2 w, mkU3 w, mkU4 w, mkU10 w, mkU11 w, w32_id, ↓reduceIte, bind_some', hb_eq, this, itN, pkE]
    by_cases q : p.2.1 = 0
    · simp [q]
    · by_cases q2 : way = 1
      · simp [q, q2]
      · unfold pkI at i
        have i1 : 0 ≤ p.1 ∧ p.1 < V 0 := by omega
        have kk := k (by omega)
        have sp := s p.1 i1.1 i1.2
        have fb := fB_b o (y := y) (S := mR h 128) t0 t1 i1.1 i1.2 sp.1 sp.2
        have x1 : rawY V y t p.1 ≠ 0 := fun z => kk (fb.2.2.2 (Or.inl z))
        have x2 : mR h 128 p.1 ≠ -1 := fun z => kk (fb.2.2.2 (Or.inr z))
        simp only [q, q2, if_false, m_farBy w t0 t1 i1.1 i1.2 x1 x2, bind_some']
  | succ n ih =>
    intro r p r0 hr i k
    have e : ∀ b, pkF V y (mR h 128) t us way r p = b → itN (pkF V y (mR h 128) t us way) n (r + 1) (pkF V y (mR h 128) t us way r p) = itN (pkF V y (mR h 128) t us way) n (r + 1) b := fun b q => by rw [q]
    rw [E_Mo_farOf_12]
    have q : r < V 0 := by omega
    have sr := s r r0 q
    have fb := fB_b o (y := y) (S := mR h 128) t0 t1 r0 q sr.1 sr.2
    have is := pkI_s (y := y) (S := mR h 128) (t := t) (us := us) (way := way) i nn.2.2.1.2 r0 q
    simp (maxSteps := 1000000) (disch := omega) only [mkO w, mk0 w, mk11 w, mk12 w, mkA w, mkA8 w, mkA9 w, mkS8 w, mkS9 w, mkV0 w, mkV1 w, mkV3 w, mkV9 w, mkV33 w, mkV177 w, mkU0 w, mkU1 w, mkU2 w, mkU3 w, mkU4 w, mkU10 w, mkU11 w, w32_id, ↓reduceIte, bind_some', hb_eq, q, itN, m_known w]
    by_cases q1 : bitT us r = true
    · have q1' : ¬ i_and (i_shr us r) 1 = 0 := by
        have : i_and (i_shr us r) 1 = 1 := of_decide_eq_true q1
        omega
      simp only [q1', if_false]
      by_cases q2 : fB V y (mR h 128) t r = -1
      · rw [e p (pkF_no (fun z => z.2 q2))]
        rw [pkF_no (fun z => z.2 q2)] at is
        by_cases q3 : mR h 128 r < 0
        · rw [if_pos q3]
          exact ih (r + 1) p (by omega) (by omega) is k
        · rw [if_neg q3]
          have q4 : rawY V y t r = 0 := (fb.2.2.1 q2).resolve_right (by omega)
          simp only [q4, if_true]
          exact ih (r + 1) p (by omega) (by omega) is k
      · have x1 : rawY V y t r ≠ 0 := fun z => q2 (fb.2.2.2 (Or.inl z))
        have x2 : mR h 128 r ≠ -1 := fun z => q2 (fb.2.2.2 (Or.inr z))
        have x3 : ¬ mR h 128 r < 0 := by omega
        simp only [x1, x3, if_false, (by decide : ¬ ((1 : Int) = 0)), m_farBy w t0 t1 r0 q x1 x2, bind_some', mkO w, if_true]
        by_cases q3 : p.1 = -1
        · rw [pkF_y q1 q2 (Or.inl q3)] at is
          rw [e _ (pkF_y q1 q2 (Or.inl q3))]
          have q4 : p.1 < 0 := by omega
          simp only [q4, if_true]
          exact ih (r + 1) (_, _, _) (by omega) (by omega) is (fun _ => q2)
        · have ia : 0 ≤ p.1 ∧ p.1 < V 0 := by unfold pkI at i; omega
          have q4 : ¬ p.1 < 0 := by omega
          simp only [q4, if_false, m_step w r0 q, m_step w ia.1 ia.2, bind_some', mkO w, if_true]
          by_cases q5 : ahd V way r p.1
          · rw [pkF_y q1 q2 (Or.inr q5)] at is
            rw [e _ (pkF_y q1 q2 (Or.inr q5))]
            have z := ih (r + 1) (r, w32 (p.2.1 + 1), w64 (p.2.2 + fB V y (mR h 128) t r)) (by omega) (by omega) is (fun _ => q2)
            unfold ahd at q5
            by_cases q6 : way = 2
            · rw [if_pos q6] at q5
              rw [if_pos q6, if_neg q5]
              exact z
            · rw [if_neg q6] at q5
              rw [if_neg q6, if_pos q5]
              exact z
          · have q7 : ¬ (p.1 = -1 ∨ ahd V way r p.1) := fun z => z.elim q3 q5
            rw [pkF_z q1 q2 q7] at is
            rw [e _ (pkF_z q1 q2 q7)]
            have z := ih (r + 1) (p.1, w32 (p.2.1 + 1), w64 (p.2.2 + fB V y (mR h 128) t r)) (by omega) (by omega) is k
            unfold ahd at q5
            by_cases q6 : way = 2
            · rw [if_pos q6] at q5
              rw [if_pos q6, if_pos (Classical.not_not.1 q5)]
              exact z
            · rw [if_neg q6] at q5
              rw [if_neg q6, if_neg q5]
              exact z
    · have q1' : i_and (i_shr us r) 1 = 0 := (i_and1 _).resolve_right (fun z => q1 (decide_eq_true z))
      rw [e p (pkF_no (fun z => q1 z.1))]
      rw [pkF_no (fun z => q1 z.1)] at is
      simp only [q1', if_true]
      exact ih (r + 1) p (by omega) (by omega) is k
theorem m_farOf {h : Hp} {a b y : Int} {V U : Int → Int} (w : MK h a b y V U) {t us way : Int} (t0 : 0 ≤ t) (t1 : t < V 1) (s : ∀ r, 0 ≤ r → r < V 0 → -1 ≤ mR h 128 r ∧ mR h 128 r ≤ 9999999) : C_Mo_farOf 124 a t us way y h = some (pk V y (mR h 128) us way t, h) := by
  have nn := mkn w
  rw [E_Mo_farOf]
  exact l_farOf w t0 t1 s (V 0).toNat 0 (-1, 0, 0) (by omega) (by omega) (Or.inl ⟨rfl, rfl⟩) (fun z => absurd rfl z)
