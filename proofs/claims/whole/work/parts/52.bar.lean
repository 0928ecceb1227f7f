/-! What is barred. -/
theorem i_or_z {x : Int} (h0 : -2147483648 ≤ x) (h1 : x ≤ 2147483647) : i_or x 0 = x := by
  unfold i_or
  have e : (Int32.ofInt x ||| Int32.ofInt 0).toInt = ((Int32.ofInt x).toBitVec ||| 0#32).toInt := rfl
  have e2 : (Int32.ofInt x).toBitVec = BitVec.ofInt 32 x := rfl
  rw [e, BitVec.or_zero, e2, BitVec.toInt_ofInt]
  exact w32_id h0 h1
theorem i_or_b (x y : Int) : -2147483648 ≤ i_or x y ∧ i_or x y ≤ 2147483647 := by
  unfold i_or
  have h1 := BitVec.toInt_lt (x := (Int32.ofInt x ||| Int32.ofInt y).toBitVec)
  have h2 := BitVec.le_toInt (x := (Int32.ofInt x ||| Int32.ofInt y).toBitVec)
  have e : (Int32.ofInt x ||| Int32.ofInt y).toInt = (Int32.ofInt x ||| Int32.ofInt y).toBitVec.toInt := rfl
  rw [e]
  omega
def stF (V : Int → Int) (m i b : Int) : Int := if m < V (321 + i) then i_or b (i_shl 1 i) else b
theorem agB_b (x : Int) : -1 ≤ agB x ∧ agB x ≤ 100000000 := by
  unfold agB
  split
  · have d1 := Int.ediv_nonneg (a := 100000000) (b := x) (by omega) (by omega)
    have d2 := Int.ediv_le_self (a := 100000000) x (by omega)
    rw [Int.tdiv_eq_ediv_of_nonneg (by omega), w64_id (by omega) (by omega), w32_id (by omega) (by omega)]
    omega
  · omega
theorem l_stones {h : Hp} {c m : Int} {V : Int → Int} (w : CatC h c V) : ∀ (n : Nat) (i b : Int), 0 ≤ i → i + n = V 2 → P_Ca_stonesOver_4 c m b i h = some (itN (stF V m) n i b, h) := by
  have v2 := w.2.2.2.1
  intro n
  induction n with
  | zero =>
    intro i b i0 hi
    rw [E_Ca_stonesOver_4, if_pos (cF w.1.1), w.2.2.1, if_neg (by omega)]
    rfl
  | succ n ih =>
    intro i b i0 hi
    rw [E_Ca_stonesOver_4, if_pos (cF w.1.1), w.2.2.1, if_pos (show i < V 2 by omega), if_pos (cF w.1.1), c9 w.1.1, if_pos (cA7 w.1.1 i0 (by omega)), w.2.2.2.2.2 i i0 (by omega), w32_id (x := i + 1) (by omega) (by omega)]
    show _ = some (itN (stF V m) n (i + 1) (stF V m i b), h)
    unfold stF
    by_cases q : m < V (321 + i)
    · rw [if_pos q, if_pos q]
      exact ih (i + 1) _ (by omega) (by omega)
    · rw [if_neg q, if_neg q]
      exact ih (i + 1) _ (by omega) (by omega)
noncomputable def aBarred (T : Int → Int) (k j y : Int) : Int := if aAge T k j y = -1 then -1 else itN (stF (catT T k) (aAge T k j y)) (catT T k 2).toNat 0 0
theorem q_barred {h : Hp} {T : Int → Int} (w : Inv h T) (k j y : Int) : ∃ h', C_LS_barred 1 k j y h = some (aBarred T k j y, h') ∧ Fr pZ h h' := by
  have n := ivn w
  rw [E_LS_barred, if_pos (iv1 w)]
  unfold aBarred
  by_cases q2 : okL T k j y
  · obtain ⟨h1, g1, g2, g3⟩ := s_Look w q2
    have w1 := w.of (g2.to pL_Z)
    have u : SU h1 (catT T k) (frsA T k j y) := g3.2.1
    have k1 := q2.1
    have c := ivC w1 k1.1 k1.2
    have v2 := c.2.2.2.1
    refine ⟨h1, ?_, g2.to pL_Z⟩
    have e : aAge T k j y = agB (slX (catT T k) (frsA T k j y) (-1)) := cI_t q2
    rw [g1, bind_some', if_neg n10, if_pos (iv1 w1), iv16 w1, if_pos (ivS w1), s_slope g3.1 u, bind_some', s_ageBy, bind_some', e]
    by_cases x0 : agB (slX (catT T k) (frsA T k j y) (-1)) = -1
    · rw [if_pos x0, if_pos x0]
    · rw [if_neg x0, if_neg x0, if_pos (iv1 w1), iv10 w1, if_pos (iv2 w1), iv28 w1, if_pos (ivR4 w1 k1.1 (by omega)), iv4 w1 k1.1 (by omega), if_pos (cF c.1.1), E_Ca_stonesOver, l_stones c (catT T k 2).toNat 0 0 (by omega) (by omega), bind_some']
  · refine ⟨h, ?_, Fr.rf _ h⟩
    have e : aAge T k j y = -1 := cI_f q2
    rw [s_LookN w q2, bind_some', if_pos rfl, if_pos e]
theorem l_mbar {h : Hp} {T : Int → Int} (w : Inv h T) {k m : Int} (k0 : 0 ≤ k) (k1 : k < T 0) : ∀ (n : Nat) (i b : Int), 0 ≤ i → i + n = catT T k 2 → (-2147483648 ≤ b ∧ b ≤ 2147483647) → P_Mo_barred_29 124 m (520 + 330 * k) b i h = some (itN (stF (catT T k) m) n i b, h) := by
  have nn := ivn w
  have v2 := (ivC w k0 k1).2.2.2.1
  have e2 : T (520 + 330 * k + 2) = catT T k 2 := catE (by omega) (by omega)
  intro n
  induction n with
  | zero =>
    intro i b i0 hi hb
    rw [E_Mo_barred_29]
    have : ¬ i < catT T k 2 := by omega
    simp (disch := omega) only [ivM w, ivM0 w, w32_id (x := 520 + 330 * k + 2), ivMA w, ivMT w, ↓reduceIte, e2, this]
    rfl
  | succ n ih =>
    intro i b i0 hi hb
    have q : i < catT T k 2 := by omega
    have e3 : T (520 + 330 * k + 321 + i) = catT T k (321 + i) := by rw [← catE (T := T) (k := k) (by omega) (by omega)]; congr 1; omega
    rw [E_Mo_barred_29]
    simp (disch := omega) only [ivM w, ivM0 w, w32_id (x := 520 + 330 * k + 2), w32_id (x := 520 + 330 * k + 321), w32_id (x := 520 + 330 * k + 321 + i), w32_id (x := i + 1), ivMA w, ivMT w, ↓reduceIte, e2, e3, q, i_or_z hb.1 hb.2]
    show _ = some (itN (stF (catT T k) m) n (i + 1) (stF (catT T k) m i b), h)
    unfold stF
    by_cases x : m < catT T k (321 + i)
    · rw [if_pos x, if_pos x]
      exact ih (i + 1) _ (by omega) (by omega) (i_or_b _ _)
    · rw [if_neg x, if_neg x]
      exact ih (i + 1) _ (by omega) (by omega) hb
theorem r_barred {h : Hp} {T : Int → Int} (w : Inv h T) (k j y : Int) : ∃ h', C_Mo_barred 124 k j y h = some (aBarred T k j y, h') ∧ Fr pZ h h' := by
  have n := ivn w
  obtain ⟨h1, g1, g2⟩ := r_age w k j y
  have w1 := w.of g2
  refine ⟨h1, ?_, g2⟩
  rw [E_Mo_barred, if_pos (ivM w), g1, bind_some']
  unfold aBarred
  have ab : -1 ≤ aAge T k j y := by
    by_cases q2 : okL T k j y
    · have e : aAge T k j y = agB (slX (catT T k) (frsA T k j y) (-1)) := cI_t q2
      have := agB_b (slX (catT T k) (frsA T k j y) (-1))
      omega
    · have e : aAge T k j y = -1 := cI_f q2
      omega
  by_cases x0 : aAge T k j y = -1
  · rw [if_pos (show aAge T k j y < 0 by omega), if_pos x0]
  · have q2 : okL T k j y := by
      by_cases q : okL T k j y
      · exact q
      · exact absurd (cI_f q) x0
    have v2 := (ivC w1 q2.1.1 q2.1.2).2.2.2.1
    have k1 := q2.1
    rw [if_neg (show ¬ aAge T k j y < 0 by omega), if_neg x0, if_pos (ivM w1), m_catAt q2.1.1 (by omega), bind_some']
    exact l_mbar w1 q2.1.1 q2.1.2 (catT T k 2).toNat 0 0 (by omega) (by omega) (by decide)
