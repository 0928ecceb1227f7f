/-! sorts of the reference; heaps; the middle. -/
theorem r_sorts {h : Hp} {T : Int → Int} (w : Inv h T) (k j y r x : Int) : ∃ h', C_Mo_sorts 124 k j y r x h = some (aSorts T k j y r x, h') ∧ Fr pZ h h' := by
  obtain ⟨h1, g1, f1, w1, e1⟩ := m_areSorts w k j y r
  obtain ⟨_, _, _, _, e2⟩ := s_gather w k j y r
  have m1 := ivSo w1
  rw [E_Mo_sorts, if_pos (ivM w), g1, bind_some']
  unfold aSorts
  by_cases q : okL T k j y ∧ 0 ≤ r ∧ r < catT T k 0
  · have so := e1 q
    have n1 := (e2 q).2
    have zb := zBt_b (n := (zSr T k j y r).1) (Q := (zSr T k j y r).2.1)
    have bd := zSr_b (y := y) (ivC w q.1.1.1 q.1.1.2).2.1 (ivH w q.1.2.1.1 q.1.2.1.2).2.1 q.2.1 q.2.2
    rw [bI_t q, if_neg n10, cI_t q]
    generalize zSr T k j y r = st at so n1 zb bd
    dsimp only
    unfold zSx
    by_cases x1 : x = 1
    · exact ⟨h1, by rw [if_pos x1, if_pos x1, if_pos (ivM w1), so.1], f1⟩
    · rw [if_neg x1, if_neg x1, if_pos (ivM w1), so.1, w32_id (x := 9 + (st.1 : Int)) (by omega) (by omega), m_isIn, bind_some']
      by_cases x10 : 10 ≤ x ∧ x < 10 + (st.1 : Int)
      · refine ⟨h1, ?_, f1⟩
        rw [bI_t (by omega), if_neg n10, if_pos (ivM w1), m1.1, w32_id (x := x - 10) (by omega) (by omega), if_pos (okA_t m1.2.2.1 (by omega) (by omega)), (so.2 (x - 10) (by omega) (by omega)).2, if_pos x10]
      · rw [bI_f (show ¬ (10 ≤ x ∧ x ≤ 9 + (st.1 : Int)) by omega), if_pos rfl, if_pos (ivM w1), so.1, if_neg x10]
        by_cases s : st.1 < 2
        · exact ⟨h1, by rw [if_pos (show (st.1 : Int) < 2 by omega), if_pos s], f1⟩
        · rw [if_neg (show ¬ (st.1 : Int) < 2 by omega), if_neg s]
          have z1 := zb.2 (by omega)
          obtain ⟨h2, g2, f2, c2, d2⟩ := m_best w1 so n1 (by omega)
          have w2 := w1.of (f2.to pBs_Z)
          have so2 := so.of f2
          generalize hb : (zBt st.1 st.2.1).1 = b at z1 g2
          have eb : ((b.toNat : Nat) : Int) = b := by omega
          by_cases x0 : x = 0
          · refine ⟨h2, ?_, f1.tr (f2.to pBs_Z)⟩
            rw [if_pos x0, if_pos x0, E_Mo_sorts_80, if_pos (ivM w1), g2, bind_some', if_pos x0]
          · rw [if_neg x0, if_neg x0]
            by_cases x2 : x = 2
            · refine ⟨h2, ?_, f1.tr (f2.to pBs_Z)⟩
              have ms := m_sum w2 so2 n1 (k := b.toNat) (by omega)
              rw [eb] at ms
              rw [if_pos x2, if_pos x2, E_Mo_sorts_80, if_pos (ivM w1), g2, bind_some', if_neg x0, if_pos x2, if_pos (ivM w2), ms, bind_some', if_neg (show ¬ b = 0 by omega)]
            · rw [if_neg x2, if_neg x2]
              by_cases x3 : x = 3
              · refine ⟨h2, ?_, f1.tr (f2.to pBs_Z)⟩
                have ms := m_sum w2 so2 n1 (k := b.toNat) (by omega)
                rw [eb] at ms
                have mn := m_sum w2 so2 n1 (k := st.1) (Nat.le_refl _)
                have b1 := zA_b n1 bd b.toNat 0 0 (by omega) (by omega) (by omega)
                have b2 := zA_b n1 bd st.1 0 0 (by omega) (by omega) (by omega)
                rw [Nat.zero_add] at b1 b2
                rw [if_pos x3, if_pos x3, E_Mo_sorts_80, if_pos (ivM w1), g2, bind_some', if_neg x0, if_neg x2, if_pos (ivM w2), if_pos (ivM w2), so2.1, mn, bind_some', if_pos (ivM w2), ms, bind_some', if_pos (ivM w2), so2.1, w32_id (x := (st.1 : Int) - b) (by omega) (by omega), if_neg (show ¬ (st.1 : Int) - b = 0 by omega)]
                dsimp only
                rw [w64_id (x := sQ st.2.1 st.1 - sQ st.2.1 b.toNat) (by omega) (by omega)]
              · exact ⟨h1, by rw [if_neg x3, if_neg x3], f1⟩
  · exact ⟨h1, by rw [bI_f q, if_pos rfl, cI_f q], f1⟩
def zMd (n : Nat) : Int := w32 (Int.tdiv (w32 ((n : Int) - 1)) 2)
theorem zMd_b {n : Nat} (n0 : n ≠ 0) (n1 : n ≤ 24) : 0 ≤ zMd n ∧ zMd n < n := by
  unfold zMd
  rw [w32_id (x := (n : Int) - 1) (by omega) (by omega), Int.tdiv_eq_ediv_of_nonneg (by omega), w32_id (by omega) (by omega)]
  omega
def zHp (n : Nat) (S : zR) (f i b : Int) : Int := if w64 (f * S.1 (zMd n)) < w64 (100 * S.1 i) then i_or b (i_shl 1 (S.2 i)) else b
noncomputable def aHeaps (T : Int → Int) (k j y r f : Int) : Int := cI ((1 ≤ f ∧ f ≤ 999) ∧ (okL T k j y ∧ 0 ≤ r ∧ r < catT T k 0) ∧ (zSr T k j y r).1 ≠ 0) (itN (zHp (zSr T k j y r).1 (zSr T k j y r).2 f) (zSr T k j y r).1 0 0) (-1)
theorem l_above {h : Hp} {T : Int → Int} (w : Inv h T) {n : Nat} {S : zR} (r : RaH h n S) (n0 : n ≠ 0) (n1 : n ≤ 24) {f : Int} : ∀ (m : Nat) (i b : Int), 0 ≤ i → i + m = n → P_Ra_above_4 115 f b i h = some (itN (zHp n S f) m i b, h) := by
  have mm := ivRa w
  have zm := zMd_b n0 n1
  intro m
  induction m with
  | zero =>
    intro i b i0 hi
    rw [E_Ra_above_4, if_pos mm.1, r.1, if_neg (by omega)]
    rfl
  | succ m ih =>
    intro i b i0 hi
    have ez : w32 (Int.tdiv (w32 ((n : Int) - 1)) 2) = zMd n := rfl
    rw [E_Ra_above_4, if_pos mm.1, r.1, if_pos (show i < n by omega), if_pos mm.1, mm.2.2.1, if_pos (okA_t mm.2.2.2.2.1 i0 (by omega)), if_pos mm.1, if_pos mm.1, ez, if_pos (okA_t mm.2.2.2.2.1 zm.1 (by omega)), (r.2 i i0 (by omega)).1, (r.2 (zMd n) zm.1 zm.2).1, if_pos mm.1, mm.2.1, if_pos (okA_t mm.2.2.2.1 i0 (by omega)), (r.2 i i0 (by omega)).2, w32_id (x := i + 1) (by omega) (by omega), Int.mul_comm (S.1 i) 100]
    show _ = some (itN (zHp n S f) m (i + 1) (zHp n S f i b), h)
    unfold zHp
    by_cases q : w64 (f * S.1 (zMd n)) < w64 (100 * S.1 i)
    · rw [if_pos q, if_pos q]; exact ih (i + 1) _ (by omega) (by omega)
    · rw [if_neg q, if_neg q]; exact ih (i + 1) _ (by omega) (by omega)
theorem q_heaps {h : Hp} {T : Int → Int} (w : Inv h T) (k j y r f : Int) : ∃ h', C_LS_heaps 1 k j y r f h = some (aHeaps T k j y r f, h') ∧ Fr pZ h h' := by
  rw [E_LS_heaps]
  unfold aHeaps
  by_cases qf : 1 ≤ f ∧ f ≤ 999
  · obtain ⟨h1, g1, f1, w1, e1⟩ := s_gather w k j y r
    have m1 := ivRa w1
    rw [if_neg (show ¬ f < 1 by omega), if_neg (show ¬ 999 < f by omega), if_pos (iv1 w), g1, bind_some']
    by_cases q : okL T k j y ∧ 0 ≤ r ∧ r < catT T k 0
    · obtain ⟨ra, n1⟩ := e1 q
      refine ⟨h1, ?_, f1⟩
      rw [bI_t q, if_neg n10, if_pos (iv1 w1), m1.2.2.2.2.2, if_pos m1.1, ra.1]
      by_cases n0 : (zSr T k j y r).1 = 0
      · rw [if_pos (by omega), cI_f (fun z => z.2.2 n0)]
      · rw [if_neg (by omega), if_pos (iv1 w1), if_pos m1.1, E_Ra_above, l_above w1 ra n0 n1 (zSr T k j y r).1 0 0 (by omega) (by omega), bind_some', cI_t ⟨qf, q, n0⟩]
    · exact ⟨h1, by rw [bI_f q, if_pos rfl, cI_f (fun z => q z.2.1)], f1⟩
  · refine ⟨h, ?_, Fr.rf _ h⟩
    rw [cI_f (fun z => qf z.1)]
    by_cases z : f < 1
    · rw [if_pos z]
    · rw [if_neg z, if_pos (by omega)]
theorem l_mheaps {h : Hp} {T : Int → Int} (w : Inv h T) {n : Nat} {S : zR} (r : SoH h n S) (n1 : n ≤ 24) {f : Int} : ∀ (m : Nat) (i b : Int), 0 ≤ i → i + m = n → (-2147483648 ≤ b ∧ b ≤ 2147483647) → P_Mo_heaps_55 124 f (S.1 (zMd n)) b i h = some (itN (zHp n S f) m i b, h) := by
  have mm := ivSo w
  intro m
  induction m with
  | zero =>
    intro i b i0 hi hb
    rw [E_Mo_heaps_55, if_pos (ivM w), r.1, if_neg (by omega)]
    rfl
  | succ m ih =>
    intro i b i0 hi hb
    rw [E_Mo_heaps_55, if_pos (ivM w), r.1, if_pos (show i < n by omega), if_pos (ivM w), mm.2.1, if_pos (okA_t mm.2.2.2 i0 (by omega)), (r.2 i i0 (by omega)).1, if_pos (ivM w), mm.1, if_pos (okA_t mm.2.2.1 i0 (by omega)), (r.2 i i0 (by omega)).2, w32_id (x := i + 1) (by omega) (by omega), i_or_z hb.1 hb.2]
    show _ = some (itN (zHp n S f) m (i + 1) (zHp n S f i b), h)
    unfold zHp
    by_cases q : w64 (f * S.1 (zMd n)) < w64 (100 * S.1 i)
    · rw [if_pos q, if_pos q]; exact ih (i + 1) _ (by omega) (by omega) (i_or_b _ _)
    · rw [if_neg q, if_neg q]; exact ih (i + 1) _ (by omega) (by omega) hb
theorem r_heaps {h : Hp} {T : Int → Int} (w : Inv h T) (k j y r f : Int) : ∃ h', C_Mo_heaps 124 k j y r f h = some (aHeaps T k j y r f, h') ∧ Fr pZ h h' := by
  rw [E_Mo_heaps, m_isIn, bind_some']
  unfold aHeaps
  by_cases qf : 1 ≤ f ∧ f ≤ 999
  · obtain ⟨h1, g1, f1, w1, e1⟩ := m_areSorts w k j y r
    obtain ⟨_, _, _, _, e2⟩ := s_gather w k j y r
    have m1 := ivSo w1
    rw [bI_t qf, if_neg n10, if_pos (ivM w), g1, bind_some']
    by_cases q : okL T k j y ∧ 0 ≤ r ∧ r < catT T k 0
    · have so := e1 q
      have n1 := (e2 q).2
      refine ⟨h1, ?_, f1⟩
      rw [bI_t q, if_neg n10, if_pos (ivM w1), so.1]
      by_cases n0 : (zSr T k j y r).1 = 0
      · rw [if_pos (by omega), cI_f (fun z => z.2.2 n0)]
      · have zm := zMd_b n0 n1
        have ez : w32 (Int.tdiv (w32 (((zSr T k j y r).1 : Int) - 1)) 2) = zMd (zSr T k j y r).1 := rfl
        rw [if_neg (by omega), if_pos (ivM w1), m1.2.1, if_pos (ivM w1), ez, if_pos (okA_t m1.2.2.2 zm.1 (by omega)), (so.2 _ zm.1 zm.2).1, cI_t ⟨qf, q, n0⟩]
        exact l_mheaps w1 so n1 (zSr T k j y r).1 0 0 (by omega) (by omega) (by omega)
    · exact ⟨h1, by rw [bI_f q, if_pos rfl, cI_f (fun z => q z.2.1)], f1⟩
  · exact ⟨h, by rw [bI_f qf, if_pos rfl, cI_f (fun z => qf z.1)], Fr.rf _ h⟩
/-! the middle -/
def zGs (V F : Int → Int) (t : Int) (a : Nat × zR) : Nat × zR := if F t < 1 then a else (a.1 + 1, ins (w64 (Int.tdiv (w64 (1000 * V (9 + t))) (F t))) t a.1 a.2)
theorem l_gsp {T : Int → Int} {k hh y : Int} {F U : Int → Int} (k0 : 0 ≤ k) (k1 : k < T 0) : ∀ (n : Nat) (t : Int) (h : Hp) (a : Nat × zR), Inv h T → (∀ s, 0 ≤ s → s < 24 → mR h 113 s = F s) → RaH h a.1 a.2 → (a.1 : Int) ≤ t → 0 ≤ t → t + n = catT T k 1 → ∃ h', P_Ra_gatherSpeeds_12 115 99 (8 + 8 * k) t h = some (0, h') ∧ Fr pRa h h' ∧ RaH h' (itN (zGs (catT T k) F) n t a).1 (itN (zGs (catT T k) F) n t a).2 ∧ ((itN (zGs (catT T k) F) n t a).1 : Int) ≤ t + n := by
  intro n
  induction n with
  | zero =>
    intro t h a w e ra a1 t0 ht
    have c := ivC w k0 k1
    refine ⟨h, ?_, Fr.rf _ h, ra, by show (a.1 : Int) ≤ _; omega⟩
    rw [E_Ra_gatherSpeeds_12, if_pos (cF c.1.1), c.1.2.2.2.1, if_neg (by omega)]
  | succ n ih =>
    intro t h a w e ra a1 t0 ht
    have c := ivC w k0 k1
    have v1 := c.2.1.2.1
    have m := ivRa w
    have s := w.1.2.2.2.2.2.1
    rw [E_Ra_gatherSpeeds_12, if_pos (cF c.1.1), c.1.2.2.2.1, if_pos (show t < catT T k 1 by omega), if_pos (ivS w), s4 s, if_pos (sA3 s t0 (by omega)), e t t0 (by omega), if_pos (cF c.1.1), c6 c.1.1, if_pos (cA4 c.1.1 t0 (by omega)), c.1.2.2.2.2.2.1 t t0 (by omega), if_pos m.1, w32_id (x := t + 1) (by omega) (by omega)]
    show ∃ h', _ = some (0, h') ∧ Fr pRa h h' ∧ RaH h' (itN (zGs (catT T k) F) n (t + 1) (zGs (catT T k) F t a)).1 (itN (zGs (catT T k) F) n (t + 1) (zGs (catT T k) F t a)).2 ∧ ((itN (zGs (catT T k) F) n (t + 1) (zGs (catT T k) F t a)).1 : Int) ≤ t + ((n + 1 : Nat) : Int)
    rw [show t + ((n + 1 : Nat) : Int) = t + 1 + n by omega]
    by_cases z : F t < 1
    · have e1 : zGs (catT T k) F t a = a := if_pos z
      rw [e1, if_neg (show ¬ 0 < F t by omega)]
      exact ih (t + 1) h a w e ra (by omega) (by omega) (by omega)
    · have e1 : zGs (catT T k) F t a = (a.1 + 1, ins (w64 (Int.tdiv (w64 (1000 * catT T k (9 + t))) (F t))) t a.1 a.2) := if_neg z
      rw [e1, if_pos (show 0 < F t by omega), if_neg (show ¬ F t = 0 by omega)]
      obtain ⟨h1, g1, f1, r1⟩ := s_insert w (show a.1 < 24 by omega) ra (w64 (Int.tdiv (w64 (1000 * catT T k (9 + t))) (F t))) t
      obtain ⟨h2, g2, f2, r2, b2⟩ := ih (t + 1) h1 (a.1 + 1, ins (w64 (Int.tdiv (w64 (1000 * catT T k (9 + t))) (F t))) t a.1 a.2) (w.of (f1.to pRa_Z)) (fun s s0 s1 => by rw [f1.2 113 s (by unfold pRa; omega)]; exact e s s0 s1) r1 (by show ((a.1 + 1 : Nat) : Int) ≤ _; omega) (by omega) (by omega)
      refine ⟨h2, ?_, f1.tr f2, r2, b2⟩
      rw [g1, bind_some']
      exact g2
noncomputable def zMi (T : Int → Int) (k j y : Int) : Nat × zR := itN (zGs (catT T k) (frsA T k j y)) 24 0 zG0
noncomputable def aMiddle (T : Int → Int) (k j y : Int) : Int := cI (okL T k j y ∧ (zMi T k j y).1 ≠ 0) ((zMi T k j y).2.1 (zMd (zMi T k j y).1)) (-2000000000)
theorem q_middle {h : Hp} {T : Int → Int} (w : Inv h T) (k j y : Int) : ∃ h', C_LS_middle 1 k j y h = some (aMiddle T k j y, h') ∧ Fr pZ h h' := by
  have n := ivn w
  rw [E_LS_middle, if_pos (iv1 w)]
  unfold aMiddle
  by_cases q2 : okL T k j y
  · obtain ⟨h1, g1, g2, g3⟩ := s_Look w q2
    have w1 := w.of (g2.to pL_Z)
    have v := (ivC w q2.1.1 q2.1.2).2.1.2.1
    have m1 := ivRa w1
    have f0 : Fr pRa h1 (mW h1 115 0 0) := Fr.W h1 0 (by unfold pRa; omega)
    have w2 := w1.of (f0.to pRa_Z)
    have l2 := g3.1.fr f0 (fun b i x => by unfold pRa at x; omega)
    obtain ⟨h2, p1, p2, p3, p4⟩ := l_gsp (k := k) (hh := 0) (y := y) (F := frsA T k j y) (U := houT T j) q2.1.1 q2.1.2 (catT T k 1).toNat 0 _ zG0 w2 (fun s s0 s1 => by rw [mR_ne (by omega)]; exact g3.2.1.2.1 s s0 s1) ⟨mR_same _ _ _ _, fun i i0 i1 => by have : i < ((0 : Nat) : Int) := i1; omega⟩ (by show ((0 : Nat) : Int) ≤ 0; omega) (by omega) (by omega)
    have w3 := w2.of (p2.to pRa_Z)
    have m3 := ivRa w3
    have ec : itN (zGs (catT T k) (frsA T k j y)) (catT T k 1).toNat 0 zG0 = zMi T k j y := (itN_cut v.1 v.2 zG0 (fun t a t0 t1 => if_pos (by rw [show frsA T k j y t = -1 from (g3.2.1.1 t (by omega) t1).2.2 t0]; decide))).symm
    rw [ec] at p3 p4
    have ez : w32 (Int.tdiv (w32 (((zMi T k j y).1 : Int) - 1)) 2) = zMd (zMi T k j y).1 := rfl
    refine ⟨h2, ?_, ((g2.to pL_Z).tr (f0.to pRa_Z)).tr (p2.to pRa_Z)⟩
    rw [g1, bind_some', if_neg n10, if_pos (iv1 w1), if_pos (iv1 w1), m1.2.2.2.2.2, if_pos m1.1, iv16 w1, E_Ra_gatherSpeeds, if_pos m1.1, hb_eq, if_pos (lkS l2), lk0 l2, p1, bind_some', if_pos (iv1 w3), m3.2.2.2.2.2, if_pos m3.1, p3.1]
    by_cases n0 : (zMi T k j y).1 = 0
    · rw [if_pos (by omega), cI_f (fun z => z.2 n0)]
    · have zm := zMd_b n0 (by omega)
      rw [if_neg (by omega), if_pos (iv1 w3), if_pos m3.1, if_pos (iv1 w3), if_pos m3.1, m3.2.2.1, ez, if_pos (okA_t m3.2.2.2.2.1 zm.1 (by omega)), (p3.2 _ zm.1 zm.2).1, cI_t ⟨q2, n0⟩]
  · exact ⟨h, by rw [s_LookN w q2, bind_some', if_pos rfl, cI_f (fun z => q2 z.1)], Fr.rf _ h⟩
def pRw (b _ : Int) : Prop := b = 132
theorem pRw_Z (b i : Int) (q : pRw b i) : pZ b i := by unfold pRw at q; unfold pZ; omega
def RwH (h : Hp) (n : Nat) (S : zR) : Prop := ∀ i : Int, 0 ≤ i → i < n → mR h 132 i = S.1 i
theorem l_m93 {T : Int → Int} {A : Int} {n : Nat} {v t : Int} (n1 : n < 24) (t0 : 0 ≤ t) (t1 : t < 24) : ∀ (p : Nat) (h : Hp) (S : zR), Inv h T → p ≤ n → (∀ i : Int, 0 ≤ i → i ≤ n → i ≠ p → mR h 132 i = S.1 i) → ∃ h', P_Mo_middle_93 124 A n t v p h = P_Mo_middle_39 124 A (n + 1) (t + 1) h' ∧ Fr pRw h h' ∧ RwH h' (n + 1) (ins v t p S) := by
  intro p
  have fin : ∀ (q : Nat) (h : Hp) (S : zR), Inv h T → q ≤ n → (∀ i : Int, 0 ≤ i → i ≤ n → i ≠ q → mR h 132 i = S.1 i) → (okS h 132 103 (q : Int) = true) ∧ Fr pRw h (mW h 132 q v) ∧ RwH (mW h 132 q v) (n + 1) (up1 S.1 q v, up1 S.2 q t) := by
    intro q h S w q1 e
    have m := m132 w
    refine ⟨okS_t m.2.1 (by decide) (by omega) (by omega), Fr.W h v rfl, fun i i0 i1 => ?_⟩
    rw [mR_mW]
    dsimp only
    by_cases z : i = q
    · rw [z, up1_s, if_pos ⟨rfl, rfl⟩]
    · rw [up1_n z, if_neg (fun x => z x.2)]; exact e i i0 (by omega) z
  induction p with
  | zero =>
    intro h S w p1 e
    have m := m132 w
    obtain ⟨a1, a3, a4⟩ := fin 0 h S w (by omega) e
    refine ⟨_, ?_, a3, a4⟩
    have z0 : ((0 : Nat) : Int) = 0 := rfl
    rw [z0] at a1 ⊢
    rw [E_Mo_middle_93, if_neg (by decide), if_pos (ivM w), m.1, if_pos a1, hb_eq, w32_id (x := (n : Int) + 1) (by omega) (by omega), w32_id (x := t + 1) (by omega) (by omega)]
  | succ p ih =>
    intro h S w p1 e
    have m := m132 w
    have pe : ((p + 1 : Nat) : Int) = (p : Int) + 1 := by omega
    have ep := e p (by omega) (by omega) (by omega)
    rw [E_Mo_middle_93, if_pos (show (0 : Int) < ((p + 1 : Nat) : Int) by omega), if_pos (ivM w), m.1, w32_id (x := ((p + 1 : Nat) : Int) - 1) (by omega) (by omega), show ((p + 1 : Nat) : Int) - 1 = p by omega, if_pos (okA_t m.2.1 (by omega) (by omega)), ep]
    unfold ins
    by_cases q : v < S.1 p
    · have a1 : okS h 132 103 ((p + 1 : Nat) : Int) = true := okS_t m.2.1 (by decide) (by omega) (by omega)
      have f1 : Fr pRw h (mW h 132 ((p + 1 : Nat) : Int) (S.1 p)) := Fr.W h _ rfl
      obtain ⟨h2, g2, f2, r2⟩ := ih _ (up1 S.1 (p + 1) (S.1 p), up1 S.2 (p + 1) (S.2 p)) (w.of (f1.to pRw_Z)) (by omega) (fun i i0 i1 i2 => by
        rw [mR_mW, pe]
        dsimp only
        by_cases z : i = (p : Int) + 1
        · rw [z, up1_s, if_pos ⟨rfl, rfl⟩]
        · rw [up1_n z, if_neg (fun x => z x.2)]; exact e i i0 i1 (by omega))
      refine ⟨h2, ?_, f1.tr f2, ?_⟩
      · rw [if_pos q, if_pos (ivM w), if_pos (ivM w), if_pos (okA_t m.2.1 (by omega) (by omega)), if_pos a1, hb_eq, w32_id (x := ((p + 1 : Nat) : Int) + -1) (by omega) (by omega), show ((p + 1 : Nat) : Int) + -1 = p by omega]
        exact g2
      · rw [if_pos q]; exact r2
    · obtain ⟨a1, a3, a4⟩ := fin (p + 1) h S w p1 e
      refine ⟨_, ?_, a3, ?_⟩
      · rw [if_neg q, if_pos (ivM w), if_pos a1, hb_eq, w32_id (x := (n : Int) + 1) (by omega) (by omega), w32_id (x := t + 1) (by omega) (by omega)]
      · rw [if_neg q]; rw [pe] at a4; exact a4
theorem l_m39 {T : Int → Int} {k : Int} {F : Int → Int} (k0 : 0 ≤ k) (k1 : k < T 0) : ∀ (n : Nat) (t : Int) (h : Hp) (a : Nat × zR), Inv h T → (∀ s, 0 ≤ s → s < 24 → mR h 129 s = F s) → RwH h a.1 a.2 → (a.1 : Int) ≤ t → 0 ≤ t → t + n = 24 → ∃ h', P_Mo_middle_39 124 (520 + 330 * k) a.1 t h = P_Mo_middle_39 124 (520 + 330 * k) (itN (zGs (catT T k) F) n t a).1 24 h' ∧ Fr pRw h h' ∧ Inv h' T ∧ RwH h' (itN (zGs (catT T k) F) n t a).1 (itN (zGs (catT T k) F) n t a).2 ∧ ((itN (zGs (catT T k) F) n t a).1 : Int) ≤ t + n := by
  intro n
  induction n with
  | zero =>
    intro t h a w e ra a1 t0 ht
    rw [show t = 24 by omega]
    exact ⟨h, rfl, Fr.rf _ h, w, ra, by show (a.1 : Int) ≤ _; omega⟩
  | succ n ih =>
    intro t h a w e ra a1 t0 ht
    have nn := ivn w
    have m := m132 w
    have e9 : T (520 + 330 * k + 9 + t) = catT T k (9 + t) := by rw [Int.add_assoc]; exact catE (by omega) (by omega)
    rw [E_Mo_middle_39, if_pos (show t < 24 by omega), if_pos (ivM w), m.2.2.1, if_pos (okA_t m.2.2.2 t0 (by omega)), e t t0 (by omega), if_pos (ivM w), ivM0 w, w32_id (x := 520 + 330 * k + 9) (by omega) (by omega), w32_id (x := 520 + 330 * k + 9 + t) (by omega) (by omega), if_pos (ivMA w (by omega) (by omega)), if_pos (ivM w), if_pos (okA_t m.2.2.2 t0 (by omega)), ivMT w (by omega) (by omega), e9, w32_id (x := t + 1) (by omega) (by omega)]
    show ∃ h', _ = P_Mo_middle_39 124 (520 + 330 * k) (itN (zGs (catT T k) F) n (t + 1) (zGs (catT T k) F t a)).1 24 h' ∧ Fr pRw h h' ∧ Inv h' T ∧ RwH h' (itN (zGs (catT T k) F) n (t + 1) (zGs (catT T k) F t a)).1 (itN (zGs (catT T k) F) n (t + 1) (zGs (catT T k) F t a)).2 ∧ ((itN (zGs (catT T k) F) n (t + 1) (zGs (catT T k) F t a)).1 : Int) ≤ t + ((n + 1 : Nat) : Int)
    rw [show t + ((n + 1 : Nat) : Int) = t + 1 + n by omega]
    by_cases z : F t < 1
    · have e1 : zGs (catT T k) F t a = a := if_pos z
      rw [e1, if_pos z]
      exact ih (t + 1) h a w e ra (by omega) (by omega) (by omega)
    · have e1 : zGs (catT T k) F t a = (a.1 + 1, ins (w64 (Int.tdiv (w64 (1000 * catT T k (9 + t))) (F t))) t a.1 a.2) := if_neg z
      rw [e1, if_neg z, if_neg (show ¬ F t = 0 by omega)]
      obtain ⟨h1, g1, f1, r1⟩ := l_m93 (A := 520 + 330 * k) (v := w64 (Int.tdiv (w64 (1000 * catT T k (9 + t))) (F t))) (show a.1 < 24 by omega) t0 (by omega) a.1 h a.2 w (Nat.le_refl _) (fun i i0 i1 i2 => ra i i0 (by omega))
      obtain ⟨h2, g2, f2, w2, r2, b2⟩ := ih (t + 1) h1 (a.1 + 1, ins (w64 (Int.tdiv (w64 (1000 * catT T k (9 + t))) (F t))) t a.1 a.2) (w.of (f1.to pRw_Z)) (fun s s0 s1 => by rw [f1.2 129 s (by unfold pRw; omega)]; exact e s s0 s1) r1 (by show ((a.1 + 1 : Nat) : Int) ≤ _; omega) (by omega) (by omega)
      exact ⟨h2, g1.trans g2, f1.tr f2, w2, r2, b2⟩
theorem r_middle {h : Hp} {T : Int → Int} (w : Inv h T) (k j y : Int) : ∃ h', C_Mo_middle 124 k j y h = some (aMiddle T k j y, h') ∧ Fr pZ h h' := by
  have n := ivn w
  rw [E_Mo_middle, if_pos (ivM w), m_areAll w, bind_some']
  unfold aMiddle
  by_cases q2 : okL T k j y
  · have k1 := q2.1
    have j1 := q2.2.1
    obtain ⟨h1, g1, g2, mk1, u1, g3, w1⟩ := r_fars w q2
    obtain ⟨h2, p1, p2, w2, p3, p4⟩ := l_m39 (F := frsA T k j y) k1.1 k1.2 24 0 h1 zG0 w1 u1.2 (fun i i0 i1 => by have : i < ((0 : Nat) : Int) := i1; omega) (by show ((0 : Nat) : Int) ≤ 0; omega) (by omega) (by omega)
    have ec : itN (zGs (catT T k) (frsA T k j y)) 24 0 zG0 = zMi T k j y := rfl
    rw [ec] at p1 p3 p4
    have m2 := m132 w2
    have ez : w32 (Int.tdiv (w32 (((zMi T k j y).1 : Int) - 1)) 2) = zMd (zMi T k j y).1 := rfl
    refine ⟨h2, ?_, (g2.to pM_Z).tr (p2.to pRw_Z)⟩
    rw [bI_t q2, if_neg n10, if_pos (ivM w), m_catAt k1.1 (by omega), bind_some', if_pos (ivM w), m_houAt j1.1 (by omega), bind_some', if_pos (ivM w), g1, bind_some']
    have p1' : P_Mo_middle_39 124 (520 + 330 * k) 0 0 h1 = P_Mo_middle_39 124 (520 + 330 * k) (zMi T k j y).1 24 h2 := p1
    dsimp only
    rw [p1', E_Mo_middle_39, if_neg (by decide)]
    by_cases n0 : (zMi T k j y).1 = 0
    · rw [if_pos (by omega), cI_f (fun z => z.2 n0)]
    · have zm := zMd_b n0 (by omega)
      rw [if_neg (by omega), if_pos (ivM w2), m2.1, ez, if_pos (okA_t m2.2.1 zm.1 (by omega)), p3 _ zm.1 zm.2, cI_t ⟨q2, n0⟩]
  · exact ⟨h, by rw [bI_f q2, if_pos rfl, cI_f (fun z => q2 z.1)], Fr.rf _ h⟩
