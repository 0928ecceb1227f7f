/-! The reference's row in order. -/
theorem ivSo {h : Hp} {T : Int → Int} (w : Inv h T) : mR h 124 22 = 130 ∧ mR h 124 23 = 131 ∧ (mK h 130 = 102 ∧ mL h 130 = 24) ∧ (mK h 131 = 102 ∧ mL h 131 = 24) := ⟨w.2.2.2.1.2.1.2.2.2.2.2.1, w.2.2.2.1.2.1.2.2.2.2.2.2.1, w.2.2.2.1.2.2.2.2.2.2.2.1, w.2.2.2.1.2.2.2.2.2.2.2.2.1⟩
def pSo (b i : Int) : Prop := (b = 124 ∧ i = 21) ∨ b = 130 ∨ b = 131
theorem pSo_Z (b i : Int) (q : pSo b i) : pZ b i := by unfold pSo at q; unfold pZ; omega
def SoH (h : Hp) (n : Nat) (S : zR) : Prop := mR h 124 21 = n ∧ ∀ i : Int, 0 ≤ i → i < n → mR h 131 i = S.1 i ∧ mR h 130 i = S.2 i
theorem l_mins {T : Int → Int} {A B y r : Int} {n : Nat} {v t : Int} (n1 : n < 24) (t0 : 0 ≤ t) (t1 : t < 24) : ∀ (p : Nat) (h : Hp) (S : zR), Inv h T → p ≤ n → mR h 124 21 = n → (∀ i : Int, 0 ≤ i → i ≤ n → i ≠ p → mR h 131 i = S.1 i ∧ mR h 130 i = S.2 i) → ∃ h', P_Mo_sortsOf_142 124 A B y r t v p h = P_Mo_sortsOf_15 124 A B y r (t + 1) h' ∧ Fr pSo h h' ∧ SoH h' (n + 1) (ins v t p S) := by
  intro p
  have fin : ∀ (q : Nat) (h : Hp) (S : zR), Inv h T → q ≤ n → mR h 124 21 = n → (∀ i : Int, 0 ≤ i → i ≤ n → i ≠ q → mR h 131 i = S.1 i ∧ mR h 130 i = S.2 i) → (okS h 131 102 (q : Int) = true) ∧ (okS h 130 102 (q : Int) = true) ∧ Fr pSo h (mW (mW (mW h 131 q v) 130 q t) 124 21 (n + 1)) ∧ SoH (mW (mW (mW h 131 q v) 130 q t) 124 21 (n + 1)) (n + 1) (up1 S.1 q v, up1 S.2 q t) := by
    intro q h S w q1 e0 e
    have m := ivSo w
    refine ⟨okS_t m.2.2.2 (by decide) (by omega) (by omega), okS_t m.2.2.1 (by decide) (by omega) (by omega), ((Fr.W h v (by unfold pSo; omega)).tr (Fr.W _ t (by unfold pSo; omega))).tr (Fr.W _ _ (by unfold pSo; omega)), ?_, fun i i0 i1 => ?_⟩
    · rw [mR_same]; omega
    · rw [mR_ne (show (131 : Int) ≠ 124 by decide), mR_ne (show (130 : Int) ≠ 124 by decide), mR_ne (show (131 : Int) ≠ 130 by decide), mR_mW, mR_mW]
      dsimp only
      by_cases z : i = q
      · rw [z, up1_s, up1_s, if_pos ⟨rfl, rfl⟩, if_pos ⟨rfl, rfl⟩]; exact ⟨rfl, rfl⟩
      · rw [up1_n z, up1_n z, if_neg (fun x => z x.2), if_neg (fun x => z x.2), mR_ne (by omega)]; exact e i i0 (by omega) z
  induction p with
  | zero =>
    intro h S w p1 e0 e
    have m := ivSo w
    have o := ivM w
    obtain ⟨a1, a2, a3, a4⟩ := fin 0 h S w (by omega) e0 e
    refine ⟨_, ?_, a3, a4⟩
    have z0 : ((0 : Nat) : Int) = 0 := rfl
    rw [z0] at a1 a2 ⊢
    have e1 : mR (mW (mW h 131 0 v) 130 0 t) 124 21 = n := by rw [mR_ne (by omega), mR_ne (by omega)]; exact e0
    have m1 : mR (mW h 131 0 v) 124 22 = 130 := by rw [mR_ne (by omega)]; exact m.1
    rw [E_Mo_sortsOf_142, if_neg (by decide), if_pos o, m.2.1, if_pos a1, hb_eq, okF_W, if_pos o, m1, okS_W, if_pos a2, hb_eq, okF_W, okF_W, if_pos o, if_pos o, e1, w32_id (x := (n : Int) + 1) (by omega) (by omega), hb_eq, w32_id (x := t + 1) (by omega) (by omega)]
  | succ p ih =>
    intro h S w p1 e0 e
    have m := ivSo w
    have o := ivM w
    have pe : ((p + 1 : Nat) : Int) = (p : Int) + 1 := by omega
    have ep := e p (by omega) (by omega) (by omega)
    rw [E_Mo_sortsOf_142, if_pos (show (0 : Int) < ((p + 1 : Nat) : Int) by omega), if_pos o, m.2.1, w32_id (x := ((p + 1 : Nat) : Int) - 1) (by omega) (by omega), show ((p + 1 : Nat) : Int) - 1 = p by omega, if_pos (okA_t m.2.2.2 (by omega) (by omega)), ep.1]
    unfold ins
    by_cases q : v < S.1 p
    · have a1 : okS h 131 102 ((p + 1 : Nat) : Int) = true := okS_t m.2.2.2 (by decide) (by omega) (by omega)
      have a2 : okS h 130 102 ((p + 1 : Nat) : Int) = true := okS_t m.2.2.1 (by decide) (by omega) (by omega)
      have f1 : Fr pSo h (mW (mW h 131 ((p + 1 : Nat) : Int) (S.1 p)) 130 ((p + 1 : Nat) : Int) (S.2 p)) := (Fr.W h _ (by unfold pSo; omega)).tr (Fr.W _ _ (by unfold pSo; omega))
      have m1 : mR (mW h 131 ((p + 1 : Nat) : Int) (S.1 p)) 124 22 = 130 := by rw [mR_ne (by omega)]; exact m.1
      have m2 : mR (mW h 131 ((p + 1 : Nat) : Int) (S.1 p)) 130 p = S.2 p := by rw [mR_ne (by omega)]; exact ep.2
      obtain ⟨h2, g2, f2, r2⟩ := ih _ (up1 S.1 (p + 1) (S.1 p), up1 S.2 (p + 1) (S.2 p)) (w.of (f1.to pSo_Z)) (by omega) (by rw [mR_ne (by omega), mR_ne (by omega)]; exact e0) (fun i i0 i1 i2 => by
        rw [mR_ne (show (131 : Int) ≠ 130 by decide), mR_mW, mR_mW, pe]
        dsimp only
        by_cases z : i = (p : Int) + 1
        · rw [z, up1_s, up1_s, if_pos ⟨rfl, rfl⟩, if_pos ⟨rfl, rfl⟩]; exact ⟨rfl, rfl⟩
        · rw [up1_n z, up1_n z, if_neg (fun x => z x.2), if_neg (fun x => z x.2), mR_ne (by omega)]; exact e i i0 i1 (by omega))
      refine ⟨h2, ?_, f1.tr f2, ?_⟩
      · rw [if_pos q, if_pos o, if_pos o, if_pos (okA_t m.2.2.2 (by omega) (by omega)), if_pos a1, hb_eq, okF_W, if_pos o, if_pos o, m1, okA_W, if_pos (okA_t m.2.2.1 (by omega) (by omega)), okS_W, if_pos a2, hb_eq, m2, w32_id (x := ((p + 1 : Nat) : Int) + -1) (by omega) (by omega), show ((p + 1 : Nat) : Int) + -1 = p by omega]
        exact g2
      · rw [if_pos q]; exact r2
    · obtain ⟨a1, a2, a3, a4⟩ := fin (p + 1) h S w p1 e0 e
      refine ⟨_, ?_, a3, ?_⟩
      · have e1 : mR (mW (mW h 131 ((p + 1 : Nat) : Int) v) 130 ((p + 1 : Nat) : Int) t) 124 21 = n := by rw [mR_ne (by omega), mR_ne (by omega)]; exact e0
        have m1 : mR (mW h 131 ((p + 1 : Nat) : Int) v) 124 22 = 130 := by rw [mR_ne (by omega)]; exact m.1
        rw [if_neg q, if_pos o, if_pos a1, hb_eq, okF_W, if_pos o, m1, okS_W, if_pos a2, hb_eq, okF_W, okF_W, if_pos o, if_pos o, e1, w32_id (x := (n : Int) + 1) (by omega) (by omega), hb_eq, w32_id (x := t + 1) (by omega) (by omega)]
      · rw [if_neg q]; rw [pe] at a4; exact a4
theorem zF_b {V U : Int → Int} (o : Vok V) (u : Uok U) {y r t : Int} (t0 : 0 ≤ t) (t1 : t < V 1) : -1 ≤ zF V U y r t ∧ zF V U y r t ≤ 9999999 := by
  have v0 := o.1
  exact pk_b o t0 t1 (fun i _ _ => sclT_b o u y (V 0).toNat (by omega) i)
theorem zq_b {f x : Int} (f0 : 0 ≤ f) (f1 : f ≤ 9999999) (x0 : 0 < x) : 0 ≤ zq f x ∧ zq f x ≤ 999999 ∧ 0 ≤ w64 (Int.tdiv (w64 (1000 * f)) x) := by
  have d1 := Int.ediv_nonneg (a := 1000 * f) (b := x) (by omega) (by omega)
  have d2 := Int.ediv_le_self (a := 1000 * f) x (by omega)
  have e : w64 (Int.tdiv (w64 (1000 * f)) x) = 1000 * f / x := by
    rw [w64_id (x := 1000 * f) (by omega) (by omega), Int.tdiv_eq_ediv_of_nonneg (by omega), w64_id (by omega) (by omega)]
  unfold zq
  rw [e]
  by_cases q : 999999 < 1000 * f / x
  · rw [if_pos q]; omega
  · rw [if_neg q]; omega
theorem l_mgat {T : Int → Int} {k j y r : Int} (q : okL T k j y) (r0 : 0 ≤ r) (r1 : r < catT T k 0) : ∀ (n : Nat) (t : Int) (h : Hp) (a : Nat × zR), Inv h T → (∀ i, 0 ≤ i → i < catT T k 0 → mR h 128 i = sclT (catT T k) (houT T j) y (catT T k 0).toNat i) → SoH h a.1 a.2 → (a.1 : Int) ≤ t → 0 ≤ t → t + n = catT T k 1 → ∃ h', P_Mo_sortsOf_15 124 (520 + 330 * k) (1510 + 26 * j) y r t h = some (0, h') ∧ Fr pSo h h' ∧ SoH h' (itN (zGt (catT T k) (houT T j) y r) n t a).1 (itN (zGt (catT T k) (houT T j) y r) n t a).2 := by
  intro n
  induction n with
  | zero =>
    intro t h a w s ra a1 t0 ht
    have nn := ivn w
    have k1 := q.1
    have e1 : T (520 + 330 * k + 1) = catT T k 1 := catE (by omega) (by omega)
    refine ⟨h, ?_, Fr.rf _ h, ra⟩
    rw [E_Mo_sortsOf_15, if_pos (ivM w), ivM0 w, w32_id (x := 520 + 330 * k + 1) (by omega) (by omega), if_pos (ivMA w (by omega) (by omega)), ivMT w (by omega) (by omega), e1, if_neg (by omega)]
  | succ n ih =>
    intro t h a w s ra a1 t0 ht
    have nn := ivn w
    have c := ivC w q.1.1 q.1.2
    have d := ivH w q.2.1.1 q.2.1.2
    have v0 := c.2.1.1
    have v1 := c.2.1.2.1
    have k1 := q.1
    have j1 := q.2.1
    have mk := ivMK w (y := y) k1.1 k1.2 j1.1 j1.2
    have e1 : T (520 + 330 * k + 1) = catT T k 1 := catE (by omega) (by omega)
    have e0 : T (1510 + 26 * j + 0) = houT T j 0 := houE (by omega) (by omega)
    have er : T (520 + 330 * k + 33 + 6 * t + r) = catT T k (33 + 6 * t + r) := by rw [← catE (T := T) (k := k) (by omega) (by omega)]; congr 1; omega
    have sb : ∀ i, 0 ≤ i → i < catT T k 0 → -1 ≤ mR h 128 i ∧ mR h 128 i ≤ 9999999 := fun i i0 i1 => by rw [s i i0 i1]; exact sclT_b c.2.1 d.2.1 y (catT T k 0).toNat (by omega) i
    have ep : pk (catT T k) y (mR h 128) (i_and (houT T j 0) (i_xor (i_shl 1 r) (-1))) 0 t = zF (catT T k) (houT T j) y r t := pk_congr v0 (fun i i0 i1 => s i i0 i1)
    have fb := zF_b c.2.1 d.2.1 (y := y) (r := r) t0 (show t < catT T k 1 by omega)
    have rb := rawY_b c.2.1 (y := y) (t := t) (r := r) t0 (by omega) r0 r1
    rw [E_Mo_sortsOf_15, if_pos (ivM w), ivM0 w, w32_id (x := 520 + 330 * k + 1) (by omega) (by omega), if_pos (ivMA w (by omega) (by omega)), ivMT w (by omega) (by omega), e1, if_pos (show t < catT T k 1 by omega), if_pos (ivM w), m_cast mk, bind_some', if_pos (ivM w), m_known mk t0 (by omega) r0 r1, bind_some', if_pos (ivM w), ivM0 w, w32_id (x := 1510 + 26 * j + 0) (by omega) (by omega), if_pos (ivMA w (by omega) (by omega)), if_pos (ivM w), ivMT w (by omega) (by omega), e0, m_farOf mk t0 (by omega) sb, bind_some', ep, w32_id (x := t + 1) (by omega) (by omega)]
    dsimp only
    show ∃ h', _ = some (0, h') ∧ Fr pSo h h' ∧ SoH h' (itN (zGt (catT T k) (houT T j) y r) n (t + 1) (zGt (catT T k) (houT T j) y r t a)).1 (itN (zGt (catT T k) (houT T j) y r) n (t + 1) (zGt (catT T k) (houT T j) y r t a)).2
    by_cases z : rawY (catT T k) y t r = 0 ∨ bitT (houT T j 2) t = true ∨ zF (catT T k) (houT T j) y r t = -1
    · have e : zGt (catT T k) (houT T j) y r t a = a := if_pos z
      rw [e]
      obtain ⟨h1, g1, f1, r1⟩ := ih (t + 1) h a w s ra (by omega) (by omega) (by omega)
      refine ⟨h1, ?_, f1, r1⟩
      by_cases z2 : bitT (houT T j 2) t = true
      · rw [if_pos z2, if_neg n10]; exact g1
      · rw [if_neg z2, if_pos rfl]
        by_cases z1 : rawY (catT T k) y t r = 0
        · rw [if_pos z1, if_pos rfl]; exact g1
        · rw [if_neg z1, if_neg n10, if_pos (show zF (catT T k) (houT T j) y r t < 0 by have := (z.resolve_left z1).resolve_left z2; omega)]; exact g1
    · have e : zGt (catT T k) (houT T j) y r t a = (a.1 + 1, ins (zq (zF (catT T k) (houT T j) y r t) (rawY (catT T k) y t r)) t a.1 a.2) := if_neg z
      have z1 : ¬ rawY (catT T k) y t r = 0 := fun x => z (Or.inl x)
      have z3 : ¬ zF (catT T k) (houT T j) y r t = -1 := fun x => z (Or.inr (Or.inr x))
      have rv : rawY (catT T k) y t r = catT T k (33 + 6 * t + r) := by
        unfold rawY at z1 ⊢
        by_cases x : y < catT T k (177 + 6 * t + r)
        · rw [if_pos x] at z1; exact absurd rfl z1
        · rw [if_neg x]
      have qb := zq_b (f := zF (catT T k) (houT T j) y r t) (x := rawY (catT T k) y t r) (by omega) fb.2 (by omega)
      rw [e]
      obtain ⟨h1, g1, f1, r1⟩ := l_mins (A := 520 + 330 * k) (B := 1510 + 26 * j) (y := y) (r := r) (v := zq (zF (catT T k) (houT T j) y r t) (rawY (catT T k) y t r)) (show a.1 < 24 by omega) t0 (by omega) a.1 h a.2 w (Nat.le_refl _) ra.1 (fun i i0 i1 i2 => ra.2 i i0 (by omega))
      have w1 := w.of (f1.to pSo_Z)
      obtain ⟨h2, g2, f2, r2⟩ := ih (t + 1) h1 (a.1 + 1, ins (zq (zF (catT T k) (houT T j) y r t) (rawY (catT T k) y t r)) t a.1 a.2) w1 (fun i i0 i1 => by rw [f1.2 128 i (by unfold pSo; omega)]; exact s i i0 i1) r1 (by show ((a.1 + 1 : Nat) : Int) ≤ _; omega) (by omega) (by omega)
      refine ⟨h2, ?_, f1.tr f2, r2⟩
      rw [g2] at g1
      have ez : (if 999999 < w64 (Int.tdiv (w64 (1000 * zF (catT T k) (houT T j) y r t)) (rawY (catT T k) y t r)) then (999999 : Int) else w32 (w64 (Int.tdiv (w64 (1000 * zF (catT T k) (houT T j) y r t)) (rawY (catT T k) y t r)))) = zq (zF (catT T k) (houT T j) y r t) (rawY (catT T k) y t r) := by
        unfold zq
        by_cases x : 999999 < w64 (Int.tdiv (w64 (1000 * zF (catT T k) (houT T j) y r t)) (rawY (catT T k) y t r))
        · rw [if_pos x, if_pos x]
        · rw [if_neg x, if_neg x, w32_id (by omega) (by omega)]
      rw [if_neg (fun x => z (Or.inr (Or.inl x))), if_pos rfl, if_neg z1, if_neg n10, if_neg (show ¬ zF (catT T k) (houT T j) y r t < 0 by omega), if_pos (ivM w), ivM0 w, w32_id (x := 520 + 330 * k + 33) (by omega) (by omega), w32_id (x := 6 * t) (by omega) (by omega), w32_id (x := 520 + 330 * k + 33 + 6 * t) (by omega) (by omega), w32_id (x := 520 + 330 * k + 33 + 6 * t + r) (by omega) (by omega), if_pos (ivMA w (by omega) (by omega)), ivMT w (by omega) (by omega), er, ← rv, if_neg z1, if_pos (ivM w), if_pos (ivM w), ra.1]
      rw [← g1, ← ez]
      by_cases x : 999999 < w64 (Int.tdiv (w64 (1000 * zF (catT T k) (houT T j) y r t)) (rawY (catT T k) y t r))
      · rw [if_pos x, if_pos x]
      · rw [if_neg x, if_neg x]
theorem m_areSorts {h : Hp} {T : Int → Int} (w : Inv h T) (k j y r : Int) : ∃ h', C_Mo_areSorts 124 k j y r h = some (bI (okL T k j y ∧ 0 ≤ r ∧ r < catT T k 0), h') ∧ Fr pZ h h' ∧ Inv h' T ∧ ((okL T k j y ∧ 0 ≤ r ∧ r < catT T k 0) → SoH h' (zSr T k j y r).1 (zSr T k j y r).2) := by
  have n := ivn w
  rw [E_Mo_areSorts, if_pos (ivM w), m_areAll w, bind_some']
  by_cases q2 : okL T k j y
  · have k1 := q2.1
    have j1 := q2.2.1
    rw [bI_t q2, if_neg n10, if_pos (ivM w), m_isRung w, bind_some']
    by_cases q1 : 0 ≤ r ∧ r < catT T k 0
    · have v := (ivC w k1.1 k1.2).2.1.2.1
      obtain ⟨h1, g1, f1, s1⟩ := m_ladder (ivMK w (y := y) k1.1 k1.2 j1.1 j1.2)
      have w1 := w.of (f1.to pM_Z)
      have f0 : Fr pSo h1 (mW h1 124 21 0) := Fr.W h1 0 (by unfold pSo; omega)
      have w2 := w1.of (f0.to pSo_Z)
      obtain ⟨h2, p1, p2, p3⟩ := l_mgat q2 q1.1 q1.2 (catT T k 1).toNat 0 _ zG0 w2 (fun i i0 i1 => by rw [mR_ne (by omega)]; exact s1 i i0 i1) ⟨mR_same _ _ _ _, fun i i0 i1 => by have : i < ((0 : Nat) : Int) := i1; omega⟩ (by show ((0 : Nat) : Int) ≤ 0; omega) (by omega) (by omega)
      have ff := (f0.tr p2).to pSo_Z
      refine ⟨h2, ?_, (f1.to pM_Z).tr ff, w1.of ff, fun _ => p3⟩
      rw [bI_t ⟨q2.1, q1⟩, if_neg n10, if_pos (ivM w), m_catAt k1.1 (by omega), bind_some', if_pos (ivM w), m_houAt j1.1 (by omega), bind_some', if_pos (ivM w), E_Mo_sortsOf, if_pos (ivM w), g1, bind_some', if_pos (ivM w1), hb_eq, p1, bind_some', bI_t ⟨q2, q1⟩]
    · exact ⟨h, by rw [bI_f (fun z => q1 z.2), if_pos rfl, bI_f (fun z => q1 z.2)], Fr.rf _ h, w, fun z => absurd z.2 q1⟩
  · exact ⟨h, by rw [bI_f q2, if_pos rfl, bI_f (fun z => q2 z.1)], Fr.rf _ h, w, fun z => absurd z.1 q2⟩
/-- bounds of what is inserted -/
theorem ins_b {n : Nat} {v t M : Int} (v0 : 0 ≤ v) (v1 : v ≤ M) : ∀ (p : Nat) (S : zR), p ≤ n → (∀ i : Int, 0 ≤ i → i ≤ n → i ≠ p → 0 ≤ S.1 i ∧ S.1 i ≤ M) → ∀ i : Int, 0 ≤ i → i ≤ n → 0 ≤ (ins v t p S).1 i ∧ (ins v t p S).1 i ≤ M
  | 0, S, p1, e, i, i0, i1 => by
    show 0 ≤ up1 S.1 0 v i ∧ up1 S.1 0 v i ≤ M
    by_cases z : i = 0
    · rw [z, up1_s]; omega
    · rw [up1_n z]; exact e i i0 i1 z
  | p + 1, S, p1, e, i, i0, i1 => by
    unfold ins
    by_cases q : v < S.1 p
    · rw [if_pos q]
      exact ins_b v0 v1 p _ (by omega) (fun s s0 s1 s2 => by
        dsimp only
        by_cases z : s = (p : Int) + 1
        · rw [z, up1_s]; exact e p (by omega) (by omega) (by omega)
        · rw [up1_n z]; exact e s s0 s1 (by omega)) i i0 i1
    · rw [if_neg q]
      show 0 ≤ up1 S.1 (p + 1) v i ∧ up1 S.1 (p + 1) v i ≤ M
      by_cases z : i = (p : Int) + 1
      · rw [z, up1_s]; omega
      · rw [up1_n z]; exact e i i0 i1 (by omega)
theorem zSr_b {T : Int → Int} {k j y r : Int} (o : Vok (catT T k)) (u : Uok (houT T j)) (r0 : 0 ≤ r) (r1 : r < catT T k 0) : ∀ i : Int, 0 ≤ i → i < (zSr T k j y r).1 → 0 ≤ (zSr T k j y r).2.1 i ∧ (zSr T k j y r).2.1 i ≤ 999999 := by
  have v1 := o.2.1
  exact itN_ind (F := zGt (catT T k) (houT T j) y r) (fun _ a => ∀ i : Int, 0 ≤ i → i < a.1 → 0 ≤ a.2.1 i ∧ a.2.1 i ≤ 999999) (catT T k 1).toNat 0 zG0 (fun i i0 i1 => by have : i < ((0 : Nat) : Int) := i1; omega) (fun t a t0 t1 e => by
    unfold zGt
    by_cases z : rawY (catT T k) y t r = 0 ∨ bitT (houT T j 2) t = true ∨ zF (catT T k) (houT T j) y r t = -1
    · rw [if_pos z]; exact e
    · rw [if_neg z]
      have fb := zF_b o u (y := y) (r := r) t0 (show t < catT T k 1 by omega)
      have rb := rawY_b o (y := y) (t := t) (r := r) t0 (by omega) r0 r1
      have z1 : ¬ rawY (catT T k) y t r = 0 := fun x => z (Or.inl x)
      have z3 : ¬ zF (catT T k) (houT T j) y r t = -1 := fun x => z (Or.inr (Or.inr x))
      have qb := zq_b (f := zF (catT T k) (houT T j) y r t) (x := rawY (catT T k) y t r) (by omega) fb.2 (by omega)
      intro i i0 i1
      have i2 : i < ((a.1 + 1 : Nat) : Int) := i1
      exact ins_b (n := a.1) qb.1 qb.2.1 a.1 a.2 (Nat.le_refl _) (fun s s0 s1 s2 => e s s0 (by omega)) i i0 (by omega))
