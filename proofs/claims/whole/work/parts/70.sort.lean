/-! Rows in order: inserting, gathering. -/
abbrev zR : Type := (Int → Int) × (Int → Int)
def ins (v t : Int) : Nat → zR → zR
  | 0, S => (up1 S.1 0 v, up1 S.2 0 t)
  | p + 1, S => if v < S.1 p then ins v t p (up1 S.1 (p + 1) (S.1 p), up1 S.2 (p + 1) (S.2 p)) else (up1 S.1 (p + 1) v, up1 S.2 (p + 1) t)
theorem ivRa {h : Hp} {T : Int → Int} (w : Inv h T) : okF h 115 5 = true ∧ mR h 115 1 = 116 ∧ mR h 115 2 = 117 ∧ (mK h 116 = 102 ∧ mL h 116 = 24) ∧ (mK h 117 = 103 ∧ mL h 117 = 24) ∧ mR h 1 7 = 115 := ⟨okF_t w.1.2.2.2.2.2.2.1.1, w.1.2.2.2.2.2.2.1.2.1, w.1.2.2.2.2.2.2.1.2.2, w.1.2.2.2.2.2.2.2.1.1, w.1.2.2.2.2.2.2.2.1.2, w.1.2.1.2.2.2.2.2.2.2.1⟩
def pRa (b i : Int) : Prop := (b = 115 ∧ i = 0) ∨ b = 116 ∨ b = 117
theorem pRa_Z (b i : Int) (q : pRa b i) : pZ b i := by unfold pRa at q; unfold pZ; omega
theorem LK.fr {p : Int → Int → Prop} {h h' : Hp} {c hh y : Int} {V U : Int → Int} (w : LK h c hh y V U) (f : Fr p h h') (np : ∀ b i, p b i → 115 ≤ b ∧ b ≤ 123) : LK h' c hh y V U := by
  have n1 := w.2.1.2.1
  have n2 := w.2.2.1.2.1
  have r : ∀ b i, ¬ (115 ≤ b ∧ b ≤ 123) → mR h' b i = mR h b i := fun b i q => f.2 b i (fun z => q (np b i z))
  refine ⟨w.1.of f.1 (fun i _ _ => r 99 i (by omega)), w.2.1.of f.1 (fun b i _ _ => r b i (by omega)), w.2.2.1.of f.1 (fun b i _ _ => r b i (by omega)), ?_, ?_, ?_, w.2.2.2.2.2.2⟩
  · rw [r 99 0 (by omega)]; exact w.2.2.2.1
  · rw [r 99 1 (by omega)]; exact w.2.2.2.2.1
  · rw [r 99 2 (by omega)]; exact w.2.2.2.2.2.1
/-- the class's rows hold S up to n -/
def RaH (h : Hp) (n : Nat) (S : zR) : Prop := mR h 115 0 = n ∧ ∀ i : Int, 0 ≤ i → i < n → mR h 117 i = S.1 i ∧ mR h 116 i = S.2 i
theorem l_ins {T : Int → Int} {n : Nat} {v t : Int} (n1 : n < 24) : ∀ (p : Nat) (h : Hp) (S : zR), Inv h T → p ≤ n → mR h 115 0 = n → (∀ i : Int, 0 ≤ i → i ≤ n → i ≠ p → mR h 117 i = S.1 i ∧ mR h 116 i = S.2 i) → ∃ h', P_Ra_insert_16 115 t v p h = some (0, h') ∧ Fr pRa h h' ∧ RaH h' (n + 1) (ins v t p S) := by
  intro p
  have fin : ∀ (q : Nat) (h : Hp) (S : zR), Inv h T → q ≤ n → mR h 115 0 = n → (∀ i : Int, 0 ≤ i → i ≤ n → i ≠ q → mR h 117 i = S.1 i ∧ mR h 116 i = S.2 i) → (okS h 117 103 (q : Int) = true) ∧ (okS h 116 102 (q : Int) = true) ∧ Fr pRa h (mW (mW (mW h 117 q v) 116 q t) 115 0 (n + 1)) ∧ RaH (mW (mW (mW h 117 q v) 116 q t) 115 0 (n + 1)) (n + 1) (up1 S.1 q v, up1 S.2 q t) := by
    intro q h S w q1 e0 e
    have m := ivRa w
    refine ⟨okS_t m.2.2.2.2.1 (by decide) (by omega) (by omega), okS_t m.2.2.2.1 (by decide) (by omega) (by omega), ((Fr.W h v (by unfold pRa; omega)).tr (Fr.W _ t (by unfold pRa; omega))).tr (Fr.W _ _ (by unfold pRa; omega)), ?_, fun i i0 i1 => ?_⟩
    · rw [mR_same]; omega
    · rw [mR_ne (show (117 : Int) ≠ 115 by decide), mR_ne (show (116 : Int) ≠ 115 by decide), mR_ne (show (117 : Int) ≠ 116 by decide), mR_mW, mR_mW]
      dsimp only
      by_cases z : i = q
      · rw [z, up1_s, up1_s, if_pos ⟨rfl, rfl⟩, if_pos ⟨rfl, rfl⟩]; exact ⟨rfl, rfl⟩
      · rw [up1_n z, up1_n z, if_neg (fun x => z x.2), if_neg (fun x => z x.2), mR_ne (by omega)]; exact e i i0 (by omega) z
  induction p with
  | zero =>
    intro h S w p1 e0 e
    have m := ivRa w
    obtain ⟨a1, a2, a3, a4⟩ := fin 0 h S w (by omega) e0 e
    refine ⟨_, ?_, a3, a4⟩
    have z0 : ((0 : Nat) : Int) = 0 := rfl
    rw [z0] at a1 a2 ⊢
    have e1 : mR (mW (mW h 117 0 v) 116 0 t) 115 0 = n := by rw [mR_ne (by omega), mR_ne (by omega)]; exact e0
    have m1 : mR (mW h 117 0 v) 115 1 = 116 := by rw [mR_ne (by omega)]; exact m.2.1
    rw [E_Ra_insert_16, if_neg (by decide), if_pos m.1, m.2.2.1, if_pos a1, hb_eq, okF_W, if_pos m.1, m1, okS_W, if_pos a2, hb_eq, okF_W, okF_W, if_pos m.1, if_pos m.1, e1, w32_id (by omega) (by omega), hb_eq]
  | succ p ih =>
    intro h S w p1 e0 e
    have m := ivRa w
    have pe : ((p + 1 : Nat) : Int) = (p : Int) + 1 := by omega
    have ep := e p (by omega) (by omega) (by omega)
    rw [E_Ra_insert_16, if_pos (show (0 : Int) < ((p + 1 : Nat) : Int) by omega), if_pos m.1, m.2.2.1, w32_id (x := ((p + 1 : Nat) : Int) - 1) (by omega) (by omega), show ((p + 1 : Nat) : Int) - 1 = p by omega, if_pos (okA_t m.2.2.2.2.1 (by omega) (by omega)), ep.1]
    unfold ins
    by_cases q : v < S.1 p
    · have a1 : okS h 117 103 ((p + 1 : Nat) : Int) = true := okS_t m.2.2.2.2.1 (by decide) (by omega) (by omega)
      have a2 : okS h 116 102 ((p + 1 : Nat) : Int) = true := okS_t m.2.2.2.1 (by decide) (by omega) (by omega)
      have f1 : Fr pRa h (mW (mW h 117 ((p + 1 : Nat) : Int) (S.1 p)) 116 ((p + 1 : Nat) : Int) (S.2 p)) := (Fr.W h _ (by unfold pRa; omega)).tr (Fr.W _ _ (by unfold pRa; omega))
      have m1 : mR (mW h 117 ((p + 1 : Nat) : Int) (S.1 p)) 115 1 = 116 := by rw [mR_ne (by omega)]; exact m.2.1
      have m2 : mR (mW h 117 ((p + 1 : Nat) : Int) (S.1 p)) 116 p = S.2 p := by rw [mR_ne (by omega)]; exact ep.2
      obtain ⟨h2, g2, f2, r2⟩ := ih _ (up1 S.1 (p + 1) (S.1 p), up1 S.2 (p + 1) (S.2 p)) (w.of (f1.to pRa_Z)) (by omega) (by rw [mR_ne (by omega), mR_ne (by omega)]; exact e0) (fun i i0 i1 i2 => by
        rw [mR_ne (show (117 : Int) ≠ 116 by decide), mR_mW, mR_mW, pe]
        dsimp only
        by_cases z : i = (p : Int) + 1
        · rw [z, up1_s, up1_s, if_pos ⟨rfl, rfl⟩, if_pos ⟨rfl, rfl⟩]; exact ⟨rfl, rfl⟩
        · rw [up1_n z, up1_n z, if_neg (fun x => z x.2), if_neg (fun x => z x.2), mR_ne (by omega)]; exact e i i0 i1 (by omega))
      refine ⟨h2, ?_, f1.tr f2, ?_⟩
      · rw [if_pos q, if_pos m.1, if_pos m.1, if_pos (okA_t m.2.2.2.2.1 (by omega) (by omega)), if_pos a1, hb_eq, okF_W, if_pos m.1, if_pos m.1, m1, okA_W, if_pos (okA_t m.2.2.2.1 (by omega) (by omega)), okS_W, if_pos a2, hb_eq, m2, w32_id (x := ((p + 1 : Nat) : Int) + -1) (by omega) (by omega), show ((p + 1 : Nat) : Int) + -1 = p by omega]
        exact g2
      · rw [if_pos q]; exact r2
    · obtain ⟨a1, a2, a3, a4⟩ := fin (p + 1) h S w p1 e0 e
      refine ⟨_, ?_, a3, ?_⟩
      · have e1 : mR (mW (mW h 117 ((p + 1 : Nat) : Int) v) 116 ((p + 1 : Nat) : Int) t) 115 0 = n := by rw [mR_ne (by omega), mR_ne (by omega)]; exact e0
        have m1 : mR (mW h 117 ((p + 1 : Nat) : Int) v) 115 1 = 116 := by rw [mR_ne (by omega)]; exact m.2.1
        rw [if_neg q, if_pos m.1, if_pos a1, hb_eq, okF_W, if_pos m.1, m1, okS_W, if_pos a2, hb_eq, okF_W, okF_W, if_pos m.1, if_pos m.1, e1, w32_id (by omega) (by omega), hb_eq]
      · rw [if_neg q]; rw [pe] at a4; exact a4
theorem s_insert {h : Hp} {T : Int → Int} (w : Inv h T) {n : Nat} {S : zR} (n1 : n < 24) (r : RaH h n S) (v t : Int) : ∃ h', C_Ra_insert 115 t v h = some (0, h') ∧ Fr pRa h h' ∧ RaH h' (n + 1) (ins v t n S) := by
  have m := ivRa w
  obtain ⟨h1, g1, f1, r1⟩ := l_ins (v := v) (t := t) n1 n h S w (Nat.le_refl n) r.1 (fun i i0 i1 i2 => r.2 i i0 (by omega))
  refine ⟨h1, ?_, f1, r1⟩
  rw [E_Ra_insert, if_pos m.1, r.1, if_pos (by omega), if_pos m.1]
  exact g1
def zq (f x : Int) : Int := if 999999 < w64 (Int.tdiv (w64 (1000 * f)) x) then 999999 else w64 (Int.tdiv (w64 (1000 * f)) x)
noncomputable def zF (V U : Int → Int) (y r t : Int) : Int := pk V y (sclT V U y (V 0).toNat) (i_and (U 0) (i_xor (i_shl 1 r) (-1))) 0 t
noncomputable def zGt (V U : Int → Int) (y r t : Int) (a : Nat × zR) : Nat × zR := if rawY V y t r = 0 ∨ bitT (U 2) t = true ∨ zF V U y r t = -1 then a else (a.1 + 1, ins (zq (zF V U y r t) (rawY V y t r)) t a.1 a.2)
theorem l_gat {T : Int → Int} {k j y r : Int} (q : okL T k j y) (r0 : 0 ≤ r) (r1 : r < catT T k 0) : ∀ (n : Nat) (t : Int) (h : Hp) (a : Nat × zR), Inv h T → LK h (8 + 8 * k) (32 + 4 * j) y (catT T k) (houT T j) → (∀ i, 0 ≤ i → i < catT T k 0 → mR h 112 i = sclT (catT T k) (houT T j) y (catT T k 0).toNat i) → RaH h a.1 a.2 → (a.1 : Int) ≤ t → 0 ≤ t → t + n = catT T k 1 → ∃ h', P_Ra_gather_28 115 99 r (8 + 8 * k) (i_and (houT T j 0) (i_xor (i_shl 1 r) (-1))) t h = some (0, h') ∧ Fr pRa h h' ∧ RaH h' (itN (zGt (catT T k) (houT T j) y r) n t a).1 (itN (zGt (catT T k) (houT T j) y r) n t a).2 ∧ ((itN (zGt (catT T k) (houT T j) y r) n t a).1 : Int) ≤ t + n := by
  intro n
  induction n with
  | zero =>
    intro t h a w l s ra a1 t0 ht
    have c := ivC w q.1.1 q.1.2
    refine ⟨h, ?_, Fr.rf _ h, ra, by show (a.1 : Int) ≤ _; omega⟩
    rw [E_Ra_gather_28, if_pos (cF c.1.1), c.1.2.2.2.1, if_neg (by omega)]
  | succ n ih =>
    intro t h a w l s ra a1 t0 ht
    have c := ivC w q.1.1 q.1.2
    have v0 := c.2.1.1
    have v1 := c.2.1.2.1
    have m := ivRa w
    have ep : pk (catT T k) y (mR h 112) (i_and (houT T j 0) (i_xor (i_shl 1 r) (-1))) 0 t = zF (catT T k) (houT T j) y r t := pk_congr v0 (fun i i0 i1 => s i i0 i1)
    have rb := rawY_b c.2.1 (y := y) (t := t) (r := r) t0 (by omega) r0 r1
    rw [E_Ra_gather_28, if_pos (cF c.1.1), c.1.2.2.2.1, if_pos (show t < catT T k 1 by omega), if_pos (lkS l), if_pos (cF c.1.1), lk2 l, s_rawBy l t0 (by omega) r0 r1, bind_some', if_pos (lkS l), lk1 l, if_pos (lkH l), s_casts l, bind_some', if_pos (lkS l), s_pick l t0 (by omega), bind_some', ep, w32_id (x := t + 1) (by omega) (by omega)]
    dsimp only
    show ∃ h', _ = some (0, h') ∧ Fr pRa h h' ∧ RaH h' (itN (zGt (catT T k) (houT T j) y r) n (t + 1) (zGt (catT T k) (houT T j) y r t a)).1 (itN (zGt (catT T k) (houT T j) y r) n (t + 1) (zGt (catT T k) (houT T j) y r t a)).2 ∧ ((itN (zGt (catT T k) (houT T j) y r) n (t + 1) (zGt (catT T k) (houT T j) y r t a)).1 : Int) ≤ t + ((n + 1 : Nat) : Int)
    have te : t + ((n + 1 : Nat) : Int) = t + 1 + n := by omega
    rw [te]
    by_cases z : rawY (catT T k) y t r = 0 ∨ bitT (houT T j 2) t = true ∨ zF (catT T k) (houT T j) y r t = -1
    · have e : zGt (catT T k) (houT T j) y r t a = a := if_pos z
      rw [e]
      obtain ⟨h1, g1, f1, r1, b1⟩ := ih (t + 1) h a w l s ra (by omega) (by omega) (by omega)
      refine ⟨h1, ?_, f1, r1, b1⟩
      by_cases z1 : rawY (catT T k) y t r = 0
      · rw [if_pos z1]; exact g1
      · rw [if_neg z1]
        by_cases z2 : bitT (houT T j 2) t = true
        · rw [if_pos z2, if_neg n10]; exact g1
        · rw [if_neg z2, if_pos rfl, if_pos ((z.resolve_left z1).resolve_left z2)]; exact g1
    · have e : zGt (catT T k) (houT T j) y r t a = (a.1 + 1, ins (zq (zF (catT T k) (houT T j) y r t) (rawY (catT T k) y t r)) t a.1 a.2) := if_neg z
      rw [e]
      obtain ⟨h1, g1, f1, r1⟩ := s_insert w (show a.1 < 24 by omega) ra (zq (zF (catT T k) (houT T j) y r t) (rawY (catT T k) y t r)) t
      have w1 := w.of (f1.to pRa_Z)
      obtain ⟨h2, g2, f2, r2, b2⟩ := ih (t + 1) h1 (a.1 + 1, ins (zq (zF (catT T k) (houT T j) y r t) (rawY (catT T k) y t r)) t a.1 a.2) w1 (l.fr f1 (fun b i x => by unfold pRa at x; omega)) (fun i i0 i1 => by rw [f1.2 112 i (by unfold pRa; omega)]; exact s i i0 i1) r1 (by show ((a.1 + 1 : Nat) : Int) ≤ _; omega) (by omega) (by omega)
      refine ⟨h2, ?_, f1.tr f2, r2, b2⟩
      have em : C_Ma_min_JJ 999999 (w64 (Int.tdiv (w64 (1000 * zF (catT T k) (houT T j) y r t)) (rawY (catT T k) y t r))) h = some (zq (zF (catT T k) (houT T j) y r t) (rawY (catT T k) y t r), h) := by
        rw [E_Ma_min_JJ]
        unfold zq
        generalize w64 (Int.tdiv (w64 (1000 * zF (catT T k) (houT T j) y r t)) (rawY (catT T k) y t r)) = x
        by_cases c1 : x < 999999
        · rw [if_pos c1, if_neg (by omega)]
        · rw [if_neg c1]
          by_cases c2 : 999999 < x
          · rw [if_pos c2]
          · rw [if_neg c2, show x = 999999 by omega]
      rw [if_neg (fun x => z (Or.inl x)), if_neg (fun x => z (Or.inr (Or.inl x))), if_pos rfl, if_neg (fun x => z (Or.inr (Or.inr x))), if_neg (fun x => z (Or.inl x)), em, bind_some', if_pos m.1, g1, bind_some']
      exact g2
noncomputable def zG0 : Nat × zR := (0, (fun _ => 0, fun _ => 0))
noncomputable def zSr (T : Int → Int) (k j y r : Int) : Nat × zR := itN (zGt (catT T k) (houT T j) y r) (catT T k 1).toNat 0 zG0
theorem s_gather {h : Hp} {T : Int → Int} (w : Inv h T) (k j y r : Int) : ∃ h', C_LS_gather 1 k j y r h = some (bI (okL T k j y ∧ 0 ≤ r ∧ r < catT T k 0), h') ∧ Fr pZ h h' ∧ Inv h' T ∧ ((okL T k j y ∧ 0 ≤ r ∧ r < catT T k 0) → RaH h' (zSr T k j y r).1 (zSr T k j y r).2 ∧ (zSr T k j y r).1 ≤ 24) := by
  have n := ivn w
  rw [E_LS_gather, if_pos (iv1 w), s_isRung w, bind_some']
  by_cases q1 : (0 ≤ k ∧ k < T 0) ∧ 0 ≤ r ∧ r < catT T k 0
  · rw [bI_t q1, if_neg n10, if_pos (iv1 w)]
    by_cases q2 : okL T k j y
    · obtain ⟨h1, g1, g2, g3⟩ := s_Look w q2
      have w1 := w.of (g2.to pL_Z)
      have v := (ivC w q1.1.1 q1.1.2).2.1.2.1
      have m1 := ivRa w1
      have f0 : Fr pRa h1 (mW h1 115 0 0) := Fr.W h1 0 (by unfold pRa; omega)
      have w2 := w1.of (f0.to pRa_Z)
      have l2 := g3.1.fr f0 (fun b i x => by unfold pRa at x; omega)
      obtain ⟨h2, p1, p2, p3, p4⟩ := l_gat q2 q1.2.1 q1.2.2 (catT T k 1).toNat 0 _ zG0 w2 l2 (fun i i0 i1 => by rw [mR_ne (by omega)]; exact g3.2.2 i i0 i1) ⟨mR_same _ _ _ _, fun i i0 i1 => by have : i < ((0 : Nat) : Int) := i1; omega⟩ (by show ((0 : Nat) : Int) ≤ 0; omega) (by omega) (by omega)
      have ff := (f0.tr p2).to pRa_Z
      refine ⟨h2, ?_, (g2.to pL_Z).tr ff, w1.of ff, fun _ => ⟨p3, by unfold zSr; omega⟩⟩
      rw [g1, bind_some', if_neg n10, if_pos (iv1 w1), if_pos (iv1 w1), m1.2.2.2.2.2, if_pos m1.1, iv16 w1, E_Ra_gather, if_pos m1.1, hb_eq, if_pos (lkS l2), if_pos (lkS l2), lk1 l2, if_pos (lkH l2), lk0 l2, lkh0 l2, p1, bind_some', bI_t ⟨q2, q1.2⟩]
    · exact ⟨h, by rw [s_LookN w q2, bind_some', if_pos rfl, bI_f (fun z => q2 z.1)], Fr.rf _ h, w, fun z => absurd z.1 q2⟩
  · exact ⟨h, by rw [bI_f q1, if_pos rfl, bI_f (fun z => q1 ⟨z.1.1, z.2⟩)], Fr.rf _ h, w, fun z => absurd ⟨z.1.1, z.2⟩ q1⟩
