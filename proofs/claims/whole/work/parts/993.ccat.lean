/-! A catalogue read; the class's half. -/
theorem so_ctL {B : Int → Int} {L : Int} {s : Int × Int × Int} (o : SO B L s) (t : tK B L s.1 ≠ 0) (V : Int → Int) : SO B L (ctL B L s V).1 := by
  unfold ctL
  by_cases k : tK B L s.1 = 3
  · rw [if_pos k]
    by_cases w1 : tW B L s.1 = 1
    · rw [if_pos w1]; exact so_ens (so_num (so_rm3 o t))
    rw [if_neg w1]
    by_cases w2 : tW B L s.1 = 2
    · rw [if_pos w2]; exact so_ens (so_num (so_rm3 o t))
    rw [if_neg w2]
    by_cases w3 : tW B L s.1 = 3
    · rw [if_pos w3]; exact so_ens (so_num (so_rm3 o t))
    rw [if_neg w3]
    by_cases w4 : tW B L s.1 = 4
    · rw [if_pos w4]; exact so_ens (so_num (so_rm3 o t))
    rw [if_neg w4]
    by_cases w5 : tW B L s.1 = 5
    · rw [if_pos w5]; exact so_ens (so_num (so_rm3 o t))
    rw [if_neg w5]
    by_cases w6 : tW B L s.1 = 6
    · rw [if_pos w6]; exact so_ens (so_num (so_num (so_num (so_num (so_step o t)))))
    rw [if_neg w6]
    exact so_brk o
  · rw [if_neg k]; exact so_brk o
theorem num_p {B : Int → Int} {L lo hi : Int} {s : Int × Int × Int} (o : SO B L s) : s.1 ≤ (num B L lo hi s).2.1 := by
  have b := tE_b (B := B) o.1.1 o.1.2
  unfold num
  by_cases z : s.2.1 = 1
  · rw [if_pos z]; exact Int.le_refl _
  · rw [if_neg z]
    by_cases y : tK B L s.1 = 1
    · rw [if_pos y]
      by_cases x : tV B L s.1 < lo ∨ hi < tV B L s.1
      · rw [if_pos x]; show s.1 ≤ tE B L (nte B L 2 s).1; rw [nte_p]; omega
      · rw [if_neg x]; show s.1 ≤ tE B L s.1; omega
    · rw [if_neg y]
      show s.1 ≤ (brk B L s).1
      unfold brk
      rw [if_neg z]
      exact Int.le_refl _
theorem ens_p {B : Int → Int} {L : Int} {s : Int × Int × Int} (o : SO B L s) (n : (ens B L s).2.1 ≠ 1) : s.1 + 1 ≤ (ens B L s).1 := by
  have b := tE_b (B := B) o.1.1 o.1.2
  unfold ens at n ⊢
  by_cases z : s.2.1 = 1
  · rw [if_pos z] at n; exact absurd z n
  · rw [if_neg z] at n ⊢
    by_cases y : tK B L s.1 = 2
    · rw [if_pos y]
      have a := b.2.2.2.2 (by omega)
      have c := b.2.2.2.1 a
      show s.1 + 1 ≤ tE B L s.1
      omega
    · rw [if_neg y] at n; exact absurd brk_1 n
theorem rm3_p {B : Int → Int} {L a b : Int} {s : Int × Int × Int} (o : SO B L s) (t : tK B L s.1 ≠ 0) : s.1 + 1 ≤ (rm3 B L a b s).1 := by
  have c := tE_b (B := B) o.1.1 o.1.2
  have d := c.2.2.2.1 (c.2.2.2.2 t)
  unfold rm3
  by_cases z : a < b
  · rw [if_pos z]; show s.1 + 1 ≤ tE B L s.1; omega
  · rw [if_neg z]; show s.1 + 1 ≤ tE B L (nte B L 3 s).1; rw [nte_p]; omega
theorem ctL_p {B : Int → Int} {L : Int} {s : Int × Int × Int} (o : SO B L s) (t : tK B L s.1 ≠ 0) (V : Int → Int) (n : (ctL B L s V).1.2.1 ≠ 1) : s.1 + 2 ≤ (ctL B L s V).1.1 := by
  have one' : ∀ {a b lo hi : Int}, (ens B L (num B L lo hi (rm3 B L a b s)).2).2.1 ≠ 1 → s.1 + 2 ≤ (ens B L (num B L lo hi (rm3 B L a b s)).2).1 := fun {a b lo hi} x => by
    have o1 := so_rm3 (a := a) (b := b) o t
    have p1 := rm3_p (a := a) (b := b) o t
    have p2 := num_p (lo := lo) (hi := hi) o1
    have p3 := ens_p (so_num (lo := lo) (hi := hi) o1) x
    omega
  unfold ctL at n ⊢
  by_cases k : tK B L s.1 = 3
  · rw [if_pos k] at n ⊢
    by_cases w1 : tW B L s.1 = 1
    · rw [if_pos w1] at n ⊢; exact one' n
    rw [if_neg w1] at n ⊢
    by_cases w2 : tW B L s.1 = 2
    · rw [if_pos w2] at n ⊢; exact one' n
    rw [if_neg w2] at n ⊢
    by_cases w3 : tW B L s.1 = 3
    · rw [if_pos w3] at n ⊢; exact one' n
    rw [if_neg w3] at n ⊢
    by_cases w4 : tW B L s.1 = 4
    · rw [if_pos w4] at n ⊢; exact one' n
    rw [if_neg w4] at n ⊢
    by_cases w5 : tW B L s.1 = 5
    · rw [if_pos w5] at n ⊢; exact one' n
    rw [if_neg w5] at n ⊢
    by_cases w6 : tW B L s.1 = 6
    · rw [if_pos w6] at n ⊢
      have c := tE_b (B := B) o.1.1 o.1.2
      have d := c.2.2.2.1 (c.2.2.2.2 t)
      have o1 := so_step o t
      have e1 : (adv B L s).1 = tE B L s.1 := rfl
      have p1 := num_p (lo := 0) (hi := V 1 - 1) o1
      have o2 := so_num (lo := 0) (hi := V 1 - 1) o1
      have p2 := num_p (lo := 0) (hi := V 0 - 1) o2
      have o3 := so_num (lo := 0) (hi := V 0 - 1) o2
      have p3 := num_p (lo := 1) (hi := 9999) o3
      have o4 := so_num (lo := 1) (hi := 9999) o3
      have p4 := num_p (lo := 0) (hi := 99) o4
      have o5 := so_num (lo := 0) (hi := 99) o4
      have p5 := ens_p o5 n
      have e5 : (ctE B L s V).1 = ens B L (num B L 0 99 (num B L 1 9999 (num B L 0 (V 0 - 1) (num B L 0 (V 1 - 1) (adv B L s)).2).2).2).2 := rfl
      rw [e5]
      omega
    rw [if_neg w6] at n
    exact absurd brk_1 n
  · rw [if_neg k] at n; exact absurd brk_1 n
def ctI (B : Int → Int) (L : Int) : Nat → (Int × Int × Int) × (Int → Int) → (Int × Int × Int) × (Int → Int)
  | 0, x => x
  | n + 1, x => if tK B L x.1.1 = 0 ∨ x.1.2.1 = 1 then x else ctI B L n (ctL B L x.1 x.2)
theorem cK_0 {k : Int} : cK k = 0 ↔ k = 0 := by
  unfold cK
  by_cases z0 : k = 0
  · rw [if_pos z0]; exact ⟨fun _ => z0, fun _ => rfl⟩
  · rw [if_neg z0]
    refine ⟨fun x => ?_, fun x => absurd x z0⟩
    by_cases z1 : k = 1
    · rw [if_pos z1] at x; omega
    · rw [if_neg z1] at x
      by_cases z2 : k = 2
      · rw [if_pos z2] at x; omega
      · rw [if_neg z2] at x
        by_cases z3 : k = 3 ∨ k = 5
        · rw [if_pos z3] at x; omega
        · rw [if_neg z3] at x; omega
theorem c_goes {h : Hp} {B : Int → Int} {L : Int} {s : Int × Int × Int} (r : CR h B L s) : C_Re_goesOn 82 h = some (bI (¬ (tK B L s.1 = 0 ∨ s.2.1 = 1)), h) := by
  rw [E_Re_goesOn, if_pos (cro r), r.1.2.2.1]
  by_cases z : tK B L s.1 = 0
  · rw [if_pos (cK_0.2 z), bI_f (fun x => x (Or.inl z))]
  · rw [if_neg (fun x => z (cK_0.1 x)), if_pos (cro r), r.2.1]
    by_cases y : s.2.1 = 1
    · rw [if_pos y, bI_f (fun x => x (Or.inr y))]
    · rw [if_neg y, bI_t (by rintro (x | x); exact z x; exact y x)]
theorem Str.fr {h h' : Hp} {p : Int → Int → Prop} (s : Str h) (f : Fr p h h') (n : ∀ b i, b ≤ 0 → ¬ p b i) : Str h' := s.kp (fun b q => ⟨f.1.k b, f.1.l b, fun i => f.2 b i (n b i q)⟩)
theorem pRc_n (b i : Int) (q : b ≤ 0) : ¬ pRc b i := by unfold pRc pRf pCa; omega
theorem c_cat {B : Int → Int} {L : Int} : ∀ (n : Nat) (i : Int) (h : Hp) (s : Int × Int × Int) (V : Int → Int), CR h B L s → SO B L s → CatD h 84 V → Str h → 0 ≤ i → i + n = 500 → ∃ h', P_Re_readCatalogue_6 82 84 i h = some (0, h') ∧ Fr pRc h h' ∧ CR h' B L (ctI B L n (s, V)).1 ∧ CatD h' 84 (ctI B L n (s, V)).2 := by
  intro n
  induction n with
  | zero =>
    intro i h s V r o w st i0 hi
    exact ⟨h, by rw [E_Re_readCatalogue_6, if_neg (by omega)], Fr.rf _ h, r, w⟩
  | succ n ih =>
    intro i h s V r o w st i0 hi
    show ∃ h', _ ∧ Fr pRc h h' ∧ CR h' B L (if tK B L s.1 = 0 ∨ s.2.1 = 1 then (s, V) else ctI B L n (ctL B L s V)).1 ∧ CatD h' 84 (if tK B L s.1 = 0 ∨ s.2.1 = 1 then (s, V) else ctI B L n (ctL B L s V)).2
    rw [E_Re_readCatalogue_6, if_pos (show i < 500 by omega), if_pos (cro r), c_goes r, bind_some']
    by_cases g : tK B L s.1 = 0 ∨ s.2.1 = 1
    · rw [bI_f (fun x => x g), if_pos rfl, if_pos g]
      exact ⟨h, rfl, Fr.rf _ h, r, w⟩
    · have i10 : C_Re_isWord 82 (-10) h = some (bI (tK B L s.1 = 3 ∧ tW B L s.1 = 1), h) := c_isw r.1 st o.1.1 o.1.2 (k := 0) (by decide)
      have i11 : C_Re_isWord 82 (-11) h = some (bI (tK B L s.1 = 3 ∧ tW B L s.1 = 2), h) := c_isw r.1 st o.1.1 o.1.2 (k := 1) (by decide)
      have i12 : C_Re_isWord 82 (-12) h = some (bI (tK B L s.1 = 3 ∧ tW B L s.1 = 3), h) := c_isw r.1 st o.1.1 o.1.2 (k := 2) (by decide)
      have i13 : C_Re_isWord 82 (-13) h = some (bI (tK B L s.1 = 3 ∧ tW B L s.1 = 4), h) := c_isw r.1 st o.1.1 o.1.2 (k := 3) (by decide)
      have i14 : C_Re_isWord 82 (-14) h = some (bI (tK B L s.1 = 3 ∧ tW B L s.1 = 5), h) := c_isw r.1 st o.1.1 o.1.2 (k := 4) (by decide)
      have i15 : C_Re_isWord 82 (-15) h = some (bI (tK B L s.1 = 3 ∧ tW B L s.1 = 6), h) := c_isw r.1 st o.1.1 o.1.2 (k := 5) (by decide)
      have t0 : tK B L s.1 ≠ 0 := fun x => g (Or.inl x)
      have oL := so_ctL o t0 V
      rw [bI_t g, if_neg n10, if_neg g, if_pos (cro r), i10, bind_some', w32_id (x := i + 1) (by omega) (by omega)]
      have go : ∀ h1, Fr pRc h h1 → CR h1 B L (ctL B L s V).1 → CatD h1 84 (ctL B L s V).2 → ∃ h', P_Re_readCatalogue_6 82 84 (i + 1) h1 = some (0, h') ∧ Fr pRc h h' ∧ CR h' B L (ctI B L n (ctL B L s V)).1 ∧ CatD h' 84 (ctI B L n (ctL B L s V)).2 := fun h1 f1 r1 w1 => by
        obtain ⟨h2, g2, f2, r2, w2⟩ := ih (i + 1) h1 _ _ r1 oL w1 (st.fr f1 pRc_n) (by omega) (by omega)
        exact ⟨h2, g2, f1.tr f2, r2, w2⟩
      by_cases k : tK B L s.1 = 3
      · by_cases w1 : tW B L s.1 = 1
        · obtain ⟨h1, g1, f1, r1, v1⟩ := c_base r o w k
          have e : ctL B L s V = ctB B L s V := by unfold ctL; rw [if_pos k, if_pos w1]
          rw [← e] at r1 v1
          rw [bI_t ⟨k, w1⟩, if_neg n10, if_pos (cro r), g1, bind_some']
          exact go h1 f1 r1 v1
        rw [bI_f (fun x => w1 x.2), if_pos rfl, if_pos (cro r), i11, bind_some']
        by_cases w2 : tW B L s.1 = 2
        · obtain ⟨h1, g1, f1, r1, v1⟩ := c_on r o w k
          have e : ctL B L s V = ctO B L s V := by unfold ctL; rw [if_pos k, if_neg w1, if_pos w2]
          rw [← e] at r1 v1
          rw [bI_t ⟨k, w2⟩, if_neg n10, if_pos (cro r), g1, bind_some']
          exact go h1 f1 r1 v1
        rw [bI_f (fun x => w2 x.2), if_pos rfl, if_pos (cro r), i12, bind_some']
        by_cases w3 : tW B L s.1 = 3
        · obtain ⟨h1, g1, f1, r1, v1⟩ := c_thing r o w k (Or.inl rfl)
          have e : ctL B L s V = ctT B L s V 1 := by unfold ctL; rw [if_pos k, if_neg w1, if_neg w2, if_pos w3]
          rw [← e] at r1 v1
          rw [bI_t ⟨k, w3⟩, if_neg n10, if_pos (cro r), g1, bind_some']
          exact go h1 f1 r1 v1
        rw [bI_f (fun x => w3 x.2), if_pos rfl, if_pos (cro r), i13, bind_some']
        by_cases w4 : tW B L s.1 = 4
        · obtain ⟨h1, g1, f1, r1, v1⟩ := c_thing r o w k (Or.inr rfl)
          have e : ctL B L s V = ctT B L s V (-1) := by unfold ctL; rw [if_pos k, if_neg w1, if_neg w2, if_neg w3, if_pos w4]
          rw [← e] at r1 v1
          rw [bI_t ⟨k, w4⟩, if_neg n10, if_pos (cro r), g1, bind_some']
          exact go h1 f1 r1 v1
        rw [bI_f (fun x => w4 x.2), if_pos rfl, if_pos (cro r), i14, bind_some']
        by_cases w5 : tW B L s.1 = 5
        · obtain ⟨h1, g1, f1, r1, v1⟩ := c_stone r o w k
          have e : ctL B L s V = ctS B L s V := by unfold ctL; rw [if_pos k, if_neg w1, if_neg w2, if_neg w3, if_neg w4, if_pos w5]
          rw [← e] at r1 v1
          rw [bI_t ⟨k, w5⟩, if_neg n10, if_pos (cro r), g1, bind_some']
          exact go h1 f1 r1 v1
        rw [bI_f (fun x => w5 x.2), if_pos rfl, if_pos (cro r), i15, bind_some']
        by_cases w6 : tW B L s.1 = 6
        · obtain ⟨h1, g1, f1, r1, v1⟩ := c_entry r o w k
          have e : ctL B L s V = ctE B L s V := by unfold ctL; rw [if_pos k, if_neg w1, if_neg w2, if_neg w3, if_neg w4, if_neg w5, if_pos w6]
          rw [← e] at r1 v1
          rw [bI_t ⟨k, w6⟩, if_neg n10, if_pos (cro r), g1, bind_some']
          exact go h1 f1 r1 v1
        obtain ⟨h1, g1, f1, r1⟩ := c_brk r
        have e : ctL B L s V = (brk B L s, V) := by unfold ctL; rw [if_pos k, if_neg w1, if_neg w2, if_neg w3, if_neg w4, if_neg w5, if_neg w6]
        rw [bI_f (fun x => w6 x.2), if_pos rfl, if_pos (cro r), g1, bind_some']
        exact go h1 (f1.to pRf_c) (by rw [e]; exact r1) (by rw [e]; exact w.rd f1)
      · obtain ⟨h1, g1, f1, r1⟩ := c_brk r
        have e : ctL B L s V = (brk B L s, V) := by unfold ctL; rw [if_neg k]
        rw [bI_f (fun x => k x.1), if_pos rfl, if_pos (cro r), i11, bind_some', bI_f (fun x => k x.1), if_pos rfl, if_pos (cro r), i12, bind_some', bI_f (fun x => k x.1), if_pos rfl, if_pos (cro r), i13, bind_some', bI_f (fun x => k x.1), if_pos rfl, if_pos (cro r), i14, bind_some', bI_f (fun x => k x.1), if_pos rfl, if_pos (cro r), i15, bind_some', bI_f (fun x => k x.1), if_pos rfl, if_pos (cro r), g1, bind_some']
        exact go h1 (f1.to pRf_c) (by rw [e]; exact r1) (by rw [e]; exact w.rd f1)
