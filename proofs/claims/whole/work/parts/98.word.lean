/-! Words: by their letters, and by the one number of their letters. -/
def Hn (f : Nat → Int) : Nat → Int
  | 0 => 0
  | n + 1 => 32 * Hn f n + (f n - 96)
theorem hs_H (B : Int → Int) (a : Int) : ∀ n : Nat, hs B a n = Hn (fun j => B (a + j)) n
  | 0 => rfl
  | n + 1 => by
    show 32 * hs B a n + (B (a + n) - 96) = 32 * Hn (fun j => B (a + j)) n + (B (a + n) - 96)
    rw [hs_H B a n]
theorem Hn_cg {f g : Nat → Int} : ∀ n : Nat, (∀ j, j < n → f j = g j) → Hn f n = Hn g n
  | 0, _ => rfl
  | n + 1, h => by
    show 32 * Hn f n + (f n - 96) = 32 * Hn g n + (g n - 96)
    rw [Hn_cg n (fun j hj => h j (by omega)), h n (by omega)]
theorem Hn_p {f : Nat → Int} : ∀ n : Nat, (∀ j, j < n → 97 ≤ f j ∧ f j ≤ 122) → 0 ≤ Hn f n ∧ (0 < n → 0 < Hn f n)
  | 0, _ => ⟨by show (0 : Int) ≤ 0; omega, fun x => by omega⟩
  | n + 1, h => by
    have i := Hn_p n (fun j hj => h j (by omega))
    have d := h n (by omega)
    show 0 ≤ 32 * Hn f n + (f n - 96) ∧ (0 < n + 1 → 0 < 32 * Hn f n + (f n - 96))
    omega
theorem Hn_inj {f g : Nat → Int} : ∀ n m : Nat, (∀ j, j < n → 97 ≤ f j ∧ f j ≤ 122) → (∀ j, j < m → 97 ≤ g j ∧ g j ≤ 122) → Hn f n = Hn g m → n = m ∧ ∀ j, j < n → f j = g j
  | 0, m, _, hg, e => by
    have p := Hn_p m hg
    have e0 : (0 : Int) = Hn g m := e
    by_cases z : m = 0
    · exact ⟨z.symm, fun j hj => by omega⟩
    · have := p.2 (by omega)
      omega
  | n + 1, 0, hf, _, e => by
    have p := (Hn_p (n + 1) hf).2 (by omega)
    have e0 : Hn f (n + 1) = 0 := e
    omega
  | n + 1, m + 1, hf, hg, e => by
    have d := hf n (by omega)
    have d' := hg m (by omega)
    have e0 : 32 * Hn f n + (f n - 96) = 32 * Hn g m + (g m - 96) := e
    obtain ⟨a, b⟩ := Hn_inj n m (fun j hj => hf j (by omega)) (fun j hj => hg j (by omega)) (by omega)
    refine ⟨by omega, fun j hj => ?_⟩
    by_cases z : j = n
    · rw [z, show g n = g m by rw [a]]; omega
    · exact b j (by omega)
def dW (k : Int) : Int := if k = 1 then 67173 else if k = 2 then 494 else if k = 3 then 56377 else if k = 4 then 687572548 else if k = 5 then 20594117 else if k = 6 then 8243 else if k = 11 then 22117 else if k = 12 then 23609 else if k = 13 then 398382 else if k = 14 then 99956 else if k = 15 then 21252599 else if k = 21 then 6605428 else if k = 22 then 431150 else if k = 23 then 394868 else if k = 24 then 688 else if k = 25 then 147182 else if k = 31 then 650632370 else if k = 32 then 203018418 else if k = 33 then 475056306 else if k = 34 then 6495543474 else if k = 35 then 15492 else if k = 41 then 12885268 else if k = 42 then 20452516 else if k = 43 then 16110 else if k = 44 then 5714 else if k = 45 then 12891444 else if k = 46 then 21570739 else 0
def cdW (k : Nat) : Int := [1, 2, 3, 4, 5, 6, 11, 12, 21, 22, 23, 13, 24, 25, 14, 15, 31, 32, 33, 34, 35, 41, 42, 43, 44, 45, 46].getD k 0
theorem wd_facts : ∀ k : Nat, k < 27 → Hn (fun j => (sby k).getD j 0) (sby k).length = dW (cdW k) ∧ (sby k).length ≤ 7 ∧ 0 < (sby k).length ∧ wC (dW (cdW k)) = cdW k ∧ cdW k ≠ 99 ∧ ∀ j : Nat, j < (sby k).length → 97 ≤ (sby k).getD j 0 ∧ (sby k).getD j 0 ≤ 122 := by decide +kernel
theorem wC_d (x : Int) : wC x = 99 ∨ (dW (wC x) = x ∧ 1 ≤ wC x ∧ wC x ≤ 46) := by
  unfold wC
  by_cases z1 : x = 67173
  · rw [if_pos z1, z1]; exact Or.inr (by decide)
  rw [if_neg z1]
  by_cases z2 : x = 494
  · rw [if_pos z2, z2]; exact Or.inr (by decide)
  rw [if_neg z2]
  by_cases z3 : x = 56377
  · rw [if_pos z3, z3]; exact Or.inr (by decide)
  rw [if_neg z3]
  by_cases z4 : x = 687572548
  · rw [if_pos z4, z4]; exact Or.inr (by decide)
  rw [if_neg z4]
  by_cases z5 : x = 20594117
  · rw [if_pos z5, z5]; exact Or.inr (by decide)
  rw [if_neg z5]
  by_cases z6 : x = 8243
  · rw [if_pos z6, z6]; exact Or.inr (by decide)
  rw [if_neg z6]
  by_cases z11 : x = 22117
  · rw [if_pos z11, z11]; exact Or.inr (by decide)
  rw [if_neg z11]
  by_cases z12 : x = 23609
  · rw [if_pos z12, z12]; exact Or.inr (by decide)
  rw [if_neg z12]
  by_cases z13 : x = 398382
  · rw [if_pos z13, z13]; exact Or.inr (by decide)
  rw [if_neg z13]
  by_cases z14 : x = 99956
  · rw [if_pos z14, z14]; exact Or.inr (by decide)
  rw [if_neg z14]
  by_cases z15 : x = 21252599
  · rw [if_pos z15, z15]; exact Or.inr (by decide)
  rw [if_neg z15]
  by_cases z21 : x = 6605428
  · rw [if_pos z21, z21]; exact Or.inr (by decide)
  rw [if_neg z21]
  by_cases z22 : x = 431150
  · rw [if_pos z22, z22]; exact Or.inr (by decide)
  rw [if_neg z22]
  by_cases z23 : x = 394868
  · rw [if_pos z23, z23]; exact Or.inr (by decide)
  rw [if_neg z23]
  by_cases z24 : x = 688
  · rw [if_pos z24, z24]; exact Or.inr (by decide)
  rw [if_neg z24]
  by_cases z25 : x = 147182
  · rw [if_pos z25, z25]; exact Or.inr (by decide)
  rw [if_neg z25]
  by_cases z31 : x = 650632370
  · rw [if_pos z31, z31]; exact Or.inr (by decide)
  rw [if_neg z31]
  by_cases z32 : x = 203018418
  · rw [if_pos z32, z32]; exact Or.inr (by decide)
  rw [if_neg z32]
  by_cases z33 : x = 475056306
  · rw [if_pos z33, z33]; exact Or.inr (by decide)
  rw [if_neg z33]
  by_cases z34 : x = 6495543474
  · rw [if_pos z34, z34]; exact Or.inr (by decide)
  rw [if_neg z34]
  by_cases z35 : x = 15492
  · rw [if_pos z35, z35]; exact Or.inr (by decide)
  rw [if_neg z35]
  by_cases z41 : x = 12885268
  · rw [if_pos z41, z41]; exact Or.inr (by decide)
  rw [if_neg z41]
  by_cases z42 : x = 20452516
  · rw [if_pos z42, z42]; exact Or.inr (by decide)
  rw [if_neg z42]
  by_cases z43 : x = 16110
  · rw [if_pos z43, z43]; exact Or.inr (by decide)
  rw [if_neg z43]
  by_cases z44 : x = 5714
  · rw [if_pos z44, z44]; exact Or.inr (by decide)
  rw [if_neg z44]
  by_cases z45 : x = 12891444
  · rw [if_pos z45, z45]; exact Or.inr (by decide)
  rw [if_neg z45]
  by_cases z46 : x = 21570739
  · rw [if_pos z46, z46]; exact Or.inr (by decide)
  rw [if_neg z46]
  exact Or.inl rfl
theorem tok_w {B : Int → Int} {L p : Int} (p1 : p ≤ L) (k : tK B L p = 3 ∨ tK B L p = 5) : tA B L p < L ∧ p ≤ tA B L p ∧ tA B L p ≤ tE B L p ∧ tE B L p ≤ L ∧ (∀ j, tA B L p ≤ j → j < tE B L p → 97 ≤ B j ∧ B j ≤ 122) ∧ (tK B L p = 5 ↔ tW B L p = 99) := by
  have b := rn_c (P := wsB B) p1
  have eA : rn (wsB B) L p = tA B L p := rfl
  rw [eA] at b
  have k' := k
  unfold tK at k
  by_cases q : tA B L p < L
  · rw [if_pos q] at k
    by_cases m : B (tA B L p) = 59
    · rw [if_pos m] at k; omega
    · rw [if_neg m] at k
      by_cases l : ltB B (tA B L p) = true
      · have ee : tE B L p = rn (ltB B) L (tA B L p) := by unfold tE; rw [if_pos q, if_neg m, if_pos l]
        have c := rn_c (P := ltB B) (show tA B L p ≤ L by omega)
        rw [← ee] at c
        refine ⟨q, b.1, c.1, c.2.1, fun j j0 j1 => of_decide_eq_true (c.2.2.2 j j0 j1), ?_⟩
        have tk : tK B L p = if tW B L p = 99 then 5 else 3 := by unfold tK; rw [if_pos q, if_neg m, if_pos l]
        rw [tk]
        by_cases u : tW B L p = 99
        · rw [if_pos u]; exact ⟨fun _ => u, fun _ => rfl⟩
        · rw [if_neg u]; exact ⟨fun x => by omega, fun x => absurd x u⟩
      · rw [if_neg l] at k
        by_cases d : dgB B (tA B L p) = true
        · rw [if_pos d] at k
          by_cases u : 4 < tE B L p - tA B L p
          · rw [if_pos u] at k; omega
          · rw [if_neg u] at k; omega
        · rw [if_neg d] at k; omega
  · rw [if_neg q] at k; omega
theorem isw_iff {B : Int → Int} {L p : Int} (p1 : p ≤ L) {k : Nat} (hk : k < 27) : ((tK B L p = 3 ∨ tK B L p = 5) ∧ tE B L p - tA B L p = (sby k).length ∧ ∀ j : Nat, j < (sby k).length → B (tA B L p + j) = (sby k).getD j 0) ↔ (tK B L p = 3 ∧ tW B L p = cdW k) := by
  obtain ⟨f1, f2, f3, f4, f5, f6⟩ := wd_facts k hk
  constructor
  · rintro ⟨t, e, l⟩
    have w := tok_w p1 t
    have en : (tE B L p - tA B L p).toNat = (sby k).length := by omega
    have tw : tW B L p = cdW k := by
      unfold tW
      rw [if_neg (by omega), en, hs_H, Hn_cg (g := fun j => (sby k).getD j 0) _ l, f1, f4]
    refine ⟨t.resolve_right (fun x => f5 ?_), tw⟩
    rw [← tw]; exact w.2.2.2.2.2.1 x
  · rintro ⟨t, e⟩
    have w := tok_w p1 (Or.inl t)
    unfold tW at e
    by_cases z : 7 < tE B L p - tA B L p
    · rw [if_pos z] at e; exact absurd e.symm f5
    · rw [if_neg z] at e
      rcases wC_d (hs B (tA B L p) (tE B L p - tA B L p).toNat) with y | y
      · rw [y] at e; exact absurd e.symm f5
      · rw [e, ← f1, hs_H] at y
        have i := Hn_inj _ _ (fun j hj => f6 j hj) (fun j hj => w.2.2.2.2.1 (tA B L p + j) (by omega) (by omega)) y.1
        refine ⟨Or.inl t, by omega, fun j hj => (i.2 j hj).symm⟩
/-- the given words -/
def Str (h : Hp) : Prop := ∀ k : Nat, k < 27 → mK h (-10 - k) = 50 ∧ mR h (-10 - k) 0 = -50 - k ∧ mR h (-10 - k) 1 = 0 ∧ mK h (-50 - k) = 101 ∧ mL h (-50 - k) = (sby k).length ∧ ∀ j : Nat, j < (sby k).length → mR h (-50 - k) j = (sby k).getD j 0
theorem Str.kp {h h' : Hp} (s : Str h) (k : ∀ b, b ≤ 0 → mK h' b = mK h b ∧ mL h' b = mL h b ∧ ∀ i, mR h' b i = mR h b i) : Str h' := by
  intro x hx
  have e1 := k (-10 - x) (by omega)
  have e2 := k (-50 - x) (by omega)
  rw [e1.1, e2.1, e2.2.1, e1.2.2 0, e1.2.2 1]
  obtain ⟨a, b, c, d, e, f⟩ := s x hx
  exact ⟨a, b, c, d, e, fun j hj => by rw [e2.2.2]; exact f j hj⟩
theorem shr0 {x : Int} (h0 : -2147483648 ≤ x) (h1 : x ≤ 2147483647) : i_shr x 0 = x := by
  have e : i_shr x ((0 : Nat) : Int) = x := by
    have q : in32 (i_shr x ((0 : Nat) : Int)) := t32_in _
    refine Bt_ext q (by unfold in32; omega) (fun i hi => ?_)
    rw [Bt_shr x (n := 0) (i := i) (by omega) (by omega), Nat.zero_add]
  exact e
theorem c_len {h : Hp} (s : Str h) {k : Nat} (hk : k < 27) : C_St_length (-10 - k) h = some (((sby k).length : Int), h) := by
  obtain ⟨a, b, c, d, e, f⟩ := s k hk
  have l := (wd_facts k hk).2.1
  rw [E_St_length, if_pos (okF_t a), b, if_pos (show okY h (-50 - k) = true from decide_eq_true (by rw [d]; omega)), if_pos (okF_t a), E_St_coder, if_neg (by decide), if_pos (okF_t a), c, if_pos (by decide), bind_some', e, shr0 (by omega) (by omega)]
theorem c_char {h : Hp} (s : Str h) {k : Nat} (hk : k < 27) {j : Nat} (hj : j < (sby k).length) : C_St_charAt (-10 - k) j h = some ((sby k).getD j 0, h) := by
  obtain ⟨a, b, c, d, e, f⟩ := s k hk
  have l := (wd_facts k hk).2.2.2.2.2 j hj
  have v : i_and (mR h (-50 - k) j) 255 % 65536 = (sby k).getD j 0 := by rw [f j hj, and255]; omega
  rw [E_St_charAt, if_pos (okF_t a), E_St_isLatin1, if_neg (by decide), if_pos (okF_t a), c, if_pos rfl, bind_some', if_neg n10, if_pos (okF_t a), b, E_S1_charAt, if_pos (show okY h (-50 - k) = true from decide_eq_true (by rw [d]; omega)), E_St_checkIndex, E_Pr_checkIndex, if_neg (by omega), e, if_pos (by omega), bind_some', bind_some', if_pos (okB_t ⟨d, e⟩ (by omega) (by omega)), v, if_pos (show rok 5 ((sby k).getD j 0) = true from decide_eq_true (by omega)), bind_some', if_pos (show rok 5 ((sby k).getD j 0) = true from decide_eq_true (by omega))]
theorem l_isw {h : Hp} {B : Int → Int} {L a : Int} (r : RdB h B L) (s : Str h) (ea : mR h 82 3 = a) (a0 : 0 ≤ a) {k : Nat} (hk : k < 27) (al : a + (sby k).length ≤ L) : ∀ (n j : Nat), j + n = (sby k).length → (∀ i : Nat, i < j → B (a + i) = (sby k).getD i 0) → P_Re_isWord_28 82 (-10 - k) j h = some (bI (∀ i : Nat, i < (sby k).length → B (a + i) = (sby k).getD i 0), h) := by
  have l7 := (wd_facts k hk).2.1
  have lb := r.2.2.2.2.1.1
  intro n
  induction n with
  | zero =>
    intro j hj d
    rw [E_Re_isWord_28, if_pos (okF_t (s k hk).1), c_len s hk, bind_some', if_neg (by omega), bI_t (fun i hi => d i (by omega))]
  | succ n ih =>
    intro j hj d
    have b := r.2.2.2.2.1.2 (a + j) (by omega) (by omega)
    have c := w8_c b.1 b.2
    have f := (wd_facts k hk).2.2.2.2.2 j (by omega)
    have ih1 := ih (j + 1) (by omega)
    have ej : ((j + 1 : Nat) : Int) = (j : Int) + 1 := by omega
    rw [ej] at ih1
    rw [E_Re_isWord_28, if_pos (okF_t (s k hk).1), c_len s hk, bind_some', if_pos (show (j : Int) < (sby k).length by omega), if_pos (rdo r), if_pos (rdo r), r.2.1, ea, w32_id (x := a + j) (by omega) (by omega), if_pos (rdb r (by omega) (by omega)), if_pos (okF_t (s k hk).1), c_char s hk (by omega), bind_some', r.2.2.2.2.2 _ (by omega) (by omega)]
    dsimp only
    by_cases z : B (a + j) = (sby k).getD j 0
    · rw [if_pos (by omega), w32_id (x := (j : Int) + 1) (by omega) (by omega)]
      exact ih1 (fun i hi => by
        by_cases y : i = j
        · rw [y]; exact z
        · exact d i (by omega))
    · rw [if_neg (by omega), bI_f (fun x => z (x j (by omega)))]
theorem c_isw {h : Hp} {B : Int → Int} {L p : Int} (r : RC h B L p) (s : Str h) (p0 : 0 ≤ p) (p1 : p ≤ L) {k : Nat} (hk : k < 27) : C_Re_isWord 82 (-10 - k) h = some (bI (tK B L p = 3 ∧ tW B L p = cdW k), h) := by
  obtain ⟨r1, r2, r3, r4, r5⟩ := r
  have lb := r1.2.2.2.2.1.1
  have l7 := (wd_facts k hk).2.1
  rw [E_Re_isWord, if_pos (rdo r1), r3, ← bI_c (isw_iff p1 hk)]
  by_cases t : tK B L p = 3 ∨ tK B L p = 5
  · have w := tok_w p1 t
    have ck : cK (tK B L p) = 1 := by rcases t with t | t <;> rw [t] <;> rfl
    have k4 : tK B L p ≠ 4 := by omega
    rw [if_pos ck, if_pos (rdo r1), if_pos (rdo r1), if_pos (okF_t (s k hk).1), c_len s hk, bind_some', r4 k4, r2, w32_id (x := tE B L p - tA B L p) (by omega) (by omega)]
    dsimp only
    by_cases e : tE B L p - tA B L p = (sby k).length
    · rw [if_pos e]
      have := l_isw r1 s r2 (by omega) hk (by omega) (sby k).length 0 (by omega) (fun i hi => by omega)
      rw [bI_c (y := (tK B L p = 3 ∨ tK B L p = 5) ∧ tE B L p - tA B L p = (sby k).length ∧ ∀ j : Nat, j < (sby k).length → B (tA B L p + j) = (sby k).getD j 0) ⟨fun x => ⟨t, e, x⟩, fun x => x.2.2⟩] at this
      exact this
    · rw [if_neg e, bI_f (fun x => e x.2.1)]
  · have ck : cK (tK B L p) ≠ 1 := by
      unfold cK
      by_cases z0 : tK B L p = 0
      · rw [if_pos z0]; decide
      · rw [if_neg z0]
        by_cases z1 : tK B L p = 1
        · rw [if_pos z1]; decide
        · rw [if_neg z1]
          by_cases z2 : tK B L p = 2
          · rw [if_pos z2]; decide
          · rw [if_neg z2, if_neg t]; decide
    rw [if_neg ck, bI_f (fun x => t x.1)]
