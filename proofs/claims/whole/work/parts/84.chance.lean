/-! chance on both sides. -/
abbrev zT3 : Type := Nat × (Int → Int) × (Int → Int)
def zRo (V F : Int → Int) (t : Int) (p : zT3) : zT3 := if F t < 0 then p else (p.1 + 1, up1 p.2.1 p.1 (V (9 + t)), up1 p.2.2 p.1 (F t))
def zR0 : zT3 := (0, fun _ => 0, fun _ => 0)
def zRw3 (V F : Int → Int) (n : Nat) : zT3 := itN (zRo V F) n 0 zR0
theorem zRw3_s (V F : Int → Int) (n : Nat) : zRw3 V F (n + 1) = zRo V F n (zRw3 V F n) := by
  unfold zRw3
  rw [itN_succ, Int.zero_add]
theorem zRw3_n (V F : Int → Int) : ∀ n : Nat, ((zRw3 V F n).1 : Int) = sg F gN (-1) n
  | 0 => rfl
  | n + 1 => by
    have ih := zRw3_n V F n
    rw [zRw3_s]
    show _ = sg F gN (-1) n + tmS F gN (-1) n
    unfold zRo tmS
    by_cases q : F n < 0
    · rw [if_pos q, if_pos (Or.inl q)]; omega
    · rw [if_neg q, if_neg (by omega), ← ih]
      show (((zRw3 V F n).1 + 1 : Nat) : Int) = _ + 1
      omega
theorem sgN_mono (F : Int → Int) : ∀ (m n : Nat), n ≤ m → 0 ≤ sg F gN (-1) n ∧ sg F gN (-1) n ≤ sg F gN (-1) m ∧ (sg F gN (-1) n = sg F gN (-1) m → ∀ s : Nat, n ≤ s → s < m → F s < 0)
  | 0, n, h => by
    rw [show n = 0 by omega]
    exact ⟨Int.le_refl _, Int.le_refl _, fun _ s _ h2 => by omega⟩
  | m + 1, n, h => by
    have st : sg F gN (-1) (m + 1) = sg F gN (-1) m + tmS F gN (-1) m := rfl
    have tb : tmS F gN (-1) m = 0 ∧ F m < 0 ∨ tmS F gN (-1) m = 1 ∧ ¬ F m < 0 := by
      unfold tmS
      by_cases q : F m < 0
      · rw [if_pos (Or.inl q)]; exact Or.inl ⟨rfl, q⟩
      · rw [if_neg (by omega)]; exact Or.inr ⟨rfl, q⟩
    by_cases z : n = m + 1
    · rw [z]
      have ih := sgN_mono F m m (Nat.le_refl _)
      exact ⟨by omega, Int.le_refl _, fun _ s h1 h2 => by omega⟩
    · have ih := sgN_mono F m n (by omega)
      refine ⟨ih.1, by omega, fun e s h1 h2 => ?_⟩
      by_cases y : s = m
      · rw [y]; omega
      · exact ih.2.2 (by omega) s h1 (by omega)
def pOr (b i : Int) : Prop := (b = 121 ∧ 2 ≤ i ∧ i ≤ 3) ∨ b = 122 ∨ b = 123
theorem pOr_Z (b i : Int) (q : pOr b i) : pZ b i := by unfold pOr at q; unfold pZ; omega
noncomputable def zCc (V F : Int → Int) : Int := zP (zRw3 V F 24).1 (zRw3 V F 24).2.1 (zRw3 V F 24).2.2 (sg F (gVD V F) (-1) 24) (zRw3 V F 24).1 0 0
theorem l_told {T : Int → Int} {k hh y : Int} {U F : Int → Int} (k0 : 0 ≤ k) (k1 : k < T 0) (f : Fok (catT T k) F) (n7 : sg F gN (-1) 24 ≤ 7) : ∀ (m t : Nat) (h : Hp), Inv h T → LK h (8 + 8 * k) hh y (catT T k) U → (∀ s, 0 ≤ s → s < 24 → mR h 113 s = F s) → OrH h (zRw3 (catT T k) F t).1 (zRw3 (catT T k) F t).2.1 (zRw3 (catT T k) F t).2.2 (sg F (gVD (catT T k) F) (-1) t) → t + m = catT T k 1 → ∃ h', P_Or_atLeastAsTold_12 121 99 t h = some (zCc (catT T k) F, h') ∧ Fr pOr h h' := by
  intro m
  -- at the end: the state of all 24, counted
  have fin : ∀ (t : Nat) (h : Hp), Inv h T → OrH h (zRw3 (catT T k) F t).1 (zRw3 (catT T k) F t).2.1 (zRw3 (catT T k) F t).2.2 (sg F (gVD (catT T k) F) (-1) t) → t ≤ 24 → (∀ s : Nat, t ≤ s → s < 24 → F s < 0) → C_Or_countFrom8 121 0 0 0 h = some (zCc (catT T k) F, h) := by
    intro t h w oh t1 rest
    have e1 : zRw3 (catT T k) F 24 = zRw3 (catT T k) F t := by
      unfold zRw3
      have := itN_add (zRo (catT T k) F) t (24 - t) 0 zR0
      rw [show t + (24 - t) = 24 by omega] at this
      rw [this]
      exact itN_idle _ _ _ (fun j j0 j1 => by
        unfold zRo
        rw [if_pos]
        have := rest j.toNat (by omega) (by omega)
        rw [show ((j.toNat : Nat) : Int) = j by omega] at this
        exact this)
    have e2 : sg F (gVD (catT T k) F) (-1) 24 = sg F (gVD (catT T k) F) (-1) t := by
      have : ∀ d : Nat, t + d ≤ 24 → sg F (gVD (catT T k) F) (-1) (t + d) = sg F (gVD (catT T k) F) (-1) t := by
        intro d
        induction d with
        | zero => intro _; rfl
        | succ d ih =>
          intro hd
          show sg F (gVD (catT T k) F) (-1) (t + d) + tmS F (gVD (catT T k) F) (-1) ((t + d : Nat) : Int) = _
          rw [ih (by omega)]
          unfold tmS
          rw [if_pos (Or.inl (rest (t + d) (by omega) (by omega))), Int.add_zero]
      have := this (24 - t) (by omega)
      rw [show t + (24 - t) = 24 by omega] at this
      exact this
    have nn := zRw3_n (catT T k) F t
    have mo := sgN_mono F 24 t t1
    have c := cf8 w oh (by omega) (Nat.zero_le _) 0 0
    rw [c]
    unfold zCc
    rw [e1, e2, Nat.sub_zero]
  induction m with
  | zero =>
    intro t h w l e oh ht
    have v := (ivC w k0 k1).2.1.2.1
    refine ⟨h, ?_, Fr.rf _ h⟩
    rw [E_Or_atLeastAsTold_12, if_pos (lkS l), lk0 l, if_pos (lkC l), lkc1 l, if_neg (by omega), fin t h w oh (by omega) (fun s s0 s1 => by have := (f s (by omega) (by omega)).2.2 (by omega); omega), bind_some']
  | succ m ih =>
    intro t h w l e oh ht
    have c := ivC w k0 k1
    have v := c.2.1.2.1
    have mm := ivOr w
    have nn := zRw3_n (catT T k) F t
    have mo := sgN_mono F 24 t (by omega)
    have ft := f t (by omega) (by omega)
    have s := w.1.2.2.2.2.2.1
    rw [E_Or_atLeastAsTold_12, if_pos (lkS l), lk0 l, if_pos (lkC l), lkc1 l, if_pos (show (t : Int) < catT T k 1 by omega), if_pos mm.1, oh.1]
    by_cases q7 : ((zRw3 (catT T k) F t).1 : Int) < 7
    · rw [if_pos q7, if_pos (lkS l), lk4 l, if_pos (lkA113 l (by omega) (by omega)), e t (by omega) (by omega), w32_id (x := (t : Int) + 1) (by omega) (by omega)]
      by_cases z : F t = -1
      · have er : zRw3 (catT T k) F (t + 1) = zRw3 (catT T k) F t := by rw [zRw3_s]; unfold zRo; rw [if_pos (by omega)]
        have eg : sg F (gVD (catT T k) F) (-1) (t + 1) = sg F (gVD (catT T k) F) (-1) t := by
          show _ + tmS F (gVD (catT T k) F) (-1) t = _
          unfold tmS; rw [if_pos (Or.inl (by omega)), Int.add_zero]
        rw [if_pos z]
        have i := ih (t + 1) h w l e (by rw [er, eg]; exact oh) (by omega)
        rw [show ((t + 1 : Nat) : Int) = (t : Int) + 1 by omega] at i
        exact i
      · have er : zRw3 (catT T k) F (t + 1) = ((zRw3 (catT T k) F t).1 + 1, up1 (zRw3 (catT T k) F t).2.1 (zRw3 (catT T k) F t).1 (catT T k (9 + t)), up1 (zRw3 (catT T k) F t).2.2 (zRw3 (catT T k) F t).1 (F t)) := by rw [zRw3_s]; unfold zRo; rw [if_neg (by omega)]
        have gbt := gb c.2.1 f (t := t) (by omega) (by omega) (by omega)
        have eg : sg F (gVD (catT T k) F) (-1) (t + 1) = sg F (gVD (catT T k) F) (-1) t + catT T k (9 + t) * F t := by
          show _ + tmS F (gVD (catT T k) F) (-1) t = _
          unfold tmS; rw [if_neg (by omega)]; rfl
        have sb := (sgbN c.2.1 f (-1) t (by omega)).2.2.2.2.1
        have sp : gVD (catT T k) F t = catT T k (9 + t) * F t := rfl
        rw [sp] at gbt
        generalize hst : zRw3 (catT T k) F t = st at oh nn er q7
        generalize hG : sg F (gVD (catT T k) F) (-1) t = G at oh eg sb
        have A1 : okS h 122 103 (st.1 : Int) = true := okS_t mm.2.2.2.1 (by decide) (by omega) (by omega)
        have A2 : okS h 123 103 (st.1 : Int) = true := okS_t mm.2.2.2.2.1 (by decide) (by omega) (by omega)
        have A3 : okA h 122 103 (st.1 : Int) = true := okA_t mm.2.2.2.1 (by omega) (by omega)
        have A4 : okA h 123 103 (st.1 : Int) = true := okA_t mm.2.2.2.2.1 (by omega) (by omega)
        have A5 : okA h 113 102 (t : Int) = true := lkA113 l (by omega) (by omega)
        have ff : Fr pOr h (mW (mW (mW (mW h 122 st.1 (catT T k (9 + t))) 123 st.1 (F t)) 121 3 (G + catT T k (9 + t) * F t)) 121 2 (st.1 + 1)) := (((Fr.W h _ (by unfold pOr; omega)).tr (Fr.W _ _ (by unfold pOr; omega))).tr (Fr.W _ _ (by unfold pOr; omega))).tr (Fr.W _ _ (by unfold pOr; omega))
        have w1 := w.of (ff.to pOr_Z)
        have l1 := l.fr ff (fun b i x => by unfold pOr at x; omega)
        obtain ⟨h2, g2, f2⟩ := ih (t + 1) _ w1 l1 (fun s s0 s1 => by rw [ff.2 113 s (by unfold pOr; omega)]; exact e s s0 s1) (by
          rw [er, eg]
          refine ⟨?_, ?_, fun i i0 i1 => ?_⟩
          · rw [mR_same]; show _ = ((st.1 + 1 : Nat) : Int); omega
          · rw [mR_ni (by omega), mR_same]
          · have i2 : i < ((st.1 + 1 : Nat) : Int) := i1
            rw [mR_ne (show (122 : Int) ≠ 121 by decide), mR_ne (show (122 : Int) ≠ 121 by decide), mR_ne (show (122 : Int) ≠ 123 by decide), mR_ne (show (123 : Int) ≠ 121 by decide), mR_ne (show (123 : Int) ≠ 121 by decide), mR_mW, mR_mW]
            dsimp only
            by_cases x : i = (st.1 : Int)
            · rw [x, up1_s, up1_s, if_pos ⟨rfl, rfl⟩, if_pos ⟨rfl, rfl⟩]; exact ⟨rfl, rfl⟩
            · rw [up1_n x, up1_n x, if_neg (fun y => x y.2), if_neg (fun y => x y.2), mR_ne (show (123 : Int) ≠ 122 by decide)]; exact oh.2.2 i i0 (by omega)) (by omega)
        refine ⟨h2, ?_, ff.tr f2⟩
        rw [show ((t + 1 : Nat) : Int) = (t : Int) + 1 by omega] at g2
        have r1 : ∀ b i, b ≠ 122 → mR (mW h 122 st.1 (catT T k (9 + t))) b i = mR h b i := fun b i q => mR_ne q
        have r2 : ∀ b i, b ≠ 122 → b ≠ 123 → mR (mW (mW h 122 st.1 (catT T k (9 + t))) 123 st.1 (F t)) b i = mR h b i := fun b i q p => by rw [mR_ne p, mR_ne q]
        have r3 : mR (mW (mW h 122 st.1 (catT T k (9 + t))) 123 st.1 (F t)) 122 st.1 = catT T k (9 + t) := by rw [mR_ne (by decide), mR_same]
        have r4 : mR (mW (mW (mW h 122 st.1 (catT T k (9 + t))) 123 st.1 (F t)) 121 3 (G + catT T k (9 + t) * F t)) 121 2 = st.1 := by rw [mR_ni (by decide), mR_ne (by decide), mR_ne (by decide)]; exact oh.1
        have e99 : ∀ i, mR (mW h 122 st.1 (catT T k (9 + t))) 99 i = mR h 99 i := fun i => mR_ne (by decide)
        rw [if_neg z, if_pos mm.1, if_pos mm.1, if_pos (lkS l), if_pos (lkC l), lkc6 l, if_pos (lkA4 l (by omega) (by omega)), mm.2.1, if_pos A1, hb_eq, lkv4 l (by omega) (by omega), okF_W, if_pos mm.1, okF_W, if_pos (lkS l), e99 4, lk4 l, okA_W, if_pos A5, r1 121 1 (by decide), r1 121 2 (by decide), mm.2.2.1, oh.1, okS_W, if_pos A2, hb_eq, r1 113 t (by decide), e t (by omega) (by omega), okF_W, okF_W, if_pos mm.1, if_pos mm.1, if_pos mm.1, r2 121 0 (by decide) (by decide), r2 121 1 (by decide) (by decide), r2 121 2 (by decide) (by decide), r2 121 3 (by decide) (by decide), mm.2.1, mm.2.2.1, oh.1, oh.2.1, okA_W, okA_W, if_pos A3, if_pos mm.1, if_pos mm.1, okA_W, okA_W, if_pos A4, if_pos mm.1, r3, mR_same, w64_id (x := catT T k (9 + t) * F t) (by omega) (by omega), w64_id (x := G + catT T k (9 + t) * F t) (by omega) (by omega), hb_eq, okF_W, okF_W, okF_W, if_pos mm.1, if_pos mm.1, r4, w32_id (x := (st.1 : Int) + 1) (by omega) (by omega), hb_eq]
        first
          | exact g2
          | (rw [if_pos mm.1]; exact g2)
    · refine ⟨h, ?_, Fr.rf _ h⟩
      rw [if_neg q7, fin t h w oh (by omega) (mo.2.2 (by omega)), bind_some']
noncomputable def aChance (T : Int → Int) (k j y : Int) : Int := cI (okL T k j y ∧ 2 ≤ sg (frsA T k j y) gN (-1) 24 ∧ sg (frsA T k j y) gN (-1) 24 ≤ 7) (zCc (catT T k) (frsA T k j y)) (-1)
theorem q_chance {h : Hp} {T : Int → Int} (w : Inv h T) (k j y : Int) : ∃ h', C_LS_chance 1 k j y h = some (aChance T k j y, h') ∧ Fr pZ h h' := by
  have n := ivn w
  rw [E_LS_chance, if_pos (iv1 w)]
  unfold aChance
  by_cases q2 : okL T k j y
  · obtain ⟨h1, g1, g2, g3⟩ := s_Look w q2
    have w1 := w.of (g2.to pL_Z)
    have v := (ivC w q2.1.1 q2.1.2).2.1.2.1
    have u : SU h1 (catT T k) (frsA T k j y) := g3.2.1
    have m1 := ivOr w1
    rw [g1, bind_some', if_neg n10, if_pos (iv1 w1), iv16 w1, if_pos (ivS w1), u.2.2.1, if_pos (iv1 w1), if_pos (ivS w1)]
    by_cases c1 : sg (frsA T k j y) gN (-1) 24 < 2
    · exact ⟨h1, by rw [if_pos c1, cI_f (fun z => by omega)], g2.to pL_Z⟩
    · rw [if_neg c1]
      by_cases c2 : 7 < sg (frsA T k j y) gN (-1) 24
      · exact ⟨h1, by rw [if_pos c2, cI_f (fun z => by omega)], g2.to pL_Z⟩
      · have ff : Fr pOr h1 (mW (mW h1 121 2 0) 121 3 0) := (Fr.W h1 _ (by unfold pOr; omega)).tr (Fr.W _ _ (by unfold pOr; omega))
        have w2 := w1.of (ff.to pOr_Z)
        have l2 := g3.1.fr ff (fun b i x => by unfold pOr at x; omega)
        obtain ⟨h2, p1, p2⟩ := l_told (y := y) q2.1.1 q2.1.2 u.1 (by omega) (catT T k 1).toNat 0 _ w2 l2 (fun s s0 s1 => by rw [ff.2 113 s (by unfold pOr; omega)]; exact u.2.1 s s0 s1) ⟨by rw [mR_ni (by decide), mR_same]; rfl, by rw [mR_same]; rfl, fun i i0 i1 => by have : i < ((0 : Nat) : Int) := i1; omega⟩ (by omega)
        refine ⟨h2, ?_, ((g2.to pL_Z).tr (ff.to pOr_Z)).tr (p2.to pOr_Z)⟩
        have z0 : ((0 : Nat) : Int) = 0 := rfl
        rw [z0] at p1
        rw [if_neg c2, if_pos (iv1 w1), if_pos (iv1 w1), m1.2.2.2.2.2, if_pos m1.1, E_Or_atLeastAsTold, if_pos m1.1, hb_eq, okF_W, if_pos m1.1, hb_eq, p1, bind_some', cI_t ⟨q2, by omega, by omega⟩]
  · exact ⟨h, by rw [s_LookN w q2, bind_some', if_pos rfl, cI_f (fun z => q2 z.1)], Fr.rf _ h⟩
def pR2 (b _ : Int) : Prop := b = 132 ∨ b = 133
theorem pR2_Z (b i : Int) (q : pR2 b i) : pZ b i := by unfold pR2 at q; unfold pZ; omega
theorem l_m61 {T : Int → Int} {k : Int} {F : Int → Int} (k0 : 0 ≤ k) (k1 : k < T 0) (n7 : sg F gN (-1) 24 ≤ 7) : ∀ (m t : Nat) (h : Hp), Inv h T → (∀ s, 0 ≤ s → s < 24 → mR h 129 s = F s) → (∀ i : Int, 0 ≤ i → i < (zRw3 (catT T k) F t).1 → mR h 132 i = (zRw3 (catT T k) F t).2.1 i ∧ mR h 133 i = (zRw3 (catT T k) F t).2.2 i) → t + m = 24 → ∃ h', P_Mo_chance_61 124 (520 + 330 * k) (zRw3 (catT T k) F t).1 t h = P_Mo_chance_132 124 (zRw3 (catT T k) F 24).1 1 2 h' ∧ Fr pR2 h h' ∧ Inv h' T ∧ (∀ i : Int, 0 ≤ i → i < (zRw3 (catT T k) F 24).1 → mR h' 132 i = (zRw3 (catT T k) F 24).2.1 i ∧ mR h' 133 i = (zRw3 (catT T k) F 24).2.2 i) := by
  intro m
  induction m with
  | zero =>
    intro t h w e oh ht
    have tt : t = 24 := by omega
    refine ⟨h, ?_, Fr.rf _ h, w, ?_⟩
    · rw [E_Mo_chance_61, if_neg (by omega), tt]
    · rw [tt] at oh; exact oh
  | succ m ih =>
    intro t h w e oh ht
    have nn := ivn w
    have mm := m132 w
    have m3 := m133 w
    have nz := zRw3_n (catT T k) F t
    have mo := sgN_mono F 24 t (by omega)
    have e9 : T (520 + 330 * k + 9 + t) = catT T k (9 + t) := by rw [Int.add_assoc]; exact catE (by omega) (by omega)
    rw [E_Mo_chance_61, if_pos (show (t : Int) < 24 by omega), if_pos (ivM w), mm.2.2.1, if_pos (okA_t mm.2.2.2 (by omega) (by omega)), e t (by omega) (by omega), w32_id (x := (t : Int) + 1) (by omega) (by omega)]
    by_cases z : F t < 0
    · have er : zRw3 (catT T k) F (t + 1) = zRw3 (catT T k) F t := by rw [zRw3_s]; unfold zRo; rw [if_pos z]
      rw [if_pos z]
      have i := ih (t + 1) h w e (by rw [er]; exact oh) (by omega)
      rw [er, show ((t + 1 : Nat) : Int) = (t : Int) + 1 by omega] at i
      exact i
    · have er : zRw3 (catT T k) F (t + 1) = ((zRw3 (catT T k) F t).1 + 1, up1 (zRw3 (catT T k) F t).2.1 (zRw3 (catT T k) F t).1 (catT T k (9 + t)), up1 (zRw3 (catT T k) F t).2.2 (zRw3 (catT T k) F t).1 (F t)) := by rw [zRw3_s]; unfold zRo; rw [if_neg z]
      have ih1 := ih (t + 1)
      rw [er] at ih1
      generalize hst : zRw3 (catT T k) F t = st at oh nz ih1
      have ff : Fr pR2 h (mW (mW h 132 st.1 (catT T k (9 + t))) 133 st.1 (F t)) := (Fr.W h _ (Or.inl rfl)).tr (Fr.W _ _ (Or.inr rfl))
      have w1 := w.of (ff.to pR2_Z)
      obtain ⟨h2, g2, f2, w2, e2⟩ := ih1 _ w1 (fun s s0 s1 => by rw [ff.2 129 s (by unfold pR2; omega)]; exact e s s0 s1) (fun i i0 i1 => by
        have i2 : i < ((st.1 + 1 : Nat) : Int) := i1
        rw [mR_ne (show (132 : Int) ≠ 133 by decide), mR_mW, mR_mW]
        dsimp only
        by_cases x : i = (st.1 : Int)
        · rw [x, up1_s, up1_s, if_pos ⟨rfl, rfl⟩, if_pos ⟨rfl, rfl⟩]; exact ⟨rfl, rfl⟩
        · rw [up1_n x, up1_n x, if_neg (fun y => x y.2), if_neg (fun y => x y.2), mR_ne (show (133 : Int) ≠ 132 by decide)]; exact oh i i0 (by omega)) (by omega)
      refine ⟨h2, ?_, ff.tr f2, w2, e2⟩
      have wa : Inv (mW h 132 st.1 (catT T k (9 + t))) T := w.of ((Fr.W h _ (Or.inl rfl) : Fr pR2 h _).to pR2_Z)
      have ma := m132 wa
      have mb := m133 wa
      have ea : mR (mW h 132 st.1 (catT T k (9 + t))) 129 t = F t := by rw [mR_ne (by decide)]; exact e t (by omega) (by omega)
      rw [if_neg z, if_pos (ivM w), if_pos (ivM w), ivM0 w, w32_id (x := 520 + 330 * k + 9) (by omega) (by omega), w32_id (x := 520 + 330 * k + 9 + t) (by omega) (by omega), if_pos (ivMA w (by omega) (by omega)), mm.1, if_pos (okS_t mm.2.1 (by decide) (by omega) (by omega)), hb_eq, ivMT w (by omega) (by omega), e9, if_pos (ivM wa), if_pos (ivM wa), ma.2.2.1, if_pos (okA_t ma.2.2.2 (by omega) (by omega)), mb.1, if_pos (okS_t mb.2 (by decide) (by omega) (by omega)), hb_eq, ea, w32_id (x := (st.1 : Int) + 1) (by omega) (by omega)]
      rw [show ((t + 1 : Nat) : Int) = (t : Int) + 1 by omega] at g2
      exact g2
theorem r_chance {h : Hp} {T : Int → Int} (w : Inv h T) (k j y : Int) : ∃ h', C_Mo_chance 124 k j y h = some (aChance T k j y, h') ∧ Fr pZ h h' := by
  have n := ivn w
  rw [E_Mo_chance, if_pos (ivM w), m_areAll w, bind_some']
  unfold aChance
  by_cases q2 : okL T k j y
  · have k1 := q2.1
    have j1 := q2.2.1
    obtain ⟨h1, g1, g2, mk1, u1, g3, w1⟩ := r_fars w q2
    obtain ⟨h2, p1, p2, p3⟩ := m_sums mk1 u1 (-1)
    have w2 := w1.of ((p2.to pN_M).to pM_Z)
    have u2 := u1.of p2
    rw [bI_t q2, if_neg n10, if_pos (ivM w), m_catAt k1.1 (by omega), bind_some', if_pos (ivM w), m_houAt j1.1 (by omega), bind_some', if_pos (ivM w), g1, bind_some', if_pos (ivM w1), p1, bind_some', if_pos (ivM w2), p3.1, m_isIn, bind_some']
    by_cases c1 : 2 ≤ sg (frsA T k j y) gN (-1) 24 ∧ sg (frsA T k j y) gN (-1) 24 ≤ 7
    · obtain ⟨h3, r1, r2, w3, r3⟩ := l_m61 (F := frsA T k j y) k1.1 k1.2 c1.2 24 0 h2 w2 u2.2 (fun i i0 i1 => by have : i < ((0 : Nat) : Int) := i1; omega) (by omega)
      have nz := zRw3_n (catT T k) (frsA T k j y) 24
      have l3 := l_132 w3 (n := (zRw3 (catT T k) (frsA T k j y) 24).1) (a := (zRw3 (catT T k) (frsA T k j y) 24).2.1) (b := (zRw3 (catT T k) (frsA T k j y) 24).2.2) (G := sg (frsA T k j y) (gVD (catT T k) (frsA T k j y)) (-1) 24) ⟨by rw [r2.2 124 17 (by unfold pR2; omega)]; exact p3.2.2.2.2.1, r3⟩ (by omega) ((zRw3 (catT T k) (frsA T k j y) 24).1 - 1) 1 (by omega)
      refine ⟨h3, ?_, ((g2.tr (p2.to pN_M)).to pM_Z).tr (r2.to pR2_Z)⟩
      rw [bI_t c1, if_neg n10, cI_t ⟨q2, c1⟩]
      have r1' : P_Mo_chance_61 124 (520 + 330 * k) 0 0 h2 = P_Mo_chance_132 124 (zRw3 (catT T k) (frsA T k j y) 24).1 1 2 h3 := r1
      dsimp only
      rw [r1']
      exact l3
    · exact ⟨h2, by rw [bI_f c1, if_pos rfl, cI_f (fun z => c1 z.2)], (g2.tr (p2.to pN_M)).to pM_Z⟩
  · exact ⟨h, by rw [bI_f q2, if_pos rfl, cI_f (fun z => q2 z.1)], Fr.rf _ h⟩
