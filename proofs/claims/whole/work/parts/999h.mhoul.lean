/-! A house read; the reference's loop. -/
theorem hsL_p {B : Int → Int} {L : Int} {s : Int × Int × Int} (o : SO B L s) (t : tK B L s.1 ≠ 0) (V : Int → Int) (n : (hsL B L s V).1.2.1 ≠ 1) : s.1 + 2 ≤ (hsL B L s V).1.1 := by
  have c := tE_b (B := B) o.1.1 o.1.2
  have d := c.2.2.2.1 (c.2.2.2.2 t)
  have o1 := so_step o t
  have e1 : (adv B L s).1 = tE B L s.1 := rfl
  have one' : ∀ {lo hi : Int}, (ens B L (num B L lo hi (adv B L s)).2).2.1 ≠ 1 → s.1 + 2 ≤ (ens B L (num B L lo hi (adv B L s)).2).1 := fun {lo hi} x => by
    have p2 := num_p (lo := lo) (hi := hi) o1
    have p3 := ens_p (so_num (lo := lo) (hi := hi) o1) x
    omega
  unfold hsL at n ⊢
  by_cases k : tK B L s.1 = 3
  · rw [if_pos k] at n ⊢
    by_cases w1 : tW B L s.1 = 11
    · rw [if_pos w1] at n ⊢; exact one' n
    rw [if_neg w1] at n ⊢
    by_cases w2 : tW B L s.1 = 12
    · rw [if_pos w2] at n ⊢
      have p2 := one_p (lo := 21) (hi := 23) o1
      have p3 := ens_p (so_one (lo := 21) (hi := 23) o1) n
      have e5 : (hsW B L s V).1 = ens B L (one B L 21 23 (adv B L s)).2 := rfl
      rw [e5]
      omega
    rw [if_neg w2] at n ⊢
    by_cases w3 : tW B L s.1 = 13
    · rw [if_pos w3] at n ⊢
      have p1 : (adv B L s).1 ≤ (lN1 B L s).2.1 := num_p o1
      have o2 : SO B L (lN1 B L s).2 := so_num o1
      have p2 : (lN1 B L s).2.1 ≤ (lN2 B L s).2.1 := one_p o2
      have o3 : SO B L (lN2 B L s).2 := so_one o2
      have p3 : (lN2 B L s).2.1 ≤ (lN3 B L s).2.1 := num_p o3
      have o4 : SO B L (lN3 B L s).2 := so_num o3
      have p4 := ens_p o4 n
      have e5 : (hsN B L s V).1 = ens B L (lN3 B L s).2 := rfl
      rw [e5]
      omega
    rw [if_neg w3] at n ⊢
    by_cases w4 : tW B L s.1 = 14
    · rw [if_pos w4] at n ⊢; exact one' n
    rw [if_neg w4] at n ⊢
    by_cases w5 : tW B L s.1 = 15
    · rw [if_pos w5] at n ⊢
      have p1 := rm3_p (a := V 3) (b := 8) o t
      have o2 := so_rm3 (a := V 3) (b := 8) o t
      have p2 : (rm3 B L (V 3) 8 s).1 ≤ (uN1 B L s V).2.1 := one_p o2
      have o3 : SO B L (uN1 B L s V).2 := so_one o2
      have p3 : (uN1 B L s V).2.1 ≤ (uN2 B L s V).2.1 ∧ SO B L (uN2 B L s V).2 := by
        unfold uN2
        by_cases y : (uN1 B L s V).1 = 4
        · rw [if_pos y]; exact ⟨num_p o3, so_num o3⟩
        · rw [if_neg y]; exact ⟨num_p o3, so_num o3⟩
      have p4 := ens_p p3.2 n
      have e5 : (hsR B L s V).1 = ens B L (uN2 B L s V).2 := rfl
      rw [e5]
      omega
    rw [if_neg w5] at n
    exact absurd brk_1 n
  · rw [if_neg k] at n; exact absurd brk_1 n
theorem m_hou {B : Int → Int} {L a : Int} : ∀ (n : Nat) (h : Hp) (s : Int × Int × Int) (V : Int → Int), MR h B L s → SO B L s → RowH h s V → (s.2.1 = 1 ∨ L - s.1 + 1 ≤ 2 * n) → ∃ h', P_Mo_text_130 124 1 a h = P_Mo_text_206 124 1 a h' ∧ Fr pMl h h' ∧ MR h' B L (hsI B L n (s, V)).1 ∧ RowH h' (hsI B L n (s, V)).1 (hsI B L n (s, V)).2 := by
  have stop : ∀ (h : Hp) (s : Int × Int × Int), MR h B L s → (tK B L s.1 = 0 ∨ s.2.1 = 1) → P_Mo_text_130 124 1 a h = P_Mo_text_206 124 1 a h := fun h s r g => by
    rw [E_Mo_text_130, if_pos (mro r), r.2.2.2]
    by_cases z : s.2.1 = 1
    · rw [if_pos z, if_neg (by decide), if_neg (by decide)]
    · have k0 : tK B L s.1 = 0 := g.resolve_right z
      rw [if_neg z, if_pos rfl, if_pos (mro r), r.1.2.2.2.1, k0, if_pos (show (if (0 : Int) = 5 then (4 : Int) else 0) = 0 by decide), if_neg (show ¬ (1 : Int) = 2 by decide)]
  intro n
  induction n with
  | zero =>
    intro h s V r o w m
    have z : s.2.1 = 1 := by have := o.1; omega
    exact ⟨h, stop h s r (Or.inr z), Fr.rf _ h, r, w⟩
  | succ n ih =>
    intro h s V r o w m
    have eI : hsI B L (n + 1) (s, V) = if tK B L s.1 = 0 ∨ s.2.1 = 1 then (s, V) else hsI B L n (hsL B L s V) := rfl
    rw [eI]
    by_cases g : tK B L s.1 = 0 ∨ s.2.1 = 1
    · rw [if_pos g]
      exact ⟨h, stop h s r g, Fr.rf _ h, r, w⟩
    · have t0 : tK B L s.1 ≠ 0 := fun x => g (Or.inl x)
      have f1 : s.2.1 ≠ 1 := fun x => g (Or.inr x)
      rw [if_neg g]
      obtain ⟨h1, g1, q1, r1, w1⟩ := n_hl r o f1 t0 w
      have oL := so_hsL o t0 V
      have nk : ¬ (if tK B L s.1 = 5 then 4 else tK B L s.1) = 0 := by
        by_cases y : tK B L s.1 = 5
        · rw [if_pos y]; decide
        · rw [if_neg y]; exact t0
      obtain ⟨h2, g2, q2, r2, w2⟩ := ih h1 (hsL B L s V).1 (hsL B L s V).2 r1 oL w1 (by
        by_cases z : (hsL B L s V).1.2.1 = 1
        · exact Or.inl z
        · have := hsL_p o t0 V z
          exact Or.inr (by omega))
      refine ⟨h2, ?_, q1.tr q2, r2, w2⟩
      rw [E_Mo_text_130, if_pos (mro r), r.2.2.2, if_neg f1, if_pos rfl, if_pos (mro r), r.1.2.2.2.1, if_neg nk, if_neg (show ¬ (1 : Int) = 0 by decide), if_pos rfl, if_pos (mro r), g1, bind_some']
      exact g2
