/-! A catalogue read; the reference's loop. -/
def VB (V : Int → Int) : Prop := (0 ≤ V 0 ∧ V 0 ≤ 6) ∧ (0 ≤ V 1 ∧ V 1 ≤ 24) ∧ (0 ≤ V 2 ∧ V 2 ≤ 4)
theorem vb_add {V : Int → Int} {c off cap y : Int} (v : VB V) (hc : (c = 0 ∧ cap = 6) ∨ (c = 1 ∧ cap = 24) ∨ (c = 2 ∧ cap = 4)) (l : V c < cap) (o3 : 3 ≤ off) : VB (up1 (up1 V (off + V c) y) c (V c + 1)) := by
  obtain ⟨v0, v1, v2⟩ := v
  rcases hc with ⟨z, q⟩ | ⟨z, q⟩ | ⟨z, q⟩
  · subst z; subst q
    unfold VB
    have ea : up1 (up1 V (off + V 0) y) 0 (V 0 + 1) 1 = V 1 := by rw [up1_n (by decide), up1_n (by omega)]
    have eb : up1 (up1 V (off + V 0) y) 0 (V 0 + 1) 2 = V 2 := by rw [up1_n (by decide), up1_n (by omega)]
    rw [up1_s, ea, eb]
    omega
  · subst z; subst q
    unfold VB
    have ea : up1 (up1 V (off + V 1) y) 1 (V 1 + 1) 0 = V 0 := by rw [up1_n (by decide), up1_n (by omega)]
    have eb : up1 (up1 V (off + V 1) y) 1 (V 1 + 1) 2 = V 2 := by rw [up1_n (by decide), up1_n (by omega)]
    rw [up1_s, ea, eb]
    omega
  · subst z; subst q
    unfold VB
    have ea : up1 (up1 V (off + V 2) y) 2 (V 2 + 1) 0 = V 0 := by rw [up1_n (by decide), up1_n (by omega)]
    have eb : up1 (up1 V (off + V 2) y) 2 (V 2 + 1) 1 = V 1 := by rw [up1_n (by decide), up1_n (by omega)]
    rw [up1_s, ea, eb]
    omega
theorem vb_if {V W : Int → Int} {p : Prop} [Decidable p] (v : VB V) (w : p → VB W) : VB (if p then W else V) := by
  by_cases z : p
  · rw [if_pos z]; exact w z
  · rw [if_neg z]; exact v
theorem ctL_v {B : Int → Int} {L : Int} {s : Int × Int × Int} {V : Int → Int} (v : VB V) : VB (ctL B L s V).2 := by
  unfold ctL
  by_cases k : tK B L s.1 = 3
  · rw [if_pos k]
    by_cases w1 : tW B L s.1 = 1
    · rw [if_pos w1]; exact vb_if v (fun z => vb_add v (Or.inl ⟨rfl, rfl⟩) (rm3_0 (num_0 (ens_0 z)).1).2 (by decide))
    rw [if_neg w1]
    by_cases w2 : tW B L s.1 = 2
    · rw [if_pos w2]; exact vb_if v (fun z => vb_add v (Or.inl ⟨rfl, rfl⟩) (rm3_0 (num_0 (ens_0 z)).1).2 (by decide))
    rw [if_neg w2]
    by_cases w3 : tW B L s.1 = 3
    · rw [if_pos w3]; exact vb_if v (fun z => vb_add v (Or.inr (Or.inl ⟨rfl, rfl⟩)) (rm3_0 (num_0 (ens_0 z)).1).2 (by decide))
    rw [if_neg w3]
    by_cases w4 : tW B L s.1 = 4
    · rw [if_pos w4]; exact vb_if v (fun z => vb_add v (Or.inr (Or.inl ⟨rfl, rfl⟩)) (rm3_0 (num_0 (ens_0 z)).1).2 (by decide))
    rw [if_neg w4]
    by_cases w5 : tW B L s.1 = 5
    · rw [if_pos w5]; exact vb_if v (fun z => vb_add v (Or.inr (Or.inr ⟨rfl, rfl⟩)) (rm3_0 (num_0 (ens_0 z)).1).2 (by decide))
    rw [if_neg w5]
    by_cases w6 : tW B L s.1 = 6
    · rw [if_pos w6]
      refine vb_if v (fun z => ?_)
      have a4 := num_0 (ens_0 z)
      have a3 := num_0 a4.1
      have a2 := num_0 a3.1
      have a1 := num_0 a2.1
      have b1 : 0 ≤ (eN1 B L s V).1 := a1.2.1
      have b2 : 0 ≤ (eN2 B L s V).1 := a2.2.1
      have ev : ∀ d, d ≤ 2 → tEnter V (eN1 B L s V).1 (eN2 B L s V).1 (eN3 B L s V).1 (eN4 B L s V).1 d = V d := fun d hd => by
        unfold tEnter
        rw [up1_n (by omega), up1_n (by omega)]
      unfold VB
      rw [ev 0 (by decide), ev 1 (by decide), ev 2 (by decide)]
      exact v
    rw [if_neg w6]
    exact v
  · rw [if_neg k]; exact v
theorem m_cat {B : Int → Int} {L a : Int} : ∀ (n : Nat) (h : Hp) (s : Int × Int × Int) (V : Int → Int), MR h B L s → SO B L s → Row h s V → VB V → (s.2.1 = 1 ∨ L - s.1 + 1 ≤ 2 * n) → ∃ h', P_Mo_text_130 124 0 a h = P_Mo_text_206 124 0 a h' ∧ Fr pMl h h' ∧ MR h' B L (ctI B L n (s, V)).1 ∧ Row h' (ctI B L n (s, V)).1 (ctI B L n (s, V)).2 ∧ SO B L (ctI B L n (s, V)).1 := by
  have stop : ∀ (h : Hp) (s : Int × Int × Int), MR h B L s → (tK B L s.1 = 0 ∨ s.2.1 = 1) → P_Mo_text_130 124 0 a h = P_Mo_text_206 124 0 a h := fun h s r g => by
    rw [E_Mo_text_130, if_pos (mro r), r.2.2.2]
    by_cases z : s.2.1 = 1
    · rw [if_pos z, if_neg (by decide), if_neg (by decide)]
    · have k0 : tK B L s.1 = 0 := g.resolve_right z
      rw [if_neg z, if_pos rfl, if_pos (mro r), r.1.2.2.2.1, k0, if_pos (show (if (0 : Int) = 5 then (4 : Int) else 0) = 0 by decide), if_neg (show ¬ (0 : Int) = 2 by decide)]
  intro n
  induction n with
  | zero =>
    intro h s V r o w v m
    have z : s.2.1 = 1 := by have := o.1; omega
    exact ⟨h, stop h s r (Or.inr z), Fr.rf _ h, r, w, o⟩
  | succ n ih =>
    intro h s V r o w v m
    show ∃ h', _ ∧ Fr pMl h h' ∧ MR h' B L (if tK B L s.1 = 0 ∨ s.2.1 = 1 then (s, V) else ctI B L n (ctL B L s V)).1 ∧ Row h' (if tK B L s.1 = 0 ∨ s.2.1 = 1 then (s, V) else ctI B L n (ctL B L s V)).1 (if tK B L s.1 = 0 ∨ s.2.1 = 1 then (s, V) else ctI B L n (ctL B L s V)).2 ∧ SO B L (if tK B L s.1 = 0 ∨ s.2.1 = 1 then (s, V) else ctI B L n (ctL B L s V)).1
    by_cases g : tK B L s.1 = 0 ∨ s.2.1 = 1
    · rw [if_pos g]
      exact ⟨h, stop h s r g, Fr.rf _ h, r, w, o⟩
    · have t0 : tK B L s.1 ≠ 0 := fun x => g (Or.inl x)
      have f1 : s.2.1 ≠ 1 := fun x => g (Or.inr x)
      rw [if_neg g]
      obtain ⟨h1, g1, q1, r1, w1⟩ := m_cl r o f1 t0 w ⟨v.1.2, v.2.1.2⟩
      have oL := so_ctL o t0 V
      have nk : ¬ (if tK B L s.1 = 5 then 4 else tK B L s.1) = 0 := by
        by_cases y : tK B L s.1 = 5
        · rw [if_pos y]; decide
        · rw [if_neg y]; exact t0
      obtain ⟨h2, g2, q2, r2, w2, o2⟩ := ih h1 (ctL B L s V).1 (ctL B L s V).2 r1 oL w1 (ctL_v v) (by
        by_cases z : (ctL B L s V).1.2.1 = 1
        · exact Or.inl z
        · have := ctL_p o t0 V z
          exact Or.inr (by omega))
      refine ⟨h2, ?_, q1.tr q2, r2, w2, o2⟩
      rw [E_Mo_text_130, if_pos (mro r), r.2.2.2, if_neg f1, if_pos rfl, if_pos (mro r), r.1.2.2.2.1, if_neg nk, if_pos rfl, if_pos (mro r), g1, bind_some']
      exact g2
