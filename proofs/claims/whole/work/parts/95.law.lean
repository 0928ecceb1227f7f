/-! The law's loop. -/
def Scr (h : Hp) (s L : Int) (v : Int → Int) : Prop := s ≤ 0 ∧ (mK h s = 102 ∧ mL h s = L) ∧ ∀ j, 0 ≤ j → j < L → mR h s j = v j ∧ in32 (v j)
theorem Scr.of {h h' : Hp} {s L : Int} {v : Int → Int} (c : Scr h s L v) (k : Kp h h') : Scr h' s L v := by
  obtain ⟨c1, c2, c3⟩ := c
  have e := k.1 s c1
  exact ⟨c1, by rw [e.1, e.2.1]; exact c2, fun j j0 j1 => by rw [e.2.2 j]; exact c3 j j0 j1⟩
theorem scA {h : Hp} {s L i : Int} {v : Int → Int} (c : Scr h s L v) (i0 : 0 ≤ i) (i1 : i + 6 ≤ L) (L1 : L ≤ 2147483647) : (okA h s 102 (w32 (i + 1)) = true ∧ okA h s 102 (w32 (i + 2)) = true ∧ okA h s 102 (w32 (i + 3)) = true ∧ okA h s 102 (w32 (i + 4)) = true ∧ okA h s 102 (w32 (i + 5)) = true) ∧ (mR h s (w32 (i + 1)) = v (i + 1) ∧ mR h s (w32 (i + 2)) = v (i + 2) ∧ mR h s (w32 (i + 3)) = v (i + 3) ∧ mR h s (w32 (i + 4)) = v (i + 4) ∧ mR h s (w32 (i + 5)) = v (i + 5)) := by
  rw [w32_id (x := i + 1) (by omega) (by omega), w32_id (x := i + 2) (by omega) (by omega), w32_id (x := i + 3) (by omega) (by omega), w32_id (x := i + 4) (by omega) (by omega), w32_id (x := i + 5) (by omega) (by omega)]
  exact ⟨⟨okA_t c.2.1 (by omega) (by omega), okA_t c.2.1 (by omega) (by omega), okA_t c.2.1 (by omega) (by omega), okA_t c.2.1 (by omega) (by omega), okA_t c.2.1 (by omega) (by omega)⟩, (c.2.2 _ (by omega) (by omega)).1, (c.2.2 _ (by omega) (by omega)).1, (c.2.2 _ (by omega) (by omega)).1, (c.2.2 _ (by omega) (by omega)).1, (c.2.2 _ (by omega) (by omega)).1⟩
def TxH (St : Hp → Prop) : Prop := ∀ h, Al h → St h → ∀ a b, in32 a → in32 b → Bo h (C_LS_text 1 a b) (C_Mo_text 124 a b)
theorem law_st {St : Hp → Prop} (hx : TxH St) {h : Hp} {s L i : Int} {v : Int → Int} (w : Al h) (hs : St h) (c : Scr h s L v) (i0 : 0 ≤ i) (i1 : i + 6 ≤ L) (L1 : L ≤ 2147483647) : ∃ h', P_La_law_18 s 1 124 i h = P_La_law_18 s 1 124 (i + 6) h' ∧ Al h' ∧ Kp h h' := by
  obtain ⟨⟨A1, A2, A3, A4, A5⟩, R1, R2, R3, R4, R5⟩ := scA c i0 i1 L1
  have o1 : okF h 1 11 = true := iv1 w.1.choose_spec
  have o124 : mK h 124 = 12 := of_decide_eq_true (ivM w.1.choose_spec)
  have oY : okY h s = true := decide_eq_true (by rw [c.2.1.1]; omega)
  have e25 : ∀ h', P_La_law_2520 s 1 124 i h' = P_La_law_18 s 1 124 (i + 6) h' := fun h' => by rw [E_La_law_2520, w32_id (by omega) (by omega)]
  have b32 := fun j j0 j1 => (c.2.2 j j0 j1).2
  rw [E_La_law_18, if_pos oY, c.2.1.2, w32_id (x := L - 6) (by omega) (by omega), if_neg (show ¬ L - 6 < i by omega), if_pos (okA_t c.2.1 i0 (by omega)), (c.2.2 i i0 (by omega)).1]
  generalize i_and (v i) 63 = op
  by_cases q0 : op = 0
  · rw [if_pos q0]
    obtain ⟨a, h1, h2, g1, g2, al, k1, k2⟩ := b_feed w (v (i + 1)) (v (i + 2)) (v (i + 3)) (v (i + 4)) (v (i + 5))
    obtain ⟨⟨B1, B2, B3, B4, B5⟩, S1, S2, S3, S4, S5⟩ := scA (c.of k1) i0 i1 L1
    have o2 : okF h1 124 12 = true := okF_t (by rw [k1.2.2]; exact o124)
    refine ⟨h2, ?_, al, k1.tr k2⟩
    simp only [A1, A2, A3, A4, A5, R1, R2, R3, R4, R5, o1, ↓reduceIte]
    rw [g1, bind_some']
    simp only [B1, B2, B3, B4, B5, S1, S2, S3, S4, S5, o2, ↓reduceIte]
    rw [g2, bind_some']
    dsimp only
    rw [if_pos rfl, e25]
  rw [if_neg q0]
  by_cases q1 : op = 1
  · rw [if_pos q1]
    obtain ⟨a, h1, h2, g1, g2, al, k1, k2⟩ := b_end w (v (i + 1))
    obtain ⟨⟨B1, B2, B3, B4, B5⟩, S1, S2, S3, S4, S5⟩ := scA (c.of k1) i0 i1 L1
    have o2 : okF h1 124 12 = true := okF_t (by rw [k1.2.2]; exact o124)
    refine ⟨h2, ?_, al, k1.tr k2⟩
    simp only [A1, A2, A3, A4, A5, R1, R2, R3, R4, R5, o1, ↓reduceIte]
    rw [g1, bind_some']
    simp only [B1, B2, B3, B4, B5, S1, S2, S3, S4, S5, o2, ↓reduceIte]
    rw [g2, bind_some']
    dsimp only
    rw [if_pos rfl, e25]
  rw [if_neg q1]
  by_cases q2 : op = 2
  · rw [if_pos q2]
    obtain ⟨a, h1, h2, g1, g2, al, k1, k2⟩ := hx h w hs (v (i + 1)) (v (i + 2)) (b32 _ (by omega) (by omega)) (b32 _ (by omega) (by omega))
    obtain ⟨⟨B1, B2, B3, B4, B5⟩, S1, S2, S3, S4, S5⟩ := scA (c.of k1) i0 i1 L1
    have o2 : okF h1 124 12 = true := okF_t (by rw [k1.2.2]; exact o124)
    refine ⟨h2, ?_, al, k1.tr k2⟩
    simp only [A1, A2, A3, A4, A5, R1, R2, R3, R4, R5, o1, ↓reduceIte]
    rw [g1, bind_some']
    simp only [B1, B2, B3, B4, B5, S1, S2, S3, S4, S5, o2, ↓reduceIte]
    rw [g2, bind_some']
    dsimp only
    rw [if_pos rfl, e25]
  rw [if_neg q2]
  by_cases q3 : op = 3
  · rw [if_pos q3]
    obtain ⟨a, h1, h2, g1, g2, al, k1, k2⟩ := b_fault w (v (i + 1))
    obtain ⟨⟨B1, B2, B3, B4, B5⟩, S1, S2, S3, S4, S5⟩ := scA (c.of k1) i0 i1 L1
    have o2 : okF h1 124 12 = true := okF_t (by rw [k1.2.2]; exact o124)
    refine ⟨h2, ?_, al, k1.tr k2⟩
    simp only [A1, A2, A3, A4, A5, R1, R2, R3, R4, R5, o1, ↓reduceIte]
    rw [g1, bind_some']
    simp only [B1, B2, B3, B4, B5, S1, S2, S3, S4, S5, o2, ↓reduceIte]
    rw [g2, bind_some']
    dsimp only
    rw [if_pos rfl, e25]
  rw [if_neg q3]
  by_cases q4 : op = 4
  · rw [if_pos q4]
    obtain ⟨a, h1, h2, g1, g2, al, k1, k2⟩ := b_about w (v (i + 1)) (v (i + 2)) (b32 _ (by omega) (by omega))
    obtain ⟨⟨B1, B2, B3, B4, B5⟩, S1, S2, S3, S4, S5⟩ := scA (c.of k1) i0 i1 L1
    have o2 : okF h1 124 12 = true := okF_t (by rw [k1.2.2]; exact o124)
    refine ⟨h2, ?_, al, k1.tr k2⟩
    simp only [A1, A2, A3, A4, A5, R1, R2, R3, R4, R5, o1, ↓reduceIte]
    rw [g1, bind_some']
    simp only [B1, B2, B3, B4, B5, S1, S2, S3, S4, S5, o2, ↓reduceIte]
    rw [g2, bind_some']
    dsimp only
    rw [if_pos rfl, e25]
  rw [if_neg q4]
  by_cases q5 : op = 5
  · rw [if_pos q5]
    obtain ⟨a, h1, h2, g1, g2, al, k1, k2⟩ := b_speed w (v (i + 1)) (v (i + 2))
    obtain ⟨⟨B1, B2, B3, B4, B5⟩, S1, S2, S3, S4, S5⟩ := scA (c.of k1) i0 i1 L1
    have o2 : okF h1 124 12 = true := okF_t (by rw [k1.2.2]; exact o124)
    refine ⟨h2, ?_, al, k1.tr k2⟩
    simp only [A1, A2, A3, A4, A5, R1, R2, R3, R4, R5, o1, ↓reduceIte]
    rw [g1, bind_some']
    simp only [B1, B2, B3, B4, B5, S1, S2, S3, S4, S5, o2, ↓reduceIte]
    rw [g2, bind_some']
    dsimp only
    rw [if_pos rfl, e25]
  rw [if_neg q5]
  by_cases q6 : op = 6
  · rw [if_pos q6]
    by_cases z : v (i + 4) = 0
    · obtain ⟨a, h1, h2, g1, g2, al, k1, k2⟩ := b_entry w (v (i + 1)) (v (i + 2)) (v (i + 3)) 0
      obtain ⟨⟨B1, B2, B3, B4, B5⟩, S1, S2, S3, S4, S5⟩ := scA (c.of k1) i0 i1 L1
      have o2 : okF h1 124 12 = true := okF_t (by rw [k1.2.2]; exact o124)
      refine ⟨h2, ?_, al, k1.tr k2⟩
      simp only [A1, A2, A3, A4, A5, R1, R2, R3, R4, R5, o1, z, ↓reduceIte]
      rw [g1, bind_some']
      simp only [B1, B2, B3, B4, B5, S1, S2, S3, S4, S5, o2, z, ↓reduceIte]
      rw [g2, bind_some']
      dsimp only
      rw [if_pos rfl, e25]
    · obtain ⟨a, h1, h2, g1, g2, al, k1, k2⟩ := b_entry w (v (i + 1)) (v (i + 2)) (v (i + 3)) 1
      obtain ⟨⟨B1, B2, B3, B4, B5⟩, S1, S2, S3, S4, S5⟩ := scA (c.of k1) i0 i1 L1
      have o2 : okF h1 124 12 = true := okF_t (by rw [k1.2.2]; exact o124)
      refine ⟨h2, ?_, al, k1.tr k2⟩
      simp only [A1, A2, A3, A4, A5, R1, R2, R3, R4, R5, o1, z, ↓reduceIte]
      rw [g1, bind_some']
      simp only [B1, B2, B3, B4, B5, S1, S2, S3, S4, S5, o2, z, ↓reduceIte]
      rw [g2, bind_some']
      dsimp only
      rw [if_pos rfl, e25]
  rw [if_neg q6]
  by_cases q7 : op = 7
  · rw [if_pos q7]
    obtain ⟨a, h1, h2, g1, g2, al, k1, k2⟩ := b_has w (v (i + 1)) (v (i + 2)) (v (i + 3)) (v (i + 4)) (v (i + 5))
    obtain ⟨⟨B1, B2, B3, B4, B5⟩, S1, S2, S3, S4, S5⟩ := scA (c.of k1) i0 i1 L1
    have o2 : okF h1 124 12 = true := okF_t (by rw [k1.2.2]; exact o124)
    refine ⟨h2, ?_, al, k1.tr k2⟩
    simp only [A1, A2, A3, A4, A5, R1, R2, R3, R4, R5, o1, ↓reduceIte]
    rw [g1, bind_some']
    simp only [B1, B2, B3, B4, B5, S1, S2, S3, S4, S5, o2, ↓reduceIte]
    rw [g2, bind_some']
    dsimp only
    rw [if_pos rfl, e25]
  rw [if_neg q7]
  by_cases q8 : op = 8
  · rw [if_pos q8]
    obtain ⟨a, h1, h2, g1, g2, al, k1, k2⟩ := b_lean w (v (i + 1)) (v (i + 2)) (v (i + 3))
    obtain ⟨⟨B1, B2, B3, B4, B5⟩, S1, S2, S3, S4, S5⟩ := scA (c.of k1) i0 i1 L1
    have o2 : okF h1 124 12 = true := okF_t (by rw [k1.2.2]; exact o124)
    refine ⟨h2, ?_, al, k1.tr k2⟩
    simp only [A1, A2, A3, A4, A5, R1, R2, R3, R4, R5, o1, ↓reduceIte]
    rw [g1, bind_some']
    simp only [B1, B2, B3, B4, B5, S1, S2, S3, S4, S5, o2, ↓reduceIte]
    rw [g2, bind_some']
    dsimp only
    rw [if_pos rfl, e25]
  rw [if_neg q8]
  by_cases q9 : op = 9
  · rw [if_pos q9]
    by_cases z : v (i + 3) = 0
    · obtain ⟨a, h1, h2, g1, g2, al, k1, k2⟩ := b_cast w (v (i + 1)) (v (i + 2)) 0 (Or.inl rfl)
      obtain ⟨⟨B1, B2, B3, B4, B5⟩, S1, S2, S3, S4, S5⟩ := scA (c.of k1) i0 i1 L1
      have o2 : okF h1 124 12 = true := okF_t (by rw [k1.2.2]; exact o124)
      refine ⟨h2, ?_, al, k1.tr k2⟩
      simp only [A1, A2, A3, A4, A5, R1, R2, R3, R4, R5, o1, z, ↓reduceIte]
      rw [g1, bind_some']
      simp only [B1, B2, B3, B4, B5, S1, S2, S3, S4, S5, o2, z, ↓reduceIte]
      rw [g2, bind_some']
      dsimp only
      rw [if_pos rfl, e25]
    · obtain ⟨a, h1, h2, g1, g2, al, k1, k2⟩ := b_cast w (v (i + 1)) (v (i + 2)) 1 (Or.inr rfl)
      obtain ⟨⟨B1, B2, B3, B4, B5⟩, S1, S2, S3, S4, S5⟩ := scA (c.of k1) i0 i1 L1
      have o2 : okF h1 124 12 = true := okF_t (by rw [k1.2.2]; exact o124)
      refine ⟨h2, ?_, al, k1.tr k2⟩
      simp only [A1, A2, A3, A4, A5, R1, R2, R3, R4, R5, o1, z, ↓reduceIte]
      rw [g1, bind_some']
      simp only [B1, B2, B3, B4, B5, S1, S2, S3, S4, S5, o2, z, ↓reduceIte]
      rw [g2, bind_some']
      dsimp only
      rw [if_pos rfl, e25]
  rw [if_neg q9]
  by_cases q10 : op = 10
  · rw [if_pos q10]
    obtain ⟨a, h1, h2, g1, g2, al, k1, k2⟩ := b_of w (v (i + 1)) (v (i + 2))
    obtain ⟨⟨B1, B2, B3, B4, B5⟩, S1, S2, S3, S4, S5⟩ := scA (c.of k1) i0 i1 L1
    have o2 : okF h1 124 12 = true := okF_t (by rw [k1.2.2]; exact o124)
    refine ⟨h2, ?_, al, k1.tr k2⟩
    simp only [A1, A2, A3, A4, A5, R1, R2, R3, R4, R5, o1, ↓reduceIte]
    rw [g1, bind_some']
    simp only [B1, B2, B3, B4, B5, S1, S2, S3, S4, S5, o2, ↓reduceIte]
    rw [g2, bind_some']
    dsimp only
    rw [if_pos rfl, e25]
  rw [if_neg q10]
  by_cases q11 : op = 11
  · rw [if_pos q11]
    obtain ⟨a, h1, h2, g1, g2, al, k1, k2⟩ := b_scale w (v (i + 1)) (v (i + 2)) (v (i + 3)) (v (i + 4))
    obtain ⟨⟨B1, B2, B3, B4, B5⟩, S1, S2, S3, S4, S5⟩ := scA (c.of k1) i0 i1 L1
    have o2 : okF h1 124 12 = true := okF_t (by rw [k1.2.2]; exact o124)
    refine ⟨h2, ?_, al, k1.tr k2⟩
    simp only [A1, A2, A3, A4, A5, R1, R2, R3, R4, R5, o1, ↓reduceIte]
    rw [g1, bind_some']
    simp only [B1, B2, B3, B4, B5, S1, S2, S3, S4, S5, o2, ↓reduceIte]
    rw [g2, bind_some']
    dsimp only
    rw [if_pos rfl, e25]
  rw [if_neg q11]
  by_cases q12 : op = 12
  · rw [if_pos q12]
    obtain ⟨a, h1, h2, g1, g2, al, k1, k2⟩ := b_far w (v (i + 1)) (v (i + 2)) (v (i + 3)) (v (i + 4)) (v (i + 5))
    obtain ⟨⟨B1, B2, B3, B4, B5⟩, S1, S2, S3, S4, S5⟩ := scA (c.of k1) i0 i1 L1
    have o2 : okF h1 124 12 = true := okF_t (by rw [k1.2.2]; exact o124)
    refine ⟨h2, ?_, al, k1.tr k2⟩
    simp only [A1, A2, A3, A4, A5, R1, R2, R3, R4, R5, o1, ↓reduceIte]
    rw [g1, bind_some']
    simp only [B1, B2, B3, B4, B5, S1, S2, S3, S4, S5, o2, ↓reduceIte]
    rw [g2, bind_some']
    dsimp only
    rw [if_pos rfl, e25]
  rw [if_neg q12]
  by_cases q13 : op = 13
  · rw [if_pos q13]
    obtain ⟨a, h1, h2, g1, g2, al, k1, k2⟩ := b_line w (v (i + 1)) (v (i + 2)) (v (i + 3)) (v (i + 4))
    obtain ⟨⟨B1, B2, B3, B4, B5⟩, S1, S2, S3, S4, S5⟩ := scA (c.of k1) i0 i1 L1
    have o2 : okF h1 124 12 = true := okF_t (by rw [k1.2.2]; exact o124)
    refine ⟨h2, ?_, al, k1.tr k2⟩
    simp only [A1, A2, A3, A4, A5, R1, R2, R3, R4, R5, o1, ↓reduceIte]
    rw [g1, bind_some']
    simp only [B1, B2, B3, B4, B5, S1, S2, S3, S4, S5, o2, ↓reduceIte]
    rw [g2, bind_some']
    dsimp only
    rw [if_pos rfl, e25]
  rw [if_neg q13]
  by_cases q14 : op = 14
  · rw [if_pos q14]
    obtain ⟨a, h1, h2, g1, g2, al, k1, k2⟩ := b_left w (v (i + 1)) (v (i + 2)) (v (i + 3)) (v (i + 4))
    obtain ⟨⟨B1, B2, B3, B4, B5⟩, S1, S2, S3, S4, S5⟩ := scA (c.of k1) i0 i1 L1
    have o2 : okF h1 124 12 = true := okF_t (by rw [k1.2.2]; exact o124)
    refine ⟨h2, ?_, al, k1.tr k2⟩
    simp only [A1, A2, A3, A4, A5, R1, R2, R3, R4, R5, o1, ↓reduceIte]
    rw [g1, bind_some']
    simp only [B1, B2, B3, B4, B5, S1, S2, S3, S4, S5, o2, ↓reduceIte]
    rw [g2, bind_some']
    dsimp only
    rw [if_pos rfl, e25]
  rw [if_neg q14]
  by_cases q15 : op = 15
  · rw [if_pos q15]
    obtain ⟨a, h1, h2, g1, g2, al, k1, k2⟩ := b_spread w (v (i + 1)) (v (i + 2)) (v (i + 3))
    obtain ⟨⟨B1, B2, B3, B4, B5⟩, S1, S2, S3, S4, S5⟩ := scA (c.of k1) i0 i1 L1
    have o2 : okF h1 124 12 = true := okF_t (by rw [k1.2.2]; exact o124)
    refine ⟨h2, ?_, al, k1.tr k2⟩
    simp only [A1, A2, A3, A4, A5, R1, R2, R3, R4, R5, o1, ↓reduceIte]
    rw [g1, bind_some']
    simp only [B1, B2, B3, B4, B5, S1, S2, S3, S4, S5, o2, ↓reduceIte]
    rw [g2, bind_some']
    dsimp only
    rw [if_pos rfl, e25]
  rw [if_neg q15]
  by_cases q16 : op = 16
  · rw [if_pos q16]
    obtain ⟨a, h1, h2, g1, g2, al, k1, k2⟩ := b_without w (v (i + 1)) (v (i + 2)) (v (i + 3)) (v (i + 4))
    obtain ⟨⟨B1, B2, B3, B4, B5⟩, S1, S2, S3, S4, S5⟩ := scA (c.of k1) i0 i1 L1
    have o2 : okF h1 124 12 = true := okF_t (by rw [k1.2.2]; exact o124)
    refine ⟨h2, ?_, al, k1.tr k2⟩
    simp only [A1, A2, A3, A4, A5, R1, R2, R3, R4, R5, o1, ↓reduceIte]
    rw [g1, bind_some']
    simp only [B1, B2, B3, B4, B5, S1, S2, S3, S4, S5, o2, ↓reduceIte]
    rw [g2, bind_some']
    dsimp only
    rw [if_pos rfl, e25]
  rw [if_neg q16]
  by_cases q17 : op = 17
  · rw [if_pos q17]
    by_cases z : v (i + 4) = 0
    · obtain ⟨a, h1, h2, g1, g2, al, k1, k2⟩ := b_span w (v (i + 1)) (v (i + 2)) (v (i + 3)) 0
      obtain ⟨⟨B1, B2, B3, B4, B5⟩, S1, S2, S3, S4, S5⟩ := scA (c.of k1) i0 i1 L1
      have o2 : okF h1 124 12 = true := okF_t (by rw [k1.2.2]; exact o124)
      refine ⟨h2, ?_, al, k1.tr k2⟩
      simp only [A1, A2, A3, A4, A5, R1, R2, R3, R4, R5, o1, z, ↓reduceIte]
      rw [g1, bind_some']
      simp only [B1, B2, B3, B4, B5, S1, S2, S3, S4, S5, o2, z, ↓reduceIte]
      rw [g2, bind_some']
      dsimp only
      rw [if_pos rfl, e25]
    · obtain ⟨a, h1, h2, g1, g2, al, k1, k2⟩ := b_span w (v (i + 1)) (v (i + 2)) (v (i + 3)) 1
      obtain ⟨⟨B1, B2, B3, B4, B5⟩, S1, S2, S3, S4, S5⟩ := scA (c.of k1) i0 i1 L1
      have o2 : okF h1 124 12 = true := okF_t (by rw [k1.2.2]; exact o124)
      refine ⟨h2, ?_, al, k1.tr k2⟩
      simp only [A1, A2, A3, A4, A5, R1, R2, R3, R4, R5, o1, z, ↓reduceIte]
      rw [g1, bind_some']
      simp only [B1, B2, B3, B4, B5, S1, S2, S3, S4, S5, o2, z, ↓reduceIte]
      rw [g2, bind_some']
      dsimp only
      rw [if_pos rfl, e25]
  rw [if_neg q17]
  by_cases q18 : op = 18
  · rw [if_pos q18]
    by_cases z : v (i + 4) = 0
    · obtain ⟨a, h1, h2, g1, g2, al, k1, k2⟩ := b_odd w (v (i + 1)) (v (i + 2)) (v (i + 3)) 0
      obtain ⟨⟨B1, B2, B3, B4, B5⟩, S1, S2, S3, S4, S5⟩ := scA (c.of k1) i0 i1 L1
      have o2 : okF h1 124 12 = true := okF_t (by rw [k1.2.2]; exact o124)
      refine ⟨h2, ?_, al, k1.tr k2⟩
      simp only [A1, A2, A3, A4, A5, R1, R2, R3, R4, R5, o1, z, ↓reduceIte]
      rw [g1, bind_some']
      simp only [B1, B2, B3, B4, B5, S1, S2, S3, S4, S5, o2, z, ↓reduceIte]
      rw [g2, bind_some']
      dsimp only
      rw [if_pos rfl, e25]
    · obtain ⟨a, h1, h2, g1, g2, al, k1, k2⟩ := b_odd w (v (i + 1)) (v (i + 2)) (v (i + 3)) 1
      obtain ⟨⟨B1, B2, B3, B4, B5⟩, S1, S2, S3, S4, S5⟩ := scA (c.of k1) i0 i1 L1
      have o2 : okF h1 124 12 = true := okF_t (by rw [k1.2.2]; exact o124)
      refine ⟨h2, ?_, al, k1.tr k2⟩
      simp only [A1, A2, A3, A4, A5, R1, R2, R3, R4, R5, o1, z, ↓reduceIte]
      rw [g1, bind_some']
      simp only [B1, B2, B3, B4, B5, S1, S2, S3, S4, S5, o2, z, ↓reduceIte]
      rw [g2, bind_some']
      dsimp only
      rw [if_pos rfl, e25]
  rw [if_neg q18]
  by_cases q19 : op = 19
  · rw [if_pos q19]
    obtain ⟨a, h1, h2, g1, g2, al, k1, k2⟩ := b_age w (v (i + 1)) (v (i + 2)) (v (i + 3))
    obtain ⟨⟨B1, B2, B3, B4, B5⟩, S1, S2, S3, S4, S5⟩ := scA (c.of k1) i0 i1 L1
    have o2 : okF h1 124 12 = true := okF_t (by rw [k1.2.2]; exact o124)
    refine ⟨h2, ?_, al, k1.tr k2⟩
    simp only [A1, A2, A3, A4, A5, R1, R2, R3, R4, R5, o1, ↓reduceIte]
    rw [g1, bind_some']
    simp only [B1, B2, B3, B4, B5, S1, S2, S3, S4, S5, o2, ↓reduceIte]
    rw [g2, bind_some']
    dsimp only
    rw [if_pos rfl, e25]
  rw [if_neg q19]
  by_cases q20 : op = 20
  · rw [if_pos q20]
    obtain ⟨a, h1, h2, g1, g2, al, k1, k2⟩ := b_barred w (v (i + 1)) (v (i + 2)) (v (i + 3))
    obtain ⟨⟨B1, B2, B3, B4, B5⟩, S1, S2, S3, S4, S5⟩ := scA (c.of k1) i0 i1 L1
    have o2 : okF h1 124 12 = true := okF_t (by rw [k1.2.2]; exact o124)
    refine ⟨h2, ?_, al, k1.tr k2⟩
    simp only [A1, A2, A3, A4, A5, R1, R2, R3, R4, R5, o1, ↓reduceIte]
    rw [g1, bind_some']
    simp only [B1, B2, B3, B4, B5, S1, S2, S3, S4, S5, o2, ↓reduceIte]
    rw [g2, bind_some']
    dsimp only
    rw [if_pos rfl, e25]
  rw [if_neg q20]
  by_cases q21 : op = 21
  · rw [if_pos q21]
    obtain ⟨a, h1, h2, g1, g2, al, k1, k2⟩ := b_up w (v (i + 1)) (v (i + 2)) (v (i + 3)) (v (i + 4))
    obtain ⟨⟨B1, B2, B3, B4, B5⟩, S1, S2, S3, S4, S5⟩ := scA (c.of k1) i0 i1 L1
    have o2 : okF h1 124 12 = true := okF_t (by rw [k1.2.2]; exact o124)
    refine ⟨h2, ?_, al, k1.tr k2⟩
    simp only [A1, A2, A3, A4, A5, R1, R2, R3, R4, R5, o1, ↓reduceIte]
    rw [g1, bind_some']
    simp only [B1, B2, B3, B4, B5, S1, S2, S3, S4, S5, o2, ↓reduceIte]
    rw [g2, bind_some']
    dsimp only
    rw [if_pos rfl, e25]
  rw [if_neg q21]
  by_cases q22 : op = 22
  · rw [if_pos q22]
    obtain ⟨a, h1, h2, g1, g2, al, k1, k2⟩ := b_worst w (v (i + 1)) (v (i + 2)) (v (i + 3))
    obtain ⟨⟨B1, B2, B3, B4, B5⟩, S1, S2, S3, S4, S5⟩ := scA (c.of k1) i0 i1 L1
    have o2 : okF h1 124 12 = true := okF_t (by rw [k1.2.2]; exact o124)
    refine ⟨h2, ?_, al, k1.tr k2⟩
    simp only [A1, A2, A3, A4, A5, R1, R2, R3, R4, R5, o1, ↓reduceIte]
    rw [g1, bind_some']
    simp only [B1, B2, B3, B4, B5, S1, S2, S3, S4, S5, o2, ↓reduceIte]
    rw [g2, bind_some']
    dsimp only
    rw [if_pos rfl, e25]
  rw [if_neg q22]
  by_cases q23 : op = 23
  · rw [if_pos q23]
    obtain ⟨a, h1, h2, g1, g2, al, k1, k2⟩ := b_part w (v (i + 1)) (v (i + 2)) (v (i + 3)) (v (i + 4))
    obtain ⟨⟨B1, B2, B3, B4, B5⟩, S1, S2, S3, S4, S5⟩ := scA (c.of k1) i0 i1 L1
    have o2 : okF h1 124 12 = true := okF_t (by rw [k1.2.2]; exact o124)
    refine ⟨h2, ?_, al, k1.tr k2⟩
    simp only [A1, A2, A3, A4, A5, R1, R2, R3, R4, R5, o1, ↓reduceIte]
    rw [g1, bind_some']
    simp only [B1, B2, B3, B4, B5, S1, S2, S3, S4, S5, o2, ↓reduceIte]
    rw [g2, bind_some']
    dsimp only
    rw [if_pos rfl, e25]
  rw [if_neg q23]
  by_cases q24 : op = 24
  · rw [if_pos q24]
    obtain ⟨a, h1, h2, g1, g2, al, k1, k2⟩ := b_agree w (v (i + 1)) (v (i + 2)) (v (i + 3)) (v (i + 4))
    obtain ⟨⟨B1, B2, B3, B4, B5⟩, S1, S2, S3, S4, S5⟩ := scA (c.of k1) i0 i1 L1
    have o2 : okF h1 124 12 = true := okF_t (by rw [k1.2.2]; exact o124)
    refine ⟨h2, ?_, al, k1.tr k2⟩
    simp only [A1, A2, A3, A4, A5, R1, R2, R3, R4, R5, o1, ↓reduceIte]
    rw [g1, bind_some']
    simp only [B1, B2, B3, B4, B5, S1, S2, S3, S4, S5, o2, ↓reduceIte]
    rw [g2, bind_some']
    dsimp only
    rw [if_pos rfl, e25]
  rw [if_neg q24]
  by_cases q25 : op = 25
  · rw [if_pos q25]
    obtain ⟨a, h1, h2, g1, g2, al, k1, k2⟩ := b_since w (v (i + 1)) (v (i + 2))
    obtain ⟨⟨B1, B2, B3, B4, B5⟩, S1, S2, S3, S4, S5⟩ := scA (c.of k1) i0 i1 L1
    have o2 : okF h1 124 12 = true := okF_t (by rw [k1.2.2]; exact o124)
    refine ⟨h2, ?_, al, k1.tr k2⟩
    simp only [A1, A2, A3, A4, A5, R1, R2, R3, R4, R5, o1, ↓reduceIte]
    rw [g1, bind_some']
    simp only [B1, B2, B3, B4, B5, S1, S2, S3, S4, S5, o2, ↓reduceIte]
    rw [g2, bind_some']
    dsimp only
    rw [if_pos rfl, e25]
  rw [if_neg q25]
  by_cases q26 : op = 26
  · rw [if_pos q26]
    obtain ⟨a, h1, h2, g1, g2, al, k1, k2⟩ := b_stands w (v (i + 1)) (v (i + 2)) (v (i + 3))
    obtain ⟨⟨B1, B2, B3, B4, B5⟩, S1, S2, S3, S4, S5⟩ := scA (c.of k1) i0 i1 L1
    have o2 : okF h1 124 12 = true := okF_t (by rw [k1.2.2]; exact o124)
    refine ⟨h2, ?_, al, k1.tr k2⟩
    simp only [A1, A2, A3, A4, A5, R1, R2, R3, R4, R5, o1, ↓reduceIte]
    rw [g1, bind_some']
    simp only [B1, B2, B3, B4, B5, S1, S2, S3, S4, S5, o2, ↓reduceIte]
    rw [g2, bind_some']
    dsimp only
    rw [if_pos rfl, e25]
  rw [if_neg q26]
  by_cases q27 : op = 27
  · rw [if_pos q27]
    obtain ⟨a, h1, h2, g1, g2, al, k1, k2⟩ := b_sorts w (v (i + 1)) (v (i + 2)) (v (i + 3)) (v (i + 4)) (v (i + 5)) (b32 _ (by omega) (by omega))
    obtain ⟨⟨B1, B2, B3, B4, B5⟩, S1, S2, S3, S4, S5⟩ := scA (c.of k1) i0 i1 L1
    have o2 : okF h1 124 12 = true := okF_t (by rw [k1.2.2]; exact o124)
    refine ⟨h2, ?_, al, k1.tr k2⟩
    simp only [A1, A2, A3, A4, A5, R1, R2, R3, R4, R5, o1, ↓reduceIte]
    rw [g1, bind_some']
    simp only [B1, B2, B3, B4, B5, S1, S2, S3, S4, S5, o2, ↓reduceIte]
    rw [g2, bind_some']
    dsimp only
    rw [if_pos rfl, e25]
  rw [if_neg q27]
  by_cases q28 : op = 28
  · rw [if_pos q28]
    obtain ⟨a, h1, h2, g1, g2, al, k1, k2⟩ := b_sky w (v (i + 1)) (v (i + 2))
    obtain ⟨⟨B1, B2, B3, B4, B5⟩, S1, S2, S3, S4, S5⟩ := scA (c.of k1) i0 i1 L1
    have o2 : okF h1 124 12 = true := okF_t (by rw [k1.2.2]; exact o124)
    refine ⟨h2, ?_, al, k1.tr k2⟩
    simp only [A1, A2, A3, A4, A5, R1, R2, R3, R4, R5, o1, ↓reduceIte]
    rw [g1, bind_some']
    simp only [B1, B2, B3, B4, B5, S1, S2, S3, S4, S5, o2, ↓reduceIte]
    rw [g2, bind_some']
    dsimp only
    rw [if_pos rfl, e25]
  rw [if_neg q28]
  by_cases q29 : op = 29
  · rw [if_pos q29]
    obtain ⟨a, h1, h2, g1, g2, al, k1, k2⟩ := b_seen w (v (i + 1)) (v (i + 2))
    obtain ⟨⟨B1, B2, B3, B4, B5⟩, S1, S2, S3, S4, S5⟩ := scA (c.of k1) i0 i1 L1
    have o2 : okF h1 124 12 = true := okF_t (by rw [k1.2.2]; exact o124)
    refine ⟨h2, ?_, al, k1.tr k2⟩
    simp only [A1, A2, A3, A4, A5, R1, R2, R3, R4, R5, o1, ↓reduceIte]
    rw [g1, bind_some']
    simp only [B1, B2, B3, B4, B5, S1, S2, S3, S4, S5, o2, ↓reduceIte]
    rw [g2, bind_some']
    dsimp only
    rw [if_pos rfl, e25]
  rw [if_neg q29]
  by_cases q30 : op = 30
  · rw [if_pos q30]
    by_cases z : v (i + 3) = 0
    · by_cases y : v (i + 4) = 0
      · obtain ⟨a, h1, h2, g1, g2, al, k1, k2⟩ := b_chosen w (v (i + 1)) (v (i + 2)) 0 0
        obtain ⟨⟨B1, B2, B3, B4, B5⟩, S1, S2, S3, S4, S5⟩ := scA (c.of k1) i0 i1 L1
        have o2 : okF h1 124 12 = true := okF_t (by rw [k1.2.2]; exact o124)
        refine ⟨h2, ?_, al, k1.tr k2⟩
        simp only [A1, A2, A3, A4, A5, R1, R2, R3, R4, R5, z, y, ↓reduceIte]
        rw [E_La_law_1706, if_pos o1, g1, bind_some']
        simp only [B1, B2, B3, B4, B5, S1, S2, S3, S4, S5, o2, z, y, ↓reduceIte]
        rw [g2, bind_some']
        dsimp only
        rw [if_pos rfl, e25]
      · obtain ⟨a, h1, h2, g1, g2, al, k1, k2⟩ := b_chosen w (v (i + 1)) (v (i + 2)) 0 1
        obtain ⟨⟨B1, B2, B3, B4, B5⟩, S1, S2, S3, S4, S5⟩ := scA (c.of k1) i0 i1 L1
        have o2 : okF h1 124 12 = true := okF_t (by rw [k1.2.2]; exact o124)
        refine ⟨h2, ?_, al, k1.tr k2⟩
        simp only [A1, A2, A3, A4, A5, R1, R2, R3, R4, R5, z, y, ↓reduceIte]
        rw [E_La_law_1706, if_pos o1, g1, bind_some']
        simp only [B1, B2, B3, B4, B5, S1, S2, S3, S4, S5, o2, z, y, ↓reduceIte]
        rw [g2, bind_some']
        dsimp only
        rw [if_pos rfl, e25]
    · by_cases y : v (i + 4) = 0
      · obtain ⟨a, h1, h2, g1, g2, al, k1, k2⟩ := b_chosen w (v (i + 1)) (v (i + 2)) 1 0
        obtain ⟨⟨B1, B2, B3, B4, B5⟩, S1, S2, S3, S4, S5⟩ := scA (c.of k1) i0 i1 L1
        have o2 : okF h1 124 12 = true := okF_t (by rw [k1.2.2]; exact o124)
        refine ⟨h2, ?_, al, k1.tr k2⟩
        simp only [A1, A2, A3, A4, A5, R1, R2, R3, R4, R5, z, y, ↓reduceIte]
        rw [E_La_law_1706, if_pos o1, g1, bind_some']
        simp only [B1, B2, B3, B4, B5, S1, S2, S3, S4, S5, o2, z, y, ↓reduceIte]
        rw [g2, bind_some']
        dsimp only
        rw [if_pos rfl, e25]
      · obtain ⟨a, h1, h2, g1, g2, al, k1, k2⟩ := b_chosen w (v (i + 1)) (v (i + 2)) 1 1
        obtain ⟨⟨B1, B2, B3, B4, B5⟩, S1, S2, S3, S4, S5⟩ := scA (c.of k1) i0 i1 L1
        have o2 : okF h1 124 12 = true := okF_t (by rw [k1.2.2]; exact o124)
        refine ⟨h2, ?_, al, k1.tr k2⟩
        simp only [A1, A2, A3, A4, A5, R1, R2, R3, R4, R5, z, y, ↓reduceIte]
        rw [E_La_law_1706, if_pos o1, g1, bind_some']
        simp only [B1, B2, B3, B4, B5, S1, S2, S3, S4, S5, o2, z, y, ↓reduceIte]
        rw [g2, bind_some']
        dsimp only
        rw [if_pos rfl, e25]
  rw [if_neg q30]
  by_cases q31 : op = 31
  · rw [if_pos q31]
    obtain ⟨a, h1, h2, g1, g2, al, k1, k2⟩ := b_make w (v (i + 1)) (v (i + 2)) (v (i + 3))
    obtain ⟨⟨B1, B2, B3, B4, B5⟩, S1, S2, S3, S4, S5⟩ := scA (c.of k1) i0 i1 L1
    have o2 : okF h1 124 12 = true := okF_t (by rw [k1.2.2]; exact o124)
    refine ⟨h2, ?_, al, k1.tr k2⟩
    simp only [A1, A2, A3, A4, A5, R1, R2, R3, R4, R5, o1, ↓reduceIte]
    rw [g1, bind_some']
    simp only [B1, B2, B3, B4, B5, S1, S2, S3, S4, S5, o2, ↓reduceIte]
    rw [g2, bind_some']
    dsimp only
    rw [if_pos rfl, e25]
  rw [if_neg q31]
  by_cases q32 : op = 32
  · rw [if_pos q32]
    obtain ⟨a, h1, h2, g1, g2, al, k1, k2⟩ := b_worlds w (v (i + 1)) (v (i + 2)) (v (i + 3)) (v (i + 4)) (v (i + 5))
    obtain ⟨⟨B1, B2, B3, B4, B5⟩, S1, S2, S3, S4, S5⟩ := scA (c.of k1) i0 i1 L1
    have o2 : okF h1 124 12 = true := okF_t (by rw [k1.2.2]; exact o124)
    refine ⟨h2, ?_, al, k1.tr k2⟩
    simp only [A1, A2, A3, A4, A5, R1, R2, R3, R4, R5, o1, ↓reduceIte]
    rw [g1, bind_some']
    simp only [B1, B2, B3, B4, B5, S1, S2, S3, S4, S5, o2, ↓reduceIte]
    rw [g2, bind_some']
    dsimp only
    rw [if_pos rfl, e25]
  rw [if_neg q32]
  by_cases q33 : op = 33
  · rw [if_pos q33]
    obtain ⟨a, h1, h2, g1, g2, al, k1, k2⟩ := b_chance w (v (i + 1)) (v (i + 2)) (v (i + 3))
    obtain ⟨⟨B1, B2, B3, B4, B5⟩, S1, S2, S3, S4, S5⟩ := scA (c.of k1) i0 i1 L1
    have o2 : okF h1 124 12 = true := okF_t (by rw [k1.2.2]; exact o124)
    refine ⟨h2, ?_, al, k1.tr k2⟩
    simp only [A1, A2, A3, A4, A5, R1, R2, R3, R4, R5, o1, ↓reduceIte]
    rw [g1, bind_some']
    simp only [B1, B2, B3, B4, B5, S1, S2, S3, S4, S5, o2, ↓reduceIte]
    rw [g2, bind_some']
    dsimp only
    rw [if_pos rfl, e25]
  rw [if_neg q33]
  by_cases q34 : op = 34
  · rw [if_pos q34]
    obtain ⟨a, h1, h2, g1, g2, al, k1, k2⟩ := b_alike w (v (i + 1)) (v (i + 2)) (v (i + 3)) (v (i + 4))
    obtain ⟨⟨B1, B2, B3, B4, B5⟩, S1, S2, S3, S4, S5⟩ := scA (c.of k1) i0 i1 L1
    have o2 : okF h1 124 12 = true := okF_t (by rw [k1.2.2]; exact o124)
    refine ⟨h2, ?_, al, k1.tr k2⟩
    simp only [A1, A2, A3, A4, A5, R1, R2, R3, R4, R5, o1, ↓reduceIte]
    rw [g1, bind_some']
    simp only [B1, B2, B3, B4, B5, S1, S2, S3, S4, S5, o2, ↓reduceIte]
    rw [g2, bind_some']
    dsimp only
    rw [if_pos rfl, e25]
  rw [if_neg q34]
  by_cases q35 : op = 35
  · rw [if_pos q35]
    obtain ⟨a, h1, h2, g1, g2, al, k1, k2⟩ := b_heaps w (v (i + 1)) (v (i + 2)) (v (i + 3)) (v (i + 4)) (v (i + 5))
    obtain ⟨⟨B1, B2, B3, B4, B5⟩, S1, S2, S3, S4, S5⟩ := scA (c.of k1) i0 i1 L1
    have o2 : okF h1 124 12 = true := okF_t (by rw [k1.2.2]; exact o124)
    refine ⟨h2, ?_, al, k1.tr k2⟩
    simp only [A1, A2, A3, A4, A5, R1, R2, R3, R4, R5, o1, ↓reduceIte]
    rw [g1, bind_some']
    simp only [B1, B2, B3, B4, B5, S1, S2, S3, S4, S5, o2, ↓reduceIte]
    rw [g2, bind_some']
    dsimp only
    rw [if_pos rfl, e25]
  rw [if_neg q35]
  by_cases q36 : op = 36
  · rw [if_pos q36]
    obtain ⟨a, h1, h2, g1, g2, al, k1, k2⟩ := b_middle w (v (i + 1)) (v (i + 2)) (v (i + 3))
    obtain ⟨⟨B1, B2, B3, B4, B5⟩, S1, S2, S3, S4, S5⟩ := scA (c.of k1) i0 i1 L1
    have o2 : okF h1 124 12 = true := okF_t (by rw [k1.2.2]; exact o124)
    refine ⟨h2, ?_, al, k1.tr k2⟩
    simp only [A1, A2, A3, A4, A5, R1, R2, R3, R4, R5, o1, ↓reduceIte]
    rw [g1, bind_some']
    simp only [B1, B2, B3, B4, B5, S1, S2, S3, S4, S5, o2, ↓reduceIte]
    rw [g2, bind_some']
    dsimp only
    rw [if_pos rfl, e25]
  rw [if_neg q36]
  by_cases q37 : op = 37
  · rw [if_pos q37]
    obtain ⟨a, h1, h2, g1, g2, al, k1, k2⟩ := b_across w (v (i + 1)) (v (i + 2)) (v (i + 3)) (v (i + 4))
    obtain ⟨⟨B1, B2, B3, B4, B5⟩, S1, S2, S3, S4, S5⟩ := scA (c.of k1) i0 i1 L1
    have o2 : okF h1 124 12 = true := okF_t (by rw [k1.2.2]; exact o124)
    refine ⟨h2, ?_, al, k1.tr k2⟩
    simp only [A1, A2, A3, A4, A5, R1, R2, R3, R4, R5, o1, ↓reduceIte]
    rw [g1, bind_some']
    simp only [B1, B2, B3, B4, B5, S1, S2, S3, S4, S5, o2, ↓reduceIte]
    rw [g2, bind_some']
    dsimp only
    rw [if_pos rfl, e25]
  rw [if_neg q37]
  by_cases q38 : op = 38
  · rw [if_pos q38]
    obtain ⟨a, h1, h2, g1, g2, al, k1, k2⟩ := b_path w (v (i + 1)) (v (i + 2)) (v (i + 3)) (v (i + 4)) (v (i + 5))
    obtain ⟨⟨B1, B2, B3, B4, B5⟩, S1, S2, S3, S4, S5⟩ := scA (c.of k1) i0 i1 L1
    have o2 : okF h1 124 12 = true := okF_t (by rw [k1.2.2]; exact o124)
    refine ⟨h2, ?_, al, k1.tr k2⟩
    simp only [A1, A2, A3, A4, A5, R1, R2, R3, R4, R5, o1, ↓reduceIte]
    rw [g1, bind_some']
    simp only [B1, B2, B3, B4, B5, S1, S2, S3, S4, S5, o2, ↓reduceIte]
    rw [g2, bind_some']
    dsimp only
    rw [if_pos rfl, e25]
  rw [if_neg q38]
  by_cases q39 : op = 39
  · rw [if_pos q39]
    obtain ⟨a, h1, h2, g1, g2, al, k1, k2⟩ := b_strait w (v (i + 1)) (v (i + 2)) (v (i + 3))
    obtain ⟨⟨B1, B2, B3, B4, B5⟩, S1, S2, S3, S4, S5⟩ := scA (c.of k1) i0 i1 L1
    have o2 : okF h1 124 12 = true := okF_t (by rw [k1.2.2]; exact o124)
    refine ⟨h2, ?_, al, k1.tr k2⟩
    simp only [A1, A2, A3, A4, A5, R1, R2, R3, R4, R5, o1, ↓reduceIte]
    rw [g1, bind_some']
    simp only [B1, B2, B3, B4, B5, S1, S2, S3, S4, S5, o2, ↓reduceIte]
    rw [g2, bind_some']
    dsimp only
    rw [if_pos rfl, e25]
  rw [if_neg q39]
  by_cases q40 : op = 40
  · rw [if_pos q40]
    obtain ⟨a, h1, h2, g1, g2, al, k1, k2⟩ := b_changes w (v (i + 1)) (v (i + 2))
    obtain ⟨⟨B1, B2, B3, B4, B5⟩, S1, S2, S3, S4, S5⟩ := scA (c.of k1) i0 i1 L1
    have o2 : okF h1 124 12 = true := okF_t (by rw [k1.2.2]; exact o124)
    refine ⟨h2, ?_, al, k1.tr k2⟩
    simp only [A1, A2, A3, A4, A5, R1, R2, R3, R4, R5, o1, ↓reduceIte]
    rw [g1, bind_some']
    simp only [B1, B2, B3, B4, B5, S1, S2, S3, S4, S5, o2, ↓reduceIte]
    rw [g2, bind_some']
    dsimp only
    rw [if_pos rfl, e25]
  rw [if_neg q40]
  by_cases q41 : op = 41
  · rw [if_pos q41]
    obtain ⟨a, h1, h2, g1, g2, al, k1, k2⟩ := b_next w (v (i + 1)) (v (i + 2)) (v (i + 3))
    obtain ⟨⟨B1, B2, B3, B4, B5⟩, S1, S2, S3, S4, S5⟩ := scA (c.of k1) i0 i1 L1
    have o2 : okF h1 124 12 = true := okF_t (by rw [k1.2.2]; exact o124)
    refine ⟨h2, ?_, al, k1.tr k2⟩
    simp only [A1, A2, A3, A4, A5, R1, R2, R3, R4, R5, o1, ↓reduceIte]
    rw [g1, bind_some']
    simp only [B1, B2, B3, B4, B5, S1, S2, S3, S4, S5, o2, ↓reduceIte]
    rw [g2, bind_some']
    dsimp only
    rw [if_pos rfl, e25]
  rw [if_neg q41]
  by_cases q42 : op = 42
  · rw [if_pos q42]
    obtain ⟨a, h1, h2, g1, g2, al, k1, k2⟩ := b_say w (v (i + 1)) (v (i + 2)) (v (i + 3)) (v (i + 4))
    obtain ⟨⟨B1, B2, B3, B4, B5⟩, S1, S2, S3, S4, S5⟩ := scA (c.of k1) i0 i1 L1
    have o2 : okF h1 124 12 = true := okF_t (by rw [k1.2.2]; exact o124)
    refine ⟨h2, ?_, al, k1.tr k2⟩
    simp only [A1, A2, A3, A4, A5, R1, R2, R3, R4, R5, o1, ↓reduceIte]
    rw [g1, bind_some']
    simp only [B1, B2, B3, B4, B5, S1, S2, S3, S4, S5, o2, ↓reduceIte]
    rw [g2, bind_some']
    dsimp only
    rw [if_pos rfl, e25]
  rw [if_neg q42]
  by_cases q43 : op = 43
  · rw [if_pos q43]
    obtain ⟨a, h1, h2, g1, g2, al, k1, k2⟩ := b_kept w (v (i + 1)) (v (i + 2))
    obtain ⟨⟨B1, B2, B3, B4, B5⟩, S1, S2, S3, S4, S5⟩ := scA (c.of k1) i0 i1 L1
    have o2 : okF h1 124 12 = true := okF_t (by rw [k1.2.2]; exact o124)
    refine ⟨h2, ?_, al, k1.tr k2⟩
    simp only [A1, A2, A3, A4, A5, R1, R2, R3, R4, R5, o1, ↓reduceIte]
    rw [g1, bind_some']
    simp only [B1, B2, B3, B4, B5, S1, S2, S3, S4, S5, o2, ↓reduceIte]
    rw [g2, bind_some']
    dsimp only
    rw [if_pos rfl, e25]
  rw [if_neg q43]
  by_cases q44 : op = 44
  · rw [if_pos q44]
    obtain ⟨a, h1, h2, g1, g2, al, k1, k2⟩ := b_beside w (v (i + 1)) (v (i + 2)) (v (i + 3)) (v (i + 4)) (v (i + 5))
    obtain ⟨⟨B1, B2, B3, B4, B5⟩, S1, S2, S3, S4, S5⟩ := scA (c.of k1) i0 i1 L1
    have o2 : okF h1 124 12 = true := okF_t (by rw [k1.2.2]; exact o124)
    refine ⟨h2, ?_, al, k1.tr k2⟩
    simp only [A1, A2, A3, A4, A5, R1, R2, R3, R4, R5, o1, ↓reduceIte]
    rw [g1, bind_some']
    simp only [B1, B2, B3, B4, B5, S1, S2, S3, S4, S5, o2, ↓reduceIte]
    rw [g2, bind_some']
    dsimp only
    rw [if_pos rfl, e25]
  rw [if_neg q44]
  by_cases q45 : op = 45
  · rw [if_pos q45]
    obtain ⟨a, h1, h2, g1, g2, al, k1, k2⟩ := b_count w (v (i + 1))
    obtain ⟨⟨B1, B2, B3, B4, B5⟩, S1, S2, S3, S4, S5⟩ := scA (c.of k1) i0 i1 L1
    have o2 : okF h1 124 12 = true := okF_t (by rw [k1.2.2]; exact o124)
    refine ⟨h2, ?_, al, k1.tr k2⟩
    simp only [A1, A2, A3, A4, A5, R1, R2, R3, R4, R5, o1, ↓reduceIte]
    rw [g1, bind_some']
    simp only [B1, B2, B3, B4, B5, S1, S2, S3, S4, S5, o2, ↓reduceIte]
    rw [g2, bind_some']
    dsimp only
    rw [if_pos rfl, e25]
  rw [if_neg q45]
  by_cases q46 : op = 46
  · rw [if_pos q46]
    obtain ⟨a, h1, h2, g1, g2, al, k1, k2⟩ := j_image w (v (i + 1))
    obtain ⟨⟨B1, B2, B3, B4, B5⟩, S1, S2, S3, S4, S5⟩ := scA (c.of k1) i0 i1 L1
    have o2 : okF h1 124 12 = true := okF_t (by rw [k1.2.2]; exact o124)
    refine ⟨h2, ?_, al, k1.tr k2⟩
    simp only [A1, A2, A3, A4, A5, R1, R2, R3, R4, R5, o1, ↓reduceIte]
    rw [g1, bind_some']
    simp only [B1, B2, B3, B4, B5, S1, S2, S3, S4, S5, o2, ↓reduceIte]
    rw [g2, bind_some']
    dsimp only
    rw [if_pos rfl, e25]
  rw [if_neg q46]
  by_cases q47 : op = 47
  · rw [if_pos q47]
    obtain ⟨a, h1, h2, g1, g2, al, k1, k2⟩ := j_again w (v (i + 1))
    obtain ⟨⟨B1, B2, B3, B4, B5⟩, S1, S2, S3, S4, S5⟩ := scA (c.of k1) i0 i1 L1
    have o2 : okF h1 124 12 = true := okF_t (by rw [k1.2.2]; exact o124)
    refine ⟨h2, ?_, al, k1.tr k2⟩
    simp only [A1, A2, A3, A4, A5, R1, R2, R3, R4, R5, o1, ↓reduceIte]
    rw [g1, bind_some']
    simp only [B1, B2, B3, B4, B5, S1, S2, S3, S4, S5, o2, ↓reduceIte]
    rw [g2, bind_some']
    dsimp only
    rw [if_pos rfl, e25]
  rw [if_neg q47]
  exact ⟨h, e25 h, w, Kp.rf h⟩
theorem law_run {St : Hp → Prop} (hx : TxH St) (kp : ∀ h h', St h → Kp h h' → St h') {s L : Int} {v : Int → Int} (L0 : 0 ≤ L) (L1 : L ≤ 2147483647) : ∀ (n : Nat) (i : Int) (h : Hp), Al h → St h → Scr h s L v → 0 ≤ i → L < i + 6 * n → i ≤ L → ∃ h', P_La_law_18 s 1 124 i h = some (1, h') ∧ mT h' ≤ 370 ∧ mS h' ≤ 2797200 := by
  intro n
  induction n with
  | zero => intro i h w hs c i0 hn hi; omega
  | succ n ih =>
    intro i h w hs c i0 hn hi
    by_cases z : i + 6 ≤ L
    · obtain ⟨h1, g1, w1, k1⟩ := law_st hx w hs c i0 z L1
      obtain ⟨h2, g2, b2⟩ := ih (i + 6) h1 w1 (kp h h1 hs k1) (c.of k1) (by omega) (by omega) z
      exact ⟨h2, g1.trans g2, b2⟩
    · have oY : okY h s = true := decide_eq_true (by rw [c.2.1.1]; omega)
      exact ⟨h, by rw [E_La_law_18, if_pos oY, c.2.1.2, w32_id (x := L - 6) (by omega) (by omega), if_pos (show L - 6 < i by omega)], w.2.1.2.b⟩
/-- the law answers 1, whatever the script -/
theorem law_ok {St : Hp → Prop} (hx : TxH St) (kp : ∀ h h', St h → Kp h h' → St h') {h : Hp} (t : mT h = 0) (ts : mS h = 0) {s L : Int} {v : Int → Int} (L0 : 0 ≤ L) (L1 : L ≤ 2147483647) (c : Scr h s L v) (st : ∀ h', (∀ b, b ≤ 0 → mK h' b = mK h b ∧ mL h' b = mL h b ∧ ∀ i, mR h' b i = mR h b i) → St h') : ∃ h', C_La_law s h = some (1, h') ∧ mT h' ≤ 370 ∧ mS h' ≤ 2797200 := by
  obtain ⟨h1, g1, w1, m1, k1⟩ := s_start t ts s
  have e := k1 s c.1
  have c1 : Scr h1 s L v := ⟨c.1, by rw [e.1, e.2.1]; exact c.2.1, fun j j0 j1 => by rw [e.2.2 j]; exact c.2.2 j j0 j1⟩
  obtain ⟨h2, g2, b2⟩ := law_run hx kp L0 L1 (L.toNat + 1) 0 h1 ⟨⟨T0, w1⟩, m1⟩ (st h1 k1) c1 (by omega) (by omega) L0
  exact ⟨h2, g1.trans g2, b2⟩
