/-! What a call may change of what is told; asking by the reference's half. -/
def pW (b i : Int) : Prop := (2 ≤ b ∧ b ≤ 123) ∧ ¬ (b = 2 ∧ (i ≤ 0 ∨ 8 ≤ i)) ∧ ¬ (4 ≤ b ∧ b ≤ 7) ∧ ¬ ((b = 8 ∨ b = 16 ∨ b = 24) ∧ 3 ≤ i ∧ i ≤ 9) ∧ ¬ ((b = 32 ∨ b = 36 ∨ b = 40 ∨ b = 44 ∨ b = 48 ∨ b = 52) ∧ 4 ≤ i ∧ i ≤ 6) ∧ ¬ ((b = 56 ∨ b = 59 ∨ b = 62) ∧ 6 ≤ i ∧ i ≤ 7) ∧ b ≠ 81 ∧ ¬ (b = 82 ∧ i ≤ 0) ∧ ¬ (b = 84 ∧ 3 ≤ i ∧ i ≤ 9) ∧ ¬ (b = 92 ∧ 4 ≤ i ∧ i ≤ 6) ∧ ¬ (b = 96 ∧ 6 ≤ i ∧ i ≤ 7) ∧ ¬ (b = 99 ∧ 3 ≤ i ∧ i ≤ 5) ∧ ¬ (b = 115 ∧ 1 ≤ i ∧ i ≤ 2) ∧ ¬ (b = 118 ∧ i ≤ 1) ∧ ¬ (b = 121 ∧ i ≤ 1)
theorem pW_C (b i : Int) (q : pW b i) : pC b i := ⟨q.1.1, q.1.2, q.2.2.2.2.2.2.1⟩
theorem LSh.w {h h' : Hp} (w : LSh h) (f : Fr pW h h') : LSh h' := by
  unfold LSh at w ⊢
  have r : ∀ b i, ¬ pW b i → mR h' b i = mR h b i := f.2
  simp only [f.1.k, f.1.l]
  obtain ⟨w1, w2, w3, w4, w5, w6, w7⟩ := w
  rw [r 1 0 (by unfold pW; omega), r 1 1 (by unfold pW; omega), r 1 2 (by unfold pW; omega), r 1 3 (by unfold pW; omega), r 1 4 (by unfold pW; omega), r 1 5 (by unfold pW; omega), r 1 6 (by unfold pW; omega), r 1 7 (by unfold pW; omega), r 1 8 (by unfold pW; omega), r 1 9 (by unfold pW; omega), r 115 1 (by unfold pW; omega), r 115 2 (by unfold pW; omega), r 118 0 (by unfold pW; omega), r 118 1 (by unfold pW; omega), r 121 0 (by unfold pW; omega), r 121 1 (by unfold pW; omega), r 82 0 (by unfold pW; omega)]
  exact ⟨w1, w2, w3.of f.1 (fun i _ _ => r _ i (by unfold pW; omega)), w4.of f.1 (fun i _ _ => r _ i (by unfold pW; omega)), w5.of f.1 (fun i _ _ => r _ i (by unfold pW; omega)), w6.of f.1 (fun i _ _ => r _ i (by unfold pW; omega)), w7⟩
theorem TSh.w {h h' : Hp} (w : TSh h 2) (f : Fr pW h h') : TSh h' 2 := by
  have r : ∀ b i, ¬ pW b i → mR h' b i = mR h b i := f.2
  unfold TSh at w ⊢
  simp only [f.1.k, f.1.l]
  rw [r 2 0 (by unfold pW; omega), r 2 8 (by unfold pW; omega), r 2 9 (by unfold pW; omega), r 2 10 (by unfold pW; omega), r 2 11 (by unfold pW; omega)]
  obtain ⟨x1, x2, x3, x4, x5, x6, x7, x8, x9, x10, x11, x12⟩ := w
  refine ⟨x1, x2, x3, x4, x5, x6, x7, x8, fun x x0 y1 => ?_, fun x x0 y1 => ?_, fun x x0 y1 => ?_, fun x x0 y1 => ?_⟩
  · rw [r (2 + 2) x (by unfold pW; omega)]
    exact ⟨(x9 x x0 y1).1, (x9 x x0 y1).2.of f.1 (fun i _ _ => r _ i (by unfold pW; omega))⟩
  · rw [r (2 + 3) x (by unfold pW; omega)]
    exact ⟨(x10 x x0 y1).1, (x10 x x0 y1).2.of f.1 (fun i _ _ => r _ i (by unfold pW; omega))⟩
  · rw [r (2 + 4) x (by unfold pW; omega)]
    exact ⟨(x11 x x0 y1).1, (x11 x x0 y1).2.of f.1 (fun i _ _ => r _ i (by unfold pW; omega))⟩
  · rw [r (2 + 5) x (by unfold pW; omega)]
    exact x12 x x0 y1
theorem CIn.w {h h' : Hp} {T T' : Int → Int} (w : CIn h T) (f : Fr pW h h') (t : TCo h' 2 T') : CIn h' T' := ⟨w.1.w f, w.2.1.w f, t⟩
theorem slc_cg {T T' : Int → Int} {b n : Int} (q : ∀ o, 0 ≤ o → o < n → T' (b + o) = T (b + o)) : slc T' b n = slc T b n := by
  funext o
  unfold slc
  by_cases z : 0 ≤ o ∧ o < n
  · rw [if_pos z, if_pos z, q o z.1 z.2]
  · rw [if_neg z, if_neg z]
theorem Yok_cg {T T' : Int → Int} {k : Int} (y : Yok T k) (q : ∀ i, 1730 + 4 * k ≤ i → i < 1734 + 4 * k → T' i = T i) (q1 : T 1 ≤ T' 1) : Yok T' k := by
  unfold Yok at y ⊢
  rw [q (1730 + 4 * k) (by omega) (by omega), q (1731 + 4 * k) (by omega) (by omega), q (1732 + 4 * k) (by omega) (by omega), q (1733 + 4 * k) (by omega) (by omega)]
  omega
/-- one catalogue put or changed -/
theorem TCo_cat {h h' : Hp} {T T' : Int → Int} {k : Int} (w : TCo h 2 T) (k0 : 0 ≤ k) (k1 : k < 3) (kT : k ≤ T 0) (f : SK h h') (r : ∀ b i, 2 ≤ b → b ≤ 80 → ¬ (8 + 8 * k ≤ b ∧ b ≤ 15 + 8 * k) → ¬ (b = 2 ∧ i = 4) → mR h' b i = mR h b i) (t : ∀ i, i ≠ 0 → ¬ (520 + 330 * k ≤ i ∧ i < 850 + 330 * k) → T' i = T i) (e0 : mR h' 2 4 = T' 0) (m : T' 0 = if T 0 = k then k + 1 else T 0) (c : CatC h' (8 + 8 * k) (catT T' k)) : TCo h' 2 T' := by
  unfold TCo at w ⊢
  obtain ⟨y1, y2, y3, y4, y5, y6, y7, y8, y9, y10, y11, y12⟩ := w
  have b0 : T' 0 = T 0 ∨ (T 0 = k ∧ T' 0 = k + 1) := by
    by_cases z : T 0 = k
    · rw [if_pos z] at m; exact Or.inr ⟨z, m⟩
    · rw [if_neg z] at m; exact Or.inl m
  rw [e0, t 1 (by omega) (by omega), t 2 (by omega) (by omega), t 3 (by omega) (by omega), t 4 (by omega) (by omega), t 5 (by omega) (by omega), t 6 (by omega) (by omega), r 2 1 (by omega) (by omega) (by omega) (by omega), r 2 2 (by omega) (by omega) (by omega) (by omega), r 2 3 (by omega) (by omega) (by omega) (by omega), r 2 5 (by omega) (by omega) (by omega) (by omega), r 2 6 (by omega) (by omega) (by omega) (by omega), r 2 7 (by omega) (by omega) (by omega) (by omega)]
  refine ⟨⟨y1.1, y1.2.1, y1.2.2.1, rfl, y1.2.2.2.2⟩, by omega, y3, y4, y5, y6, fun i i0 i1 => ?_, fun x x0 x1 => ?_, fun x x0 x1 => ?_, fun x x0 x1 => ?_, fun x j x0 x1 j0 j1 => ?_, fun x x0 x1 => ?_⟩
  · rw [r (2 + 1) i (by omega) (by omega) (by omega) (by omega), t (10 + i) (by omega) (by omega)]; exact y7 i i0 i1
  · by_cases z : x = k
    · rw [z]; exact c
    · rw [slc_cg (T := T) (T' := T') (fun o o0 o1 => t _ (by omega) (by omega))]; exact (y8 x x0 (by omega)).of f (fun b i _ _ => r b i (by omega) (by omega) (by omega) (by omega))
  · rw [slc_cg (T := T) (T' := T') (fun o o0 o1 => t _ (by omega) (by omega))]; exact ⟨(y9 x x0 x1).1.of f (fun b i _ _ => r b i (by omega) (by omega) (by omega) (by omega)), (y9 x x0 x1).2⟩
  · rw [slc_cg (T := T) (T' := T') (fun o o0 o1 => t _ (by omega) (by omega))]; exact (y10 x x0 x1).of f (fun b i _ _ => r b i (by omega) (by omega) (by omega) (by omega))
  · rw [r (2 + 63 + x) j (by omega) (by omega) (by omega) (by omega), t _ (by omega) (by omega)]; exact y11 x j x0 x1 j0 j1
  · exact Yok_cg (y12 x x0 x1) (fun i i0 i1 => t i (by omega) (by omega)) (by rw [t 1 (by omega) (by omega)]; exact Int.le_refl _)
/-- one house put or changed -/
theorem TCo_hou {h h' : Hp} {T T' : Int → Int} {k : Int} (w : TCo h 2 T) (k0 : 0 ≤ k) (k1 : k < 6) (kT : k ≤ T 1) (f : SK h h') (r : ∀ b i, 2 ≤ b → b ≤ 80 → ¬ (32 + 4 * k ≤ b ∧ b ≤ 35 + 4 * k) → ¬ (b = 2 ∧ i = 5) → mR h' b i = mR h b i) (t : ∀ i, i ≠ 1 → ¬ (1510 + 26 * k ≤ i ∧ i < 1536 + 26 * k) → T' i = T i) (e0 : mR h' 2 5 = T' 1) (m : T' 1 = if T 1 = k then k + 1 else T 1) (c : HouC h' (32 + 4 * k) (houT T' k)) : TCo h' 2 T' := by
  unfold TCo at w ⊢
  obtain ⟨y1, y2, y3, y4, y5, y6, y7, y8, y9, y10, y11, y12⟩ := w
  have b0 : T' 1 = T 1 ∨ (T 1 = k ∧ T' 1 = k + 1) := by
    by_cases z : T 1 = k
    · rw [if_pos z] at m; exact Or.inr ⟨z, m⟩
    · rw [if_neg z] at m; exact Or.inl m
  rw [e0, t 0 (by omega) (by omega), t 2 (by omega) (by omega), t 3 (by omega) (by omega), t 4 (by omega) (by omega), t 5 (by omega) (by omega), t 6 (by omega) (by omega), r 2 1 (by omega) (by omega) (by omega) (by omega), r 2 2 (by omega) (by omega) (by omega) (by omega), r 2 3 (by omega) (by omega) (by omega) (by omega), r 2 4 (by omega) (by omega) (by omega) (by omega), r 2 6 (by omega) (by omega) (by omega) (by omega), r 2 7 (by omega) (by omega) (by omega) (by omega)]
  refine ⟨⟨y1.1, y1.2.1, y1.2.2.1, y1.2.2.2.1, rfl, y1.2.2.2.2.2⟩, y2, by omega, y4, y5, y6, fun i i0 i1 => ?_, fun x x0 x1 => ?_, fun x x0 x1 => ?_, fun x x0 x1 => ?_, fun x j x0 x1 j0 j1 => ?_, fun x x0 x1 => ?_⟩
  · rw [r (2 + 1) i (by omega) (by omega) (by omega) (by omega), t (10 + i) (by omega) (by omega)]; exact y7 i i0 i1
  · rw [slc_cg (T := T) (T' := T') (fun o o0 o1 => t _ (by omega) (by omega))]; exact (y8 x x0 x1).of f (fun b i _ _ => r b i (by omega) (by omega) (by omega) (by omega))
  · by_cases z : x = k
    · rw [z]; exact c
    · rw [slc_cg (T := T) (T' := T') (fun o o0 o1 => t _ (by omega) (by omega))]; exact ⟨(y9 x x0 (by omega)).1.of f (fun b i _ _ => r b i (by omega) (by omega) (by omega) (by omega)), (y9 x x0 (by omega)).2⟩
  · rw [slc_cg (T := T) (T' := T') (fun o o0 o1 => t _ (by omega) (by omega))]; exact (y10 x x0 x1).of f (fun b i _ _ => r b i (by omega) (by omega) (by omega) (by omega))
  · rw [r (2 + 63 + x) j (by omega) (by omega) (by omega) (by omega), t _ (by omega) (by omega)]; exact y11 x j x0 x1 j0 j1
  · exact Yok_cg (y12 x x0 x1) (fun i i0 i1 => t i (by omega) (by omega)) (by omega)
/-- one sky put -/
theorem TCo_sky {h h' : Hp} {T T' : Int → Int} {k : Int} (w : TCo h 2 T) (k0 : 0 ≤ k) (k1 : k < 3) (kT : k ≤ T 2) (f : SK h h') (r : ∀ b i, 2 ≤ b → b ≤ 80 → ¬ (56 + 3 * k ≤ b ∧ b ≤ 58 + 3 * k) → ¬ (b = 2 ∧ i = 6) → mR h' b i = mR h b i) (t : ∀ i, i ≠ 2 → ¬ (1670 + 18 * k ≤ i ∧ i < 1688 + 18 * k) → T' i = T i) (e0 : mR h' 2 6 = T' 2) (m : T' 2 = if T 2 = k then k + 1 else T 2) (c : SkyC h' (56 + 3 * k) (skyT T' k)) : TCo h' 2 T' := by
  unfold TCo at w ⊢
  obtain ⟨y1, y2, y3, y4, y5, y6, y7, y8, y9, y10, y11, y12⟩ := w
  have b0 : T' 2 = T 2 ∨ (T 2 = k ∧ T' 2 = k + 1) := by
    by_cases z : T 2 = k
    · rw [if_pos z] at m; exact Or.inr ⟨z, m⟩
    · rw [if_neg z] at m; exact Or.inl m
  rw [e0, t 0 (by omega) (by omega), t 1 (by omega) (by omega), t 3 (by omega) (by omega), t 4 (by omega) (by omega), t 5 (by omega) (by omega), t 6 (by omega) (by omega), r 2 1 (by omega) (by omega) (by omega) (by omega), r 2 2 (by omega) (by omega) (by omega) (by omega), r 2 3 (by omega) (by omega) (by omega) (by omega), r 2 4 (by omega) (by omega) (by omega) (by omega), r 2 5 (by omega) (by omega) (by omega) (by omega), r 2 7 (by omega) (by omega) (by omega) (by omega)]
  refine ⟨⟨y1.1, y1.2.1, y1.2.2.1, y1.2.2.2.1, y1.2.2.2.2.1, rfl, y1.2.2.2.2.2.2⟩, y2, y3, by omega, y5, y6, fun i i0 i1 => ?_, fun x x0 x1 => ?_, fun x x0 x1 => ?_, fun x x0 x1 => ?_, fun x j x0 x1 j0 j1 => ?_, fun x x0 x1 => ?_⟩
  · rw [r (2 + 1) i (by omega) (by omega) (by omega) (by omega), t (10 + i) (by omega) (by omega)]; exact y7 i i0 i1
  · rw [slc_cg (T := T) (T' := T') (fun o o0 o1 => t _ (by omega) (by omega))]; exact (y8 x x0 x1).of f (fun b i _ _ => r b i (by omega) (by omega) (by omega) (by omega))
  · rw [slc_cg (T := T) (T' := T') (fun o o0 o1 => t _ (by omega) (by omega))]; exact ⟨(y9 x x0 x1).1.of f (fun b i _ _ => r b i (by omega) (by omega) (by omega) (by omega)), (y9 x x0 x1).2⟩
  · by_cases z : x = k
    · rw [z]; exact c
    · rw [slc_cg (T := T) (T' := T') (fun o o0 o1 => t _ (by omega) (by omega))]; exact (y10 x x0 (by omega)).of f (fun b i _ _ => r b i (by omega) (by omega) (by omega) (by omega))
  · rw [r (2 + 63 + x) j (by omega) (by omega) (by omega) (by omega), t _ (by omega) (by omega)]; exact y11 x j x0 x1 j0 j1
  · exact Yok_cg (y12 x x0 x1) (fun i i0 i1 => t i (by omega) (by omega)) (by rw [t 1 (by omega) (by omega)]; exact Int.le_refl _)
/-- length, fault and place told anew: the length not longer -/
theorem TCo_top {h h' : Hp} {T T' : Int → Int} (w : TCo h 2 T) (f : SK h h') (r : ∀ b i, 2 ≤ b → b ≤ 80 → ¬ (b = 2 ∧ 1 ≤ i ∧ i ≤ 3) → mR h' b i = mR h b i) (t : ∀ i, ¬ (4 ≤ i ∧ i ≤ 6) → T' i = T i) (e : mR h' 2 1 = T' 4 ∧ mR h' 2 2 = T' 5 ∧ mR h' 2 3 = T' 6) (n : 0 ≤ T' 4 ∧ T' 4 ≤ T 4) : TCo h' 2 T' := by
  unfold TCo at w ⊢
  obtain ⟨y1, y2, y3, y4, y5, y6, y7, y8, y9, y10, y11, y12⟩ := w
  rw [t 0 (by omega), t 1 (by omega), t 2 (by omega), t 3 (by omega), r 2 4 (by omega) (by omega) (by omega), r 2 5 (by omega) (by omega) (by omega), r 2 6 (by omega) (by omega) (by omega), r 2 7 (by omega) (by omega) (by omega)]
  refine ⟨⟨e.1, e.2.1, e.2.2, y1.2.2.2⟩, y2, y3, y4, y5, by omega, fun i i0 i1 => ?_, fun x x0 x1 => ?_, fun x x0 x1 => ?_, fun x x0 x1 => ?_, fun x j x0 x1 j0 j1 => ?_, fun x x0 x1 => ?_⟩
  · rw [r (2 + 1) i (by omega) (by omega) (by omega), t (10 + i) (by omega)]; exact y7 i i0 (by omega)
  · rw [slc_cg (T := T) (T' := T') (fun o o0 o1 => t _ (by omega))]; exact (y8 x x0 x1).of f (fun b i _ _ => r b i (by omega) (by omega) (by omega))
  · rw [slc_cg (T := T) (T' := T') (fun o o0 o1 => t _ (by omega))]; exact ⟨(y9 x x0 x1).1.of f (fun b i _ _ => r b i (by omega) (by omega) (by omega)), (y9 x x0 x1).2⟩
  · rw [slc_cg (T := T) (T' := T') (fun o o0 o1 => t _ (by omega))]; exact (y10 x x0 x1).of f (fun b i _ _ => r b i (by omega) (by omega) (by omega))
  · rw [r (2 + 63 + x) j (by omega) (by omega) (by omega), t _ (by omega)]; exact y11 x j x0 x1 j0 j1
  · exact Yok_cg (y12 x x0 x1) (fun i i0 i1 => t i (by omega)) (by rw [t 1 (by omega)]; exact Int.le_refl _)
theorem n_isOf {h : Hp} {T : Int → Int} (w : MIn h T) (o : Tok T) {i k : Int} (i0 : 0 ≤ i) (i1 : i < 3) : C_Mo_isOf 124 i k h = some (bI (0 ≤ k ∧ k < T i), h) := by
  have n := o.1
  have e : 0 ≤ T i ∧ T i ≤ 6 := by
    have : i = 0 ∨ i = 1 ∨ i = 2 := by omega
    rcases this with z | z | z <;> rw [z] <;> omega
  rw [E_Mo_isOf]
  simp (disch := omega) only [miO w, mi0 w, miA w, w.2, ↓reduceIte, m_isIn, bind_some', w32_id]
  rw [bI_c (y := 0 ≤ k ∧ k < T i) (by omega)]
  rcases bI_r (0 ≤ k ∧ k < T i) with z | z <;> rw [z] <;> rfl
theorem n_isThing {h : Hp} {T : Int → Int} (w : MIn h T) (o : Tok T) (k t : Int) : C_Mo_isThing 124 k t h = some (bI ((0 ≤ k ∧ k < T 0) ∧ 0 ≤ t ∧ t < catT T k 1), h) := by
  have n := o.1
  rw [E_Mo_isThing, if_pos (miO w), n_isOf w o (by omega) (by omega), bind_some']
  by_cases q : 0 ≤ k ∧ k < T 0
  · have v := (o.2.2.1 k q.1 q.2).2.1
    rw [bI_t q, if_neg n10, if_pos (miO w), if_pos (miO w), m_catAt q.1 (by omega), bind_some']
    simp (disch := omega) only [mi0 w, w32_id (x := 520 + 330 * k + 1), miA w, w.2, ↓reduceIte, m_isIn, bind_some']
    have e : T (520 + 330 * k + 1) = catT T k 1 := catE (by omega) (by omega)
    rw [e, w32_id (by omega) (by omega), bI_c (y := 0 ≤ t ∧ t < catT T k 1) (by omega)]
    by_cases q2 : 0 ≤ t ∧ t < catT T k 1
    · rw [bI_t q2, if_neg n10, bI_t ⟨q, q2⟩]
    · rw [bI_f q2, if_pos rfl, bI_f (fun z => q2 z.2)]
  · rw [bI_f q, if_pos rfl, bI_f (fun z => q z.1)]
theorem n_isRung {h : Hp} {T : Int → Int} (w : MIn h T) (o : Tok T) (k t : Int) : C_Mo_isRung 124 k t h = some (bI ((0 ≤ k ∧ k < T 0) ∧ 0 ≤ t ∧ t < catT T k 0), h) := by
  have n := o.1
  rw [E_Mo_isRung, if_pos (miO w), n_isOf w o (by omega) (by omega), bind_some']
  by_cases q : 0 ≤ k ∧ k < T 0
  · have v := (o.2.2.1 k q.1 q.2).1
    rw [bI_t q, if_neg n10, if_pos (miO w), if_pos (miO w), m_catAt q.1 (by omega), bind_some']
    simp (disch := omega) only [mi0 w, w32_id (x := 520 + 330 * k + 0), miA w, w.2, ↓reduceIte, m_isIn, bind_some']
    have e : T (520 + 330 * k + 0) = catT T k 0 := catE (by omega) (by omega)
    rw [e, w32_id (by omega) (by omega), bI_c (y := 0 ≤ t ∧ t < catT T k 0) (by omega)]
    by_cases q2 : 0 ≤ t ∧ t < catT T k 0
    · rw [bI_t q2, if_neg n10, bI_t ⟨q, q2⟩]
    · rw [bI_f q2, if_pos rfl, bI_f (fun z => q2 z.2)]
  · rw [bI_f q, if_pos rfl, bI_f (fun z => q z.1)]
