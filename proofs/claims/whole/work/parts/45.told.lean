/-! What is told: the class's cells at A.., and the flat row T that the reference keeps. -/
def slc (T : Int → Int) (b n o : Int) : Int := if 0 ≤ o ∧ o < n then T (b + o) else 0
theorem slc_e {T : Int → Int} {b n o : Int} (h0 : 0 ≤ o) (h1 : o < n) : T (b + o) = slc T b n o := (if_pos ⟨h0, h1⟩).symm
/-- a sky's cells: the object, then bright and many -/
def SkyS (h : Hp) (c : Int) : Prop := 0 < c ∧ mK h c = 8 ∧ (mR h c 6 = c + 1 ∧ mR h c 7 = c + 2) ∧ (mK h (c + 1) = 102 ∧ mL h (c + 1) = 6) ∧ (mK h (c + 2) = 102 ∧ mL h (c + 2) = 6)
theorem SkyS.of {h h' : Hp} {c : Int} (w : SkyS h c) (k : SK h h') (r : ∀ i, 6 ≤ i → i ≤ 7 → mR h' c i = mR h c i) : SkyS h' c := by
  unfold SkyS at w ⊢
  simp only [k.k, k.l]
  rw [r 6 (by omega) (by omega), r 7 (by omega) (by omega)]
  exact w
def TSh (h : Hp) (A : Int) : Prop := 0 < A ∧ mK h A = 10 ∧ (mR h A 0 = A + 1 ∧ mR h A 8 = A + 2 ∧ mR h A 9 = A + 3 ∧ mR h A 10 = A + 4 ∧ mR h A 11 = A + 5) ∧ (mK h (A + 1) = 101 ∧ mL h (A + 1) = 500) ∧ (mK h (A + 2) = 111 ∧ mL h (A + 2) = 3) ∧ (mK h (A + 3) = 112 ∧ mL h (A + 3) = 6) ∧ (mK h (A + 4) = 113 ∧ mL h (A + 4) = 3) ∧ (mK h (A + 5) = 114 ∧ mL h (A + 5) = 16) ∧ (∀ k, 0 ≤ k → k < 3 → mR h (A + 2) k = A + 6 + 8 * k ∧ CatS h (A + 6 + 8 * k)) ∧ (∀ k, 0 ≤ k → k < 6 → mR h (A + 3) k = A + 30 + 4 * k ∧ HouS h (A + 30 + 4 * k)) ∧ (∀ k, 0 ≤ k → k < 3 → mR h (A + 4) k = A + 54 + 3 * k ∧ SkyS h (A + 54 + 3 * k)) ∧ (∀ k, 0 ≤ k → k < 16 → mR h (A + 5) k = A + 63 + k ∧ mK h (A + 63 + k) = 7)
theorem TSh.of {h h' : Hp} {A : Int} (w : TSh h A) (k : SK h h') (r : ∀ b i, A ≤ b → b ≤ A + 78 → mR h' b i = mR h b i) : TSh h' A := by
  unfold TSh at w ⊢
  simp only [k.k, k.l]
  rw [r A 0 (by omega) (by omega), r A 8 (by omega) (by omega), r A 9 (by omega) (by omega), r A 10 (by omega) (by omega), r A 11 (by omega) (by omega)]
  obtain ⟨w1, w2, w3, w4, w5, w6, w7, w8, w9, w10, w11, w12⟩ := w
  refine ⟨w1, w2, w3, w4, w5, w6, w7, w8, fun x x0 x1 => ?_, fun x x0 x1 => ?_, fun x x0 x1 => ?_, fun x x0 x1 => ?_⟩
  · rw [r (A + 2) x (by omega) (by omega)]
    exact ⟨(w9 x x0 x1).1, (w9 x x0 x1).2.of k (fun i _ _ => r _ i (by omega) (by omega))⟩
  · rw [r (A + 3) x (by omega) (by omega)]
    exact ⟨(w10 x x0 x1).1, (w10 x x0 x1).2.of k (fun i _ _ => r _ i (by omega) (by omega))⟩
  · rw [r (A + 4) x (by omega) (by omega)]
    exact ⟨(w11 x x0 x1).1, (w11 x x0 x1).2.of k (fun i _ _ => r _ i (by omega) (by omega))⟩
  · rw [r (A + 5) x (by omega) (by omega)]
    exact w12 x x0 x1
/-- a catalogue told in full -/
def CatC (h : Hp) (c : Int) (V : Int → Int) : Prop := CatV h c V ∧ Vok V ∧ mR h c 2 = V 2 ∧ (0 ≤ V 2 ∧ V 2 ≤ 4) ∧ (∀ i, 0 ≤ i → i < 144 → mR h (c + 5) i = V (33 + i) ∧ 0 ≤ V (33 + i)) ∧ (∀ i, 0 ≤ i → i < V 2 → mR h (c + 7) i = V (321 + i))
theorem CatC.of {h h' : Hp} {c : Int} {V : Int → Int} (w : CatC h c V) (k : SK h h') (r : ∀ b i, c ≤ b → b ≤ c + 7 → mR h' b i = mR h b i) : CatC h' c V := by
  obtain ⟨w1, w2, w3, w4, w5, w6⟩ := w
  refine ⟨w1.of k r, w2, by rw [r c 2 (by omega) (by omega)]; exact w3, w4, fun i i0 i1 => ?_, fun i i0 i1 => ?_⟩
  · rw [r (c + 5) i (by omega) (by omega)]; exact w5 i i0 i1
  · rw [r (c + 7) i (by omega) (by omega)]; exact w6 i i0 i1
/-- a house told in full: the leans are 50 at most -/
def HouC (h : Hp) (c : Int) (U : Int → Int) : Prop := HouV h c U ∧ Uok U ∧ (∀ r, 0 ≤ r → r < 6 → -50 ≤ U (4 + r) ∧ U (4 + r) ≤ 50) ∧ (-2147483648 ≤ U 2 ∧ U 2 ≤ 2147483647)
def Sok (S : Int → Int) : Prop := (1 ≤ S 0 ∧ S 0 ≤ 6) ∧ (0 ≤ S 1 ∧ S 1 ≤ 1000) ∧ (0 ≤ S 2 ∧ S 2 ≤ 999) ∧ (0 ≤ S 3 ∧ S 3 ≤ 50) ∧ (1 ≤ S 4 ∧ S 4 ≤ 9999) ∧ (1 ≤ S 5 ∧ S 5 ≤ 24) ∧ (∀ i, 0 ≤ i → i < S 0 → (1 ≤ S (6 + i) ∧ S (6 + i) ≤ 999) ∧ (1 ≤ S (12 + i) ∧ S (12 + i) ≤ 9))
def Yok (T : Int → Int) (k : Int) : Prop := (0 ≤ T (1730 + 4 * k) ∧ T (1730 + 4 * k) < T 1) ∧ (0 ≤ T (1731 + 4 * k) ∧ T (1731 + 4 * k) < 100) ∧ (-999999 ≤ T (1732 + 4 * k) ∧ T (1732 + 4 * k) < T (1733 + 4 * k) ∧ T (1733 + 4 * k) ≤ 999999)
def SkyC (h : Hp) (c : Int) (S : Int → Int) : Prop := SkyS h c ∧ (∀ i, 0 ≤ i → i < 6 → mR h c i = S i) ∧ Sok S ∧ (∀ i, 0 ≤ i → i < S 0 → mR h (c + 1) i = S (6 + i) ∧ mR h (c + 2) i = S (12 + i))
theorem SkyC.of {h h' : Hp} {c : Int} {S : Int → Int} (w : SkyC h c S) (k : SK h h') (r : ∀ b i, c ≤ b → b ≤ c + 2 → mR h' b i = mR h b i) : SkyC h' c S := by
  obtain ⟨w1, w2, w3, w4⟩ := w
  refine ⟨w1.of k (fun i _ _ => r c i (by omega) (by omega)), fun i i0 i1 => ?_, w3, fun i i0 i1 => ?_⟩
  · rw [r c i (by omega) (by omega)]; exact w2 i i0 i1
  · rw [r (c + 1) i (by omega) (by omega), r (c + 2) i (by omega) (by omega)]; exact w4 i i0 i1
def TCo (h : Hp) (A : Int) (T : Int → Int) : Prop := (mR h A 1 = T 4 ∧ mR h A 2 = T 5 ∧ mR h A 3 = T 6 ∧ mR h A 4 = T 0 ∧ mR h A 5 = T 1 ∧ mR h A 6 = T 2 ∧ mR h A 7 = T 3) ∧ (0 ≤ T 0 ∧ T 0 ≤ 3) ∧ (0 ≤ T 1 ∧ T 1 ≤ 6) ∧ (0 ≤ T 2 ∧ T 2 ≤ 3) ∧ (0 ≤ T 3 ∧ T 3 ≤ 16) ∧ (0 ≤ T 4 ∧ T 4 ≤ 500) ∧ (∀ i, 0 ≤ i → i < T 4 → mR h (A + 1) i = w8 (T (10 + i)) ∧ 0 ≤ T (10 + i) ∧ T (10 + i) ≤ 255) ∧ (∀ k, 0 ≤ k → k < T 0 → CatC h (A + 6 + 8 * k) (slc T (520 + 330 * k) 330)) ∧ (∀ k, 0 ≤ k → k < T 1 → HouC h (A + 30 + 4 * k) (slc T (1510 + 26 * k) 26)) ∧ (∀ k, 0 ≤ k → k < T 2 → SkyC h (A + 54 + 3 * k) (slc T (1670 + 18 * k) 18)) ∧ (∀ k j, 0 ≤ k → k < T 3 → 0 ≤ j → j < 4 → mR h (A + 63 + k) j = T (1730 + 4 * k + j)) ∧ (∀ k, 0 ≤ k → k < T 3 → Yok T k)
theorem TCo.of {h h' : Hp} {A : Int} {T : Int → Int} (w : TCo h A T) (k : SK h h') (r : ∀ b i, A ≤ b → b ≤ A + 78 → mR h' b i = mR h b i) : TCo h' A T := by
  unfold TCo at w ⊢
  rw [r A 1 (by omega) (by omega), r A 2 (by omega) (by omega), r A 3 (by omega) (by omega), r A 4 (by omega) (by omega), r A 5 (by omega) (by omega), r A 6 (by omega) (by omega), r A 7 (by omega) (by omega)]
  obtain ⟨w1, w2, w3, w4, w5, w6, w7, w8, w9, w10, w11, w12⟩ := w
  refine ⟨w1, w2, w3, w4, w5, w6, fun i i0 i1 => ?_, fun x x0 x1 => ?_, fun x x0 x1 => ?_, fun x x0 x1 => ?_, fun x j x0 x1 j0 j1 => ?_, w12⟩
  · rw [r (A + 1) i (by omega) (by omega)]; exact w7 i i0 i1
  · exact (w8 x x0 x1).of k (fun b i _ _ => r b i (by omega) (by omega))
  · exact ⟨(w9 x x0 x1).1.of k (fun b i _ _ => r b i (by omega) (by omega)), (w9 x x0 x1).2⟩
  · exact (w10 x x0 x1).of k (fun b i _ _ => r b i (by omega) (by omega))
  · rw [r (A + 63 + x) j (by omega) (by omega)]; exact w11 x j x0 x1 j0 j1
/-- the class's own cells besides what is told -/
def LSh (h : Hp) : Prop := mK h 1 = 11 ∧ (mR h 1 0 = 2 ∧ mR h 1 1 = 81 ∧ mR h 1 2 = 82 ∧ mR h 1 3 = 84 ∧ mR h 1 4 = 92 ∧ mR h 1 5 = 96 ∧ mR h 1 6 = 99 ∧ mR h 1 7 = 115 ∧ mR h 1 8 = 118 ∧ mR h 1 9 = 121) ∧ CatS h 84 ∧ HouS h 92 ∧ SkyS h 96 ∧ SurS h ∧ (mK h 115 = 5 ∧ mR h 115 1 = 116 ∧ mR h 115 2 = 117) ∧ ((mK h 116 = 102 ∧ mL h 116 = 24) ∧ (mK h 117 = 103 ∧ mL h 117 = 24)) ∧ (mK h 118 = 2 ∧ mR h 118 0 = 119 ∧ mR h 118 1 = 120) ∧ ((mK h 119 = 103 ∧ mL h 119 = 100) ∧ (mK h 120 = 104 ∧ mL h 120 = 100)) ∧ (mK h 121 = 4 ∧ mR h 121 0 = 122 ∧ mR h 121 1 = 123) ∧ ((mK h 122 = 103 ∧ mL h 122 = 7) ∧ (mK h 123 = 103 ∧ mL h 123 = 7)) ∧ (mK h 81 = 115 ∧ mL h 81 = 3) ∧ (mK h 82 = 6 ∧ mR h 82 0 = 83) ∧ (mK h 83 = 101 ∧ mL h 83 = 500)
/-- the cells that a question may change -/
def pZ (b i : Int) : Prop := (84 ≤ b ∧ b ≤ 133) ∧ ¬ (b = 84 ∧ 3 ≤ i ∧ i ≤ 9) ∧ ¬ (b = 92 ∧ 4 ≤ i ∧ i ≤ 6) ∧ ¬ (b = 96 ∧ 6 ≤ i ∧ i ≤ 7) ∧ ¬ (b = 99 ∧ 3 ≤ i ∧ i ≤ 5) ∧ ¬ (b = 115 ∧ 1 ≤ i ∧ i ≤ 2) ∧ ¬ (b = 118 ∧ i ≤ 1) ∧ ¬ (b = 121 ∧ i ≤ 1) ∧ ¬ (b = 124 ∧ (i ≤ 12 ∨ i = 22 ∨ i = 23 ∨ i = 27 ∨ i = 28)) ∧ ¬ (b = 125 ∧ i < 7200) ∧ b ≠ 126
theorem pL_Z (b i : Int) (q : pL b i) : pZ b i := by unfold pL at q; unfold pZ; omega
theorem pM_Z (b i : Int) (q : pM b i) : pZ b i := by unfold pM at q; unfold pZ; omega
theorem LSh.of {h h' : Hp} (w : LSh h) (f : Fr pZ h h') : LSh h' := by
  unfold LSh at w ⊢
  have r : ∀ b i, ¬ pZ b i → mR h' b i = mR h b i := f.2
  simp only [f.1.k, f.1.l]
  obtain ⟨w1, w2, w3, w4, w5, w6, w7⟩ := w
  rw [r 1 0 (by unfold pZ; omega), r 1 1 (by unfold pZ; omega), r 1 2 (by unfold pZ; omega), r 1 3 (by unfold pZ; omega), r 1 4 (by unfold pZ; omega), r 1 5 (by unfold pZ; omega), r 1 6 (by unfold pZ; omega), r 1 7 (by unfold pZ; omega), r 1 8 (by unfold pZ; omega), r 1 9 (by unfold pZ; omega), r 115 1 (by unfold pZ; omega), r 115 2 (by unfold pZ; omega), r 118 0 (by unfold pZ; omega), r 118 1 (by unfold pZ; omega), r 121 0 (by unfold pZ; omega), r 121 1 (by unfold pZ; omega), r 82 0 (by unfold pZ; omega)]
  exact ⟨w1, w2, w3.of f.1 (fun i _ _ => r _ i (by unfold pZ; omega)), w4.of f.1 (fun i _ _ => r _ i (by unfold pZ; omega)), w5.of f.1 (fun i _ _ => r _ i (by unfold pZ; omega)), w6.of f.1 (fun i _ _ => r _ i (by unfold pZ; omega)), w7⟩
/-- both hold the same -/
def Inv (h : Hp) (T : Int → Int) : Prop := LSh h ∧ TSh h 2 ∧ TCo h 2 T ∧ ModS h ∧ (∀ i, 0 ≤ i → i < 1800 → mR h 125 i = T i)
/-- a catalogue and a house of the reference -/
theorem Inv.mk {h : Hp} {T : Int → Int} (w : Inv h T) {k j y : Int} (k0 : 0 ≤ k) (k1 : k < T 0) (j0 : 0 ≤ j) (j1 : j < T 1) : MK h (520 + 330 * k) (1510 + 26 * j) y (slc T (520 + 330 * k) 330) (slc T (1510 + 26 * j) 26) := by
  obtain ⟨_, _, t, m, e⟩ := w
  have b0 := t.2.1
  have b1 := t.2.2.1
  refine ⟨m, by omega, by omega, fun o o0 o1 => (e _ (by omega) (by omega)).trans (slc_e o0 o1), fun o o0 o1 => (e _ (by omega) (by omega)).trans (slc_e o0 o1), ?_, ?_, rfl⟩
  · exact (t.2.2.2.2.2.2.2.1 k k0 k1).2.1
  · exact (t.2.2.2.2.2.2.2.2.1 j j0 j1).2.1
theorem Inv.of {h h' : Hp} {T : Int → Int} (w : Inv h T) (f : Fr pZ h h') : Inv h' T := by
  obtain ⟨w1, w2, w3, w4, w5⟩ := w
  refine ⟨w1.of f, w2.of f.1 (fun b i _ _ => f.2 b i (by unfold pZ; omega)), w3.of f.1 (fun b i _ _ => f.2 b i (by unfold pZ; omega)), w4.of f.1 (fun i hi => f.2 124 i (by unfold pZ; simp at hi; omega)), fun i i0 i1 => ?_⟩
  rw [f.2 125 i (by unfold pZ; omega)]
  exact w5 i i0 i1
