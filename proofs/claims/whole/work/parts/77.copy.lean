/-! Catalogues and skies copied. -/
theorem s_ccopy {h : Hp} {a d : Int} {V : Int → Int} (w : CatC h a V) (s : CatS h d) (dis : a + 7 < d ∨ d + 7 < a) (nd : d + 7 < 99 ∨ 133 < d) : ∃ h', C_Ca_copy d a h = some (0, h') ∧ Fr (pCa d) h h' ∧ CatC h' d V := by
  obtain ⟨a1, a2, a3, a4, a5, a6⟩ := w
  have v0 := a2.1
  have v1 := a2.2.1
  have aa := a1.1.1
  have d0 := s.1
  let k1 := mW h d 0 (V 0)
  let k2 := mW k1 d 1 (V 1)
  let k3 := mW k2 d 2 (V 2)
  let k4 := mC k3 (a + 1) 0 (d + 1) 0 6
  let k5 := mC k4 (a + 2) 0 (d + 2) 0 6
  let k6 := mC k5 (a + 3) 0 (d + 3) 0 6
  let k7 := mC k6 (a + 4) 0 (d + 4) 0 24
  let k8 := mC k7 (a + 5) 0 (d + 5) 0 144
  let k9 := mC k8 (a + 6) 0 (d + 6) 0 144
  let kz := mC k9 (a + 7) 0 (d + 7) 0 4
  have r3 : ∀ b i, b ≠ d → mR k3 b i = mR h b i := fun b i q => by show mR (mW (mW (mW h d 0 _) d 1 _) d 2 _) b i = _; rw [mR_ne q, mR_ne q, mR_ne q]
  have r3d : ∀ i, 3 ≤ i → mR k3 d i = mR h d i := fun i q => by show mR (mW (mW (mW h d 0 _) d 1 _) d 2 _) d i = _; rw [mR_ni (by omega), mR_ni (by omega), mR_ni (by omega)]
  have r4 : ∀ b i, b ≠ d + 1 → mR k4 b i = mR k3 b i := fun b i q => mC_ne q
  have r5 : ∀ b i, b ≠ d + 2 → mR k5 b i = mR k4 b i := fun b i q => mC_ne q
  have r6 : ∀ b i, b ≠ d + 3 → mR k6 b i = mR k5 b i := fun b i q => mC_ne q
  have r7 : ∀ b i, b ≠ d + 4 → mR k7 b i = mR k6 b i := fun b i q => mC_ne q
  have r8 : ∀ b i, b ≠ d + 5 → mR k8 b i = mR k7 b i := fun b i q => mC_ne q
  have r9 : ∀ b i, b ≠ d + 6 → mR k9 b i = mR k8 b i := fun b i q => mC_ne q
  have rz : ∀ b i, b ≠ d + 7 → mR kz b i = mR k9 b i := fun b i q => mC_ne q
  have c4' : ∀ i, 0 ≤ i → i < 6 → mR k4 (d + 1) i = mR k3 (a + 1) i := fun i i0 i1 => mC_in i0 i1
  have c5' : ∀ i, 0 ≤ i → i < 6 → mR k5 (d + 2) i = mR k4 (a + 2) i := fun i i0 i1 => mC_in i0 i1
  have c6' : ∀ i, 0 ≤ i → i < 6 → mR k6 (d + 3) i = mR k5 (a + 3) i := fun i i0 i1 => mC_in i0 i1
  have c7' : ∀ i, 0 ≤ i → i < 24 → mR k7 (d + 4) i = mR k6 (a + 4) i := fun i i0 i1 => mC_in i0 i1
  have c8' : ∀ i, 0 ≤ i → i < 144 → mR k8 (d + 5) i = mR k7 (a + 5) i := fun i i0 i1 => mC_in i0 i1
  have c9' : ∀ i, 0 ≤ i → i < 144 → mR k9 (d + 6) i = mR k8 (a + 6) i := fun i i0 i1 => mC_in i0 i1
  have cz' : ∀ i, 0 ≤ i → i < 4 → mR kz (d + 7) i = mR k9 (a + 7) i := fun i i0 i1 => mC_in i0 i1
  have fr : Fr (pCa d) h kz := by
    have f3 : Fr (pCa d) h k3 := ((Fr.W h (V 0) (by unfold pCa; omega)).tr (Fr.W k1 (V 1) (by unfold pCa; omega))).tr (Fr.W k2 (V 2) (by unfold pCa; omega))
    exact ((((((f3.tr (Fr.C k3 (a + 1) (d + 1) 6 (fun i => by unfold pCa; omega))).tr (Fr.C k4 (a + 2) (d + 2) 6 (fun i => by unfold pCa; omega))).tr (Fr.C k5 (a + 3) (d + 3) 6 (fun i => by unfold pCa; omega))).tr (Fr.C k6 (a + 4) (d + 4) 24 (fun i => by unfold pCa; omega))).tr (Fr.C k7 (a + 5) (d + 5) 144 (fun i => by unfold pCa; omega))).tr (Fr.C k8 (a + 6) (d + 6) 144 (fun i => by unfold pCa; omega))).tr (Fr.C k9 (a + 7) (d + 7) 4 (fun i => by unfold pCa; omega))
  refine ⟨kz, ?_, fr, ?_⟩
  · have oa := cF a1.1
    have od := cF s
    have q1 : mR k1 a 1 = V 1 := by show mR (mW h d 0 (V 0)) a 1 = _; rw [mR_ne (by omega)]; exact a1.2.2.2.1
    have q2 : mR k2 a 2 = V 2 := by show mR (mW (mW h d 0 (V 0)) d 1 (V 1)) a 2 = _; rw [mR_ne (by omega), mR_ne (by omega)]; exact a3
    have p3a : mR k3 a 3 = a + 1 := by rw [r3 a 3 (by omega)]; exact c3 a1.1
    have p3d : mR k3 d 3 = d + 1 := by rw [r3d 3 (by omega)]; exact c3 s
    have p4a : mR k4 a 4 = a + 2 := by rw [r4 a 4 (by omega), r3 a 4 (by omega)]; exact c4 a1.1
    have p4d : mR k4 d 4 = d + 2 := by rw [r4 d 4 (by omega), r3d 4 (by omega)]; exact c4 s
    have p5a : mR k5 a 5 = a + 3 := by rw [r5 a 5 (by omega), r4 a 5 (by omega), r3 a 5 (by omega)]; exact c5 a1.1
    have p5d : mR k5 d 5 = d + 3 := by rw [r5 d 5 (by omega), r4 d 5 (by omega), r3d 5 (by omega)]; exact c5 s
    have p6a : mR k6 a 6 = a + 4 := by rw [r6 a 6 (by omega), r5 a 6 (by omega), r4 a 6 (by omega), r3 a 6 (by omega)]; exact c6 a1.1
    have p6d : mR k6 d 6 = d + 4 := by rw [r6 d 6 (by omega), r5 d 6 (by omega), r4 d 6 (by omega), r3d 6 (by omega)]; exact c6 s
    have p7a : mR k7 a 7 = a + 5 := by rw [r7 a 7 (by omega), r6 a 7 (by omega), r5 a 7 (by omega), r4 a 7 (by omega), r3 a 7 (by omega)]; exact c7 a1.1
    have p7d : mR k7 d 7 = d + 5 := by rw [r7 d 7 (by omega), r6 d 7 (by omega), r5 d 7 (by omega), r4 d 7 (by omega), r3d 7 (by omega)]; exact c7 s
    have p8a : mR k8 a 8 = a + 6 := by rw [r8 a 8 (by omega), r7 a 8 (by omega), r6 a 8 (by omega), r5 a 8 (by omega), r4 a 8 (by omega), r3 a 8 (by omega)]; exact c8 a1.1
    have p8d : mR k8 d 8 = d + 6 := by rw [r8 d 8 (by omega), r7 d 8 (by omega), r6 d 8 (by omega), r5 d 8 (by omega), r4 d 8 (by omega), r3d 8 (by omega)]; exact c8 s
    have p9a : mR k9 a 9 = a + 7 := by rw [r9 a 9 (by omega), r8 a 9 (by omega), r7 a 9 (by omega), r6 a 9 (by omega), r5 a 9 (by omega), r4 a 9 (by omega), r3 a 9 (by omega)]; exact c9 a1.1
    have p9d : mR k9 d 9 = d + 7 := by rw [r9 d 9 (by omega), r8 d 9 (by omega), r7 d 9 (by omega), r6 d 9 (by omega), r5 d 9 (by omega), r4 d 9 (by omega), r3d 9 (by omega)]; exact c9 s
    have x3 : okC k3 (a + 1) 0 (d + 1) 0 6 = true := okC_t (h := h) a1.1.2.2.2.1 s.2.2.2.1 (by decide) (by omega) (by omega) (by omega) (by omega) (by omega) (by omega) (by omega)
    have x4 : okC k4 (a + 2) 0 (d + 2) 0 6 = true := okC_t (h := h) a1.1.2.2.2.2.1 s.2.2.2.2.1 (by decide) (by omega) (by omega) (by omega) (by omega) (by omega) (by omega) (by omega)
    have x5 : okC k5 (a + 3) 0 (d + 3) 0 6 = true := okC_t (h := h) a1.1.2.2.2.2.2.1 s.2.2.2.2.2.1 (by decide) (by omega) (by omega) (by omega) (by omega) (by omega) (by omega) (by omega)
    have x6 : okC k6 (a + 4) 0 (d + 4) 0 24 = true := okC_t (h := h) a1.1.2.2.2.2.2.2.1 s.2.2.2.2.2.2.1 (by decide) (by omega) (by omega) (by omega) (by omega) (by omega) (by omega) (by omega)
    have x7 : okC k7 (a + 5) 0 (d + 5) 0 144 = true := okC_t (h := h) a1.1.2.2.2.2.2.2.2.1 s.2.2.2.2.2.2.2.1 (by decide) (by omega) (by omega) (by omega) (by omega) (by omega) (by omega) (by omega)
    have x8 : okC k8 (a + 6) 0 (d + 6) 0 144 = true := okC_t (h := h) a1.1.2.2.2.2.2.2.2.2.1 s.2.2.2.2.2.2.2.2.1 (by decide) (by omega) (by omega) (by omega) (by omega) (by omega) (by omega) (by omega)
    have x9 : okC k9 (a + 7) 0 (d + 7) 0 4 = true := okC_t (h := h) a1.1.2.2.2.2.2.2.2.2.2 s.2.2.2.2.2.2.2.2.2 (by decide) (by omega) (by omega) (by omega) (by omega) (by omega) (by omega) (by omega)
    rw [E_Ca_copy, if_pos oa, if_pos od, a1.2.2.1, hb_eq]
    show (if okF k1 a 1 = true then _ else _) = _
    rw [if_pos (show okF k1 a 1 = true from oa), if_pos (show okF k1 d 1 = true from od), q1, hb_eq]
    show (if okF k2 a 1 = true then _ else _) = _
    rw [if_pos (show okF k2 a 1 = true from oa), if_pos (show okF k2 d 1 = true from od), q2, hb_eq]
    show (if okF k3 a 1 = true then _ else _) = _
    rw [if_pos (show okF k3 a 1 = true from oa), if_pos (show okF k3 d 1 = true from od), p3a, p3d, if_pos x3, hb_eq]
    show (if okF k4 a 1 = true then _ else _) = _
    rw [if_pos (show okF k4 a 1 = true from oa), if_pos (show okF k4 d 1 = true from od), p4a, p4d, if_pos x4, hb_eq]
    show (if okF k5 a 1 = true then _ else _) = _
    rw [if_pos (show okF k5 a 1 = true from oa), if_pos (show okF k5 d 1 = true from od), p5a, p5d, if_pos x5, hb_eq]
    show (if okF k6 a 1 = true then _ else _) = _
    rw [if_pos (show okF k6 a 1 = true from oa), if_pos (show okF k6 d 1 = true from od), p6a, p6d, if_pos x6, hb_eq]
    show (if okF k7 a 1 = true then _ else _) = _
    rw [if_pos (show okF k7 a 1 = true from oa), if_pos (show okF k7 d 1 = true from od), p7a, p7d, if_pos x7, hb_eq]
    show (if okF k8 a 1 = true then _ else _) = _
    rw [if_pos (show okF k8 a 1 = true from oa), if_pos (show okF k8 d 1 = true from od), p8a, p8d, if_pos x8, hb_eq]
    show (if okF k9 a 1 = true then _ else _) = _
    rw [if_pos (show okF k9 a 1 = true from oa), if_pos (show okF k9 d 1 = true from od), p9a, p9d, if_pos x9, hb_eq]
  · have t0 : ∀ i, mR kz d i = mR k3 d i := fun i => by rw [rz d i (by omega), r9 d i (by omega), r8 d i (by omega), r7 d i (by omega), r6 d i (by omega), r5 d i (by omega), r4 d i (by omega)]
    have t1 : ∀ i, 0 ≤ i → i < 6 → mR kz (d + 1) i = mR h (a + 1) i := fun i i0 i1 => by rw [rz _ i (by omega), r9 _ i (by omega), r8 _ i (by omega), r7 _ i (by omega), r6 _ i (by omega), r5 _ i (by omega), c4' i i0 i1, r3 _ i (by omega)]
    have t2 : ∀ i, 0 ≤ i → i < 6 → mR kz (d + 2) i = mR h (a + 2) i := fun i i0 i1 => by rw [rz _ i (by omega), r9 _ i (by omega), r8 _ i (by omega), r7 _ i (by omega), r6 _ i (by omega), c5' i i0 i1, r4 _ i (by omega), r3 _ i (by omega)]
    have t3 : ∀ i, 0 ≤ i → i < 6 → mR kz (d + 3) i = mR h (a + 3) i := fun i i0 i1 => by rw [rz _ i (by omega), r9 _ i (by omega), r8 _ i (by omega), r7 _ i (by omega), c6' i i0 i1, r5 _ i (by omega), r4 _ i (by omega), r3 _ i (by omega)]
    have t4 : ∀ i, 0 ≤ i → i < 24 → mR kz (d + 4) i = mR h (a + 4) i := fun i i0 i1 => by rw [rz _ i (by omega), r9 _ i (by omega), r8 _ i (by omega), c7' i i0 i1, r6 _ i (by omega), r5 _ i (by omega), r4 _ i (by omega), r3 _ i (by omega)]
    have t5 : ∀ i, 0 ≤ i → i < 144 → mR kz (d + 5) i = mR h (a + 5) i := fun i i0 i1 => by rw [rz _ i (by omega), r9 _ i (by omega), c8' i i0 i1, r7 _ i (by omega), r6 _ i (by omega), r5 _ i (by omega), r4 _ i (by omega), r3 _ i (by omega)]
    have t6 : ∀ i, 0 ≤ i → i < 144 → mR kz (d + 6) i = mR h (a + 6) i := fun i i0 i1 => by rw [rz _ i (by omega), c9' i i0 i1, r8 _ i (by omega), r7 _ i (by omega), r6 _ i (by omega), r5 _ i (by omega), r4 _ i (by omega), r3 _ i (by omega)]
    have t7 : ∀ i, 0 ≤ i → i < 4 → mR kz (d + 7) i = mR h (a + 7) i := fun i i0 i1 => by rw [cz' i i0 i1, r9 _ i (by omega), r8 _ i (by omega), r7 _ i (by omega), r6 _ i (by omega), r5 _ i (by omega), r4 _ i (by omega), r3 _ i (by omega)]
    refine ⟨⟨s.of fr.1 (fun i i0 i1 => fr.2 d i (by unfold pCa; omega)), nd, ?_, ?_, fun r r0 r1 => ?_, fun t t0 t1 => ?_, fun t r t0 t1 r0 r1 => ?_⟩, a2, ?_, a4, fun i i0 i1 => ?_, fun i i0 i1 => ?_⟩
    · rw [t0]; show mR (mW (mW (mW h d 0 _) d 1 _) d 2 _) d 0 = _; rw [mR_ni (by omega), mR_ni (by omega), mR_same]
    · rw [t0]; show mR (mW (mW (mW h d 0 _) d 1 _) d 2 _) d 1 = _; rw [mR_ni (by omega), mR_same]
    · rw [t1 r r0 (by omega), t2 r r0 (by omega), t3 r r0 (by omega)]; exact a1.2.2.2.2.1 r r0 r1
    · rw [t4 t t0 (by omega)]; exact a1.2.2.2.2.2.1 t t0 t1
    · rw [t5 _ (by omega) (by omega), t6 _ (by omega) (by omega)]; exact a1.2.2.2.2.2.2 t r t0 t1 r0 r1
    · rw [t0]; show mR (mW (mW (mW h d 0 _) d 1 _) d 2 _) d 2 = _; rw [mR_same]
    · rw [t5 i i0 i1]; exact a5 i i0 i1
    · rw [t7 i i0 (by omega)]; exact a6 i i0 i1
def pSk (c b i : Int) : Prop := (b = c ∧ 0 ≤ i ∧ i ≤ 5) ∨ b = c + 1 ∨ b = c + 2
theorem s_kcopy {h : Hp} {a d : Int} {S : Int → Int} (w : SkyC h a S) (s : SkyS h d) (dis : a + 2 < d ∨ d + 2 < a) : ∃ h', C_Sk_copy d a h = some (0, h') ∧ Fr (pSk d) h h' ∧ SkyC h' d S := by
  obtain ⟨w1, w2, w3, w4⟩ := w
  have s0 := w3.1
  have a0 := w1.1
  have d0 := s.1
  let k1 := mW h d 0 (S 0)
  let k2 := mW k1 d 1 (S 1)
  let k3 := mW k2 d 2 (S 2)
  let k4 := mW k3 d 3 (S 3)
  let k5 := mW k4 d 4 (S 4)
  let k6 := mW k5 d 5 (S 5)
  let k7 := mC k6 (a + 1) 0 (d + 1) 0 6
  let k8 := mC k7 (a + 2) 0 (d + 2) 0 6
  have r1 : ∀ b i, b ≠ d → mR k1 b i = mR h b i := fun b i q => mR_ne q
  have r2 : ∀ b i, b ≠ d → mR k2 b i = mR k1 b i := fun b i q => mR_ne q
  have r3 : ∀ b i, b ≠ d → mR k3 b i = mR k2 b i := fun b i q => mR_ne q
  have r4 : ∀ b i, b ≠ d → mR k4 b i = mR k3 b i := fun b i q => mR_ne q
  have r5 : ∀ b i, b ≠ d → mR k5 b i = mR k4 b i := fun b i q => mR_ne q
  have r6 : ∀ b i, b ≠ d → mR k6 b i = mR k5 b i := fun b i q => mR_ne q
  have r7 : ∀ b i, b ≠ d + 1 → mR k7 b i = mR k6 b i := fun b i q => mC_ne q
  have r8 : ∀ b i, b ≠ d + 2 → mR k8 b i = mR k7 b i := fun b i q => mC_ne q
  have r6h : ∀ b i, b ≠ d → mR k6 b i = mR h b i := fun b i q => by rw [r6 b i q, r5 b i q, r4 b i q, r3 b i q, r2 b i q, r1 b i q]
  have r6d : ∀ i, 6 ≤ i → mR k6 d i = mR h d i := fun i q => by show mR (mW (mW (mW (mW (mW (mW h d 0 _) d 1 _) d 2 _) d 3 _) d 4 _) d 5 _) d i = _; rw [mR_ni (by omega), mR_ni (by omega), mR_ni (by omega), mR_ni (by omega), mR_ni (by omega), mR_ni (by omega)]
  have fr : Fr (pSk d) h k8 := by
    have f6 : Fr (pSk d) h k6 := (((((Fr.W h (S 0) (by unfold pSk; omega)).tr (Fr.W k1 (S 1) (by unfold pSk; omega))).tr (Fr.W k2 (S 2) (by unfold pSk; omega))).tr (Fr.W k3 (S 3) (by unfold pSk; omega))).tr (Fr.W k4 (S 4) (by unfold pSk; omega))).tr (Fr.W k5 (S 5) (by unfold pSk; omega))
    exact (f6.tr (Fr.C k6 (a + 1) (d + 1) 6 (fun i => by unfold pSk; omega))).tr (Fr.C k7 (a + 2) (d + 2) 6 (fun i => by unfold pSk; omega))
  have oa : okF h a 8 = true := okF_t w1.2.1
  have od : okF h d 8 = true := okF_t s.2.1
  refine ⟨k8, ?_, fr, s.of fr.1 (fun i i0 i1 => fr.2 d i (by unfold pSk; omega)), fun i i0 i1 => ?_, w3, fun i i0 i1 => ?_⟩
  · have q0 := w2 0 (by omega) (by omega)
    have q1 : mR k1 a 1 = S 1 := by rw [r1 a 1 (by omega)]; exact w2 1 (by omega) (by omega)
    have q2 : mR k2 a 2 = S 2 := by rw [r2 a 2 (by omega), r1 a 2 (by omega)]; exact w2 2 (by omega) (by omega)
    have q3 : mR k3 a 3 = S 3 := by rw [r3 a 3 (by omega), r2 a 3 (by omega), r1 a 3 (by omega)]; exact w2 3 (by omega) (by omega)
    have q4 : mR k4 a 4 = S 4 := by rw [r4 a 4 (by omega), r3 a 4 (by omega), r2 a 4 (by omega), r1 a 4 (by omega)]; exact w2 4 (by omega) (by omega)
    have q5 : mR k5 a 5 = S 5 := by rw [r5 a 5 (by omega), r4 a 5 (by omega), r3 a 5 (by omega), r2 a 5 (by omega), r1 a 5 (by omega)]; exact w2 5 (by omega) (by omega)
    have p6a : mR k6 a 6 = a + 1 := by rw [r6h a 6 (by omega)]; exact w1.2.2.1.1
    have p6d : mR k6 d 6 = d + 1 := by rw [r6d 6 (by omega)]; exact s.2.2.1.1
    have p7a : mR k7 a 7 = a + 2 := by rw [r7 a 7 (by omega), r6h a 7 (by omega)]; exact w1.2.2.1.2
    have p7d : mR k7 d 7 = d + 2 := by rw [r7 d 7 (by omega), r6d 7 (by omega)]; exact s.2.2.1.2
    have x6 : okC k6 (a + 1) 0 (d + 1) 0 6 = true := okC_t (h := h) w1.2.2.2.1 s.2.2.2.1 (by decide) (by omega) (by omega) (by omega) (by omega) (by omega) (by omega) (by omega)
    have x7 : okC k7 (a + 2) 0 (d + 2) 0 6 = true := okC_t (h := h) w1.2.2.2.2 s.2.2.2.2 (by decide) (by omega) (by omega) (by omega) (by omega) (by omega) (by omega) (by omega)
    rw [E_Sk_copy, if_pos oa, if_pos od, q0, hb_eq]
    show (if okF k1 a 8 = true then _ else _) = _
    rw [if_pos (show okF k1 a 8 = true from oa), if_pos (show okF k1 d 8 = true from od), q1, hb_eq]
    show (if okF k2 a 8 = true then _ else _) = _
    rw [if_pos (show okF k2 a 8 = true from oa), if_pos (show okF k2 d 8 = true from od), q2, hb_eq]
    show (if okF k3 a 8 = true then _ else _) = _
    rw [if_pos (show okF k3 a 8 = true from oa), if_pos (show okF k3 d 8 = true from od), q3, hb_eq]
    show (if okF k4 a 8 = true then _ else _) = _
    rw [if_pos (show okF k4 a 8 = true from oa), if_pos (show okF k4 d 8 = true from od), q4, hb_eq]
    show (if okF k5 a 8 = true then _ else _) = _
    rw [if_pos (show okF k5 a 8 = true from oa), if_pos (show okF k5 d 8 = true from od), q5, hb_eq]
    show (if okF k6 a 8 = true then _ else _) = _
    rw [if_pos (show okF k6 a 8 = true from oa), if_pos (show okF k6 d 8 = true from od), p6a, p6d, if_pos x6, hb_eq]
    show (if okF k7 a 8 = true then _ else _) = _
    rw [if_pos (show okF k7 a 8 = true from oa), if_pos (show okF k7 d 8 = true from od), p7a, p7d, if_pos x7, hb_eq]
  · rw [r8 d i (by omega), r7 d i (by omega)]
    show mR (mW (mW (mW (mW (mW (mW h d 0 _) d 1 _) d 2 _) d 3 _) d 4 _) d 5 _) d i = _
    have : i = 0 ∨ i = 1 ∨ i = 2 ∨ i = 3 ∨ i = 4 ∨ i = 5 := by omega
    rcases this with z | z | z | z | z | z
    · rw [z, mR_ni (by omega), mR_ni (by omega), mR_ni (by omega), mR_ni (by omega), mR_ni (by omega), mR_same]
    · rw [z, mR_ni (by omega), mR_ni (by omega), mR_ni (by omega), mR_ni (by omega), mR_same]
    · rw [z, mR_ni (by omega), mR_ni (by omega), mR_ni (by omega), mR_same]
    · rw [z, mR_ni (by omega), mR_ni (by omega), mR_same]
    · rw [z, mR_ni (by omega), mR_same]
    · rw [z, mR_same]
  · have t1 : mR k8 (d + 1) i = mR h (a + 1) i := by
      rw [r8 _ i (by omega), show mR k7 (d + 1) i = mR k6 (a + 1) i from mC_in i0 (by omega), r6h _ i (by omega)]
    have t2 : mR k8 (d + 2) i = mR h (a + 2) i := by
      rw [show mR k8 (d + 2) i = mR k7 (a + 2) i from mC_in i0 (by omega), r7 _ i (by omega), r6h _ i (by omega)]
    rw [t1, t2]; exact w4 i i0 i1
