/-! Houses copied, followed, tried. -/
theorem okC_t {h : Hp} {s sp d dp n ls ld k : Int} (ks : mK h s = k ∧ mL h s = ls) (kd : mK h d = k ∧ mL h d = ld) (kk : k = 101 ∨ k = 102) (s0 : 0 < s) (d0 : 0 < d) (a0 : 0 ≤ sp) (b0 : 0 ≤ dp) (n0 : 0 ≤ n) (l1 : sp + n ≤ ls) (l2 : dp + n ≤ ld) : okC h s sp d dp n = true := decide_eq_true ⟨by rw [ks.1]; exact kk, by rw [kd.1, ks.1], s0, d0, a0, b0, n0, by rw [ks.2]; exact l1, by rw [kd.2]; exact l2⟩
theorem mC_in {h : Hp} {s d n j : Int} (j0 : 0 ≤ j) (j1 : j < n) : mR (mC h s 0 d 0 n) d j = mR h s j := by
  show (if d = d ∧ 0 ≤ j ∧ j < 0 + n then h.2.2 s (0 + (j - 0)) else h.2.2 d j) = h.2.2 s j
  rw [if_pos ⟨rfl, j0, by omega⟩, show 0 + (j - 0) = j by omega]
theorem mC_ne {h : Hp} {s d n b j : Int} (q : b ≠ d) : mR (mC h s 0 d 0 n) b j = mR h b j := if_neg (fun z => q z.1)
theorem Fr.C {p : Int → Int → Prop} (h : Hp) (s d n : Int) (hp : ∀ i, p d i) : Fr p h (mC h s 0 d 0 n) := ⟨SK.C h s 0 d 0 n, fun b j q => mC_ne (fun e => q (by rw [e]; exact hp j))⟩
def pH (d b i : Int) : Prop := (b = d ∧ 0 ≤ i ∧ i ≤ 3) ∨ b = d + 1 ∨ b = d + 2 ∨ b = d + 3
theorem s_hcopy {h : Hp} {a d : Int} {U : Int → Int} (w : HouV h a U) (u3 : U 3 ≤ 8) (s : HouS h d) (dis : a + 3 < d ∨ d + 3 < a) (nd : d + 3 < 99 ∨ 133 < d) : ∃ h', C_Ho_copy d a h = some (0, h') ∧ Fr (pH d) h h' ∧ HouV h' d U := by
  have a0 := w.1.1
  have d0 := s.1
  let k1 := mW h d 0 (U 0)
  let k2 := mW k1 d 1 (U 1)
  let k3 := mW k2 d 2 (U 2)
  let k4 := mW k3 d 3 (U 3)
  let k5 := mC k4 (a + 1) 0 (d + 1) 0 6
  let k6 := mC k5 (a + 2) 0 (d + 2) 0 8
  let k7 := mC k6 (a + 3) 0 (d + 3) 0 8
  have r4 : ∀ b i, b ≠ d → mR k4 b i = mR h b i := fun b i q => by show mR (mW (mW (mW (mW h d 0 _) d 1 _) d 2 _) d 3 _) b i = _; rw [mR_ne q, mR_ne q, mR_ne q, mR_ne q]
  have r4d : ∀ i, 4 ≤ i → mR k4 d i = mR h d i := fun i q => by show mR (mW (mW (mW (mW h d 0 _) d 1 _) d 2 _) d 3 _) d i = _; rw [mR_ni (by omega), mR_ni (by omega), mR_ni (by omega), mR_ni (by omega)]
  have r7 : ∀ b i, b ≠ d → b ≠ d + 1 → b ≠ d + 2 → b ≠ d + 3 → mR k7 b i = mR h b i := fun b i p1 p2 p3 p4 => by show mR (mC (mC (mC k4 _ 0 _ 0 6) _ 0 _ 0 8) _ 0 _ 0 8) b i = _; rw [mC_ne p4, mC_ne p3, mC_ne p2, r4 b i p1]
  have r7d : ∀ i, mR k7 d i = mR k4 d i := fun i => by show mR (mC (mC (mC k4 _ 0 _ 0 6) _ 0 _ 0 8) _ 0 _ 0 8) d i = _; rw [mC_ne (by omega), mC_ne (by omega), mC_ne (by omega)]
  have fr : Fr (pH d) h k7 := by
    have f4 : Fr (pH d) h k4 := (((Fr.W h (U 0) (by unfold pH; omega)).tr (Fr.W k1 (U 1) (by unfold pH; omega))).tr (Fr.W k2 (U 2) (by unfold pH; omega))).tr (Fr.W k3 (U 3) (by unfold pH; omega))
    exact ((f4.tr (Fr.C k4 (a + 1) (d + 1) 6 (fun i => by unfold pH; omega))).tr (Fr.C k5 (a + 2) (d + 2) 8 (fun i => by unfold pH; omega))).tr (Fr.C k6 (a + 3) (d + 3) 8 (fun i => by unfold pH; omega))
  refine ⟨k7, ?_, fr, ?_⟩
  · rw [E_Ho_copy]
    have q0 : mR k1 a 1 = U 1 := by show mR (mW h d 0 (U 0)) a 1 = _; rw [mR_ne (by omega)]; exact w.2.2.2.1
    have q1 : mR k2 a 2 = U 2 := by show mR (mW (mW h d 0 (U 0)) d 1 (U 1)) a 2 = _; rw [mR_ne (by omega), mR_ne (by omega)]; exact w.2.2.2.2.1
    have q2 : mR k3 a 3 = U 3 := by show mR (mW (mW (mW h d 0 (U 0)) d 1 (U 1)) d 2 (U 2)) a 3 = _; rw [mR_ne (by omega), mR_ne (by omega), mR_ne (by omega)]; exact w.2.2.2.2.2.1
    have q4a : mR k4 a 4 = a + 1 := by rw [r4 a 4 (by omega)]; exact h4 w.1
    have q4d : mR k4 d 4 = d + 1 := by rw [r4d 4 (by omega)]; exact h4 s
    have q5a : mR k5 a 5 = a + 2 := by show mR (mC k4 _ 0 _ 0 6) a 5 = _; rw [mC_ne (by omega), r4 a 5 (by omega)]; exact h5 w.1
    have q5d : mR k5 d 5 = d + 2 := by show mR (mC k4 _ 0 _ 0 6) d 5 = _; rw [mC_ne (by omega), r4d 5 (by omega)]; exact h5 s
    have q6a : mR k6 a 6 = a + 3 := by show mR (mC (mC k4 _ 0 _ 0 6) _ 0 _ 0 8) a 6 = _; rw [mC_ne (by omega), mC_ne (by omega), r4 a 6 (by omega)]; exact h6 w.1
    have q6d : mR k6 d 6 = d + 3 := by show mR (mC (mC k4 _ 0 _ 0 6) _ 0 _ 0 8) d 6 = _; rw [mC_ne (by omega), mC_ne (by omega), r4d 6 (by omega)]; exact h6 s
    have oa := hF w.1
    have od := hF s
    have c1 : okC k4 (a + 1) 0 (d + 1) 0 6 = true := okC_t (h := h) w.1.2.2.2.1 s.2.2.2.1 (by decide) (by omega) (by omega) (by omega) (by omega) (by omega) (by omega) (by omega)
    have c2 : okC k5 (a + 2) 0 (d + 2) 0 8 = true := okC_t (h := h) w.1.2.2.2.2.1 s.2.2.2.2.1 (by decide) (by omega) (by omega) (by omega) (by omega) (by omega) (by omega) (by omega)
    have c3 : okC k6 (a + 3) 0 (d + 3) 0 8 = true := okC_t (h := h) w.1.2.2.2.2.2 s.2.2.2.2.2 (by decide) (by omega) (by omega) (by omega) (by omega) (by omega) (by omega) (by omega)
    rw [if_pos oa, if_pos od, w.2.2.1, hb_eq]
    show (if okF k1 a 3 = true then _ else _) = _
    rw [if_pos (show okF k1 a 3 = true from oa), if_pos (show okF k1 d 3 = true from od), q0, hb_eq]
    show (if okF k2 a 3 = true then _ else _) = _
    rw [if_pos (show okF k2 a 3 = true from oa), if_pos (show okF k2 d 3 = true from od), q1, hb_eq]
    show (if okF k3 a 3 = true then _ else _) = _
    rw [if_pos (show okF k3 a 3 = true from oa), if_pos (show okF k3 d 3 = true from od), q2, hb_eq]
    show (if okF k4 a 3 = true then _ else _) = _
    rw [if_pos (show okF k4 a 3 = true from oa), if_pos (show okF k4 d 3 = true from od), q4a, q4d, if_pos c1, hb_eq]
    show (if okF k5 a 3 = true then _ else _) = _
    rw [if_pos (show okF k5 a 3 = true from oa), if_pos (show okF k5 d 3 = true from od), q5a, q5d, if_pos c2, hb_eq]
    show (if okF k6 a 3 = true then _ else _) = _
    rw [if_pos (show okF k6 a 3 = true from oa), if_pos (show okF k6 d 3 = true from od), q6a, q6d, if_pos c3, hb_eq]
  · refine ⟨s.of fr.1 (fun i i0 i1 => fr.2 d i (by unfold pH; omega)), nd, ?_, ?_, ?_, ?_, fun r r0 r1 => ?_, fun i i0 i1 => ⟨?_, ?_⟩⟩
    · rw [r7d]; show mR (mW (mW (mW (mW h d 0 _) d 1 _) d 2 _) d 3 _) d 0 = _; rw [mR_ni (by omega), mR_ni (by omega), mR_ni (by omega), mR_same]
    · rw [r7d]; show mR (mW (mW (mW (mW h d 0 _) d 1 _) d 2 _) d 3 _) d 1 = _; rw [mR_ni (by omega), mR_ni (by omega), mR_same]
    · rw [r7d]; show mR (mW (mW (mW (mW h d 0 _) d 1 _) d 2 _) d 3 _) d 2 = _; rw [mR_ni (by omega), mR_same]
    · rw [r7d]; show mR (mW (mW (mW (mW h d 0 _) d 1 _) d 2 _) d 3 _) d 3 = _; rw [mR_same]
    · show mR (mC (mC (mC k4 _ 0 _ 0 6) _ 0 _ 0 8) _ 0 _ 0 8) (d + 1) r = _; rw [mC_ne (by omega), mC_ne (by omega), mC_in r0 r1, r4 _ _ (by omega)]; exact w.2.2.2.2.2.2.1 r r0 r1
    · show mR (mC (mC (mC k4 _ 0 _ 0 6) _ 0 _ 0 8) _ 0 _ 0 8) (d + 2) i = _; rw [mC_ne (by omega), mC_in i0 (by omega), mC_ne (by omega), r4 _ _ (by omega)]; exact (w.2.2.2.2.2.2.2 i i0 i1).1
    · show mR (mC (mC (mC k4 _ 0 _ 0 6) _ 0 _ 0 8) _ 0 _ 0 8) (d + 3) i = _; rw [mC_in i0 (by omega), mC_ne (by omega), mC_ne (by omega), r4 _ _ (by omega)]; exact (w.2.2.2.2.2.2.2 i i0 i1).2
/-- a lean or the uses of a house told otherwise -/
theorem HouV.up4 {h : Hp} {d r p : Int} {U : Int → Int} (w : HouV h d U) (u3 : 0 ≤ U 3) (r0 : 0 ≤ r) (r1 : r < 6) : HouV (mW h (d + 1) r p) d (up1 U (4 + r) p) := by
  have m : ∀ b i, ¬ (b = d + 1 ∧ i = r) → mR (mW h (d + 1) r p) b i = mR h b i := fun b i q => by rw [mR_mW, if_neg q]
  have u : ∀ i, i ≠ 4 + r → up1 U (4 + r) p i = U i := fun i q => up1_n q
  unfold HouV
  rw [u 0 (by omega), u 1 (by omega), u 2 (by omega), u 3 (by omega), m d 0 (by omega), m d 1 (by omega), m d 2 (by omega), m d 3 (by omega)]
  refine ⟨w.1.of (SK.W h _ _ _) (fun i _ _ => m d i (by omega)), w.2.1, w.2.2.1, w.2.2.2.1, w.2.2.2.2.1, w.2.2.2.2.2.1, fun s s0 s1 => ?_, fun s s0 s1 => ?_⟩
  · by_cases z : s = r
    · rw [z, up1_s, mR_same]
    · rw [m _ s (by omega), u (4 + s) (by omega)]; exact w.2.2.2.2.2.2.1 s s0 s1
  · rw [m (d + 2) s (by omega), m (d + 3) s (by omega), u (10 + 2 * s) (by omega), u (11 + 2 * s) (by omega)]; exact w.2.2.2.2.2.2.2 s s0 s1
theorem HouV.up0 {h : Hp} {d p : Int} {U : Int → Int} (w : HouV h d U) : HouV (mW h d 0 p) d (up1 U 0 p) := by
  have m : ∀ b i, ¬ (b = d ∧ i = 0) → mR (mW h d 0 p) b i = mR h b i := fun b i q => by rw [mR_mW, if_neg q]
  have u : ∀ i, i ≠ 0 → up1 U 0 p i = U i := fun i q => up1_n q
  unfold HouV
  rw [up1_s, u 1 (by omega), u 2 (by omega), u 3 (by omega), mR_same, m d 1 (by omega), m d 2 (by omega), m d 3 (by omega)]
  refine ⟨w.1.of (SK.W h _ _ _) (fun i _ _ => m d i (by omega)), w.2.1, rfl, w.2.2.2.1, w.2.2.2.2.1, w.2.2.2.2.2.1, fun s s0 s1 => ?_, fun s s0 s1 => ?_⟩
  · rw [m _ s (by omega), u (4 + s) (by omega)]; exact w.2.2.2.2.2.2.1 s s0 s1
  · rw [m (d + 2) s (by omega), m (d + 3) s (by omega), u (10 + 2 * s) (by omega), u (11 + 2 * s) (by omega)]; exact w.2.2.2.2.2.2.2 s s0 s1
theorem Uok.up4 {U : Int → Int} (w : Uok U) {r p : Int} (r0 : 0 ≤ r) (r1 : r < 6) (p0 : -51 ≤ p) (p1 : p ≤ 51) : Uok (up1 U (4 + r) p) := by
  have u : ∀ i, i ≠ 4 + r → up1 U (4 + r) p i = U i := fun i q => up1_n q
  have u3 := w.1
  unfold Uok
  rw [u 3 (by omega)]
  refine ⟨w.1, fun s s0 s1 => ?_, fun s s0 s1 => ?_⟩
  · by_cases z : s = r
    · rw [z, up1_s]; omega
    · rw [u (4 + s) (by omega)]; exact w.2.1 s s0 s1
  · rw [u (10 + 2 * s) (by omega), u (11 + 2 * s) (by omega)]; exact w.2.2 s s0 s1
theorem Uok.up0 {U : Int → Int} (w : Uok U) {p : Int} : Uok (up1 U 0 p) := by
  have u : ∀ i, i ≠ 0 → up1 U 0 p i = U i := fun i q => up1_n q
  have u3 := w.1
  unfold Uok
  rw [u 3 (by omega)]
  refine ⟨w.1, fun s s0 s1 => ?_, fun s s0 s1 => ?_⟩
  · rw [u (4 + s) (by omega)]; exact w.2.1 s s0 s1
  · rw [u (10 + 2 * s) (by omega), u (11 + 2 * s) (by omega)]; exact w.2.2 s s0 s1
/-- one rung as the other house has it -/
def zFol (U W : Int → Int) (r : Int) : Int → Int := up1 (up1 U 0 (i_or (i_and (U 0) (i_xor (i_shl 1 r) (-1))) (i_and (W 0) (i_shl 1 r)))) (4 + r) (W (4 + r))
theorem s_follow {h : Hp} {d a r : Int} {U W : Int → Int} (w : HouV h d U) (v : HouV h a W) (u3 : 0 ≤ U 3) (dis : a + 3 < d ∨ d + 3 < a) (r0 : 0 ≤ r) (r1 : r < 6) : ∃ h', C_Ho_follow d a r h = some (0, h') ∧ Fr (pH d) h h' ∧ HouV h' d (zFol U W r) := by
  have d0 := w.1.1
  have w1 := w.up0 (p := i_or (i_and (U 0) (i_xor (i_shl 1 r) (-1))) (i_and (W 0) (i_shl 1 r)))
  have w2 := w1.up4 (r := r) (p := W (4 + r)) (by rw [up1_n (by omega)]; exact u3) r0 r1
  refine ⟨_, ?_, (Fr.W h (i_or (i_and (U 0) (i_xor (i_shl 1 r) (-1))) (i_and (W 0) (i_shl 1 r))) (show pH d d 0 by unfold pH; omega)).tr (Fr.W _ (W (4 + r)) (show pH d (d + 1) r by unfold pH; omega)), w2⟩
  have q1 : ∀ p, mR (mW h d 0 p) a 4 = a + 1 := fun p => by rw [mR_ne (by omega)]; exact h4 v.1
  have q2 : ∀ p, mR (mW h d 0 p) (a + 1) r = W (4 + r) := fun p => by rw [mR_ne (by omega)]; exact v.2.2.2.2.2.2.1 r r0 r1
  rw [E_Ho_follow, if_pos (hF w.1), if_pos (hF v.1), if_pos (hF w.1), w.2.2.1, v.2.2.1, hb_eq, okF_W, if_pos (hF w.1), okF_W, if_pos (hF v.1), q1, okA_W, if_pos (hA1 v.1 r0 r1), q2, h4 w1.1, okS_W, if_pos (okS_t w.1.2.2.2.1 (by omega) r0 r1), hb_eq]
theorem zFol_ok {U W : Int → Int} (w : Uok U) (v : Uok W) {r : Int} (r0 : 0 ≤ r) (r1 : r < 6) : Uok (zFol U W r) := w.up0.up4 r0 r1 (v.2.1 r r0 r1).1 (v.2.1 r r0 r1).2
