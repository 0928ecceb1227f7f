/-! feed. -/
def ap (T : Int → Int) (v : Int) : Int → Int := up1 (up1 T (10 + T 4) v) 4 (T 4 + 1)
def yB (a s : Int) : Int := i_and (i_shr a s) 255
theorem yB_b (a s : Int) : 0 ≤ yB a s ∧ yB a s ≤ 255 := by unfold yB; rw [and255]; omega
theorem ap4 (T : Int → Int) (v : Int) : ap T v 4 = T 4 + 1 := up1_s _ _ _
theorem TCo_app {h h' : Hp} {T : Int → Int} {v : Int} (w : TCo h 2 T) (l : T 4 < 500) (v0 : 0 ≤ v ∧ v ≤ 255) (f : SK h h') (r : ∀ c i, 2 ≤ c → c ≤ 80 → ¬ (c = 3 ∧ i = T 4) → ¬ (c = 2 ∧ i = 1) → mR h' c i = mR h c i) (e0 : mR h' 2 1 = T 4 + 1) (e1 : mR h' 3 (T 4) = w8 v) : TCo h' 2 (ap T v) := by
  unfold TCo at w ⊢
  obtain ⟨y1, y2, y3, y4, y5, y6, y7, y8, y9, y10, y11, y12⟩ := w
  have t : ∀ i, i ≠ 4 → i ≠ 10 + T 4 → ap T v i = T i := fun i p q => by unfold ap; rw [up1_n p, up1_n q]
  have t1 : ap T v (10 + T 4) = v := by unfold ap; rw [up1_n (by omega), up1_s]
  rw [e0, ap4, t 0 (by omega) (by omega), t 1 (by omega) (by omega), t 2 (by omega) (by omega), t 3 (by omega) (by omega), t 5 (by omega) (by omega), t 6 (by omega) (by omega), r 2 2 (by omega) (by omega) (by omega) (by omega), r 2 3 (by omega) (by omega) (by omega) (by omega), r 2 4 (by omega) (by omega) (by omega) (by omega), r 2 5 (by omega) (by omega) (by omega) (by omega), r 2 6 (by omega) (by omega) (by omega) (by omega), r 2 7 (by omega) (by omega) (by omega) (by omega)]
  refine ⟨⟨rfl, y1.2⟩, y2, y3, y4, y5, by omega, fun i i0 i1 => ?_, fun x x0 x1 => ?_, fun x x0 x1 => ?_, fun x x0 x1 => ?_, fun x j x0 x1 j0 j1 => ?_, fun x x0 x1 => ?_⟩
  · by_cases z : i = T 4
    · rw [z, t1, show (2 + 1 : Int) = 3 by decide, e1]; exact ⟨rfl, v0⟩
    · rw [r (2 + 1) i (by omega) (by omega) (by omega) (by omega), t (10 + i) (by omega) (by omega)]; exact y7 i i0 (by omega)
  · rw [slc_cg (T := T) (T' := ap T v) (fun o o0 o1 => t _ (by omega) (by omega))]; exact (y8 x x0 x1).of f (fun b i _ _ => r b i (by omega) (by omega) (by omega) (by omega))
  · rw [slc_cg (T := T) (T' := ap T v) (fun o o0 o1 => t _ (by omega) (by omega))]; exact ⟨(y9 x x0 x1).1.of f (fun b i _ _ => r b i (by omega) (by omega) (by omega) (by omega)), (y9 x x0 x1).2⟩
  · rw [slc_cg (T := T) (T' := ap T v) (fun o o0 o1 => t _ (by omega) (by omega))]; exact (y10 x x0 x1).of f (fun b i _ _ => r b i (by omega) (by omega) (by omega) (by omega))
  · rw [r (2 + 63 + x) j (by omega) (by omega) (by omega) (by omega), t _ (by omega) (by omega)]; exact y11 x j x0 x1 j0 j1
  · exact Yok_cg (y12 x x0 x1) (fun i i0 i1 => t i (by omega) (by omega)) (by rw [t 1 (by omega) (by omega)]; exact Int.le_refl _)
theorem l_app1 {h : Hp} {T : Int → Int} (w : CIn h T) (l : T 4 < 500) {a s : Int} (s0 : 0 ≤ s) (s1 : s ≤ 24) : ∃ h', P_To_append_3 2 a s h = P_To_append_3 2 a (s - 8) h' ∧ Fr pW h h' ∧ CIn h' (ap T (yB a s)) := by
  have o2 : okF h 2 10 = true := okF_t w.2.1.2.1
  have l0 := w.2.2.2.2.2.2.2.1
  have e1 : mR h 2 1 = T 4 := w.2.2.1.1
  have e0 : mR h 2 0 = 3 := w.2.1.2.2.1.1
  have A : okS h 3 101 (T 4) = true := okS_t w.2.1.2.2.2.1 (by decide) l0.1 l
  have m1 : mR (mW h 3 (T 4) (w8 (w8 (i_shr a s)))) 2 1 = T 4 := by rw [mR_ne (by omega), e1]
  have ff : Fr pW h (mW (mW h 3 (T 4) (w8 (w8 (i_shr a s)))) 2 1 (T 4 + 1)) := (Fr.W h _ (by unfold pW; omega)).tr (Fr.W _ _ (by unfold pW; omega))
  refine ⟨_, ?_, ff, w.w ff (TCo_app w.2.2 l (yB_b a s) ff.1 (fun c i _ _ p q => ?_) (mR_same _ _ _ _) ?_)⟩
  · rw [E_To_append_3, if_neg (show ¬ s < 0 by omega), if_pos o2, e1, if_pos l, if_pos o2, if_pos o2, e0, if_pos A, hb_eq, okF_W, if_pos o2, if_pos o2, hb_eq, m1, w32_id (x := T 4 + 1) (by omega) (by omega), w32_id (x := s + -8) (by omega) (by omega)]
    rfl
  · rw [mR_mW, if_neg (by omega), mR_mW, if_neg (by omega)]
  · rw [mR_ne (by omega), mR_same, w8_w8]; unfold yB; rw [and255, w8_m]
def apN (T : Int → Int) (a : Int) : Int → Int := ap (ap (ap (ap T (yB a 24)) (yB a 16)) (yB a 8)) (yB a 0)
theorem apN4 (T : Int → Int) (a : Int) : apN T a 4 = T 4 + 4 := by unfold apN; rw [ap4, ap4, ap4, ap4]; omega
theorem s_app {h : Hp} {T : Int → Int} (w : CIn h T) (l : T 4 + 4 ≤ 500) (a : Int) : ∃ h', C_To_append 2 a h = some (0, h') ∧ Fr pW h h' ∧ CIn h' (apN T a) := by
  rw [E_To_append]
  obtain ⟨h1, g1, f1, w1⟩ := l_app1 w (by omega) (a := a) (s := 24) (by omega) (by omega)
  obtain ⟨h2, g2, f2, w2⟩ := l_app1 w1 (by rw [ap4]; omega) (a := a) (s := 16) (by omega) (by omega)
  obtain ⟨h3, g3, f3, w3⟩ := l_app1 w2 (by rw [ap4, ap4]; omega) (a := a) (s := 8) (by omega) (by omega)
  obtain ⟨h4, g4, f4, w4⟩ := l_app1 w3 (by rw [ap4, ap4, ap4]; omega) (a := a) (s := 0) (by omega) (by omega)
  refine ⟨h4, ?_, ((f1.tr f2).tr f3).tr f4, w4⟩
  rw [g1, show (24 - 8 : Int) = 16 by decide, g2, show (16 - 8 : Int) = 8 by decide, g3, show (8 - 8 : Int) = 0 by decide, g4, E_To_append_3, if_pos (by decide)]
def tFeed (T : Int → Int) (a b c d e : Int) : Int → Int := if 500 < T 4 + 20 then T else apN (apN (apN (apN (apN T a) b) c) d) e
def aFeed (T : Int → Int) : Int := if 500 < T 4 + 20 then -1 else T 4 + 20
theorem q_feed {h : Hp} {T : Int → Int} (w : Inv h T) (a b c d e : Int) : ∃ h', C_LS_feed 1 a b c d e h = some (aFeed T, h') ∧ Fr pW h h' ∧ CIn h' (tFeed T a b c d e) := by
  have l0 := w.2.2.1.2.2.2.2.2.1
  have e1 : mR h 2 1 = T 4 := w.2.2.1.1.1
  rw [E_LS_feed, if_pos (iv1 w), iv10 w, if_pos (iv2 w), e1, w32_id (x := T 4 + 20) (by omega) (by omega)]
  unfold aFeed tFeed
  by_cases q : 500 < T 4 + 20
  · rw [if_pos q, if_pos q, if_pos q]; exact ⟨h, rfl, Fr.rf _ h, w.c⟩
  · rw [if_neg q, if_neg q, if_neg q, if_pos (iv1 w), if_pos (iv2 w)]
    have o1 : ∀ {g : Hp} {S : Int → Int}, CIn g S → okF g 1 11 = true ∧ mR g 1 0 = 2 ∧ okF g 2 10 = true ∧ mR g 2 1 = S 4 := fun w => ⟨okF_t w.1.1, w.1.2.1.1, okF_t w.2.1.2.1, w.2.2.1.1⟩
    obtain ⟨h1, g1, f1, w1⟩ := s_app w.c (by omega) a
    obtain ⟨h2, g2, f2, w2⟩ := s_app w1 (by rw [apN4]; omega) b
    obtain ⟨h3, g3, f3, w3⟩ := s_app w2 (by rw [apN4, apN4]; omega) c
    obtain ⟨h4, g4, f4, w4⟩ := s_app w3 (by rw [apN4, apN4, apN4]; omega) d
    obtain ⟨h5, g5, f5, w5⟩ := s_app w4 (by rw [apN4, apN4, apN4, apN4]; omega) e
    refine ⟨h5, ?_, (((f1.tr f2).tr f3).tr f4).tr f5, w5⟩
    rw [g1, bind_some', if_pos (o1 w1).1, (o1 w1).2.1, if_pos (o1 w1).2.2.1, g2, bind_some', if_pos (o1 w2).1, (o1 w2).2.1, if_pos (o1 w2).2.2.1, g3, bind_some', if_pos (o1 w3).1, (o1 w3).2.1, if_pos (o1 w3).2.2.1, g4, bind_some', if_pos (o1 w4).1, (o1 w4).2.1, if_pos (o1 w4).2.2.1, g5, bind_some', if_pos (o1 w5).1, (o1 w5).2.1, if_pos (o1 w5).2.2.1, (o1 w5).2.2.2, apN4, apN4, apN4, apN4, apN4, show T 4 + 4 + 4 + 4 + 4 + 4 = T 4 + 20 by omega]
theorem l_mfeed1 {h : Hp} {T : Int → Int} (w : MIn h T) (l0 : 0 ≤ T 4) (l : T 4 < 500) {a b c d e i v s : Int} (i0 : 0 ≤ i) (i1 : i < 20) (es : 24 - 8 * (Int.tmod i 4) = s) : ∃ h', P_Mo_feed_73 124 a b c d e i v h = P_Mo_feed_20 124 a b c d e (i + 1) h' ∧ Fr pD h h' ∧ MIn h' (ap T (yB v s)) := by
  have tm : 0 ≤ Int.tmod i 4 ∧ Int.tmod i 4 < 4 := by rw [Int.tmod_eq_emod_of_nonneg i0]; omega
  have w1 := w.up (10 + T 4) (yB v s)
  have w2 := w1.up 4 (T 4 + 1)
  have e4 := w1.2 4 (by omega) (by omega)
  rw [up1_n (by omega)] at e4
  refine ⟨_, ?_, (Fr.W h (yB v s) (show pD 125 (10 + T 4) by unfold pD; omega)).tr (Fr.W _ (T 4 + 1) (show pD 125 4 by unfold pD; omega)), w2⟩
  rw [E_Mo_feed_73, if_pos (miO w), if_pos (miO w), mi0 w, if_pos (miA w (by omega) (by omega)), w.2 4 (by omega) (by omega), w32_id (x := 10 + T 4) (by omega) (by omega), if_pos (miS w (by omega) (by omega)), hb_eq, w32_id (x := 8 * Int.tmod i 4) (by omega) (by omega), w32_id (x := 24 - 8 * Int.tmod i 4) (by omega) (by omega), es]
  have ed : i_and (i_shr v s) 255 = yB v s := rfl
  rw [ed, if_pos (miO w1), mi0 w1, if_pos (miA w1 (by omega) (by omega)), if_pos (miS w1 (by omega) (by omega)), hb_eq, e4, w32_id (x := T 4 + 1) (by omega) (by omega), w32_id (x := i + 1) (by omega) (by omega)]
theorem l_mfeed4 {h : Hp} {T : Int → Int} (w : MIn h T) (l0 : 0 ≤ T 4) (l : T 4 + 4 ≤ 500) {a b c d e i v : Int} (i0 : 0 ≤ i) (i1 : i + 3 < 20) (i4 : i % 4 = 0) (sel : ∀ j g, i ≤ j → j < i + 4 → P_Mo_feed_20 124 a b c d e j g = P_Mo_feed_73 124 a b c d e j v g) : ∃ h', P_Mo_feed_20 124 a b c d e i h = P_Mo_feed_20 124 a b c d e (i + 4) h' ∧ Fr pD h h' ∧ MIn h' (apN T v) := by
  have e0 : 24 - 8 * (Int.tmod i 4) = 24 := by rw [Int.tmod_eq_emod_of_nonneg i0]; omega
  have e1 : 24 - 8 * (Int.tmod (i + 1) 4) = 16 := by rw [Int.tmod_eq_emod_of_nonneg (by omega)]; omega
  have e2 : 24 - 8 * (Int.tmod (i + 2) 4) = 8 := by rw [Int.tmod_eq_emod_of_nonneg (by omega)]; omega
  have e3 : 24 - 8 * (Int.tmod (i + 3) 4) = 0 := by rw [Int.tmod_eq_emod_of_nonneg (by omega)]; omega
  obtain ⟨h1, g1, f1, w1⟩ := l_mfeed1 w l0 (by omega) (a := a) (b := b) (c := c) (d := d) (e := e) (v := v) i0 (by omega) e0
  obtain ⟨h2, g2, f2, w2⟩ := l_mfeed1 w1 (by rw [ap4]; omega) (by rw [ap4]; omega) (a := a) (b := b) (c := c) (d := d) (e := e) (v := v) (show 0 ≤ i + 1 by omega) (by omega) e1
  obtain ⟨h3, g3, f3, w3⟩ := l_mfeed1 w2 (by rw [ap4, ap4]; omega) (by rw [ap4, ap4]; omega) (a := a) (b := b) (c := c) (d := d) (e := e) (v := v) (show 0 ≤ i + 2 by omega) (by omega) e2
  obtain ⟨h4, g4, f4, w4⟩ := l_mfeed1 w3 (by rw [ap4, ap4, ap4]; omega) (by rw [ap4, ap4, ap4]; omega) (a := a) (b := b) (c := c) (d := d) (e := e) (v := v) (show 0 ≤ i + 3 by omega) (by omega) e3
  refine ⟨h4, ?_, ((f1.tr f2).tr f3).tr f4, w4⟩
  rw [sel i h (by omega) (by omega), g1, sel (i + 1) h1 (by omega) (by omega), g2, show i + 1 + 1 = i + 2 by omega, sel (i + 2) h2 (by omega) (by omega), g3, show i + 2 + 1 = i + 3 by omega, sel (i + 3) h3 (by omega) (by omega), g4, show i + 3 + 1 = i + 4 by omega]
theorem r_feed {h : Hp} {T : Int → Int} (w : MIn h T) (o : Tok T) (a b c d e : Int) : ∃ h', C_Mo_feed 124 a b c d e h = some (aFeed T, h') ∧ Fr pD h h' ∧ MIn h' (tFeed T a b c d e) := by
  have l0 := o.2.1
  rw [E_Mo_feed, if_pos (miO w), mi0 w, if_pos (miA w (by omega) (by omega)), w.2 4 (by omega) (by omega), w32_id (x := T 4 + 20) (by omega) (by omega)]
  unfold aFeed tFeed
  by_cases q : 500 < T 4 + 20
  · rw [if_pos q, if_pos q, if_pos q]; exact ⟨h, rfl, Fr.rf _ h, w⟩
  · rw [if_neg q, if_neg q, if_neg q]
    obtain ⟨h1, g1, f1, w1⟩ := l_mfeed4 w (by omega) (by omega) (a := a) (b := b) (c := c) (d := d) (e := e) (i := 0) (v := a) (by omega) (by omega) (by omega) (fun j g j0 j1 => by rw [E_Mo_feed_20, if_pos (show j < 20 by omega), if_pos (show j < 4 by omega)])
    obtain ⟨h2, g2, f2, w2⟩ := l_mfeed4 w1 (by rw [apN4]; omega) (by rw [apN4]; omega) (a := a) (b := b) (c := c) (d := d) (e := e) (i := 4) (v := b) (by omega) (by omega) (by omega) (fun j g j0 j1 => by rw [E_Mo_feed_20, if_pos (show j < 20 by omega), if_neg (show ¬ j < 4 by omega), if_pos (show j < 8 by omega)])
    obtain ⟨h3, g3, f3, w3⟩ := l_mfeed4 w2 (by rw [apN4, apN4]; omega) (by rw [apN4, apN4]; omega) (a := a) (b := b) (c := c) (d := d) (e := e) (i := 8) (v := c) (by omega) (by omega) (by omega) (fun j g j0 j1 => by rw [E_Mo_feed_20, if_pos (show j < 20 by omega), if_neg (show ¬ j < 4 by omega), if_neg (show ¬ j < 8 by omega), if_pos (show j < 12 by omega)])
    obtain ⟨h4, g4, f4, w4⟩ := l_mfeed4 w3 (by rw [apN4, apN4, apN4]; omega) (by rw [apN4, apN4, apN4]; omega) (a := a) (b := b) (c := c) (d := d) (e := e) (i := 12) (v := d) (by omega) (by omega) (by omega) (fun j g j0 j1 => by rw [E_Mo_feed_20, if_pos (show j < 20 by omega), if_neg (show ¬ j < 4 by omega), if_neg (show ¬ j < 8 by omega), if_neg (show ¬ j < 12 by omega), if_pos (show j < 16 by omega)])
    obtain ⟨h5, g5, f5, w5⟩ := l_mfeed4 w4 (by rw [apN4, apN4, apN4, apN4]; omega) (by rw [apN4, apN4, apN4, apN4]; omega) (a := a) (b := b) (c := c) (d := d) (e := e) (i := 16) (v := e) (by omega) (by omega) (by omega) (fun j g j0 j1 => by rw [E_Mo_feed_20, if_pos (show j < 20 by omega), if_neg (show ¬ j < 4 by omega), if_neg (show ¬ j < 8 by omega), if_neg (show ¬ j < 12 by omega), if_neg (show ¬ j < 16 by omega)])
    refine ⟨h5, ?_, (((f1.tr f2).tr f3).tr f4).tr f5, w5⟩
    rw [g1, show (0 + 4 : Int) = 4 by decide, g2, show (4 + 4 : Int) = 8 by decide, g3, show (8 + 4 : Int) = 12 by decide, g4, show (12 + 4 : Int) = 16 by decide, g5, show (16 + 4 : Int) = 20 by decide, E_Mo_feed_20, if_neg (by decide), if_pos (miO w5), mi0 w5, if_pos (miA w5 (by omega) (by omega)), w5.2 4 (by omega) (by omega), apN4, apN4, apN4, apN4, apN4, show T 4 + 4 + 4 + 4 + 4 + 4 = T 4 + 20 by omega]
