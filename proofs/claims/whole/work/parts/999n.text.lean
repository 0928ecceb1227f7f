/-! A text on both sides. -/
theorem l_251 {T V : Int → Int} {a k pl sz : Int} (ez : ∀ g, C_Mo_sizeOf a g = some (sz, g)) (ep : ∀ g, C_Mo_placeOf a k g = some (pl, g)) (b0 : 10 ≤ pl) (z0 : sz ≤ 330) (b1 : pl + sz ≤ 1800) : ∀ (n : Nat) (i : Int) (h : Hp) (T : Int → Int), MIn h T → 0 ≤ i → i + n = sz → (∀ o, 0 ≤ o → o < sz → mR h 127 o = V o) → (∀ o, 0 ≤ o → o < i → mR h 125 (pl + o) = V o) → ∃ h', P_Mo_text_251 124 a k i h = some (k, h') ∧ Fr (fun b j => b = 125 ∧ pl ≤ j ∧ j < pl + sz) h h' ∧ ∀ o, 0 ≤ o → o < sz → mR h' 125 (pl + o) = V o := by
  intro n
  induction n with
  | zero =>
    intro i h T w i0 hi rv d
    refine ⟨h, ?_, Fr.rf _ h, fun o o0 o1 => d o o0 (by omega)⟩
    rw [E_Mo_text_251, ez, bind_some']
    dsimp only
    rw [if_neg (by omega)]
  | succ n ih =>
    intro i h T w i0 hi rv d
    have f1 : Fr (fun b j => b = 125 ∧ pl ≤ j ∧ j < pl + sz) h (mW h 125 (pl + i) (V i)) := Fr.W h _ ⟨rfl, by omega, by omega⟩
    obtain ⟨h2, g2, f2, d2⟩ := ih (i + 1) _ _ (w.up (pl + i) (V i)) (by omega) (by omega) (fun o o0 o1 => by rw [mR_ne (by decide)]; exact rv o o0 o1) (fun o o0 o1 => by
      by_cases q : o = i
      · rw [q, mR_same]
      · rw [mR_ni (by omega)]; exact d o o0 (by omega))
    refine ⟨h2, ?_, f1.tr f2, d2⟩
    rw [E_Mo_text_251, ez, bind_some']
    dsimp only
    rw [if_pos (show i < sz by omega), if_pos (miO w), ep, bind_some']
    dsimp only
    rw [if_pos (miO w), mi10 w, if_pos (miA7 w i0 (by omega)), mi0 w, w32_id (x := pl + i) (by omega) (by omega), if_pos (miS w (by omega) (by omega)), rv i i0 (by omega), hb_eq, w32_id (x := i + 1) (by omega) (by omega)]
    exact g2
theorem m_206K {h : Hp} {T V : Int → Int} {a b k pl sz m : Int} (w : MIn h (tx0 T)) (aa : 0 ≤ a ∧ a ≤ 2) (kk : k = zPl (tx0 T a) m b) (kn : k ≠ -1) (nm : 0 ≤ tx0 T a ∧ tx0 T a ≤ m) (m6 : m ≤ 6) (ez : ∀ g, C_Mo_sizeOf a g = some (sz, g)) (ep : ∀ g, C_Mo_placeOf a k g = some (pl, g)) (b0 : 10 ≤ pl) (z0 : 0 ≤ sz ∧ sz ≤ 330) (b1 : pl + sz ≤ 1800) (rv : ∀ o, 0 ≤ o → o < sz → mR h 127 o = V o) : ∃ h', P_Mo_text_206 124 a b h = some (k, h') ∧ Fr pD h h' ∧ MIn h' (up1 (sl3 (tx0 T) V pl sz) a (if tx0 T a = k then k + 1 else tx0 T a)) := by
  have e5 : mR h 125 5 = 0 := by rw [w.2 5 (by decide) (by decide), tx0_5]
  have ea : mR h 125 a = tx0 T a := w.2 a (by omega) (by omega)
  have put : ∀ g h', MIn g (up1 (tx0 T) a (if tx0 T a = k then k + 1 else tx0 T a)) → Fr (fun b j => b = 125 ∧ j = a) h g → Fr (fun b j => b = 125 ∧ pl ≤ j ∧ j < pl + sz) g h' → (∀ o, 0 ≤ o → o < sz → mR h' 125 (pl + o) = V o) → MIn h' (up1 (sl3 (tx0 T) V pl sz) a (if tx0 T a = k then k + 1 else tx0 T a)) := fun g h' wg fg fh dv => by
    refine MIn.put w aa.1 (by omega) (by omega) b1 (wg.1.of fh.1 (fun i _ => fh.2 124 i (by omega))) (fun i i0 i1 p q => ?_) dv ?_
    · rw [fh.2 125 i (by omega), fg.2 125 i (by omega)]
    · rw [fh.2 125 a (by omega), wg.2 a (by omega) (by omega), up1_s]
  unfold zPl at kk
  rw [E_Mo_text_206, if_pos (miO w), mi0 w, if_pos (miA w (by decide) (by decide)), e5, if_pos rfl]
  by_cases c1 : b = -1
  · rw [if_pos c1] at kk
    have k2 : k = tx0 T a := by
      by_cases c2 : tx0 T a < m
      · rw [if_pos c2] at kk; exact kk
      · rw [if_neg c2] at kk; exact absurd kk kn
    have wg : MIn (mW h 125 a (k + 1)) (up1 (tx0 T) a (if tx0 T a = k then k + 1 else tx0 T a)) := by rw [if_pos k2.symm]; exact w.up a (k + 1)
    have fg : Fr (fun b j => b = 125 ∧ j = a) h (mW h 125 a (k + 1)) := Fr.W h _ ⟨rfl, rfl⟩
    obtain ⟨h2, g2, f2, d2⟩ := l_251 (T := T) (V := V) ez ep b0 z0.2 b1 sz.toNat 0 _ _ wg (by decide) (by omega) (fun o o0 o1 => by rw [mR_ne (by decide)]; exact rv o o0 o1) (fun o o0 o1 => by omega)
    refine ⟨h2, ?_, (fg.to (fun b i q => by unfold pD; omega)).tr (f2.to (fun b i q => by unfold pD; omega)), put _ h2 wg fg f2 d2⟩
    rw [if_pos c1, if_pos (miO w), if_pos (miA w (by omega) (by omega)), if_pos c1, if_pos (miO w), if_pos (miA w (by omega) (by omega)), if_pos (miS w (by omega) (by omega)), ea, ← k2, w32_id (x := k + 1) (by omega) (by omega), hb_eq]
    exact g2
  · rw [if_neg c1] at kk
    have c2 : 0 ≤ b ∧ b < tx0 T a := by
      by_cases c2 : 0 ≤ b ∧ b < tx0 T a
      · exact c2
      · rw [if_neg c2] at kk; exact absurd kk kn
    rw [if_pos c2] at kk
    have wg : MIn h (up1 (tx0 T) a (if tx0 T a = k then k + 1 else tx0 T a)) := by rw [if_neg (by omega), up1_id rfl]; exact w
    have fg : Fr (fun b j => b = 125 ∧ j = a) h h := Fr.rf _ h
    obtain ⟨h2, g2, f2, d2⟩ := l_251 (T := T) (V := V) ez ep b0 z0.2 b1 sz.toNat 0 h _ w (by decide) (by omega) rv (fun o o0 o1 => by omega)
    refine ⟨h2, ?_, f2.to (fun b i q => by unfold pD; omega), put h h2 wg fg f2 d2⟩
    rw [if_neg c1, if_neg c1, ← kk]
    exact g2
theorem pMl_D (b i : Int) (q : pMl b i) : pD b i := by unfold pMl pMt at q; unfold pD; omega
theorem MIn.ml {h h' : Hp} {T : Int → Int} {B : Int → Int} {L : Int} {s : Int × Int × Int} (w : MIn h (tx0 T)) (f : Fr pMl h h') (r : MR h' B L s) (n : NF s) : MIn h' (if s.2.1 = 0 then tx0 T else txF T s) := by
  refine ⟨w.1.of f.1 (fun i hi => f.2 124 i (by unfold pMl pMt; simp at hi; omega)), fun i i0 i1 => ?_⟩
  by_cases z : s.2.1 = 0
  · rw [if_pos z]
    by_cases y5 : i = 5
    · rw [y5, r.2.1, z, tx0_5]
    · by_cases y6 : i = 6
      · rw [y6, r.2.2.1, n z, tx0_6]
      · rw [f.2 125 i (by unfold pMl pMt; omega)]; exact w.2 i i0 i1
  · rw [if_neg z]
    unfold txF
    by_cases y6 : i = 6
    · rw [y6, r.2.2.1, up1_s]
    · rw [up1_n y6]
      by_cases y5 : i = 5
      · rw [y5, r.2.1, up1_s]
      · rw [up1_n y5, f.2 125 i (by unfold pMl pMt; omega)]; exact w.2 i i0 i1
theorem m_206F {h : Hp} {T : Int → Int} {s : Int × Int × Int} (w : MIn h (txF T s)) (n : s.2.1 ≠ 0) (a b : Int) : P_Mo_text_206 124 a b h = some (-1, h) := by
  have e5 : mR h 125 5 = s.2.1 := by rw [w.2 5 (by decide) (by decide)]; unfold txF; rw [up1_n (by decide), up1_s]
  rw [E_Mo_text_206, if_pos (miO w), mi0 w, if_pos (miA w (by decide) (by decide)), e5, if_neg n]
theorem r_end2 {h : Hp} {T V : Int → Int} {B : Int → Int} {L : Int} {s : Int × Int × Int} {a b pl sz m : Int} (w : MIn h (if s.2.1 = 0 then tx0 T else txF T s)) (aa : 0 ≤ a ∧ a ≤ 2) (hm : m = if a = 1 then 6 else 3) (kn : txK T a b ≠ -1) (o : Tok (tx0 T)) (ez : ∀ g, C_Mo_sizeOf a g = some (sz, g)) (ep : ∀ g, C_Mo_placeOf a (txK T a b) g = some (pl, g)) (b0 : 10 ≤ pl) (z0 : 0 ≤ sz ∧ sz ≤ 330) (b1 : pl + sz ≤ 1800) (rv : s.2.1 = 0 → ∀ o, 0 ≤ o → o < sz → mR h 127 o = V o) : ∃ h', P_Mo_text_206 124 a b h = some (txA (txK T a b) s, h') ∧ Fr pD h h' ∧ MIn h' (txT T (up1 (sl3 (tx0 T) V pl sz) a (if tx0 T a = txK T a b then txK T a b + 1 else tx0 T a)) s) := by
  unfold txA txT
  by_cases z : s.2.1 = 0
  · rw [if_pos z] at w
    rw [if_pos z, if_pos z]
    have n := o.1
    have kk : txK T a b = zPl (tx0 T a) m b := by unfold txK; rw [if_pos aa, ← hm]
    have nm : (0 ≤ tx0 T a ∧ tx0 T a ≤ m) ∧ m ≤ 6 := by
      have : a = 0 ∨ a = 1 ∨ a = 2 := by omega
      rcases this with y | y | y
      · rw [y] at hm ⊢; rw [if_neg (by decide)] at hm; omega
      · rw [y] at hm ⊢; rw [if_pos rfl] at hm; omega
      · rw [y] at hm ⊢; rw [if_neg (by decide)] at hm; omega
    exact m_206K w aa kk kn nm.1 nm.2 ez ep b0 z0 b1 (rv z)
  · rw [if_neg z] at w
    rw [if_neg z, if_neg z]
    exact ⟨h, m_206F w z a b, Fr.rf _ h, w⟩
theorem r_tx0 {h : Hp} {T : Int → Int} (w : MIn h T) (o : Tok (tx0 T)) (by' : Byt (txB T) (T 4)) (b : Int) (n : txK T 0 b ≠ -1) : ∃ h', C_Mo_text 124 0 b h = some (txA (txK T 0 b) (rd0 T).1, h') ∧ Fr pD h h' ∧ MIn h' (txT T (tPut0 (tx0 T) (vCut (rd0 T).2 330) (txK T 0 b)) (rd0 T).1) := by
  have lb := by'.1
  obtain ⟨h1, g1, f1, w1, r1, s3, s8⟩ := (r_t0 w o by' 0 b).2 n
  obtain ⟨h2, g2, f2, w2, m2, d2⟩ := r_t86 w1 r1 s3 s8 0 b
  have v0 : VB zZ := ⟨by show (0 : Int) ≤ 0 ∧ (0 : Int) ≤ 6; decide, by show (0 : Int) ≤ 0 ∧ (0 : Int) ≤ 24; decide, by show (0 : Int) ≤ 0 ∧ (0 : Int) ≤ 4; decide⟩
  have rw0 : Row h2 (0, 0, -1) zZ := ⟨fun _ i i0 i1 => (d2 i i0 i1).trans (if_neg (by decide)), fun c c0 c1 => by rw [d2 c c0 (by omega), if_neg (by decide)]; exact ⟨Int.le_refl _, Int.le_refl _⟩⟩
  obtain ⟨h3, g3, f3, m3, k3, _⟩ := m_cat (a := b) 500 h2 (0, 0, -1) zZ m2 (SO_0 lb.1) rw0 v0 (Or.inr (by show T 4 - 0 + 1 ≤ 2 * ((500 : Nat) : Int); omega))
  have nf : NF (rd0 T).1 := nf_ctI 500 _ (fun _ => rfl)
  have w3 : MIn h3 (if (rd0 T).1.2.1 = 0 then tx0 T else txF T (rd0 T).1) := w2.ml f3 m3 nf
  have k3' : (rd0 T).1.2.1 = 0 → ∀ i, 0 ≤ i → i < 330 → mR h3 127 i = (rd0 T).2 i := k3.1
  have pb : 0 ≤ txK T 0 b ∧ txK T 0 b < 3 := by
    have ek : txK T 0 b = zPl (tx0 T 0) 3 b := by unfold txK; rw [if_pos (by omega), if_neg (by decide)]
    rw [ek] at n ⊢
    have := zPl_b (n := tx0 T 0) (m := 3) (a := b) o.1.1.1 o.1.1.2
    omega
  obtain ⟨h4, g4, f4, w4⟩ := r_end2 (B := txB T) (L := T 4) (V := vCut (rd0 T).2 330) (a := 0) (b := b) (pl := 520 + 330 * txK T 0 b) (sz := 330) w3 (by decide) rfl n o (fun g => by rw [E_Mo_sizeOf, if_pos rfl]) (fun g => by rw [E_Mo_placeOf, if_pos rfl, w32_id (x := 330 * txK T 0 b) (by omega) (by omega), w32_id (by omega) (by omega)]) (by omega) (by decide) (by omega) (fun z o o0 o1 => (k3' z o o0 o1).trans (vCut_e o0 o1).symm)
  exact ⟨h4, by rw [g1, g2, g3]; exact g4, ((f1.tr f2).tr (f3.to pMl_D)).tr f4, w4⟩
theorem r_tx1 {h : Hp} {T : Int → Int} (w : MIn h T) (o : Tok (tx0 T)) (by' : Byt (txB T) (T 4)) (b : Int) (n : txK T 1 b ≠ -1) : ∃ h', C_Mo_text 124 1 b h = some (txA (txK T 1 b) (rd1 T).1, h') ∧ Fr pD h h' ∧ MIn h' (txT T (tPut1 (tx0 T) (vCut (rd1 T).2 26) (txK T 1 b)) (rd1 T).1) := by
  have lb := by'.1
  obtain ⟨h1, g1, f1, w1, r1, s3, s8⟩ := (r_t0 w o by' 1 b).2 n
  obtain ⟨h2, g2, f2, w2, m2, d2⟩ := r_t86 w1 r1 s3 s8 1 b
  have rw0 : RowH h2 (0, 0, -1) zZ := ⟨fun _ i i0 i1 => (d2 i i0 (by omega)).trans (if_neg (by decide)), by rw [d2 3 (by decide) (by decide), if_neg (by decide)]; exact ⟨Int.le_refl _, Int.le_refl _⟩⟩
  obtain ⟨h3, g3, f3, m3, k3⟩ := m_hou (a := b) 500 h2 (0, 0, -1) zZ m2 (SO_0 lb.1) rw0 (Or.inr (by show T 4 - 0 + 1 ≤ 2 * ((500 : Nat) : Int); omega))
  have nf : NF (rd1 T).1 := nf_hsI 500 _ (fun _ => rfl)
  have w3 : MIn h3 (if (rd1 T).1.2.1 = 0 then tx0 T else txF T (rd1 T).1) := w2.ml f3 m3 nf
  have k3' : (rd1 T).1.2.1 = 0 → ∀ i, 0 ≤ i → i < 26 → mR h3 127 i = (rd1 T).2 i := k3.1
  have pb : 0 ≤ txK T 1 b ∧ txK T 1 b < 6 := by
    have ek : txK T 1 b = zPl (tx0 T 1) 6 b := by unfold txK; rw [if_pos (by omega), if_pos rfl]
    rw [ek] at n ⊢
    have := zPl_b (n := tx0 T 1) (m := 6) (a := b) o.1.2.1.1 o.1.2.1.2
    omega
  obtain ⟨h4, g4, f4, w4⟩ := r_end2 (B := txB T) (L := T 4) (V := vCut (rd1 T).2 26) (a := 1) (b := b) (pl := 1510 + 26 * txK T 1 b) (sz := 26) w3 (by decide) rfl n o (fun g => by rw [E_Mo_sizeOf, if_neg n10, if_pos rfl]) (fun g => by rw [E_Mo_placeOf, if_neg n10, if_pos rfl, w32_id (x := 26 * txK T 1 b) (by omega) (by omega), w32_id (by omega) (by omega)]) (by omega) (by decide) (by omega) (fun z o o0 o1 => (k3' z o o0 o1).trans (vCut_e o0 o1).symm)
  exact ⟨h4, by rw [g1, g2, g3]; exact g4, ((f1.tr f2).tr (f3.to pMl_D)).tr f4, w4⟩
theorem r_tx2 {h : Hp} {T : Int → Int} (w : MIn h T) (o : Tok (tx0 T)) (by' : Byt (txB T) (T 4)) (b : Int) (n : txK T 2 b ≠ -1) : ∃ h', C_Mo_text 124 2 b h = some (txA (txK T 2 b) (rs2 T), h') ∧ Fr pD h h' ∧ MIn h' (txT T (tPut2 (tx0 T) (vCut (rd2 T).2 18) (txK T 2 b)) (rs2 T)) := by
  have lb := by'.1
  obtain ⟨h1, g1, f1, w1, r1, s3, s8⟩ := (r_t0 w o by' 2 b).2 n
  obtain ⟨h2, g2, f2, w2, m2, d2⟩ := r_t86 w1 r1 s3 s8 2 b
  have rw0 : RowK h2 (0, 0, -1) sV0 := ⟨fun _ i i0 i1 => (d2 i i0 (by omega)).trans (if_pos rfl), by rw [d2 0 (by decide) (by decide), if_pos rfl]; exact ⟨Int.le_refl _, Int.le_refl _⟩⟩
  obtain ⟨h3, g3, f3, m3, k3⟩ := m_sky (a := b) 500 h2 (0, 0, -1) sV0 m2 (SO_0 lb.1) rw0 (Or.inr (by show T 4 - 0 + 1 ≤ 2 * ((500 : Nat) : Int); omega))
  have nf : NF (rs2 T) := nf_skEn (nf_skI 500 _ (fun _ => rfl))
  have w3 : MIn h3 (if (rs2 T).2.1 = 0 then tx0 T else txF T (rs2 T)) := w2.ml f3 m3 nf
  have k3' : (rs2 T).2.1 = 0 → ∀ i, 0 ≤ i → i < 18 → mR h3 127 i = (rd2 T).2 i := k3
  have pb : 0 ≤ txK T 2 b ∧ txK T 2 b < 3 := by
    have ek : txK T 2 b = zPl (tx0 T 2) 3 b := by unfold txK; rw [if_pos (by omega), if_neg (by decide)]
    rw [ek] at n ⊢
    have := zPl_b (n := tx0 T 2) (m := 3) (a := b) o.1.2.2.1.1 o.1.2.2.1.2
    omega
  obtain ⟨h4, g4, f4, w4⟩ := r_end2 (B := txB T) (L := T 4) (V := vCut (rd2 T).2 18) (a := 2) (b := b) (pl := 1670 + 18 * txK T 2 b) (sz := 18) w3 (by decide) rfl n o (fun g => by rw [E_Mo_sizeOf, if_neg (by decide), if_neg (by decide)]) (fun g => by rw [E_Mo_placeOf, if_neg (by decide), if_neg (by decide), w32_id (x := 18 * txK T 2 b) (by omega) (by omega), w32_id (by omega) (by omega)]) (by omega) (by decide) (by omega) (fun z o o0 o1 => (k3' z o o0 o1).trans (vCut_e o0 o1).symm)
  exact ⟨h4, by rw [g1, g2, g3]; exact g4, ((f1.tr f2).tr (f3.to pMl_D)).tr f4, w4⟩
theorem b_text : TxH Str := by
  intro h w st a b _ _
  obtain ⟨⟨T, w⟩, m⟩ := w
  have t7 := w.c.2.2.2.2.2.2.2.2.1
  have t6 := w.c.2.2.2.2.2.2.2.1
  have by' : Byt (txB T) (T 4) := ⟨t6, fun j j0 j1 => (t7 j j0 j1).2⟩
  have c0 := c_t0 w.c a b
  have o : Tok (tx0 T) := by
    by_cases z : txK T a b = -1
    · obtain ⟨_, _, _, c⟩ := c0.1 z; exact c.tok
    · obtain ⟨_, _, _, c, _⟩ := c0.2 z; exact c.tok
  by_cases z : txK T a b = -1
  · obtain ⟨h1, g1, f1, c1⟩ := c0.1 z
    exact be w m ⟨h1, g1, f1.to pW_C, c1⟩ (fun h1 w1 => (r_t0 w1 o by' a b).1 z)
  · by_cases a0 : a = 0
    · rw [a0] at z ⊢
      obtain ⟨h1, g1, f1, c1⟩ := q_tx0 w.c st b z
      exact be w m ⟨h1, g1, f1.to pW_C, c1⟩ (fun h1 w1 => r_tx0 w1 o by' b z)
    · by_cases a1 : a = 1
      · rw [a1] at z ⊢
        obtain ⟨h1, g1, f1, c1⟩ := q_tx1 w.c st b z
        exact be w m ⟨h1, g1, f1.to pW_C, c1⟩ (fun h1 w1 => r_tx1 w1 o by' b z)
      · have a2 : a = 2 := by
          by_cases q : 0 ≤ a ∧ a ≤ 2
          · omega
          · unfold txK at z; rw [if_neg q] at z; exact absurd rfl z
        rw [a2] at z ⊢
        obtain ⟨h1, g1, f1, c1⟩ := q_tx2 w.c st b z
        exact be w m ⟨h1, g1, f1.to pW_C, c1⟩ (fun h1 w1 => r_tx2 w1 o by' b z)
