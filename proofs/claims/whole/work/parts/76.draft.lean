/-! A catalogue as it grows. -/
def Zok (V : Int → Int) : Prop := ∀ t r, 0 ≤ t → t < 24 → 0 ≤ r → r < 6 → (V 1 ≤ t ∨ V 0 ≤ r) → V (33 + 6 * t + r) = 0
def CatD (h : Hp) (c : Int) (V : Int → Int) : Prop := CatC h c V ∧ Zok V
def pCa (c b i : Int) : Prop := (b = c ∧ 0 ≤ i ∧ i ≤ 2) ∨ (c + 1 ≤ b ∧ b ≤ c + 7)
theorem CatD.of {h h' : Hp} {c : Int} {V : Int → Int} (w : CatD h c V) (k : SK h h') (r : ∀ b i, c ≤ b → b ≤ c + 7 → mR h' b i = mR h b i) : CatD h' c V := ⟨w.1.of k r, w.2⟩
theorem okS_c {h : Hp} {a n i : Int} (k : mK h a = 102 ∧ mL h a = n) (a0 : 0 < a) (i0 : 0 ≤ i) (i1 : i < n) : okS h a 102 i = true := okS_t k a0 i0 i1
def zZ (_ : Int) : Int := 0
theorem l_clear {c : Int} (nd : c + 7 < 99 ∨ 133 < c) : ∀ (n : Nat) (i : Int) (h : Hp), CatS h c → mR h c 0 = 0 → mR h c 1 = 0 → mR h c 2 = 0 → (∀ s, 0 ≤ s → s < i → mR h (c + 5) s = 0) → 0 ≤ i → i + n = 144 → ∃ h', P_Ca_clear_17 c i h = some (0, h') ∧ Fr (pCa c) h h' ∧ CatD h' c zZ := by
  intro n
  induction n with
  | zero =>
    intro i h w e0 e1 e2 es i0 hi
    have yo : okY h (c + 5) = true := decide_eq_true (by rw [w.2.2.2.2.2.2.2.1.1]; decide)
    refine ⟨h, ?_, Fr.rf _ h, ⟨⟨w, nd, e0, e1, fun r r0 r1 => ?_, fun t t0 t1 => ?_, fun t r t0 t1 _ _ => ?_⟩, ⟨?_, ?_, fun r r0 r1 => ?_, fun t t0 t1 => ?_, fun t r t0 t1 _ _ => ?_⟩, e2, ?_, fun s s0 s1 => ⟨es s s0 (by omega), Int.le_refl 0⟩, fun s s0 s1 => ?_⟩, fun t r _ _ _ _ _ => rfl⟩
    · rw [E_Ca_clear_17, if_pos (cF w), c7 w, if_pos yo, w.2.2.2.2.2.2.2.1.2, if_neg (by omega)]
    · have : r < 0 := r1; omega
    · have : t < 0 := t1; omega
    · have : t < 0 := t1; omega
    · exact ⟨Int.le_refl 0, by show (0 : Int) ≤ 6; omega⟩
    · exact ⟨Int.le_refl 0, by show (0 : Int) ≤ 24; omega⟩
    · have : r < 0 := r1; omega
    · have : t < 0 := t1; omega
    · have : t < 0 := t1; omega
    · exact ⟨Int.le_refl 0, by show (0 : Int) ≤ 4; omega⟩
    · have : s < 0 := s1; omega
  | succ n ih =>
    intro i h w e0 e1 e2 es i0 hi
    have yo : okY h (c + 5) = true := decide_eq_true (by rw [w.2.2.2.2.2.2.2.1.1]; decide)
    have f1 : Fr (pCa c) h (mW h (c + 5) i 0) := Fr.W h 0 (by unfold pCa; omega)
    obtain ⟨h2, g2, f2, d2⟩ := ih (i + 1) (mW h (c + 5) i 0) (w.of f1.1 (fun s s0 s1 => f1.2 c s (by unfold pCa; omega))) (by rw [mR_ne (by omega)]; exact e0) (by rw [mR_ne (by omega)]; exact e1) (by rw [mR_ne (by omega)]; exact e2) (fun s s0 s1 => by
      rw [mR_mW]
      by_cases z : s = i
      · rw [z, if_pos ⟨rfl, rfl⟩]
      · rw [if_neg (fun x => z x.2)]; exact es s s0 (by omega)) (by omega) (by omega)
    refine ⟨h2, ?_, f1.tr f2, d2⟩
    rw [E_Ca_clear_17, if_pos (cF w), c7 w, if_pos yo, w.2.2.2.2.2.2.2.1.2, if_pos (show i < 144 by omega), if_pos (cF w), if_pos (okS_t w.2.2.2.2.2.2.2.1 (by have := w.1; omega) i0 (by omega)), hb_eq, w32_id (x := i + 1) (by omega) (by omega)]
    exact g2
theorem s_clear {h : Hp} {c : Int} (w : CatS h c) (nd : c + 7 < 99 ∨ 133 < c) : ∃ h', C_Ca_clear c h = some (0, h') ∧ Fr (pCa c) h h' ∧ CatD h' c zZ := by
  have f1 : Fr (pCa c) h (mW (mW (mW h c 0 0) c 1 0) c 2 0) := ((Fr.W h 0 (by unfold pCa; omega)).tr (Fr.W _ 0 (by unfold pCa; omega))).tr (Fr.W _ 0 (by unfold pCa; omega))
  have w1 := w.of f1.1 (fun s s0 s1 => f1.2 c s (by unfold pCa; omega))
  obtain ⟨h2, g2, f2, d2⟩ := l_clear nd 144 0 _ w1 (by rw [mR_ni (by omega), mR_ni (by omega), mR_same]) (by rw [mR_ni (by omega), mR_same]) (mR_same _ _ _ _) (fun s s0 s1 => by omega) (by omega) (by omega)
  refine ⟨h2, ?_, f1.tr f2, d2⟩
  rw [E_Ca_clear, if_pos (cF w), hb_eq, okF_W, if_pos (cF w), hb_eq, okF_W, okF_W, if_pos (cF w), hb_eq]
  exact g2
/-- a new rung: its foot x, as on, scale, step -/
theorem CatD.rung {h : Hp} {c x a b s : Int} {V : Int → Int} (w : CatD h c V) (l : V 0 < 6) (x0 : 0 ≤ x) (x1 : x ≤ 10099) (x2 : x < 100 → x < V 0) (ea : a = if x < 100 then x else -1) (eb : ¬ x < 100 → b = x - 100) (es : s = if x < 100 then stp V 6 x + 1 else 0) (st : x < 100 → stp V 5 x = stp V 6 x) : CatD (mW (mW (mW (mW h (c + 1) (V 0) a) (c + 2) (V 0) b) (c + 3) (V 0) s) c 0 (V 0 + 1)) c (up1 (up1 V (3 + V 0) x) 0 (V 0 + 1)) := by
  obtain ⟨⟨a1, a2, a3, a4, a5, a6⟩, zo⟩ := w
  have v0 := a2.1
  have v1 := a2.2.1
  have f : SK h (mW (mW (mW (mW h (c + 1) (V 0) a) (c + 2) (V 0) b) (c + 3) (V 0) s) c 0 (V 0 + 1)) := (((SK.W h _ _ _).tr (SK.W _ _ _ _)).tr (SK.W _ _ _ _)).tr (SK.W _ _ _ _)
  have u : ∀ i, i ≠ 0 → i ≠ 3 + V 0 → up1 (up1 V (3 + V 0) x) 0 (V 0 + 1) i = V i := fun i p q => by rw [up1_n p, up1_n q]
  have u0 : up1 (up1 V (3 + V 0) x) 0 (V 0 + 1) 0 = V 0 + 1 := up1_s _ _ _
  have ux : up1 (up1 V (3 + V 0) x) 0 (V 0 + 1) (3 + V 0) = x := by rw [up1_n (by omega), up1_s]
  have m : ∀ b' i, ¬ (b' = c ∧ i = 0) → ¬ (b' = c + 1 ∧ i = V 0) → ¬ (b' = c + 2 ∧ i = V 0) → ¬ (b' = c + 3 ∧ i = V 0) → mR (mW (mW (mW (mW h (c + 1) (V 0) a) (c + 2) (V 0) b) (c + 3) (V 0) s) c 0 (V 0 + 1)) b' i = mR h b' i := fun b' i p q r t => by rw [mR_mW, if_neg p, mR_mW, if_neg t, mR_mW, if_neg r, mR_mW, if_neg q]
  have sto : ∀ (n : Nat) (r : Int), 0 ≤ r → r < V 0 → stp (up1 (up1 V (3 + V 0) x) 0 (V 0 + 1)) n r = stp V n r := by
    intro n
    induction n with
    | zero => intro r _ _; rfl
    | succ n ih =>
      intro r r0 r1
      have v3 := a2.2.2.1 r r0 r1
      unfold stp
      rw [u (3 + r) (by omega) (by omega)]
      by_cases q : V (3 + r) < 100
      · rw [if_pos q, if_pos q, ih _ v3.1 (by have := v3.2.2 q; omega)]
      · rw [if_neg q, if_neg q]
  refine ⟨?_, fun t r t0 t1 r0 r1 q => ?_⟩
  · unfold CatC CatV Vok onV
    rw [u0, u 1 (by omega) (by omega), u 2 (by omega) (by omega), mR_same, m c 1 (by omega) (by omega) (by omega) (by omega), m c 2 (by omega) (by omega) (by omega) (by omega)]
    refine ⟨⟨a1.1.of f (fun i _ _ => m c i (by omega) (by omega) (by omega) (by omega)), a1.2.1, rfl, a1.2.2.2.1, fun r r0 r1 => ?_, fun t t0 t1 => ?_, fun t r t0 t1 r0 r1 => ?_⟩, ⟨by omega, v1, fun r r0 r1 => ?_, fun t t0 t1 => ?_, fun t r t0 t1 r0 r1 => ?_⟩, a3, a4, fun i i0 i1 => ?_, fun i i0 i1 => ?_⟩
    · by_cases z : r = V 0
      · rw [z, ux, mR_ne (by omega), mR_ne (by omega), mR_ne (by omega), mR_same, mR_ne (by omega), mR_ne (by omega), mR_same, mR_ne (by omega), mR_same]
        refine ⟨ea, fun y => ?_, ?_⟩
        · by_cases p : x < 100
          · rw [if_pos p] at y; omega
          · exact eb p
        · have e6 : stp (up1 (up1 V (3 + V 0) x) 0 (V 0 + 1)) 6 (V 0) = if x < 100 then stp (up1 (up1 V (3 + V 0) x) 0 (V 0 + 1)) 5 x + 1 else 0 := by
            show (if up1 (up1 V (3 + V 0) x) 0 (V 0 + 1) (3 + V 0) < 100 then stp (up1 (up1 V (3 + V 0) x) 0 (V 0 + 1)) 5 (up1 (up1 V (3 + V 0) x) 0 (V 0 + 1) (3 + V 0)) + 1 else 0) = _
            rw [ux]
          rw [es, e6]
          by_cases p : x < 100
          · rw [if_pos p, if_pos p, sto 5 x x0 (x2 p), st p]
          · rw [if_neg p, if_neg p]
      · rw [m (c + 1) r (by omega) (by omega) (by omega) (by omega), m (c + 2) r (by omega) (by omega) (by omega) (by omega), m (c + 3) r (by omega) (by omega) (by omega) (by omega), u (3 + r) (by omega) (by omega), sto 6 r r0 (by omega)]
        exact a1.2.2.2.2.1 r r0 (by omega)
    · rw [m (c + 4) t (by omega) (by omega) (by omega) (by omega), u (9 + t) (by omega) (by omega)]; exact a1.2.2.2.2.2.1 t t0 t1
    · rw [m (c + 5) _ (by omega) (by omega) (by omega) (by omega), m (c + 6) _ (by omega) (by omega) (by omega) (by omega), u (33 + 6 * t + r) (by omega) (by omega), u (177 + 6 * t + r) (by omega) (by omega)]
      by_cases z : r < V 0
      · exact a1.2.2.2.2.2.2 t r t0 t1 r0 z
      · have e := zo t r t0 (by omega) r0 (by omega) (Or.inr (by omega))
        have e5 := (a5 (t * 6 + r) (by omega) (by omega)).1
        rw [show 33 + (t * 6 + r) = 33 + 6 * t + r by omega] at e5
        exact ⟨e5, fun y => absurd e y⟩
    · by_cases z : r = V 0
      · rw [z, ux]; exact ⟨x0, x1, x2⟩
      · rw [u (3 + r) (by omega) (by omega)]; exact a2.2.2.1 r r0 (by omega)
    · rw [u (9 + t) (by omega) (by omega)]; exact a2.2.2.2.1 t t0 t1
    · rw [u (33 + 6 * t + r) (by omega) (by omega)]
      by_cases z : r < V 0
      · exact a2.2.2.2.2 t r t0 t1 r0 z
      · rw [zo t r t0 (by omega) r0 (by omega) (Or.inr (by omega))]; omega
    · rw [m (c + 5) i (by omega) (by omega) (by omega) (by omega), u (33 + i) (by omega) (by omega)]; exact a5 i i0 i1
    · rw [m (c + 7) i (by omega) (by omega) (by omega) (by omega), u (321 + i) (by omega) (by omega)]; exact a6 i i0 i1
  · rw [u0, u 1 (by omega) (by omega)] at q
    rw [u (33 + 6 * t + r) (by omega) (by omega)]
    exact zo t r t0 t1 r0 r1 (by omega)
theorem stp_56 {V : Int → Int} (o : Vok V) {r : Int} (r0 : 0 ≤ r) (r1 : r < V 0) (r5 : r < 5) : stp V 5 r = stp V 6 r := (stp_le o 5 r r0 (by omega) r1).symm
def tBase (V : Int → Int) (s : Int) : Int → Int := up1 (up1 V (3 + V 0) (100 + s)) 0 (V 0 + 1)
def tOn (V : Int → Int) (s : Int) : Int → Int := up1 (up1 V (3 + V 0) s) 0 (V 0 + 1)
theorem s_addBase {h : Hp} {c s : Int} {V : Int → Int} (w : CatD h c V) (l : V 0 < 6) (s0 : 0 ≤ s) (s1 : s ≤ 9999) : ∃ h', C_Ca_addBase c s h = some (0, h') ∧ Fr (pCa c) h h' ∧ CatD h' c (tBase V s) := by
  have v0 := w.1.2.1.1
  have c0 := w.1.1.1.1
  have k := w.1.1.1
  have e0 : mR h c 0 = V 0 := w.1.1.2.2.1
  have d := w.rung (x := 100 + s) (a := -1) (b := s) (s := 0) l (by omega) (by omega) (fun z => by omega) (by rw [if_neg (by omega)]) (fun _ => by omega) (by rw [if_neg (by omega)]) (fun z => by omega)
  refine ⟨_, ?_, (((Fr.W h (-1) (show pCa c (c + 1) (V 0) by unfold pCa; omega)).tr (Fr.W _ s (show pCa c (c + 2) (V 0) by unfold pCa; omega))).tr (Fr.W _ 0 (show pCa c (c + 3) (V 0) by unfold pCa; omega))).tr (Fr.W _ (V 0 + 1) (show pCa c c 0 by unfold pCa; omega)), d⟩
  have A1 : okS h (c + 1) 102 (V 0) = true := okS_t k.2.2.2.1 (by omega) v0.1 l
  have A2 : okS h (c + 2) 102 (V 0) = true := okS_t k.2.2.2.2.1 (by omega) v0.1 l
  have A3 : okS h (c + 3) 102 (V 0) = true := okS_t k.2.2.2.2.2.1 (by omega) v0.1 l
  have r1 : ∀ i v, mR (mW h (c + 1) (V 0) v) c i = mR h c i := fun i v => by rw [mR_ne (by omega)]
  have r2 : ∀ i v v2, mR (mW (mW h (c + 1) (V 0) v) (c + 2) (V 0) v2) c i = mR h c i := fun i v v2 => by rw [mR_ne (by omega), mR_ne (by omega)]
  have r3 : ∀ i v v2 v3, mR (mW (mW (mW h (c + 1) (V 0) v) (c + 2) (V 0) v2) (c + 3) (V 0) v3) c i = mR h c i := fun i v v2 v3 => by rw [mR_ne (by omega), mR_ne (by omega), mR_ne (by omega)]
  rw [E_Ca_addBase]
  simp only [cF k, ↓reduceIte, e0, l, c3 k, A1, hb_eq, okF_W, r1, c4 k, okS_W, A2, r2, c5 k, A3, r3]
  rw [w32_id (x := V 0 + 1) (by omega) (by omega)]
theorem s_addOn {h : Hp} {c s : Int} {V : Int → Int} (w : CatD h c V) (l : V 0 < 6) (s0 : 0 ≤ s) (s1 : s < V 0) : ∃ h', C_Ca_addOn c s h = some (0, h') ∧ Fr (pCa c) h h' ∧ CatD h' c (tOn V s) := by
  have v0 := w.1.2.1.1
  have c0 := w.1.1.1.1
  have k := w.1.1.1
  have e0 : mR h c 0 = V 0 := w.1.1.2.2.1
  have es : mR h (c + 3) s = stp V 6 s := (w.1.1.2.2.2.2.1 s s0 s1).2.2
  have sb : 0 ≤ stp V 6 s ∧ stp V 6 s ≤ 6 := by
    have : ∀ (n : Nat) (r : Int), 0 ≤ stp V n r ∧ stp V n r ≤ n := by
      intro n
      induction n with
      | zero => intro r; exact ⟨Int.le_refl 0, Int.le_refl 0⟩
      | succ n ih =>
        intro r
        unfold stp
        by_cases q : V (3 + r) < 100
        · rw [if_pos q]; have := ih (V (3 + r)); omega
        · rw [if_neg q]; omega
    exact this 6 s
  have d := w.rung (x := s) (a := s) (b := 0) (s := stp V 6 s + 1) l s0 (by omega) (fun z => s1) (by rw [if_pos (by omega)]) (fun z => by omega) (by rw [if_pos (by omega)]) (fun _ => stp_56 w.1.2.1 s0 s1 (by omega))
  refine ⟨_, ?_, (((Fr.W h s (show pCa c (c + 1) (V 0) by unfold pCa; omega)).tr (Fr.W _ 0 (show pCa c (c + 2) (V 0) by unfold pCa; omega))).tr (Fr.W _ (stp V 6 s + 1) (show pCa c (c + 3) (V 0) by unfold pCa; omega))).tr (Fr.W _ (V 0 + 1) (show pCa c c 0 by unfold pCa; omega)), d⟩
  have A1 : okS h (c + 1) 102 (V 0) = true := okS_t k.2.2.2.1 (by omega) v0.1 l
  have A2 : okS h (c + 2) 102 (V 0) = true := okS_t k.2.2.2.2.1 (by omega) v0.1 l
  have A3 : okS h (c + 3) 102 (V 0) = true := okS_t k.2.2.2.2.2.1 (by omega) v0.1 l
  have A4 : okA h (c + 3) 102 s = true := okA_t k.2.2.2.2.2.1 s0 (by omega)
  have r1 : ∀ i v, mR (mW h (c + 1) (V 0) v) c i = mR h c i := fun i v => by rw [mR_ne (by omega)]
  have r2 : ∀ i v v2, mR (mW (mW h (c + 1) (V 0) v) (c + 2) (V 0) v2) c i = mR h c i := fun i v v2 => by rw [mR_ne (by omega), mR_ne (by omega)]
  have r4 : ∀ v v2, mR (mW (mW h (c + 1) (V 0) v) (c + 2) (V 0) v2) (c + 3) s = stp V 6 s := fun v v2 => by rw [mR_ne (by omega), mR_ne (by omega)]; exact es
  have r3 : ∀ i v v2 v3, mR (mW (mW (mW h (c + 1) (V 0) v) (c + 2) (V 0) v2) (c + 3) (V 0) v3) c i = mR h c i := fun i v v2 v3 => by rw [mR_ne (by omega), mR_ne (by omega), mR_ne (by omega)]
  have ns : ¬ s < 0 := by omega
  rw [E_Ca_addOn]
  simp only [cF k, ↓reduceIte, e0, l, ns, s1, c3 k, A1, hb_eq, okF_W, r1, c4 k, okS_W, okA_W, A2, r2, c5 k, A3, A4, r4, r3]
  rw [w32_id (x := V 0 + 1) (by omega) (by omega), w32_id (x := stp V 6 s + 1) (by omega) (by omega)]
def tThing (V : Int → Int) (v : Int) : Int → Int := up1 (up1 V (9 + V 1) v) 1 (V 1 + 1)
theorem s_addThing {h : Hp} {c v : Int} {V : Int → Int} (w : CatD h c V) (l : V 1 < 24) (x0 : -9999 ≤ v) (x1 : v ≤ 9999) : ∃ h', C_Ca_addThing c v h = some (0, h') ∧ Fr (pCa c) h h' ∧ CatD h' c (tThing V v) := by
  obtain ⟨⟨a1, a2, a3, a4, a5, a6⟩, zo⟩ := w
  have v0 := a2.1
  have v1 := a2.2.1
  have c0 := a1.1.1
  have k := a1.1
  have e1 : mR h c 1 = V 1 := a1.2.2.2.1
  have f : Fr (pCa c) h (mW (mW h (c + 4) (V 1) v) c 1 (V 1 + 1)) := (Fr.W h v (by unfold pCa; omega)).tr (Fr.W _ _ (by unfold pCa; omega))
  have u : ∀ i, i ≠ 1 → i ≠ 9 + V 1 → tThing V v i = V i := fun i p q => by unfold tThing; rw [up1_n p, up1_n q]
  have u1 : tThing V v 1 = V 1 + 1 := up1_s _ _ _
  have ux : tThing V v (9 + V 1) = v := by unfold tThing; rw [up1_n (by omega), up1_s]
  have m : ∀ b' i, ¬ (b' = c ∧ i = 1) → ¬ (b' = c + 4 ∧ i = V 1) → mR (mW (mW h (c + 4) (V 1) v) c 1 (V 1 + 1)) b' i = mR h b' i := fun b' i p q => by rw [mR_mW, if_neg p, mR_mW, if_neg q]
  have sto := stp_cg (V' := tThing V v) a2 (fun i i0 i1 => u i (by omega) (by omega)) 6
  refine ⟨_, ?_, f, ?_, fun t r t0 t1 r0 r1 q => ?_⟩
  · have A1 : okS h (c + 4) 102 (V 1) = true := okS_t k.2.2.2.2.2.2.1 (by omega) v1.1 l
    have r1 : ∀ i y, mR (mW h (c + 4) (V 1) y) c i = mR h c i := fun i y => by rw [mR_ne (by omega)]
    rw [E_Ca_addThing]
    simp only [cF k, ↓reduceIte, e1, l, c6 k, A1, hb_eq, okF_W, r1]
    rw [w32_id (x := V 1 + 1) (by omega) (by omega)]
  · unfold CatC CatV Vok onV
    rw [u1, u 0 (by omega) (by omega), u 2 (by omega) (by omega), mR_same, m c 0 (by omega) (by omega), m c 2 (by omega) (by omega)]
    refine ⟨⟨a1.1.of f.1 (fun i _ _ => m c i (by omega) (by omega)), a1.2.1, a1.2.2.1, rfl, fun r r0 r1 => ?_, fun t t0 t1 => ?_, fun t r t0 t1 r0 r1 => ?_⟩, ⟨v0, by omega, fun r r0 r1 => ?_, fun t t0 t1 => ?_, fun t r t0 t1 r0 r1 => ?_⟩, a3, a4, fun i i0 i1 => ?_, fun i i0 i1 => ?_⟩
    · rw [m (c + 1) r (by omega) (by omega), m (c + 2) r (by omega) (by omega), m (c + 3) r (by omega) (by omega), u (3 + r) (by omega) (by omega), sto r r0 r1]
      exact a1.2.2.2.2.1 r r0 r1
    · by_cases z : t = V 1
      · rw [z, ux, mR_ne (by omega), mR_same]
      · rw [m (c + 4) t (by omega) (by omega), u (9 + t) (by omega) (by omega)]; exact a1.2.2.2.2.2.1 t t0 (by omega)
    · rw [m (c + 5) _ (by omega) (by omega), m (c + 6) _ (by omega) (by omega), u (33 + 6 * t + r) (by omega) (by omega), u (177 + 6 * t + r) (by omega) (by omega)]
      by_cases z : t < V 1
      · exact a1.2.2.2.2.2.2 t r t0 z r0 r1
      · have e := zo t r t0 (by omega) r0 (by omega) (Or.inl (by omega))
        have e5 := (a5 (t * 6 + r) (by omega) (by omega)).1
        rw [show 33 + (t * 6 + r) = 33 + 6 * t + r by omega] at e5
        exact ⟨e5, fun y => absurd e y⟩
    · rw [u (3 + r) (by omega) (by omega)]; exact a2.2.2.1 r r0 r1
    · by_cases z : t = V 1
      · rw [z, ux]; omega
      · rw [u (9 + t) (by omega) (by omega)]; exact a2.2.2.2.1 t t0 (by omega)
    · rw [u (33 + 6 * t + r) (by omega) (by omega)]
      by_cases z : t < V 1
      · exact a2.2.2.2.2 t r t0 z r0 r1
      · rw [zo t r t0 (by omega) r0 (by omega) (Or.inl (by omega))]; omega
    · rw [m (c + 5) i (by omega) (by omega), u (33 + i) (by omega) (by omega)]; exact a5 i i0 i1
    · rw [m (c + 7) i (by omega) (by omega), u (321 + i) (by omega) (by omega)]; exact a6 i i0 i1
  · rw [u1, u 0 (by omega) (by omega)] at q
    rw [u (33 + 6 * t + r) (by omega) (by omega)]
    exact zo t r t0 t1 r0 r1 (by omega)
def tStone (V : Int → Int) (v : Int) : Int → Int := up1 (up1 V (321 + V 2) v) 2 (V 2 + 1)
theorem s_addStone {h : Hp} {c v : Int} {V : Int → Int} (w : CatD h c V) (l : V 2 < 4) : ∃ h', C_Ca_addStone c v h = some (0, h') ∧ Fr (pCa c) h h' ∧ CatD h' c (tStone V v) := by
  obtain ⟨⟨a1, a2, a3, a4, a5, a6⟩, zo⟩ := w
  have v0 := a2.1
  have v1 := a2.2.1
  have c0 := a1.1.1
  have k := a1.1
  have f : Fr (pCa c) h (mW (mW h (c + 7) (V 2) v) c 2 (V 2 + 1)) := (Fr.W h v (by unfold pCa; omega)).tr (Fr.W _ _ (by unfold pCa; omega))
  have u : ∀ i, i ≠ 2 → i ≠ 321 + V 2 → tStone V v i = V i := fun i p q => by unfold tStone; rw [up1_n p, up1_n q]
  have u1 : tStone V v 2 = V 2 + 1 := up1_s _ _ _
  have ux : tStone V v (321 + V 2) = v := by unfold tStone; rw [up1_n (by omega), up1_s]
  have m : ∀ b' i, ¬ (b' = c ∧ i = 2) → ¬ (b' = c + 7 ∧ i = V 2) → mR (mW (mW h (c + 7) (V 2) v) c 2 (V 2 + 1)) b' i = mR h b' i := fun b' i p q => by rw [mR_mW, if_neg p, mR_mW, if_neg q]
  have sto := stp_cg (V' := tStone V v) a2 (fun i i0 i1 => u i (by omega) (by omega)) 6
  refine ⟨_, ?_, f, ?_, fun t r t0 t1 r0 r1 q => ?_⟩
  · have A1 : okS h (c + 7) 102 (V 2) = true := okS_t k.2.2.2.2.2.2.2.2.2 (by omega) a4.1 l
    have r1 : ∀ i y, mR (mW h (c + 7) (V 2) y) c i = mR h c i := fun i y => by rw [mR_ne (by omega)]
    rw [E_Ca_addStone]
    simp only [cF k, ↓reduceIte, a3, l, c9 k, A1, hb_eq, okF_W, r1]
    rw [w32_id (x := V 2 + 1) (by omega) (by omega)]
  · unfold CatC CatV Vok onV
    rw [u1, u 0 (by omega) (by omega), u 1 (by omega) (by omega), mR_same, m c 0 (by omega) (by omega), m c 1 (by omega) (by omega)]
    refine ⟨⟨a1.1.of f.1 (fun i _ _ => m c i (by omega) (by omega)), a1.2.1, a1.2.2.1, a1.2.2.2.1, fun r r0 r1 => ?_, fun t t0 t1 => ?_, fun t r t0 t1 r0 r1 => ?_⟩, ⟨v0, v1, fun r r0 r1 => ?_, fun t t0 t1 => ?_, fun t r t0 t1 r0 r1 => ?_⟩, rfl, by omega, fun i i0 i1 => ?_, fun i i0 i1 => ?_⟩
    · rw [m (c + 1) r (by omega) (by omega), m (c + 2) r (by omega) (by omega), m (c + 3) r (by omega) (by omega), u (3 + r) (by omega) (by omega), sto r r0 r1]
      exact a1.2.2.2.2.1 r r0 r1
    · rw [m (c + 4) t (by omega) (by omega), u (9 + t) (by omega) (by omega)]; exact a1.2.2.2.2.2.1 t t0 t1
    · rw [m (c + 5) _ (by omega) (by omega), m (c + 6) _ (by omega) (by omega), u (33 + 6 * t + r) (by omega) (by omega), u (177 + 6 * t + r) (by omega) (by omega)]
      exact a1.2.2.2.2.2.2 t r t0 t1 r0 r1
    · rw [u (3 + r) (by omega) (by omega)]; exact a2.2.2.1 r r0 r1
    · rw [u (9 + t) (by omega) (by omega)]; exact a2.2.2.2.1 t t0 t1
    · rw [u (33 + 6 * t + r) (by omega) (by omega)]; exact a2.2.2.2.2 t r t0 t1 r0 r1
    · rw [m (c + 5) i (by omega) (by omega), u (33 + i) (by omega) (by omega)]; exact a5 i i0 i1
    · by_cases z : i = V 2
      · rw [z, ux, mR_ne (by omega), mR_same]
      · rw [m (c + 7) i (by omega) (by omega), u (321 + i) (by omega) (by omega)]; exact a6 i i0 (by omega)
  · rw [u 1 (by omega) (by omega), u 0 (by omega) (by omega)] at q
    rw [u (33 + 6 * t + r) (by omega) (by omega)]
    exact zo t r t0 t1 r0 r1 q
def tEnter (V : Int → Int) (t r x y : Int) : Int → Int := up1 (up1 V (33 + 6 * t + r) x) (177 + 6 * t + r) y
theorem s_enter {h : Hp} {c t r x y : Int} {V : Int → Int} (w : CatD h c V) (t0 : 0 ≤ t) (t1 : t < V 1) (r0 : 0 ≤ r) (r1 : r < V 0) (x0 : 1 ≤ x) (x1 : x ≤ 9999) : ∃ h', C_Ca_enter c t r x y h = some (0, h') ∧ Fr (pCa c) h h' ∧ CatD h' c (tEnter V t r x y) := by
  have v0 := w.1.2.1.1
  have v1 := w.1.2.1.2.1
  have c0 := w.1.1.1.1
  have k := w.1.1.1
  have A1 : okS h (c + 5) 102 (t * 6 + r) = true := okS_t k.2.2.2.2.2.2.2.1 (by omega) (by omega) (by omega)
  have A2 : okS h (c + 6) 102 (t * 6 + r) = true := okS_t k.2.2.2.2.2.2.2.2.1 (by omega) (by omega) (by omega)
  have m8 : mR (mW h (c + 5) (t * 6 + r) x) c 8 = c + 6 := by rw [mR_ne (by omega)]; exact c8 k
  refine ⟨_, ?_, (Fr.W h x (show pCa c (c + 5) (t * 6 + r) by unfold pCa; omega)).tr (Fr.W _ y (show pCa c (c + 6) (t * 6 + r) by unfold pCa; omega)), CatC_has w.1 t0 t1 r0 r1 x0 x1, fun s q s0 s1 q0 q1 z => ?_⟩
  · rw [E_Ca_enter, if_neg (show ¬ t < 0 by omega), if_pos (cF k), w.1.1.2.2.2.1, if_pos t1, if_neg (show ¬ r < 0 by omega), if_pos (cF k), w.1.1.2.2.1, if_pos r1, if_pos (cF k), c7 k, w32_id (x := t * 6) (by omega) (by omega), w32_id (x := t * 6 + r) (by omega) (by omega), if_pos A1, hb_eq, okF_W, if_pos (cF k), m8, okS_W, if_pos A2, hb_eq]
  · have e1 : tEnter V t r x y 1 = V 1 := by unfold tEnter; rw [up1_n (by omega), up1_n (by omega)]
    have e0 : tEnter V t r x y 0 = V 0 := by unfold tEnter; rw [up1_n (by omega), up1_n (by omega)]
    rw [e1, e0] at z
    unfold tEnter
    rw [up1_n (by omega), up1_n (by omega)]
    exact w.2 s q s0 s1 q0 q1 z
