/-! say, feed, count, about. -/
def kSay (T : Int → Int) (k y a b : Int) : Prop := (T 3 < 16) ∧ (0 ≤ k ∧ k < T 1) ∧ (0 ≤ y ∧ y < 100) ∧ (-999999 ≤ a ∧ a < b ∧ b ≤ 999999)
def tSay (T : Int → Int) (k y a b : Int) : Int → Int := up1 (up1 (up1 (up1 (up1 T (1730 + 4 * T 3) k) (1731 + 4 * T 3) y) (1732 + 4 * T 3) a) (1733 + 4 * T 3) b) 3 (T 3 + 1)
noncomputable def aSay (T : Int → Int) (k y a b : Int) : Int := cI (kSay T k y a b) (T 3) (-1)
theorem TCo_say {h h' : Hp} {T : Int → Int} {k y a b : Int} (w : TCo h 2 T) (ok : kSay T k y a b) (f : SK h h') (r : ∀ c i, 2 ≤ c → c ≤ 80 → ¬ (c = 65 + T 3) → ¬ (c = 2 ∧ i = 7) → mR h' c i = mR h c i) (e0 : mR h' 2 7 = T 3 + 1) (e1 : mR h' (65 + T 3) 0 = k) (e2 : mR h' (65 + T 3) 1 = y) (e3 : mR h' (65 + T 3) 2 = a) (e4 : mR h' (65 + T 3) 3 = b) : TCo h' 2 (tSay T k y a b) := by
  unfold TCo at w ⊢
  obtain ⟨y1, y2, y3, y4, y5, y6, y7, y8, y9, y10, y11, y12⟩ := w
  have o1 := ok.1
  have t : ∀ i, i ≠ 3 → ¬ (1730 + 4 * T 3 ≤ i ∧ i ≤ 1733 + 4 * T 3) → tSay T k y a b i = T i := fun i p q => by unfold tSay; rw [up1_n p, up1_n (by omega), up1_n (by omega), up1_n (by omega), up1_n (by omega)]
  have t3 : tSay T k y a b 3 = T 3 + 1 := up1_s _ _ _
  have s0 : tSay T k y a b (1730 + 4 * T 3) = k := by unfold tSay; rw [up1_n (by omega), up1_n (by omega), up1_n (by omega), up1_n (by omega), up1_s]
  have s1 : tSay T k y a b (1731 + 4 * T 3) = y := by unfold tSay; rw [up1_n (by omega), up1_n (by omega), up1_n (by omega), up1_s]
  have s2 : tSay T k y a b (1732 + 4 * T 3) = a := by unfold tSay; rw [up1_n (by omega), up1_n (by omega), up1_s]
  have s3 : tSay T k y a b (1733 + 4 * T 3) = b := by unfold tSay; rw [up1_n (by omega), up1_s]
  rw [e0, t3, t 0 (by omega) (by omega), t 1 (by omega) (by omega), t 2 (by omega) (by omega), t 4 (by omega) (by omega), t 5 (by omega) (by omega), t 6 (by omega) (by omega), r 2 1 (by omega) (by omega) (by omega) (by omega), r 2 2 (by omega) (by omega) (by omega) (by omega), r 2 3 (by omega) (by omega) (by omega) (by omega), r 2 4 (by omega) (by omega) (by omega) (by omega), r 2 5 (by omega) (by omega) (by omega) (by omega), r 2 6 (by omega) (by omega) (by omega) (by omega)]
  refine ⟨⟨y1.1, y1.2.1, y1.2.2.1, y1.2.2.2.1, y1.2.2.2.2.1, y1.2.2.2.2.2.1, rfl⟩, y2, y3, y4, by omega, y6, fun i i0 i1 => ?_, fun x x0 x1 => ?_, fun x x0 x1 => ?_, fun x x0 x1 => ?_, fun x j x0 x1 j0 j1 => ?_, fun x x0 x1 => ?_⟩
  · rw [r (2 + 1) i (by omega) (by omega) (by omega) (by omega), t (10 + i) (by omega) (by omega)]; exact y7 i i0 i1
  · rw [slc_cg (T := T) (T' := tSay T k y a b) (fun o o0 o1 => t _ (by omega) (by omega))]; exact (y8 x x0 x1).of f (fun b i _ _ => r b i (by omega) (by omega) (by omega) (by omega))
  · rw [slc_cg (T := T) (T' := tSay T k y a b) (fun o o0 o1 => t _ (by omega) (by omega))]; exact ⟨(y9 x x0 x1).1.of f (fun b i _ _ => r b i (by omega) (by omega) (by omega) (by omega)), (y9 x x0 x1).2⟩
  · rw [slc_cg (T := T) (T' := tSay T k y a b) (fun o o0 o1 => t _ (by omega) (by omega))]; exact (y10 x x0 x1).of f (fun b i _ _ => r b i (by omega) (by omega) (by omega) (by omega))
  · by_cases z : x = T 3
    · have j4 : j = 0 ∨ j = 1 ∨ j = 2 ∨ j = 3 := by omega
      rw [z, show 2 + 63 + T 3 = 65 + T 3 by omega]
      rcases j4 with u | u | u | u
      · rw [u, e1, show 1730 + 4 * T 3 + 0 = 1730 + 4 * T 3 by omega, s0]
      · rw [u, e2, show 1730 + 4 * T 3 + 1 = 1731 + 4 * T 3 by omega, s1]
      · rw [u, e3, show 1730 + 4 * T 3 + 2 = 1732 + 4 * T 3 by omega, s2]
      · rw [u, e4, show 1730 + 4 * T 3 + 3 = 1733 + 4 * T 3 by omega, s3]
    · rw [r (2 + 63 + x) j (by omega) (by omega) (by omega) (by omega), t _ (by omega) (by omega)]; exact y11 x j x0 (by omega) j0 j1
  · by_cases z : x = T 3
    · rw [z]; unfold Yok; rw [s0, s1, s2, s3, t 1 (by omega) (by omega)]; have := ok.2; omega
    · exact Yok_cg (y12 x x0 (by omega)) (fun i i0 i1 => t i (by omega) (by omega)) (by rw [t 1 (by omega) (by omega)]; exact Int.le_refl _)
theorem q_say {h : Hp} {T : Int → Int} (w : Inv h T) (k y a b : Int) : ∃ h', C_LS_say 1 k y a b h = some (aSay T k y a b, h') ∧ Fr pW h h' ∧ (kSay T k y a b → CIn h' (tSay T k y a b)) ∧ (¬ kSay T k y a b → h' = h) := by
  have n := ivn w
  have e7 : mR h 2 7 = T 3 := w.2.2.1.1.2.2.2.2.2.2
  rw [E_LS_say, if_pos (iv1 w), iv10 w, if_pos (iv2 w), e7]
  unfold aSay
  by_cases q0 : T 3 < 16
  · rw [if_pos q0, if_pos (iv1 w), s_isHou w, bind_some']
    by_cases q1 : 0 ≤ k ∧ k < T 1
    · rw [bI_t q1, if_neg n10, s_isYear, bind_some']
      by_cases q2 : 0 ≤ y ∧ y < 100
      · rw [bI_t q2, if_neg n10]
        by_cases q3 : -999999 ≤ a ∧ a < b ∧ b ≤ 999999
        · have ok : kSay T k y a b := ⟨q0, q1, q2, q3⟩
          have x1 := w.2.1.2.2.1.2.2.2.2
          have x2 := w.2.1.2.2.2.2.2.2.2.2.2.2.2 (T 3) (by omega) q0
          have x3 : okR h 7 (T 3) = true := okR_t (k := 114) w.2.1.2.2.2.2.2.2.2.1 (by decide) (by decide) (by decide) (by omega) q0
          have o7 : okF h (65 + T 3) 7 = true := okF_t x2.2
          have e11 : mR h 2 11 = 7 := x1
          have e12 : mR h 7 (T 3) = 65 + T 3 := x2.1
          have g1 : mR (mW (mW (mW (mW h (65 + T 3) 0 k) (65 + T 3) 1 y) (65 + T 3) 2 a) (65 + T 3) 3 b) 2 7 = T 3 := by rw [mR_ne (by omega), mR_ne (by omega), mR_ne (by omega), mR_ne (by omega), e7]
          have g2 : ∀ v, mR (mW (mW (mW (mW (mW h (65 + T 3) 0 k) (65 + T 3) 1 y) (65 + T 3) 2 a) (65 + T 3) 3 b) 2 7 v) 1 0 = 2 := fun v => by rw [mR_ne (by omega), mR_ne (by omega), mR_ne (by omega), mR_ne (by omega), mR_ne (by omega)]; exact iv10 w
          have g3 : mR (mW (mW (mW (mW h (65 + T 3) 0 k) (65 + T 3) 1 y) (65 + T 3) 2 a) (65 + T 3) 3 b) 1 0 = 2 := by rw [mR_ne (by omega), mR_ne (by omega), mR_ne (by omega), mR_ne (by omega)]; exact iv10 w
          have ff : Fr pW h (mW (mW (mW (mW (mW h (65 + T 3) 0 k) (65 + T 3) 1 y) (65 + T 3) 2 a) (65 + T 3) 3 b) 2 7 (T 3 + 1)) := ((((Fr.W h k (by unfold pW; omega)).tr (Fr.W _ y (by unfold pW; omega))).tr (Fr.W _ a (by unfold pW; omega))).tr (Fr.W _ b (by unfold pW; omega))).tr (Fr.W _ (T 3 + 1) (by unfold pW; omega))
          refine ⟨_, ?_, ff, fun _ => w.c.w ff (TCo_say w.2.2.1 ok ff.1 (fun c i _ _ p q => ?_) (mR_same _ _ _ _) ?_ ?_ ?_ ?_), fun z => absurd ok z⟩
          · rw [if_neg (show ¬ a < -999999 by omega), if_neg (show ¬ 999999 < b by omega), if_pos q3.2.1, if_pos (iv1 w), iv10 w, if_pos (iv2 w), if_pos (iv1 w), if_pos (iv2 w), e7, e11, if_pos x3, e12, if_pos o7, E_Sa_set]
            simp only [okF_W, o7, ↓reduceIte, hb_eq, bind_some', iv1 w, g3, iv2 w, g1, g2, mR_same]
            rw [w32_id (x := T 3 + 1) (by omega) (by omega), w32_id (x := T 3 + 1 - 1) (by omega) (by omega), cI_t ok, show T 3 + 1 - 1 = T 3 by omega]
          · rw [mR_mW, if_neg (by omega), mR_ne (by omega), mR_ne (by omega), mR_ne (by omega), mR_ne (by omega)]
          · rw [mR_ne (by omega), mR_ni (by omega), mR_ni (by omega), mR_ni (by omega), mR_same]
          · rw [mR_ne (by omega), mR_ni (by omega), mR_ni (by omega), mR_same]
          · rw [mR_ne (by omega), mR_ni (by omega), mR_same]
          · rw [mR_ne (by omega), mR_same]
        · refine ⟨h, ?_, Fr.rf _ h, fun z => absurd z.2.2.2 q3, fun _ => rfl⟩
          rw [cI_f (fun z => q3 z.2.2.2)]
          by_cases p0 : a < -999999
          · rw [if_pos p0]
          · rw [if_neg p0]
            by_cases p1 : 999999 < b
            · rw [if_pos p1]
            · rw [if_neg p1, if_neg (show ¬ a < b by omega)]
      · rw [bI_f q2, if_pos rfl]; exact ⟨h, by rw [cI_f (fun z => q2 z.2.2.1)], Fr.rf _ h, fun z => absurd z.2.2.1 q2, fun _ => rfl⟩
    · rw [bI_f q1, if_pos rfl]; exact ⟨h, by rw [cI_f (fun z => q1 z.2.1)], Fr.rf _ h, fun z => absurd z.2.1 q1, fun _ => rfl⟩
  · rw [if_neg q0]; exact ⟨h, by rw [cI_f (fun z => q0 z.1)], Fr.rf _ h, fun z => absurd z.1 q0, fun _ => rfl⟩
theorem r_say {h : Hp} {T : Int → Int} (w : MIn h T) (o : Tok T) (k y a b : Int) : ∃ h', C_Mo_say 124 k y a b h = some (aSay T k y a b, h') ∧ Fr pD h h' ∧ (kSay T k y a b → MIn h' (tSay T k y a b)) ∧ (¬ kSay T k y a b → h' = h) := by
  have n := o.1
  rw [E_Mo_say, if_pos (miO w), n_isOf w o (by omega) (by omega), bind_some']
  unfold aSay
  by_cases q1 : 0 ≤ k ∧ k < T 1
  · rw [bI_t q1, if_neg n10, m_isIn, bind_some']
    by_cases q2 : 0 ≤ y ∧ y < 100
    · rw [bI_t (show 0 ≤ y ∧ y ≤ 99 by omega), if_neg n10, m_isIn, bind_some']
      by_cases q3 : -999999 ≤ a ∧ a ≤ 999999
      · rw [bI_t q3, if_neg n10, m_isIn, bind_some']
        by_cases q4 : -999999 ≤ b ∧ b ≤ 999999
        · rw [bI_t q4, if_neg n10]
          by_cases q5 : a < b
          · rw [if_pos q5, if_pos (miO w), mi0 w, if_pos (miA w (by omega) (by omega)), w.2 3 (by omega) (by omega)]
            by_cases q0 : T 3 = 16
            · rw [if_pos q0]; exact ⟨h, by rw [cI_f (fun z => by have := z.1; omega)], Fr.rf _ h, fun z => by have := z.1; omega, fun _ => rfl⟩
            · have ok : kSay T k y a b := ⟨by omega, q1, q2, by omega⟩
              have w1 := w.up (1730 + 4 * T 3) k
              have w2 := w1.up (1731 + 4 * T 3) y
              have w3 := w2.up (1732 + 4 * T 3) a
              have w4 := w3.up (1733 + 4 * T 3) b
              have w5 := w4.up 3 (T 3 + 1)
              refine ⟨_, ?_, ((((Fr.W h k (show pD 125 (1730 + 4 * T 3) by unfold pD; omega)).tr (Fr.W _ y (show pD 125 (1731 + 4 * T 3) by unfold pD; omega))).tr (Fr.W _ a (show pD 125 (1732 + 4 * T 3) by unfold pD; omega))).tr (Fr.W _ b (show pD 125 (1733 + 4 * T 3) by unfold pD; omega))).tr (Fr.W _ (T 3 + 1) (show pD 125 3 by unfold pD; omega)), fun _ => w5, fun z => absurd ok z⟩
              have e4 := w4.2 3 (by omega) (by omega)
              rw [up1_n (by omega), up1_n (by omega), up1_n (by omega), up1_n (by omega)] at e4
              rw [if_neg q0, if_pos (miO w), if_pos (miA w (by omega) (by omega)), if_pos (miO w), w32_id (x := 4 * T 3) (by omega) (by omega), w32_id (x := 1730 + 4 * T 3) (by omega) (by omega), w32_id (x := 1730 + 4 * T 3 + 1) (by omega) (by omega), w32_id (x := 1730 + 4 * T 3 + 2) (by omega) (by omega), w32_id (x := 1730 + 4 * T 3 + 3) (by omega) (by omega), show 1730 + 4 * T 3 + 1 = 1731 + 4 * T 3 by omega, show 1730 + 4 * T 3 + 2 = 1732 + 4 * T 3 by omega, show 1730 + 4 * T 3 + 3 = 1733 + 4 * T 3 by omega, if_pos (miS w (by omega) (by omega)), hb_eq, if_pos (miO w1), mi0 w1, if_pos (miS w1 (by omega) (by omega)), hb_eq, if_pos (miO w2), mi0 w2, if_pos (miS w2 (by omega) (by omega)), hb_eq, if_pos (miO w3), mi0 w3, if_pos (miS w3 (by omega) (by omega)), hb_eq, if_pos (miO w4), mi0 w4, if_pos (miA w4 (by omega) (by omega)), if_pos (miS w4 (by omega) (by omega)), hb_eq, e4, w32_id (x := T 3 + 1) (by omega) (by omega), if_pos (miO w5), mi0 w5, if_pos (miA w5 (by omega) (by omega)), mR_same, w32_id (x := T 3 + 1 - 1) (by omega) (by omega), cI_t ok, show T 3 + 1 - 1 = T 3 by omega]
          · rw [if_neg q5]; exact ⟨h, by rw [cI_f (fun z => q5 z.2.2.2.2.1)], Fr.rf _ h, fun z => absurd z.2.2.2.2.1 q5, fun _ => rfl⟩
        · rw [bI_f q4, if_pos rfl]; exact ⟨h, by rw [cI_f (fun z => by have := z.2.2.2; omega)], Fr.rf _ h, fun z => by have := z.2.2.2; omega, fun _ => rfl⟩
      · rw [bI_f q3, if_pos rfl]; exact ⟨h, by rw [cI_f (fun z => by have := z.2.2.2; omega)], Fr.rf _ h, fun z => by have := z.2.2.2; omega, fun _ => rfl⟩
    · rw [bI_f (show ¬ (0 ≤ y ∧ y ≤ 99) by omega), if_pos rfl]; exact ⟨h, by rw [cI_f (fun z => q2 z.2.2.1)], Fr.rf _ h, fun z => absurd z.2.2.1 q2, fun _ => rfl⟩
  · rw [bI_f q1, if_pos rfl]; exact ⟨h, by rw [cI_f (fun z => q1 z.2.1)], Fr.rf _ h, fun z => absurd z.2.1 q1, fun _ => rfl⟩
def aCount (T : Int → Int) (x : Int) : Int := if 0 ≤ x ∧ x ≤ 3 then T x else -2
theorem q_count {h : Hp} {T : Int → Int} (w : Inv h T) (x : Int) : C_LS_count 1 x h = some (aCount T x, h) := by
  have e7 : mR h 2 7 = T 3 := w.2.2.1.1.2.2.2.2.2.2
  rw [E_LS_count]
  simp only [iv1 w, iv10 w, iv16 w, iv2 w, iv28 w, iv29 w, iv24 w, iv25 w, iv26 w, ivR4 w, ivR5 w, iv4 w, iv5 w, ivS w, ↓reduceIte, bind_some', hb_eq, e7]
  unfold aCount
  by_cases x0 : x = 0
  · rw [if_pos x0, x0, if_pos (by omega)]
  · by_cases x1 : x = 1
    · rw [if_neg x0, if_pos x1, x1, if_pos (by omega)]
    · by_cases x2 : x = 2
      · rw [if_neg x0, if_neg x1, if_pos x2, x2, if_pos (by omega)]
      · by_cases x3 : x = 3
        · rw [if_neg x0, if_neg x1, if_neg x2, if_pos x3, x3, if_pos (by omega)]
        · rw [if_neg x0, if_neg x1, if_neg x2, if_neg x3, if_neg (by omega)]
theorem r_count {h : Hp} {T : Int → Int} (w : Inv h T) (x : Int) : C_Mo_count 124 x h = some (aCount T x, h) := by
  rw [E_Mo_count, m_isIn, bind_some']
  unfold aCount
  by_cases q : 0 ≤ x ∧ x ≤ 3
  · rw [bI_t q, if_neg n10, if_pos (ivM w), ivM0 w, if_pos (ivMA w q.1 (by omega)), ivMT w q.1 (by omega), if_pos q]
  · rw [bI_f q, if_pos rfl, if_neg q]
def cntF (V : Int → Int) (i n : Int) : Int := if V (33 + i) = 0 then n else n + 1
theorem l_cnt {h : Hp} {c : Int} {V : Int → Int} (w : CatC h c V) : ∀ (n : Nat) (i a : Int), 0 ≤ i → i + n = 144 → 0 ≤ a → a ≤ i → P_Ca_countEntries_4 c a i h = some (itN (cntF V) n i a, h) := by
  have yo : okY h (c + 5) = true := decide_eq_true (by rw [w.1.1.2.2.2.2.2.2.2.1.1]; decide)
  have ln := w.1.1.2.2.2.2.2.2.2.1.2
  intro n
  induction n with
  | zero =>
    intro i a i0 hi a0 a1
    rw [E_Ca_countEntries_4, if_pos (cF w.1.1), c7 w.1.1, if_pos yo, ln, if_neg (by omega)]
    rfl
  | succ n ih =>
    intro i a i0 hi a0 a1
    rw [E_Ca_countEntries_4, if_pos (cF w.1.1), c7 w.1.1, if_pos yo, ln, if_pos (show i < 144 by omega), if_pos (cF w.1.1), if_pos (cA5 w.1.1 i0 (by omega)), (w.2.2.2.2.1 i i0 (by omega)).1, w32_id (x := i + 1) (by omega) (by omega), w32_id (x := a + 1) (by omega) (by omega)]
    show _ = some (itN (cntF V) n (i + 1) (cntF V i a), h)
    unfold cntF
    by_cases q : V (33 + i) = 0
    · rw [if_pos q, if_pos q]; exact ih (i + 1) _ (by omega) (by omega) a0 (by omega)
    · rw [if_neg q, if_neg q]; exact ih (i + 1) _ (by omega) (by omega) (by omega) (by omega)
noncomputable def aAbout (T : Int → Int) (k x : Int) : Int := cI (0 ≤ k ∧ k < T 0) (if 0 ≤ x ∧ x ≤ 2 then catT T k x else if x = 3 then itN (cntF (catT T k)) 144 0 0 else if 10 ≤ x ∧ x < 10 + catT T k 0 then catT T k (3 + (x - 10)) else if 20 ≤ x ∧ x < 20 + catT T k 2 then catT T k (321 + (x - 20)) else -1) (-1)
theorem s_foot {h : Hp} {c : Int} {V : Int → Int} (w : CatC h c V) (r : Int) : C_Ca_footing c r h = some (if 0 ≤ r ∧ r < V 0 then V (3 + r) else -1, h) := by
  have v0 := w.2.1.1
  rw [E_Ca_footing]
  by_cases q : 0 ≤ r ∧ r < V 0
  · have g := w.1.2.2.2.2.1 r q.1 q.2
    have v3 := w.2.1.2.2.1 r q.1 q.2
    rw [if_neg (show ¬ r < 0 by omega), if_pos (cF w.1.1), w.1.2.2.1, if_pos q.2, if_pos (cF w.1.1), c3 w.1.1, if_pos (cA1 w.1.1 q.1 (by omega)), if_pos (cF w.1.1), c4 w.1.1, if_pos (cA2 w.1.1 q.1 (by omega)), if_pos (cF w.1.1), if_pos (cA1 w.1.1 q.1 (by omega)), if_pos q, g.1]
    by_cases z : V (3 + r) < 100
    · have e : onV V r = V (3 + r) := if_pos z
      rw [e, if_neg (by omega)]
    · have e : onV V r = -1 := if_neg z
      rw [if_pos e, g.2.1 e, w32_id (by omega) (by omega), show 100 + (V (3 + r) - 100) = V (3 + r) by omega]
  · rw [if_neg q]
    by_cases z : r < 0
    · rw [if_pos z]
    · rw [if_neg z, if_pos (cF w.1.1), w.1.2.2.1, if_neg (by omega)]
theorem s_stone {h : Hp} {c : Int} {V : Int → Int} (w : CatC h c V) (r : Int) : C_Ca_stoneAge c r h = some (if 0 ≤ r ∧ r < V 2 then V (321 + r) else -1, h) := by
  have v0 := w.2.2.2.1
  rw [E_Ca_stoneAge]
  by_cases q : 0 ≤ r ∧ r < V 2
  · rw [if_neg (show ¬ r < 0 by omega), if_pos (cF w.1.1), w.2.2.1, if_pos q.2, if_pos (cF w.1.1), c9 w.1.1, if_pos (cA7 w.1.1 q.1 (by omega)), if_pos q, w.2.2.2.2.2 r q.1 q.2]
  · rw [if_neg q]
    by_cases z : r < 0
    · rw [if_pos z]
    · rw [if_neg z, if_pos (cF w.1.1), w.2.2.1, if_neg (by omega)]
theorem q_about {h : Hp} {T : Int → Int} (w : Inv h T) (k x : Int) (xb : in32 x) : C_LS_about 1 k x h = some (aAbout T k x, h) := by
  have n := ivn w
  unfold in32 at xb
  rw [E_LS_about, if_pos (iv1 w), s_isCat w, bind_some']
  unfold aAbout
  by_cases q1 : 0 ≤ k ∧ k < T 0
  · have c := ivC w q1.1 q1.2
    have v0 := c.2.1.1
    have v2 := c.2.2.2.1
    rw [bI_t q1, if_neg n10, cI_t q1]
    simp (disch := omega) only [iv1 w, iv10 w, iv16 w, iv2 w, iv28 w, iv29 w, iv24 w, iv25 w, iv26 w, ivR4 w, ivR5 w, iv4 w, iv5 w, ivS w, ↓reduceIte, bind_some', hb_eq, cF c.1.1, c.1.2.2.1, c.1.2.2.2.1, c.2.2.1, E_Ca_countEntries, l_cnt c 144 0 0, s_foot c, s_stone c]
    by_cases x0 : 0 ≤ x ∧ x ≤ 2
    · have : x = 0 ∨ x = 1 ∨ x = 2 := by omega
      rw [if_pos x0]
      rcases this with z | z | z <;> rw [z] <;> rfl
    · rw [if_neg (show ¬ x = 0 by omega), if_neg (show ¬ x = 1 by omega), if_neg (show ¬ x = 2 by omega), if_neg x0]
      by_cases x3 : x = 3
      · rw [if_pos x3, if_pos x3]
      · rw [if_neg x3, if_neg x3]
        by_cases y1 : x < 10
        · rw [if_pos y1, if_pos (show x < 20 by omega), if_neg (show ¬ (10 ≤ x ∧ x < 10 + catT T k 0) by omega), if_neg (show ¬ (20 ≤ x ∧ x < 20 + catT T k 2) by omega)]
        · rw [if_neg y1]
          by_cases y2 : x < 20
          · rw [if_pos y2, w32_id (x := x - 10) (by omega) (by omega), if_neg (show ¬ (20 ≤ x ∧ x < 20 + catT T k 2) by omega)]
            by_cases y3 : x < 10 + catT T k 0
            · rw [if_pos (show 0 ≤ x - 10 ∧ x - 10 < catT T k 0 by omega), if_pos (show 10 ≤ x ∧ x < 10 + catT T k 0 by omega)]
            · rw [if_neg (show ¬ (0 ≤ x - 10 ∧ x - 10 < catT T k 0) by omega), if_neg (show ¬ (10 ≤ x ∧ x < 10 + catT T k 0) by omega)]
          · rw [if_neg y2, if_neg y2, w32_id (x := x - 20) (by omega) (by omega), if_neg (show ¬ (10 ≤ x ∧ x < 10 + catT T k 0) by omega)]
            by_cases y3 : x < 20 + catT T k 2
            · rw [if_pos (show 0 ≤ x - 20 ∧ x - 20 < catT T k 2 by omega), if_pos (show 20 ≤ x ∧ x < 20 + catT T k 2 by omega)]
            · rw [if_neg (show ¬ (0 ≤ x - 20 ∧ x - 20 < catT T k 2) by omega), if_neg (show ¬ (20 ≤ x ∧ x < 20 + catT T k 2) by omega)]
  · rw [bI_f q1, if_pos rfl, cI_f q1]
theorem l_mcnt {h : Hp} {T : Int → Int} (w : Inv h T) {k : Int} (k0 : 0 ≤ k) (k1 : k < T 0) : ∀ (n : Nat) (i a : Int), 0 ≤ i → i + n = 144 → 0 ≤ a → a ≤ i → P_Mo_about_28 124 (520 + 330 * k) a i h = some (itN (cntF (catT T k)) n i a, h) := by
  have nn := ivn w
  have c := ivC w k0 k1
  intro n
  induction n with
  | zero =>
    intro i a i0 hi a0 a1
    rw [E_Mo_about_28, if_neg (by omega)]
    rfl
  | succ n ih =>
    intro i a i0 hi a0 a1
    have e1 : T (520 + 330 * k + 33 + i) = catT T k (33 + i) := by rw [← catE (T := T) (k := k) (by omega) (by omega)]; congr 1; omega
    have p := (c.2.2.2.2.1 i i0 (by omega)).2
    rw [E_Mo_about_28, if_pos (show i < 144 by omega), if_pos (ivM w), ivM0 w, w32_id (x := 520 + 330 * k + 33) (by omega) (by omega), w32_id (x := 520 + 330 * k + 33 + i) (by omega) (by omega), if_pos (ivMA w (by omega) (by omega)), ivMT w (by omega) (by omega), e1, w32_id (x := i + 1) (by omega) (by omega), w32_id (x := a + 1) (by omega) (by omega), w32_id (x := a + 0) (by omega) (by omega)]
    show _ = some (itN (cntF (catT T k)) n (i + 1) (cntF (catT T k) i a), h)
    unfold cntF
    by_cases q : catT T k (33 + i) = 0
    · rw [if_neg (show ¬ 0 < catT T k (33 + i) by omega), if_pos q, Int.add_zero]; exact ih (i + 1) _ (by omega) (by omega) a0 (by omega)
    · rw [if_pos (show 0 < catT T k (33 + i) by omega), if_neg q]; exact ih (i + 1) _ (by omega) (by omega) (by omega) (by omega)
theorem r_about {h : Hp} {T : Int → Int} (w : Inv h T) (k x : Int) : C_Mo_about 124 k x h = some (aAbout T k x, h) := by
  have n := ivn w
  rw [E_Mo_about, if_pos (ivM w), m_isOf w (by omega) (by omega), bind_some']
  unfold aAbout
  by_cases q1 : 0 ≤ k ∧ k < T 0
  · have c := ivC w q1.1 q1.2
    have v0 := c.2.1.1
    have v2 := c.2.2.2.1
    have e0 : T (520 + 330 * k + 0) = catT T k 0 := catE (by omega) (by omega)
    have e2 : T (520 + 330 * k + 2) = catT T k 2 := catE (by omega) (by omega)
    rw [bI_t q1, if_neg n10, cI_t q1, if_pos (ivM w), m_catAt q1.1 (by omega), bind_some']
    by_cases x3 : x = 3
    · rw [if_pos x3, if_neg (show ¬ (0 ≤ x ∧ x ≤ 2) by omega), if_pos x3]; exact l_mcnt w q1.1 q1.2 144 0 0 (by omega) (by omega) (by omega) (by omega)
    · rw [if_neg x3, if_pos (ivM w), ivM0 w, w32_id (x := 520 + 330 * k + 0) (by omega) (by omega), if_pos (ivMA w (by omega) (by omega)), ivMT w (by omega) (by omega), e0, w32_id (x := 9 + catT T k 0) (by omega) (by omega), m_isIn, bind_some', if_neg x3]
      by_cases y1 : 10 ≤ x ∧ x < 10 + catT T k 0
      · have e3 : T (520 + 330 * k + 3 + x - 10) = catT T k (3 + (x - 10)) := by rw [← catE (T := T) (k := k) (by omega) (by omega)]; congr 1; omega
        rw [bI_t (by omega), if_neg n10, if_pos (ivM w), ivM0 w, w32_id (x := 520 + 330 * k + 3) (by omega) (by omega), w32_id (x := 520 + 330 * k + 3 + x) (by omega) (by omega), w32_id (x := 520 + 330 * k + 3 + x - 10) (by omega) (by omega), if_pos (ivMA w (by omega) (by omega)), ivMT w (by omega) (by omega), if_neg (show ¬ (0 ≤ x ∧ x ≤ 2) by omega), if_pos y1, e3]
      · rw [bI_f (show ¬ (10 ≤ x ∧ x ≤ 9 + catT T k 0) by omega), if_pos rfl, if_pos (ivM w), ivM0 w, w32_id (x := 520 + 330 * k + 2) (by omega) (by omega), if_pos (ivMA w (by omega) (by omega)), ivMT w (by omega) (by omega), e2, w32_id (x := 19 + catT T k 2) (by omega) (by omega), m_isIn, bind_some', if_neg y1]
        by_cases y2 : 20 ≤ x ∧ x < 20 + catT T k 2
        · have e3 : T (520 + 330 * k + 321 + x - 20) = catT T k (321 + (x - 20)) := by rw [← catE (T := T) (k := k) (by omega) (by omega)]; congr 1; omega
          rw [bI_t (by omega), if_neg n10, if_pos (ivM w), ivM0 w, w32_id (x := 520 + 330 * k + 321) (by omega) (by omega), w32_id (x := 520 + 330 * k + 321 + x) (by omega) (by omega), w32_id (x := 520 + 330 * k + 321 + x - 20) (by omega) (by omega), if_pos (ivMA w (by omega) (by omega)), ivMT w (by omega) (by omega), if_neg (show ¬ (0 ≤ x ∧ x ≤ 2) by omega), if_pos y2, e3]
        · rw [bI_f (show ¬ (20 ≤ x ∧ x ≤ 19 + catT T k 2) by omega), if_pos rfl, m_isIn, bind_some', if_neg y2]
          by_cases x0 : 0 ≤ x ∧ x ≤ 2
          · rw [bI_t x0, if_neg n10, if_pos (ivM w), ivM0 w, w32_id (x := 520 + 330 * k + x) (by omega) (by omega), if_pos (ivMA w (by omega) (by omega)), ivMT w (by omega) (by omega), if_pos x0, catE (T := T) (k := k) (o := x) (by omega) (by omega)]
          · rw [bI_f x0, if_pos rfl, if_neg x0]
  · rw [bI_f q1, if_pos rfl, cI_f q1]
