/-! Calls that change one thing: has, lean, cast, say; and about, count. -/
theorem catT_up {T : Int → Int} {k o v : Int} (o0 : 0 ≤ o) (o1 : o < 330) : catT (up1 T (520 + 330 * k + o) v) k = up1 (catT T k) o v := by
  funext i
  unfold catT slc up1
  dsimp only
  by_cases z : i = o
  · rw [z, if_pos ⟨o0, o1⟩, if_pos rfl, if_pos rfl]
  · rw [if_neg z]
    by_cases y : 0 ≤ i ∧ i < 330
    · rw [if_pos y, if_pos y, if_neg (by omega)]
    · rw [if_neg y, if_neg y]
theorem houT_up {T : Int → Int} {k o v : Int} (o0 : 0 ≤ o) (o1 : o < 26) : houT (up1 T (1510 + 26 * k + o) v) k = up1 (houT T k) o v := by
  funext i
  unfold houT slc up1
  dsimp only
  by_cases z : i = o
  · rw [z, if_pos ⟨o0, o1⟩, if_pos rfl, if_pos rfl]
  · rw [if_neg z]
    by_cases y : 0 ≤ i ∧ i < 26
    · rw [if_pos y, if_pos y, if_neg (by omega)]
    · rw [if_neg y, if_neg y]
theorem stp_cg {V V' : Int → Int} (o : Vok V) (e : ∀ i, 3 ≤ i → i < 9 → V' i = V i) : ∀ (n : Nat) (r : Int), 0 ≤ r → r < V 0 → stp V' n r = stp V n r
  | 0, _, _, _ => rfl
  | n + 1, r, r0, r1 => by
    have v0 := o.1
    have v3 := o.2.2.1 r r0 r1
    unfold stp
    rw [e (3 + r) (by omega) (by omega)]
    by_cases q : V (3 + r) < 100
    · rw [if_pos q, if_pos q, stp_cg o e n _ v3.1 (by have := v3.2.2 q; omega)]
    · rw [if_neg q, if_neg q]
def tHas (T : Int → Int) (k t r x y : Int) : Int → Int := up1 (up1 T (520 + 330 * k + (33 + 6 * t + r)) x) (520 + 330 * k + (177 + 6 * t + r)) y
def kHas (T : Int → Int) (k t r x y : Int) : Prop := ((0 ≤ k ∧ k < T 0) ∧ 0 ≤ t ∧ t < catT T k 1) ∧ (0 ≤ r ∧ r < catT T k 0) ∧ (1 ≤ x ∧ x ≤ 9999) ∧ (0 ≤ y ∧ y < 100)
theorem CatC_has {h : Hp} {c t r x y : Int} {V : Int → Int} (w : CatC h c V) (t0 : 0 ≤ t) (t1 : t < V 1) (r0 : 0 ≤ r) (r1 : r < V 0) (x0 : 1 ≤ x) (x1 : x ≤ 9999) : CatC (mW (mW h (c + 5) (t * 6 + r) x) (c + 6) (t * 6 + r) y) c (up1 (up1 V (33 + 6 * t + r) x) (177 + 6 * t + r) y) := by
  have v0 := w.2.1.1
  have v1 := w.2.1.2.1
  have v2 := w.2.2.2.1
  have u : ∀ i, i ≠ 33 + 6 * t + r → i ≠ 177 + 6 * t + r → up1 (up1 V (33 + 6 * t + r) x) (177 + 6 * t + r) y i = V i := fun i p q => by rw [up1_n q, up1_n p]
  have m : ∀ b i, ¬ (b = c + 5 ∧ i = t * 6 + r) → ¬ (b = c + 6 ∧ i = t * 6 + r) → mR (mW (mW h (c + 5) (t * 6 + r) x) (c + 6) (t * 6 + r) y) b i = mR h b i := fun b i p q => by rw [mR_mW, if_neg q, mR_mW, if_neg p]
  have f : SK h (mW (mW h (c + 5) (t * 6 + r) x) (c + 6) (t * 6 + r) y) := (SK.W h _ _ _).tr (SK.W _ _ _ _)
  have ur : ∀ i, i ≠ 33 + 6 * t + r → i < 177 → up1 (up1 V (33 + 6 * t + r) x) (177 + 6 * t + r) y i = V i := fun i p q => u i p (by omega)
  have ux : up1 (up1 V (33 + 6 * t + r) x) (177 + 6 * t + r) y (33 + 6 * t + r) = x := by rw [up1_n (by omega), up1_s]
  have uy : up1 (up1 V (33 + 6 * t + r) x) (177 + 6 * t + r) y (177 + 6 * t + r) = y := up1_s _ _ _
  have e0 : up1 (up1 V (33 + 6 * t + r) x) (177 + 6 * t + r) y 0 = V 0 := u 0 (by omega) (by omega)
  have e1 : up1 (up1 V (33 + 6 * t + r) x) (177 + 6 * t + r) y 1 = V 1 := u 1 (by omega) (by omega)
  have e2 : up1 (up1 V (33 + 6 * t + r) x) (177 + 6 * t + r) y 2 = V 2 := u 2 (by omega) (by omega)
  obtain ⟨a1, a2, a3, a4, a5, a6⟩ := w
  have stpe := stp_cg (V' := up1 (up1 V (33 + 6 * t + r) x) (177 + 6 * t + r) y) a2 (fun i i0 i1 => u i (by omega) (by omega)) 6
  unfold CatC CatV Vok onV
  rw [e0, e1, e2, m c 0 (by omega) (by omega), m c 1 (by omega) (by omega), m c 2 (by omega) (by omega)]
  refine ⟨⟨a1.1.of f (fun i _ _ => m c i (by omega) (by omega)), a1.2.1, a1.2.2.1, a1.2.2.2.1, fun s s0 s1 => ?_, fun s s0 s1 => ?_, fun s q s0 s1 q0 q1 => ?_⟩, ⟨a2.1, a2.2.1, fun s s0 s1 => ?_, fun s s0 s1 => ?_, fun s q s0 s1 q0 q1 => ?_⟩, a3, a4, fun i i0 i1 => ?_, fun i i0 i1 => ?_⟩
  · rw [m (c + 1) s (by omega) (by omega), m (c + 2) s (by omega) (by omega), m (c + 3) s (by omega) (by omega), u (3 + s) (by omega) (by omega), stpe s s0 s1]
    exact a1.2.2.2.2.1 s s0 s1
  · rw [m (c + 4) s (by omega) (by omega), u (9 + s) (by omega) (by omega)]
    exact a1.2.2.2.2.2.1 s s0 s1
  · have g := a1.2.2.2.2.2.2 s q s0 s1 q0 q1
    by_cases z : s = t ∧ q = r
    · rw [z.1, z.2, ux, uy, mR_same, mR_ne (by omega), mR_same]; exact ⟨rfl, fun _ => rfl⟩
    · rw [m (c + 5) _ (by omega) (by omega), m (c + 6) _ (by omega) (by omega), u (33 + 6 * s + q) (by omega) (by omega), u (177 + 6 * s + q) (by omega) (by omega)]; exact g
  · rw [u (3 + s) (by omega) (by omega)]; exact a2.2.2.1 s s0 s1
  · rw [u (9 + s) (by omega) (by omega)]; exact a2.2.2.2.1 s s0 s1
  · by_cases z : s = t ∧ q = r
    · rw [z.1, z.2, ux]; omega
    · rw [u (33 + 6 * s + q) (by omega) (by omega)]; exact a2.2.2.2.2 s q s0 s1 q0 q1
  · by_cases z : i = t * 6 + r
    · rw [z, show 33 + (t * 6 + r) = 33 + 6 * t + r by omega, ux, mR_ne (by omega), mR_same]; omega
    · rw [m (c + 5) i (by omega) (by omega), ur (33 + i) (by omega) (by omega)]; exact a5 i i0 i1
  · rw [m (c + 7) i (by omega) (by omega), u (321 + i) (by omega) (by omega)]; exact a6 i i0 i1
theorem q_has {h : Hp} {T : Int → Int} (w : Inv h T) (k t r x y : Int) : ∃ h', C_LS_has 1 k t r x y h = some (bI (kHas T k t r x y), h') ∧ Fr pW h h' ∧ (kHas T k t r x y → CIn h' (tHas T k t r x y)) ∧ (¬ kHas T k t r x y → h' = h) := by
  have n := ivn w
  rw [E_LS_has, if_pos (iv1 w), s_isThing w, bind_some']
  by_cases q1 : (0 ≤ k ∧ k < T 0) ∧ 0 ≤ t ∧ t < catT T k 1
  · rw [bI_t q1, if_neg n10, if_pos (iv1 w), s_isRung w, bind_some']
    by_cases q2 : 0 ≤ r ∧ r < catT T k 0
    · rw [bI_t ⟨q1.1, q2⟩, if_neg n10]
      by_cases q3 : x < 1
      · rw [if_pos q3]; exact ⟨h, by rw [bI_f (fun z => by have := z.2.2.1; omega)], Fr.rf _ h, fun z => by have := z.2.2.1; omega, fun _ => rfl⟩
      · rw [if_neg q3]
        by_cases q4 : 9999 < x
        · rw [if_pos q4]; exact ⟨h, by rw [bI_f (fun z => by have := z.2.2.1; omega)], Fr.rf _ h, fun z => by have := z.2.2.1; omega, fun _ => rfl⟩
        · rw [if_neg q4, s_isYear, bind_some']
          by_cases q5 : 0 ≤ y ∧ y < 100
          · have ok : kHas T k t r x y := ⟨q1, q2, by omega, q5⟩
            have c := ivC w q1.1.1 q1.1.2
            have v0 := c.2.1.1
            have v1 := c.2.1.2.1
            have A1 : okS h (8 + 8 * k + 5) 102 (t * 6 + r) = true := okS_t c.1.1.2.2.2.2.2.2.2.1 (by omega) (by omega) (by omega)
            have A2 : okS h (8 + 8 * k + 6) 102 (t * 6 + r) = true := okS_t c.1.1.2.2.2.2.2.2.2.2.1 (by omega) (by omega) (by omega)
            have m8 : mR (mW h (8 + 8 * k + 5) (t * 6 + r) x) (8 + 8 * k) 8 = 8 + 8 * k + 6 := by rw [mR_ne (by omega)]; exact c8 c.1.1
            have f5 : Fr pW h (mW h (8 + 8 * k + 5) (t * 6 + r) x) := Fr.W h x (by unfold pW; omega)
            have f6 : Fr pW (mW h (8 + 8 * k + 5) (t * 6 + r) x) (mW (mW h (8 + 8 * k + 5) (t * 6 + r) x) (8 + 8 * k + 6) (t * 6 + r) y) := Fr.W _ y (by unfold pW; omega)
            have ff := f5.tr f6
            refine ⟨_, ?_, ff, fun _ => ?_, fun z => absurd ok z⟩
            · rw [bI_t q5, if_neg n10, if_pos (iv1 w), iv10 w, if_pos (iv2 w), iv28 w, if_pos (ivR4 w q1.1.1 (by omega)), iv4 w q1.1.1 (by omega), if_pos (cF c.1.1), E_Ca_enter, if_neg (show ¬ t < 0 by omega), if_pos (cF c.1.1), c.1.2.2.2.1, if_pos q1.2.2, if_neg (show ¬ r < 0 by omega), if_pos (cF c.1.1), c.1.2.2.1, if_pos q2.2, if_pos (cF c.1.1), c7 c.1.1, w32_id (x := t * 6) (by omega) (by omega), w32_id (x := t * 6 + r) (by omega) (by omega), if_pos A1, hb_eq, okF_W, if_pos (cF c.1.1), m8, okS_W, if_pos A2, hb_eq, bind_some', bI_t ok]
            · refine w.c.w ff (TCo_cat (k := k) w.2.2.1 q1.1.1 (by omega) (by omega) ff.1 (fun b i _ _ _ _ => ?_) (fun i i0 i1 => ?_) ?_ ?_ ?_)
              · rw [mR_ne (by omega), mR_ne (by omega)]
              · unfold tHas; rw [up1_n (by omega), up1_n (by omega)]
              · unfold tHas; rw [up1_n (by omega), up1_n (by omega), mR_ne (by omega), mR_ne (by omega)]; exact iv24 w
              · unfold tHas; rw [up1_n (by omega), up1_n (by omega), if_neg (by omega)]
              · unfold tHas; rw [catT_up (by omega) (by omega), catT_up (by omega) (by omega)]; exact CatC_has c q1.2.1 q1.2.2 q2.1 q2.2 (by omega) (by omega)
          · rw [bI_f q5, if_pos rfl]; exact ⟨h, by rw [bI_f (fun z => q5 z.2.2.2)], Fr.rf _ h, fun z => absurd z.2.2.2 q5, fun _ => rfl⟩
    · rw [bI_f (fun z => q2 z.2), if_pos rfl]; exact ⟨h, by rw [bI_f (fun z => q2 z.2.1)], Fr.rf _ h, fun z => absurd z.2.1 q2, fun _ => rfl⟩
  · rw [bI_f q1, if_pos rfl]; exact ⟨h, by rw [bI_f (fun z => q1 z.1)], Fr.rf _ h, fun z => absurd z.1 q1, fun _ => rfl⟩
theorem r_has {h : Hp} {T : Int → Int} (w : MIn h T) (o : Tok T) (k t r x y : Int) : ∃ h', C_Mo_has 124 k t r x y h = some (bI (kHas T k t r x y), h') ∧ Fr pD h h' ∧ (kHas T k t r x y → MIn h' (tHas T k t r x y)) ∧ (¬ kHas T k t r x y → h' = h) := by
  have n := o.1
  rw [E_Mo_has, if_pos (miO w), n_isThing w o, bind_some']
  by_cases q1 : (0 ≤ k ∧ k < T 0) ∧ 0 ≤ t ∧ t < catT T k 1
  · rw [bI_t q1, if_neg n10, if_pos (miO w), n_isRung w o, bind_some']
    by_cases q2 : 0 ≤ r ∧ r < catT T k 0
    · rw [bI_t ⟨q1.1, q2⟩, if_neg n10, m_isIn, bind_some']
      by_cases q3 : 1 ≤ x ∧ x ≤ 9999
      · rw [bI_t q3, if_neg n10, m_isIn, bind_some']
        by_cases q5 : 0 ≤ y ∧ y < 100
        · have ok : kHas T k t r x y := ⟨q1, q2, q3, q5⟩
          have v0 := (o.2.2.1 k q1.1.1 q1.1.2).1
          have v1 := (o.2.2.1 k q1.1.1 q1.1.2).2.1
          have w1 := w.up (520 + 330 * k + (33 + 6 * t + r)) x
          refine ⟨_, ?_, (Fr.W h x (by unfold pD; omega)).tr (Fr.W _ y (by unfold pD; omega)), fun _ => w1.up (520 + 330 * k + (177 + 6 * t + r)) y, fun z => absurd ok z⟩
          rw [bI_t (by omega), if_neg n10, if_pos (miO w), m_catAt q1.1.1 (by omega), bind_some', if_pos (miO w), mi0 w, w32_id (x := 520 + 330 * k + 33) (by omega) (by omega), w32_id (x := 6 * t) (by omega) (by omega), w32_id (x := 520 + 330 * k + 33 + 6 * t) (by omega) (by omega), w32_id (x := 520 + 330 * k + 33 + 6 * t + r) (by omega) (by omega), w32_id (x := 520 + 330 * k + 177) (by omega) (by omega), w32_id (x := 520 + 330 * k + 177 + 6 * t) (by omega) (by omega), w32_id (x := 520 + 330 * k + 177 + 6 * t + r) (by omega) (by omega), show 520 + 330 * k + 33 + 6 * t + r = 520 + 330 * k + (33 + 6 * t + r) by omega, show 520 + 330 * k + 177 + 6 * t + r = 520 + 330 * k + (177 + 6 * t + r) by omega, if_pos (miS w (by omega) (by omega)), hb_eq, if_pos (miO w1), mi0 w1, if_pos (miS w1 (by omega) (by omega)), hb_eq, bI_t ok]
        · rw [bI_f (by omega), if_pos rfl]; exact ⟨h, by rw [bI_f (fun z => q5 z.2.2.2)], Fr.rf _ h, fun z => absurd z.2.2.2 q5, fun _ => rfl⟩
      · rw [bI_f q3, if_pos rfl]; exact ⟨h, by rw [bI_f (fun z => q3 z.2.2.1)], Fr.rf _ h, fun z => absurd z.2.2.1 q3, fun _ => rfl⟩
    · rw [bI_f (fun z => q2 z.2), if_pos rfl]; exact ⟨h, by rw [bI_f (fun z => q2 z.2.1)], Fr.rf _ h, fun z => absurd z.2.1 q2, fun _ => rfl⟩
  · rw [bI_f q1, if_pos rfl]; exact ⟨h, by rw [bI_f (fun z => q1 z.1)], Fr.rf _ h, fun z => absurd z.1 q1, fun _ => rfl⟩
