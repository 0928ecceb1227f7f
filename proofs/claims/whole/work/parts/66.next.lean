/-! across, next. -/
def zAc (F G : Int → Int) (t : Int) : Int := if F t < 1 ∨ G t < 0 then -2000000000 else w64 (Int.tdiv (w64 (apt (w64 (F t - G t)) * 1000)) (F t))
theorem zAc_b {V F G : Int → Int} (f : Fok V F) (g : Fok V G) {t : Int} (t0 : 0 ≤ t) (t1 : t < 24) (q : ¬ (F t < 1 ∨ G t < 0)) : 0 ≤ zAc F G t ∧ zAc F G t ≤ 10000000000 ∧ (if F t < G t then w64 (G t - F t) else w64 (F t - G t)) = apt (w64 (F t - G t)) ∧ apt (zAc F G t) = zAc F G t := by
  have a := f t t0 t1
  have b := g t t0 t1
  have e := apt_e (x := F t) (y := G t) (by omega) (by omega)
  have u : apt (w64 (F t - G t)) ≤ 10000000 := by
    rw [← e.1]
    by_cases z : F t < G t
    · rw [if_pos z, w64_id (by omega) (by omega)]; omega
    · rw [if_neg z, w64_id (by omega) (by omega)]; omega
  have e2 := e.2
  have d1 : 0 ≤ zAc F G t ∧ zAc F G t ≤ 10000000000 := by
    unfold zAc
    rw [if_neg q, w64_id (x := _ * 1000) (by omega) (by omega), Int.tdiv_eq_ediv_of_nonneg (by omega)]
    have p1 := Int.ediv_nonneg (a := apt (w64 (F t - G t)) * 1000) (b := F t) (by omega) (by omega)
    have p2 := Int.ediv_le_self (a := apt (w64 (F t - G t)) * 1000) (F t) (by omega)
    rw [w64_id (by omega) (by omega)]
    omega
  refine ⟨d1.1, d1.2, e.1, ?_⟩
  show (if zAc F G t < 0 then _ else zAc F G t) = zAc F G t
  rw [if_neg (by omega)]
noncomputable def aAcross (T : Int → Int) (k a b y : Int) : Int := cI (okL T k a y ∧ 0 ≤ b ∧ b < T 1) (itN (zG (zAc (frsA T k a y) (frsA T k b y))) 24 0 (-1, 0)).1 (-1)
theorem l_across {h : Hp} {T : Int → Int} (w : Inv h T) {k b y : Int} {F G : Int → Int} (k0 : 0 ≤ k) (k1 : k < T 0) (f : Fok (catT T k) F) (g : Fok (catT T k) G) (eF : ∀ t, 0 ≤ t → t < 24 → mR h 114 t = F t) (eG : ∀ t, 0 ≤ t → t < 24 → mR h 113 t = G t) : ∀ (n : Nat) (t : Int) (p : Int × Int), 0 ≤ t → t + n = catT T k 1 → P_LS_across_72 1 (8 + 8 * k) 114 p.1 (zQ p) t h = some ((itN (zG (zAc F G)) n t p).1, h) := by
  have c := ivC w k0 k1
  have v := c.2.1.2.1
  have s := w.1.2.2.2.2.2.1
  intro n
  induction n with
  | zero =>
    intro t p t0 ht
    rw [E_LS_across_72, if_pos (cF c.1.1), c.1.2.2.2.1, if_neg (by omega)]
    rfl
  | succ n ih =>
    intro t p t0 ht
    have ft := f t t0 (by omega)
    have gt := g t t0 (by omega)
    rw [E_LS_across_72, if_pos (cF c.1.1), c.1.2.2.2.1, if_pos (show t < catT T k 1 by omega), if_pos (sA4 s t0 (by omega)), eF t t0 (by omega), if_pos (iv1 w), iv16 w, if_pos (ivS w), s4 s, if_pos (sA3 s t0 (by omega)), eG t t0 (by omega), if_pos (sA4 s t0 (by omega)), if_pos (iv1 w), if_pos (ivS w), if_pos (sA3 s t0 (by omega)), s_apart, bind_some', if_pos (sA4 s t0 (by omega)), w32_id (x := t + 1) (by omega) (by omega)]
    dsimp only
    rw [eF t t0 (by omega)]
    show _ = some ((itN (zG (zAc F G)) n (t + 1) (zG (zAc F G) t p)).1, h)
    by_cases q : F t < 1 ∨ G t < 0
    · have e : zAc F G t = -2000000000 := if_pos q
      have e2 : zG (zAc F G) t p = p := if_pos e
      rw [e2]
      by_cases q1 : 0 < F t
      · rw [if_pos q1, if_pos (show G t = -1 by omega)]; exact ih (t + 1) p (by omega) (by omega)
      · rw [if_neg q1]; exact ih (t + 1) p (by omega) (by omega)
    · have zb := zAc_b f g t0 (by omega) q
      have cc := zG_c (g := zAc F G) (r := t) (p := p) (x := zAc F G t) (by omega) zb.2.2.2.symm zb.1 t0
      have ez : w64 (Int.tdiv (w64 (apt (w64 (F t - G t)) * 1000)) (F t)) = zAc F G t := (if_neg q).symm
      rw [if_pos (show 0 < F t by omega), if_neg (show ¬ G t = -1 by omega), if_neg (show ¬ F t = 0 by omega), zb.2.2.1, ez]
      by_cases s : zQ p < zAc F G t
      · rw [if_pos s, ← (cc.1 s).1]
        have := ih (t + 1) (zG (zAc F G) t p) (by omega) (by omega)
        rw [(cc.1 s).2] at this
        rw [(cc.1 s).1] at this ⊢
        exact this
      · rw [if_neg s, cc.2 s]; exact ih (t + 1) p (by omega) (by omega)
theorem q_across {h : Hp} {T : Int → Int} (w : Inv h T) (k a b y : Int) : ∃ h', C_LS_across 1 k a b y h = some (aAcross T k a b y, h') ∧ Fr pZ h h' := by
  have n := ivn w
  rw [E_LS_across, if_pos (iv1 w), s_isHou w, bind_some']
  unfold aAcross
  by_cases q1 : 0 ≤ b ∧ b < T 1
  · rw [bI_t q1, if_neg n10, if_pos (iv1 w)]
    by_cases q2 : okL T k a y
    · obtain ⟨h1, g1, g2, g3⟩ := s_Look w q2
      have w1 := w.of (g2.to pL_Z)
      have k1 := q2.1
      have v := (ivC w k1.1 k1.2).2.1.2.1
      have s1 := w1.1.2.2.2.2.2.1
      have f2 : Fr pZ h1 (mC h1 113 0 114 0 24) := Fr.C h1 113 114 24 (fun i => by unfold pZ; omega)
      have w2 := w1.of f2
      have cc : okC h1 113 0 114 0 24 = true := okC_t s1.2.2.2.1 s1.2.2.2.2 (by decide) (by omega) (by omega) (by omega) (by omega) (by omega) (by omega) (by omega)
      have e5 : mR (mC h1 113 0 114 0 24) 99 5 = 114 := s5 w2.1.2.2.2.2.2.1
      obtain ⟨h3, p1, p2, p3, w3⟩ := s_LookH w2 (y := y) k1.1 k1.2 q1.1 q1.2
      have e1 : ∀ t, 0 ≤ t → t < 24 → mR h3 114 t = frsA T k a y t := fun t t0 t1 => by
        rw [p2.2 114 t (by unfold pL; omega), mC_in t0 t1]; exact g3.2.1.2.1 t t0 t1
      have lc := l_across w3 (b := b) (y := y) k1.1 k1.2 g3.2.1.1 p3.2.1.1 e1 p3.2.1.2.1 (catT T k 1).toNat 0 (-1, 0) (by omega) (by omega)
      refine ⟨h3, ?_, ((g2.to pL_Z).tr f2).tr (p2.to pL_Z)⟩
      rw [g1, bind_some', if_neg n10, if_pos (iv1 w1), iv10 w1, if_pos (iv2 w1), iv28 w1, if_pos (ivR4 w1 k1.1 (by omega)), if_pos (iv1 w1), iv16 w1, if_pos (ivS w1), E_Su_setFarsAside, if_pos (ivS w1), if_pos (ivS w1), s4 s1, s5 s1, if_pos cc, hb_eq, if_pos (ivS w2), e5, if_pos (by decide), bind_some', if_pos (iv1 w2), if_pos (iv1 w2), iv10 w2, if_pos (iv2 w2), iv29 w2, if_pos (ivR5 w2 q1.1 (by omega)), iv16 w2, if_pos (ivS w2), iv4 w1 k1.1 (by omega), iv5 w2 q1.1 (by omega), p1, bind_some', cI_t ⟨q2, q1⟩, itN_cut v.1 v.2 (-1, 0) (fun j p j0 j1 => by
        have ff : frsA T k a y j = -1 := (g3.2.1.1 j (by omega) j1).2.2 j0
        show (if zAc _ _ j = -2000000000 then p else _) = p
        rw [if_pos]
        show (if frsA T k a y j < 1 ∨ _ then _ else _) = _
        rw [if_pos (Or.inl (by omega))])]
      exact lc
    · exact ⟨h, by rw [s_LookN w q2, bind_some', if_pos rfl, cI_f (fun z => q2 z.1)], Fr.rf _ h⟩
  · exact ⟨h, by rw [bI_f q1, if_pos rfl, cI_f (fun z => q1 z.2)], Fr.rf _ h⟩
theorem m132 {h : Hp} {T : Int → Int} (w : Inv h T) : mR h 124 27 = 132 ∧ (mK h 132 = 103 ∧ mL h 132 = 24) ∧ mR h 124 12 = 129 ∧ (mK h 129 = 102 ∧ mL h 129 = 24) := ⟨w.2.2.2.1.2.1.2.2.2.2.2.2.2.1, w.2.2.2.1.2.2.2.2.2.2.2.2.2.1, w.2.2.2.1.2.1.2.2.2.2.1, w.2.2.2.1.2.2.2.2.2.2.1⟩
theorem l_m45 {T : Int → Int} {b y A : Int} {F : Int → Int} : ∀ (n : Nat) (t : Int) (h : Hp), Inv h T → (∀ s, 0 ≤ s → s < 24 → mR h 129 s = F s) → (∀ s, 0 ≤ s → s < t → mR h 132 s = F s) → 0 ≤ t → t + n = 24 → ∃ h', P_Mo_across_45 124 b y A t h = P_Mo_across_45 124 b y A 24 h' ∧ Fr pZ h h' ∧ Inv h' T ∧ (∀ s, 0 ≤ s → s < 24 → mR h' 132 s = F s) := by
  intro n
  induction n with
  | zero =>
    intro t h w e1 e2 t0 ht
    rw [show t = 24 by omega]
    exact ⟨h, rfl, Fr.rf _ h, w, fun s s0 s1 => e2 s s0 (by omega)⟩
  | succ n ih =>
    intro t h w e1 e2 t0 ht
    have m := m132 w
    have f1 : Fr pZ h (mW h 132 t (F t)) := Fr.W h _ (by unfold pZ; omega)
    obtain ⟨h2, g2, f2, w2, e3⟩ := ih (t + 1) _ (w.of f1) (fun s s0 s1 => by rw [mR_ne (by omega)]; exact e1 s s0 s1) (fun s s0 s1 => by
      rw [mR_mW]
      by_cases z : s = t
      · rw [z, if_pos ⟨rfl, rfl⟩]
      · rw [if_neg (by omega)]; exact e2 s s0 (by omega)) (by omega) (by omega)
    refine ⟨h2, ?_, f1.tr f2, w2, e3⟩
    rw [E_Mo_across_45, if_pos (show t < 24 by omega), if_pos (ivM w), if_pos (ivM w), m.2.2.1, if_pos (okA_t m.2.2.2 t0 (by omega)), m.1, if_pos (okS_t m.2.1 (by decide) t0 (by omega)), hb_eq, e1 t t0 (by omega), w32_id (x := t + 1) (by omega) (by omega)]
    exact g2
theorem l_m95 {h : Hp} {T V : Int → Int} (w : Inv h T) {F G : Int → Int} (f : Fok V F) (g : Fok V G) (eF : ∀ t, 0 ≤ t → t < 24 → mR h 132 t = F t) (eG : ∀ t, 0 ≤ t → t < 24 → mR h 129 t = G t) : ∀ (n : Nat) (t : Int) (p : Int × Int), 0 ≤ t → t + n = 24 → P_Mo_across_95 124 p.1 p.2 t h = some ((itN (zG (zAc F G)) n t p).1, h) := by
  have m := m132 w
  intro n
  induction n with
  | zero =>
    intro t p t0 ht
    rw [E_Mo_across_95, if_neg (by omega)]
    rfl
  | succ n ih =>
    intro t p t0 ht
    have a1 := okA_t m.2.1 t0 (show t < 24 by omega)
    have a2 := okA_t m.2.2.2 t0 (show t < 24 by omega)
    rw [E_Mo_across_95, if_pos (show t < 24 by omega)]
    simp only [ivM w, m.1, m.2.2.1, a1, a2, ↓reduceIte, eF t t0 (show t < 24 by omega), eG t t0 (show t < 24 by omega), m_apart, bind_some', w32_id (show -2147483648 ≤ t + 1 by omega) (show t + 1 ≤ 2147483647 by omega)]
    show _ = some ((itN (zG (zAc F G)) n (t + 1) (zG (zAc F G) t p)).1, h)
    by_cases q : F t < 1 ∨ G t < 0
    · have e : zAc F G t = -2000000000 := if_pos q
      have e2 : zG (zAc F G) t p = p := if_pos e
      rw [e2]
      by_cases q1 : F t < 1
      · rw [if_pos q1]; exact ih (t + 1) p (by omega) (by omega)
      · rw [if_neg q1, if_pos (show G t < 0 by omega)]; exact ih (t + 1) p (by omega) (by omega)
    · have zb := zAc_b f g t0 (by omega) q
      have ez : w64 (Int.tdiv (w64 ((if w64 (F t - G t) < 0 then w64 (-w64 (F t - G t)) else w64 (F t - G t)) * 1000)) (F t)) = zAc F G t := (if_neg q).symm
      rw [if_neg (show ¬ F t < 1 by omega), if_neg (show ¬ G t < 0 by omega), if_neg (show ¬ F t = 0 by omega), ez]
      have i := ih (t + 1) (zG (zAc F G) t p) (by omega) (by omega)
      revert i
      have e : zG (zAc F G) t p = if p.1 < 0 ∨ p.2 < zAc F G t then (t, zAc F G t) else p := by unfold zG; rw [if_neg (by omega), zb.2.2.2]
      rw [e]
      by_cases s : p.1 < 0
      · rw [if_pos s, if_pos (Or.inl s)]; exact fun i => i
      · rw [if_neg s]
        by_cases s2 : p.2 < zAc F G t
        · rw [if_pos s2, if_pos (Or.inr s2)]; exact fun i => i
        · rw [if_neg s2, if_neg (by omega)]; exact fun i => i
theorem r_across {h : Hp} {T : Int → Int} (w : Inv h T) (k a b y : Int) : ∃ h', C_Mo_across 124 k a b y h = some (aAcross T k a b y, h') ∧ Fr pZ h h' := by
  have n := ivn w
  rw [E_Mo_across, if_pos (ivM w), m_areAll w, bind_some']
  unfold aAcross
  by_cases q2 : okL T k a y
  · have k1 := q2.1
    have j1 := q2.2.1
    rw [bI_t q2, if_neg n10, if_pos (ivM w), m_isOf w (by omega) (by omega), bind_some']
    by_cases q1 : 0 ≤ b ∧ b < T 1
    · obtain ⟨h1, g1, g2, mk1, u1, g3, w1⟩ := r_fars w q2
      obtain ⟨h2, p1, p2, w2, p3⟩ := l_m45 (b := b) (y := y) (A := 520 + 330 * k) 24 0 h1 w1 u1.2 (fun s s0 s1 => by omega) (by omega) (by omega)
      obtain ⟨h3, r1, r2, mk3, u3, r3, w3⟩ := r_fars w2 (k := k) (j := b) (y := y) ⟨k1, q1, q2.2.2⟩
      have ll := l_m95 w3 u1.1 u3.1 (fun t t0 t1 => by rw [r2.2 132 t (by unfold pM; omega)]; exact p3 t t0 t1) u3.2 24 0 (-1, 0) (by omega) (by omega)
      refine ⟨h3, ?_, ((g2.to pM_Z).tr p2).tr (r2.to pM_Z)⟩
      rw [bI_t q1, if_neg n10, if_pos (ivM w), m_catAt k1.1 (by omega), bind_some', if_pos (ivM w), m_houAt j1.1 (by omega), bind_some', if_pos (ivM w), g1, bind_some', p1, E_Mo_across_45, if_neg (by decide), if_pos (ivM w2), m_houAt q1.1 (by omega), bind_some', if_pos (ivM w2), r1, bind_some', cI_t ⟨q2, q1⟩]
      exact ll
    · exact ⟨h, by rw [bI_f q1, if_pos rfl, cI_f (fun z => q1 z.2)], Fr.rf _ h⟩
  · exact ⟨h, by rw [bI_f q2, if_pos rfl, cI_f (fun z => q2 z.1)], Fr.rf _ h⟩
/-- next -/
def zFr (V : Int → Int) (H t : Int) : Int := if w64 (Int.tdiv (w64 (1000 * V (9 + t))) H) < 1 then 1 else atM (w64 (Int.tdiv (w64 (1000 * V (9 + t))) H))
theorem zFr_b (V : Int → Int) (H t : Int) : 1 ≤ zFr V H t ∧ zFr V H t ≤ 9999999 := by
  unfold zFr
  by_cases q : w64 (Int.tdiv (w64 (1000 * V (9 + t))) H) < 1
  · rw [if_pos q]; omega
  · rw [if_neg q]
    unfold atM
    by_cases z : 9999999 < w64 (Int.tdiv (w64 (1000 * V (9 + t))) H)
    · rw [if_pos z]; omega
    · rw [if_neg z, w32_id (by omega) (by omega)]; omega
noncomputable def zNx (V U F : Int → Int) (H t : Int) : Int := if 0 ≤ F t ∨ bitT (U 2) t = true then -1 else zWd V (up1 F t (zFr V H t))
noncomputable def aNext (T : Int → Int) (k j y : Int) : Int := cI (okL T k j y ∧ zS (catT T k) (houT T j) y ≠ -2000000000 ∧ zS (catT T k) (houT T j) y ≠ 0) (itN (zM (zNx (catT T k) (houT T j) (frsA T k j y) (zS (catT T k) (houT T j) y))) (catT T k 1).toNat 0 (-1, 0)).1 (-1)
theorem l_next {T : Int → Int} {k j y H : Int} {F : Int → Int} (q : okL T k j y) (hn : H ≠ 0) : ∀ (n : Nat) (t : Int) (h : Hp) (p : Int × Int), Inv h T → LK h (8 + 8 * k) (32 + 4 * j) y (catT T k) (houT T j) → SU h (catT T k) F → -1 ≤ p.1 → 0 ≤ t → t + n = catT T k 1 → ∃ h', P_LS_next_59 1 j H (8 + 8 * k) p.1 p.2 t h = some ((itN (zM (zNx (catT T k) (houT T j) F H)) n t p).1, h') ∧ Fr pZ h h' := by
  intro n
  induction n with
  | zero =>
    intro t h p w l u i t0 ht
    have c := ivC w q.1.1 q.1.2
    refine ⟨h, ?_, Fr.rf _ h⟩
    rw [E_LS_next_59, if_pos (cF c.1.1), c.1.2.2.2.1, if_neg (by omega)]
    rfl
  | succ n ih =>
    intro t h p w l u i t0 ht
    have nn := ivn w
    have c := ivC w q.1.1 q.1.2
    have d := ivH w q.2.1.1 q.2.1.2
    have v := c.2.1.2.1
    have j1 := q.2.1
    have s := w.1.2.2.2.2.2.1
    have i2 := zM_i (g := zNx (catT T k) (houT T j) F H) (r := t) i t0
    have ft := u.1 t t0 (by omega)
    rw [E_LS_next_59, if_pos (cF c.1.1), c.1.2.2.2.1, if_pos (show t < catT T k 1 by omega), if_pos (iv1 w), iv16 w, if_pos (ivS w), s4 s, if_pos (sA3 s t0 (by omega)), u.2.1 t t0 (by omega), w32_id (x := t + 1) (by omega) (by omega)]
    show ∃ h', _ = some ((itN (zM (zNx (catT T k) (houT T j) F H)) n (t + 1) (zM (zNx (catT T k) (houT T j) F H) t p)).1, h') ∧ _
    by_cases z : F t = -1
    · rw [if_pos z, if_pos (iv1 w), iv10 w, if_pos (iv2 w), iv29 w, if_pos (ivR5 w j1.1 (by omega)), iv5 w j1.1 (by omega), if_pos (hF d.1.1), E_Ho_casts, if_pos (hF d.1.1), d.1.2.2.2.2.1]
      by_cases b : i_and (i_shr (houT T j 2) t) 1 = 1
      · have bt : bitT (houT T j 2) t = true := decide_eq_true b
        have e1 : zNx (catT T k) (houT T j) F H t = -1 := if_pos (Or.inr bt)
        have e : zM (zNx (catT T k) (houT T j) F H) t p = p := if_pos e1
        rw [if_pos b, bind_some', if_neg n10, e]
        exact ih (t + 1) h p w l u i (by omega) (by omega)
      · have bt : ¬ bitT (houT T j 2) t = true := fun e => b (of_decide_eq_true e)
        have zb := zFr_b (catT T k) H t
        obtain ⟨h1, g1, f1, u1⟩ := s_join l u t0 (show t < catT T k 1 by omega) z (show 0 ≤ zFr (catT T k) H t by omega) zb.2
        have l1 := l.of (f1.to pF_S)
        have w1 := w.of (f1.to (fun b i q => by unfold pF at q; unfold pZ; omega))
        obtain ⟨h2, g2, f2, u2⟩ := s_drop l1 u1 t0 (show t < catT T k 1 by omega) (by rw [up1_s]; omega)
        have l2 := l1.of (f2.to pF_S)
        have w2 := w1.of (f2.to (fun b i q => by unfold pF at q; unfold pZ; omega))
        have u3 : SU h2 (catT T k) F := u2.congr (fun s s0 s1 => by
          by_cases x : s = t
          · rw [x, up1_s, z]
          · rw [up1_n x, up1_n x])
        have ex : zNx (catT T k) (houT T j) F H t = zWd (catT T k) (up1 F t (zFr (catT T k) H t)) := if_neg (by
          intro x
          rcases x with x | x
          · omega
          · exact bt x)
        have ew : C_Su_width 99 h1 = some (zNx (catT T k) (houT T j) F H t, h1) := by rw [ex]; exact s_width l1 u1
        have ed : w32 (if 1 < (if w64 (Int.tdiv (w64 (1000 * catT T k (9 + t))) H) < 9999999 then w64 (Int.tdiv (w64 (1000 * catT T k (9 + t))) H) else 9999999) then (if w64 (Int.tdiv (w64 (1000 * catT T k (9 + t))) H) < 9999999 then w64 (Int.tdiv (w64 (1000 * catT T k (9 + t))) H) else 9999999) else 1) = zFr (catT T k) H t := by
          unfold zFr atM
          generalize w64 (Int.tdiv (w64 (1000 * catT T k (9 + t))) H) = f
          by_cases c1 : f < 1
          · rw [if_pos c1, if_pos (show f < 9999999 by omega), if_neg (by omega), w32_id (by omega) (by omega)]
          · rw [if_neg c1]
            by_cases c2 : 9999999 < f
            · rw [if_pos c2, if_neg (show ¬ f < 9999999 by omega), if_pos (by omega), w32_id (by omega) (by omega)]
            · rw [if_neg c2]
              by_cases c3 : f < 9999999
              · rw [if_pos c3]
                by_cases c4 : 1 < f
                · rw [if_pos c4]
                · rw [if_neg c4, show f = 1 by omega]
              · rw [if_neg c3, if_pos (by omega), show f = 9999999 by omega]
        have mm : C_Ma_min_JJ 9999999 (w64 (Int.tdiv (w64 (1000 * catT T k (9 + t))) H)) h = some (if w64 (Int.tdiv (w64 (1000 * catT T k (9 + t))) H) < 9999999 then w64 (Int.tdiv (w64 (1000 * catT T k (9 + t))) H) else 9999999, h) := by
          rw [E_Ma_min_JJ]; split <;> rfl
        obtain ⟨h3, g3, f3⟩ := ih (t + 1) h2 _ w2 l2 u3 i2 (by omega) (by omega)
        refine ⟨h3, ?_, ((f1.to (fun b i q => by unfold pF at q; unfold pZ; omega)).tr (f2.to (fun b i q => by unfold pF at q; unfold pZ; omega))).tr f3⟩
        rw [if_neg b, bind_some', if_pos rfl, if_pos (cF c.1.1), c6 c.1.1, if_pos (cA4 c.1.1 t0 (by omega)), if_neg hn, if_pos (iv1 w), c.1.2.2.2.2.2.1 t t0 (by omega), mm, bind_some', s_max, bind_some']
        dsimp only
        rw [ed, iv16 w, if_pos (ivS w), g1, bind_some', if_pos (iv1 w1), iv16 w1, if_pos (ivS w1), ew, bind_some', if_pos (iv1 w1), iv16 w1, if_pos (ivS w1), g2, bind_some']
        dsimp only
        revert g3
        unfold zM
        by_cases y1 : zNx (catT T k) (houT T j) F H t = -1
        · rw [if_pos y1, if_pos y1]; exact fun g => g
        · rw [if_neg y1, if_neg y1]
          by_cases y2 : p.1 = -1
          · rw [if_pos y2, if_pos (Or.inl (by omega))]; exact fun g => g
          · rw [if_neg y2]
            by_cases y3 : zNx (catT T k) (houT T j) F H t < p.2
            · rw [if_pos y3, if_pos (Or.inr y3)]; exact fun g => g
            · rw [if_neg y3, if_neg (by omega)]; exact fun g => g
    · have e1 : zNx (catT T k) (houT T j) F H t = -1 := if_pos (Or.inl (by omega))
      have e : zM (zNx (catT T k) (houT T j) F H) t p = p := if_pos e1
      rw [if_neg z, e]
      exact ih (t + 1) h p w l u i (by omega) (by omega)
theorem q_next {h : Hp} {T : Int → Int} (w : Inv h T) (k j y : Int) : ∃ h', C_LS_next 1 k j y h = some (aNext T k j y, h') ∧ Fr pZ h h' := by
  have n := ivn w
  rw [E_LS_next, if_pos (iv1 w)]
  unfold aNext
  by_cases q2 : okL T k j y
  · obtain ⟨h1, g1, g2, g3⟩ := s_Look w q2
    have w1 := w.of (g2.to pL_Z)
    have v := (ivC w q2.1.1 q2.1.2).2.1.2.1
    have k1 := q2.1
    have es : C_Su_slope 99 h1 = some (zS (catT T k) (houT T j) y, h1) := s_slope g3.1 g3.2.1
    rw [g1, bind_some', if_neg n10, if_pos (iv1 w1), iv16 w1, if_pos (ivS w1), es, bind_some']
    dsimp only
    by_cases c1 : zS (catT T k) (houT T j) y = -2000000000
    · exact ⟨h1, by rw [if_pos c1, cI_f (fun z => z.2.1 c1)], g2.to pL_Z⟩
    · by_cases c2 : zS (catT T k) (houT T j) y = 0
      · exact ⟨h1, by rw [if_neg c1, if_pos c2, cI_f (fun z => z.2.2 c2)], g2.to pL_Z⟩
      · obtain ⟨h2, p1, p2⟩ := l_next q2 c2 (catT T k 1).toNat 0 h1 (-1, 0) w1 g3.1 g3.2.1 (by decide) (by omega) (by omega)
        refine ⟨h2, ?_, (g2.to pL_Z).tr p2⟩
        rw [if_neg c1, if_neg c2, if_pos (iv1 w1), iv10 w1, if_pos (iv2 w1), iv28 w1, if_pos (ivR4 w1 k1.1 (by omega)), iv4 w1 k1.1 (by omega), cI_t ⟨q2, c1, c2⟩]
        exact p1
  · exact ⟨h, by rw [s_LookN w q2, bind_some', if_pos rfl, cI_f (fun z => q2 z.1)], Fr.rf _ h⟩
