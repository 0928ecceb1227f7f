/-! The slope of a house; looking with a tried house; up, worst. -/
theorem Fok_dn {V F : Int → Int} (f : Fok V F) (t : Int) : Fok V (up1 F t (-1)) := by
  intro s s0 s1
  by_cases q : s = t
  · rw [q, up1_s]; omega
  · rw [up1_n q]; exact f s s0 s1
theorem ruF_ok {V U F : Int → Int} (f : Fok V F) (i : Int) : Fok V (ruF V U i F) := by
  unfold ruF
  split
  · exact itN_ind (F := doF V) (fun _ G => Fok V G) _ 0 F f (fun j b _ _ q => by
      unfold doF
      split
      · exact q
      · exact Fok_dn q _)
  · exact itN_ind (F := drF V (U (10 + 2 * i)) (U (11 + 2 * i))) (fun _ G => Fok V G) _ 0 F f (fun j b _ _ q => by
      unfold drF
      split
      · exact q
      · split
        · exact Fok_dn q _
        · exact q)
theorem fr0_ok {V U : Int → Int} (o : Vok V) (u : Uok U) (y : Int) : Fok V (fr0 V U y) := by
  intro s s0 s1
  have v0 := o.1
  unfold fr0
  by_cases z : V 1 ≤ s
  · rw [if_pos z]; exact ⟨by omega, by omega, fun _ => rfl⟩
  · rw [if_neg z]
    by_cases z2 : bitT (U 2) s = true
    · rw [if_pos z2]; exact ⟨by omega, by omega, fun _ => rfl⟩
    · rw [if_neg z2]
      have b := pk_b o (y := y) (us := U 0) (way := U 1) (S := sclT V U y (V 0).toNat) s0 (by omega) (fun r _ _ => sclT_b o u y (V 0).toNat (by omega) r)
      exact ⟨b.1, b.2, fun q => absurd q z⟩
theorem frs_ok {V U : Int → Int} (o : Vok V) (u : Uok U) (y : Int) : Fok V (frs V U y) := itN_ind (F := ruF V U) (fun _ G => Fok V G) _ 0 _ (fr0_ok o u y) (fun j _ _ _ q => ruF_ok q j)
noncomputable def zS (V U : Int → Int) (y : Int) : Int := slX V (frs V U y) (-1)
theorem zS_b {V U : Int → Int} (o : Vok V) (u : Uok U) (y : Int) : zS V U y = -2000000000 ∨ (-9999000 ≤ zS V U y ∧ zS V U y ≤ 9999000) := by
  have f := frs_ok o u y
  by_cases q : sg (frs V U y) (gDD (frs V U y)) (-1) 24 = 0
  · exact Or.inl ((slX_n o f (-1)).2 q)
  · exact Or.inr (slX_b o f (-1) q).2
theorem iv14 {h : Hp} {T : Int → Int} (w : Inv h T) : mR h 1 4 = 92 := w.1.2.1.2.2.2.2.1
theorem ivD {h : Hp} {T : Int → Int} (w : Inv h T) : HouS h 92 := w.1.2.2.2.1
theorem ivDF {h : Hp} {T : Int → Int} (w : Inv h T) : okF h 92 3 = true := hF (ivD w)
theorem pH_Z (b i : Int) (q : pH 92 b i) : pZ b i := by unfold pH at q; unfold pZ; omega
theorem s_LookD {h : Hp} {T U : Int → Int} (w : Inv h T) {k y : Int} (k0 : 0 ≤ k) (k1 : k < T 0) (hv : HouV h 92 U) (u : Uok U) : ∃ h', C_Su_look 99 (8 + 8 * k) 92 y h = some (0, h') ∧ Fr pZ h h' ∧ LKd h' (8 + 8 * k) 92 y (catT T k) U ∧ Inv h' T := by
  have c := ivC w k0 k1
  obtain ⟨h1, g1, g2, g3⟩ := s_look (y := y) w.1.2.2.2.2.2.1 c.1 hv c.2.1 u
  exact ⟨h1, g1, g2.to pL_Z, g3, w.of (g2.to pL_Z)⟩
theorem s_CopyD {h : Hp} {T : Int → Int} (w : Inv h T) {j : Int} (j0 : 0 ≤ j) (j1 : j < T 1) : ∃ h', C_Ho_copy 92 (32 + 4 * j) h = some (0, h') ∧ Fr pZ h h' ∧ HouV h' 92 (houT T j) ∧ Inv h' T := by
  have n := ivn w
  have c := ivH w j0 j1
  obtain ⟨h1, g1, g2, g3⟩ := s_hcopy c.1 c.2.1.1.2 (ivD w) (by omega) (by omega)
  exact ⟨h1, g1, g2.to pH_Z, g3, w.of (g2.to pH_Z)⟩
def zL (U : Int → Int) (r : Int) : Int → Int := up1 U (4 + r) (U (4 + r) + 1)
theorem zL_ok {h : Hp} {c : Int} {U : Int → Int} (w : HouC h c U) {r : Int} (r0 : 0 ≤ r) (r1 : r < 6) : Uok (zL U r) := by
  have l := w.2.2.1 r r0 r1
  exact w.2.1.up4 r0 r1 (by omega) (by omega)
noncomputable def zD (H s : Int) : Int := if H = -2000000000 then -2000000000 else if s = -2000000000 then -2000000000 else w64 (s - H)
noncomputable def zUp (T : Int → Int) (k j y r : Int) : Int := zD (zS (catT T k) (houT T j) y) (zS (catT T k) (zL (houT T j) r) y)
theorem s_lifted {h : Hp} {T : Int → Int} (w : Inv h T) {k j y r : Int} (q : okL T k j y) (r0 : 0 ≤ r) (r1 : r < 6) (H : Int) : ∃ h', C_LS_lifted 1 (8 + 8 * k) (32 + 4 * j) y r H h = some (zD H (zS (catT T k) (zL (houT T j) r) y), h') ∧ Fr pZ h h' ∧ Inv h' T := by
  obtain ⟨h1, g1, f1, v1, w1⟩ := s_CopyD w q.2.1.1 q.2.1.2
  have c := ivH w q.2.1.1 q.2.1.2
  have l := c.2.2.1 r r0 r1
  have v2 := v1.up4 (r := r) (p := houT T j (4 + r) + 1) c.2.1.1.1 r0 r1
  have f2 : Fr pZ h1 (mW h1 93 r (houT T j (4 + r) + 1)) := Fr.W h1 _ (by unfold pZ; omega)
  have w2 := w1.of f2
  obtain ⟨h3, g3, f3, l3, w3⟩ := s_LookD w2 (y := y) q.1.1 q.1.2 v2 (zL_ok c r0 r1)
  refine ⟨h3, ?_, (f1.tr f2).tr f3, w3⟩
  have A1 : okA h1 93 102 r = true := okA_t v1.1.2.2.2.1 r0 r1
  have A2 : okS h1 93 102 r = true := okS_t v1.1.2.2.2.1 (by decide) r0 r1
  have e4 : mR h1 92 4 = 93 := h4 v1.1
  have er : mR h1 93 r = houT T j (4 + r) := v1.2.2.2.2.2.2.1 r r0 r1
  rw [E_LS_lifted, if_pos (iv1 w), iv14 w, if_pos (ivDF w), g1, bind_some', if_pos (iv1 w1), iv14 w1, if_pos (ivDF w1), e4, if_pos A1, if_pos A2, hb_eq, er, w32_id (by omega) (by omega), if_pos (iv1 w2), if_pos (iv1 w2), iv16 w2, iv14 w2, if_pos (ivS w2), g3, bind_some', if_pos (iv1 w3), iv16 w3, if_pos (ivS w3), s_slope l3.1 l3.2.1, bind_some']
  show (if H = -2000000000 then _ else if zS (catT T k) (zL (houT T j) r) y = -2000000000 then _ else some (w64 (zS (catT T k) (zL (houT T j) r) y - H), h3)) = _
  unfold zD
  by_cases a : H = -2000000000
  · rw [if_pos a, if_pos a]
  · rw [if_neg a, if_neg a]
    by_cases b : zS (catT T k) (zL (houT T j) r) y = -2000000000
    · rw [if_pos b, if_pos b]
    · rw [if_neg b, if_neg b]
noncomputable def aUp (T : Int → Int) (k j y r : Int) : Int := cI (okL T k j y ∧ 0 ≤ r ∧ r < catT T k 0) (zUp T k j y r) (-2000000000)
theorem q_up {h : Hp} {T : Int → Int} (w : Inv h T) (k j y r : Int) : ∃ h', C_LS_up 1 k j y r h = some (aUp T k j y r, h') ∧ Fr pZ h h' := by
  have n := ivn w
  rw [E_LS_up, if_pos (iv1 w), s_isRung w, bind_some']
  unfold aUp
  by_cases q1 : (0 ≤ k ∧ k < T 0) ∧ 0 ≤ r ∧ r < catT T k 0
  · rw [bI_t q1, if_neg n10, if_pos (iv1 w)]
    by_cases q2 : okL T k j y
    · obtain ⟨h1, g1, g2, g3⟩ := s_Look w q2
      have w1 := w.of (g2.to pL_Z)
      have v := (ivC w q1.1.1 q1.1.2).2.1.1
      have j1 := q2.2.1
      obtain ⟨h2, p1, p2, p3⟩ := s_lifted w1 (r := r) q2 q1.2.1 (by omega) (zS (catT T k) (houT T j) y)
      refine ⟨h2, ?_, (g2.to pL_Z).tr p2⟩
      have es : C_Su_slope 99 h1 = some (zS (catT T k) (houT T j) y, h1) := s_slope g3.1 g3.2.1
      rw [g1, bind_some', if_neg n10, if_pos (iv1 w1), iv10 w1, if_pos (iv2 w1), iv28 w1, if_pos (ivR4 w1 q1.1.1 (by omega)), if_pos (iv1 w1), if_pos (iv2 w1), iv29 w1, if_pos (ivR5 w1 j1.1 (by omega)), if_pos (iv1 w1), iv16 w1, if_pos (ivS w1), es, bind_some', if_pos (iv1 w1), iv4 w1 q1.1.1 (by omega), iv5 w1 j1.1 (by omega), p1, bind_some', cI_t ⟨q2, q1.2⟩]
      rfl
    · refine ⟨h, ?_, Fr.rf _ h⟩
      rw [s_LookN w q2, bind_some', if_pos rfl, cI_f (fun z => q2 z.1)]
  · refine ⟨h, ?_, Fr.rf _ h⟩
    rw [bI_f q1, if_pos rfl, cI_f (fun z => q1 ⟨z.1.1, z.2⟩)]
/-- the greatest of sizes, the first of equals: the class begins with -1, the reference with none -/
def zG (g : Int → Int) (r : Int) (p : Int × Int) : Int × Int := if g r = -2000000000 then p else if p.1 < 0 ∨ p.2 < apt (g r) then (r, apt (g r)) else p
def zQ (p : Int × Int) : Int := if p.1 < 0 then -1 else p.2
theorem zG_c {g : Int → Int} {r x : Int} {p : Int × Int} (n : ¬ g r = -2000000000) (e : x = apt (g r)) (x0 : 0 ≤ x) (r0 : 0 ≤ r) : (zQ p < x → (zG g r p).1 = r ∧ zQ (zG g r p) = x) ∧ (¬ zQ p < x → zG g r p = p) := by
  unfold zG
  rw [if_neg n, ← e]
  constructor
  · intro q
    have : p.1 < 0 ∨ p.2 < x := by
      unfold zQ at q
      by_cases z : p.1 < 0
      · exact Or.inl z
      · rw [if_neg z] at q; exact Or.inr q
    rw [if_pos this]
    exact ⟨rfl, if_neg (by show ¬ r < 0; omega)⟩
  · intro q
    have : ¬ (p.1 < 0 ∨ p.2 < x) := by
      intro z
      unfold zQ at q
      by_cases y : p.1 < 0
      · rw [if_pos y] at q; omega
      · rw [if_neg y] at q; omega
    rw [if_neg this]
theorem zD_b {V U W : Int → Int} (o : Vok V) (u : Uok U) (v : Uok W) (y : Int) : zD (zS V U y) (zS V W y) = -2000000000 ∨ (-19998000 ≤ zD (zS V U y) (zS V W y) ∧ zD (zS V U y) (zS V W y) ≤ 19998000) := by
  have a := zS_b o u y
  have b := zS_b o v y
  unfold zD
  by_cases q : zS V U y = -2000000000
  · rw [if_pos q]; exact Or.inl rfl
  · rw [if_neg q]
    by_cases z : zS V W y = -2000000000
    · rw [if_pos z]; exact Or.inl rfl
    · rw [if_neg z, w64_id (by omega) (by omega)]; omega
noncomputable def aWorst (T : Int → Int) (k j y : Int) : Int := cI (okL T k j y) (itN (zG (zUp T k j y)) (catT T k 0).toNat 0 (-1, 0)).1 (-1)
theorem l_worst {T : Int → Int} {k j y : Int} (q : okL T k j y) : ∀ (n : Nat) (r : Int) (h : Hp) (p : Int × Int), Inv h T → 0 ≤ r → r + n = catT T k 0 → ∃ h', P_LS_worst_43 1 j y (8 + 8 * k) (zS (catT T k) (houT T j) y) p.1 (zQ p) r h = some ((itN (zG (zUp T k j y)) n r p).1, h') ∧ Fr pZ h h' := by
  intro n
  induction n with
  | zero =>
    intro r h p w r0 hr
    have c := ivC w q.1.1 q.1.2
    refine ⟨h, ?_, Fr.rf _ h⟩
    rw [E_LS_worst_43, if_pos (cF c.1.1), c.1.2.2.1, if_neg (by omega)]
    rfl
  | succ n ih =>
    intro r h p w r0 hr
    have nn := ivn w
    have c := ivC w q.1.1 q.1.2
    have d := ivH w q.2.1.1 q.2.1.2
    have v := c.2.1.1
    have j1 := q.2.1
    obtain ⟨h1, g1, f1, w1⟩ := s_lifted w (r := r) q r0 (by omega) (zS (catT T k) (houT T j) y)
    have ez : zD (zS (catT T k) (houT T j) y) (zS (catT T k) (zL (houT T j) r) y) = zUp T k j y r := rfl
    rw [ez] at g1
    have b := zD_b c.2.1 d.2.1 (zL_ok d (r := r) r0 (by omega)) y
    rw [ez] at b
    rw [E_LS_worst_43, if_pos (cF c.1.1), c.1.2.2.1, if_pos (show r < catT T k 0 by omega), if_pos (iv1 w), iv10 w, if_pos (iv2 w), iv29 w, if_pos (ivR5 w j1.1 (by omega)), if_pos (iv1 w), iv5 w j1.1 (by omega), g1, bind_some', w32_id (x := r + 1) (by omega) (by omega)]
    dsimp only
    show ∃ h', _ = some ((itN (zG (zUp T k j y)) n (r + 1) (zG (zUp T k j y) r p)).1, h') ∧ _
    by_cases z : zUp T k j y r = -2000000000
    · rw [if_pos z]
      have e : zG (zUp T k j y) r p = p := if_pos z
      rw [e]
      obtain ⟨h2, g2, f2⟩ := ih (r + 1) h1 p w1 (by omega) (by omega)
      exact ⟨h2, g2, f1.tr f2⟩
    · rw [if_neg z, s_apart, bind_some']
      have ae := apt_e (x := zUp T k j y r) (y := 0) (by omega) (by omega)
      rw [show zUp T k j y r - 0 = zUp T k j y r by omega, w64_id (x := zUp T k j y r) (by omega) (by omega)] at ae
      rw [show zUp T k j y r - 0 = zUp T k j y r by omega, w64_id (x := zUp T k j y r) (by omega) (by omega)]
      rw [ae.1]
      dsimp only
      have cc := zG_c (g := zUp T k j y) (r := r) (p := p) z rfl ae.2 r0
      by_cases s : zQ p < apt (zUp T k j y r)
      · rw [if_pos s, s_apart, bind_some']
        rw [show zUp T k j y r - 0 = zUp T k j y r by omega, w64_id (x := zUp T k j y r) (by omega) (by omega)]
        rw [ae.1]
        dsimp only
        obtain ⟨h2, g2, f2⟩ := ih (r + 1) h1 (zG (zUp T k j y) r p) w1 (by omega) (by omega)
        rw [(cc.1 s).1, (cc.1 s).2] at g2
        exact ⟨h2, g2, f1.tr f2⟩
      · rw [if_neg s, cc.2 s]
        obtain ⟨h2, g2, f2⟩ := ih (r + 1) h1 p w1 (by omega) (by omega)
        exact ⟨h2, g2, f1.tr f2⟩
theorem q_worst {h : Hp} {T : Int → Int} (w : Inv h T) (k j y : Int) : ∃ h', C_LS_worst 1 k j y h = some (aWorst T k j y, h') ∧ Fr pZ h h' := by
  have n := ivn w
  rw [E_LS_worst, if_pos (iv1 w)]
  unfold aWorst
  by_cases q2 : okL T k j y
  · obtain ⟨h1, g1, g2, g3⟩ := s_Look w q2
    have w1 := w.of (g2.to pL_Z)
    have v := (ivC w q2.1.1 q2.1.2).2.1.1
    have k1 := q2.1
    obtain ⟨h2, p1, p2⟩ := l_worst q2 (catT T k 0).toNat 0 h1 (-1, 0) w1 (by omega) (by omega)
    refine ⟨h2, ?_, (g2.to pL_Z).tr p2⟩
    have es : C_Su_slope 99 h1 = some (zS (catT T k) (houT T j) y, h1) := s_slope g3.1 g3.2.1
    rw [g1, bind_some', if_neg n10, if_pos (iv1 w1), iv10 w1, if_pos (iv2 w1), iv28 w1, if_pos (ivR4 w1 k1.1 (by omega)), if_pos (iv1 w1), iv16 w1, if_pos (ivS w1), es, bind_some', iv4 w1 k1.1 (by omega), cI_t q2]
    exact p1
  · refine ⟨h, ?_, Fr.rf _ h⟩
    rw [s_LookN w q2, bind_some', if_pos rfl, cI_f q2]
