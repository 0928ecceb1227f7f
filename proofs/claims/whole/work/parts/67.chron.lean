/-! next of the reference; the chronicle; since, stands, changes. -/
theorem l_mnext {T : Int → Int} {k j y H : Int} {F : Int → Int} (q : okL T k j y) (hn : H ≠ 0) (hn2 : H ≠ -2000000000) : ∀ (n : Nat) (t : Int) (h : Hp) (p : Int × Int), Inv h T → MK h (520 + 330 * k) (1510 + 26 * j) y (catT T k) (houT T j) → FM h (catT T k) F → 0 ≤ t → t + n = catT T k 1 → ∃ h', P_Mo_next_42 124 j (520 + 330 * k) H p.1 p.2 t h = some ((itN (zM (zNx (catT T k) (houT T j) F H)) n t p).1, h') ∧ Fr pZ h h' := by
  intro n
  induction n with
  | zero =>
    intro t h p w mk u t0 ht
    have nn := ivn w
    have k1 := q.1
    have e1 : T (520 + 330 * k + 1) = catT T k 1 := catE (by omega) (by omega)
    refine ⟨h, ?_, Fr.rf _ h⟩
    rw [E_Mo_next_42, if_pos (ivM w), ivM0 w, w32_id (x := 520 + 330 * k + 1) (by omega) (by omega), if_pos (ivMA w (by omega) (by omega)), ivMT w (by omega) (by omega), e1, if_neg (by omega)]
    rfl
  | succ n ih =>
    intro t h p w mk u t0 ht
    have nn := ivn w
    have c := ivC w q.1.1 q.1.2
    have v := c.2.1.2.1
    have k1 := q.1
    have j1 := q.2.1
    have m := m132 w
    have ft := u.1 t t0 (by omega)
    have e1 : T (520 + 330 * k + 1) = catT T k 1 := catE (by omega) (by omega)
    have e9 : T (520 + 330 * k + 9 + t) = catT T k (9 + t) := by rw [Int.add_assoc]; exact catE (by omega) (by omega)
    rw [E_Mo_next_42, if_pos (ivM w), ivM0 w, w32_id (x := 520 + 330 * k + 1) (by omega) (by omega), if_pos (ivMA w (by omega) (by omega)), ivMT w (by omega) (by omega), e1, if_pos (show t < catT T k 1 by omega), if_neg hn2, if_neg hn, if_pos (ivM w), m.2.2.1, if_pos (okA_t m.2.2.2 t0 (by omega)), u.2 t t0 (by omega), w32_id (x := t + 1) (by omega) (by omega)]
    show ∃ h', _ = some ((itN (zM (zNx (catT T k) (houT T j) F H)) n (t + 1) (zM (zNx (catT T k) (houT T j) F H) t p)).1, h') ∧ _
    by_cases z : F t < 0
    · rw [if_pos z, if_pos (ivM w), m_houAt j1.1 (by omega), bind_some', if_pos (ivM w), m_cast mk, bind_some']
      by_cases bt : bitT (houT T j 2) t = true
      · have e2 : zNx (catT T k) (houT T j) F H t = -1 := if_pos (Or.inr bt)
        have e : zM (zNx (catT T k) (houT T j) F H) t p = p := if_pos e2
        simp only [bt, ↓reduceIte, n10, e]
        exact ih (t + 1) h p w mk u (by omega) (by omega)
      · have zb := zFr_b (catT T k) H t
        have u1 := FM.up mk u (t := t) (d := zFr (catT T k) H t) (by omega) (by omega) zb.2
        have f1 : Fr pM h (mW h 129 t (zFr (catT T k) H t)) := Fr.W h _ (by unfold pM; omega)
        have mk1 := mk.of f1
        have w1 := w.of (f1.to pM_Z)
        obtain ⟨h2, g2, f2, s2⟩ := m_spans mk1 u1
        have mk2 := mk1.of (f2.to pO_M)
        have w2 := w1.of ((f2.to pO_M).to pM_Z)
        have u2 : FM h2 (catT T k) (up1 F t (zFr (catT T k) H t)) := ⟨u1.1, fun s s0 s1 => by rw [f2.2 129 s (by unfold pO; omega)]; exact u1.2 s s0 s1⟩
        have u3 := FM.up mk2 u2 (t := t) (d := -1) (by omega) (by omega) (by omega)
        have f3 : Fr pM h2 (mW h2 129 t (-1)) := Fr.W h2 _ (by unfold pM; omega)
        have mk3 := mk2.of f3
        have w3 := w2.of (f3.to pM_Z)
        have u4 : FM (mW h2 129 t (-1)) (catT T k) F := ⟨u.1, fun s s0 s1 => by
          rw [u3.2 s s0 s1]
          by_cases x : s = t
          · rw [x, up1_s]; omega
          · rw [up1_n x, up1_n x]⟩
        have zw := zWd_b c.2.1 u1.1
        have ex : zNx (catT T k) (houT T j) F H t = zWd (catT T k) (up1 F t (zFr (catT T k) H t)) := if_neg (by
          intro x
          rcases x with x | x
          · omega
          · exact bt x)
        have m2 := m132 w2
        have m1 := m132 w1
        obtain ⟨h4, g4, f4⟩ := ih (t + 1) _ (zM (zNx (catT T k) (houT T j) F H) t p) w3 mk3 u4 (by omega) (by omega)
        have S2 : okS h2 129 102 t = true := okS_t m2.2.2.2 (by decide) t0 (by omega)
        have S1 : okS h 129 102 t = true := okS_t m.2.2.2 (by decide) t0 (by omega)
        refine ⟨h4, ?_, (((f1.to pM_Z).tr ((f2.to pO_M).to pM_Z)).tr (f3.to pM_Z)).tr f4⟩
        have fin : (if (if low (catT T k) (up1 F t (zFr (catT T k) H t)) = -2000000000 then (0 : Int) else 1) = 0 then P_Mo_next_42 124 j (520 + 330 * k) H p.1 p.2 (t + 1) (mW h2 129 t (-1)) else if p.1 < 0 then P_Mo_next_42 124 j (520 + 330 * k) H t (w64 (mR (mW h2 129 t (-1)) 124 20 - mR (mW h2 129 t (-1)) 124 19)) (t + 1) (mW h2 129 t (-1)) else if w64 (mR (mW h2 129 t (-1)) 124 20 - mR (mW h2 129 t (-1)) 124 19) < p.2 then P_Mo_next_42 124 j (520 + 330 * k) H t (w64 (mR (mW h2 129 t (-1)) 124 20 - mR (mW h2 129 t (-1)) 124 19)) (t + 1) (mW h2 129 t (-1)) else P_Mo_next_42 124 j (520 + 330 * k) H p.1 p.2 (t + 1) (mW h2 129 t (-1))) = some ((itN (zM (zNx (catT T k) (houT T j) F H)) n (t + 1) (zM (zNx (catT T k) (houT T j) F H) t p)).1, h4) := by
          rw [mR_ne (by omega), mR_ne (by omega)]
          by_cases x1 : low (catT T k) (up1 F t (zFr (catT T k) H t)) = -2000000000
          · have e : zM (zNx (catT T k) (houT T j) F H) t p = p := if_pos (by rw [ex]; exact zw.1.2 x1)
            rw [if_pos x1, if_pos rfl]
            rw [e] at g4 ⊢
            exact g4
          · rw [if_neg x1, if_neg n10, (s2 x1).1, (s2 x1).2]
            have ew : w64 (high (catT T k) (up1 F t (zFr (catT T k) H t)) - low (catT T k) (up1 F t (zFr (catT T k) H t))) = zNx (catT T k) (houT T j) F H t := by rw [ex]; unfold zWd; rw [if_neg x1]
            have x2 : ¬ zNx (catT T k) (houT T j) F H t = -1 := fun x => x1 (zw.1.1 (by rw [← ex]; exact x))
            rw [ew]
            revert g4
            unfold zM
            rw [if_neg x2]
            by_cases y2 : p.1 < 0
            · rw [if_pos y2, if_pos (Or.inl y2)]; exact fun g => g
            · rw [if_neg y2]
              by_cases y3 : zNx (catT T k) (houT T j) F H t < p.2
              · rw [if_pos y3, if_pos (Or.inr y3)]; exact fun g => g
              · rw [if_neg y3, if_neg (by omega)]; exact fun g => g
        by_cases fl : w64 (Int.tdiv (w64 (1000 * catT T k (9 + t))) H) < 1
        · have ed : zFr (catT T k) H t = 1 := if_pos fl
          rw [ed] at g2 fin w1 mk1
          rw [if_neg bt, if_pos rfl, if_pos (ivM w), ivM0 w, w32_id (x := 520 + 330 * k + 9) (by omega) (by omega), w32_id (x := 520 + 330 * k + 9 + t) (by omega) (by omega), if_pos (ivMA w (by omega) (by omega)), if_neg hn, if_pos (ivM w), ivMT w (by omega) (by omega), e9, if_pos fl, m.2.2.1, if_pos S1, hb_eq, if_pos (ivM w1), g2, bind_some', if_pos (ivM w2), m2.2.2.1, if_pos S2, hb_eq]
          simp only [ivM w3, ↓reduceIte]
          exact fin
        · have ed : zFr (catT T k) H t = atM (w64 (Int.tdiv (w64 (1000 * catT T k (9 + t))) H)) := if_neg fl
          rw [ed] at g2 fin w1 mk1
          rw [if_neg bt, if_pos rfl, if_pos (ivM w), ivM0 w, w32_id (x := 520 + 330 * k + 9) (by omega) (by omega), w32_id (x := 520 + 330 * k + 9 + t) (by omega) (by omega), if_pos (ivMA w (by omega) (by omega)), if_neg hn, if_pos (ivM w), ivMT w (by omega) (by omega), e9, if_neg fl, m_atMost, bind_some', m.2.2.1, if_pos S1, hb_eq, if_pos (ivM w1), g2, bind_some', if_pos (ivM w2), m2.2.2.1, if_pos S2, hb_eq]
          simp only [ivM w3, ↓reduceIte]
          exact fin
    · have e2 : zNx (catT T k) (houT T j) F H t = -1 := if_pos (Or.inl (by omega))
      have e : zM (zNx (catT T k) (houT T j) F H) t p = p := if_pos e2
      rw [if_neg z, e]
      exact ih (t + 1) h p w mk u (by omega) (by omega)
theorem r_next {h : Hp} {T : Int → Int} (w : Inv h T) (k j y : Int) : ∃ h', C_Mo_next 124 k j y h = some (aNext T k j y, h') ∧ Fr pZ h h' := by
  have n := ivn w
  rw [E_Mo_next, if_pos (ivM w), m_areAll w, bind_some']
  unfold aNext
  by_cases q2 : okL T k j y
  · have k1 := q2.1
    have j1 := q2.2.1
    have v := (ivC w k1.1 k1.2).2.1.2.1
    obtain ⟨h1, g1, f1, d1⟩ := m_slopeOf (ivMK w (y := y) k1.1 k1.2 j1.1 j1.2)
    have w1 := w.of (f1.to pM_Z)
    have e1 : T (520 + 330 * k + 1) = catT T k 1 := catE (by omega) (by omega)
    have ezs : slX (catT T k) (frs (catT T k) (houT T j) y) (-1) = zS (catT T k) (houT T j) y := rfl
    rw [bI_t q2, if_neg n10, if_pos (ivM w), m_catAt k1.1 (by omega), bind_some', if_pos (ivM w), m_houAt j1.1 (by omega), bind_some', if_pos (ivM w), g1, bind_some', ezs]
    by_cases c1 : zS (catT T k) (houT T j) y = -2000000000 ∨ zS (catT T k) (houT T j) y = 0
    · refine ⟨h1, ?_, f1.to pM_Z⟩
      rw [E_Mo_next_42, if_pos (ivM w1), ivM0 w1, w32_id (x := 520 + 330 * k + 1) (by omega) (by omega), if_pos (ivMA w1 (by omega) (by omega)), ivMT w1 (by omega) (by omega), e1, cI_f (fun z => by rcases c1 with c | c; exact z.2.1 c; exact z.2.2 c)]
      by_cases s : (0 : Int) < catT T k 1
      · rw [if_pos s]
        by_cases c2 : zS (catT T k) (houT T j) y = -2000000000
        · rw [if_pos c2]
        · rw [if_neg c2, if_pos (c1.resolve_left c2)]
      · rw [if_neg s]
    · obtain ⟨h2, p1, p2⟩ := l_mnext q2 (fun c => c1 (Or.inr c)) (fun c => c1 (Or.inl c)) (catT T k 1).toNat 0 h1 (-1, 0) w1 d1.1 d1.2.1 (by omega) (by omega)
      refine ⟨h2, ?_, (f1.to pM_Z).tr p2⟩
      rw [cI_t ⟨q2, fun c => c1 (Or.inl c), fun c => c1 (Or.inr c)⟩]
      exact p1
  · exact ⟨h, by rw [bI_f q2, if_pos rfl, cI_f (fun z => q2 z.1)], Fr.rf _ h⟩
/-- two years that know the same entries -/
def sameY (V : Int → Int) (y z : Int) : Prop := ∀ t r, 0 ≤ t → t < V 1 → 0 ≤ r → r < V 0 → rawY V y t r = rawY V z t r
theorem fB_y {V : Int → Int} {y z : Int} {S : Int → Int} {t r : Int} (e : rawY V y t r = rawY V z t r) : fB V y S t r = fB V z S t r := by unfold fB; rw [e]
theorem sclT_y {V U : Int → Int} (o : Vok V) {y z : Int} (e : sameY V y z) : ∀ n : Nat, n ≤ V 0 → sclT V U y n = sclT V U z n
  | 0, _ => rfl
  | n + 1, hn => by
    have ih := sclT_y (U := U) o e n (by omega)
    have v1 := o.2.1
    have v3 := o.2.2.1 n (by omega) (by omega)
    funext i
    unfold sclT
    rw [ih]
    by_cases q : i = n
    · rw [if_pos q, if_pos q]
      unfold clV
      by_cases x : V (3 + n) < 100
      · rw [if_pos x, if_pos x]
        have x3 := v3.2.2 x
        congr 1
        unfold scO
        rw [itN_congr (G := fsO V z (sclT V U z n) (U 2) n (V (3 + n)))]
        intro s b s0 s1
        unfold fsO
        rw [e s n s0 (by omega) (by omega) (by omega), fB_y (e s (V (3 + n)) s0 (by omega) v3.1 (by omega))]
      · rw [if_neg x, if_neg x]
    · rw [if_neg q, if_neg q]
theorem pk_y {V : Int → Int} (o : Vok V) {y z : Int} (e : sameY V y z) {S : Int → Int} {us way t : Int} (t0 : 0 ≤ t) (t1 : t < V 1) : pk V y S us way t = pk V z S us way t := by
  have v0 := o.1
  unfold pk
  rw [itN_congr (G := pkF V z S t us way) _ _ _ (fun r b r0 r1 => by unfold pkF; rw [fB_y (e t r t0 t1 r0 (by omega))])]
  have i := pkI_n (V := V) (y := z) (S := S) (t := t) (us := us) (way := way) v0
  unfold pkE
  by_cases q : (itN (pkF V z S t us way) (V 0).toNat 0 (-1, 0, 0)).2.1 = 0
  · rw [if_pos q, if_pos q]
  · unfold pkI at i
    rw [if_neg q, if_neg q, fB_y (e t _ t0 t1 (by omega) (by omega))]
def eqR (F G : Int → Int) : Prop := ∀ s, 0 ≤ s → s < 24 → F s = G s
theorem sg_cg {F G g g' : Int → Int} (e : eqR F G) (eg : eqR g g') (x : Int) : sg F g x 24 = sg G g' x 24 := sg_congr 24 (fun t t0 t1 => by unfold tmS; rw [e t t0 t1, eg t t0 t1])
theorem slX_cg {V F G : Int → Int} (e : eqR F G) (x : Int) : slX V F x = slX V G x := by
  unfold slX
  rw [sg_cg e (g := gDD F) (g' := gDD G) (fun t t0 t1 => by unfold gDD; rw [e t t0 t1]), sg_cg e (g := gVD V F) (g' := gVD V G) (fun t t0 t1 => by unfold gVD; rw [e t t0 t1])]
theorem slB_cg {V F G : Int → Int} (e : eqR F G) {t : Int} (t0 : 0 ≤ t) (t1 : t < 24) : slB V F t = slB V G t := by unfold slB; rw [e t t0 t1, slX_cg e]
theorem spX_cg {V F G : Int → Int} (e : eqR F G) (x H : Int) : spX V F x H = spX V G x H := by
  unfold spX
  exact itN_congr 24 0 0 (fun j b j0 j1 => by unfold spF lfO lfW; rw [e j j0 (by omega)])
theorem od_cg {V F G : Int → Int} (e : eqR F G) : od V F = od V G := by
  unfold od
  rw [itN_congr (F := odF V F) (G := odF V G) 24 0 (-1, 0) (fun j b j0 j1 => by unfold odF; rw [slB_cg e j0 (by omega), spX_cg e])]
theorem itN_rel {α : Type} {F : Int → α → α} (R : α → α → Prop) : ∀ (n : Nat) (i : Int) (a b : α), R a b → (∀ j a b, i ≤ j → j < i + n → R a b → R (F j a) (F j b)) → R (itN F n i a) (itN F n i b)
  | 0, _, _, _, h, _ => h
  | n + 1, i, a, b, h, hs => itN_rel R n (i + 1) (F i a) (F i b) (hs i a b (by omega) (by omega) h) (fun j a b j0 j1 => hs j a b (by omega) (by omega))
theorem eqR_up {F G : Int → Int} (e : eqR F G) (t v : Int) : eqR (up1 F t v) (up1 G t v) := fun s s0 s1 => by
  unfold up1
  by_cases q : s = t
  · rw [if_pos q, if_pos q]
  · rw [if_neg q, if_neg q]; exact e s s0 s1
theorem ruF_cg {V U F G : Int → Int} (e : eqR F G) (i : Int) : eqR (ruF V U i F) (ruF V U i G) := by
  unfold ruF
  by_cases q : U (10 + 2 * i) = 4
  · rw [if_pos q, if_pos q]
    exact itN_rel (F := doF V) eqR _ 0 F G e (fun j a b _ _ r => by
      unfold doF
      rw [od_cg r]
      by_cases x : od V b = -1
      · rw [if_pos x, if_pos x]; exact r
      · rw [if_neg x, if_neg x]; exact eqR_up r _ _)
  · rw [if_neg q, if_neg q]
    exact itN_rel (F := drF V (U (10 + 2 * i)) (U (11 + 2 * i))) eqR 24 0 F G e (fun j a b j0 j1 r => by
      have te : thr V a (U (10 + 2 * i)) (U (11 + 2 * i)) j = thr V b (U (10 + 2 * i)) (U (11 + 2 * i)) j := by unfold thr; rw [r j j0 (by omega)]
      unfold drF
      rw [te, r j j0 (by omega)]
      by_cases x : b j < 0
      · rw [if_pos x, if_pos x]; exact r
      · rw [if_neg x, if_neg x]
        by_cases x2 : thr V b (U (10 + 2 * i)) (U (11 + 2 * i)) j = true
        · rw [if_pos x2, if_pos x2]; exact eqR_up r _ _
        · rw [if_neg x2, if_neg x2]; exact r)
theorem frs_y {V U : Int → Int} (o : Vok V) {y z : Int} (e : sameY V y z) : eqR (frs V U y) (frs V U z) := by
  have v0 := o.1
  have g : eqR (fr0 V U y) (fr0 V U z) := fun s s0 s1 => by
    unfold fr0
    by_cases q : V 1 ≤ s
    · rw [if_pos q, if_pos q]
    · rw [if_neg q, if_neg q]
      by_cases b : bitT (U 2) s = true
      · rw [if_pos b, if_pos b]
      · rw [if_neg b, if_neg b, sclT_y o e (V 0).toNat (by omega), pk_y o e s0 (by omega)]
  exact itN_rel (F := ruF V U) eqR _ 0 _ _ g (fun j a b _ _ r => ruF_cg r j)
theorem zS_y {V U : Int → Int} (o : Vok V) {y z : Int} (e : sameY V y z) : zS V U y = zS V U z := slX_cg (frs_y o e) (-1)
/-- the slope that the survey holds -/
def slV (h : Hp) : Int := if mR h 99 11 = 0 then -2000000000 else w64 (Int.tdiv (w64 (1000 * mR h 99 10)) (mR h 99 11))
theorem s_slV {h : Hp} (k : okF h 99 9 = true) : C_Su_slope 99 h = some (slV h, h) := by
  rw [E_Su_slope, if_pos k]
  unfold slV
  by_cases q : mR h 99 11 = 0
  · rw [if_pos q, if_pos q]
  · rw [if_neg q, if_neg q, if_pos k, if_pos k, if_neg q]
theorem okS_no {h : Hp} {a i : Int} (k : mK h a = 104) : ¬ okS h a 101 i = true := fun e => by
  have := (of_decide_eq_true e).1
  omega
def pN0 (b _ : Int) : Prop := b = 120
theorem pN0_Z (b i : Int) (q : pN0 b i) : pZ b i := by unfold pN0 at q; unfold pZ; omega
theorem ivCh {h : Hp} {T : Int → Int} (w : Inv h T) : okF h 118 2 = true ∧ mR h 118 0 = 119 ∧ mR h 118 1 = 120 ∧ (mK h 119 = 103 ∧ mL h 119 = 100) ∧ (mK h 120 = 104 ∧ mL h 120 = 100) ∧ mR h 1 8 = 118 := ⟨okF_t w.1.2.2.2.2.2.2.2.2.1.1, w.1.2.2.2.2.2.2.2.2.1.2.1, w.1.2.2.2.2.2.2.2.2.1.2.2, w.1.2.2.2.2.2.2.2.2.2.1.1, w.1.2.2.2.2.2.2.2.2.2.1.2, w.1.2.1.2.2.2.2.2.2.2.2.1⟩
theorem l_news2 {T : Int → Int} {c : Int} : ∀ (n : Nat) (t : Int) (h : Hp), Inv h T → 0 ≤ t → t + n = 100 → ∃ h', P_Ch_markNews_2 118 c t h = P_Ch_markNews_23 118 c 0 h' ∧ Fr pN0 h h' ∧ Inv h' T := by
  intro n
  induction n with
  | zero =>
    intro t h w t0 ht
    refine ⟨h, ?_, Fr.rf _ h, w⟩
    rw [E_Ch_markNews_2, if_neg (by omega)]
  | succ n ih =>
    intro t h w t0 ht
    have m := ivCh w
    have f1 : Fr pN0 h (mW h 120 t 0) := Fr.W h _ rfl
    obtain ⟨h2, g2, f2, w2⟩ := ih (t + 1) _ (w.of (f1.to pN0_Z)) (by omega) (by omega)
    refine ⟨h2, ?_, f1.tr f2, w2⟩
    rw [E_Ch_markNews_2, if_pos (show t < 100 by omega), if_pos m.1, m.2.2.1, if_neg (okS_no m.2.2.2.2.1.1), if_pos ⟨okS_t m.2.2.2.2.1 (by decide) t0 (by omega), Or.inl rfl⟩, hb_eq, w32_id (x := t + 1) (by omega) (by omega)]
    exact g2
theorem l_news {T : Int → Int} {k : Int} (k0 : 0 ≤ k) (k1 : k < T 0) {Y : Int → Int} : ∀ (n : Nat) (i : Int) (h : Hp), Inv h T → (∀ s, mR h (8 + 8 * k + 6) s = Y s) → (∀ s, 0 ≤ s → s < i → catT T k (33 + s) ≠ 0 → 0 ≤ Y s → Y s < 100 → mR h 120 (Y s) = 1) → 0 ≤ i → i + n = 144 → ∃ h', P_Ch_markNews_23 118 (8 + 8 * k) i h = some (0, h') ∧ Fr pN0 h h' ∧ (∀ s, 0 ≤ s → s < 144 → catT T k (33 + s) ≠ 0 → 0 ≤ Y s → Y s < 100 → mR h' 120 (Y s) = 1) ∧ Inv h' T := by
  intro n
  induction n with
  | zero =>
    intro i h w eY hs i0 hi
    have c := ivC w k0 k1
    have yo : okY h (8 + 8 * k + 5) = true := decide_eq_true (by rw [c.1.1.2.2.2.2.2.2.2.1.1]; decide)
    refine ⟨h, ?_, Fr.rf _ h, fun s s0 s1 => hs s s0 (by omega), w⟩
    rw [E_Ch_markNews_23, if_pos (cF c.1.1), c7 c.1.1, if_pos yo, c.1.1.2.2.2.2.2.2.2.1.2, if_neg (by omega)]
  | succ n ih =>
    intro i h w eY hs i0 hi
    have nn := ivn w
    have m := ivCh w
    have c := ivC w k0 k1
    have yo : okY h (8 + 8 * k + 5) = true := decide_eq_true (by rw [c.1.1.2.2.2.2.2.2.2.1.1]; decide)
    rw [E_Ch_markNews_23, if_pos (cF c.1.1), c7 c.1.1, if_pos yo, c.1.1.2.2.2.2.2.2.2.1.2, if_pos (show i < 144 by omega), if_pos (cF c.1.1), if_pos (cA5 c.1.1 i0 (by omega)), (c.2.2.2.2.1 i i0 (by omega)).1, if_pos (cF c.1.1), c8 c.1.1, if_pos (cA6 c.1.1 i0 (by omega)), eY i, s_isYear, bind_some', w32_id (x := i + 1) (by omega) (by omega)]
    by_cases z : catT T k (33 + i) = 0
    · rw [if_pos z]
      exact ih (i + 1) h w eY (fun s s0 s1 a b d => hs s s0 (by
        by_cases x : s = i
        · rw [x] at a; exact absurd z a
        · omega) a b d) (by omega) (by omega)
    · rw [if_neg z]
      by_cases y : 0 ≤ Y i ∧ Y i < 100
      · have f1 : Fr pN0 h (mW h 120 (Y i) 1) := Fr.W h _ rfl
        obtain ⟨h2, g2, f2, e2, w2⟩ := ih (i + 1) _ (w.of (f1.to pN0_Z)) (fun s => by rw [mR_ne (by omega)]; exact eY s) (fun s s0 s1 a b d => by
          rw [mR_mW]
          by_cases x : Y s = Y i
          · rw [if_pos ⟨rfl, x⟩]
          · rw [if_neg (fun z => x z.2)]
            exact hs s s0 (by
              by_cases x2 : s = i
              · rw [x2] at x; exact absurd rfl x
              · omega) a b d) (by omega) (by omega)
        refine ⟨h2, ?_, f1.tr f2, e2, w2⟩
        rw [bI_t y, if_neg n10, if_pos m.1, if_pos (cF c.1.1), c8 c.1.1, if_pos (cA6 c.1.1 i0 (by omega)), m.2.2.1, eY i, if_neg (okS_no m.2.2.2.2.1.1), if_pos ⟨okS_t m.2.2.2.2.1 (by decide) y.1 y.2, Or.inr rfl⟩, hb_eq]
        exact g2
      · rw [bI_f y, if_pos rfl]
        exact ih (i + 1) h w eY (fun s s0 s1 a b d => hs s s0 (by
          by_cases x : s = i
          · rw [x] at b d; exact absurd ⟨b, d⟩ y
          · omega) a b d) (by omega) (by omega)
theorem s_news {h : Hp} {T : Int → Int} (w : Inv h T) {k : Int} (k0 : 0 ≤ k) (k1 : k < T 0) : ∃ h', C_Ch_markNews 118 (8 + 8 * k) h = some (0, h') ∧ Fr pN0 h h' ∧ Inv h' T ∧ (∀ y, 0 ≤ y → y < 100 → mR h' 120 y = 0 → sameY (catT T k) y (y - 1)) := by
  have nn := ivn w
  obtain ⟨h1, g1, f1, w1⟩ := l_news2 (c := 8 + 8 * k) 100 0 h w (by omega) (by omega)
  obtain ⟨h2, g2, f2, e2, w2⟩ := l_news k0 k1 (Y := mR h1 (8 + 8 * k + 6)) 144 0 h1 w1 (fun _ => rfl) (fun s s0 s1 => by omega) (by omega) (by omega)
  refine ⟨h2, by rw [E_Ch_markNews, g1, g2], f1.tr f2, w2, fun y y0 y1 e t r t0 t1 r0 r1 => ?_⟩
  have c := ivC w1 k0 k1
  have v0 := c.2.1.1
  have v1 := c.2.1.2.1
  have e3 := e2 (t * 6 + r) (by omega) (by omega)
  unfold rawY
  by_cases x : catT T k (33 + 6 * t + r) = 0
  · rw [x]; split <;> split <;> rfl
  · have g := (c.1.2.2.2.2.2.2 t r t0 t1 r0 r1).2 x
    rw [g, show 33 + (t * 6 + r) = 33 + 6 * t + r by omega] at e3
    have e4 : catT T k (177 + 6 * t + r) ≠ y := fun z => by
      have := e3 x (by omega) (by omega)
      rw [z, e] at this
      omega
    by_cases q : y < catT T k (177 + 6 * t + r)
    · rw [if_pos q, if_pos (by omega)]
    · rw [if_neg q, if_neg (by omega)]
theorem l_fill {T : Int → Int} {k j : Int} (k0 : 0 ≤ k) (k1 : k < T 0) (j0 : 0 ≤ j) (j1 : j < T 1) : ∀ (n : Nat) (y : Int) (h : Hp), Inv h T → (1 ≤ y → slV h = zS (catT T k) (houT T j) (y - 1)) → (∀ s, 0 ≤ s → s < y → mR h 119 s = zS (catT T k) (houT T j) s) → (∀ z, 0 ≤ z → z < 100 → mR h 120 z = 0 → sameY (catT T k) z (z - 1)) → 0 ≤ y → y + n = 100 → ∃ h', P_Ch_fill_8 118 99 (8 + 8 * k) (32 + 4 * j) y h = some (0, h') ∧ Fr pZ h h' ∧ Inv h' T ∧ (∀ s, 0 ≤ s → s < 100 → mR h' 119 s = zS (catT T k) (houT T j) s) := by
  intro n
  induction n with
  | zero =>
    intro y h w e1 e2 e3 y0 hy
    refine ⟨h, ?_, Fr.rf _ h, w, fun s s0 s1 => e2 s s0 (by omega)⟩
    rw [E_Ch_fill_8, if_neg (by omega)]
  | succ n ih =>
    intro y h w e1 e2 e3 y0 hy
    have nn := ivn w
    have m := ivCh w
    have step : ∀ g : Hp, Inv g T → Fr pL h g → slV g = zS (catT T k) (houT T j) y → ∃ h', P_Ch_fill_8 118 99 (8 + 8 * k) (32 + 4 * j) (y + 1) (mW g 119 y (zS (catT T k) (houT T j) y)) = some (0, h') ∧ Fr pZ h h' ∧ Inv h' T ∧ (∀ s, 0 ≤ s → s < 100 → mR h' 119 s = zS (catT T k) (houT T j) s) := by
      intro g wg fg sg
      have f1 : Fr pZ g (mW g 119 y (zS (catT T k) (houT T j) y)) := Fr.W g _ (by unfold pZ; omega)
      obtain ⟨h2, g2, f2, w2, e4⟩ := ih (y + 1) _ (wg.of f1) (fun _ => by
        unfold slV at sg ⊢
        rw [mR_ne (by omega), mR_ne (by omega), show y + 1 - 1 = y by omega]
        exact sg) (fun s s0 s1 => by
        rw [mR_mW]
        by_cases x : s = y
        · rw [x, if_pos ⟨rfl, rfl⟩]
        · rw [if_neg (fun z => x z.2), fg.2 119 s (by unfold pL; omega)]; exact e2 s s0 (by omega)) (fun z z0 z1 q => e3 z z0 z1 (by
        rw [mR_ne (by omega), fg.2 120 z (by unfold pL; omega)] at q
        exact q)) (by omega) (by omega)
      exact ⟨h2, g2, ((fg.to pL_Z).tr f1).tr f2, w2, e4⟩
    obtain ⟨h1, g1, f1, l1, w1⟩ := s_LookH w (y := y) k0 k1 j0 j1
    have m1 := ivCh w1
    have sv : slV h1 = zS (catT T k) (houT T j) y := by
      have a := s_slV (ivS w1)
      have b := s_slope l1.1 l1.2.1
      rw [b] at a
      exact (Prod.mk.inj (Option.some.inj a)).1.symm
    obtain ⟨h2, g2, f2, w2, e4⟩ := step h1 w1 f1 sv
    rw [E_Ch_fill_8, if_pos (show y < 100 by omega), w32_id (x := y + 1) (by omega) (by omega)]
    by_cases z : y = 0
    · refine ⟨h2, ?_, f2, w2, e4⟩
      rw [if_pos z, if_pos (ivS w), g1, bind_some', if_pos m1.1, if_pos (ivS w1), s_slV (ivS w1), bind_some', m1.2.1, if_pos (okS_t m1.2.2.2.1 (by decide) y0 (by omega)), hb_eq, sv]
      exact g2
    · rw [if_neg z, if_pos m.1, m.2.2.1, if_pos (okB_z m.2.2.2.2.1 y0 (by omega))]
      by_cases q : mR h 120 y = 0
      · have sy := zS_y (U := houT T j) (ivC w k0 k1).2.1 (e3 y y0 (by omega) q)
        have sv2 : slV h = zS (catT T k) (houT T j) y := (e1 (by omega)).trans sy.symm
        obtain ⟨h3, g3, f3, w3, e5⟩ := step h w (Fr.rf _ h) sv2
        refine ⟨h3, ?_, f3, w3, e5⟩
        rw [if_pos q, if_pos m.1, if_pos (ivS w), s_slV (ivS w), bind_some', m.2.1, if_pos (okS_t m.2.2.2.1 (by decide) y0 (by omega)), hb_eq, sv2]
        exact g3
      · refine ⟨h2, ?_, f2, w2, e4⟩
        rw [if_neg q, if_pos (ivS w), g1, bind_some', if_pos m1.1, if_pos (ivS w1), s_slV (ivS w1), bind_some', m1.2.1, if_pos (okS_t m1.2.2.2.1 (by decide) y0 (by omega)), hb_eq, sv]
        exact g2
theorem s_fill {h : Hp} {T : Int → Int} (w : Inv h T) {k j : Int} (k0 : 0 ≤ k) (k1 : k < T 0) (j0 : 0 ≤ j) (j1 : j < T 1) : ∃ h', C_Ch_fill 118 99 (8 + 8 * k) (32 + 4 * j) h = some (0, h') ∧ Fr pZ h h' ∧ Inv h' T ∧ (∀ s, 0 ≤ s → s < 100 → mR h' 119 s = zS (catT T k) (houT T j) s) := by
  obtain ⟨h1, g1, f1, w1, e1⟩ := s_news w k0 k1
  obtain ⟨h2, g2, f2, w2, e2⟩ := l_fill k0 k1 j0 j1 100 0 h1 w1 (fun q => by omega) (fun s s0 s1 => by omega) e1 (by omega) (by omega)
  refine ⟨h2, ?_, (f1.to pN0_Z).tr f2, w2, e2⟩
  rw [E_Ch_fill, if_pos (ivCh w).1, g1, bind_some']
  exact g2
