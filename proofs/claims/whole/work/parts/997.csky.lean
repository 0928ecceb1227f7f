/-! A sky read; the class's half. -/
def skS (B : Int → Int) (L : Int) (s : Int × Int × Int) (V : Int → Int) (j lo hi : Int) : (Int × Int × Int) × (Int → Int) := (ens B L (num B L lo hi (adv B L s)).2, if (ens B L (num B L lo hi (adv B L s)).2).2.1 = 0 then up1 V j (num B L lo hi (adv B L s)).1 else V)
def kN1 (B : Int → Int) (L : Int) (s : Int × Int × Int) (V : Int → Int) := num B L 1 999 (rm3 B L (V 0) 6 s)
def kN2 (B : Int → Int) (L : Int) (s : Int × Int × Int) (V : Int → Int) := num B L 1 9 (kN1 B L s V).2
def tLight (V : Int → Int) (x y : Int) : Int → Int := up1 (up1 (up1 V (6 + V 0) x) (12 + V 0) y) 0 (V 0 + 1)
def skG (B : Int → Int) (L : Int) (s : Int × Int × Int) (V : Int → Int) : (Int × Int × Int) × (Int → Int) := (ens B L (kN2 B L s V).2, if (ens B L (kN2 B L s V).2).2.1 = 0 then tLight V (kN1 B L s V).1 (kN2 B L s V).1 else V)
def skL (B : Int → Int) (L : Int) (s : Int × Int × Int) (V : Int → Int) : (Int × Int × Int) × (Int → Int) := if tK B L s.1 = 3 then (if tW B L s.1 = 41 then skG B L s V else if tW B L s.1 = 42 then skS B L s V 1 0 1000 else if tW B L s.1 = 43 then skS B L s V 2 0 999 else if tW B L s.1 = 44 then skS B L s V 3 0 50 else if tW B L s.1 = 45 then skS B L s V 4 1 9999 else if tW B L s.1 = 46 then skS B L s V 5 1 24 else (brk B L s, V)) else (brk B L s, V)
def skI (B : Int → Int) (L : Int) : Nat → (Int × Int × Int) × (Int → Int) → (Int × Int × Int) × (Int → Int)
  | 0, x => x
  | n + 1, x => if tK B L x.1.1 = 0 ∨ x.1.2.1 = 1 then x else skI B L n (skL B L x.1 x.2)
/-- the settings and lights are in their ranges -/
def SVb (V : Int → Int) : Prop := (0 ≤ V 0 ∧ V 0 ≤ 6) ∧ (0 ≤ V 1 ∧ V 1 ≤ 1000) ∧ (0 ≤ V 2 ∧ V 2 ≤ 999) ∧ (0 ≤ V 3 ∧ V 3 ≤ 50) ∧ (1 ≤ V 4 ∧ V 4 ≤ 9999) ∧ (1 ≤ V 5 ∧ V 5 ≤ 24) ∧ (∀ i, 0 ≤ i → i < V 0 → (1 ≤ V (6 + i) ∧ V (6 + i) ≤ 999) ∧ (1 ≤ V (12 + i) ∧ V (12 + i) ≤ 9))
/-- the class's draft: its settings count only while there is no fault -/
def SkD (h : Hp) (s : Int × Int × Int) (V : Int → Int) : Prop := SkyS h 96 ∧ mR h 96 0 = V 0 ∧ SVb V ∧ (s.2.1 = 0 → (∀ i, 0 ≤ i → i < 6 → mR h 96 i = V i) ∧ ∀ i, 0 ≤ i → i < V 0 → mR h 97 i = V (6 + i) ∧ mR h 98 i = V (12 + i))
def pRk (b i : Int) : Prop := pRf b i ∨ pSk 96 b i
theorem pRf_k (b i : Int) (q : pRf b i) : pRk b i := Or.inl q
theorem pSk_k (b i : Int) (q : pSk 96 b i) : pRk b i := Or.inr q
theorem pSk_n (b i : Int) (q : b = 82 ∨ b = 83) : ¬ pSk 96 b i := by unfold pSk; omega
theorem SkD.rd {h h' : Hp} {s t : Int × Int × Int} {V : Int → Int} (w : SkD h s V) (f : Fr pRf h h') (q : t.2.1 = 0 → s.2.1 = 0) : SkD h' t V := by
  obtain ⟨w1, w2, w3, w4⟩ := w
  have e : ∀ b i, b ≠ 82 → mR h' b i = mR h b i := fun b i n => f.2 b i (fun x => n x.1)
  refine ⟨w1.of f.1 (fun i _ _ => e 96 i (by decide)), by rw [e 96 0 (by decide)]; exact w2, w3, fun z => ⟨fun i i0 i1 => by rw [e 96 i (by decide)]; exact (w4 (q z)).1 i i0 i1, fun i i0 i1 => by rw [e 97 i (by decide), e 98 i (by decide)]; exact (w4 (q z)).2 i i0 i1⟩⟩
theorem k_set {h : Hp} {B : Int → Int} {L : Int} {s : Int × Int × Int} {V : Int → Int} (r : CR h B L s) (o : SO B L s) (w : SkD h s V) (t : tK B L s.1 = 3) {j lo hi : Int} (hj : (j = 1 ∧ 0 ≤ lo ∧ hi ≤ 1000) ∨ (j = 2 ∧ 0 ≤ lo ∧ hi ≤ 999) ∨ (j = 3 ∧ 0 ≤ lo ∧ hi ≤ 50) ∨ (j = 4 ∧ 1 ≤ lo ∧ hi ≤ 9999) ∨ (j = 5 ∧ 1 ≤ lo ∧ hi ≤ 24)) : ∃ h', (if okF h 82 6 = true then (C_Re_step 82 h).bind (fun x8 => (if okF x8.2 82 6 = true then (C_Re_readNumber 82 lo hi x8.2).bind (fun x9 => (if okF x9.2 96 8 = true then hb (mW x9.2 96 j x9.1) (fun h10 => (if okF h10 82 6 = true then (C_Re_endsSound 82 h10).bind (fun x11 => (some (0, x11.2) : Res)) else none)) else none)) else none)) else none) = some (0, h') ∧ Fr pRk h h' ∧ CR h' B L (skS B L s V j lo hi).1 ∧ SkD h' (skS B L s V j lo hi).1 (skS B L s V j lo hi).2 := by
  obtain ⟨h1, g1, f1, r1⟩ := c_stp r o.1 (by omega)
  have o1 := so_step o (show tK B L s.1 ≠ 0 by omega)
  obtain ⟨h2, g2, f2, r2⟩ := c_num r1 o1.1 lo hi
  have o2 := so_num (lo := lo) (hi := hi) o1
  have j0 : 1 ≤ j ∧ j ≤ 5 := by omega
  have f3 : Fr (pSk 96) h2 (mW h2 96 j (num B L lo hi (adv B L s)).1) := Fr.W h2 _ (by unfold pSk; omega)
  have r3 := r2.ne f3 pSk_n
  have w2 : SkD h2 (num B L lo hi (adv B L s)).2 V := w.rd (f1.tr f2) (fun z => (num_0 z).1)
  have e3 : ∀ b i, ¬ (b = 96 ∧ i = j) → mR (mW h2 96 j (num B L lo hi (adv B L s)).1) b i = mR h2 b i := fun b i n => by rw [mR_mW, if_neg n]
  have e3j : mR (mW h2 96 j (num B L lo hi (adv B L s)).1) 96 j = (num B L lo hi (adv B L s)).1 := mR_same _ _ _ _
  have g3 : ∀ K : Hp → Res, hb (mW h2 96 j (num B L lo hi (adv B L s)).1) K = K (mW h2 96 j (num B L lo hi (adv B L s)).1) := fun _ => rfl
  rw [if_pos (cro r), g1, bind_some', if_pos (cro r1), g2, bind_some', if_pos (okF_t w2.1.2.1), g3]
  generalize mW h2 96 j (num B L lo hi (adv B L s)).1 = h3 at f3 r3 e3 e3j ⊢
  obtain ⟨h4, g4, f4, r4⟩ := c_ens r3 o2.1
  have e4 : ∀ b i, b ≠ 82 → mR h4 b i = mR h3 b i := fun b i n => f4.2 b i (fun x => n x.1)
  rw [if_pos (cro r3), g4, bind_some']
  refine ⟨h4, rfl, (((f1.tr f2).to pRf_k).tr (f3.to pSk_k)).tr (f4.to pRf_k), r4, ?_⟩
  obtain ⟨a1, a2, a3, a4⟩ := w2
  have sk := f3.1.tr f4.1
  have c0 : mR h4 96 0 = V 0 := by rw [e4 96 0 (by decide), e3 96 0 (by omega)]; exact a2
  have sh : SkyS h4 96 := a1.of sk (fun i i0 i1 => by rw [e4 96 i (by decide), e3 96 i (by omega)])
  show SkD h4 (ens B L (num B L lo hi (adv B L s)).2) (if (ens B L (num B L lo hi (adv B L s)).2).2.1 = 0 then up1 V j (num B L lo hi (adv B L s)).1 else V)
  by_cases z : (ens B L (num B L lo hi (adv B L s)).2).2.1 = 0
  · have nz := ens_0 z
    have nn := num_0 nz
    have b := a4 nz
    rw [if_pos z]
    obtain ⟨s0, s1, s2, s3, s4, s5, s6⟩ := a3
    have up : ∀ i, i ≠ j → up1 V j (num B L lo hi (adv B L s)).1 i = V i := fun i n => up1_n n
    refine ⟨sh, by rw [up 0 (by omega)]; exact c0, ?_, fun _ => ⟨fun i i0 i1 => ?_, fun i i0 i1 => ?_⟩⟩
    · unfold SVb
      rw [up 0 (by omega)]
      refine ⟨s0, ?_, ?_, ?_, ?_, ?_, fun i i0 i1 => by rw [up (6 + i) (by omega), up (12 + i) (by omega)]; exact s6 i i0 i1⟩
      · by_cases y : (1 : Int) = j
        · rw [← y, up1_s]; omega
        · rw [up 1 y]; exact s1
      · by_cases y : (2 : Int) = j
        · rw [← y, up1_s]; omega
        · rw [up 2 y]; exact s2
      · by_cases y : (3 : Int) = j
        · rw [← y, up1_s]; omega
        · rw [up 3 y]; exact s3
      · by_cases y : (4 : Int) = j
        · rw [← y, up1_s]; omega
        · rw [up 4 y]; exact s4
      · by_cases y : (5 : Int) = j
        · rw [← y, up1_s]; omega
        · rw [up 5 y]; exact s5
    · rw [e4 96 i (by decide)]
      by_cases y : i = j
      · rw [y, e3j, up1_s]
      · rw [e3 96 i (fun x => y x.2), up i y]; exact b.1 i i0 i1
    · rw [up 0 (by omega)] at i1
      rw [e4 97 i (by decide), e4 98 i (by decide), e3 97 i (by omega), e3 98 i (by omega), up (6 + i) (by omega), up (12 + i) (by omega)]
      exact b.2 i i0 i1
  · rw [if_neg z]
    exact ⟨sh, c0, a3, fun x => absurd x z⟩
theorem s_klight {h : Hp} {s : Int × Int × Int} {V : Int → Int} (w : SkD h s V) (f : s.2.1 = 0) (l : V 0 < 6) {x y : Int} (hx : 1 ≤ x ∧ x ≤ 999) (hy : 1 ≤ y ∧ y ≤ 9) : ∃ h', C_Sk_addLights 96 x y h = some (0, h') ∧ Fr (pSk 96) h h' ∧ SkD h' s (tLight V x y) := by
  obtain ⟨a1, a2, a3, a4⟩ := w
  obtain ⟨s0, s1, s2, s3, s4, s5, s6⟩ := a3
  have b := a4 f
  have o : okF h 96 8 = true := okF_t a1.2.1
  let k1 := mW h 97 (V 0) x
  let k2 := mW k1 98 (V 0) y
  let k3 := mW k2 96 0 (V 0 + 1)
  have e1 : ∀ i, mR k1 96 i = mR h 96 i := fun i => mR_ne (by decide)
  have e2 : ∀ i, mR k2 96 i = mR h 96 i := fun i => by show mR (mW k1 98 (V 0) y) 96 i = _; rw [mR_ne (by decide), e1]
  have e3 : ∀ i, i ≠ 0 → mR k3 96 i = mR h 96 i := fun i n => by show mR (mW k2 96 0 (V 0 + 1)) 96 i = _; rw [mR_ni n, e2]
  have e30 : mR k3 96 0 = V 0 + 1 := mR_same _ _ _ _
  have e97 : ∀ i, mR k3 97 i = if i = V 0 then x else mR h 97 i := fun i => by
    show mR (mW (mW (mW h 97 (V 0) x) 98 (V 0) y) 96 0 (V 0 + 1)) 97 i = _
    rw [mR_ne (by decide), mR_ne (by decide), mR_mW]
    by_cases q : i = V 0
    · rw [if_pos ⟨rfl, q⟩, if_pos q]
    · rw [if_neg (fun z => q z.2), if_neg q]
  have e98 : ∀ i, mR k3 98 i = if i = V 0 then y else mR h 98 i := fun i => by
    show mR (mW (mW (mW h 97 (V 0) x) 98 (V 0) y) 96 0 (V 0 + 1)) 98 i = _
    rw [mR_ne (by decide), mR_mW]
    by_cases q : i = V 0
    · rw [if_pos ⟨rfl, q⟩, if_pos q]
    · rw [if_neg (fun z => q z.2), if_neg q, mR_ne (by decide)]
  have fr : Fr (pSk 96) h k3 := ((Fr.W h x (by unfold pSk; omega)).tr (Fr.W k1 y (by unfold pSk; omega))).tr (Fr.W k2 (V 0 + 1) (by unfold pSk; omega))
  have l97 : mK h 97 = 102 ∧ mL h 97 = 6 := a1.2.2.2.1
  have l98 : mK h 98 = 102 ∧ mL h 98 = 6 := a1.2.2.2.2
  have g6 : mR h 96 6 = 97 := a1.2.2.1.1
  have g7 : mR h 96 7 = 98 := a1.2.2.1.2
  refine ⟨k3, ?_, fr, ?_⟩
  · rw [E_Sk_addLights, if_pos o, a2, if_pos l, if_pos o, if_pos o, g6, if_pos (okS_t l97 (by decide) s0.1 (by omega)), hb_eq]
    show (if okF k1 96 8 = true then _ else _) = _
    rw [if_pos (show okF k1 96 8 = true from o), if_pos (show okF k1 96 8 = true from o), e1 7, g7, e1 0, a2, if_pos (show okS k1 98 102 (V 0) = true from okS_t l98 (by decide) s0.1 (by omega)), hb_eq]
    show (if okF k2 96 8 = true then _ else _) = _
    rw [if_pos (show okF k2 96 8 = true from o), if_pos (show okF k2 96 8 = true from o), e2 0, a2, w32_id (x := V 0 + 1) (by omega) (by omega), hb_eq]
  · have t0 : tLight V x y 0 = V 0 + 1 := up1_s ..
    have tn : ∀ i, i ≠ 0 → i ≠ 6 + V 0 → i ≠ 12 + V 0 → tLight V x y i = V i := fun i p0 p1 p2 => by unfold tLight; rw [up1_n p0, up1_n p2, up1_n p1]
    have t6 : tLight V x y (6 + V 0) = x := by unfold tLight; rw [up1_n (by omega), up1_n (by omega), up1_s]
    have t12 : tLight V x y (12 + V 0) = y := by unfold tLight; rw [up1_n (by omega), up1_s]
    refine ⟨a1.of fr.1 (fun i i0 i1 => e3 i (by omega)), by rw [e30, t0], ?_, fun _ => ⟨fun i i0 i1 => ?_, fun i i0 i1 => ?_⟩⟩
    · unfold SVb
      rw [t0, tn 1 (by omega) (by omega) (by omega), tn 2 (by omega) (by omega) (by omega), tn 3 (by omega) (by omega) (by omega), tn 4 (by omega) (by omega) (by omega), tn 5 (by omega) (by omega) (by omega)]
      refine ⟨by omega, s1, s2, s3, s4, s5, fun i i0 i1 => ?_⟩
      by_cases q : i = V 0
      · rw [q, t6, t12]; exact ⟨hx, hy⟩
      · rw [tn (6 + i) (by omega) (by omega) (by omega), tn (12 + i) (by omega) (by omega) (by omega)]
        exact s6 i i0 (by omega)
    · by_cases q : i = 0
      · rw [q, e30, t0]
      · rw [e3 i q, tn i q (by omega) (by omega)]; exact b.1 i i0 i1
    · rw [t0] at i1
      rw [e97, e98]
      by_cases q : i = V 0
      · rw [if_pos q, if_pos q, q, t6, t12]; exact ⟨rfl, rfl⟩
      · rw [if_neg q, if_neg q, tn (6 + i) (by omega) (by omega) (by omega), tn (12 + i) (by omega) (by omega) (by omega)]
        exact b.2 i i0 (by omega)
theorem k_lights {h : Hp} {B : Int → Int} {L : Int} {s : Int × Int × Int} {V : Int → Int} (r : CR h B L s) (o : SO B L s) (w : SkD h s V) (t : tK B L s.1 = 3) : ∃ h', C_Re_readLights 82 96 h = some (0, h') ∧ Fr pRk h h' ∧ CR h' B L (skG B L s V).1 ∧ SkD h' (skG B L s V).1 (skG B L s V).2 := by
  obtain ⟨h1, h2, g1, g2, k1, f2, r2⟩ := c_rm3 r o t (V 0) 6
  have o2 := so_rm3 (a := V 0) (b := 6) o (show tK B L s.1 ≠ 0 by omega)
  obtain ⟨h3, g3, f3, r3⟩ := c_num r2 o2.1 1 999
  have o3 : SO B L (kN1 B L s V).2 := so_num (lo := 1) (hi := 999) o2
  have r3' : CR h3 B L (kN1 B L s V).2 := r3
  obtain ⟨h4, g4, f4, r4⟩ := c_num r3' o3.1 1 9
  have o4 : SO B L (kN2 B L s V).2 := so_num (lo := 1) (hi := 9) o3
  have r4' : CR h4 B L (kN2 B L s V).2 := r4
  obtain ⟨h5, g5, f5, r5⟩ := c_ens r4' o4.1
  have F := ((f2.tr f3).tr f4).tr f5
  have q0 : (ens B L (kN2 B L s V).2).2.1 = 0 → s.2.1 = 0 := fun z => (rm3_0 (num_0 (num_0 (ens_0 z)).1).1).1
  have w5 : SkD h5 (ens B L (kN2 B L s V).2) V := w.rd F q0
  have g4' : C_Re_readNumber 82 1 9 h3 = some ((kN2 B L s V).1, h4) := g4
  have g3' : C_Re_readNumber 82 1 999 h2 = some ((kN1 B L s V).1, h3) := g3
  rw [E_Re_readLights, if_pos (okF_t w.1.2.1), w.2.1, if_pos (cro r), g1, bind_some', if_pos k1, g2, bind_some', if_pos (cro r2), g3', bind_some', if_pos (cro r3), g4', bind_some', if_pos (cro r4), g5, bind_some']
  show ∃ h', _ ∧ Fr pRk h h' ∧ CR h' B L (ens B L (kN2 B L s V).2) ∧ SkD h' (ens B L (kN2 B L s V).2) (if (ens B L (kN2 B L s V).2).2.1 = 0 then tLight V (kN1 B L s V).1 (kN2 B L s V).1 else V)
  by_cases z : (ens B L (kN2 B L s V).2).2.1 = 0
  · have a2 := num_0 (ens_0 z)
    have a1 := num_0 a2.1
    obtain ⟨h6, g6, f6, w6⟩ := s_klight w5 z (rm3_0 a1.1).2 (x := (kN1 B L s V).1) (y := (kN2 B L s V).1) a1.2 a2.2
    rw [bI_t z, if_neg n10, if_pos (okF_t w5.1.2.1), g6, bind_some', if_pos z]
    exact ⟨h6, rfl, (F.to pRf_k).tr (f6.to pSk_k), r5.ne f6 pSk_n, w6⟩
  · rw [bI_f z, if_pos rfl, if_neg z]
    exact ⟨h5, rfl, F.to pRf_k, r5, w5⟩
theorem ens_1 {B : Int → Int} {L : Int} {s : Int × Int × Int} (h : s.2.1 = 1) : ens B L s = s := by unfold ens; rw [if_pos h]
theorem so_skL {B : Int → Int} {L : Int} {s : Int × Int × Int} (o : SO B L s) (t : tK B L s.1 ≠ 0) (V : Int → Int) : SO B L (skL B L s V).1 := by
  unfold skL
  by_cases k : tK B L s.1 = 3
  · rw [if_pos k]
    by_cases w1 : tW B L s.1 = 41
    · rw [if_pos w1]; exact so_ens (so_num (so_num (so_rm3 o t)))
    rw [if_neg w1]
    by_cases w2 : tW B L s.1 = 42
    · rw [if_pos w2]; exact so_ens (so_num (so_step o t))
    rw [if_neg w2]
    by_cases w3 : tW B L s.1 = 43
    · rw [if_pos w3]; exact so_ens (so_num (so_step o t))
    rw [if_neg w3]
    by_cases w4 : tW B L s.1 = 44
    · rw [if_pos w4]; exact so_ens (so_num (so_step o t))
    rw [if_neg w4]
    by_cases w5 : tW B L s.1 = 45
    · rw [if_pos w5]; exact so_ens (so_num (so_step o t))
    rw [if_neg w5]
    by_cases w6 : tW B L s.1 = 46
    · rw [if_pos w6]; exact so_ens (so_num (so_step o t))
    rw [if_neg w6]
    exact so_brk o
  · rw [if_neg k]; exact so_brk o
theorem pRk_n (b i : Int) (q : b ≤ 0) : ¬ pRk b i := by unfold pRk pRf pSk; omega
/-- a setting, or no word of a sky -/
theorem k_setting {h : Hp} {B : Int → Int} {L : Int} {s : Int × Int × Int} {V : Int → Int} (r : CR h B L s) (o : SO B L s) (w : SkD h s V) (st : Str h) (n41 : ¬ (tK B L s.1 = 3 ∧ tW B L s.1 = 41)) : ∃ h', C_Re_readSetting 82 96 h = some (0, h') ∧ Fr pRk h h' ∧ CR h' B L (skL B L s V).1 ∧ SkD h' (skL B L s V).1 (skL B L s V).2 := by
  have i32 : C_Re_isWord 82 (-32) h = some (bI (tK B L s.1 = 3 ∧ tW B L s.1 = 42), h) := c_isw r.1 st o.1.1 o.1.2 (k := 22) (by decide)
  have i33 : C_Re_isWord 82 (-33) h = some (bI (tK B L s.1 = 3 ∧ tW B L s.1 = 43), h) := c_isw r.1 st o.1.1 o.1.2 (k := 23) (by decide)
  have i34 : C_Re_isWord 82 (-34) h = some (bI (tK B L s.1 = 3 ∧ tW B L s.1 = 44), h) := c_isw r.1 st o.1.1 o.1.2 (k := 24) (by decide)
  have i35 : C_Re_isWord 82 (-35) h = some (bI (tK B L s.1 = 3 ∧ tW B L s.1 = 45), h) := c_isw r.1 st o.1.1 o.1.2 (k := 25) (by decide)
  have i36 : C_Re_isWord 82 (-36) h = some (bI (tK B L s.1 = 3 ∧ tW B L s.1 = 46), h) := c_isw r.1 st o.1.1 o.1.2 (k := 26) (by decide)
  have off : skL B L s V = (brk B L s, V) → ∃ h', (if okF h 82 6 = true then (C_Re_breakOff 82 h).bind (fun x6 => (if okF x6.2 82 6 = true then (C_Re_endsSound 82 x6.2).bind (fun x7 => (some (0, x7.2) : Res)) else none)) else none) = some (0, h') ∧ Fr pRk h h' ∧ CR h' B L (skL B L s V).1 ∧ SkD h' (skL B L s V).1 (skL B L s V).2 := fun e => by
    obtain ⟨h1, g1, f1, r1⟩ := c_brk r
    obtain ⟨h2, g2, f2, r2⟩ := c_ens r1 (so_brk o).1
    rw [ens_1 brk_1] at r2
    rw [if_pos (cro r), g1, bind_some', if_pos (cro r1), g2, bind_some', e]
    refine ⟨h2, rfl, (f1.tr f2).to pRf_k, r2, w.rd (f1.tr f2) (fun z => ?_)⟩
    have : (brk B L s).2.1 = 0 := z
    rw [brk_1] at this
    omega
  rw [E_Re_readSetting, if_pos (cro r), i32, bind_some']
  by_cases k : tK B L s.1 = 3
  · have n1 : ¬ tW B L s.1 = 41 := fun x => n41 ⟨k, x⟩
    have e0 : skL B L s V = if tW B L s.1 = 42 then skS B L s V 1 0 1000 else if tW B L s.1 = 43 then skS B L s V 2 0 999 else if tW B L s.1 = 44 then skS B L s V 3 0 50 else if tW B L s.1 = 45 then skS B L s V 4 1 9999 else if tW B L s.1 = 46 then skS B L s V 5 1 24 else (brk B L s, V) := by unfold skL; rw [if_pos k, if_neg n1]
    by_cases w1 : tW B L s.1 = 42
    · rw [if_pos w1] at e0
      rw [bI_t ⟨k, w1⟩, if_neg n10, e0]
      exact k_set r o w k (Or.inl ⟨rfl, by decide, by decide⟩)
    rw [if_neg w1] at e0
    rw [bI_f (fun x => w1 x.2), if_pos rfl, if_pos (cro r), i33, bind_some']
    by_cases w2 : tW B L s.1 = 43
    · rw [if_pos w2] at e0
      rw [bI_t ⟨k, w2⟩, if_neg n10, e0]
      exact k_set r o w k (Or.inr (Or.inl ⟨rfl, by decide, by decide⟩))
    rw [if_neg w2] at e0
    rw [bI_f (fun x => w2 x.2), if_pos rfl, if_pos (cro r), i34, bind_some']
    by_cases w3 : tW B L s.1 = 44
    · rw [if_pos w3] at e0
      rw [bI_t ⟨k, w3⟩, if_neg n10, e0]
      exact k_set r o w k (Or.inr (Or.inr (Or.inl ⟨rfl, by decide, by decide⟩)))
    rw [if_neg w3] at e0
    rw [bI_f (fun x => w3 x.2), if_pos rfl, if_pos (cro r), i35, bind_some']
    by_cases w4 : tW B L s.1 = 45
    · rw [if_pos w4] at e0
      rw [bI_t ⟨k, w4⟩, if_neg n10, e0]
      exact k_set r o w k (Or.inr (Or.inr (Or.inr (Or.inl ⟨rfl, by decide, by decide⟩))))
    rw [if_neg w4] at e0
    rw [bI_f (fun x => w4 x.2), if_pos rfl, if_pos (cro r), i36, bind_some']
    by_cases w5 : tW B L s.1 = 46
    · rw [if_pos w5] at e0
      rw [bI_t ⟨k, w5⟩, if_neg n10, e0]
      exact k_set r o w k (Or.inr (Or.inr (Or.inr (Or.inr ⟨rfl, by decide, by decide⟩))))
    rw [if_neg w5] at e0
    rw [bI_f (fun x => w5 x.2), if_pos rfl]
    exact off e0
  · have e0 : skL B L s V = (brk B L s, V) := by unfold skL; rw [if_neg k]
    rw [bI_f (fun x => k x.1), if_pos rfl, if_pos (cro r), i33, bind_some', bI_f (fun x => k x.1), if_pos rfl, if_pos (cro r), i34, bind_some', bI_f (fun x => k x.1), if_pos rfl, if_pos (cro r), i35, bind_some', bI_f (fun x => k x.1), if_pos rfl, if_pos (cro r), i36, bind_some', bI_f (fun x => k x.1), if_pos rfl]
    exact off e0
/-- the end: a sky without lights is a fault -/
def skEn (B : Int → Int) (L : Int) (x : (Int × Int × Int) × (Int → Int)) : Int × Int × Int := if x.2 0 = 0 then nte B L 4 x.1 else x.1
theorem c_sky {B : Int → Int} {L : Int} : ∀ (n : Nat) (i : Int) (h : Hp) (s : Int × Int × Int) (V : Int → Int), CR h B L s → SO B L s → SkD h s V → Str h → 0 ≤ i → i + n = 500 → ∃ h', P_Re_readSky_6 82 96 i h = some (0, h') ∧ Fr pRk h h' ∧ CR h' B L (skEn B L (skI B L n (s, V))) ∧ SkD h' (skEn B L (skI B L n (s, V))) (skI B L n (s, V)).2 := by
  have fin : ∀ (h : Hp) (s : Int × Int × Int) (V : Int → Int), CR h B L s → SkD h s V → ∃ h', (if okF h 96 8 = true then (if (mR h 96 0) = 0 then (if okF h 82 6 = true then (C_Re_note 82 4 h).bind (fun x2 => (some (0, x2.2) : Res)) else none) else (some (0, h))) else none) = some (0, h') ∧ Fr pRk h h' ∧ CR h' B L (skEn B L (s, V)) ∧ SkD h' (skEn B L (s, V)) V := fun h s V r w => by
    unfold skEn
    rw [if_pos (okF_t w.1.2.1), w.2.1]
    by_cases z : V 0 = 0
    · obtain ⟨h1, g1, f1, r1⟩ := c_nte r 4
      rw [if_pos z, if_pos z, if_pos (cro r), g1, bind_some']
      exact ⟨h1, rfl, f1.to pRf_k, r1, w.rd f1 (fun y => absurd y (nte_0 (by decide)))⟩
    · rw [if_neg z, if_neg z]
      exact ⟨h, rfl, Fr.rf _ h, r, w⟩
  intro n
  induction n with
  | zero =>
    intro i h s V r o w st i0 hi
    rw [E_Re_readSky_6, if_neg (by omega)]
    exact fin h s V r w
  | succ n ih =>
    intro i h s V r o w st i0 hi
    have eI : skI B L (n + 1) (s, V) = if tK B L s.1 = 0 ∨ s.2.1 = 1 then (s, V) else skI B L n (skL B L s V) := rfl
    rw [eI, E_Re_readSky_6, if_pos (show i < 500 by omega), if_pos (cro r), c_goes r, bind_some']
    by_cases g : tK B L s.1 = 0 ∨ s.2.1 = 1
    · rw [bI_f (fun x => x g), if_pos rfl, if_pos g]
      exact fin h s V r w
    · have t0 : tK B L s.1 ≠ 0 := fun x => g (Or.inl x)
      have oL := so_skL o t0 V
      have i31 : C_Re_isWord 82 (-31) h = some (bI (tK B L s.1 = 3 ∧ tW B L s.1 = 41), h) := c_isw r.1 st o.1.1 o.1.2 (k := 21) (by decide)
      have go : ∀ h1, Fr pRk h h1 → CR h1 B L (skL B L s V).1 → SkD h1 (skL B L s V).1 (skL B L s V).2 → ∃ h', P_Re_readSky_6 82 96 (i + 1) h1 = some (0, h') ∧ Fr pRk h h' ∧ CR h' B L (skEn B L (skI B L n (skL B L s V))) ∧ SkD h' (skEn B L (skI B L n (skL B L s V))) (skI B L n (skL B L s V)).2 := fun h1 f1 r1 w1 => by
        obtain ⟨h2, g2, f2, r2, w2⟩ := ih (i + 1) h1 _ _ r1 oL w1 (st.fr f1 pRk_n) (by omega) (by omega)
        exact ⟨h2, g2, f1.tr f2, r2, w2⟩
      rw [bI_t g, if_neg n10, if_neg g, if_pos (cro r), i31, bind_some', w32_id (x := i + 1) (by omega) (by omega)]
      by_cases k : tK B L s.1 = 3 ∧ tW B L s.1 = 41
      · obtain ⟨h1, g1, f1, r1, v1⟩ := k_lights r o w k.1
        have e : skL B L s V = skG B L s V := by unfold skL; rw [if_pos k.1, if_pos k.2]
        rw [← e] at r1 v1
        rw [bI_t k, if_neg n10, if_pos (cro r), g1, bind_some']
        exact go h1 f1 r1 v1
      · obtain ⟨h1, g1, f1, r1, v1⟩ := k_setting r o w st k
        rw [bI_f k, if_pos rfl, if_pos (cro r), g1, bind_some']
        exact go h1 f1 r1 v1
