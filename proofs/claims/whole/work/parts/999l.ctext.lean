/-! A text told to the class. -/
theorem CIn.k {h h' : Hp} {T : Int → Int} {p : Int → Int → Prop} (w : CIn h T) (f : Fr p h h') (hp : ∀ b i, p b i → pW b i) (hq : ∀ b i, p b i → 80 < b) : CIn h' T := w.w (f.to hp) (w.2.2.of f.1 (fun b i b0 b1 => f.2 b i (fun q => by have := hq b i q; omega)))
def tx0 (T : Int → Int) : Int → Int := up1 (up1 (up1 T 4 0) 5 0) 6 (-1)
def txF (T : Int → Int) (s : Int × Int × Int) : Int → Int := up1 (up1 (tx0 T) 5 s.2.1) 6 s.2.2
def txA (k : Int) (s : Int × Int × Int) : Int := if s.2.1 = 0 then k else -1
def txT (T P : Int → Int) (s : Int × Int × Int) : Int → Int := if s.2.1 = 0 then P else txF T s
def txB (T : Int → Int) : Int → Int := fun j => T (10 + j)
noncomputable def tlC (a k : Int) (x : Hp) : Res := (if okF x 1 11 = true then (if okF x (mR x 1 2) 6 = true then (if (mR x (mR x 1 2) 6) = 0 then (if okF x 1 11 = true then (C_LS_keepDraft 1 a k x).bind (fun x15 => (some (k, x15.2))) else none) else (if okF x 1 11 = true then (if okF x 1 11 = true then (if okF x (mR x 1 2) 6 = true then (if okF x (mR x 1 0) 10 = true then hb (mW x (mR x 1 0) 2 (mR x (mR x 1 2) 6)) (fun h16 => (if okF h16 1 11 = true then (if okF h16 1 11 = true then (if okF h16 (mR h16 1 2) 6 = true then (if okF h16 (mR h16 1 0) 10 = true then hb (mW h16 (mR h16 1 0) 3 (mR h16 (mR h16 1 2) 7)) (fun h17 => (some ((-1), h17))) else none) else none) else none) else none)) else none) else none) else none) else none)) else none) else none)
noncomputable def bdC (a k : Int) (h : Hp) : Res := if a = 0 then (if okF h 1 11 = true then (if okF h 1 11 = true then (if okF h (mR h 1 2) 6 = true then (C_Re_readCatalogue (mR h 1 2) (mR h 1 3) h).bind (fun x => tlC a k x.2) else none) else none) else none) else (if a = 1 then (if okF h 1 11 = true then (if okF h 1 11 = true then (if okF h (mR h 1 2) 6 = true then (C_Re_readHouse (mR h 1 2) (mR h 1 4) h).bind (fun x => tlC a k x.2) else none) else none) else none) else (if okF h 1 11 = true then (if okF h 1 11 = true then (if okF h (mR h 1 2) 6 = true then (C_Re_readSky (mR h 1 2) (mR h 1 5) h).bind (fun x => tlC a k x.2) else none) else none) else none))
noncomputable def txK (T : Int → Int) (a b : Int) : Int := if 0 ≤ a ∧ a ≤ 2 then zPl (tx0 T a) (if a = 1 then 6 else 3) b else -1
theorem c_t0 {h : Hp} {T : Int → Int} (w : CIn h T) (a b : Int) : (txK T a b = -1 → ∃ h', C_LS_text 1 a b h = some (-2, h') ∧ Fr pW h h' ∧ CIn h' (tx0 T)) ∧ (txK T a b ≠ -1 → ∃ h', C_LS_text 1 a b h = bdC a (txK T a b) h' ∧ Fr pW h h' ∧ CIn h' (tx0 T) ∧ CR h' (txB T) (T 4) (0, 0, -1)) := by
  have o1 : okF h 1 11 = true := okF_t w.1.1
  have e0 : mR h 1 0 = 2 := w.1.2.1.1
  have o2 : okF h 2 10 = true := okF_t w.2.1.2.1
  have eL : mR h 2 1 = T 4 := w.2.2.1.1
  have t7 := w.2.2.2.2.2.2.2.2.1
  have t6 := w.2.2.2.2.2.2.2.1
  let k1 := mW h 2 1 0
  let k2 := mW k1 2 2 0
  let k3 := mW k2 2 3 (-1)
  have f3 : Fr (fun b i => b = 2 ∧ 1 ≤ i ∧ i ≤ 3) h k3 := ((Fr.W h 0 ⟨rfl, by decide, by decide⟩).tr (Fr.W k1 0 ⟨rfl, by decide, by decide⟩)).tr (Fr.W k2 (-1) ⟨rfl, by decide, by decide⟩)
  have f3w : Fr pW h k3 := f3.to (fun b i q => by unfold pW; omega)
  have x4 : tx0 T 4 = 0 := by unfold tx0; rw [up1_n (by decide), up1_n (by decide), up1_s]
  have x5 : tx0 T 5 = 0 := by unfold tx0; rw [up1_n (by decide), up1_s]
  have x6 : tx0 T 6 = -1 := up1_s _ _ _
  have c3 : CIn k3 (tx0 T) := by
    refine w.w f3w (TCo_top w.2.2 f3.1 (fun b i _ _ q => f3.2 b i q) (fun i q => ?_) ⟨?_, ?_, ?_⟩ ?_)
    · unfold tx0; rw [up1_n (by omega), up1_n (by omega), up1_n (by omega)]
    · rw [x4]; show mR (mW (mW (mW h 2 1 0) 2 2 0) 2 3 (-1)) 2 1 = _; rw [mR_ni (by decide), mR_ni (by decide), mR_same]
    · rw [x5]; show mR (mW (mW (mW h 2 1 0) 2 2 0) 2 3 (-1)) 2 2 = _; rw [mR_ni (by decide), mR_same]
    · rw [x6]; exact mR_same _ _ _ _
    · rw [x4]; omega
  have p1 : okF k3 1 11 = true := okF_t c3.1.1
  have p2 : okF k3 2 10 = true := okF_t c3.2.1.2.1
  have q0 : mR k3 1 0 = 2 := c3.1.2.1.1
  have q2 : mR k3 1 2 = 82 := c3.1.2.1.2.2.1
  have k82 := c3.1.2.2.2.2.2.2.2.2.2.2.2.2.2.1
  have pl := s_place (T := tx0 T) p2 c3.2.2.1.2.2.2.1 c3.2.2.1.2.2.2.2.1 c3.2.2.1.2.2.2.2.2.1 a b
  have pl' : C_To_placeFor 2 a b k3 = some (txK T a b, k3) := pl
  have st : C_LS_text 1 a b h = (if txK T a b = -1 then some (-2, k3) else (if okF k3 1 11 = true then (if okF k3 1 11 = true then (if okF k3 (mR k3 1 0) 10 = true then (if okF k3 (mR k3 1 2) 6 = true then (C_Re_open (mR k3 1 2) (mR k3 (mR k3 1 0) 0) (T 4) k3).bind (fun x5 => bdC a (txK T a b) x5.2) else none) else none) else none) else none)) := by
    rw [E_LS_text, if_pos o1, e0, if_pos o2, if_pos o1, if_pos o2, eL, hb_eq]
    show (if okF k1 1 11 = true then (if okF k1 (mR k1 1 0) 10 = true then _ else _) else _) = _
    rw [if_pos (show okF k1 1 11 = true from o1), show mR k1 1 0 = 2 from e0, if_pos (show okF k1 2 10 = true from o2), hb_eq]
    show (if okF k2 1 11 = true then (if okF k2 (mR k2 1 0) 10 = true then _ else _) else _) = _
    rw [if_pos (show okF k2 1 11 = true from o1), show mR k2 1 0 = 2 from e0, if_pos (show okF k2 2 10 = true from o2), hb_eq]
    show (if okF k3 1 11 = true then (if okF k3 (mR k3 1 0) 10 = true then _ else _) else _) = _
    rw [if_pos p1, q0, if_pos p2, pl', bind_some']
    dsimp only
    rw [q0]
    rfl
  refine ⟨fun z => ⟨k3, by rw [st, if_pos z], f3w, c3⟩, fun z => ?_⟩
  obtain ⟨h5, g5, f5, r5⟩ := c_opn (B := txB T) (L := T 4) k82.1 k82.2 c3.1.2.2.2.2.2.2.2.2.2.2.2.2.2.2 c3.2.1.2.2.2.1 ⟨t6, fun j j0 j1 => (t7 j j0 j1).2⟩ (fun j j0 j1 => (f3.2 3 j (by omega)).trans (t7 j j0 j1).1)
  refine ⟨h5, ?_, f3w.tr (f5.to (fun b i q => by unfold pW; omega)), c3.k f5 (fun b i q => by unfold pW; omega) (fun b i q => by omega), r5⟩
  rw [st, if_neg z, if_pos p1, if_pos p1, q0, if_pos p2, q2, if_pos (show okF k3 82 6 = true from okF_t k82.1), show mR k3 2 0 = 3 from c3.2.1.2.2.1.1, g5, bind_some']
/-- what follows the reading -/
theorem c_tlF {h : Hp} {T : Int → Int} {s : Int × Int × Int} (a k : Int) (w : CIn h (tx0 T)) (e6 : mR h 82 6 = s.2.1) (e7 : mR h 82 7 = s.2.2) (n : s.2.1 ≠ 0) : ∃ h', tlC a k h = some (-1, h') ∧ Fr pW h h' ∧ CIn h' (txF T s) := by
  have o1 : okF h 1 11 = true := okF_t w.1.1
  have e0 : mR h 1 0 = 2 := w.1.2.1.1
  have e2 : mR h 1 2 = 82 := w.1.2.1.2.2.1
  have o2 : okF h 2 10 = true := okF_t w.2.1.2.1
  have k82 := w.1.2.2.2.2.2.2.2.2.2.2.2.2.2.1
  have o82 : okF h 82 6 = true := okF_t k82.1
  let k1 := mW h 2 2 s.2.1
  let k2 := mW k1 2 3 s.2.2
  have f2 : Fr (fun b i => b = 2 ∧ 2 ≤ i ∧ i ≤ 3) h k2 := (Fr.W h _ ⟨rfl, by decide, by decide⟩).tr (Fr.W k1 _ ⟨rfl, by decide, by decide⟩)
  have f2w : Fr pW h k2 := f2.to (fun b i q => by unfold pW; omega)
  have x4 : tx0 T 4 = 0 := by unfold tx0; rw [up1_n (by decide), up1_n (by decide), up1_s]
  have y4 : txF T s 4 = 0 := by unfold txF; rw [up1_n (by decide), up1_n (by decide), x4]
  refine ⟨k2, ?_, f2w, w.w f2w (TCo_top w.2.2 f2.1 (fun b i _ _ q => f2.2 b i (by omega)) (fun i q => ?_) ⟨?_, ?_, ?_⟩ ?_)⟩
  · unfold tlC
    rw [if_pos o1, e2, if_pos o82, e6, if_neg n, if_pos o1, if_pos o1, if_pos o82, e0, if_pos o2, hb_eq]
    show (if okF k1 1 11 = true then (if okF k1 1 11 = true then (if okF k1 (mR k1 1 2) 6 = true then (if okF k1 (mR k1 1 0) 10 = true then hb (mW k1 (mR k1 1 0) 3 (mR k1 (mR k1 1 2) 7)) _ else _) else _) else _) else _) = _
    rw [if_pos (show okF k1 1 11 = true from o1), if_pos (show okF k1 1 11 = true from o1), show mR k1 1 2 = 82 from e2, if_pos (show okF k1 82 6 = true from o82), show mR k1 1 0 = 2 from e0, if_pos (show okF k1 2 10 = true from o2), show mR k1 82 7 = s.2.2 from e7, hb_eq]
  · unfold txF; rw [up1_n (by omega), up1_n (by omega)]
  · rw [y4, f2.2 2 1 (by omega), w.2.2.1.1, x4]
  · show mR (mW (mW h 2 2 s.2.1) 2 3 s.2.2) 2 2 = _; rw [mR_ni (by decide), mR_same]; unfold txF; rw [up1_n (by decide), up1_s]
  · show mR (mW (mW h 2 2 s.2.1) 2 3 s.2.2) 2 3 = _; rw [mR_same]; unfold txF; rw [up1_s]
  · rw [y4, x4]; omega
theorem c_tlK {h : Hp} {T : Int → Int} (a k : Int) (w : CIn h T) (e6 : mR h 82 6 = 0) : tlC a k h = (C_LS_keepDraft 1 a k h).bind (fun x => some (k, x.2)) := by
  have o1 : okF h 1 11 = true := okF_t w.1.1
  have e2 : mR h 1 2 = 82 := w.1.2.1.2.2.1
  have o82 : okF h 82 6 = true := okF_t w.1.2.2.2.2.2.2.2.2.2.2.2.2.2.1.1
  unfold tlC
  rw [if_pos o1, e2, if_pos o82, e6, if_pos rfl, if_pos o1]
noncomputable def rd0 (T : Int → Int) := ctI (txB T) (T 4) 500 ((0, 0, -1), zZ)
noncomputable def rd1 (T : Int → Int) := hsI (txB T) (T 4) 500 ((0, 0, -1), zZ)
noncomputable def rd2 (T : Int → Int) := skI (txB T) (T 4) 500 ((0, 0, -1), sV0)
noncomputable def rs2 (T : Int → Int) := skEn (txB T) (T 4) (rd2 T)
theorem SO_0 {B : Int → Int} {L : Int} (l : 0 ≤ L) : SO B L (0, 0, -1) := ⟨⟨Int.le_refl _, l⟩, ⟨Int.le_refl _, by show (0 : Int) ≤ 3; decide⟩, fun q => absurd rfl q⟩
theorem q_tx0 {h : Hp} {T : Int → Int} (w : CIn h T) (st : Str h) (b : Int) (n : txK T 0 b ≠ -1) : ∃ h', C_LS_text 1 0 b h = some (txA (txK T 0 b) (rd0 T).1, h') ∧ Fr pW h h' ∧ CIn h' (txT T (tPut0 (tx0 T) (vCut (rd0 T).2 330) (txK T 0 b)) (rd0 T).1) := by
  have t6 := w.2.2.2.2.2.2.2.1
  obtain ⟨h1, g1, f1, c1, r1⟩ := (c_t0 w 0 b).2 n
  have s1 : Str h1 := st.fr f1 (fun b i q => by unfold pW; omega)
  obtain ⟨h2, g2, f2, d2⟩ := s_clear c1.1.2.2.1 (by omega)
  have c2 : CIn h2 (tx0 T) := c1.k f2 (fun b i q => by unfold pCa at q; unfold pW; omega) (fun b i q => by unfold pCa at q; omega)
  have s2 : Str h2 := s1.fr f2 (fun b i q => by unfold pCa; omega)
  have r2 : CR h2 (txB T) (T 4) (0, 0, -1) := r1.ne f2 (fun b i q => by unfold pCa; omega)
  obtain ⟨h3, g3, f3, r3, d3⟩ := c_cat 500 0 h2 (0, 0, -1) zZ r2 (SO_0 t6.1) d2 s2 (by decide) (by decide)
  have c3 : CIn h3 (tx0 T) := c2.k f3 (fun b i q => by unfold pRc pRf pCa at q; unfold pW; omega) (fun b i q => by unfold pRc pRf pCa at q; omega)
  have ff : Fr pW h h3 := (f1.tr (f2.to (fun b i q => by unfold pCa at q; unfold pW; omega))).tr (f3.to (fun b i q => by unfold pRc pRf pCa at q; unfold pW; omega))
  have e : C_LS_text 1 0 b h = tlC 0 (txK T 0 b) h3 := by
    rw [g1]
    unfold bdC
    rw [if_pos rfl, if_pos (show okF h1 1 11 = true from okF_t c1.1.1), if_pos (show okF h1 1 11 = true from okF_t c1.1.1), show mR h1 1 2 = 82 from c1.1.2.1.2.2.1, if_pos (show okF h1 82 6 = true from okF_t c1.1.2.2.2.2.2.2.2.2.2.2.2.2.2.1.1), show mR h1 1 3 = 84 from c1.1.2.1.2.2.2.1, E_Re_readCatalogue, if_pos (cF c1.1.2.2.1), g2, bind_some', g3, bind_some']
  have e6 : mR h3 82 6 = (rd0 T).1.2.1 := r3.2.1
  have e7 : mR h3 82 7 = (rd0 T).1.2.2 := r3.2.2
  have d3' : CatD h3 84 (rd0 T).2 := d3
  clear r3 d3
  rw [e]
  unfold txA txT
  by_cases z : (rd0 T).1.2.1 = 0
  · rw [if_pos z, if_pos z]
    have pb : 0 ≤ txK T 0 b ∧ txK T 0 b < 3 ∧ txK T 0 b ≤ tx0 T 0 := by
      have ek : txK T 0 b = zPl (tx0 T 0) 3 b := by unfold txK; rw [if_pos (by omega), if_neg (by decide)]
      rw [ek] at n ⊢
      have := zPl_b (n := tx0 T 0) (m := 3) (a := b) c1.2.2.2.1.1 c1.2.2.2.1.2
      omega
    obtain ⟨h4, g4, f4, c4⟩ := s_put0 c3 pb.1 pb.2.1 pb.2.2 (CatC_cg d3'.1 (V' := vCut (rd0 T).2 330) (fun o o0 o1 => vCut_e o0 o1)) (fun o q => vCut_z q)
    refine ⟨h4, ?_, ff.tr f4, c4⟩
    rw [c_tlK 0 _ c3 (e6.trans z), E_LS_keepDraft, if_pos rfl, if_pos (show okF h3 1 11 = true from okF_t c3.1.1), if_pos (show okF h3 1 11 = true from okF_t c3.1.1), show mR h3 1 0 = 2 from c3.1.2.1.1, if_pos (show okF h3 2 10 = true from okF_t c3.2.1.2.1), show mR h3 1 3 = 84 from c3.1.2.1.2.2.2.1, g4, bind_some', bind_some']
  · rw [if_neg z, if_neg z]
    obtain ⟨h4, g4, f4, c4⟩ := c_tlF (T := T) 0 (txK T 0 b) c3 e6 e7 z
    exact ⟨h4, g4, ff.tr f4, c4⟩
theorem q_tx1 {h : Hp} {T : Int → Int} (w : CIn h T) (st : Str h) (b : Int) (n : txK T 1 b ≠ -1) : ∃ h', C_LS_text 1 1 b h = some (txA (txK T 1 b) (rd1 T).1, h') ∧ Fr pW h h' ∧ CIn h' (txT T (tPut1 (tx0 T) (vCut (rd1 T).2 26) (txK T 1 b)) (rd1 T).1) := by
  have t6 := w.2.2.2.2.2.2.2.1
  obtain ⟨h1, g1, f1, c1, r1⟩ := (c_t0 w 1 b).2 n
  have s1 : Str h1 := st.fr f1 (fun b i q => by unfold pW; omega)
  obtain ⟨h2, g2, f2, d2⟩ := s_hclear c1.1.2.2.2.1
  have c2 : CIn h2 (tx0 T) := c1.k f2 (fun b i q => by unfold pH at q; unfold pW; omega) (fun b i q => by unfold pH at q; omega)
  have s2 : Str h2 := s1.fr f2 (fun b i q => by unfold pH; omega)
  have r2 : CR h2 (txB T) (T 4) (0, 0, -1) := r1.ne f2 (fun b i q => by unfold pH; omega)
  obtain ⟨h3, g3, f3, r3, d3⟩ := c_hou 500 0 h2 (0, 0, -1) zZ r2 (SO_0 t6.1) d2 s2 (by decide) (by decide)
  have c3 : CIn h3 (tx0 T) := c2.k f3 (fun b i q => by unfold pRh pRf pH at q; unfold pW; omega) (fun b i q => by unfold pRh pRf pH at q; omega)
  have ff : Fr pW h h3 := (f1.tr (f2.to (fun b i q => by unfold pH at q; unfold pW; omega))).tr (f3.to (fun b i q => by unfold pRh pRf pH at q; unfold pW; omega))
  have e : C_LS_text 1 1 b h = tlC 1 (txK T 1 b) h3 := by
    rw [g1]
    unfold bdC
    rw [if_neg n10, if_pos rfl, if_pos (show okF h1 1 11 = true from okF_t c1.1.1), if_pos (show okF h1 1 11 = true from okF_t c1.1.1), show mR h1 1 2 = 82 from c1.1.2.1.2.2.1, if_pos (show okF h1 82 6 = true from okF_t c1.1.2.2.2.2.2.2.2.2.2.2.2.2.2.1.1), show mR h1 1 4 = 92 from c1.1.2.1.2.2.2.2.1, E_Re_readHouse, if_pos (hF c1.1.2.2.2.1), g2, bind_some', g3, bind_some']
  have e6 : mR h3 82 6 = (rd1 T).1.2.1 := r3.2.1
  have e7 : mR h3 82 7 = (rd1 T).1.2.2 := r3.2.2
  have d3' : HouC h3 92 (rd1 T).2 := d3
  clear r3 d3
  rw [e]
  unfold txA txT
  by_cases z : (rd1 T).1.2.1 = 0
  · rw [if_pos z, if_pos z]
    have pb : 0 ≤ txK T 1 b ∧ txK T 1 b < 6 ∧ txK T 1 b ≤ tx0 T 1 := by
      have ek : txK T 1 b = zPl (tx0 T 1) 6 b := by unfold txK; rw [if_pos (by omega), if_pos rfl]
      rw [ek] at n ⊢
      have := zPl_b (n := tx0 T 1) (m := 6) (a := b) c1.2.2.2.2.1.1 c1.2.2.2.2.1.2
      omega
    obtain ⟨h4, g4, f4, c4⟩ := s_put1 c3 pb.1 pb.2.1 pb.2.2 (HouC_cg d3' (V' := vCut (rd1 T).2 26) (fun o o0 o1 => vCut_e o0 o1)) (fun o q => vCut_z q)
    refine ⟨h4, ?_, ff.tr f4, c4⟩
    rw [c_tlK 1 _ c3 (e6.trans z), E_LS_keepDraft, if_neg n10, if_pos rfl, if_pos (show okF h3 1 11 = true from okF_t c3.1.1), if_pos (show okF h3 1 11 = true from okF_t c3.1.1), show mR h3 1 0 = 2 from c3.1.2.1.1, if_pos (show okF h3 2 10 = true from okF_t c3.2.1.2.1), show mR h3 1 4 = 92 from c3.1.2.1.2.2.2.2.1, g4, bind_some', bind_some']
  · rw [if_neg z, if_neg z]
    obtain ⟨h4, g4, f4, c4⟩ := c_tlF (T := T) 1 (txK T 1 b) c3 e6 e7 z
    exact ⟨h4, g4, ff.tr f4, c4⟩
theorem rs2_f {T : Int → Int} (q : (rd2 T).2 0 = 0) : (rs2 T).2.1 ≠ 0 := by
  unfold rs2 skEn
  rw [if_pos q]
  unfold nte
  by_cases z : (rd2 T).1.2.1 = 0
  · rw [if_pos z]
    show (4 : Int) ≠ 0
    decide
  · rw [if_neg z]; exact z
theorem q_tx2 {h : Hp} {T : Int → Int} (w : CIn h T) (st : Str h) (b : Int) (n : txK T 2 b ≠ -1) : ∃ h', C_LS_text 1 2 b h = some (txA (txK T 2 b) (rs2 T), h') ∧ Fr pW h h' ∧ CIn h' (txT T (tPut2 (tx0 T) (vCut (rd2 T).2 18) (txK T 2 b)) (rs2 T)) := by
  have t6 := w.2.2.2.2.2.2.2.1
  obtain ⟨h1, g1, f1, c1, r1⟩ := (c_t0 w 2 b).2 n
  have s1 : Str h1 := st.fr f1 (fun b i q => by unfold pW; omega)
  obtain ⟨h2, g2, f2, d2⟩ := s_kclear c1.1.2.2.2.2.1 (0, 0, -1)
  have c2 : CIn h2 (tx0 T) := c1.k f2 (fun b i q => by unfold pSk at q; unfold pW; omega) (fun b i q => by unfold pSk at q; omega)
  have s2 : Str h2 := s1.fr f2 (fun b i q => by unfold pSk; omega)
  have r2 : CR h2 (txB T) (T 4) (0, 0, -1) := r1.ne f2 (fun b i q => by unfold pSk; omega)
  obtain ⟨h3, g3, f3, r3, d3⟩ := c_sky 500 0 h2 (0, 0, -1) sV0 r2 (SO_0 t6.1) d2 s2 (by decide) (by decide)
  have c3 : CIn h3 (tx0 T) := c2.k f3 (fun b i q => by unfold pRk pRf pSk at q; unfold pW; omega) (fun b i q => by unfold pRk pRf pSk at q; omega)
  have ff : Fr pW h h3 := (f1.tr (f2.to (fun b i q => by unfold pSk at q; unfold pW; omega))).tr (f3.to (fun b i q => by unfold pRk pRf pSk at q; unfold pW; omega))
  have e : C_LS_text 1 2 b h = tlC 2 (txK T 2 b) h3 := by
    rw [g1]
    unfold bdC
    rw [if_neg (show ¬ (2 : Int) = 0 by decide), if_neg (show ¬ (2 : Int) = 1 by decide), if_pos (show okF h1 1 11 = true from okF_t c1.1.1), if_pos (show okF h1 1 11 = true from okF_t c1.1.1), show mR h1 1 2 = 82 from c1.1.2.1.2.2.1, if_pos (show okF h1 82 6 = true from okF_t c1.1.2.2.2.2.2.2.2.2.2.2.2.2.2.1.1), show mR h1 1 5 = 96 from c1.1.2.1.2.2.2.2.2.1, E_Re_readSky, if_pos (show okF h1 96 8 = true from okF_t c1.1.2.2.2.2.1.2.1), g2, bind_some', g3, bind_some']
  have e6 : mR h3 82 6 = (rs2 T).2.1 := r3.2.1
  have e7 : mR h3 82 7 = (rs2 T).2.2 := r3.2.2
  have d3' : SkD h3 (rs2 T) (rd2 T).2 := d3
  clear r3 d3
  rw [e]
  unfold txA txT
  by_cases z : (rs2 T).2.1 = 0
  · rw [if_pos z, if_pos z]
    have pb : 0 ≤ txK T 2 b ∧ txK T 2 b < 3 ∧ txK T 2 b ≤ tx0 T 2 := by
      have ek : txK T 2 b = zPl (tx0 T 2) 3 b := by unfold txK; rw [if_pos (by omega), if_neg (by decide)]
      rw [ek] at n ⊢
      have := zPl_b (n := tx0 T 2) (m := 3) (a := b) c1.2.2.2.2.2.1.1 c1.2.2.2.2.2.1.2
      omega
    have nz : (rd2 T).2 0 ≠ 0 := fun q => rs2_f q z
    obtain ⟨h4, g4, f4, c4⟩ := s_put2 c3 pb.1 pb.2.1 pb.2.2 (SkyC_of d3' z nz (V' := vCut (rd2 T).2 18) (fun o o0 o1 => vCut_e o0 o1)) (fun o q => vCut_z q)
    refine ⟨h4, ?_, ff.tr f4, c4⟩
    rw [c_tlK 2 _ c3 (e6.trans z), E_LS_keepDraft, if_neg (show ¬ (2 : Int) = 0 by decide), if_neg (show ¬ (2 : Int) = 1 by decide), if_pos (show okF h3 1 11 = true from okF_t c3.1.1), if_pos (show okF h3 1 11 = true from okF_t c3.1.1), show mR h3 1 0 = 2 from c3.1.2.1.1, if_pos (show okF h3 2 10 = true from okF_t c3.2.1.2.1), show mR h3 1 5 = 96 from c3.1.2.1.2.2.2.2.2.1, g4, bind_some', bind_some']
  · rw [if_neg z, if_neg z]
    obtain ⟨h4, g4, f4, c4⟩ := c_tlF (T := T) 2 (txK T 2 b) c3 e6 e7 z
    exact ⟨h4, g4, ff.tr f4, c4⟩
