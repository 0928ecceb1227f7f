/-! Asking: which numbers name a thing, and looking at it, on both sides. -/
theorem iv1 {h : Hp} {T : Int → Int} (w : Inv h T) : okF h 1 11 = true := okF_t w.1.1
theorem iv10 {h : Hp} {T : Int → Int} (w : Inv h T) : mR h 1 0 = 2 := w.1.2.1.1
theorem iv16 {h : Hp} {T : Int → Int} (w : Inv h T) : mR h 1 6 = 99 := w.1.2.1.2.2.2.2.2.2.1
theorem iv2 {h : Hp} {T : Int → Int} (w : Inv h T) : okF h 2 10 = true := okF_t w.2.1.2.1
theorem iv28 {h : Hp} {T : Int → Int} (w : Inv h T) : mR h 2 8 = 4 := w.2.1.2.2.1.2.1
theorem iv29 {h : Hp} {T : Int → Int} (w : Inv h T) : mR h 2 9 = 5 := w.2.1.2.2.1.2.2.1
theorem iv24 {h : Hp} {T : Int → Int} (w : Inv h T) : mR h 2 4 = T 0 := w.2.2.1.1.2.2.2.1
theorem iv25 {h : Hp} {T : Int → Int} (w : Inv h T) : mR h 2 5 = T 1 := w.2.2.1.1.2.2.2.2.1
theorem iv26 {h : Hp} {T : Int → Int} (w : Inv h T) : mR h 2 6 = T 2 := w.2.2.1.1.2.2.2.2.2.1
theorem ivn {h : Hp} {T : Int → Int} (w : Inv h T) : (0 ≤ T 0 ∧ T 0 ≤ 3) ∧ (0 ≤ T 1 ∧ T 1 ≤ 6) ∧ (0 ≤ T 2 ∧ T 2 ≤ 3) ∧ (0 ≤ T 3 ∧ T 3 ≤ 16) := ⟨w.2.2.1.2.1, w.2.2.1.2.2.1, w.2.2.1.2.2.2.1, w.2.2.1.2.2.2.2.1⟩
theorem ivR4 {h : Hp} {T : Int → Int} (w : Inv h T) {k : Int} (k0 : 0 ≤ k) (k1 : k < 3) : okR h 4 k = true := okR_t (k := 111) w.2.1.2.2.2.2.1 (by decide) (by decide) (by decide) k0 k1
theorem ivR5 {h : Hp} {T : Int → Int} (w : Inv h T) {k : Int} (k0 : 0 ≤ k) (k1 : k < 6) : okR h 5 k = true := okR_t (k := 112) w.2.1.2.2.2.2.2.1 (by decide) (by decide) (by decide) k0 k1
theorem iv4 {h : Hp} {T : Int → Int} (w : Inv h T) {k : Int} (k0 : 0 ≤ k) (k1 : k < 3) : mR h 4 k = 8 + 8 * k := (w.2.1.2.2.2.2.2.2.2.2.1 k k0 k1).1
theorem iv5 {h : Hp} {T : Int → Int} (w : Inv h T) {k : Int} (k0 : 0 ≤ k) (k1 : k < 6) : mR h 5 k = 32 + 4 * k := (w.2.1.2.2.2.2.2.2.2.2.2.1 k k0 k1).1
theorem ivS {h : Hp} {T : Int → Int} (w : Inv h T) : okF h 99 9 = true := sF w.1.2.2.2.2.2.1
def catT (T : Int → Int) (k : Int) : Int → Int := slc T (520 + 330 * k) 330
def houT (T : Int → Int) (k : Int) : Int → Int := slc T (1510 + 26 * k) 26
theorem catE {T : Int → Int} {k o : Int} (h0 : 0 ≤ o) (h1 : o < 330) : T (520 + 330 * k + o) = catT T k o := slc_e h0 h1
theorem houE {T : Int → Int} {k o : Int} (h0 : 0 ≤ o) (h1 : o < 26) : T (1510 + 26 * k + o) = houT T k o := slc_e h0 h1
theorem ivC {h : Hp} {T : Int → Int} (w : Inv h T) {k : Int} (k0 : 0 ≤ k) (k1 : k < T 0) : CatC h (8 + 8 * k) (catT T k) := w.2.2.1.2.2.2.2.2.2.2.1 k k0 k1
theorem ivH {h : Hp} {T : Int → Int} (w : Inv h T) {k : Int} (k0 : 0 ≤ k) (k1 : k < T 1) : HouC h (32 + 4 * k) (houT T k) := w.2.2.1.2.2.2.2.2.2.2.2.1 k k0 k1
noncomputable def bI (x : Prop) : Int := @ite _ x (Classical.propDecidable x) 1 0
theorem bI_t {x : Prop} (q : x) : bI x = 1 := if_pos q
theorem bI_f {x : Prop} (q : ¬ x) : bI x = 0 := if_neg q
theorem s_isCat {h : Hp} {T : Int → Int} (w : Inv h T) (k : Int) : C_LS_isCatalogue 1 k h = some (bI (0 ≤ k ∧ k < T 0), h) := by
  rw [E_LS_isCatalogue]
  simp only [iv1 w, iv10 w, iv16 w, iv2 w, iv28 w, iv29 w, iv24 w, iv25 w, iv26 w, ivR4 w, ivR5 w, iv4 w, iv5 w, ivS w, ↓reduceIte, bind_some', hb_eq]
  by_cases q : k < 0
  · rw [if_pos q, bI_f (by omega)]
  · rw [if_neg q]
    by_cases q2 : k < T 0
    · rw [if_pos q2, bI_t (by omega)]
    · rw [if_neg q2, bI_f (by omega)]
theorem s_isHou {h : Hp} {T : Int → Int} (w : Inv h T) (k : Int) : C_LS_isHouse 1 k h = some (bI (0 ≤ k ∧ k < T 1), h) := by
  rw [E_LS_isHouse]
  simp only [iv1 w, iv10 w, iv16 w, iv2 w, iv28 w, iv29 w, iv24 w, iv25 w, iv26 w, ivR4 w, ivR5 w, iv4 w, iv5 w, ivS w, ↓reduceIte, bind_some', hb_eq]
  by_cases q : k < 0
  · rw [if_pos q, bI_f (by omega)]
  · rw [if_neg q]
    by_cases q2 : k < T 1
    · rw [if_pos q2, bI_t (by omega)]
    · rw [if_neg q2, bI_f (by omega)]
theorem s_isYear (h : Hp) (k : Int) : C_LS_isYear k h = some (bI (0 ≤ k ∧ k < 100), h) := by
  rw [E_LS_isYear]
  by_cases q : k < 0
  · rw [if_pos q, bI_f (by omega)]
  · rw [if_neg q]
    by_cases q2 : k < 100
    · rw [if_pos q2, bI_t (by omega)]
    · rw [if_neg q2, bI_f (by omega)]
theorem s_isThing {h : Hp} {T : Int → Int} (w : Inv h T) (k t : Int) : C_LS_isThing 1 k t h = some (bI ((0 ≤ k ∧ k < T 0) ∧ 0 ≤ t ∧ t < catT T k 1), h) := by
  have n := ivn w
  rw [E_LS_isThing]
  simp only [iv1 w, iv10 w, iv16 w, iv2 w, iv28 w, iv29 w, iv24 w, iv25 w, iv26 w, ivR4 w, ivR5 w, iv4 w, iv5 w, ivS w, ↓reduceIte, bind_some', hb_eq, s_isCat w]
  by_cases q : 0 ≤ k ∧ k < T 0
  · have c := (ivC w q.1 q.2).1
    rw [bI_t q, if_neg (by decide)]
    by_cases q1 : t < 0
    · rw [if_pos q1, bI_f (by omega)]
    · rw [if_neg q1]
      simp (disch := omega) only [iv1 w, iv10 w, iv16 w, iv2 w, iv28 w, iv29 w, iv24 w, iv25 w, iv26 w, ivR4 w, ivR5 w, iv4 w, iv5 w, ivS w, ↓reduceIte, bind_some', hb_eq, cF c.1, c.2.2.2.1]
      by_cases q2 : t < catT T k 1
      · rw [if_pos q2, bI_t (by omega)]
      · rw [if_neg q2, bI_f (by omega)]
  · rw [bI_f q, if_pos rfl, bI_f (fun z => q z.1)]
theorem s_isRung {h : Hp} {T : Int → Int} (w : Inv h T) (k t : Int) : C_LS_isRung 1 k t h = some (bI ((0 ≤ k ∧ k < T 0) ∧ 0 ≤ t ∧ t < catT T k 0), h) := by
  have n := ivn w
  rw [E_LS_isRung]
  simp only [iv1 w, iv10 w, iv16 w, iv2 w, iv28 w, iv29 w, iv24 w, iv25 w, iv26 w, ivR4 w, ivR5 w, iv4 w, iv5 w, ivS w, ↓reduceIte, bind_some', hb_eq, s_isCat w]
  by_cases q : 0 ≤ k ∧ k < T 0
  · have c := (ivC w q.1 q.2).1
    rw [bI_t q, if_neg (by decide)]
    by_cases q1 : t < 0
    · rw [if_pos q1, bI_f (by omega)]
    · rw [if_neg q1]
      simp (disch := omega) only [iv1 w, iv10 w, iv16 w, iv2 w, iv28 w, iv29 w, iv24 w, iv25 w, iv26 w, ivR4 w, ivR5 w, iv4 w, iv5 w, ivS w, ↓reduceIte, bind_some', hb_eq, cF c.1, c.2.2.1]
      by_cases q2 : t < catT T k 0
      · rw [if_pos q2, bI_t (by omega)]
      · rw [if_neg q2, bI_f (by omega)]
  · rw [bI_f q, if_pos rfl, bI_f (fun z => q z.1)]
def okL (T : Int → Int) (k j y : Int) : Prop := (0 ≤ k ∧ k < T 0) ∧ (0 ≤ j ∧ j < T 1) ∧ (0 ≤ y ∧ y < 100)
theorem n10 : ¬ ((1 : Int) = 0) := by decide
theorem s_LookN {h : Hp} {T : Int → Int} (w : Inv h T) {k j y : Int} (q : ¬ okL T k j y) : C_LS_look 1 k j y h = some (0, h) := by
  rw [E_LS_look, if_pos (iv1 w), s_isCat w, bind_some']
  by_cases q1 : 0 ≤ k ∧ k < T 0
  · rw [bI_t q1, if_neg n10, if_pos (iv1 w), s_isHou w, bind_some']
    by_cases q2 : 0 ≤ j ∧ j < T 1
    · rw [bI_t q2, if_neg n10, s_isYear, bind_some', bI_f (fun z => q ⟨q1, q2, z⟩), if_pos rfl]
    · rw [bI_f q2, if_pos rfl]
  · rw [bI_f q1, if_pos rfl]
theorem s_Look {h : Hp} {T : Int → Int} (w : Inv h T) {k j y : Int} (q : okL T k j y) : ∃ h', C_LS_look 1 k j y h = some (1, h') ∧ Fr pL h h' ∧ LKd h' (8 + 8 * k) (32 + 4 * j) y (catT T k) (houT T j) := by
  have n := ivn w
  have c := ivC w q.1.1 q.1.2
  have d := ivH w q.2.1.1 q.2.1.2
  have q1 := q.1
  have q2 := q.2.1
  obtain ⟨h1, g1, g2, g3⟩ := s_look (y := y) w.1.2.2.2.2.2.1 c.1 d.1 c.2.1 d.2.1
  refine ⟨h1, ?_, g2, g3⟩
  rw [E_LS_look, if_pos (iv1 w), s_isCat w, bind_some', bI_t q.1, if_neg n10, if_pos (iv1 w), s_isHou w, bind_some', bI_t q.2.1, if_neg n10, s_isYear, bind_some', bI_t q.2.2, if_neg n10]
  simp (disch := omega) only [iv1 w, iv10 w, iv16 w, iv2 w, iv28 w, iv29 w, iv24 w, iv25 w, iv26 w, ivR4 w, ivR5 w, iv4 w, iv5 w, ivS w, ↓reduceIte, bind_some', hb_eq, g1]
theorem m_isIn (x a b : Int) (h : Hp) : C_Mo_isIn x a b h = some (bI (a ≤ x ∧ x ≤ b), h) := by
  rw [E_Mo_isIn]
  by_cases q : x < a
  · rw [if_pos q, bI_f (by omega)]
  · rw [if_neg q]
    by_cases q2 : b < x
    · rw [if_pos q2, bI_f (by omega)]
    · rw [if_neg q2, bI_t (by omega)]
theorem bI_c {x y : Prop} (q : x ↔ y) : bI x = bI y := by
  by_cases z : x
  · rw [bI_t z, bI_t (q.1 z)]
  · rw [bI_f z, bI_f (fun k => z (q.2 k))]
theorem bI_r (x : Prop) : bI x = 0 ∨ bI x = 1 := by
  by_cases z : x
  · exact Or.inr (bI_t z)
  · exact Or.inl (bI_f z)
theorem ivM {h : Hp} {T : Int → Int} (w : Inv h T) : okF h 124 12 = true := okF_t w.2.2.2.1.1
theorem ivM0 {h : Hp} {T : Int → Int} (w : Inv h T) : mR h 124 0 = 125 := w.2.2.2.1.2.1.1
theorem ivMA {h : Hp} {T : Int → Int} (w : Inv h T) {i : Int} (i0 : 0 ≤ i) (i1 : i < 7560) : okA h 125 102 i = true := okA_t w.2.2.2.1.2.2.1 i0 i1
theorem ivMT {h : Hp} {T : Int → Int} (w : Inv h T) {i : Int} (i0 : 0 ≤ i) (i1 : i < 1800) : mR h 125 i = T i := w.2.2.2.2 i i0 i1
theorem m_isOf {h : Hp} {T : Int → Int} (w : Inv h T) {i k : Int} (i0 : 0 ≤ i) (i1 : i < 3) : C_Mo_isOf 124 i k h = some (bI (0 ≤ k ∧ k < T i), h) := by
  have n := ivn w
  have e : 0 ≤ T i ∧ T i ≤ 6 := by
    have : i = 0 ∨ i = 1 ∨ i = 2 := by omega
    rcases this with z | z | z <;> rw [z] <;> omega
  rw [E_Mo_isOf]
  simp (disch := omega) only [ivM w, ivM0 w, ivMA w, ivMT w, ↓reduceIte, m_isIn, bind_some', w32_id]
  rw [bI_c (y := 0 ≤ k ∧ k < T i) (by omega)]
  rcases bI_r (0 ≤ k ∧ k < T i) with z | z <;> rw [z] <;> rfl
theorem m_catAt {h : Hp} {k : Int} (k0 : 0 ≤ k) (k1 : k < 3) : C_Mo_catalogueAt 124 k h = some (520 + 330 * k, h) := by
  rw [E_Mo_catalogueAt, E_Mo_placeOf, if_pos rfl, bind_some', w32_id (x := 330 * k) (by omega) (by omega), w32_id (by omega) (by omega)]
theorem m_houAt {h : Hp} {k : Int} (k0 : 0 ≤ k) (k1 : k < 6) : C_Mo_houseAt 124 k h = some (1510 + 26 * k, h) := by
  rw [E_Mo_houseAt, E_Mo_placeOf, if_neg n10, if_pos rfl, bind_some', w32_id (x := 26 * k) (by omega) (by omega), w32_id (by omega) (by omega)]
theorem m_areAll {h : Hp} {T : Int → Int} (w : Inv h T) (k j y : Int) : C_Mo_areAll 124 k j y h = some (bI (okL T k j y), h) := by
  rw [E_Mo_areAll, if_pos (ivM w), m_isOf w (by omega) (by omega), bind_some']
  by_cases q1 : 0 ≤ k ∧ k < T 0
  · rw [bI_t q1, if_neg n10, if_pos (ivM w), m_isOf w (by omega) (by omega), bind_some']
    by_cases q2 : 0 ≤ j ∧ j < T 1
    · rw [bI_t q2, if_neg n10, m_isIn, bind_some']
      by_cases q3 : 0 ≤ y ∧ y < 100
      · rw [bI_t (by omega), if_neg n10, bI_t ⟨q1, q2, q3⟩]
      · rw [bI_f (by omega), if_pos rfl, bI_f (fun z => q3 z.2.2)]
    · rw [bI_f q2, if_pos rfl, bI_f (fun z => q2 z.2.1)]
  · rw [bI_f q1, if_pos rfl, bI_f (fun z => q1 z.1)]
