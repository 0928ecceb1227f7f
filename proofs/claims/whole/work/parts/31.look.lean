/-! The ladder and the fars, as the class reckons them. V is a catalogue, U a house, both laid flat. -/
def onV (V : Int → Int) (r : Int) : Int := if V (3 + r) < 100 then V (3 + r) else -1
def stp (V : Int → Int) : Nat → Int → Int
  | 0, _ => 0
  | n + 1, r => if V (3 + r) < 100 then stp V n (V (3 + r)) + 1 else 0
def Vok (V : Int → Int) : Prop := (0 ≤ V 0 ∧ V 0 ≤ 6) ∧ (0 ≤ V 1 ∧ V 1 ≤ 24) ∧ (∀ r, 0 ≤ r → r < V 0 → 0 ≤ V (3 + r) ∧ V (3 + r) ≤ 10099 ∧ (V (3 + r) < 100 → V (3 + r) < r)) ∧ (∀ t, 0 ≤ t → t < V 1 → -9999 ≤ V (9 + t) ∧ V (9 + t) ≤ 9999) ∧ (∀ t r, 0 ≤ t → t < V 1 → 0 ≤ r → r < V 0 → 0 ≤ V (33 + 6 * t + r) ∧ V (33 + 6 * t + r) ≤ 9999)
def Uok (U : Int → Int) : Prop := (0 ≤ U 3 ∧ U 3 ≤ 8) ∧ (∀ r, 0 ≤ r → r < 6 → -51 ≤ U (4 + r) ∧ U (4 + r) ≤ 51) ∧ (∀ i, 0 ≤ i → i < U 3 → 0 ≤ U (10 + 2 * i) ∧ U (10 + 2 * i) ≤ 4 ∧ 0 ≤ U (11 + 2 * i) ∧ U (11 + 2 * i) ≤ 9999999)
def CatV (h : Hp) (c : Int) (V : Int → Int) : Prop := CatS h c ∧ (c + 7 < 99 ∨ 133 < c) ∧ mR h c 0 = V 0 ∧ mR h c 1 = V 1 ∧ (∀ r, 0 ≤ r → r < V 0 → mR h (c + 1) r = onV V r ∧ (onV V r = -1 → mR h (c + 2) r = V (3 + r) - 100) ∧ mR h (c + 3) r = stp V 6 r) ∧ (∀ t, 0 ≤ t → t < V 1 → mR h (c + 4) t = V (9 + t)) ∧ (∀ t r, 0 ≤ t → t < V 1 → 0 ≤ r → r < V 0 → mR h (c + 5) (t * 6 + r) = V (33 + 6 * t + r) ∧ (V (33 + 6 * t + r) ≠ 0 → mR h (c + 6) (t * 6 + r) = V (177 + 6 * t + r)))
def HouV (h : Hp) (c : Int) (U : Int → Int) : Prop := HouS h c ∧ (c + 3 < 99 ∨ 133 < c) ∧ mR h c 0 = U 0 ∧ mR h c 1 = U 1 ∧ mR h c 2 = U 2 ∧ mR h c 3 = U 3 ∧ (∀ r, 0 ≤ r → r < 6 → mR h (c + 1) r = U (4 + r)) ∧ (∀ i, 0 ≤ i → i < U 3 → mR h (c + 2) i = U (10 + 2 * i) ∧ mR h (c + 3) i = U (11 + 2 * i))
theorem CatV.of {h h' : Hp} {c : Int} {V : Int → Int} (w : CatV h c V) (k : SK h h') (r : ∀ b i, c ≤ b → b ≤ c + 7 → mR h' b i = mR h b i) : CatV h' c V := by
  unfold CatV at w ⊢
  refine ⟨w.1.of k (fun i _ _ => r c i (by omega) (by omega)), w.2.1, by rw [r c 0 (by omega) (by omega)]; exact w.2.2.1, by rw [r c 1 (by omega) (by omega)]; exact w.2.2.2.1, ?_, ?_, ?_⟩
  · intro x x0 x1
    rw [r (c + 1) x (by omega) (by omega), r (c + 2) x (by omega) (by omega), r (c + 3) x (by omega) (by omega)]
    exact w.2.2.2.2.1 x x0 x1
  · intro x x0 x1
    rw [r (c + 4) x (by omega) (by omega)]
    exact w.2.2.2.2.2.1 x x0 x1
  · intro t x t0 t1 x0 x1
    rw [r (c + 5) _ (by omega) (by omega), r (c + 6) _ (by omega) (by omega)]
    exact w.2.2.2.2.2.2 t x t0 t1 x0 x1
theorem HouV.of {h h' : Hp} {c : Int} {U : Int → Int} (w : HouV h c U) (k : SK h h') (r : ∀ b i, c ≤ b → b ≤ c + 3 → mR h' b i = mR h b i) : HouV h' c U := by
  unfold HouV at w ⊢
  refine ⟨w.1.of k (fun i _ _ => r c i (by omega) (by omega)), w.2.1, by rw [r c 0 (by omega) (by omega)]; exact w.2.2.1, by rw [r c 1 (by omega) (by omega)]; exact w.2.2.2.1, by rw [r c 2 (by omega) (by omega)]; exact w.2.2.2.2.1, by rw [r c 3 (by omega) (by omega)]; exact w.2.2.2.2.2.1, ?_, ?_⟩
  · intro x x0 x1
    rw [r (c + 1) x (by omega) (by omega)]
    exact w.2.2.2.2.2.2.1 x x0 x1
  · intro x x0 x1
    rw [r (c + 2) x (by omega) (by omega), r (c + 3) x (by omega) (by omega)]
    exact w.2.2.2.2.2.2.2 x x0 x1
def LK (h : Hp) (c hh y : Int) (V U : Int → Int) : Prop := SurS h ∧ CatV h c V ∧ HouV h hh U ∧ mR h 99 0 = c ∧ mR h 99 1 = hh ∧ mR h 99 2 = y ∧ Vok V ∧ Uok U
/-- the cells alone that are otherwise -/
def Fr (p : Int → Int → Prop) (h h' : Hp) : Prop := SK h h' ∧ ∀ b i, ¬ p b i → mR h' b i = mR h b i
theorem Fr.rf (p : Int → Int → Prop) (h : Hp) : Fr p h h := ⟨SK.rf h, fun _ _ _ => rfl⟩
theorem Fr.tr {p : Int → Int → Prop} {a b c : Hp} (h1 : Fr p a b) (h2 : Fr p b c) : Fr p a c := ⟨h1.1.tr h2.1, fun x i q => (h2.2 x i q).trans (h1.2 x i q)⟩
theorem Fr.W {p : Int → Int → Prop} (h : Hp) {a i : Int} (v : Int) (hp : p a i) : Fr p h (mW h a i v) := ⟨SK.W h a i v, fun b j q => by rw [mR_mW, if_neg (fun e => q (by rw [e.1, e.2]; exact hp))]⟩
theorem Fr.to {p q : Int → Int → Prop} {a b : Hp} (h1 : Fr p a b) (hq : ∀ x i, p x i → q x i) : Fr q a b := ⟨h1.1, fun x i n => h1.2 x i (fun e => n (hq x i e))⟩
def pS (b i : Int) : Prop := (b = 99 ∧ 6 ≤ i) ∨ b = 112 ∨ b = 113
theorem LK.of {h h' : Hp} {c hh y : Int} {V U : Int → Int} (w : LK h c hh y V U) (f : Fr pS h h') : LK h' c hh y V U := by
  have n1 := w.2.1.2.1
  have n2 := w.2.2.1.2.1
  refine ⟨w.1.of f.1 (fun i _ _ => f.2 99 i (by unfold pS; omega)), w.2.1.of f.1 (fun b i _ _ => f.2 b i (by unfold pS; omega)), w.2.2.1.of f.1 (fun b i _ _ => f.2 b i (by unfold pS; omega)), ?_, ?_, ?_, w.2.2.2.2.2.2⟩
  · rw [f.2 99 0 (by unfold pS; omega)]; exact w.2.2.2.1
  · rw [f.2 99 1 (by unfold pS; omega)]; exact w.2.2.2.2.1
  · rw [f.2 99 2 (by unfold pS; omega)]; exact w.2.2.2.2.2.1
theorem lt_w1 {h : Hp} {c hh y : Int} {V U : Int → Int} (w : LK h c hh y V U) : mR h c 1 = V 1 := w.2.1.2.2.2.1
theorem lt_w2 {h : Hp} {c hh y : Int} {V U : Int → Int} (w : LK h c hh y V U) : mR h c 0 = V 0 := w.2.1.2.2.1
theorem lkn0 {h : Hp} {c hh y : Int} {V U : Int → Int} (w : LK h c hh y V U) : 0 ≤ V 0 ∧ V 0 ≤ 6 := w.2.2.2.2.2.2.1.1
theorem lkn1 {h : Hp} {c hh y : Int} {V U : Int → Int} (w : LK h c hh y V U) : 0 ≤ V 1 ∧ V 1 ≤ 24 := w.2.2.2.2.2.2.1.2.1
theorem lkS {h : Hp} {c hh y : Int} {V U : Int → Int} (w : LK h c hh y V U) : okF h 99 9 = true := sF w.1
theorem lkC {h : Hp} {c hh y : Int} {V U : Int → Int} (w : LK h c hh y V U) : okF h c 1 = true := cF w.2.1.1
theorem lkH {h : Hp} {c hh y : Int} {V U : Int → Int} (w : LK h c hh y V U) : okF h hh 3 = true := hF w.2.2.1.1
theorem lk0 {h : Hp} {c hh y : Int} {V U : Int → Int} (w : LK h c hh y V U) : mR h 99 0 = c := w.2.2.2.1
theorem lk1 {h : Hp} {c hh y : Int} {V U : Int → Int} (w : LK h c hh y V U) : mR h 99 1 = hh := w.2.2.2.2.1
theorem lk2 {h : Hp} {c hh y : Int} {V U : Int → Int} (w : LK h c hh y V U) : mR h 99 2 = y := w.2.2.2.2.2.1
theorem lk3 {h : Hp} {c hh y : Int} {V U : Int → Int} (w : LK h c hh y V U) : mR h 99 3 = 112 := s3 w.1
theorem lk4 {h : Hp} {c hh y : Int} {V U : Int → Int} (w : LK h c hh y V U) : mR h 99 4 = 113 := s4 w.1
theorem lkc0 {h : Hp} {c hh y : Int} {V U : Int → Int} (w : LK h c hh y V U) : mR h c 0 = V 0 := w.2.1.2.2.1
theorem lkc1 {h : Hp} {c hh y : Int} {V U : Int → Int} (w : LK h c hh y V U) : mR h c 1 = V 1 := w.2.1.2.2.2.1
theorem lkc3 {h : Hp} {c hh y : Int} {V U : Int → Int} (w : LK h c hh y V U) : mR h c 3 = c + 1 := c3 w.2.1.1
theorem lkc4 {h : Hp} {c hh y : Int} {V U : Int → Int} (w : LK h c hh y V U) : mR h c 4 = c + 2 := c4 w.2.1.1
theorem lkc5 {h : Hp} {c hh y : Int} {V U : Int → Int} (w : LK h c hh y V U) : mR h c 5 = c + 3 := c5 w.2.1.1
theorem lkc6 {h : Hp} {c hh y : Int} {V U : Int → Int} (w : LK h c hh y V U) : mR h c 6 = c + 4 := c6 w.2.1.1
theorem lkc7 {h : Hp} {c hh y : Int} {V U : Int → Int} (w : LK h c hh y V U) : mR h c 7 = c + 5 := c7 w.2.1.1
theorem lkc8 {h : Hp} {c hh y : Int} {V U : Int → Int} (w : LK h c hh y V U) : mR h c 8 = c + 6 := c8 w.2.1.1
theorem lkh0 {h : Hp} {c hh y : Int} {V U : Int → Int} (w : LK h c hh y V U) : mR h hh 0 = U 0 := w.2.2.1.2.2.1
theorem lkh1 {h : Hp} {c hh y : Int} {V U : Int → Int} (w : LK h c hh y V U) : mR h hh 1 = U 1 := w.2.2.1.2.2.2.1
theorem lkh2 {h : Hp} {c hh y : Int} {V U : Int → Int} (w : LK h c hh y V U) : mR h hh 2 = U 2 := w.2.2.1.2.2.2.2.1
theorem lkh3 {h : Hp} {c hh y : Int} {V U : Int → Int} (w : LK h c hh y V U) : mR h hh 3 = U 3 := w.2.2.1.2.2.2.2.2.1
theorem lkh4 {h : Hp} {c hh y : Int} {V U : Int → Int} (w : LK h c hh y V U) : mR h hh 4 = hh + 1 := h4 w.2.2.1.1
theorem lkh5 {h : Hp} {c hh y : Int} {V U : Int → Int} (w : LK h c hh y V U) : mR h hh 5 = hh + 2 := h5 w.2.2.1.1
theorem lkh6 {h : Hp} {c hh y : Int} {V U : Int → Int} (w : LK h c hh y V U) : mR h hh 6 = hh + 3 := h6 w.2.2.1.1
theorem lkA1 {h : Hp} {c hh y : Int} {V U : Int → Int} (w : LK h c hh y V U) {i : Int} (h0 : 0 ≤ i) (h1 : i < 6) : okA h (c + 1) 102 i = true := cA1 w.2.1.1 h0 h1
theorem lkA2 {h : Hp} {c hh y : Int} {V U : Int → Int} (w : LK h c hh y V U) {i : Int} (h0 : 0 ≤ i) (h1 : i < 6) : okA h (c + 2) 102 i = true := cA2 w.2.1.1 h0 h1
theorem lkA3 {h : Hp} {c hh y : Int} {V U : Int → Int} (w : LK h c hh y V U) {i : Int} (h0 : 0 ≤ i) (h1 : i < 6) : okA h (c + 3) 102 i = true := cA3 w.2.1.1 h0 h1
theorem lkA4 {h : Hp} {c hh y : Int} {V U : Int → Int} (w : LK h c hh y V U) {i : Int} (h0 : 0 ≤ i) (h1 : i < 24) : okA h (c + 4) 102 i = true := cA4 w.2.1.1 h0 h1
theorem lkA5 {h : Hp} {c hh y : Int} {V U : Int → Int} (w : LK h c hh y V U) {i : Int} (h0 : 0 ≤ i) (h1 : i < 144) : okA h (c + 5) 102 i = true := cA5 w.2.1.1 h0 h1
theorem lkA6 {h : Hp} {c hh y : Int} {V U : Int → Int} (w : LK h c hh y V U) {i : Int} (h0 : 0 ≤ i) (h1 : i < 144) : okA h (c + 6) 102 i = true := cA6 w.2.1.1 h0 h1
theorem lkB1 {h : Hp} {c hh y : Int} {V U : Int → Int} (w : LK h c hh y V U) {i : Int} (h0 : 0 ≤ i) (h1 : i < 6) : okA h (hh + 1) 102 i = true := hA1 w.2.2.1.1 h0 h1
theorem lkB2 {h : Hp} {c hh y : Int} {V U : Int → Int} (w : LK h c hh y V U) {i : Int} (h0 : 0 ≤ i) (h1 : i < 8) : okA h (hh + 2) 102 i = true := hA2 w.2.2.1.1 h0 h1
theorem lkB3 {h : Hp} {c hh y : Int} {V U : Int → Int} (w : LK h c hh y V U) {i : Int} (h0 : 0 ≤ i) (h1 : i < 8) : okA h (hh + 3) 102 i = true := hA3 w.2.2.1.1 h0 h1
theorem lkA112 {h : Hp} {c hh y : Int} {V U : Int → Int} (w : LK h c hh y V U) {i : Int} (h0 : 0 ≤ i) (h1 : i < 6) : okA h 112 102 i = true := sA2 w.1 h0 h1
theorem lkA113 {h : Hp} {c hh y : Int} {V U : Int → Int} (w : LK h c hh y V U) {i : Int} (h0 : 0 ≤ i) (h1 : i < 24) : okA h 113 102 i = true := sA3 w.1 h0 h1
theorem lkS112 {h : Hp} {c hh y : Int} {V U : Int → Int} (w : LK h c hh y V U) {i : Int} (h0 : 0 ≤ i) (h1 : i < 6) : okS h 112 102 i = true := sS2 w.1 h0 h1
theorem lkS113 {h : Hp} {c hh y : Int} {V U : Int → Int} (w : LK h c hh y V U) {i : Int} (h0 : 0 ≤ i) (h1 : i < 24) : okS h 113 102 i = true := sS3 w.1 h0 h1
theorem lkv1 {h : Hp} {c hh y : Int} {V U : Int → Int} (w : LK h c hh y V U) {r : Int} (h0 : 0 ≤ r) (h1 : r < V 0) : mR h (c + 1) r = onV V r := (w.2.1.2.2.2.2.1 r h0 h1).1
theorem lkv2 {h : Hp} {c hh y : Int} {V U : Int → Int} (w : LK h c hh y V U) {r : Int} (h0 : 0 ≤ r) (h1 : r < V 0) (e : onV V r = -1) : mR h (c + 2) r = V (3 + r) - 100 := (w.2.1.2.2.2.2.1 r h0 h1).2.1 e
theorem lkv3 {h : Hp} {c hh y : Int} {V U : Int → Int} (w : LK h c hh y V U) {r : Int} (h0 : 0 ≤ r) (h1 : r < V 0) : mR h (c + 3) r = stp V 6 r := (w.2.1.2.2.2.2.1 r h0 h1).2.2
theorem lkv4 {h : Hp} {c hh y : Int} {V U : Int → Int} (w : LK h c hh y V U) {t : Int} (h0 : 0 ≤ t) (h1 : t < V 1) : mR h (c + 4) t = V (9 + t) := w.2.1.2.2.2.2.2.1 t h0 h1
theorem lkv5 {h : Hp} {c hh y : Int} {V U : Int → Int} (w : LK h c hh y V U) {t r : Int} (h0 : 0 ≤ t) (h1 : t < V 1) (r0 : 0 ≤ r) (r1 : r < V 0) : mR h (c + 5) (t * 6 + r) = V (33 + 6 * t + r) := (w.2.1.2.2.2.2.2.2 t r h0 h1 r0 r1).1
theorem lkv6 {h : Hp} {c hh y : Int} {V U : Int → Int} (w : LK h c hh y V U) {t r : Int} (h0 : 0 ≤ t) (h1 : t < V 1) (r0 : 0 ≤ r) (r1 : r < V 0) (z : V (33 + 6 * t + r) ≠ 0) : mR h (c + 6) (t * 6 + r) = V (177 + 6 * t + r) := (w.2.1.2.2.2.2.2.2 t r h0 h1 r0 r1).2 z
theorem lkw1 {h : Hp} {c hh y : Int} {V U : Int → Int} (w : LK h c hh y V U) {r : Int} (h0 : 0 ≤ r) (h1 : r < 6) : mR h (hh + 1) r = U (4 + r) := w.2.2.1.2.2.2.2.2.2.1 r h0 h1
theorem lkw2 {h : Hp} {c hh y : Int} {V U : Int → Int} (w : LK h c hh y V U) {i : Int} (h0 : 0 ≤ i) (h1 : i < U 3) : mR h (hh + 2) i = U (10 + 2 * i) := (w.2.2.1.2.2.2.2.2.2.2 i h0 h1).1
theorem lkw3 {h : Hp} {c hh y : Int} {V U : Int → Int} (w : LK h c hh y V U) {i : Int} (h0 : 0 ≤ i) (h1 : i < U 3) : mR h (hh + 3) i = U (11 + 2 * i) := (w.2.2.1.2.2.2.2.2.2.2 i h0 h1).2
/-- what is known of a thing by a rung: the raw number, or 0 -/
def rawY (V : Int → Int) (y t r : Int) : Int := if y < V (177 + 6 * t + r) then 0 else V (33 + 6 * t + r)
def bitT (b t : Int) : Bool := decide (i_and (i_shr b t) 1 = 1)
def atM (x : Int) : Int := if 9999999 < x then 9999999 else w32 x
def fB (V : Int → Int) (y : Int) (S : Int → Int) (t r : Int) : Int := if rawY V y t r = 0 ∨ S r = -1 then -1 else atM (w64 (Int.tdiv (w64 (rawY V y t r * S r)) 1000))
def fsO (V : Int → Int) (y : Int) (S : Int → Int) (cb r o t : Int) (a : Int × Int) : Int × Int := if rawY V y t r = 0 ∨ fB V y S t o = -1 ∨ bitT cb t = true then a else (w64 (a.1 + fB V y S t o), w64 (a.2 + rawY V y t r))
def scE (b : Int × Int) : Int := if b.2 = 0 then -1 else w64 (Int.tdiv (w64 (1000 * b.1)) b.2)
def scO (V : Int → Int) (y : Int) (S : Int → Int) (cb r o : Int) : Int := scE (itN (fsO V y S cb r o) (V 1).toNat 0 (0, 0))
def clR (s l : Int) : Int := if s = -1 then -1 else atM (w64 (Int.tdiv (w64 (s * w32 (100 + l))) 100))
def clV (V U : Int → Int) (y : Int) (S : Int → Int) (r : Int) : Int := clR (if V (3 + r) < 100 then scO V y S (U 2) r (V (3 + r)) else V (3 + r) - 100) (U (4 + r))
theorem s_rawBy {h : Hp} {c hh y t r : Int} {V U : Int → Int} (w : LK h c hh y V U) (t0 : 0 ≤ t) (t1 : t < V 1) (r0 : 0 ≤ r) (r1 : r < V 0) : C_Ca_rawBy c t r y h = some (rawY V y t r, h) := by
  rw [E_Ca_rawBy]
  have n0 := lkn0 w
  have n1 := lkn1 w
  simp (disch := omega) only [lkS w, lkC w, lkH w, lk0 w, lk1 w, lk2 w, lk3 w, lk4 w, lkc0 w, lkc1 w, lkc3 w, lkc4 w, lkc5 w, lkc6 w, lkc7 w, lkc8 w, lkh0 w, lkh1 w, lkh2 w, lkh3 w, lkh4 w, lkh5 w, lkh6 w, lkA1 w, lkA2 w, lkA3 w, lkA4 w, lkA5 w, lkA6 w, lkB1 w, lkB2 w, lkB3 w, lkA112 w, lkA113 w, lkS112 w, lkS113 w, lkv1 w, lkv3 w, lkv4 w, lkv5 w, lkv6 w, lkw1 w, lkw2 w, lkw3 w, w32_id, ↓reduceIte, bind_some', hb_eq, lt_w1 w, lt_w2 w, rawY]
  by_cases z : V (33 + 6 * t + r) = 0
  · rw [z]; split <;> split <;> rfl
  · rw [lkv6 w t0 t1 r0 r1 z]; split <;> rfl
theorem s_casts {h : Hp} {c hh y t : Int} {V U : Int → Int} (w : LK h c hh y V U) : C_Ho_casts hh t h = some (if bitT (U 2) t = true then 1 else 0, h) := by
  rw [E_Ho_casts]
  simp (disch := omega) only [lkS w, lkC w, lkH w, lk0 w, lk1 w, lk2 w, lk3 w, lk4 w, lkc0 w, lkc1 w, lkc3 w, lkc4 w, lkc5 w, lkc6 w, lkc7 w, lkc8 w, lkh0 w, lkh1 w, lkh2 w, lkh3 w, lkh4 w, lkh5 w, lkh6 w, lkA1 w, lkA2 w, lkA3 w, lkA4 w, lkA5 w, lkA6 w, lkB1 w, lkB2 w, lkB3 w, lkA112 w, lkA113 w, lkS112 w, lkS113 w, lkv1 w, lkv3 w, lkv4 w, lkv5 w, lkv6 w, lkw1 w, lkw2 w, lkw3 w, w32_id, ↓reduceIte, bind_some', hb_eq, lt_w1 w, lt_w2 w, bitT, decide_eq_true_eq]
  split <;> rfl
theorem s_farBy {h : Hp} {c hh y t r : Int} {V U : Int → Int} (w : LK h c hh y V U) (t0 : 0 ≤ t) (t1 : t < V 1) (r0 : 0 ≤ r) (r1 : r < V 0) : C_Su_farBy 99 t r h = some (fB V y (mR h 112) t r, h) := by
  rw [E_Su_farBy]
  have n0 := lkn0 w
  have n1 := lkn1 w
  simp (disch := omega) only [lkS w, lkC w, lkH w, lk0 w, lk1 w, lk2 w, lk3 w, lk4 w, lkc0 w, lkc1 w, lkc3 w, lkc4 w, lkc5 w, lkc6 w, lkc7 w, lkc8 w, lkh0 w, lkh1 w, lkh2 w, lkh3 w, lkh4 w, lkh5 w, lkh6 w, lkA1 w, lkA2 w, lkA3 w, lkA4 w, lkA5 w, lkA6 w, lkB1 w, lkB2 w, lkB3 w, lkA112 w, lkA113 w, lkS112 w, lkS113 w, lkv1 w, lkv3 w, lkv4 w, lkv5 w, lkv6 w, lkw1 w, lkw2 w, lkw3 w, w32_id, ↓reduceIte, bind_some', hb_eq, lt_w1 w, lt_w2 w, s_rawBy w, fB, atM]
  by_cases q1 : rawY V y t r = 0
  · simp [q1]
  · by_cases q2 : mR h 112 r = -1
    · simp [q1, q2]
    · simp only [q1, q2, if_false, or_self]
      split <;> rfl
theorem l_scaleOn {h : Hp} {c hh y r o : Int} {V U : Int → Int} (w : LK h c hh y V U) (r0 : 0 ≤ r) (r1 : r < V 0) (o0 : 0 ≤ o) (o1 : o < V 0) :
    ∀ (n : Nat) (t : Int) (a : Int × Int), 0 ≤ t → t + n = V 1 → P_Su_scaleOn_8 99 r o a.1 a.2 t h = some (scE (itN (fsO V y (mR h 112) (U 2) r o) n t a), h) := by
  have n0 := lkn0 w
  have n1 := lkn1 w
  intro n
  induction n with
  | zero =>
    intro t a t0 ht
    rw [E_Su_scaleOn_8]
    have : ¬ t < V 1 := by omega
    simp only [lkS w, lkC w, lkH w, lk0 w, lk1 w, lk2 w, lk3 w, lk4 w, lkc0 w, lkc1 w, lkc3 w, lkc4 w, lkc5 w, lkc6 w, lkc7 w, lkc8 w, lkh0 w, lkh1 w, lkh2 w, lkh3 w, lkh4 w, lkh5 w, lkh6 w, lkA1 w, lkA2 w, lkA3 w, lkA4 w, lkA5 w, lkA6 w, lkB1 w, lkB2 w, lkB3 w, lkA112 w, lkA113 w, lkS112 w, lkS113 w, lkv1 w, lkv3 w, lkv4 w, lkv5 w, lkv6 w, lkw1 w, lkw2 w, lkw3 w, w32_id, ↓reduceIte, bind_some', hb_eq, lt_w1 w, lt_w2 w, this, if_false, itN, scE]
    by_cases q : a.2 = 0 <;> simp [q]
  | succ n ih =>
    intro t a t0 ht
    rw [E_Su_scaleOn_8]
    have q : t < V 1 := by omega
    simp (disch := omega) only [lkS w, lkC w, lkH w, lk0 w, lk1 w, lk2 w, lk3 w, lk4 w, lkc0 w, lkc1 w, lkc3 w, lkc4 w, lkc5 w, lkc6 w, lkc7 w, lkc8 w, lkh0 w, lkh1 w, lkh2 w, lkh3 w, lkh4 w, lkh5 w, lkh6 w, lkA1 w, lkA2 w, lkA3 w, lkA4 w, lkA5 w, lkA6 w, lkB1 w, lkB2 w, lkB3 w, lkA112 w, lkA113 w, lkS112 w, lkS113 w, lkv1 w, lkv3 w, lkv4 w, lkv5 w, lkv6 w, lkw1 w, lkw2 w, lkw3 w, w32_id, ↓reduceIte, bind_some', hb_eq, lt_w1 w, lt_w2 w, q, s_rawBy w, s_farBy w, s_casts w, itN]
    have e : ∀ b, fsO V y (mR h 112) (U 2) r o t a = b → itN (fsO V y (mR h 112) (U 2) r o) n (t + 1) (fsO V y (mR h 112) (U 2) r o t a) = itN (fsO V y (mR h 112) (U 2) r o) n (t + 1) b := fun b q => by rw [q]
    by_cases q1 : rawY V y t r = 0
    · rw [e a (by simp [fsO, q1])]
      simp only [q1, if_true]
      exact ih (t + 1) a (by omega) (by omega)
    · by_cases q2 : fB V y (mR h 112) t o = -1
      · rw [e a (by simp [fsO, q2])]
        simp only [q1, q2, if_true, if_false]
        exact ih (t + 1) a (by omega) (by omega)
      · by_cases q3 : bitT (U 2) t = true
        · rw [e a (by simp [fsO, q3])]
          simp only [q1, q2, q3, if_true, if_false, (by decide : ¬ ((1 : Int) = 0))]
          exact ih (t + 1) a (by omega) (by omega)
        · rw [e (w64 (a.1 + fB V y (mR h 112) t o), w64 (a.2 + rawY V y t r)) (by simp [fsO, q1, q2, q3])]
          simp only [q1, q2, q3, if_true, if_false]
          exact ih (t + 1) (_, _) (by omega) (by omega)
theorem s_scaleOn {h : Hp} {c hh y r o : Int} {V U : Int → Int} (w : LK h c hh y V U) (r0 : 0 ≤ r) (r1 : r < V 0) (o0 : 0 ≤ o) (o1 : o < V 0) : C_Su_scaleOn 99 r o h = some (scO V y (mR h 112) (U 2) r o, h) := by
  have n1 := lkn1 w
  rw [E_Su_scaleOn]
  exact l_scaleOn w r0 r1 o0 o1 (V 1).toNat 0 (0, 0) (by omega) (by omega)
