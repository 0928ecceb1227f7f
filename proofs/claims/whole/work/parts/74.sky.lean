/-! Skies: what they hold, what is seen. -/
theorem ivK {h : Hp} {T : Int → Int} (w : Inv h T) {k : Int} (k0 : 0 ≤ k) (k1 : k < T 2) : SkyC h (56 + 3 * k) (skyT T k) := w.2.2.1.2.2.2.2.2.2.2.2.2.1 k k0 k1
theorem iv6 {h : Hp} {T : Int → Int} (w : Inv h T) {k : Int} (k0 : 0 ≤ k) (k1 : k < 3) : mR h 2 10 = 6 ∧ okR h 6 k = true ∧ mR h 6 k = 56 + 3 * k := ⟨w.2.1.2.2.1.2.2.2.1, okR_t (k := 113) w.2.1.2.2.2.2.2.2.1 (by decide) (by decide) (by decide) k0 k1, (w.2.1.2.2.2.2.2.2.2.2.2.2.1 k k0 k1).1⟩
theorem s_isSky {h : Hp} {T : Int → Int} (w : Inv h T) (k : Int) : C_LS_isSky 1 k h = some (bI (0 ≤ k ∧ k < T 2), h) := by
  rw [E_LS_isSky, if_pos (iv1 w), iv10 w, if_pos (iv2 w), iv26 w]
  by_cases q : k < 0
  · rw [if_pos q, bI_f (by omega)]
  · rw [if_neg q]
    by_cases q2 : k < T 2
    · rw [if_pos q2, bI_t (by omega)]
    · rw [if_neg q2, bI_f (by omega)]
theorem m_isSky {h : Hp} {T : Int → Int} (w : Inv h T) (k : Int) : C_Mo_isSky 124 k h = some (bI (0 ≤ k ∧ k < T 2), h) := by
  rw [E_Mo_isSky, if_pos (ivM w), m_isOf w (by omega) (by omega), bind_some']
  rcases bI_r (0 ≤ k ∧ k < T 2) with z | z <;> rw [z] <;> rfl
theorem m_skyAt {h : Hp} {k : Int} (k0 : 0 ≤ k) (k1 : k < 3) : C_Mo_skyAt k h = some (1670 + 18 * k, h) := by
  rw [E_Mo_skyAt, E_Mo_placeOf, if_neg (by decide), if_neg (by decide), bind_some', w32_id (x := 18 * k) (by omega) (by omega), w32_id (by omega) (by omega)]
theorem ivMK6 {h : Hp} {T : Int → Int} (w : Inv h T) {k o : Int} (k0 : 0 ≤ k) (k1 : k < 3) (o0 : 0 ≤ o) (o1 : o < 18) : mR h 125 (1670 + 18 * k + o) = skyT T k o := (ivMT w (by omega) (by omega)).trans (skyE o0 o1)
theorem skF {h : Hp} {c : Int} {S : Int → Int} (w : SkyC h c S) : okF h c 8 = true := okF_t w.1.2.1
theorem sk6 {h : Hp} {c : Int} {S : Int → Int} (w : SkyC h c S) : mR h c 6 = c + 1 ∧ mR h c 7 = c + 2 := w.1.2.2.1
theorem skA1 {h : Hp} {c i : Int} {S : Int → Int} (w : SkyC h c S) (h0 : 0 ≤ i) (h1 : i < 6) : okA h (c + 1) 102 i = true := okA_t w.1.2.2.2.1 h0 h1
theorem skA2 {h : Hp} {c i : Int} {S : Int → Int} (w : SkyC h c S) (h0 : 0 ≤ i) (h1 : i < 6) : okA h (c + 2) 102 i = true := okA_t w.1.2.2.2.2 h0 h1
noncomputable def aSky (T : Int → Int) (k x : Int) : Int := cI (0 ≤ k ∧ k < T 2) (if 0 ≤ x ∧ x ≤ 5 then skyT T k x else if 10 ≤ x ∧ x < 10 + skyT T k 0 then skyT T k (6 + (x - 10)) else if 20 ≤ x ∧ x < 20 + skyT T k 0 then skyT T k (12 + (x - 20)) else -1) (-1)
theorem q_sky {h : Hp} {T : Int → Int} (w : Inv h T) (k x : Int) : C_LS_sky 1 k x h = some (aSky T k x, h) := by
  have n := ivn w
  rw [E_LS_sky, if_pos (iv1 w), s_isSky w, bind_some']
  unfold aSky
  by_cases q1 : 0 ≤ k ∧ k < T 2
  · have c := ivK w q1.1 q1.2
    have i6 := iv6 w q1.1 (show k < 3 by omega)
    have s0 := c.2.2.1.1
    have e0 := c.2.1 0 (by omega) (by omega)
    rw [bI_t q1, if_neg n10, cI_t q1]
    simp only [iv1 w, iv10 w, iv2 w, i6.1, i6.2.1, i6.2.2, ↓reduceIte, skF c, (sk6 c).1, (sk6 c).2]
    by_cases x0 : 0 ≤ x ∧ x ≤ 5
    · have : x = 0 ∨ x = 1 ∨ x = 2 ∨ x = 3 ∨ x = 4 ∨ x = 5 := by omega
      rw [if_pos x0]
      rcases this with z | z | z | z | z | z
      · rw [z, if_pos rfl, c.2.1 0 (by omega) (by omega)]
      · rw [z, if_neg n10, if_pos rfl, c.2.1 1 (by omega) (by omega)]
      · rw [z, if_neg (by decide), if_neg (by decide), if_pos rfl, c.2.1 2 (by omega) (by omega)]
      · rw [z, if_neg (by decide), if_neg (by decide), if_neg (by decide), if_pos rfl, c.2.1 3 (by omega) (by omega)]
      · rw [z, if_neg (by decide), if_neg (by decide), if_neg (by decide), if_neg (by decide), if_pos rfl, c.2.1 4 (by omega) (by omega)]
      · rw [z, if_neg (by decide), if_neg (by decide), if_neg (by decide), if_neg (by decide), if_neg (by decide), if_pos rfl, c.2.1 5 (by omega) (by omega)]
    · rw [if_neg (show ¬ x = 0 by omega), if_neg (show ¬ x = 1 by omega), if_neg (show ¬ x = 2 by omega), if_neg (show ¬ x = 3 by omega), if_neg (show ¬ x = 4 by omega), if_neg (show ¬ x = 5 by omega), if_neg x0, e0, w32_id (x := 20 + skyT T k 0) (by omega) (by omega), w32_id (x := 10 + skyT T k 0) (by omega) (by omega)]
      by_cases y1 : 10 ≤ x ∧ x < 10 + skyT T k 0
      · rw [if_neg (show ¬ x < 10 by omega), if_pos y1.2, w32_id (x := x - 10) (by omega) (by omega), if_pos (skA1 c (by omega) (by omega)), (c.2.2.2 (x - 10) (by omega) (by omega)).1, if_pos y1]
      · rw [if_neg y1]
        by_cases y2 : 20 ≤ x ∧ x < 20 + skyT T k 0
        · rw [if_neg (show ¬ x < 10 by omega), if_neg (show ¬ x < 10 + skyT T k 0 by omega), if_neg (show ¬ x < 20 by omega), if_pos y2.2, w32_id (x := x - 20) (by omega) (by omega), if_pos (skA2 c (by omega) (by omega)), (c.2.2.2 (x - 20) (by omega) (by omega)).2, if_pos y2]
        · rw [if_neg y2]
          by_cases y3 : x < 10
          · rw [if_pos y3, if_pos (show x < 20 by omega)]
          · rw [if_neg y3, if_neg (show ¬ x < 10 + skyT T k 0 by omega)]
            by_cases y4 : x < 20
            · rw [if_pos y4]
            · rw [if_neg y4, if_neg (show ¬ x < 20 + skyT T k 0 by omega)]
  · rw [bI_f q1, if_pos rfl, cI_f q1]
theorem r_sky {h : Hp} {T : Int → Int} (w : Inv h T) (k x : Int) : C_Mo_sky 124 k x h = some (aSky T k x, h) := by
  have n := ivn w
  rw [E_Mo_sky, if_pos (ivM w), m_isSky w, bind_some']
  unfold aSky
  by_cases q1 : 0 ≤ k ∧ k < T 2
  · have s0 := (ivK w q1.1 q1.2).2.2.1.1
    have e0 := ivMK6 w (o := 0) q1.1 (show k < 3 by omega) (by omega) (by omega)
    rw [bI_t q1, if_neg n10, cI_t q1, m_skyAt q1.1 (by omega), bind_some', if_pos (ivM w), ivM0 w, w32_id (x := 1670 + 18 * k + 0) (by omega) (by omega), if_pos (ivMA w (by omega) (by omega)), e0, w32_id (x := 9 + skyT T k 0) (by omega) (by omega), m_isIn, bind_some']
    by_cases y1 : 10 ≤ x ∧ x < 10 + skyT T k 0
    · have e1 := ivMK6 w (o := 6 + (x - 10)) q1.1 (show k < 3 by omega) (by omega) (by omega)
      rw [bI_t (by omega), if_neg n10, if_pos (ivM w), ivM0 w, w32_id (x := 1670 + 18 * k + 6) (by omega) (by omega), w32_id (x := 1670 + 18 * k + 6 + x) (by omega) (by omega), w32_id (x := 1670 + 18 * k + 6 + x - 10) (by omega) (by omega), if_pos (ivMA w (by omega) (by omega)), show 1670 + 18 * k + 6 + x - 10 = 1670 + 18 * k + (6 + (x - 10)) by omega, e1, if_neg (show ¬ (0 ≤ x ∧ x ≤ 5) by omega), if_pos y1]
    · rw [bI_f (show ¬ (10 ≤ x ∧ x ≤ 9 + skyT T k 0) by omega), if_pos rfl, if_pos (ivM w), ivM0 w, if_pos (ivMA w (by omega) (by omega)), e0, w32_id (x := 19 + skyT T k 0) (by omega) (by omega), m_isIn, bind_some', if_neg y1]
      by_cases y2 : 20 ≤ x ∧ x < 20 + skyT T k 0
      · have e1 := ivMK6 w (o := 12 + (x - 20)) q1.1 (show k < 3 by omega) (by omega) (by omega)
        rw [bI_t (by omega), if_neg n10, if_pos (ivM w), ivM0 w, w32_id (x := 1670 + 18 * k + 12) (by omega) (by omega), w32_id (x := 1670 + 18 * k + 12 + x) (by omega) (by omega), w32_id (x := 1670 + 18 * k + 12 + x - 20) (by omega) (by omega), if_pos (ivMA w (by omega) (by omega)), show 1670 + 18 * k + 12 + x - 20 = 1670 + 18 * k + (12 + (x - 20)) by omega, e1, if_neg (show ¬ (0 ≤ x ∧ x ≤ 5) by omega), if_pos y2]
      · rw [bI_f (show ¬ (20 ≤ x ∧ x ≤ 19 + skyT T k 0) by omega), if_pos rfl, m_isIn, bind_some', if_neg y2]
        by_cases x0 : 0 ≤ x ∧ x ≤ 5
        · rw [bI_t x0, if_neg n10, if_pos (ivM w), ivM0 w, w32_id (x := 1670 + 18 * k + x) (by omega) (by omega), if_pos (ivMA w (by omega) (by omega)), ivMK6 w q1.1 (by omega) x0.1 (by omega), if_pos x0]
        · rw [bI_f x0, if_pos rfl, if_neg x0]
  · rw [bI_f q1, if_pos rfl, cI_f q1]
/-- plain sums -/
def Sm (g : Int → Int) : Nat → Int → Int
  | 0, _ => 0
  | n + 1, i => g i + Sm g n (i + 1)
theorem Sm_b {g : Int → Int} {B : Int} (B0 : 0 ≤ B) : ∀ (n : Nat) (i : Int), (∀ j, i ≤ j → j < i + n → 0 ≤ g j ∧ g j ≤ B) → 0 ≤ Sm g n i ∧ Sm g n i ≤ B * n
  | 0, i, _ => by show (0 : Int) ≤ 0 ∧ (0 : Int) ≤ B * 0; omega
  | n + 1, i, e => by
    have a := e i (by omega) (by omega)
    have b := Sm_b B0 n (i + 1) (fun j j0 j1 => e j (by omega) (by omega))
    have m : B * ((n + 1 : Nat) : Int) = B * n + B := by rw [show ((n + 1 : Nat) : Int) = (n : Int) + 1 by omega, Int.mul_add, Int.mul_one]
    show 0 ≤ g i + Sm g n (i + 1) ∧ g i + Sm g n (i + 1) ≤ B * ((n + 1 : Nat) : Int)
    rw [m]
    omega
theorem Sm_cg {g g' : Int → Int} : ∀ (n : Nat) (i : Int), (∀ j, i ≤ j → j < i + n → g j = g' j) → Sm g n i = Sm g' n i
  | 0, _, _ => rfl
  | n + 1, i, e => by
    show g i + Sm g n (i + 1) = g' i + Sm g' n (i + 1)
    rw [e i (by omega) (by omega), Sm_cg n (i + 1) (fun j j0 j1 => e j (by omega) (by omega))]
theorem Sm_add (f g : Int → Int) : ∀ (n : Nat) (i : Int), Sm (fun j => f j + g j) n i = Sm f n i + Sm g n i
  | 0, _ => rfl
  | n + 1, i => by
    show f i + g i + Sm (fun j => f j + g j) n (i + 1) = (f i + Sm f n (i + 1)) + (g i + Sm g n (i + 1))
    rw [Sm_add f g n (i + 1)]
    omega
theorem Sm_mul (c : Int) (g : Int → Int) : ∀ (n : Nat) (i : Int), Sm (fun j => c * g j) n i = c * Sm g n i
  | 0, _ => (Int.mul_zero c).symm
  | n + 1, i => by
    show c * g i + Sm (fun j => c * g j) n (i + 1) = c * (g i + Sm g n (i + 1))
    rw [Sm_mul c g n (i + 1), Int.mul_add]
theorem Sm_zero : ∀ (n : Nat) (i : Int), Sm (fun _ => 0) n i = 0
  | 0, _ => rfl
  | n + 1, i => by show 0 + Sm (fun _ => 0) n (i + 1) = 0; rw [Sm_zero n (i + 1)]; rfl
theorem Sm_swap (f : Int → Int → Int) (m : Nat) (j : Int) : ∀ (n : Nat) (i : Int), Sm (fun x => Sm (fun y => f x y) m j) n i = Sm (fun y => Sm (fun x => f x y) n i) m j
  | 0, i => (Sm_zero m j).symm
  | n + 1, i => by
    show Sm (fun y => f i y) m j + Sm (fun x => Sm (fun y => f x y) m j) n (i + 1) = Sm (fun y => f i y + Sm (fun x => f x y) n (i + 1)) m j
    rw [Sm_swap f m j n (i + 1), ← Sm_add]
/-- seen or not -/
def sn (S : Int → Int) (i e : Int) : Int := if w32 (10000 * S (6 + i)) < w32 (w32 (S 4 * e) * e) then 0 else 1
theorem sn_b (S : Int → Int) (i e : Int) : sn S i e = 0 ∨ sn S i e = 1 := by unfold sn; split; exact Or.inl rfl; exact Or.inr rfl
theorem s_seen {h : Hp} {c : Int} {S : Int → Int} (w : SkyC h c S) {i : Int} (i0 : 0 ≤ i) (i1 : i < S 0) (e : Int) : C_Sk_isSeen c i e h = some (sn S i e, h) := by
  have s0 := w.2.2.1.1
  rw [E_Sk_isSeen, if_pos (skF w), (sk6 w).1, if_pos (skA1 w i0 (by omega)), if_pos (skF w), (w.2.2.2 i i0 i1).1, w.2.1 4 (by omega) (by omega)]
  unfold sn
  split <;> rfl
theorem m_seen {h : Hp} {T : Int → Int} (w : Inv h T) {k i : Int} (k0 : 0 ≤ k) (k1 : k < 3) (i0 : 0 ≤ i) (i1 : i < 6) (e : Int) : C_Mo_isSeen 124 (1670 + 18 * k) i e h = some (sn (skyT T k) i e, h) := by
  have e6 := ivMK6 w (o := 6 + i) k0 k1 (by omega) (by omega)
  have e4 := ivMK6 w (o := 4) k0 k1 (by omega) (by omega)
  rw [E_Mo_isSeen, if_pos (ivM w), ivM0 w, w32_id (x := 1670 + 18 * k + 6) (by omega) (by omega), w32_id (x := 1670 + 18 * k + 6 + i) (by omega) (by omega), if_pos (ivMA w (by omega) (by omega)), if_pos (ivM w), w32_id (x := 1670 + 18 * k + 4) (by omega) (by omega), if_pos (ivMA w (by omega) (by omega)), show 1670 + 18 * k + 6 + i = 1670 + 18 * k + (6 + i) by omega, e6, e4]
  unfold sn
  split <;> rfl
def gM (S : Int → Int) (i : Int) : Int := S (12 + i)
def gLt (S : Int → Int) (i : Int) : Int := S (12 + i) * S (6 + i)
theorem gM_b {S : Int → Int} (o : Sok S) {i : Int} (i0 : 0 ≤ i) (i1 : i < S 0) : 1 ≤ gM S i ∧ gM S i ≤ 9 := (o.2.2.2.2.2.2 i i0 i1).2
theorem gLt_b {S : Int → Int} (o : Sok S) {i : Int} (i0 : 0 ≤ i) (i1 : i < S 0) : 1 ≤ gLt S i ∧ gLt S i ≤ 8991 := by
  have a := o.2.2.2.2.2.2 i i0 i1
  have m := mul_b (a := S (12 + i)) (b := S (6 + i)) 9 999 (by omega) (by omega) (by omega) (by omega)
  have p := Int.mul_le_mul (a := 1) (b := 1) (c := S (12 + i)) (d := S (6 + i)) (by omega) (by omega) (by omega) (by omega)
  unfold gLt
  omega
theorem sn_m {S : Int → Int} {i e x B : Int} (x0 : 0 ≤ x) (x1 : x ≤ B) : 0 ≤ sn S i e * x ∧ sn S i e * x ≤ B := by
  rcases sn_b S i e with z | z
  · rw [z, Int.zero_mul]; omega
  · rw [z, Int.one_mul]; omega
theorem l_cs {h : Hp} {c : Int} {S : Int → Int} (w : SkyC h c S) {e : Int} : ∀ (n : Nat) (i a : Int), 0 ≤ i → i + n = S 0 → 0 ≤ a → a ≤ 9 * i → P_Sk_countSeen_4 c e a i h = some (a + Sm (fun i => sn S i e * gM S i) n i, h) := by
  have o := w.2.2.1
  have s0 := o.1
  have e0 := w.2.1 0 (by omega) (by omega)
  intro n
  induction n with
  | zero =>
    intro i a i0 hi a0 a1
    rw [E_Sk_countSeen_4, if_pos (skF w), e0, if_neg (by omega)]
    show _ = some (a + 0, h)
    rw [Int.add_zero]
  | succ n ih =>
    intro i a i0 hi a0 a1
    have m := gM_b o i0 (show i < S 0 by omega)
    rw [E_Sk_countSeen_4, if_pos (skF w), e0, if_pos (show i < S 0 by omega), if_pos (skF w), s_seen w i0 (by omega), bind_some', if_pos (skF w), (sk6 w).2, if_pos (skA2 w i0 (by omega)), (w.2.2.2 i i0 (by omega)).2, w32_id (x := i + 1) (by omega) (by omega)]
    dsimp only
    show _ = some (a + (sn S i e * gM S i + Sm (fun i => sn S i e * gM S i) n (i + 1)), h)
    rw [← Int.add_assoc]
    have eg : S (12 + i) = gM S i := rfl
    rw [eg]
    rcases sn_b S i e with z | z
    · rw [z, if_pos rfl, Int.zero_mul, w32_id (x := a + 0) (by omega) (by omega)]
      exact ih (i + 1) (a + 0) (by omega) (by omega) (by omega) (by omega)
    · rw [z, if_neg n10, Int.one_mul, w32_id (x := a + gM S i) (by omega) (by omega)]
      exact ih (i + 1) (a + gM S i) (by omega) (by omega) (by omega) (by omega)
theorem l_ls {h : Hp} {c : Int} {S : Int → Int} (w : SkyC h c S) {e : Int} : ∀ (n : Nat) (i a : Int), 0 ≤ i → i + n = S 0 → 0 ≤ a → a ≤ 8991 * i → P_Sk_lightSeen_4 c e a i h = some (a + Sm (fun i => sn S i e * gLt S i) n i, h) := by
  have o := w.2.2.1
  have s0 := o.1
  have e0 := w.2.1 0 (by omega) (by omega)
  intro n
  induction n with
  | zero =>
    intro i a i0 hi a0 a1
    rw [E_Sk_lightSeen_4, if_pos (skF w), e0, if_neg (by omega)]
    show _ = some (a + 0, h)
    rw [Int.add_zero]
  | succ n ih =>
    intro i a i0 hi a0 a1
    have m := gLt_b o i0 (show i < S 0 by omega)
    have eg : S (12 + i) * S (6 + i) = gLt S i := rfl
    rw [E_Sk_lightSeen_4, if_pos (skF w), e0, if_pos (show i < S 0 by omega), if_pos (skF w), s_seen w i0 (by omega), bind_some', if_pos (skF w), (sk6 w).2, if_pos (skA2 w i0 (by omega)), if_pos (skF w), (sk6 w).1, if_pos (skA1 w i0 (by omega)), (w.2.2.2 i i0 (by omega)).1, (w.2.2.2 i i0 (by omega)).2, w32_id (x := i + 1) (by omega) (by omega), eg, w32_id (x := gLt S i) (by omega) (by omega)]
    dsimp only
    show _ = some (a + (sn S i e * gLt S i + Sm (fun i => sn S i e * gLt S i) n (i + 1)), h)
    rw [← Int.add_assoc]
    rcases sn_b S i e with z | z
    · rw [z, if_pos rfl, Int.zero_mul, w32_id (x := a + 0) (by omega) (by omega)]
      exact ih (i + 1) (a + 0) (by omega) (by omega) (by omega) (by omega)
    · rw [z, if_neg n10, Int.one_mul, w32_id (x := a + gLt S i) (by omega) (by omega)]
      exact ih (i + 1) (a + gLt S i) (by omega) (by omega) (by omega) (by omega)
theorem l_ca {h : Hp} {c : Int} {S : Int → Int} (w : SkyC h c S) : ∀ (n : Nat) (i a : Int), 0 ≤ i → i + n = S 0 → 0 ≤ a → a ≤ 9 * i → P_Sk_countAll_4 c a i h = some (a + Sm (gM S) n i, h) := by
  have o := w.2.2.1
  have s0 := o.1
  have e0 := w.2.1 0 (by omega) (by omega)
  intro n
  induction n with
  | zero =>
    intro i a i0 hi a0 a1
    rw [E_Sk_countAll_4, if_pos (skF w), e0, if_neg (by omega)]
    show _ = some (a + 0, h)
    rw [Int.add_zero]
  | succ n ih =>
    intro i a i0 hi a0 a1
    have m := gM_b o i0 (show i < S 0 by omega)
    have eg : S (12 + i) = gM S i := rfl
    rw [E_Sk_countAll_4, if_pos (skF w), e0, if_pos (show i < S 0 by omega), if_pos (skF w), (sk6 w).2, if_pos (skA2 w i0 (by omega)), (w.2.2.2 i i0 (by omega)).2, w32_id (x := i + 1) (by omega) (by omega), eg, w32_id (x := a + gM S i) (by omega) (by omega)]
    show _ = some (a + (gM S i + Sm (gM S) n (i + 1)), h)
    rw [← Int.add_assoc]
    exact ih (i + 1) (a + gM S i) (by omega) (by omega) (by omega) (by omega)
theorem l_la {h : Hp} {c : Int} {S : Int → Int} (w : SkyC h c S) : ∀ (n : Nat) (i a : Int), 0 ≤ i → i + n = S 0 → 0 ≤ a → a ≤ 8991 * i → P_Sk_lightOfAll_4 c a i h = some (a + Sm (gLt S) n i, h) := by
  have o := w.2.2.1
  have s0 := o.1
  have e0 := w.2.1 0 (by omega) (by omega)
  intro n
  induction n with
  | zero =>
    intro i a i0 hi a0 a1
    rw [E_Sk_lightOfAll_4, if_pos (skF w), e0, if_neg (by omega)]
    show _ = some (a + 0, h)
    rw [Int.add_zero]
  | succ n ih =>
    intro i a i0 hi a0 a1
    have m := gLt_b o i0 (show i < S 0 by omega)
    have eg : S (12 + i) * S (6 + i) = gLt S i := rfl
    rw [E_Sk_lightOfAll_4, if_pos (skF w), e0, if_pos (show i < S 0 by omega), if_pos (skF w), (sk6 w).2, if_pos (skA2 w i0 (by omega)), if_pos (skF w), (sk6 w).1, if_pos (skA1 w i0 (by omega)), (w.2.2.2 i i0 (by omega)).1, (w.2.2.2 i i0 (by omega)).2, w32_id (x := i + 1) (by omega) (by omega), eg, w32_id (x := gLt S i) (by omega) (by omega), w32_id (x := a + gLt S i) (by omega) (by omega)]
    show _ = some (a + (gLt S i + Sm (gLt S) n (i + 1)), h)
    rw [← Int.add_assoc]
    exact ih (i + 1) (a + gLt S i) (by omega) (by omega) (by omega) (by omega)
def zCn (S : Int → Int) (e : Int) : Int := Sm (fun i => sn S i e * gM S i) (S 0).toNat 0
def zLg (S : Int → Int) (e : Int) : Int := Sm (fun i => sn S i e * gLt S i) (S 0).toNat 0
theorem s_count {h : Hp} {c : Int} {S : Int → Int} (w : SkyC h c S) (e : Int) : C_Sk_countSeen c e h = some (zCn S e, h) := by
  have s0 := w.2.2.1.1
  rw [E_Sk_countSeen, l_cs w (S 0).toNat 0 0 (by omega) (by omega) (by omega) (by omega), Int.zero_add]
  rfl
theorem s_light {h : Hp} {c : Int} {S : Int → Int} (w : SkyC h c S) (e : Int) : C_Sk_lightSeen c e h = some (zLg S e, h) := by
  have s0 := w.2.2.1.1
  rw [E_Sk_lightSeen, l_ls w (S 0).toNat 0 0 (by omega) (by omega) (by omega) (by omega), Int.zero_add]
  rfl
theorem s_all {h : Hp} {c : Int} {S : Int → Int} (w : SkyC h c S) : C_Sk_countAll c h = some (Sm (gM S) (S 0).toNat 0, h) ∧ C_Sk_lightOfAll c h = some (Sm (gLt S) (S 0).toNat 0, h) := by
  have s0 := w.2.2.1.1
  constructor
  · rw [E_Sk_countAll, l_ca w (S 0).toNat 0 0 (by omega) (by omega) (by omega) (by omega), Int.zero_add]
  · rw [E_Sk_lightOfAll, l_la w (S 0).toNat 0 0 (by omega) (by omega) (by omega) (by omega), Int.zero_add]
noncomputable def aSeen (T : Int → Int) (k e : Int) : Int := cI ((0 ≤ k ∧ k < T 2) ∧ 1 ≤ e ∧ e ≤ 200) (zCn (skyT T k) e) (-1)
theorem q_seen {h : Hp} {T : Int → Int} (w : Inv h T) (k e : Int) : C_LS_seen 1 k e h = some (aSeen T k e, h) := by
  have n := ivn w
  rw [E_LS_seen, if_pos (iv1 w), s_isSky w, bind_some']
  unfold aSeen
  by_cases q1 : 0 ≤ k ∧ k < T 2
  · have c := ivK w q1.1 q1.2
    have i6 := iv6 w q1.1 (show k < 3 by omega)
    rw [bI_t q1, if_neg n10]
    by_cases q2 : 1 ≤ e ∧ e ≤ 200
    · rw [if_neg (show ¬ e < 1 by omega), if_neg (show ¬ 200 < e by omega), if_pos (iv1 w), iv10 w, if_pos (iv2 w), i6.1, if_pos i6.2.1, i6.2.2, if_pos (skF c), s_count c, bind_some', cI_t ⟨q1, q2⟩]
    · rw [cI_f (fun z => q2 z.2)]
      by_cases z : e < 1
      · rw [if_pos z]
      · rw [if_neg z, if_pos (by omega)]
  · rw [bI_f q1, if_pos rfl, cI_f (fun z => q1 z.1)]
theorem l_mcs {h : Hp} {T : Int → Int} (w : Inv h T) {k e : Int} (k0 : 0 ≤ k) (k1 : k < T 2) : ∀ (n : Nat) (i a : Int), 0 ≤ i → i + n = skyT T k 0 → 0 ≤ a → a ≤ 9 * i → P_Mo_seenAt_5 124 (1670 + 18 * k) e a i h = some (a + Sm (fun i => sn (skyT T k) i e * gM (skyT T k) i) n i, h) := by
  have nn := ivn w
  have o := (ivK w k0 k1).2.2.1
  have s0 := o.1
  have e0 := ivMK6 w (o := 0) k0 (show k < 3 by omega) (by omega) (by omega)
  intro n
  induction n with
  | zero =>
    intro i a i0 hi a0 a1
    rw [E_Mo_seenAt_5, if_pos (ivM w), ivM0 w, w32_id (x := 1670 + 18 * k + 0) (by omega) (by omega), if_pos (ivMA w (by omega) (by omega)), e0, if_neg (by omega)]
    show _ = some (a + 0, h)
    rw [Int.add_zero]
  | succ n ih =>
    intro i a i0 hi a0 a1
    have m := gM_b o i0 (show i < skyT T k 0 by omega)
    have e12 : mR h 125 (1670 + 18 * k + (12 + i)) = gM (skyT T k) i := ivMK6 w k0 (by omega) (by omega) (by omega)
    rw [E_Mo_seenAt_5, if_pos (ivM w), ivM0 w, w32_id (x := 1670 + 18 * k + 0) (by omega) (by omega), if_pos (ivMA w (by omega) (by omega)), e0, if_pos (show i < skyT T k 0 by omega), if_pos (ivM w), m_seen w k0 (by omega) i0 (by omega), bind_some', if_pos (ivM w), ivM0 w, w32_id (x := 1670 + 18 * k + 12) (by omega) (by omega), w32_id (x := 1670 + 18 * k + 12 + i) (by omega) (by omega), if_pos (ivMA w (by omega) (by omega)), show 1670 + 18 * k + 12 + i = 1670 + 18 * k + (12 + i) by omega, e12, w32_id (x := i + 1) (by omega) (by omega)]
    dsimp only
    show _ = some (a + (sn (skyT T k) i e * gM (skyT T k) i + Sm (fun i => sn (skyT T k) i e * gM (skyT T k) i) n (i + 1)), h)
    rw [← Int.add_assoc]
    rcases sn_b (skyT T k) i e with z | z
    · rw [z, if_pos rfl, Int.zero_mul, w32_id (x := a + 0) (by omega) (by omega)]
      exact ih (i + 1) (a + 0) (by omega) (by omega) (by omega) (by omega)
    · rw [z, if_neg n10, Int.one_mul, w32_id (x := a + gM (skyT T k) i) (by omega) (by omega)]
      exact ih (i + 1) (a + gM (skyT T k) i) (by omega) (by omega) (by omega) (by omega)
theorem r_seen {h : Hp} {T : Int → Int} (w : Inv h T) (k e : Int) : C_Mo_seen 124 k e h = some (aSeen T k e, h) := by
  have n := ivn w
  rw [E_Mo_seen, if_pos (ivM w), m_isSky w, bind_some']
  unfold aSeen
  by_cases q1 : 0 ≤ k ∧ k < T 2
  · have s0 := (ivK w q1.1 q1.2).2.2.1.1
    rw [bI_t q1, if_neg n10, m_isIn, bind_some']
    by_cases q2 : 1 ≤ e ∧ e ≤ 200
    · rw [bI_t q2, if_neg n10, m_skyAt q1.1 (by omega), bind_some', if_pos (ivM w), E_Mo_seenAt, l_mcs w q1.1 q1.2 (skyT T k 0).toNat 0 0 (by omega) (by omega) (by omega) (by omega), bind_some', cI_t ⟨q1, q2⟩, Int.zero_add]
      rfl
    · rw [bI_f q2, if_pos rfl, cI_f (fun z => q2 z.2)]
  · rw [bI_f q1, if_pos rfl, cI_f (fun z => q1 z.1)]
