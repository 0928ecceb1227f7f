/-! Tokens: what both readers see. -/
def ru (P : Int → Bool) (L : Int) : Nat → Int → Int
  | 0, p => p
  | n + 1, p => if p < L ∧ P p = true then ru P L n (p + 1) else p
def rn (P : Int → Bool) (L p : Int) : Int := ru P L (L - p).toNat p
theorem rn_t {P : Int → Bool} {L p : Int} (h1 : p < L) (h2 : P p = true) : rn P L p = rn P L (p + 1) := by
  unfold rn
  rw [show (L - p).toNat = (L - (p + 1)).toNat + 1 by omega]
  show (if p < L ∧ P p = true then ru P L (L - (p + 1)).toNat (p + 1) else p) = _
  rw [if_pos ⟨h1, h2⟩]
theorem rn_f {P : Int → Bool} {L p : Int} (h : ¬ (p < L ∧ P p = true)) : rn P L p = p := by
  unfold rn
  cases (L - p).toNat with
  | zero => rfl
  | succ n =>
    show (if p < L ∧ P p = true then ru P L n (p + 1) else p) = _
    rw [if_neg h]
theorem rn_b {P : Int → Bool} {L : Int} : ∀ (n : Nat) (p : Int), p + n = L → p ≤ rn P L p ∧ rn P L p ≤ L ∧ (rn P L p < L → P (rn P L p) = false) ∧ ∀ j, p ≤ j → j < rn P L p → P j = true
  | 0, p, h => by
    rw [rn_f (by omega)]
    exact ⟨Int.le_refl _, by omega, fun x => by omega, fun j a b => by omega⟩
  | n + 1, p, h => by
    by_cases q : P p = true
    · rw [rn_t (by omega) q]
      obtain ⟨a, b, c, d⟩ := rn_b (P := P) (L := L) n (p + 1) (by omega)
      refine ⟨by omega, b, c, fun j j0 j1 => ?_⟩
      by_cases z : j = p
      · rw [z]; exact q
      · exact d j (by omega) j1
    · rw [rn_f (fun x => q x.2)]
      exact ⟨Int.le_refl _, by omega, fun _ => by simpa using q, fun j a b => by omega⟩
theorem rn_c {P : Int → Bool} {L p : Int} (h : p ≤ L) : p ≤ rn P L p ∧ rn P L p ≤ L ∧ (rn P L p < L → P (rn P L p) = false) ∧ ∀ j, p ≤ j → j < rn P L p → P j = true := rn_b (L - p).toNat p (by omega)
def wsB (B : Int → Int) (j : Int) : Bool := decide (B j = 10 ∨ B j = 32)
def ltB (B : Int → Int) (j : Int) : Bool := decide (97 ≤ B j ∧ B j ≤ 122)
def dgB (B : Int → Int) (j : Int) : Bool := decide (48 ≤ B j ∧ B j ≤ 57)
def tA (B : Int → Int) (L p : Int) : Int := rn (wsB B) L p
def tE (B : Int → Int) (L p : Int) : Int := if tA B L p < L then (if B (tA B L p) = 59 then tA B L p + 1 else if ltB B (tA B L p) = true then rn (ltB B) L (tA B L p) else if dgB B (tA B L p) = true then rn (dgB B) L (tA B L p) else tA B L p + 1) else tA B L p
def hs (B : Int → Int) (a : Int) : Nat → Int
  | 0 => 0
  | n + 1 => 32 * hs B a n + (B (a + n) - 96)
def vd (B : Int → Int) (a : Int) : Nat → Int
  | 0 => 0
  | n + 1 => vd B a n * 10 + B (a + n) - 48
def wC (x : Int) : Int := if x = 67173 then 1 else if x = 494 then 2 else if x = 56377 then 3 else if x = 687572548 then 4 else if x = 20594117 then 5 else if x = 8243 then 6 else if x = 22117 then 11 else if x = 23609 then 12 else if x = 398382 then 13 else if x = 99956 then 14 else if x = 21252599 then 15 else if x = 6605428 then 21 else if x = 431150 then 22 else if x = 394868 then 23 else if x = 688 then 24 else if x = 147182 then 25 else if x = 650632370 then 31 else if x = 203018418 then 32 else if x = 475056306 then 33 else if x = 6495543474 then 34 else if x = 15492 then 35 else if x = 12885268 then 41 else if x = 20452516 then 42 else if x = 16110 then 43 else if x = 5714 then 44 else if x = 12891444 then 45 else if x = 21570739 then 46 else 99
def tW (B : Int → Int) (L p : Int) : Int := if 7 < tE B L p - tA B L p then 99 else wC (hs B (tA B L p) (tE B L p - tA B L p).toNat)
def tV (B : Int → Int) (L p : Int) : Int := vd B (tA B L p) (tE B L p - tA B L p).toNat
def tK (B : Int → Int) (L p : Int) : Int := if tA B L p < L then (if B (tA B L p) = 59 then 2 else if ltB B (tA B L p) = true then (if tW B L p = 99 then 5 else 3) else if dgB B (tA B L p) = true then (if 4 < tE B L p - tA B L p then 4 else 1) else 4) else 0
def cK (k : Int) : Int := if k = 0 then 0 else if k = 1 then 2 else if k = 2 then 3 else if k = 3 ∨ k = 5 then 1 else 4
def Byt (B : Int → Int) (L : Int) : Prop := (0 ≤ L ∧ L ≤ 500) ∧ ∀ j, 0 ≤ j → j < L → 0 ≤ B j ∧ B j ≤ 255
def RdB (h : Hp) (B : Int → Int) (L : Int) : Prop := mK h 82 = 6 ∧ mR h 82 0 = 83 ∧ (mK h 83 = 101 ∧ mL h 83 = 500) ∧ mR h 82 1 = L ∧ Byt B L ∧ ∀ j, 0 ≤ j → j < L → mR h 83 j = w8 (B j)
def pRs (b i : Int) : Prop := b = 82 ∧ 2 ≤ i ∧ i ≤ 5
def pRf (b i : Int) : Prop := b = 82 ∧ 2 ≤ i ∧ i ≤ 7
theorem pRs_f (b i : Int) (q : pRs b i) : pRf b i := ⟨q.1, q.2.1, by have := q.2.2; omega⟩
theorem RdB.of {h h' : Hp} {B : Int → Int} {L : Int} (r : RdB h B L) (f : Fr pRf h h') : RdB h' B L := by
  obtain ⟨r1, r2, r3, r4, r5, r6⟩ := r
  exact ⟨by rw [f.1.k]; exact r1, by rw [f.2 82 0 (by unfold pRf; omega)]; exact r2, by rw [f.1.k, f.1.l]; exact r3, by rw [f.2 82 1 (by unfold pRf; omega)]; exact r4, r5, fun j j0 j1 => by rw [f.2 83 j (by unfold pRf; omega)]; exact r6 j j0 j1⟩
theorem w8_c {x : Int} (h0 : 0 ≤ x) (h1 : x ≤ 255) : (x ≤ 127 ∧ w8 x = x) ∨ (128 ≤ x ∧ w8 x = x - 256) := by
  by_cases z : x ≤ 127
  · exact Or.inl ⟨z, w8_id (by omega) z⟩
  · refine Or.inr ⟨by omega, ?_⟩
    unfold w8
    rw [Int.bmod_def]
    have e : x % ((256 : Nat) : Int) = x := by omega
    rw [e, if_neg (by omega)]
    rfl
theorem c_isLt (b : Int) (h : Hp) : C_Re_isLetter b h = some (bI (97 ≤ b ∧ b ≤ 122), h) := by
  rw [E_Re_isLetter]
  by_cases z : b < 97
  · rw [if_pos z, bI_f (by omega)]
  · rw [if_neg z]
    by_cases y : 122 < b
    · rw [if_pos y, bI_f (by omega)]
    · rw [if_neg y, bI_t (by omega)]
theorem c_isDg (b : Int) (h : Hp) : C_Re_isDigit b h = some (bI (48 ≤ b ∧ b ≤ 57), h) := by
  rw [E_Re_isDigit]
  by_cases z : b < 48
  · rw [if_pos z, bI_f (by omega)]
  · rw [if_neg z]
    by_cases y : 57 < b
    · rw [if_pos y, bI_f (by omega)]
    · rw [if_neg y, bI_t (by omega)]
theorem rdo {h : Hp} {B : Int → Int} {L : Int} (r : RdB h B L) : okF h 82 6 = true := okF_t r.1
theorem rdb {h : Hp} {B : Int → Int} {L q : Int} (r : RdB h B L) (q0 : 0 ≤ q) (q1 : q < L) : okB h 83 q = true := okB_t r.2.2.1 q0 (by have := r.2.2.2.2.1.1; omega)
theorem RdB.w {h : Hp} {B : Int → Int} {L : Int} (r : RdB h B L) {i : Int} (v : Int) (i0 : 2 ≤ i) (i1 : i ≤ 5) : Fr pRs h (mW h 82 i v) ∧ RdB (mW h 82 i v) B L := by
  have f : Fr pRs h (mW h 82 i v) := Fr.W h v ⟨rfl, i0, i1⟩
  exact ⟨f, r.of (f.to pRs_f)⟩
theorem l_let {B : Int → Int} {L : Int} : ∀ (n : Nat) (q : Int) (h : Hp), RdB h B L → mR h 82 2 = q → 0 ≤ q → q + n = L → ∃ h', P_Re_takeLetters_0 82 h = some (0, h') ∧ Fr pRs h h' ∧ mR h' 82 2 = rn (ltB B) L q ∧ mR h' 82 3 = mR h 82 3 ∧ mR h' 82 4 = 1 := by
  intro n
  induction n with
  | zero =>
    intro q h r e q0 hq
    obtain ⟨f1, r1⟩ := r.w (i := 4) 1 (by omega) (by omega)
    refine ⟨_, ?_, f1, ?_, mR_ni (by decide), mR_same _ _ _ _⟩
    · rw [E_Re_takeLetters_0, if_pos (rdo r), if_pos (rdo r), e, r.2.2.2.1, if_neg (by omega), if_pos (rdo r), hb_eq]
    · rw [mR_ni (by decide), e, rn_f (by omega)]
  | succ n ih =>
    intro q h r e q0 hq
    have b := r.2.2.2.2.1.2 q q0 (by omega)
    have c := w8_c b.1 b.2
    have lb := r.2.2.2.2.1.1
    rw [E_Re_takeLetters_0, if_pos (rdo r), if_pos (rdo r), e, r.2.2.2.1, if_pos (show q < L by omega), if_pos (rdo r), if_pos (rdo r), r.2.1, if_pos (rdb r q0 (by omega)), c_isLt, bind_some', r.2.2.2.2.2 q q0 (by omega)]
    by_cases z : 97 ≤ B q ∧ B q ≤ 122
    · obtain ⟨f1, r1⟩ := r.w (i := 2) (q + 1) (by omega) (by omega)
      obtain ⟨h2, g2, f2, a2, b2, c2⟩ := ih (q + 1) _ r1 (mR_same _ _ _ _) (by omega) (by omega)
      refine ⟨h2, ?_, f1.tr f2, by rw [a2, rn_t (show q < L by omega) (decide_eq_true z)], by rw [b2, mR_ni (by decide)], c2⟩
      rw [bI_t (by omega), if_neg n10, if_pos (rdo r), if_pos (rdo r), e, hb_eq, w32_id (x := q + 1) (by omega) (by omega)]
      exact g2
    · obtain ⟨f1, r1⟩ := r.w (i := 4) 1 (by omega) (by omega)
      refine ⟨_, ?_, f1, ?_, mR_ni (by decide), mR_same _ _ _ _⟩
      · rw [bI_f (by omega), if_pos rfl, if_pos (rdo r), hb_eq]
      · rw [mR_ni (by decide), e, rn_f (fun x => z (of_decide_eq_true x.2))]
theorem vd_b {B : Int → Int} {a : Int} : ∀ n : Nat, (∀ j, a ≤ j → j < a + n → 48 ≤ B j ∧ B j ≤ 57) → 0 ≤ vd B a n ∧ vd B a n + 1 ≤ 10 ^ n
  | 0, _ => by show (0 : Int) ≤ 0 ∧ (0 : Int) + 1 ≤ 1; omega
  | n + 1, h => by
    have i := vd_b n (fun j j0 j1 => h j j0 (by omega))
    have d := h (a + n) (by omega) (by omega)
    show 0 ≤ vd B a n * 10 + B (a + n) - 48 ∧ vd B a n * 10 + B (a + n) - 48 + 1 ≤ 10 ^ (n + 1)
    rw [Int.pow_succ]
    omega
theorem p10 (n : Nat) (h : n ≤ 4) : (10 : Int) ^ n ≤ 10000 := by
  have : n = 0 ∨ n = 1 ∨ n = 2 ∨ n = 3 ∨ n = 4 := by omega
  rcases this with z | z | z | z | z <;> rw [z] <;> decide
theorem l_dig {B : Int → Int} {L a : Int} (a0 : 0 ≤ a) : ∀ (n : Nat) (q : Int) (h : Hp), RdB h B L → mR h 82 2 = q → mR h 82 3 = a → (q - a ≤ 4 → mR h 82 5 = vd B a (q - a).toNat) → a ≤ q → q + n = L → (∀ j, a ≤ j → j < q → 48 ≤ B j ∧ B j ≤ 57) → ∃ h', P_Re_takeDigits_5 82 h = some (0, h') ∧ Fr pRs h h' ∧ mR h' 82 2 = rn (dgB B) L q ∧ mR h' 82 3 = a ∧ mR h' 82 4 = (if 4 < rn (dgB B) L q - a then 4 else 2) ∧ (rn (dgB B) L q - a ≤ 4 → mR h' 82 5 = vd B a (rn (dgB B) L q - a).toNat) := by
  intro n
  induction n with
  | zero =>
    intro q h r e ea ev q0 hq dd
    have lb := r.2.2.2.2.1.1
    obtain ⟨f1, r1⟩ := r.w (i := 4) (if 4 < q - a then 4 else 2) (by omega) (by omega)
    rw [rn_f (show ¬ (q < L ∧ dgB B q = true) by omega)]
    refine ⟨mW h 82 4 (if 4 < q - a then 4 else 2), ?_, f1, by rw [mR_ni (by decide)]; exact e, by rw [mR_ni (by decide)]; exact ea, mR_same _ _ _ _, fun x => by rw [mR_ni (by decide)]; exact ev x⟩
    rw [E_Re_takeDigits_5, if_pos (rdo r), if_pos (rdo r), e, r.2.2.2.1, if_neg (by omega), if_pos (rdo r), if_pos (rdo r), ea, w32_id (x := q - a) (by omega) (by omega)]
    by_cases z : 4 < q - a
    · rw [if_pos z, if_pos z, if_pos (rdo r), hb_eq]
    · rw [if_neg z, if_neg z, if_pos (rdo r), hb_eq]
  | succ n ih =>
    intro q h r e ea ev q0 hq dd
    have b := r.2.2.2.2.1.2 q (by omega) (by omega)
    have c := w8_c b.1 b.2
    have lb := r.2.2.2.2.1.1
    rw [E_Re_takeDigits_5, if_pos (rdo r), if_pos (rdo r), e, r.2.2.2.1, if_pos (show q < L by omega), if_pos (rdo r), if_pos (rdo r), r.2.1, if_pos (rdb r (by omega) (by omega)), c_isDg, bind_some', r.2.2.2.2.2 q (by omega) (by omega)]
    by_cases z : 48 ≤ B q ∧ B q ≤ 57
    · have dd' : ∀ j, a ≤ j → j < q + 1 → 48 ≤ B j ∧ B j ≤ 57 := fun j j0 j1 => by
        by_cases y : j = q
        · rw [y]; exact z
        · exact dd j j0 (by omega)
      rw [bI_t (by omega), if_neg n10, if_pos (rdo r), if_pos (rdo r), ea]
      dsimp only
      rw [e, w32_id (x := q - a) (by omega) (by omega), rn_t (show q < L by omega) (decide_eq_true z)]
      by_cases y : q - a < 4
      · have vv := ev (by omega)
        have vb := vd_b (B := B) (a := a) (q - a).toNat (fun j j0 j1 => dd j j0 (by omega))
        have p4 := p10 (q - a).toNat (by omega)
        have en : vd B a (q + 1 - a).toNat = vd B a (q - a).toNat * 10 + B q - 48 := by
          rw [show (q + 1 - a).toNat = (q - a).toNat + 1 by omega]
          show vd B a (q - a).toNat * 10 + B (a + (q - a).toNat) - 48 = _
          rw [show a + ((q - a).toNat : Int) = q by omega]
        obtain ⟨f1, r1⟩ := r.w (i := 5) (vd B a (q + 1 - a).toNat) (by omega) (by omega)
        obtain ⟨f2, r2⟩ := r1.w (i := 2) (q + 1) (by omega) (by omega)
        obtain ⟨h3, g3, f3, a3, b3, c3, d3⟩ := ih (q + 1) _ r2 (mR_same _ _ _ _) (by rw [mR_ni (by decide), mR_ni (by decide)]; exact ea) (fun _ => by rw [mR_ni (by decide), mR_same]) (by omega) (by omega) dd'
        refine ⟨h3, ?_, (f1.tr f2).tr f3, a3, b3, c3, d3⟩
        have c' : w8 (B q) = B q := by omega
        rw [if_pos y, if_pos (rdo r), if_pos (rdo r), if_pos (rdo r), r.2.1, if_pos (rdb r (by omega) (by omega)), if_pos (rdo r), r.2.2.2.2.2 q (by omega) (by omega), c', vv, w32_id (x := vd B a (q - a).toNat * 10) (by omega) (by omega), w32_id (x := vd B a (q - a).toNat * 10 + B q) (by omega) (by omega), w32_id (x := vd B a (q - a).toNat * 10 + B q - 48) (by omega) (by omega), ← en, hb_eq, if_pos (rdo r1), if_pos (rdo r1), mR_ni (by decide), e, hb_eq, w32_id (x := q + 1) (by omega) (by omega)]
        exact g3
      · obtain ⟨f1, r1⟩ := r.w (i := 5) (mR h 82 5) (by omega) (by omega)
        obtain ⟨f2, r2⟩ := r1.w (i := 2) (q + 1) (by omega) (by omega)
        obtain ⟨h3, g3, f3, a3, b3, c3, d3⟩ := ih (q + 1) _ r2 (mR_same _ _ _ _) (by rw [mR_ni (by decide), mR_ni (by decide)]; exact ea) (fun _ => by omega) (by omega) (by omega) dd'
        refine ⟨h3, ?_, (f1.tr f2).tr f3, a3, b3, c3, d3⟩
        rw [if_neg y, if_pos (rdo r), if_pos (rdo r), hb_eq, if_pos (rdo r1), if_pos (rdo r1), mR_ni (by decide), e, hb_eq, w32_id (x := q + 1) (by omega) (by omega)]
        exact g3
    · obtain ⟨f1, r1⟩ := r.w (i := 4) (if 4 < q - a then 4 else 2) (by omega) (by omega)
      rw [rn_f (fun x => z (of_decide_eq_true x.2))]
      refine ⟨mW h 82 4 (if 4 < q - a then 4 else 2), ?_, f1, by rw [mR_ni (by decide)]; exact e, by rw [mR_ni (by decide)]; exact ea, mR_same _ _ _ _, fun x => by rw [mR_ni (by decide)]; exact ev x⟩
      rw [bI_f (by omega), if_pos rfl, if_pos (rdo r), if_pos (rdo r), ea]
      dsimp only
      rw [e, w32_id (x := q - a) (by omega) (by omega)]
      by_cases y : 4 < q - a
      · rw [if_pos y, if_pos y, if_pos (rdo r), hb_eq]
      · rw [if_neg y, if_neg y, if_pos (rdo r), hb_eq]
theorem l_ws {B : Int → Int} {L : Int} : ∀ (n : Nat) (q : Int) (h : Hp), RdB h B L → mR h 82 2 = q → 0 ≤ q → q + n = L → ∃ h', P_Re_step_0 82 h = P_Re_step_52 82 h' ∧ Fr pRs h h' ∧ mR h' 82 2 = rn (wsB B) L q := by
  intro n
  induction n with
  | zero =>
    intro q h r e q0 hq
    refine ⟨h, ?_, Fr.rf _ h, by rw [rn_f (by omega)]; exact e⟩
    rw [E_Re_step_0, if_pos (rdo r), if_pos (rdo r), e, r.2.2.2.1, if_neg (by omega)]
  | succ n ih =>
    intro q h r e q0 hq
    have b := r.2.2.2.2.1.2 q q0 (by omega)
    have c := w8_c b.1 b.2
    have lb := r.2.2.2.2.1.1
    obtain ⟨f1, r1⟩ := r.w (i := 2) (q + 1) (by omega) (by omega)
    obtain ⟨h2, g2, f2, a2⟩ := ih (q + 1) _ r1 (mR_same _ _ _ _) (by omega) (by omega)
    rw [E_Re_step_0, if_pos (rdo r), if_pos (rdo r), e, r.2.2.2.1, if_pos (show q < L by omega), if_pos (rdo r), if_pos (rdo r), r.2.1, if_pos (rdb r q0 (by omega)), r.2.2.2.2.2 q q0 (by omega), w32_id (x := q + 1) (by omega) (by omega)]
    by_cases z : B q = 10
    · refine ⟨h2, ?_, f1.tr f2, by rw [a2, rn_t (show q < L by omega) (decide_eq_true (Or.inl z))]⟩
      rw [if_pos (by omega), if_pos (rdo r), if_pos (rdo r), hb_eq]
      exact g2
    · rw [if_neg (show ¬ w8 (B q) = 10 by omega), if_pos (rdo r), if_pos (rdo r), if_pos (rdb r q0 (by omega))]
      by_cases y : B q = 32
      · refine ⟨h2, ?_, f1.tr f2, by rw [a2, rn_t (show q < L by omega) (decide_eq_true (Or.inr y))]⟩
        rw [if_pos (by omega), if_pos (rdo r), if_pos (rdo r), hb_eq]
        exact g2
      · refine ⟨h, ?_, Fr.rf _ h, by rw [rn_f (fun x => by have := of_decide_eq_true x.2; omega)]; exact e⟩
        rw [if_neg (by omega)]
/-- the class's token, looked at from place p on -/
def RC (h : Hp) (B : Int → Int) (L p : Int) : Prop := RdB h B L ∧ mR h 82 3 = tA B L p ∧ mR h 82 4 = cK (tK B L p) ∧ (tK B L p ≠ 4 → mR h 82 2 = tE B L p) ∧ (tK B L p = 1 → mR h 82 5 = tV B L p)
theorem s_step {h : Hp} {B : Int → Int} {L p : Int} (r : RdB h B L) (e : mR h 82 2 = p) (p0 : 0 ≤ p) (p1 : p ≤ L) : ∃ h', C_Re_step 82 h = some (0, h') ∧ Fr pRs h h' ∧ RC h' B L p := by
  obtain ⟨h1, g1, f1, e1⟩ := l_ws (L - p).toNat p h r e p0 (by omega)
  have r1 := r.of (f1.to pRs_f)
  have bb := rn_c (P := wsB B) p1
  have lb := r.2.2.2.2.1.1
  have eA : rn (wsB B) L p = tA B L p := rfl
  rw [eA] at e1 bb
  obtain ⟨f2, r2⟩ := r1.w (i := 3) (tA B L p) (by omega) (by omega)
  have e2 : mR (mW h1 82 3 (tA B L p)) 82 2 = tA B L p := by rw [mR_ni (by decide)]; exact e1
  have a2 : mR (mW h1 82 3 (tA B L p)) 82 3 = tA B L p := mR_same _ _ _ _
  rw [E_Re_step, g1, E_Re_step_52, if_pos (rdo r1), if_pos (rdo r1), e1, hb_eq]
  have f12 := f1.tr f2
  generalize mW h1 82 3 (tA B L p) = h2 at f12 r2 e2 a2 ⊢
  rw [if_pos (rdo r2), if_pos (rdo r2), e2, r2.2.2.2.1]
  unfold RC tV tK
  by_cases q : tA B L p < L
  · have b := r2.2.2.2.2.1.2 (tA B L p) (by omega) q
    have c := w8_c b.1 b.2
    rw [if_pos q, if_pos q, if_pos (rdo r2), if_pos (rdo r2), r2.2.1, if_pos (rdb r2 (by omega) q), r2.2.2.2.2.2 _ (by omega) q]
    by_cases m : B (tA B L p) = 59
    · have ee : tE B L p = tA B L p + 1 := by unfold tE; rw [if_pos q, if_pos m]
      obtain ⟨f3, r3⟩ := r2.w (i := 4) 3 (by omega) (by omega)
      obtain ⟨f4, r4⟩ := r3.w (i := 2) (tA B L p + 1) (by omega) (by omega)
      rw [if_pos (show w8 (B (tA B L p)) = 59 by omega), if_pos (rdo r2), hb_eq, if_pos (rdo r3), if_pos (rdo r3), mR_ni (by decide), e2, hb_eq, w32_id (x := tA B L p + 1) (by omega) (by omega), if_pos m]
      refine ⟨_, rfl, (f12.tr f3).tr f4, r4, by rw [mR_ni (by decide), mR_ni (by decide)]; exact a2, by rw [mR_ni (by decide), mR_same]; rfl, fun _ => by rw [mR_same, ee], fun x => by omega⟩
    · rw [if_neg (show ¬ w8 (B (tA B L p)) = 59 by omega), if_pos (rdo r2), if_pos (rdo r2), if_pos (rdb r2 (by omega) q), c_isLt, bind_some', if_neg m]
      by_cases l : 97 ≤ B (tA B L p) ∧ B (tA B L p) ≤ 122
      · have l' : ltB B (tA B L p) = true := decide_eq_true l
        have ee : tE B L p = rn (ltB B) L (tA B L p) := by unfold tE; rw [if_pos q, if_neg m, if_pos l']
        obtain ⟨h3, g3, f3, x3, y3, z3⟩ := l_let (L - tA B L p).toNat (tA B L p) h2 r2 e2 (by omega) (by omega)
        refine ⟨h3, ?_, f12.tr f3, r2.of (f3.to pRs_f), by rw [y3]; exact a2, ?_, fun _ => by rw [x3, ee], ?_⟩
        · rw [bI_t (by omega), if_neg n10, if_pos (rdo r2), E_Re_takeLetters, g3, bind_some']
        · rw [z3, if_pos l']
          by_cases u : tW B L p = 99
          · rw [if_pos u]; rfl
          · rw [if_neg u]; rfl
        · rw [if_pos l']
          by_cases u : tW B L p = 99
          · rw [if_pos u]; intro x; omega
          · rw [if_neg u]; intro x; omega
      · have l' : ¬ ltB B (tA B L p) = true := fun x => l (of_decide_eq_true x)
        rw [bI_f (show ¬ (97 ≤ w8 (B (tA B L p)) ∧ w8 (B (tA B L p)) ≤ 122) by omega), if_pos rfl, if_pos (rdo r2), if_pos (rdo r2), if_neg l']
        dsimp only
        rw [e2, r2.2.1, if_pos (rdb r2 (by omega) q), c_isDg, bind_some', r2.2.2.2.2.2 _ (by omega) q]
        by_cases d : 48 ≤ B (tA B L p) ∧ B (tA B L p) ≤ 57
        · have d' : dgB B (tA B L p) = true := decide_eq_true d
          have ee : tE B L p = rn (dgB B) L (tA B L p) := by unfold tE; rw [if_pos q, if_neg m, if_neg l', if_pos d']
          obtain ⟨f3, r3⟩ := r2.w (i := 5) 0 (by omega) (by omega)
          obtain ⟨h4, g4, f4, x4, y4, z4, v4⟩ := l_dig (a := tA B L p) (by omega) (L - tA B L p).toNat (tA B L p) (mW h2 82 5 0) r3 (by rw [mR_ni (by decide)]; exact e2) (by rw [mR_ni (by decide)]; exact a2) (fun _ => by rw [mR_same, show (tA B L p - tA B L p).toNat = 0 by omega]; rfl) (Int.le_refl _) (by omega) (fun j j0 j1 => by omega)
          rw [← ee] at x4 z4 v4
          refine ⟨h4, ?_, (f12.tr f3).tr f4, r3.of (f4.to pRs_f), y4, ?_, ?_, ?_⟩
          · rw [bI_t (by omega), if_neg n10, if_pos (rdo r2), E_Re_takeDigits, if_pos (rdo r2), hb_eq, g4, bind_some']
          · rw [z4, if_pos d']
            by_cases u : 4 < tE B L p - tA B L p
            · rw [if_pos u, if_pos u]; rfl
            · rw [if_neg u, if_neg u]; rfl
          · intro _; exact x4
          · rw [if_pos d']
            by_cases u : 4 < tE B L p - tA B L p
            · rw [if_pos u]; intro x; omega
            · rw [if_neg u]; intro _; exact v4 (by omega)
        · have d' : ¬ dgB B (tA B L p) = true := fun x => d (of_decide_eq_true x)
          obtain ⟨f3, r3⟩ := r2.w (i := 4) 4 (by omega) (by omega)
          rw [bI_f (show ¬ (48 ≤ w8 (B (tA B L p)) ∧ w8 (B (tA B L p)) ≤ 57) by omega), if_pos rfl, if_pos (rdo r2), hb_eq, if_neg d']
          exact ⟨_, rfl, f12.tr f3, r3, by rw [mR_ni (by decide)]; exact a2, by rw [mR_same]; rfl, fun x => absurd rfl x, fun x => by omega⟩
  · have ee : tE B L p = tA B L p := by unfold tE; rw [if_neg q]
    obtain ⟨f3, r3⟩ := r2.w (i := 4) 0 (by omega) (by omega)
    rw [if_neg q, if_neg q, if_pos (rdo r2), hb_eq]
    exact ⟨_, rfl, f12.tr f3, r3, by rw [mR_ni (by decide)]; exact a2, by rw [mR_same]; rfl, fun _ => by rw [mR_ni (by decide), e2, ee], fun x => by omega⟩
