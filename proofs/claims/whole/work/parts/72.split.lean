/-! Sums of a row, the best split; sorts, heaps. -/
def zA (Q : Int → Int) (i a : Int) : Int := w64 (a + Q i)
def sQ (Q : Int → Int) (k : Nat) : Int := itN (zA Q) k 0 0
theorem sQ_s (Q : Int → Int) (k : Nat) : sQ Q (k + 1) = w64 (sQ Q k + Q k) := by
  unfold sQ
  rw [itN_succ]
  show w64 (_ + Q (0 + k)) = _
  rw [Int.zero_add]
theorem zA_b {Q : Int → Int} {N : Nat} (hN : N ≤ 24) (b : ∀ i : Int, 0 ≤ i → i < N → 0 ≤ Q i ∧ Q i ≤ 999999) : ∀ (m k : Nat) (a : Int), k + m ≤ N → 0 ≤ a → a ≤ 999999 * k → itN (zA Q) m k a = a + (sQ Q (k + m) - sQ Q k) ∧ 0 ≤ itN (zA Q) m k a ∧ itN (zA Q) m k a ≤ 999999 * (k + m) ∧ 0 ≤ sQ Q (k + m) ∧ sQ Q (k + m) ≤ 999999 * (k + m) := by
  have base : ∀ k : Nat, k ≤ N → 0 ≤ sQ Q k ∧ sQ Q k ≤ 999999 * k := by
    intro k
    induction k with
    | zero => intro _; exact ⟨Int.le_refl 0, Int.le_refl 0⟩
    | succ k ih =>
      intro hk
      have i := ih (by omega)
      have q := b k (by omega) (by omega)
      rw [sQ_s, w64_id (by omega) (by omega)]
      omega
  intro m
  induction m with
  | zero =>
    intro k a hk a0 a1
    have := base k (by omega)
    refine ⟨?_, a0, ?_, this.1, ?_⟩
    · show a = _; rw [Nat.add_zero]; omega
    · show a ≤ _; omega
    · rw [Nat.add_zero]; omega
  | succ m ih =>
    intro k a hk a0 a1
    have q := b k (by omega) (by omega)
    have e : zA Q k a = a + Q k := by unfold zA; exact w64_id (by omega) (by omega)
    have i := ih (k + 1) (a + Q k) (by omega) (by omega) (by omega)
    have s := base k (by omega)
    have es : sQ Q (k + 1) = sQ Q k + Q k := by rw [sQ_s, w64_id (by omega) (by omega)]
    have ek : (((k + 1 : Nat)) : Int) = (k : Int) + 1 := by omega
    rw [ek] at i
    show itN (zA Q) m (k + 1) (zA Q k a) = _ ∧ _
    rw [e, show k + (m + 1) = k + 1 + m by omega]
    refine ⟨?_, ?_, ?_, i.2.2.2.1, ?_⟩
    · rw [i.1, es]; omega
    · show 0 ≤ itN (zA Q) m (k + 1) (zA Q k a); rw [e]; exact i.2.1
    · show itN (zA Q) m (k + 1) (zA Q k a) ≤ _; rw [e]; omega
    · omega
theorem l_rsum {h : Hp} {T : Int → Int} (w : Inv h T) {n : Nat} {S : zR} (r : RaH h n S) (n1 : n ≤ 24) {b : Int} (b1 : b ≤ n) : ∀ (m : Nat) (i a : Int), 0 ≤ i → i + m = b → P_Ra_sumOf_5 115 b a i h = some (itN (zA S.1) m i a, h) := by
  have mm := ivRa w
  intro m
  induction m with
  | zero =>
    intro i a i0 hi
    rw [E_Ra_sumOf_5, if_neg (by omega)]
    rfl
  | succ m ih =>
    intro i a i0 hi
    rw [E_Ra_sumOf_5, if_pos (show i < b by omega), if_pos mm.1, mm.2.2.1, if_pos (okA_t mm.2.2.2.2.1 i0 (by omega)), (r.2 i i0 (by omega)).1, w32_id (x := i + 1) (by omega) (by omega)]
    exact ih (i + 1) _ (by omega) (by omega)
theorem l_msum {h : Hp} {T : Int → Int} (w : Inv h T) {n : Nat} {S : zR} (r : SoH h n S) (n1 : n ≤ 24) {b : Int} (b1 : b ≤ n) : ∀ (m : Nat) (i a : Int), 0 ≤ i → i + m = b → P_Mo_sortSum_5 124 b a i h = some (itN (zA S.1) m i a, h) := by
  have mm := ivSo w
  intro m
  induction m with
  | zero =>
    intro i a i0 hi
    rw [E_Mo_sortSum_5, if_neg (by omega)]
    rfl
  | succ m ih =>
    intro i a i0 hi
    rw [E_Mo_sortSum_5, if_pos (show i < b by omega), if_pos (ivM w), mm.2.1, if_pos (okA_t mm.2.2.2 i0 (by omega)), (r.2 i i0 (by omega)).1, w32_id (x := i + 1) (by omega) (by omega)]
    exact ih (i + 1) _ (by omega) (by omega)
theorem m_sum {h : Hp} {T : Int → Int} (w : Inv h T) {n : Nat} {S : zR} (r : SoH h n S) (n1 : n ≤ 24) {k : Nat} (k1 : k ≤ n) : C_Mo_sortSum 124 (k : Int) h = some (sQ S.1 k, h) := by
  rw [E_Mo_sortSum]
  exact l_msum w r n1 (by omega) k 0 0 (by omega) (by omega)
def zCl (n k s a : Int) : Int := w64 (w64 (w64 (s * s) * w32 (n - k)) + w64 (w64 (w64 (a - s) * w64 (a - s)) * k))
def zBl (n k : Int) : Int := w64 (k * w32 (n - k))
def zBe (n : Nat) (Q : Int → Int) (k : Int) (p : Int × Int × Int) : Int × Int × Int := if p.1 = 0 ∨ w64 (p.2.1 * zBl n k) < w64 (zCl n k (sQ Q k.toNat) (sQ Q n) * p.2.2) then (k, zCl n k (sQ Q k.toNat) (sQ Q n), zBl n k) else p
def zBt (n : Nat) (Q : Int → Int) : Int × Int × Int := itN (zBe n Q) (n - 1) 1 (0, 0, 1)
def zN (b : Int) : Int := if b = 0 then -1 else b
theorem zBe_i {n : Nat} {Q : Int → Int} {k : Int} {p : Int × Int × Int} (k0 : 1 ≤ k) : 1 ≤ (zBe n Q k p).1 ∧ ((zBe n Q k p).1 = k ∨ (zBe n Q k p).1 = p.1) ∨ ((zBe n Q k p).1 = p.1 ∧ p.1 ≠ 0) := by
  unfold zBe
  by_cases q : p.1 = 0 ∨ w64 (p.2.1 * zBl n k) < w64 (zCl n k (sQ Q k.toNat) (sQ Q n) * p.2.2)
  · rw [if_pos q]; exact Or.inl ⟨k0, Or.inl rfl⟩
  · rw [if_neg q]; exact Or.inr ⟨rfl, fun z => q (Or.inl z)⟩
theorem zBt_b {n : Nat} {Q : Int → Int} : (n < 2 → (zBt n Q).1 = 0) ∧ (2 ≤ n → 1 ≤ (zBt n Q).1 ∧ (zBt n Q).1 < n) := by
  constructor
  · intro q
    unfold zBt
    rw [show n - 1 = 0 by omega]
    rfl
  · intro q
    have := itN_ind (F := zBe n Q) (fun k p => (k = 1 ∧ p.1 = 0) ∨ (1 ≤ p.1 ∧ p.1 < k)) (n - 1) 1 (0, 0, 1) (Or.inl ⟨rfl, rfl⟩) (fun k p k0 k1 i => by
      have z := zBe_i (n := n) (Q := Q) (p := p) k0
      omega)
    have e : (1 : Int) + ((n - 1 : Nat) : Int) = n := by omega
    rw [e] at this
    unfold zBt
    rcases this with i | i
    · omega
    · exact i
theorem l_split {h : Hp} {T : Int → Int} (w : Inv h T) {n : Nat} {S : zR} (r : RaH h n S) (n1 : n ≤ 24) : ∀ (m k : Nat) (p : Int × Int × Int), 1 ≤ k → (k + m = n ∨ (m = 0 ∧ n ≤ k)) → p.1 ≠ -1 → P_Ra_split_24 115 (sQ S.1 n) (sQ S.1 (k - 1)) (zN p.1) p.2.1 p.2.2 k h = some (zN (itN (zBe n S.1) m k p).1, h) := by
  have mm := ivRa w
  intro m
  induction m with
  | zero =>
    intro k p k0 hk pn
    rw [E_Ra_split_24, if_pos mm.1, r.1, if_neg (by omega)]
    rfl
  | succ m ih =>
    intro k p k0 hk pn
    have e := (r.2 ((k : Int) - 1) (by omega) (by omega)).1
    have ew : w64 (sQ S.1 (k - 1) + S.1 ((k : Int) - 1)) = sQ S.1 k := by
      have := sQ_s S.1 (k - 1)
      rw [show k - 1 + 1 = k by omega, show ((k - 1 : Nat) : Int) = (k : Int) - 1 by omega] at this
      exact this.symm
    have et : ((k : Int)).toNat = k := by omega
    have ih1 := fun p pn => ih (k + 1) p (by omega) (by omega) pn
    have ek : (((k + 1 : Nat)) : Int) = (k : Int) + 1 := by omega
    rw [E_Ra_split_24, if_pos mm.1, r.1, if_pos (show (k : Int) < n by omega), if_pos mm.1, mm.2.2.1, w32_id (x := (k : Int) - 1) (by omega) (by omega), if_pos (okA_t mm.2.2.2.2.1 (by omega) (by omega)), if_pos mm.1, e, ew, E_Ra_closeness, if_pos mm.1, r.1, bind_some', if_pos mm.1, r.1, w32_id (x := (k : Int) + 1) (by omega) (by omega)]
    dsimp only
    show _ = some (zN (itN (zBe n S.1) m (k + 1) (zBe n S.1 k p)).1, h)
    rw [show k + 1 - 1 = k by omega, ek] at ih1
    unfold zBe
    rw [et]
    have ec : w64 (w64 (w64 (sQ S.1 k * sQ S.1 k) * w32 ((n : Int) - k)) + w64 (w64 (w64 (sQ S.1 n - sQ S.1 k) * w64 (sQ S.1 n - sQ S.1 k)) * k)) = zCl n k (sQ S.1 k) (sQ S.1 n) := rfl
    have ed : w64 ((k : Int) * w32 ((n : Int) - k)) = zBl n k := rfl
    rw [ec, ed]
    by_cases b0 : p.1 = 0
    · rw [if_pos (show zN p.1 = -1 from if_pos b0), if_pos (Or.inl b0)]
      have i := ih1 (k, zCl n k (sQ S.1 k) (sQ S.1 n), zBl n k) (by show (k : Int) ≠ -1; omega)
      have zk : zN (k : Int) = k := if_neg (by omega)
      dsimp only at i
      rw [zk] at i
      exact i
    · have zp : zN p.1 = p.1 := if_neg b0
      rw [zp, if_neg pn]
      by_cases q : w64 (p.2.1 * zBl n k) < w64 (zCl n k (sQ S.1 k) (sQ S.1 n) * p.2.2)
      · rw [if_pos q, if_pos (Or.inr q)]
        have i := ih1 (k, zCl n k (sQ S.1 k) (sQ S.1 n), zBl n k) (by show (k : Int) ≠ -1; omega)
        have zk : zN (k : Int) = k := if_neg (by omega)
        dsimp only at i
        rw [zk] at i
        exact i
      · rw [if_neg q, if_neg (by rintro (x | x); exact b0 x; exact q x)]
        have i := ih1 p pn
        rw [zp] at i
        exact i
theorem s_split {h : Hp} {T : Int → Int} (w : Inv h T) {n : Nat} {S : zR} (r : RaH h n S) (n1 : n ≤ 24) : C_Ra_split 115 h = some (zN (zBt n S.1).1, h) := by
  have mm := ivRa w
  rw [E_Ra_split, if_pos mm.1, if_pos mm.1, r.1, E_Ra_sumOf, l_rsum w r n1 (Int.le_refl _) n 0 0 (by omega) (by omega), bind_some']
  exact l_split w r n1 (n - 1) 1 (0, 0, 1) (by omega) (by omega) (by decide)
def pBs (b i : Int) : Prop := b = 124 ∧ (i = 24 ∨ i = 25)
theorem pBs_Z (b i : Int) (q : pBs b i) : pZ b i := by unfold pBs at q; unfold pZ; omega
theorem SoH.of {h h' : Hp} {n : Nat} {S : zR} (r : SoH h n S) (f : Fr pBs h h') : SoH h' n S := ⟨by rw [f.2 124 21 (by unfold pBs; omega)]; exact r.1, fun i i0 i1 => by rw [f.2 131 i (by unfold pBs; omega), f.2 130 i (by unfold pBs; omega)]; exact r.2 i i0 i1⟩
theorem m_parted {h : Hp} {T : Int → Int} (w : Inv h T) {n : Nat} {S : zR} (r : SoH h n S) (k s a : Int) : C_Mo_parted 124 k s a h = some (0, mW (mW h 124 24 (zCl n k s a)) 124 25 (zBl n k)) := by
  have e : ∀ v, mR (mW h 124 24 v) 124 21 = n := fun v => by rw [mR_ni (by omega)]; exact r.1
  rw [E_Mo_parted, if_pos (ivM w), if_pos (ivM w), r.1, hb_eq, okF_W, if_pos (ivM w), if_pos (ivM w), e, hb_eq]
  rfl
theorem l_best {T : Int → Int} {n : Nat} {S : zR} (n1 : n ≤ 24) : ∀ (m k : Nat) (h : Hp) (p : Int × Int × Int), Inv h T → SoH h n S → 1 ≤ k → k + m = n → 0 ≤ p.1 → ∃ h', P_Mo_sortsBest_10 124 p.1 p.2.1 p.2.2 k h = some ((itN (zBe n S.1) m k p).1, h') ∧ Fr pBs h h' ∧ mR h' 124 24 = (itN (zBe n S.1) m k p).2.1 ∧ mR h' 124 25 = (itN (zBe n S.1) m k p).2.2 := by
  intro m
  induction m with
  | zero =>
    intro k h p w r k0 hk p0
    have f1 : Fr pBs h (mW (mW h 124 24 p.2.1) 124 25 p.2.2) := (Fr.W h _ (by unfold pBs; omega)).tr (Fr.W _ _ (by unfold pBs; omega))
    refine ⟨_, ?_, f1, ?_, mR_same _ _ _ _⟩
    · rw [E_Mo_sortsBest_10, if_pos (ivM w), r.1, if_neg (by omega), if_pos (ivM w), hb_eq, okF_W, if_pos (ivM w), hb_eq]
      rfl
    · rw [mR_ni (by omega), mR_same]; rfl
  | succ m ih =>
    intro k h p w r k0 hk p0
    have ek : (((k + 1 : Nat)) : Int) = (k : Int) + 1 := by omega
    have et : ((k : Int)).toNat = k := by omega
    have f1 : Fr pBs h (mW (mW h 124 24 (zCl n k (sQ S.1 k) (sQ S.1 n))) 124 25 (zBl n k)) := (Fr.W h _ (by unfold pBs; omega)).tr (Fr.W _ _ (by unfold pBs; omega))
    have w1 := w.of (f1.to pBs_Z)
    have r1 := r.of f1
    have a24 : mR (mW (mW h 124 24 (zCl n k (sQ S.1 k) (sQ S.1 n))) 124 25 (zBl n k)) 124 24 = zCl n k (sQ S.1 k) (sQ S.1 n) := by rw [mR_ni (by omega), mR_same]
    have a25 : mR (mW (mW h 124 24 (zCl n k (sQ S.1 k) (sQ S.1 n))) 124 25 (zBl n k)) 124 25 = zBl n k := mR_same _ _ _ _
    have ih1 := fun p p0 => ih (k + 1) _ p w1 r1 (by omega) (by omega) p0
    rw [ek] at ih1
    rw [E_Mo_sortsBest_10, if_pos (ivM w), r.1, if_pos (show (k : Int) < n by omega), if_pos (ivM w), m_sum w r n1 (by omega), bind_some', if_pos (ivM w), if_pos (ivM w), r.1, m_sum w r n1 (Nat.le_refl n), bind_some', if_pos (ivM w), m_parted w r, bind_some', w32_id (x := (k : Int) + 1) (by omega) (by omega)]
    dsimp only
    rw [a24, a25]
    simp only [ivM w1, ↓reduceIte]
    show ∃ h', _ = some ((itN (zBe n S.1) m (k + 1) (zBe n S.1 k p)).1, h') ∧ Fr pBs h h' ∧ mR h' 124 24 = (itN (zBe n S.1) m (k + 1) (zBe n S.1 k p)).2.1 ∧ mR h' 124 25 = (itN (zBe n S.1) m (k + 1) (zBe n S.1 k p)).2.2
    have take : zBe n S.1 k p = ((k : Int), zCl n k (sQ S.1 k) (sQ S.1 n), zBl n k) → ∃ h', P_Mo_sortsBest_10 124 k (zCl n k (sQ S.1 k) (sQ S.1 n)) (zBl n k) (k + 1) (mW (mW h 124 24 (zCl n k (sQ S.1 k) (sQ S.1 n))) 124 25 (zBl n k)) = some ((itN (zBe n S.1) m (k + 1) (zBe n S.1 k p)).1, h') ∧ Fr pBs h h' ∧ mR h' 124 24 = (itN (zBe n S.1) m (k + 1) (zBe n S.1 k p)).2.1 ∧ mR h' 124 25 = (itN (zBe n S.1) m (k + 1) (zBe n S.1 k p)).2.2 := fun e => by
      rw [e]
      obtain ⟨h2, g2, f2, c2, d2⟩ := ih1 (k, zCl n k (sQ S.1 k) (sQ S.1 n), zBl n k) (by show (0 : Int) ≤ k; omega)
      exact ⟨h2, g2, f1.tr f2, c2, d2⟩
    by_cases b0 : 0 < p.1
    · rw [if_pos b0]
      by_cases q : w64 (p.2.1 * zBl n k) < w64 (zCl n k (sQ S.1 k) (sQ S.1 n) * p.2.2)
      · rw [if_pos q]
        exact take (by unfold zBe; rw [et, if_pos (Or.inr q)])
      · have e : zBe n S.1 k p = p := by unfold zBe; rw [et, if_neg (by rintro (x | x); omega; exact q x)]
        rw [if_neg q, e]
        obtain ⟨h2, g2, f2, c2, d2⟩ := ih1 p p0
        exact ⟨h2, g2, f1.tr f2, c2, d2⟩
    · rw [if_neg b0]
      exact take (by unfold zBe; rw [et, if_pos (Or.inl (by omega))])
theorem m_best {h : Hp} {T : Int → Int} (w : Inv h T) {n : Nat} {S : zR} (r : SoH h n S) (n1 : n ≤ 24) (n2 : 2 ≤ n) : ∃ h', C_Mo_sortsBest 124 h = some ((zBt n S.1).1, h') ∧ Fr pBs h h' ∧ mR h' 124 24 = (zBt n S.1).2.1 ∧ mR h' 124 25 = (zBt n S.1).2.2 := by
  rw [E_Mo_sortsBest]
  exact l_best n1 (n - 1) 1 h (0, 0, 1) w r (by omega) (by omega) (by decide)
def zSx (n : Nat) (S : zR) (x : Int) : Int := if x = 1 then n else if 10 ≤ x ∧ x < 10 + n then S.2 (x - 10) else if n < 2 then -1 else if x = 0 then (zBt n S.1).1 else if x = 2 then w32 (w64 (Int.tdiv (sQ S.1 (zBt n S.1).1.toNat) (zBt n S.1).1)) else if x = 3 then w32 (w64 (Int.tdiv (sQ S.1 n - sQ S.1 (zBt n S.1).1.toNat) (n - (zBt n S.1).1))) else -1
noncomputable def aSorts (T : Int → Int) (k j y r x : Int) : Int := cI (okL T k j y ∧ 0 ≤ r ∧ r < catT T k 0) (zSx (zSr T k j y r).1 (zSr T k j y r).2 x) (-1)
theorem q_sorts {h : Hp} {T : Int → Int} (w : Inv h T) (k j y r x : Int) (xb : in32 x) : ∃ h', C_LS_sorts 1 k j y r x h = some (aSorts T k j y r x, h') ∧ Fr pZ h h' := by
  unfold in32 at xb
  obtain ⟨h1, g1, f1, w1, e1⟩ := s_gather w k j y r
  have m1 := ivRa w1
  rw [E_LS_sorts, if_pos (iv1 w), g1, bind_some']
  unfold aSorts
  by_cases q : okL T k j y ∧ 0 ≤ r ∧ r < catT T k 0
  · obtain ⟨ra, n1⟩ := e1 q
    have zb := zBt_b (n := (zSr T k j y r).1) (Q := (zSr T k j y r).2.1)
    have bd := zSr_b (y := y) (ivC w q.1.1.1 q.1.1.2).2.1 (ivH w q.1.2.1.1 q.1.2.1.2).2.1 q.2.1 q.2.2
    refine ⟨h1, ?_, f1⟩
    rw [bI_t q, if_neg n10, cI_t q]
    generalize zSr T k j y r = st at ra n1 zb bd
    unfold zSx
    by_cases x1 : x = 1
    · rw [if_pos x1, if_pos x1, if_pos (iv1 w1), m1.2.2.2.2.2, if_pos m1.1, ra.1]
    · rw [if_neg x1, if_neg x1]
      by_cases x10 : x < 10
      · rw [if_pos x10, if_pos (iv1 w1), m1.2.2.2.2.2, if_pos m1.1, s_split w1 ra n1, bind_some', if_neg (show ¬ (10 ≤ x ∧ x < 10 + (st.1 : Int)) by omega)]
        dsimp only
        by_cases s : st.1 < 2
        · have z0 := zb.1 s
          rw [if_pos (show zN (zBt st.1 st.2.1).1 = -1 by rw [z0]; rfl), if_pos s]
        · have z1 := zb.2 (by omega)
          have zk : zN (zBt st.1 st.2.1).1 = (zBt st.1 st.2.1).1 := if_neg (by omega)
          generalize hb : (zBt st.1 st.2.1).1 = b at z1 zk
          have eb : ((b.toNat : Nat) : Int) = b := by omega
          rw [zk, if_neg (show ¬ b = -1 by omega), if_neg s]
          by_cases x0 : x = 0
          · rw [if_pos x0, if_pos x0]
          · rw [if_neg x0, if_neg x1, if_neg x0]
            by_cases x2 : x = 2
            · rw [if_pos x2, if_pos x2, if_pos (iv1 w1), m1.2.2.2.2.2, if_pos m1.1, E_Ra_mean, if_pos (show (0 : Int) < b by omega), if_pos m1.1, E_Ra_sumOf, l_rsum w1 ra n1 (show b ≤ st.1 by omega) b.toNat 0 0 (by omega) (by omega), bind_some', w32_id (x := b - 0) (by omega) (by omega), show b - 0 = b by omega, if_neg (show ¬ b = 0 by omega), bind_some']
              rfl
            · rw [if_neg x2, if_neg x2]
              by_cases x3 : x = 3
              · have zz := zA_b n1 bd (st.1 - b.toNat) b.toNat 0 (by omega) (by omega) (by omega)
                rw [eb, show b.toNat + (st.1 - b.toNat) = st.1 by omega, Int.zero_add] at zz
                rw [if_pos x3, if_pos x3, if_pos (iv1 w1), if_pos (iv1 w1), m1.2.2.2.2.2, if_pos m1.1, if_pos m1.1, ra.1, E_Ra_mean, if_pos (show b < (st.1 : Int) by omega), if_pos m1.1, E_Ra_sumOf, l_rsum w1 ra n1 (Int.le_refl _) (st.1 - b.toNat) b 0 (by omega) (by omega), bind_some', w32_id (x := (st.1 : Int) - b) (by omega) (by omega), if_neg (show ¬ (st.1 : Int) - b = 0 by omega), bind_some', zz.1]
              · rw [if_neg x3, if_neg x3]
      · rw [if_neg x10, if_pos (iv1 w1), m1.2.2.2.2.2, if_pos m1.1, ra.1, w32_id (x := x - 10) (by omega) (by omega)]
        by_cases x11 : x < 10 + (st.1 : Int)
        · rw [if_pos (show x - 10 < (st.1 : Int) by omega), if_pos (iv1 w1), if_pos m1.1, m1.2.1, if_pos (okA_t m1.2.2.2.1 (by omega) (by omega)), (ra.2 (x - 10) (by omega) (by omega)).2, if_pos (show 10 ≤ x ∧ x < 10 + (st.1 : Int) by omega)]
        · rw [if_neg (show ¬ x - 10 < (st.1 : Int) by omega), if_neg (show ¬ (10 ≤ x ∧ x < 10 + (st.1 : Int)) by omega), if_neg (show ¬ x = 0 by omega), if_neg (show ¬ x = 2 by omega), if_neg (show ¬ x = 3 by omega)]
          split <;> rfl
  · exact ⟨h1, by rw [bI_f q, if_pos rfl, cI_f q], f1⟩
