/-! alike of the reference. -/
theorem i_and_b (s i : Nat) (hi : i < 32) : i_and (i_shr (s : Int) (i : Int)) 1 = if bitT (s : Int) (i : Int) = true then 1 else 0 := by
  rcases i_and1 (i_shr (s : Int) (i : Int)) with z | z
  · rw [if_neg (fun x => by have := of_decide_eq_true x; omega)]; exact z
  · rw [if_pos (show bitT (s : Int) (i : Int) = true from decide_eq_true z)]; exact z
theorem l_mal {h : Hp} {T : Int → Int} (w : Inv h T) {n : Nat} {S : zR} (r : SoH h n S) (n1 : n ≤ 14) (bd : ∀ i : Int, 0 ≤ i → i < n → 0 ≤ S.1 i ∧ S.1 i ≤ 999999) {b u d a c : Int} {s : Nat} : ∀ (m i : Nat) (z e : Int), i + m = n → 0 ≤ z → z ≤ i → 0 ≤ e → e ≤ 999999 * i → P_Mo_alike_83 124 b u d a c s z e i h = P_Mo_alike_83 124 b u d a c s (z + Sm (fun i => if bitT (s : Int) i = true then 1 else 0) m i) (e + Sm (fun i => if bitT (s : Int) i = true then S.1 i else 0) m i) n h := by
  have mm := ivSo w
  intro m
  induction m with
  | zero =>
    intro i z e hi z0 z1 e0 e1
    have : i = n := by omega
    show _ = P_Mo_alike_83 124 b u d a c s (z + 0) (e + 0) n h
    rw [this, Int.add_zero, Int.add_zero]
  | succ m ih =>
    intro i z e hi z0 z1 e0 e1
    have q := bd i (by omega) (by omega)
    have ih1 := fun z e z0 z1 e0 e1 => ih (i + 1) z e (by omega) z0 z1 e0 e1
    have ei : ((i + 1 : Nat) : Int) = (i : Int) + 1 := by omega
    rw [ei] at ih1
    rw [E_Mo_alike_83, if_pos (ivM w), r.1, if_pos (show (i : Int) < n by omega), if_pos (ivM w), mm.2.1, if_pos (okA_t mm.2.2.2 (by omega) (by omega)), (r.2 i (by omega) (by omega)).1, i_and_b s i (by omega), w32_id (x := (i : Int) + 1) (by omega) (by omega)]
    show _ = P_Mo_alike_83 124 b u d a c s (z + ((if bitT (s : Int) (i : Int) = true then 1 else 0) + Sm (fun i => if bitT (s : Int) i = true then 1 else 0) m ((i : Int) + 1))) (e + ((if bitT (s : Int) (i : Int) = true then S.1 i else 0) + Sm (fun i => if bitT (s : Int) i = true then S.1 i else 0) m ((i : Int) + 1))) n h
    by_cases z2 : bitT (s : Int) (i : Int) = true
    · rw [if_pos z2, if_pos z2, Int.one_mul, w32_id (x := S.1 i) (by omega) (by omega), w32_id (x := z + 1) (by omega) (by omega), w64_id (x := e + S.1 i) (by omega) (by omega), ih1 _ _ (by omega) (by omega) (by omega) (by omega), Int.add_assoc, Int.add_assoc]
    · rw [if_neg z2, if_neg z2, Int.zero_mul, w32_id (x := 0) (by omega) (by omega), Int.add_zero, Int.add_zero, w32_id (x := z) (by omega) (by omega), w64_id (x := e) (by omega) (by omega), ih1 _ _ (by omega) (by omega) (by omega) (by omega), Int.zero_add, Int.zero_add]
theorem l_mall {T : Int → Int} {n : Nat} {S : zR} (n1 : n ≤ 14) (bd : ∀ i : Int, 0 ≤ i → i < n → 0 ≤ S.1 i ∧ S.1 i ≤ 999999) {b u d a : Int} (b0 : 0 < b) : ∀ (m s : Nat) (c : Int) (h : Hp), Inv h T → SoH h n S → s + 1 + m = 2 ^ n → 0 ≤ c → c ≤ s → ∃ h', P_Mo_alike_61 124 b u d a c s h = some (c + (SN (zf n S.1 a u d) (s + m) - SN (zf n S.1 a u d) s), h') ∧ Fr pBs h h' := by
  have pw := p14 n n1
  have es : i_shl 1 (n : Int) = ((2 ^ n : Nat) : Int) := shl_nat _ (by omega)
  intro m
  induction m with
  | zero =>
    intro s c h w r hs c0 c1
    refine ⟨h, ?_, Fr.rf _ h⟩
    rw [E_Mo_alike_61, if_pos (ivM w), r.1, es, w32_id (x := (s : Int) + 1) (by omega) (by omega), if_neg (by omega), Nat.add_zero, Int.sub_self, Int.add_zero]
  | succ m ih =>
    intro s c h w r hs c0 c1
    have zb := cz_b n s
    have sb := cs_b bd s
    have lm := l_mal w r n1 bd (b := b) (u := u) (d := d) (a := a) (c := c) (s := s) n 0 0 0 (by omega) (by omega) (by omega) (by omega) (by omega)
    rw [Int.zero_add, Int.zero_add] at lm
    have lm2 : P_Mo_alike_83 124 b u d a c s 0 0 0 h = P_Mo_alike_83 124 b u d a c s (cz n s) (cs n S.1 s) n h := lm
    generalize hZ : cz n s = Z at lm2 zb
    generalize hE : cs n S.1 s = E at lm2 sb
    have f1 : Fr pBs h (mW (mW h 124 24 (zCl n Z E a)) 124 25 (zBl n Z)) := (Fr.W h _ (by unfold pBs; omega)).tr (Fr.W _ _ (by unfold pBs; omega))
    have w1 := w.of (f1.to pBs_Z)
    have r1 := r.of f1
    have a24 : mR (mW (mW h 124 24 (zCl n Z E a)) 124 25 (zBl n Z)) 124 24 = zCl n Z E a := by rw [mR_ni (by omega), mR_same]
    have a25 : mR (mW (mW h 124 24 (zCl n Z E a)) 124 25 (zBl n Z)) 124 25 = zBl n Z := mR_same _ _ _ _
    have pt := m_parted w r Z E a
    generalize mW (mW h 124 24 (zCl n Z E a)) 124 25 (zBl n Z) = hq at f1 w1 r1 a24 a25 pt
    have es1 : ((s + 1 : Nat) : Int) = (s : Int) + 1 := by omega
    have ih1 := fun c c0 c1 => ih (s + 1) c hq w1 r1 (by omega) c0 c1
    rw [es1] at ih1
    have eS : SN (zf n S.1 a u d) (s + 1) = SN (zf n S.1 a u d) s + zf n S.1 a u d s := rfl
    have ef : zf n S.1 a u d s = if w64 (zCl n Z E a * d) < w64 (u * zBl n Z) then 0 else 1 := by unfold zf; rw [hZ, hE]
    rw [E_Mo_alike_61, if_pos (ivM w), r.1, es, w32_id (x := (s : Int) + 1) (by omega) (by omega), if_pos (by omega), lm2, E_Mo_alike_83, if_pos (ivM w), r.1, if_neg (show ¬ (n : Int) < n by omega), if_pos (ivM w), pt, bind_some', if_pos b0, a24, a25]
    simp only [ivM w1, ↓reduceIte]
    rw [w32_id (x := (s : Int) + 1) (by omega) (by omega), w32_id (x := c + 1) (by omega) (by omega), Int.add_zero, w32_id (x := c) (by omega) (by omega)]
    by_cases y : w64 (zCl n Z E a * d) < w64 (u * zBl n Z)
    · rw [if_pos y] at ef
      obtain ⟨h2, g2, f2⟩ := ih1 c c0 (by omega)
      refine ⟨h2, ?_, f1.tr f2⟩
      rw [if_pos y, g2, eS, ef, Int.add_zero, show s + 1 + m = s + (m + 1) by omega]
    · rw [if_neg y] at ef
      obtain ⟨h2, g2, f2⟩ := ih1 (c + 1) (by omega) (by omega)
      refine ⟨h2, ?_, f1.tr f2⟩
      rw [if_neg y, g2, eS, ef, show s + 1 + m = s + (m + 1) by omega]
      generalize SN (zf n S.1 a u d) (s + (m + 1)) = X
      generalize SN (zf n S.1 a u d) s = Y
      rw [show c + 1 + (X - (Y + 1)) = c + (X - Y) by omega]
/-- the other half has the same closeness -/
theorem bitT_cm {n s j : Nat} (hs : s < 2 ^ n) (n1 : n ≤ 14) (hj : j < n) : bitT ((2 ^ n - (s + 1) : Nat) : Int) (j : Int) = !bitT (s : Int) (j : Int) := by
  rw [bitT_nat (by omega), bitT_nat (by omega), Nat.testBit_two_pow_sub_succ hs, decide_eq_true hj, Bool.true_and]
theorem Sm_cm {n s : Nat} {Q : Int → Int} (hs : s < 2 ^ n) (n1 : n ≤ 14) : Sm (fun i => if bitT ((2 ^ n - (s + 1) : Nat) : Int) i = true then Q i else 0) n 0 = Sm Q n 0 - Sm (fun i => if bitT (s : Int) i = true then Q i else 0) n 0 := by
  have a := Sm_add (fun i => if bitT ((2 ^ n - (s + 1) : Nat) : Int) i = true then Q i else 0) (fun i => if bitT (s : Int) i = true then Q i else 0) n 0
  rw [Sm_cg (g' := Q) n 0 (fun j j0 j1 => by
    have e := bitT_cm (j := j.toNat) hs n1 (by omega)
    have ej : ((j.toNat : Nat) : Int) = j := by omega
    rw [ej] at e
    rw [e]
    cases bitT (s : Int) j
    · simp
    · simp)] at a
  omega
theorem Sm_c1 : ∀ (n : Nat) (i : Int), Sm (fun _ => 1) n i = n
  | 0, i => rfl
  | n + 1, i => by
    show 1 + Sm (fun _ => 1) n (i + 1) = _
    rw [Sm_c1 n (i + 1)]
    omega
theorem sQ_S {Q : Int → Int} {n : Nat} (n1 : n ≤ 14) (bd : ∀ i : Int, 0 ≤ i → i < n → 0 ≤ Q i ∧ Q i ≤ 999999) : ∀ (m i : Nat) (a : Int), i + m = n → 0 ≤ a → a ≤ 999999 * i → itN (zA Q) m i a = a + Sm Q m i := by
  intro m
  induction m with
  | zero => intro i a _ _ _; show a = a + 0; omega
  | succ m ih =>
    intro i a hi a0 a1
    have q := bd i (by omega) (by omega)
    have e : ((i + 1 : Nat) : Int) = (i : Int) + 1 := by omega
    have i1 := ih (i + 1) (a + Q i) (by omega) (by omega) (by omega)
    rw [e] at i1
    show itN (zA Q) m ((i : Int) + 1) (w64 (a + Q i)) = a + (Q i + Sm Q m ((i : Int) + 1))
    rw [w64_id (by omega) (by omega), i1, Int.add_assoc]
theorem zf_cm {n s : Nat} {Q : Int → Int} {u d : Int} (hs : s < 2 ^ n) (n1 : n ≤ 14) (bd : ∀ i : Int, 0 ≤ i → i < n → 0 ≤ Q i ∧ Q i ≤ 999999) : zf n Q (sQ Q n) u d (2 ^ n - (s + 1)) = zf n Q (sQ Q n) u d s := by
  have e1 : cz n ((2 ^ n - (s + 1) : Nat) : Int) = n - cz n s := by
    have := Sm_cm (Q := fun _ => 1) hs n1
    rw [Sm_c1] at this
    exact this
  have t : sQ Q n = Sm Q n 0 := by
    have := sQ_S n1 bd n 0 0 (by omega) (by omega) (by omega)
    rw [Int.zero_add] at this
    exact this
  have e2 : cs n Q ((2 ^ n - (s + 1) : Nat) : Int) = sQ Q n - cs n Q s := by rw [t]; exact Sm_cm (Q := Q) hs n1
  have zb := cz_b n s
  have sb := cs_b bd s
  have sb2 := cs_b bd ((2 ^ n - (s + 1) : Nat) : Int)
  unfold zf
  rw [e1, e2]
  rw [e2] at sb2
  generalize cz n s = k at zb
  generalize cs n Q s = e at sb sb2
  generalize sQ Q n = a at sb2
  have x1 : zBl n ((n : Int) - k) = zBl n k := by
    unfold zBl
    rw [show (n : Int) - (n - k) = k by omega, w32_id (x := k) (by omega) (by omega), w32_id (x := (n : Int) - k) (by omega) (by omega), Int.mul_comm]
  have x2 : zCl n ((n : Int) - k) (a - e) a = zCl n k e a := by
    unfold zCl
    rw [show (n : Int) - (n - k) = k by omega, show a - (a - e) = e by omega, w32_id (x := k) (by omega) (by omega), w32_id (x := (n : Int) - k) (by omega) (by omega), w64_id (x := a - e) (by omega) (by omega), w64_id (x := e) (by omega) (by omega), Int.add_comm]
  rw [x1, x2]
theorem zAl_e {n : Nat} {S : zR} (n2 : 2 ≤ n) (n1 : n ≤ 14) (bd : ∀ i : Int, 0 ≤ i → i < n → 0 ≤ S.1 i ∧ S.1 i ≤ 999999) : SN (zf n S.1 (sQ S.1 n) (zBt n S.1).2.1 (zBt n S.1).2.2) (2 ^ n - 1) - SN (zf n S.1 (sQ S.1 n) (zBt n S.1).2.1 (zBt n S.1).2.2) 1 = zAl n S := by
  unfold zAl
  have cm := fun s (hs : s < 2 ^ n) => zf_cm (u := (zBt n S.1).2.1) (d := (zBt n S.1).2.2) hs n1 bd
  generalize zf n S.1 (sQ S.1 n) (zBt n S.1).2.1 (zBt n S.1).2.2 = f at cm
  have pe : 2 ^ n = 2 ^ (n - 1) + 2 ^ (n - 1) := by
    have : 2 ^ n = 2 ^ (n - 1 + 1) := by rw [show n - 1 + 1 = n by omega]
    rw [this, Nat.pow_succ]
    omega
  have pp : 0 < 2 ^ (n - 1) := Nat.two_pow_pos _
  generalize 2 ^ (n - 1) = K at pe pp
  rw [pe] at cm ⊢
  have a := SN_app f K K
  have b : SN (fun i => f (K + i)) K = SN (fun i => f (K - 1 - i)) K := SN_cg K (fun i hi => by
    have := cm (K + i) (by omega)
    rw [show K + K - (K + i + 1) = K - 1 - i by omega] at this
    exact this.symm)
  rw [b, SN_rev] at a
  have c : SN f (K + K) = SN f (K + K - 1) + f (K + K - 1) := by
    obtain ⟨q, hq⟩ : ∃ q, K + K = q + 1 := ⟨K + K - 1, by omega⟩
    rw [hq]
    rfl
  have e : f (K + K - 1) = f 0 := cm 0 (by omega)
  have g : SN f 1 = f 0 := by show 0 + f 0 = f 0; omega
  rw [g]
  omega
theorem r_alike {h : Hp} {T : Int → Int} (w : Inv h T) (k j y r : Int) : ∃ h', C_Mo_alike 124 k j y r h = some (aAlike T k j y r, h') ∧ Fr pZ h h' := by
  obtain ⟨h1, g1, f1, w1, e1⟩ := m_areSorts w k j y r
  rw [E_Mo_alike, if_pos (ivM w), g1, bind_some']
  unfold aAlike
  by_cases q : okL T k j y ∧ 0 ≤ r ∧ r < catT T k 0
  · have so := e1 q
    have bd := zSr_b (y := y) (ivC w q.1.1.1 q.1.1.2).2.1 (ivH w q.1.2.1.1 q.1.2.1.2).2.1 q.2.1 q.2.2
    rw [bI_t q, if_neg n10, if_pos (ivM w1), so.1, m_isIn, bind_some']
    generalize zSr T k j y r = st at so bd
    by_cases c : 2 ≤ st.1 ∧ st.1 ≤ 14
    · obtain ⟨h2, g2, f2, c2, d2⟩ := m_best w1 so (by omega) c.1
      have w2 := w1.of (f2.to pBs_Z)
      have so2 := so.of f2
      have z1 := (zBt_b (n := st.1) (Q := st.2.1)).2 c.1
      have pp : 2 ^ 1 ≤ 2 ^ st.1 := Nat.pow_le_pow_right (by decide) (by omega)
      rw [Nat.pow_one] at pp
      obtain ⟨h3, g3, f3⟩ := l_mall c.2 bd (b := (zBt st.1 st.2.1).1) (u := (zBt st.1 st.2.1).2.1) (d := (zBt st.1 st.2.1).2.2) (a := sQ st.2.1 st.1) (by omega) (2 ^ st.1 - 2) 1 0 h2 w2 so2 (by omega) (by omega) (by omega)
      rw [show 1 + (2 ^ st.1 - 2) = 2 ^ st.1 - 1 by omega, Int.zero_add, zAl_e c.1 c.2 bd] at g3
      have e11 : ((1 : Nat) : Int) = 1 := rfl
      rw [e11] at g3
      refine ⟨h3, ?_, f1.tr ((f2.tr f3).to pBs_Z)⟩
      rw [bI_t (show (2 : Int) ≤ st.1 ∧ (st.1 : Int) ≤ 14 by omega), if_neg n10, if_pos (ivM w1), g2, bind_some', if_pos (ivM w2), if_pos (ivM w2), if_pos (ivM w2), if_pos (ivM w2), so2.1, m_sum w2 so2 (by omega) (Nat.le_refl st.1), bind_some', c2, d2, cI_t ⟨q, c⟩]
      exact g3
    · refine ⟨h1, ?_, f1⟩
      rw [bI_f (show ¬ ((2 : Int) ≤ st.1 ∧ (st.1 : Int) ≤ 14) by omega), if_pos rfl, cI_f (fun z => c z.2)]
  · exact ⟨h1, by rw [bI_f q, if_pos rfl, cI_f (fun z => q z.1)], f1⟩
