/-! The reference makes. -/
def MkS (h : Hp) (A B : Int) (S V : Int → Int) (x : Int) : Prop := ModS h ∧ (0 ≤ A ∧ A + 330 ≤ 7560) ∧ (0 ≤ B ∧ B + 18 ≤ 7560) ∧ (A + 330 ≤ B ∨ B + 18 ≤ A) ∧ (∀ o, 0 ≤ o → o < 18 → mR h 125 (B + o) = S o) ∧ (∀ o, 0 ≤ o → o < 330 → mR h 125 (A + o) = V o) ∧ mR h 124 26 = x
def pMk (A b i : Int) : Prop := (b = 125 ∧ A ≤ i ∧ i < A + 330) ∨ (b = 124 ∧ i = 26)
theorem MkS.F {h : Hp} {A B x : Int} {S V : Int → Int} (w : MkS h A B S V x) : okF h 124 12 = true := okF_t w.1.1
theorem MkS.a0 {h : Hp} {A B x : Int} {S V : Int → Int} (w : MkS h A B S V x) : mR h 124 0 = 125 := w.1.2.1.1
theorem MkS.A {h : Hp} {A B x i : Int} {S V : Int → Int} (w : MkS h A B S V x) (i0 : 0 ≤ i) (i1 : i < 7560) : okA h 125 102 i = true := okA_t w.1.2.2.1 i0 i1
theorem MkS.S {h : Hp} {A B x i : Int} {S V : Int → Int} (w : MkS h A B S V x) (i0 : 0 ≤ i) (i1 : i < 7560) : okS h 125 102 i = true := okS_t w.1.2.2.1 (by decide) i0 i1
theorem MkS.up {h : Hp} {A B x : Int} {S V : Int → Int} (w : MkS h A B S V x) {o : Int} (v : Int) (o0 : 0 ≤ o) (o1 : o < 330) : MkS (mW h 125 (A + o) v) A B S (up1 V o v) x ∧ Fr (pMk A) h (mW h 125 (A + o) v) := by
  obtain ⟨w1, w2, w3, w4, w5, w6, w7⟩ := w
  refine ⟨⟨w1.of (SK.W h _ _ _) (fun i _ => mR_ne (by decide)), w2, w3, w4, fun j j0 j1 => ?_, fun j j0 j1 => ?_, by rw [mR_ne (by omega)]; exact w7⟩, Fr.W h v (by unfold pMk; omega)⟩
  · rw [mR_mW, if_neg (by omega)]; exact w5 j j0 j1
  · rw [mR_mW]
    by_cases z : j = o
    · rw [z, up1_s, if_pos ⟨rfl, rfl⟩]
    · rw [up1_n z, if_neg (by omega)]; exact w6 j j0 j1
theorem MkS.x {h : Hp} {A B x : Int} {S V : Int → Int} (w : MkS h A B S V x) (y : Int) : MkS (mW h 124 26 y) A B S V y ∧ Fr (pMk A) h (mW h 124 26 y) := by
  obtain ⟨w1, w2, w3, w4, w5, w6, w7⟩ := w
  refine ⟨⟨w1.of (SK.W h _ _ _) (fun i hi => mR_ni (by simp at hi; omega)), w2, w3, w4, fun j j0 j1 => ?_, fun j j0 j1 => ?_, mR_same _ _ _ _⟩, Fr.W h y (by unfold pMk; omega)⟩
  · rw [mR_ne (by omega)]; exact w5 j j0 j1
  · rw [mR_ne (by omega)]; exact w6 j j0 j1
theorem m_drawn {h : Hp} {A B x n : Int} {S V : Int → Int} (w : MkS h A B S V x) (n0 : 0 < n) : ∃ h', C_Mo_drawn 124 n h = some (zdr (zst x) n, h') ∧ Fr (pMk A) h h' ∧ MkS h' A B S V (zst x) := by
  obtain ⟨w1, f1⟩ := w.x (zst x)
  refine ⟨_, ?_, f1, w1⟩
  have ez : w32 (w32 (x * 1103515245) + 12345) = zst x := rfl
  rw [E_Mo_drawn, if_pos w.F, if_pos w.F, w.2.2.2.2.2.2, hb_eq, ez, if_pos w1.F, if_neg (by omega), w1.2.2.2.2.2.2]
  rfl
theorem l_mlt {h : Hp} {A B x : Int} {S V : Int → Int} (w : MkS h A B S V x) (o : Sok S) : ∀ (n : Nat) (k r : Int), 0 ≤ k → k + n = S 0 - 1 → 0 ≤ r → r < Sm (gM S) (n + 1) k → r ≤ 100000 → P_Mo_lightAt_5 124 B k r h = some (ltA S n k r, h) := by
  have s0 := o.1
  have bb := w.2.2.1
  intro n
  induction n with
  | zero =>
    intro k r k0 hk r0 r1 r2
    have eg : mR h 125 (B + (12 + k)) = gM S k := w.2.2.2.2.1 (12 + k) (by omega) (by omega)
    have r3 : r < gM S k + 0 := r1
    rw [E_Mo_lightAt_5, if_pos w.F, w.a0, w32_id (x := B + 12) (by omega) (by omega), w32_id (x := B + 12 + k) (by omega) (by omega), if_pos (w.A (by omega) (by omega)), show B + 12 + k = B + (12 + k) by omega, eg, if_pos (by omega)]
    rfl
  | succ n ih =>
    intro k r k0 hk r0 r1 r2
    have m := gM_b o k0 (show k < S 0 by omega)
    have eg : mR h 125 (B + (12 + k)) = gM S k := w.2.2.2.2.1 (12 + k) (by omega) (by omega)
    have r3 : r < gM S k + Sm (gM S) (n + 1) (k + 1) := r1
    rw [E_Mo_lightAt_5, if_pos w.F, w.a0, w32_id (x := B + 12) (by omega) (by omega), w32_id (x := B + 12 + k) (by omega) (by omega), if_pos (w.A (by omega) (by omega)), show B + 12 + k = B + (12 + k) by omega, eg, if_pos w.F, if_pos (w.A (by omega) (by omega)), w32_id (x := k + 1) (by omega) (by omega)]
    unfold ltA
    by_cases q : r < gM S k
    · rw [if_pos q, if_pos q]
    · rw [if_neg q, if_neg q, w32_id (x := r - gM S k) (by omega) (by omega)]
      exact ih (k + 1) (r - gM S k) (by omega) (by omega) (by omega) (by omega) (by omega)
theorem mk_seen {h : Hp} {A B x : Int} {S V : Int → Int} (w : MkS h A B S V x) {i : Int} (i0 : 0 ≤ i) (i1 : i < 6) (e : Int) : C_Mo_isSeen 124 B i e h = some (sn S i e, h) := by
  have bb := w.2.2.1
  have e6 := w.2.2.2.2.1 (6 + i) (by omega) (by omega)
  have e4 := w.2.2.2.2.1 4 (by omega) (by omega)
  rw [E_Mo_isSeen, if_pos w.F, w.a0, w32_id (x := B + 6) (by omega) (by omega), w32_id (x := B + 6 + i) (by omega) (by omega), if_pos (w.A (by omega) (by omega)), if_pos w.F, w32_id (x := B + 4) (by omega) (by omega), if_pos (w.A (by omega) (by omega)), show B + 6 + i = B + (6 + i) by omega, e6, e4]
  unfold sn
  split <;> rfl
theorem l_m298 {h : Hp} {A B x all i f e : Int} {S V : Int → Int} (w : MkS h A B S V x) {t : Int} (t0 : 0 ≤ t) (t1 : t < 24) (et : V 1 = t) (i0 : 0 ≤ i) (i1 : i < 24) : ∃ h', P_Mo_makes_298 124 B A all i f e t h = P_Mo_makes_97 124 B A all (i + 1) h' ∧ Fr (pMk A) h h' ∧ MkS h' A B S (up1 (up1 V (33 + 6 * t + 1) (zRw f e)) 1 (t + 1)) x := by
  have aa := w.2.1
  obtain ⟨w1, f1⟩ := w.up (o := 33 + 6 * t + 1) (zRw f e) (by omega) (by omega)
  obtain ⟨w2, f2⟩ := w1.up (o := 1) (t + 1) (by omega) (by omega)
  have e1 : mR (mW h 125 (A + (33 + 6 * t + 1)) (zRw f e)) 125 (A + 1) = t := by
    have := w1.2.2.2.2.2.1 1 (by omega) (by omega)
    rw [up1_n (by omega), et] at this
    exact this
  have erx : w32 (Int.tdiv (w32 (w32 (2 * f) * w32 (100 + e))) 100) = zRx f e := rfl
  refine ⟨_, ?_, f1.tr f2, w2⟩
  rw [E_Mo_makes_298, if_pos w.F, erx, w.a0, w32_id (x := A + 33) (by omega) (by omega), w32_id (x := 6 * t) (by omega) (by omega), w32_id (x := A + 33 + 6 * t) (by omega) (by omega), w32_id (x := A + 33 + 6 * t + 1) (by omega) (by omega), if_pos (w.S (by omega) (by omega)), if_pos (w.S (by omega) (by omega)), show A + 33 + 6 * t + 1 = A + (33 + 6 * t + 1) by omega, w32_id (x := A + 1) (by omega) (by omega), w32_id (x := i + 1) (by omega) (by omega), hb_eq, hb_eq]
  have fin : ∀ v, v = zRw f e → (if okF (mW h 125 (A + (33 + 6 * t + 1)) v) 124 12 = true then if okA (mW h 125 (A + (33 + 6 * t + 1)) v) (mR (mW h 125 (A + (33 + 6 * t + 1)) v) 124 0) 102 (A + 1) = true then if okS (mW h 125 (A + (33 + 6 * t + 1)) v) (mR (mW h 125 (A + (33 + 6 * t + 1)) v) 124 0) 102 (A + 1) = true then hb (mW (mW h 125 (A + (33 + 6 * t + 1)) v) (mR (mW h 125 (A + (33 + 6 * t + 1)) v) 124 0) (A + 1) (w32 (mR (mW h 125 (A + (33 + 6 * t + 1)) v) (mR (mW h 125 (A + (33 + 6 * t + 1)) v) 124 0) (A + 1) + 1))) (fun g => P_Mo_makes_97 124 B A all (i + 1) g) else none else none else none) = P_Mo_makes_97 124 B A all (i + 1) (mW (mW h 125 (A + (33 + 6 * t + 1)) (zRw f e)) 125 (A + 1) (t + 1)) := fun v ev => by
    rw [ev, if_pos w1.F, w1.a0, if_pos (w1.A (by omega) (by omega)), if_pos (w1.S (by omega) (by omega)), hb_eq, e1, w32_id (x := t + 1) (by omega) (by omega)]
  by_cases q : zRx f e < 1
  · rw [if_pos q]
    exact fin 1 (by unfold zRw; rw [if_pos q])
  · rw [if_neg q]
    exact fin (zRx f e) (by unfold zRw; rw [if_neg q])
theorem l_m97 {A B : Int} {S : Int → Int} (o : Sok S) : ∀ (n : Nat) (i : Int) (h : Hp) (p : Int × (Int → Int)), MkS h A B S p.2 p.1 → Mkg p.2 i → 0 ≤ p.2 1 → 0 ≤ i → i + n = S 5 → ∃ h', P_Mo_makes_97 124 B A (Sm (gM S) (S 0).toNat 0) i h = some (0, h') ∧ Fr (pMk A) h h' ∧ ∃ x, MkS h' A B S (itN (zMs S) n i p).2 x := by
  intro n
  induction n with
  | zero =>
    intro i h p w m v0 i0 hi
    have bb := w.2.2.1
    have e5 := w.2.2.2.2.1 5 (by omega) (by omega)
    refine ⟨h, ?_, Fr.rf _ h, p.1, w⟩
    rw [E_Mo_makes_97, if_pos w.F, w.a0, w32_id (x := B + 5) (by omega) (by omega), if_pos (w.A (by omega) (by omega)), e5, if_neg (by omega)]
  | succ n ih =>
    intro i h p w m v0 i0 hi
    have aa := w.2.1
    have bb := w.2.2.1
    have s0 := o.1
    have s2 := o.2.2.1
    have s3 := o.2.2.2.1
    have s5 := o.2.2.2.2.2.1
    have ab := zAll_b o
    have e5 := w.2.2.2.2.1 5 (by omega) (by omega)
    have vm := m.2.1
    obtain ⟨h1, d1, f1, w1⟩ := m_drawn w (n := 200) (by omega)
    obtain ⟨h2, d2, f2, w2⟩ := m_drawn w1 (n := Sm (gM S) (S 0).toNat 0) (by omega)
    obtain ⟨h3, d3, f3, w3⟩ := m_drawn w2 (n := 2 * S 2 + 1) (by omega)
    obtain ⟨h4, d4, f4, w4⟩ := m_drawn w3 (n := 2 * S 3 + 1) (by omega)
    have ff := ((f1.tr f2).tr f3).tr f4
    have b1 := zdr_b (zst p.1) (n := 200) (by omega)
    have b2 := zdr_b (zst (zst p.1)) (n := Sm (gM S) (S 0).toNat 0) (by omega)
    have b3 := zdr_b (zst (zst (zst p.1))) (n := 2 * S 2 + 1) (by omega)
    have b4 := zdr_b (zst (zst (zst (zst p.1)))) (n := 2 * S 3 + 1) (by omega)
    have lb := ltA_b S ((S 0).toNat - 1) 0 (zdr (zst (zst p.1)) (Sm (gM S) (S 0).toNat 0))
    have el : C_Mo_lightAt 124 B (zdr (zst (zst p.1)) (Sm (gM S) (S 0).toNat 0)) h2 = some (ltA S ((S 0).toNat - 1) 0 (zdr (zst (zst p.1)) (Sm (gM S) (S 0).toNat 0)), h2) := by
      rw [E_Mo_lightAt]
      exact l_mlt w2 o ((S 0).toNat - 1) 0 _ (by omega) (by omega) b2.1 (by rw [show (S 0).toNat - 1 + 1 = (S 0).toNat by omega]; exact b2.2) (by omega)
    have e22 := w2.2.2.2.2.1 2 (by omega) (by omega)
    have e32 := w3.2.2.2.2.1 2 (by omega) (by omega)
    have e33 := w3.2.2.2.2.1 3 (by omega) (by omega)
    have e43 := w4.2.2.2.2.1 3 (by omega) (by omega)
    have e41 := w4.2.2.2.2.1 1 (by omega) (by omega)
    have e4v := w4.2.2.2.2.2.1 1 (by omega) (by omega)
    have mg := zMs_g (S := S) m v0 (show i < 24 by omega)
    rw [E_Mo_makes_97, if_pos w.F, w.a0, w32_id (x := B + 5) (by omega) (by omega), if_pos (w.A (by omega) (by omega)), e5, if_pos (show i < S 5 by omega), if_pos w.F, d1, bind_some', if_pos w1.F, d2, bind_some', if_pos w2.F, el, bind_some', if_pos w2.F, w2.a0, w32_id (x := B + 2) (by omega) (by omega), if_pos (w2.A (by omega) (by omega)), if_pos w2.F, e22, w32_id (x := 2 * S 2) (by omega) (by omega), w32_id (x := 2 * S 2 + 1) (by omega) (by omega), d3, bind_some', if_pos w3.F, w3.a0, if_pos (w3.A (by omega) (by omega)), if_pos w3.F, w32_id (x := B + 3) (by omega) (by omega), if_pos (w3.A (by omega) (by omega)), if_pos w3.F, e33, w32_id (x := 2 * S 3) (by omega) (by omega), w32_id (x := 2 * S 3 + 1) (by omega) (by omega), d4, bind_some', if_pos w4.F, w4.a0, if_pos (w4.A (by omega) (by omega)), if_pos w4.F]
    dsimp only
    have k1 : w32 (1 + zdr (zst p.1) 200) = 1 + zdr (zst p.1) 200 := w32_id (by omega) (by omega)
    have k2 : w32 (i + 1) = i + 1 := w32_id (by omega) (by omega)
    have k3 : w32 (zdr (zst (zst (zst p.1))) (2 * S 2 + 1) - S 2) = zdr (zst (zst (zst p.1))) (2 * S 2 + 1) - S 2 := w32_id (by omega) (by omega)
    have k4 : w32 (zdr (zst (zst (zst (zst p.1)))) (2 * S 3 + 1) - S 3) = zdr (zst (zst (zst (zst p.1)))) (2 * S 3 + 1) - S 3 := w32_id (by omega) (by omega)
    have k5 := fun f => mk_seen w4 lb.1 (show ltA S ((S 0).toNat - 1) 0 (zdr (zst (zst p.1)) (Sm (gM S) (S 0).toNat 0)) < 6 by omega) f
    simp only [e32, e43, k1, k2, k3, k4, k5, bind_some']
    show ∃ h', _ = some (0, h') ∧ Fr (pMk A) h h' ∧ ∃ x, MkS h' A B S (itN (zMs S) n (i + 1) (zMs S i p)).2 x
    by_cases z : sn S (ltA S ((S 0).toNat - 1) 0 (zdr (zst (zst p.1)) (Sm (gM S) (S 0).toNat 0))) (1 + zdr (zst p.1) 200) = 0
    · have e : zMs S i p = (zst (zst (zst (zst p.1))), p.2) := by unfold zMs; rw [if_pos z]
      rw [e] at mg ⊢
      rw [if_pos z]
      obtain ⟨h6, g2, f5, x5⟩ := ih (i + 1) h4 (zst (zst (zst (zst p.1))), p.2) w4 mg v0 (by omega) (by omega)
      exact ⟨h6, g2, ff.tr f5, x5⟩
    · have e : zMs S i p = (zst (zst (zst (zst p.1))), zAdd S p.2 (1 + zdr (zst p.1) 200) (zdr (zst (zst (zst p.1))) (2 * S 2 + 1) - S 2) (zdr (zst (zst (zst (zst p.1)))) (2 * S 3 + 1) - S 3)) := by unfold zMs; rw [if_neg z]
      rw [e] at mg ⊢
      rw [if_neg z, if_pos w4.F, w4.a0, w32_id (x := A + 1) (by omega) (by omega), if_pos (w4.A (by omega) (by omega)), if_pos w4.F, w32_id (x := B + 1) (by omega) (by omega), if_pos (w4.A (by omega) (by omega)), if_pos w4.F, e41, e4v]
      generalize hf : 1 + zdr (zst p.1) 200 = f at b1 mg
      have f01 : 1 ≤ f ∧ f ≤ 200 := by omega
      generalize zdr (zst (zst (zst p.1))) (2 * S 2 + 1) - S 2 = ow at mg
      generalize zdr (zst (zst (zst (zst p.1)))) (2 * S 3 + 1) - S 3 = er at mg
      have eaw : w32 (w32 (Int.tdiv (w32 (S 1 * f)) 100) + ow) = zAw S f ow := rfl
      obtain ⟨w5, f5⟩ := w4.up (o := 9 + p.2 1) (zClm (zAw S f ow)) (by omega) (by omega)
      have cont : ∃ h', (if f < 50 then if okF (mW h4 125 (A + (9 + p.2 1)) (zClm (zAw S f ow))) 124 12 = true then if okS (mW h4 125 (A + (9 + p.2 1)) (zClm (zAw S f ow))) (mR (mW h4 125 (A + (9 + p.2 1)) (zClm (zAw S f ow))) 124 0) 102 (w32 (w32 (A + 33) + w32 (6 * p.2 1))) = true then hb (mW (mW h4 125 (A + (9 + p.2 1)) (zClm (zAw S f ow))) (mR (mW h4 125 (A + (9 + p.2 1)) (zClm (zAw S f ow))) 124 0) (w32 (w32 (A + 33) + w32 (6 * p.2 1))) f) (fun g => P_Mo_makes_298 124 B A (Sm (gM S) (S 0).toNat 0) i f er (p.2 1) g) else none else none else P_Mo_makes_298 124 B A (Sm (gM S) (S 0).toNat 0) i f er (p.2 1) (mW h4 125 (A + (9 + p.2 1)) (zClm (zAw S f ow)))) = some (0, h') ∧ Fr (pMk A) h h' ∧ ∃ x, MkS h' A B S (itN (zMs S) n (i + 1) (zst (zst (zst (zst p.1))), zAdd S p.2 f ow er)).2 x := by
        by_cases q : f < 50
        · obtain ⟨w6, f6⟩ := w5.up (o := 33 + 6 * p.2 1) f (by omega) (by omega)
          obtain ⟨h7, g7, f7, w7⟩ := l_m298 w6 (all := Sm (gM S) (S 0).toNat 0) (i := i) (f := f) (e := er) (t := p.2 1) v0 (by omega) (by rw [up1_n (by omega), up1_n (by omega)]) i0 (by omega)
          have ez : zAdd S p.2 f ow er = up1 (up1 (up1 (up1 p.2 (9 + p.2 1) (zClm (zAw S f ow))) (33 + 6 * p.2 1) f) (33 + 6 * p.2 1 + 1) (zRw f er)) 1 (p.2 1 + 1) := by unfold zAdd; rw [if_pos q]
          rw [ez] at mg ⊢
          obtain ⟨h8, g8, f8, x8⟩ := ih (i + 1) h7 (zst (zst (zst (zst p.1))), up1 (up1 (up1 (up1 p.2 (9 + p.2 1) (zClm (zAw S f ow))) (33 + 6 * p.2 1) f) (33 + 6 * p.2 1 + 1) (zRw f er)) 1 (p.2 1 + 1)) w7 mg (by dsimp only; rw [up1_s]; omega) (by omega) (by omega)
          refine ⟨h8, ?_, (((ff.tr f5).tr f6).tr f7).tr f8, x8⟩
          rw [if_pos q, if_pos w5.F, w5.a0, w32_id (x := A + 33) (by omega) (by omega), w32_id (x := 6 * p.2 1) (by omega) (by omega), w32_id (x := A + 33 + 6 * p.2 1) (by omega) (by omega), if_pos (w5.S (by omega) (by omega)), hb_eq, show A + 33 + 6 * p.2 1 = A + (33 + 6 * p.2 1) by omega, g7]
          exact g8
        · obtain ⟨h7, g7, f7, w7⟩ := l_m298 w5 (all := Sm (gM S) (S 0).toNat 0) (i := i) (f := f) (e := er) (t := p.2 1) v0 (by omega) (by rw [up1_n (by omega)]) i0 (by omega)
          have ez : zAdd S p.2 f ow er = up1 (up1 (up1 p.2 (9 + p.2 1) (zClm (zAw S f ow))) (33 + 6 * p.2 1 + 1) (zRw f er)) 1 (p.2 1 + 1) := by unfold zAdd; rw [if_neg q]
          rw [ez] at mg ⊢
          obtain ⟨h8, g8, f8, x8⟩ := ih (i + 1) h7 (zst (zst (zst (zst p.1))), up1 (up1 (up1 p.2 (9 + p.2 1) (zClm (zAw S f ow))) (33 + 6 * p.2 1 + 1) (zRw f er)) 1 (p.2 1 + 1)) w7 mg (by dsimp only; rw [up1_s]; omega) (by omega) (by omega)
          refine ⟨h8, ?_, ((ff.tr f5).tr f7).tr f8, x8⟩
          rw [if_neg q, g7]
          exact g8
      rw [eaw, w32_id (x := A + 9) (by omega) (by omega), w32_id (x := A + 9 + p.2 1) (by omega) (by omega), show A + 9 + p.2 1 = A + (9 + p.2 1) by omega, if_pos (w4.S (by omega) (by omega)), if_pos (w4.S (by omega) (by omega)), if_pos (w4.S (by omega) (by omega)), hb_eq, hb_eq, hb_eq]
      by_cases c1 : 9999 < zAw S f ow
      · have ec : zClm (zAw S f ow) = 9999 := if_pos c1
        rw [ec] at cont
        rw [if_pos c1]
        exact cont
      · rw [if_neg c1]
        by_cases c2 : zAw S f ow < -9999
        · have ec : zClm (zAw S f ow) = -9999 := by unfold zClm; rw [if_neg c1, if_pos c2]
          rw [ec] at cont
          rw [if_pos c2]
          exact cont
        · have ec : zClm (zAw S f ow) = zAw S f ow := by unfold zClm; rw [if_neg c1, if_neg c2]
          rw [ec] at cont
          rw [if_neg c2]
          exact cont
