/-! Skies make catalogues: drawing, adding. -/
theorem ush_b (x : Int) : 0 ≤ i_ush x 16 ∧ i_ush x 16 ≤ 65535 := by
  have e : i_ush x 16 = (BitVec.ofInt 32 x >>> (16 : Nat)).toInt := rfl
  have t : (BitVec.ofInt 32 x >>> (16 : Nat)).toNat < 65536 := by
    rw [BitVec.toNat_ushiftRight, Nat.shiftRight_eq_div_pow]
    have := (BitVec.ofInt 32 x).isLt
    omega
  rw [e, BitVec.toInt_eq_toNat_cond, if_pos (by omega)]
  omega
def zst (x : Int) : Int := w32 (w32 (x * 1103515245) + 12345)
def zdr (x n : Int) : Int := Int.tmod (i_ush x 16) n
theorem zdr_b (x : Int) {n : Int} (n0 : 0 < n) : 0 ≤ zdr x n ∧ zdr x n < n := by
  have u := ush_b x
  unfold zdr
  rw [Int.tmod_eq_emod_of_nonneg u.1]
  exact ⟨Int.emod_nonneg _ (by omega), Int.emod_lt_of_pos _ n0⟩
theorem s_drawn (x : Int) {n : Int} (n0 : 0 < n) (h : Hp) : C_Sk_drawn x n h = some (zdr x n, h) := by
  rw [E_Sk_drawn, if_pos n0, if_neg (by omega)]
  rfl
def ltA (S : Int → Int) : Nat → Int → Int → Int
  | 0, k, _ => k
  | n + 1, k, r => if r < gM S k then k else ltA S n (k + 1) (r - gM S k)
theorem ltA_b (S : Int → Int) : ∀ (n : Nat) (k r : Int), k ≤ ltA S n k r ∧ ltA S n k r ≤ k + n
  | 0, k, r => by show k ≤ k ∧ k ≤ k + 0; omega
  | n + 1, k, r => by
    unfold ltA
    split
    · omega
    · have := ltA_b S n (k + 1) (r - gM S k)
      omega
theorem l_lt {h : Hp} {c : Int} {S : Int → Int} (w : SkyC h c S) : ∀ (n : Nat) (k r : Int), 0 ≤ k → k + n = S 0 - 1 → 0 ≤ r → r ≤ 100000 → P_Sk_lightAt_4 c k r h = some (ltA S n k r, h) := by
  have s0 := w.2.2.1.1
  have e0 := w.2.1 0 (by omega) (by omega)
  intro n
  induction n with
  | zero =>
    intro k r k0 hk r0 r1
    rw [E_Sk_lightAt_4, if_pos (skF w), e0, w32_id (x := S 0 - 1) (by omega) (by omega), if_neg (by omega)]
    rfl
  | succ n ih =>
    intro k r k0 hk r0 r1
    have m := gM_b w.2.2.1 k0 (show k < S 0 by omega)
    have eg : mR h (c + 2) k = gM S k := (w.2.2.2 k k0 (by omega)).2
    rw [E_Sk_lightAt_4, if_pos (skF w), e0, w32_id (x := S 0 - 1) (by omega) (by omega), if_pos (show k < S 0 - 1 by omega), if_pos (skF w), (sk6 w).2, if_pos (skA2 w k0 (by omega)), eg, if_pos (skF w), if_pos (skA2 w k0 (by omega)), w32_id (x := k + 1) (by omega) (by omega)]
    unfold ltA
    by_cases q : r < gM S k
    · rw [if_pos q, if_pos q]
    · rw [if_neg q, if_neg q, w32_id (x := r - gM S k) (by omega) (by omega)]
      exact ih (k + 1) (r - gM S k) (by omega) (by omega) (by omega) (by omega)
def zClm (v : Int) : Int := if 9999 < v then 9999 else if v < -9999 then -9999 else v
def zAw (S : Int → Int) (f o : Int) : Int := w32 (w32 (Int.tdiv (w32 (S 1 * f)) 100) + o)
def zRx (f e : Int) : Int := w32 (Int.tdiv (w32 (w32 (2 * f) * w32 (100 + e))) 100)
def zRw (f e : Int) : Int := if zRx f e < 1 then 1 else zRx f e
def zAdd (S V : Int → Int) (f o e : Int) : Int → Int := up1 (up1 (if f < 50 then up1 (up1 V (9 + V 1) (zClm (zAw S f o))) (33 + 6 * V 1) f else up1 V (9 + V 1) (zClm (zAw S f o))) (33 + 6 * V 1 + 1) (zRw f e)) 1 (V 1 + 1)
theorem zClm_b (v : Int) : -9999 ≤ zClm v ∧ zClm v ≤ 9999 := by
  unfold zClm
  split
  · omega
  · split <;> omega
theorem zRw_b {f e : Int} (f0 : 1 ≤ f) (f1 : f ≤ 200) (e0 : -50 ≤ e) (e1 : e ≤ 50) : 1 ≤ zRw f e ∧ zRw f e ≤ 9999 := by
  have m := mul_b (a := 2 * f) (b := 100 + e) 400 150 (by omega) (by omega) (by omega) (by omega)
  have : zRx f e ≤ 9999 := by
    unfold zRx
    rw [w32_id (x := 2 * f) (by omega) (by omega), w32_id (x := 100 + e) (by omega) (by omega), w32_id (x := 2 * f * (100 + e)) (by omega) (by omega), Int.tdiv_eq_ediv_of_nonneg (by omega), w32_id (by omega) (by omega)]
    omega
  unfold zRw
  split <;> omega
/-- what a catalogue that is being made holds -/
def Mkg (V : Int → Int) (i : Int) : Prop := V 0 = 2 ∧ V 1 ≤ i ∧ (∀ j, 177 ≤ j → j < 321 → V j = 0)
theorem Mkg_add {S V : Int → Int} {i f o e : Int} (m : Mkg V i) (v0 : 0 ≤ V 1) (i1 : i < 24) : Mkg (zAdd S V f o e) (i + 1) := by
  have v1 := m.2.1
  have u : ∀ j, j ≠ 1 → ¬ (9 ≤ j ∧ j < 177) → zAdd S V f o e j = V j := fun j p q => by
    unfold zAdd
    rw [up1_n p, up1_n (by omega)]
    split
    · rw [up1_n (by omega), up1_n (by omega)]
    · rw [up1_n (by omega)]
  refine ⟨?_, ?_, fun j j0 j1 => ?_⟩
  · rw [u 0 (by omega) (by omega)]; exact m.1
  · show up1 _ 1 _ 1 ≤ _
    rw [up1_s]; omega
  · rw [u j (by omega) (by omega)]; exact m.2.2 j j0 j1
theorem zAdd_e {S V : Int → Int} {i f o e : Int} (m : Mkg V i) (v0 : 0 ≤ V 1) (v1 : V 1 < 24) : (if f < 50 then tEnter (tEnter (tThing V (zClm (zAw S f o))) (V 1) 0 f 0) (V 1) 1 (zRw f e) 0 else tEnter (tThing V (zClm (zAw S f o))) (V 1) 1 (zRw f e) 0) = zAdd S V f o e := by
  have z0 := m.2.2 (177 + 6 * V 1 + 0) (by omega) (by omega)
  have z1 := m.2.2 (177 + 6 * V 1 + 1) (by omega) (by omega)
  funext j
  unfold zAdd tEnter tThing
  by_cases q : f < 50
  · rw [if_pos q, if_pos q]
    by_cases j1 : j = 1
    · rw [j1, up1_n (by omega), up1_n (by omega), up1_n (by omega), up1_n (by omega), up1_s, up1_s]
    · by_cases j2 : j = 33 + 6 * V 1 + 1
      · rw [j2, up1_n (by omega), up1_s, up1_n (by omega), up1_s]
      · by_cases j3 : j = 177 + 6 * V 1 + 1
        · rw [j3, up1_s, up1_n (by omega), up1_n (by omega), up1_n (by omega), up1_n (by omega), z1]
        · by_cases j4 : j = 177 + 6 * V 1 + 0
          · rw [j4, up1_n (by omega), up1_n (by omega), up1_s, up1_n (by omega), up1_n (by omega), up1_n (by omega), up1_n (by omega), z0]
          · rw [up1_n j3, up1_n j2, up1_n j4, up1_n j1, up1_n j2]
            by_cases j5 : j = 33 + 6 * V 1 + 0
            · rw [j5, up1_s, show 33 + 6 * V 1 + 0 = 33 + 6 * V 1 by omega, up1_s]
            · rw [up1_n j5, up1_n j1, up1_n (show j ≠ 33 + 6 * V 1 by omega)]
  · rw [if_neg q, if_neg q]
    by_cases j1 : j = 1
    · rw [j1, up1_n (by omega), up1_n (by omega), up1_s, up1_s]
    · by_cases j2 : j = 33 + 6 * V 1 + 1
      · rw [j2, up1_n (by omega), up1_s, up1_n (by omega), up1_s]
      · by_cases j3 : j = 177 + 6 * V 1 + 1
        · rw [j3, up1_s, up1_n (by omega), up1_n (by omega), up1_n (by omega), z1]
        · rw [up1_n j3, up1_n j2, up1_n j1, up1_n j1, up1_n j2]
theorem s_addSeen {h : Hp} {c f o e i : Int} {S V : Int → Int} (w : SkyC h c S) (cd : c + 2 < 84) (d : CatD h 84 V) (m : Mkg V i) (i1 : i < 24) (f0 : 1 ≤ f) (f1 : f ≤ 200) (e0 : -50 ≤ e) (e1 : e ≤ 50) : ∃ h', C_Sk_addSeen c 84 f o e h = some (0, h') ∧ Fr (pCa 84) h h' ∧ CatD h' 84 (zAdd S V f o e) := by
  have v1 := d.1.2.1.2.1
  have vm := m.2.1
  have rb := zRw_b f0 f1 e0 e1
  have cb := zClm_b (zAw S f o)
  have oc : okF h 84 1 = true := cF d.1.1.1
  have ec : mR h 84 1 = V 1 := d.1.1.2.2.2.1
  obtain ⟨h1, g1, f1', d1⟩ := s_addThing d (v := zClm (zAw S f o)) (by omega) cb.1 cb.2
  have oc1 : okF h1 84 1 = true := cF d1.1.1.1
  have t1 : tThing V (zClm (zAw S f o)) 1 = V 1 + 1 := up1_s _ _ _
  have t0 : tThing V (zClm (zAw S f o)) 0 = 2 := by unfold tThing; rw [up1_n (by omega), up1_n (by omega)]; exact m.1
  have mm : ∀ g : Hp, (C_Ma_min_II 9999 (zAw S f o) g).bind (fun x => C_Ma_max_II (-9999) x.1 x.2) = some (zClm (zAw S f o), g) := fun g => by
    rw [E_Ma_min_II]
    unfold zClm
    generalize zAw S f o = x
    by_cases c1 : x < 9999
    · rw [if_pos c1, bind_some', E_Ma_max_II, if_neg (show ¬ 9999 < x by omega)]
      dsimp only
      by_cases c2 : -9999 < x
      · rw [if_pos c2, if_neg (by omega)]
      · rw [if_neg c2]
        by_cases c3 : x < -9999
        · rw [if_pos c3]
        · rw [if_neg c3, show x = -9999 by omega]
    · rw [if_neg c1, bind_some', E_Ma_max_II]
      dsimp only
      rw [if_pos (by decide)]
      by_cases c2 : 9999 < x
      · rw [if_pos c2]
      · rw [if_neg c2, if_neg (by omega), show x = 9999 by omega]
  have mx : ∀ g : Hp, C_Ma_max_II 1 (zRx f e) g = some (zRw f e, g) := fun g => by
    rw [E_Ma_max_II]
    unfold zRw
    by_cases c1 : 1 < zRx f e
    · rw [if_pos c1, if_neg (by omega)]
    · rw [if_neg c1]
      by_cases c2 : zRx f e < 1
      · rw [if_pos c2]
      · rw [if_neg c2, show zRx f e = 1 by omega]
  have eaw : w32 (w32 (Int.tdiv (w32 (mR h c 1 * f)) 100) + o) = zAw S f o := by rw [w.2.1 1 (by omega) (by omega)]; rfl
  have erx : w32 (Int.tdiv (w32 (w32 (2 * f) * w32 (100 + e))) 100) = zRx f e := rfl
  have ze := zAdd_e (S := S) (f := f) (o := o) (e := e) m v1.1 (by omega)
  rw [E_Sk_addSeen, if_pos (skF w), if_pos oc, eaw, erx, ec]
  have mn := mm h
  cases hmin : C_Ma_min_II 9999 (zAw S f o) h with
  | none => rw [hmin] at mn; cases mn
  | some p =>
    rw [hmin, bind_some'] at mn
    rw [bind_some', mn, bind_some', if_pos oc]
    dsimp only
    rw [g1, bind_some', if_pos oc1]
    by_cases q : f < 50
    · obtain ⟨h2, g2, f2, d2⟩ := s_enter d1 (t := V 1) (r := 0) (x := f) (y := 0) v1.1 (by rw [t1]; omega) (by omega) (by rw [t0]; omega) f0 (by omega)
      have s1 : tEnter (tThing V (zClm (zAw S f o))) (V 1) 0 f 0 1 = V 1 + 1 := by unfold tEnter; rw [up1_n (by omega), up1_n (by omega)]; exact t1
      have s0 : tEnter (tThing V (zClm (zAw S f o))) (V 1) 0 f 0 0 = 2 := by unfold tEnter; rw [up1_n (by omega), up1_n (by omega)]; exact t0
      obtain ⟨h3, g3, f3, d3⟩ := s_enter d2 (t := V 1) (r := 1) (x := zRw f e) (y := 0) v1.1 (by rw [s1]; omega) (by omega) (by rw [s0]; omega) rb.1 rb.2
      rw [if_pos q] at ze
      rw [ze] at d3
      refine ⟨h3, ?_, (f1'.tr f2).tr f3, d3⟩
      rw [if_pos q, g2, bind_some', mx, bind_some', if_pos (cF d2.1.1.1), g3, bind_some']
    · obtain ⟨h3, g3, f3, d3⟩ := s_enter d1 (t := V 1) (r := 1) (x := zRw f e) (y := 0) v1.1 (by rw [t1]; omega) (by omega) (by rw [t0]; omega) rb.1 rb.2
      rw [if_neg q] at ze
      rw [ze] at d3
      refine ⟨h3, ?_, f1'.tr f3, d3⟩
      rw [if_neg q, mx, bind_some', if_pos oc1, g3, bind_some']
noncomputable def zMs (S : Int → Int) (_ : Int) (p : Int × (Int → Int)) : Int × (Int → Int) :=
  (zst (zst (zst (zst p.1))), if sn S (ltA S ((S 0).toNat - 1) 0 (zdr (zst (zst p.1)) (Sm (gM S) (S 0).toNat 0))) (1 + zdr (zst p.1) 200) = 0 then p.2 else zAdd S p.2 (1 + zdr (zst p.1) 200) (zdr (zst (zst (zst p.1))) (2 * S 2 + 1) - S 2) (zdr (zst (zst (zst (zst p.1)))) (2 * S 3 + 1) - S 3))
theorem zMs_g {S : Int → Int} {i : Int} {p : Int × (Int → Int)} (m : Mkg p.2 i) (v0 : 0 ≤ p.2 1) (i1 : i < 24) : Mkg (zMs S i p).2 (i + 1) := by
  unfold zMs
  dsimp only
  split
  · exact ⟨m.1, by have := m.2.1; omega, m.2.2⟩
  · exact Mkg_add m v0 i1
theorem l_fillS {c : Int} {S : Int → Int} (cd : c + 2 < 84) : ∀ (n : Nat) (i : Int) (h : Hp) (p : Int × (Int → Int)), SkyC h c S → CatD h 84 p.2 → Mkg p.2 i → 0 ≤ i → i + n = S 5 → ∃ h', P_Sk_fill_27 c 84 (Sm (gM S) (S 0).toNat 0) p.1 i h = some (0, h') ∧ Fr (pCa 84) h h' ∧ CatD h' 84 (itN (zMs S) n i p).2 ∧ Mkg (itN (zMs S) n i p).2 (i + n) := by
  intro n
  induction n with
  | zero =>
    intro i h p w d m i0 hi
    refine ⟨h, ?_, Fr.rf _ h, d, ?_⟩
    · rw [E_Sk_fill_27, if_pos (skF w), w.2.1 5 (by omega) (by omega), if_neg (by omega)]
    · show Mkg p.2 (i + 0)
      rw [Int.add_zero]; exact m
  | succ n ih =>
    intro i h p w d m i0 hi
    have o := w.2.2.1
    have s0 := o.1
    have s2 := o.2.2.1
    have s3 := o.2.2.2.1
    have s5 := o.2.2.2.2.2.1
    have ab := zAll_b o
    have v1 := d.1.2.1.2.1
    have b1 := zdr_b (zst p.1) (n := 200) (by omega)
    have b2 := zdr_b (zst (zst p.1)) (n := Sm (gM S) (S 0).toNat 0) (by omega)
    have b3 := zdr_b (zst (zst (zst p.1))) (n := 2 * S 2 + 1) (by omega)
    have b4 := zdr_b (zst (zst (zst (zst p.1)))) (n := 2 * S 3 + 1) (by omega)
    have lb := ltA_b S ((S 0).toNat - 1) 0 (zdr (zst (zst p.1)) (Sm (gM S) (S 0).toNat 0))
    have es : ∀ (x : Int) (g : Hp), C_Sk_stir x g = some (zst x, g) := fun x g => E_Sk_stir x g
    have el : C_Sk_lightAt c (zdr (zst (zst p.1)) (Sm (gM S) (S 0).toNat 0)) h = some (ltA S ((S 0).toNat - 1) 0 (zdr (zst (zst p.1)) (Sm (gM S) (S 0).toNat 0)), h) := by
      rw [E_Sk_lightAt]
      exact l_lt w ((S 0).toNat - 1) 0 _ (by omega) (by omega) b2.1 (by omega)
    have mg := zMs_g (S := S) m v1.1 (show i < 24 by omega)
    rw [E_Sk_fill_27, if_pos (skF w), w.2.1 5 (by omega) (by omega), if_pos (show i < S 5 by omega), es, bind_some', s_drawn _ (by omega), bind_some', es, bind_some', s_drawn _ (by omega), bind_some', if_pos (skF w), el, bind_some', es, bind_some', if_pos (skF w), w.2.1 2 (by omega) (by omega), w32_id (x := 2 * S 2) (by omega) (by omega), w32_id (x := 2 * S 2 + 1) (by omega) (by omega), s_drawn _ (by omega), bind_some', if_pos (skF w), es, bind_some', if_pos (skF w), w.2.1 3 (by omega) (by omega), w32_id (x := 2 * S 3) (by omega) (by omega), w32_id (x := 2 * S 3 + 1) (by omega) (by omega), s_drawn _ (by omega), bind_some', if_pos (skF w), if_pos (skF w)]
    dsimp only
    rw [w32_id (x := 1 + zdr (zst p.1) 200) (by omega) (by omega), s_seen w lb.1 (by omega), bind_some', if_pos (skF w), w.2.1 2 (by omega) (by omega), w.2.1 3 (by omega) (by omega), w32_id (x := i + 1) (by omega) (by omega), w32_id (x := zdr (zst (zst (zst p.1))) (2 * S 2 + 1) - S 2) (by omega) (by omega), w32_id (x := zdr (zst (zst (zst (zst p.1)))) (2 * S 3 + 1) - S 3) (by omega) (by omega)]
    dsimp only
    show ∃ h', _ = some (0, h') ∧ Fr (pCa 84) h h' ∧ CatD h' 84 (itN (zMs S) n (i + 1) (zMs S i p)).2 ∧ Mkg (itN (zMs S) n (i + 1) (zMs S i p)).2 (i + ((n + 1 : Nat) : Int))
    rw [show i + ((n + 1 : Nat) : Int) = i + 1 + n by omega]
    by_cases z : sn S (ltA S ((S 0).toNat - 1) 0 (zdr (zst (zst p.1)) (Sm (gM S) (S 0).toNat 0))) (1 + zdr (zst p.1) 200) = 0
    · have e : zMs S i p = (zst (zst (zst (zst p.1))), p.2) := by unfold zMs; rw [if_pos z]
      rw [e] at mg ⊢
      rw [if_pos z]
      exact ih (i + 1) h (zst (zst (zst (zst p.1))), p.2) w d mg (by omega) (by omega)
    · have e : zMs S i p = (zst (zst (zst (zst p.1))), zAdd S p.2 (1 + zdr (zst p.1) 200) (zdr (zst (zst (zst p.1))) (2 * S 2 + 1) - S 2) (zdr (zst (zst (zst (zst p.1)))) (2 * S 3 + 1) - S 3)) := by unfold zMs; rw [if_neg z]
      rw [e] at mg ⊢
      rw [if_neg z]
      obtain ⟨h1, g1, f1, d1⟩ := s_addSeen w cd d (f := 1 + zdr (zst p.1) 200) (o := zdr (zst (zst (zst p.1))) (2 * S 2 + 1) - S 2) (e := zdr (zst (zst (zst (zst p.1)))) (2 * S 3 + 1) - S 3) m (by omega) (by omega) (by omega) (by omega) (by omega)
      have w1 := w.of f1.1 (fun b j b0 b1 => f1.2 b j (by unfold pCa; omega))
      obtain ⟨h2, g2, f2, d2, m2⟩ := ih (i + 1) h1 (zst (zst (zst (zst p.1))), zAdd S p.2 (1 + zdr (zst p.1) 200) (zdr (zst (zst (zst p.1))) (2 * S 2 + 1) - S 2) (zdr (zst (zst (zst (zst p.1)))) (2 * S 3 + 1) - S 3)) w1 d1 mg (by omega) (by omega)
      refine ⟨h2, ?_, f1.tr f2, d2, m2⟩
      rw [g1, bind_some']
      exact g2
def zV0 : Int → Int := up1 (up1 zZ 0 2) 3 1100
theorem zV0_e : tOn (tBase zZ 1000) 0 = zV0 := by
  funext j
  have e0 : zZ 0 = 0 := rfl
  unfold tOn tBase zV0
  rw [e0, up1_s]
  by_cases j0 : j = 0
  · rw [j0, up1_s, up1_n (by omega), up1_s]; rfl
  · by_cases j3 : j = 3
    · rw [j3, up1_n (by omega), up1_n (by omega), up1_n (by omega), show (3 + 0 : Int) = 3 by decide, up1_s, up1_s]; rfl
    · rw [up1_n j0, up1_n j3, up1_n j0]
      by_cases j4 : j = 3 + (0 + 1)
      · rw [j4, up1_s]; rfl
      · rw [up1_n j4, up1_n j0, up1_n (show j ≠ 3 + 0 by omega)]
noncomputable def zMade (S : Int → Int) (seed : Int) : Int → Int := (itN (zMs S) (S 5).toNat 0 (seed, zV0)).2
theorem s_fillC {h : Hp} {c : Int} {S : Int → Int} (w : SkyC h c S) (cd : c + 2 < 84) (k : CatS h 84) (seed : Int) : ∃ h', C_Sk_fill c 84 seed h = some (0, h') ∧ Fr (pCa 84) h h' ∧ CatC h' 84 (zMade S seed) := by
  have s5 := w.2.2.1.2.2.2.2.2.1
  obtain ⟨h1, g1, f1, d1⟩ := s_clear k (by omega)
  obtain ⟨h2, g2, f2, d2⟩ := s_addBase d1 (s := 1000) (by decide) (by omega) (by omega)
  obtain ⟨h3, g3, f3, d3⟩ := s_addOn d2 (s := 0) (by show tBase zZ 1000 0 < 6; decide) (by omega) (by show (0 : Int) < tBase zZ 1000 0; decide)
  rw [zV0_e] at d3
  have ff := (f1.tr f2).tr f3
  have w3 := w.of ff.1 (fun b j b0 b1 => ff.2 b j (by unfold pCa; omega))
  obtain ⟨h4, g4, f4, d4, _⟩ := l_fillS cd (S 5).toNat 0 h3 (seed, zV0) w3 d3 ⟨rfl, by show zV0 1 ≤ 0; decide, fun j j0 j1 => by show up1 (up1 zZ 0 2) 3 1100 j = 0; rw [up1_n (by omega), up1_n (by omega)]; rfl⟩ (by omega) (by omega)
  refine ⟨h4, ?_, ff.tr f4, d4.1⟩
  rw [E_Sk_fill, if_pos (cF k), g1, bind_some', if_pos (cF d1.1.1.1), g2, bind_some', if_pos (cF d2.1.1.1), g3, bind_some', if_pos (skF w3), (s_all w3).1, bind_some']
  exact g4
