/-! A house read: leans, rules and the loop; the class's half. -/
theorem one_c {B : Int → Int} {L lo hi : Int} {s : Int × Int × Int} (h : (one B L lo hi s).2.2.1 = 0) : (tK B L s.1 = 3 ∧ lo ≤ tW B L s.1 ∧ tW B L s.1 ≤ hi) ∧ (one B L lo hi s).1 = tW B L s.1 - lo := by
  have a := one_0 h
  unfold one at h ⊢
  have f0 : ¬ s.2.1 = 1 := by omega
  rw [if_neg f0] at h ⊢
  by_cases y : tK B L s.1 = 3 ∧ lo ≤ tW B L s.1 ∧ tW B L s.1 ≤ hi
  · rw [if_pos y]; exact ⟨y, rfl⟩
  · rw [if_neg y] at h
    have : (brk B L s).2.1 = 0 := h
    rw [brk_1] at this
    omega
theorem h_lean {h : Hp} {B : Int → Int} {L : Int} {s : Int × Int × Int} {V : Int → Int} (r : CR h B L s) (o : SO B L s) (w : HouC h 92 V) (st : Str h) (t : tK B L s.1 = 3) : ∃ h', C_Re_readLean 82 92 h = some (0, h') ∧ Fr pRh h h' ∧ CR h' B L (hsN B L s V).1 ∧ HouC h' 92 (hsN B L s V).2 := by
  obtain ⟨h1, g1, f1, r1⟩ := c_stp r o.1 (by omega)
  have o1 := so_step o (show tK B L s.1 ≠ 0 by omega)
  obtain ⟨h2, g2, f2, r2⟩ := c_num r1 o1.1 0 5
  have g2' : C_Re_readNumber 82 0 5 h1 = some ((lN1 B L s).1, h2) := g2
  have r2' : CR h2 B L (lN1 B L s).2 := r2
  have o2 : SO B L (lN1 B L s).2 := so_num o1
  have st2 := (st.fr f1 (fun b i q => by unfold pRf; omega)).fr f2 (fun b i q => by unfold pRf; omega)
  have i22 : C_Re_isWord 82 (-22) h2 = some (bI (tK B L (lN1 B L s).2.1 = 3 ∧ tW B L (lN1 B L s).2.1 = 24), h2) := c_isw r2'.1 st2 o2.1.1 o2.1.2 (k := 12) (by decide)
  have i23 : C_Re_isWord 82 (-23) h2 = some (bI (tK B L (lN1 B L s).2.1 = 3 ∧ tW B L (lN1 B L s).2.1 = 25), h2) := c_isw r2'.1 st2 o2.1.1 o2.1.2 (k := 13) (by decide)
  have fin : ∀ (sg : Int), (sg = 0 ∧ ¬ (tK B L (lN1 B L s).2.1 = 3 ∧ 24 ≤ tW B L (lN1 B L s).2.1 ∧ tW B L (lN1 B L s).2.1 ≤ 25)) ∨ ((tK B L (lN1 B L s).2.1 = 3 ∧ 24 ≤ tW B L (lN1 B L s).2.1 ∧ tW B L (lN1 B L s).2.1 ≤ 25) ∧ ((sg = 1 ∧ tW B L (lN1 B L s).2.1 = 24) ∨ (sg = -1 ∧ tW B L (lN1 B L s).2.1 = 25))) → ∃ h', P_Re_readLean_38 82 92 (lN1 B L s).1 sg h2 = some (0, h') ∧ Fr pRh h h' ∧ CR h' B L (hsN B L s V).1 ∧ HouC h' 92 (hsN B L s V).2 := fun sg hs => by
    obtain ⟨h3, g3, f3, r3⟩ := c_one r2' o2.1 (lo := 24) (hi := 25) rfl
    have r3' : CR h3 B L (lN2 B L s).2 := r3
    have o3 : SO B L (lN2 B L s).2 := so_one o2
    obtain ⟨h4, g4, f4, r4⟩ := c_num r3' o3.1 0 50
    have g4' : C_Re_readNumber 82 0 50 h3 = some ((lN3 B L s).1, h4) := g4
    have r4' : CR h4 B L (lN3 B L s).2 := r4
    have o4 : SO B L (lN3 B L s).2 := so_num o3
    obtain ⟨h5, g5, f5, r5⟩ := c_ens r4' o4.1
    have F := (((f1.tr f2).tr f3).tr f4).tr f5
    have w5 := w.rd F
    show ∃ h', _ ∧ Fr pRh h h' ∧ CR h' B L (ens B L (lN3 B L s).2) ∧ HouC h' 92 (if (ens B L (lN3 B L s).2).2.1 = 0 then up1 V (4 + (lN1 B L s).1) (if (lN2 B L s).1 = 0 then (lN3 B L s).1 else -(lN3 B L s).1) else V)
    have tail : ∃ h', (if (bI ((ens B L (lN3 B L s).2).2.1 = 0)) = 0 then (some (0, h5) : Res) else (if okF h5 92 3 = true then (if okS h5 (mR h5 92 4) 102 (lN1 B L s).1 = true then hb (mW h5 (mR h5 92 4) (lN1 B L s).1 (w32 (sg * (lN3 B L s).1))) (fun h12 => (some (0, h12))) else none) else none)) = some (0, h') ∧ Fr pRh h h' ∧ CR h' B L (ens B L (lN3 B L s).2) ∧ HouC h' 92 (if (ens B L (lN3 B L s).2).2.1 = 0 then up1 V (4 + (lN1 B L s).1) (if (lN2 B L s).1 = 0 then (lN3 B L s).1 else -(lN3 B L s).1) else V) := by
      by_cases z : (ens B L (lN3 B L s).2).2.1 = 0
      · have a3 := num_0 (ens_0 z)
        have a2 := one_c a3.1
        have a1 := num_0 (one_0 a3.1).1
        have b3 : 0 ≤ (lN3 B L s).1 ∧ (lN3 B L s).1 ≤ 50 := a3.2
        have b1 : 0 ≤ (lN1 B L s).1 ∧ (lN1 B L s).1 ≤ 5 := a1.2
        have b2 : (lN2 B L s).1 = tW B L (lN1 B L s).2.1 - 24 := a2.2
        have ev : w32 (sg * (lN3 B L s).1) = if (lN2 B L s).1 = 0 then (lN3 B L s).1 else -(lN3 B L s).1 := by
          rcases hs with ⟨_, c⟩ | ⟨_, ⟨q, c⟩ | ⟨q, c⟩⟩
          · exact absurd a2.1 c
          · rw [q, if_pos (by omega), Int.one_mul, w32_id (by omega) (by omega)]
          · rw [q, if_neg (by omega), w32_id (by omega) (by omega)]; omega
        have vb : -50 ≤ (if (lN2 B L s).1 = 0 then (lN3 B L s).1 else -(lN3 B L s).1) ∧ (if (lN2 B L s).1 = 0 then (lN3 B L s).1 else -(lN3 B L s).1) ≤ 50 := by
          by_cases y : (lN2 B L s).1 = 0
          · rw [if_pos y]; omega
          · rw [if_neg y]; omega
        obtain ⟨f6, w6⟩ := h_lset w5 (k := (lN1 B L s).1) (v := if (lN2 B L s).1 = 0 then (lN3 B L s).1 else -(lN3 B L s).1) (by omega) vb
        have m4 : mR h5 92 4 = 93 := w5.1.1.2.2.1.1
        have l93 : mK h5 93 = 102 ∧ mL h5 93 = 6 := w5.1.1.2.2.2.1
        rw [bI_t z, if_neg (by decide), if_pos (hF w5.1.1), m4, if_pos (okS_t l93 (by decide) b1.1 (by omega)), ev, hb_eq, if_pos z]
        exact ⟨_, rfl, (F.to pRf_h).tr (f6.to pH_h), r5.ne f6 pH_n, w6⟩
      · rw [bI_f z, if_pos rfl, if_neg z]
        exact ⟨h5, rfl, F.to pRf_h, r5, w5⟩
    rw [E_Re_readLean_38]
    rcases hs with ⟨q, c⟩ | ⟨c, q⟩
    · rw [bI_f c] at g3
      rw [if_pos q, if_pos (cro r2'), g3, bind_some', if_pos (cro r3'), g4', bind_some', if_pos (cro r4'), g5, bind_some']
      exact tail
    · rw [bI_t c] at g3
      rw [if_neg (show ¬ sg = 0 by omega), if_pos (cro r2'), g3, bind_some', if_pos (cro r3'), g4', bind_some', if_pos (cro r4'), g5, bind_some']
      exact tail
  rw [E_Re_readLean, if_pos (cro r), g1, bind_some', if_pos (cro r1), g2', bind_some', if_pos (cro r2'), i22, bind_some']
  by_cases w1 : tK B L (lN1 B L s).2.1 = 3 ∧ tW B L (lN1 B L s).2.1 = 24
  · rw [bI_t w1, if_neg n10]
    exact fin 1 (Or.inr ⟨by omega, Or.inl ⟨rfl, w1.2⟩⟩)
  rw [bI_f w1, if_pos rfl, if_pos (cro r2'), i23, bind_some']
  by_cases w2 : tK B L (lN1 B L s).2.1 = 3 ∧ tW B L (lN1 B L s).2.1 = 25
  · rw [bI_t w2, if_neg n10]
    exact fin (-1) (Or.inr ⟨by omega, Or.inr ⟨rfl, w2.2⟩⟩)
  rw [bI_f w2, if_pos rfl]
  exact fin 0 (Or.inl ⟨rfl, by omega⟩)
theorem c_rule {h : Hp} {B : Int → Int} {L : Int} {s : Int × Int × Int} (r : CR h B L s) (o : SO B L s) (st : Str h) : C_Re_ruleHere 82 h = some (if tK B L s.1 = 3 ∧ 31 ≤ tW B L s.1 ∧ tW B L s.1 ≤ 35 then tW B L s.1 - 31 else -1, h) := by
  have i26 : C_Re_isWord 82 (-26) h = some (bI (tK B L s.1 = 3 ∧ tW B L s.1 = 31), h) := c_isw r.1 st o.1.1 o.1.2 (k := 16) (by decide)
  have i27 : C_Re_isWord 82 (-27) h = some (bI (tK B L s.1 = 3 ∧ tW B L s.1 = 32), h) := c_isw r.1 st o.1.1 o.1.2 (k := 17) (by decide)
  have i28 : C_Re_isWord 82 (-28) h = some (bI (tK B L s.1 = 3 ∧ tW B L s.1 = 33), h) := c_isw r.1 st o.1.1 o.1.2 (k := 18) (by decide)
  have i29 : C_Re_isWord 82 (-29) h = some (bI (tK B L s.1 = 3 ∧ tW B L s.1 = 34), h) := c_isw r.1 st o.1.1 o.1.2 (k := 19) (by decide)
  have i30 : C_Re_isWord 82 (-30) h = some (bI (tK B L s.1 = 3 ∧ tW B L s.1 = 35), h) := c_isw r.1 st o.1.1 o.1.2 (k := 20) (by decide)
  rw [E_Re_ruleHere, if_pos (cro r), i26, bind_some']
  by_cases w1 : tK B L s.1 = 3 ∧ tW B L s.1 = 31
  · rw [bI_t w1, if_neg n10, if_pos (by omega), w1.2]; rfl
  rw [bI_f w1, if_pos rfl, if_pos (cro r), i27, bind_some']
  by_cases w2 : tK B L s.1 = 3 ∧ tW B L s.1 = 32
  · rw [bI_t w2, if_neg n10, if_pos (by omega), w2.2]; rfl
  rw [bI_f w2, if_pos rfl, if_pos (cro r), i28, bind_some']
  by_cases w3 : tK B L s.1 = 3 ∧ tW B L s.1 = 33
  · rw [bI_t w3, if_neg n10, if_pos (by omega), w3.2]; rfl
  rw [bI_f w3, if_pos rfl, if_pos (cro r), i29, bind_some']
  by_cases w4 : tK B L s.1 = 3 ∧ tW B L s.1 = 34
  · rw [bI_t w4, if_neg n10, if_pos (by omega), w4.2]; rfl
  rw [bI_f w4, if_pos rfl, if_pos (cro r), i30, bind_some']
  by_cases w5 : tK B L s.1 = 3 ∧ tW B L s.1 = 35
  · rw [bI_t w5, if_neg n10, if_pos (by omega), w5.2]; rfl
  rw [bI_f w5, if_pos rfl, if_neg (by omega)]
theorem rm3_1 {B : Int → Int} {L a b : Int} {s : Int × Int × Int} (h : s.2.1 ≠ 1) : (rm3 B L a b s).2.1 ≠ 1 := by
  unfold rm3 nte
  by_cases z : a < b
  · rw [if_pos z]; exact h
  · rw [if_neg z]
    by_cases y : s.2.1 = 0
    · rw [if_pos y]; show (3 : Int) ≠ 1; decide
    · rw [if_neg y]; exact h
theorem h_rule {h : Hp} {B : Int → Int} {L : Int} {s : Int × Int × Int} {V : Int → Int} (r : CR h B L s) (o : SO B L s) (w : HouC h 92 V) (st : Str h) (t : tK B L s.1 = 3) (fn : s.2.1 ≠ 1) : ∃ h', C_Re_readRule 82 92 h = some (0, h') ∧ Fr pRh h h' ∧ CR h' B L (hsR B L s V).1 ∧ HouC h' 92 (hsR B L s V).2 := by
  obtain ⟨h1, h2, g1, g2, k1, f2, r2⟩ := c_rm3 r o t (V 3) 8
  have o2 := so_rm3 (a := V 3) (b := 8) o (show tK B L s.1 ≠ 0 by omega)
  have st2 := st.fr f2 (fun b i q => by unfold pRf; omega)
  have cr := c_rule r2 o2 st2
  obtain ⟨h3, g3, f3, r3⟩ := c_one r2 o2.1 (lo := 31) (hi := 35) rfl
  have r3' : CR h3 B L (uN1 B L s V).2 := r3
  have o3 : SO B L (uN1 B L s V).2 := so_one o2
  have m3 : mR h 92 3 = V 3 := w.1.2.2.2.2.2.1
  have fin : ∀ (ru lo hi : Int), uN2 B L s V = num B L lo hi (uN1 B L s V).2 → (0 ≤ lo ∧ hi ≤ 9999) → ((ens B L (uN2 B L s V).2).2.1 = 0 → ru = (uN1 B L s V).1) → ∃ h', (if okF h3 82 6 = true then (C_Re_readNumber 82 lo hi h3).bind (fun x12 => (if okF x12.2 82 6 = true then (C_Re_endsSound 82 x12.2).bind (fun x13 => (if x13.1 = 0 then (some (0, x13.2) : Res) else (if okF x13.2 92 3 = true then (C_Ho_addRule 92 ru x12.1 x13.2).bind (fun x14 => (some (0, x14.2))) else none))) else none)) else none) = some (0, h') ∧ Fr pRh h h' ∧ CR h' B L (hsR B L s V).1 ∧ HouC h' 92 (hsR B L s V).2 := fun ru lo hi e lh er => by
    obtain ⟨h4, g4, f4, r4⟩ := c_num r3' o3.1 lo hi
    rw [← e] at g4 r4
    have o4 : SO B L (uN2 B L s V).2 := by rw [e]; exact so_num o3
    obtain ⟨h5, g5, f5, r5⟩ := c_ens r4 o4.1
    have F := ((f2.tr f3).tr f4).tr f5
    have w5 := w.rd F
    rw [if_pos (cro r3'), g4, bind_some', if_pos (cro r4), g5, bind_some']
    show ∃ h', _ ∧ Fr pRh h h' ∧ CR h' B L (ens B L (uN2 B L s V).2) ∧ HouC h' 92 (if (ens B L (uN2 B L s V).2).2.1 = 0 then tRule V (uN1 B L s V).1 (uN2 B L s V).1 else V)
    by_cases z : (ens B L (uN2 B L s V).2).2.1 = 0
    · have z2 := ens_0 z
      have a2 : (uN1 B L s V).2.2.1 = 0 ∧ lo ≤ (uN2 B L s V).1 ∧ (uN2 B L s V).1 ≤ hi := by rw [e] at z2 ⊢; exact num_0 z2
      have a1 := one_0 a2.1
      have b1 : 0 ≤ (uN1 B L s V).1 ∧ (uN1 B L s V).1 ≤ 35 - 31 := a1.2
      obtain ⟨h6, g6, f6, w6⟩ := h_rset w5 (rm3_0 a1.1).2 (x := (uN1 B L s V).1) (y := (uN2 B L s V).1) (by omega) (by omega)
      rw [bI_t z, if_neg n10, if_pos (hF w5.1.1), er z, g6, bind_some', if_pos z]
      exact ⟨h6, rfl, (F.to pRf_h).tr (f6.to pH_h), r5.ne f6 pH_n, w6⟩
    · rw [bI_f z, if_pos rfl, if_neg z]
      exact ⟨h5, rfl, F.to pRf_h, r5, w5⟩
  rw [E_Re_readRule, if_pos (hF w.1.1), m3, if_pos (cro r), g1, bind_some', if_pos k1, g2, bind_some', if_pos (cro r2), cr, bind_some']
  dsimp only
  by_cases c : tK B L (rm3 B L (V 3) 8 s).1 = 3 ∧ 31 ≤ tW B L (rm3 B L (V 3) 8 s).1 ∧ tW B L (rm3 B L (V 3) 8 s).1 ≤ 35
  · rw [bI_t c] at g3
    rw [if_pos c, if_neg (show ¬ tW B L (rm3 B L (V 3) 8 s).1 - 31 = -1 by omega), if_pos (cro r2), g3, bind_some']
    have e1 : (uN1 B L s V).1 = tW B L (rm3 B L (V 3) 8 s).1 - 31 := by unfold uN1 one; rw [if_neg (rm3_1 fn), if_pos c]
    by_cases y : tW B L (rm3 B L (V 3) 8 s).1 - 31 = 4
    · rw [if_pos y]
      exact fin _ 1 9 (by unfold uN2; rw [if_pos (e1.trans y)]) (by decide) (fun _ => e1.symm)
    · rw [if_neg y]
      exact fin _ 0 9999 (by unfold uN2; rw [if_neg (by rw [e1]; exact y)]) (by decide) (fun _ => e1.symm)
  · rw [bI_f c] at g3
    have e1 : (uN1 B L s V).1 = 0 := by unfold uN1 one; rw [if_neg (rm3_1 fn), if_neg c]
    rw [if_neg c, if_pos rfl, if_pos (cro r2), g3, bind_some', if_neg (show ¬ (-1 : Int) = 4 by decide)]
    refine fin (-1) 0 9999 (by unfold uN2; rw [if_neg (by rw [e1]; decide)]) (by decide) (fun z => ?_)
    have z2 := ens_0 z
    have a2 : (uN1 B L s V).2.2.1 = 0 := by
      unfold uN2 at z2
      rw [if_neg (by rw [e1]; decide)] at z2
      exact (num_0 z2).1
    exact absurd (one_c a2).1 c
theorem so_hsL {B : Int → Int} {L : Int} {s : Int × Int × Int} (o : SO B L s) (t : tK B L s.1 ≠ 0) (V : Int → Int) : SO B L (hsL B L s V).1 := by
  unfold hsL
  by_cases k : tK B L s.1 = 3
  · rw [if_pos k]
    by_cases w1 : tW B L s.1 = 11
    · rw [if_pos w1]; exact so_ens (so_num (so_step o t))
    rw [if_neg w1]
    by_cases w2 : tW B L s.1 = 12
    · rw [if_pos w2]; exact so_ens (so_one (so_step o t))
    rw [if_neg w2]
    by_cases w3 : tW B L s.1 = 13
    · rw [if_pos w3]; exact so_ens (so_num (so_one (so_num (so_step o t))))
    rw [if_neg w3]
    by_cases w4 : tW B L s.1 = 14
    · rw [if_pos w4]; exact so_ens (so_num (so_step o t))
    rw [if_neg w4]
    by_cases w5 : tW B L s.1 = 15
    · rw [if_pos w5]
      have a : SO B L (uN2 B L s V).2 := by
        unfold uN2
        by_cases y : (uN1 B L s V).1 = 4
        · rw [if_pos y]; exact so_num (so_one (so_rm3 o t))
        · rw [if_neg y]; exact so_num (so_one (so_rm3 o t))
      exact so_ens a
    rw [if_neg w5]
    exact so_brk o
  · rw [if_neg k]; exact so_brk o
theorem pRh_n (b i : Int) (q : b ≤ 0) : ¬ pRh b i := by unfold pRh pRf pH; omega
theorem c_hou {B : Int → Int} {L : Int} : ∀ (n : Nat) (i : Int) (h : Hp) (s : Int × Int × Int) (V : Int → Int), CR h B L s → SO B L s → HouC h 92 V → Str h → 0 ≤ i → i + n = 500 → ∃ h', P_Re_readHouse_6 82 92 i h = some (0, h') ∧ Fr pRh h h' ∧ CR h' B L (hsI B L n (s, V)).1 ∧ HouC h' 92 (hsI B L n (s, V)).2 := by
  intro n
  induction n with
  | zero =>
    intro i h s V r o w st i0 hi
    exact ⟨h, by rw [E_Re_readHouse_6, if_neg (by omega)], Fr.rf _ h, r, w⟩
  | succ n ih =>
    intro i h s V r o w st i0 hi
    have eI : hsI B L (n + 1) (s, V) = if tK B L s.1 = 0 ∨ s.2.1 = 1 then (s, V) else hsI B L n (hsL B L s V) := rfl
    rw [eI, E_Re_readHouse_6, if_pos (show i < 500 by omega), if_pos (cro r), c_goes r, bind_some']
    by_cases g : tK B L s.1 = 0 ∨ s.2.1 = 1
    · rw [bI_f (fun x => x g), if_pos rfl, if_pos g]
      exact ⟨h, rfl, Fr.rf _ h, r, w⟩
    · have i16 : C_Re_isWord 82 (-16) h = some (bI (tK B L s.1 = 3 ∧ tW B L s.1 = 11), h) := c_isw r.1 st o.1.1 o.1.2 (k := 6) (by decide)
      have i17 : C_Re_isWord 82 (-17) h = some (bI (tK B L s.1 = 3 ∧ tW B L s.1 = 12), h) := c_isw r.1 st o.1.1 o.1.2 (k := 7) (by decide)
      have i21 : C_Re_isWord 82 (-21) h = some (bI (tK B L s.1 = 3 ∧ tW B L s.1 = 13), h) := c_isw r.1 st o.1.1 o.1.2 (k := 11) (by decide)
      have i24 : C_Re_isWord 82 (-24) h = some (bI (tK B L s.1 = 3 ∧ tW B L s.1 = 14), h) := c_isw r.1 st o.1.1 o.1.2 (k := 14) (by decide)
      have i25 : C_Re_isWord 82 (-25) h = some (bI (tK B L s.1 = 3 ∧ tW B L s.1 = 15), h) := c_isw r.1 st o.1.1 o.1.2 (k := 15) (by decide)
      have t0 : tK B L s.1 ≠ 0 := fun x => g (Or.inl x)
      have f1 : s.2.1 ≠ 1 := fun x => g (Or.inr x)
      have oL := so_hsL o t0 V
      rw [bI_t g, if_neg n10, if_neg g, if_pos (cro r), i16, bind_some', w32_id (x := i + 1) (by omega) (by omega)]
      have go : ∀ h1, Fr pRh h h1 → CR h1 B L (hsL B L s V).1 → HouC h1 92 (hsL B L s V).2 → ∃ h', P_Re_readHouse_6 82 92 (i + 1) h1 = some (0, h') ∧ Fr pRh h h' ∧ CR h' B L (hsI B L n (hsL B L s V)).1 ∧ HouC h' 92 (hsI B L n (hsL B L s V)).2 := fun h1 f1 r1 w1 => by
        obtain ⟨h2, g2, f2, r2, w2⟩ := ih (i + 1) h1 _ _ r1 oL w1 (st.fr f1 pRh_n) (by omega) (by omega)
        exact ⟨h2, g2, f1.tr f2, r2, w2⟩
      by_cases k : tK B L s.1 = 3
      · by_cases w1 : tW B L s.1 = 11
        · obtain ⟨h1, g1, f1, r1, v1⟩ := h_use r o w k
          have e : hsL B L s V = hsU B L s V 0 5 := by unfold hsL; rw [if_pos k, if_pos w1]
          rw [← e] at r1 v1
          rw [bI_t ⟨k, w1⟩, if_neg n10, if_pos (cro r), g1, bind_some']
          exact go h1 f1 r1 v1
        rw [bI_f (fun x => w1 x.2), if_pos rfl, if_pos (cro r), i17, bind_some']
        by_cases w2 : tW B L s.1 = 12
        · obtain ⟨h1, g1, f1, r1, v1⟩ := h_way r o w st k
          have e : hsL B L s V = hsW B L s V := by unfold hsL; rw [if_pos k, if_neg w1, if_pos w2]
          rw [← e] at r1 v1
          rw [bI_t ⟨k, w2⟩, if_neg n10, if_pos (cro r), g1, bind_some']
          exact go h1 f1 r1 v1
        rw [bI_f (fun x => w2 x.2), if_pos rfl, if_pos (cro r), i21, bind_some']
        by_cases w3 : tW B L s.1 = 13
        · obtain ⟨h1, g1, f1, r1, v1⟩ := h_lean r o w st k
          have e : hsL B L s V = hsN B L s V := by unfold hsL; rw [if_pos k, if_neg w1, if_neg w2, if_pos w3]
          rw [← e] at r1 v1
          rw [bI_t ⟨k, w3⟩, if_neg n10, if_pos (cro r), g1, bind_some']
          exact go h1 f1 r1 v1
        rw [bI_f (fun x => w3 x.2), if_pos rfl, if_pos (cro r), i24, bind_some']
        by_cases w4 : tW B L s.1 = 14
        · obtain ⟨h1, g1, f1, r1, v1⟩ := h_cast r o w k
          have e : hsL B L s V = hsU B L s V 2 23 := by unfold hsL; rw [if_pos k, if_neg w1, if_neg w2, if_neg w3, if_pos w4]
          rw [← e] at r1 v1
          rw [bI_t ⟨k, w4⟩, if_neg n10, if_pos (cro r), g1, bind_some']
          exact go h1 f1 r1 v1
        rw [bI_f (fun x => w4 x.2), if_pos rfl, if_pos (cro r), i25, bind_some']
        by_cases w5 : tW B L s.1 = 15
        · obtain ⟨h1, g1, f1', r1, v1⟩ := h_rule r o w st k f1
          have e : hsL B L s V = hsR B L s V := by unfold hsL; rw [if_pos k, if_neg w1, if_neg w2, if_neg w3, if_neg w4, if_pos w5]
          rw [← e] at r1 v1
          rw [bI_t ⟨k, w5⟩, if_neg n10, if_pos (cro r), g1, bind_some']
          exact go h1 f1' r1 v1
        obtain ⟨h1, g1, f1, r1⟩ := c_brk r
        have e : hsL B L s V = (brk B L s, V) := by unfold hsL; rw [if_pos k, if_neg w1, if_neg w2, if_neg w3, if_neg w4, if_neg w5]
        rw [bI_f (fun x => w5 x.2), if_pos rfl, if_pos (cro r), g1, bind_some']
        exact go h1 (f1.to pRf_h) (by rw [e]; exact r1) (by rw [e]; exact w.rd f1)
      · obtain ⟨h1, g1, f1, r1⟩ := c_brk r
        have e : hsL B L s V = (brk B L s, V) := by unfold hsL; rw [if_neg k]
        rw [bI_f (fun x => k x.1), if_pos rfl, if_pos (cro r), i17, bind_some', bI_f (fun x => k x.1), if_pos rfl, if_pos (cro r), i21, bind_some', bI_f (fun x => k x.1), if_pos rfl, if_pos (cro r), i24, bind_some', bI_f (fun x => k x.1), if_pos rfl, if_pos (cro r), i25, bind_some', bI_f (fun x => k x.1), if_pos rfl, if_pos (cro r), g1, bind_some']
        exact go h1 (f1.to pRf_h) (by rw [e]; exact r1) (by rw [e]; exact w.rd f1)
