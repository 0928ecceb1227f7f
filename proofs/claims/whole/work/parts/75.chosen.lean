/-! chosen: sums over distances, the greatest common divisor. -/
def zg (a b : Int) : Int := (Nat.gcd a.toNat b.toNat : Nat)
theorem zg_step {a b : Int} (a0 : 0 ≤ a) (b0 : 0 < b) : zg b (Int.tmod a b) = zg a b := by
  unfold zg
  rw [Int.tmod_eq_emod_of_nonneg a0]
  have e : (a % b).toNat = a.toNat % b.toNat := by
    have h1 : ((a.toNat % b.toNat : Nat) : Int) = a % b := by
      rw [Int.natCast_emod, Int.toNat_of_nonneg a0, Int.toNat_of_nonneg (by omega)]
    omega
  rw [e, Nat.gcd_comm b.toNat, ← Nat.gcd_rec, Nat.gcd_comm]
theorem zg_zero {a : Int} (a0 : 0 ≤ a) : zg a 0 = a := by
  unfold zg
  rw [show (0 : Int).toNat = 0 from rfl, Nat.gcd_zero_right]
  omega
theorem m_common : ∀ (n : Nat) (a b : Int) (h : Hp), 0 ≤ a → 0 ≤ b → b.toNat < n → P_Mo_common_6 a b h = some (zg a b, h) := by
  intro n
  induction n with
  | zero => intro a b h a0 b0 hb; omega
  | succ n ih =>
    intro a b h a0 b0 hb
    rw [E_Mo_common_6]
    by_cases q : b = 0
    · rw [if_pos q, q, zg_zero a0]
    · have p : 0 < b := by omega
      have t0 : 0 ≤ Int.tmod a b ∧ Int.tmod a b < b := by
        rw [Int.tmod_eq_emod_of_nonneg a0]
        exact ⟨Int.emod_nonneg _ q, Int.emod_lt_of_pos _ p⟩
      rw [if_neg q, if_neg q, ih b (Int.tmod a b) h (by omega) t0.1 (by omega), zg_step a0 p]
theorem s_common : ∀ (k : Nat) (a b t : Int) (h : Hp), 0 ≤ a → 0 ≤ b → b < 2 ^ k → 0 ≤ t → t + 2 * k + 1 ≤ 200 → P_LS_greatestCommon_3 a b t h = some (zg a b, h) := by
  intro k
  induction k with
  | zero =>
    intro a b t h a0 b0 b1 t0 t1
    have z : b = 0 := by
      have : (2 : Int) ^ 0 = 1 := rfl
      omega
    rw [E_LS_greatestCommon_3, if_pos (show t < 200 by omega), if_pos z, z, zg_zero a0]
  | succ k ih =>
    intro a b t h a0 b0 b1 t0 t1
    have pw : (2 : Int) ^ (k + 1) = 2 * 2 ^ k := by rw [Int.pow_succ, Int.mul_comm]
    rw [E_LS_greatestCommon_3, if_pos (show t < 200 by omega)]
    by_cases q : b = 0
    · rw [if_pos q, q, zg_zero a0]
    · have p : 0 < b := by omega
      have r0 : 0 ≤ Int.tmod a b ∧ Int.tmod a b < b := by
        rw [Int.tmod_eq_emod_of_nonneg a0]
        exact ⟨Int.emod_nonneg _ q, Int.emod_lt_of_pos _ p⟩
      rw [if_neg q, if_neg q, w32_id (x := t + 1) (by omega) (by omega), ← zg_step a0 p, E_LS_greatestCommon_3, if_pos (show t + 1 < 200 by omega)]
      by_cases q2 : Int.tmod a b = 0
      · rw [if_pos q2, q2, zg_zero (by omega)]
      · have p2 : 0 < Int.tmod a b := by omega
        have r1 : 0 ≤ Int.tmod b (Int.tmod a b) ∧ Int.tmod b (Int.tmod a b) < Int.tmod a b ∧ Int.tmod b (Int.tmod a b) + Int.tmod a b ≤ b := by
          rw [Int.tmod_eq_emod_of_nonneg b0]
          have d := Int.emod_add_mul_ediv b (Int.tmod a b)
          have dq : 1 ≤ b / Int.tmod a b := (Int.le_ediv_iff_mul_le p2).2 (by omega)
          have dm := Int.mul_le_mul_of_nonneg_left dq (Int.le_of_lt p2)
          refine ⟨Int.emod_nonneg _ q2, Int.emod_lt_of_pos _ p2, by omega⟩
        rw [if_neg q2, if_neg q2, w32_id (x := t + 1 + 1) (by omega) (by omega), ← zg_step b0 p2]
        exact ih (Int.tmod a b) (Int.tmod b (Int.tmod a b)) (t + 1 + 1) h (by omega) r1.1 (by omega) (by omega) (by omega)
theorem zCn_b {S : Int → Int} (o : Sok S) (e : Int) : 0 ≤ zCn S e ∧ zCn S e ≤ 54 := by
  have s0 := o.1
  have b := Sm_b (g := fun i => sn S i e * gM S i) (B := 9) (by omega) (S 0).toNat 0 (fun i i0 i1 => by
    have m := gM_b o i0 (show i < S 0 by omega)
    exact sn_m (by omega) (by omega))
  unfold zCn
  omega
theorem zLg_b {S : Int → Int} (o : Sok S) (e : Int) : 0 ≤ zLg S e ∧ zLg S e ≤ 53946 := by
  have s0 := o.1
  have b := Sm_b (g := fun i => sn S i e * gLt S i) (B := 8991) (by omega) (S 0).toNat 0 (fun i i0 i1 => by
    have m := gLt_b o i0 (show i < S 0 by omega)
    exact sn_m (by omega) (by omega))
  unfold zLg
  omega
theorem ee_b {e : Int} (e0 : 1 ≤ e) (e1 : e ≤ 200) : 1 ≤ e * e ∧ e * e ≤ 40000 := by
  have a := mul_b (a := e) (b := e) 200 200 (by omega) e1 (by omega) e1
  have b := Int.mul_le_mul (a := 1) (b := 1) (c := e) (d := e) e0 e0 (by omega) (by omega)
  omega
theorem l_ch {h : Hp} {c : Int} {S : Int → Int} (w : SkyC h c S) {f un : Int} (f1 : f ≤ 200) : ∀ (n : Nat) (e a b : Int), 1 ≤ e → e + n = f + 1 → 0 ≤ a → a ≤ 2160000 * e → 0 ≤ b → b ≤ 2157840000 * e → P_LS_chosen_61 f un c a b e h = P_LS_chosen_61 f un c (a + Sm (fun e => e * e * zCn S e) n e) (b + Sm (fun e => e * e * zLg S e) n e) (f + 1) h := by
  have o := w.2.2.1
  intro n
  induction n with
  | zero =>
    intro e a b e0 he a0 a1 b0 b1
    show _ = P_LS_chosen_61 f un c (a + 0) (b + 0) (f + 1) h
    rw [Int.add_zero, Int.add_zero, show e = f + 1 by omega]
  | succ n ih =>
    intro e a b e0 he a0 a1 b0 b1
    have ee := ee_b e0 (show e ≤ 200 by omega)
    have cb := zCn_b o e
    have lb := zLg_b o e
    have m1 := mul_b (a := e * e) (b := zCn S e) 40000 54 (by omega) ee.2 cb.1 cb.2
    have m2 := mul_b (a := e * e) (b := zLg S e) 40000 53946 (by omega) ee.2 lb.1 lb.2
    rw [E_LS_chosen_61, if_neg (show ¬ f < e by omega), if_pos (skF w), s_count w, bind_some', if_pos (skF w), s_light w, bind_some', w64_id (x := e * e) (by omega) (by omega), w64_id (x := e * e * zCn S e) (by omega) (by omega), w64_id (x := e * e * zLg S e) (by omega) (by omega), w64_id (x := a + e * e * zCn S e) (by omega) (by omega), w64_id (x := b + e * e * zLg S e) (by omega) (by omega), w32_id (x := e + 1) (by omega) (by omega)]
    show _ = P_LS_chosen_61 f un c (a + (e * e * zCn S e + Sm (fun e => e * e * zCn S e) n (e + 1))) (b + (e * e * zLg S e + Sm (fun e => e * e * zLg S e) n (e + 1))) (f + 1) h
    rw [← Int.add_assoc, ← Int.add_assoc]
    exact ih (e + 1) _ _ (by omega) (by omega) (by omega) (by omega) (by omega) (by omega)
def zLo (f al : Int) : Int := if al = 0 then f else 1
def tm (al e : Int) : Int := if al = 0 then 1 else e * e
/-- what the reference sums -/
def zSL (S : Int → Int) (f al : Int) : Int := Sm (fun i => Sm (fun e => sn S i e * (tm al e * gM S i)) (f + 1 - zLo f al).toNat (zLo f al)) (S 0).toNat 0
def zSB (S : Int → Int) (f al : Int) : Int := Sm (fun i => Sm (fun e => sn S i e * (tm al e * gM S i * S (6 + i))) (f + 1 - zLo f al).toNat (zLo f al)) (S 0).toNat 0
def zUp1 (S : Int → Int) (f al : Int) : Int := zSB S f al * Sm (gM S) (S 0).toNat 0
def zDn1 (S : Int → Int) (f al : Int) : Int := zSL S f al * Sm (gLt S) (S 0).toNat 0
def zCh1 (S : Int → Int) (f al un : Int) : Int := if zSL S f al = 0 then -1 else if un = 0 then w64 (Int.tdiv (zUp1 S f al) (zg (zUp1 S f al) (zDn1 S f al))) else w64 (Int.tdiv (zDn1 S f al) (zg (zUp1 S f al) (zDn1 S f al)))
def kCh (T : Int → Int) (k f al : Int) : Prop := (0 ≤ k ∧ k < T 2) ∧ 1 ≤ f ∧ f ≤ (if al = 0 then 200 else 60)
noncomputable def aChosen (T : Int → Int) (k f al un : Int) : Int := cI (kCh T k f al) (zCh1 (skyT T k) f al un) (-1)
theorem tm_b {al e : Int} (e0 : 1 ≤ e) (e1 : e ≤ 200) : 1 ≤ tm al e ∧ tm al e ≤ 40000 := by
  unfold tm
  split
  · omega
  · exact ee_b e0 e1
theorem tmm_b {S : Int → Int} (o : Sok S) {al e i : Int} (e0 : 1 ≤ e) (e1 : e ≤ 200) (i0 : 0 ≤ i) (i1 : i < S 0) : (1 ≤ tm al e * gM S i ∧ tm al e * gM S i ≤ 360000) ∧ (1 ≤ tm al e * gM S i * S (6 + i) ∧ tm al e * gM S i * S (6 + i) ≤ 359640000) := by
  have t := tm_b (al := al) e0 e1
  have m := gM_b o i0 i1
  have b := (o.2.2.2.2.2.2 i i0 i1).1
  have m1 := mul_b (a := tm al e) (b := gM S i) 40000 9 (by omega) t.2 (by omega) m.2
  have p1 := Int.mul_le_mul (a := 1) (b := 1) (c := tm al e) (d := gM S i) t.1 m.1 (by omega) (by omega)
  have m2 := mul_b (a := tm al e * gM S i) (b := S (6 + i)) 360000 999 (by omega) (by omega) (by omega) b.2
  have p2 := Int.mul_le_mul (a := 1) (b := 1) (c := tm al e * gM S i) (d := S (6 + i)) (by omega) b.1 (by omega) (by omega)
  omega
theorem l_m123 {h : Hp} {T : Int → Int} (w : Inv h T) {k f al un bb ll i : Int} (k0 : 0 ≤ k) (k1 : k < T 2) (f1 : f ≤ 200) (i0 : 0 ≤ i) (i1 : i < skyT T k 0) : ∀ (n : Nat) (e a b : Int), 1 ≤ e → e + n = f + 1 → 0 ≤ a → a ≤ 359640000 * (201 * i + e) → 0 ≤ b → b ≤ 360000 * (201 * i + e) → P_Mo_chosen_123 124 f al un (1670 + 18 * k) bb ll a b i (gM (skyT T k) i) e h = P_Mo_chosen_53 124 f al un (1670 + 18 * k) bb ll (a + Sm (fun e => sn (skyT T k) i e * (tm al e * gM (skyT T k) i * skyT T k (6 + i))) n e) (b + Sm (fun e => sn (skyT T k) i e * (tm al e * gM (skyT T k) i)) n e) (i + 1) h := by
  have nn := ivn w
  have o := (ivK w k0 k1).2.2.1
  have s0 := o.1
  have e6 : mR h 125 (1670 + 18 * k + (6 + i)) = skyT T k (6 + i) := ivMK6 w k0 (by omega) (by omega) (by omega)
  intro n
  induction n with
  | zero =>
    intro e a b e0 he a0 a1 b0 b1
    rw [E_Mo_chosen_123, if_pos (show f < e by omega), w32_id (x := i + 1) (by omega) (by omega)]
    show _ = P_Mo_chosen_53 124 f al un (1670 + 18 * k) bb ll (a + 0) (b + 0) (i + 1) h
    rw [Int.add_zero, Int.add_zero]
  | succ n ih =>
    intro e a b e0 he a0 a1 b0 b1
    have tb := tmm_b o (al := al) e0 (show e ≤ 200 by omega) i0 i1
    have ee := ee_b e0 (show e ≤ 200 by omega)
    have mb := gM_b o i0 i1
    rw [E_Mo_chosen_123, if_neg (show ¬ f < e by omega), if_pos (ivM w), m_seen w k0 (by omega) i0 (by omega), bind_some', if_pos (ivM w), ivM0 w, w32_id (x := 1670 + 18 * k + 6) (by omega) (by omega), w32_id (x := 1670 + 18 * k + 6 + i) (by omega) (by omega), if_pos (ivMA w (by omega) (by omega)), if_pos (ivM w), if_pos (ivMA w (by omega) (by omega)), show 1670 + 18 * k + 6 + i = 1670 + 18 * k + (6 + i) by omega, e6, w32_id (x := e + 1) (by omega) (by omega)]
    dsimp only
    show _ = P_Mo_chosen_53 124 f al un (1670 + 18 * k) bb ll (a + (sn (skyT T k) i e * (tm al e * gM (skyT T k) i * skyT T k (6 + i)) + Sm (fun e => sn (skyT T k) i e * (tm al e * gM (skyT T k) i * skyT T k (6 + i))) n (e + 1))) (b + (sn (skyT T k) i e * (tm al e * gM (skyT T k) i) + Sm (fun e => sn (skyT T k) i e * (tm al e * gM (skyT T k) i)) n (e + 1))) (i + 1) h
    rw [← Int.add_assoc, ← Int.add_assoc]
    rcases sn_b (skyT T k) i e with z | z
    · rw [z, if_pos rfl, Int.zero_mul, Int.zero_mul, Int.add_zero, Int.add_zero]
      exact ih (e + 1) _ _ (by omega) (by omega) (by omega) (by omega) (by omega) (by omega)
    · rw [z, if_neg n10, Int.one_mul (tm al e * gM (skyT T k) i * skyT T k (6 + i)), Int.one_mul (tm al e * gM (skyT T k) i)]
      have key : (if al = 0 then P_Mo_chosen_123 124 f al un (1670 + 18 * k) bb ll (w64 (a + w64 (w64 (1 * gM (skyT T k) i) * skyT T k (6 + i)))) (w64 (b + w64 (1 * gM (skyT T k) i))) i (gM (skyT T k) i) (e + 1) h else P_Mo_chosen_123 124 f al un (1670 + 18 * k) bb ll (w64 (a + w64 (w64 (w64 (e * e) * gM (skyT T k) i) * skyT T k (6 + i)))) (w64 (b + w64 (w64 (e * e) * gM (skyT T k) i))) i (gM (skyT T k) i) (e + 1) h) = P_Mo_chosen_123 124 f al un (1670 + 18 * k) bb ll (a + tm al e * gM (skyT T k) i * skyT T k (6 + i)) (b + tm al e * gM (skyT T k) i) i (gM (skyT T k) i) (e + 1) h := by
        by_cases x : al = 0
        · have et : tm al e = 1 := if_pos x
          rw [et] at tb ⊢
          rw [if_pos x, w64_id (x := 1 * gM (skyT T k) i) (by omega) (by omega), w64_id (x := 1 * gM (skyT T k) i * skyT T k (6 + i)) (by omega) (by omega), w64_id (x := a + 1 * gM (skyT T k) i * skyT T k (6 + i)) (by omega) (by omega), w64_id (x := b + 1 * gM (skyT T k) i) (by omega) (by omega)]
        · have et : tm al e = e * e := if_neg x
          rw [et] at tb ⊢
          rw [if_neg x, w64_id (x := e * e) (by omega) (by omega), w64_id (x := e * e * gM (skyT T k) i) (by omega) (by omega), w64_id (x := e * e * gM (skyT T k) i * skyT T k (6 + i)) (by omega) (by omega), w64_id (x := a + e * e * gM (skyT T k) i * skyT T k (6 + i)) (by omega) (by omega), w64_id (x := b + e * e * gM (skyT T k) i) (by omega) (by omega)]
      rw [key]
      exact ih (e + 1) _ _ (by omega) (by omega) (by omega) (by omega) (by omega) (by omega)
theorem l_m53 {h : Hp} {T : Int → Int} (w : Inv h T) {k f al un : Int} (k0 : 0 ≤ k) (k1 : k < T 2) (f0 : 1 ≤ f) (f1 : f ≤ 200) : ∀ (n : Nat) (i bb ll a b : Int), 0 ≤ i → i + n = skyT T k 0 → 0 ≤ bb → bb ≤ 8991 * i → 0 ≤ ll → ll ≤ 9 * i → 0 ≤ a → a ≤ 359640000 * (201 * i) → 0 ≤ b → b ≤ 360000 * (201 * i) → P_Mo_chosen_53 124 f al un (1670 + 18 * k) bb ll a b i h = P_Mo_chosen_53 124 f al un (1670 + 18 * k) (bb + Sm (gLt (skyT T k)) n i) (ll + Sm (gM (skyT T k)) n i) (a + Sm (fun i => Sm (fun e => sn (skyT T k) i e * (tm al e * gM (skyT T k) i * skyT T k (6 + i))) (f + 1 - zLo f al).toNat (zLo f al)) n i) (b + Sm (fun i => Sm (fun e => sn (skyT T k) i e * (tm al e * gM (skyT T k) i)) (f + 1 - zLo f al).toNat (zLo f al)) n i) (skyT T k 0) h := by
  have nn := ivn w
  have o := (ivK w k0 k1).2.2.1
  have s0 := o.1
  have e0 := ivMK6 w (o := 0) k0 (show k < 3 by omega) (by omega) (by omega)
  have zl : 1 ≤ zLo f al ∧ zLo f al ≤ f := by unfold zLo; split <;> omega
  intro n
  induction n with
  | zero =>
    intro i bb ll a b i0 hi bb0 bb1 ll0 ll1 a0 a1 b0 b1
    rw [show i = skyT T k 0 by omega]
    show _ = P_Mo_chosen_53 124 f al un (1670 + 18 * k) (bb + 0) (ll + 0) (a + 0) (b + 0) (skyT T k 0) h
    rw [Int.add_zero, Int.add_zero, Int.add_zero, Int.add_zero]
  | succ n ih =>
    intro i bb ll a b i0 hi bb0 bb1 ll0 ll1 a0 a1 b0 b1
    have i1 : i < skyT T k 0 := by omega
    have mb := gM_b o i0 i1
    have lb := gLt_b o i0 i1
    have e12 : mR h 125 (1670 + 18 * k + (12 + i)) = gM (skyT T k) i := ivMK6 w k0 (by omega) (by omega) (by omega)
    have e6 : mR h 125 (1670 + 18 * k + (6 + i)) = skyT T k (6 + i) := ivMK6 w k0 (by omega) (by omega) (by omega)
    have el : gM (skyT T k) i * skyT T k (6 + i) = gLt (skyT T k) i := rfl
    have sb1 := Sm_b (g := fun e => sn (skyT T k) i e * (tm al e * gM (skyT T k) i * skyT T k (6 + i))) (B := 359640000) (by omega) (f + 1 - zLo f al).toNat (zLo f al) (fun e e0 e1 => sn_m (by have := tmm_b o (al := al) (e := e) (by omega) (by omega) i0 i1; omega) (by have := tmm_b o (al := al) (e := e) (by omega) (by omega) i0 i1; omega))
    have sb2 := Sm_b (g := fun e => sn (skyT T k) i e * (tm al e * gM (skyT T k) i)) (B := 360000) (by omega) (f + 1 - zLo f al).toNat (zLo f al) (fun e e0 e1 => sn_m (by have := tmm_b o (al := al) (e := e) (by omega) (by omega) i0 i1; omega) (by have := tmm_b o (al := al) (e := e) (by omega) (by omega) i0 i1; omega))
    have lm := l_m123 w (f := f) (al := al) (un := un) (bb := bb + gLt (skyT T k) i) (ll := ll + gM (skyT T k) i) k0 k1 f1 i0 i1 (f + 1 - zLo f al).toNat (zLo f al) a b zl.1 (by omega) a0 (by omega) b0 (by omega)
    rw [E_Mo_chosen_53, if_pos (ivM w), ivM0 w, w32_id (x := 1670 + 18 * k + 0) (by omega) (by omega), if_pos (ivMA w (by omega) (by omega)), e0, if_pos i1, if_pos (ivM w), w32_id (x := 1670 + 18 * k + 12) (by omega) (by omega), w32_id (x := 1670 + 18 * k + 12 + i) (by omega) (by omega), if_pos (ivMA w (by omega) (by omega)), if_pos (ivM w), w32_id (x := 1670 + 18 * k + 6) (by omega) (by omega), w32_id (x := 1670 + 18 * k + 6 + i) (by omega) (by omega), if_pos (ivMA w (by omega) (by omega)), show 1670 + 18 * k + 12 + i = 1670 + 18 * k + (12 + i) by omega, show 1670 + 18 * k + 6 + i = 1670 + 18 * k + (6 + i) by omega, e12, e6, el, w64_id (x := gLt (skyT T k) i) (by omega) (by omega), w64_id (x := bb + gLt (skyT T k) i) (by omega) (by omega), w64_id (x := ll + gM (skyT T k) i) (by omega) (by omega)]
    have key : (if al = 0 then P_Mo_chosen_123 124 f al un (1670 + 18 * k) (bb + gLt (skyT T k) i) (ll + gM (skyT T k) i) a b i (gM (skyT T k) i) f h else P_Mo_chosen_123 124 f al un (1670 + 18 * k) (bb + gLt (skyT T k) i) (ll + gM (skyT T k) i) a b i (gM (skyT T k) i) 1 h) = P_Mo_chosen_123 124 f al un (1670 + 18 * k) (bb + gLt (skyT T k) i) (ll + gM (skyT T k) i) a b i (gM (skyT T k) i) (zLo f al) h := by
      unfold zLo
      by_cases x : al = 0
      · rw [if_pos x, if_pos x]
      · rw [if_neg x, if_neg x]
    rw [key, lm]
    show _ = P_Mo_chosen_53 124 f al un (1670 + 18 * k) (bb + (gLt (skyT T k) i + Sm (gLt (skyT T k)) n (i + 1))) (ll + (gM (skyT T k) i + Sm (gM (skyT T k)) n (i + 1))) (a + (Sm (fun e => sn (skyT T k) i e * (tm al e * gM (skyT T k) i * skyT T k (6 + i))) (f + 1 - zLo f al).toNat (zLo f al) + Sm (fun i => Sm (fun e => sn (skyT T k) i e * (tm al e * gM (skyT T k) i * skyT T k (6 + i))) (f + 1 - zLo f al).toNat (zLo f al)) n (i + 1))) (b + (Sm (fun e => sn (skyT T k) i e * (tm al e * gM (skyT T k) i)) (f + 1 - zLo f al).toNat (zLo f al) + Sm (fun i => Sm (fun e => sn (skyT T k) i e * (tm al e * gM (skyT T k) i)) (f + 1 - zLo f al).toNat (zLo f al)) n (i + 1))) (skyT T k 0) h
    rw [← Int.add_assoc bb, ← Int.add_assoc ll, ← Int.add_assoc a, ← Int.add_assoc b]
    exact ih (i + 1) _ _ _ _ (by omega) (by omega) (by omega) (by omega) (by omega) (by omega) (by omega) (by omega) (by omega) (by omega)
def zk2 (f al : Int) : Int := if al = 0 then f * f else 1
theorem zSL_c (S : Int → Int) {f al : Int} : Sm (fun e => e * e * zCn S e) (f + 1 - zLo f al).toNat (zLo f al) = zk2 f al * zSL S f al ∧ Sm (fun e => e * e * zLg S e) (f + 1 - zLo f al).toNat (zLo f al) = zk2 f al * zSB S f al := by
  unfold zSL zSB zk2 tm zCn zLg
  by_cases x : al = 0
  · have el : zLo f al = f := if_pos x
    rw [el, if_pos x, show (f + 1 - f).toNat = 1 by omega]
    constructor
    · show f * f * Sm (fun i => sn S i f * gM S i) (S 0).toNat 0 + 0 = f * f * Sm (fun i => sn S i f * ((if al = 0 then 1 else f * f) * gM S i) + 0) (S 0).toNat 0
      rw [Int.add_zero]
      congr 1
      exact Sm_cg _ _ (fun i _ _ => by rw [if_pos x, Int.one_mul, Int.add_zero])
    · show f * f * Sm (fun i => sn S i f * gLt S i) (S 0).toNat 0 + 0 = f * f * Sm (fun i => sn S i f * ((if al = 0 then 1 else f * f) * gM S i * S (6 + i)) + 0) (S 0).toNat 0
      rw [Int.add_zero]
      congr 1
      exact Sm_cg _ _ (fun i _ _ => by rw [if_pos x, Int.one_mul, Int.add_zero]; rfl)
  · rw [if_neg x, Int.one_mul, Int.one_mul]
    constructor
    · rw [Sm_swap (fun i e => sn S i e * ((if al = 0 then 1 else e * e) * gM S i))]
      exact Sm_cg _ _ (fun e _ _ => by
        rw [← Sm_mul]
        exact Sm_cg _ _ (fun i _ _ => by rw [if_neg x, Int.mul_left_comm]))
    · rw [Sm_swap (fun i e => sn S i e * ((if al = 0 then 1 else e * e) * gM S i * S (6 + i)))]
      exact Sm_cg _ _ (fun e _ _ => by
        rw [← Sm_mul]
        exact Sm_cg _ _ (fun i _ _ => by
          rw [if_neg x, Int.mul_left_comm, Int.mul_assoc (e * e)]
          rfl))
theorem tn_mul {a b : Int} (a0 : 0 ≤ a) (b0 : 0 ≤ b) : (a * b).toNat = a.toNat * b.toNat := by
  have : ((a.toNat * b.toNat : Nat) : Int) = a * b := by rw [Int.natCast_mul, Int.toNat_of_nonneg a0, Int.toNat_of_nonneg b0]
  omega
theorem zg_mul {c a b : Int} (c0 : 0 ≤ c) (a0 : 0 ≤ a) (b0 : 0 ≤ b) : zg (c * a) (c * b) = c * zg a b := by
  unfold zg
  rw [tn_mul c0 a0, tn_mul c0 b0, Nat.gcd_mul_left, Int.natCast_mul, Int.toNat_of_nonneg c0]
theorem zg_pos {a b : Int} (b0 : 0 < b) : 0 < zg a b := by
  unfold zg
  have := Nat.gcd_pos_of_pos_right a.toNat (show 0 < b.toNat by omega)
  omega
theorem dv_mul {c a g : Int} (c0 : 0 < c) (a0 : 0 ≤ a) : Int.tdiv (c * a) (c * g) = Int.tdiv a g := Int.mul_tdiv_mul_of_pos _ _ c0
theorem zAll_b {S : Int → Int} (o : Sok S) : (1 ≤ Sm (gM S) (S 0).toNat 0 ∧ Sm (gM S) (S 0).toNat 0 ≤ 54) ∧ (1 ≤ Sm (gLt S) (S 0).toNat 0 ∧ Sm (gLt S) (S 0).toNat 0 ≤ 53946) := by
  have s0 := o.1
  have a := Sm_b (g := gM S) (B := 9) (by omega) (S 0).toNat 0 (fun i i0 i1 => by have := gM_b o i0 (show i < S 0 by omega); omega)
  have b := Sm_b (g := gLt S) (B := 8991) (by omega) (S 0).toNat 0 (fun i i0 i1 => by have := gLt_b o i0 (show i < S 0 by omega); omega)
  obtain ⟨m, hm⟩ : ∃ m : Nat, (S 0).toNat = m + 1 := ⟨(S 0).toNat - 1, by omega⟩
  have m0 := gM_b o (i := 0) (by omega) (by omega)
  have l0 := gLt_b o (i := 0) (by omega) (by omega)
  have c := Sm_b (g := gM S) (B := 9) (by omega) m (0 + 1) (fun i i0 i1 => by have := gM_b o (show 0 ≤ i by omega) (show i < S 0 by omega); omega)
  have d := Sm_b (g := gLt S) (B := 8991) (by omega) m (0 + 1) (fun i i0 i1 => by have := gLt_b o (show 0 ≤ i by omega) (show i < S 0 by omega); omega)
  have e1 : Sm (gM S) (S 0).toNat 0 = gM S 0 + Sm (gM S) m (0 + 1) := by rw [hm]; rfl
  have e2 : Sm (gLt S) (S 0).toNat 0 = gLt S 0 + Sm (gLt S) m (0 + 1) := by rw [hm]; rfl
  omega
theorem zSx_b {S : Int → Int} (o : Sok S) {f al : Int} (f0 : 1 ≤ f) (f1 : f ≤ 200) : (0 ≤ zSL S f al ∧ zSL S f al ≤ 432000000) ∧ (0 ≤ zSB S f al ∧ zSB S f al ≤ 431568000000) := by
  have s0 := o.1
  have zl : 1 ≤ zLo f al ∧ zLo f al ≤ f := by unfold zLo; split <;> omega
  have a := Sm_b (g := fun i => Sm (fun e => sn S i e * (tm al e * gM S i)) (f + 1 - zLo f al).toNat (zLo f al)) (B := 72000000) (by omega) (S 0).toNat 0 (fun i i0 i1 => by
    have := Sm_b (g := fun e => sn S i e * (tm al e * gM S i)) (B := 360000) (by omega) (f + 1 - zLo f al).toNat (zLo f al) (fun e e0 e1 => sn_m (by have := tmm_b o (al := al) (e := e) (by omega) (by omega) i0 (by omega); omega) (by have := tmm_b o (al := al) (e := e) (by omega) (by omega) i0 (by omega); omega))
    omega)
  have b := Sm_b (g := fun i => Sm (fun e => sn S i e * (tm al e * gM S i * S (6 + i))) (f + 1 - zLo f al).toNat (zLo f al)) (B := 71928000000) (by omega) (S 0).toNat 0 (fun i i0 i1 => by
    have := Sm_b (g := fun e => sn S i e * (tm al e * gM S i * S (6 + i))) (B := 359640000) (by omega) (f + 1 - zLo f al).toNat (zLo f al) (fun e e0 e1 => sn_m (by have := tmm_b o (al := al) (e := e) (by omega) (by omega) i0 (by omega); omega) (by have := tmm_b o (al := al) (e := e) (by omega) (by omega) i0 (by omega); omega))
    omega)
  unfold zSL zSB
  omega
theorem s_fin {h : Hp} {c : Int} {S : Int → Int} (w : SkyC h c S) {f al un : Int} (f0 : 1 ≤ f) (f1 : f ≤ 200) : P_LS_chosen_61 f un c 0 0 (zLo f al) h = some (zCh1 S f al un, h) := by
  have o := w.2.2.1
  have zl : 1 ≤ zLo f al ∧ zLo f al ≤ f := by unfold zLo; split <;> omega
  have zc := zSL_c S (f := f) (al := al)
  have ab := zAll_b o
  have sb := zSx_b o (al := al) f0 f1
  have ee := ee_b f0 f1
  have kb : 1 ≤ zk2 f al ∧ zk2 f al ≤ 40000 := by unfold zk2; split <;> omega
  -- bounds of the class's sums
  have c1 := Sm_b (g := fun e => e * e * zCn S e) (B := 2160000) (by omega) (f + 1 - zLo f al).toNat (zLo f al) (fun e e0 e1 => by
    have ee := ee_b (show 1 ≤ e by omega) (show e ≤ 200 by omega)
    have cb := zCn_b o e
    have m1 := mul_b (a := e * e) (b := zCn S e) 40000 54 (by omega) ee.2 cb.1 cb.2
    omega)
  have c2 := Sm_b (g := fun e => e * e * zLg S e) (B := 2157840000) (by omega) (f + 1 - zLo f al).toNat (zLo f al) (fun e e0 e1 => by
    have ee := ee_b (show 1 ≤ e by omega) (show e ≤ 200 by omega)
    have cb := zLg_b o e
    have m1 := mul_b (a := e * e) (b := zLg S e) 40000 53946 (by omega) ee.2 cb.1 cb.2
    omega)
  rw [zc.1] at c1
  rw [zc.2] at c2
  have p50 : (2 : Int) ^ 50 = 1125899906842624 := by decide
  have m1 := mul_b (a := zk2 f al * zSB S f al) (b := Sm (gM S) (S 0).toNat 0) 431568000000 54 c2.1 (by omega) (by omega) (by omega)
  have m2 := mul_b (a := zk2 f al * zSL S f al) (b := Sm (gLt S) (S 0).toNat 0) 432000000 53946 c1.1 (by omega) (by omega) (by omega)
  have u0 : 0 ≤ zUp1 S f al := Int.mul_nonneg sb.2.1 (by omega)
  have d0 : 0 ≤ zDn1 S f al := Int.mul_nonneg sb.1.1 (by omega)
  have eU : zk2 f al * zSB S f al * Sm (gM S) (S 0).toNat 0 = zk2 f al * zUp1 S f al := Int.mul_assoc _ _ _
  have eD : zk2 f al * zSL S f al * Sm (gLt S) (S 0).toNat 0 = zk2 f al * zDn1 S f al := Int.mul_assoc _ _ _
  rw [l_ch w (S := S) (f := f) (un := un) f1 (f + 1 - zLo f al).toNat (zLo f al) 0 0 zl.1 (by omega) (by omega) (by omega) (by omega) (by omega), Int.zero_add, Int.zero_add, zc.1, zc.2, E_LS_chosen_61, if_pos (show f < f + 1 by omega)]
  unfold zCh1
  by_cases z : zSL S f al = 0
  · rw [if_pos z, if_pos (by rw [z, Int.mul_zero])]
  · have p : 0 < zSL S f al := by omega
    have pk : 0 < zk2 f al * zSL S f al := Int.mul_pos (by omega) p
    have pD : 0 < zDn1 S f al := Int.mul_pos p (by omega)
    rw [if_neg z, if_neg (show ¬ zk2 f al * zSL S f al = 0 by omega), if_pos (skF w), (s_all w).1, bind_some', if_pos (skF w), (s_all w).2, bind_some', E_LS_greatestCommon]
    dsimp only
    rw [w64_id (x := zk2 f al * zSB S f al * Sm (gM S) (S 0).toNat 0) (by omega) (by omega), w64_id (x := zk2 f al * zSL S f al * Sm (gLt S) (S 0).toNat 0) (by omega) (by omega), s_common 50 _ _ 0 h m1.1 m2.1 (by rw [p50]; omega) (by omega) (by omega), bind_some', eU, eD, zg_mul (by omega) u0 d0]
    dsimp only
    have gp := zg_pos (a := zUp1 S f al) pD
    have gk : 0 < zk2 f al * zg (zUp1 S f al) (zDn1 S f al) := Int.mul_pos (by omega) gp
    rw [if_neg (show ¬ zk2 f al * zg (zUp1 S f al) (zDn1 S f al) = 0 by omega), if_neg (show ¬ zk2 f al * zg (zUp1 S f al) (zDn1 S f al) = 0 by omega), dv_mul (by omega) u0, dv_mul (by omega) d0]
    by_cases x : un = 0
    · rw [if_pos x, if_pos x]
    · rw [if_neg x, if_neg x, if_neg (show ¬ zk2 f al * zg (zUp1 S f al) (zDn1 S f al) = 0 by omega)]
theorem q_chosen {h : Hp} {T : Int → Int} (w : Inv h T) (k f al un : Int) : C_LS_chosen 1 k f al un h = some (aChosen T k f al un, h) := by
  have n := ivn w
  rw [E_LS_chosen, if_pos (iv1 w), s_isSky w, bind_some']
  unfold aChosen
  by_cases q1 : 0 ≤ k ∧ k < T 2
  · have c := ivK w q1.1 q1.2
    have i6 := iv6 w q1.1 (show k < 3 by omega)
    rw [bI_t q1, if_neg n10]
    simp only [iv1 w, iv10 w, iv2 w, i6.1, i6.2.1, i6.2.2, ↓reduceIte]
    by_cases q0 : f < 1
    · rw [if_pos q0, cI_f (fun z => by have := z.2.1; omega)]
    · rw [if_neg q0]
      by_cases x : al = 0
      · have zl : zLo f al = f := if_pos x
        rw [if_pos x]
        by_cases q2 : 200 < f
        · rw [if_pos q2, cI_f (fun z => by have := z.2.2; rw [if_pos x] at this; omega)]
        · have s := s_fin c (al := al) (un := un) (show 1 ≤ f by omega) (show f ≤ 200 by omega)
          rw [zl] at s
          rw [if_neg q2, if_pos x, s, cI_t ⟨q1, by omega, by rw [if_pos x]; omega⟩]
      · have zl : zLo f al = 1 := if_neg x
        rw [if_neg x]
        by_cases q2 : 60 < f
        · rw [if_pos q2, cI_f (fun z => by have := z.2.2; rw [if_neg x] at this; omega)]
        · have s := s_fin c (al := al) (un := un) (show 1 ≤ f by omega) (show f ≤ 200 by omega)
          rw [zl] at s
          rw [if_neg q2, if_neg x, s, cI_t ⟨q1, by omega, by rw [if_neg x]; omega⟩]
  · rw [bI_f q1, if_pos rfl, cI_f (fun z => q1 z.1)]
theorem m_fin {h : Hp} {T : Int → Int} (w : Inv h T) {k f al un : Int} (k0 : 0 ≤ k) (k1 : k < T 2) (f0 : 1 ≤ f) (f1 : f ≤ 200) : P_Mo_chosen_53 124 f al un (1670 + 18 * k) 0 0 0 0 0 h = some (zCh1 (skyT T k) f al un, h) := by
  have nn := ivn w
  have o := (ivK w k0 k1).2.2.1
  have s0 := o.1
  have ab := zAll_b o
  have sb := zSx_b o (al := al) f0 f1
  have e0 := ivMK6 w (o := 0) k0 (show k < 3 by omega) (by omega) (by omega)
  have eL : Sm (fun i => Sm (fun e => sn (skyT T k) i e * (tm al e * gM (skyT T k) i)) (f + 1 - zLo f al).toNat (zLo f al)) (skyT T k 0).toNat 0 = zSL (skyT T k) f al := rfl
  have eB : Sm (fun i => Sm (fun e => sn (skyT T k) i e * (tm al e * gM (skyT T k) i * skyT T k (6 + i))) (f + 1 - zLo f al).toNat (zLo f al)) (skyT T k 0).toNat 0 = zSB (skyT T k) f al := rfl
  have m1 := mul_b (a := zSB (skyT T k) f al) (b := Sm (gM (skyT T k)) (skyT T k 0).toNat 0) 431568000000 54 sb.2.1 sb.2.2 (by omega) (by omega)
  have m2 := mul_b (a := zSL (skyT T k) f al) (b := Sm (gLt (skyT T k)) (skyT T k 0).toNat 0) 432000000 53946 sb.1.1 sb.1.2 (by omega) (by omega)
  rw [l_m53 w (f := f) (al := al) (un := un) k0 k1 f0 f1 (skyT T k 0).toNat 0 0 0 0 0 (by omega) (by omega) (by omega) (by omega) (by omega) (by omega) (by omega) (by omega) (by omega) (by omega), Int.zero_add, Int.zero_add, Int.zero_add, Int.zero_add, eL, eB, E_Mo_chosen_53, if_pos (ivM w), ivM0 w, w32_id (x := 1670 + 18 * k + 0) (by omega) (by omega), if_pos (ivMA w (by omega) (by omega)), e0, if_neg (by omega), w64_id (x := zSB (skyT T k) f al * Sm (gM (skyT T k)) (skyT T k 0).toNat 0) (by omega) (by omega), w64_id (x := zSL (skyT T k) f al * Sm (gLt (skyT T k)) (skyT T k 0).toNat 0) (by omega) (by omega)]
  have eU : zSB (skyT T k) f al * Sm (gM (skyT T k)) (skyT T k 0).toNat 0 = zUp1 (skyT T k) f al := rfl
  have eD : zSL (skyT T k) f al * Sm (gLt (skyT T k)) (skyT T k 0).toNat 0 = zDn1 (skyT T k) f al := rfl
  rw [eU] at m1 ⊢
  rw [eD] at m2 ⊢
  unfold zCh1
  by_cases z : zSL (skyT T k) f al = 0
  · rw [if_pos z, if_pos z]
  · have pD : 0 < zDn1 (skyT T k) f al := Int.mul_pos (by omega) (by omega)
    have gp := zg_pos (a := zUp1 (skyT T k) f al) pD
    rw [if_neg z, if_neg z, E_Mo_common, m_common _ _ _ h m1.1 m2.1 (Nat.lt_succ_self _), bind_some', bind_some']
    dsimp only
    rw [if_neg (show ¬ zg (zUp1 (skyT T k) f al) (zDn1 (skyT T k) f al) = 0 by omega), if_neg (show ¬ zg (zUp1 (skyT T k) f al) (zDn1 (skyT T k) f al) = 0 by omega)]
    by_cases x : un = 0
    · rw [if_pos x, if_pos x]
    · rw [if_neg x, if_neg x]
theorem r_chosen {h : Hp} {T : Int → Int} (w : Inv h T) (k f al un : Int) : C_Mo_chosen 124 k f al un h = some (aChosen T k f al un, h) := by
  have n := ivn w
  rw [E_Mo_chosen, if_pos (ivM w), m_isSky w, bind_some']
  unfold aChosen
  by_cases q1 : 0 ≤ k ∧ k < T 2
  · rw [bI_t q1, if_neg n10, m_isIn, bind_some', m_isIn, bind_some']
    by_cases x : al = 0
    · rw [if_pos x]
      by_cases q2 : 1 ≤ f ∧ f ≤ 200
      · rw [bI_t q2, if_neg n10, m_skyAt q1.1 (by omega), bind_some', cI_t ⟨q1, q2.1, by rw [if_pos x]; omega⟩]
        exact m_fin w q1.1 q1.2 q2.1 q2.2
      · rw [bI_f q2, if_pos rfl, cI_f (fun z => q2 ⟨z.2.1, by have := z.2.2; rw [if_pos x] at this; omega⟩)]
    · rw [if_neg x]
      by_cases q2 : 1 ≤ f ∧ f ≤ 60
      · rw [bI_t q2, if_neg n10, m_skyAt q1.1 (by omega), bind_some', cI_t ⟨q1, q2.1, by rw [if_neg x]; omega⟩]
        exact m_fin w q1.1 q1.2 q2.1 (by omega)
      · rw [bI_f q2, if_pos rfl, cI_f (fun z => q2 ⟨z.2.1, by have := z.2.2; rw [if_neg x] at this; omega⟩)]
  · rw [bI_f q1, if_pos rfl, cI_f (fun z => q1 z.1)]
