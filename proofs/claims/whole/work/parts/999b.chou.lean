/-! A house read; what its lines say, and the class's half of some. -/
def hsU (B : Int → Int) (L : Int) (s : Int × Int × Int) (V : Int → Int) (j hi : Int) : (Int × Int × Int) × (Int → Int) := (ens B L (num B L 0 hi (adv B L s)).2, if (ens B L (num B L 0 hi (adv B L s)).2).2.1 = 0 then up1 V j (i_or (V j) (i_shl 1 (num B L 0 hi (adv B L s)).1)) else V)
def hsW (B : Int → Int) (L : Int) (s : Int × Int × Int) (V : Int → Int) : (Int × Int × Int) × (Int → Int) := (ens B L (one B L 21 23 (adv B L s)).2, if (ens B L (one B L 21 23 (adv B L s)).2).2.1 = 0 then up1 V 1 (one B L 21 23 (adv B L s)).1 else V)
def lN1 (B : Int → Int) (L : Int) (s : Int × Int × Int) := num B L 0 5 (adv B L s)
def lN2 (B : Int → Int) (L : Int) (s : Int × Int × Int) := one B L 24 25 (lN1 B L s).2
def lN3 (B : Int → Int) (L : Int) (s : Int × Int × Int) := num B L 0 50 (lN2 B L s).2
def hsN (B : Int → Int) (L : Int) (s : Int × Int × Int) (V : Int → Int) : (Int × Int × Int) × (Int → Int) := (ens B L (lN3 B L s).2, if (ens B L (lN3 B L s).2).2.1 = 0 then up1 V (4 + (lN1 B L s).1) (if (lN2 B L s).1 = 0 then (lN3 B L s).1 else -(lN3 B L s).1) else V)
def uN1 (B : Int → Int) (L : Int) (s : Int × Int × Int) (V : Int → Int) := one B L 31 35 (rm3 B L (V 3) 8 s)
def uN2 (B : Int → Int) (L : Int) (s : Int × Int × Int) (V : Int → Int) := if (uN1 B L s V).1 = 4 then num B L 1 9 (uN1 B L s V).2 else num B L 0 9999 (uN1 B L s V).2
def tRule (V : Int → Int) (x y : Int) : Int → Int := up1 (up1 (up1 V (10 + 2 * V 3) x) (11 + 2 * V 3) y) 3 (V 3 + 1)
def hsR (B : Int → Int) (L : Int) (s : Int × Int × Int) (V : Int → Int) : (Int × Int × Int) × (Int → Int) := (ens B L (uN2 B L s V).2, if (ens B L (uN2 B L s V).2).2.1 = 0 then tRule V (uN1 B L s V).1 (uN2 B L s V).1 else V)
def hsL (B : Int → Int) (L : Int) (s : Int × Int × Int) (V : Int → Int) : (Int × Int × Int) × (Int → Int) := if tK B L s.1 = 3 then (if tW B L s.1 = 11 then hsU B L s V 0 5 else if tW B L s.1 = 12 then hsW B L s V else if tW B L s.1 = 13 then hsN B L s V else if tW B L s.1 = 14 then hsU B L s V 2 23 else if tW B L s.1 = 15 then hsR B L s V else (brk B L s, V)) else (brk B L s, V)
def hsI (B : Int → Int) (L : Int) : Nat → (Int × Int × Int) × (Int → Int) → (Int × Int × Int) × (Int → Int)
  | 0, x => x
  | n + 1, x => if tK B L x.1.1 = 0 ∨ x.1.2.1 = 1 then x else hsI B L n (hsL B L x.1 x.2)
theorem so_one {B : Int → Int} {L lo hi : Int} {s : Int × Int × Int} (o : SO B L s) : SO B L (one B L lo hi s).2 := by
  unfold one
  by_cases z : s.2.1 = 1
  · rw [if_pos z]; exact o
  · rw [if_neg z]
    by_cases y : tK B L s.1 = 3 ∧ lo ≤ tW B L s.1 ∧ tW B L s.1 ≤ hi
    · rw [if_pos y]; exact so_step o (by omega)
    · rw [if_neg y]; exact so_brk o
theorem one_0 {B : Int → Int} {L lo hi : Int} {s : Int × Int × Int} (h : (one B L lo hi s).2.2.1 = 0) : s.2.1 = 0 ∧ 0 ≤ (one B L lo hi s).1 ∧ (one B L lo hi s).1 ≤ hi - lo := by
  unfold one at h ⊢
  by_cases z : s.2.1 = 1
  · rw [if_pos z] at h
    have : s.2.1 = 0 := h
    omega
  · rw [if_neg z] at h ⊢
    by_cases y : tK B L s.1 = 3 ∧ lo ≤ tW B L s.1 ∧ tW B L s.1 ≤ hi
    · rw [if_pos y] at h ⊢
      exact ⟨h, by show 0 ≤ tW B L s.1 - lo; omega, by show tW B L s.1 - lo ≤ hi - lo; omega⟩
    · rw [if_neg y] at h
      have : (brk B L s).2.1 = 0 := h
      rw [brk_1] at this
      omega
/-- a word passed, or none that fits -/
theorem c_one {h : Hp} {B : Int → Int} {L : Int} {s : Int × Int × Int} (r : CR h B L s) (p : 0 ≤ s.1 ∧ s.1 ≤ L) {lo hi b : Int} (hb : b = bI (tK B L s.1 = 3 ∧ lo ≤ tW B L s.1 ∧ tW B L s.1 ≤ hi)) : ∃ h', C_Re_passWord 82 b h = some (0, h') ∧ Fr pRf h h' ∧ CR h' B L (one B L lo hi s).2 := by
  have e : pas B L b s = (one B L lo hi s).2 := by
    unfold pas one brk
    by_cases y : tK B L s.1 = 3 ∧ lo ≤ tW B L s.1 ∧ tW B L s.1 ≤ hi
    · rw [hb, bI_t y, if_neg (by decide), if_pos y]
      by_cases z : s.2.1 = 1
      · rw [if_pos z, if_pos z]
      · rw [if_neg z, if_neg z]
    · rw [hb, bI_f y, if_pos rfl, if_neg y]
      by_cases z : s.2.1 = 1
      · rw [if_pos z, if_pos z]
      · rw [if_neg z, if_neg z]
  have := c_pas r p b (fun n => by
    by_cases y : tK B L s.1 = 3 ∧ lo ≤ tW B L s.1 ∧ tW B L s.1 ≤ hi
    · omega
    · rw [hb, bI_f y] at n; exact absurd rfl n)
  rw [e] at this
  exact this
theorem HouC.rd {h h' : Hp} {V : Int → Int} (w : HouC h 92 V) (f : Fr pRf h h') : HouC h' 92 V := ⟨w.1.of f.1 (fun b i _ _ => f.2 b i (by unfold pRf; omega)), w.2⟩
def pRh (b i : Int) : Prop := pRf b i ∨ pH 92 b i
theorem pRf_h (b i : Int) (q : pRf b i) : pRh b i := Or.inl q
theorem pH_h (b i : Int) (q : pH 92 b i) : pRh b i := Or.inr q
theorem pH_n (b i : Int) (q : b = 82 ∨ b = 83) : ¬ pH 92 b i := by unfold pH; omega
/-- uses, way or cast told anew -/
theorem h_set {h : Hp} {V : Int → Int} (w : HouC h 92 V) {j v : Int} (j0 : 0 ≤ j ∧ j ≤ 2) (vb : j = 2 → -2147483648 ≤ v ∧ v ≤ 2147483647) : Fr (pH 92) h (mW h 92 j v) ∧ HouC (mW h 92 j v) 92 (up1 V j v) := by
  have f : Fr (pH 92) h (mW h 92 j v) := Fr.W h v (by unfold pH; omega)
  obtain ⟨⟨a1, a2, a3, a4, a5, a6, a7, a8⟩, ⟨u1, u2, u3⟩, b2, b3⟩ := w
  have up : ∀ i, i ≠ j → up1 V j v i = V i := fun i n => up1_n n
  have fld : ∀ i, mR h 92 i = V i → mR (mW h 92 j v) 92 i = up1 V j v i := fun i e => by
    rw [mR_mW]
    by_cases q : i = j
    · rw [if_pos ⟨rfl, q⟩, q, up1_s]
    · rw [if_neg (fun z => q z.2), up i q]; exact e
  refine ⟨f, ⟨a1.of f.1 (fun i i0 i1 => mR_ni (by omega)), a2, fld 0 a3, fld 1 a4, fld 2 a5, fld 3 a6, fun r r0 r1 => ?_, fun i i0 i1 => ?_⟩, ⟨?_, fun r r0 r1 => ?_, fun i i0 i1 => ?_⟩, fun r r0 r1 => ?_, ?_⟩
  · rw [mR_ne (by decide), up (4 + r) (by omega)]; exact a7 r r0 r1
  · rw [up 3 (by omega)] at i1
    rw [mR_ne (by decide), mR_ne (by decide), up (10 + 2 * i) (by omega), up (11 + 2 * i) (by omega)]; exact a8 i i0 i1
  · rw [up 3 (by omega)]; exact u1
  · rw [up (4 + r) (by omega)]; exact u2 r r0 r1
  · rw [up 3 (by omega)] at i1
    rw [up (10 + 2 * i) (by omega), up (11 + 2 * i) (by omega)]; exact u3 i i0 i1
  · rw [up (4 + r) (by omega)]; exact b2 r r0 r1
  · by_cases q : (2 : Int) = j
    · rw [← q, up1_s]; exact vb q.symm
    · rw [up 2 q]; exact b3
theorem h_use {h : Hp} {B : Int → Int} {L : Int} {s : Int × Int × Int} {V : Int → Int} (r : CR h B L s) (o : SO B L s) (w : HouC h 92 V) (t : tK B L s.1 = 3) : ∃ h', C_Re_readUse 82 92 h = some (0, h') ∧ Fr pRh h h' ∧ CR h' B L (hsU B L s V 0 5).1 ∧ HouC h' 92 (hsU B L s V 0 5).2 := by
  obtain ⟨h1, g1, f1, r1⟩ := c_stp r o.1 (by omega)
  have o1 := so_step o (show tK B L s.1 ≠ 0 by omega)
  obtain ⟨h2, g2, f2, r2⟩ := c_num r1 o1.1 0 5
  have o2 := so_num (lo := 0) (hi := 5) o1
  obtain ⟨h3, g3, f3, r3⟩ := c_ens r2 o2.1
  have F := (f1.tr f2).tr f3
  have w3 := w.rd F
  rw [E_Re_readUse, if_pos (cro r), g1, bind_some', if_pos (cro r1), g2, bind_some', if_pos (cro r2), g3, bind_some']
  show ∃ h', _ ∧ Fr pRh h h' ∧ CR h' B L (ens B L (num B L 0 5 (adv B L s)).2) ∧ HouC h' 92 (if (ens B L (num B L 0 5 (adv B L s)).2).2.1 = 0 then up1 V 0 (i_or (V 0) (i_shl 1 (num B L 0 5 (adv B L s)).1)) else V)
  by_cases z : (ens B L (num B L 0 5 (adv B L s)).2).2.1 = 0
  · obtain ⟨f4, w4⟩ := h_set w3 (j := 0) (v := i_or (V 0) (i_shl 1 (num B L 0 5 (adv B L s)).1)) (by decide) (fun q => by omega)
    rw [bI_t z, if_neg n10, if_pos (hF w3.1.1), if_pos (hF w3.1.1), w3.1.2.2.1, hb_eq, if_pos z]
    exact ⟨_, rfl, (F.to pRf_h).tr (f4.to pH_h), r3.ne f4 pH_n, w4⟩
  · rw [bI_f z, if_pos rfl, if_neg z]
    exact ⟨h3, rfl, F.to pRf_h, r3, w3⟩
theorem h_cast {h : Hp} {B : Int → Int} {L : Int} {s : Int × Int × Int} {V : Int → Int} (r : CR h B L s) (o : SO B L s) (w : HouC h 92 V) (t : tK B L s.1 = 3) : ∃ h', C_Re_readCast 82 92 h = some (0, h') ∧ Fr pRh h h' ∧ CR h' B L (hsU B L s V 2 23).1 ∧ HouC h' 92 (hsU B L s V 2 23).2 := by
  obtain ⟨h1, g1, f1, r1⟩ := c_stp r o.1 (by omega)
  have o1 := so_step o (show tK B L s.1 ≠ 0 by omega)
  obtain ⟨h2, g2, f2, r2⟩ := c_num r1 o1.1 0 23
  have o2 := so_num (lo := 0) (hi := 23) o1
  obtain ⟨h3, g3, f3, r3⟩ := c_ens r2 o2.1
  have F := (f1.tr f2).tr f3
  have w3 := w.rd F
  rw [E_Re_readCast, if_pos (cro r), g1, bind_some', if_pos (cro r1), g2, bind_some', if_pos (cro r2), g3, bind_some']
  show ∃ h', _ ∧ Fr pRh h h' ∧ CR h' B L (ens B L (num B L 0 23 (adv B L s)).2) ∧ HouC h' 92 (if (ens B L (num B L 0 23 (adv B L s)).2).2.1 = 0 then up1 V 2 (i_or (V 2) (i_shl 1 (num B L 0 23 (adv B L s)).1)) else V)
  by_cases z : (ens B L (num B L 0 23 (adv B L s)).2).2.1 = 0
  · obtain ⟨f4, w4⟩ := h_set w3 (j := 2) (v := i_or (V 2) (i_shl 1 (num B L 0 23 (adv B L s)).1)) (by decide) (fun _ => i_or_b _ _)
    rw [bI_t z, if_neg n10, if_pos (hF w3.1.1), if_pos (hF w3.1.1), w3.1.2.2.2.2.1, hb_eq, if_pos z]
    exact ⟨_, rfl, (F.to pRf_h).tr (f4.to pH_h), r3.ne f4 pH_n, w4⟩
  · rw [bI_f z, if_pos rfl, if_neg z]
    exact ⟨h3, rfl, F.to pRf_h, r3, w3⟩
