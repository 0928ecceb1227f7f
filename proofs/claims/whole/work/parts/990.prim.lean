/-! What both readers do with a token; the class's half. -/
theorem tE_b {B : Int → Int} {L p : Int} (p0 : 0 ≤ p) (p1 : p ≤ L) : p ≤ tA B L p ∧ tA B L p ≤ tE B L p ∧ tE B L p ≤ L ∧ (tA B L p < L → tA B L p < tE B L p) ∧ (tK B L p ≠ 0 → tA B L p < L) := by
  have b := rn_c (P := wsB B) p1
  have eA : rn (wsB B) L p = tA B L p := rfl
  rw [eA] at b
  have k0 : tK B L p ≠ 0 → tA B L p < L := fun x => by
    by_cases q : tA B L p < L
    · exact q
    · exfalso
      apply x
      unfold tK
      rw [if_neg q]
  refine ⟨b.1, ?_, ?_, ?_, k0⟩ <;> unfold tE <;> by_cases q : tA B L p < L
  · have c := rn_c (P := ltB B) (show tA B L p ≤ L by omega)
    have d := rn_c (P := dgB B) (show tA B L p ≤ L by omega)
    rw [if_pos q]
    split
    · omega
    · split
      · omega
      · split <;> omega
  · rw [if_neg q]; omega
  · have c := rn_c (P := ltB B) (show tA B L p ≤ L by omega)
    have d := rn_c (P := dgB B) (show tA B L p ≤ L by omega)
    rw [if_pos q]
    split
    · omega
    · split
      · omega
      · split <;> omega
  · rw [if_neg q]; omega
  · rw [if_pos q]
    intro _
    split
    · omega
    · split
      · rename_i l
        rw [rn_t q l]
        have := rn_c (P := ltB B) (show tA B L p + 1 ≤ L by omega)
        omega
      · split
        · rename_i l
          rw [rn_t q l]
          have := rn_c (P := dgB B) (show tA B L p + 1 ≤ L by omega)
          omega
        · omega
  · intro x; exact absurd x q
def brk (B : Int → Int) (L : Int) (s : Int × Int × Int) : Int × Int × Int := if s.2.1 = 1 then s else (s.1, 1, tA B L s.1)
def nte (B : Int → Int) (L k : Int) (s : Int × Int × Int) : Int × Int × Int := if s.2.1 = 0 then (s.1, k, tA B L s.1) else s
def adv (B : Int → Int) (L : Int) (s : Int × Int × Int) : Int × Int × Int := (tE B L s.1, s.2.1, s.2.2)
def num (B : Int → Int) (L lo hi : Int) (s : Int × Int × Int) : Int × Int × Int × Int := if s.2.1 = 1 then (lo, s) else if tK B L s.1 = 1 then (tV B L s.1, adv B L (if tV B L s.1 < lo ∨ hi < tV B L s.1 then nte B L 2 s else s)) else (lo, brk B L s)
def ens (B : Int → Int) (L : Int) (s : Int × Int × Int) : Int × Int × Int := if s.2.1 = 1 then s else if tK B L s.1 = 2 then adv B L s else brk B L s
def pas (B : Int → Int) (L b : Int) (s : Int × Int × Int) : Int × Int × Int := if b = 0 then brk B L s else if s.2.1 = 1 then s else adv B L s
/-- a state that a reading comes to: places in order -/
def SO (B : Int → Int) (L : Int) (s : Int × Int × Int) : Prop := (0 ≤ s.1 ∧ s.1 ≤ L) ∧ (0 ≤ s.2.1 ∧ s.2.1 ≤ 3) ∧ (s.2.1 ≠ 0 → s.2.1 ≠ 1 → s.2.2 < tA B L s.1)
theorem so_brk {B : Int → Int} {L : Int} {s : Int × Int × Int} (o : SO B L s) : SO B L (brk B L s) := by
  unfold brk
  by_cases z : s.2.1 = 1
  · rw [if_pos z]; exact o
  · rw [if_neg z]; exact ⟨o.1, by show (0 : Int) ≤ 1 ∧ (1 : Int) ≤ 3; omega, fun _ x => absurd rfl x⟩
theorem so_adv {B : Int → Int} {L : Int} {s : Int × Int × Int} (p : 0 ≤ s.1 ∧ s.1 ≤ L) (f : 0 ≤ s.2.1 ∧ s.2.1 ≤ 3) (l : s.2.1 ≠ 0 → s.2.1 ≠ 1 → s.2.2 ≤ tA B L s.1) (k : tK B L s.1 ≠ 0) : SO B L (adv B L s) := by
  have b := tE_b (B := B) p.1 p.2
  have a := b.2.2.2.2 k
  have c := b.2.2.2.1 a
  have d := (tE_b (B := B) (L := L) (p := tE B L s.1) (by omega) (by omega)).1
  refine ⟨⟨by show 0 ≤ tE B L s.1; omega, b.2.2.1⟩, f, fun x y => ?_⟩
  have := l x y
  show s.2.2 < tA B L (tE B L s.1)
  omega
theorem so_nte {B : Int → Int} {L k : Int} {s : Int × Int × Int} (o : SO B L s) (k0 : 0 ≤ k ∧ k ≤ 3) (t : tK B L s.1 ≠ 0) : SO B L (adv B L (nte B L k s)) := by
  unfold nte
  by_cases z : s.2.1 = 0
  · rw [if_pos z]; exact so_adv (s := (s.1, k, tA B L s.1)) o.1 k0 (fun _ _ => Int.le_refl _) t
  · rw [if_neg z]; exact so_adv o.1 o.2.1 (fun x y => by have := o.2.2 x y; omega) t
theorem so_step {B : Int → Int} {L : Int} {s : Int × Int × Int} (o : SO B L s) (t : tK B L s.1 ≠ 0) : SO B L (adv B L s) := so_adv o.1 o.2.1 (fun x y => by have := o.2.2 x y; omega) t
theorem so_num {B : Int → Int} {L lo hi : Int} {s : Int × Int × Int} (o : SO B L s) : SO B L (num B L lo hi s).2 := by
  unfold num
  by_cases z : s.2.1 = 1
  · rw [if_pos z]; exact o
  · rw [if_neg z]
    by_cases y : tK B L s.1 = 1
    · rw [if_pos y]
      by_cases x : tV B L s.1 < lo ∨ hi < tV B L s.1
      · rw [if_pos x]; exact so_nte o (by decide) (by omega)
      · rw [if_neg x]; exact so_step o (by omega)
    · rw [if_neg y]; exact so_brk o
theorem so_ens {B : Int → Int} {L : Int} {s : Int × Int × Int} (o : SO B L s) : SO B L (ens B L s) := by
  unfold ens
  by_cases z : s.2.1 = 1
  · rw [if_pos z]; exact o
  · rw [if_neg z]
    by_cases y : tK B L s.1 = 2
    · rw [if_pos y]; exact so_step o (by omega)
    · rw [if_neg y]; exact so_brk o
/-- the class at a state -/
def CR (h : Hp) (B : Int → Int) (L : Int) (s : Int × Int × Int) : Prop := RC h B L s.1 ∧ mR h 82 6 = s.2.1 ∧ mR h 82 7 = s.2.2
def pFa (b i : Int) : Prop := b = 82 ∧ 6 ≤ i ∧ i ≤ 7
theorem pFa_f (b i : Int) (q : pFa b i) : pRf b i := ⟨q.1, by have := q.2.1; omega, q.2.2⟩
theorem RC.of {h h' : Hp} {B : Int → Int} {L p : Int} (r : RC h B L p) (f : Fr pFa h h') : RC h' B L p := by
  obtain ⟨r1, r2, r3, r4, r5⟩ := r
  have e : ∀ i, i ≤ 5 → mR h' 82 i = mR h 82 i := fun i q => f.2 82 i (by unfold pFa; omega)
  exact ⟨r1.of (f.to pFa_f), by rw [e 3 (by omega)]; exact r2, by rw [e 4 (by omega)]; exact r3, fun x => by rw [e 2 (by omega)]; exact r4 x, fun x => by rw [e 5 (by omega)]; exact r5 x⟩
theorem c_two {h : Hp} {B : Int → Int} {L : Int} {s : Int × Int × Int} (r : CR h B L s) (k : Int) : Fr pRf h (mW (mW h 82 6 k) 82 7 (tA B L s.1)) ∧ CR (mW (mW h 82 6 k) 82 7 (tA B L s.1)) B L (s.1, k, tA B L s.1) := by
  have f : Fr pFa h (mW (mW h 82 6 k) 82 7 (tA B L s.1)) := (Fr.W h k ⟨rfl, by decide, by decide⟩).tr (Fr.W _ _ ⟨rfl, by decide, by decide⟩)
  exact ⟨f.to pFa_f, r.1.of f, by rw [mR_ni (by decide), mR_same], mR_same _ _ _ _⟩
theorem cro {h : Hp} {B : Int → Int} {L : Int} {s : Int × Int × Int} (r : CR h B L s) : okF h 82 6 = true := rdo r.1.1
theorem c_brk {h : Hp} {B : Int → Int} {L : Int} {s : Int × Int × Int} (r : CR h B L s) : ∃ h', C_Re_breakOff 82 h = some (0, h') ∧ Fr pRf h h' ∧ CR h' B L (brk B L s) := by
  rw [E_Re_breakOff, if_pos (cro r), r.2.1]
  unfold brk
  by_cases z : s.2.1 = 1
  · rw [if_pos z, if_pos z]; exact ⟨h, rfl, Fr.rf _ h, r⟩
  · obtain ⟨f, q⟩ := c_two r 1
    rw [if_neg z, if_neg z, if_pos (cro r), hb_eq, okF_W, if_pos (cro r), if_pos (cro r), mR_ni (by decide), r.1.2.1, hb_eq]
    exact ⟨_, rfl, f, q⟩
theorem c_nte {h : Hp} {B : Int → Int} {L : Int} {s : Int × Int × Int} (r : CR h B L s) (k : Int) : ∃ h', C_Re_note 82 k h = some (0, h') ∧ Fr pRf h h' ∧ CR h' B L (nte B L k s) := by
  rw [E_Re_note, if_pos (cro r), r.2.1]
  unfold nte
  by_cases z : s.2.1 = 0
  · obtain ⟨f, q⟩ := c_two r k
    rw [if_pos z, if_pos z, if_pos (cro r), hb_eq, okF_W, if_pos (cro r), if_pos (cro r), mR_ni (by decide), r.1.2.1, hb_eq]
    exact ⟨_, rfl, f, q⟩
  · rw [if_neg z, if_neg z]; exact ⟨h, rfl, Fr.rf _ h, r⟩
theorem c_room {h : Hp} {B : Int → Int} {L : Int} {s : Int × Int × Int} (r : CR h B L s) (a b : Int) : ∃ h', C_Re_needRoom 82 a b h = some (0, h') ∧ Fr pRf h h' ∧ CR h' B L (if a < b then s else nte B L 3 s) := by
  rw [E_Re_needRoom]
  by_cases z : a < b
  · rw [if_pos z, if_pos z]; exact ⟨h, rfl, Fr.rf _ h, r⟩
  · obtain ⟨h1, g1, f1, r1⟩ := c_nte r 3
    rw [if_neg z, if_neg z, if_pos (cro r), g1, bind_some']
    exact ⟨h1, rfl, f1, r1⟩
theorem c_stp {h : Hp} {B : Int → Int} {L : Int} {s : Int × Int × Int} (r : CR h B L s) (p : 0 ≤ s.1 ∧ s.1 ≤ L) (k : tK B L s.1 ≠ 4) : ∃ h', C_Re_step 82 h = some (0, h') ∧ Fr pRf h h' ∧ CR h' B L (adv B L s) := by
  have b := tE_b (B := B) p.1 p.2
  obtain ⟨h1, g1, f1, r1⟩ := s_step r.1.1 (r.1.2.2.2.1 k) (by omega) (by omega)
  exact ⟨h1, g1, f1.to pRs_f, r1, by rw [f1.2 82 6 (by unfold pRs; omega)]; exact r.2.1, by rw [f1.2 82 7 (by unfold pRs; omega)]; exact r.2.2⟩
theorem cK_1 {k : Int} (h : cK k = 2) : k = 1 := by
  unfold cK at h
  by_cases z0 : k = 0
  · rw [if_pos z0] at h; omega
  · rw [if_neg z0] at h
    by_cases z1 : k = 1
    · exact z1
    · rw [if_neg z1] at h
      by_cases z2 : k = 2
      · rw [if_pos z2] at h; omega
      · rw [if_neg z2] at h
        by_cases z3 : k = 3 ∨ k = 5
        · rw [if_pos z3] at h; omega
        · rw [if_neg z3] at h; omega
theorem cK_2 {k : Int} (h : cK k = 3) : k = 2 := by
  unfold cK at h
  by_cases z0 : k = 0
  · rw [if_pos z0] at h; omega
  · rw [if_neg z0] at h
    by_cases z1 : k = 1
    · rw [if_pos z1] at h; omega
    · rw [if_neg z1] at h
      by_cases z2 : k = 2
      · exact z2
      · rw [if_neg z2] at h
        by_cases z3 : k = 3 ∨ k = 5
        · rw [if_pos z3] at h; omega
        · rw [if_neg z3] at h; omega
theorem c_num {h : Hp} {B : Int → Int} {L : Int} {s : Int × Int × Int} (r : CR h B L s) (p : 0 ≤ s.1 ∧ s.1 ≤ L) (lo hi : Int) : ∃ h', C_Re_readNumber 82 lo hi h = some ((num B L lo hi s).1, h') ∧ Fr pRf h h' ∧ CR h' B L (num B L lo hi s).2 := by
  rw [E_Re_readNumber, if_pos (cro r), r.1.2.2.1]
  unfold num
  by_cases k : tK B L s.1 = 1
  · have ck : cK (tK B L s.1) = 2 := by rw [k]; rfl
    rw [if_pos ck, if_pos (cro r), r.2.1]
    by_cases z : s.2.1 = 1
    · rw [if_pos z, if_pos z]; exact ⟨h, rfl, Fr.rf _ h, r⟩
    · rw [if_neg z, if_neg z, if_pos k, if_pos (cro r), r.1.2.2.2.2 k]
      have noted : ∃ h1, C_Re_note 82 2 h = some (0, h1) ∧ Fr pRf h h1 ∧ CR h1 B L (nte B L 2 s) ∧ (nte B L 2 s).1 = s.1 := by
        obtain ⟨h1, g1, f1, r1⟩ := c_nte r 2
        refine ⟨h1, g1, f1, r1, ?_⟩
        unfold nte
        by_cases y : s.2.1 = 0
        · rw [if_pos y]
        · rw [if_neg y]
      by_cases a : tV B L s.1 < lo
      · obtain ⟨h1, g1, f1, r1, e1⟩ := noted
        obtain ⟨h2, g2, f2, r2⟩ := c_stp r1 (by rw [e1]; exact p) (by rw [e1]; omega)
        have v1 : mR h1 82 5 = tV B L s.1 := by have := r1.1.2.2.2.2 (by rw [e1]; exact k); rw [e1] at this; exact this
        rw [if_pos a, if_pos (cro r), g1, bind_some', if_pos (Or.inl a)]
        dsimp only
        rw [if_pos (cro r1), if_pos (cro r1), g2, bind_some', v1]
        exact ⟨h2, rfl, f1.tr f2, r2⟩
      · rw [if_neg a, if_pos (cro r)]
        by_cases b : hi < tV B L s.1
        · obtain ⟨h1, g1, f1, r1, e1⟩ := noted
          obtain ⟨h2, g2, f2, r2⟩ := c_stp r1 (by rw [e1]; exact p) (by rw [e1]; omega)
          have v1 : mR h1 82 5 = tV B L s.1 := by have := r1.1.2.2.2.2 (by rw [e1]; exact k); rw [e1] at this; exact this
          rw [if_pos b, if_pos (cro r), g1, bind_some', if_pos (Or.inr b)]
          dsimp only
          rw [if_pos (cro r1), if_pos (cro r1), g2, bind_some', v1]
          exact ⟨h2, rfl, f1.tr f2, r2⟩
        · obtain ⟨h2, g2, f2, r2⟩ := c_stp r p (by omega)
          rw [if_neg b, if_pos (cro r), if_pos (cro r), g2, bind_some', if_neg (show ¬ (tV B L s.1 < lo ∨ hi < tV B L s.1) by omega)]
          exact ⟨h2, rfl, f2, r2⟩
  · have ck : ¬ cK (tK B L s.1) = 2 := fun x => k (cK_1 x)
    obtain ⟨h1, g1, f1, r1⟩ := c_brk r
    have b1 : (brk B L s).2.1 = 1 := by
      unfold brk
      by_cases z : s.2.1 = 1
      · rw [if_pos z]; exact z
      · rw [if_neg z]
    rw [if_neg ck, if_pos (cro r), g1, bind_some']
    dsimp only
    rw [if_pos (cro r1), r1.2.1, if_pos b1]
    refine ⟨h1, ?_, f1, ?_⟩
    · by_cases z : s.2.1 = 1
      · rw [if_pos z]
      · rw [if_neg z, if_neg k]
    · by_cases z : s.2.1 = 1
      · rw [if_pos z]; unfold brk at r1; rw [if_pos z] at r1; exact r1
      · rw [if_neg z, if_neg k]; exact r1
theorem c_ens {h : Hp} {B : Int → Int} {L : Int} {s : Int × Int × Int} (r : CR h B L s) (p : 0 ≤ s.1 ∧ s.1 ≤ L) : ∃ h', C_Re_endsSound 82 h = some (bI ((ens B L s).2.1 = 0), h') ∧ Fr pRf h h' ∧ CR h' B L (ens B L s) := by
  have fin : ∀ {h' : Hp} {t : Int × Int × Int}, CR h' B L t → (if okF h' 82 6 = true then (if mR h' 82 6 = 0 then (some (1, h') : Res) else (some (0, h'))) else none) = some (bI (t.2.1 = 0), h') := fun {h'} {t} r' => by
    rw [if_pos (cro r'), r'.2.1]
    by_cases y : t.2.1 = 0
    · rw [if_pos y, bI_t y]
    · rw [if_neg y, bI_f y]
  rw [E_Re_endsSound, if_pos (cro r), r.1.2.2.1]
  unfold ens
  by_cases k : tK B L s.1 = 2
  · have ck : cK (tK B L s.1) = 3 := by rw [k]; rfl
    rw [if_pos ck, if_pos (cro r)]
    by_cases z : s.2.1 = 1
    · rw [if_pos (r.2.1.trans z), if_pos z]; exact ⟨h, fin r, Fr.rf _ h, r⟩
    · obtain ⟨h2, g2, f2, r2⟩ := c_stp r p (by omega)
      rw [if_neg (fun x => z (r.2.1.symm.trans x)), if_neg z, if_pos k, if_pos (cro r), g2, bind_some']
      exact ⟨h2, fin r2, f2, r2⟩
  · have ck : ¬ cK (tK B L s.1) = 3 := fun x => k (cK_2 x)
    obtain ⟨h1, g1, f1, r1⟩ := c_brk r
    have e : (if s.2.1 = 1 then s else if tK B L s.1 = 2 then adv B L s else brk B L s) = brk B L s := by
      unfold brk
      by_cases z : s.2.1 = 1
      · rw [if_pos z, if_pos z]
      · rw [if_neg z, if_neg z, if_neg k]
    rw [if_neg ck, if_pos (cro r), g1, bind_some', e]
    exact ⟨h1, fin r1, f1, r1⟩
theorem c_pas {h : Hp} {B : Int → Int} {L : Int} {s : Int × Int × Int} (r : CR h B L s) (p : 0 ≤ s.1 ∧ s.1 ≤ L) (b : Int) (k : b ≠ 0 → tK B L s.1 ≠ 4) : ∃ h', C_Re_passWord 82 b h = some (0, h') ∧ Fr pRf h h' ∧ CR h' B L (pas B L b s) := by
  rw [E_Re_passWord]
  unfold pas
  by_cases z : b = 0
  · obtain ⟨h1, g1, f1, r1⟩ := c_brk r
    rw [if_pos z, if_pos z, if_pos (cro r), g1, bind_some']
    exact ⟨h1, rfl, f1, r1⟩
  · rw [if_neg z, if_neg z, if_pos (cro r), r.2.1]
    by_cases y : s.2.1 = 1
    · rw [if_pos y, if_pos y]; exact ⟨h, rfl, Fr.rf _ h, r⟩
    · obtain ⟨h2, g2, f2, r2⟩ := c_stp r p (k z)
      rw [if_neg y, if_neg y, if_pos (cro r), g2, bind_some']
      exact ⟨h2, rfl, f2, r2⟩
