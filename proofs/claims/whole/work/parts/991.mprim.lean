/-! What the reference does with a token. -/
def MR (h : Hp) (B : Int → Int) (L : Int) (s : Int × Int × Int) : Prop := RM h B L s.1 ∧ mR h 125 5 = s.2.1 ∧ mR h 125 6 = s.2.2 ∧ mR h 124 8 = (if s.2.1 = 1 then 1 else 0)
def pMt (b i : Int) : Prop := (b = 124 ∧ 3 ≤ i ∧ i ≤ 9) ∨ (b = 125 ∧ 5 ≤ i ∧ i ≤ 6)
def pMf (b i : Int) : Prop := (b = 124 ∧ 8 ≤ i ∧ i ≤ 9) ∨ (b = 125 ∧ 5 ≤ i ∧ i ≤ 6)
theorem pMf_t (b i : Int) (q : pMf b i) : pMt b i := by unfold pMf at q; unfold pMt; omega
theorem pAd_t (b i : Int) (q : pAd b i) : pMt b i := by unfold pAd at q; unfold pMt; omega
theorem RM.of {h h' : Hp} {B : Int → Int} {L p : Int} (r : RM h B L p) (f : Fr pMf h h') : RM h' B L p := by
  obtain ⟨⟨m1, m2, m3, m4⟩, r2, r3, r4, r5, r6⟩ := r
  have e : ∀ i, i ≤ 7 → mR h' 124 i = mR h 124 i := fun i q => f.2 124 i (by unfold pMf; omega)
  refine ⟨⟨m1.of f.1 (fun i hi => f.2 124 i (by unfold pMf; simp at hi; omega)), by rw [e 2 (by omega)]; exact m2, m3, fun j j0 j1 => by rw [f.2 125 (10 + j) (by unfold pMf; omega)]; exact m4 j j0 j1⟩, by rw [e 3 (by omega)]; exact r2, by rw [e 4 (by omega)]; exact r3, by rw [e 5 (by omega)]; exact r4, fun x => by rw [e 6 (by omega)]; exact r5 x, fun x => by rw [e 7 (by omega)]; exact r6 x⟩
theorem mro {h : Hp} {B : Int → Int} {L : Int} {s : Int × Int × Int} (r : MR h B L s) : okF h 124 12 = true := rmo r.1.1
theorem mr0 {h : Hp} {B : Int → Int} {L : Int} {s : Int × Int × Int} (r : MR h B L s) : mR h 124 0 = 125 := r.1.1.1.2.1.1
theorem mrS {h : Hp} {B : Int → Int} {L : Int} {s : Int × Int × Int} (r : MR h B L s) {i : Int} (i0 : 0 ≤ i) (i1 : i < 7560) : okS h 125 102 i = true := okS_t r.1.1.1.2.2.1 (by decide) i0 i1
theorem mrA {h : Hp} {B : Int → Int} {L : Int} {s : Int × Int × Int} (r : MR h B L s) {i : Int} (i0 : 0 ≤ i) (i1 : i < 7560) : okA h 125 102 i = true := okA_t r.1.1.1.2.2.1 i0 i1
theorem m_brk {h : Hp} {B : Int → Int} {L : Int} {s : Int × Int × Int} (r : MR h B L s) : ∃ h', C_Mo_ends 124 h = some (0, h') ∧ Fr pMt h h' ∧ MR h' B L (brk B L s) := by
  rw [E_Mo_ends, if_pos (mro r), r.2.2.2]
  unfold brk
  by_cases z : s.2.1 = 1
  · rw [if_pos z, if_neg (by decide), if_pos z]; exact ⟨h, rfl, Fr.rf _ h, r⟩
  · have f : Fr pMf h (mW (mW (mW h 124 8 1) 125 5 1) 125 6 (tA B L s.1)) := ((Fr.W h 1 (by unfold pMf; omega)).tr (Fr.W _ 1 (by unfold pMf; omega))).tr (Fr.W _ _ (by unfold pMf; omega))
    have e0 : mR (mW h 124 8 1) 124 0 = 125 := by rw [mR_ni (by decide)]; exact mr0 r
    have e1 : mR (mW (mW h 124 8 1) 125 5 1) 124 0 = 125 := by rw [mR_ni (by decide)]; exact e0
    have e2 : mR (mW (mW h 124 8 1) 125 5 1) 124 4 = tA B L s.1 := by rw [mR_ni (by decide), mR_ni (by decide)]; exact r.1.2.2.1
    rw [if_neg z, if_pos rfl, if_neg z, if_pos (mro r), hb_eq, okF_W, if_pos (mro r), e0, okS_W, if_pos (mrS r (by decide) (by decide)), hb_eq, okF_W, okF_W, if_pos (mro r), if_pos (mro r), e1, okS_W, okS_W, if_pos (mrS r (by decide) (by decide)), e2, hb_eq]
    exact ⟨_, rfl, f.to pMf_t, r.1.of f, by rw [mR_ni (by decide), mR_same], mR_same _ _ _ _, by rw [mR_ne (by decide), mR_ne (by decide), mR_same]; rfl⟩
theorem m_also {h : Hp} {B : Int → Int} {L : Int} {s : Int × Int × Int} (r : MR h B L s) {k a : Int} (k1 : k ≠ 1) (l : s.2.1 ≠ 0 → s.2.1 ≠ 1 → s.2.2 < a) : ∃ h', C_Mo_also 124 k a h = some (0, h') ∧ Fr pMt h h' ∧ MR h' B L (if s.2.1 = 0 then (s.1, k, a) else s) ∧ mR h' 124 9 = mR h 124 9 := by
  rw [E_Mo_also, if_pos (mro r), r.2.2.2]
  by_cases z : s.2.1 = 1
  · rw [if_pos z, if_neg (by decide), if_neg (show ¬ s.2.1 = 0 by omega)]; exact ⟨h, rfl, Fr.rf _ h, r, rfl⟩
  · rw [if_neg z, if_pos rfl, if_pos (mro r), mr0 r, if_pos (mrA r (by decide) (by decide)), r.2.1]
    by_cases y : s.2.1 = 0
    · have f : Fr pMf h (mW (mW h 125 5 k) 125 6 a) := (Fr.W h k (by unfold pMf; omega)).tr (Fr.W _ a (by unfold pMf; omega))
      have e0 : mR (mW h 125 5 k) 124 0 = 125 := by rw [mR_ne (by decide)]; exact mr0 r
      rw [if_pos y, if_pos y, if_pos (mro r), if_pos (mrS r (by decide) (by decide)), hb_eq, okF_W, if_pos (mro r), e0, okS_W, if_pos (mrS r (by decide) (by decide)), hb_eq]
      refine ⟨_, rfl, f.to pMf_t, ⟨r.1.of f, by rw [mR_ni (by decide), mR_same], mR_same _ _ _ _, ?_⟩, by rw [mR_ne (by decide), mR_ne (by decide)]⟩
      rw [mR_ne (by decide), mR_ne (by decide), r.2.2.2, if_neg z, if_neg (show ¬ (s.1, k, a).2.1 = 1 from k1)]
    · rw [if_neg y, if_neg y, if_pos (mro r), if_pos (mrA r (by decide) (by decide)), r.2.2.1, if_pos (l y z)]
      exact ⟨h, rfl, Fr.rf _ h, r, rfl⟩
theorem m_stp {h : Hp} {B : Int → Int} {L : Int} {s : Int × Int × Int} (r : MR h B L s) (p : 0 ≤ s.1 ∧ s.1 ≤ L) : ∃ h', C_Mo_advance 124 h = some (0, h') ∧ Fr pMt h h' ∧ MR h' B L (adv B L s) ∧ mR h' 124 9 = mR h 124 9 := by
  have b := tE_b (B := B) p.1 p.2
  obtain ⟨h1, g1, f1, r1⟩ := m_adv r.1.1 r.1.2.1 (by omega) (by omega)
  exact ⟨h1, g1, f1.to pAd_t, ⟨r1, by rw [f1.2 125 5 (by unfold pAd; omega)]; exact r.2.1, by rw [f1.2 125 6 (by unfold pAd; omega)]; exact r.2.2.1, by rw [f1.2 124 8 (by unfold pAd; omega)]; exact r.2.2.2⟩, f1.2 124 9 (by unfold pAd; omega)⟩
theorem m_nine {h : Hp} {B : Int → Int} {L : Int} {s : Int × Int × Int} (r : MR h B L s) (v : Int) : Fr pMt h (mW h 124 9 v) ∧ MR (mW h 124 9 v) B L s := by
  have f : Fr pMf h (mW h 124 9 v) := Fr.W h v (by unfold pMf; omega)
  exact ⟨f.to pMf_t, r.1.of f, by rw [mR_ne (by decide)]; exact r.2.1, by rw [mR_ne (by decide)]; exact r.2.2.1, by rw [mR_ni (by decide)]; exact r.2.2.2⟩
theorem m_num {h : Hp} {B : Int → Int} {L : Int} {s : Int × Int × Int} (r : MR h B L s) (o : SO B L s) (lo hi : Int) : ∃ x h', C_Mo_numbered 124 lo hi h = some (x, h') ∧ Fr pMt h h' ∧ MR h' B L (num B L lo hi s).2 ∧ ((num B L lo hi s).2.2.1 = 0 → s.2.1 = 0 ∧ x = (num B L lo hi s).1 ∧ lo ≤ x ∧ x ≤ hi ∧ mR h' 124 9 = (if mR h 124 9 = 0 then 0 else 1)) ∧ (x = lo ∨ (lo ≤ x ∧ x ≤ hi)) := by
  rw [E_Mo_numbered, if_pos (mro r), r.2.2.2]
  unfold num
  by_cases z : s.2.1 = 1
  · obtain ⟨h1, g1, f1, r1⟩ := m_brk r
    have e : brk B L s = s := by unfold brk; rw [if_pos z]
    rw [e] at r1
    rw [if_pos z, if_neg (by decide), if_pos z, if_pos (mro r), g1, bind_some']
    exact ⟨lo, h1, rfl, f1, r1, fun x => by have : s.2.1 = 0 := x; omega, Or.inl rfl⟩
  · rw [if_neg z, if_pos rfl, if_neg z, if_pos (mro r), r.1.2.2.2.1]
    by_cases k : tK B L s.1 = 1
    · rw [if_neg (show ¬ tK B L s.1 = 5 by omega), if_pos k, if_pos k, if_pos (mro r), r.1.2.2.2.2.1 k, m_isIn, bind_some', if_pos (mro r)]
      by_cases q : lo ≤ tV B L s.1 ∧ tV B L s.1 ≤ hi
      · rw [bI_t q, if_neg (show ¬ (tV B L s.1 < lo ∨ hi < tV B L s.1) by omega)]
        dsimp only
        by_cases n : mR h 124 9 = 0
        · obtain ⟨f1, r1⟩ := m_nine r 0
          obtain ⟨h2, g2, f2, r2, n2⟩ := m_stp r1 o.1
          rw [if_pos n, if_pos (mro r), hb_eq, if_neg (by decide), if_pos (mro r1), g2, bind_some', if_neg (by decide)]
          exact ⟨_, h2, rfl, f1.tr f2, r2, fun x => ⟨x, rfl, q.1, q.2, by rw [n2, mR_same, if_pos n]⟩, Or.inr q⟩
        · obtain ⟨f1, r1⟩ := m_nine r 1
          obtain ⟨h2, g2, f2, r2, n2⟩ := m_stp r1 o.1
          rw [if_neg n, if_neg (by decide), if_pos (mro r), hb_eq, if_neg (by decide), if_pos (mro r1), g2, bind_some', if_neg (by decide)]
          exact ⟨_, h2, rfl, f1.tr f2, r2, fun x => ⟨x, rfl, q.1, q.2, by rw [n2, mR_same, if_neg n]⟩, Or.inr q⟩
      · rw [bI_f q, if_pos (show tV B L s.1 < lo ∨ hi < tV B L s.1 by omega)]
        dsimp only
        obtain ⟨f1, r1⟩ := m_nine r 0
        obtain ⟨h2, g2, f2, r2, n2⟩ := m_also r1 (k := 2) (a := tA B L s.1) (by decide) o.2.2
        have en : (if s.2.1 = 0 then (s.1, 2, tA B L s.1) else s) = nte B L 2 s := rfl
        rw [en] at r2
        have e1 : (nte B L 2 s).1 = s.1 := by
          unfold nte
          by_cases y : s.2.1 = 0
          · rw [if_pos y]
          · rw [if_neg y]
        have nf : (nte B L 2 s).2.1 ≠ 0 := by
          unfold nte
          by_cases y : s.2.1 = 0
          · rw [if_pos y]; show (2 : Int) ≠ 0; decide
          · rw [if_neg y]; exact y
        obtain ⟨h3, g3, f3, r3, n3⟩ := m_stp r2 (by rw [e1]; exact o.1)
        have a4 : mR (mW h 124 9 0) 124 4 = tA B L s.1 := r1.1.2.2.1
        have fin : (if okF (mW h 124 9 0) 124 12 = true then (if okF (mW h 124 9 0) 124 12 = true then (C_Mo_also 124 2 (mR (mW h 124 9 0) 124 4) (mW h 124 9 0)).bind (fun x5 => (if okF x5.2 124 12 = true then (C_Mo_advance 124 x5.2).bind (fun x6 => (if (0 : Int) = 0 then (some (lo, x6.2) : Res) else (some (tV B L s.1, x6.2)))) else none)) else none) else none) = some (lo, h3) := by
          rw [if_pos (mro r1), if_pos (mro r1), a4, g2, bind_some', if_pos (mro r2), g3, bind_some', if_pos rfl]
        refine ⟨lo, h3, ?_, (f1.tr f2).tr f3, r3, fun x => absurd x nf, Or.inl rfl⟩
        by_cases n : mR h 124 9 = 0
        · rw [if_pos n, if_pos (mro r), hb_eq, if_pos rfl]
          exact fin
        · rw [if_neg n, if_pos rfl, if_pos (mro r), hb_eq, if_pos rfl]
          exact fin
    · obtain ⟨h1, g1, f1, r1⟩ := m_brk r
      have nk : ¬ (if tK B L s.1 = 5 then 4 else tK B L s.1) = 1 := by
        by_cases y : tK B L s.1 = 5
        · rw [if_pos y]; decide
        · rw [if_neg y]; exact k
      have b1 : (brk B L s).2.1 = 1 := by unfold brk; rw [if_neg z]
      rw [if_neg nk, if_neg k, if_pos (mro r), g1, bind_some']
      exact ⟨lo, h1, rfl, f1, r1, fun x => by have y : (brk B L s).2.1 = 0 := x; omega, Or.inl rfl⟩
theorem m_ens {h : Hp} {B : Int → Int} {L : Int} {s : Int × Int × Int} (r : MR h B L s) (o : SO B L s) : ∃ h', C_Mo_endsLine 124 h = some (0, h') ∧ Fr pMt h h' ∧ MR h' B L (ens B L s) := by
  rw [E_Mo_endsLine, if_pos (mro r), r.2.2.2]
  unfold ens
  by_cases z : s.2.1 = 1
  · obtain ⟨h1, g1, f1, r1⟩ := m_brk r
    have e : brk B L s = s := by unfold brk; rw [if_pos z]
    rw [e] at r1
    rw [if_pos z, if_neg (by decide), if_pos z, if_pos (mro r), g1, bind_some']
    exact ⟨h1, rfl, f1, r1⟩
  · rw [if_neg z, if_pos rfl, if_neg z, if_pos (mro r), r.1.2.2.2.1]
    by_cases k : tK B L s.1 = 2
    · obtain ⟨h2, g2, f2, r2, n2⟩ := m_stp r o.1
      rw [if_neg (show ¬ tK B L s.1 = 5 by omega), if_pos k, if_pos k, if_pos (mro r), g2, bind_some']
      exact ⟨h2, rfl, f2, r2⟩
    · obtain ⟨h1, g1, f1, r1⟩ := m_brk r
      have nk : ¬ (if tK B L s.1 = 5 then 4 else tK B L s.1) = 2 := by
        by_cases y : tK B L s.1 = 5
        · rw [if_pos y]; decide
        · rw [if_neg y]; exact k
      rw [if_neg nk, if_neg k, if_pos (mro r), g1, bind_some']
      exact ⟨h1, rfl, f1, r1⟩
/-- a word out of a range of words, or the end -/
def one (B : Int → Int) (L lo hi : Int) (s : Int × Int × Int) : Int × Int × Int × Int := if s.2.1 = 1 then (0, s) else if tK B L s.1 = 3 ∧ lo ≤ tW B L s.1 ∧ tW B L s.1 ≤ hi then (tW B L s.1 - lo, adv B L s) else (0, brk B L s)
theorem tW_b (B : Int → Int) (L p : Int) : 1 ≤ tW B L p ∧ tW B L p ≤ 99 := by
  unfold tW
  by_cases z : 7 < tE B L p - tA B L p
  · rw [if_pos z]; omega
  · rw [if_neg z]
    rcases wC_d (hs B (tA B L p) (tE B L p - tA B L p).toNat) with y | y
    · rw [y]; omega
    · omega
theorem m_one {h : Hp} {B : Int → Int} {L : Int} {s : Int × Int × Int} (r : MR h B L s) (o : SO B L s) (lo hi : Int) (lb : 0 ≤ lo ∧ lo ≤ 99) : ∃ h', C_Mo_oneOf 124 lo hi h = some ((one B L lo hi s).1, h') ∧ Fr pMt h h' ∧ MR h' B L (one B L lo hi s).2 ∧ mR h' 124 9 = mR h 124 9 := by
  have tb := tW_b B L s.1
  have nine : ∀ {h1}, C_Mo_ends 124 h = some (0, h1) → mR h1 124 9 = mR h 124 9 := fun {h1} g => by
    rw [E_Mo_ends, if_pos (mro r), r.2.2.2] at g
    by_cases z : s.2.1 = 1
    · rw [if_pos z, if_neg (by decide)] at g
      injection g with g; injection g with _ g; rw [g]
    · have e0 : mR (mW h 124 8 1) 124 0 = 125 := by rw [mR_ni (by decide)]; exact mr0 r
      have e1 : mR (mW (mW h 124 8 1) 125 5 1) 124 0 = 125 := by rw [mR_ni (by decide)]; exact e0
      rw [if_neg z, if_pos rfl, if_pos (mro r), hb_eq, okF_W, if_pos (mro r), e0, okS_W, if_pos (mrS r (by decide) (by decide)), hb_eq, okF_W, okF_W, if_pos (mro r), if_pos (mro r), e1, okS_W, okS_W, if_pos (mrS r (by decide) (by decide)), hb_eq] at g
      injection g with g; injection g with _ g
      rw [← g, mR_ne (by decide), mR_ne (by decide), mR_ni (by decide)]
  rw [E_Mo_oneOf, if_pos (mro r), r.2.2.2]
  unfold one
  by_cases z : s.2.1 = 1
  · obtain ⟨h1, g1, f1, r1⟩ := m_brk r
    have e : brk B L s = s := by unfold brk; rw [if_pos z]
    rw [e] at r1
    rw [if_pos z, if_neg (by decide), if_pos z, if_pos (mro r), g1, bind_some']
    exact ⟨h1, rfl, f1, r1, nine g1⟩
  · rw [if_neg z, if_pos rfl, if_neg z, if_pos (mro r), r.1.2.2.2.1]
    by_cases k : tK B L s.1 = 3
    · rw [if_neg (show ¬ tK B L s.1 = 5 by omega), if_pos k, if_pos (mro r), r.1.2.2.2.2.2 k, m_isIn, bind_some']
      by_cases q : lo ≤ tW B L s.1 ∧ tW B L s.1 ≤ hi
      · obtain ⟨h2, g2, f2, r2, n2⟩ := m_stp r o.1
        rw [bI_t q, if_neg n10, if_pos (mro r), if_pos (mro r)]
        dsimp only
        rw [g2, bind_some', r.1.2.2.2.2.2 k, w32_id (x := tW B L s.1 - lo) (by omega) (by omega), if_pos ⟨k, q⟩]
        exact ⟨h2, rfl, f2, r2, n2⟩
      · obtain ⟨h1, g1, f1, r1⟩ := m_brk r
        rw [bI_f q, if_pos rfl, if_neg (show ¬ (tK B L s.1 = 3 ∧ lo ≤ tW B L s.1 ∧ tW B L s.1 ≤ hi) from fun x => q x.2), if_pos (mro r)]
        dsimp only
        rw [g1, bind_some']
        exact ⟨h1, rfl, f1, r1, nine g1⟩
    · obtain ⟨h1, g1, f1, r1⟩ := m_brk r
      have nk : ¬ (if tK B L s.1 = 5 then 4 else tK B L s.1) = 3 := by
        by_cases y : tK B L s.1 = 5
        · rw [if_pos y]; decide
        · rw [if_neg y]; exact k
      rw [if_neg nk, if_neg (show ¬ (tK B L s.1 = 3 ∧ lo ≤ tW B L s.1 ∧ tW B L s.1 ≤ hi) from fun x => k x.1), if_pos (mro r), g1, bind_some']
      exact ⟨h1, rfl, f1, r1, nine g1⟩
