/-! A line of a catalogue; the reference's half. -/
def p127 (b _ : Int) : Prop := b = 127
def pMl (b i : Int) : Prop := pMt b i ∨ b = 127
theorem pMt_l (b i : Int) (q : pMt b i) : pMl b i := Or.inl q
theorem p127_l (b i : Int) (q : p127 b i) : pMl b i := Or.inr q
theorem MR.row {h h' : Hp} {B : Int → Int} {L : Int} {s : Int × Int × Int} (r : MR h B L s) (f : Fr p127 h h') : MR h' B L s := by
  obtain ⟨⟨⟨m1, m2, m3, m4⟩, r2, r3, r4, r5, r6⟩, r7, r8, r9⟩ := r
  have e : ∀ i, mR h' 124 i = mR h 124 i := fun i => f.2 124 i (by unfold p127; omega)
  have e5 : ∀ i, mR h' 125 i = mR h 125 i := fun i => f.2 125 i (by unfold p127; omega)
  exact ⟨⟨⟨m1.of f.1 (fun i _ => e i), by rw [e]; exact m2, m3, fun j j0 j1 => by rw [e5]; exact m4 j j0 j1⟩, by rw [e]; exact r2, by rw [e]; exact r3, by rw [e]; exact r4, fun x => by rw [e]; exact r5 x, fun x => by rw [e]; exact r6 x⟩, by rw [e5]; exact r7, by rw [e5]; exact r8, by rw [e]; exact r9⟩
theorem mrr {h : Hp} {B : Int → Int} {L : Int} {s : Int × Int × Int} (r : MR h B L s) : mR h 124 10 = 127 := r.1.1.1.2.1.2.2.1
theorem mrrA {h : Hp} {B : Int → Int} {L : Int} {s : Int × Int × Int} (r : MR h B L s) {i : Int} (i0 : 0 ≤ i) (i1 : i < 330) : okA h 127 102 i = true := okA_t r.1.1.1.2.2.2.2.1 i0 i1
theorem mrrS {h : Hp} {B : Int → Int} {L : Int} {s : Int × Int × Int} (r : MR h B L s) {i : Int} (i0 : 0 ≤ i) (i1 : i < 330) : okS h 127 102 i = true := okS_t r.1.1.1.2.2.2.2.1 (by decide) i0 i1
/-- the row that the reference reads into -/
def Row (h : Hp) (s : Int × Int × Int) (V : Int → Int) : Prop := (s.2.1 = 0 → ∀ i, 0 ≤ i → i < 330 → mR h 127 i = V i) ∧ ∀ c, 0 ≤ c → c ≤ 2 → 0 ≤ mR h 127 c ∧ mR h 127 c ≤ s.1
/-- one more: its cell, how many, the end of the line -/
theorem m_tail {h : Hp} {B : Int → Int} {L : Int} {t : Int × Int × Int} (r : MR h B L t) (o : SO B L t) {c off cap v : Int} (c0 : 0 ≤ c ∧ c ≤ 2) (f0 : 0 ≤ off ∧ off + cap ≤ 330 ∧ 3 ≤ off) (rb : 0 ≤ mR h 127 c ∧ mR h 127 c ≤ 500) : ∃ h', (if okF h 124 12 = true then (if okA h (mR h 124 10) 102 c = true then (if (mR h (mR h 124 10) c) < cap then (if okF h 124 12 = true then (if okF h 124 12 = true then (if okA h (mR h 124 10) 102 c = true then (if okS h (mR h 124 10) 102 (w32 (off + (mR h (mR h 124 10) c))) = true then hb (mW h (mR h 124 10) (w32 (off + (mR h (mR h 124 10) c))) v) (fun h40 => (if okF h40 124 12 = true then (if okA h40 (mR h40 124 10) 102 c = true then (if okS h40 (mR h40 124 10) 102 c = true then hb (mW h40 (mR h40 124 10) c (w32 ((mR h40 (mR h40 124 10) c) + 1))) (fun h41 => (if okF h41 124 12 = true then (C_Mo_endsLine 124 h41).bind (fun x42 => (some (0, x42.2) : Res)) else none)) else none) else none) else none)) else none) else none) else none) else none) else (if okF h 124 12 = true then (if okA h (mR h 124 10) 102 c = true then (if okS h (mR h 124 10) 102 c = true then hb (mW h (mR h 124 10) c (w32 ((mR h (mR h 124 10) c) + 1))) (fun h38 => (if okF h38 124 12 = true then (C_Mo_endsLine 124 h38).bind (fun x39 => (some (0, x39.2))) else none)) else none) else none) else none)) else none) else none) = some (0, h') ∧ Fr pMl h h' ∧ MR h' B L (ens B L t) ∧ (∀ d, 0 ≤ d → d ≤ 2 → mR h' 127 d = if d = c then mR h 127 c + 1 else mR h 127 d) ∧ (mR h 127 c < cap → ∀ i, mR h' 127 i = up1 (up1 (mR h 127) (off + mR h 127 c) v) c (mR h 127 c + 1) i) := by
  rw [if_pos (mro r), mrr r, if_pos (mrrA r (by omega) (by omega))]
  by_cases q : mR h 127 c < cap
  · have f1 : Fr p127 h (mW h 127 (off + mR h 127 c) v) := Fr.W h v rfl
    have r1 := r.row f1
    have f2 : Fr p127 (mW h 127 (off + mR h 127 c) v) (mW (mW h 127 (off + mR h 127 c) v) 127 c (mR h 127 c + 1)) := Fr.W _ _ rfl
    have r2 := r1.row f2
    have e1 : mR (mW h 127 (off + mR h 127 c) v) 127 c = mR h 127 c := mR_ni (by omega)
    have e2 : ∀ i, mR (mW (mW h 127 (off + mR h 127 c) v) 127 c (mR h 127 c + 1)) 127 i = up1 (up1 (mR h 127) (off + mR h 127 c) v) c (mR h 127 c + 1) i := fun i => by
      rw [mR_mW]
      by_cases y : i = c
      · rw [if_pos ⟨rfl, y⟩, y, up1_s]
      · rw [if_neg (fun x => y x.2), up1_n y, mR_mW]
        by_cases u : i = off + mR h 127 c
        · rw [if_pos ⟨rfl, u⟩, u, up1_s]
        · rw [if_neg (fun x => u x.2), up1_n u]
    rw [if_pos q, if_pos (mro r), if_pos (mro r), if_pos (mrrA r (by omega) (by omega)), w32_id (x := off + mR h 127 c) (by omega) (by omega), if_pos (mrrS r (by omega) (by omega)), hb_eq, if_pos (mro r1), mrr r1, if_pos (mrrA r1 (by omega) (by omega)), if_pos (mrrS r1 (by omega) (by omega)), e1, w32_id (x := mR h 127 c + 1) (by omega) (by omega), hb_eq]
    generalize mW (mW h 127 (off + mR h 127 c) v) 127 c (mR h 127 c + 1) = h2 at f2 r2 e2 ⊢
    obtain ⟨h3, g3, f3, r3⟩ := m_ens r2 o
    have e3 : ∀ i, mR h3 127 i = mR h2 127 i := fun i => f3.2 127 i (by unfold pMt; omega)
    rw [if_pos (mro r2), g3, bind_some']
    refine ⟨h3, rfl, ((f1.tr f2).to p127_l).tr (f3.to pMt_l), r3, fun d d0 d1 => ?_, fun _ i => by rw [e3, e2]⟩
    rw [e3, e2]
    by_cases y : d = c
    · rw [if_pos y, y, up1_s]
    · rw [if_neg y, up1_n y, up1_n (by omega)]
  · have f2 : Fr p127 h (mW h 127 c (mR h 127 c + 1)) := Fr.W _ _ rfl
    have r2 := r.row f2
    have e2 : ∀ i, mR (mW h 127 c (mR h 127 c + 1)) 127 i = up1 (mR h 127) c (mR h 127 c + 1) i := fun i => by
      rw [mR_mW]
      by_cases y : i = c
      · rw [if_pos ⟨rfl, y⟩, y, up1_s]
      · rw [if_neg (fun x => y x.2), up1_n y]
    rw [if_neg q, if_pos (mro r), if_pos (mrrA r (by omega) (by omega)), if_pos (mrrS r (by omega) (by omega)), w32_id (x := mR h 127 c + 1) (by omega) (by omega), hb_eq]
    generalize mW h 127 c (mR h 127 c + 1) = h2 at f2 r2 e2 ⊢
    obtain ⟨h3, g3, f3, r3⟩ := m_ens r2 o
    have e3 : ∀ i, mR h3 127 i = mR h2 127 i := fun i => f3.2 127 i (by unfold pMt; omega)
    rw [if_pos (mro r2), g3, bind_some']
    refine ⟨h3, rfl, (f2.to p127_l).tr (f3.to pMt_l), r3, fun d d0 d1 => ?_, fun x => absurd x q⟩
    rw [e3, e2]
    by_cases y : d = c
    · rw [if_pos y, y, up1_s]
    · rw [if_neg y, up1_n y]
/-- the head of a line: the word -/
theorem m_head {h : Hp} {B : Int → Int} {L : Int} {s : Int × Int × Int} (r : MR h B L s) (o : SO B L s) (f : s.2.1 ≠ 1) (k : tK B L s.1 = 3) {lo hi : Int} (lb : 0 ≤ lo ∧ lo ≤ 99) (w : lo ≤ tW B L s.1 ∧ tW B L s.1 ≤ hi) : ∃ h1, C_Mo_oneOf 124 lo hi h = some (tW B L s.1 - lo, h1) ∧ mR h1 124 8 = 0 ∧ okF h1 124 12 = true ∧ Fr pMt h h1 ∧ MR h1 B L (adv B L s) := by
  obtain ⟨h1, g1, f1, r1, n1⟩ := m_one r o lo hi lb
  have e : one B L lo hi s = (tW B L s.1 - lo, adv B L s) := by unfold one; rw [if_neg f, if_pos ⟨k, w⟩]
  rw [e] at g1 r1
  exact ⟨h1, g1, by rw [r1.2.2.2]; exact if_neg f, mro r1, f1, r1⟩
theorem rm3_nf {B : Int → Int} {L a b : Int} {s : Int × Int × Int} (h : s.2.1 ≠ 0) : rm3 B L a b s = adv B L s := by
  unfold rm3 nte
  rw [if_neg h]
  split <;> rfl
theorem num_nf {B : Int → Int} {L lo hi lo' hi' : Int} {s : Int × Int × Int} (h : s.2.1 ≠ 0) : (num B L lo hi s).2 = (num B L lo' hi' s).2 := by
  unfold num
  by_cases z : s.2.1 = 1
  · rw [if_pos z, if_pos z]
  · rw [if_neg z, if_neg z]
    by_cases y : tK B L s.1 = 1
    · rw [if_pos y, if_pos y]
      have e : nte B L 2 s = s := by unfold nte; rw [if_neg h]
      show adv B L (if tV B L s.1 < lo ∨ hi < tV B L s.1 then nte B L 2 s else s) = adv B L (if tV B L s.1 < lo' ∨ hi' < tV B L s.1 then nte B L 2 s else s)
      rw [e]
      split <;> split <;> rfl
    · rw [if_neg y, if_neg y]
/-- room for one more -/
theorem m_room {h : Hp} {B : Int → Int} {L : Int} {s : Int × Int × Int} (r : MR h B L (adv B L s)) (o : SO B L s) {a b : Int} (n : mR h 124 9 = 1) {K : Hp → Res} : ∃ h', (if a < b then K h else (if okF h 124 12 = true then (C_Mo_also 124 3 (tA B L s.1) h).bind (fun x3 => K x3.2) else none)) = K h' ∧ Fr pMt h h' ∧ MR h' B L (rm3 B L a b s) ∧ mR h' 124 9 = 1 := by
  unfold rm3
  by_cases z : a < b
  · rw [if_pos z, if_pos z]; exact ⟨h, rfl, Fr.rf _ h, r, n⟩
  · obtain ⟨h1, g1, f1, r1, n1⟩ := m_also r (k := 3) (a := tA B L s.1) (by decide) o.2.2
    have e : (if (adv B L s).2.1 = 0 then ((adv B L s).1, 3, tA B L s.1) else adv B L s) = adv B L (nte B L 3 s) := by
      unfold nte
      have e0 : (adv B L s).2.1 = s.2.1 := rfl
      rw [e0]
      by_cases y : s.2.1 = 0
      · rw [if_pos y, if_pos y]; rfl
      · rw [if_neg y, if_neg y]
    rw [e] at r1
    rw [if_neg z, if_neg z, if_pos (mro r), g1, bind_some']
    exact ⟨h1, rfl, f1, r1, n1.trans n⟩
