/-! A line of a catalogue; the class's half. -/
def rm3 (B : Int → Int) (L a b : Int) (s : Int × Int × Int) : Int × Int × Int := adv B L (if a < b then s else nte B L 3 s)
def ctB (B : Int → Int) (L : Int) (s : Int × Int × Int) (V : Int → Int) : (Int × Int × Int) × (Int → Int) := (ens B L (num B L 1 9999 (rm3 B L (V 0) 6 s)).2, if (ens B L (num B L 1 9999 (rm3 B L (V 0) 6 s)).2).2.1 = 0 then tBase V (num B L 1 9999 (rm3 B L (V 0) 6 s)).1 else V)
def ctO (B : Int → Int) (L : Int) (s : Int × Int × Int) (V : Int → Int) : (Int × Int × Int) × (Int → Int) := (ens B L (num B L 0 (V 0 - 1) (rm3 B L (V 0) 6 s)).2, if (ens B L (num B L 0 (V 0 - 1) (rm3 B L (V 0) 6 s)).2).2.1 = 0 then tOn V (num B L 0 (V 0 - 1) (rm3 B L (V 0) 6 s)).1 else V)
def ctT (B : Int → Int) (L : Int) (s : Int × Int × Int) (V : Int → Int) (g : Int) : (Int × Int × Int) × (Int → Int) := (ens B L (num B L 0 9999 (rm3 B L (V 1) 24 s)).2, if (ens B L (num B L 0 9999 (rm3 B L (V 1) 24 s)).2).2.1 = 0 then tThing V (g * (num B L 0 9999 (rm3 B L (V 1) 24 s)).1) else V)
def ctS (B : Int → Int) (L : Int) (s : Int × Int × Int) (V : Int → Int) : (Int × Int × Int) × (Int → Int) := (ens B L (num B L 1 9999 (rm3 B L (V 2) 4 s)).2, if (ens B L (num B L 1 9999 (rm3 B L (V 2) 4 s)).2).2.1 = 0 then tStone V (num B L 1 9999 (rm3 B L (V 2) 4 s)).1 else V)
def eN1 (B : Int → Int) (L : Int) (s : Int × Int × Int) (V : Int → Int) := num B L 0 (V 1 - 1) (adv B L s)
def eN2 (B : Int → Int) (L : Int) (s : Int × Int × Int) (V : Int → Int) := num B L 0 (V 0 - 1) (eN1 B L s V).2
def eN3 (B : Int → Int) (L : Int) (s : Int × Int × Int) (V : Int → Int) := num B L 1 9999 (eN2 B L s V).2
def eN4 (B : Int → Int) (L : Int) (s : Int × Int × Int) (V : Int → Int) := num B L 0 99 (eN3 B L s V).2
def ctE (B : Int → Int) (L : Int) (s : Int × Int × Int) (V : Int → Int) : (Int × Int × Int) × (Int → Int) := (ens B L (eN4 B L s V).2, if (ens B L (eN4 B L s V).2).2.1 = 0 then tEnter V (eN1 B L s V).1 (eN2 B L s V).1 (eN3 B L s V).1 (eN4 B L s V).1 else V)
def ctL (B : Int → Int) (L : Int) (s : Int × Int × Int) (V : Int → Int) : (Int × Int × Int) × (Int → Int) := if tK B L s.1 = 3 then (if tW B L s.1 = 1 then ctB B L s V else if tW B L s.1 = 2 then ctO B L s V else if tW B L s.1 = 3 then ctT B L s V 1 else if tW B L s.1 = 4 then ctT B L s V (-1) else if tW B L s.1 = 5 then ctS B L s V else if tW B L s.1 = 6 then ctE B L s V else (brk B L s, V)) else (brk B L s, V)
theorem brk_1 {B : Int → Int} {L : Int} {s : Int × Int × Int} : (brk B L s).2.1 = 1 := by
  unfold brk
  by_cases z : s.2.1 = 1
  · rw [if_pos z]; exact z
  · rw [if_neg z]
theorem nte_0 {B : Int → Int} {L k : Int} {s : Int × Int × Int} (k0 : k ≠ 0) : (nte B L k s).2.1 ≠ 0 := by
  unfold nte
  by_cases z : s.2.1 = 0
  · rw [if_pos z]; exact k0
  · rw [if_neg z]; exact z
theorem nte_p {B : Int → Int} {L k : Int} {s : Int × Int × Int} : (nte B L k s).1 = s.1 := by
  unfold nte
  by_cases z : s.2.1 = 0
  · rw [if_pos z]
  · rw [if_neg z]
theorem ens_0 {B : Int → Int} {L : Int} {s : Int × Int × Int} (h : (ens B L s).2.1 = 0) : s.2.1 = 0 := by
  unfold ens at h
  by_cases z : s.2.1 = 1
  · rw [if_pos z] at h; exact h
  · rw [if_neg z] at h
    by_cases y : tK B L s.1 = 2
    · rw [if_pos y] at h; exact h
    · rw [if_neg y, brk_1] at h; omega
theorem num_0 {B : Int → Int} {L lo hi : Int} {s : Int × Int × Int} (h : (num B L lo hi s).2.2.1 = 0) : s.2.1 = 0 ∧ lo ≤ (num B L lo hi s).1 ∧ (num B L lo hi s).1 ≤ hi := by
  unfold num at h ⊢
  by_cases z : s.2.1 = 1
  · rw [if_pos z] at h
    have : s.2.1 = 0 := h
    omega
  · rw [if_neg z] at h ⊢
    by_cases y : tK B L s.1 = 1
    · rw [if_pos y] at h ⊢
      by_cases x : tV B L s.1 < lo ∨ hi < tV B L s.1
      · rw [if_pos x] at h
        have : (nte B L 2 s).2.1 = 0 := h
        exact absurd this (nte_0 (by decide))
      · rw [if_neg x] at h ⊢
        exact ⟨h, by show lo ≤ tV B L s.1; omega, by show tV B L s.1 ≤ hi; omega⟩
    · rw [if_neg y] at h
      have : (brk B L s).2.1 = 0 := h
      rw [brk_1] at this
      omega
theorem rm3_0 {B : Int → Int} {L a b : Int} {s : Int × Int × Int} (h : (rm3 B L a b s).2.1 = 0) : s.2.1 = 0 ∧ a < b := by
  unfold rm3 at h
  by_cases z : a < b
  · rw [if_pos z] at h; exact ⟨h, z⟩
  · rw [if_neg z] at h
    have : (nte B L 3 s).2.1 = 0 := h
    exact absurd this (nte_0 (by decide))
theorem so_rm3 {B : Int → Int} {L a b : Int} {s : Int × Int × Int} (o : SO B L s) (t : tK B L s.1 ≠ 0) : SO B L (rm3 B L a b s) := by
  unfold rm3
  by_cases z : a < b
  · rw [if_pos z]; exact so_step o t
  · rw [if_neg z]; exact so_nte o (by decide) t
/-- cells besides the reader's -/
theorem CR.ne {h h' : Hp} {B : Int → Int} {L : Int} {s : Int × Int × Int} {p : Int → Int → Prop} (r : CR h B L s) (f : Fr p h h') (n : ∀ b i, b = 82 ∨ b = 83 → ¬ p b i) : CR h' B L s := by
  obtain ⟨⟨⟨a1, a2, a3, a4, a5, a6⟩, r2, r3, r4, r5⟩, r6, r7⟩ := r
  have e : ∀ i, mR h' 82 i = mR h 82 i := fun i => f.2 82 i (n 82 i (Or.inl rfl))
  refine ⟨⟨⟨by rw [f.1.k]; exact a1, by rw [e]; exact a2, by rw [f.1.k, f.1.l]; exact a3, by rw [e]; exact a4, a5, fun j j0 j1 => by rw [f.2 83 j (n 83 j (Or.inr rfl))]; exact a6 j j0 j1⟩, by rw [e]; exact r2, by rw [e]; exact r3, fun x => by rw [e]; exact r4 x, fun x => by rw [e]; exact r5 x⟩, by rw [e]; exact r6, by rw [e]; exact r7⟩
theorem CatD.rd {h h' : Hp} {V : Int → Int} (w : CatD h 84 V) (f : Fr pRf h h') : CatD h' 84 V := ⟨w.1.of f.1 (fun b i _ _ => f.2 b i (by unfold pRf; omega)), w.2⟩
def pRc (b i : Int) : Prop := pRf b i ∨ pCa 84 b i
theorem pRf_c (b i : Int) (q : pRf b i) : pRc b i := Or.inl q
theorem pCa_c (b i : Int) (q : pCa 84 b i) : pRc b i := Or.inr q
theorem pCa_n (b i : Int) (q : b = 82 ∨ b = 83) : ¬ pCa 84 b i := by unfold pCa; omega
/-- after the numbers: the end of the line, and what is added -/
theorem c_fin {h : Hp} {B : Int → Int} {L : Int} {t : Int × Int × Int} {V W : Int → Int} {f : Hp → Res} (r : CR h B L t) (o : SO B L t) (w : CatD h 84 V) (add : ∀ h1, CatD h1 84 V → (ens B L t).2.1 = 0 → ∃ h2, f h1 = some (0, h2) ∧ Fr (pCa 84) h1 h2 ∧ CatD h2 84 W) : ∃ h', (C_Re_endsSound 82 h).bind (fun x4 => (if x4.1 = 0 then (some (0, x4.2) : Res) else (if okF x4.2 84 1 = true then (f x4.2).bind (fun x5 => (some (0, x5.2))) else none))) = some (0, h') ∧ Fr pRc h h' ∧ CR h' B L (ens B L t) ∧ CatD h' 84 (if (ens B L t).2.1 = 0 then W else V) := by
  obtain ⟨h1, g1, f1, r1⟩ := c_ens r o.1
  have w1 := w.rd f1
  rw [g1, bind_some']
  by_cases z : (ens B L t).2.1 = 0
  · obtain ⟨h2, g2, f2, w2⟩ := add h1 w1 z
    rw [bI_t z, if_neg n10, if_pos (cF w1.1.1.1), g2, bind_some', if_pos z]
    exact ⟨h2, rfl, (f1.to pRf_c).tr (f2.to pCa_c), r1.ne f2 pCa_n, w2⟩
  · rw [bI_f z, if_pos rfl, if_neg z]
    exact ⟨h1, rfl, f1.to pRf_c, r1, w1⟩
/-- the head of a line with room for one more -/
theorem c_rm3 {h : Hp} {B : Int → Int} {L : Int} {s : Int × Int × Int} (r : CR h B L s) (o : SO B L s) (t : tK B L s.1 = 3) (a b : Int) : ∃ h1 h2, C_Re_needRoom 82 a b h = some (0, h1) ∧ C_Re_step 82 h1 = some (0, h2) ∧ okF h1 82 6 = true ∧ Fr pRf h h2 ∧ CR h2 B L (rm3 B L a b s) := by
  obtain ⟨h1, g1, f1, r1⟩ := c_room r a b
  have e : (if a < b then s else nte B L 3 s).1 = s.1 := by
    by_cases z : a < b
    · rw [if_pos z]
    · rw [if_neg z, nte_p]
  obtain ⟨h2, g2, f2, r2⟩ := c_stp r1 (by rw [e]; exact o.1) (by rw [e]; omega)
  exact ⟨h1, h2, g1, g2, cro r1, f1.tr f2, r2⟩
theorem c_base {h : Hp} {B : Int → Int} {L : Int} {s : Int × Int × Int} {V : Int → Int} (r : CR h B L s) (o : SO B L s) (w : CatD h 84 V) (t : tK B L s.1 = 3) : ∃ h', C_Re_readBase 82 84 h = some (0, h') ∧ Fr pRc h h' ∧ CR h' B L (ctB B L s V).1 ∧ CatD h' 84 (ctB B L s V).2 := by
  obtain ⟨h1, h2, g1, g2, k1, f2, r2⟩ := c_rm3 r o t (V 0) 6
  have o2 := so_rm3 (a := V 0) (b := 6) o (show tK B L s.1 ≠ 0 by omega)
  obtain ⟨h3, g3, f3, r3⟩ := c_num r2 o2.1 1 9999
  have o3 := so_num (lo := 1) (hi := 9999) o2
  have w3 := (w.rd f2).rd f3
  obtain ⟨h4, g4, f4, r4, w4⟩ := c_fin (W := tBase V (num B L 1 9999 (rm3 B L (V 0) 6 s)).1) (f := C_Ca_addBase 84 (num B L 1 9999 (rm3 B L (V 0) 6 s)).1) r3 o3 w3 (fun hh ww z => by
    have a := num_0 (ens_0 z)
    exact s_addBase ww (rm3_0 a.1).2 (by omega) a.2.2)
  refine ⟨h4, ?_, ((f2.tr f3).to pRf_c).tr f4, r4, w4⟩
  rw [E_Re_readBase, if_pos (cF w.1.1.1), w.1.1.2.2.1, if_pos (cro r), g1, bind_some', if_pos k1, g2, bind_some', if_pos (cro r2), g3, bind_some', if_pos (cro r3)]
  exact g4
theorem c_on {h : Hp} {B : Int → Int} {L : Int} {s : Int × Int × Int} {V : Int → Int} (r : CR h B L s) (o : SO B L s) (w : CatD h 84 V) (t : tK B L s.1 = 3) : ∃ h', C_Re_readOn 82 84 h = some (0, h') ∧ Fr pRc h h' ∧ CR h' B L (ctO B L s V).1 ∧ CatD h' 84 (ctO B L s V).2 := by
  obtain ⟨h1, h2, g1, g2, k1, f2, r2⟩ := c_rm3 r o t (V 0) 6
  have o2 := so_rm3 (a := V 0) (b := 6) o (show tK B L s.1 ≠ 0 by omega)
  have v := w.1.2.1.1
  obtain ⟨h3, g3, f3, r3⟩ := c_num r2 o2.1 0 (V 0 - 1)
  have o3 := so_num (lo := 0) (hi := V 0 - 1) o2
  have w2 := w.rd f2
  have w3 := w2.rd f3
  obtain ⟨h4, g4, f4, r4, w4⟩ := c_fin (W := tOn V (num B L 0 (V 0 - 1) (rm3 B L (V 0) 6 s)).1) (f := C_Ca_addOn 84 (num B L 0 (V 0 - 1) (rm3 B L (V 0) 6 s)).1) r3 o3 w3 (fun hh ww z => by
    have a := num_0 (ens_0 z)
    exact s_addOn ww (rm3_0 a.1).2 a.2.1 (by omega))
  refine ⟨h4, ?_, ((f2.tr f3).to pRf_c).tr f4, r4, w4⟩
  rw [E_Re_readOn, if_pos (cF w.1.1.1), w.1.1.2.2.1, if_pos (cro r), g1, bind_some', if_pos k1, g2, bind_some', if_pos (cF w2.1.1.1), if_pos (cro r2), w2.1.1.2.2.1, w32_id (x := V 0 - 1) (by omega) (by omega), g3, bind_some', if_pos (cro r3)]
  exact g4
theorem c_stone {h : Hp} {B : Int → Int} {L : Int} {s : Int × Int × Int} {V : Int → Int} (r : CR h B L s) (o : SO B L s) (w : CatD h 84 V) (t : tK B L s.1 = 3) : ∃ h', C_Re_readStone 82 84 h = some (0, h') ∧ Fr pRc h h' ∧ CR h' B L (ctS B L s V).1 ∧ CatD h' 84 (ctS B L s V).2 := by
  obtain ⟨h1, h2, g1, g2, k1, f2, r2⟩ := c_rm3 r o t (V 2) 4
  have o2 := so_rm3 (a := V 2) (b := 4) o (show tK B L s.1 ≠ 0 by omega)
  obtain ⟨h3, g3, f3, r3⟩ := c_num r2 o2.1 1 9999
  have o3 := so_num (lo := 1) (hi := 9999) o2
  have w3 := (w.rd f2).rd f3
  obtain ⟨h4, g4, f4, r4, w4⟩ := c_fin (W := tStone V (num B L 1 9999 (rm3 B L (V 2) 4 s)).1) (f := C_Ca_addStone 84 (num B L 1 9999 (rm3 B L (V 2) 4 s)).1) r3 o3 w3 (fun hh ww z => by
    have a := num_0 (ens_0 z)
    exact s_addStone ww (rm3_0 a.1).2)
  refine ⟨h4, ?_, ((f2.tr f3).to pRf_c).tr f4, r4, w4⟩
  rw [E_Re_readStone, if_pos (cF w.1.1.1), w.1.2.2.1, if_pos (cro r), g1, bind_some', if_pos k1, g2, bind_some', if_pos (cro r2), g3, bind_some', if_pos (cro r3)]
  exact g4
theorem c_thing {h : Hp} {B : Int → Int} {L : Int} {s : Int × Int × Int} {V : Int → Int} (r : CR h B L s) (o : SO B L s) (w : CatD h 84 V) (t : tK B L s.1 = 3) {g : Int} (hg : g = 1 ∨ g = -1) : ∃ h', C_Re_readThing 82 84 g h = some (0, h') ∧ Fr pRc h h' ∧ CR h' B L (ctT B L s V g).1 ∧ CatD h' 84 (ctT B L s V g).2 := by
  obtain ⟨h1, h2, g1, g2, k1, f2, r2⟩ := c_rm3 r o t (V 1) 24
  have o2 := so_rm3 (a := V 1) (b := 24) o (show tK B L s.1 ≠ 0 by omega)
  obtain ⟨h3, g3, f3, r3⟩ := c_num r2 o2.1 0 9999
  have o3 := so_num (lo := 0) (hi := 9999) o2
  have w3 := (w.rd f2).rd f3
  obtain ⟨h4, g4, f4, r4, w4⟩ := c_fin (W := tThing V (g * (num B L 0 9999 (rm3 B L (V 1) 24 s)).1)) (f := C_Ca_addThing 84 (w32 (g * (num B L 0 9999 (rm3 B L (V 1) 24 s)).1))) r3 o3 w3 (fun hh ww z => by
    have a := num_0 (ens_0 z)
    have b : -9999 ≤ g * (num B L 0 9999 (rm3 B L (V 1) 24 s)).1 ∧ g * (num B L 0 9999 (rm3 B L (V 1) 24 s)).1 ≤ 9999 := by rcases hg with hg | hg <;> rw [hg] <;> omega
    rw [w32_id (by omega) (by omega)]
    exact s_addThing ww (rm3_0 a.1).2 b.1 b.2)
  refine ⟨h4, ?_, ((f2.tr f3).to pRf_c).tr f4, r4, w4⟩
  rw [E_Re_readThing, if_pos (cF w.1.1.1), w.1.1.2.2.2.1, if_pos (cro r), g1, bind_some', if_pos k1, g2, bind_some', if_pos (cro r2), g3, bind_some', if_pos (cro r3)]
  exact g4
theorem c_entry {h : Hp} {B : Int → Int} {L : Int} {s : Int × Int × Int} {V : Int → Int} (r : CR h B L s) (o : SO B L s) (w : CatD h 84 V) (t : tK B L s.1 = 3) : ∃ h', C_Re_readEntry 82 84 h = some (0, h') ∧ Fr pRc h h' ∧ CR h' B L (ctE B L s V).1 ∧ CatD h' 84 (ctE B L s V).2 := by
  have v0 := w.1.2.1.1
  have v1 := w.1.2.1.2.1
  obtain ⟨h1, g1, f1, r1⟩ := c_stp r o.1 (by omega)
  have o1 := so_step o (show tK B L s.1 ≠ 0 by omega)
  have w1 := w.rd f1
  obtain ⟨h2, g2, f2, r2⟩ := c_num r1 o1.1 0 (V 1 - 1)
  have o2 := so_num (lo := 0) (hi := V 1 - 1) o1
  have w2 := w1.rd f2
  obtain ⟨h3, g3, f3, r3⟩ := c_num r2 o2.1 0 (V 0 - 1)
  have o3 := so_num (lo := 0) (hi := V 0 - 1) o2
  have w3 := w2.rd f3
  obtain ⟨h4, g4, f4, r4⟩ := c_num r3 o3.1 1 9999
  have o4 := so_num (lo := 1) (hi := 9999) o3
  have w4 := w3.rd f4
  obtain ⟨h5, g5, f5, r5⟩ := c_num r4 o4.1 0 99
  have o5 := so_num (lo := 0) (hi := 99) o4
  have w5 := w4.rd f5
  obtain ⟨h6, g6, f6, r6, w6⟩ := c_fin (W := tEnter V (eN1 B L s V).1 (eN2 B L s V).1 (eN3 B L s V).1 (eN4 B L s V).1) (f := C_Ca_enter 84 (eN1 B L s V).1 (eN2 B L s V).1 (eN3 B L s V).1 (eN4 B L s V).1) r5 o5 w5 (fun hh ww z => by
    have a4 := num_0 (ens_0 z)
    have a3 := num_0 a4.1
    have a2 := num_0 a3.1
    have a1 := num_0 a2.1
    exact s_enter ww a1.2.1 (by have : (eN1 B L s V).1 ≤ V 1 - 1 := a1.2.2; omega) a2.2.1 (by have : (eN2 B L s V).1 ≤ V 0 - 1 := a2.2.2; omega) a3.2.1 a3.2.2)
  refine ⟨h6, ?_, (((((f1.tr f2).tr f3).tr f4).tr f5).to pRf_c).tr f6, r6, w6⟩
  rw [E_Re_readEntry, if_pos (cro r), g1, bind_some', if_pos (cF w1.1.1.1), if_pos (cro r1), w1.1.1.2.2.2.1, w32_id (x := V 1 - 1) (by omega) (by omega), g2, bind_some', if_pos (cF w2.1.1.1), if_pos (cro r2), w2.1.1.2.2.1, w32_id (x := V 0 - 1) (by omega) (by omega), g3, bind_some', if_pos (cro r3), g4, bind_some', if_pos (cro r4), g5, bind_some', if_pos (cro r5)]
  exact g6
