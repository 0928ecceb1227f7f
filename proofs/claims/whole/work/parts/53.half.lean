/-! The two halves: what the class holds, what the reference holds. Calls that change what is told go from half to half. -/
def skyT (T : Int → Int) (k : Int) : Int → Int := slc T (1670 + 18 * k) 18
theorem skyE {T : Int → Int} {k o : Int} (h0 : 0 ≤ o) (h1 : o < 18) : T (1670 + 18 * k + o) = skyT T k o := slc_e h0 h1
def Tok (T : Int → Int) : Prop := ((0 ≤ T 0 ∧ T 0 ≤ 3) ∧ (0 ≤ T 1 ∧ T 1 ≤ 6) ∧ (0 ≤ T 2 ∧ T 2 ≤ 3) ∧ (0 ≤ T 3 ∧ T 3 ≤ 16)) ∧ (0 ≤ T 4 ∧ T 4 ≤ 500) ∧ (∀ k, 0 ≤ k → k < T 0 → Vok (catT T k)) ∧ (∀ k, 0 ≤ k → k < T 1 → Uok (houT T k)) ∧ (∀ k, 0 ≤ k → k < T 2 → Sok (skyT T k)) ∧ (∀ k, 0 ≤ k → k < T 3 → Yok T k)
def CIn (h : Hp) (T : Int → Int) : Prop := LSh h ∧ TSh h 2 ∧ TCo h 2 T
def MIn (h : Hp) (T : Int → Int) : Prop := ModS h ∧ ∀ i, 0 ≤ i → i < 1800 → mR h 125 i = T i
theorem Inv.c {h : Hp} {T : Int → Int} (w : Inv h T) : CIn h T := ⟨w.1, w.2.1, w.2.2.1⟩
theorem Inv.m {h : Hp} {T : Int → Int} (w : Inv h T) : MIn h T := ⟨w.2.2.2.1, w.2.2.2.2⟩
theorem Inv.j {h : Hp} {T : Int → Int} (c : CIn h T) (m : MIn h T) : Inv h T := ⟨c.1, c.2.1, c.2.2, m.1, m.2⟩
theorem CIn.tok {h : Hp} {T : Int → Int} (c : CIn h T) : Tok T := by
  obtain ⟨_, _, t⟩ := c
  exact ⟨⟨t.2.1, t.2.2.1, t.2.2.2.1, t.2.2.2.2.1⟩, t.2.2.2.2.2.1, fun k k0 k1 => (t.2.2.2.2.2.2.2.1 k k0 k1).2.1, fun k k0 k1 => (t.2.2.2.2.2.2.2.2.1 k k0 k1).2.1, fun k k0 k1 => (t.2.2.2.2.2.2.2.2.2.1 k k0 k1).2.2.1, t.2.2.2.2.2.2.2.2.2.2.2⟩
/-- cells of the class; cells of the reference -/
def pC (b _ : Int) : Prop := 2 ≤ b ∧ b ≤ 123 ∧ b ≠ 81
def pD (b i : Int) : Prop := (124 ≤ b ∧ b ≤ 133) ∧ b ≠ 126 ∧ ¬ (b = 125 ∧ 1800 ≤ i ∧ i < 7200)
theorem MIn.of {h h' : Hp} {T : Int → Int} (w : MIn h T) (f : Fr pC h h') : MIn h' T :=
  ⟨w.1.of f.1 (fun i _ => f.2 124 i (by unfold pC; omega)), fun i i0 i1 => by rw [f.2 125 i (by unfold pC; omega)]; exact w.2 i i0 i1⟩
theorem CIn.of {h h' : Hp} {T : Int → Int} (w : CIn h T) (f : Fr pD h h') : CIn h' T := by
  obtain ⟨w1, w2, w3⟩ := w
  have r : ∀ b i, ¬ pD b i → mR h' b i = mR h b i := f.2
  refine ⟨?_, w2.of f.1 (fun b i _ _ => r b i (by unfold pD; omega)), w3.of f.1 (fun b i _ _ => r b i (by unfold pD; omega))⟩
  unfold LSh at w1 ⊢
  simp only [f.1.k, f.1.l]
  obtain ⟨u1, u2, u3, u4, u5, u6, u7⟩ := w1
  rw [r 1 0 (by unfold pD; omega), r 1 1 (by unfold pD; omega), r 1 2 (by unfold pD; omega), r 1 3 (by unfold pD; omega), r 1 4 (by unfold pD; omega), r 1 5 (by unfold pD; omega), r 1 6 (by unfold pD; omega), r 1 7 (by unfold pD; omega), r 1 8 (by unfold pD; omega), r 1 9 (by unfold pD; omega), r 115 1 (by unfold pD; omega), r 115 2 (by unfold pD; omega), r 118 0 (by unfold pD; omega), r 118 1 (by unfold pD; omega), r 121 0 (by unfold pD; omega), r 121 1 (by unfold pD; omega), r 82 0 (by unfold pD; omega)]
  exact ⟨u1, u2, u3.of f.1 (fun i _ _ => r _ i (by unfold pD; omega)), u4.of f.1 (fun i _ _ => r _ i (by unfold pD; omega)), u5.of f.1 (fun i _ _ => r _ i (by unfold pD; omega)), u6.of f.1 (fun i _ _ => r _ i (by unfold pD; omega)), u7⟩
theorem slc_up {T : Int → Int} {b n i v : Int} (q : i < b ∨ b + n ≤ i) : slc (up1 T i v) b n = slc T b n := by
  funext o
  unfold slc
  by_cases z : 0 ≤ o ∧ o < n
  · rw [if_pos z, if_pos z, up1_n (by omega)]
  · rw [if_neg z, if_neg z]
theorem miO {h : Hp} {T : Int → Int} (w : MIn h T) : okF h 124 12 = true := okF_t w.1.1
theorem mi0 {h : Hp} {T : Int → Int} (w : MIn h T) : mR h 124 0 = 125 := w.1.2.1.1
theorem miA {h : Hp} {T : Int → Int} (w : MIn h T) {i : Int} (i0 : 0 ≤ i) (i1 : i < 7560) : okA h 125 102 i = true := okA_t w.1.2.2.1 i0 i1
theorem miS {h : Hp} {T : Int → Int} (w : MIn h T) {i : Int} (i0 : 0 ≤ i) (i1 : i < 7560) : okS h 125 102 i = true := okS_t w.1.2.2.1 (by decide) i0 i1
theorem MIn.up {h : Hp} {T : Int → Int} (w : MIn h T) (i v : Int) : MIn (mW h 125 i v) (up1 T i v) := by
  refine ⟨w.1.of (SK.W h _ _ _) (fun j _ => mR_ne (by decide)), fun j j0 j1 => ?_⟩
  rw [mR_mW]
  by_cases q : j = i
  · rw [if_pos ⟨rfl, q⟩, q, up1_s]
  · rw [if_neg (fun z => q z.2), up1_n q]; exact w.2 j j0 j1
def aEnd (T : Int → Int) (n : Int) : Int := if n < 0 then -1 else if T 4 < n then -1 else n
def tEnd (T : Int → Int) (n : Int) : Int → Int := if n < 0 then T else if T 4 < n then T else up1 T 4 n
theorem r_end {h : Hp} {T : Int → Int} (w : MIn h T) (n : Int) : ∃ h', C_Mo_end 124 n h = some (aEnd T n, h') ∧ Fr pD h h' ∧ MIn h' (tEnd T n) := by
  rw [E_Mo_end]
  unfold aEnd tEnd
  by_cases q : n < 0
  · rw [if_pos q, if_pos q, if_pos q]; exact ⟨h, rfl, Fr.rf _ h, w⟩
  · rw [if_neg q, if_neg q, if_neg q, if_pos (miO w), mi0 w, if_pos (miA w (by omega) (by omega)), w.2 4 (by omega) (by omega), if_pos (miO w), if_pos (miS w (by omega) (by omega)), hb_eq]
    by_cases q2 : T 4 < n
    · rw [if_pos q2, if_pos q2, if_pos q2]; exact ⟨h, rfl, Fr.rf _ h, w⟩
    · rw [if_neg q2, if_neg q2, if_neg q2]; exact ⟨_, rfl, Fr.W h _ (by unfold pD; omega), w.up 4 n⟩
