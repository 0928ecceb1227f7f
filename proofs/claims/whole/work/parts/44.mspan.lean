/-! The reference: lowest and highest; the slope of a catalogue and a house. -/
def pO (b i : Int) : Prop := b = 124 ∧ 13 ≤ i ∧ i ≤ 21
theorem pN_O (b i : Int) (q : pN b i) : pO b i := by unfold pN at q; unfold pO; omega
theorem pO_M (b i : Int) (q : pO b i) : pM b i := Or.inl q
theorem l_mspans {a b y : Int} {V U F : Int → Int} : ∀ (n : Nat) (t : Int) (h : Hp) (l g fl : Int), MK h a b y V U → FM h V F → 0 ≤ t → t + n = 24 → ((l = -2000000000 ∧ g = -2000000000 ∧ fl = 0) ∨ (l ≠ -2000000000 ∧ g ≠ -2000000000 ∧ fl = 1 ∧ mR h 124 19 = l ∧ mR h 124 20 = g)) → ∃ h', P_Mo_spans_4 124 a fl t h = some (if itN (loF V F) n t l = -2000000000 then 0 else 1, h') ∧ Fr pO h h' ∧ (itN (loF V F) n t l ≠ -2000000000 → mR h' 124 19 = itN (loF V F) n t l ∧ mR h' 124 20 = itN (hiF V F) n t g) := by
  intro n
  induction n with
  | zero =>
    intro t h l g fl w u t0 ht s
    refine ⟨h, ?_, Fr.rf _ h, fun q => ?_⟩
    · rw [E_Mo_spans_4, if_neg (by omega)]
      show _ = some (if l = -2000000000 then 0 else 1, h)
      rcases s with s | s
      · rw [s.2.2, if_pos s.1]; rfl
      · rw [s.2.2.1, if_neg s.1]; rfl
    · rcases s with s | s
      · exact absurd s.1 q
      · exact ⟨s.2.2.2.1, s.2.2.2.2⟩
  | succ n ih =>
    intro t h l g fl w u t0 ht s
    have o := w.2.2.2.2.2.1
    have t1 : t < 24 := by omega
    have e : ∀ x, loF V F t l = x → itN (loF V F) (n + 1) t l = itN (loF V F) n (t + 1) x := fun x q => by rw [← q]; rfl
    have eg : ∀ x, hiF V F t g = x → itN (hiF V F) (n + 1) t g = itN (hiF V F) n (t + 1) x := fun x q => by rw [← q]; rfl
    rw [E_Mo_spans_4, if_pos t1, if_pos (mkO w), mk12 w, if_pos (mkA9 w t0 t1), u.2 t t0 t1, w32_id (x := t + 1) (by omega) (by omega)]
    by_cases q1 : F t < 0
    · have z : slB V F t = -2000000000 := if_pos q1
      rw [if_pos q1, e l (if_pos z), eg g (if_pos z)]
      exact ih (t + 1) h l g fl w u (by omega) (by omega) s
    · rw [if_neg q1, if_pos (mkO w)]
      obtain ⟨h1, g1, g2, g3⟩ := m_sums w u t
      have f19 : mR h1 124 19 = mR h 124 19 := g2.2 124 19 (by unfold pN; omega)
      have f20 : mR h1 124 20 = mR h 124 20 := g2.2 124 20 (by unfold pN; omega)
      have w1 := w.of (g2.to pN_M)
      have u1 := u.of g2
      have g2' : Fr pO h h1 := g2.to pN_O
      rw [g1, bind_some']
      by_cases q2 : sg F (gDD F) t 24 = 0
      · have z := (slB_k o u.1 q1).2 q2
        rw [e l (if_pos z), eg g (if_pos z)]
        simp only [q2, if_true]
        obtain ⟨h2, k1, k2, k3⟩ := ih (t + 1) h1 l g fl w1 u1 (by omega) (by omega) (by rw [f19, f20]; exact s)
        exact ⟨h2, k1, g2'.tr k2, k3⟩
      · have z : slB V F t ≠ -2000000000 := fun k => q2 ((slB_k o u.1 q1).1 k)
        have sb := slB_b o u.1 t z
        have sx : slX V F t = slB V F t := sb.2.1.symm
        have st : ∀ x1 x2, x1 ≠ -2000000000 → x2 ≠ -2000000000 → loF V F t l = x1 → hiF V F t g = x2 → ∃ h', P_Mo_spans_4 124 a 1 (t + 1) (mW (mW h1 124 19 x1) 124 20 x2) = some (if itN (loF V F) (n + 1) t l = -2000000000 then 0 else 1, h') ∧ Fr pO h h' ∧ (itN (loF V F) (n + 1) t l ≠ -2000000000 → mR h' 124 19 = itN (loF V F) (n + 1) t l ∧ mR h' 124 20 = itN (hiF V F) (n + 1) t g) := fun x1 x2 n1 n2 e1 e2 => by
          have f1 : Fr pO h1 (mW (mW h1 124 19 x1) 124 20 x2) := (Fr.W h1 x1 ⟨rfl, by decide⟩).tr (Fr.W _ x2 ⟨rfl, by decide⟩)
          obtain ⟨h2, k1, k2, k3⟩ := ih (t + 1) (mW (mW h1 124 19 x1) 124 20 x2) x1 x2 1 (w1.of (f1.to pO_M)) ⟨u1.1, fun s s0 s1 => by rw [mR_ne (by decide), mR_ne (by decide)]; exact u1.2 s s0 s1⟩ (by omega) (by omega) (Or.inr ⟨n1, n2, rfl, by rw [mR_ni (by decide), mR_same], by rw [mR_same]⟩)
          rw [e x1 e1, eg x2 e2]
          exact ⟨h2, k1, (g2'.tr f1).tr k2, k3⟩
        have n19 : ∀ v, mR (mW h1 124 19 v) 124 20 = mR h1 124 20 := fun v => mR_ni (by decide)
        simp only [q2, if_false, (by decide : ¬ ((1 : Int) = 0)), mkO w1, if_true, m_slope (mkO w1) g3 q2, bind_some', sx]
        rcases s with s | s
        · simp only [s.2.2, if_true, hb_eq, okF_W, mkO w1]
          exact st (slB V F t) (slB V F t) z z (by unfold loF; rw [if_neg z, if_pos (Or.inl s.1)]) (by unfold hiF; rw [if_neg z, if_pos (Or.inl s.2.1)])
        · simp only [s.2.2.1, (by decide : ¬ ((1 : Int) = 0)), if_false, hb_eq, okF_W, mkO w1, if_true, f19, f20, s.2.2.2.1, s.2.2.2.2, n19]
          by_cases x1 : slB V F t < l
          · have y1 : loF V F t l = slB V F t := by unfold loF; rw [if_neg z, if_pos (Or.inr x1)]
            rw [if_pos x1]
            by_cases x2 : g < slB V F t
            · rw [if_pos x2]
              exact st _ _ z z y1 (by unfold hiF; rw [if_neg z, if_pos (Or.inr x2)])
            · rw [if_neg x2]
              exact st _ _ z s.2.1 y1 (by unfold hiF; rw [if_neg z, if_neg (fun k => k.elim s.2.1 x2)])
          · have y1 : loF V F t l = l := by unfold loF; rw [if_neg z, if_neg (fun k => k.elim s.1 x1)]
            rw [if_neg x1]
            by_cases x2 : g < slB V F t
            · rw [if_pos x2]
              exact st _ _ s.1 z y1 (by unfold hiF; rw [if_neg z, if_pos (Or.inr x2)])
            · rw [if_neg x2]
              exact st _ _ s.1 s.2.1 y1 (by unfold hiF; rw [if_neg z, if_neg (fun k => k.elim s.2.1 x2)])
theorem m_spans {h : Hp} {a b y : Int} {V U : Int → Int} (w : MK h a b y V U) {F : Int → Int} (u : FM h V F) : ∃ h', C_Mo_spans 124 a h = some (if low V F = -2000000000 then 0 else 1, h') ∧ Fr pO h h' ∧ (low V F ≠ -2000000000 → mR h' 124 19 = low V F ∧ mR h' 124 20 = high V F) := by
  rw [E_Mo_spans]
  exact l_mspans 24 0 h _ _ 0 w u (by omega) (by omega) (Or.inl ⟨rfl, rfl, rfl⟩)
theorem m_slopeOf {h : Hp} {a b y : Int} {V U : Int → Int} (w : MK h a b y V U) : ∃ h', C_Mo_slopeOf 124 a b y h = some (slX V (frs V U y) (-1), h') ∧ Fr pM h h' ∧ MKd h' a b y V U := by
  obtain ⟨h1, g1, g2, w1, u1, s1⟩ := m_fars w
  obtain ⟨h2, k1, k2, k3⟩ := m_sums w1 u1 (-1)
  have w2 := w1.of (k2.to pN_M)
  have d2 : MKd h2 a b y V U := ⟨w2, u1.of k2, fun i i0 i1 => by rw [k2.2 128 i (by unfold pN; omega)]; exact s1 i i0 i1⟩
  refine ⟨h2, ?_, g2.tr (k2.to pN_M), d2⟩
  rw [E_Mo_slopeOf, if_pos (mkO w), g1, bind_some', if_pos (mkO w1), k1, bind_some']
  by_cases q : sg (frs V U y) (gDD (frs V U y)) (-1) 24 = 0
  · simp only [q, if_true]
    rw [(slX_n w.2.2.2.2.2.1 u1.1 (-1)).2 q]
  · simp only [q, if_false, (by decide : ¬ ((1 : Int) = 0)), mkO w2, if_true, m_slope (mkO w2) k3 q, bind_some']
