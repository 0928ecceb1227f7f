/-! The reference: the odd one, rules, all fars. -/
theorem sl_none {V F : Int → Int} (o : Vok V) (f : Fok V F) (q : sg F (gDD F) (-1) 24 = 0) {t : Int} (t0 : 0 ≤ t) (t1 : t < 24) : slB V F t = -2000000000 := by
  unfold slB
  by_cases z : F t < 0
  · rw [if_pos z]
  · rw [if_neg z]
    have b := sg_but (F := F) (g := gDD F) t0 t1 (by omega)
    have n := (sgb o f t).2.2.2.2.2.1
    have g := (gb o f t0 t1 (by omega)).2.2.2.2.2.1
    exact (slX_n o f t).2 (by omega)
theorem slB_k {V F : Int → Int} (o : Vok V) (f : Fok V F) {t : Int} (p : ¬ F t < 0) : slB V F t = -2000000000 ↔ sg F (gDD F) t 24 = 0 := by
  unfold slB
  rw [if_neg p]
  exact slX_n o f t
theorem l_modd {a b y H : Int} {V U F : Int → Int} : ∀ (n : Nat) (t : Int) (h : Hp) (p : Int × Int), MK h a b y V U → FM h V F → -1 ≤ p.1 → 0 ≤ t → t + n = 24 → ∃ h', P_Mo_oddOf_25 124 a 0 H p.1 (-p.2) t h = some ((itN (odF V F) n t p).1, h') ∧ Fr pN h h' := by
  intro n
  induction n with
  | zero =>
    intro t h p w u p0 t0 ht
    refine ⟨h, ?_, Fr.rf _ h⟩
    rw [E_Mo_oddOf_25, if_neg (by omega)]
    rfl
  | succ n ih =>
    intro t h p w u p0 t0 ht
    have o := w.2.2.2.2.2.1
    have t1 : t < 24 := by omega
    have e : ∀ b, odF V F t p = b → itN (odF V F) (n + 1) t p = itN (odF V F) n (t + 1) b := fun b q => by rw [← q]; rfl
    rw [E_Mo_oddOf_25, if_pos t1, if_pos (mkO w), mk12 w, if_pos (mkA9 w t0 t1), u.2 t t0 t1, if_pos (mkO w), w32_id (x := t + 1) (by omega) (by omega)]
    by_cases q1 : F t < 0
    · rw [if_pos q1, e p (if_pos (if_pos q1))]
      exact ih (t + 1) h p w u p0 (by omega) (by omega)
    · rw [if_neg q1]
      obtain ⟨h1, g1, g2, g3⟩ := m_sums w u t
      have w1 := w.of (g2.to pN_M)
      have u1 := u.of g2
      rw [g1, bind_some']
      by_cases q2 : sg F (gDD F) t 24 = 0
      · simp only [q2, if_true]
        rw [e p (if_pos ((slB_k o u.1 q1).2 q2))]
        obtain ⟨h2, k1, k2⟩ := ih (t + 1) h1 p w1 u1 p0 (by omega) (by omega)
        exact ⟨h2, k1, g2.tr k2⟩
      · have sb : slB V F t = slX V F t := if_neg q1
        have q3 : ¬ slB V F t = -2000000000 := fun z => q2 ((slB_k o u.1 q1).1 z)
        have b := spX_b V F t (slX V F t)
        have wn : w64 (-spX V F t (slX V F t)) = -spX V F t (slX V F t) := w64_id (by omega) (by omega)
        simp only [q2, if_false, (by decide : ¬ ((1 : Int) = 0)), mkO w1, if_true, m_slope (mkO w1) g3 q2, bind_some', m_spread w1 u1, wn]
        by_cases q4 : p.1 = -1
        · rw [e (t, spX V F t (slB V F t)) (by unfold odF; rw [if_neg q3, if_pos (Or.inl q4)]), sb, if_pos (by omega)]
          obtain ⟨h2, k1, k2⟩ := ih (t + 1) h1 (t, spX V F t (slX V F t)) w1 u1 (by show -1 ≤ t; omega) (by omega) (by omega)
          exact ⟨h2, k1, g2.tr k2⟩
        · rw [if_neg (by omega)]
          by_cases q5 : spX V F t (slX V F t) < p.2
          · rw [e (t, spX V F t (slB V F t)) (by unfold odF; rw [if_neg q3, if_pos (Or.inr (by rw [sb]; exact q5))]), sb, if_pos (by omega)]
            obtain ⟨h2, k1, k2⟩ := ih (t + 1) h1 (t, spX V F t (slX V F t)) w1 u1 (by show -1 ≤ t; omega) (by omega) (by omega)
            exact ⟨h2, k1, g2.tr k2⟩
          · rw [e p (by unfold odF; rw [if_neg q3, if_neg (fun z => z.elim q4 (by rw [sb]; exact q5))]), if_neg (by omega)]
            obtain ⟨h2, k1, k2⟩ := ih (t + 1) h1 p w1 u1 p0 (by omega) (by omega)
            exact ⟨h2, k1, g2.tr k2⟩
theorem m_odd {h : Hp} {a b y : Int} {V U : Int → Int} (w : MK h a b y V U) {F : Int → Int} (u : FM h V F) : ∃ h', C_Mo_oddOf 124 a 0 h = some (od V F, h') ∧ Fr pN h h' := by
  have o := w.2.2.2.2.2.1
  obtain ⟨h1, g1, g2, g3⟩ := m_sums w u (-1)
  have w1 := w.of (g2.to pN_M)
  have u1 := u.of g2
  rw [E_Mo_oddOf, if_pos (mkO w), g1, bind_some']
  by_cases q : sg F (gDD F) (-1) 24 = 0
  · simp only [q, if_true]
    refine ⟨h1, ?_, g2⟩
    unfold od
    rw [itN_idle (F := odF V F) _ _ _ (fun j j0 j1 => if_pos (sl_none o u.1 q j0 (by omega)))]
  · simp only [q, if_false, (by decide : ¬ ((1 : Int) = 0)), mkO w1, if_true, m_slope (mkO w1) g3 q, bind_some']
    obtain ⟨h2, k1, k2⟩ := l_modd (H := slX V F (-1)) 24 0 h1 (-1, 0) w1 u1 (by decide) (by omega) (by omega)
    exact ⟨h2, k1, g2.tr k2⟩
theorem l_mheavy {a b y H k : Int} {V U F : Int → Int} (kn : k ≠ 0) : ∀ (n : Nat) (t : Int) (h : Hp) (p : Int × Int), MK h a b y V U → FM h V F → 0 ≤ t → t + n = 24 → ∃ h', P_Mo_oddOf_25 124 a k H p.1 p.2 t h = some ((itN (hvF V F H) n t p).1, h') ∧ Fr pN h h' := by
  intro n
  induction n with
  | zero =>
    intro t h p w u t0 ht
    refine ⟨h, ?_, Fr.rf _ h⟩
    rw [E_Mo_oddOf_25, if_neg (by omega)]
    rfl
  | succ n ih =>
    intro t h p w u t0 ht
    have o := w.2.2.2.2.2.1
    have t1 : t < 24 := by omega
    have e : ∀ b, hvF V F H t p = b → itN (hvF V F H) (n + 1) t p = itN (hvF V F H) n (t + 1) b := fun b q => by rw [← q]; rfl
    rw [E_Mo_oddOf_25, if_pos t1, if_pos (mkO w), mk12 w, if_pos (mkA9 w t0 t1), u.2 t t0 t1, if_pos (mkO w), w32_id (x := t + 1) (by omega) (by omega)]
    by_cases q1 : F t < 0
    · rw [if_pos q1, e p (if_pos (if_pos q1))]
      exact ih (t + 1) h p w u (by omega) (by omega)
    · rw [if_neg q1]
      obtain ⟨h1, g1, g2, g3⟩ := m_sums w u t
      have w1 := w.of (g2.to pN_M)
      have u1 := u.of g2
      rw [g1, bind_some']
      by_cases q2 : sg F (gDD F) t 24 = 0
      · simp only [q2, if_true]
        rw [e p (if_pos ((slB_k o u.1 q1).2 q2))]
        obtain ⟨h2, k1, k2⟩ := ih (t + 1) h1 p w1 u1 (by omega) (by omega)
        exact ⟨h2, k1, g2.tr k2⟩
      · have sb : slB V F t = slX V F t := if_neg q1
        have q3 : ¬ slB V F t = -2000000000 := fun z => q2 ((slB_k o u.1 q1).1 z)
        simp only [q2, if_false, (by decide : ¬ ((1 : Int) = 0)), mkO w1, if_true, m_slope (mkO w1) g3 q2, bind_some', m_apart, kn]
        have ae : (if w64 (slX V F t - H) < 0 then w64 (-w64 (slX V F t - H)) else w64 (slX V F t - H)) = apt (w64 (slX V F t - H)) := rfl
        rw [ae]
        by_cases q4 : p.1 < 0
        · rw [e (t, apt (w64 (slB V F t - H))) (by unfold hvF; rw [if_neg q3, if_pos (Or.inl q4)]), sb, if_pos q4]
          obtain ⟨h2, k1, k2⟩ := ih (t + 1) h1 (t, _) w1 u1 (by omega) (by omega)
          exact ⟨h2, k1, g2.tr k2⟩
        · rw [if_neg q4]
          by_cases q5 : p.2 < apt (w64 (slX V F t - H))
          · rw [e (t, apt (w64 (slB V F t - H))) (by unfold hvF; rw [if_neg q3, if_pos (Or.inr (by rw [sb]; exact q5))]), sb, if_pos q5]
            obtain ⟨h2, k1, k2⟩ := ih (t + 1) h1 (t, _) w1 u1 (by omega) (by omega)
            exact ⟨h2, k1, g2.tr k2⟩
          · rw [e p (by unfold hvF; rw [if_neg q3, if_neg (fun z => z.elim q4 (by rw [sb]; exact q5))]), if_neg q5]
            obtain ⟨h2, k1, k2⟩ := ih (t + 1) h1 p w1 u1 (by omega) (by omega)
            exact ⟨h2, k1, g2.tr k2⟩
theorem m_heavy {h : Hp} {a b y : Int} {V U : Int → Int} (w : MK h a b y V U) {F : Int → Int} (u : FM h V F) {k : Int} (kn : k ≠ 0) : ∃ h', C_Mo_oddOf 124 a k h = some (hv V F, h') ∧ Fr pN h h' := by
  have o := w.2.2.2.2.2.1
  obtain ⟨h1, g1, g2, g3⟩ := m_sums w u (-1)
  have w1 := w.of (g2.to pN_M)
  have u1 := u.of g2
  rw [E_Mo_oddOf, if_pos (mkO w), g1, bind_some']
  by_cases q : sg F (gDD F) (-1) 24 = 0
  · simp only [q, if_true]
    refine ⟨h1, ?_, g2⟩
    unfold hv
    rw [itN_idle (F := hvF V F (slX V F (-1))) _ _ _ (fun j j0 j1 => if_pos (sl_none o u.1 q j0 (by omega)))]
  · simp only [q, if_false, (by decide : ¬ ((1 : Int) = 0)), mkO w1, if_true, m_slope (mkO w1) g3 q, bind_some']
    obtain ⟨h2, k1, k2⟩ := l_mheavy (H := slX V F (-1)) kn 24 0 h1 (-1, 0) w1 u1 (by omega) (by omega)
    exact ⟨h2, k1, g2.tr k2⟩
def pR (b i : Int) : Prop := (b = 124 ∧ 13 ≤ i ∧ i ≤ 18) ∨ b = 129
theorem pR_M (b i : Int) (q : pR b i) : pM b i := by unfold pR at q; unfold pM; omega
theorem pN_R (b i : Int) (q : pN b i) : pR b i := Or.inl q
theorem FM.up {h : Hp} {a b y : Int} {V U : Int → Int} (w : MK h a b y V U) {F : Int → Int} (u : FM h V F) {t d : Int} (t1 : t < V 1) (d0 : -1 ≤ d) (d1 : d ≤ 9999999) : FM (mW h 129 t d) V (up1 F t d) := by
  refine ⟨Fok_up u.1 t1 d0 d1, fun s s0 s1 => ?_⟩
  rw [mR_mW]
  by_cases q : s = t
  · rw [if_pos ⟨rfl, q⟩, q, up1_s]
  · rw [if_neg (fun z => q z.2), up1_n q]; exact u.2 s s0 s1
theorem l_m145 {a b y z : Int} {V U : Int → Int} (z1 : z ≤ 9999999) : ∀ (n : Nat) (i : Int) (h : Hp) (F : Int → Int), MK h a b y V U → FM h V F → 0 ≤ i → i + n = z → ∃ h', P_Mo_rules_145 124 a z 1 i h = some (0, h') ∧ Fr pR h h' ∧ FM h' V (itN (doF V) n i F) := by
  intro n
  induction n with
  | zero =>
    intro i h F w u i0 hi
    refine ⟨h, ?_, Fr.rf _ h, u⟩
    rw [E_Mo_rules_145, if_neg (by omega)]
  | succ n ih =>
    intro i h F w u i0 hi
    obtain ⟨h1, g1, g2⟩ := m_odd w u
    have w1 := w.of (g2.to pN_M)
    have u1 := u.of g2
    rw [E_Mo_rules_145, if_pos (by omega), if_neg (by decide), if_pos (mkO w), g1, bind_some', w32_id (x := i + 1) (by omega) (by omega)]
    by_cases q1 : od V F = -1
    · have e : ∀ j, doF V j F = F := fun j => if_pos q1
      refine ⟨h1, ?_, g2.to pN_R, ?_⟩
      · rw [if_pos (by show od V F < 0; omega), if_pos rfl, E_Mo_rules_145]
        split <;> rfl
      · show FM h1 V (itN (doF V) n (i + 1) (doF V i F))
        rw [e i, itN_idle _ _ _ (fun j _ _ => e j)]
        exact u1
    · have r : 0 ≤ od V F ∧ od V F < 24 ∧ 0 ≤ F (od V F) := (od_r u.1).resolve_left q1
      have r1 : od V F < V 1 := by
        by_cases z : od V F < V 1
        · exact z
        · have := (u.1 (od V F) r.1 r.2.1).2.2 (by omega)
          omega
      have f1 : Fr pR h1 (mW h1 129 (od V F) (-1)) := Fr.W h1 _ (Or.inr rfl)
      obtain ⟨h2, k1, k2, k3⟩ := ih (i + 1) (mW h1 129 (od V F) (-1)) _ (w1.of (f1.to pR_M)) (FM.up w1 u1 r1 (by omega) (by omega)) (by omega) (by omega)
      refine ⟨h2, ?_, ((g2.to pN_R).tr f1).tr k2, ?_⟩
      · rw [if_neg (by show ¬ od V F < 0; omega), if_neg (by decide), if_pos (mkO w1), mk12 w1, if_pos (mkS9 w1 r.1 r.2.1), hb_eq]
        exact k1
      · show FM h2 V (itN (doF V) n (i + 1) (doF V i F))
        rw [show doF V i F = up1 F (od V F) (-1) from if_neg q1]
        exact k3
theorem m_size (v : Int) (h : Hp) : C_Mo_size v h = some (pac v, h) := by
  rw [E_Mo_size]; unfold pac; split <;> rfl
