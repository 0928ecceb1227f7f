/-! lean, cast. -/
def kLean (T : Int → Int) (k r p : Int) : Prop := (0 ≤ k ∧ k < T 1) ∧ (0 ≤ r ∧ r < 6) ∧ (-50 ≤ p ∧ p ≤ 50)
def tLean (T : Int → Int) (k r p : Int) : Int → Int := up1 T (1510 + 26 * k + (4 + r)) p
theorem HouC_lean {h : Hp} {c r p : Int} {U : Int → Int} (w : HouC h c U) (r0 : 0 ≤ r) (r1 : r < 6) (p0 : -50 ≤ p) (p1 : p ≤ 50) : HouC (mW h (c + 1) r p) c (up1 U (4 + r) p) := by
  have f : SK h (mW h (c + 1) r p) := SK.W h _ _ _
  have m : ∀ b i, ¬ (b = c + 1 ∧ i = r) → mR (mW h (c + 1) r p) b i = mR h b i := fun b i q => by rw [mR_mW, if_neg q]
  have u : ∀ i, i ≠ 4 + r → up1 U (4 + r) p i = U i := fun i q => up1_n q
  obtain ⟨a1, a2, a3, a4⟩ := w
  unfold HouC HouV Uok
  have u3 := a2.1
  rw [u 0 (by omega), u 1 (by omega), u 2 (by omega), u 3 (by omega), m c 0 (by omega), m c 1 (by omega), m c 2 (by omega), m c 3 (by omega)]
  refine ⟨⟨a1.1.of f (fun i _ _ => m c i (by omega)), a1.2.1, a1.2.2.1, a1.2.2.2.1, a1.2.2.2.2.1, a1.2.2.2.2.2.1, fun s s0 s1 => ?_, fun s s0 s1 => ?_⟩, ⟨a2.1, fun s s0 s1 => ?_, fun s s0 s1 => ?_⟩, fun s s0 s1 => ?_, a4⟩
  · by_cases z : s = r
    · rw [z, up1_s, mR_same]
    · rw [m _ s (by omega), u (4 + s) (by omega)]; exact a1.2.2.2.2.2.2.1 s s0 s1
  · rw [m (c + 2) s (by omega), m (c + 3) s (by omega), u (10 + 2 * s) (by omega), u (11 + 2 * s) (by omega)]; exact a1.2.2.2.2.2.2.2 s s0 s1
  · by_cases z : s = r
    · rw [z, up1_s]; omega
    · rw [u (4 + s) (by omega)]; exact a2.2.1 s s0 s1
  · rw [u (10 + 2 * s) (by omega), u (11 + 2 * s) (by omega)]; exact a2.2.2 s s0 s1
  · by_cases z : s = r
    · rw [z, up1_s]; omega
    · rw [u (4 + s) (by omega)]; exact a3 s s0 s1
theorem q_lean {h : Hp} {T : Int → Int} (w : Inv h T) (k r p : Int) : ∃ h', C_LS_lean 1 k r p h = some (bI (kLean T k r p), h') ∧ Fr pW h h' ∧ (kLean T k r p → CIn h' (tLean T k r p)) ∧ (¬ kLean T k r p → h' = h) := by
  have n := ivn w
  rw [E_LS_lean, if_pos (iv1 w), s_isHou w, bind_some']
  by_cases q1 : 0 ≤ k ∧ k < T 1
  · rw [bI_t q1, if_neg n10]
    by_cases q2 : 0 ≤ r ∧ r < 6
    · rw [if_neg (show ¬ r < 0 by omega), if_pos q2.2]
      by_cases q3 : -50 ≤ p ∧ p ≤ 50
      · have ok : kLean T k r p := ⟨q1, q2, q3⟩
        have c := ivH w q1.1 q1.2
        have A1 : okS h (32 + 4 * k + 1) 102 r = true := okS_t c.1.1.2.2.2.1 (by omega) q2.1 q2.2
        have ff : Fr pW h (mW h (32 + 4 * k + 1) r p) := Fr.W h p (by unfold pW; omega)
        refine ⟨_, ?_, ff, fun _ => ?_, fun z => absurd ok z⟩
        · rw [if_neg (show ¬ p < -50 by omega), if_neg (show ¬ 50 < p by omega), if_pos (iv1 w), iv10 w, if_pos (iv2 w), iv29 w, if_pos (ivR5 w q1.1 (by omega)), iv5 w q1.1 (by omega), if_pos (hF c.1.1), h4 c.1.1, if_pos A1, hb_eq, bI_t ok]
        · refine w.c.w ff (TCo_hou (k := k) w.2.2.1 q1.1 (by omega) (by omega) ff.1 (fun b i _ _ _ _ => ?_) (fun i i0 i1 => ?_) ?_ ?_ ?_)
          · rw [mR_ne (by omega)]
          · unfold tLean; rw [up1_n (by omega)]
          · unfold tLean; rw [up1_n (by omega), mR_ne (by omega)]; exact iv25 w
          · unfold tLean; rw [up1_n (by omega), if_neg (by omega)]
          · unfold tLean; rw [houT_up (by omega) (by omega)]; exact HouC_lean c q2.1 q2.2 q3.1 q3.2
      · refine ⟨h, ?_, Fr.rf _ h, fun z => absurd z.2.2 q3, fun _ => rfl⟩
        rw [bI_f (fun z => q3 z.2.2)]
        by_cases p0 : p < -50
        · rw [if_pos p0]
        · rw [if_neg p0, if_pos (show 50 < p by omega)]
    · refine ⟨h, ?_, Fr.rf _ h, fun z => absurd z.2.1 q2, fun _ => rfl⟩
      rw [bI_f (fun z => q2 z.2.1)]
      by_cases p0 : r < 0
      · rw [if_pos p0]
      · rw [if_neg p0, if_neg (show ¬ r < 6 by omega)]
  · rw [bI_f q1, if_pos rfl]; exact ⟨h, by rw [bI_f (fun z => q1 z.1)], Fr.rf _ h, fun z => absurd z.1 q1, fun _ => rfl⟩
theorem r_lean {h : Hp} {T : Int → Int} (w : MIn h T) (o : Tok T) (k r p : Int) : ∃ h', C_Mo_lean 124 k r p h = some (bI (kLean T k r p), h') ∧ Fr pD h h' ∧ (kLean T k r p → MIn h' (tLean T k r p)) ∧ (¬ kLean T k r p → h' = h) := by
  have n := o.1
  rw [E_Mo_lean, if_pos (miO w), n_isOf w o (by omega) (by omega), bind_some']
  by_cases q1 : 0 ≤ k ∧ k < T 1
  · rw [bI_t q1, if_neg n10, m_isIn, bind_some']
    by_cases q2 : 0 ≤ r ∧ r < 6
    · rw [bI_t (show 0 ≤ r ∧ r ≤ 5 by omega), if_neg n10, m_isIn, bind_some']
      by_cases q3 : -50 ≤ p ∧ p ≤ 50
      · have ok : kLean T k r p := ⟨q1, q2, q3⟩
        refine ⟨_, ?_, Fr.W h p (by unfold pD; omega), fun _ => w.up (1510 + 26 * k + (4 + r)) p, fun z => absurd ok z⟩
        rw [bI_t q3, if_neg n10, if_pos (miO w), if_pos (miO w), m_houAt q1.1 (by omega), bind_some', mi0 w, w32_id (x := 1510 + 26 * k + 4) (by omega) (by omega), w32_id (x := 1510 + 26 * k + 4 + r) (by omega) (by omega), show 1510 + 26 * k + 4 + r = 1510 + 26 * k + (4 + r) by omega, if_pos (miS w (by omega) (by omega)), hb_eq, bI_t ok]
      · rw [bI_f q3, if_pos rfl]; exact ⟨h, by rw [bI_f (fun z => q3 z.2.2)], Fr.rf _ h, fun z => absurd z.2.2 q3, fun _ => rfl⟩
    · rw [bI_f (show ¬ (0 ≤ r ∧ r ≤ 5) by omega), if_pos rfl]; exact ⟨h, by rw [bI_f (fun z => q2 z.2.1)], Fr.rf _ h, fun z => absurd z.2.1 q2, fun _ => rfl⟩
  · rw [bI_f q1, if_pos rfl]; exact ⟨h, by rw [bI_f (fun z => q1 z.1)], Fr.rf _ h, fun z => absurd z.1 q1, fun _ => rfl⟩
def kCast (T : Int → Int) (k t : Int) : Prop := (0 ≤ k ∧ k < T 1) ∧ (0 ≤ t ∧ t < 24)
def vCast (T : Int → Int) (k t f : Int) : Int := if f = 0 then i_and (houT T k 2) (i_xor (i_shl 1 t) (-1)) else i_or (houT T k 2) (i_shl 1 t)
def tCast (T : Int → Int) (k t f : Int) : Int → Int := up1 T (1510 + 26 * k + 2) (vCast T k t f)
noncomputable def aCast (T : Int → Int) (k t f : Int) : Int := cI (kCast T k t) (if vCast T k t f = houT T k 2 then 0 else 1) 0
theorem up1_id {F : Int → Int} {t v : Int} (e : F t = v) : up1 F t v = F := by
  funext s
  unfold up1
  by_cases z : s = t
  · rw [if_pos z, z, e]
  · rw [if_neg z]
theorem HouC_cast {h : Hp} {c v : Int} {U : Int → Int} (w : HouC h c U) (v0 : -2147483648 ≤ v ∧ v ≤ 2147483647) : HouC (mW h c 2 v) c (up1 U 2 v) := by
  have f : SK h (mW h c 2 v) := SK.W h _ _ _
  have m : ∀ b i, ¬ (b = c ∧ i = 2) → mR (mW h c 2 v) b i = mR h b i := fun b i q => by rw [mR_mW, if_neg q]
  have u : ∀ i, i ≠ 2 → up1 U 2 v i = U i := fun i q => up1_n q
  obtain ⟨a1, a2, a3, a4⟩ := w
  unfold HouC HouV Uok
  have u3 := a2.1
  rw [u 0 (by omega), u 1 (by omega), up1_s, u 3 (by omega), m c 0 (by omega), m c 1 (by omega), mR_same, m c 3 (by omega)]
  refine ⟨⟨a1.1.of f (fun i _ _ => m c i (by omega)), a1.2.1, a1.2.2.1, a1.2.2.2.1, rfl, a1.2.2.2.2.2.1, fun s s0 s1 => ?_, fun s s0 s1 => ?_⟩, ⟨a2.1, fun s s0 s1 => ?_, fun s s0 s1 => ?_⟩, fun s s0 s1 => ?_, v0⟩
  · rw [m _ s (by omega), u (4 + s) (by omega)]; exact a1.2.2.2.2.2.2.1 s s0 s1
  · rw [m (c + 2) s (by omega), m (c + 3) s (by omega), u (10 + 2 * s) (by omega), u (11 + 2 * s) (by omega)]; exact a1.2.2.2.2.2.2.2 s s0 s1
  · rw [u (4 + s) (by omega)]; exact a2.2.1 s s0 s1
  · rw [u (10 + 2 * s) (by omega), u (11 + 2 * s) (by omega)]; exact a2.2.2 s s0 s1
  · rw [u (4 + s) (by omega)]; exact a3 s s0 s1
theorem q_cast {h : Hp} {T : Int → Int} (w : Inv h T) (k t f : Int) (hf : f = 0 ∨ f = 1) : ∃ h', C_LS_cast 1 k t f h = some (aCast T k t f, h') ∧ Fr pW h h' ∧ (kCast T k t → CIn h' (tCast T k t f)) ∧ (¬ kCast T k t → h' = h) := by
  have n := ivn w
  rw [E_LS_cast, if_pos (iv1 w), s_isHou w, bind_some']
  unfold aCast
  by_cases q1 : 0 ≤ k ∧ k < T 1
  · rw [bI_t q1, if_neg n10]
    by_cases q2 : 0 ≤ t ∧ t < 24
    · have ok : kCast T k t := ⟨q1, q2⟩
      have c := ivH w q1.1 q1.2
      have cr := c.2.2.2
      have et : ((t.toNat : Nat) : Int) = t := by omega
      have bn := bitT_n (houT T k 2) (n := t.toNat) (by omega)
      rw [et] at bn
      rw [if_neg (show ¬ t < 0 by omega), if_pos q2.2, if_pos (iv1 w), iv10 w, if_pos (iv2 w), iv29 w, if_pos (ivR5 w q1.1 (by omega)), iv5 w q1.1 (by omega), if_pos (hF c.1.1), E_Ho_casts, if_pos (hF c.1.1), c.1.2.2.2.2.1, cI_t ok]
      have fw : ∀ v, Fr pW h (mW h (32 + 4 * k) 2 v) := fun v => Fr.W h v (by unfold pW; omega)
      have cc : ∀ v, -2147483648 ≤ v ∧ v ≤ 2147483647 → CIn (mW h (32 + 4 * k) 2 v) (up1 T (1510 + 26 * k + 2) v) := fun v vb => by
        refine w.c.w (fw v) (TCo_hou (k := k) w.2.2.1 q1.1 (by omega) (by omega) (fw v).1 (fun b i _ _ _ _ => ?_) (fun i i0 i1 => ?_) ?_ ?_ ?_)
        · rw [mR_ne (by omega)]
        · rw [up1_n (by omega)]
        · rw [up1_n (by omega), mR_ne (by omega)]; exact iv25 w
        · rw [up1_n (by omega), if_neg (by omega)]
        · rw [houT_up (by omega) (by omega)]; exact HouC_cast c vb
      have e2 : T (1510 + 26 * k + 2) = houT T k 2 := houE (by omega) (by omega)
      have xb : -2147483648 ≤ i_xor (houT T k 2) (i_shl 1 t) ∧ i_xor (houT T k 2) (i_shl 1 t) ≤ 2147483647 := in_xor _ _
      by_cases b1 : i_and (i_shr (houT T k 2) t) 1 = 1
      · have bt1 : Bt (houT T k 2) t.toNat = true := by rw [← bn]; exact decide_eq_true b1
        have bs := bit_set (x := houT T k 2) cr (n := t.toNat) (by omega) bt1
        rw [et] at bs
        rw [if_pos b1, bind_some']
        rcases hf with z | z
        · have ev : vCast T k t f = i_xor (houT T k 2) (i_shl 1 t) := by unfold vCast; rw [if_pos z]; exact bs.2.1
          refine ⟨_, ?_, fw (i_xor (houT T k 2) (i_shl 1 t)), fun _ => ?_, fun y => absurd ok y⟩
          · rw [ev, if_neg bs.2.2, z, if_neg n10, if_pos (hF c.1.1), if_pos (hF c.1.1), c.1.2.2.2.2.1, hb_eq]
          · unfold tCast; rw [ev]; exact cc _ xb
        · have ev : vCast T k t f = houT T k 2 := by unfold vCast; rw [if_neg (by omega)]; exact bs.1
          refine ⟨h, ?_, Fr.rf _ h, fun _ => ?_, fun y => absurd ok y⟩
          · rw [ev, if_pos rfl, z, if_pos rfl]
          · unfold tCast; rw [ev, up1_id e2]; exact w.c
      · have bt1 : Bt (houT T k 2) t.toNat = false := by rw [← bn]; exact decide_eq_false b1
        have bs := bit_clr (x := houT T k 2) cr (n := t.toNat) (by omega) bt1
        rw [et] at bs
        rw [if_neg b1, bind_some']
        rcases hf with z | z
        · have ev : vCast T k t f = houT T k 2 := by unfold vCast; rw [if_pos z]; exact bs.1
          refine ⟨h, ?_, Fr.rf _ h, fun _ => ?_, fun y => absurd ok y⟩
          · rw [ev, if_pos rfl, z, if_pos rfl]
          · unfold tCast; rw [ev, up1_id e2]; exact w.c
        · have ev : vCast T k t f = i_xor (houT T k 2) (i_shl 1 t) := by unfold vCast; rw [if_neg (by omega)]; exact bs.2.1
          refine ⟨_, ?_, fw (i_xor (houT T k 2) (i_shl 1 t)), fun _ => ?_, fun y => absurd ok y⟩
          · rw [ev, if_neg bs.2.2, z, if_neg (show ¬ (0 : Int) = 1 by decide), if_pos (hF c.1.1), if_pos (hF c.1.1), c.1.2.2.2.2.1, hb_eq]
          · unfold tCast; rw [ev]; exact cc _ xb
    · refine ⟨h, ?_, Fr.rf _ h, fun z => absurd z.2 q2, fun _ => rfl⟩
      rw [cI_f (fun z => q2 z.2)]
      by_cases p0 : t < 0
      · rw [if_pos p0]
      · rw [if_neg p0, if_neg (show ¬ t < 24 by omega)]
  · rw [bI_f q1, if_pos rfl]; exact ⟨h, by rw [cI_f (fun z => q1 z.1)], Fr.rf _ h, fun z => absurd z.1 q1, fun _ => rfl⟩
theorem r_cast {h : Hp} {T : Int → Int} (w : MIn h T) (o : Tok T) (k t f : Int) : ∃ h', C_Mo_cast 124 k t f h = some (aCast T k t f, h') ∧ Fr pD h h' ∧ (kCast T k t → MIn h' (tCast T k t f)) ∧ (¬ kCast T k t → h' = h) := by
  have n := o.1
  rw [E_Mo_cast, if_pos (miO w), n_isOf w o (by omega) (by omega), bind_some']
  unfold aCast
  by_cases q1 : 0 ≤ k ∧ k < T 1
  · rw [bI_t q1, if_neg n10, m_isIn, bind_some']
    by_cases q2 : 0 ≤ t ∧ t < 24
    · have ok : kCast T k t := ⟨q1, q2⟩
      have e2 : T (1510 + 26 * k + 2) = houT T k 2 := houE (by omega) (by omega)
      rw [bI_t (show 0 ≤ t ∧ t ≤ 23 by omega), if_neg n10, if_pos (miO w), if_pos (miO w), m_houAt q1.1 (by omega), bind_some', mi0 w]
      dsimp only
      rw [w32_id (x := 1510 + 26 * k + 2) (by omega) (by omega), if_pos (miA w (by omega) (by omega)), if_pos (miO w), if_pos (miO w), m_houAt q1.1 (by omega), bind_some', cI_t ok]
      dsimp only
      have w1 := w.up (1510 + 26 * k + 2) (vCast T k t f)
      refine ⟨_, ?_, Fr.W h (vCast T k t f) (show pD 125 (1510 + 26 * k + 2) by unfold pD; omega), fun _ => w1, fun z => absurd ok z⟩
      have w2 := w.up (1510 + 26 * k + 2) (i_and (houT T k 2) (i_xor (i_shl 1 t) (-1)))
      have w3 := w.up (1510 + 26 * k + 2) (i_or (houT T k 2) (i_shl 1 t))
      simp (disch := omega) only [w32_id (x := 1510 + 26 * k + 2), mi0 w, miS w, w.2, e2, ↓reduceIte, hb_eq, miO w2, miO w3, m_houAt q1.1 (show k < 6 by omega), bind_some', mi0 w2, mi0 w3, miA w2, miA w3, mR_same]
      unfold vCast
      by_cases f0 : f = 0
      · rw [if_pos f0, if_pos f0]
        by_cases z : i_and (houT T k 2) (i_xor (i_shl 1 t) (-1)) = houT T k 2
        · rw [if_pos z, if_pos z]
        · rw [if_neg z, if_neg z]
      · rw [if_neg f0, if_neg f0]
        by_cases z : i_or (houT T k 2) (i_shl 1 t) = houT T k 2
        · rw [if_pos z, if_pos z]
        · rw [if_neg z, if_neg z]
    · rw [bI_f (show ¬ (0 ≤ t ∧ t ≤ 23) by omega), if_pos rfl]; exact ⟨h, by rw [cI_f (fun z => q2 z.2)], Fr.rf _ h, fun z => absurd z.2 q2, fun _ => rfl⟩
  · rw [bI_f q1, if_pos rfl]; exact ⟨h, by rw [cI_f (fun z => q1 z.1)], Fr.rf _ h, fun z => absurd z.1 q1, fun _ => rfl⟩
