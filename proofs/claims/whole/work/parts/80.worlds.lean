/-! make, worlds. -/
theorem l_mk3 {A B seed : Int} {S : Int → Int} : ∀ (n : Nat) (i x : Int) (h : Hp) (V : Int → Int), MkS h A B S V x → (∀ o, 0 ≤ o → o < i → V o = 0) → 0 ≤ i → i + n = 330 → ∃ h', P_Mo_makes_3 124 B A seed i h = P_Mo_makes_3 124 B A seed 330 h' ∧ Fr (pMk A) h h' ∧ MkS h' A B S zZ x := by
  intro n
  induction n with
  | zero =>
    intro i x h V w e i0 hi
    rw [show i = 330 by omega]
    exact ⟨h, rfl, Fr.rf _ h, w.1, w.2.1, w.2.2.1, w.2.2.2.1, w.2.2.2.2.1, fun o o0 o1 => by rw [w.2.2.2.2.2.1 o o0 o1, e o o0 (by omega)]; rfl, w.2.2.2.2.2.2⟩
  | succ n ih =>
    intro i x h V w e i0 hi
    have aa := w.2.1
    obtain ⟨w1, f1⟩ := w.up (o := i) 0 i0 (by omega)
    obtain ⟨h2, g2, f2, w2⟩ := ih (i + 1) x _ _ w1 (fun o o0 o1 => by
      by_cases z : o = i
      · rw [z, up1_s]
      · rw [up1_n z]; exact e o o0 (by omega)) (by omega) (by omega)
    refine ⟨h2, ?_, f1.tr f2, w2⟩
    rw [E_Mo_makes_3, if_pos (show i < 330 by omega), if_pos w.F, w.a0, w32_id (x := A + i) (by omega) (by omega), if_pos (w.S (by omega) (by omega)), hb_eq, w32_id (x := i + 1) (by omega) (by omega)]
    exact g2
theorem l_mk58 {h : Hp} {A B x : Int} {S V : Int → Int} (w : MkS h A B S V x) (o : Sok S) : ∀ (n : Nat) (i a : Int), 0 ≤ i → i + n = S 0 → 0 ≤ a → a ≤ 9 * i → P_Mo_makes_58 124 B A a i h = P_Mo_makes_97 124 B A (a + Sm (gM S) n i) 0 h := by
  have s0 := o.1
  have bb := w.2.2.1
  have e0 := w.2.2.2.2.1 0 (by omega) (by omega)
  intro n
  induction n with
  | zero =>
    intro i a i0 hi a0 a1
    rw [E_Mo_makes_58, if_pos w.F, w.a0, w32_id (x := B + 0) (by omega) (by omega), if_pos (w.A (by omega) (by omega)), e0, if_neg (by omega)]
    show _ = P_Mo_makes_97 124 B A (a + 0) 0 h
    rw [Int.add_zero]
  | succ n ih =>
    intro i a i0 hi a0 a1
    have m := gM_b o i0 (show i < S 0 by omega)
    have eg : mR h 125 (B + (12 + i)) = gM S i := w.2.2.2.2.1 (12 + i) (by omega) (by omega)
    rw [E_Mo_makes_58, if_pos w.F, w.a0, w32_id (x := B + 0) (by omega) (by omega), if_pos (w.A (by omega) (by omega)), e0, if_pos (show i < S 0 by omega), if_pos w.F, w32_id (x := B + 12) (by omega) (by omega), w32_id (x := B + 12 + i) (by omega) (by omega), if_pos (w.A (by omega) (by omega)), show B + 12 + i = B + (12 + i) by omega, eg, w32_id (x := a + gM S i) (by omega) (by omega), w32_id (x := i + 1) (by omega) (by omega)]
    show _ = P_Mo_makes_97 124 B A (a + (gM S i + Sm (gM S) n (i + 1))) 0 h
    rw [← Int.add_assoc]
    exact ih (i + 1) (a + gM S i) (by omega) (by omega) (by omega) (by omega)
theorem m_makes {h : Hp} {A B : Int} {S : Int → Int} (ms : ModS h) (aa : 0 ≤ A ∧ A + 330 ≤ 7560) (bb : 0 ≤ B ∧ B + 18 ≤ 7560) (dis : A + 330 ≤ B ∨ B + 18 ≤ A) (es : ∀ o, 0 ≤ o → o < 18 → mR h 125 (B + o) = S o) (o : Sok S) (seed : Int) : ∃ h', C_Mo_makes 124 B A seed h = some (0, h') ∧ Fr (pMk A) h h' ∧ ∃ x, MkS h' A B S (zMade S seed) x := by
  have s0 := o.1
  have s5 := o.2.2.2.2.2.1
  have w : MkS h A B S (fun o => mR h 125 (A + o)) (mR h 124 26) := ⟨ms, aa, bb, dis, es, fun _ _ _ => rfl, rfl⟩
  obtain ⟨h1, g1, f1, w1⟩ := l_mk3 (seed := seed) 330 0 _ h _ w (fun o o0 o1 => by omega) (by omega) (by omega)
  obtain ⟨w2, f2⟩ := w1.up (o := 0) 2 (by omega) (by omega)
  obtain ⟨w3, f3⟩ := w2.up (o := 3) 1100 (by omega) (by omega)
  obtain ⟨w4, f4⟩ := w3.x seed
  have l5 := l_mk58 w4 o (S 0).toNat 0 0 (by omega) (by omega) (by omega) (by omega)
  rw [Int.zero_add] at l5
  obtain ⟨h6, g6, f6, x6⟩ := l_m97 o (S 5).toNat 0 _ (seed, zV0) w4 ⟨rfl, by show zV0 1 ≤ 0; decide, fun j j0 j1 => by show up1 (up1 zZ 0 2) 3 1100 j = 0; rw [up1_n (by omega), up1_n (by omega)]; rfl⟩ (by show 0 ≤ zV0 1; decide) (by omega) (by omega)
  refine ⟨h6, ?_, (((f1.tr f2).tr f3).tr f4).tr f6, x6⟩
  rw [E_Mo_makes, g1, E_Mo_makes_3, if_neg (by decide), if_pos w1.F, w1.a0, w32_id (x := A + 0) (by omega) (by omega), if_pos (w1.S (by omega) (by omega)), hb_eq, if_pos w2.F, w2.a0, w32_id (x := A + 3) (by omega) (by omega), if_pos (w2.S (by omega) (by omega)), hb_eq, if_pos w3.F, hb_eq, l5, g6]
/-- where a new one is put -/
noncomputable def zPl (n m at' : Int) : Int := if at' = -1 then (if n < m then n else -1) else if 0 ≤ at' ∧ at' < n then at' else -1
theorem s_place {h : Hp} {T : Int → Int} (e4 : okF h 2 10 = true) (e0 : mR h 2 4 = T 0) (e1 : mR h 2 5 = T 1) (e2 : mR h 2 6 = T 2) (s a : Int) : C_To_placeFor 2 s a h = some (if 0 ≤ s ∧ s ≤ 2 then zPl (T s) (if s = 1 then 6 else 3) a else -1, h) := by
  rw [E_To_placeFor, if_pos e4, e0, if_pos e4, e1, if_pos e4, e2, E_To_placeFor_38, E_To_placeFor_38, E_To_placeFor_38]
  by_cases q : 0 ≤ s ∧ s ≤ 2
  · rw [if_neg (show ¬ s < 0 by omega), if_neg (show ¬ 2 < s by omega), if_pos q]
    have key : ∀ n m : Int, (if a = -1 then (if n < m then some (n, h) else some (-1, h)) else if a < 0 then some (-1, h) else if a < n then some (a, h) else some (-1, h)) = some (zPl n m a, h) := fun n m => by
      unfold zPl
      by_cases c1 : a = -1
      · rw [if_pos c1, if_pos c1]; split <;> rfl
      · rw [if_neg c1, if_neg c1]
        by_cases c2 : a < 0
        · rw [if_pos c2, if_neg (by omega)]
        · rw [if_neg c2]
          by_cases c3 : a < n
          · rw [if_pos c3, if_pos (by omega)]
          · rw [if_neg c3, if_neg (by omega)]
    have : s = 0 ∨ s = 1 ∨ s = 2 := by omega
    rcases this with z | z | z
    · rw [z]; simp only [↓reduceIte, show ¬ (0 : Int) = 1 by decide]; exact key _ _
    · rw [z, if_neg n10, if_pos rfl, if_neg n10, if_pos rfl, if_pos rfl]; exact key _ _
    · rw [z]; simp only [↓reduceIte, show ¬ (2 : Int) = 0 by decide, show ¬ (2 : Int) = 1 by decide]; exact key _ _
  · rw [if_neg q]
    by_cases c : s < 0
    · rw [if_pos c]
    · rw [if_neg c, if_pos (by omega)]
def sl3 (T V : Int → Int) (b n i : Int) : Int := if b ≤ i ∧ i < b + n then V (i - b) else T i
/-- a catalogue put at k -/
def tPut0 (T V : Int → Int) (k : Int) : Int → Int := up1 (sl3 T V (520 + 330 * k) 330) 0 (if T 0 = k then k + 1 else T 0)
theorem s_put0 {h : Hp} {T V : Int → Int} (w : CIn h T) {k : Int} (k0 : 0 ≤ k) (k1 : k < 3) (kT : k ≤ T 0) (d : CatC h 84 V) (vz : ∀ o, ¬ (0 ≤ o ∧ o < 330) → V o = 0) : ∃ h', C_To_putCatalogue 2 k 84 h = some (0, h') ∧ Fr pW h h' ∧ CIn h' (tPut0 T V k) := by
  have t := w.2.2
  have o2 : okF h 2 10 = true := okF_t w.2.1.2.1
  have e8 : mR h 2 8 = 4 := w.2.1.2.2.1.2.1
  have rr : okR h 4 k = true := okR_t (k := 111) w.2.1.2.2.2.2.1 (by decide) (by decide) (by decide) k0 k1
  have cc := w.2.1.2.2.2.2.2.2.2.2.1 k k0 k1
  have e4 : mR h 4 k = 8 + 8 * k := cc.1
  have cs : CatS h (8 + 8 * k) := cc.2
  obtain ⟨h1, g1, f1, d1⟩ := s_ccopy d cs (by omega) (by omega)
  have n0 := t.2.1
  have m4 : mR h1 2 4 = T 0 := by rw [f1.2 2 4 (by unfold pCa; omega)]; exact t.1.2.2.2.1
  have f1w : Fr pW h h1 := f1.to (fun b i q => by unfold pCa at q; unfold pW; omega)
  have f2 : Fr pW h1 (mW h1 2 4 (if T 0 < k + 1 then k + 1 else T 0)) := Fr.W h1 _ (by unfold pW; omega)
  have em : (if T 0 < k + 1 then k + 1 else T 0) = (if T 0 = k then k + 1 else T 0) := by
    by_cases z : T 0 = k
    · rw [if_pos z, if_pos (by omega)]
    · rw [if_neg z, if_neg (by omega)]
  have ff := f1w.tr f2
  have tp : ∀ i, i ≠ 0 → tPut0 T V k i = sl3 T V (520 + 330 * k) 330 i := fun i p => up1_n p
  refine ⟨_, ?_, ff, w.w ff (TCo_cat (k := k) t k0 k1 kT ff.1 (fun b i _ _ p q => ?_) (fun i p q => ?_) ?_ (up1_s _ _ _) ?_)⟩
  · have mx : C_Ma_max_II (T 0) (k + 1) h1 = some (if T 0 < k + 1 then k + 1 else T 0, h1) := by rw [E_Ma_max_II]; split <;> rfl
    rw [E_To_putCatalogue, if_neg (show ¬ k < 0 by omega), if_pos k1, if_pos o2, e8, if_pos rr, e4, if_pos (cF cs), g1, bind_some', if_pos (show okF h1 2 10 = true from okF_t (by rw [f1.1.k]; exact w.2.1.2.1)), m4, w32_id (x := k + 1) (by omega) (by omega), mx, bind_some', if_pos (show okF h1 2 10 = true from okF_t (by rw [f1.1.k]; exact w.2.1.2.1)), hb_eq]
  · rw [mR_mW, if_neg (by omega)]; exact f1.2 b i (by unfold pCa; omega)
  · rw [tp i p]; unfold sl3; rw [if_neg (by omega)]
  · rw [mR_same, em]; exact (up1_s _ _ _).symm
  · have ec : catT (tPut0 T V k) k = V := by
      funext o
      unfold catT slc
      by_cases z : 0 ≤ o ∧ o < 330
      · rw [if_pos z, tp _ (by omega)]
        unfold sl3
        rw [if_pos (by omega), show 520 + 330 * k + o - (520 + 330 * k) = o by omega]
      · rw [if_neg z, vz o z]
    rw [ec]
    exact d1.of f2.1 (fun b i b0 b1 => by rw [mR_ne (by omega)])
theorem zMade_z (S : Int → Int) (seed : Int) (s5 : S 5 ≤ 24) : ∀ o, ¬ (0 ≤ o ∧ o < 330) → zMade S seed o = 0 := by
  have := itN_ind (F := zMs S) (fun i p => Mkg p.2 i ∧ 0 ≤ p.2 1 ∧ ∀ o, ¬ (0 ≤ o ∧ o < 330) → p.2 o = 0) (S 5).toNat 0 (seed, zV0) ⟨⟨rfl, by show zV0 1 ≤ 0; decide, fun j j0 j1 => by show up1 (up1 zZ 0 2) 3 1100 j = 0; rw [up1_n (by omega), up1_n (by omega)]; rfl⟩, by show 0 ≤ zV0 1; decide, fun o q => by show up1 (up1 zZ 0 2) 3 1100 o = 0; rw [up1_n (by omega), up1_n (by omega)]; rfl⟩ (fun i p i0 i1 m => by
    refine ⟨zMs_g m.1 m.2.1 (by omega), ?_, fun o q => ?_⟩
    · unfold zMs
      dsimp only
      split
      · exact m.2.1
      · unfold zAdd
        rw [up1_s]; have := m.2.1; omega
    · have vm := m.1.2.1
      have v0 := m.2.1
      unfold zMs
      dsimp only
      split
      · exact m.2.2 o q
      · unfold zAdd
        rw [up1_n (by omega), up1_n (by omega)]
        split
        · rw [up1_n (by omega), up1_n (by omega)]; exact m.2.2 o q
        · rw [up1_n (by omega)]; exact m.2.2 o q)
  exact this.2.2
def kMk (T : Int → Int) (k : Int) : Prop := 0 ≤ k ∧ k < T 2
noncomputable def aMake (T : Int → Int) (k a : Int) : Int := cI (kMk T k) (zPl (T 0) 3 a) (-1)
noncomputable def tMake (T : Int → Int) (k a seed : Int) : Int → Int := tPut0 T (zMade (skyT T k) seed) (aMake T k a)
theorem zPl_b {n m a : Int} (n0 : 0 ≤ n) (nm : n ≤ m) : zPl n m a = -1 ∨ (0 ≤ zPl n m a ∧ zPl n m a < m ∧ zPl n m a ≤ n) := by
  unfold zPl
  by_cases c : a = -1
  · rw [if_pos c]
    by_cases d : n < m
    · rw [if_pos d]; omega
    · rw [if_neg d]; omega
  · rw [if_neg c]
    by_cases d : 0 ≤ a ∧ a < n
    · rw [if_pos d]; omega
    · rw [if_neg d]; omega
theorem q_make {h : Hp} {T : Int → Int} (w : Inv h T) (k a seed : Int) : ∃ h', C_LS_make 1 k a seed h = some (aMake T k a, h') ∧ Fr pW h h' ∧ (aMake T k a ≠ -1 → CIn h' (tMake T k a seed)) ∧ (aMake T k a = -1 → h' = h) := by
  have n := ivn w
  rw [E_LS_make, if_pos (iv1 w), s_isSky w, bind_some']
  by_cases q : 0 ≤ k ∧ k < T 2
  · have ea : aMake T k a = zPl (T 0) 3 a := cI_t q
    have pb := zPl_b (n := T 0) (m := 3) (a := a) n.1.1 n.1.2
    have c := ivK w q.1 q.2
    have i6 := iv6 w q.1 (show k < 3 by omega)
    have pl := s_place (T := T) (iv2 w) (iv24 w) (iv25 w) (iv26 w) 0 a
    rw [if_pos (by omega), if_neg (by decide)] at pl
    rw [bI_t q, if_neg n10, if_pos (iv1 w), iv10 w, if_pos (iv2 w), pl, bind_some', ea]
    dsimp only
    by_cases z : zPl (T 0) 3 a = -1
    · exact ⟨h, by rw [if_pos z, z], Fr.rf _ h, fun x => absurd z x, fun _ => rfl⟩
    · have e3 : mR h 1 3 = 84 := w.1.2.1.2.2.2.1
      obtain ⟨h1, g1, f1, d1⟩ := s_fillC c (by omega) w.1.2.2.1 seed
      have f1z : Fr pZ h h1 := f1.to (fun b i q => by unfold pCa at q; unfold pZ; omega)
      have w1 := w.of f1z
      have e31 : mR h1 1 3 = 84 := w1.1.2.1.2.2.2.1
      obtain ⟨h2, g2, f2, c2⟩ := s_put0 w1.c (k := zPl (T 0) 3 a) (by omega) (by omega) (by omega) d1 (zMade_z _ _ c.2.2.1.2.2.2.2.2.1.2)
      refine ⟨h2, ?_, (f1.to (fun b i q => by unfold pCa at q; unfold pW; omega)).tr f2, fun _ => ?_, fun x => absurd x z⟩
      · rw [if_neg z, if_pos (iv1 w), iv10 w, if_pos (iv2 w), i6.1, if_pos i6.2.1, if_pos (iv1 w), i6.2.2, if_pos (skF c), e3, g1, bind_some', if_pos (iv1 w1), if_pos (iv1 w1), iv10 w1, if_pos (iv2 w1), e31, g2, bind_some']
      · unfold tMake; rw [ea]; exact c2
  · have ea : aMake T k a = -1 := cI_f q
    exact ⟨h, by rw [bI_f q, if_pos rfl, if_pos rfl, ea], Fr.rf _ h, fun x => absurd ea x, fun _ => rfl⟩
theorem MIn.put {h h' : Hp} {T V : Int → Int} (w : MIn h T) {b n c e : Int} (c0 : 0 ≤ c) (c1 : c < 3) (b0 : 3 ≤ b) (bn : b + n ≤ 1800) (ms : ModS h') (r : ∀ i, 0 ≤ i → i < 1800 → ¬ (b ≤ i ∧ i < b + n) → i ≠ c → mR h' 125 i = mR h 125 i) (ev : ∀ o, 0 ≤ o → o < n → mR h' 125 (b + o) = V o) (ec : mR h' 125 c = e) : MIn h' (up1 (sl3 T V b n) c e) := by
  refine ⟨ms, fun i i0 i1 => ?_⟩
  by_cases z : i = c
  · rw [z, up1_s]; exact ec
  · rw [up1_n z]
    unfold sl3
    by_cases y : b ≤ i ∧ i < b + n
    · rw [if_pos y]
      have := ev (i - b) (by omega) (by omega)
      rw [show b + (i - b) = i by omega] at this
      exact this
    · rw [if_neg y, r i i0 i1 y z]; exact w.2 i i0 i1
theorem r_make {h : Hp} {T : Int → Int} (w : MIn h T) (o : Tok T) (k a seed : Int) : ∃ h', C_Mo_make 124 k a seed h = some (aMake T k a, h') ∧ Fr pD h h' ∧ (aMake T k a ≠ -1 → MIn h' (tMake T k a seed)) ∧ (aMake T k a = -1 → h' = h) := by
  have n := o.1
  have eis : C_Mo_isSky 124 k h = some (bI (0 ≤ k ∧ k < T 2), h) := by
    rw [E_Mo_isSky, if_pos (miO w), n_isOf w o (by omega) (by omega), bind_some']
    rcases bI_r (0 ≤ k ∧ k < T 2) with z | z <;> rw [z] <;> rfl
  rw [E_Mo_make, if_pos (miO w), eis, bind_some']
  by_cases q : 0 ≤ k ∧ k < T 2
  · have ea : aMake T k a = zPl (T 0) 3 a := cI_t q
    have pb := zPl_b (n := T 0) (m := 3) (a := a) n.1.1 n.1.2
    have so := o.2.2.2.2.1 k q.1 q.2
    rw [bI_t q, if_neg n10, if_pos (miO w), mi0 w, if_pos (miA w (by omega) (by omega)), w.2 0 (by omega) (by omega), if_pos (miO w), n_isOf w o (by omega) (by omega), bind_some', ea]
    have run : ∀ (g : Hp) (p v : Int), MIn g (up1 T 0 v) → 0 ≤ p → p < 3 → ∃ h', C_Mo_makes 124 (1670 + 18 * k) (520 + 330 * p) seed g = some (0, h') ∧ Fr pD g h' ∧ MIn h' (up1 (sl3 T (zMade (skyT T k) seed) (520 + 330 * p) 330) 0 v) := fun g p v wg p0 p1 => by
      obtain ⟨h1, g1, f1, x, m1⟩ := m_makes (A := 520 + 330 * p) (B := 1670 + 18 * k) (S := skyT T k) wg.1 (by omega) (by omega) (by omega) (fun j j0 j1 => by rw [wg.2 _ (by omega) (by omega), up1_n (by omega)]; exact skyE j0 j1) so seed
      refine ⟨h1, g1, f1.to (fun b i q => by unfold pMk at q; unfold pD; omega), ?_⟩
      have := MIn.put wg (V := zMade (skyT T k) seed) (b := 520 + 330 * p) (n := 330) (c := 0) (e := v) (by omega) (by omega) (by omega) (by omega) m1.1 (fun i i0 i1 a b => f1.2 125 i (by unfold pMk; omega)) m1.2.2.2.2.2.1 (by rw [f1.2 125 0 (by unfold pMk; omega), wg.2 0 (by omega) (by omega), up1_s])
      have es : up1 (sl3 (up1 T 0 v) (zMade (skyT T k) seed) (520 + 330 * p) 330) 0 v = up1 (sl3 T (zMade (skyT T k) seed) (520 + 330 * p) 330) 0 v := by
        funext i
        by_cases z : i = 0
        · rw [z, up1_s, up1_s]
        · rw [up1_n z, up1_n z]
          unfold sl3
          by_cases y : 520 + 330 * p ≤ i ∧ i < 520 + 330 * p + 330
          · rw [if_pos y, if_pos y]
          · rw [if_neg y, if_neg y, up1_n z]
      rw [es] at this
      exact this
    by_cases c1 : a = -1
    · rw [if_pos c1]
      by_cases c2 : T 0 = 3
      · have ez : zPl (T 0) 3 a = -1 := by unfold zPl; rw [if_pos c1, if_neg (by omega)]
        exact ⟨h, by rw [if_pos c2, ez], Fr.rf _ h, fun x => absurd ez x, fun _ => rfl⟩
      · have ez : zPl (T 0) 3 a = T 0 := by unfold zPl; rw [if_pos c1, if_pos (by omega)]
        have w1 := w.up 0 (T 0 + 1)
        have f1 : Fr pD h (mW h 125 0 (T 0 + 1)) := Fr.W h _ (by unfold pD; omega)
        obtain ⟨h2, g2, f2, m2⟩ := run _ (T 0) (T 0 + 1) w1 n.1.1 (by omega)
        refine ⟨h2, ?_, f1.tr f2, fun _ => ?_, fun x => by omega⟩
        · rw [if_neg c2, E_Mo_make_37, if_pos c1, if_pos (miO w), mi0 w, if_pos (miA w (by omega) (by omega)), if_pos c1, if_pos (miO w), if_pos (miA w (by omega) (by omega)), if_pos (miS w (by omega) (by omega)), w.2 0 (by omega) (by omega), hb_eq, w32_id (x := T 0 + 1) (by omega) (by omega), m_skyAt q.1 (by omega), bind_some', if_pos (miO w1), m_catAt n.1.1 (by omega), bind_some', if_pos (miO w1), g2, bind_some', ez]
        · unfold tMake tPut0; rw [ea, ez, if_pos rfl]; exact m2
    · rw [if_neg c1]
      by_cases c2 : 0 ≤ a ∧ a < T 0
      · have ez : zPl (T 0) 3 a = a := by unfold zPl; rw [if_neg c1, if_pos c2]
        have w1 : MIn h (up1 T 0 (T 0)) := by rw [up1_id rfl]; exact w
        obtain ⟨h2, g2, f2, m2⟩ := run h a (T 0) w1 c2.1 (by omega)
        refine ⟨h2, ?_, f2, fun _ => ?_, fun x => by omega⟩
        · rw [bI_t c2, if_neg n10, E_Mo_make_37, if_neg c1, if_neg c1, m_skyAt q.1 (by omega), bind_some', if_pos (miO w), m_catAt c2.1 (by omega), bind_some', if_pos (miO w), g2, bind_some', ez]
        · unfold tMake tPut0; rw [ea, ez, if_neg (by omega)]; exact m2
      · have ez : zPl (T 0) 3 a = -1 := by unfold zPl; rw [if_neg c1, if_neg c2]
        exact ⟨h, by rw [bI_f c2, if_pos rfl, ez], Fr.rf _ h, fun x => absurd ez x, fun _ => rfl⟩
  · have ea : aMake T k a = -1 := cI_f q
    exact ⟨h, by rw [bI_f q, if_pos rfl, ea], Fr.rf _ h, fun x => absurd ea x, fun _ => rfl⟩
