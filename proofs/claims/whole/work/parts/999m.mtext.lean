/-! A text told to the reference. No fault, no place. -/
def NF (s : Int × Int × Int) : Prop := s.2.1 = 0 → s.2.2 = -1
theorem nf_brk {B : Int → Int} {L : Int} {s : Int × Int × Int} (o : NF s) : NF (brk B L s) := by
  unfold brk
  by_cases z : s.2.1 = 1
  · rw [if_pos z]; exact o
  · rw [if_neg z]; intro q; exact absurd (show (1 : Int) = 0 from q) n10
theorem nf_nte {B : Int → Int} {L k : Int} {s : Int × Int × Int} (o : NF s) (k0 : k ≠ 0) : NF (nte B L k s) := by
  unfold nte
  by_cases z : s.2.1 = 0
  · rw [if_pos z]; intro q; exact absurd (show k = 0 from q) k0
  · rw [if_neg z]; exact o
theorem nf_adv {B : Int → Int} {L : Int} {s : Int × Int × Int} (o : NF s) : NF (adv B L s) := o
theorem nf_num {B : Int → Int} {L lo hi : Int} {s : Int × Int × Int} (o : NF s) : NF (num B L lo hi s).2 := by
  unfold num
  by_cases z : s.2.1 = 1
  · rw [if_pos z]; exact o
  · rw [if_neg z]
    by_cases y : tK B L s.1 = 1
    · rw [if_pos y]
      by_cases x : tV B L s.1 < lo ∨ hi < tV B L s.1
      · rw [if_pos x]; exact nf_adv (nf_nte o (by decide))
      · rw [if_neg x]; exact nf_adv o
    · rw [if_neg y]; exact nf_brk o
theorem nf_ens {B : Int → Int} {L : Int} {s : Int × Int × Int} (o : NF s) : NF (ens B L s) := by
  unfold ens
  by_cases z : s.2.1 = 1
  · rw [if_pos z]; exact o
  · rw [if_neg z]
    by_cases y : tK B L s.1 = 2
    · rw [if_pos y]; exact nf_adv o
    · rw [if_neg y]; exact nf_brk o
theorem nf_one {B : Int → Int} {L lo hi : Int} {s : Int × Int × Int} (o : NF s) : NF (one B L lo hi s).2 := by
  unfold one
  by_cases z : s.2.1 = 1
  · rw [if_pos z]; exact o
  · rw [if_neg z]
    by_cases y : tK B L s.1 = 3 ∧ lo ≤ tW B L s.1 ∧ tW B L s.1 ≤ hi
    · rw [if_pos y]; exact nf_adv o
    · rw [if_neg y]; exact nf_brk o
theorem nf_rm3 {B : Int → Int} {L a b : Int} {s : Int × Int × Int} (o : NF s) : NF (rm3 B L a b s) := by
  unfold rm3
  by_cases z : a < b
  · rw [if_pos z]; exact nf_adv o
  · rw [if_neg z]; exact nf_adv (nf_nte o (by decide))
theorem nf_ctL {B : Int → Int} {L : Int} {s : Int × Int × Int} {V : Int → Int} (o : NF s) : NF (ctL B L s V).1 := by
  unfold ctL
  by_cases k : tK B L s.1 = 3
  · rw [if_pos k]
    by_cases w1 : tW B L s.1 = 1
    · rw [if_pos w1]; exact nf_ens (nf_num (nf_rm3 o))
    rw [if_neg w1]
    by_cases w2 : tW B L s.1 = 2
    · rw [if_pos w2]; exact nf_ens (nf_num (nf_rm3 o))
    rw [if_neg w2]
    by_cases w3 : tW B L s.1 = 3
    · rw [if_pos w3]; exact nf_ens (nf_num (nf_rm3 o))
    rw [if_neg w3]
    by_cases w4 : tW B L s.1 = 4
    · rw [if_pos w4]; exact nf_ens (nf_num (nf_rm3 o))
    rw [if_neg w4]
    by_cases w5 : tW B L s.1 = 5
    · rw [if_pos w5]; exact nf_ens (nf_num (nf_rm3 o))
    rw [if_neg w5]
    by_cases w6 : tW B L s.1 = 6
    · rw [if_pos w6]; exact nf_ens (nf_num (nf_num (nf_num (nf_num (nf_adv o)))))
    rw [if_neg w6]; exact nf_brk o
  · rw [if_neg k]; exact nf_brk o
theorem nf_skL {B : Int → Int} {L : Int} {s : Int × Int × Int} {V : Int → Int} (o : NF s) : NF (skL B L s V).1 := by
  unfold skL
  by_cases k : tK B L s.1 = 3
  · rw [if_pos k]
    by_cases w1 : tW B L s.1 = 41
    · rw [if_pos w1]; exact nf_ens (nf_num (nf_num (nf_rm3 o)))
    rw [if_neg w1]
    by_cases w2 : tW B L s.1 = 42
    · rw [if_pos w2]; exact nf_ens (nf_num (nf_adv o))
    rw [if_neg w2]
    by_cases w3 : tW B L s.1 = 43
    · rw [if_pos w3]; exact nf_ens (nf_num (nf_adv o))
    rw [if_neg w3]
    by_cases w4 : tW B L s.1 = 44
    · rw [if_pos w4]; exact nf_ens (nf_num (nf_adv o))
    rw [if_neg w4]
    by_cases w5 : tW B L s.1 = 45
    · rw [if_pos w5]; exact nf_ens (nf_num (nf_adv o))
    rw [if_neg w5]
    by_cases w6 : tW B L s.1 = 46
    · rw [if_pos w6]; exact nf_ens (nf_num (nf_adv o))
    rw [if_neg w6]; exact nf_brk o
  · rw [if_neg k]; exact nf_brk o
theorem nf_uN2 {B : Int → Int} {L : Int} {s : Int × Int × Int} {V : Int → Int} (o : NF s) : NF (uN2 B L s V).2 := by
  unfold uN2
  split
  · exact nf_num (nf_one (nf_rm3 o))
  · exact nf_num (nf_one (nf_rm3 o))
theorem nf_hsL {B : Int → Int} {L : Int} {s : Int × Int × Int} {V : Int → Int} (o : NF s) : NF (hsL B L s V).1 := by
  unfold hsL
  by_cases k : tK B L s.1 = 3
  · rw [if_pos k]
    by_cases w1 : tW B L s.1 = 11
    · rw [if_pos w1]; exact nf_ens (nf_num (nf_adv o))
    rw [if_neg w1]
    by_cases w2 : tW B L s.1 = 12
    · rw [if_pos w2]; exact nf_ens (nf_one (nf_adv o))
    rw [if_neg w2]
    by_cases w3 : tW B L s.1 = 13
    · rw [if_pos w3]; exact nf_ens (nf_num (nf_one (nf_num (nf_adv o))))
    rw [if_neg w3]
    by_cases w4 : tW B L s.1 = 14
    · rw [if_pos w4]; exact nf_ens (nf_num (nf_adv o))
    rw [if_neg w4]
    by_cases w5 : tW B L s.1 = 15
    · rw [if_pos w5]; exact nf_ens (nf_uN2 o)
    rw [if_neg w5]; exact nf_brk o
  · rw [if_neg k]; exact nf_brk o
theorem nf_ctI {B : Int → Int} {L : Int} : ∀ (n : Nat) (x : (Int × Int × Int) × (Int → Int)), NF x.1 → NF (ctI B L n x).1
  | 0, _, o => o
  | n + 1, x, o => by
    unfold ctI
    split
    · exact o
    · exact nf_ctI n _ (nf_ctL o)
theorem nf_hsI {B : Int → Int} {L : Int} : ∀ (n : Nat) (x : (Int × Int × Int) × (Int → Int)), NF x.1 → NF (hsI B L n x).1
  | 0, _, o => o
  | n + 1, x, o => by
    unfold hsI
    split
    · exact o
    · exact nf_hsI n _ (nf_hsL o)
theorem nf_skI {B : Int → Int} {L : Int} : ∀ (n : Nat) (x : (Int × Int × Int) × (Int → Int)), NF x.1 → NF (skI B L n x).1
  | 0, _, o => o
  | n + 1, x, o => by
    unfold skI
    split
    · exact o
    · exact nf_skI n _ (nf_skL o)
theorem nf_skEn {B : Int → Int} {L : Int} {x : (Int × Int × Int) × (Int → Int)} (o : NF x.1) : NF (skEn B L x) := by
  unfold skEn
  split
  · exact nf_nte o (by decide)
  · exact o
/-- the reference's own cells -/
def pQ (b i : Int) : Prop := (b = 124 ∧ 2 ≤ i ∧ i ≤ 9) ∨ b = 127
theorem pQ_D (b i : Int) (q : pQ b i) : pD b i := by unfold pQ at q; unfold pD; omega
theorem MIn.q {h h' : Hp} {T : Int → Int} (w : MIn h T) (f : Fr pQ h h') : MIn h' T := ⟨w.1.of f.1 (fun i hi => f.2 124 i (by unfold pQ; simp at hi; omega)), fun i i0 i1 => by rw [f.2 125 i (by unfold pQ; omega)]; exact w.2 i i0 i1⟩
theorem MIn.f {h : Hp} {T : Int → Int} (w : MIn h T) {i : Int} (v : Int) (i0 : 2 ≤ i) (i1 : i ≤ 9) : MIn (mW h 124 i v) T := w.q (Fr.W h v (Or.inl ⟨rfl, i0, i1⟩))
theorem tx0_n {T : Int → Int} {i : Int} (q : ¬ (4 ≤ i ∧ i ≤ 6)) : tx0 T i = T i := by unfold tx0; rw [up1_n (by omega), up1_n (by omega), up1_n (by omega)]
theorem tx0_5 (T : Int → Int) : tx0 T 5 = 0 := by unfold tx0; rw [up1_n (by decide), up1_s]
theorem tx0_6 (T : Int → Int) : tx0 T 6 = -1 := up1_s _ _ _
theorem r_t0 {h : Hp} {T : Int → Int} (w : MIn h T) (o : Tok (tx0 T)) (by' : Byt (txB T) (T 4)) (a b : Int) : (txK T a b = -1 → ∃ h', C_Mo_text 124 a b h = some (-2, h') ∧ Fr pD h h' ∧ MIn h' (tx0 T)) ∧ (txK T a b ≠ -1 → ∃ h', C_Mo_text 124 a b h = P_Mo_text_86 124 a b 0 h' ∧ Fr pD h h' ∧ MIn h' (tx0 T) ∧ RMB h' (txB T) (T 4) ∧ mR h' 124 3 = 0 ∧ mR h' 124 8 = 0) := by
  have w1 := w.f (T 4) (i := 2) (by decide) (by decide)
  have w2 := w1.up 4 0
  have w3 := w2.f 0 (i := 3) (by decide) (by decide)
  have w4 := w3.up 5 0
  have w5 := w4.up 6 (-1)
  have w6 : MIn _ (tx0 T) := w5.f 0 (i := 8) (by decide) (by decide)
  have f6 : Fr pD h (mW (mW (mW (mW (mW (mW h 124 2 (T 4)) 125 4 0) 124 3 0) 125 5 0) 125 6 (-1)) 124 8 0) := (((((Fr.W h _ (by unfold pD; omega)).tr (Fr.W _ _ (by unfold pD; omega))).tr (Fr.W _ _ (by unfold pD; omega))).tr (Fr.W _ _ (by unfold pD; omega))).tr (Fr.W _ _ (by unfold pD; omega))).tr (Fr.W _ _ (by unfold pD; omega))
  have e : C_Mo_text 124 a b h = (C_Mo_isIn a 0 2 (mW (mW (mW (mW (mW (mW h 124 2 (T 4)) 125 4 0) 124 3 0) 125 5 0) 125 6 (-1)) 124 8 0)).bind (fun x7 => (if x7.1 = 0 then (some ((-2), x7.2)) else (if b = (-1) then (if okF x7.2 124 12 = true then (if okA x7.2 (mR x7.2 124 0) 102 a = true then ((C_Mo_mostOf a x7.2).bind (fun x9 => (if (mR x7.2 (mR x7.2 124 0) a) < x9.1 then (P_Mo_text_86 124 a b 0 x9.2) else (some ((-2), x9.2))))) else none) else none) else (if okF x7.2 124 12 = true then (C_Mo_isOf 124 a b x7.2).bind (fun x8 => (if x8.1 = 0 then (some ((-2), x8.2)) else (P_Mo_text_86 124 a b 0 x8.2))) else none)))) := by
    rw [E_Mo_text, if_pos (miO w), mi0 w, if_pos (miA w (by decide) (by decide)), w.2 4 (by decide) (by decide), if_pos (miO w), hb_eq, if_pos (miO w1), mi0 w1, if_pos (miS w1 (by decide) (by decide)), hb_eq, if_pos (miO w2), hb_eq, if_pos (miO w3), mi0 w3, if_pos (miS w3 (by decide) (by decide)), hb_eq, if_pos (miO w4), mi0 w4, if_pos (miS w4 (by decide) (by decide)), hb_eq, if_pos (miO w5), hb_eq]
  have r6 : RMB (mW (mW (mW (mW (mW (mW h 124 2 (T 4)) 125 4 0) 124 3 0) 125 5 0) 125 6 (-1)) 124 8 0) (txB T) (T 4) := by
    refine ⟨w6.1, ?_, by', fun j j0 j1 => ?_⟩
    · rw [mR_ni (by decide), mR_ne (by decide), mR_ne (by decide), mR_ni (by decide), mR_ne (by decide), mR_same]
    · have := by'.1
      rw [w6.2 (10 + j) (by omega) (by omega), tx0_n (by omega)]; rfl
  have s3 : mR (mW (mW (mW (mW (mW (mW h 124 2 (T 4)) 125 4 0) 124 3 0) 125 5 0) 125 6 (-1)) 124 8 0) 124 3 = 0 := by rw [mR_ni (by decide), mR_ne (by decide), mR_ne (by decide), mR_same]
  have s8 : mR (mW (mW (mW (mW (mW (mW h 124 2 (T 4)) 125 4 0) 124 3 0) 125 5 0) 125 6 (-1)) 124 8 0) 124 8 = 0 := mR_same _ _ _ _
  rw [e]
  clear e w1 w2 w3 w4 w5
  generalize mW (mW (mW (mW (mW (mW h 124 2 (T 4)) 125 4 0) 124 3 0) 125 5 0) 125 6 (-1)) 124 8 0 = g at *
  rw [m_isIn, bind_some']
  dsimp only
  unfold txK
  by_cases q : 0 ≤ a ∧ a ≤ 2
  · rw [if_pos q, bI_t q, if_neg n10]
    unfold zPl
    by_cases c1 : b = -1
    · have em : C_Mo_mostOf a g = some (if a = 1 then 6 else 3, g) := by rw [E_Mo_mostOf]; split <;> rfl
      rw [if_pos c1, if_pos (miO w6), mi0 w6, if_pos (miA w6 (by omega) (by omega)), w6.2 a (by omega) (by omega), em, bind_some', if_pos c1]
      dsimp only
      have n := o.1
      have tn : 0 ≤ tx0 T a := by
        have : a = 0 ∨ a = 1 ∨ a = 2 := by omega
        rcases this with z | z | z <;> rw [z] <;> omega
      by_cases c2 : tx0 T a < (if a = 1 then 6 else 3)
      · rw [if_pos c2, if_pos c2]
        exact ⟨fun x => by omega, fun _ => ⟨g, rfl, f6, w6, r6, s3, s8⟩⟩
      · rw [if_neg c2, if_neg c2]
        exact ⟨fun _ => ⟨g, rfl, f6, w6⟩, fun x => absurd rfl x⟩
    · rw [if_neg c1, if_pos (miO w6), n_isOf w6 o q.1 (by omega), bind_some', if_neg c1]
      dsimp only
      by_cases c2 : 0 ≤ b ∧ b < tx0 T a
      · rw [bI_t c2, if_neg n10, if_pos c2, if_pos (miO w6)]
        exact ⟨fun x => by omega, fun _ => ⟨g, rfl, f6, w6, r6, s3, s8⟩⟩
      · rw [bI_f c2, if_pos rfl, if_neg c2, if_pos (miO w6)]
        exact ⟨fun _ => ⟨g, rfl, f6, w6⟩, fun x => absurd rfl x⟩
  · rw [if_neg q, bI_f q, if_pos rfl]
    exact ⟨fun _ => ⟨g, rfl, f6, w6⟩, fun x => absurd rfl x⟩
theorem mi10 {h : Hp} {T : Int → Int} (w : MIn h T) : mR h 124 10 = 127 := w.1.2.1.2.2.1
theorem miS7 {h : Hp} {T : Int → Int} (w : MIn h T) {i : Int} (i0 : 0 ≤ i) (i1 : i < 330) : okS h 127 102 i = true := okS_t w.1.2.2.2.2.1 (by decide) i0 i1
theorem miA7 {h : Hp} {T : Int → Int} (w : MIn h T) {i : Int} (i0 : 0 ≤ i) (i1 : i < 330) : okA h 127 102 i = true := okA_t w.1.2.2.2.2.1 i0 i1
theorem l_86 {T : Int → Int} {a b : Int} : ∀ (n : Nat) (i : Int) (h : Hp), MIn h T → 0 ≤ i → i + n = 330 → (∀ j, 0 ≤ j → j < i → mR h 127 j = 0) → ∃ h', P_Mo_text_86 124 a b i h = P_Mo_text_86 124 a b 330 h' ∧ Fr (fun b _ => b = 127) h h' ∧ ∀ j, 0 ≤ j → j < 330 → mR h' 127 j = 0 := by
  intro n
  induction n with
  | zero =>
    intro i h w i0 hi d
    rw [show i = 330 by omega] at d ⊢
    exact ⟨h, rfl, Fr.rf _ h, d⟩
  | succ n ih =>
    intro i h w i0 hi d
    have f1 : Fr (fun b _ => b = 127) h (mW h 127 i 0) := Fr.W h 0 rfl
    obtain ⟨h2, g2, f2, d2⟩ := ih (i + 1) _ (w.q (f1.to (fun b i q => Or.inr q))) (by omega) (by omega) (fun j j0 j1 => by
      by_cases q : j = i
      · rw [q, mR_same]
      · rw [mR_ni q]; exact d j j0 (by omega))
    refine ⟨h2, ?_, f1.tr f2, d2⟩
    rw [E_Mo_text_86, if_pos (show i < 330 by omega), if_pos (miO w), mi10 w, if_pos (miS7 w i0 (by omega)), hb_eq, w32_id (x := i + 1) (by omega) (by omega)]
    exact g2
theorem RMB.r7 {h h' : Hp} {B : Int → Int} {L : Int} (r : RMB h B L) (f : Fr (fun b _ => b = 127) h h') : RMB h' B L := ⟨r.1.of f.1 (fun i _ => f.2 124 i (fun q => absurd (show (124 : Int) = 127 from q) (by decide))), (f.2 124 2 (by decide)).trans r.2.1, r.2.2.1, fun j j0 j1 => (f.2 125 _ (fun q => absurd (show (125 : Int) = 127 from q) (by decide))).trans (r.2.2.2 j j0 j1)⟩
theorem r_t86 {h : Hp} {T : Int → Int} (w : MIn h (tx0 T)) (r : RMB h (txB T) (T 4)) (s3 : mR h 124 3 = 0) (s8 : mR h 124 8 = 0) (a b : Int) : ∃ h', P_Mo_text_86 124 a b 0 h = P_Mo_text_130 124 a b h' ∧ Fr pD h h' ∧ MIn h' (tx0 T) ∧ MR h' (txB T) (T 4) (0, 0, -1) ∧ ∀ i, 0 ≤ i → i < 330 → mR h' 127 i = if a = 2 then sV0 i else 0 := by
  obtain ⟨h1, g1, f1, d1⟩ := l_86 (a := a) (b := b) 330 0 h w (by decide) (by decide) (fun j j0 j1 => by omega)
  have w1 := w.q (f1.to (fun b i q => Or.inr q))
  have r1 := r.r7 f1
  have lb := r.2.2.1.1
  have fin : ∀ g, Fr (fun b _ => b = 127) h g → MIn g (tx0 T) → (∀ i, 0 ≤ i → i < 330 → mR g 127 i = if a = 2 then sV0 i else 0) → ∃ h', C_Mo_advance 124 g = some (0, h') ∧ Fr pD h h' ∧ MIn h' (tx0 T) ∧ MR h' (txB T) (T 4) (0, 0, -1) ∧ ∀ i, 0 ≤ i → i < 330 → mR h' 127 i = if a = 2 then sV0 i else 0 := fun g fg wg dg => by
    obtain ⟨h2, g2, f2, r2⟩ := m_adv (r.r7 fg) ((fg.2 124 3 (by decide)).trans s3) (by decide) lb.1
    have f2q : Fr pQ g h2 := f2.to (fun b i q => by unfold pAd at q; unfold pQ; omega)
    have w2 := wg.q f2q
    refine ⟨h2, g2, (fg.to (fun b i q => by unfold pD; omega)).tr (f2q.to pQ_D), w2, ⟨r2, ?_, ?_, ?_⟩, fun i i0 i1 => ?_⟩
    · rw [w2.2 5 (by decide) (by decide), tx0_5]
    · rw [w2.2 6 (by decide) (by decide), tx0_6]
    · rw [f2.2 124 8 (by unfold pAd; omega), fg.2 124 8 (by decide), s8]; rfl
    · rw [f2.2 127 i (by unfold pAd; omega)]; exact dg i i0 i1
  rw [g1, E_Mo_text_86, if_neg (by decide)]
  by_cases q : a = 2
  · have f2 : Fr (fun b _ => b = 127) h1 (mW h1 127 4 1) := Fr.W h1 1 rfl
    have w2 := w1.q (f2.to (fun b i q => Or.inr q))
    have f3 : Fr (fun b _ => b = 127) (mW h1 127 4 1) (mW (mW h1 127 4 1) 127 5 24) := Fr.W _ 24 rfl
    have w3 := w2.q (f3.to (fun b i q => Or.inr q))
    obtain ⟨h4, g4, f4, rest⟩ := fin _ ((f1.tr f2).tr f3) w3 (fun i i0 i1 => by
      rw [if_pos q]
      unfold sV0
      by_cases y5 : i = 5
      · rw [y5, mR_same]; rfl
      · rw [mR_ni y5]
        by_cases y4 : i = 4
        · rw [y4, mR_same]; rfl
        · rw [mR_ni y4, if_neg y4, if_neg y5]; exact d1 i i0 i1)
    refine ⟨h4, ?_, f4, rest⟩
    rw [if_pos q, if_pos (miO w1), mi10 w1, if_pos (miS7 w1 (by decide) (by decide)), hb_eq, if_pos (miO w2), mi10 w2, if_pos (miS7 w2 (by decide) (by decide)), hb_eq, if_pos (miO w3), g4, bind_some']
  · obtain ⟨h4, g4, f4, rest⟩ := fin h1 f1 w1 (fun i i0 i1 => by rw [if_neg q]; exact d1 i i0 i1)
    refine ⟨h4, ?_, f4, rest⟩
    rw [if_neg q, if_pos (miO w1), g4, bind_some']
