/-! Reading through stores; loops as folds; shapes of the objects. -/
theorem hb_eq {α : Type} (h : Hp) (f : Hp → α) : hb h f = f h := rfl
theorem okF_W (h : Hp) (a i v b c : Int) : okF (mW h a i v) b c = okF h b c := rfl
theorem okA_W (h : Hp) (a i v b c j : Int) : okA (mW h a i v) b c j = okA h b c j := rfl
theorem okB_W (h : Hp) (a i v b j : Int) : okB (mW h a i v) b j = okB h b j := rfl
theorem okS_W (h : Hp) (a i v b c j : Int) : okS (mW h a i v) b c j = okS h b c j := rfl
theorem okR_W (h : Hp) (a i v b j : Int) : okR (mW h a i v) b j = okR h b j := rfl
theorem okY_W (h : Hp) (a i v b : Int) : okY (mW h a i v) b = okY h b := rfl
theorem okC_W (h : Hp) (a i v s sp d dp n : Int) : okC (mW h a i v) s sp d dp n = okC h s sp d dp n := rfl
theorem okF_C (h : Hp) (s sp d dp n b c : Int) : okF (mC h s sp d dp n) b c = okF h b c := rfl
theorem okA_C (h : Hp) (s sp d dp n b c j : Int) : okA (mC h s sp d dp n) b c j = okA h b c j := rfl
theorem okS_C (h : Hp) (s sp d dp n b c j : Int) : okS (mC h s sp d dp n) b c j = okS h b c j := rfl
theorem okR_C (h : Hp) (s sp d dp n b j : Int) : okR (mC h s sp d dp n) b j = okR h b j := rfl
theorem okC_C (h : Hp) (s sp d dp n s2 sp2 d2 dp2 n2 : Int) : okC (mC h s sp d dp n) s2 sp2 d2 dp2 n2 = okC h s2 sp2 d2 dp2 n2 := rfl
theorem bind_some' {α β : Type} (x : α) (f : α → Option β) : (some x).bind f = f x := rfl
theorem okF_t {h : Hp} {a c : Int} (hk : mK h a = c) : okF h a c = true := decide_eq_true hk
theorem okA_t {h : Hp} {a c i n : Int} (hk : mK h a = c ∧ mL h a = n) (h0 : 0 ≤ i) (h1 : i < n) : okA h a c i = true := decide_eq_true ⟨hk.1, h0, by rw [hk.2]; exact h1⟩
theorem okS_t {h : Hp} {a c i n : Int} (hk : mK h a = c ∧ mL h a = n) (ha : 0 < a) (h0 : 0 ≤ i) (h1 : i < n) : okS h a c i = true := decide_eq_true ⟨hk.1, h0, by rw [hk.2]; exact h1, ha⟩
theorem okB_t {h : Hp} {a i n : Int} (hk : mK h a = 101 ∧ mL h a = n) (h0 : 0 ≤ i) (h1 : i < n) : okB h a i = true := decide_eq_true ⟨Or.inl hk.1, h0, by rw [hk.2]; exact h1⟩
theorem okB_z {h : Hp} {a i n : Int} (hk : mK h a = 104 ∧ mL h a = n) (h0 : 0 ≤ i) (h1 : i < n) : okB h a i = true := decide_eq_true ⟨Or.inr hk.1, h0, by rw [hk.2]; exact h1⟩
theorem okR_t {h : Hp} {a i n k : Int} (hk : mK h a = k ∧ mL h a = n) (k1 : 111 ≤ k) (k2 : k ≤ 115) (ha : 0 < a) (h0 : 0 ≤ i) (h1 : i < n) : okR h a i = true := decide_eq_true ⟨by rw [hk.1]; exact k1, by rw [hk.1]; exact k2, h0, by rw [hk.2]; exact h1, ha⟩
theorem mR_same (h : Hp) (a i v : Int) : mR (mW h a i v) a i = v := by rw [mR_mW, if_pos ⟨rfl, rfl⟩]
theorem mR_ne {h : Hp} {a i v b j : Int} (hne : b ≠ a) : mR (mW h a i v) b j = mR h b j := by rw [mR_mW, if_neg (fun q => hne q.1)]
theorem mR_ni {h : Hp} {a i v b j : Int} (hne : j ≠ i) : mR (mW h a i v) b j = mR h b j := by rw [mR_mW, if_neg (fun q => hne q.2)]
/-- the same cells, the same kinds -/
def SK (h h' : Hp) : Prop := h'.1 = h.1 ∧ h'.2.1 = h.2.1
theorem SK.rf (h : Hp) : SK h h := ⟨rfl, rfl⟩
theorem SK.tr {a b c : Hp} (h1 : SK a b) (h2 : SK b c) : SK a c := ⟨h2.1.trans h1.1, h2.2.trans h1.2⟩
theorem SK.W (h : Hp) (a i v : Int) : SK h (mW h a i v) := ⟨rfl, rfl⟩
theorem SK.C (h : Hp) (s sp d dp n : Int) : SK h (mC h s sp d dp n) := ⟨rfl, rfl⟩
theorem SK.k {h h' : Hp} (w : SK h h') (a : Int) : mK h' a = mK h a := by unfold mK; rw [w.2]
theorem SK.l {h h' : Hp} (w : SK h h') (a : Int) : mL h' a = mL h a := by unfold mL; rw [w.2]
/-- n turns from i on -/
def itN {α : Type} (F : Int → α → α) : Nat → Int → α → α
  | 0, _, a => a
  | n + 1, i, a => itN F n (i + 1) (F i a)
theorem itN_congr {α : Type} {F G : Int → α → α} : ∀ (n : Nat) (i : Int) (a : α), (∀ j b, i ≤ j → j < i + n → F j b = G j b) → itN F n i a = itN G n i a
  | 0, _, _, _ => rfl
  | n + 1, i, a, h => by
    unfold itN
    rw [h i a (Int.le_refl i) (by omega)]
    exact itN_congr n (i + 1) _ (fun j b h1 h2 => h j b (by omega) (by omega))
theorem itN_ind {α : Type} {F : Int → α → α} (P : Int → α → Prop) : ∀ (n : Nat) (i : Int) (a : α), P i a → (∀ j b, i ≤ j → j < i + n → P j b → P (j + 1) (F j b)) → P (i + n) (itN F n i a)
  | 0, i, a, h0, _ => by simpa [itN] using h0
  | n + 1, i, a, h0, hs => by
    unfold itN
    have := itN_ind P n (i + 1) (F i a) (hs i a (Int.le_refl i) (by omega) h0) (fun j b h1 h2 => hs j b (by omega) (by omega))
    rw [show i + ((n + 1 : Nat) : Int) = i + 1 + (n : Int) by omega]
    exact this
theorem itN_succ {α : Type} (F : Int → α → α) : ∀ (n : Nat) (i : Int) (a : α), itN F (n + 1) i a = F (i + n) (itN F n i a)
  | 0, i, a => by simp [itN]
  | n + 1, i, a => by
    rw [itN, itN_succ F n (i + 1) (F i a), itN]
    congr 1
    omega
/-- a catalogue's cells: the object, then on, scales, steps, speeds, raws, years, ages -/
def CatS (h : Hp) (c : Int) : Prop := 0 < c ∧ mK h c = 1 ∧ (mR h c 3 = c + 1 ∧ mR h c 4 = c + 2 ∧ mR h c 5 = c + 3 ∧ mR h c 6 = c + 4 ∧ mR h c 7 = c + 5 ∧ mR h c 8 = c + 6 ∧ mR h c 9 = c + 7) ∧ (mK h (c + 1) = 102 ∧ mL h (c + 1) = 6) ∧ (mK h (c + 2) = 102 ∧ mL h (c + 2) = 6) ∧ (mK h (c + 3) = 102 ∧ mL h (c + 3) = 6) ∧ (mK h (c + 4) = 102 ∧ mL h (c + 4) = 24) ∧ (mK h (c + 5) = 102 ∧ mL h (c + 5) = 144) ∧ (mK h (c + 6) = 102 ∧ mL h (c + 6) = 144) ∧ (mK h (c + 7) = 102 ∧ mL h (c + 7) = 4)
theorem CatS.of {h h' : Hp} {c : Int} (w : CatS h c) (k : SK h h') (r : ∀ i, 3 ≤ i → i ≤ 9 → mR h' c i = mR h c i) : CatS h' c := by
  unfold CatS at w ⊢
  simp only [k.k, k.l]
  rw [r 3 (by omega) (by omega), r 4 (by omega) (by omega), r 5 (by omega) (by omega), r 6 (by omega) (by omega), r 7 (by omega) (by omega), r 8 (by omega) (by omega), r 9 (by omega) (by omega)]
  exact w
/-- a house's cells: the object, then leans, kinds, sizes -/
def HouS (h : Hp) (c : Int) : Prop := 0 < c ∧ mK h c = 3 ∧ (mR h c 4 = c + 1 ∧ mR h c 5 = c + 2 ∧ mR h c 6 = c + 3) ∧ (mK h (c + 1) = 102 ∧ mL h (c + 1) = 6) ∧ (mK h (c + 2) = 102 ∧ mL h (c + 2) = 8) ∧ (mK h (c + 3) = 102 ∧ mL h (c + 3) = 8)
theorem HouS.of {h h' : Hp} {c : Int} (w : HouS h c) (k : SK h h') (r : ∀ i, 4 ≤ i → i ≤ 6 → mR h' c i = mR h c i) : HouS h' c := by
  unfold HouS at w ⊢
  simp only [k.k, k.l]
  rw [r 4 (by omega) (by omega), r 5 (by omega) (by omega), r 6 (by omega) (by omega)]
  exact w
/-- the survey's cells: the object at 99, scales 112, fars 113, aside 114 -/
def SurS (h : Hp) : Prop := mK h 99 = 9 ∧ (mR h 99 3 = 112 ∧ mR h 99 4 = 113 ∧ mR h 99 5 = 114) ∧ (mK h 112 = 102 ∧ mL h 112 = 6) ∧ (mK h 113 = 102 ∧ mL h 113 = 24) ∧ (mK h 114 = 102 ∧ mL h 114 = 24)
theorem SurS.of {h h' : Hp} (w : SurS h) (k : SK h h') (r : ∀ i, 3 ≤ i → i ≤ 5 → mR h' 99 i = mR h 99 i) : SurS h' := by
  unfold SurS at w ⊢
  simp only [k.k, k.l]
  rw [r 3 (by omega) (by omega), r 4 (by omega) (by omega), r 5 (by omega) (by omega)]
  exact w
theorem cF {h : Hp} {c : Int} (w : CatS h c) : okF h c 1 = true := okF_t w.2.1
theorem c3 {h : Hp} {c : Int} (w : CatS h c) : mR h c 3 = c + 1 := w.2.2.1.1
theorem c4 {h : Hp} {c : Int} (w : CatS h c) : mR h c 4 = c + 2 := w.2.2.1.2.1
theorem c5 {h : Hp} {c : Int} (w : CatS h c) : mR h c 5 = c + 3 := w.2.2.1.2.2.1
theorem c6 {h : Hp} {c : Int} (w : CatS h c) : mR h c 6 = c + 4 := w.2.2.1.2.2.2.1
theorem c7 {h : Hp} {c : Int} (w : CatS h c) : mR h c 7 = c + 5 := w.2.2.1.2.2.2.2.1
theorem c8 {h : Hp} {c : Int} (w : CatS h c) : mR h c 8 = c + 6 := w.2.2.1.2.2.2.2.2.1
theorem c9 {h : Hp} {c : Int} (w : CatS h c) : mR h c 9 = c + 7 := w.2.2.1.2.2.2.2.2.2
theorem cA1 {h : Hp} {c i : Int} (w : CatS h c) (h0 : 0 ≤ i) (h1 : i < 6) : okA h (c + 1) 102 i = true := okA_t w.2.2.2.1 h0 h1
theorem cA2 {h : Hp} {c i : Int} (w : CatS h c) (h0 : 0 ≤ i) (h1 : i < 6) : okA h (c + 2) 102 i = true := okA_t w.2.2.2.2.1 h0 h1
theorem cA3 {h : Hp} {c i : Int} (w : CatS h c) (h0 : 0 ≤ i) (h1 : i < 6) : okA h (c + 3) 102 i = true := okA_t w.2.2.2.2.2.1 h0 h1
theorem cA4 {h : Hp} {c i : Int} (w : CatS h c) (h0 : 0 ≤ i) (h1 : i < 24) : okA h (c + 4) 102 i = true := okA_t w.2.2.2.2.2.2.1 h0 h1
theorem cA5 {h : Hp} {c i : Int} (w : CatS h c) (h0 : 0 ≤ i) (h1 : i < 144) : okA h (c + 5) 102 i = true := okA_t w.2.2.2.2.2.2.2.1 h0 h1
theorem cA6 {h : Hp} {c i : Int} (w : CatS h c) (h0 : 0 ≤ i) (h1 : i < 144) : okA h (c + 6) 102 i = true := okA_t w.2.2.2.2.2.2.2.2.1 h0 h1
theorem cA7 {h : Hp} {c i : Int} (w : CatS h c) (h0 : 0 ≤ i) (h1 : i < 4) : okA h (c + 7) 102 i = true := okA_t w.2.2.2.2.2.2.2.2.2 h0 h1
theorem hF {h : Hp} {c : Int} (w : HouS h c) : okF h c 3 = true := okF_t w.2.1
theorem h4 {h : Hp} {c : Int} (w : HouS h c) : mR h c 4 = c + 1 := w.2.2.1.1
theorem h5 {h : Hp} {c : Int} (w : HouS h c) : mR h c 5 = c + 2 := w.2.2.1.2.1
theorem h6 {h : Hp} {c : Int} (w : HouS h c) : mR h c 6 = c + 3 := w.2.2.1.2.2
theorem hA1 {h : Hp} {c i : Int} (w : HouS h c) (h0 : 0 ≤ i) (h1 : i < 6) : okA h (c + 1) 102 i = true := okA_t w.2.2.2.1 h0 h1
theorem hA2 {h : Hp} {c i : Int} (w : HouS h c) (h0 : 0 ≤ i) (h1 : i < 8) : okA h (c + 2) 102 i = true := okA_t w.2.2.2.2.1 h0 h1
theorem hA3 {h : Hp} {c i : Int} (w : HouS h c) (h0 : 0 ≤ i) (h1 : i < 8) : okA h (c + 3) 102 i = true := okA_t w.2.2.2.2.2 h0 h1
theorem sF {h : Hp} (w : SurS h) : okF h 99 9 = true := okF_t w.1
theorem s3 {h : Hp} (w : SurS h) : mR h 99 3 = 112 := w.2.1.1
theorem s4 {h : Hp} (w : SurS h) : mR h 99 4 = 113 := w.2.1.2.1
theorem s5 {h : Hp} (w : SurS h) : mR h 99 5 = 114 := w.2.1.2.2
theorem sA2 {h : Hp} {i : Int} (w : SurS h) (h0 : 0 ≤ i) (h1 : i < 6) : okA h 112 102 i = true := okA_t w.2.2.1 h0 h1
theorem sA3 {h : Hp} {i : Int} (w : SurS h) (h0 : 0 ≤ i) (h1 : i < 24) : okA h 113 102 i = true := okA_t w.2.2.2.1 h0 h1
theorem sA4 {h : Hp} {i : Int} (w : SurS h) (h0 : 0 ≤ i) (h1 : i < 24) : okA h 114 102 i = true := okA_t w.2.2.2.2 h0 h1
theorem sS2 {h : Hp} {i : Int} (w : SurS h) (h0 : 0 ≤ i) (h1 : i < 6) : okS h 112 102 i = true := okS_t w.2.2.1 (by omega) h0 h1
theorem sS3 {h : Hp} {i : Int} (w : SurS h) (h0 : 0 ≤ i) (h1 : i < 24) : okS h 113 102 i = true := okS_t w.2.2.2.1 (by omega) h0 h1
