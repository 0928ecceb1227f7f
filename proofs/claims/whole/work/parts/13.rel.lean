/-- tags of the fields of each class: 0 int, 1 long, 2 reference, 3 boolean -/
def tgL : List (List Nat) := [[0, 0, 0, 2, 2, 2, 2, 2, 2, 2], [2, 2], [0, 0, 0, 0, 2, 2, 2], [2, 2, 0, 1], [0, 2, 2], [2, 0, 0, 0, 0, 0, 0, 0], [0, 0, 0, 0], [0, 0, 0, 0, 0, 0, 2, 2], [2, 2, 0, 2, 2, 2, 0, 1, 1, 1, 1, 1], [2, 0, 0, 0, 0, 0, 0, 0, 2, 2, 2, 2], [2, 2, 2, 2, 2, 2, 2, 2, 2, 2], [2, 2, 0, 0, 0, 0, 0, 0, 3, 3, 2, 2, 2, 0, 1, 1, 1, 1, 1, 1, 1, 0, 2, 2, 1, 1, 0, 2, 2]]
def tgs (c : Nat) : List Nat := tgL.getD c []
/-- the bytes of the class's own string constants -/
def sbL : List (List Int) := [[98, 97, 115, 101], [111, 110], [97, 119, 97, 121], [116, 111, 119, 97, 114, 100], [115, 116, 111, 110, 101], [104, 97, 115], [117, 115, 101], [119, 97, 121], [102, 105, 114, 115, 116], [109, 101, 97, 110], [108, 97, 115, 116], [108, 101, 97, 110], [117, 112], [100, 111, 119, 110], [99, 97, 115, 116], [116, 104, 114, 111, 119], [115, 108, 111, 119, 101, 114], [102, 97, 115, 116, 101, 114], [110, 101, 97, 114, 101, 114], [102, 97, 114, 116, 104, 101, 114], [111, 100, 100], [108, 105, 103, 104, 116], [115, 112, 101, 101, 100], [111, 119, 110], [101, 114, 114], [108, 105, 109, 105, 116], [116, 114, 105, 101, 115]]
def sby (i : Nat) : List Int := sbL.getD i []
/-! What a plain memory says of the machine's heap. -/
/-- where the cells begin; the tables' numbers; array classes by kind; script (place, length, contents); strings and their bytes; the formatter -/
abbrev Gx : Type := Nat × va_G × (Int → ClassId) × (Nat × Nat × (Nat → Int32)) × (Nat → Nat) × (Nat → Nat) × Value
def gB (g : Gx) : Nat := g.1
def gD (g : Gx) : va_G := g.2.1
def gA (g : Gx) : Int → ClassId := g.2.2.1
def gS (g : Gx) : Nat × Nat × (Nat → Int32) := g.2.2.2.1
def gK (g : Gx) : Nat → Nat := g.2.2.2.2.1
def gV (g : Gx) : Nat → Nat := g.2.2.2.2.2.1
def gF (g : Gx) : Value := g.2.2.2.2.2.2
def cvR (g : Gx) (a : Int) : Value := if a = 0 then .null else if 0 < a then .ref (gB g + (a.toNat - 1)) else if a = -100 then .ref (gS g).1 else if a = -101 then gF g else if -36 ≤ a then .ref (gK g (-10 - a).toNat) else .ref (gV g (-50 - a).toNat)
def cv (g : Gx) : TV → Value
  | Sum.inl x => .int (Int32.ofInt x)
  | Sum.inr (Sum.inl x) => .long (Int64.ofInt x)
  | Sum.inr (Sum.inr a) => cvR g a
def okv : TV → Prop
  | Sum.inl x => in32 x
  | Sum.inr (Sum.inl x) => in64 x
  | Sum.inr (Sum.inr _) => True
def fvT (t : Nat) (x : Int) : TV := if t = 1 then vL x else if t = 2 then vR x else vI x
def flds (g : Gx) (f : Int → Int) : Nat → List Nat → List Value
  | _, [] => []
  | j, t :: ts => cv g (fvT t (f j)) :: flds g f (j + 1) ts
def rfO (g : Gx) (v : Int) : Option Nat := if v ≤ 0 then none else some (gB g + (v.toNat - 1))
def arE (g : Gx) (k : Int) (f : Int → Int) : (Nat → Int32) ⊕ (Nat → Int64) ⊕ (Nat → UInt32) ⊕ (Nat → UInt64) ⊕ (Nat → Option Nat) :=
  if k = 103 then .inr (.inl (fun j => Int64.ofInt (f j))) else if 111 ≤ k then .inr (.inr (.inr (.inr (fun j => rfO g (f j))))) else .inl (fun j => Int32.ofInt (f j))
def enE (g : Gx) (k n : Int) (f : Int → Int) : va_E := if k ≤ 12 then .inr (k.toNat - 1, flds g f 0 (tgs (k.toNat - 1))) else .inl (gA g k, n.toNat, arE g k f)
def wsO (g : Gx) (h : Hp) : va_W := (List.range h.1.1).map fun i => (gB g + i, enE g (mK h ((i : Int) + 1)) (mL h ((i : Int) + 1)) (mR h ((i : Int) + 1)))
def rng (t : Nat) (x : Int) : Prop := if t = 1 then in64 x else if t = 2 then True else if t = 3 then x = 0 ∨ x = 1 else in32 x
def okCell (k n : Int) (f : Int → Int) : Prop :=
  (1 ≤ k ∧ k ≤ 12 ∧ n = ((tgs (k.toNat - 1)).length : Int) ∧ ∀ (j t : Nat), (tgs (k.toNat - 1))[j]? = some t → rng t (f (j : Int)))
  ∨ (0 ≤ n ∧ n ≤ 100000 ∧ ((k = 101 ∧ ∀ j, 0 ≤ j → j < n → -128 ≤ f j ∧ f j ≤ 127) ∨ (k = 102 ∧ ∀ j, 0 ≤ j → j < n → in32 (f j)) ∨ (k = 103 ∧ ∀ j, 0 ≤ j → j < n → in64 (f j)) ∨ (k = 104 ∧ ∀ j, 0 ≤ j → j < n → f j = 0 ∨ f j = 1) ∨ (111 ≤ k ∧ k ≤ 115 ∧ ∀ j, 0 ≤ j → j < n → 0 ≤ f j)))
/-- the given things: strings, their bytes, the script -/
def okStat (L : Nat) (xs : Nat → Int32) (h : Hp) : Prop :=
  (∀ a : Int, a < 0 → mK h a = 0 ∨ (mK h a = 50 ∧ -36 ≤ a ∧ a ≤ -10) ∨ (mK h a = 101 ∧ -76 ≤ a ∧ a ≤ -50) ∨ (mK h a = 102 ∧ a = -100))
  ∧ (∀ a : Int, -36 ≤ a → a ≤ -10 → mR h a 0 = a - 40 ∧ mR h a 1 = 0)
  ∧ (∀ a : Int, -76 ≤ a → a ≤ -50 → mL h a = ((sby (-50 - a).toNat).length : Int) ∧ ∀ j : Nat, j < (sby (-50 - a).toNat).length → mR h a j = (sby (-50 - a).toNat).getD j 0)
  ∧ mL h (-100) = L ∧ ∀ j : Nat, j < L → mR h (-100) j = (xs j).toInt
def okH (g : Gx) (h : Hp) : Prop := okStat (gS g).2.1 (gS g).2.2 h ∧ (∀ a : Int, 1 ≤ a → a ≤ h.1.1 → okCell (mK h a) (mL h a) (mR h a)) ∧ (mK h 0 = 0) ∧ (∀ a : Int, (h.1.1 : Int) < a → mK h a = 0)
theorem flds_get (g : Gx) (f : Int → Int) : ∀ (ts : List Nat) (j k : Nat), (flds g f j ts)[k]? = (ts[k]?).map (fun t => cv g (fvT t (f ((j + k : Nat) : Int))))
  | [], j, k => by simp [flds]
  | t :: ts, j, 0 => by simp [flds]
  | t :: ts, j, k + 1 => by
    simp only [flds, List.getElem?_cons_succ]
    rw [flds_get g f ts (j + 1) k]
    have : j + 1 + k = j + (k + 1) := by omega
    rw [this]
theorem flds_len (g : Gx) (f : Int → Int) : ∀ (ts : List Nat) (j : Nat), (flds g f j ts).length = ts.length
  | [], _ => rfl
  | _ :: ts, j => by simp [flds, flds_len g f ts (j + 1)]
theorem flds_set (g : Gx) (f : Int → Int) (ts : List Nat) (k t : Nat) (v : Int) (hk : ts[k]? = some t) : flds g (fun j => if j = (k : Int) then v else f j) 0 ts = (flds g f 0 ts).set k (cv g (fvT t v)) := by
  apply List.ext_getElem?
  intro i
  rw [List.getElem?_set, flds_get, flds_get, flds_len]
  have hl := (List.getElem?_eq_some_iff.mp hk).1
  by_cases e : k = i
  · subst e
    simp [hl, (List.getElem?_eq_some_iff.mp hk).2]
  · have : ¬ ((i : Int) = (k : Int)) := by omega
    simp [e, this]
theorem wsO_get {g : Gx} {h : Hp} {a : Int} (h1 : 1 ≤ a) (h2 : a ≤ h.1.1) : (wsO g h)[a.toNat - 1]? = some (gB g + (a.toNat - 1), enE g (mK h a) (mL h a) (mR h a)) := by
  unfold wsO
  rw [List.getElem?_map, List.getElem?_range (by omega)]
  have e : ((a.toNat - 1 : Nat) : Int) + 1 = a := by omega
  simp only [Option.map_some, e]
theorem wsO_len (g : Gx) (h : Hp) : (wsO g h).length = h.1.1 := by simp [wsO]
theorem wsO_D (g : Gx) (h : Hp) : va_D (fun q => gB g ≤ q) (wsO g h) := by
  have key : ∀ (k : Nat) (q : Nat × va_E), (wsO g h)[k]? = some q → q.1 = gB g + k := by
    intro k q hk
    unfold wsO at hk
    rw [List.getElem?_map] at hk
    cases hr : (List.range h.1.1)[k]? with
    | none => rw [hr] at hk; cases hk
    | some i =>
      rw [hr] at hk
      have := List.getElem?_eq_some_iff.mp hr
      obtain ⟨hl, he⟩ := this
      rw [List.getElem_range] at he
      subst he
      cases hk
      rfl
  refine ⟨fun i j p q hi hj hpq => ?_, fun k q hk => ?_⟩
  · have a := key i p hi
    have b := key j q hj
    omega
  · rw [key k q hk]; omega
theorem wsO_set {g : Gx} {h h' : Hp} {a : Int} {e : va_E} (h1 : 1 ≤ a) (h2 : a ≤ h.1.1) (ht : h'.1.1 = h.1.1) (he : enE g (mK h' a) (mL h' a) (mR h' a) = e) (ho : ∀ b : Int, b ≠ a → mK h' b = mK h b ∧ mL h' b = mL h b ∧ mR h' b = mR h b) : wsO g h' = (wsO g h).set (a.toNat - 1) (gB g + (a.toNat - 1), e) := by
  subst he
  apply List.ext_getElem?
  intro i
  rw [List.getElem?_set, wsO_len]
  unfold wsO
  rw [List.getElem?_map, List.getElem?_map, ht]
  by_cases hi : i < h.1.1
  · rw [List.getElem?_range hi]
    by_cases e : a.toNat - 1 = i
    · have e2 : (i : Int) + 1 = a := by omega
      rw [if_pos e, if_pos (by omega)]
      simp only [Option.map_some, e2, e]
    · rw [if_neg e]
      obtain ⟨q1, q2, q3⟩ := ho ((i : Int) + 1) (by omega)
      simp only [Option.map_some, q1, q2, q3]
  · rw [List.getElem?_eq_none (by simpa using hi)]
    by_cases e : a.toNat - 1 = i
    · omega
    · rw [if_neg e]; rfl
theorem wsO_push {g : Gx} {h h' : Hp} {e : va_E} (ht : h'.1.1 = h.1.1 + 1) (he : enE g (mK h' ((h.1.1 : Int) + 1)) (mL h' ((h.1.1 : Int) + 1)) (mR h' ((h.1.1 : Int) + 1)) = e) (ho : ∀ b : Int, b ≠ (h.1.1 : Int) + 1 → mK h' b = mK h b ∧ mL h' b = mL h b ∧ mR h' b = mR h b) : wsO g h' = wsO g h ++ [(gB g + h.1.1, e)] := by
  subst he
  unfold wsO
  rw [ht, List.range_succ, List.map_append]
  congr 1
  apply List.map_congr_left
  intro i hi
  obtain ⟨q1, q2, q3⟩ := ho ((i : Int) + 1) (by have := List.mem_range.mp hi; omega)
  rw [q1, q2, q3]
theorem mR_mW (h : Hp) (a i v b j : Int) : mR (mW h a i v) b j = if b = a ∧ j = i then v else mR h b j := rfl
theorem mK_mW (h : Hp) (a i v b : Int) : mK (mW h a i v) b = mK h b := rfl
theorem mL_mW (h : Hp) (a i v b : Int) : mL (mW h a i v) b = mL h b := rfl
theorem mR_mC (h : Hp) (s sp d dp n b j : Int) : mR (mC h s sp d dp n) b j = if b = d ∧ dp ≤ j ∧ j < dp + n then mR h s (sp + (j - dp)) else mR h b j := rfl
theorem mK_mC (h : Hp) (s sp d dp n b : Int) : mK (mC h s sp d dp n) b = mK h b := rfl
theorem mL_mC (h : Hp) (s sp d dp n b : Int) : mL (mC h s sp d dp n) b = mL h b := rfl
theorem mR_mA (h : Hp) (c : Int) (n : Nat) (b j : Int) : mR (mA h c n) b j = if b = mT h + 1 then 0 else mR h b j := rfl
theorem mK_mA (h : Hp) (c : Int) (n : Nat) (b : Int) : mK (mA h c n) b = if b = mT h + 1 then c else mK h b := by
  unfold mK mA mT; by_cases e : b = (h.1.1 : Int) + 1 <;> simp [e]
theorem mL_mA (h : Hp) (c : Int) (n : Nat) (b : Int) : mL (mA h c n) b = if b = mT h + 1 then (n : Int) else mL h b := by
  unfold mL mA mT; by_cases e : b = (h.1.1 : Int) + 1 <;> simp [e]
/-- a kind of a heap object, or of an array of values, tells that the address is of a made cell, or of a given thing -/
theorem okH.pos {g : Gx} {h : Hp} (H : okH g h) {a : Int} (hk : mK h a ≠ 0) (h0 : 0 ≤ a) : 1 ≤ a ∧ a ≤ h.1.1 := by
  obtain ⟨-, -, h3, h4⟩ := H
  refine ⟨?_, ?_⟩
  · rcases Int.lt_or_le a 1 with q | q
    · have : a = 0 := by omega
      rw [this, h3] at hk
      exact absurd rfl hk
    · exact q
  · rcases Int.lt_or_le (h.1.1 : Int) a with q | q
    · rw [h4 a q] at hk
      exact absurd rfl hk
    · exact q
theorem okH.obj {g : Gx} {h : Hp} (H : okH g h) {a c : Int} (hk : mK h a = c) (h1 : 1 ≤ c) (h2 : c ≤ 12) : 1 ≤ a ∧ a ≤ h.1.1 := by
  rcases Int.lt_or_le a 0 with q | q
  · rcases H.1.1 a q with z | ⟨z, -⟩ | ⟨z, -⟩ | ⟨z, -⟩ <;> omega
  · exact H.pos (by omega) q
