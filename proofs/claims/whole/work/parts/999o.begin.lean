/-! The start: what the Statement gives, as the soundness wants it. -/
def flG : List Jvm.Cond := flatC (Jvm.Cond.and given_1 narrow_1)
def sxL : List Nat := [69, 77, 83, 91, 101, 110, 117, 124, 131, 140, 148, 156, 164, 170, 178, 186, 195, 205, 215, 225, 236, 243, 252, 261, 268, 275, 284]
def sx (i : Nat) : Nat := sxL.getD i 0
def stT (i : Nat) : Jvm.Term := .string (stI i).1 (stI i).2.1
def stV (i : Nat) : Jvm.Term := .field (stT i) "java/lang/String" "value" "[B"
def chkS (i : Nat) : Bool := decide (flG[sx i]? = some (.exactly (stT i) "java/lang/String")) && decide (flG[sx i + 1]? = some (.eq (.field (stT i) "java/lang/String" "coder" "B") (.int 0))) && decide (flG[sx i + 2]? = some (.arrayOf (stV i) .byte)) && decide (flG[sx i + 3]? = some (.eq (.length (stV i)) (.int (Int32.ofNat (sby i).length)))) && (List.range (sby i).length).all (fun j => decide (flG[sx i + 4 + j]? = some (.eq (.elem (stV i) (.int (Int32.ofNat j))) (.int (Int32.ofInt ((sby i).getD j 0)))))) && decide (lw_tbl[stwL.getD i 0]? = some (.stringRef (stI i).1 (stI i).2.1 (stI i).2.2)) && decide ((sby i).length < 2 ^ 31)
set_option maxRecDepth 100000 in
theorem ckS : (List.range 27).all chkS = true := by decide +kernel
set_option maxRecDepth 100000 in
theorem ckI : (List.range 12).all (fun c => decide (lw_tbl[inwL.getD c 0]? = some (.instantiable (cnm c) (tgs c).length))) = true := by decide +kernel
set_option maxRecDepth 100000 in
theorem ckA : aoL.all (fun q => decide (lw_tbl[q.2]? = some (.arrayOver (.object q.1)))) = true := by decide +kernel
set_option maxRecDepth 100000 in
theorem ckB : ([(198, FieldType.byte), (199, FieldType.int), (476, FieldType.long), (491, FieldType.boolean)] : List (Nat × FieldType)).all (fun q => decide (lw_tbl[q.1]? = some (.arrayClass q.2))) = true := by decide +kernel
set_option maxRecDepth 100000 in
theorem ckZ : (decide (lw_tbl[619]? = some (.laysStatic "java/lang/String" "COMPACT_STRINGS" "Z")) && decide (lw_tbl[114]? = some (.initialized "java/lang/String")) && decide (lw_tbl[635]? = some (.laysStatic "jdk/internal/util/Preconditions" "SIOOBE_FORMATTER" "Ljava/util/function/BiFunction;")) && decide (lw_tbl[116]? = some (.initialized "jdk/internal/util/Preconditions")) && decide (flG[4]? = some (.eq (.static "java/lang/String" "COMPACT_STRINGS" "Z") (.int 1))) && decide (flG[5]? = some (.isRef (.static "jdk/internal/util/Preconditions" "SIOOBE_FORMATTER" "Ljava/util/function/BiFunction;")))) = true := by decide +kernel
theorem fl_at {args : Array Value} {s : State} (h : (Jvm.Cond.and given_1 narrow_1).before args s = true) {i : Nat} {w : Jvm.Cond} (e : decide (flG[i]? = some w) = true) : w.before args s = true := flat_of_before _ h w (List.mem_of_getElem? (of_decide_eq_true e))
theorem tb_at {args : Array Value} {s : State} (h : ∀ w ∈ lw_tbl, w.before args s = true) {i : Nat} {w : Jvm.Cond} (e : decide (lw_tbl[i]? = some w) = true) : w.before args s = true := h w (List.mem_of_getElem? (of_decide_eq_true e))
theorem str_at {args : Array Value} {s : State} {A : Nat → Prop} (hgv : (Jvm.Cond.and given_1 narrow_1).before args s = true) (hts : ∀ w ∈ lw_tbl, w.before args s = true) (hA : ∀ a : Nat, a < s.heap.size → ¬ A a) {i : Nat} (hi : i < 27) : ∃ q : Nat × Nat, vk_R (stI i).1 (stI i).2.1 (stI i).2.2 q.1 s ∧ va_O "java/lang/String" q.1 A s s.heap ∧ va_OF "java/lang/String" "coder" "B" (.int 0) q.1 A s s.heap ∧ va_OF "java/lang/String" "value" "[B" (.ref q.2) q.1 A s s.heap ∧ va_T .byte q.2 (sby i).length (fun j => .int (Int32.ofInt ((sby i).getD j 0))) A s s.heap := by
  have k := List.all_eq_true.mp ckS i (List.mem_range.mpr hi)
  unfold chkS at k
  simp only [Bool.and_eq_true] at k
  obtain ⟨⟨⟨⟨⟨⟨k1, k2⟩, k3⟩, k4⟩, k5⟩, k6⟩, k7⟩ := k
  have hex := fl_at hgv k1
  obtain ⟨a, c, cA, kA, q1, -⟩ := Cond.exactly_spec (args := args) (first := s) (o := none) (s := s) (idx := []) (t := stT i) (cls := "java/lang/String") hex
  obtain ⟨t, ht, hT⟩ := va_Tof (tm := stV i) (ty := .byte) (N := (sby i).length) (f := fun j => .int (Int32.ofInt ((sby i).getD j 0))) (A := A) (of_decide_eq_true k7) (fl_at hgv k3) (va_eqt (fl_at hgv k4)) (fun j hj => va_eqt (fl_at hgv (List.all_eq_true.mp k5 j (List.mem_range.mpr hj)))) hA
  exact ⟨(a, t), vk_R.of (tb_at hts k6) q1, va_Oof hex q1 hA, vk_OFof q1 (va_eqt (fl_at hgv k2)) hA, vk_OFof q1 ht hA, hT⟩
theorem cls_at {args : Array Value} {s : State} (hts : ∀ w ∈ lw_tbl, w.before args s = true) {c : Nat} (hc : c < 12) : ∃ q : ClassId × (Nat → Nat), u_Kn s (cnm c) (uT c) (tgs c).length q.1 q.2 := by
  obtain ⟨cC, iS, h⟩ := u_known (ws := tblG) (C := cnm c) (T := uT c) (N := (tgs c).length) (n := (tgs c).length) (fun w hw => hts w (List.mem_filter.mp hw).1) (cl_in hc) (tb_at hts (List.all_eq_true.mp ckI c (List.mem_range.mpr hc)))
  exact ⟨(cC, iS), h⟩
theorem arr_o {args : Array Value} {s : State} {C : String} (h : (Cond.arrayOver (.object C)).before args s = true) : ∃ cA : ClassId, ArrOfT s cA (.object C) ∧ va_RA s cA (.object C) := by
  obtain ⟨comp, c, k, hcomp, hidx, hk, hkind, hname⟩ := Cond.arrayOver_spec (args := args) (first := s) (o := none) (s := s) (idx := []) (n := C) h
  exact ⟨c, fun n z => ⟨fun k h => (by cases h), k, hk, comp, hkind⟩, k, comp, hk, hkind, hcomp, hname⟩
theorem arr_i {args : Array Value} {s : State} (h : (Cond.arrayClass .int).before args s = true) : ∃ cA : ClassId, ArrOfT s cA .int ∧ va_RA s cA .int := by
  obtain ⟨c, k, comp, f1, f2, f3⟩ := Cond.arrayClass_spec (args := args) (first := s) (o := none) (s := s) (idx := []) h
  exact ⟨c, fun n z => ⟨fun k h => (by cases h), k, f2, comp, f3⟩, f1⟩
theorem arr_b {args : Array Value} {s : State} (h : (Cond.arrayClass .byte).before args s = true) : ∃ cA : ClassId, ArrOfT s cA .byte ∧ va_RA s cA .byte := by
  obtain ⟨c, k, comp, f1, f2, f3⟩ := Cond.arrayClass_spec (args := args) (first := s) (o := none) (s := s) (idx := []) h
  exact ⟨c, fun n z => ⟨fun k h => (by cases h), k, f2, comp, f3⟩, f1⟩
theorem arr_l {args : Array Value} {s : State} (h : (Cond.arrayClass .long).before args s = true) : ∃ cA : ClassId, ArrOfT s cA .long ∧ va_RA s cA .long := by
  obtain ⟨c, k, comp, f1, f2, f3⟩ := Cond.arrayClass_spec (args := args) (first := s) (o := none) (s := s) (idx := []) h
  exact ⟨c, fun n z => ⟨fun k h => (by cases h), k, f2, comp, f3⟩, f1⟩
theorem arr_z {args : Array Value} {s : State} (h : (Cond.arrayClass .boolean).before args s = true) : ∃ cA : ClassId, ArrOfT s cA .boolean ∧ va_RA s cA .boolean := by
  obtain ⟨c, k, comp, f1, f2, f3⟩ := Cond.arrayClass_spec (args := args) (first := s) (o := none) (s := s) (idx := []) h
  exact ⟨c, fun n z => ⟨fun k h => (by cases h), k, f2, comp, f3⟩, f1⟩
theorem start_g {args : Array Value} {s : State} {b L : Nat} {xs : Nat → Int32} (hgv : (Jvm.Cond.and given_1 narrow_1).before args s = true) (hts : ∀ w ∈ lw_tbl, w.before args s = true) (hX : va_X b L xs s s.heap) (hbl : b < s.heap.size) : ∃ g : Gx, gB g = s.heap.size ∧ gS g = (b, L, xs) ∧ Bs g s s.heap := by
  have hA : ∀ a : Nat, a < s.heap.size → ¬ (fun q : Nat => s.heap.size ≤ q) a := fun a h => Nat.not_le.mpr h
  have kz := ckZ
  simp only [Bool.and_eq_true] at kz
  obtain ⟨⟨⟨⟨⟨z1, z2⟩, z3⟩, z4⟩, z5⟩, z6⟩ := kz
  have hs : ∀ i : Nat, ∃ q : Nat × Nat, i < 27 → vk_R (stI i).1 (stI i).2.1 (stI i).2.2 q.1 s ∧ va_O "java/lang/String" q.1 (fun q : Nat => s.heap.size ≤ q) s s.heap ∧ va_OF "java/lang/String" "coder" "B" (.int 0) q.1 (fun q : Nat => s.heap.size ≤ q) s s.heap ∧ va_OF "java/lang/String" "value" "[B" (.ref q.2) q.1 (fun q : Nat => s.heap.size ≤ q) s s.heap ∧ va_T .byte q.2 (sby i).length (fun j => .int (Int32.ofInt ((sby i).getD j 0))) (fun q : Nat => s.heap.size ≤ q) s s.heap := fun i => by
    by_cases hi : i < 27
    · obtain ⟨q, hq⟩ := str_at (A := fun q : Nat => s.heap.size ≤ q) hgv hts hA hi
      exact ⟨q, fun _ => hq⟩
    · exact ⟨(0, 0), fun h => absurd h hi⟩
  obtain ⟨ad, had⟩ := Classical.axiomOfChoice hs
  have hc : ∀ c : Nat, ∃ q : ClassId × (Nat → Nat), c < 12 → u_Kn s (cnm c) (uT c) (tgs c).length q.1 q.2 := fun c => by
    by_cases hc : c < 12
    · obtain ⟨q, hq⟩ := cls_at hts hc
      exact ⟨q, fun _ => hq⟩
    · exact ⟨(0, fun _ => 0), fun h => absurd h hc⟩
  obtain ⟨dd, hdd⟩ := Classical.axiomOfChoice hc
  have ka := List.all_eq_true.mp ckA
  have kb := List.all_eq_true.mp ckB
  have oc : ∀ q ∈ aoL, (Cond.arrayOver (.object q.1)).before args s = true := fun q hq => tb_at hts (ka q hq)
  obtain ⟨c101, p101⟩ := arr_b (args := args) (s := s) (tb_at hts (kb (198, FieldType.byte) (by simp)))
  obtain ⟨c102, p102⟩ := arr_i (args := args) (s := s) (tb_at hts (kb (199, FieldType.int) (by simp)))
  obtain ⟨c103, p103⟩ := arr_l (args := args) (s := s) (tb_at hts (kb (476, FieldType.long) (by simp)))
  obtain ⟨c104, p104⟩ := arr_z (args := args) (s := s) (tb_at hts (kb (491, FieldType.boolean) (by simp)))
  obtain ⟨c111, p111⟩ := arr_o (oc ("LadderSky$Catalogue", 133) (by simp [aoL]))
  obtain ⟨c112, p112⟩ := arr_o (oc ("LadderSky$House", 135) (by simp [aoL]))
  obtain ⟨c113, p113⟩ := arr_o (oc ("LadderSky$Sky", 137) (by simp [aoL]))
  obtain ⟨c114, p114⟩ := arr_o (oc ("LadderSky$Saying", 139) (by simp [aoL]))
  obtain ⟨c115, p115⟩ := arr_o (oc ("LadderSky$Told", 361) (by simp [aoL]))
  have hZ := va_Zof (A := fun q : Nat => s.heap.size ≤ q) (tb_at hts z1) (tb_at hts z2) (va_eqt (fl_at hgv z5)) hA
  have hf : ∃ F : Value, (F = .null ∨ ∃ t, F = .ref t) ∧ va_Z "jdk/internal/util/Preconditions" "SIOOBE_FORMATTER" "Ljava/util/function/BiFunction;" F (fun q : Nat => s.heap.size ≤ q) s s.heap := by
    rcases va_Zqof (A := fun q : Nat => s.heap.size ≤ q) (tb_at hts z3) (tb_at hts z4) (fl_at hgv z6) hA with h | ⟨t, h⟩
    · exact ⟨.null, Or.inl rfl, h⟩
    · exact ⟨.ref t, Or.inr ⟨t, rfl⟩, h⟩
  obtain ⟨F, hF, hFz⟩ := hf
  refine ⟨(s.heap.size, (fun c => (dd c).1, fun c => (dd c).2), fun k => if k = 101 then c101 else if k = 102 then c102 else if k = 103 then c103 else if k = 104 then c104 else if k = 111 then c111 else if k = 112 then c112 else if k = 113 then c113 else if k = 114 then c114 else c115, (b, L, xs), fun i => (ad i).1, fun i => (ad i).2, F), rfl, rfl, ⟨fun c q hq => ?_, fun k q hq => ?_⟩, fun w hw hn => ?_, fun q hq => va_AO.of (oc q hq), fun i hi => had i hi, hZ, hFz, hX, hbl, Nat.le_refl _, hF⟩
  · have hc : c < 12 := by
      have := (List.getElem?_eq_some_iff.mp hq).1
      simpa [clsO] using this
    rw [cl_at hc] at hq
    cases hq
    exact hdd c hc
  · match k, hq with
    | 0, hq => cases hq; exact p101
    | 1, hq => cases hq; exact p102
    | 2, hq => cases hq; exact p103
    | 3, hq => cases hq; exact p104
    | 4, hq => cases hq; exact p111
    | 5, hq => cases hq; exact p112
    | 6, hq => cases hq; exact p113
    | 7, hq => cases hq; exact p114
    | 8, hq => cases hq; exact p115
    | k + 9, hq => simp [tyA] at hq
  · obtain ⟨x1, x2, x3, x4, rfl⟩ := nest_form hn
    exact va_Nw.of rfl (hts _ hw)
/-- the first memory: words and script -/
noncomputable def hp0 (L : Nat) (xs : Nat → Int32) : Hp := ((0, 0), fun a => if -36 ≤ a ∧ a ≤ -10 then (50, 0) else if -76 ≤ a ∧ a ≤ -50 then (101, ((sby (-50 - a).toNat).length : Int)) else if a = -100 then (102, (L : Int)) else (0, 0), fun a j => if -36 ≤ a ∧ a ≤ -10 then (if j = 0 then a - 40 else 0) else if -76 ≤ a ∧ a ≤ -50 then (sby (-50 - a).toNat).getD j.toNat 0 else if a = -100 then (xs j.toNat).toInt else 0)
theorem hp0_s {L : Nat} {xs : Nat → Int32} {a : Int} (h0 : -36 ≤ a) (h1 : a ≤ -10) : mK (hp0 L xs) a = 50 ∧ mR (hp0 L xs) a 0 = a - 40 ∧ mR (hp0 L xs) a 1 = 0 := by
  refine ⟨?_, ?_, ?_⟩
  · show (if -36 ≤ a ∧ a ≤ -10 then ((50 : Int), (0 : Int)) else _).1 = _; rw [if_pos ⟨h0, h1⟩]
  · show (if -36 ≤ a ∧ a ≤ -10 then (if (0 : Int) = 0 then a - 40 else 0) else _) = _; rw [if_pos ⟨h0, h1⟩, if_pos rfl]
  · show (if -36 ≤ a ∧ a ≤ -10 then (if (1 : Int) = 0 then a - 40 else 0) else _) = _; rw [if_pos ⟨h0, h1⟩, if_neg n10]
theorem hp0_b {L : Nat} {xs : Nat → Int32} {a : Int} (h0 : -76 ≤ a) (h1 : a ≤ -50) : mK (hp0 L xs) a = 101 ∧ mL (hp0 L xs) a = ((sby (-50 - a).toNat).length : Int) ∧ ∀ j, mR (hp0 L xs) a j = (sby (-50 - a).toNat).getD j.toNat 0 := by
  have n : ¬ (-36 ≤ a ∧ a ≤ -10) := by omega
  refine ⟨?_, ?_, fun j => ?_⟩
  · show (if -36 ≤ a ∧ a ≤ -10 then ((50 : Int), (0 : Int)) else if -76 ≤ a ∧ a ≤ -50 then _ else _).1 = _; rw [if_neg n, if_pos ⟨h0, h1⟩]
  · show (if -36 ≤ a ∧ a ≤ -10 then ((50 : Int), (0 : Int)) else if -76 ≤ a ∧ a ≤ -50 then _ else _).2 = _; rw [if_neg n, if_pos ⟨h0, h1⟩]
  · show (if -36 ≤ a ∧ a ≤ -10 then _ else if -76 ≤ a ∧ a ≤ -50 then _ else _) = _; rw [if_neg n, if_pos ⟨h0, h1⟩]
theorem hp0_x {L : Nat} {xs : Nat → Int32} : mK (hp0 L xs) (-100) = 102 ∧ mL (hp0 L xs) (-100) = L ∧ ∀ j, mR (hp0 L xs) (-100) j = (xs j.toNat).toInt := ⟨rfl, rfl, fun _ => rfl⟩
theorem hp0_n {L : Nat} {xs : Nat → Int32} {a : Int} (h1 : ¬ (-36 ≤ a ∧ a ≤ -10)) (h2 : ¬ (-76 ≤ a ∧ a ≤ -50)) (h3 : a ≠ -100) : mK (hp0 L xs) a = 0 := by
  show (if -36 ≤ a ∧ a ≤ -10 then ((50 : Int), (0 : Int)) else if -76 ≤ a ∧ a ≤ -50 then _ else if a = -100 then _ else (0, 0)).1 = _
  rw [if_neg h1, if_neg h2, if_neg h3]
theorem okH_0 {g : Gx} {b L : Nat} {xs : Nat → Int32} (e : gS g = (b, L, xs)) : okH g (hp0 L xs) := by
  have e1 : (gS g).2.1 = L := by rw [e]
  have e2 : (gS g).2.2 = xs := by rw [e]
  unfold okH
  rw [e1, e2]
  refine ⟨⟨fun a h => ?_, fun a h0 h1 => (hp0_s h0 h1).2, fun a h0 h1 => ⟨(hp0_b h0 h1).2.1, fun j _ => (hp0_b h0 h1).2.2 j⟩, hp0_x.2.1, fun j _ => hp0_x.2.2 j⟩, fun a h0 h1 => ?_, hp0_n (by decide) (by decide) (by decide), fun a h => ?_⟩
  · by_cases q1 : -36 ≤ a ∧ a ≤ -10
    · exact Or.inr (Or.inl ⟨(hp0_s q1.1 q1.2).1, q1⟩)
    · by_cases q2 : -76 ≤ a ∧ a ≤ -50
      · exact Or.inr (Or.inr (Or.inl ⟨(hp0_b q2.1 q2.2).1, q2⟩))
      · by_cases q3 : a = -100
        · exact Or.inr (Or.inr (Or.inr ⟨by rw [q3]; exact hp0_x.1, q3⟩))
        · exact Or.inl (hp0_n q1 q2 q3)
  · have : a ≤ ((0 : Nat) : Int) := h1
    omega
  · have : ((0 : Nat) : Int) < a := h
    exact hp0_n (by omega) (by omega) (by omega)
theorem Str_0 (L : Nat) (xs : Nat → Int32) : Str (hp0 L xs) := fun k hk => by
  have a := hp0_s (L := L) (xs := xs) (a := -10 - (k : Int)) (by omega) (by omega)
  have b := hp0_b (L := L) (xs := xs) (a := -50 - (k : Int)) (by omega) (by omega)
  have e : (-50 - (-50 - (k : Int))).toNat = k := by omega
  rw [e] at b
  exact ⟨a.1, by rw [a.2.1]; omega, a.2.2, b.1, b.2.1, fun j _ => b.2.2 j⟩
theorem Scr_0 (L : Nat) (xs : Nat → Int32) : Scr (hp0 L xs) (-100) L (fun j => (xs j.toNat).toInt) := ⟨by decide, ⟨hp0_x.1, hp0_x.2.1⟩, fun j _ _ => ⟨hp0_x.2.2 j, t32_in _⟩⟩
