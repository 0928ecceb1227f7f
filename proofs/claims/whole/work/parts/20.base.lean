/-! The ground of soundness: words, base facts, contracts, rooms. -/
def tblG : List Jvm.Cond := lw_tbl.filter goodWord
theorem wAt_mem {i : Nat} {w : Jvm.Cond} (h : wAt i w = true) : w ∈ tblG ∧ goodWord w = true := by
  unfold wAt at h
  rw [Bool.and_eq_true] at h
  exact ⟨List.mem_filter.mpr ⟨List.mem_of_getElem? (of_decide_eq_true h.1), h.2⟩, h.2⟩
theorem wNs_mem {i : Nat} {w : Jvm.Cond} (h : wNs i w = true) : w ∈ lw_tbl := List.mem_of_getElem? (of_decide_eq_true h)
theorem good_tblG : ∀ w ∈ tblG, (w.onTables && w.keeps) = true ∨ ∃ ty, w = .arrayClass ty := fun w hw => good_of_word (List.mem_filter.mp hw).2
def isNest : Jvm.Cond → Bool
  | .methodLinkNest .. => true
  | _ => false
abbrev AB (g : Gx) : Nat → Prop := fun q => gB g ≤ q
def tyA (g : Gx) : List (ClassId × FieldType) := [(gA g 101, .byte), (gA g 102, .int), (gA g 103, .long), (gA g 104, .boolean), (gA g 111, .object "LadderSky$Catalogue"), (gA g 112, .object "LadderSky$House"), (gA g 113, .object "LadderSky$Sky"), (gA g 114, .object "LadderSky$Saying"), (gA g 115, .object "LadderSky$Told")]
def stI (i : Nat) : String × Nat × String := stL.getD i ("", 0, "")
def StrAt (g : Gx) (i : Nat) (U : State) (H : Heap) : Prop := vk_R (stI i).1 (stI i).2.1 (stI i).2.2 (gK g i) U ∧ va_O "java/lang/String" (gK g i) (AB g) U H ∧ va_OF "java/lang/String" "coder" "B" (.int 0) (gK g i) (AB g) U H ∧ va_OF "java/lang/String" "value" "[B" (.ref (gV g i)) (gK g i) (AB g) U H ∧ va_T .byte (gV g i) (sby i).length (fun j => .int (Int32.ofInt ((sby i).getD j 0))) (AB g) U H
def Bs (g : Gx) (U : State) (H : Heap) : Prop :=
  va_K (gD g) clsO (tyA g) U ∧ (∀ w ∈ lw_tbl, isNest w = true → va_Nw w U) ∧ (∀ q ∈ aoL, va_AO q.1 U) ∧ (∀ i, i < 27 → StrAt g i U H)
  ∧ va_Z "java/lang/String" "COMPACT_STRINGS" "Z" (.int 1) (AB g) U H ∧ va_Z "jdk/internal/util/Preconditions" "SIOOBE_FORMATTER" "Ljava/util/function/BiFunction;" (gF g) (AB g) U H
  ∧ va_X (gS g).1 (gS g).2.1 (gS g).2.2 U H ∧ (gS g).1 < gB g ∧ gB g ≤ H.size ∧ (gF g = .null ∨ ∃ t, gF g = .ref t)
theorem StrAt.kept {g : Gx} {i : Nat} {U : State} {H H1 : Heap} (h : StrAt g i U H) (hq : ∀ a : Nat, a < H.size → ¬ AB g a → H1[a]? = H[a]?) : StrAt g i U H1 := ⟨h.1, h.2.1.kept hq, h.2.2.1.kept hq, h.2.2.2.1.kept hq, h.2.2.2.2.kept hq⟩
theorem Bs.kept {g : Gx} {U : State} {H H1 : Heap} (h : Bs g U H) (hz : H.size ≤ H1.size) (hq : ∀ a : Nat, a < H.size → ¬ AB g a → H1[a]? = H[a]?) : Bs g U H1 := by
  obtain ⟨h1, h2, h3, h4, h5, h6, h7, h8, h9, h10⟩ := h
  exact ⟨h1, h2, h3, fun i hi => (h4 i hi).kept hq, h5.kept hq, h6.kept hq, h7.kept (hq _ (by omega) (by show ¬ gB g ≤ _; omega)), h8, by omega, h10⟩
theorem nest_form {w : Jvm.Cond} (h : isNest w = true) : ∃ a i x n, w = .methodLinkNest a i x n := by
  cases w <;> simp [isNest] at h
  exact ⟨_, _, _, _, rfl⟩
theorem Bs.warm {g : Gx} {s U : State} {H : Heap} (hW : s.WarmedH U.vm) (h : Bs g s H) : Bs g U H := by
  obtain ⟨h1, h2, h3, h4, h5, h6, h7, h8⟩ := h
  have ha := hW.alike
  refine ⟨h1.moved ha, fun w hw hn => ?_, fun q hq => (h3 q hq).moved ha, fun i hi => ?_, h5.moved ha, h6.moved ha, h7.moved ha, h8⟩
  · obtain ⟨a, i, x, n, rfl⟩ := nest_form hn
    exact va_Nw.warmM hW (h2 _ hw hn)
  · obtain ⟨q1, q2, q3, q4, q5⟩ := h4 i hi
    exact ⟨q1.warm hW, q2.moved ha, q3.moved ha, q4.moved ha, q5.moved ha⟩
theorem Bs.same {g : Gx} {s U : State} {H : Heap} (hv : U.vm = s.vm) (h : Bs g s H) : Bs g U H := by
  obtain ⟨h1, h2, h3, h4, h5, h6, h7, h8⟩ := h
  have ha : s.vm.Alike U.vm := by rw [hv]; exact Vm.Alike.refl _
  refine ⟨h1.moved ha, fun w hw hn => ?_, fun q hq => (h3 q hq).moved ha, fun i hi => ?_, h5.moved ha, h6.moved ha, h7.moved ha, h8⟩
  · obtain ⟨a, i, x, n, rfl⟩ := nest_form hn
    exact va_Nw.same rfl hv.symm (h2 _ hw hn)
  · obtain ⟨q1, q2, q3, q4, q5⟩ := h4 i hi
    exact ⟨q1.same hv, q2.moved ha, q3.moved ha, q4.moved ha, q5.moved ha⟩
def RelH (g : Gx) (h : Hp) (H : Heap) : Prop := va_P (gD g) clsO (wsO g h) H ∧ okH g h
def rtTV (rt : Nat) (r : Int) : TV := if rt = 2 then vL r else if rt = 3 then vR r else vI r
def rtV (g : Gx) (rt : Nat) (r : Int) : Option Value := if rt = 0 then none else some (cv g (rtTV rt r))
def PcG (g : Gx) (h : Hp) (as : List TV) : Array Value → State → Prop := fun v U => v = (as.map (cv g)).toArray ∧ (∀ x ∈ as, okv x) ∧ RelH g h U.heap ∧ Bs g U U.heap ∧ U.heap.size = gB g + h.1.1
def QcG (g : Gx) (rt : Nat) (r : Int) (h' : Hp) : Array Value → State → Outcome → State → Prop := fun _ st o t => o = .returned (rtV g rt r) ∧ RelH g h' t.heap ∧ okv (rtTV rt r) ∧ va_F (AB g) st t
def rmD (mn mc ms : Nat) : Room := { frames := mn + 1, cells := mc, slots := ms, locals := 100 * mn + 100 }
noncomputable def wsM (mn : Nat) : List Jvm.Cond := .code (ynm mn) (byt mn) (mxl mn) (rtT mn) :: tblG
/-- the contract of a call -/
def MetC (g : Gx) (l : Launch) (mn : Nat) (as : List TV) (h : Hp) (r : Int) (h' : Hp) : Prop := Met l (ynm mn) (wsM mn) (rmD mn (h'.1.1 - h.1.1) (h'.1.2 - h.1.2)) (PcG g h as) (QcG g (rtM mn) r h') (h'.1.1 - h.1.1) (h'.1.2 - h.1.2) (AB g)
theorem PcG_blind (g : Gx) (h : Hp) (as : List TV) : FrameBlind (PcG g h as) := fun a U gg mk q => ⟨q.1, q.2.1, q.2.2.1, Bs.same (s := U) rfl q.2.2.2.1, q.2.2.2.2⟩
/-- what a walk of a method's body stands on -/
def Cx (g : Gx) (mn : Nat) (p : Program) (R : Room) (s : State) (m : MethodId) (args : Array Value) (meth : Method) (c : Code) : Prop :=
  p.tables.exec = Jvm.exec ∧ c.code = byt mn ∧ c.maxLocals = mxl mn ∧ s.vm.findClass (cnm (ow mn)) = some m.cls ∧ (∀ w ∈ tblG, w.before args s = true) ∧ Bs g s s.heap ∧ ((nmD mn).1 = "<init>" → meth.name = "<init>") ∧ mn + 1 ≤ R.frames ∧ 100 * mn + 100 ≤ R.locals
def lvK (g : Gx) (Ls : Array Slot) (ls : List (Option TV)) : Prop := Ls.size = ls.length ∧ lv_wf Ls ∧ ∀ i v, gl ls i = some v → Ls[i]? = some (.val (cv g v)) ∧ okv v
def prs (g : Gx) : Nat → List (Option TV) → List (Nat × Value)
  | _, [] => []
  | j, none :: ls => prs g (j + 1) ls
  | j, some v :: ls => (j, cv g v) :: prs g (j + 1) ls
theorem prs_in (g : Gx) : ∀ (ls : List (Option TV)) (j i : Nat) (v : TV), gl ls i = some v → (j + i, cv g v) ∈ prs g j ls
  | [], _, _, _, h => by simp [gl] at h
  | none :: ls, j, 0, v, h => by simp [gl] at h
  | some w :: ls, j, 0, v, h => by simp [gl] at h; subst h; simp [prs]
  | none :: ls, j, i + 1, v, h => by
    have := prs_in g ls (j + 1) i v h
    rw [show j + 1 + i = j + (i + 1) by omega] at this
    exact this
  | some w :: ls, j, i + 1, v, h => by
    have := prs_in g ls (j + 1) i v h
    rw [show j + 1 + i = j + (i + 1) by omega] at this
    exact List.mem_cons_of_mem _ this
theorem prs_of (g : Gx) : ∀ (ls : List (Option TV)) (j : Nat) (q : Nat × Value), q ∈ prs g j ls → ∃ i v, q = (j + i, cv g v) ∧ gl ls i = some v
  | [], _, q, h => by simp [prs] at h
  | none :: ls, j, q, h => by
    obtain ⟨i, v, e, hg⟩ := prs_of g ls (j + 1) q h
    exact ⟨i + 1, v, by rw [e]; congr 1; omega, hg⟩
  | some w :: ls, j, q, h => by
    rcases List.mem_cons.mp h with rfl | h
    · exact ⟨0, w, rfl, rfl⟩
    · obtain ⟨i, v, e, hg⟩ := prs_of g ls (j + 1) q h
      exact ⟨i + 1, v, by rw [e]; congr 1; omega, hg⟩
theorem lvK.has {g : Gx} {Ls : Array Slot} {ls : List (Option TV)} (h : lvK g Ls ls) : lv_has Ls ls.length (prs g 0 ls) := by
  refine ⟨h.1, h.2.1, fun q hq => ?_⟩
  obtain ⟨i, v, e, hg⟩ := prs_of g ls 0 q hq
  rw [e]
  simpa using (h.2.2 i v hg).1
theorem gl_sl (x : Option TV) : ∀ (ls : List (Option TV)) (i j : Nat), gl (sl ls i x) j = if j = i ∧ i < ls.length then x else gl ls j
  | [], i, j => by simp [sl, gl]
  | a :: ls, 0, 0 => by simp [sl, gl]
  | a :: ls, 0, j + 1 => by simp [sl, gl]
  | a :: ls, i + 1, 0 => by simp [sl, gl]
  | a :: ls, i + 1, j + 1 => by
    simp only [sl, gl, List.length_cons]
    rw [gl_sl x ls i j]
    by_cases h : j = i ∧ i < ls.length
    · rw [if_pos h, if_pos (by omega)]
    · rw [if_neg h, if_neg (by omega)]
theorem sl_len (x : Option TV) : ∀ (ls : List (Option TV)) (i : Nat), (sl ls i x).length = ls.length
  | [], _ => rfl
  | _ :: ls, 0 => rfl
  | _ :: ls, i + 1 => by simp [sl, sl_len x ls i]
theorem kl_len (ls : List (Option TV)) : ∀ i, (kl ls i).length = ls.length
  | 0 => rfl
  | i + 1 => by
    show (if isLong (gl ls i) = true then sl ls i none else ls).length = ls.length
    split
    · exact sl_len _ _ _
    · rfl
theorem cat_cv (g : Gx) (v : TV) (hF : gF g = .null ∨ ∃ t, gF g = .ref t) : (cv g v).category = cat1 v := by
  rcases v with x | x | x
  · rfl
  · rfl
  · show (cvR g x).category = 1
    unfold cvR
    split
    · rfl
    · split
      · rfl
      · split
        · rfl
        · split
          · rcases hF with h | ⟨t, h⟩ <;> rw [h] <;> rfl
          · split <;> rfl
theorem gl_kl {ls : List (Option TV)} {i j : Nat} {v : TV} (h : gl (kl ls i) j = some v) : gl ls j = some v ∧ ¬ (j + 1 = i ∧ cat1 v = 2) := by
  cases i with
  | zero => exact ⟨h, by omega⟩
  | succ i =>
    replace h : gl (if isLong (gl ls i) = true then sl ls i none else ls) j = some v := h
    by_cases hl : isLong (gl ls i) = true
    · rw [if_pos hl, gl_sl] at h
      by_cases e : j = i ∧ i < ls.length
      · rw [if_pos e] at h; cases h
      · rw [if_neg e] at h
        refine ⟨h, fun q => ?_⟩
        have e1 : j = i := by omega
        subst e1
        have : ¬ j < ls.length := fun z => e ⟨rfl, z⟩
        have hn : ∀ (l : List (Option TV)) (k : Nat), l.length ≤ k → gl l k = none := by
          intro l
          induction l with
          | nil => intro k _; rfl
          | cons a l ih =>
            intro k hk
            cases k with
            | zero => simp at hk
            | succ k => exact ih k (by simpa using hk)
        rw [hn ls j (by omega)] at h
        cases h
    · rw [if_neg hl] at h
      refine ⟨h, fun q => ?_⟩
      have e1 : j = i := by omega
      subst e1
      rw [h] at hl
      rcases v with x | x | x
      · simp [cat1] at q
      · exact hl rfl
      · simp [cat1] at q
theorem lvK.store1 {g : Gx} {Ls : Array Slot} {ls ls' : List (Option TV)} {i : Nat} {v : TV} (hF : gF g = .null ∨ ∃ t, gF g = .ref t) (h : lvK g Ls ls) (hs : st1 ls i v = some ls') (hc : cat1 v = 1) (hv : okv v) : i < ls.length ∧ ls'.length = ls.length ∧ ∀ Ls' : Array Slot, lv_has Ls' ls.length ((i, cv g v) :: (prs g 0 ls).filter (fun q => !(q.1 == i) && !(q.1 + 1 == i && q.2.category == 2))) → lvK g Ls' ls' := by
  unfold st1 at hs
  by_cases hi : i < ls.length
  case neg => rw [if_neg hi] at hs; cases hs
  rw [if_pos hi] at hs
  cases hs
  refine ⟨hi, by rw [sl_len, kl_len], fun Ls' hL => ⟨by rw [sl_len, kl_len]; exact hL.1, hL.2.1, fun j w hw => ?_⟩⟩
  rw [gl_sl, kl_len] at hw
  by_cases e : j = i ∧ i < ls.length
  · rw [if_pos e] at hw
    cases hw
    obtain ⟨rfl, -⟩ := e
    exact ⟨hL.2.2 (j, cv g v) List.mem_cons_self, hv⟩
  · rw [if_neg e] at hw
    obtain ⟨h1, h2⟩ := gl_kl hw
    refine ⟨hL.2.2 (j, cv g w) (List.mem_cons_of_mem _ (List.mem_filter.mpr ⟨by simpa using prs_in g ls 0 j w h1, ?_⟩)), (h.2.2 j w h1).2⟩
    have e1 : ¬ j = i := fun q => e ⟨q, hi⟩
    simp only [cat_cv g w hF, Bool.and_eq_true, Bool.not_eq_true', beq_eq_false_iff_ne, ne_eq, Bool.and_eq_false_iff]
    refine ⟨e1, ?_⟩
    by_cases q : j + 1 = i
    · exact Or.inr (fun z => h2 ⟨q, z⟩)
    · exact Or.inl q
theorem lvK.store2 {g : Gx} {Ls : Array Slot} {ls ls' : List (Option TV)} {i : Nat} {v : TV} (hF : gF g = .null ∨ ∃ t, gF g = .ref t) (h : lvK g Ls ls) (hs : st2 ls i v = some ls') (hv : okv v) : i + 1 < ls.length ∧ ls'.length = ls.length ∧ ∀ Ls' : Array Slot, lv_has Ls' ls.length ((i, cv g v) :: (prs g 0 ls).filter (fun q => !(q.1 == i) && (!(q.1 == i + 1) && !(q.1 + 1 == i && q.2.category == 2)))) → lvK g Ls' ls' := by
  unfold st2 at hs
  by_cases hi : i + 1 < ls.length
  case neg => rw [if_neg hi] at hs; cases hs
  rw [if_pos hi] at hs
  cases hs
  refine ⟨hi, by rw [sl_len, sl_len, kl_len], fun Ls' hL => ⟨by rw [sl_len, sl_len, kl_len]; exact hL.1, hL.2.1, fun j w hw => ?_⟩⟩
  rw [gl_sl, sl_len, kl_len] at hw
  by_cases e2 : j = i + 1 ∧ i + 1 < ls.length
  · rw [if_pos e2] at hw; cases hw
  rw [if_neg e2, gl_sl, kl_len] at hw
  by_cases e : j = i ∧ i < ls.length
  · rw [if_pos e] at hw
    cases hw
    obtain ⟨rfl, -⟩ := e
    exact ⟨hL.2.2 (j, cv g v) List.mem_cons_self, hv⟩
  · rw [if_neg e] at hw
    obtain ⟨h1, h2⟩ := gl_kl hw
    refine ⟨hL.2.2 (j, cv g w) (List.mem_cons_of_mem _ (List.mem_filter.mpr ⟨by simpa using prs_in g ls 0 j w h1, ?_⟩)), (h.2.2 j w h1).2⟩
    have e1 : ¬ j = i := fun q => e ⟨q, by omega⟩
    have e3 : ¬ j = i + 1 := fun q => e2 ⟨q, hi⟩
    simp only [cat_cv g w hF, Bool.and_eq_true, Bool.not_eq_true', beq_eq_false_iff_ne, ne_eq, Bool.and_eq_false_iff]
    refine ⟨e1, e3, ?_⟩
    by_cases q : j + 1 = i
    · exact Or.inr (fun z => h2 ⟨q, z⟩)
    · exact Or.inl q
theorem mskL_gl : ∀ (bs : List Bool) (ls : List (Option TV)) (i : Nat) (v : TV), gl (mskL bs ls) i = some v → gl ls i = some v
  | [], ls, i, v, h => by simp [mskL, gl] at h
  | true :: _, [], i, v, h => by simp [mskL, gl] at h
  | false :: _, [], i, v, h => by simp [mskL, gl] at h
  | true :: bs, a :: ls, 0, v, h => h
  | false :: bs, a :: ls, 0, v, h => by simp [mskL, gl] at h
  | true :: bs, a :: ls, i + 1, v, h => mskL_gl bs ls i v h
  | false :: bs, a :: ls, i + 1, v, h => mskL_gl bs ls i v h
theorem mskL_len : ∀ (bs : List Bool) (ls : List (Option TV)), bs.length = ls.length → (mskL bs ls).length = ls.length
  | [], [], _ => rfl
  | [], _ :: _, h => by simp at h
  | true :: _, [], h => by simp at h
  | false :: _, [], h => by simp at h
  | true :: bs, a :: ls, h => by simp [mskL, mskL_len bs ls (by simpa using h)]
  | false :: bs, a :: ls, h => by simp [mskL, mskL_len bs ls (by simpa using h)]
def tyOK (t : Nat) (ty : FieldType) : Bool := match t, ty with
  | 0, .int => true
  | 1, .long => true
  | 2, .object _ => true
  | 2, .array _ => true
  | 3, .boolean => true
  | _, _ => false
set_option maxRecDepth 100000 in
theorem clF_in : (List.range 12).all (fun ci => (List.range (tgs ci).length).all (fun k => wAt (fdT ci k).2.2.2 (u_lay (cnm ci) (uT ci) k))) = true := by decide +kernel
set_option maxRecDepth 100000 in
theorem clF_ty : (List.range 12).all (fun ci => (List.range (tgs ci).length).all (fun k => decide (parseFieldDescriptor (uT ci k).2.2.1 = some (tyT ci k)) && tyOK ((tgs ci).getD k 0) (tyT ci k))) = true := by decide +kernel
set_option maxRecDepth 100000 in
theorem clF_nm : (List.range 12).all (fun ci => (List.range (tgs ci).length).all (fun a => (List.range (tgs ci).length).all (fun b => decide (a = b) || decide ((uT ci a).2.1 ≠ (uT ci b).2.1)))) = true := by decide +kernel
theorem cl_at {ci : Nat} (h : ci < 12) : clsO[ci]? = some (cnm ci, uT ci, (tgs ci).length) := by
  unfold clsO
  rw [List.getElem?_map, List.getElem?_range h]
  rfl
theorem cl_in {ci : Nat} (h : ci < 12) : ∀ w ∈ u_ws (cnm ci) (uT ci) (tgs ci).length, w ∈ tblG := by
  intro w hw
  unfold u_ws at hw
  obtain ⟨k, hk, rfl⟩ := List.mem_map.mp hw
  exact (wAt_mem (List.all_eq_true.mp (List.all_eq_true.mp clF_in ci (List.mem_range.mpr h)) k hk)).1
theorem cl_ty {ci : Nat} (h : ci < 12) : ∀ k, k < (tgs ci).length → parseFieldDescriptor (uT ci k).2.2.1 = some (tyT ci k) := by
  intro k hk
  have := List.all_eq_true.mp (List.all_eq_true.mp clF_ty ci (List.mem_range.mpr h)) k (List.mem_range.mpr hk)
  rw [Bool.and_eq_true] at this
  exact of_decide_eq_true this.1
theorem cl_tg {ci k t : Nat} (h : ci < 12) (ht : (tgs ci)[k]? = some t) : tyOK t (tyT ci k) = true := by
  have hk := (List.getElem?_eq_some_iff.mp ht).1
  have := List.all_eq_true.mp (List.all_eq_true.mp clF_ty ci (List.mem_range.mpr h)) k (List.mem_range.mpr hk)
  rw [Bool.and_eq_true] at this
  have e : (tgs ci).getD k 0 = t := by rw [List.getD_eq_getElem?_getD, ht]; rfl
  rw [← e]
  exact this.2
theorem cl_nm {ci : Nat} (h : ci < 12) : ∀ a, a < (tgs ci).length → ∀ b, b < (tgs ci).length → a ≠ b → (uT ci a).2.1 ≠ (uT ci b).2.1 := by
  intro a ha b hb hne
  have := List.all_eq_true.mp (List.all_eq_true.mp (List.all_eq_true.mp clF_nm ci (List.mem_range.mpr h)) a (List.mem_range.mpr ha)) b (List.mem_range.mpr hb)
  rw [Bool.or_eq_true] at this
  rcases this with q | q
  · exact absurd (of_decide_eq_true q) hne
  · exact of_decide_eq_true q
