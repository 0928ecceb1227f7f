/-! Makings, calls, copies. -/
section SC
variable {g : Gx} {mn : Nat} {p : Program} {l : Launch} {e : Env} {R : Room} {s : State} {m : MethodId} {args : Array Value} {below : List Frame} {meth : Method} {c : Code} {Q : State → Prop} {H : Heap} {locs : List Loc} {cells slots : Nat} {pc : Nat} {Ls : Array Slot} {rest : List Value} {h : Hp}
theorem RelH.size_ge (hr : RelH g h H) (h0 : gB g ≤ H.size) : gB g + h.1.1 ≤ H.size := by
  by_cases e : h.1.1 = 0
  · omega
  · have he := wsO_get (g := g) (h := h) (a := (h.1.1 : Int)) (by omega) (by omega)
    have := (hr.1 _ _ he).lt
    simp only at this
    omega
theorem RelH.mk {c0 : Int} {n : Nat} {H1 : Heap} (hr : RelH g h H) (ok : okH g (mA h c0 n)) (hk : ∀ q, q < gB g + h.1.1 → H1[q]? = H[q]?) (he : va_at (gD g) clsO (gB g + h.1.1, enE g c0 n (fun _ => 0)) H1) : RelH g (mA h c0 n) H1 := by
  refine ⟨?_, ok⟩
  have e : wsO g (mA h c0 n) = wsO g h ++ [(gB g + h.1.1, enE g c0 n (fun _ => 0))] := by
    refine wsO_push rfl ?_ (fun b hb => ?_)
    · have e1 : ((h.1.1 : Int) + 1) = mT h + 1 := rfl
      rw [e1, mK_mA, mL_mA, if_pos rfl, if_pos rfl]
      congr 1
      funext j
      rw [mR_mA, if_pos rfl]
    · have hb' : ¬ b = mT h + 1 := hb
      exact ⟨by rw [mK_mA, if_neg hb'], by rw [mL_mA, if_neg hb'], funext fun j => by rw [mR_mA, if_neg hb']⟩
  rw [e]
  refine va_P.app (hr.1.kept fun k q hq => hk _ ?_) (fun k x hx => ?_)
  · have hl := (List.getElem?_eq_some_iff.mp hq).1
    rw [wsO_len] at hl
    have hq2 := wsO_get (g := g) (h := h) (a := (k : Int) + 1) (by omega) (by omega)
    have e2 : ((k : Int) + 1).toNat - 1 = k := by omega
    rw [e2, hq] at hq2
    cases hq2
    show gB g + k < _
    omega
  · have hz : k < 1 := (List.getElem?_eq_some_iff.mp hx).1
    rw [show k = 0 by omega] at hx
    cases hx
    exact he
theorem dflt_tag {ci k t : Nat} (h : ci < 12) (ht : (tgs ci)[k]? = some t) : defaultValue (tyT ci k) = cv g (fvT t 0) := by
  have := cl_tg h ht
  generalize tyT ci k = ty at this
  unfold tyOK at this
  split at this
  · rfl
  · rfl
  · rfl
  · rfl
  · rfl
  · cases this
theorem okCell_new {c0 : Int} (c1 : 1 ≤ c0) (c2 : c0 ≤ 12) : okCell c0 ((tgs (c0.toNat - 1)).length : Nat) (fun _ => 0) := by
  refine Or.inl ⟨c1, c2, rfl, fun j t _ => ?_⟩
  show rng t 0
  unfold rng
  split
  · exact ⟨by decide, by decide⟩
  · split
    · trivial
    · split
      · exact Or.inl rfl
      · exact ⟨by decide, by decide⟩
theorem so_new (X : Cx g mn p R s m args meth c) {i : Nat} (hdec : decode (byt mn) pc = .ok (.new i, 3)) {c0 : Int} {n : Nat} (c1 : 1 ≤ c0) (c2 : c0 ≤ 12) (hn : n = (tgs (c0.toNat - 1)).length) (hw1 : Jvm.Cond.classLink (cnm (ow mn)) i (cnm (c0.toNat - 1)) ∈ tblG) (hw2 : Jvm.Cond.instantiable (cnm (c0.toNat - 1)) n ∈ tblG) (hw3 : Jvm.Cond.initialized (cnm (c0.toNat - 1)) ∈ tblG) (hr : RelH g h H) (hS : va_S (AB g) s.heap H locs) (hsz : H.size = gB g + h.1.1) (hc : cells + 1 ≤ R.cells) (hs : slots + n ≤ R.slots)
    (kk : ∀ H1, RelH g (mA h c0 n) H1 → va_S (AB g) s.heap H1 locs → W p l e R s m args below meth c H1 locs (cells + 1) (slots + n) Q (F0 m (pc + 3) Ls (cvR g (mT h + 1) :: rest))) : W p l e R s m args below meth c H locs cells slots Q (F0 m pc Ls rest) := by
  obtain ⟨hx0, hb, hml, hown, hts, hBs, hini, hfr, hlo⟩ := X
  have hci : c0.toNat - 1 < 12 := by omega
  have hKn := hBs.1.1 _ _ (cl_at hci)
  refine W.newcK hx0 hb hown (hts _ hw1) (hts _ hw2) (hts _ hw3) rfl hdec hc hs hKn.2.1 hsz fun H1 kC hkC e1 z1 o1 => ?_
  have e3 : cvR g (mT h + 1) = .ref (gB g + h.1.1) := by
    rw [cvR_pos (by unfold mT; omega)]
    unfold mT
    congr 2
  have hgs : gB g ≤ H.size := by omega
  have := kk H1 (hr.mk (hr.2.mk (by rw [hn]; exact okCell_new c1 c2)) o1 ?_) ⟨by have := hS.1; omega, fun q q1 q2 => (o1 q (by have := hS.1; omega)).trans (hS.2.1 q q1 q2), hS.2.2⟩
  · rw [e3] at this
    exact this
  · rw [enE_obj c2]
    refine ⟨_, cl_at hci, (u_born (tyT (c0.toNat - 1)) hts (cl_in hci) hKn hkC e1 (cl_ty hci)).to fun j hj => ?_⟩
    have ht : (tgs (c0.toNat - 1))[j]? = some (tgs (c0.toNat - 1))[j] := List.getElem?_eq_getElem hj
    rw [dflt_tag (g := g) hci ht]
    show _ = (flds g _ 0 _).getD j .null
    rw [List.getD_eq_getElem?_getD, flds_get, ht]
    rfl
theorem okCell_arr {k : Int} {n : Nat} (hn : n ≤ 100000) (hk : k = 101 ∨ k = 102 ∨ k = 103 ∨ k = 104 ∨ (111 ≤ k ∧ k ≤ 115)) : okCell k (n : Int) (fun _ => 0) := by
  refine Or.inr ⟨by omega, by omega, ?_⟩
  rcases hk with q | q | q | q | q
  · exact Or.inl ⟨q, fun _ _ _ => (show (-128 : Int) ≤ 0 ∧ (0 : Int) ≤ 127 by decide)⟩
  · exact Or.inr (Or.inl ⟨q, fun _ _ _ => (show in32 0 from ⟨by decide, by decide⟩)⟩)
  · exact Or.inr (Or.inr (Or.inl ⟨q, fun _ _ _ => (show in64 0 from ⟨by decide, by decide⟩)⟩))
  · exact Or.inr (Or.inr (Or.inr (Or.inl ⟨q, fun _ _ _ => Or.inl rfl⟩)))
  · exact Or.inr (Or.inr (Or.inr (Or.inr ⟨q.1, q.2, fun _ _ _ => Int.le_refl 0⟩)))
theorem so_newa (X : Cx g mn p R s m args meth c) {t : ArrayType} (hdec : decode (byt mn) pc = .ok (.newarray t, 2)) (hw : Jvm.Cond.arrayClass (newarray.typeOf t) ∈ tblG) (hk : 101 ≤ atK t) {n : Int} (n1 : 0 ≤ n) (n2 : n ≤ 100000) (hr : RelH g h H) (hS : va_S (AB g) s.heap H locs) (hsz : H.size = gB g + h.1.1) (hc : cells + 1 ≤ R.cells) (hs : slots + n.toNat ≤ R.slots)
    (kk : ∀ H1, RelH g (mA h (atK t) n.toNat) H1 → va_S (AB g) s.heap H1 locs → W p l e R s m args below meth c H1 locs (cells + 1) (slots + n.toNat) Q (F0 m (pc + 2) Ls (cvR g (mT h + 1) :: rest))) : W p l e R s m args below meth c H locs cells slots Q (F0 m pc Ls (.int (Int32.ofInt n) :: rest)) := by
  obtain ⟨hx0, hb, hml, hown, hts, hBs, hini, hfr, hlo⟩ := X
  have hin : in32 n := by unfold in32; omega
  have e3 : cvR g (mT h + 1) = .ref (gB g + h.1.1) := by
    rw [cvR_pos (by unfold mT; omega)]
    unfold mT
    congr 2
  have hng : ¬ Int32.ofInt n < 0 := by
    rw [Int32.lt_iff_toInt_lt, o32_t hin]
    have : (0 : Int32).toInt = 0 := by decide
    omega
  have hby : n.toNat * componentBytes (newarray.typeOf t) ≤ 536870912 := by
    have : componentBytes (newarray.typeOf t) ≤ 8 := by cases t <;> decide
    have h2 : n.toNat ≤ 100000 := by omega
    calc n.toNat * componentBytes (newarray.typeOf t) ≤ 100000 * 8 := Nat.mul_le_mul h2 this
      _ ≤ 536870912 := by decide
  refine va_newaK hx0 hb (hts _ hw) rfl hdec rfl hng (o32_cl hin n1) hby hc hs hsz fun H1 cA e1 z1 o1 hAr hNm => ?_
  have hcA : cA = gA g (atK t) := by
    have hk2 : ∀ (t0 : Nat) (ty : FieldType), (tyA g)[t0]? = some (gA g (atK t), ty) → newarray.typeOf t = ty → s.vm.findClass ("[" ++ ty.toString) = some (gA g (atK t)) → cA = gA g (atK t) := by
      intro t0 ty _ h2 h3
      rw [← h2, hNm] at h3
      exact Option.some.inj h3
    cases t with
    | boolean => exact hk2 3 .boolean rfl rfl (hBs.1.2 3 _ rfl).2
    | byte => exact hk2 0 .byte rfl rfl (hBs.1.2 0 _ rfl).2
    | int => exact hk2 1 .int rfl rfl (hBs.1.2 1 _ rfl).2
    | long => exact hk2 2 .long rfl rfl (hBs.1.2 2 _ rfl).2
    | _ => exact absurd hk (by decide)
  subst hcA
  have hkk : atK t = 101 ∨ atK t = 102 ∨ atK t = 103 ∨ atK t = 104 ∨ (111 ≤ atK t ∧ atK t ≤ 115) := by cases t <;> first | exact absurd hk (by decide) | decide
  have := kk H1 (hr.mk (hr.2.mk (okCell_arr (by omega) hkk)) o1 ?_) ⟨by have := hS.1; omega, fun q q1 q2 => (o1 q (by have := hS.1; omega)).trans (hS.2.1 q q1 q2), hS.2.2⟩
  · rw [e3] at this
    exact this
  · rw [enE_arr (by omega)]
    show H1[_]? = some (vp_cell _ _)
    rw [e1]
    have e4 : ((n.toNat : Nat) : Int).toNat = n.toNat := by omega
    rw [e4]
    cases t <;> first | exact absurd hk (by decide) | rfl
theorem aoL_in {k : Int} (k1 : 111 ≤ k) (k2 : k ≤ 115) : ∃ q ∈ aoL, q.1 = kOf (ecK k) := by
  have : k = 111 ∨ k = 112 ∨ k = 113 ∨ k = 114 ∨ k = 115 := by omega
  rcases this with q | q | q | q | q <;> subst q <;> decide +kernel
theorem so_anew (X : Cx g mn p R s m args meth c) {i : Nat} (hdec : decode (byt mn) pc = .ok (.anewarray i, 3)) {k : Int} (k1 : 111 ≤ k) (k2 : k ≤ 115) (hw : Jvm.Cond.classLink (cnm (ow mn)) i (kOf (ecK k)) ∈ tblG) {n : Int} (n1 : 0 ≤ n) (n2 : n ≤ 100000) (hr : RelH g h H) (hS : va_S (AB g) s.heap H locs) (hsz : H.size = gB g + h.1.1) (hc : cells + 1 ≤ R.cells) (hs : slots + n.toNat ≤ R.slots)
    (kk : ∀ H1, RelH g (mA h k n.toNat) H1 → va_S (AB g) s.heap H1 locs → W p l e R s m args below meth c H1 locs (cells + 1) (slots + n.toNat) Q (F0 m (pc + 3) Ls (cvR g (mT h + 1) :: rest))) : W p l e R s m args below meth c H locs cells slots Q (F0 m pc Ls (.int (Int32.ofInt n) :: rest)) := by
  obtain ⟨hx0, hb, hml, hown, hts, hBs, hini, hfr, hlo⟩ := X
  have hin : in32 n := by unfold in32; omega
  have e3 : cvR g (mT h + 1) = .ref (gB g + h.1.1) := by
    rw [cvR_pos (by unfold mT; omega)]
    unfold mT
    congr 2
  have hng : ¬ Int32.ofInt n < 0 := by
    rw [Int32.lt_iff_toInt_lt, o32_t hin]
    have : (0 : Int32).toInt = 0 := by decide
    omega
  obtain ⟨qa, hqa, hqe⟩ := aoL_in k1 k2
  have hover := hBs.2.2.1 qa hqa
  rw [hqe] at hover
  have hcl := o32_cl hin n1
  refine W.anew hx0 hb hown (hts _ hw) (va_AO.use hover) rfl hdec rfl hng (by rw [hcl]; omega) hc (by rw [hcl]; exact hs) fun cA kA comp f1 f2 f3 f4 => ?_
  rw [hcl]
  obtain ⟨t0, ht, c1, c2⟩ := tyA_q (g := g) k1 k2
  have hkO : kOf (ecK k) = cnm ((ecK k).toNat - 1) := by
    unfold kOf
    rw [if_neg (by omega)]
  have hcA : cA = gA g k := by
    obtain ⟨kA', comp', x1, x2, x3, x4⟩ := (hBs.1.2 t0 _ ht).2
    rw [hkO, x4] at f1
    exact (Option.some.inj f1).symm
  subst hcA
  generalize hH1 : H.push ({ cls := gA g k, slots := Array.replicate n.toNat .null, vm := .none } : Cell) = H1
  have z1 : H1.size = H.size + 1 := by rw [← hH1, Array.size_push]
  have e1 : H1[H.size]? = some (arrV (gA g k) n.toNat (fun _ => .null)) := by rw [← hH1, Array.getElem?_push_size, ← arrV_new]
  have o1 : ∀ q, q < H.size → H1[q]? = H[q]? := fun q hq => by rw [← hH1, Array.getElem?_push, if_neg (Nat.ne_of_lt hq)]
  rw [hsz] at e1 o1 z1 ⊢
  have := kk H1 (hr.mk (hr.2.mk (okCell_arr (by omega) (Or.inr (Or.inr (Or.inr (Or.inr ⟨k1, k2⟩)))))) o1 ?_) ⟨by have := hS.1; omega, fun q q1 q2 => (o1 q (by have := hS.1; omega)).trans (hS.2.1 q q1 q2), hS.2.2⟩
  · rw [e3] at this
    exact this
  · rw [enE_arr (by omega), arE_q k1]
    show H1[_]? = some (vp_cell _ _)
    rw [e1]
    have e4 : ((n.toNat : Nat) : Int).toNat = n.toNat := by omega
    rw [e4]
    rfl
theorem run_go {mc ms rt : Nat} {r : Int} {h1 : Hp} {a0 : Array Value} {st0 : List Value} (hr : va_Run p l e R s m args below meth c H locs cells slots mc ms (F0 m pc Ls st0) rest (QcG g rt r h1 a0) (AB g)) (hS : va_S (AB g) s.heap H locs)
    (kk : ∀ H1 locs1, RelH g h1 H1 → okv (rtTV rt r) → va_S (AB g) s.heap H1 locs1 → W p l e R s m args below meth c H1 locs1 (cells + mc) (slots + ms) Q (F0 m (pc + 3) Ls ((rtV g rt r).toList ++ rest))) : W p l e R s m args below meth c H locs cells slots Q (F0 m pc Ls st0) := by
  intro T hT X
  obtain ⟨v, st₀, t, T', L, h0, X', hL, e1, e2, ⟨hv, hrel, hok, hz, hk⟩, st⟩ := hr T hT X
  cases hv
  rw [h0] at hz hk
  rw [← e1] at hrel hz hk
  obtain ⟨t2, a1, b1⟩ := kk T'.heap (locs ++ L) hrel hok ⟨Nat.le_trans hS.1 hz, fun q h1 h2 => (hk q (Nat.lt_of_lt_of_le h1 hS.1) h2).trans (hS.2.1 q h1 h2), fun q hq => by
      rcases List.mem_append.mp hq with h | h
      · exact hS.2.2 q h
      · exact hL q h⟩ T' rfl X'
  exact ⟨t2, st t2 a1, b1⟩
theorem csum_cv (hF : gF g = .null ∨ ∃ t, gF g = .ref t) : ∀ st : List TV, ((st.map (cv g)).map fun v => v.category).sum = csum st
  | [] => rfl
  | v :: st => by
    show (cv g v).category + ((st.map (cv g)).map fun v => v.category).sum = cat1 v + csum st
    rw [cat_cv g v hF, csum_cv hF st]
theorem pre_ok (X : Cx g mn p R s m args meth c) {as : List TV} (hr : RelH g h H) (hS : va_S (AB g) s.heap H locs) (hsz : H.size = gB g + h.1.1) (ho : ∀ v ∈ as, okv v) : ∀ U : State, U.heap = H → s.WarmedH U.vm → PcG g h as (as.map (cv g)).toArray U := by
  intro U hU hW
  refine ⟨rfl, ho, by rw [hU]; exact hr, ?_, by rw [hU]; exact hsz⟩
  rw [hU]
  exact Bs.warm hW (X.2.2.2.2.2.1.kept hS.1 hS.2.1)
/-- what a method's own words say -/
theorem chkM_of {cal : Nat} (hm : chkM cal = true) (h12 : ow cal ≠ 12) : GoodIn tblG (wsM cal) ∧ Jvm.Cond.initialized (cnm (ow cal)) ∈ tblG ∧ (stM cal = true → Jvm.Cond.static (ynm cal) ∈ tblG) ∧ (stM cal = false → Jvm.Cond.instanceMethod (ynm cal) ∈ tblG) ∧ plainName (cnm (ow cal)) = true ∧ mxl cal ≤ 60 ∧ cnm (ow cal) ≠ "java/lang/invoke/MethodHandle" ∧ cnm (ow cal) ≠ "java/lang/invoke/VarHandle" := by
  unfold chkM at hm
  simp only [Bool.or_eq_true, Bool.and_eq_true] at hm
  rcases hm with hm | ⟨⟨⟨⟨⟨h1, h2⟩, h3⟩, h4⟩, h5⟩, h6⟩
  · exact absurd (of_decide_eq_true hm) h12
  · refine ⟨fun w hw => ?_, (wAt_mem h2).1, fun q => ?_, fun q => ?_, h4, of_decide_eq_true h5, (of_decide_eq_true h6).1, (of_decide_eq_true h6).2⟩
    · rcases List.mem_cons.mp hw with rfl | hw
      · exact ⟨(wAt_mem h1).1, good_of_word (wAt_mem h1).2⟩
      · exact ⟨hw, good_tblG w hw⟩
    · rw [if_pos q] at h3; exact (wAt_mem h3).1
    · rw [if_neg (by rw [q]; decide)] at h3; exact (wAt_mem h3).1
theorem rm_ok {R : Room} {cal mn mc ms : Nat} (hlt : cal < mn) (h60 : mxl cal ≤ 60) (hfr : mn + 1 ≤ R.frames) (hlo : 100 * mn + 100 ≤ R.locals) : (rmD cal mc ms).frames + 1 ≤ R.frames ∧ 8 + (mxl cal + 11) + (rmD cal mc ms).locals ≤ R.locals := by
  unfold rmD
  exact ⟨by show cal + 1 + 1 ≤ _; omega, by show 8 + (mxl cal + 11) + (100 * cal + 100) ≤ _; omega⟩
theorem nest_get (X : Cx g mn p R s m args meth c) {i : Nat} {y : MethodName} {k : Nat} (h : wNs k (.methodLinkNest (cnm (ow mn)) i y "LadderSky") = true) : va_Nw (.methodLinkNest (cnm (ow mn)) i y "LadderSky") s := X.2.2.2.2.2.1.2.1 _ (wNs_mem h) rfl
theorem so_callS (X : Cx g mn p R s m args meth c) {i cal n : Nat} (hdec : decode (byt mn) pc = .ok (.invokestatic i, 3)) (hlt : cal < mn) (hm : chkM cal = true) (h12 : ow cal ≠ 12) (hlnk : lnk (ow mn) i cal = true) (hst : stM cal = true) (hn : nprm (ynm cal) = some n) {as rs : List TV} {r : Int} {h1 : Hp} (hM : MetC g l cal as h r h1) (hlen : as.length = n) (ho : ∀ v ∈ as, okv v) (hcs : csum rs ≤ 8) (hr : RelH g h H) (hS : va_S (AB g) s.heap H locs) (hsz : H.size = gB g + h.1.1) (hls : Ls.size = mxl mn) (hroom : cells + (h1.1.1 - h.1.1) ≤ R.cells ∧ slots + (h1.1.2 - h.1.2) ≤ R.slots)
    (kk : ∀ H1 locs1, RelH g h1 H1 → okv (rtTV (rtM cal) r) → va_S (AB g) s.heap H1 locs1 → W p l e R s m args below meth c H1 locs1 (cells + (h1.1.1 - h.1.1)) (slots + (h1.1.2 - h.1.2)) Q (F0 m (pc + 3) Ls ((rtV g (rtM cal) r).toList ++ rs.map (cv g)))) : W p l e R s m args below meth c H locs cells slots Q (F0 m pc Ls ((as.map (cv g)).reverse ++ rs.map (cv g))) := by
  have hpre := pre_ok X hr hS hsz ho
  have hX := X
  obtain ⟨hx0, hb, hml, hown, hts, hBs, hini, hfr, hlo⟩ := X
  obtain ⟨hG, hi1, hs1, -, -, h60, hy1, hy2⟩ := chkM_of hm h12
  have hrm := rm_ok (mc := h1.1.1 - h.1.1) (ms := h1.1.2 - h.1.2) hlt h60 hfr hlo
  have hrs : 2 * (F0 m pc Ls ((as.map (cv g)).reverse ++ rs.map (cv g))).monitorRoom + ((rs.map (cv g)).map fun v => v.category).sum ≤ 8 := lv_room (by rw [csum_cv hBs.2.2.2.2.2.2.2.2.2]; exact hcs)
  unfold lnk at hlnk
  rw [Bool.or_eq_true] at hlnk
  rcases hlnk with hk | hk
  · exact run_go (va_runS ⟨hx0, hb, hml, hown, hts⟩ hM ⟨callB_of n hts hG rfl rfl rfl (hts _ hi1) (hts _ (wAt_mem hk).1) ⟨hy1, hy2, hn⟩ hrm, hts _ (hs1 hst)⟩ ⟨PcG_blind g h as, hpre⟩ rfl (by rw [List.length_map]; exact hlen) hls rfl hrs hdec hroom) hS kk
  · exact run_go (va_runSN ⟨hx0, hb, hml, hown, hts⟩ hM ⟨va_cnB n hts hG rfl rfl rfl (nest_get hX hk) (hts _ hi1) ⟨hy1, hy2, hn⟩ hrm, hts _ (hs1 hst), trivial⟩ ⟨PcG_blind g h as, hpre⟩ rfl (by rw [List.length_map]; exact hlen) hls rfl hrs hdec hroom) hS kk
theorem recv_ok (X : Cx g mn p R s m args meth c) {a c0 : Int} (hr : RelH g h H) (hS : va_S (AB g) s.heap H locs) (hok : mK h a = c0) (hc : (1 ≤ c0 ∧ c0 ≤ 12) ∨ c0 = 50) : ∃ b, cvR g a = .ref b ∧ ∃ cell : Cell, H[b]? = some cell ∧ cell.vm.isStatics = false ∧ s.vm.findClass (kOf c0) = some cell.cls := by
  have hBs := X.2.2.2.2.2.1
  rcases hc with ⟨c1, c2⟩ | hc
  · obtain ⟨a1, a2⟩ := hr.2.obj hok c1 c2
    have he := wsO_get (g := g) a1 a2
    rw [hok, enE_obj c2] at he
    have := va_recv hBs.1 hr.1 (cl_at (show c0.toNat - 1 < 12 by omega)) he
    refine ⟨_, cvR_pos a1, ?_⟩
    unfold kOf
    rw [if_neg (by omega)]
    exact this
  · subst hc
    have ha : -36 ≤ a ∧ a ≤ -10 := by
      rcases Int.lt_or_le a 0 with q | q
      · rcases hr.2.1.1 a q with z | ⟨-, z⟩ | ⟨z, -⟩ | ⟨z, -⟩
        · omega
        · exact z
        · omega
        · omega
      · obtain ⟨a1, a2⟩ := hr.2.pos (a := a) (by omega) q
        rcases hr.2.2.1 a a1 a2 with ⟨z1, z2, -⟩ | ⟨-, -, z⟩ <;> omega
    obtain ⟨q1, q2, -⟩ := hBs.2.2.2.1 (-10 - a).toNat (by omega)
    obtain ⟨cell, x1, x2, x3, -⟩ := q2.kept hS.2.1
    exact ⟨_, cvR_str ha.1 ha.2, cell, x1, x2, x3⟩
theorem so_callV (X : Cx g mn p R s m args meth c) {i cal n : Nat} (hdec : decode (byt mn) pc = .ok (.invokevirtual i, 3)) (hlt : cal < mn) (hm : chkM cal = true) (h12 : ow cal ≠ 12) (hlnk : Jvm.Cond.methodLink (cnm (ow mn)) i (ynm cal) ∈ tblG) (hst : stM cal = false) (hn : nprm (ynm cal) = some n) {c0 a : Int} (hk0 : kOf c0 = (ynm cal).cls) (hc0 : (1 ≤ c0 ∧ c0 ≤ 12) ∨ c0 = 50) (hsel : Jvm.Cond.selects (ynm cal).cls (ynm cal) (ynm cal) ∈ tblG) (hok : mK h a = c0) {as rs : List TV} {r : Int} {h1 : Hp} (hM : MetC g l cal (vR a :: as) h r h1) (hlen : as.length = n) (ho : ∀ v ∈ vR a :: as, okv v) (hcs : csum rs ≤ 8) (hr : RelH g h H) (hS : va_S (AB g) s.heap H locs) (hsz : H.size = gB g + h.1.1) (hls : Ls.size = mxl mn) (hroom : cells + (h1.1.1 - h.1.1) ≤ R.cells ∧ slots + (h1.1.2 - h.1.2) ≤ R.slots)
    (kk : ∀ H1 locs1, RelH g h1 H1 → okv (rtTV (rtM cal) r) → va_S (AB g) s.heap H1 locs1 → W p l e R s m args below meth c H1 locs1 (cells + (h1.1.1 - h.1.1)) (slots + (h1.1.2 - h.1.2)) Q (F0 m (pc + 3) Ls ((rtV g (rtM cal) r).toList ++ rs.map (cv g)))) : W p l e R s m args below meth c H locs cells slots Q (F0 m pc Ls ((as.map (cv g)).reverse ++ cvR g a :: rs.map (cv g))) := by
  have hpre := pre_ok X hr hS hsz ho
  obtain ⟨b, hb0, hrecv⟩ := recv_ok X hr hS hok hc0
  obtain ⟨hx0, hb, hml, hown, hts, hBs, hini, hfr, hlo⟩ := X
  obtain ⟨hG, hi1, -, hs1, -, h60, hy1, hy2⟩ := chkM_of hm h12
  have hrm := rm_ok (mc := h1.1.1 - h.1.1) (ms := h1.1.2 - h.1.2) hlt h60 hfr hlo
  have hrs : 2 * (F0 m pc Ls ((as.map (cv g)).reverse ++ Value.ref b :: rs.map (cv g))).monitorRoom + ((rs.map (cv g)).map fun v => v.category).sum ≤ 8 := lv_room (by rw [csum_cv hBs.2.2.2.2.2.2.2.2.2]; exact hcs)
  rw [hk0] at hrecv
  have hmap : (vR a :: as).map (cv g) = .ref b :: as.map (cv g) := by
    show cvR g a :: _ = _
    rw [hb0]
  rw [hmap] at hpre
  rw [hb0]
  exact run_go (va_runV (As := as.map (cv g)) ⟨hx0, hb, hml, hown, hts⟩ hM ⟨callB_of n hts hG rfl rfl rfl (hts _ hi1) (hts _ hlnk) ⟨hy1, hy2, hn⟩ hrm, hts _ (hs1 hst), hts _ hsel⟩ ⟨PcG_blind g h _, hrecv, hpre⟩ rfl (by rw [List.length_map]; exact hlen) hls rfl hrs hdec hroom) hS kk
theorem so_callI (X : Cx g mn p R s m args meth c) {i cal n : Nat} (hdec : decode (byt mn) pc = .ok (.invokespecial i, 3)) (hlt : cal < mn) (hm : chkM cal = true) (h12 : ow cal ≠ 12) (hlnk : lnk (ow mn) i cal = true) (hst : stM cal = false) (hn : nprm (ynm cal) = some n) (hnm : (ynm cal).name = "<init>") (hrt : rtT cal = none) {c0 a : Int} (hc0 : 1 ≤ c0 ∧ c0 ≤ 12) (hok : mK h a = c0) {as rs : List TV} {r : Int} {h1 : Hp} (hM : MetC g l cal (vR a :: as) h r h1) (hlen : as.length = n) (ho : ∀ v ∈ vR a :: as, okv v) (hcs : csum rs ≤ 8) (hr : RelH g h H) (hS : va_S (AB g) s.heap H locs) (hsz : H.size = gB g + h.1.1) (hls : Ls.size = mxl mn) (hroom : cells + (h1.1.1 - h.1.1) ≤ R.cells ∧ slots + (h1.1.2 - h.1.2) ≤ R.slots)
    (kk : ∀ H1 locs1, RelH g h1 H1 → okv (rtTV (rtM cal) r) → va_S (AB g) s.heap H1 locs1 → W p l e R s m args below meth c H1 locs1 (cells + (h1.1.1 - h.1.1)) (slots + (h1.1.2 - h.1.2)) Q (F0 m (pc + 3) Ls ((rtV g (rtM cal) r).toList ++ rs.map (cv g)))) : W p l e R s m args below meth c H locs cells slots Q (F0 m pc Ls ((as.map (cv g)).reverse ++ cvR g a :: rs.map (cv g))) := by
  have hpre := pre_ok X hr hS hsz ho
  obtain ⟨b, hb0, -⟩ := recv_ok X hr hS hok (Or.inl hc0)
  have hX := X
  obtain ⟨hx0, hb, hml, hown, hts, hBs, hini, hfr, hlo⟩ := X
  obtain ⟨hG, hi1, -, hs1, -, h60, hy1, hy2⟩ := chkM_of hm h12
  have hrm := rm_ok (mc := h1.1.1 - h.1.1) (ms := h1.1.2 - h.1.2) hlt h60 hfr hlo
  have hrs : 2 * (F0 m pc Ls ((as.map (cv g)).reverse ++ Value.ref b :: rs.map (cv g))).monitorRoom + ((rs.map (cv g)).map fun v => v.category).sum ≤ 8 := lv_room (by rw [csum_cv hBs.2.2.2.2.2.2.2.2.2]; exact hcs)
  have hmap : (vR a :: as).map (cv g) = .ref b :: as.map (cv g) := by
    show cvR g a :: _ = _
    rw [hb0]
  rw [hmap] at hpre
  rw [hb0]
  have hws : wsM cal = Jvm.Cond.code (ynm cal) (byt cal) (mxl cal) none :: tblG := by unfold wsM; rw [hrt]
  unfold lnk at hlnk
  rw [Bool.or_eq_true] at hlnk
  rcases hlnk with hk | hk
  · exact run_go (va_runI (As := as.map (cv g)) ⟨hx0, hb, hml, hown, hts⟩ hM (cwI n hts hG hws rfl rfl (hts _ hi1) (hts _ (wAt_mem hk).1) (hts _ (hs1 hst)) hnm ⟨hy1, hy2, hn⟩ hrm) ⟨PcG_blind g h _, hpre⟩ rfl (by rw [List.length_map]; exact hlen) hls rfl hrs hdec hroom) hS kk
  · exact run_go (va_runIN (As := as.map (cv g)) ⟨hx0, hb, hml, hown, hts⟩ hM ⟨va_cnB n hts hG hws rfl rfl (nest_get hX hk) (hts _ hi1) ⟨hy1, hy2, hn⟩ hrm, hnm, hts _ (hs1 hst)⟩ ⟨PcG_blind g h _, hpre⟩ rfl (by rw [List.length_map]; exact hlen) hls rfl hrs hdec hroom) hS kk
theorem objW : (wAt 124 (.instanceMethod objectInit) && wAt 125 (.code objectInit ⟨#[0xb1]⟩ 1 none)) = true := by decide +kernel
theorem sysW : (wAt natW.1 (.native arraycopyName) && wAt natW.2 (.static arraycopyName) && wAt sysIn (.initialized "java/lang/System")) = true := by decide +kernel
theorem maW1 : (wAt 570 (.static Lib.Math.max.name) && wAt 571 (.code Lib.Math.max.name Lib.Math.max.code 2 (some .int)) && wAt 112 (.initialized "java/lang/Math") && decide (ynm 16 = Lib.Math.max.name)) = true := by decide +kernel
theorem maW2 : (wAt 567 (.static Lib.Math.min.name) && wAt 568 (.code Lib.Math.min.name Lib.Math.min.code 2 (some .int)) && decide (ynm 15 = Lib.Math.min.name)) = true := by decide +kernel
theorem maW3 : (wAt 1046 (.static Lib.MathLoose.max_long.x) && wAt 1047 (.code Lib.MathLoose.max_long.x Lib.MathLoose.max_long.code 4 (some .long)) && decide (ynm 118 = Lib.MathLoose.max_long.x)) = true := by decide +kernel
theorem maW4 : (wAt 939 (.static Lib.MathLoose.min_long.x) && wAt 940 (.code Lib.MathLoose.min_long.x Lib.MathLoose.min_long.code 4 (some .long)) && decide (ynm 92 = Lib.MathLoose.min_long.x)) = true := by decide +kernel
theorem so_objI (X : Cx g mn p R s m args meth c) {i : Nat} (hdec : decode (byt mn) pc = .ok (.invokespecial i, 3)) (hlnk : Jvm.Cond.methodLink (cnm (ow mn)) i objectInit ∈ tblG) {a : Int} (ha : 0 < a) {rs : List TV} (hcs : csum rs ≤ 8) (hls : Ls.size = mxl mn)
    (kk : W p l e R s m args below meth c H locs cells slots Q (F0 m (pc + 3) Ls (rs.map (cv g)))) : W p l e R s m args below meth c H locs cells slots Q (F0 m pc Ls (cvR g a :: rs.map (cv g))) := by
  obtain ⟨hx0, hb, hml, hown, hts, hBs, hini, hfr, hlo⟩ := X
  have hw := objW
  rw [Bool.and_eq_true] at hw
  rw [cvR_pos (by omega)]
  refine W.objInit hx0 hb hown (hts _ hlnk) (hts _ (wAt_mem hw.1).1) (hts _ (wAt_mem hw.2).1) rfl (by rw [hml]; exact hls) rfl hdec (by omega) ?_ kk
  have := csum_cv (g := g) hBs.2.2.2.2.2.2.2.2.2 rs
  show 2 * 0 + _ + 12 ≤ _
  omega
theorem nfw : nativeFrameWords "java/lang/System" "arraycopy" 5 + 11 ≤ 80 := by decide +kernel
theorem cpy_i {f f2 : Int → Int} {sp dp n : Int} (h1 : 0 ≤ sp) (h2 : 0 ≤ dp) (h3 : 0 ≤ n) : va_cpy (fun j : Nat => Int32.ofInt (f j)) (fun j : Nat => Int32.ofInt (f2 j)) sp.toNat dp.toNat n.toNat = fun j : Nat => Int32.ofInt (if dp ≤ (j : Int) ∧ (j : Int) < dp + n then f (sp + ((j : Int) - dp)) else f2 j) := by
  funext j
  unfold va_cpy
  by_cases q : dp.toNat ≤ j ∧ j < dp.toNat + n.toNat
  · have e : ((sp.toNat + (j - dp.toNat) : Nat) : Int) = sp + ((j : Int) - dp) := by omega
    rw [if_pos q, if_pos (by omega), ← e]
  · rw [if_neg q, if_neg (by omega)]
theorem fits_b {x : Int} (h1 : -128 ≤ x) (h2 : x ≤ 127) : fits .byte (.int (Int32.ofInt x)) = true := by
  have hin : in32 x := by unfold in32; omega
  have e1 : (-128 : Int32).toInt = -128 := by decide
  have e2 : (127 : Int32).toInt = 127 := by decide
  unfold fits
  simp only [Bool.and_eq_true, decide_eq_true_eq, Int32.le_iff_toInt_le, o32_t hin, e1, e2]
  omega
theorem so_acpy (X : Cx g mn p R s m args meth c) {i : Nat} (hdec : decode (byt mn) pc = .ok (.invokestatic i, 3)) (hlnk : Jvm.Cond.methodLink (cnm (ow mn)) i arraycopyName ∈ tblG) {src sp dst dp n : Int} (i1 : in32 sp) (i2 : in32 dp) (i3 : in32 n) (hok : okC h src sp dst dp n = true) {rs : List TV} (hcs : csum rs ≤ 8) (hls : Ls.size = mxl mn) (hr : RelH g h H) (hS : va_S (AB g) s.heap H locs)
    (kk : ∀ H1 locs1, RelH g (mC h src sp dst dp n) H1 → va_S (AB g) s.heap H1 locs1 → W p l e R s m args below meth c H1 locs1 cells slots Q (F0 m (pc + 3) Ls (rs.map (cv g)))) : W p l e R s m args below meth c H locs cells slots Q (F0 m pc Ls (.int (Int32.ofInt n) :: .int (Int32.ofInt dp) :: cvR g dst :: .int (Int32.ofInt sp) :: cvR g src :: rs.map (cv g))) := by
  have hok' := of_decide_eq_true hok
  obtain ⟨k1, k2, p1, p2, q1, q2, q3, q4, q5⟩ := hok'
  obtain ⟨a1, a2, n1, he, z⟩ := arr_of hr (a := src) rfl (by omega) (by omega)
  obtain ⟨b1, b2, n2, he2, z2⟩ := arr_of hr (a := dst) rfl (by omega) (by omega)
  obtain ⟨hx0, hb, hml, hown, hts, hBs, hini, hfr, hlo⟩ := X
  have hw := sysW
  simp only [Bool.and_eq_true] at hw
  rw [arE_i (by omega) (by omega)] at he he2
  rw [cvR_pos a1, cvR_pos b1]
  have ng : ∀ {x : Int}, in32 x → 0 ≤ x → ¬ Int32.ofInt x < 0 := by
    intro x hx h0
    rw [Int32.lt_iff_toInt_lt, o32_t hx]
    have : (0 : Int32).toInt = 0 := by decide
    omega
  have hsum := csum_cv (g := g) hBs.2.2.2.2.2.2.2.2.2 rs
  have hnf := nfw
  have fin : ∀ (H1 : Heap) (locs1 : List Loc), va_P (gD g) clsO ((wsO g h).set (dst.toNat - 1) (gB g + (dst.toNat - 1), .inl (gA g (mK h dst), (mL h dst).toNat, .inl (va_cpy (fun j : Nat => Int32.ofInt (mR h src j)) (fun j : Nat => Int32.ofInt (mR h dst j)) (Int32.ofInt sp).toNatClampNeg (Int32.ofInt dp).toNatClampNeg (Int32.ofInt n).toNatClampNeg)))) H1 → va_D (AB g) ((wsO g h).set (dst.toNat - 1) (gB g + (dst.toNat - 1), .inl (gA g (mK h dst), (mL h dst).toNat, .inl (va_cpy (fun j : Nat => Int32.ofInt (mR h src j)) (fun j : Nat => Int32.ofInt (mR h dst j)) (Int32.ofInt sp).toNatClampNeg (Int32.ofInt dp).toNatClampNeg (Int32.ofInt n).toNatClampNeg)))) → va_S (AB g) s.heap H1 locs1 → W p l e R s m args below meth c H1 locs1 cells slots Q (F0 m (pc + 3) Ls (rs.map (cv g))) := by
    intro H1 locs1 w1 w2 w3
    refine kk H1 locs1 ⟨?_, hr.2.cpy (of_decide_eq_true hok)⟩ w3
    rw [o32_cl i1 q1, o32_cl i2 q2, o32_cl i3 q3, cpy_i q1 q2 q3] at w1
    rw [wsO_set (h := h) (a := dst) (h' := mC h src sp dst dp n) b1 b2 rfl rfl (fun b hb => ⟨rfl, rfl, funext fun j => by rw [mR_mC, if_neg (fun q => hb q.1)]⟩)]
    have e9 : mR (mC h src sp dst dp n) dst = fun j => if dp ≤ j ∧ j < dp + n then mR h src (sp + (j - dp)) else mR h dst j := by
      funext j
      rw [mR_mC]
      by_cases q : dp ≤ j ∧ j < dp + n <;> simp [q]
    rw [mK_mC, mL_mC, enE_arr (by omega), arE_i (by omega) (by omega), e9]
    exact w1
  have h4 : (Int32.ofInt sp).toNatClampNeg + (Int32.ofInt n).toNatClampNeg ≤ (mL h src).toNat := by rw [o32_cl i1 q1, o32_cl i3 q3]; omega
  have h5 : (Int32.ofInt dp).toNatClampNeg + (Int32.ofInt n).toNatClampNeg ≤ (mL h dst).toNat := by rw [o32_cl i2 q2, o32_cl i3 q3]; omega
  rcases k1 with k1 | k1
  · have ed : mK h dst = 101 := by omega
    rw [ed] at fin he2
    rw [k1] at he
    refine va_copyi (ty := .byte) hx0 hb (by rw [hml]; exact hls.symm) hown (hts _ hlnk) (hts _ (wAt_mem hw.1.1).1) (hts _ (wAt_mem hw.1.2).1) (hts _ (wAt_mem hw.2).1) hBs.1 hr.1 (wsO_D g h) hS (src.toNat - 1) (dst.toNat - 1) 0 0 he he2 rfl rfl rfl (ng i1 q1) (ng i2 q2) (ng i3 q3) h4 h5 (fun j hj => ?_) (by omega) (by omega) hdec fin
    rw [o32_cl i1 q1]
    rw [o32_cl i3 q3] at hj
    have : -128 ≤ mR h src ((sp.toNat + j : Nat) : Int) ∧ mR h src ((sp.toNat + j : Nat) : Int) ≤ 127 := by
      rcases z with z | z | z | z | z <;> first | exact z.2 _ (by omega) (by omega) | omega
    exact fits_b this.1 this.2
  · have ed : mK h dst = 102 := by omega
    rw [ed] at fin he2
    rw [k1] at he
    exact va_copyi (ty := .int) hx0 hb (by rw [hml]; exact hls.symm) hown (hts _ hlnk) (hts _ (wAt_mem hw.1.1).1) (hts _ (wAt_mem hw.1.2).1) (hts _ (wAt_mem hw.2).1) hBs.1 hr.1 (wsO_D g h) hS (src.toNat - 1) (dst.toNat - 1) 1 1 he he2 rfl rfl rfl (ng i1 q1) (ng i2 q2) (ng i3 q3) h4 h5 (fun j hj => rfl) (by omega) (by omega) hdec fin
theorem ma_ite32 {x y : Int} (hx : in32 x) (hy : in32 y) : (if Int32.ofInt x < Int32.ofInt y then Int32.ofInt y else Int32.ofInt x) = Int32.ofInt (if x < y then y else x) := by
  by_cases q : x < y
  · rw [if_pos ((o32_lt hx hy).mpr q), if_pos q]
  · rw [if_neg (fun z => q ((o32_lt hx hy).mp z)), if_neg q]
theorem ma_ite64 {x y : Int} (hx : in64 x) (hy : in64 y) : (if Int64.ofInt x < Int64.ofInt y then Int64.ofInt y else Int64.ofInt x) = Int64.ofInt (if x < y then y else x) := by
  by_cases q : x < y
  · rw [if_pos ((o64_lt hx hy).mpr q), if_pos q]
  · rw [if_neg (fun z => q ((o64_lt hx hy).mp z)), if_neg q]
end SC
