/-! Every call of the interpreter that answers is a contract that the machine keeps. -/
noncomputable def chkX (mn : Nat) (e : Ent) : Bool := (match e.2.2.2 with
  | none => true
  | some bs => decide (bs.length = mxl mn)) && (match e.1 with
  | .ireturn => decide (rtM mn = 1 ∨ rtM mn = 4 ∨ rtM mn = 5 ∨ rtM mn = 6)
  | .lreturn => decide (rtM mn = 2)
  | .areturn => decide (rtM mn = 3)
  | .return_ => decide (rtM mn = 0)
  | _ => true)
theorem chkX_msk {mn : Nat} {e : Ent} (h : chkX mn e = true) : ∀ bs, e.2.2.2 = some bs → bs.length = mxl mn := by
  intro bs hb
  unfold chkX at h
  rw [Bool.and_eq_true, hb] at h
  exact of_decide_eq_true h.1
theorem msk_lvK {g : Gx} {Ls : Array Slot} {ls : List (Option TV)} {N : Nat} {q : Option (List Bool)} (hl : lvK g Ls ls) (hln : ls.length = N) (hq : ∀ bs, q = some bs → bs.length = N) : lvK g Ls (msk q ls) ∧ (msk q ls).length = N := by
  cases q with
  | none => exact ⟨hl, hln⟩
  | some bs =>
    have hlen : (mskL bs ls).length = ls.length := mskL_len bs ls ((hq bs rfl).trans hln.symm)
    exact ⟨⟨by show _ = (mskL bs ls).length; rw [hlen]; exact hl.1, hl.2.1, fun i v hv => hl.2.2 i v (mskL_gl bs ls i v hv)⟩, hlen.trans hln⟩
theorem run_ok {g : Gx} {mn : Nat} {p : Program} {l : Launch} {e : Env} {R : Room} {s : State} {m : MethodId} {args : Array Value} {below : List Frame} {meth : Method} {c : Code} {Q : State → Prop} {T0 S0 : Nat} (X : Cx g mn p R s m args meth c) (CK : ∀ pc e, cd mn pc = some e → chkE mn pc e = true ∧ chkX mn e = true) (hNM : mn ≤ NM) (K : Kn g l mn) (hL : (gS g).2.1 ≤ 3072) (hsz : s.heap.size = gB g + T0) {r : Int} {hF : Hp} (hRm : hF.1.1 - T0 ≤ R.cells ∧ hF.1.2 - S0 ≤ R.slots)
    (ret : ∀ pc ent ls st h, cd mn pc = some ent → ex (callT mn) mn ent ls st h = some (Sum.inr (r, hF)) → StepG g mn p l e R s m args below meth c Q T0 S0 pc ls st h) :
    ∀ (n pc : Nat) (ls : List (Option TV)) (st : List TV) (h : Hp), runM (callT mn) mn n (pc, ls, st, h) = some (r, hF) → T0 ≤ h.1.1 ∧ S0 ≤ h.1.2 → StepG g mn p l e R s m args below meth c Q T0 S0 pc ls st h := by
  intro n
  induction n with
  | zero => intro pc ls st h hr; simp [runM] at hr
  | succ n ih =>
    intro pc ls st h hr hT
    simp only [runM] at hr
    cases hc : cd mn pc with
    | none => simp only [nx, hc] at hr; cases hr
    | some ent =>
      simp only [nx, hc] at hr
      obtain ⟨c1, c2⟩ := CK pc ent hc
      have key : StepG g mn p l e R s m args below meth c Q T0 S0 pc (msk ent.2.2.2 ls) st h := by
        cases hx : ex (callT mn) mn ent (msk ent.2.2.2 ls) st h with
        | none => rw [hx] at hr; cases hr
        | some y =>
          rw [hx] at hr
          cases y with
          | inr x => cases hr; exact ret pc ent _ st h hc hx
          | inl c' =>
            obtain ⟨pc2, ls2, st2, h2⟩ := c'
            have m1 : leH h h2 := ex_mono (fun cal as h r => callT_leH mn cal as h r) hx
            have m2 : leH h2 hF := runM_leH (fun cal as h r => callT_leH mn cal as h r) n _ _ hr
            have hT2 : T0 ≤ h2.1.1 ∧ S0 ≤ h2.1.2 := ⟨Nat.le_trans hT.1 m1.1, Nat.le_trans hT.2 m1.2⟩
            have hR2 : h2.1.1 - T0 ≤ R.cells ∧ h2.1.2 - S0 ≤ R.slots := ⟨by have := m2.1; have := hRm.1; omega, by have := m2.2; have := hRm.2; omega⟩
            exact step_ok (nx_ := 0) (tt := []) (q := none) X c1 hT hsz hR2 hNM K hL hx (ih pc2 ls2 st2 h2 hr hT2)
      intro H locs Ls hrel ho hl hln hS
      obtain ⟨k1, k2⟩ := msk_lvK hl hln (chkX_msk c2)
      exact key H locs Ls hrel ho k1 k2 hS
theorem gl_rep : ∀ (n i : Nat), gl (List.replicate n none) i = none
  | 0, _ => rfl
  | n + 1, 0 => rfl
  | n + 1, i + 1 => gl_rep n i
theorem pad_gl : ∀ (ls : List (Option TV)) (n i : Nat) (v : TV), gl (pad n ls) i = some v → gl ls i = some v
  | [], n, i, v, h => by
    unfold pad at h
    rw [gl_rep] at h
    cases h
  | a :: ls, n, 0, v, h => by unfold pad at h; exact h
  | a :: ls, n, i + 1, v, h => by unfold pad at h; exact pad_gl ls (n - 1) i v h
theorem pad_len : ∀ (ls : List (Option TV)) (n : Nat), ls.length ≤ n → (pad n ls).length = n
  | [], n, _ => by unfold pad; simp
  | a :: ls, n, h => by
    unfold pad
    simp only [List.length_cons] at h ⊢
    rw [pad_len ls (n - 1) (by omega)]
    omega
theorem ini_args {g : Gx} (hF : gF g = .null ∨ ∃ t, gF g = .ref t) : ∀ (as : List TV) (j i : Nat) (v : TV), gl (ini as) i = some v → (j + i, cv g v) ∈ lv_args j (as.map (cv g)) ∧ v ∈ as
  | [], j, i, v, h => by simp [ini, gl] at h
  | w :: as, j, i, v, h => by
    have hc := cat_cv g w hF
    show (j + i, cv g v) ∈ (j, cv g w) :: lv_args (if (cv g w).category = 2 then j + 2 else j + 1) (as.map (cv g)) ∧ _
    rw [hc]
    rcases w with x | x | x
    · cases i with
      | zero => simp [ini, gl] at h; subst h; exact ⟨List.mem_cons_self, List.mem_cons_self⟩
      | succ i =>
        obtain ⟨q1, q2⟩ := ini_args hF as (j + 1) i v h
        rw [show j + 1 + i = j + (i + 1) by omega] at q1
        exact ⟨List.mem_cons_of_mem _ q1, List.mem_cons_of_mem _ q2⟩
    · cases i with
      | zero => simp [ini, gl] at h; subst h; exact ⟨List.mem_cons_self, List.mem_cons_self⟩
      | succ i =>
        cases i with
        | zero => simp [ini, gl] at h
        | succ i =>
          obtain ⟨q1, q2⟩ := ini_args hF as (j + 2) i v h
          rw [show j + 2 + i = j + (i + 1 + 1) by omega] at q1
          exact ⟨List.mem_cons_of_mem _ q1, List.mem_cons_of_mem _ q2⟩
    · cases i with
      | zero => simp [ini, gl] at h; subst h; exact ⟨List.mem_cons_self, List.mem_cons_self⟩
      | succ i =>
        obtain ⟨q1, q2⟩ := ini_args hF as (j + 1) i v h
        rw [show j + 1 + i = j + (i + 1) by omega] at q1
        exact ⟨List.mem_cons_of_mem _ q1, List.mem_cons_of_mem _ q2⟩
theorem ini_len {g : Gx} (hF : gF g = .null ∨ ∃ t, gF g = .ref t) : ∀ as : List TV, (lg_sl (as.map (cv g))).length = (ini as).length
  | [] => rfl
  | w :: as => by
    have hc := cat_cv g w hF
    have ih := ini_len hF as
    unfold lg_sl at ih ⊢
    rw [List.map_cons, List.flatMap_cons, List.length_append, ih, hc]
    rcases w with x | x | x
    · show 1 + _ = (ini as).length + 1; omega
    · show 2 + _ = (ini as).length + 1 + 1; omega
    · show 1 + _ = (ini as).length + 1; omega
theorem lvK_entry {g : Gx} (hF : gF g = .null ∨ ∃ t, gF g = .ref t) {as : List TV} {n : Nat} (hfit : (ini as).length ≤ n) (ho : ∀ v ∈ as, okv v) : lvK g ((lg_sl (as.map (cv g)) ++ List.replicate (n - (lg_sl (as.map (cv g))).length) Slot.unset).toArray) (pad n (ini as)) := by
  have hle : (lg_sl (as.map (cv g))).length ≤ n := by rw [ini_len hF]; exact hfit
  have h1 := lv_entry (as.map (cv g)) hle
  refine ⟨by rw [h1.1, pad_len _ _ hfit], h1.2.1, fun i v hv => ?_⟩
  obtain ⟨q1, q2⟩ := ini_args hF as 0 i v (pad_gl _ _ _ _ hv)
  rw [Nat.zero_add] at q1
  exact ⟨h1.2.2 _ q1, ho v q2⟩
theorem narrow_c {v : Int} (h1 : 0 ≤ v) (h2 : v ≤ 65535) : narrow .char (.int (Int32.ofInt v)) = .int (Int32.ofInt v) := by
  have e : Int32.ofInt v = nI v.toNat := by
    show _ = Int32.ofNat _
    rw [← n32_t]; congr 1; omega
  rw [e]
  exact (pk_charN (by omega)).1
theorem narrow_b {v : Int} (h1 : -128 ≤ v) (h2 : v ≤ 127) : narrow .byte (.int (Int32.ofInt v)) = .int (Int32.ofInt v) := by
  show Value.int (Int32.ofInt v).toInt8.toInt32 = _
  rw [o32_8, w8_id h1 h2]
/-- the end of a method -/
theorem ret_met {g : Gx} {mn : Nat} {p : Program} {l : Launch} {e : Env} {R : Room} {s : State} {m : MethodId} {args : Array Value} {below : List Frame} {meth : Method} {c : Code} {T0 S0 : Nat} (X : Cx g mn p R s m args meth c) (hret : meth.sig.returnType = rtT mn) (hlocks : meth.locks = false) (kr : chkR mn = true) (CK : ∀ pc e, cd mn pc = some e → chkE mn pc e = true ∧ chkX mn e = true) {r : Int} {hF : Hp} :
    ∀ pc ent ls st h, cd mn pc = some ent → ex (callT mn) mn ent ls st h = some (Sum.inr (r, hF)) → StepG g mn p l e R s m args below meth c (MQ below (QcG g (rtM mn) r hF) args s (hF.1.1 - T0) (hF.1.2 - S0) (AB g)) T0 S0 pc ls st h := by
  intro pc ent ls st h hc hx
  obtain ⟨c1, c2⟩ := CK pc ent hc
  obtain ⟨ins, nx_, tt, q⟩ := ent
  unfold chkE at c1
  simp only [Bool.and_eq_true, Bool.or_eq_true] at c1
  obtain ⟨⟨⟨hdec, hlt⟩, hlen⟩, -⟩ := c1
  have hdec := of_decide_eq_true hdec
  have key : lenI ins ≠ 0 → decode (byt mn) pc = .ok (ins, lenI ins) := by
    intro h0
    rcases hlen with z | z
    · exact absurd (of_decide_eq_true z) h0
    · have z := of_decide_eq_true z
      rw [hdec, z]
      congr 2
      omega
  unfold chkX at c2
  rw [Bool.and_eq_true] at c2
  have c3 := c2.2
  obtain ⟨hx0, hb, hml, hown, hts, hBs, hini, hfr, hlo⟩ := id X
  have post : ∀ (H : Heap) (locs : List Loc) (t : State), RelH g hF H → okv (rtTV (rtM mn) r) → va_S (AB g) s.heap H locs → t.heap = H → QcG g (rtM mn) r hF args s (.returned (rtV g (rtM mn) r)) t := fun H locs t h1 h2 h3 h4 => ⟨rfl, by rw [h4]; exact h1, h2, h3.F h4⟩
  cases ins with
  | ireturn =>
    have dc := key (by simp [lenI])
    simp only [ex] at hx
    split at hx
    · rename_i v
      split at hx
      · rename_i hrok
        cases hx
        intro H locs Ls hr ho hl hln hS
        have hv : in32 r := (ok1 ho).1
        have c3 := of_decide_eq_true c3
        unfold chkR at kr
        rcases c3 with z | z | z | z
        · rw [z] at kr
          have hr1 : meth.sig.returnType = some .int := hret.trans (of_decide_eq_true kr)
          exact W.iret hx0 hb hr1 (fun t ht hW => by have := post H locs t hr (by rw [z]; exact hv) hS ht; rw [z] at this ⊢; exact this) hS.2.2 dc
        · rw [z] at kr hrok
          have hr1 : meth.sig.returnType = some .boolean := hret.trans (of_decide_eq_true kr)
          have h01 : r = 0 ∨ r = 1 := of_decide_eq_true hrok
          refine W.zret hx0 hb hr1 ?_ (fun t ht hW => by have := post H locs t hr (by rw [z]; exact hv) hS ht; rw [z] at this ⊢; exact this) hS.2.2 dc
          rcases h01 with w | w <;> rw [w] <;> decide
        · rw [z] at kr hrok
          have hr1 : meth.sig.returnType = some .char := hret.trans (of_decide_eq_true kr)
          have h01 : 0 ≤ r ∧ r ≤ 65535 := of_decide_eq_true hrok
          exact W.zret hx0 hb hr1 (narrow_c h01.1 h01.2) (fun t ht hW => by have := post H locs t hr (by rw [z]; exact hv) hS ht; rw [z] at this ⊢; exact this) hS.2.2 dc
        · rw [z] at kr hrok
          have hr1 : meth.sig.returnType = some .byte := hret.trans (of_decide_eq_true kr)
          have h01 : -128 ≤ r ∧ r ≤ 127 := of_decide_eq_true hrok
          exact W.zret hx0 hb hr1 (narrow_b h01.1 h01.2) (fun t ht hW => by have := post H locs t hr (by rw [z]; exact hv) hS ht; rw [z] at this ⊢; exact this) hS.2.2 dc
      · cases hx
    · cases hx
  | lreturn =>
    have dc := key (by simp [lenI])
    simp only [ex] at hx
    split at hx
    · rename_i v
      cases hx
      intro H locs Ls hr ho hl hln hS
      have hv : in64 r := (ok1 ho).1
      have z := of_decide_eq_true c3
      unfold chkR at kr
      rw [z] at kr
      have hr1 : meth.sig.returnType = some .long := hret.trans (of_decide_eq_true kr)
      exact W.lret hx0 hb hr1 (fun t ht hW => by have := post H locs t hr (by rw [z]; exact hv) hS ht; rw [z] at this ⊢; exact this) hS.2.2 dc
    · cases hx
  | areturn =>
    have dc := key (by simp [lenI])
    simp only [ex] at hx
    split at hx
    · rename_i v
      split at hx
      · rename_i hp
        cases hx
        intro H locs Ls hr ho hl hln hS
        have z := of_decide_eq_true c3
        unfold chkR at kr
        rw [z] at kr
        have hr1 : meth.sig.returnType = some (.array .int) := hret.trans (of_decide_eq_true kr)
        exact W.aret (v := cvR g r) hx0 hb hr1 (Or.inr ⟨_, rfl⟩) (cvR_or X.F r) (fun t ht hW => by have := post H locs t hr (by rw [z]; trivial) hS ht; rw [z] at this ⊢; exact this) hS.2.2 dc
      · cases hx
    · cases hx
  | return_ =>
    have dc := key (by simp [lenI])
    simp only [ex] at hx
    split at hx
    · cases hx
      intro H locs Ls hr ho hl hln hS
      have z := of_decide_eq_true c3
      unfold chkR at kr
      rw [z] at kr
      have hr1 : meth.sig.returnType = none := hret.trans (of_decide_eq_true kr)
      exact W.vret hx0 hb hr1 (fun t ht hW => by have := post H locs t hr (by rw [z]; exact in32_0) hS ht; rw [z] at this ⊢; exact this) hS.2.2 dc
    · cases hx
  | _ =>
    simp only [ex] at hx
    first
      | (cases hx; done)
      | ((repeat' split at hx) <;> first | (cases hx; done) | (simp [go] at hx; done) | (obtain ⟨x, h1, h2⟩ := Option.bind_eq_some_iff.mp hx; simp [go] at h2; done))
/-- the tables hold -/
def CKall : Prop := (∀ mn pc e, cd mn pc = some e → chkE mn pc e = true ∧ chkX mn e = true) ∧ ∀ mn, mn < 317 → chkM mn = true ∧ chkR mn = true
theorem met_one (A : CKall) {g : Gx} {l : Launch} (hL : (gS g).2.1 ≤ 3072) {mn : Nat} (hmn : mn < 317) (K : Kn g l mn) (h12 : ow mn ≠ 12) (as : List TV) (h : Hp) (r : Int) (h1 : Hp) (hcall : CA mn as h = some (r, h1)) : MetC g l mn as h r h1 := by
  have hN : NM = 318 := rfl
  obtain ⟨km, kr⟩ := A.2 mn hmn
  obtain ⟨hG, hi1, -, -, hpl, h60, hy1, hy2⟩ := chkM_of km h12
  rw [CA_at (by omega)] at hcall
  split at hcall
  case isFalse => cases hcall
  rename_i hfit
  obtain ⟨n, hrun⟩ := lim_some hcall
  refine Met.ofW (cc := byt mn) (maxL := mxl mn) (ret := rtT mn) hpl rfl ?_
  intro p e s m args below meth c s₁ B hml hv
  obtain ⟨rfl, hokv, hrel, hBs, hszs⟩ := hv
  have hts : ∀ w ∈ tblG, w.before (as.map (cv g)).toArray s = true := fun w hw => atoms_spec (ws := wsM mn) B.pre w (List.mem_cons_of_mem _ hw)
  have hle := CA_leH (mn := mn) (as := as) (h := h) (r := (r, h1)) (by rw [CA_at (by omega), if_pos hfit]; exact hcall)
  have X : Cx g mn p (headSpec (wsM mn) (rmD mn (h1.1.1 - h.1.1) (h1.1.2 - h.1.2))).room s m (as.map (cv g)).toArray meth c := ⟨B.exec, B.bytes, hml, findClass_of_methodNamed B.named, hts, hBs, fun z => (name_of_methodNamed B.named B.method).1.trans z, Nat.le_refl _, Nat.le_refl _⟩
  have W0 := run_ok (T0 := h.1.1) (S0 := h.1.2) (below := below) (e := e) X (A.1 mn) (by omega) K hL hszs (r := r) (hF := h1) ⟨Nat.le_refl _, Nat.le_refl _⟩ (ret_met X B.returns B.notSynchronized kr (A.1 mn)) n 0 (pad (mxl mn) (ini as)) [] h hrun ⟨Nat.le_refl _, Nat.le_refl _⟩
  have hF := X.F
  have W1 := W0 s.heap [] _ hrel (fun v hv => by cases hv) (lvK_entry hF hfit hokv) (pad_len _ _ hfit) va_S.rf
  rw [Nat.sub_self, Nat.sub_self] at W1
  rw [lg_entry_eq]
  exact W1
theorem Kn_all (A : CKall) {g : Gx} {l : Launch} (hL : (gS g).2.1 ≤ 3072) : ∀ mn, mn ≤ 317 → Kn g l mn
  | 0, _ => fun cal h => absurd h (Nat.not_lt_zero _)
  | mn + 1, hm => by
    have ih := Kn_all A (l := l) hL mn (by omega)
    intro cal hc
    by_cases e : cal = mn
    · subst e
      exact ⟨A.2 cal (by omega), fun h12 as h r h1 hcall => met_one A hL (by omega) ih h12 as h r h1 hcall⟩
    · exact ih cal (by omega)
