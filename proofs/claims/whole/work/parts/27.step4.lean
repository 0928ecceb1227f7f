/-! Calls as steps, all steps together, and the contract of every call. Printed by wip/whole/gen/st4.py. -/
/-- what is known of the callees -/
def Kn (g : Gx) (l : Launch) (mn : Nat) : Prop := ∀ cal, cal < mn → (chkM cal = true ∧ chkR cal = true) ∧ (ow cal ≠ 12 → ∀ as h r h1, CA cal as h = some (r, h1) → MetC g l cal as h r h1)
theorem sk_invst {g : Gx} {mn : Nat} {p : Program} {l : Launch} {e : Env} {R : Room} {s : State} {m : MethodId} {args : Array Value} {below : List Frame} {meth : Method} {c : Code} {Q : State → Prop} {T0 S0 pc nx_ pc2 : Nat} {tt : List Nat} {q : Option (List Bool)} {ls ls2 : List (Option TV)} {st st2 : List TV} {h h2 : Hp} {i : Nat} (X : Cx g mn p R s m args meth c) (hdec : decode (byt mn) pc = .ok (.invokestatic i, lenI (.invokestatic i))) (hs : shp mn pc (.invokestatic i, pc + lenI (.invokestatic i), tt, q) = true) (hT : T0 ≤ h.1.1 ∧ S0 ≤ h.1.2) (hsz : s.heap.size = gB g + T0) (hR : h2.1.1 - T0 ≤ R.cells ∧ h2.1.2 - S0 ≤ R.slots) (hNM : mn ≤ NM) (K : Kn g l mn) (hx : ex (callT mn) mn (.invokestatic i, pc + lenI (.invokestatic i), tt, q) ls st h = some (Sum.inl (pc2, ls2, st2, h2))) (kk : StepG g mn p l e R s m args below meth c Q T0 S0 pc2 ls2 st2 h2) : StepG g mn p l e R s m args below meth c Q T0 S0 pc ls st h := by
  intro H locs Ls hr ho hl hln hS
  have hF := X.F
  obtain ⟨hx0, hb, hml, hown, hts, hBs, hini, hfr, hlo⟩ := id X
  simp only [ex] at hx
  simp only [shp] at hs
  split at hs
  · rename_i cal n c0 rt hy
    rw [hy] at hx
    simp only at hx
    split at hx
    · rename_i as rest hp
      obtain ⟨est, elen⟩ := popn_of hp
      subst est
      split at hx
      · rename_i hcs
        have ho2 : (∀ v ∈ as, okv v) ∧ ∀ v ∈ rest, okv v := ⟨fun v hv => ho v (List.mem_append_left _ (List.mem_reverse.mpr hv)), fun v hv => ho v (List.mem_append_right _ hv)⟩
        split at hx
        · rename_i h91
          rw [if_pos h91] at hs
          rw [Bool.and_eq_true] at hs
          split at hx
          · rename_i src sp dst dp k
            split at hx
            · rename_i hok
              obtain ⟨e1, e2, e3, e4⟩ := go_inj hx
              subst e1 e2 e3 e4
              have o1 := ho2.1 (vI sp) (by simp)
              have o2 := ho2.1 (vI dp) (by simp)
              have o3 := ho2.1 (vI k) (by simp)
              exact so_acpy X hdec (wAt_mem hs.2).1 o1 o2 o3 hok hcs (hl.1.trans hln) hr hS (fun H1 locs1 r1 s1 => kk H1 locs1 Ls r1 ho2.2 hl hln s1)
            · cases hx
          · cases hx
        · rename_i h91
          rw [if_neg h91] at hs
          split at hx
          · rename_i hlt
            rw [if_neg (by omega)] at hs
            simp only [Bool.and_eq_true] at hs
            obtain ⟨⟨⟨s1, s2⟩, s3⟩, s4⟩ := hs
            have s2 := of_decide_eq_true s2
            have s4 := of_decide_eq_true s4
            subst s2
            obtain ⟨x, hx1, hx2⟩ := Option.bind_eq_some_iff.mp hx
            obtain ⟨e1, e2, e3, e4⟩ := go_inj hx2
            subst e1 e2 e3 e4
            have hcall := callT_some hlt hNM hx1
            have hle := CA_leH hcall
            rw [map_rev]
            by_cases h12 : ow cal = 12
            · have hlsz : Ls.size = mxl mn := hl.1.trans hln
              have hr1 : h.1.1 - T0 ≤ R.cells := by have := hle.1; have := hR.1; omega
              have hr2 : h.1.2 - S0 ≤ R.slots := by have := hle.2; have := hR.2; omega
              rcases ow12 h12 (by omega) with z | z | z | z
              · subst z
                have hn2 : n = 2 := by
                  have : nprm (ynm 15) = some 2 := by decide +kernel
                  rw [this] at s4; exact (Option.some.inj s4).symm
                exact so_ma15 X hdec s1 (elen.trans hn2) hcall ho2.1 hcs hlsz hr1 hr2 (fun q1 q2 => by have := kk H locs Ls (by rw [q1]; exact hr) (okc q2 ho2.2) hl hln hS; rw [q1] at this; exact this)
              · subst z
                have hn2 : n = 2 := by
                  have : nprm (ynm 16) = some 2 := by decide +kernel
                  rw [this] at s4; exact (Option.some.inj s4).symm
                exact so_ma16 X hdec s1 (elen.trans hn2) hcall ho2.1 hcs hlsz hr1 hr2 (fun q1 q2 => by have := kk H locs Ls (by rw [q1]; exact hr) (okc q2 ho2.2) hl hln hS; rw [q1] at this; exact this)
              · subst z
                have hn2 : n = 2 := by
                  have : nprm (ynm 92) = some 2 := by decide +kernel
                  rw [this] at s4; exact (Option.some.inj s4).symm
                exact so_ma92 X hdec s1 (elen.trans hn2) hcall ho2.1 hcs hlsz hr1 hr2 (fun q1 q2 => by have := kk H locs Ls (by rw [q1]; exact hr) (okc q2 ho2.2) hl hln hS; rw [q1] at this; exact this)
              · subst z
                have hn2 : n = 2 := by
                  have : nprm (ynm 118) = some 2 := by decide +kernel
                  rw [this] at s4; exact (Option.some.inj s4).symm
                exact so_ma118 X hdec s1 (elen.trans hn2) hcall ho2.1 hcs hlsz hr1 hr2 (fun q1 q2 => by have := kk H locs Ls (by rw [q1]; exact hr) (okc q2 ho2.2) hl hln hS; rw [q1] at this; exact this)
            · obtain ⟨⟨km, kr⟩, kM⟩ := K cal hlt
              refine W.sz (fun hu => ?_)
              have hz := size_of hr hS hT.1 hsz hu
              refine so_callS X hdec hlt km h12 s1 s3 s4 (kM h12 _ _ _ _ hcall) elen ho2.1 hcs hr hS hz (hl.1.trans hln) ⟨by have := hle.1; have := hR.1; omega, by have := hle.2; have := hR.2; omega⟩ (fun H1 locs1 r1 o1 w1 => ?_)
              have := kk H1 locs1 Ls r1 (psh_ok o1 ho2.2) hl hln w1
              rw [psh_rtV] at this
              have q1 : x.2.1.1 - T0 = h.1.1 - T0 + (x.2.1.1 - h.1.1) := by have := hle.1; omega
              have q2 : x.2.1.2 - S0 = h.1.2 - S0 + (x.2.1.2 - h.1.2) := by have := hle.2; omega
              rw [q1, q2] at this
              exact this
          · cases hx
      · cases hx
    · cases hx
  · rename_i hy
    rw [hy] at hx
    cases hx

theorem sk_invvi {g : Gx} {mn : Nat} {p : Program} {l : Launch} {e : Env} {R : Room} {s : State} {m : MethodId} {args : Array Value} {below : List Frame} {meth : Method} {c : Code} {Q : State → Prop} {T0 S0 pc nx_ pc2 : Nat} {tt : List Nat} {q : Option (List Bool)} {ls ls2 : List (Option TV)} {st st2 : List TV} {h h2 : Hp} {i : Nat} (X : Cx g mn p R s m args meth c) (hdec : decode (byt mn) pc = .ok (.invokevirtual i, lenI (.invokevirtual i))) (hs : shp mn pc (.invokevirtual i, pc + lenI (.invokevirtual i), tt, q) = true) (hT : T0 ≤ h.1.1 ∧ S0 ≤ h.1.2) (hsz : s.heap.size = gB g + T0) (hR : h2.1.1 - T0 ≤ R.cells ∧ h2.1.2 - S0 ≤ R.slots) (hNM : mn ≤ NM) (K : Kn g l mn) (hx : ex (callT mn) mn (.invokevirtual i, pc + lenI (.invokevirtual i), tt, q) ls st h = some (Sum.inl (pc2, ls2, st2, h2))) (kk : StepG g mn p l e R s m args below meth c Q T0 S0 pc2 ls2 st2 h2) : StepG g mn p l e R s m args below meth c Q T0 S0 pc ls st h := by
  intro H locs Ls hr ho hl hln hS
  have hF := X.F
  obtain ⟨hx0, hb, hml, hown, hts, hBs, hini, hfr, hlo⟩ := id X
  simp only [ex] at hx
  simp only [shp] at hs
  split at hs
  · rename_i cal n c0 rt hy
    rw [hy] at hx
    simp only at hx
    split at hx
    · rename_i a as rest hp
      obtain ⟨est, elen⟩ := popn_of hp
      subst est
      split at hx
      · rename_i hok
        split at hx
        · rename_i hcs
          obtain ⟨hcs, hlt⟩ := hcs
          rw [if_neg (by omega)] at hs
          simp only [Bool.and_eq_true, Bool.not_eq_true'] at hs
          obtain ⟨⟨⟨⟨⟨⟨⟨s1, s2⟩, s3⟩, s4⟩, s5⟩, s6⟩, s7⟩, s8⟩ := hs
          have s2 := of_decide_eq_true s2
          have s4 := of_decide_eq_true s4
          have s5 := of_decide_eq_true s5
          have s6 := of_decide_eq_true s6
          have s7 := of_decide_eq_true s7
          subst s2
          have ho2 : (∀ v ∈ vR a :: as, okv v) ∧ ∀ v ∈ rest, okv v := ⟨fun v hv => ho v (List.mem_append_left _ (List.mem_reverse.mpr hv)), fun v hv => ho v (List.mem_append_right _ hv)⟩
          obtain ⟨x, hx1, hx2⟩ := Option.bind_eq_some_iff.mp hx
          obtain ⟨e1, e2, e3, e4⟩ := go_inj hx2
          subst e1 e2 e3 e4
          have hcall := callT_some hlt hNM hx1
          have hle := CA_leH hcall
          have e5 : ((vR a :: as).reverse ++ rest).map (cv g) = (as.map (cv g)).reverse ++ cvR g a :: rest.map (cv g) := by
            rw [List.reverse_cons, List.append_assoc, map_rev]
            rfl
          rw [e5]
          have h12 : ow cal ≠ 12 := by
            intro z
            have : ∀ k, k < 318 → ow k = 12 → stM k = true := by decide +kernel
            rw [this cal (by have : NM = 318 := rfl; omega) z] at s3
            cases s3
          obtain ⟨⟨km, kr⟩, kM⟩ := K cal hlt
          refine W.sz (fun hu => ?_)
          have hz := size_of hr hS hT.1 hsz hu
          refine so_callV X hdec hlt km h12 (wAt_mem s1).1 s3 s4 s6 s7 (wAt_mem s8).1 (of_decide_eq_true hok) (kM h12 _ _ _ _ hcall) (by simp at elen; omega) ho2.1 hcs hr hS hz (hl.1.trans hln) ⟨by have := hle.1; have := hR.1; omega, by have := hle.2; have := hR.2; omega⟩ (fun H1 locs1 r1 o1 w1 => ?_)
          have := kk H1 locs1 Ls r1 (psh_ok o1 ho2.2) hl hln w1
          rw [psh_rtV] at this
          have q1 : x.2.1.1 - T0 = h.1.1 - T0 + (x.2.1.1 - h.1.1) := by have := hle.1; omega
          have q2 : x.2.1.2 - S0 = h.1.2 - S0 + (x.2.1.2 - h.1.2) := by have := hle.2; omega
          rw [q1, q2] at this
          exact this
        · cases hx
      · cases hx
    · cases hx
  · rename_i hy
    rw [hy] at hx
    cases hx

theorem sk_invsp {g : Gx} {mn : Nat} {p : Program} {l : Launch} {e : Env} {R : Room} {s : State} {m : MethodId} {args : Array Value} {below : List Frame} {meth : Method} {c : Code} {Q : State → Prop} {T0 S0 pc nx_ pc2 : Nat} {tt : List Nat} {q : Option (List Bool)} {ls ls2 : List (Option TV)} {st st2 : List TV} {h h2 : Hp} {i : Nat} (X : Cx g mn p R s m args meth c) (hdec : decode (byt mn) pc = .ok (.invokespecial i, lenI (.invokespecial i))) (hs : shp mn pc (.invokespecial i, pc + lenI (.invokespecial i), tt, q) = true) (hT : T0 ≤ h.1.1 ∧ S0 ≤ h.1.2) (hsz : s.heap.size = gB g + T0) (hR : h2.1.1 - T0 ≤ R.cells ∧ h2.1.2 - S0 ≤ R.slots) (hNM : mn ≤ NM) (K : Kn g l mn) (hx : ex (callT mn) mn (.invokespecial i, pc + lenI (.invokespecial i), tt, q) ls st h = some (Sum.inl (pc2, ls2, st2, h2))) (kk : StepG g mn p l e R s m args below meth c Q T0 S0 pc2 ls2 st2 h2) : StepG g mn p l e R s m args below meth c Q T0 S0 pc ls st h := by
  intro H locs Ls hr ho hl hln hS
  have hF := X.F
  obtain ⟨hx0, hb, hml, hown, hts, hBs, hini, hfr, hlo⟩ := id X
  simp only [ex] at hx
  simp only [shp] at hs
  split at hs
  · rename_i cal n c0 rt hy
    rw [hy] at hx
    simp only at hx
    split at hx
    · rename_i a as rest hp
      obtain ⟨est, elen⟩ := popn_of hp
      subst est
      have ho2 : (∀ v ∈ vR a :: as, okv v) ∧ ∀ v ∈ rest, okv v := ⟨fun v hv => ho v (List.mem_append_left _ (List.mem_reverse.mpr hv)), fun v hv => ho v (List.mem_append_right _ hv)⟩
      have e5 : ((vR a :: as).reverse ++ rest).map (cv g) = (as.map (cv g)).reverse ++ cvR g a :: rest.map (cv g) := by
        rw [List.reverse_cons, List.append_assoc, map_rev]
        rfl
      split at hx
      · rename_i h90
        rw [if_pos h90] at hs
        rw [Bool.and_eq_true] at hs
        have hn1 := of_decide_eq_true hs.1
        split at hx
        · rename_i hz
          obtain ⟨e1, e2, e3, e4⟩ := go_inj hx
          subst e1 e2 e3 e4
          have has : as = [] := by
            cases as with
            | nil => rfl
            | cons b bs => simp at elen; omega
          subst has
          rw [e5]
          exact so_objI X hdec (wAt_mem hs.2).1 hz.1 hz.2 (hl.1.trans hln) (kk H locs Ls hr ho2.2 hl hln hS)
        · cases hx
      · rename_i h90
        rw [if_neg h90] at hs
        split at hx
        · rename_i hok
          split at hx
          · rename_i hcs
            obtain ⟨hcs, hlt, hrt⟩ := hcs
            rw [if_neg (by omega)] at hs
            simp only [Bool.and_eq_true, Bool.not_eq_true'] at hs
            obtain ⟨⟨⟨⟨⟨⟨s1, s2⟩, s3⟩, s4⟩, s5⟩, s6⟩, s7⟩ := hs
            have s2 := of_decide_eq_true s2
            have s4 := of_decide_eq_true s4
            have s5 := of_decide_eq_true s5
            have s6 := of_decide_eq_true s6
            have s7 := of_decide_eq_true s7
            obtain ⟨x, hx1, hx2⟩ := Option.bind_eq_some_iff.mp hx
            obtain ⟨e1, e2, e3, e4⟩ := go_inj hx2
            subst e1 e2 e3 e4
            have hcall := callT_some hlt hNM hx1
            have hle := CA_leH hcall
            rw [e5]
            have h12 : ow cal ≠ 12 := by
              intro z
              have : ∀ k, k < 318 → ow k = 12 → stM k = true := by decide +kernel
              rw [this cal (by have : NM = 318 := rfl; omega) z] at s3
              cases s3
            obtain ⟨⟨km, kr⟩, kM⟩ := K cal hlt
            have hrt0 : rtM cal = 0 := by rw [← s2]; exact hrt
            have hrT : rtT cal = none := by
              unfold chkR at kr
              rw [hrt0] at kr
              exact of_decide_eq_true kr
            refine W.sz (fun hu => ?_)
            have hz := size_of hr hS hT.1 hsz hu
            refine so_callI X hdec hlt km h12 s1 s3 s4 s6 hrT s7 (of_decide_eq_true hok) (kM h12 _ _ _ _ hcall) (by simp at elen; omega) ho2.1 hcs hr hS hz (hl.1.trans hln) ⟨by have := hle.1; have := hR.1; omega, by have := hle.2; have := hR.2; omega⟩ (fun H1 locs1 r1 o1 w1 => ?_)
            have := kk H1 locs1 Ls r1 ho2.2 hl hln w1
            have q1 : x.2.1.1 - T0 = h.1.1 - T0 + (x.2.1.1 - h.1.1) := by have := hle.1; omega
            have q2 : x.2.1.2 - S0 = h.1.2 - S0 + (x.2.1.2 - h.1.2) := by have := hle.2; omega
            rw [q1, q2] at this
            rw [hrt0]
            exact this
          · cases hx
        · cases hx
    · cases hx
  · rename_i hy
    rw [hy] at hx
    cases hx

set_option maxHeartbeats 4000000 in
theorem step_ok {g : Gx} {mn : Nat} {p : Program} {l : Launch} {e : Env} {R : Room} {s : State} {m : MethodId} {args : Array Value} {below : List Frame} {meth : Method} {c : Code} {Q : State → Prop} {T0 S0 pc nx_ pc2 : Nat} {tt : List Nat} {q : Option (List Bool)} {ls ls2 : List (Option TV)} {st st2 : List TV} {h h2 : Hp} {ent : Ent} (X : Cx g mn p R s m args meth c) (hck : chkE mn pc ent = true) (hT : T0 ≤ h.1.1 ∧ S0 ≤ h.1.2) (hsz : s.heap.size = gB g + T0) (hR : h2.1.1 - T0 ≤ R.cells ∧ h2.1.2 - S0 ≤ R.slots) (hNM : mn ≤ NM) (K : Kn g l mn) (hL : (gS g).2.1 ≤ 3072) (hx : ex (callT mn) mn ent ls st h = some (Sum.inl (pc2, ls2, st2, h2))) (kk : StepG g mn p l e R s m args below meth c Q T0 S0 pc2 ls2 st2 h2) : StepG g mn p l e R s m args below meth c Q T0 S0 pc ls st h := by
  obtain ⟨ins, nx_, tt, q⟩ := ent
  unfold chkE at hck
  simp only [Bool.and_eq_true, Bool.or_eq_true] at hck
  obtain ⟨⟨⟨hdec, hlt⟩, hlen⟩, hshp⟩ := hck
  have hdec := of_decide_eq_true hdec
  have hlt := of_decide_eq_true hlt
  have key : lenI ins ≠ 0 → nx_ = pc + lenI ins ∧ decode (byt mn) pc = .ok (ins, lenI ins) := by
    intro h0
    rcases hlen with z | z
    · exact absurd (of_decide_eq_true z) h0
    · have z := of_decide_eq_true z
      refine ⟨z, ?_⟩
      rw [hdec, z]
      congr 2
      omega
  cases ins with
  | iload i => 
    obtain ⟨e9, dc⟩ := key (by simp [lenI])
    subst e9
    exact sk_iload (nx_ := 0) X dc hx kk
  | iload_n i => 
    obtain ⟨e9, dc⟩ := key (by simp [lenI])
    subst e9
    exact sk_iload_n (nx_ := 0) X dc hx kk
  | lload i => 
    obtain ⟨e9, dc⟩ := key (by simp [lenI])
    subst e9
    exact sk_lload (nx_ := 0) X dc hx kk
  | lload_n i => 
    obtain ⟨e9, dc⟩ := key (by simp [lenI])
    subst e9
    exact sk_lload_n (nx_ := 0) X dc hx kk
  | aload i => 
    obtain ⟨e9, dc⟩ := key (by simp [lenI])
    subst e9
    exact sk_aload (nx_ := 0) X dc hx kk
  | aload_n i => 
    obtain ⟨e9, dc⟩ := key (by simp [lenI])
    subst e9
    exact sk_aload_n (nx_ := 0) X dc hx kk
  | istore i => 
    obtain ⟨e9, dc⟩ := key (by simp [lenI])
    subst e9
    exact sk_istore (nx_ := 0) X dc hx kk
  | istore_n i => 
    obtain ⟨e9, dc⟩ := key (by simp [lenI])
    subst e9
    exact sk_istore_n (nx_ := 0) X dc hx kk
  | lstore i => 
    obtain ⟨e9, dc⟩ := key (by simp [lenI])
    subst e9
    exact sk_lstore (nx_ := 0) X dc hx kk
  | lstore_n i => 
    obtain ⟨e9, dc⟩ := key (by simp [lenI])
    subst e9
    exact sk_lstore_n (nx_ := 0) X dc hx kk
  | astore i => 
    obtain ⟨e9, dc⟩ := key (by simp [lenI])
    subst e9
    exact sk_astore (nx_ := 0) X dc hx kk
  | astore_n i => 
    obtain ⟨e9, dc⟩ := key (by simp [lenI])
    subst e9
    exact sk_astore_n (nx_ := 0) X dc hx kk
  | lconst i => 
    obtain ⟨e9, dc⟩ := key (by simp [lenI])
    subst e9
    exact sk_lconst (nx_ := 0) X dc hx kk
  | iinc i c0 => 
    obtain ⟨e9, dc⟩ := key (by simp [lenI])
    subst e9
    exact sk_iinc (nx_ := 0) X dc hx kk
  | iadd => 
    obtain ⟨e9, dc⟩ := key (by simp [lenI])
    subst e9
    exact sk_iadd (nx_ := 0) X dc hx kk
  | isub => 
    obtain ⟨e9, dc⟩ := key (by simp [lenI])
    subst e9
    exact sk_isub (nx_ := 0) X dc hx kk
  | imul => 
    obtain ⟨e9, dc⟩ := key (by simp [lenI])
    subst e9
    exact sk_imul (nx_ := 0) X dc hx kk
  | ladd => 
    obtain ⟨e9, dc⟩ := key (by simp [lenI])
    subst e9
    exact sk_ladd (nx_ := 0) X dc hx kk
  | lsub => 
    obtain ⟨e9, dc⟩ := key (by simp [lenI])
    subst e9
    exact sk_lsub (nx_ := 0) X dc hx kk
  | lmul => 
    obtain ⟨e9, dc⟩ := key (by simp [lenI])
    subst e9
    exact sk_lmul (nx_ := 0) X dc hx kk
  | iand => 
    obtain ⟨e9, dc⟩ := key (by simp [lenI])
    subst e9
    exact sk_iand (nx_ := 0) X dc hx kk
  | ior => 
    obtain ⟨e9, dc⟩ := key (by simp [lenI])
    subst e9
    exact sk_ior (nx_ := 0) X dc hx kk
  | ixor => 
    obtain ⟨e9, dc⟩ := key (by simp [lenI])
    subst e9
    exact sk_ixor (nx_ := 0) X dc hx kk
  | ishl => 
    obtain ⟨e9, dc⟩ := key (by simp [lenI])
    subst e9
    exact sk_ishl (nx_ := 0) X dc hx kk
  | ishr => 
    obtain ⟨e9, dc⟩ := key (by simp [lenI])
    subst e9
    exact sk_ishr (nx_ := 0) X dc hx kk
  | iushr => 
    obtain ⟨e9, dc⟩ := key (by simp [lenI])
    subst e9
    exact sk_iushr (nx_ := 0) X dc hx kk
  | idiv => 
    obtain ⟨e9, dc⟩ := key (by simp [lenI])
    subst e9
    exact sk_idiv (nx_ := 0) X dc hx kk
  | ldiv => 
    obtain ⟨e9, dc⟩ := key (by simp [lenI])
    subst e9
    exact sk_ldiv (nx_ := 0) X dc hx kk
  | irem => 
    obtain ⟨e9, dc⟩ := key (by simp [lenI])
    subst e9
    exact sk_irem (nx_ := 0) X dc hx kk
  | lrem => 
    obtain ⟨e9, dc⟩ := key (by simp [lenI])
    subst e9
    exact sk_lrem (nx_ := 0) X dc hx kk
  | ineg => 
    obtain ⟨e9, dc⟩ := key (by simp [lenI])
    subst e9
    exact sk_ineg (nx_ := 0) X dc hx kk
  | lneg => 
    obtain ⟨e9, dc⟩ := key (by simp [lenI])
    subst e9
    exact sk_lneg (nx_ := 0) X dc hx kk
  | i2l => 
    obtain ⟨e9, dc⟩ := key (by simp [lenI])
    subst e9
    exact sk_i2l (nx_ := 0) X dc hx kk
  | l2i => 
    obtain ⟨e9, dc⟩ := key (by simp [lenI])
    subst e9
    exact sk_l2i (nx_ := 0) X dc hx kk
  | i2b => 
    obtain ⟨e9, dc⟩ := key (by simp [lenI])
    subst e9
    exact sk_i2b (nx_ := 0) X dc hx kk
  | i2c => 
    obtain ⟨e9, dc⟩ := key (by simp [lenI])
    subst e9
    exact sk_i2c (nx_ := 0) X dc hx kk
  | lcmp => 
    obtain ⟨e9, dc⟩ := key (by simp [lenI])
    subst e9
    exact sk_lcmp (nx_ := 0) X dc hx kk
  | dup => 
    obtain ⟨e9, dc⟩ := key (by simp [lenI])
    subst e9
    exact sk_dup (nx_ := 0) X dc hx kk
  | dup2 => 
    obtain ⟨e9, dc⟩ := key (by simp [lenI])
    subst e9
    exact sk_dup2 (nx_ := 0) X dc hx kk
  | pop => 
    obtain ⟨e9, dc⟩ := key (by simp [lenI])
    subst e9
    exact sk_pop (nx_ := 0) X dc hx kk
  | iaload => 
    obtain ⟨e9, dc⟩ := key (by simp [lenI])
    subst e9
    exact sk_iaload (nx_ := 0) X dc hx kk
  | laload => 
    obtain ⟨e9, dc⟩ := key (by simp [lenI])
    subst e9
    exact sk_laload (nx_ := 0) X dc hx kk
  | baload => 
    obtain ⟨e9, dc⟩ := key (by simp [lenI])
    subst e9
    exact sk_baload (nx_ := 0) X dc hx kk
  | aaload => 
    obtain ⟨e9, dc⟩ := key (by simp [lenI])
    subst e9
    exact sk_aaload (nx_ := 0) X dc hx kk
  | iastore => 
    obtain ⟨e9, dc⟩ := key (by simp [lenI])
    subst e9
    exact sk_iastore (nx_ := 0) X dc hx kk
  | lastore => 
    obtain ⟨e9, dc⟩ := key (by simp [lenI])
    subst e9
    exact sk_lastore (nx_ := 0) X dc hx kk
  | aastore => 
    obtain ⟨e9, dc⟩ := key (by simp [lenI])
    subst e9
    exact sk_aastore (nx_ := 0) X dc hx kk
  | bastore => 
    obtain ⟨e9, dc⟩ := key (by simp [lenI])
    subst e9
    exact sk_bastore (nx_ := 0) X dc hx kk
  | iconst i => 
    obtain ⟨e9, dc⟩ := key (by simp [lenI])
    subst e9
    have hi := of_decide_eq_true (show decide (-1 ≤ i ∧ i ≤ 5) = true from hshp)
    exact sk_iconst (nx_ := 0) X dc ⟨by omega, by omega⟩ hx kk
  | bipush i => 
    obtain ⟨e9, dc⟩ := key (by simp [lenI])
    subst e9
    have hi := of_decide_eq_true (show decide (-128 ≤ i ∧ i ≤ 127) = true from hshp)
    exact sk_bipush (nx_ := 0) X dc hi hx kk
  | sipush i => 
    obtain ⟨e9, dc⟩ := key (by simp [lenI])
    subst e9
    have hi := of_decide_eq_true (show decide (-32768 ≤ i ∧ i ≤ 32767) = true from hshp)
    exact sk_sipush (nx_ := 0) X dc hi hx kk
  | goto o => 
    obtain ⟨e9, dc⟩ := key (by simp [lenI])
    subst e9
    exact sk_goto (nx_ := 0) X dc hshp hx kk
  | ifnonnull o => 
    obtain ⟨e9, dc⟩ := key (by simp [lenI])
    subst e9
    exact sk_ifnn (nx_ := 0) X dc hshp hx kk
  | if_icmp cc o => 
    obtain ⟨e9, dc⟩ := key (by simp [lenI])
    subst e9
    cases cc
    · exact sk_if_icmp_eq (nx_ := 0) X dc hshp hx kk
    · exact sk_if_icmp_ne (nx_ := 0) X dc hshp hx kk
    · exact sk_if_icmp_lt (nx_ := 0) X dc hshp hx kk
    · exact sk_if_icmp_ge (nx_ := 0) X dc hshp hx kk
    · exact sk_if_icmp_gt (nx_ := 0) X dc hshp hx kk
    · exact sk_if_icmp_le (nx_ := 0) X dc hshp hx kk

  | ifCond cc o => 
    obtain ⟨e9, dc⟩ := key (by simp [lenI])
    subst e9
    cases cc
    · exact sk_ifCond_eq (nx_ := 0) X dc hshp hx kk
    · exact sk_ifCond_ne (nx_ := 0) X dc hshp hx kk
    · exact sk_ifCond_lt (nx_ := 0) X dc hshp hx kk
    · exact sk_ifCond_ge (nx_ := 0) X dc hshp hx kk
    · exact sk_ifCond_gt (nx_ := 0) X dc hshp hx kk
    · exact sk_ifCond_le (nx_ := 0) X dc hshp hx kk

  | tableswitch d lo hi os => exact sk_tsw X hdec hshp hx kk
  | ldc i => 
    obtain ⟨e9, dc⟩ := key (by simp [lenI])
    subst e9
    exact sk_ldc (nx_ := 0) X dc hshp hx kk
  | ldc_w i => 
    obtain ⟨e9, dc⟩ := key (by simp [lenI])
    subst e9
    exact sk_ldc_w (nx_ := 0) X dc hshp hx kk
  | ldc2_w i => 
    obtain ⟨e9, dc⟩ := key (by simp [lenI])
    subst e9
    exact sk_ldc2_w (nx_ := 0) X dc hshp hx kk
  | getstatic i => 
    obtain ⟨e9, dc⟩ := key (by simp [lenI])
    subst e9
    exact sk_getst (nx_ := 0) X dc hshp hx kk
  | getfield i => 
    obtain ⟨e9, dc⟩ := key (by simp [lenI])
    subst e9
    exact sk_getf (nx_ := 0) X dc hshp hx kk
  | putfield i => 
    obtain ⟨e9, dc⟩ := key (by simp [lenI])
    subst e9
    exact sk_putf (nx_ := 0) X dc hshp hx kk
  | arraylength => 
    obtain ⟨e9, dc⟩ := key (by simp [lenI])
    subst e9
    exact sk_alen (nx_ := 0) X dc hL hx kk
  | new i => 
    obtain ⟨e9, dc⟩ := key (by simp [lenI])
    subst e9
    exact sk_new (nx_ := 0) X dc hshp hT hsz hR hx kk
  | newarray t => 
    obtain ⟨e9, dc⟩ := key (by simp [lenI])
    subst e9
    exact sk_newa (nx_ := 0) X dc hshp hT hsz hR hx kk
  | anewarray i => 
    obtain ⟨e9, dc⟩ := key (by simp [lenI])
    subst e9
    exact sk_anew (nx_ := 0) X dc hshp hT hsz hR hx kk
  | invokestatic i => 
    obtain ⟨e9, dc⟩ := key (by simp [lenI])
    subst e9
    exact sk_invst (nx_ := 0) X dc hshp hT hsz hR hNM K hx kk
  | invokevirtual i => 
    obtain ⟨e9, dc⟩ := key (by simp [lenI])
    subst e9
    exact sk_invvi (nx_ := 0) X dc hshp hT hsz hR hNM K hx kk
  | invokespecial i => 
    obtain ⟨e9, dc⟩ := key (by simp [lenI])
    subst e9
    exact sk_invsp (nx_ := 0) X dc hshp hT hsz hR hNM K hx kk
  | ireturn => 
    simp only [ex] at hx
    split at hx <;> (try split at hx) <;> cases hx
  | lreturn => 
    simp only [ex] at hx
    split at hx <;> (try split at hx) <;> cases hx
  | areturn => 
    simp only [ex] at hx
    split at hx <;> (try split at hx) <;> cases hx
  | return_ => 
    simp only [ex] at hx
    split at hx <;> (try split at hx) <;> cases hx
  | _ => simp only [ex] at hx; cases hx
