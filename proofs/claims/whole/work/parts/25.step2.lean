/-! Steps of the heap, of calls, of switches; all steps together. Printed by wip/whole/gen/st2.py. -/
theorem sk_ifnn {g : Gx} {mn : Nat} {p : Program} {l : Launch} {e : Env} {R : Room} {s : State} {m : MethodId} {args : Array Value} {below : List Frame} {meth : Method} {c : Code} {Q : State → Prop} {T0 S0 pc nx_ pc2 : Nat} {tt : List Nat} {q : Option (List Bool)} {ls ls2 : List (Option TV)} {st st2 : List TV} {h h2 : Hp} {o : Int} (X : Cx g mn p R s m args meth c) (hdec : decode (byt mn) pc = .ok (.ifnonnull o, lenI (.ifnonnull o))) (ht : tgt1 pc (.ifnonnull o, pc + lenI (.ifnonnull o), tt, q) o = true) (hx : ex (callT mn) mn (.ifnonnull o, pc + lenI (.ifnonnull o), tt, q) ls st h = some (Sum.inl (pc2, ls2, st2, h2))) (kk : StepG g mn p l e R s m args below meth c Q T0 S0 pc2 ls2 st2 h2) : StepG g mn p l e R s m args below meth c Q T0 S0 pc ls st h := by
  intro H locs Ls hr ho hl hln hS
  have hF := X.F
  obtain ⟨hx0, hb, hml, hown, hts, hBs, hini, hfr, hlo⟩ := id X
  simp only [ex] at hx
  split at hx
  · rename_i a st3
    split at hx
    · rename_i h0
      obtain ⟨e1, e2, e3, e4⟩ := go_inj hx
      subst e1 e2 e3 e4
      show W p l e R s m args below meth c H locs _ _ Q (F0 m pc Ls (cvR g a :: st3.map (cv g)))
      by_cases z : a = 0
      · rw [if_pos z] at kk
        subst z
        exact lv_ifnonnullN hx0 hb hdec (kk H locs Ls hr (ok1 ho).2 hl hln hS)
      · rw [if_neg z] at kk
        rw [cvR_pos (by omega)]
        exact lv_ifnonnull hx0 hb hdec (tgt1_of ht) (kk H locs Ls hr (ok1 ho).2 hl hln hS)
    · cases hx
  · cases hx

theorem tswi_at (x : Int) (D : Nat) : ∀ (ts : List Nat) (lo : Int) (k : Nat), x = lo + k → k < ts.length → tswi x D lo ts = ts.getD k 0
  | [], lo, k, _, h => by simp at h
  | t :: ts, lo, 0, h, _ => by simp [tswi, h]
  | t :: ts, lo, k + 1, h, hk => by
    unfold tswi
    rw [if_neg (by omega), tswi_at x D ts (lo + 1) k (by omega) (by simpa using hk)]
    simp
theorem tswi_out (x : Int) (D : Nat) : ∀ (ts : List Nat) (lo : Int), (x < lo ∨ lo + (ts.length : Int) ≤ x) → tswi x D lo ts = D
  | [], lo, _ => rfl
  | t :: ts, lo, h => by
    unfold tswi
    simp only [List.length_cons] at h
    rw [if_neg (by omega), tswi_out x D ts (lo + 1) (by omega)]
theorem sk_tsw {g : Gx} {mn : Nat} {p : Program} {l : Launch} {e : Env} {R : Room} {s : State} {m : MethodId} {args : Array Value} {below : List Frame} {meth : Method} {c : Code} {Q : State → Prop} {T0 S0 pc nx_ pc2 : Nat} {tt : List Nat} {q : Option (List Bool)} {ls ls2 : List (Option TV)} {st st2 : List TV} {h h2 : Hp} {d lo hi : Int} {os : Array Int} (X : Cx g mn p R s m args meth c) (hdec : decode (byt mn) pc = .ok (.tableswitch d lo hi os, nx_ - pc)) (hs : shp mn pc (.tableswitch d lo hi os, nx_, tt, q) = true) (hx : ex (callT mn) mn (.tableswitch d lo hi os, nx_, tt, q) ls st h = some (Sum.inl (pc2, ls2, st2, h2))) (kk : StepG g mn p l e R s m args below meth c Q T0 S0 pc2 ls2 st2 h2) : StepG g mn p l e R s m args below meth c Q T0 S0 pc ls st h := by
  intro H locs Ls hr ho hl hln hS
  obtain ⟨hx0, hb, hml, hown, hts, hBs, hini, hfr, hlo⟩ := id X
  simp only [ex] at hx
  simp only [shp, Bool.and_eq_true] at hs
  obtain ⟨⟨⟨h1, h2⟩, h3⟩, h4⟩ := hs
  have h1 := of_decide_eq_true h1
  have h2 := of_decide_eq_true h2
  have h4 := of_decide_eq_true h4
  split at hx
  · rename_i x st3
    obtain ⟨e1, e2, e3, e4⟩ := go_inj hx
    subst e1 e2 e3 e4
    obtain ⟨ox, ho⟩ := ok1 ho
    simp only [h1, tg1, List.headD_cons, List.tail_cons] at kk
    have hxt : (Int32.ofInt x).toInt = x := o32_t ox
    by_cases z : x < lo ∨ hi < x
    · rw [tswi_out x _ _ lo (by rw [List.length_map]; omega)] at kk
      exact lv_tableOut (tgt := ((pc : Int) + d).toNat) hx0 hb hdec (by rw [hxt]; exact z) (by omega) (kk H locs Ls hr ho hl hln hS)
    · have hk : (x - lo).toNat < os.toList.length := by omega
      have hget : os[(x - lo).toNat]? = some (os.toList[(x - lo).toNat]) := by
        rw [← Array.getElem?_toList]; exact List.getElem?_eq_getElem hk
      have hp : 0 ≤ (pc : Int) + os.toList[(x - lo).toNat] := of_decide_eq_true (List.all_eq_true.mp h3 _ (List.getElem_mem hk))
      rw [tswi_at x _ _ lo (x - lo).toNat (by omega) (by rw [List.length_map]; exact hk)] at kk
      have e9 : (os.toList.map (fun o => ((pc : Int) + o).toNat)).getD (x - lo).toNat 0 = ((pc : Int) + os.toList[(x - lo).toNat]).toNat := by
        rw [List.getD_eq_getElem?_getD, List.getElem?_map, List.getElem?_eq_getElem hk]; rfl
      rw [e9] at kk
      exact lv_tableIn (tgt := ((pc : Int) + os.toList[(x - lo).toNat]).toNat) hx0 hb hdec (by rw [hxt]; omega) (by rw [hxt]; omega) (by rw [hxt]; exact hget) (by omega) (kk H locs Ls hr ho hl hln hS)
  · cases hx
theorem sk_ldc {g : Gx} {mn : Nat} {p : Program} {l : Launch} {e : Env} {R : Room} {s : State} {m : MethodId} {args : Array Value} {below : List Frame} {meth : Method} {c : Code} {Q : State → Prop} {T0 S0 pc nx_ pc2 : Nat} {tt : List Nat} {q : Option (List Bool)} {ls ls2 : List (Option TV)} {st st2 : List TV} {h h2 : Hp} {i : Nat} (X : Cx g mn p R s m args meth c) (hdec : decode (byt mn) pc = .ok (.ldc i, lenI (.ldc i))) (hs : shp mn pc (.ldc i, pc + lenI (.ldc i), tt, q) = true) (hx : ex (callT mn) mn (.ldc i, pc + lenI (.ldc i), tt, q) ls st h = some (Sum.inl (pc2, ls2, st2, h2))) (kk : StepG g mn p l e R s m args below meth c Q T0 S0 pc2 ls2 st2 h2) : StepG g mn p l e R s m args below meth c Q T0 S0 pc ls st h := by
  intro H locs Ls hr ho hl hln hS
  have hF := X.F
  obtain ⟨hx0, hb, hml, hown, hts, hBs, hini, hfr, hlo⟩ := id X
  simp only [ex] at hx
  simp only [shp] at hs
  split at hs
  · rename_i x hk
    split at hx
    · rename_i v hv
      rw [hk] at hv
      cases hv
      obtain ⟨e1, e2, e3, e4⟩ := go_inj hx
      subst e1 e2 e3 e4
      rw [Bool.and_eq_true] at hs
      obtain ⟨s1, s2⟩ := hs
      have s1 := of_decide_eq_true s1
      exact lv_ldc hx0 hb hown (hts _ (wAt_mem s2).1) hdec (kk H locs Ls hr (okc s1 ho) hl hln hS)
    · cases hx
  · rename_i a hk
    split at hx
    · rename_i v hv
      rw [hk] at hv
      cases hv
      obtain ⟨e1, e2, e3, e4⟩ := go_inj hx
      subst e1 e2 e3 e4
      rw [Bool.and_eq_true] at hs
      obtain ⟨s1, s2⟩ := hs
      obtain ⟨a1, a2⟩ := of_decide_eq_true s1
      obtain ⟨n1, n2⟩ := of_decide_eq_true s2
      obtain ⟨q1, -⟩ := hBs.2.2.2.1 (-10 - a).toNat (by omega)
      have q1' : vk_R (cnm (ow mn)) i (stI (-10 - a).toNat).2.2 (gK g (-10 - a).toNat) s := by
        have e1 : (stI (-10 - a).toNat).1 = cnm (ow mn) := n1
        have e2 : (stI (-10 - a).toNat).2.1 = i := n2
        rw [e1, e2] at q1
        exact q1
      refine va_ldcS hx0 hb hown q1' hdec ?_
      rw [← cvR_str a1 a2]
      exact kk H locs Ls hr (okc trivial ho) hl hln hS
    · cases hx
  · cases hs
  · rename_i hk
    rw [hk] at hx
    cases hx

theorem sk_ldc_w {g : Gx} {mn : Nat} {p : Program} {l : Launch} {e : Env} {R : Room} {s : State} {m : MethodId} {args : Array Value} {below : List Frame} {meth : Method} {c : Code} {Q : State → Prop} {T0 S0 pc nx_ pc2 : Nat} {tt : List Nat} {q : Option (List Bool)} {ls ls2 : List (Option TV)} {st st2 : List TV} {h h2 : Hp} {i : Nat} (X : Cx g mn p R s m args meth c) (hdec : decode (byt mn) pc = .ok (.ldc_w i, lenI (.ldc_w i))) (hs : shp mn pc (.ldc_w i, pc + lenI (.ldc_w i), tt, q) = true) (hx : ex (callT mn) mn (.ldc_w i, pc + lenI (.ldc_w i), tt, q) ls st h = some (Sum.inl (pc2, ls2, st2, h2))) (kk : StepG g mn p l e R s m args below meth c Q T0 S0 pc2 ls2 st2 h2) : StepG g mn p l e R s m args below meth c Q T0 S0 pc ls st h := by
  intro H locs Ls hr ho hl hln hS
  have hF := X.F
  obtain ⟨hx0, hb, hml, hown, hts, hBs, hini, hfr, hlo⟩ := id X
  simp only [ex] at hx
  simp only [shp] at hs
  split at hs
  · rename_i x hk
    split at hx
    · rename_i v hv
      rw [hk] at hv
      cases hv
      obtain ⟨e1, e2, e3, e4⟩ := go_inj hx
      subst e1 e2 e3 e4
      rw [Bool.and_eq_true] at hs
      obtain ⟨s1, s2⟩ := hs
      have s1 := of_decide_eq_true s1
      exact lv_ldcw hx0 hb hown (hts _ (wAt_mem s2).1) hdec (kk H locs Ls hr (okc s1 ho) hl hln hS)
    · cases hx
  · cases hs
  · rename_i hk
    rw [hk] at hx
    cases hx

theorem sk_ldc2_w {g : Gx} {mn : Nat} {p : Program} {l : Launch} {e : Env} {R : Room} {s : State} {m : MethodId} {args : Array Value} {below : List Frame} {meth : Method} {c : Code} {Q : State → Prop} {T0 S0 pc nx_ pc2 : Nat} {tt : List Nat} {q : Option (List Bool)} {ls ls2 : List (Option TV)} {st st2 : List TV} {h h2 : Hp} {i : Nat} (X : Cx g mn p R s m args meth c) (hdec : decode (byt mn) pc = .ok (.ldc2_w i, lenI (.ldc2_w i))) (hs : shp mn pc (.ldc2_w i, pc + lenI (.ldc2_w i), tt, q) = true) (hx : ex (callT mn) mn (.ldc2_w i, pc + lenI (.ldc2_w i), tt, q) ls st h = some (Sum.inl (pc2, ls2, st2, h2))) (kk : StepG g mn p l e R s m args below meth c Q T0 S0 pc2 ls2 st2 h2) : StepG g mn p l e R s m args below meth c Q T0 S0 pc ls st h := by
  intro H locs Ls hr ho hl hln hS
  have hF := X.F
  obtain ⟨hx0, hb, hml, hown, hts, hBs, hini, hfr, hlo⟩ := id X
  simp only [ex] at hx
  simp only [shp] at hs
  split at hs
  · rename_i x hk
    split at hx
    · rename_i v hv
      rw [hk] at hv
      cases hv
      obtain ⟨e1, e2, e3, e4⟩ := go_inj hx
      subst e1 e2 e3 e4
      rw [Bool.and_eq_true] at hs
      obtain ⟨s1, s2⟩ := hs
      have s1 := of_decide_eq_true s1
      exact lv_ldc2 hx0 hb hown (hts _ (wAt_mem s2).1) hdec (kk H locs Ls hr (okc s1 ho) hl hln hS)
    · cases hx
  · cases hs
  · rename_i hk
    rw [hk] at hx
    cases hx

theorem sk_getst {g : Gx} {mn : Nat} {p : Program} {l : Launch} {e : Env} {R : Room} {s : State} {m : MethodId} {args : Array Value} {below : List Frame} {meth : Method} {c : Code} {Q : State → Prop} {T0 S0 pc nx_ pc2 : Nat} {tt : List Nat} {q : Option (List Bool)} {ls ls2 : List (Option TV)} {st st2 : List TV} {h h2 : Hp} {i : Nat} (X : Cx g mn p R s m args meth c) (hdec : decode (byt mn) pc = .ok (.getstatic i, lenI (.getstatic i))) (hs : shp mn pc (.getstatic i, pc + lenI (.getstatic i), tt, q) = true) (hx : ex (callT mn) mn (.getstatic i, pc + lenI (.getstatic i), tt, q) ls st h = some (Sum.inl (pc2, ls2, st2, h2))) (kk : StepG g mn p l e R s m args below meth c Q T0 S0 pc2 ls2 st2 h2) : StepG g mn p l e R s m args below meth c Q T0 S0 pc ls st h := by
  intro H locs Ls hr ho hl hln hS
  have hF := X.F
  obtain ⟨hx0, hb, hml, hown, hts, hBs, hini, hfr, hlo⟩ := id X
  simp only [ex] at hx
  simp only [shp] at hs
  split at hs
  · rename_i x hk
    split at hx
    · rename_i v hv
      rw [hk] at hv
      cases hv
      obtain ⟨e1, e2, e3, e4⟩ := go_inj hx
      subst e1 e2 e3 e4
      rw [Bool.and_eq_true] at hs
      obtain ⟨s1, s2⟩ := hs
      have s1 := of_decide_eq_true s1
      subst s1
      exact va_gets (A := AB g) hx0 hb hBs.2.2.2.2.1 hS hown (hts _ (wAt_mem s2).1) (fun _ h9 => h9) hdec (kk H locs Ls hr (okc ⟨by decide, by decide⟩ ho) hl hln hS)
    · cases hx
  · rename_i a hk
    split at hx
    · rename_i v hv
      rw [hk] at hv
      cases hv
      obtain ⟨e1, e2, e3, e4⟩ := go_inj hx
      subst e1 e2 e3 e4
      rw [Bool.and_eq_true] at hs
      obtain ⟨s1, s2⟩ := hs
      have s1 := of_decide_eq_true s1
      subst s1
      exact va_gets (A := AB g) hx0 hb hBs.2.2.2.2.2.1 hS hown (hts _ (wAt_mem s2).1) (fun _ h9 => h9) hdec (kk H locs Ls hr (okc trivial ho) hl hln hS)
    · cases hx
  · cases hs
  · rename_i hk
    rw [hk] at hx
    cases hx

theorem fvT_1 (x : Int) : fvT 1 x = vL x := rfl
theorem fvT_2 (x : Int) : fvT 2 x = vR x := rfl
theorem fvT_o {t : Nat} (h1 : t ≠ 1) (h2 : t ≠ 2) (x : Int) : fvT t x = vI x := by unfold fvT; rw [if_neg h1, if_neg h2]
theorem sk_getf {g : Gx} {mn : Nat} {p : Program} {l : Launch} {e : Env} {R : Room} {s : State} {m : MethodId} {args : Array Value} {below : List Frame} {meth : Method} {c : Code} {Q : State → Prop} {T0 S0 pc nx_ pc2 : Nat} {tt : List Nat} {q : Option (List Bool)} {ls ls2 : List (Option TV)} {st st2 : List TV} {h h2 : Hp} {i : Nat} (X : Cx g mn p R s m args meth c) (hdec : decode (byt mn) pc = .ok (.getfield i, lenI (.getfield i))) (hs : shp mn pc (.getfield i, pc + lenI (.getfield i), tt, q) = true) (hx : ex (callT mn) mn (.getfield i, pc + lenI (.getfield i), tt, q) ls st h = some (Sum.inl (pc2, ls2, st2, h2))) (kk : StepG g mn p l e R s m args below meth c Q T0 S0 pc2 ls2 st2 h2) : StepG g mn p l e R s m args below meth c Q T0 S0 pc ls st h := by
  intro H locs Ls hr ho hl hln hS
  have hF := X.F
  obtain ⟨hx0, hb, hml, hown, hts, hBs, hini, hfr, hlo⟩ := id X
  simp only [ex] at hx
  simp only [shp] at hs
  split at hs
  · rename_i y hy
    split at hx
    · rename_i c0 k st3 a hf
      rw [hy] at hf
      cases hf
      split at hx
      · rename_i hok
        obtain ⟨e1, e2, e3, e4⟩ := go_inj hx
        subst e1 e2 e3 e4
        exact so_get X hdec hs (of_decide_eq_true hok) hr hS (fun o1 => kk H locs Ls hr (okc o1 (ok1 ho).2) hl hln hS)
      · cases hx
    · rename_i c0 k st3 a hf
      rw [hy] at hf
      cases hf
      split at hx
      · rename_i hok
        obtain ⟨e1, e2, e3, e4⟩ := go_inj hx
        subst e1 e2 e3 e4
        exact so_get X hdec hs (of_decide_eq_true hok) hr hS (fun o1 => kk H locs Ls hr (okc o1 (ok1 ho).2) hl hln hS)
      · cases hx
    · rename_i c0 k t a st3 n1 n2 hf
      rw [hy] at hf
      cases hf
      split at hx
      · rename_i hok
        obtain ⟨e1, e2, e3, e4⟩ := go_inj hx
        subst e1 e2 e3 e4
        have e5 := fvT_o (t := t) n1 n2 (mR h a k)
        refine so_get X hdec hs (of_decide_eq_true hok) hr hS (fun o1 => ?_)
        rw [e5] at o1 ⊢
        exact kk H locs Ls hr (okc o1 (ok1 ho).2) hl hln hS
      · cases hx
    · cases hx
  · rename_i hy
    rw [hy] at hx
    simp at hx

theorem sk_putf {g : Gx} {mn : Nat} {p : Program} {l : Launch} {e : Env} {R : Room} {s : State} {m : MethodId} {args : Array Value} {below : List Frame} {meth : Method} {c : Code} {Q : State → Prop} {T0 S0 pc nx_ pc2 : Nat} {tt : List Nat} {q : Option (List Bool)} {ls ls2 : List (Option TV)} {st st2 : List TV} {h h2 : Hp} {i : Nat} (X : Cx g mn p R s m args meth c) (hdec : decode (byt mn) pc = .ok (.putfield i, lenI (.putfield i))) (hs : shp mn pc (.putfield i, pc + lenI (.putfield i), tt, q) = true) (hx : ex (callT mn) mn (.putfield i, pc + lenI (.putfield i), tt, q) ls st h = some (Sum.inl (pc2, ls2, st2, h2))) (kk : StepG g mn p l e R s m args below meth c Q T0 S0 pc2 ls2 st2 h2) : StepG g mn p l e R s m args below meth c Q T0 S0 pc ls st h := by
  intro H locs Ls hr ho hl hln hS
  have hF := X.F
  obtain ⟨hx0, hb, hml, hown, hts, hBs, hini, hfr, hlo⟩ := id X
  simp only [ex] at hx
  simp only [shp] at hs
  split at hs
  · rename_i y hy
    simp only [Bool.and_eq_true, Bool.or_eq_true, Bool.not_eq_true'] at hs
    obtain ⟨⟨hs, hc12⟩, hfin⟩ := hs
    have hc12 := of_decide_eq_true hc12
    have hfin2 : (fdT (y.1.toNat - 1) y.2.1.toNat).2.2.1 = true → (nmD mn).1 = "<init>" ∧ cnm (y.1.toNat - 1) = cnm (ow mn) := by
      intro z
      rcases hfin with w | ⟨w1, w2⟩
      · rw [z] at w; cases w
      · exact ⟨of_decide_eq_true w1, of_decide_eq_true w2⟩
    split at hx
    · rename_i c0 k v a st3 hf
      rw [hy] at hf
      cases hf
      split at hx
      · rename_i hok
        obtain ⟨e1, e2, e3, e4⟩ := go_inj hx
        subst e1 e2 e3 e4
        obtain ⟨ov, ho⟩ := ok1 ho
        exact so_put (t := 0) X hdec hs hc12 hfin2 (of_decide_eq_true hok) ov hr hS (fun H1 locs1 r1 s1 => kk H1 locs1 Ls r1 (ok1 ho).2 hl hln s1)
      · cases hx
    · rename_i c0 k v a st3 hf
      rw [hy] at hf
      cases hf
      split at hx
      · rename_i hok
        obtain ⟨e1, e2, e3, e4⟩ := go_inj hx
        subst e1 e2 e3 e4
        obtain ⟨ov, ho⟩ := ok1 ho
        exact so_put (t := 1) X hdec hs hc12 hfin2 (of_decide_eq_true hok) ov hr hS (fun H1 locs1 r1 s1 => kk H1 locs1 Ls r1 (ok1 ho).2 hl hln s1)
      · cases hx
    · rename_i c0 k v a st3 hf
      rw [hy] at hf
      cases hf
      split at hx
      · rename_i hok
        obtain ⟨e1, e2, e3, e4⟩ := go_inj hx
        subst e1 e2 e3 e4
        obtain ⟨ov, ho⟩ := ok1 ho
        exact so_put (t := 2) X hdec hs hc12 hfin2 (of_decide_eq_true hok) trivial hr hS (fun H1 locs1 r1 s1 => kk H1 locs1 Ls r1 (ok1 ho).2 hl hln s1)
      · cases hx
    · rename_i c0 k v a st3 hf
      rw [hy] at hf
      cases hf
      split at hx
      · rename_i hok
        split at hx
        · rename_i hz
          obtain ⟨e1, e2, e3, e4⟩ := go_inj hx
          subst e1 e2 e3 e4
          obtain ⟨ov, ho⟩ := ok1 ho
          exact so_put (t := 3) X hdec hs hc12 hfin2 (of_decide_eq_true hok) hz hr hS (fun H1 locs1 r1 s1 => kk H1 locs1 Ls r1 (ok1 ho).2 hl hln s1)
        · cases hx
      · cases hx
    · cases hx
  · rename_i hy
    rw [hy] at hx
    simp at hx

theorem sk_iaload {g : Gx} {mn : Nat} {p : Program} {l : Launch} {e : Env} {R : Room} {s : State} {m : MethodId} {args : Array Value} {below : List Frame} {meth : Method} {c : Code} {Q : State → Prop} {T0 S0 pc nx_ pc2 : Nat} {tt : List Nat} {q : Option (List Bool)} {ls ls2 : List (Option TV)} {st st2 : List TV} {h h2 : Hp}  (X : Cx g mn p R s m args meth c) (hdec : decode (byt mn) pc = .ok (.iaload, lenI (.iaload))) (hx : ex (callT mn) mn (.iaload, pc + lenI (.iaload), tt, q) ls st h = some (Sum.inl (pc2, ls2, st2, h2))) (kk : StepG g mn p l e R s m args below meth c Q T0 S0 pc2 ls2 st2 h2) : StepG g mn p l e R s m args below meth c Q T0 S0 pc ls st h := by
  intro H locs Ls hr ho hl hln hS
  have hF := X.F
  obtain ⟨hx0, hb, hml, hown, hts, hBs, hini, hfr, hlo⟩ := id X
  simp only [ex] at hx
  split at hx
  · rename_i i a st3
    split at hx
    · rename_i hok
      obtain ⟨e1, e2, e3, e4⟩ := go_inj hx
      subst e1 e2 e3 e4
      obtain ⟨oi, ho⟩ := ok1 ho
      obtain ⟨-, ho⟩ := ok1 ho
      exact so_iald X hdec oi hok hr hS (fun o1 => kk H locs Ls hr (okc o1 ho) hl hln hS)
    · cases hx
  · cases hx

theorem sk_laload {g : Gx} {mn : Nat} {p : Program} {l : Launch} {e : Env} {R : Room} {s : State} {m : MethodId} {args : Array Value} {below : List Frame} {meth : Method} {c : Code} {Q : State → Prop} {T0 S0 pc nx_ pc2 : Nat} {tt : List Nat} {q : Option (List Bool)} {ls ls2 : List (Option TV)} {st st2 : List TV} {h h2 : Hp}  (X : Cx g mn p R s m args meth c) (hdec : decode (byt mn) pc = .ok (.laload, lenI (.laload))) (hx : ex (callT mn) mn (.laload, pc + lenI (.laload), tt, q) ls st h = some (Sum.inl (pc2, ls2, st2, h2))) (kk : StepG g mn p l e R s m args below meth c Q T0 S0 pc2 ls2 st2 h2) : StepG g mn p l e R s m args below meth c Q T0 S0 pc ls st h := by
  intro H locs Ls hr ho hl hln hS
  have hF := X.F
  obtain ⟨hx0, hb, hml, hown, hts, hBs, hini, hfr, hlo⟩ := id X
  simp only [ex] at hx
  split at hx
  · rename_i i a st3
    split at hx
    · rename_i hok
      obtain ⟨e1, e2, e3, e4⟩ := go_inj hx
      subst e1 e2 e3 e4
      obtain ⟨oi, ho⟩ := ok1 ho
      obtain ⟨-, ho⟩ := ok1 ho
      exact so_lald X hdec oi hok hr (fun o1 => kk H locs Ls hr (okc o1 ho) hl hln hS)
    · cases hx
  · cases hx

theorem sk_baload {g : Gx} {mn : Nat} {p : Program} {l : Launch} {e : Env} {R : Room} {s : State} {m : MethodId} {args : Array Value} {below : List Frame} {meth : Method} {c : Code} {Q : State → Prop} {T0 S0 pc nx_ pc2 : Nat} {tt : List Nat} {q : Option (List Bool)} {ls ls2 : List (Option TV)} {st st2 : List TV} {h h2 : Hp}  (X : Cx g mn p R s m args meth c) (hdec : decode (byt mn) pc = .ok (.baload, lenI (.baload))) (hx : ex (callT mn) mn (.baload, pc + lenI (.baload), tt, q) ls st h = some (Sum.inl (pc2, ls2, st2, h2))) (kk : StepG g mn p l e R s m args below meth c Q T0 S0 pc2 ls2 st2 h2) : StepG g mn p l e R s m args below meth c Q T0 S0 pc ls st h := by
  intro H locs Ls hr ho hl hln hS
  have hF := X.F
  obtain ⟨hx0, hb, hml, hown, hts, hBs, hini, hfr, hlo⟩ := id X
  simp only [ex] at hx
  split at hx
  · rename_i i a st3
    split at hx
    · rename_i hok
      obtain ⟨e1, e2, e3, e4⟩ := go_inj hx
      subst e1 e2 e3 e4
      obtain ⟨oi, ho⟩ := ok1 ho
      obtain ⟨-, ho⟩ := ok1 ho
      exact so_bald X hdec oi hok hr hS (fun o1 => kk H locs Ls hr (okc o1 ho) hl hln hS)
    · cases hx
  · cases hx

theorem sk_aaload {g : Gx} {mn : Nat} {p : Program} {l : Launch} {e : Env} {R : Room} {s : State} {m : MethodId} {args : Array Value} {below : List Frame} {meth : Method} {c : Code} {Q : State → Prop} {T0 S0 pc nx_ pc2 : Nat} {tt : List Nat} {q : Option (List Bool)} {ls ls2 : List (Option TV)} {st st2 : List TV} {h h2 : Hp}  (X : Cx g mn p R s m args meth c) (hdec : decode (byt mn) pc = .ok (.aaload, lenI (.aaload))) (hx : ex (callT mn) mn (.aaload, pc + lenI (.aaload), tt, q) ls st h = some (Sum.inl (pc2, ls2, st2, h2))) (kk : StepG g mn p l e R s m args below meth c Q T0 S0 pc2 ls2 st2 h2) : StepG g mn p l e R s m args below meth c Q T0 S0 pc ls st h := by
  intro H locs Ls hr ho hl hln hS
  have hF := X.F
  obtain ⟨hx0, hb, hml, hown, hts, hBs, hini, hfr, hlo⟩ := id X
  simp only [ex] at hx
  split at hx
  · rename_i i a st3
    split at hx
    · rename_i hok
      obtain ⟨e1, e2, e3, e4⟩ := go_inj hx
      subst e1 e2 e3 e4
      obtain ⟨oi, ho⟩ := ok1 ho
      obtain ⟨-, ho⟩ := ok1 ho
      exact so_aald X hdec oi hok hr (kk H locs Ls hr (okc trivial ho) hl hln hS)
    · cases hx
  · cases hx

theorem sk_alen {g : Gx} {mn : Nat} {p : Program} {l : Launch} {e : Env} {R : Room} {s : State} {m : MethodId} {args : Array Value} {below : List Frame} {meth : Method} {c : Code} {Q : State → Prop} {T0 S0 pc nx_ pc2 : Nat} {tt : List Nat} {q : Option (List Bool)} {ls ls2 : List (Option TV)} {st st2 : List TV} {h h2 : Hp}  (X : Cx g mn p R s m args meth c) (hdec : decode (byt mn) pc = .ok (.arraylength, lenI (.arraylength))) (hL : (gS g).2.1 ≤ 3072) (hx : ex (callT mn) mn (.arraylength, pc + lenI (.arraylength), tt, q) ls st h = some (Sum.inl (pc2, ls2, st2, h2))) (kk : StepG g mn p l e R s m args below meth c Q T0 S0 pc2 ls2 st2 h2) : StepG g mn p l e R s m args below meth c Q T0 S0 pc ls st h := by
  intro H locs Ls hr ho hl hln hS
  have hF := X.F
  obtain ⟨hx0, hb, hml, hown, hts, hBs, hini, hfr, hlo⟩ := id X
  simp only [ex] at hx
  split at hx
  · rename_i a st3
    split at hx
    · rename_i hok
      obtain ⟨e1, e2, e3, e4⟩ := go_inj hx
      subst e1 e2 e3 e4
      obtain ⟨-, ho⟩ := ok1 ho
      refine so_alen X hdec hok hr hS (kk H locs Ls hr (okc ?_ ho) hl hln hS)
      show in32 (mL h a)
      obtain ⟨y1, y2⟩ := of_decide_eq_true hok
      rcases Int.lt_or_le a 0 with z | z
      · rcases stat_of hr z (by omega) (by omega) with ⟨-, w⟩ | ⟨-, w⟩
        · rw [(hr.2.1.2.2.1 a w.1 w.2).1]
          have hall : ∀ n, n < 27 → (sby n).length ≤ 100 := by decide +kernel
          have := hall (-50 - a).toNat (by omega)
          unfold in32; omega
        · subst w
          rw [hr.2.1.2.2.2.1]
          unfold in32; omega
      · obtain ⟨a1, a2⟩ := hr.2.pos (a := a) (by omega) z
        rcases hr.2.2.1 a a1 a2 with ⟨w1, w2, -⟩ | ⟨w1, w2, -⟩
        · omega
        · unfold in32; omega
    · cases hx
  · cases hx

theorem sk_iastore {g : Gx} {mn : Nat} {p : Program} {l : Launch} {e : Env} {R : Room} {s : State} {m : MethodId} {args : Array Value} {below : List Frame} {meth : Method} {c : Code} {Q : State → Prop} {T0 S0 pc nx_ pc2 : Nat} {tt : List Nat} {q : Option (List Bool)} {ls ls2 : List (Option TV)} {st st2 : List TV} {h h2 : Hp}  (X : Cx g mn p R s m args meth c) (hdec : decode (byt mn) pc = .ok (.iastore, lenI (.iastore))) (hx : ex (callT mn) mn (.iastore, pc + lenI (.iastore), tt, q) ls st h = some (Sum.inl (pc2, ls2, st2, h2))) (kk : StepG g mn p l e R s m args below meth c Q T0 S0 pc2 ls2 st2 h2) : StepG g mn p l e R s m args below meth c Q T0 S0 pc ls st h := by
  intro H locs Ls hr ho hl hln hS
  have hF := X.F
  obtain ⟨hx0, hb, hml, hown, hts, hBs, hini, hfr, hlo⟩ := id X
  simp only [ex] at hx
  split at hx
  · rename_i v i a st3
    split at hx
    · rename_i hok
      obtain ⟨e1, e2, e3, e4⟩ := go_inj hx
      subst e1 e2 e3 e4
      obtain ⟨ov, ho⟩ := ok1 ho
      obtain ⟨oi, ho⟩ := ok1 ho
      obtain ⟨-, ho⟩ := ok1 ho
      exact so_iast X hdec oi ov hok hr hS (fun H1 locs1 r1 s1 => kk H1 locs1 Ls r1 ho hl hln s1)
    · cases hx
  · cases hx

theorem sk_lastore {g : Gx} {mn : Nat} {p : Program} {l : Launch} {e : Env} {R : Room} {s : State} {m : MethodId} {args : Array Value} {below : List Frame} {meth : Method} {c : Code} {Q : State → Prop} {T0 S0 pc nx_ pc2 : Nat} {tt : List Nat} {q : Option (List Bool)} {ls ls2 : List (Option TV)} {st st2 : List TV} {h h2 : Hp}  (X : Cx g mn p R s m args meth c) (hdec : decode (byt mn) pc = .ok (.lastore, lenI (.lastore))) (hx : ex (callT mn) mn (.lastore, pc + lenI (.lastore), tt, q) ls st h = some (Sum.inl (pc2, ls2, st2, h2))) (kk : StepG g mn p l e R s m args below meth c Q T0 S0 pc2 ls2 st2 h2) : StepG g mn p l e R s m args below meth c Q T0 S0 pc ls st h := by
  intro H locs Ls hr ho hl hln hS
  have hF := X.F
  obtain ⟨hx0, hb, hml, hown, hts, hBs, hini, hfr, hlo⟩ := id X
  simp only [ex] at hx
  split at hx
  · rename_i v i a st3
    split at hx
    · rename_i hok
      obtain ⟨e1, e2, e3, e4⟩ := go_inj hx
      subst e1 e2 e3 e4
      obtain ⟨ov, ho⟩ := ok1 ho
      obtain ⟨oi, ho⟩ := ok1 ho
      obtain ⟨-, ho⟩ := ok1 ho
      exact so_last X hdec oi ov hok hr hS (fun H1 locs1 r1 s1 => kk H1 locs1 Ls r1 ho hl hln s1)
    · cases hx
  · cases hx

theorem sk_aastore {g : Gx} {mn : Nat} {p : Program} {l : Launch} {e : Env} {R : Room} {s : State} {m : MethodId} {args : Array Value} {below : List Frame} {meth : Method} {c : Code} {Q : State → Prop} {T0 S0 pc nx_ pc2 : Nat} {tt : List Nat} {q : Option (List Bool)} {ls ls2 : List (Option TV)} {st st2 : List TV} {h h2 : Hp}  (X : Cx g mn p R s m args meth c) (hdec : decode (byt mn) pc = .ok (.aastore, lenI (.aastore))) (hx : ex (callT mn) mn (.aastore, pc + lenI (.aastore), tt, q) ls st h = some (Sum.inl (pc2, ls2, st2, h2))) (kk : StepG g mn p l e R s m args below meth c Q T0 S0 pc2 ls2 st2 h2) : StepG g mn p l e R s m args below meth c Q T0 S0 pc ls st h := by
  intro H locs Ls hr ho hl hln hS
  have hF := X.F
  obtain ⟨hx0, hb, hml, hown, hts, hBs, hini, hfr, hlo⟩ := id X
  simp only [ex] at hx
  split at hx
  · rename_i v i a st3
    split at hx
    · rename_i hok
      obtain ⟨e1, e2, e3, e4⟩ := go_inj hx
      subst e1 e2 e3 e4
      obtain ⟨ov, ho⟩ := ok1 ho
      obtain ⟨oi, ho⟩ := ok1 ho
      obtain ⟨-, ho⟩ := ok1 ho
      exact so_aast X hdec oi hok hr hS (fun H1 locs1 r1 s1 => kk H1 locs1 Ls r1 ho hl hln s1)
    · cases hx
  · cases hx

theorem sk_bastore {g : Gx} {mn : Nat} {p : Program} {l : Launch} {e : Env} {R : Room} {s : State} {m : MethodId} {args : Array Value} {below : List Frame} {meth : Method} {c : Code} {Q : State → Prop} {T0 S0 pc nx_ pc2 : Nat} {tt : List Nat} {q : Option (List Bool)} {ls ls2 : List (Option TV)} {st st2 : List TV} {h h2 : Hp}  (X : Cx g mn p R s m args meth c) (hdec : decode (byt mn) pc = .ok (.bastore, lenI (.bastore))) (hx : ex (callT mn) mn (.bastore, pc + lenI (.bastore), tt, q) ls st h = some (Sum.inl (pc2, ls2, st2, h2))) (kk : StepG g mn p l e R s m args below meth c Q T0 S0 pc2 ls2 st2 h2) : StepG g mn p l e R s m args below meth c Q T0 S0 pc ls st h := by
  intro H locs Ls hr ho hl hln hS
  have hF := X.F
  obtain ⟨hx0, hb, hml, hown, hts, hBs, hini, hfr, hlo⟩ := id X
  simp only [ex] at hx
  split at hx
  · rename_i v i a st3
    obtain ⟨ov, ho⟩ := ok1 ho
    obtain ⟨oi, ho⟩ := ok1 ho
    obtain ⟨-, ho⟩ := ok1 ho
    split at hx
    · rename_i hok
      obtain ⟨e1, e2, e3, e4⟩ := go_inj hx
      subst e1 e2 e3 e4
      exact so_bast X hdec oi (Or.inl ⟨hok, rfl⟩) hr hS (fun H1 locs1 r1 s1 => kk H1 locs1 Ls r1 ho hl hln s1)
    · split at hx
      · rename_i hok
        obtain ⟨e1, e2, e3, e4⟩ := go_inj hx
        subst e1 e2 e3 e4
        exact so_bast X hdec oi (Or.inr ⟨hok.1, hok.2, rfl⟩) hr hS (fun H1 locs1 r1 s1 => kk H1 locs1 Ls r1 ho hl hln s1)
      · cases hx
  · cases hx

theorem size_of {g : Gx} {s : State} {h : Hp} {H : Heap} {locs : List Loc} {T0 : Nat} (hr : RelH g h H) (hS : va_S (AB g) s.heap H locs) (hT : T0 ≤ h.1.1) (hsz : s.heap.size = gB g + T0) (hu : H.size ≤ s.heap.size + (h.1.1 - T0)) : H.size = gB g + h.1.1 := by
  have h1 := hS.1
  have h2 := hr.size_ge (by omega)
  omega
theorem sk_new {g : Gx} {mn : Nat} {p : Program} {l : Launch} {e : Env} {R : Room} {s : State} {m : MethodId} {args : Array Value} {below : List Frame} {meth : Method} {c : Code} {Q : State → Prop} {T0 S0 pc nx_ pc2 : Nat} {tt : List Nat} {q : Option (List Bool)} {ls ls2 : List (Option TV)} {st st2 : List TV} {h h2 : Hp} {i : Nat} (X : Cx g mn p R s m args meth c) (hdec : decode (byt mn) pc = .ok (.new i, lenI (.new i))) (hs : shp mn pc (.new i, pc + lenI (.new i), tt, q) = true) (hT : T0 ≤ h.1.1 ∧ S0 ≤ h.1.2) (hsz : s.heap.size = gB g + T0) (hR : h2.1.1 - T0 ≤ R.cells ∧ h2.1.2 - S0 ≤ R.slots) (hx : ex (callT mn) mn (.new i, pc + lenI (.new i), tt, q) ls st h = some (Sum.inl (pc2, ls2, st2, h2))) (kk : StepG g mn p l e R s m args below meth c Q T0 S0 pc2 ls2 st2 h2) : StepG g mn p l e R s m args below meth c Q T0 S0 pc ls st h := by
  intro H locs Ls hr ho hl hln hS
  have hF := X.F
  obtain ⟨hx0, hb, hml, hown, hts, hBs, hini, hfr, hlo⟩ := id X
  simp only [ex] at hx
  simp only [shp] at hs
  split at hs
  · rename_i c0 n hy
    simp only [Bool.and_eq_true] at hs
    obtain ⟨⟨⟨⟨s1, s2⟩, s3⟩, s4⟩, s5⟩ := hs
    obtain ⟨c1, c2⟩ := of_decide_eq_true s1
    rw [hy] at hx
    simp only at hx
    obtain ⟨e1, e2, e3, e4⟩ := go_inj hx
    subst e1 e2 e3 e4
    refine W.sz (fun hu => ?_)
    have hz := size_of hr hS hT.1 hsz hu
    have r1 : h.1.1 + 1 - T0 ≤ R.cells := hR.1
    have r2 : h.1.2 + n - S0 ≤ R.slots := hR.2
    refine so_new X hdec c1 c2 (of_decide_eq_true s2) (wAt_mem s3).1 (wAt_mem s4).1 (wAt_mem s5).1 hr hS hz (by omega) (by omega) (fun H1 w1 w2 => ?_)
    have := kk H1 locs Ls w1 (okc trivial ho) hl hln w2
    have q1 : (mA h c0 n).1.1 - T0 = h.1.1 - T0 + 1 := by show h.1.1 + 1 - T0 = _; omega
    have q2 : (mA h c0 n).1.2 - S0 = h.1.2 - S0 + n := by show h.1.2 + n - S0 = _; omega
    rw [q1, q2] at this
    exact this
  · rename_i hy
    rw [hy] at hx
    cases hx

theorem sk_newa {g : Gx} {mn : Nat} {p : Program} {l : Launch} {e : Env} {R : Room} {s : State} {m : MethodId} {args : Array Value} {below : List Frame} {meth : Method} {c : Code} {Q : State → Prop} {T0 S0 pc nx_ pc2 : Nat} {tt : List Nat} {q : Option (List Bool)} {ls ls2 : List (Option TV)} {st st2 : List TV} {h h2 : Hp} {t : ArrayType} (X : Cx g mn p R s m args meth c) (hdec : decode (byt mn) pc = .ok (.newarray t, lenI (.newarray t))) (hs : shp mn pc (.newarray t, pc + lenI (.newarray t), tt, q) = true) (hT : T0 ≤ h.1.1 ∧ S0 ≤ h.1.2) (hsz : s.heap.size = gB g + T0) (hR : h2.1.1 - T0 ≤ R.cells ∧ h2.1.2 - S0 ≤ R.slots) (hx : ex (callT mn) mn (.newarray t, pc + lenI (.newarray t), tt, q) ls st h = some (Sum.inl (pc2, ls2, st2, h2))) (kk : StepG g mn p l e R s m args below meth c Q T0 S0 pc2 ls2 st2 h2) : StepG g mn p l e R s m args below meth c Q T0 S0 pc ls st h := by
  intro H locs Ls hr ho hl hln hS
  have hF := X.F
  obtain ⟨hx0, hb, hml, hown, hts, hBs, hini, hfr, hlo⟩ := id X
  simp only [ex] at hx
  simp only [shp, Bool.and_eq_true] at hs
  obtain ⟨s1, s2⟩ := hs
  have s1 := of_decide_eq_true s1
  split at hx
  · rename_i n st3
    split at hx
    · rename_i hn
      obtain ⟨e1, e2, e3, e4⟩ := go_inj hx
      subst e1 e2 e3 e4
      refine W.sz (fun hu => ?_)
      have hz := size_of hr hS hT.1 hsz hu
      have r1 : h.1.1 + 1 - T0 ≤ R.cells := hR.1
      have r2 : h.1.2 + n.toNat - S0 ≤ R.slots := hR.2
      refine so_newa X hdec (wAt_mem s2).1 s1 hn.1 hn.2 hr hS hz (by omega) (by omega) (fun H1 w1 w2 => ?_)
      have := kk H1 locs Ls w1 (okc trivial (ok1 ho).2) hl hln w2
      have q1 : (mA h (atK t) n.toNat).1.1 - T0 = h.1.1 - T0 + 1 := by show h.1.1 + 1 - T0 = _; omega
      have q2 : (mA h (atK t) n.toNat).1.2 - S0 = h.1.2 - S0 + n.toNat := by show h.1.2 + n.toNat - S0 = _; omega
      rw [q1, q2] at this
      exact this
    · cases hx
  · cases hx

theorem sk_anew {g : Gx} {mn : Nat} {p : Program} {l : Launch} {e : Env} {R : Room} {s : State} {m : MethodId} {args : Array Value} {below : List Frame} {meth : Method} {c : Code} {Q : State → Prop} {T0 S0 pc nx_ pc2 : Nat} {tt : List Nat} {q : Option (List Bool)} {ls ls2 : List (Option TV)} {st st2 : List TV} {h h2 : Hp} {i : Nat} (X : Cx g mn p R s m args meth c) (hdec : decode (byt mn) pc = .ok (.anewarray i, lenI (.anewarray i))) (hs : shp mn pc (.anewarray i, pc + lenI (.anewarray i), tt, q) = true) (hT : T0 ≤ h.1.1 ∧ S0 ≤ h.1.2) (hsz : s.heap.size = gB g + T0) (hR : h2.1.1 - T0 ≤ R.cells ∧ h2.1.2 - S0 ≤ R.slots) (hx : ex (callT mn) mn (.anewarray i, pc + lenI (.anewarray i), tt, q) ls st h = some (Sum.inl (pc2, ls2, st2, h2))) (kk : StepG g mn p l e R s m args below meth c Q T0 S0 pc2 ls2 st2 h2) : StepG g mn p l e R s m args below meth c Q T0 S0 pc ls st h := by
  intro H locs Ls hr ho hl hln hS
  have hF := X.F
  obtain ⟨hx0, hb, hml, hown, hts, hBs, hini, hfr, hlo⟩ := id X
  simp only [ex] at hx
  simp only [shp] at hs
  split at hs
  · rename_i c0 hy
    simp only [Bool.and_eq_true] at hs
    obtain ⟨s1, s2⟩ := hs
    obtain ⟨c1, c2⟩ := of_decide_eq_true s1
    rw [hy] at hx
    split at hx
    · rename_i c9 n st3 hc9
      cases hc9
      split at hx
      · rename_i hn
        obtain ⟨e1, e2, e3, e4⟩ := go_inj hx
        subst e1 e2 e3 e4
        refine W.sz (fun hu => ?_)
        have hz := size_of hr hS hT.1 hsz hu
        have r1 : h.1.1 + 1 - T0 ≤ R.cells := hR.1
        have r2 : h.1.2 + n.toNat - S0 ≤ R.slots := hR.2
        refine so_anew X hdec c1 c2 (wAt_mem s2).1 hn.1 hn.2 hr hS hz (by omega) (by omega) (fun H1 w1 w2 => ?_)
        have := kk H1 locs Ls w1 (okc trivial (ok1 ho).2) hl hln w2
        have q1 : (mA h c0 n.toNat).1.1 - T0 = h.1.1 - T0 + 1 := by show h.1.1 + 1 - T0 = _; omega
        have q2 : (mA h c0 n.toNat).1.2 - S0 = h.1.2 - S0 + n.toNat := by show h.1.2 + n.toNat - S0 = _; omega
        rw [q1, q2] at this
        exact this
      · cases hx
    · cases hx
  · rename_i hy
    rw [hy] at hx
    simp at hx

