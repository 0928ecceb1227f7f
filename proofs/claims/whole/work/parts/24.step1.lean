/-! One step of the interpreter is one step of the machine: printed by wip/whole/gen/st.py. -/
def StepG (g : Gx) (mn : Nat) (p : Program) (l : Launch) (e : Env) (R : Room) (s : State) (m : MethodId) (args : Array Value) (below : List Frame) (meth : Method) (c : Code) (Q : State → Prop) (T0 S0 pc : Nat) (ls : List (Option TV)) (st : List TV) (h : Hp) : Prop := ∀ (H : Heap) (locs : List Loc) (Ls : Array Slot), RelH g h H → (∀ v ∈ st, okv v) → lvK g Ls ls → ls.length = mxl mn → va_S (AB g) s.heap H locs → W p l e R s m args below meth c H locs (h.1.1 - T0) (h.1.2 - S0) Q (F0 m pc Ls (st.map (cv g)))
theorem okc {x : TV} {st : List TV} (h1 : okv x) (h2 : ∀ v ∈ st, okv v) : ∀ v ∈ x :: st, okv v := List.forall_mem_cons.mpr ⟨h1, h2⟩
theorem ok1 {x : TV} {st : List TV} (h : ∀ v ∈ x :: st, okv v) : okv x ∧ ∀ v ∈ st, okv v := List.forall_mem_cons.mp h
theorem o32_le {a b : Int} (ha : in32 a) (hb : in32 b) : Int32.ofInt a ≤ Int32.ofInt b ↔ a ≤ b := by rw [Int32.le_iff_toInt_le, o32_t ha, o32_t hb]
theorem in32_0 : in32 0 := ⟨by decide, by decide⟩
theorem o32_0 : Int32.ofInt 0 = 0 := by decide
theorem Cx.F {g : Gx} {mn : Nat} {p : Program} {R : Room} {s : State} {m : MethodId} {args : Array Value} {meth : Method} {c : Code} (X : Cx g mn p R s m args meth c) : gF g = .null ∨ ∃ t, gF g = .ref t := X.2.2.2.2.2.1.2.2.2.2.2.2.2.2.2
theorem w_aload {p : Program} {l : Launch} {e : Env} {R : Room} {s : State} {m : MethodId} {args : Array Value} {below : List Frame} {meth : Method} {c : Code} {H : Heap} {locs : List Loc} {cells slots : Nat} {Q : State → Prop} {cc : ByteArray} {pc : Nat} {ls : Array Slot} {rest : List Value} (hx : p.tables.exec = Jvm.exec) (hb : c.code = cc) {i : Nat} {v : Value} (hv : v = .null ∨ ∃ q, v = .ref q) (hd : decode cc pc = .ok (.aload i, 2)) (hl : ls[i]? = some (.val v)) (k : W p l e R s m args below meth c H locs cells slots Q (F0 m (pc + 2) ls (v :: rest))) : W p l e R s m args below meth c H locs cells slots Q (F0 m pc ls rest) := by
  rcases hv with rfl | ⟨q, rfl⟩
  · exact lv_aloadN hx hb hd hl k
  · exact lv_aload hx hb hd hl k
theorem w_aload_n {p : Program} {l : Launch} {e : Env} {R : Room} {s : State} {m : MethodId} {args : Array Value} {below : List Frame} {meth : Method} {c : Code} {H : Heap} {locs : List Loc} {cells slots : Nat} {Q : State → Prop} {cc : ByteArray} {pc : Nat} {ls : Array Slot} {rest : List Value} (hx : p.tables.exec = Jvm.exec) (hb : c.code = cc) {i : Fin 4} {v : Value} (hv : v = .null ∨ ∃ q, v = .ref q) (hd : decode cc pc = .ok (.aload_n i, 1)) (hl : ls[i.val]? = some (.val v)) (k : W p l e R s m args below meth c H locs cells slots Q (F0 m (pc + 1) ls (v :: rest))) : W p l e R s m args below meth c H locs cells slots Q (F0 m pc ls rest) := by
  rcases hv with rfl | ⟨q, rfl⟩
  · exact lv_aload_nN hx hb hd rfl hl k
  · exact lv_aload_n hx hb hd rfl hl k
theorem sk_iconst {g : Gx} {mn : Nat} {p : Program} {l : Launch} {e : Env} {R : Room} {s : State} {m : MethodId} {args : Array Value} {below : List Frame} {meth : Method} {c : Code} {Q : State → Prop} {T0 S0 pc nx_ pc2 : Nat} {tt : List Nat} {q : Option (List Bool)} {ls ls2 : List (Option TV)} {st st2 : List TV} {h h2 : Hp} {i : Int} (X : Cx g mn p R s m args meth c) (hdec : decode (byt mn) pc = .ok (.iconst i, lenI (.iconst i))) (hi : in32 i) (hx : ex (callT mn) mn (.iconst i, pc + lenI (.iconst i), tt, q) ls st h = some (Sum.inl (pc2, ls2, st2, h2))) (kk : StepG g mn p l e R s m args below meth c Q T0 S0 pc2 ls2 st2 h2) : StepG g mn p l e R s m args below meth c Q T0 S0 pc ls st h := by
  intro H locs Ls hr ho hl hln hS
  have hF := X.F
  obtain ⟨hx0, hb, hml, hown, hts, hBs, hini, hfr, hlo⟩ := id X
  simp only [ex] at hx
  obtain ⟨e1, e2, e3, e4⟩ := go_inj hx
  subst e1 e2 e3 e4
  exact lv_iconst hx0 hb hdec rfl (kk H locs Ls hr (okc hi ho) hl hln hS)

theorem sk_bipush {g : Gx} {mn : Nat} {p : Program} {l : Launch} {e : Env} {R : Room} {s : State} {m : MethodId} {args : Array Value} {below : List Frame} {meth : Method} {c : Code} {Q : State → Prop} {T0 S0 pc nx_ pc2 : Nat} {tt : List Nat} {q : Option (List Bool)} {ls ls2 : List (Option TV)} {st st2 : List TV} {h h2 : Hp} {i : Int} (X : Cx g mn p R s m args meth c) (hdec : decode (byt mn) pc = .ok (.bipush i, lenI (.bipush i))) (hi : -128 ≤ i ∧ i ≤ 127) (hx : ex (callT mn) mn (.bipush i, pc + lenI (.bipush i), tt, q) ls st h = some (Sum.inl (pc2, ls2, st2, h2))) (kk : StepG g mn p l e R s m args below meth c Q T0 S0 pc2 ls2 st2 h2) : StepG g mn p l e R s m args below meth c Q T0 S0 pc ls st h := by
  intro H locs Ls hr ho hl hln hS
  have hF := X.F
  obtain ⟨hx0, hb, hml, hown, hts, hBs, hini, hfr, hlo⟩ := id X
  simp only [ex] at hx
  obtain ⟨e1, e2, e3, e4⟩ := go_inj hx
  subst e1 e2 e3 e4
  have e : (Int8.ofInt i).toInt32 = Int32.ofInt i := by
    apply Int32.toInt.inj
    rw [Int8.toInt_toInt32, Int8.toInt_ofInt_of_le (by omega) (by omega), o32_t ⟨by omega, by omega⟩]
  exact lv_bipush hx0 hb hdec e (kk H locs Ls hr (okc ⟨by omega, by omega⟩ ho) hl hln hS)

theorem sk_sipush {g : Gx} {mn : Nat} {p : Program} {l : Launch} {e : Env} {R : Room} {s : State} {m : MethodId} {args : Array Value} {below : List Frame} {meth : Method} {c : Code} {Q : State → Prop} {T0 S0 pc nx_ pc2 : Nat} {tt : List Nat} {q : Option (List Bool)} {ls ls2 : List (Option TV)} {st st2 : List TV} {h h2 : Hp} {i : Int} (X : Cx g mn p R s m args meth c) (hdec : decode (byt mn) pc = .ok (.sipush i, lenI (.sipush i))) (hi : -32768 ≤ i ∧ i ≤ 32767) (hx : ex (callT mn) mn (.sipush i, pc + lenI (.sipush i), tt, q) ls st h = some (Sum.inl (pc2, ls2, st2, h2))) (kk : StepG g mn p l e R s m args below meth c Q T0 S0 pc2 ls2 st2 h2) : StepG g mn p l e R s m args below meth c Q T0 S0 pc ls st h := by
  intro H locs Ls hr ho hl hln hS
  have hF := X.F
  obtain ⟨hx0, hb, hml, hown, hts, hBs, hini, hfr, hlo⟩ := id X
  simp only [ex] at hx
  obtain ⟨e1, e2, e3, e4⟩ := go_inj hx
  subst e1 e2 e3 e4
  have e : (Int16.ofInt i).toInt32 = Int32.ofInt i := by
    apply Int32.toInt.inj
    rw [Int16.toInt_toInt32, Int16.toInt_ofInt_of_le (by omega) (by omega), o32_t ⟨by omega, by omega⟩]
  exact lv_sipush hx0 hb hdec e (kk H locs Ls hr (okc ⟨by omega, by omega⟩ ho) hl hln hS)

theorem sk_lconst {g : Gx} {mn : Nat} {p : Program} {l : Launch} {e : Env} {R : Room} {s : State} {m : MethodId} {args : Array Value} {below : List Frame} {meth : Method} {c : Code} {Q : State → Prop} {T0 S0 pc nx_ pc2 : Nat} {tt : List Nat} {q : Option (List Bool)} {ls ls2 : List (Option TV)} {st st2 : List TV} {h h2 : Hp} {i : Fin 2} (X : Cx g mn p R s m args meth c) (hdec : decode (byt mn) pc = .ok (.lconst i, lenI (.lconst i))) (hx : ex (callT mn) mn (.lconst i, pc + lenI (.lconst i), tt, q) ls st h = some (Sum.inl (pc2, ls2, st2, h2))) (kk : StepG g mn p l e R s m args below meth c Q T0 S0 pc2 ls2 st2 h2) : StepG g mn p l e R s m args below meth c Q T0 S0 pc ls st h := by
  intro H locs Ls hr ho hl hln hS
  have hF := X.F
  obtain ⟨hx0, hb, hml, hown, hts, hBs, hini, hfr, hlo⟩ := id X
  simp only [ex] at hx
  obtain ⟨e1, e2, e3, e4⟩ := go_inj hx
  subst e1 e2 e3 e4
  have hi2 : i.val < 2 := i.isLt
  exact lv_lconst hx0 hb hdec (Int64.ofInt_eq_ofNat.symm) (kk H locs Ls hr (okc ⟨by omega, by omega⟩ ho) hl hln hS)

theorem sk_iload {g : Gx} {mn : Nat} {p : Program} {l : Launch} {e : Env} {R : Room} {s : State} {m : MethodId} {args : Array Value} {below : List Frame} {meth : Method} {c : Code} {Q : State → Prop} {T0 S0 pc nx_ pc2 : Nat} {tt : List Nat} {q : Option (List Bool)} {ls ls2 : List (Option TV)} {st st2 : List TV} {h h2 : Hp} {i : Nat} (X : Cx g mn p R s m args meth c) (hdec : decode (byt mn) pc = .ok (.iload i, lenI (.iload i))) (hx : ex (callT mn) mn (.iload i, pc + lenI (.iload i), tt, q) ls st h = some (Sum.inl (pc2, ls2, st2, h2))) (kk : StepG g mn p l e R s m args below meth c Q T0 S0 pc2 ls2 st2 h2) : StepG g mn p l e R s m args below meth c Q T0 S0 pc ls st h := by
  intro H locs Ls hr ho hl hln hS
  have hF := X.F
  obtain ⟨hx0, hb, hml, hown, hts, hBs, hini, hfr, hlo⟩ := id X
  simp only [ex] at hx
  split at hx
  · rename_i v hv
    obtain ⟨e1, e2, e3, e4⟩ := go_inj hx
    subst e1 e2 e3 e4
    obtain ⟨g1, g2⟩ := hl.2.2 _ _ hv
    exact lv_iload hx0 hb hdec g1 (kk H locs Ls hr (okc g2 ho) hl hln hS)
  · cases hx

theorem sk_iload_n {g : Gx} {mn : Nat} {p : Program} {l : Launch} {e : Env} {R : Room} {s : State} {m : MethodId} {args : Array Value} {below : List Frame} {meth : Method} {c : Code} {Q : State → Prop} {T0 S0 pc nx_ pc2 : Nat} {tt : List Nat} {q : Option (List Bool)} {ls ls2 : List (Option TV)} {st st2 : List TV} {h h2 : Hp} {i : Fin 4} (X : Cx g mn p R s m args meth c) (hdec : decode (byt mn) pc = .ok (.iload_n i, lenI (.iload_n i))) (hx : ex (callT mn) mn (.iload_n i, pc + lenI (.iload_n i), tt, q) ls st h = some (Sum.inl (pc2, ls2, st2, h2))) (kk : StepG g mn p l e R s m args below meth c Q T0 S0 pc2 ls2 st2 h2) : StepG g mn p l e R s m args below meth c Q T0 S0 pc ls st h := by
  intro H locs Ls hr ho hl hln hS
  have hF := X.F
  obtain ⟨hx0, hb, hml, hown, hts, hBs, hini, hfr, hlo⟩ := id X
  simp only [ex] at hx
  split at hx
  · rename_i v hv
    obtain ⟨e1, e2, e3, e4⟩ := go_inj hx
    subst e1 e2 e3 e4
    obtain ⟨g1, g2⟩ := hl.2.2 _ _ hv
    exact lv_iload_n hx0 hb hdec rfl g1 (kk H locs Ls hr (okc g2 ho) hl hln hS)
  · cases hx

theorem sk_lload {g : Gx} {mn : Nat} {p : Program} {l : Launch} {e : Env} {R : Room} {s : State} {m : MethodId} {args : Array Value} {below : List Frame} {meth : Method} {c : Code} {Q : State → Prop} {T0 S0 pc nx_ pc2 : Nat} {tt : List Nat} {q : Option (List Bool)} {ls ls2 : List (Option TV)} {st st2 : List TV} {h h2 : Hp} {i : Nat} (X : Cx g mn p R s m args meth c) (hdec : decode (byt mn) pc = .ok (.lload i, lenI (.lload i))) (hx : ex (callT mn) mn (.lload i, pc + lenI (.lload i), tt, q) ls st h = some (Sum.inl (pc2, ls2, st2, h2))) (kk : StepG g mn p l e R s m args below meth c Q T0 S0 pc2 ls2 st2 h2) : StepG g mn p l e R s m args below meth c Q T0 S0 pc ls st h := by
  intro H locs Ls hr ho hl hln hS
  have hF := X.F
  obtain ⟨hx0, hb, hml, hown, hts, hBs, hini, hfr, hlo⟩ := id X
  simp only [ex] at hx
  split at hx
  · rename_i v hv
    obtain ⟨e1, e2, e3, e4⟩ := go_inj hx
    subst e1 e2 e3 e4
    obtain ⟨g1, g2⟩ := hl.2.2 _ _ hv
    exact lv_lload hx0 hb hdec g1 (kk H locs Ls hr (okc g2 ho) hl hln hS)
  · cases hx

theorem sk_lload_n {g : Gx} {mn : Nat} {p : Program} {l : Launch} {e : Env} {R : Room} {s : State} {m : MethodId} {args : Array Value} {below : List Frame} {meth : Method} {c : Code} {Q : State → Prop} {T0 S0 pc nx_ pc2 : Nat} {tt : List Nat} {q : Option (List Bool)} {ls ls2 : List (Option TV)} {st st2 : List TV} {h h2 : Hp} {i : Fin 4} (X : Cx g mn p R s m args meth c) (hdec : decode (byt mn) pc = .ok (.lload_n i, lenI (.lload_n i))) (hx : ex (callT mn) mn (.lload_n i, pc + lenI (.lload_n i), tt, q) ls st h = some (Sum.inl (pc2, ls2, st2, h2))) (kk : StepG g mn p l e R s m args below meth c Q T0 S0 pc2 ls2 st2 h2) : StepG g mn p l e R s m args below meth c Q T0 S0 pc ls st h := by
  intro H locs Ls hr ho hl hln hS
  have hF := X.F
  obtain ⟨hx0, hb, hml, hown, hts, hBs, hini, hfr, hlo⟩ := id X
  simp only [ex] at hx
  split at hx
  · rename_i v hv
    obtain ⟨e1, e2, e3, e4⟩ := go_inj hx
    subst e1 e2 e3 e4
    obtain ⟨g1, g2⟩ := hl.2.2 _ _ hv
    exact lv_lload_n hx0 hb hdec rfl g1 (kk H locs Ls hr (okc g2 ho) hl hln hS)
  · cases hx

theorem sk_aload {g : Gx} {mn : Nat} {p : Program} {l : Launch} {e : Env} {R : Room} {s : State} {m : MethodId} {args : Array Value} {below : List Frame} {meth : Method} {c : Code} {Q : State → Prop} {T0 S0 pc nx_ pc2 : Nat} {tt : List Nat} {q : Option (List Bool)} {ls ls2 : List (Option TV)} {st st2 : List TV} {h h2 : Hp} {i : Nat} (X : Cx g mn p R s m args meth c) (hdec : decode (byt mn) pc = .ok (.aload i, lenI (.aload i))) (hx : ex (callT mn) mn (.aload i, pc + lenI (.aload i), tt, q) ls st h = some (Sum.inl (pc2, ls2, st2, h2))) (kk : StepG g mn p l e R s m args below meth c Q T0 S0 pc2 ls2 st2 h2) : StepG g mn p l e R s m args below meth c Q T0 S0 pc ls st h := by
  intro H locs Ls hr ho hl hln hS
  have hF := X.F
  obtain ⟨hx0, hb, hml, hown, hts, hBs, hini, hfr, hlo⟩ := id X
  simp only [ex] at hx
  split at hx
  · rename_i v hv
    obtain ⟨e1, e2, e3, e4⟩ := go_inj hx
    subst e1 e2 e3 e4
    obtain ⟨g1, g2⟩ := hl.2.2 _ _ hv
    exact w_aload hx0 hb (cvR_or hF v) hdec g1 (kk H locs Ls hr (okc g2 ho) hl hln hS)
  · cases hx

theorem sk_aload_n {g : Gx} {mn : Nat} {p : Program} {l : Launch} {e : Env} {R : Room} {s : State} {m : MethodId} {args : Array Value} {below : List Frame} {meth : Method} {c : Code} {Q : State → Prop} {T0 S0 pc nx_ pc2 : Nat} {tt : List Nat} {q : Option (List Bool)} {ls ls2 : List (Option TV)} {st st2 : List TV} {h h2 : Hp} {i : Fin 4} (X : Cx g mn p R s m args meth c) (hdec : decode (byt mn) pc = .ok (.aload_n i, lenI (.aload_n i))) (hx : ex (callT mn) mn (.aload_n i, pc + lenI (.aload_n i), tt, q) ls st h = some (Sum.inl (pc2, ls2, st2, h2))) (kk : StepG g mn p l e R s m args below meth c Q T0 S0 pc2 ls2 st2 h2) : StepG g mn p l e R s m args below meth c Q T0 S0 pc ls st h := by
  intro H locs Ls hr ho hl hln hS
  have hF := X.F
  obtain ⟨hx0, hb, hml, hown, hts, hBs, hini, hfr, hlo⟩ := id X
  simp only [ex] at hx
  split at hx
  · rename_i v hv
    obtain ⟨e1, e2, e3, e4⟩ := go_inj hx
    subst e1 e2 e3 e4
    obtain ⟨g1, g2⟩ := hl.2.2 _ _ hv
    exact w_aload_n hx0 hb (cvR_or hF v) hdec g1 (kk H locs Ls hr (okc g2 ho) hl hln hS)
  · cases hx

theorem sk_istore {g : Gx} {mn : Nat} {p : Program} {l : Launch} {e : Env} {R : Room} {s : State} {m : MethodId} {args : Array Value} {below : List Frame} {meth : Method} {c : Code} {Q : State → Prop} {T0 S0 pc nx_ pc2 : Nat} {tt : List Nat} {q : Option (List Bool)} {ls ls2 : List (Option TV)} {st st2 : List TV} {h h2 : Hp} {i : Nat} (X : Cx g mn p R s m args meth c) (hdec : decode (byt mn) pc = .ok (.istore i, lenI (.istore i))) (hx : ex (callT mn) mn (.istore i, pc + lenI (.istore i), tt, q) ls st h = some (Sum.inl (pc2, ls2, st2, h2))) (kk : StepG g mn p l e R s m args below meth c Q T0 S0 pc2 ls2 st2 h2) : StepG g mn p l e R s m args below meth c Q T0 S0 pc ls st h := by
  intro H locs Ls hr ho hl hln hS
  have hF := X.F
  obtain ⟨hx0, hb, hml, hown, hts, hBs, hini, hfr, hlo⟩ := id X
  simp only [ex] at hx
  split at hx
  · rename_i v st3
    split at hx
    · rename_i ls3 hs
      obtain ⟨e1, e2, e3, e4⟩ := go_inj hx
      subst e1 e2 e3 e4
      obtain ⟨g1, g2, g3⟩ := lvK.store1 (hF) hl hs rfl (ok1 ho).1
      exact lv_istore hx0 hb hdec hl.has g1 rfl (fun L2 hL => kk H locs L2 hr (ok1 ho).2 (g3 L2 hL) (by rw [g2]; exact hln) hS)
    · cases hx
  · cases hx

theorem sk_istore_n {g : Gx} {mn : Nat} {p : Program} {l : Launch} {e : Env} {R : Room} {s : State} {m : MethodId} {args : Array Value} {below : List Frame} {meth : Method} {c : Code} {Q : State → Prop} {T0 S0 pc nx_ pc2 : Nat} {tt : List Nat} {q : Option (List Bool)} {ls ls2 : List (Option TV)} {st st2 : List TV} {h h2 : Hp} {i : Fin 4} (X : Cx g mn p R s m args meth c) (hdec : decode (byt mn) pc = .ok (.istore_n i, lenI (.istore_n i))) (hx : ex (callT mn) mn (.istore_n i, pc + lenI (.istore_n i), tt, q) ls st h = some (Sum.inl (pc2, ls2, st2, h2))) (kk : StepG g mn p l e R s m args below meth c Q T0 S0 pc2 ls2 st2 h2) : StepG g mn p l e R s m args below meth c Q T0 S0 pc ls st h := by
  intro H locs Ls hr ho hl hln hS
  have hF := X.F
  obtain ⟨hx0, hb, hml, hown, hts, hBs, hini, hfr, hlo⟩ := id X
  simp only [ex] at hx
  split at hx
  · rename_i v st3
    split at hx
    · rename_i ls3 hs
      obtain ⟨e1, e2, e3, e4⟩ := go_inj hx
      subst e1 e2 e3 e4
      obtain ⟨g1, g2, g3⟩ := lvK.store1 (hF) hl hs rfl (ok1 ho).1
      exact lv_istore_n hx0 hb hdec rfl hl.has g1 rfl (fun L2 hL => kk H locs L2 hr (ok1 ho).2 (g3 L2 hL) (by rw [g2]; exact hln) hS)
    · cases hx
  · cases hx

theorem sk_lstore {g : Gx} {mn : Nat} {p : Program} {l : Launch} {e : Env} {R : Room} {s : State} {m : MethodId} {args : Array Value} {below : List Frame} {meth : Method} {c : Code} {Q : State → Prop} {T0 S0 pc nx_ pc2 : Nat} {tt : List Nat} {q : Option (List Bool)} {ls ls2 : List (Option TV)} {st st2 : List TV} {h h2 : Hp} {i : Nat} (X : Cx g mn p R s m args meth c) (hdec : decode (byt mn) pc = .ok (.lstore i, lenI (.lstore i))) (hx : ex (callT mn) mn (.lstore i, pc + lenI (.lstore i), tt, q) ls st h = some (Sum.inl (pc2, ls2, st2, h2))) (kk : StepG g mn p l e R s m args below meth c Q T0 S0 pc2 ls2 st2 h2) : StepG g mn p l e R s m args below meth c Q T0 S0 pc ls st h := by
  intro H locs Ls hr ho hl hln hS
  have hF := X.F
  obtain ⟨hx0, hb, hml, hown, hts, hBs, hini, hfr, hlo⟩ := id X
  simp only [ex] at hx
  split at hx
  · rename_i v st3
    split at hx
    · rename_i ls3 hs
      obtain ⟨e1, e2, e3, e4⟩ := go_inj hx
      subst e1 e2 e3 e4
      obtain ⟨g1, g2, g3⟩ := lvK.store2 (hF) hl hs (ok1 ho).1
      exact lv_lstore hx0 hb hdec hl.has g1 rfl (fun L2 hL => kk H locs L2 hr (ok1 ho).2 (g3 L2 hL) (by rw [g2]; exact hln) hS)
    · cases hx
  · cases hx

theorem sk_lstore_n {g : Gx} {mn : Nat} {p : Program} {l : Launch} {e : Env} {R : Room} {s : State} {m : MethodId} {args : Array Value} {below : List Frame} {meth : Method} {c : Code} {Q : State → Prop} {T0 S0 pc nx_ pc2 : Nat} {tt : List Nat} {q : Option (List Bool)} {ls ls2 : List (Option TV)} {st st2 : List TV} {h h2 : Hp} {i : Fin 4} (X : Cx g mn p R s m args meth c) (hdec : decode (byt mn) pc = .ok (.lstore_n i, lenI (.lstore_n i))) (hx : ex (callT mn) mn (.lstore_n i, pc + lenI (.lstore_n i), tt, q) ls st h = some (Sum.inl (pc2, ls2, st2, h2))) (kk : StepG g mn p l e R s m args below meth c Q T0 S0 pc2 ls2 st2 h2) : StepG g mn p l e R s m args below meth c Q T0 S0 pc ls st h := by
  intro H locs Ls hr ho hl hln hS
  have hF := X.F
  obtain ⟨hx0, hb, hml, hown, hts, hBs, hini, hfr, hlo⟩ := id X
  simp only [ex] at hx
  split at hx
  · rename_i v st3
    split at hx
    · rename_i ls3 hs
      obtain ⟨e1, e2, e3, e4⟩ := go_inj hx
      subst e1 e2 e3 e4
      obtain ⟨g1, g2, g3⟩ := lvK.store2 (hF) hl hs (ok1 ho).1
      exact lv_lstore_n hx0 hb hdec rfl hl.has g1 rfl (fun L2 hL => kk H locs L2 hr (ok1 ho).2 (g3 L2 hL) (by rw [g2]; exact hln) hS)
    · cases hx
  · cases hx

theorem sk_astore {g : Gx} {mn : Nat} {p : Program} {l : Launch} {e : Env} {R : Room} {s : State} {m : MethodId} {args : Array Value} {below : List Frame} {meth : Method} {c : Code} {Q : State → Prop} {T0 S0 pc nx_ pc2 : Nat} {tt : List Nat} {q : Option (List Bool)} {ls ls2 : List (Option TV)} {st st2 : List TV} {h h2 : Hp} {i : Nat} (X : Cx g mn p R s m args meth c) (hdec : decode (byt mn) pc = .ok (.astore i, lenI (.astore i))) (hx : ex (callT mn) mn (.astore i, pc + lenI (.astore i), tt, q) ls st h = some (Sum.inl (pc2, ls2, st2, h2))) (kk : StepG g mn p l e R s m args below meth c Q T0 S0 pc2 ls2 st2 h2) : StepG g mn p l e R s m args below meth c Q T0 S0 pc ls st h := by
  intro H locs Ls hr ho hl hln hS
  have hF := X.F
  obtain ⟨hx0, hb, hml, hown, hts, hBs, hini, hfr, hlo⟩ := id X
  simp only [ex] at hx
  split at hx
  · rename_i v st3
    split at hx
    · rename_i ls3 hs
      obtain ⟨e1, e2, e3, e4⟩ := go_inj hx
      subst e1 e2 e3 e4
      obtain ⟨g1, g2, g3⟩ := lvK.store1 hF hl hs rfl trivial
      have g3' : ∀ Ls' : Array Slot, lv_has Ls' ls.length ((_, cvR g v) :: (prs g 0 ls).filter _) → lvK g Ls' ls3 := g3
      show W p l e R s m args below meth c H locs _ _ Q (F0 m pc Ls (cvR g v :: st3.map (cv g)))
      rcases cvR_or hF v with z | ⟨b, z⟩
      · rw [z] at g3' ⊢
        exact lv_astoreN hx0 hb hdec hl.has g1 rfl (fun L2 hL => kk H locs L2 hr (ok1 ho).2 (g3' L2 hL) (by rw [g2]; exact hln) hS)
      · rw [z] at g3' ⊢
        exact lv_astore hx0 hb hdec hl.has g1 rfl (fun L2 hL => kk H locs L2 hr (ok1 ho).2 (g3' L2 hL) (by rw [g2]; exact hln) hS)
    · cases hx
  · cases hx

theorem sk_astore_n {g : Gx} {mn : Nat} {p : Program} {l : Launch} {e : Env} {R : Room} {s : State} {m : MethodId} {args : Array Value} {below : List Frame} {meth : Method} {c : Code} {Q : State → Prop} {T0 S0 pc nx_ pc2 : Nat} {tt : List Nat} {q : Option (List Bool)} {ls ls2 : List (Option TV)} {st st2 : List TV} {h h2 : Hp} {i : Fin 4} (X : Cx g mn p R s m args meth c) (hdec : decode (byt mn) pc = .ok (.astore_n i, lenI (.astore_n i))) (hx : ex (callT mn) mn (.astore_n i, pc + lenI (.astore_n i), tt, q) ls st h = some (Sum.inl (pc2, ls2, st2, h2))) (kk : StepG g mn p l e R s m args below meth c Q T0 S0 pc2 ls2 st2 h2) : StepG g mn p l e R s m args below meth c Q T0 S0 pc ls st h := by
  intro H locs Ls hr ho hl hln hS
  have hF := X.F
  obtain ⟨hx0, hb, hml, hown, hts, hBs, hini, hfr, hlo⟩ := id X
  simp only [ex] at hx
  split at hx
  · rename_i v st3
    split at hx
    · rename_i ls3 hs
      obtain ⟨e1, e2, e3, e4⟩ := go_inj hx
      subst e1 e2 e3 e4
      obtain ⟨g1, g2, g3⟩ := lvK.store1 hF hl hs rfl trivial
      have g3' : ∀ Ls' : Array Slot, lv_has Ls' ls.length ((_, cvR g v) :: (prs g 0 ls).filter _) → lvK g Ls' ls3 := g3
      show W p l e R s m args below meth c H locs _ _ Q (F0 m pc Ls (cvR g v :: st3.map (cv g)))
      rcases cvR_or hF v with z | ⟨b, z⟩
      · rw [z] at g3' ⊢
        exact lv_astore_nN hx0 hb hdec rfl hl.has g1 rfl (fun L2 hL => kk H locs L2 hr (ok1 ho).2 (g3' L2 hL) (by rw [g2]; exact hln) hS)
      · rw [z] at g3' ⊢
        exact lv_astore_n hx0 hb hdec rfl hl.has g1 rfl (fun L2 hL => kk H locs L2 hr (ok1 ho).2 (g3' L2 hL) (by rw [g2]; exact hln) hS)
    · cases hx
  · cases hx

theorem sk_iinc {g : Gx} {mn : Nat} {p : Program} {l : Launch} {e : Env} {R : Room} {s : State} {m : MethodId} {args : Array Value} {below : List Frame} {meth : Method} {c : Code} {Q : State → Prop} {T0 S0 pc nx_ pc2 : Nat} {tt : List Nat} {q : Option (List Bool)} {ls ls2 : List (Option TV)} {st st2 : List TV} {h h2 : Hp} {i : Nat} {c0 : Int} (X : Cx g mn p R s m args meth c) (hdec : decode (byt mn) pc = .ok (.iinc i c0, lenI (.iinc i c0))) (hx : ex (callT mn) mn (.iinc i c0, pc + lenI (.iinc i c0), tt, q) ls st h = some (Sum.inl (pc2, ls2, st2, h2))) (kk : StepG g mn p l e R s m args below meth c Q T0 S0 pc2 ls2 st2 h2) : StepG g mn p l e R s m args below meth c Q T0 S0 pc ls st h := by
  intro H locs Ls hr ho hl hln hS
  have hF := X.F
  obtain ⟨hx0, hb, hml, hown, hts, hBs, hini, hfr, hlo⟩ := id X
  simp only [ex] at hx
  split at hx
  · rename_i v hv
    split at hx
    · rename_i ls3 hs
      obtain ⟨e1, e2, e3, e4⟩ := go_inj hx
      subst e1 e2 e3 e4
      obtain ⟨g1, g2, g3⟩ := lvK.store1 hF hl hs rfl (w32_in _)
      have hm : ((i : Nat), Value.int (Int32.ofInt v)) ∈ prs g 0 ls := by
        have z9 := prs_in g ls 0 i _ hv
        rw [Nat.zero_add] at z9
        exact z9
      obtain ⟨k0, hk0⟩ := List.getElem?_of_mem hm
      exact lv_iinc (v := Int32.ofInt (w32 (v + c0))) hx0 hb hdec hl.has hk0 (o32_add v c0) g1 rfl (fun L2 hL => kk H locs L2 hr ho (g3 L2 hL) (by rw [g2]; exact hln) hS)
    · cases hx
  · cases hx

theorem sk_iadd {g : Gx} {mn : Nat} {p : Program} {l : Launch} {e : Env} {R : Room} {s : State} {m : MethodId} {args : Array Value} {below : List Frame} {meth : Method} {c : Code} {Q : State → Prop} {T0 S0 pc nx_ pc2 : Nat} {tt : List Nat} {q : Option (List Bool)} {ls ls2 : List (Option TV)} {st st2 : List TV} {h h2 : Hp}  (X : Cx g mn p R s m args meth c) (hdec : decode (byt mn) pc = .ok (.iadd, lenI (.iadd))) (hx : ex (callT mn) mn (.iadd, pc + lenI (.iadd), tt, q) ls st h = some (Sum.inl (pc2, ls2, st2, h2))) (kk : StepG g mn p l e R s m args below meth c Q T0 S0 pc2 ls2 st2 h2) : StepG g mn p l e R s m args below meth c Q T0 S0 pc ls st h := by
  intro H locs Ls hr ho hl hln hS
  have hF := X.F
  obtain ⟨hx0, hb, hml, hown, hts, hBs, hini, hfr, hlo⟩ := id X
  simp only [ex] at hx
  split at hx
  · rename_i b a st3
    obtain ⟨e1, e2, e3, e4⟩ := go_inj hx
    subst e1 e2 e3 e4
    obtain ⟨ob, ho⟩ := ok1 ho
    obtain ⟨oa, ho⟩ := ok1 ho
    refine lv_iadd hx0 hb hdec ?_
    rw [o32_add]
    exact kk H locs Ls hr (okc (w32_in _) ho) hl hln hS
  · cases hx

theorem sk_isub {g : Gx} {mn : Nat} {p : Program} {l : Launch} {e : Env} {R : Room} {s : State} {m : MethodId} {args : Array Value} {below : List Frame} {meth : Method} {c : Code} {Q : State → Prop} {T0 S0 pc nx_ pc2 : Nat} {tt : List Nat} {q : Option (List Bool)} {ls ls2 : List (Option TV)} {st st2 : List TV} {h h2 : Hp}  (X : Cx g mn p R s m args meth c) (hdec : decode (byt mn) pc = .ok (.isub, lenI (.isub))) (hx : ex (callT mn) mn (.isub, pc + lenI (.isub), tt, q) ls st h = some (Sum.inl (pc2, ls2, st2, h2))) (kk : StepG g mn p l e R s m args below meth c Q T0 S0 pc2 ls2 st2 h2) : StepG g mn p l e R s m args below meth c Q T0 S0 pc ls st h := by
  intro H locs Ls hr ho hl hln hS
  have hF := X.F
  obtain ⟨hx0, hb, hml, hown, hts, hBs, hini, hfr, hlo⟩ := id X
  simp only [ex] at hx
  split at hx
  · rename_i b a st3
    obtain ⟨e1, e2, e3, e4⟩ := go_inj hx
    subst e1 e2 e3 e4
    obtain ⟨ob, ho⟩ := ok1 ho
    obtain ⟨oa, ho⟩ := ok1 ho
    refine lv_isub hx0 hb hdec ?_
    rw [o32_sub]
    exact kk H locs Ls hr (okc (w32_in _) ho) hl hln hS
  · cases hx

theorem sk_imul {g : Gx} {mn : Nat} {p : Program} {l : Launch} {e : Env} {R : Room} {s : State} {m : MethodId} {args : Array Value} {below : List Frame} {meth : Method} {c : Code} {Q : State → Prop} {T0 S0 pc nx_ pc2 : Nat} {tt : List Nat} {q : Option (List Bool)} {ls ls2 : List (Option TV)} {st st2 : List TV} {h h2 : Hp}  (X : Cx g mn p R s m args meth c) (hdec : decode (byt mn) pc = .ok (.imul, lenI (.imul))) (hx : ex (callT mn) mn (.imul, pc + lenI (.imul), tt, q) ls st h = some (Sum.inl (pc2, ls2, st2, h2))) (kk : StepG g mn p l e R s m args below meth c Q T0 S0 pc2 ls2 st2 h2) : StepG g mn p l e R s m args below meth c Q T0 S0 pc ls st h := by
  intro H locs Ls hr ho hl hln hS
  have hF := X.F
  obtain ⟨hx0, hb, hml, hown, hts, hBs, hini, hfr, hlo⟩ := id X
  simp only [ex] at hx
  split at hx
  · rename_i b a st3
    obtain ⟨e1, e2, e3, e4⟩ := go_inj hx
    subst e1 e2 e3 e4
    obtain ⟨ob, ho⟩ := ok1 ho
    obtain ⟨oa, ho⟩ := ok1 ho
    refine lv_imul hx0 hb hdec ?_
    rw [o32_mul]
    exact kk H locs Ls hr (okc (w32_in _) ho) hl hln hS
  · cases hx

theorem sk_ladd {g : Gx} {mn : Nat} {p : Program} {l : Launch} {e : Env} {R : Room} {s : State} {m : MethodId} {args : Array Value} {below : List Frame} {meth : Method} {c : Code} {Q : State → Prop} {T0 S0 pc nx_ pc2 : Nat} {tt : List Nat} {q : Option (List Bool)} {ls ls2 : List (Option TV)} {st st2 : List TV} {h h2 : Hp}  (X : Cx g mn p R s m args meth c) (hdec : decode (byt mn) pc = .ok (.ladd, lenI (.ladd))) (hx : ex (callT mn) mn (.ladd, pc + lenI (.ladd), tt, q) ls st h = some (Sum.inl (pc2, ls2, st2, h2))) (kk : StepG g mn p l e R s m args below meth c Q T0 S0 pc2 ls2 st2 h2) : StepG g mn p l e R s m args below meth c Q T0 S0 pc ls st h := by
  intro H locs Ls hr ho hl hln hS
  have hF := X.F
  obtain ⟨hx0, hb, hml, hown, hts, hBs, hini, hfr, hlo⟩ := id X
  simp only [ex] at hx
  split at hx
  · rename_i b a st3
    obtain ⟨e1, e2, e3, e4⟩ := go_inj hx
    subst e1 e2 e3 e4
    obtain ⟨ob, ho⟩ := ok1 ho
    obtain ⟨oa, ho⟩ := ok1 ho
    refine lv_ladd hx0 hb hdec ?_
    rw [o64_add]
    exact kk H locs Ls hr (okc (w64_in _) ho) hl hln hS
  · cases hx

theorem sk_lsub {g : Gx} {mn : Nat} {p : Program} {l : Launch} {e : Env} {R : Room} {s : State} {m : MethodId} {args : Array Value} {below : List Frame} {meth : Method} {c : Code} {Q : State → Prop} {T0 S0 pc nx_ pc2 : Nat} {tt : List Nat} {q : Option (List Bool)} {ls ls2 : List (Option TV)} {st st2 : List TV} {h h2 : Hp}  (X : Cx g mn p R s m args meth c) (hdec : decode (byt mn) pc = .ok (.lsub, lenI (.lsub))) (hx : ex (callT mn) mn (.lsub, pc + lenI (.lsub), tt, q) ls st h = some (Sum.inl (pc2, ls2, st2, h2))) (kk : StepG g mn p l e R s m args below meth c Q T0 S0 pc2 ls2 st2 h2) : StepG g mn p l e R s m args below meth c Q T0 S0 pc ls st h := by
  intro H locs Ls hr ho hl hln hS
  have hF := X.F
  obtain ⟨hx0, hb, hml, hown, hts, hBs, hini, hfr, hlo⟩ := id X
  simp only [ex] at hx
  split at hx
  · rename_i b a st3
    obtain ⟨e1, e2, e3, e4⟩ := go_inj hx
    subst e1 e2 e3 e4
    obtain ⟨ob, ho⟩ := ok1 ho
    obtain ⟨oa, ho⟩ := ok1 ho
    refine lv_lsub hx0 hb hdec ?_
    rw [o64_sub]
    exact kk H locs Ls hr (okc (w64_in _) ho) hl hln hS
  · cases hx

theorem sk_lmul {g : Gx} {mn : Nat} {p : Program} {l : Launch} {e : Env} {R : Room} {s : State} {m : MethodId} {args : Array Value} {below : List Frame} {meth : Method} {c : Code} {Q : State → Prop} {T0 S0 pc nx_ pc2 : Nat} {tt : List Nat} {q : Option (List Bool)} {ls ls2 : List (Option TV)} {st st2 : List TV} {h h2 : Hp}  (X : Cx g mn p R s m args meth c) (hdec : decode (byt mn) pc = .ok (.lmul, lenI (.lmul))) (hx : ex (callT mn) mn (.lmul, pc + lenI (.lmul), tt, q) ls st h = some (Sum.inl (pc2, ls2, st2, h2))) (kk : StepG g mn p l e R s m args below meth c Q T0 S0 pc2 ls2 st2 h2) : StepG g mn p l e R s m args below meth c Q T0 S0 pc ls st h := by
  intro H locs Ls hr ho hl hln hS
  have hF := X.F
  obtain ⟨hx0, hb, hml, hown, hts, hBs, hini, hfr, hlo⟩ := id X
  simp only [ex] at hx
  split at hx
  · rename_i b a st3
    obtain ⟨e1, e2, e3, e4⟩ := go_inj hx
    subst e1 e2 e3 e4
    obtain ⟨ob, ho⟩ := ok1 ho
    obtain ⟨oa, ho⟩ := ok1 ho
    refine lv_lmul hx0 hb hdec ?_
    rw [o64_mul]
    exact kk H locs Ls hr (okc (w64_in _) ho) hl hln hS
  · cases hx

theorem sk_iand {g : Gx} {mn : Nat} {p : Program} {l : Launch} {e : Env} {R : Room} {s : State} {m : MethodId} {args : Array Value} {below : List Frame} {meth : Method} {c : Code} {Q : State → Prop} {T0 S0 pc nx_ pc2 : Nat} {tt : List Nat} {q : Option (List Bool)} {ls ls2 : List (Option TV)} {st st2 : List TV} {h h2 : Hp}  (X : Cx g mn p R s m args meth c) (hdec : decode (byt mn) pc = .ok (.iand, lenI (.iand))) (hx : ex (callT mn) mn (.iand, pc + lenI (.iand), tt, q) ls st h = some (Sum.inl (pc2, ls2, st2, h2))) (kk : StepG g mn p l e R s m args below meth c Q T0 S0 pc2 ls2 st2 h2) : StepG g mn p l e R s m args below meth c Q T0 S0 pc ls st h := by
  intro H locs Ls hr ho hl hln hS
  have hF := X.F
  obtain ⟨hx0, hb, hml, hown, hts, hBs, hini, hfr, hlo⟩ := id X
  simp only [ex] at hx
  split at hx
  · rename_i b a st3
    obtain ⟨e1, e2, e3, e4⟩ := go_inj hx
    subst e1 e2 e3 e4
    obtain ⟨ob, ho⟩ := ok1 ho
    obtain ⟨oa, ho⟩ := ok1 ho
    refine lv_iand hx0 hb hdec ?_
    have kk2 := kk H locs Ls hr (okc (t32_in _) ho) hl hln hS
    simp only [List.map, cv, i_and, Int32.ofInt_toInt] at kk2
    exact kk2
  · cases hx

theorem sk_ior {g : Gx} {mn : Nat} {p : Program} {l : Launch} {e : Env} {R : Room} {s : State} {m : MethodId} {args : Array Value} {below : List Frame} {meth : Method} {c : Code} {Q : State → Prop} {T0 S0 pc nx_ pc2 : Nat} {tt : List Nat} {q : Option (List Bool)} {ls ls2 : List (Option TV)} {st st2 : List TV} {h h2 : Hp}  (X : Cx g mn p R s m args meth c) (hdec : decode (byt mn) pc = .ok (.ior, lenI (.ior))) (hx : ex (callT mn) mn (.ior, pc + lenI (.ior), tt, q) ls st h = some (Sum.inl (pc2, ls2, st2, h2))) (kk : StepG g mn p l e R s m args below meth c Q T0 S0 pc2 ls2 st2 h2) : StepG g mn p l e R s m args below meth c Q T0 S0 pc ls st h := by
  intro H locs Ls hr ho hl hln hS
  have hF := X.F
  obtain ⟨hx0, hb, hml, hown, hts, hBs, hini, hfr, hlo⟩ := id X
  simp only [ex] at hx
  split at hx
  · rename_i b a st3
    obtain ⟨e1, e2, e3, e4⟩ := go_inj hx
    subst e1 e2 e3 e4
    obtain ⟨ob, ho⟩ := ok1 ho
    obtain ⟨oa, ho⟩ := ok1 ho
    refine lv_ior hx0 hb hdec ?_
    have kk2 := kk H locs Ls hr (okc (t32_in _) ho) hl hln hS
    simp only [List.map, cv, i_or, Int32.ofInt_toInt] at kk2
    exact kk2
  · cases hx

theorem sk_ixor {g : Gx} {mn : Nat} {p : Program} {l : Launch} {e : Env} {R : Room} {s : State} {m : MethodId} {args : Array Value} {below : List Frame} {meth : Method} {c : Code} {Q : State → Prop} {T0 S0 pc nx_ pc2 : Nat} {tt : List Nat} {q : Option (List Bool)} {ls ls2 : List (Option TV)} {st st2 : List TV} {h h2 : Hp}  (X : Cx g mn p R s m args meth c) (hdec : decode (byt mn) pc = .ok (.ixor, lenI (.ixor))) (hx : ex (callT mn) mn (.ixor, pc + lenI (.ixor), tt, q) ls st h = some (Sum.inl (pc2, ls2, st2, h2))) (kk : StepG g mn p l e R s m args below meth c Q T0 S0 pc2 ls2 st2 h2) : StepG g mn p l e R s m args below meth c Q T0 S0 pc ls st h := by
  intro H locs Ls hr ho hl hln hS
  have hF := X.F
  obtain ⟨hx0, hb, hml, hown, hts, hBs, hini, hfr, hlo⟩ := id X
  simp only [ex] at hx
  split at hx
  · rename_i b a st3
    obtain ⟨e1, e2, e3, e4⟩ := go_inj hx
    subst e1 e2 e3 e4
    obtain ⟨ob, ho⟩ := ok1 ho
    obtain ⟨oa, ho⟩ := ok1 ho
    refine lv_ixor hx0 hb hdec ?_
    have kk2 := kk H locs Ls hr (okc (t32_in _) ho) hl hln hS
    simp only [List.map, cv, i_xor, Int32.ofInt_toInt] at kk2
    exact kk2
  · cases hx

theorem sk_ishl {g : Gx} {mn : Nat} {p : Program} {l : Launch} {e : Env} {R : Room} {s : State} {m : MethodId} {args : Array Value} {below : List Frame} {meth : Method} {c : Code} {Q : State → Prop} {T0 S0 pc nx_ pc2 : Nat} {tt : List Nat} {q : Option (List Bool)} {ls ls2 : List (Option TV)} {st st2 : List TV} {h h2 : Hp}  (X : Cx g mn p R s m args meth c) (hdec : decode (byt mn) pc = .ok (.ishl, lenI (.ishl))) (hx : ex (callT mn) mn (.ishl, pc + lenI (.ishl), tt, q) ls st h = some (Sum.inl (pc2, ls2, st2, h2))) (kk : StepG g mn p l e R s m args below meth c Q T0 S0 pc2 ls2 st2 h2) : StepG g mn p l e R s m args below meth c Q T0 S0 pc ls st h := by
  intro H locs Ls hr ho hl hln hS
  have hF := X.F
  obtain ⟨hx0, hb, hml, hown, hts, hBs, hini, hfr, hlo⟩ := id X
  simp only [ex] at hx
  split at hx
  · rename_i b a st3
    obtain ⟨e1, e2, e3, e4⟩ := go_inj hx
    subst e1 e2 e3 e4
    obtain ⟨ob, ho⟩ := ok1 ho
    obtain ⟨oa, ho⟩ := ok1 ho
    refine lv_ishl hx0 hb hdec ?_
    have kk2 := kk H locs Ls hr (okc (t32_in _) ho) hl hln hS
    simp only [List.map, cv, i_shl, Int32.ofInt_toInt] at kk2
    exact kk2
  · cases hx

theorem sk_ishr {g : Gx} {mn : Nat} {p : Program} {l : Launch} {e : Env} {R : Room} {s : State} {m : MethodId} {args : Array Value} {below : List Frame} {meth : Method} {c : Code} {Q : State → Prop} {T0 S0 pc nx_ pc2 : Nat} {tt : List Nat} {q : Option (List Bool)} {ls ls2 : List (Option TV)} {st st2 : List TV} {h h2 : Hp}  (X : Cx g mn p R s m args meth c) (hdec : decode (byt mn) pc = .ok (.ishr, lenI (.ishr))) (hx : ex (callT mn) mn (.ishr, pc + lenI (.ishr), tt, q) ls st h = some (Sum.inl (pc2, ls2, st2, h2))) (kk : StepG g mn p l e R s m args below meth c Q T0 S0 pc2 ls2 st2 h2) : StepG g mn p l e R s m args below meth c Q T0 S0 pc ls st h := by
  intro H locs Ls hr ho hl hln hS
  have hF := X.F
  obtain ⟨hx0, hb, hml, hown, hts, hBs, hini, hfr, hlo⟩ := id X
  simp only [ex] at hx
  split at hx
  · rename_i b a st3
    obtain ⟨e1, e2, e3, e4⟩ := go_inj hx
    subst e1 e2 e3 e4
    obtain ⟨ob, ho⟩ := ok1 ho
    obtain ⟨oa, ho⟩ := ok1 ho
    refine lv_ishr hx0 hb hdec ?_
    have kk2 := kk H locs Ls hr (okc (t32_in _) ho) hl hln hS
    simp only [List.map, cv, i_shr, Int32.ofInt_toInt] at kk2
    exact kk2
  · cases hx

theorem sk_iushr {g : Gx} {mn : Nat} {p : Program} {l : Launch} {e : Env} {R : Room} {s : State} {m : MethodId} {args : Array Value} {below : List Frame} {meth : Method} {c : Code} {Q : State → Prop} {T0 S0 pc nx_ pc2 : Nat} {tt : List Nat} {q : Option (List Bool)} {ls ls2 : List (Option TV)} {st st2 : List TV} {h h2 : Hp}  (X : Cx g mn p R s m args meth c) (hdec : decode (byt mn) pc = .ok (.iushr, lenI (.iushr))) (hx : ex (callT mn) mn (.iushr, pc + lenI (.iushr), tt, q) ls st h = some (Sum.inl (pc2, ls2, st2, h2))) (kk : StepG g mn p l e R s m args below meth c Q T0 S0 pc2 ls2 st2 h2) : StepG g mn p l e R s m args below meth c Q T0 S0 pc ls st h := by
  intro H locs Ls hr ho hl hln hS
  have hF := X.F
  obtain ⟨hx0, hb, hml, hown, hts, hBs, hini, hfr, hlo⟩ := id X
  simp only [ex] at hx
  split at hx
  · rename_i b a st3
    obtain ⟨e1, e2, e3, e4⟩ := go_inj hx
    subst e1 e2 e3 e4
    obtain ⟨ob, ho⟩ := ok1 ho
    obtain ⟨oa, ho⟩ := ok1 ho
    have kk2 := kk H locs Ls hr (okc (t32_in _) ho) hl hln hS
    simp only [List.map, cv, i_ush, Int32.ofInt_toInt] at kk2
    exact lv_iushr hx0 hb hdec rfl kk2
  · cases hx

theorem sk_idiv {g : Gx} {mn : Nat} {p : Program} {l : Launch} {e : Env} {R : Room} {s : State} {m : MethodId} {args : Array Value} {below : List Frame} {meth : Method} {c : Code} {Q : State → Prop} {T0 S0 pc nx_ pc2 : Nat} {tt : List Nat} {q : Option (List Bool)} {ls ls2 : List (Option TV)} {st st2 : List TV} {h h2 : Hp}  (X : Cx g mn p R s m args meth c) (hdec : decode (byt mn) pc = .ok (.idiv, lenI (.idiv))) (hx : ex (callT mn) mn (.idiv, pc + lenI (.idiv), tt, q) ls st h = some (Sum.inl (pc2, ls2, st2, h2))) (kk : StepG g mn p l e R s m args below meth c Q T0 S0 pc2 ls2 st2 h2) : StepG g mn p l e R s m args below meth c Q T0 S0 pc ls st h := by
  intro H locs Ls hr ho hl hln hS
  have hF := X.F
  obtain ⟨hx0, hb, hml, hown, hts, hBs, hini, hfr, hlo⟩ := id X
  simp only [ex] at hx
  split at hx
  · rename_i b a st3
    split at hx
    · cases hx
    · rename_i hz
      obtain ⟨e1, e2, e3, e4⟩ := go_inj hx
      subst e1 e2 e3 e4
      obtain ⟨ob, ho⟩ := ok1 ho
      obtain ⟨oa, ho⟩ := ok1 ho
      have hne : ¬ Int32.ofInt b = 0 := fun z => hz ((o32_inj ob (show in32 0 from ⟨by decide, by decide⟩)).mp (z.trans (by decide)))
      refine lv_idiv hx0 hb hdec hne ?_
      rw [o32_div oa ob]
      exact kk H locs Ls hr (okc (w32_in _) ho) hl hln hS
  · cases hx

theorem sk_ldiv {g : Gx} {mn : Nat} {p : Program} {l : Launch} {e : Env} {R : Room} {s : State} {m : MethodId} {args : Array Value} {below : List Frame} {meth : Method} {c : Code} {Q : State → Prop} {T0 S0 pc nx_ pc2 : Nat} {tt : List Nat} {q : Option (List Bool)} {ls ls2 : List (Option TV)} {st st2 : List TV} {h h2 : Hp}  (X : Cx g mn p R s m args meth c) (hdec : decode (byt mn) pc = .ok (.ldiv, lenI (.ldiv))) (hx : ex (callT mn) mn (.ldiv, pc + lenI (.ldiv), tt, q) ls st h = some (Sum.inl (pc2, ls2, st2, h2))) (kk : StepG g mn p l e R s m args below meth c Q T0 S0 pc2 ls2 st2 h2) : StepG g mn p l e R s m args below meth c Q T0 S0 pc ls st h := by
  intro H locs Ls hr ho hl hln hS
  have hF := X.F
  obtain ⟨hx0, hb, hml, hown, hts, hBs, hini, hfr, hlo⟩ := id X
  simp only [ex] at hx
  split at hx
  · rename_i b a st3
    split at hx
    · cases hx
    · rename_i hz
      obtain ⟨e1, e2, e3, e4⟩ := go_inj hx
      subst e1 e2 e3 e4
      obtain ⟨ob, ho⟩ := ok1 ho
      obtain ⟨oa, ho⟩ := ok1 ho
      have hne : ¬ Int64.ofInt b = 0 := fun z => hz ((o64_inj ob (show in64 0 from ⟨by decide, by decide⟩)).mp (z.trans (by decide)))
      refine lv_ldiv hx0 hb hdec hne ?_
      rw [o64_div oa ob]
      exact kk H locs Ls hr (okc (w64_in _) ho) hl hln hS
  · cases hx

theorem sk_irem {g : Gx} {mn : Nat} {p : Program} {l : Launch} {e : Env} {R : Room} {s : State} {m : MethodId} {args : Array Value} {below : List Frame} {meth : Method} {c : Code} {Q : State → Prop} {T0 S0 pc nx_ pc2 : Nat} {tt : List Nat} {q : Option (List Bool)} {ls ls2 : List (Option TV)} {st st2 : List TV} {h h2 : Hp}  (X : Cx g mn p R s m args meth c) (hdec : decode (byt mn) pc = .ok (.irem, lenI (.irem))) (hx : ex (callT mn) mn (.irem, pc + lenI (.irem), tt, q) ls st h = some (Sum.inl (pc2, ls2, st2, h2))) (kk : StepG g mn p l e R s m args below meth c Q T0 S0 pc2 ls2 st2 h2) : StepG g mn p l e R s m args below meth c Q T0 S0 pc ls st h := by
  intro H locs Ls hr ho hl hln hS
  have hF := X.F
  obtain ⟨hx0, hb, hml, hown, hts, hBs, hini, hfr, hlo⟩ := id X
  simp only [ex] at hx
  split at hx
  · rename_i b a st3
    split at hx
    · cases hx
    · rename_i hz
      obtain ⟨e1, e2, e3, e4⟩ := go_inj hx
      subst e1 e2 e3 e4
      obtain ⟨ob, ho⟩ := ok1 ho
      obtain ⟨oa, ho⟩ := ok1 ho
      have hne : ¬ Int32.ofInt b = 0 := fun z => hz ((o32_inj ob (show in32 0 from ⟨by decide, by decide⟩)).mp (z.trans (by decide)))
      refine lv_irem hx0 hb hdec hne ?_
      rw [o32_rem oa ob]
      exact kk H locs Ls hr (okc (show in32 _ from (by have z := tmod_in (b := b) (M := 2147483648) (show -2147483648 ≤ a from oa.1) (show a < 2147483648 by have := oa.2; omega); exact ⟨z.1, by omega⟩)) ho) hl hln hS
  · cases hx

theorem sk_lrem {g : Gx} {mn : Nat} {p : Program} {l : Launch} {e : Env} {R : Room} {s : State} {m : MethodId} {args : Array Value} {below : List Frame} {meth : Method} {c : Code} {Q : State → Prop} {T0 S0 pc nx_ pc2 : Nat} {tt : List Nat} {q : Option (List Bool)} {ls ls2 : List (Option TV)} {st st2 : List TV} {h h2 : Hp}  (X : Cx g mn p R s m args meth c) (hdec : decode (byt mn) pc = .ok (.lrem, lenI (.lrem))) (hx : ex (callT mn) mn (.lrem, pc + lenI (.lrem), tt, q) ls st h = some (Sum.inl (pc2, ls2, st2, h2))) (kk : StepG g mn p l e R s m args below meth c Q T0 S0 pc2 ls2 st2 h2) : StepG g mn p l e R s m args below meth c Q T0 S0 pc ls st h := by
  intro H locs Ls hr ho hl hln hS
  have hF := X.F
  obtain ⟨hx0, hb, hml, hown, hts, hBs, hini, hfr, hlo⟩ := id X
  simp only [ex] at hx
  split at hx
  · rename_i b a st3
    split at hx
    · cases hx
    · rename_i hz
      obtain ⟨e1, e2, e3, e4⟩ := go_inj hx
      subst e1 e2 e3 e4
      obtain ⟨ob, ho⟩ := ok1 ho
      obtain ⟨oa, ho⟩ := ok1 ho
      have hne : ¬ Int64.ofInt b = 0 := fun z => hz ((o64_inj ob (show in64 0 from ⟨by decide, by decide⟩)).mp (z.trans (by decide)))
      refine lv_lrem hx0 hb hdec hne ?_
      rw [o64_rem oa ob]
      exact kk H locs Ls hr (okc (show in64 _ from (by have z := tmod_in (b := b) (M := 9223372036854775808) (show -9223372036854775808 ≤ a from oa.1) (show a < 9223372036854775808 by have := oa.2; omega); exact ⟨z.1, by omega⟩)) ho) hl hln hS
  · cases hx

theorem sk_ineg {g : Gx} {mn : Nat} {p : Program} {l : Launch} {e : Env} {R : Room} {s : State} {m : MethodId} {args : Array Value} {below : List Frame} {meth : Method} {c : Code} {Q : State → Prop} {T0 S0 pc nx_ pc2 : Nat} {tt : List Nat} {q : Option (List Bool)} {ls ls2 : List (Option TV)} {st st2 : List TV} {h h2 : Hp}  (X : Cx g mn p R s m args meth c) (hdec : decode (byt mn) pc = .ok (.ineg, lenI (.ineg))) (hx : ex (callT mn) mn (.ineg, pc + lenI (.ineg), tt, q) ls st h = some (Sum.inl (pc2, ls2, st2, h2))) (kk : StepG g mn p l e R s m args below meth c Q T0 S0 pc2 ls2 st2 h2) : StepG g mn p l e R s m args below meth c Q T0 S0 pc ls st h := by
  intro H locs Ls hr ho hl hln hS
  have hF := X.F
  obtain ⟨hx0, hb, hml, hown, hts, hBs, hini, hfr, hlo⟩ := id X
  simp only [ex] at hx
  split at hx
  · rename_i a st3
    obtain ⟨e1, e2, e3, e4⟩ := go_inj hx
    subst e1 e2 e3 e4
    obtain ⟨oa, ho⟩ := ok1 ho
    refine lv_ineg hx0 hb hdec ?_
    rw [o32_neg]
    exact kk H locs Ls hr (okc (w32_in _) ho) hl hln hS
  · cases hx

theorem sk_lneg {g : Gx} {mn : Nat} {p : Program} {l : Launch} {e : Env} {R : Room} {s : State} {m : MethodId} {args : Array Value} {below : List Frame} {meth : Method} {c : Code} {Q : State → Prop} {T0 S0 pc nx_ pc2 : Nat} {tt : List Nat} {q : Option (List Bool)} {ls ls2 : List (Option TV)} {st st2 : List TV} {h h2 : Hp}  (X : Cx g mn p R s m args meth c) (hdec : decode (byt mn) pc = .ok (.lneg, lenI (.lneg))) (hx : ex (callT mn) mn (.lneg, pc + lenI (.lneg), tt, q) ls st h = some (Sum.inl (pc2, ls2, st2, h2))) (kk : StepG g mn p l e R s m args below meth c Q T0 S0 pc2 ls2 st2 h2) : StepG g mn p l e R s m args below meth c Q T0 S0 pc ls st h := by
  intro H locs Ls hr ho hl hln hS
  have hF := X.F
  obtain ⟨hx0, hb, hml, hown, hts, hBs, hini, hfr, hlo⟩ := id X
  simp only [ex] at hx
  split at hx
  · rename_i a st3
    obtain ⟨e1, e2, e3, e4⟩ := go_inj hx
    subst e1 e2 e3 e4
    obtain ⟨oa, ho⟩ := ok1 ho
    refine lv_lneg hx0 hb hdec ?_
    rw [o64_neg]
    exact kk H locs Ls hr (okc (w64_in _) ho) hl hln hS
  · cases hx

theorem sk_i2l {g : Gx} {mn : Nat} {p : Program} {l : Launch} {e : Env} {R : Room} {s : State} {m : MethodId} {args : Array Value} {below : List Frame} {meth : Method} {c : Code} {Q : State → Prop} {T0 S0 pc nx_ pc2 : Nat} {tt : List Nat} {q : Option (List Bool)} {ls ls2 : List (Option TV)} {st st2 : List TV} {h h2 : Hp}  (X : Cx g mn p R s m args meth c) (hdec : decode (byt mn) pc = .ok (.i2l, lenI (.i2l))) (hx : ex (callT mn) mn (.i2l, pc + lenI (.i2l), tt, q) ls st h = some (Sum.inl (pc2, ls2, st2, h2))) (kk : StepG g mn p l e R s m args below meth c Q T0 S0 pc2 ls2 st2 h2) : StepG g mn p l e R s m args below meth c Q T0 S0 pc ls st h := by
  intro H locs Ls hr ho hl hln hS
  have hF := X.F
  obtain ⟨hx0, hb, hml, hown, hts, hBs, hini, hfr, hlo⟩ := id X
  simp only [ex] at hx
  split at hx
  · rename_i a st3
    obtain ⟨e1, e2, e3, e4⟩ := go_inj hx
    subst e1 e2 e3 e4
    obtain ⟨oa, ho⟩ := ok1 ho
    exact lv_i2l hx0 hb hdec (o32_64 oa) (kk H locs Ls hr (okc (show in64 a from ⟨by have := oa.1; omega, by have := oa.2; omega⟩) ho) hl hln hS)
  · cases hx

theorem sk_l2i {g : Gx} {mn : Nat} {p : Program} {l : Launch} {e : Env} {R : Room} {s : State} {m : MethodId} {args : Array Value} {below : List Frame} {meth : Method} {c : Code} {Q : State → Prop} {T0 S0 pc nx_ pc2 : Nat} {tt : List Nat} {q : Option (List Bool)} {ls ls2 : List (Option TV)} {st st2 : List TV} {h h2 : Hp}  (X : Cx g mn p R s m args meth c) (hdec : decode (byt mn) pc = .ok (.l2i, lenI (.l2i))) (hx : ex (callT mn) mn (.l2i, pc + lenI (.l2i), tt, q) ls st h = some (Sum.inl (pc2, ls2, st2, h2))) (kk : StepG g mn p l e R s m args below meth c Q T0 S0 pc2 ls2 st2 h2) : StepG g mn p l e R s m args below meth c Q T0 S0 pc ls st h := by
  intro H locs Ls hr ho hl hln hS
  have hF := X.F
  obtain ⟨hx0, hb, hml, hown, hts, hBs, hini, hfr, hlo⟩ := id X
  simp only [ex] at hx
  split at hx
  · rename_i a st3
    obtain ⟨e1, e2, e3, e4⟩ := go_inj hx
    subst e1 e2 e3 e4
    obtain ⟨oa, ho⟩ := ok1 ho
    exact lv_l2i hx0 hb hdec (o64_32 a) (kk H locs Ls hr (okc (w32_in _) ho) hl hln hS)
  · cases hx

theorem sk_i2b {g : Gx} {mn : Nat} {p : Program} {l : Launch} {e : Env} {R : Room} {s : State} {m : MethodId} {args : Array Value} {below : List Frame} {meth : Method} {c : Code} {Q : State → Prop} {T0 S0 pc nx_ pc2 : Nat} {tt : List Nat} {q : Option (List Bool)} {ls ls2 : List (Option TV)} {st st2 : List TV} {h h2 : Hp}  (X : Cx g mn p R s m args meth c) (hdec : decode (byt mn) pc = .ok (.i2b, lenI (.i2b))) (hx : ex (callT mn) mn (.i2b, pc + lenI (.i2b), tt, q) ls st h = some (Sum.inl (pc2, ls2, st2, h2))) (kk : StepG g mn p l e R s m args below meth c Q T0 S0 pc2 ls2 st2 h2) : StepG g mn p l e R s m args below meth c Q T0 S0 pc ls st h := by
  intro H locs Ls hr ho hl hln hS
  have hF := X.F
  obtain ⟨hx0, hb, hml, hown, hts, hBs, hini, hfr, hlo⟩ := id X
  simp only [ex] at hx
  split at hx
  · rename_i a st3
    obtain ⟨e1, e2, e3, e4⟩ := go_inj hx
    subst e1 e2 e3 e4
    obtain ⟨oa, ho⟩ := ok1 ho
    exact lv_i2b hx0 hb hdec (o32_8 a) (kk H locs Ls hr (okc (show in32 (w8 a) from ⟨by have := w8_in a; omega, by have := w8_in a; omega⟩) ho) hl hln hS)
  · cases hx

theorem o32_c (a : Int) : ((Int32.ofInt a).toUInt32 % 65536).toInt32 = Int32.ofInt (a % 65536) := by
  rw [pk_char]
  show Int32.ofNat _ = _
  rw [← n32_t]
  congr 1
  rw [Int32.toBitVec_ofInt]
  have e : (BitVec.ofInt 32 a).toNat = (a % 4294967296).toNat := by simp [BitVec.toNat_ofInt]
  rw [e]
  omega
theorem sk_i2c {g : Gx} {mn : Nat} {p : Program} {l : Launch} {e : Env} {R : Room} {s : State} {m : MethodId} {args : Array Value} {below : List Frame} {meth : Method} {c : Code} {Q : State → Prop} {T0 S0 pc nx_ pc2 : Nat} {tt : List Nat} {q : Option (List Bool)} {ls ls2 : List (Option TV)} {st st2 : List TV} {h h2 : Hp}  (X : Cx g mn p R s m args meth c) (hdec : decode (byt mn) pc = .ok (.i2c, lenI (.i2c))) (hx : ex (callT mn) mn (.i2c, pc + lenI (.i2c), tt, q) ls st h = some (Sum.inl (pc2, ls2, st2, h2))) (kk : StepG g mn p l e R s m args below meth c Q T0 S0 pc2 ls2 st2 h2) : StepG g mn p l e R s m args below meth c Q T0 S0 pc ls st h := by
  intro H locs Ls hr ho hl hln hS
  have hF := X.F
  obtain ⟨hx0, hb, hml, hown, hts, hBs, hini, hfr, hlo⟩ := id X
  simp only [ex] at hx
  split at hx
  · rename_i a st3
    obtain ⟨e1, e2, e3, e4⟩ := go_inj hx
    subst e1 e2 e3 e4
    obtain ⟨oa, ho⟩ := ok1 ho
    exact lv_i2c hx0 hb hdec (o32_c a) (kk H locs Ls hr (okc (show in32 (a % 65536) from ⟨by omega, by omega⟩) ho) hl hln hS)
  · cases hx

theorem sk_lcmp {g : Gx} {mn : Nat} {p : Program} {l : Launch} {e : Env} {R : Room} {s : State} {m : MethodId} {args : Array Value} {below : List Frame} {meth : Method} {c : Code} {Q : State → Prop} {T0 S0 pc nx_ pc2 : Nat} {tt : List Nat} {q : Option (List Bool)} {ls ls2 : List (Option TV)} {st st2 : List TV} {h h2 : Hp}  (X : Cx g mn p R s m args meth c) (hdec : decode (byt mn) pc = .ok (.lcmp, lenI (.lcmp))) (hx : ex (callT mn) mn (.lcmp, pc + lenI (.lcmp), tt, q) ls st h = some (Sum.inl (pc2, ls2, st2, h2))) (kk : StepG g mn p l e R s m args below meth c Q T0 S0 pc2 ls2 st2 h2) : StepG g mn p l e R s m args below meth c Q T0 S0 pc ls st h := by
  intro H locs Ls hr ho hl hln hS
  have hF := X.F
  obtain ⟨hx0, hb, hml, hown, hts, hBs, hini, hfr, hlo⟩ := id X
  simp only [ex] at hx
  split at hx
  · rename_i b a st3
    obtain ⟨e1, e2, e3, e4⟩ := go_inj hx
    subst e1 e2 e3 e4
    obtain ⟨ob, ho⟩ := ok1 ho
    obtain ⟨oa, ho⟩ := ok1 ho
    have e : lg_cmp (Int64.ofInt a) (Int64.ofInt b) = Int32.ofInt (lcm a b) := by
      unfold lg_cmp lcm
      simp only [gt_iff_lt, o64_lt ob oa, o64_inj oa ob]
      by_cases q1 : b < a
      · rw [if_pos q1, if_neg (by omega), if_neg (by omega)]; decide
      · rw [if_neg q1]
        by_cases q2 : a = b
        · rw [if_pos q2, if_neg (by omega), if_pos q2]; decide
        · rw [if_neg q2, if_pos (by omega)]; decide
    refine W.lcmp hx0 hb hdec ?_
    rw [e]
    exact kk H locs Ls hr (okc (show in32 (lcm a b) by unfold lcm in32; split <;> (try split) <;> omega) ho) hl hln hS
  · cases hx

theorem sk_dup {g : Gx} {mn : Nat} {p : Program} {l : Launch} {e : Env} {R : Room} {s : State} {m : MethodId} {args : Array Value} {below : List Frame} {meth : Method} {c : Code} {Q : State → Prop} {T0 S0 pc nx_ pc2 : Nat} {tt : List Nat} {q : Option (List Bool)} {ls ls2 : List (Option TV)} {st st2 : List TV} {h h2 : Hp}  (X : Cx g mn p R s m args meth c) (hdec : decode (byt mn) pc = .ok (.dup, lenI (.dup))) (hx : ex (callT mn) mn (.dup, pc + lenI (.dup), tt, q) ls st h = some (Sum.inl (pc2, ls2, st2, h2))) (kk : StepG g mn p l e R s m args below meth c Q T0 S0 pc2 ls2 st2 h2) : StepG g mn p l e R s m args below meth c Q T0 S0 pc ls st h := by
  intro H locs Ls hr ho hl hln hS
  have hF := X.F
  obtain ⟨hx0, hb, hml, hown, hts, hBs, hini, hfr, hlo⟩ := id X
  simp only [ex] at hx
  split at hx
  · rename_i v st3
    split at hx
    · rename_i hc1
      obtain ⟨e1, e2, e3, e4⟩ := go_inj hx
      subst e1 e2 e3 e4
      exact lv_dup hx0 hb hdec (by rw [cat_cv g v hF]; exact hc1) (kk H locs Ls hr (okc (ok1 ho).1 ho) hl hln hS)
    · cases hx
  · cases hx

theorem sk_dup2 {g : Gx} {mn : Nat} {p : Program} {l : Launch} {e : Env} {R : Room} {s : State} {m : MethodId} {args : Array Value} {below : List Frame} {meth : Method} {c : Code} {Q : State → Prop} {T0 S0 pc nx_ pc2 : Nat} {tt : List Nat} {q : Option (List Bool)} {ls ls2 : List (Option TV)} {st st2 : List TV} {h h2 : Hp}  (X : Cx g mn p R s m args meth c) (hdec : decode (byt mn) pc = .ok (.dup2, lenI (.dup2))) (hx : ex (callT mn) mn (.dup2, pc + lenI (.dup2), tt, q) ls st h = some (Sum.inl (pc2, ls2, st2, h2))) (kk : StepG g mn p l e R s m args below meth c Q T0 S0 pc2 ls2 st2 h2) : StepG g mn p l e R s m args below meth c Q T0 S0 pc ls st h := by
  intro H locs Ls hr ho hl hln hS
  have hF := X.F
  obtain ⟨hx0, hb, hml, hown, hts, hBs, hini, hfr, hlo⟩ := id X
  simp only [ex] at hx
  split at hx
  · rename_i v w st3
    split at hx
    · rename_i hc1
      obtain ⟨e1, e2, e3, e4⟩ := go_inj hx
      subst e1 e2 e3 e4
      obtain ⟨o1, o2⟩ := ok1 ho
      exact lv_dup2_11 hx0 hb hdec (by rw [cat_cv g v hF]; exact hc1.1) (by rw [cat_cv g w hF]; exact hc1.2) (kk H locs Ls hr (okc o1 (okc (ok1 o2).1 ho)) hl hln hS)
    · cases hx
  · cases hx

theorem sk_pop {g : Gx} {mn : Nat} {p : Program} {l : Launch} {e : Env} {R : Room} {s : State} {m : MethodId} {args : Array Value} {below : List Frame} {meth : Method} {c : Code} {Q : State → Prop} {T0 S0 pc nx_ pc2 : Nat} {tt : List Nat} {q : Option (List Bool)} {ls ls2 : List (Option TV)} {st st2 : List TV} {h h2 : Hp}  (X : Cx g mn p R s m args meth c) (hdec : decode (byt mn) pc = .ok (.pop, lenI (.pop))) (hx : ex (callT mn) mn (.pop, pc + lenI (.pop), tt, q) ls st h = some (Sum.inl (pc2, ls2, st2, h2))) (kk : StepG g mn p l e R s m args below meth c Q T0 S0 pc2 ls2 st2 h2) : StepG g mn p l e R s m args below meth c Q T0 S0 pc ls st h := by
  intro H locs Ls hr ho hl hln hS
  have hF := X.F
  obtain ⟨hx0, hb, hml, hown, hts, hBs, hini, hfr, hlo⟩ := id X
  simp only [ex] at hx
  split at hx
  · rename_i v st3
    split at hx
    · rename_i hc1
      obtain ⟨e1, e2, e3, e4⟩ := go_inj hx
      subst e1 e2 e3 e4
      exact lv_pop hx0 hb hdec (by rw [cat_cv g v hF]; exact hc1) (kk H locs Ls hr (ok1 ho).2 hl hln hS)
    · cases hx
  · cases hx

theorem tgt1_of {pc : Nat} {ins : Instr} {n : Nat} {tt : List Nat} {q : Option (List Bool)} {o : Int} (ht : tgt1 pc (ins, n, tt, q) o = true) : (pc : Int) + o = ((tg1 (ins, n, tt, q) : Nat) : Int) := by
  obtain ⟨h1, h2⟩ := of_decide_eq_true ht
  simp only at h1
  unfold tg1
  simp only [h1, List.headD_cons]
  omega
theorem sk_goto {g : Gx} {mn : Nat} {p : Program} {l : Launch} {e : Env} {R : Room} {s : State} {m : MethodId} {args : Array Value} {below : List Frame} {meth : Method} {c : Code} {Q : State → Prop} {T0 S0 pc nx_ pc2 : Nat} {tt : List Nat} {q : Option (List Bool)} {ls ls2 : List (Option TV)} {st st2 : List TV} {h h2 : Hp} {o : Int} (X : Cx g mn p R s m args meth c) (hdec : decode (byt mn) pc = .ok (.goto o, lenI (.goto o))) (ht : tgt1 pc (.goto o, pc + lenI (.goto o), tt, q) o = true) (hx : ex (callT mn) mn (.goto o, pc + lenI (.goto o), tt, q) ls st h = some (Sum.inl (pc2, ls2, st2, h2))) (kk : StepG g mn p l e R s m args below meth c Q T0 S0 pc2 ls2 st2 h2) : StepG g mn p l e R s m args below meth c Q T0 S0 pc ls st h := by
  intro H locs Ls hr ho hl hln hS
  have hF := X.F
  obtain ⟨hx0, hb, hml, hown, hts, hBs, hini, hfr, hlo⟩ := id X
  simp only [ex] at hx
  obtain ⟨e1, e2, e3, e4⟩ := go_inj hx
  subst e1 e2 e3 e4
  exact lv_goto hx0 hb hdec (tgt1_of ht) (kk H locs Ls hr ho hl hln hS)

theorem sk_if_icmp_eq {g : Gx} {mn : Nat} {p : Program} {l : Launch} {e : Env} {R : Room} {s : State} {m : MethodId} {args : Array Value} {below : List Frame} {meth : Method} {c : Code} {Q : State → Prop} {T0 S0 pc nx_ pc2 : Nat} {tt : List Nat} {q : Option (List Bool)} {ls ls2 : List (Option TV)} {st st2 : List TV} {h h2 : Hp} {o : Int} (X : Cx g mn p R s m args meth c) (hdec : decode (byt mn) pc = .ok (.if_icmp .eq o, lenI (.if_icmp .eq o))) (ht : tgt1 pc (.if_icmp .eq o, pc + lenI (.if_icmp .eq o), tt, q) o = true) (hx : ex (callT mn) mn (.if_icmp .eq o, pc + lenI (.if_icmp .eq o), tt, q) ls st h = some (Sum.inl (pc2, ls2, st2, h2))) (kk : StepG g mn p l e R s m args below meth c Q T0 S0 pc2 ls2 st2 h2) : StepG g mn p l e R s m args below meth c Q T0 S0 pc ls st h := by
  intro H locs Ls hr ho hl hln hS
  have hF := X.F
  obtain ⟨hx0, hb, hml, hown, hts, hBs, hini, hfr, hlo⟩ := id X
  simp only [ex] at hx
  split at hx
  · rename_i y x st3
    obtain ⟨e1, e2, e3, e4⟩ := go_inj hx
    subst e1 e2 e3 e4
    obtain ⟨oy, ho⟩ := ok1 ho
    obtain ⟨ox, ho⟩ := ok1 ho
    refine lv_icmp_eq hx0 hb hdec (tgt1_of ht) (fun z => ?_) (fun z => ?_)
    · skip
      have z2 : x = y := (o32_inj ox oy).mp (z)
      have e : (if cnd .eq x y = true then tg1 (.if_icmp .eq o, pc + lenI (.if_icmp .eq o), tt, q) else pc + lenI (.if_icmp .eq o)) = tg1 (.if_icmp .eq o, pc + lenI (.if_icmp .eq o), tt, q) := by
        simp [cnd]; omega
      rw [e] at kk
      exact kk H locs Ls hr ho hl hln hS
    · skip
      have z2 : ¬ (x = y) := fun w => z ((o32_inj ox oy).mpr w)
      have e : (if cnd .eq x y = true then tg1 (.if_icmp .eq o, pc + lenI (.if_icmp .eq o), tt, q) else pc + lenI (.if_icmp .eq o)) = pc + lenI (.if_icmp .eq o) := by
        simp [cnd]; omega
      rw [e] at kk
      exact kk H locs Ls hr ho hl hln hS
  · cases hx

theorem sk_ifCond_eq {g : Gx} {mn : Nat} {p : Program} {l : Launch} {e : Env} {R : Room} {s : State} {m : MethodId} {args : Array Value} {below : List Frame} {meth : Method} {c : Code} {Q : State → Prop} {T0 S0 pc nx_ pc2 : Nat} {tt : List Nat} {q : Option (List Bool)} {ls ls2 : List (Option TV)} {st st2 : List TV} {h h2 : Hp} {o : Int} (X : Cx g mn p R s m args meth c) (hdec : decode (byt mn) pc = .ok (.ifCond .eq o, lenI (.ifCond .eq o))) (ht : tgt1 pc (.ifCond .eq o, pc + lenI (.ifCond .eq o), tt, q) o = true) (hx : ex (callT mn) mn (.ifCond .eq o, pc + lenI (.ifCond .eq o), tt, q) ls st h = some (Sum.inl (pc2, ls2, st2, h2))) (kk : StepG g mn p l e R s m args below meth c Q T0 S0 pc2 ls2 st2 h2) : StepG g mn p l e R s m args below meth c Q T0 S0 pc ls st h := by
  intro H locs Ls hr ho hl hln hS
  have hF := X.F
  obtain ⟨hx0, hb, hml, hown, hts, hBs, hini, hfr, hlo⟩ := id X
  simp only [ex] at hx
  split at hx
  · rename_i x st3
    obtain ⟨e1, e2, e3, e4⟩ := go_inj hx
    subst e1 e2 e3 e4
    obtain ⟨ox, ho⟩ := ok1 ho
    have oy := in32_0
    refine lv_if_eq hx0 hb hdec (tgt1_of ht) (fun z => ?_) (fun z => ?_)
    · skip
      have z2 : x = 0 := (o32_inj ox oy).mp (by rw [o32_0]; exact z)
      have e : (if cnd .eq x 0 = true then tg1 (.ifCond .eq o, pc + lenI (.ifCond .eq o), tt, q) else pc + lenI (.ifCond .eq o)) = tg1 (.ifCond .eq o, pc + lenI (.ifCond .eq o), tt, q) := by
        simp [cnd]; omega
      rw [e] at kk
      exact kk H locs Ls hr ho hl hln hS
    · skip
      have z2 : ¬ (x = 0) := fun w => z (by have w2 := (o32_inj ox oy).mpr w; rw [o32_0] at w2; exact w2)
      have e : (if cnd .eq x 0 = true then tg1 (.ifCond .eq o, pc + lenI (.ifCond .eq o), tt, q) else pc + lenI (.ifCond .eq o)) = pc + lenI (.ifCond .eq o) := by
        simp [cnd]; omega
      rw [e] at kk
      exact kk H locs Ls hr ho hl hln hS
  · cases hx

theorem sk_if_icmp_ne {g : Gx} {mn : Nat} {p : Program} {l : Launch} {e : Env} {R : Room} {s : State} {m : MethodId} {args : Array Value} {below : List Frame} {meth : Method} {c : Code} {Q : State → Prop} {T0 S0 pc nx_ pc2 : Nat} {tt : List Nat} {q : Option (List Bool)} {ls ls2 : List (Option TV)} {st st2 : List TV} {h h2 : Hp} {o : Int} (X : Cx g mn p R s m args meth c) (hdec : decode (byt mn) pc = .ok (.if_icmp .ne o, lenI (.if_icmp .ne o))) (ht : tgt1 pc (.if_icmp .ne o, pc + lenI (.if_icmp .ne o), tt, q) o = true) (hx : ex (callT mn) mn (.if_icmp .ne o, pc + lenI (.if_icmp .ne o), tt, q) ls st h = some (Sum.inl (pc2, ls2, st2, h2))) (kk : StepG g mn p l e R s m args below meth c Q T0 S0 pc2 ls2 st2 h2) : StepG g mn p l e R s m args below meth c Q T0 S0 pc ls st h := by
  intro H locs Ls hr ho hl hln hS
  have hF := X.F
  obtain ⟨hx0, hb, hml, hown, hts, hBs, hini, hfr, hlo⟩ := id X
  simp only [ex] at hx
  split at hx
  · rename_i y x st3
    obtain ⟨e1, e2, e3, e4⟩ := go_inj hx
    subst e1 e2 e3 e4
    obtain ⟨oy, ho⟩ := ok1 ho
    obtain ⟨ox, ho⟩ := ok1 ho
    refine lv_icmp_ne hx0 hb hdec (tgt1_of ht) (fun z => ?_) (fun z => ?_)
    · skip
      have z2 : ¬ (x = y) := fun w => z ((o32_inj ox oy).mpr w)
      have e : (if cnd .ne x y = true then tg1 (.if_icmp .ne o, pc + lenI (.if_icmp .ne o), tt, q) else pc + lenI (.if_icmp .ne o)) = tg1 (.if_icmp .ne o, pc + lenI (.if_icmp .ne o), tt, q) := by
        simp [cnd]; omega
      rw [e] at kk
      exact kk H locs Ls hr ho hl hln hS
    · skip
      have z2 : x = y := (o32_inj ox oy).mp (z)
      have e : (if cnd .ne x y = true then tg1 (.if_icmp .ne o, pc + lenI (.if_icmp .ne o), tt, q) else pc + lenI (.if_icmp .ne o)) = pc + lenI (.if_icmp .ne o) := by
        simp [cnd]; omega
      rw [e] at kk
      exact kk H locs Ls hr ho hl hln hS
  · cases hx

theorem sk_ifCond_ne {g : Gx} {mn : Nat} {p : Program} {l : Launch} {e : Env} {R : Room} {s : State} {m : MethodId} {args : Array Value} {below : List Frame} {meth : Method} {c : Code} {Q : State → Prop} {T0 S0 pc nx_ pc2 : Nat} {tt : List Nat} {q : Option (List Bool)} {ls ls2 : List (Option TV)} {st st2 : List TV} {h h2 : Hp} {o : Int} (X : Cx g mn p R s m args meth c) (hdec : decode (byt mn) pc = .ok (.ifCond .ne o, lenI (.ifCond .ne o))) (ht : tgt1 pc (.ifCond .ne o, pc + lenI (.ifCond .ne o), tt, q) o = true) (hx : ex (callT mn) mn (.ifCond .ne o, pc + lenI (.ifCond .ne o), tt, q) ls st h = some (Sum.inl (pc2, ls2, st2, h2))) (kk : StepG g mn p l e R s m args below meth c Q T0 S0 pc2 ls2 st2 h2) : StepG g mn p l e R s m args below meth c Q T0 S0 pc ls st h := by
  intro H locs Ls hr ho hl hln hS
  have hF := X.F
  obtain ⟨hx0, hb, hml, hown, hts, hBs, hini, hfr, hlo⟩ := id X
  simp only [ex] at hx
  split at hx
  · rename_i x st3
    obtain ⟨e1, e2, e3, e4⟩ := go_inj hx
    subst e1 e2 e3 e4
    obtain ⟨ox, ho⟩ := ok1 ho
    have oy := in32_0
    refine lv_if_ne hx0 hb hdec (tgt1_of ht) (fun z => ?_) (fun z => ?_)
    · skip
      have z2 : ¬ (x = 0) := fun w => z (by have w2 := (o32_inj ox oy).mpr w; rw [o32_0] at w2; exact w2)
      have e : (if cnd .ne x 0 = true then tg1 (.ifCond .ne o, pc + lenI (.ifCond .ne o), tt, q) else pc + lenI (.ifCond .ne o)) = tg1 (.ifCond .ne o, pc + lenI (.ifCond .ne o), tt, q) := by
        simp [cnd]; omega
      rw [e] at kk
      exact kk H locs Ls hr ho hl hln hS
    · skip
      have z2 : x = 0 := (o32_inj ox oy).mp (by rw [o32_0]; exact z)
      have e : (if cnd .ne x 0 = true then tg1 (.ifCond .ne o, pc + lenI (.ifCond .ne o), tt, q) else pc + lenI (.ifCond .ne o)) = pc + lenI (.ifCond .ne o) := by
        simp [cnd]; omega
      rw [e] at kk
      exact kk H locs Ls hr ho hl hln hS
  · cases hx

theorem sk_if_icmp_lt {g : Gx} {mn : Nat} {p : Program} {l : Launch} {e : Env} {R : Room} {s : State} {m : MethodId} {args : Array Value} {below : List Frame} {meth : Method} {c : Code} {Q : State → Prop} {T0 S0 pc nx_ pc2 : Nat} {tt : List Nat} {q : Option (List Bool)} {ls ls2 : List (Option TV)} {st st2 : List TV} {h h2 : Hp} {o : Int} (X : Cx g mn p R s m args meth c) (hdec : decode (byt mn) pc = .ok (.if_icmp .lt o, lenI (.if_icmp .lt o))) (ht : tgt1 pc (.if_icmp .lt o, pc + lenI (.if_icmp .lt o), tt, q) o = true) (hx : ex (callT mn) mn (.if_icmp .lt o, pc + lenI (.if_icmp .lt o), tt, q) ls st h = some (Sum.inl (pc2, ls2, st2, h2))) (kk : StepG g mn p l e R s m args below meth c Q T0 S0 pc2 ls2 st2 h2) : StepG g mn p l e R s m args below meth c Q T0 S0 pc ls st h := by
  intro H locs Ls hr ho hl hln hS
  have hF := X.F
  obtain ⟨hx0, hb, hml, hown, hts, hBs, hini, hfr, hlo⟩ := id X
  simp only [ex] at hx
  split at hx
  · rename_i y x st3
    obtain ⟨e1, e2, e3, e4⟩ := go_inj hx
    subst e1 e2 e3 e4
    obtain ⟨oy, ho⟩ := ok1 ho
    obtain ⟨ox, ho⟩ := ok1 ho
    refine lv_icmp_lt hx0 hb hdec (tgt1_of ht) (fun z => ?_) (fun z => ?_)
    · skip
      have z2 : x < y := (o32_lt ox oy).mp (z)
      have e : (if cnd .lt x y = true then tg1 (.if_icmp .lt o, pc + lenI (.if_icmp .lt o), tt, q) else pc + lenI (.if_icmp .lt o)) = tg1 (.if_icmp .lt o, pc + lenI (.if_icmp .lt o), tt, q) := by
        simp [cnd]; omega
      rw [e] at kk
      exact kk H locs Ls hr ho hl hln hS
    · skip
      have z2 : ¬ (x < y) := fun w => z ((o32_lt ox oy).mpr w)
      have e : (if cnd .lt x y = true then tg1 (.if_icmp .lt o, pc + lenI (.if_icmp .lt o), tt, q) else pc + lenI (.if_icmp .lt o)) = pc + lenI (.if_icmp .lt o) := by
        simp [cnd]; omega
      rw [e] at kk
      exact kk H locs Ls hr ho hl hln hS
  · cases hx

theorem sk_ifCond_lt {g : Gx} {mn : Nat} {p : Program} {l : Launch} {e : Env} {R : Room} {s : State} {m : MethodId} {args : Array Value} {below : List Frame} {meth : Method} {c : Code} {Q : State → Prop} {T0 S0 pc nx_ pc2 : Nat} {tt : List Nat} {q : Option (List Bool)} {ls ls2 : List (Option TV)} {st st2 : List TV} {h h2 : Hp} {o : Int} (X : Cx g mn p R s m args meth c) (hdec : decode (byt mn) pc = .ok (.ifCond .lt o, lenI (.ifCond .lt o))) (ht : tgt1 pc (.ifCond .lt o, pc + lenI (.ifCond .lt o), tt, q) o = true) (hx : ex (callT mn) mn (.ifCond .lt o, pc + lenI (.ifCond .lt o), tt, q) ls st h = some (Sum.inl (pc2, ls2, st2, h2))) (kk : StepG g mn p l e R s m args below meth c Q T0 S0 pc2 ls2 st2 h2) : StepG g mn p l e R s m args below meth c Q T0 S0 pc ls st h := by
  intro H locs Ls hr ho hl hln hS
  have hF := X.F
  obtain ⟨hx0, hb, hml, hown, hts, hBs, hini, hfr, hlo⟩ := id X
  simp only [ex] at hx
  split at hx
  · rename_i x st3
    obtain ⟨e1, e2, e3, e4⟩ := go_inj hx
    subst e1 e2 e3 e4
    obtain ⟨ox, ho⟩ := ok1 ho
    have oy := in32_0
    refine lv_if_lt hx0 hb hdec (tgt1_of ht) (fun z => ?_) (fun z => ?_)
    · skip
      have z2 : x < 0 := (o32_lt ox oy).mp (by rw [o32_0]; exact z)
      have e : (if cnd .lt x 0 = true then tg1 (.ifCond .lt o, pc + lenI (.ifCond .lt o), tt, q) else pc + lenI (.ifCond .lt o)) = tg1 (.ifCond .lt o, pc + lenI (.ifCond .lt o), tt, q) := by
        simp [cnd]; omega
      rw [e] at kk
      exact kk H locs Ls hr ho hl hln hS
    · skip
      have z2 : ¬ (x < 0) := fun w => z (by have w2 := (o32_lt ox oy).mpr w; rw [o32_0] at w2; exact w2)
      have e : (if cnd .lt x 0 = true then tg1 (.ifCond .lt o, pc + lenI (.ifCond .lt o), tt, q) else pc + lenI (.ifCond .lt o)) = pc + lenI (.ifCond .lt o) := by
        simp [cnd]; omega
      rw [e] at kk
      exact kk H locs Ls hr ho hl hln hS
  · cases hx

theorem sk_if_icmp_ge {g : Gx} {mn : Nat} {p : Program} {l : Launch} {e : Env} {R : Room} {s : State} {m : MethodId} {args : Array Value} {below : List Frame} {meth : Method} {c : Code} {Q : State → Prop} {T0 S0 pc nx_ pc2 : Nat} {tt : List Nat} {q : Option (List Bool)} {ls ls2 : List (Option TV)} {st st2 : List TV} {h h2 : Hp} {o : Int} (X : Cx g mn p R s m args meth c) (hdec : decode (byt mn) pc = .ok (.if_icmp .ge o, lenI (.if_icmp .ge o))) (ht : tgt1 pc (.if_icmp .ge o, pc + lenI (.if_icmp .ge o), tt, q) o = true) (hx : ex (callT mn) mn (.if_icmp .ge o, pc + lenI (.if_icmp .ge o), tt, q) ls st h = some (Sum.inl (pc2, ls2, st2, h2))) (kk : StepG g mn p l e R s m args below meth c Q T0 S0 pc2 ls2 st2 h2) : StepG g mn p l e R s m args below meth c Q T0 S0 pc ls st h := by
  intro H locs Ls hr ho hl hln hS
  have hF := X.F
  obtain ⟨hx0, hb, hml, hown, hts, hBs, hini, hfr, hlo⟩ := id X
  simp only [ex] at hx
  split at hx
  · rename_i y x st3
    obtain ⟨e1, e2, e3, e4⟩ := go_inj hx
    subst e1 e2 e3 e4
    obtain ⟨oy, ho⟩ := ok1 ho
    obtain ⟨ox, ho⟩ := ok1 ho
    refine lv_icmp_ge hx0 hb hdec (tgt1_of ht) (fun z => ?_) (fun z => ?_)
    · skip
      have z2 : y ≤ x := (o32_le oy ox).mp (z)
      have e : (if cnd .ge x y = true then tg1 (.if_icmp .ge o, pc + lenI (.if_icmp .ge o), tt, q) else pc + lenI (.if_icmp .ge o)) = tg1 (.if_icmp .ge o, pc + lenI (.if_icmp .ge o), tt, q) := by
        simp [cnd]; omega
      rw [e] at kk
      exact kk H locs Ls hr ho hl hln hS
    · skip
      have z2 : ¬ (y ≤ x) := fun w => z ((o32_le oy ox).mpr w)
      have e : (if cnd .ge x y = true then tg1 (.if_icmp .ge o, pc + lenI (.if_icmp .ge o), tt, q) else pc + lenI (.if_icmp .ge o)) = pc + lenI (.if_icmp .ge o) := by
        simp [cnd]; omega
      rw [e] at kk
      exact kk H locs Ls hr ho hl hln hS
  · cases hx

theorem sk_ifCond_ge {g : Gx} {mn : Nat} {p : Program} {l : Launch} {e : Env} {R : Room} {s : State} {m : MethodId} {args : Array Value} {below : List Frame} {meth : Method} {c : Code} {Q : State → Prop} {T0 S0 pc nx_ pc2 : Nat} {tt : List Nat} {q : Option (List Bool)} {ls ls2 : List (Option TV)} {st st2 : List TV} {h h2 : Hp} {o : Int} (X : Cx g mn p R s m args meth c) (hdec : decode (byt mn) pc = .ok (.ifCond .ge o, lenI (.ifCond .ge o))) (ht : tgt1 pc (.ifCond .ge o, pc + lenI (.ifCond .ge o), tt, q) o = true) (hx : ex (callT mn) mn (.ifCond .ge o, pc + lenI (.ifCond .ge o), tt, q) ls st h = some (Sum.inl (pc2, ls2, st2, h2))) (kk : StepG g mn p l e R s m args below meth c Q T0 S0 pc2 ls2 st2 h2) : StepG g mn p l e R s m args below meth c Q T0 S0 pc ls st h := by
  intro H locs Ls hr ho hl hln hS
  have hF := X.F
  obtain ⟨hx0, hb, hml, hown, hts, hBs, hini, hfr, hlo⟩ := id X
  simp only [ex] at hx
  split at hx
  · rename_i x st3
    obtain ⟨e1, e2, e3, e4⟩ := go_inj hx
    subst e1 e2 e3 e4
    obtain ⟨ox, ho⟩ := ok1 ho
    have oy := in32_0
    refine lv_if_ge hx0 hb hdec (tgt1_of ht) (fun z => ?_) (fun z => ?_)
    · skip
      have z2 : 0 ≤ x := (o32_le oy ox).mp (by rw [o32_0]; exact z)
      have e : (if cnd .ge x 0 = true then tg1 (.ifCond .ge o, pc + lenI (.ifCond .ge o), tt, q) else pc + lenI (.ifCond .ge o)) = tg1 (.ifCond .ge o, pc + lenI (.ifCond .ge o), tt, q) := by
        simp [cnd]; omega
      rw [e] at kk
      exact kk H locs Ls hr ho hl hln hS
    · skip
      have z2 : ¬ (0 ≤ x) := fun w => z (by have w2 := (o32_le oy ox).mpr w; rw [o32_0] at w2; exact w2)
      have e : (if cnd .ge x 0 = true then tg1 (.ifCond .ge o, pc + lenI (.ifCond .ge o), tt, q) else pc + lenI (.ifCond .ge o)) = pc + lenI (.ifCond .ge o) := by
        simp [cnd]; omega
      rw [e] at kk
      exact kk H locs Ls hr ho hl hln hS
  · cases hx

theorem sk_if_icmp_gt {g : Gx} {mn : Nat} {p : Program} {l : Launch} {e : Env} {R : Room} {s : State} {m : MethodId} {args : Array Value} {below : List Frame} {meth : Method} {c : Code} {Q : State → Prop} {T0 S0 pc nx_ pc2 : Nat} {tt : List Nat} {q : Option (List Bool)} {ls ls2 : List (Option TV)} {st st2 : List TV} {h h2 : Hp} {o : Int} (X : Cx g mn p R s m args meth c) (hdec : decode (byt mn) pc = .ok (.if_icmp .gt o, lenI (.if_icmp .gt o))) (ht : tgt1 pc (.if_icmp .gt o, pc + lenI (.if_icmp .gt o), tt, q) o = true) (hx : ex (callT mn) mn (.if_icmp .gt o, pc + lenI (.if_icmp .gt o), tt, q) ls st h = some (Sum.inl (pc2, ls2, st2, h2))) (kk : StepG g mn p l e R s m args below meth c Q T0 S0 pc2 ls2 st2 h2) : StepG g mn p l e R s m args below meth c Q T0 S0 pc ls st h := by
  intro H locs Ls hr ho hl hln hS
  have hF := X.F
  obtain ⟨hx0, hb, hml, hown, hts, hBs, hini, hfr, hlo⟩ := id X
  simp only [ex] at hx
  split at hx
  · rename_i y x st3
    obtain ⟨e1, e2, e3, e4⟩ := go_inj hx
    subst e1 e2 e3 e4
    obtain ⟨oy, ho⟩ := ok1 ho
    obtain ⟨ox, ho⟩ := ok1 ho
    refine lv_icmp_gt hx0 hb hdec (tgt1_of ht) (fun z => ?_) (fun z => ?_)
    · skip
      have z2 : y < x := (o32_lt oy ox).mp (z)
      have e : (if cnd .gt x y = true then tg1 (.if_icmp .gt o, pc + lenI (.if_icmp .gt o), tt, q) else pc + lenI (.if_icmp .gt o)) = tg1 (.if_icmp .gt o, pc + lenI (.if_icmp .gt o), tt, q) := by
        simp [cnd]; omega
      rw [e] at kk
      exact kk H locs Ls hr ho hl hln hS
    · skip
      have z2 : ¬ (y < x) := fun w => z ((o32_lt oy ox).mpr w)
      have e : (if cnd .gt x y = true then tg1 (.if_icmp .gt o, pc + lenI (.if_icmp .gt o), tt, q) else pc + lenI (.if_icmp .gt o)) = pc + lenI (.if_icmp .gt o) := by
        simp [cnd]; omega
      rw [e] at kk
      exact kk H locs Ls hr ho hl hln hS
  · cases hx

theorem sk_ifCond_gt {g : Gx} {mn : Nat} {p : Program} {l : Launch} {e : Env} {R : Room} {s : State} {m : MethodId} {args : Array Value} {below : List Frame} {meth : Method} {c : Code} {Q : State → Prop} {T0 S0 pc nx_ pc2 : Nat} {tt : List Nat} {q : Option (List Bool)} {ls ls2 : List (Option TV)} {st st2 : List TV} {h h2 : Hp} {o : Int} (X : Cx g mn p R s m args meth c) (hdec : decode (byt mn) pc = .ok (.ifCond .gt o, lenI (.ifCond .gt o))) (ht : tgt1 pc (.ifCond .gt o, pc + lenI (.ifCond .gt o), tt, q) o = true) (hx : ex (callT mn) mn (.ifCond .gt o, pc + lenI (.ifCond .gt o), tt, q) ls st h = some (Sum.inl (pc2, ls2, st2, h2))) (kk : StepG g mn p l e R s m args below meth c Q T0 S0 pc2 ls2 st2 h2) : StepG g mn p l e R s m args below meth c Q T0 S0 pc ls st h := by
  intro H locs Ls hr ho hl hln hS
  have hF := X.F
  obtain ⟨hx0, hb, hml, hown, hts, hBs, hini, hfr, hlo⟩ := id X
  simp only [ex] at hx
  split at hx
  · rename_i x st3
    obtain ⟨e1, e2, e3, e4⟩ := go_inj hx
    subst e1 e2 e3 e4
    obtain ⟨ox, ho⟩ := ok1 ho
    have oy := in32_0
    refine lv_if_gt hx0 hb hdec (tgt1_of ht) (fun z => ?_) (fun z => ?_)
    · skip
      have z2 : 0 < x := (o32_lt oy ox).mp (by rw [o32_0]; exact z)
      have e : (if cnd .gt x 0 = true then tg1 (.ifCond .gt o, pc + lenI (.ifCond .gt o), tt, q) else pc + lenI (.ifCond .gt o)) = tg1 (.ifCond .gt o, pc + lenI (.ifCond .gt o), tt, q) := by
        simp [cnd]; omega
      rw [e] at kk
      exact kk H locs Ls hr ho hl hln hS
    · skip
      have z2 : ¬ (0 < x) := fun w => z (by have w2 := (o32_lt oy ox).mpr w; rw [o32_0] at w2; exact w2)
      have e : (if cnd .gt x 0 = true then tg1 (.ifCond .gt o, pc + lenI (.ifCond .gt o), tt, q) else pc + lenI (.ifCond .gt o)) = pc + lenI (.ifCond .gt o) := by
        simp [cnd]; omega
      rw [e] at kk
      exact kk H locs Ls hr ho hl hln hS
  · cases hx

theorem sk_if_icmp_le {g : Gx} {mn : Nat} {p : Program} {l : Launch} {e : Env} {R : Room} {s : State} {m : MethodId} {args : Array Value} {below : List Frame} {meth : Method} {c : Code} {Q : State → Prop} {T0 S0 pc nx_ pc2 : Nat} {tt : List Nat} {q : Option (List Bool)} {ls ls2 : List (Option TV)} {st st2 : List TV} {h h2 : Hp} {o : Int} (X : Cx g mn p R s m args meth c) (hdec : decode (byt mn) pc = .ok (.if_icmp .le o, lenI (.if_icmp .le o))) (ht : tgt1 pc (.if_icmp .le o, pc + lenI (.if_icmp .le o), tt, q) o = true) (hx : ex (callT mn) mn (.if_icmp .le o, pc + lenI (.if_icmp .le o), tt, q) ls st h = some (Sum.inl (pc2, ls2, st2, h2))) (kk : StepG g mn p l e R s m args below meth c Q T0 S0 pc2 ls2 st2 h2) : StepG g mn p l e R s m args below meth c Q T0 S0 pc ls st h := by
  intro H locs Ls hr ho hl hln hS
  have hF := X.F
  obtain ⟨hx0, hb, hml, hown, hts, hBs, hini, hfr, hlo⟩ := id X
  simp only [ex] at hx
  split at hx
  · rename_i y x st3
    obtain ⟨e1, e2, e3, e4⟩ := go_inj hx
    subst e1 e2 e3 e4
    obtain ⟨oy, ho⟩ := ok1 ho
    obtain ⟨ox, ho⟩ := ok1 ho
    refine lv_icmp_le hx0 hb hdec (tgt1_of ht) (fun z => ?_) (fun z => ?_)
    · skip
      have z2 : x ≤ y := (o32_le ox oy).mp (z)
      have e : (if cnd .le x y = true then tg1 (.if_icmp .le o, pc + lenI (.if_icmp .le o), tt, q) else pc + lenI (.if_icmp .le o)) = tg1 (.if_icmp .le o, pc + lenI (.if_icmp .le o), tt, q) := by
        simp [cnd]; omega
      rw [e] at kk
      exact kk H locs Ls hr ho hl hln hS
    · skip
      have z2 : ¬ (x ≤ y) := fun w => z ((o32_le ox oy).mpr w)
      have e : (if cnd .le x y = true then tg1 (.if_icmp .le o, pc + lenI (.if_icmp .le o), tt, q) else pc + lenI (.if_icmp .le o)) = pc + lenI (.if_icmp .le o) := by
        simp [cnd]; omega
      rw [e] at kk
      exact kk H locs Ls hr ho hl hln hS
  · cases hx

theorem sk_ifCond_le {g : Gx} {mn : Nat} {p : Program} {l : Launch} {e : Env} {R : Room} {s : State} {m : MethodId} {args : Array Value} {below : List Frame} {meth : Method} {c : Code} {Q : State → Prop} {T0 S0 pc nx_ pc2 : Nat} {tt : List Nat} {q : Option (List Bool)} {ls ls2 : List (Option TV)} {st st2 : List TV} {h h2 : Hp} {o : Int} (X : Cx g mn p R s m args meth c) (hdec : decode (byt mn) pc = .ok (.ifCond .le o, lenI (.ifCond .le o))) (ht : tgt1 pc (.ifCond .le o, pc + lenI (.ifCond .le o), tt, q) o = true) (hx : ex (callT mn) mn (.ifCond .le o, pc + lenI (.ifCond .le o), tt, q) ls st h = some (Sum.inl (pc2, ls2, st2, h2))) (kk : StepG g mn p l e R s m args below meth c Q T0 S0 pc2 ls2 st2 h2) : StepG g mn p l e R s m args below meth c Q T0 S0 pc ls st h := by
  intro H locs Ls hr ho hl hln hS
  have hF := X.F
  obtain ⟨hx0, hb, hml, hown, hts, hBs, hini, hfr, hlo⟩ := id X
  simp only [ex] at hx
  split at hx
  · rename_i x st3
    obtain ⟨e1, e2, e3, e4⟩ := go_inj hx
    subst e1 e2 e3 e4
    obtain ⟨ox, ho⟩ := ok1 ho
    have oy := in32_0
    refine lv_if_le hx0 hb hdec (tgt1_of ht) (fun z => ?_) (fun z => ?_)
    · skip
      have z2 : x ≤ 0 := (o32_le ox oy).mp (by rw [o32_0]; exact z)
      have e : (if cnd .le x 0 = true then tg1 (.ifCond .le o, pc + lenI (.ifCond .le o), tt, q) else pc + lenI (.ifCond .le o)) = tg1 (.ifCond .le o, pc + lenI (.ifCond .le o), tt, q) := by
        simp [cnd]; omega
      rw [e] at kk
      exact kk H locs Ls hr ho hl hln hS
    · skip
      have z2 : ¬ (x ≤ 0) := fun w => z (by have w2 := (o32_le ox oy).mpr w; rw [o32_0] at w2; exact w2)
      have e : (if cnd .le x 0 = true then tg1 (.ifCond .le o, pc + lenI (.ifCond .le o), tt, q) else pc + lenI (.ifCond .le o)) = pc + lenI (.ifCond .le o) := by
        simp [cnd]; omega
      rw [e] at kk
      exact kk H locs Ls hr ho hl hln hS
  · cases hx

