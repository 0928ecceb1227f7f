/-! Calls as steps; all steps together; the contract of every call. Printed by wip/whole/gen/st3.py. -/
set_option maxRecDepth 100000 in
theorem nestAll : lw_tbl.all (fun w => match w with
  | .methodLinkNest _ _ x _ => decide (x.cls ≠ "java/lang/Math")
  | _ => true) = true := by decide +kernel
theorem nestMath (o : String) (i : Nat) {y : MethodName} (hy : y.cls = "java/lang/Math") : Jvm.Cond.methodLinkNest o i y "LadderSky" ∉ lw_tbl := fun h => by
  have h1 := List.all_eq_true.mp nestAll _ h
  simp [hy] at h1
theorem ma_itm32 {x y : Int} (hx : in32 x) (hy : in32 y) : (if Int32.ofInt y < Int32.ofInt x then Int32.ofInt y else Int32.ofInt x) = Int32.ofInt (if y < x then y else x) := by
  by_cases q : y < x
  · rw [if_pos ((o32_lt hy hx).mpr q), if_pos q]
  · rw [if_neg (fun z => q ((o32_lt hy hx).mp z)), if_neg q]
theorem ma_itm64 {x y : Int} (hx : in64 x) (hy : in64 y) : (if Int64.ofInt y < Int64.ofInt x then Int64.ofInt y else Int64.ofInt x) = Int64.ofInt (if y < x then y else x) := by
  by_cases q : y < x
  · rw [if_pos ((o64_lt hy hx).mpr q), if_pos q]
  · rw [if_neg (fun z => q ((o64_lt hy hx).mp z)), if_neg q]
theorem ma_itx64 {x y : Int} (hx : in64 x) (hy : in64 y) : (if Int64.ofInt y < Int64.ofInt x then Int64.ofInt x else Int64.ofInt y) = Int64.ofInt (if x < y then y else x) := by
  by_cases q : y < x
  · rw [if_pos ((o64_lt hy hx).mpr q), if_neg (by omega)]
  · rw [if_neg (fun z => q ((o64_lt hy hx).mp z))]
    by_cases q2 : x < y
    · rw [if_pos q2]
    · rw [if_neg q2]; congr 1; omega
theorem two_of : ∀ (l : List TV), l.length = 2 → ∃ v w, l = [v, w]
  | [], h => by simp at h
  | [_], h => by simp at h
  | [v, w], _ => ⟨v, w, rfl⟩
  | _ :: _ :: _ :: _, h => by simp at h
theorem popn_spec : ∀ (n : Nat) (acc st as rest : List TV), popn n acc st = some (as, rest) → ∃ t, st = t ++ rest ∧ as = t.reverse ++ acc ∧ t.length = n
  | 0, acc, st, as, rest, h => by
    simp only [popn, Option.some.injEq, Prod.mk.injEq] at h
    exact ⟨[], by rw [h.2]; rfl, by rw [h.1]; rfl, rfl⟩
  | n + 1, acc, [], as, rest, h => by simp [popn] at h
  | n + 1, acc, v :: st, as, rest, h => by
    obtain ⟨t, h1, h2, h3⟩ := popn_spec n (v :: acc) st as rest h
    exact ⟨v :: t, by rw [h1]; rfl, by rw [h2]; simp, by simp [h3]⟩
theorem popn_of {n : Nat} {st as rest : List TV} (h : popn n [] st = some (as, rest)) : st = as.reverse ++ rest ∧ as.length = n := by
  obtain ⟨t, h1, h2, h3⟩ := popn_spec n [] st as rest h
  rw [List.append_nil] at h2
  subst h2
  exact ⟨by rw [List.reverse_reverse]; exact h1, by rw [List.length_reverse]; exact h3⟩
theorem map_rev {g : Gx} (as rest : List TV) : (as.reverse ++ rest).map (cv g) = (as.map (cv g)).reverse ++ rest.map (cv g) := by rw [List.map_append, List.map_reverse]
theorem psh_rtV {g : Gx} (rt : Nat) (r : Int) (rest : List TV) : (psh rt r rest).map (cv g) = (rtV g rt r).toList ++ rest.map (cv g) := by
  unfold psh
  split
  · rfl
  · rfl
  · rfl
  · rename_i h0 h2 h3
    unfold rtV rtTV
    rw [if_neg h0, if_neg h2, if_neg h3]
    rfl
theorem psh_ok {rt : Nat} {r : Int} {rest : List TV} (h1 : okv (rtTV rt r)) (h2 : ∀ v ∈ rest, okv v) : ∀ v ∈ psh rt r rest, okv v := by
  unfold psh
  split
  · exact h2
  · exact okc h1 h2
  · exact okc h1 h2
  · rename_i h0 h2' h3
    refine okc ?_ h2
    unfold rtTV at h1
    rw [if_neg h2', if_neg h3] at h1
    exact h1
theorem callT_some {mn cal : Nat} {as : List TV} {h : Hp} {x : Int × Hp} (hlt : cal < mn) (hNM : mn ≤ NM) (h1 : callT mn cal as h = some x) : CA cal as h = some x := by rw [← callT_CA hlt hNM]; exact h1
theorem ow12 {cal : Nat} (h : ow cal = 12) (hc : cal < NM) : cal = 15 ∨ cal = 16 ∨ cal = 92 ∨ cal = 118 := by
  have : ∀ k, k < 318 → ow k = 12 → k = 15 ∨ k = 16 ∨ k = 92 ∨ k = 118 := by decide +kernel
  exact this cal hc h
theorem RL_il {mn pc nx_ : Nat} {tt : List Nat} {q : Option (List Bool)} {i : Fin 4} {ls : List (Option TV)} {st : List TV} {h : Hp} (hc : cd mn pc = some (.iload_n i, nx_, tt, q)) (hm : msk q ls = ls) (hg : ∀ v, gl ls i.val ≠ some (vI v)) : RL mn pc ls st h = none := by
  refine RL_end (r := none) hc hm ?_
  simp only [ex]
  rfl
theorem RL_ll {mn pc nx_ : Nat} {tt : List Nat} {q : Option (List Bool)} {i : Fin 4} {ls : List (Option TV)} {st : List TV} {h : Hp} (hc : cd mn pc = some (.lload_n i, nx_, tt, q)) (hm : msk q ls = ls) (hg : ∀ v, gl ls i.val ≠ some (vL v)) : RL mn pc ls st h = none := by
  refine RL_end (r := none) hc hm ?_
  simp only [ex]
  rfl
set_option maxRecDepth 100000 in
theorem ma_args15 {as : List TV} {h : Hp} {x : Int × Hp} (hl : as.length = 2) (hx : CA 15 as h = some x) : ∃ a b, as = [vI a, vI b] := by
  obtain ⟨v, w, rfl⟩ := two_of as hl
  rw [CA_at (by decide +kernel)] at hx
  split at hx
  case isFalse => cases hx
  rename_i hlen
  rcases v with a | a | a <;> rcases w with b | b | b
  · exact ⟨a, b, rfl⟩
  · exact absurd hlen (show ¬ (3 ≤ 2) by decide)
  · have e : RL 15 0 (pad (mxl 15) (ini [Sum.inl a, Sum.inr (Sum.inr b)])) [] h = none := x_iload_n rfl rfl rfl (RL_il rfl rfl (fun v z => by cases z))
    rw [e] at hx; cases hx
  · exact absurd hlen (show ¬ (3 ≤ 2) by decide)
  · exact absurd hlen (show ¬ (4 ≤ 2) by decide)
  · exact absurd hlen (show ¬ (3 ≤ 2) by decide)
  · have e : RL 15 0 (pad (mxl 15) (ini [Sum.inr (Sum.inr a), Sum.inl b])) [] h = none := RL_il rfl rfl (fun v z => by cases z)
    rw [e] at hx; cases hx
  · exact absurd hlen (show ¬ (3 ≤ 2) by decide)
  · have e : RL 15 0 (pad (mxl 15) (ini [Sum.inr (Sum.inr a), Sum.inr (Sum.inr b)])) [] h = none := RL_il rfl rfl (fun v z => by cases z)
    rw [e] at hx; cases hx

set_option maxRecDepth 100000 in
theorem ma_args16 {as : List TV} {h : Hp} {x : Int × Hp} (hl : as.length = 2) (hx : CA 16 as h = some x) : ∃ a b, as = [vI a, vI b] := by
  obtain ⟨v, w, rfl⟩ := two_of as hl
  rw [CA_at (by decide +kernel)] at hx
  split at hx
  case isFalse => cases hx
  rename_i hlen
  rcases v with a | a | a <;> rcases w with b | b | b
  · exact ⟨a, b, rfl⟩
  · exact absurd hlen (show ¬ (3 ≤ 2) by decide)
  · have e : RL 16 0 (pad (mxl 16) (ini [Sum.inl a, Sum.inr (Sum.inr b)])) [] h = none := x_iload_n rfl rfl rfl (RL_il rfl rfl (fun v z => by cases z))
    rw [e] at hx; cases hx
  · exact absurd hlen (show ¬ (3 ≤ 2) by decide)
  · exact absurd hlen (show ¬ (4 ≤ 2) by decide)
  · exact absurd hlen (show ¬ (3 ≤ 2) by decide)
  · have e : RL 16 0 (pad (mxl 16) (ini [Sum.inr (Sum.inr a), Sum.inl b])) [] h = none := RL_il rfl rfl (fun v z => by cases z)
    rw [e] at hx; cases hx
  · exact absurd hlen (show ¬ (3 ≤ 2) by decide)
  · have e : RL 16 0 (pad (mxl 16) (ini [Sum.inr (Sum.inr a), Sum.inr (Sum.inr b)])) [] h = none := RL_il rfl rfl (fun v z => by cases z)
    rw [e] at hx; cases hx

set_option maxRecDepth 100000 in
theorem ma_args92 {as : List TV} {h : Hp} {x : Int × Hp} (hl : as.length = 2) (hx : CA 92 as h = some x) : ∃ a b, as = [vL a, vL b] := by
  obtain ⟨v, w, rfl⟩ := two_of as hl
  rw [CA_at (by decide +kernel)] at hx
  split at hx
  case isFalse => cases hx
  rename_i hlen
  rcases v with a | a | a <;> rcases w with b | b | b
  · have e : RL 92 0 (pad (mxl 92) (ini [Sum.inl a, Sum.inl b])) [] h = none := RL_ll rfl rfl (fun v z => by cases z)
    rw [e] at hx; cases hx
  · have e : RL 92 0 (pad (mxl 92) (ini [Sum.inl a, Sum.inr (Sum.inl b)])) [] h = none := RL_ll rfl rfl (fun v z => by cases z)
    rw [e] at hx; cases hx
  · have e : RL 92 0 (pad (mxl 92) (ini [Sum.inl a, Sum.inr (Sum.inr b)])) [] h = none := RL_ll rfl rfl (fun v z => by cases z)
    rw [e] at hx; cases hx
  · have e : RL 92 0 (pad (mxl 92) (ini [Sum.inr (Sum.inl a), Sum.inl b])) [] h = none := x_lload_n rfl rfl rfl (RL_ll rfl rfl (fun v z => by cases z))
    rw [e] at hx; cases hx
  · exact ⟨a, b, rfl⟩
  · have e : RL 92 0 (pad (mxl 92) (ini [Sum.inr (Sum.inl a), Sum.inr (Sum.inr b)])) [] h = none := x_lload_n rfl rfl rfl (RL_ll rfl rfl (fun v z => by cases z))
    rw [e] at hx; cases hx
  · have e : RL 92 0 (pad (mxl 92) (ini [Sum.inr (Sum.inr a), Sum.inl b])) [] h = none := RL_ll rfl rfl (fun v z => by cases z)
    rw [e] at hx; cases hx
  · have e : RL 92 0 (pad (mxl 92) (ini [Sum.inr (Sum.inr a), Sum.inr (Sum.inl b)])) [] h = none := RL_ll rfl rfl (fun v z => by cases z)
    rw [e] at hx; cases hx
  · have e : RL 92 0 (pad (mxl 92) (ini [Sum.inr (Sum.inr a), Sum.inr (Sum.inr b)])) [] h = none := RL_ll rfl rfl (fun v z => by cases z)
    rw [e] at hx; cases hx

set_option maxRecDepth 100000 in
theorem ma_args118 {as : List TV} {h : Hp} {x : Int × Hp} (hl : as.length = 2) (hx : CA 118 as h = some x) : ∃ a b, as = [vL a, vL b] := by
  obtain ⟨v, w, rfl⟩ := two_of as hl
  rw [CA_at (by decide +kernel)] at hx
  split at hx
  case isFalse => cases hx
  rename_i hlen
  rcases v with a | a | a <;> rcases w with b | b | b
  · have e : RL 118 0 (pad (mxl 118) (ini [Sum.inl a, Sum.inl b])) [] h = none := RL_ll rfl rfl (fun v z => by cases z)
    rw [e] at hx; cases hx
  · have e : RL 118 0 (pad (mxl 118) (ini [Sum.inl a, Sum.inr (Sum.inl b)])) [] h = none := RL_ll rfl rfl (fun v z => by cases z)
    rw [e] at hx; cases hx
  · have e : RL 118 0 (pad (mxl 118) (ini [Sum.inl a, Sum.inr (Sum.inr b)])) [] h = none := RL_ll rfl rfl (fun v z => by cases z)
    rw [e] at hx; cases hx
  · have e : RL 118 0 (pad (mxl 118) (ini [Sum.inr (Sum.inl a), Sum.inl b])) [] h = none := x_lload_n rfl rfl rfl (RL_ll rfl rfl (fun v z => by cases z))
    rw [e] at hx; cases hx
  · exact ⟨a, b, rfl⟩
  · have e : RL 118 0 (pad (mxl 118) (ini [Sum.inr (Sum.inl a), Sum.inr (Sum.inr b)])) [] h = none := x_lload_n rfl rfl rfl (RL_ll rfl rfl (fun v z => by cases z))
    rw [e] at hx; cases hx
  · have e : RL 118 0 (pad (mxl 118) (ini [Sum.inr (Sum.inr a), Sum.inl b])) [] h = none := RL_ll rfl rfl (fun v z => by cases z)
    rw [e] at hx; cases hx
  · have e : RL 118 0 (pad (mxl 118) (ini [Sum.inr (Sum.inr a), Sum.inr (Sum.inl b)])) [] h = none := RL_ll rfl rfl (fun v z => by cases z)
    rw [e] at hx; cases hx
  · have e : RL 118 0 (pad (mxl 118) (ini [Sum.inr (Sum.inr a), Sum.inr (Sum.inr b)])) [] h = none := RL_ll rfl rfl (fun v z => by cases z)
    rw [e] at hx; cases hx

theorem so_ma15 {g : Gx} {mn : Nat} {p : Program} {l : Launch} {e : Env} {R : Room} {s : State} {m : MethodId} {args : Array Value} {below : List Frame} {meth : Method} {c : Code} {Q : State → Prop} {H : Heap} {locs : List Loc} {cells slots pc : Nat} {Ls : Array Slot} {h : Hp} (X : Cx g mn p R s m args meth c) {i : Nat} (hdec : decode (byt mn) pc = .ok (.invokestatic i, 3)) (hlnk : lnk (ow mn) i 15 = true) {as rs : List TV} {x : Int × Hp} (hl2 : as.length = 2) (hcall : CA 15 as h = some x) (ho : ∀ v ∈ as, okv v) (hcs : csum rs ≤ 8) (hls : Ls.size = mxl mn) (hc1 : cells ≤ R.cells) (hc2 : slots ≤ R.slots)
    (kk : x.2 = h → okv (vI x.1) → W p l e R s m args below meth c H locs cells slots Q (F0 m (pc + 3) Ls (cv g (vI x.1) :: rs.map (cv g)))) : W p l e R s m args below meth c H locs cells slots Q (F0 m pc Ls ((as.map (cv g)).reverse ++ rs.map (cv g))) := by
  obtain ⟨hx0, hb, hml, hown, hts, hBs, hini, hfr, hlo⟩ := id X
  obtain ⟨x0, y0, rfl⟩ := ma_args15 hl2 hcall
  obtain ⟨ox, ho⟩ := ok1 ho
  obtain ⟨oy, -⟩ := ok1 ho
  have hv : x = (if y0 < x0 then y0 else x0, h) := by
    have he : CA 15 [vI x0, vI y0] h = some (if y0 < x0 then y0 else x0, h) := (E_Ma_min_II x0 y0 h).trans (by by_cases q1 : x0 < y0 <;> by_cases q2 : y0 < x0 <;> simp [q1, q2] <;> omega)
    rw [he] at hcall
    exact (Option.some.inj hcall).symm
  have hi3 := maW1
  simp only [Bool.and_eq_true] at hi3
  have hw := maW2
  simp only [Bool.and_eq_true] at hw
  obtain ⟨⟨w1, w2⟩, w4⟩ := hw
  have w4 := of_decide_eq_true w4
  have hlk : Jvm.Cond.methodLink (cnm (ow mn)) i (ynm 15) ∈ tblG := by
    unfold lnk at hlnk
    rw [Bool.or_eq_true] at hlnk
    rcases hlnk with z | z
    · exact (wAt_mem z).1
    · exact absurd (wNs_mem z) (nestMath _ _ (by rw [w4]; rfl))
  rw [w4] at hlk
  have hsum := csum_cv (g := g) hBs.2.2.2.2.2.2.2.2.2 rs
  have fin := kk (by rw [hv]) (by rw [hv]; show in32 _; split <;> assumption)
  rw [hv] at fin
  show W p l e R s m args below meth c H locs cells slots Q (F0 m pc Ls (.int (Int32.ofInt y0) :: .int (Int32.ofInt x0) :: rs.map (cv g)))
  refine va_mmin hx0 hb (by rw [hml]; exact hls.symm) hown (hts _ hlk) (hts _ (wAt_mem w1).1) (hts _ (wAt_mem hi3.1.2).1) (hts _ (wAt_mem w2).1) (by omega) (by omega) hc1 hc2 hdec ?_
  rw [ma_itm32 ox oy]
  exact fin
theorem so_ma16 {g : Gx} {mn : Nat} {p : Program} {l : Launch} {e : Env} {R : Room} {s : State} {m : MethodId} {args : Array Value} {below : List Frame} {meth : Method} {c : Code} {Q : State → Prop} {H : Heap} {locs : List Loc} {cells slots pc : Nat} {Ls : Array Slot} {h : Hp} (X : Cx g mn p R s m args meth c) {i : Nat} (hdec : decode (byt mn) pc = .ok (.invokestatic i, 3)) (hlnk : lnk (ow mn) i 16 = true) {as rs : List TV} {x : Int × Hp} (hl2 : as.length = 2) (hcall : CA 16 as h = some x) (ho : ∀ v ∈ as, okv v) (hcs : csum rs ≤ 8) (hls : Ls.size = mxl mn) (hc1 : cells ≤ R.cells) (hc2 : slots ≤ R.slots)
    (kk : x.2 = h → okv (vI x.1) → W p l e R s m args below meth c H locs cells slots Q (F0 m (pc + 3) Ls (cv g (vI x.1) :: rs.map (cv g)))) : W p l e R s m args below meth c H locs cells slots Q (F0 m pc Ls ((as.map (cv g)).reverse ++ rs.map (cv g))) := by
  obtain ⟨hx0, hb, hml, hown, hts, hBs, hini, hfr, hlo⟩ := id X
  obtain ⟨x0, y0, rfl⟩ := ma_args16 hl2 hcall
  obtain ⟨ox, ho⟩ := ok1 ho
  obtain ⟨oy, -⟩ := ok1 ho
  have hv : x = (if x0 < y0 then y0 else x0, h) := by
    have he : CA 16 [vI x0, vI y0] h = some (if x0 < y0 then y0 else x0, h) := (E_Ma_max_II x0 y0 h).trans (by by_cases q1 : x0 < y0 <;> by_cases q2 : y0 < x0 <;> simp [q1, q2] <;> omega)
    rw [he] at hcall
    exact (Option.some.inj hcall).symm
  have hi3 := maW1
  simp only [Bool.and_eq_true] at hi3
  have hw := maW1
  simp only [Bool.and_eq_true] at hw
  obtain ⟨⟨⟨w1, w2⟩, w3⟩, w4⟩ := hw
  have w4 := of_decide_eq_true w4
  have hlk : Jvm.Cond.methodLink (cnm (ow mn)) i (ynm 16) ∈ tblG := by
    unfold lnk at hlnk
    rw [Bool.or_eq_true] at hlnk
    rcases hlnk with z | z
    · exact (wAt_mem z).1
    · exact absurd (wNs_mem z) (nestMath _ _ (by rw [w4]; rfl))
  rw [w4] at hlk
  have hsum := csum_cv (g := g) hBs.2.2.2.2.2.2.2.2.2 rs
  have fin := kk (by rw [hv]) (by rw [hv]; show in32 _; split <;> assumption)
  rw [hv] at fin
  show W p l e R s m args below meth c H locs cells slots Q (F0 m pc Ls (.int (Int32.ofInt y0) :: .int (Int32.ofInt x0) :: rs.map (cv g)))
  refine va_mmax hx0 hb (by rw [hml]; exact hls.symm) hown (hts _ hlk) (hts _ (wAt_mem w1).1) (hts _ (wAt_mem hi3.1.2).1) (hts _ (wAt_mem w2).1) (by omega) (by omega) hc1 hc2 hdec ?_
  rw [ma_ite32 ox oy]
  exact fin
theorem so_ma92 {g : Gx} {mn : Nat} {p : Program} {l : Launch} {e : Env} {R : Room} {s : State} {m : MethodId} {args : Array Value} {below : List Frame} {meth : Method} {c : Code} {Q : State → Prop} {H : Heap} {locs : List Loc} {cells slots pc : Nat} {Ls : Array Slot} {h : Hp} (X : Cx g mn p R s m args meth c) {i : Nat} (hdec : decode (byt mn) pc = .ok (.invokestatic i, 3)) (hlnk : lnk (ow mn) i 92 = true) {as rs : List TV} {x : Int × Hp} (hl2 : as.length = 2) (hcall : CA 92 as h = some x) (ho : ∀ v ∈ as, okv v) (hcs : csum rs ≤ 8) (hls : Ls.size = mxl mn) (hc1 : cells ≤ R.cells) (hc2 : slots ≤ R.slots)
    (kk : x.2 = h → okv (vL x.1) → W p l e R s m args below meth c H locs cells slots Q (F0 m (pc + 3) Ls (cv g (vL x.1) :: rs.map (cv g)))) : W p l e R s m args below meth c H locs cells slots Q (F0 m pc Ls ((as.map (cv g)).reverse ++ rs.map (cv g))) := by
  obtain ⟨hx0, hb, hml, hown, hts, hBs, hini, hfr, hlo⟩ := id X
  obtain ⟨x0, y0, rfl⟩ := ma_args92 hl2 hcall
  obtain ⟨ox, ho⟩ := ok1 ho
  obtain ⟨oy, -⟩ := ok1 ho
  have hv : x = (if y0 < x0 then y0 else x0, h) := by
    have he : CA 92 [vL x0, vL y0] h = some (if y0 < x0 then y0 else x0, h) := (E_Ma_min_JJ x0 y0 h).trans (by by_cases q1 : x0 < y0 <;> by_cases q2 : y0 < x0 <;> simp [q1, q2] <;> omega)
    rw [he] at hcall
    exact (Option.some.inj hcall).symm
  have hi3 := maW1
  simp only [Bool.and_eq_true] at hi3
  have hw := maW4
  simp only [Bool.and_eq_true] at hw
  obtain ⟨⟨w1, w2⟩, w4⟩ := hw
  have w4 := of_decide_eq_true w4
  have hlk : Jvm.Cond.methodLink (cnm (ow mn)) i (ynm 92) ∈ tblG := by
    unfold lnk at hlnk
    rw [Bool.or_eq_true] at hlnk
    rcases hlnk with z | z
    · exact (wAt_mem z).1
    · exact absurd (wNs_mem z) (nestMath _ _ (by rw [w4]; rfl))
  rw [w4] at hlk
  have hsum := csum_cv (g := g) hBs.2.2.2.2.2.2.2.2.2 rs
  have fin := kk (by rw [hv]) (by rw [hv]; show in64 _; split <;> assumption)
  rw [hv] at fin
  show W p l e R s m args below meth c H locs cells slots Q (F0 m pc Ls (.long (Int64.ofInt y0) :: .long (Int64.ofInt x0) :: rs.map (cv g)))
  refine va_mmin_long hx0 hb (by rw [hml]; exact hls.symm) hown (hts _ hlk) (hts _ (wAt_mem w1).1) (hts _ (wAt_mem hi3.1.2).1) (hts _ (wAt_mem w2).1) (by omega) (by omega) hc1 hc2 hdec ?_
  rw [ma_itm64 ox oy]
  exact fin
theorem so_ma118 {g : Gx} {mn : Nat} {p : Program} {l : Launch} {e : Env} {R : Room} {s : State} {m : MethodId} {args : Array Value} {below : List Frame} {meth : Method} {c : Code} {Q : State → Prop} {H : Heap} {locs : List Loc} {cells slots pc : Nat} {Ls : Array Slot} {h : Hp} (X : Cx g mn p R s m args meth c) {i : Nat} (hdec : decode (byt mn) pc = .ok (.invokestatic i, 3)) (hlnk : lnk (ow mn) i 118 = true) {as rs : List TV} {x : Int × Hp} (hl2 : as.length = 2) (hcall : CA 118 as h = some x) (ho : ∀ v ∈ as, okv v) (hcs : csum rs ≤ 8) (hls : Ls.size = mxl mn) (hc1 : cells ≤ R.cells) (hc2 : slots ≤ R.slots)
    (kk : x.2 = h → okv (vL x.1) → W p l e R s m args below meth c H locs cells slots Q (F0 m (pc + 3) Ls (cv g (vL x.1) :: rs.map (cv g)))) : W p l e R s m args below meth c H locs cells slots Q (F0 m pc Ls ((as.map (cv g)).reverse ++ rs.map (cv g))) := by
  obtain ⟨hx0, hb, hml, hown, hts, hBs, hini, hfr, hlo⟩ := id X
  obtain ⟨x0, y0, rfl⟩ := ma_args118 hl2 hcall
  obtain ⟨ox, ho⟩ := ok1 ho
  obtain ⟨oy, -⟩ := ok1 ho
  have hv : x = (if x0 < y0 then y0 else x0, h) := by
    have he : CA 118 [vL x0, vL y0] h = some (if x0 < y0 then y0 else x0, h) := (E_Ma_max_JJ x0 y0 h).trans (by by_cases q1 : x0 < y0 <;> by_cases q2 : y0 < x0 <;> simp [q1, q2] <;> omega)
    rw [he] at hcall
    exact (Option.some.inj hcall).symm
  have hi3 := maW1
  simp only [Bool.and_eq_true] at hi3
  have hw := maW3
  simp only [Bool.and_eq_true] at hw
  obtain ⟨⟨w1, w2⟩, w4⟩ := hw
  have w4 := of_decide_eq_true w4
  have hlk : Jvm.Cond.methodLink (cnm (ow mn)) i (ynm 118) ∈ tblG := by
    unfold lnk at hlnk
    rw [Bool.or_eq_true] at hlnk
    rcases hlnk with z | z
    · exact (wAt_mem z).1
    · exact absurd (wNs_mem z) (nestMath _ _ (by rw [w4]; rfl))
  rw [w4] at hlk
  have hsum := csum_cv (g := g) hBs.2.2.2.2.2.2.2.2.2 rs
  have fin := kk (by rw [hv]) (by rw [hv]; show in64 _; split <;> assumption)
  rw [hv] at fin
  show W p l e R s m args below meth c H locs cells slots Q (F0 m pc Ls (.long (Int64.ofInt y0) :: .long (Int64.ofInt x0) :: rs.map (cv g)))
  refine va_mmax_long hx0 hb (by rw [hml]; exact hls.symm) hown (hts _ hlk) (hts _ (wAt_mem w1).1) (hts _ (wAt_mem hi3.1.2).1) (hts _ (wAt_mem w2).1) (by omega) (by omega) hc1 hc2 hdec ?_
  rw [ma_itx64 ox oy]
  exact fin
