/-! The law's walk, given that the tables hold. -/
set_option maxRecDepth 100000 in
theorem ckR_317 : chkR 317 = true := by decide +kernel
theorem byt_317 : code = byt 317 := rfl
theorem mxl_317 : mxl 317 = 4 := by decide +kernel
theorem cnm_317 : cnm (ow 317) = R_law := by decide +kernel
theorem nmD_317 : ¬ (nmD 317).1 = "<init>" := by decide +kernel
theorem rtM_317 : rtM 317 = 4 := by decide +kernel
theorem rtV_317 (g : Gx) : rtV g (rtM 317) 1 = some (.int 1) := by
  rw [rtM_317]
  rfl
theorem rtT_317 : ret = rtT 317 := by decide +kernel
theorem W_post {p : Program} {l : Launch} {e : Env} {R : Room} {s : State} {m : MethodId} {args : Array Value} {below : List Frame} {meth : Method} {c : Code} {H : Heap} {locs : List Loc} {cells slots : Nat} {Q Q' : State → Prop} {g : JFrame} (w : W p l e R s m args below meth c H locs cells slots Q g) (hq : ∀ t, Q t → Q' t) : W p l e R s m args below meth c H locs cells slots Q' g := fun T hT X => by
  obtain ⟨t, a1, b1⟩ := w T hT X
  exact ⟨t, a1, hq t b1⟩
theorem whole_K (A : CKall) {p : Program} {e : Env} {s : State} {m : MethodId} {below : List Frame} {meth : Method} {c : Code} (l : Launch) {b L : Nat} {xs : Nat → Int32} (hL : L ≤ 3072) (C0 : lw_At p s m meth c b L xs) : W p l e room_1 s m #[Value.ref b] below meth c s.heap [] 0 0 (lw_Z below #[Value.ref b] s) (entryFrame m ([Value.ref b] : List Value).toArray 4) := by
  obtain ⟨hx, hb, hr, hml, hown, hts, hX, hbl, hlocks, hgv⟩ := id C0
  obtain ⟨g, hgB, hgS, BS⟩ := start_g hgv hts hX hbl
  obtain ⟨hF, hcall, bT, bS⟩ := law_ok b_text (fun h h' s k => s.kp k.1) (h := hp0 L xs) rfl rfl (s := -100) (L := (L : Int)) (by omega) (by omega) (Scr_0 L xs) (fun h' k => (Str_0 L xs).kp k)
  have hNM : NM = 318 := rfl
  have hcall : CA 317 [vR (-100)] (hp0 L xs) = some (1, hF) := hcall
  rw [CA_at (by omega)] at hcall
  split at hcall
  case isFalse => cases hcall
  rename_i hfit
  obtain ⟨n, hrun⟩ := lim_some hcall
  have hT1 : hF.1.1 ≤ 370 := by unfold mT at bT; omega
  have hS1 : hF.1.2 ≤ 2797200 := by unfold mS at bS; omega
  have hL' : (gS g).2.1 ≤ 3072 := by rw [hgS]; exact hL
  have hargs : ([vR (-100)].map (cv g)).toArray = #[Value.ref b] := by
    show #[cvR g (-100)] = _
    have : cvR g (-100) = .ref (gS g).1 := rfl
    rw [this, hgS]
  have X : Cx g 317 p room_1 s m #[Value.ref b] meth c := ⟨hx, hb.trans byt_317, hml.trans mxl_317.symm, by rw [cnm_317]; exact hown, fun w hw => hts w (List.mem_filter.mp hw).1, BS, fun h => absurd h nmD_317, by decide +kernel, by decide +kernel⟩
  have W0 := run_ok (T0 := 0) (S0 := 0) (below := below) (e := e) X (A.1 317) (by omega) (Kn_all A (l := l) hL' 317 (Nat.le_refl _)) hL' (by rw [hgB, Nat.add_zero]) (r := 1) (hF := hF) ⟨by show hF.1.1 - 0 ≤ 600000; omega, by show hF.1.2 - 0 ≤ 7302250; omega⟩ (ret_met X (hr.trans rtT_317) hlocks ckR_317 (A.1 317)) n 0 (pad (mxl 317) (ini [vR (-100)])) [] (hp0 L xs) hrun ⟨Nat.le_refl _, Nat.le_refl _⟩
  have hrel : RelH g (hp0 L xs) s.heap := ⟨fun k q h => by
    have : (wsO g (hp0 L xs))[k]? = some q := h
    simp [wsO, hp0] at this, okH_0 hgS⟩
  have W1 := W0 s.heap [] _ hrel (fun v hv => by cases hv) (lvK_entry BS.2.2.2.2.2.2.2.2.2 hfit (fun v hv => by
    rcases List.mem_cons.mp hv with h | h
    · rw [h]; trivial
    · cases h)) (pad_len _ _ hfit) va_S.rf
  have W2 : W p l e room_1 s m #[Value.ref b] below meth c s.heap [] 0 0 (MQ below (QcG g (rtM 317) 1 hF) #[Value.ref b] s (hF.1.1 - 0) (hF.1.2 - 0) (AB g)) (entryFrame m ([Value.ref b] : List Value).toArray 4) := by
    have ef : entryFrame m ([Value.ref b] : List Value).toArray 4 = F0 m 0 ((lg_sl ([vR (-100)].map (cv g)) ++ List.replicate (mxl 317 - (lg_sl ([vR (-100)].map (cv g))).length) Slot.unset).toArray) (([] : List TV).map (cv g)) := by
      rw [← hargs, mxl_317]
      exact lg_entry_eq m _ 4
    rw [ef]
    exact W1
  refine W_post W2 (fun t ht => ?_)
  obtain ⟨o, h1, h2, ⟨h3, -⟩, Ls, ⟨h4, h5, h6⟩, h7⟩ := ht
  refine ⟨o, h1, h2, by rw [h3, rtV_317], h4, h5, h6.weaken (fun y hy hlt => ?_) (by omega) (by omega)⟩
  have : gB g ≤ y.base := h7 y hy
  rw [hgB] at this
  exact absurd hlt (Nat.not_lt.mpr this)
