/-! Each heap instruction once, over the kit's rows. -/
section SO
variable {g : Gx} {mn : Nat} {p : Program} {l : Launch} {e : Env} {R : Room} {s : State} {m : MethodId} {args : Array Value} {below : List Frame} {meth : Method} {c : Code} {Q : State → Prop} {H : Heap} {locs : List Loc} {cells slots : Nat} {pc : Nat} {Ls : Array Slot} {rest : List Value} {h : Hp}
theorem W.sz {gf : JFrame} (k : H.size ≤ s.heap.size + cells → W p l e R s m args below meth c H locs cells slots Q gf) : W p l e R s m args below meth c H locs cells slots Q gf := fun T hT X => k (by rw [← hT]; exact X.heapSize) T hT X
theorem cvR_pos {a : Int} (h1 : 1 ≤ a) : cvR g a = .ref (gB g + (a.toNat - 1)) := by
  unfold cvR
  rw [if_neg (by omega), if_pos (by omega)]
theorem cvR_str {a : Int} (h1 : -36 ≤ a) (h2 : a ≤ -10) : cvR g a = .ref (gK g (-10 - a).toNat) := by
  unfold cvR
  rw [if_neg (by omega), if_neg (by omega), if_neg (by omega), if_neg (by omega), if_pos h1]
theorem cvR_byt {a : Int} (h1 : -76 ≤ a) (h2 : a ≤ -50) : cvR g a = .ref (gV g (-50 - a).toNat) := by
  unfold cvR
  rw [if_neg (by omega), if_neg (by omega), if_neg (by omega), if_neg (by omega), if_neg (by omega)]
theorem enE_obj {k n : Int} {f : Int → Int} (h2 : k ≤ 12) : enE g k n f = .inr (k.toNat - 1, flds g f 0 (tgs (k.toNat - 1))) := by
  unfold enE; rw [if_pos h2]
theorem enE_arr {k n : Int} {f : Int → Int} (h2 : 13 ≤ k) : enE g k n f = .inl (gA g k, n.toNat, arE g k f) := by
  unfold enE; rw [if_neg (by omega)]
theorem arE_i {k : Int} {f : Int → Int} (h1 : k ≠ 103) (h2 : k < 111) : arE g k f = .inl (fun j => Int32.ofInt (f j)) := by
  unfold arE; rw [if_neg h1, if_neg (by omega)]
theorem arE_l {f : Int → Int} : arE g 103 f = .inr (.inl (fun j => Int64.ofInt (f j))) := rfl
theorem arE_q {k : Int} {f : Int → Int} (h2 : 111 ≤ k) : arE g k f = .inr (.inr (.inr (.inr (fun j => rfO g (f j))))) := by
  unfold arE; rw [if_neg (by omega), if_pos h2]
theorem okv_fvT {t : Nat} {x : Int} (h : rng t x) : okv (fvT t x) := by
  unfold rng at h
  unfold fvT
  by_cases e1 : t = 1
  · rw [if_pos e1] at h ⊢; exact h
  · rw [if_neg e1] at h ⊢
    by_cases e2 : t = 2
    · rw [if_pos e2]; trivial
    · rw [if_neg e2] at h ⊢
      by_cases e3 : t = 3
      · rw [if_pos e3] at h
        show in32 x
        unfold in32; omega
      · rw [if_neg e3] at h; exact h
theorem fchk_obj {o i : Nat} {c0 k : Int} {t : Nat} (hf : fchk o i (c0, k, t) = true) (hc : c0 ≠ 50) : (1 ≤ c0 ∧ c0 ≤ 12 ∧ 0 ≤ k) ∧ (tgs (c0.toNat - 1))[k.toNat]? = some t ∧ Jvm.Cond.fieldLink (cnm o) i (cnm (c0.toNat - 1)) (fdT (c0.toNat - 1) k.toNat).1 (fdT (c0.toNat - 1) k.toNat).2.1 ∈ tblG := by
  unfold fchk at hf
  simp only [hc, if_false, Bool.and_eq_true] at hf
  exact ⟨of_decide_eq_true hf.1.1, of_decide_eq_true hf.1.2, (wAt_mem hf.2).1⟩
theorem so_get (X : Cx g mn p R s m args meth c) {i : Nat} (hdec : decode (byt mn) pc = .ok (.getfield i, 3)) {c0 k a : Int} {t : Nat} (hf : fchk (ow mn) i (c0, k, t) = true) (hok : mK h a = c0) (hr : RelH g h H) (hS : va_S (AB g) s.heap H locs)
    (kk : okv (fvT t (mR h a k)) → W p l e R s m args below meth c H locs cells slots Q (F0 m (pc + 3) Ls (cv g (fvT t (mR h a k)) :: rest))) : W p l e R s m args below meth c H locs cells slots Q (F0 m pc Ls (cvR g a :: rest)) := by
  obtain ⟨hx0, hb, hml, hown, hts, hBs, hini, hfr, hlo⟩ := X
  by_cases hc : c0 = 50
  · subst hc
    have hst := hr.2.1
    have ha : -36 ≤ a ∧ a ≤ -10 := by
      rcases Int.lt_or_le a 0 with q | q
      · rcases hst.1 a q with z | ⟨-, z⟩ | ⟨z, -⟩ | ⟨z, -⟩
        · omega
        · exact z
        · omega
        · omega
      · obtain ⟨a1, a2⟩ := hr.2.pos (a := a) (by omega) q
        rcases hr.2.2.1 a a1 a2 with ⟨z1, z2, -⟩ | ⟨-, -, z⟩
        · omega
        · omega
    have hi : (-10 - a).toNat < 27 := by omega
    obtain ⟨q1, q2, q3, q4, q5⟩ := hBs.2.2.2.1 _ hi
    obtain ⟨v0, v1⟩ := hst.2.1 a ha.1 ha.2
    rw [cvR_str ha.1 ha.2]
    unfold fchk at hf
    simp only [if_true, Bool.or_eq_true, Bool.and_eq_true] at hf
    rcases hf with ⟨e0, hw⟩ | ⟨e0, hw⟩
    · obtain ⟨e1, e2⟩ := of_decide_eq_true e0
      subst e1; subst e2
      refine vk_getf hx0 hb q4 hS hown (hts _ (wAt_mem hw).1) (fun _ h9 => h9) hdec ?_
      have e3 : cv g (fvT 2 (mR h a 0)) = .ref (gV g (-10 - a).toNat) := by
        show cvR g (mR h a 0) = _
        rw [v0, cvR_byt (by omega) (by omega)]
        congr 2
        omega
      rw [← e3]
      exact kk trivial
    · obtain ⟨e1, e2⟩ := of_decide_eq_true e0
      subst e1; subst e2
      refine vk_getf hx0 hb q3 hS hown (hts _ (wAt_mem hw).1) (fun _ h9 => h9) hdec ?_
      have e3 : cv g (fvT 0 (mR h a 1)) = .int 0 := by
        show Value.int (Int32.ofInt (mR h a 1)) = _
        rw [v1]; rfl
      rw [← e3]
      refine kk ?_
      show in32 (mR h a 1)
      rw [v1]; exact ⟨by decide, by decide⟩
  · obtain ⟨⟨c1, c2, k1⟩, ht, hw⟩ := fchk_obj hf hc
    obtain ⟨a1, a2⟩ := hr.2.obj hok c1 c2
    have hci : c0.toNat - 1 < 12 := by omega
    have hk := (List.getElem?_eq_some_iff.mp ht).1
    have hcell := hr.2.2.1 a a1 a2
    have hk2 : ((k.toNat : Nat) : Int) = k := by omega
    have hrng : rng t (mR h a k) := by
      rcases hcell with ⟨-, -, -, q⟩ | ⟨-, -, z⟩
      · have := q k.toNat t (by rw [hok]; exact ht)
        rwa [hk2] at this
      · omega
    rw [cvR_pos a1]
    have he := wsO_get (g := g) a1 a2
    rw [hok, enE_obj c2] at he
    refine va_get (D := gD g) (ci := c0.toNat - 1) (v := cv g (fvT t (mR h a k))) (C := cnm (c0.toNat - 1)) (T := uT (c0.toNat - 1)) (N := (tgs (c0.toNat - 1)).length) hx0 hb hts (cl_in hci) hown hBs.1 hr.1 (a.toNat - 1) he (cl_at hci) k.toNat hk (hts _ hw) (fun _ h9 => h9) ?_ hdec (kk (okv_fvT hrng))
    rw [flds_get, ht, Nat.zero_add, hk2]
    rfl
theorem fit_tag {ci k t : Nat} {v : Int} (h : ci < 12) (ht : (tgs ci)[k]? = some t) (hv : rng t v) (hF : t = 2 → cvR g v = .null ∨ ∃ q, cvR g v = .ref q) : narrow (tyT ci k) (cv g (fvT t v)) = cv g (fvT t v) ∧ fits (tyT ci k) (cv g (fvT t v)) = true := by
  have := cl_tg h ht
  generalize tyT ci k = ty at this
  unfold tyOK at this
  split at this
  · exact ⟨rfl, rfl⟩
  · exact ⟨rfl, rfl⟩
  · have e : cv g (fvT 2 v) = cvR g v := rfl
    rw [e]
    rcases hF rfl with q | ⟨x, q⟩ <;> rw [q] <;> exact ⟨rfl, rfl⟩
  · have e : cv g (fvT 2 v) = cvR g v := rfl
    rw [e]
    rcases hF rfl with q | ⟨x, q⟩ <;> rw [q] <;> exact ⟨rfl, rfl⟩
  · have hv2 : v = 0 ∨ v = 1 := hv
    rcases hv2 with q | q <;> subst q
    · show narrow .boolean (.int (Int32.ofInt 0)) = .int (Int32.ofInt 0) ∧ fits .boolean (.int (Int32.ofInt 0)) = true
      exact ⟨by decide, by decide⟩
    · show narrow .boolean (.int (Int32.ofInt 1)) = .int (Int32.ofInt 1) ∧ fits .boolean (.int (Int32.ofInt 1)) = true
      exact ⟨by decide, by decide⟩
  · cases this
theorem cvR_or (hF : gF g = .null ∨ ∃ t, gF g = .ref t) (v : Int) : cvR g v = .null ∨ ∃ q, cvR g v = .ref q := by
  unfold cvR
  split
  · exact Or.inl rfl
  · split
    · exact Or.inr ⟨_, rfl⟩
    · split
      · exact Or.inr ⟨_, rfl⟩
      · split
        · exact hF
        · split <;> exact Or.inr ⟨_, rfl⟩
theorem RelH.putO {a c0 v : Int} {k t : Nat} {H1 : Heap} (hr : RelH g h H) (hok : mK h a = c0) (c1 : 1 ≤ c0) (c2 : c0 ≤ 12) (ht : (tgs (c0.toNat - 1))[k]? = some t) (hv : rng t v) (hP : va_P (gD g) clsO ((wsO g h).set (a.toNat - 1) (gB g + (a.toNat - 1), .inr (c0.toNat - 1, (flds g (mR h a) 0 (tgs (c0.toNat - 1))).set k (cv g (fvT t v))))) H1) : RelH g (mW h a k v) H1 := by
  obtain ⟨a1, a2⟩ := hr.2.obj hok c1 c2
  refine ⟨?_, hr.2.obj_put hok c1 c2 ht hv⟩
  rw [wsO_set (g := g) (h := h) (h' := mW h a k v) (e := .inr (c0.toNat - 1, (flds g (mR h a) 0 (tgs (c0.toNat - 1))).set k (cv g (fvT t v)))) a1 a2 rfl ?_ (fun b hb => ⟨rfl, rfl, funext fun j => by rw [mR_mW, if_neg (fun q => hb q.1)]⟩)]
  · exact hP
  · rw [mK_mW, hok, enE_obj c2, mR_up, flds_set g (mR h a) _ k t v ht]
theorem so_put (X : Cx g mn p R s m args meth c) {i : Nat} (hdec : decode (byt mn) pc = .ok (.putfield i, 3)) {c0 k a v : Int} {t : Nat} (hf : fchk (ow mn) i (c0, k, t) = true) (hc50 : c0 ≤ 12) (hfin : (fdT (c0.toNat - 1) k.toNat).2.2.1 = true → (nmD mn).1 = "<init>" ∧ cnm (c0.toNat - 1) = cnm (ow mn)) (hok : mK h a = c0) (hv : rng t v) (hr : RelH g h H) (hS : va_S (AB g) s.heap H locs)
    (kk : ∀ H1 locs1, RelH g (mW h a k v) H1 → va_S (AB g) s.heap H1 locs1 → W p l e R s m args below meth c H1 locs1 cells slots Q (F0 m (pc + 3) Ls rest)) : W p l e R s m args below meth c H locs cells slots Q (F0 m pc Ls (cv g (fvT t v) :: cvR g a :: rest)) := by
  obtain ⟨hx0, hb, hml, hown, hts, hBs, hini, hfr, hlo⟩ := X
  obtain ⟨⟨c1, c2, k1⟩, ht, hw⟩ := fchk_obj hf (by omega)
  obtain ⟨a1, a2⟩ := hr.2.obj hok c1 c2
  have hci : c0.toNat - 1 < 12 := by omega
  have hk := (List.getElem?_eq_some_iff.mp ht).1
  have hk2 : ((k.toNat : Nat) : Int) = k := by omega
  have he := wsO_get (g := g) a1 a2
  rw [hok, enE_obj c2] at he
  obtain ⟨f1, f2⟩ := fit_tag (g := g) hci ht hv (fun _ => cvR_or hBs.2.2.2.2.2.2.2.2.2 v)
  rw [cvR_pos a1]
  have fin : ∀ (H1 : Heap) (locs1 : List Loc), va_P (gD g) clsO ((wsO g h).set (a.toNat - 1) (gB g + (a.toNat - 1), .inr (c0.toNat - 1, (flds g (mR h a) 0 (tgs (c0.toNat - 1))).set k.toNat (cv g (fvT t v))))) H1 → va_D (AB g) ((wsO g h).set (a.toNat - 1) (gB g + (a.toNat - 1), .inr (c0.toNat - 1, (flds g (mR h a) 0 (tgs (c0.toNat - 1))).set k.toNat (cv g (fvT t v))))) → va_S (AB g) s.heap H1 locs1 → W p l e R s m args below meth c H1 locs1 cells slots Q (F0 m (pc + 3) Ls rest) := by
    intro H1 locs1 q1 q2 q3
    have := hr.putO (k := k.toNat) hok c1 c2 ht hv q1
    rw [hk2] at this
    exact kk H1 locs1 this q3
  cases hfl : (fdT (c0.toNat - 1) k.toNat).2.2.1 with
  | false => exact va_put (D := gD g) (ci := c0.toNat - 1) (v := cv g (fvT t v)) (ty := tyT (c0.toNat - 1) k.toNat) (C := cnm (c0.toNat - 1)) (T := uT (c0.toNat - 1)) (N := (tgs (c0.toNat - 1)).length) hx0 hb hts (cl_in hci) (tyT (c0.toNat - 1)) (cl_ty hci) (cl_nm hci) hown hBs.1 hr.1 (wsO_D g h) hS (a.toNat - 1) he (cl_at hci) k.toNat hk (hts _ hw) (fun _ h9 => h9) hfl (cl_ty hci _ hk) f1 f2 (by rw [flds_len]; exact hk) hdec fin
  | true =>
    obtain ⟨n1, n2⟩ := hfin hfl
    exact va_putF (D := gD g) (ci := c0.toNat - 1) (v := cv g (fvT t v)) (ty := tyT (c0.toNat - 1) k.toNat) (C := cnm (c0.toNat - 1)) (T := uT (c0.toNat - 1)) (N := (tgs (c0.toNat - 1)).length) hx0 hb hts (cl_in hci) (tyT (c0.toNat - 1)) (cl_ty hci) (cl_nm hci) hown hBs.1 hr.1 (wsO_D g h) hS (a.toNat - 1) he (cl_at hci) k.toNat hk (hts _ hw) (fun _ h9 => h9) hfl (hini n1) n2 (cl_ty hci _ hk) f1 f2 (by rw [flds_len]; exact hk) hdec fin
theorem arr_of (hr : RelH g h H) {a k : Int} (hok : mK h a = k) (ha : 0 ≤ a) (hk : 13 ≤ k) : 1 ≤ a ∧ a ≤ h.1.1 ∧ 0 ≤ mL h a ∧ (wsO g h)[a.toNat - 1]? = some (gB g + (a.toNat - 1), .inl (gA g k, (mL h a).toNat, arE g k (mR h a))) ∧ ((k = 101 ∧ ∀ j, 0 ≤ j → j < mL h a → -128 ≤ mR h a j ∧ mR h a j ≤ 127) ∨ (k = 102 ∧ ∀ j, 0 ≤ j → j < mL h a → in32 (mR h a j)) ∨ (k = 103 ∧ ∀ j, 0 ≤ j → j < mL h a → in64 (mR h a j)) ∨ (k = 104 ∧ ∀ j, 0 ≤ j → j < mL h a → mR h a j = 0 ∨ mR h a j = 1) ∨ (111 ≤ k ∧ k ≤ 115 ∧ ∀ j, 0 ≤ j → j < mL h a → 0 ≤ mR h a j)) := by
  obtain ⟨a1, a2⟩ := hr.2.pos (a := a) (by omega) ha
  have he := wsO_get (g := g) a1 a2
  rw [hok, enE_arr hk] at he
  rcases hr.2.2.1 a a1 a2 with ⟨z1, z2, -⟩ | ⟨n1, n2, z⟩
  · omega
  · rw [hok] at z
    exact ⟨a1, a2, n1, he, z⟩
theorem stat_of (hr : RelH g h H) {a : Int} (ha : a < 0) (hk : mK h a ≠ 0) (hk2 : mK h a ≠ 50) : (mK h a = 101 ∧ -76 ≤ a ∧ a ≤ -50) ∨ (mK h a = 102 ∧ a = -100) := by
  rcases hr.2.1.1 a ha with z | ⟨z, -⟩ | z | z
  · exact absurd z hk
  · exact absurd z hk2
  · exact Or.inl z
  · exact Or.inr z
theorem scr_at (X : Cx g mn p R s m args meth c) : va_X (gS g).1 (gS g).2.1 (gS g).2.2 s s.heap ∧ (gS g).1 < s.heap.size ∧ ¬ AB g (gS g).1 := by
  have hBs := X.2.2.2.2.2.1
  have h8 := hBs.2.2.2.2.2.2.2.1
  have h9 := hBs.2.2.2.2.2.2.2.2.1
  exact ⟨hBs.2.2.2.2.2.2.1, by omega, by show ¬ gB g ≤ _; omega⟩
theorem idx_ok {i n : Int} (hi : in32 i) (h0 : 0 ≤ i) (h1 : i < n) : vp_in (Int32.ofInt i) n.toNat ∧ (Int32.ofInt i).toNatClampNeg = i.toNat ∧ ((i.toNat : Nat) : Int) = i := ⟨o32_vp hi h0 h1, o32_cl hi h0, by omega⟩
theorem so_iald (X : Cx g mn p R s m args meth c) (hdec : decode (byt mn) pc = .ok (.iaload, 1)) {a i : Int} (hi : in32 i) (hok : okA h a 102 i = true) (hr : RelH g h H) (hS : va_S (AB g) s.heap H locs)
    (kk : in32 (mR h a i) → W p l e R s m args below meth c H locs cells slots Q (F0 m (pc + 1) Ls (.int (Int32.ofInt (mR h a i)) :: rest))) : W p l e R s m args below meth c H locs cells slots Q (F0 m pc Ls (.int (Int32.ofInt i) :: cvR g a :: rest)) := by
  obtain ⟨k1, i1, i2⟩ := of_decide_eq_true hok
  rcases Int.lt_or_le a 0 with q | q
  · rcases stat_of hr q (by omega) (by omega) with ⟨z, -⟩ | ⟨-, z⟩
    · omega
    · subst z
      obtain ⟨s1, s2, s3⟩ := scr_at X
      obtain ⟨hx0, hb, hml, hown, hts, hBs, hini, hfr, hlo⟩ := X
      have hL : mL h (-100) = ((gS g).2.1 : Int) := hr.2.1.2.2.2.1
      obtain ⟨v1, v2, v3⟩ := idx_ok hi i1 i2
      rw [hL] at v1
      have hv := hr.2.1.2.2.2.2 i.toNat (by omega)
      rw [v3] at hv
      refine va_sld (A := AB g) hx0 hb s1 s2 s3 hS (by simpa using v1) hdec ?_
      rw [v2, ← Int32.ofInt_toInt ((gS g).2.2 i.toNat), ← hv]
      exact kk (by rw [hv]; exact t32_in _)
  · obtain ⟨a1, a2, n1, he, z⟩ := arr_of hr k1 q (by omega)
    obtain ⟨hx0, hb, hml, hown, hts, hBs, hini, hfr, hlo⟩ := X
    obtain ⟨v1, v2, v3⟩ := idx_ok hi i1 i2
    rw [arE_i (by omega) (by omega)] at he
    rw [cvR_pos a1]
    refine va_iald hx0 hb hBs.1 hr.1 (a.toNat - 1) 1 he rfl v1 hdec ?_
    rw [v2, v3]
    refine kk ?_
    rcases z with z | z | z | z | z <;> first | exact z.2 i i1 i2 | omega
theorem so_bald (X : Cx g mn p R s m args meth c) (hdec : decode (byt mn) pc = .ok (.baload, 1)) {a i : Int} (hi : in32 i) (hok : okB h a i = true) (hr : RelH g h H) (hS : va_S (AB g) s.heap H locs)
    (kk : in32 (mR h a i) → W p l e R s m args below meth c H locs cells slots Q (F0 m (pc + 1) Ls (.int (Int32.ofInt (mR h a i)) :: rest))) : W p l e R s m args below meth c H locs cells slots Q (F0 m pc Ls (.int (Int32.ofInt i) :: cvR g a :: rest)) := by
  obtain ⟨k1, i1, i2⟩ := of_decide_eq_true hok
  obtain ⟨v1, v2, v3⟩ := idx_ok hi i1 i2
  rcases Int.lt_or_le a 0 with q | q
  · rcases stat_of hr q (by omega) (by omega) with ⟨-, z⟩ | ⟨z, -⟩
    · obtain ⟨hx0, hb, hml, hown, hts, hBs, hini, hfr, hlo⟩ := X
      obtain ⟨q1, q2, q3, q4, q5⟩ := hBs.2.2.2.1 (-50 - a).toNat (by omega)
      obtain ⟨l1, l2⟩ := hr.2.1.2.2.1 a z.1 z.2
      have hv := l2 i.toNat (by omega)
      rw [v3] at hv
      rw [cvR_byt z.1 z.2]
      rw [l1] at v1
      refine va_tb hx0 hb q5 hS (by simpa using v1) rfl hdec ?_
      have e1 : Value.int (Int32.ofInt ((sby (-50 - a).toNat).getD (Int32.ofInt i).toNatClampNeg 0)) = .int (Int32.ofInt (mR h a i)) := by
        rw [v2, hv]
      rw [e1]
      refine kk ?_
      rw [hv]
      have hall : ∀ n, n < 27 → ∀ j, j < (sby n).length → -128 ≤ (sby n).getD j 0 ∧ (sby n).getD j 0 ≤ 127 := by decide +kernel
      have := hall (-50 - a).toNat (by omega) i.toNat (by omega)
      unfold in32; omega
    · omega
  · obtain ⟨a1, a2, n1, he, z⟩ := arr_of hr rfl q (by omega)
    obtain ⟨hx0, hb, hml, hown, hts, hBs, hini, hfr, hlo⟩ := X
    rw [arE_i (by omega) (by omega)] at he
    rw [cvR_pos a1]
    have hin : in32 (mR h a i) := by
      unfold in32
      rcases z with z | z | z | z | z
      · have := z.2 i i1 i2; omega
      · exact z.2 i i1 i2
      · omega
      · have := z.2 i i1 i2; omega
      · omega
    rcases k1 with k1 | k1
    · rw [k1] at he
      refine va_bald hx0 hb hBs.1 hr.1 (a.toNat - 1) 0 he rfl v1 hdec ?_
      rw [v2, v3]
      exact kk hin
    · rw [k1] at he
      refine va_zald hx0 hb hBs.1 hr.1 (a.toNat - 1) 3 he rfl v1 hdec ?_
      rw [v2, v3]
      exact kk hin
theorem so_lald (X : Cx g mn p R s m args meth c) (hdec : decode (byt mn) pc = .ok (.laload, 1)) {a i : Int} (hi : in32 i) (hok : okA h a 103 i = true) (hr : RelH g h H)
    (kk : in64 (mR h a i) → W p l e R s m args below meth c H locs cells slots Q (F0 m (pc + 1) Ls (.long (Int64.ofInt (mR h a i)) :: rest))) : W p l e R s m args below meth c H locs cells slots Q (F0 m pc Ls (.int (Int32.ofInt i) :: cvR g a :: rest)) := by
  obtain ⟨k1, i1, i2⟩ := of_decide_eq_true hok
  obtain ⟨v1, v2, v3⟩ := idx_ok hi i1 i2
  rcases Int.lt_or_le a 0 with q | q
  · rcases stat_of hr q (by omega) (by omega) with ⟨z, -⟩ | ⟨z, -⟩ <;> omega
  · obtain ⟨a1, a2, n1, he, z⟩ := arr_of hr k1 q (by omega)
    obtain ⟨hx0, hb, hml, hown, hts, hBs, hini, hfr, hlo⟩ := X
    rw [arE_l] at he
    rw [cvR_pos a1]
    refine va_lald hx0 hb hBs.1 hr.1 (a.toNat - 1) 2 he rfl v1 hdec ?_
    rw [v2, v3]
    refine kk ?_
    rcases z with z | z | z | z | z <;> first | exact z.2 i i1 i2 | omega
theorem tyA_q {k : Int} (h1 : 111 ≤ k) (h2 : k ≤ 115) : ∃ t0 : Nat, (tyA g)[t0]? = some (gA g k, FieldType.object (cnm ((ecK k).toNat - 1))) ∧ 1 ≤ ecK k ∧ ecK k ≤ 12 := by
  have : k = 111 ∨ k = 112 ∨ k = 113 ∨ k = 114 ∨ k = 115 := by omega
  rcases this with q | q | q | q | q <;> subst q
  · exact ⟨4, rfl, by decide, by decide⟩
  · exact ⟨5, rfl, by decide, by decide⟩
  · exact ⟨6, rfl, by decide, by decide⟩
  · exact ⟨7, rfl, by decide, by decide⟩
  · exact ⟨8, rfl, by decide, by decide⟩
theorem rfO_cv {v : Int} (h0 : 0 ≤ v) : va_rf (rfO g v) = cvR g v := by
  unfold rfO cvR
  by_cases e : v = 0
  · subst e; rfl
  · rw [if_neg (by omega), if_neg e, if_pos (by omega)]; rfl
theorem so_aald (X : Cx g mn p R s m args meth c) (hdec : decode (byt mn) pc = .ok (.aaload, 1)) {a i : Int} (hi : in32 i) (hok : okR h a i = true) (hr : RelH g h H)
    (kk : W p l e R s m args below meth c H locs cells slots Q (F0 m (pc + 1) Ls (cvR g (mR h a i) :: rest))) : W p l e R s m args below meth c H locs cells slots Q (F0 m pc Ls (.int (Int32.ofInt i) :: cvR g a :: rest)) := by
  obtain ⟨k1, k2, i1, i2, q⟩ := of_decide_eq_true hok
  obtain ⟨v1, v2, v3⟩ := idx_ok hi i1 i2
  obtain ⟨a1, a2, n1, he, z⟩ := arr_of hr (a := a) rfl (by omega) (by omega)
  obtain ⟨hx0, hb, hml, hown, hts, hBs, hini, hfr, hlo⟩ := X
  rw [arE_q k1] at he
  rw [cvR_pos a1]
  obtain ⟨t0, ht, -⟩ := tyA_q (g := g) k1 k2
  refine va_aldq hx0 hb hBs.1 hr.1 (a.toNat - 1) t0 he ht v1 hdec ?_
  rw [v2, v3, rfO_cv (by rcases z with z | z | z | z | z <;> first | exact z.2.2 i i1 i2 | omega)]
  exact kk
theorem so_alen (X : Cx g mn p R s m args meth c) (hdec : decode (byt mn) pc = .ok (.arraylength, 1)) {a : Int} (hok : okY h a = true) (hr : RelH g h H) (hS : va_S (AB g) s.heap H locs)
    (kk : W p l e R s m args below meth c H locs cells slots Q (F0 m (pc + 1) Ls (.int (Int32.ofInt (mL h a)) :: rest))) : W p l e R s m args below meth c H locs cells slots Q (F0 m pc Ls (cvR g a :: rest)) := by
  obtain ⟨k1, k2⟩ := of_decide_eq_true hok
  rcases Int.lt_or_le a 0 with q | q
  · rcases stat_of hr q (by omega) (by omega) with ⟨-, z⟩ | ⟨-, z⟩
    · obtain ⟨hx0, hb, hml, hown, hts, hBs, hini, hfr, hlo⟩ := X
      obtain ⟨q1, q2, q3, q4, q5⟩ := hBs.2.2.2.1 (-50 - a).toNat (by omega)
      obtain ⟨l1, l2⟩ := hr.2.1.2.2.1 a z.1 z.2
      rw [cvR_byt z.1 z.2]
      exact va_tlen hx0 hb q5 hS (by rw [l1, n32_t]) hdec kk
    · subst z
      obtain ⟨s1, s2, s3⟩ := scr_at X
      obtain ⟨hx0, hb, hml, hown, hts, hBs, hini, hfr, hlo⟩ := X
      refine va_slen (A := AB g) hx0 hb s1 s2 s3 hS hdec ?_
      rw [← n32_t, ← hr.2.1.2.2.2.1]
      exact kk
  · obtain ⟨a1, a2, n1, he, z⟩ := arr_of hr rfl q (by omega)
    obtain ⟨hx0, hb, hml, hown, hts, hBs, hini, hfr, hlo⟩ := X
    rw [cvR_pos a1]
    have hn : Int32.ofNat (mL h a).toNat = Int32.ofInt (mL h a) := by
      rw [← n32_t]; congr 1; omega
    have ht : ∃ (t0 : Nat) (ty : FieldType), (tyA g)[t0]? = some (gA g (mK h a), ty) := by
      rcases z with z | z | z | z | z
      · rw [z.1]; exact ⟨0, _, rfl⟩
      · rw [z.1]; exact ⟨1, _, rfl⟩
      · rw [z.1]; exact ⟨2, _, rfl⟩
      · rw [z.1]; exact ⟨3, _, rfl⟩
      · obtain ⟨t0, h9, -⟩ := tyA_q (g := g) z.1 z.2.1
        exact ⟨t0, _, h9⟩
    obtain ⟨t0, ty, ht⟩ := ht
    exact va_alen hx0 hb hBs.1 hr.1 (a.toNat - 1) t0 he ht hn hdec kk
theorem RelH.putA {a i v : Int} {H1 : Heap} {k : Int} (hr : RelH g h H) (hk : mK h a = k) (hk13 : 13 ≤ k) (a1 : 1 ≤ a) (a2 : a ≤ h.1.1) (ok : okH g (mW h a i v)) (hP : va_P (gD g) clsO ((wsO g h).set (a.toNat - 1) (gB g + (a.toNat - 1), .inl (gA g k, (mL h a).toNat, arE g k (fun j => if j = i then v else mR h a j)))) H1) : RelH g (mW h a i v) H1 := by
  refine ⟨?_, ok⟩
  rw [wsO_set (g := g) (h := h) (h' := mW h a i v) (e := .inl (gA g k, (mL h a).toNat, arE g k (fun j => if j = i then v else mR h a j))) a1 a2 rfl ?_ (fun b hb => ⟨rfl, rfl, funext fun j => by rw [mR_mW, if_neg (fun q => hb q.1)]⟩)]
  · exact hP
  · rw [mK_mW, hk, enE_arr hk13, mR_up, mL_mW]
theorem upd_i {f : Int → Int} {i v : Int} (h0 : 0 ≤ i) : upd (fun j : Nat => Int32.ofInt (f j)) i.toNat (Int32.ofInt v) = fun j : Nat => Int32.ofInt (if (j : Int) = i then v else f j) := by
  funext j
  unfold upd
  by_cases q : j = i.toNat
  · rw [if_pos q, if_pos (by omega)]
  · rw [if_neg q, if_neg (by omega)]
theorem upd_l {f : Int → Int} {i v : Int} (h0 : 0 ≤ i) : vp_updL (fun j : Nat => Int64.ofInt (f j)) i.toNat (Int64.ofInt v) = fun j : Nat => Int64.ofInt (if (j : Int) = i then v else f j) := by
  funext j
  unfold vp_updL
  by_cases q : j = i.toNat
  · rw [if_pos q, if_pos (by omega)]
  · rw [if_neg q, if_neg (by omega)]
theorem upd_q {f : Int → Int} {i v : Int} (h0 : 0 ≤ i) (hv : 0 < v) : va_up (fun j : Nat => rfO g (f j)) i.toNat (some (gB g + (v.toNat - 1))) = fun j : Nat => rfO g (if (j : Int) = i then v else f j) := by
  funext j
  unfold va_up
  by_cases q : j = i.toNat
  · rw [if_pos q, if_pos (by omega)]
    unfold rfO
    rw [if_neg (by omega)]
  · rw [if_neg q, if_neg (by omega)]
theorem so_iast (X : Cx g mn p R s m args meth c) (hdec : decode (byt mn) pc = .ok (.iastore, 1)) {a i v : Int} (hi : in32 i) (hv : in32 v) (hok : okS h a 102 i = true) (hr : RelH g h H) (hS : va_S (AB g) s.heap H locs)
    (kk : ∀ H1 locs1, RelH g (mW h a i v) H1 → va_S (AB g) s.heap H1 locs1 → W p l e R s m args below meth c H1 locs1 cells slots Q (F0 m (pc + 1) Ls rest)) : W p l e R s m args below meth c H locs cells slots Q (F0 m pc Ls (.int (Int32.ofInt v) :: .int (Int32.ofInt i) :: cvR g a :: rest)) := by
  obtain ⟨k1, i1, i2, q⟩ := of_decide_eq_true hok
  obtain ⟨v1, v2, v3⟩ := idx_ok hi i1 i2
  obtain ⟨a1, a2, n1, he, z⟩ := arr_of hr k1 (by omega) (by omega)
  obtain ⟨hx0, hb, hml, hown, hts, hBs, hini, hfr, hlo⟩ := X
  rw [arE_i (by omega) (by omega)] at he
  rw [cvR_pos a1]
  refine va_iast hx0 hb hBs.1 hr.1 (wsO_D g h) hS (a.toNat - 1) 1 he rfl v1 hdec (fun H1 locs1 q1 q2 q3 => kk H1 locs1 (hr.putA k1 (by omega) a1 a2 (hr.2.arr_put q (Or.inr (Or.inl ⟨k1, hv⟩))) ?_) q3)
  rw [v2, upd_i i1] at q1
  rw [arE_i (by omega) (by omega)]
  exact q1
theorem so_last (X : Cx g mn p R s m args meth c) (hdec : decode (byt mn) pc = .ok (.lastore, 1)) {a i v : Int} (hi : in32 i) (hv : in64 v) (hok : okS h a 103 i = true) (hr : RelH g h H) (hS : va_S (AB g) s.heap H locs)
    (kk : ∀ H1 locs1, RelH g (mW h a i v) H1 → va_S (AB g) s.heap H1 locs1 → W p l e R s m args below meth c H1 locs1 cells slots Q (F0 m (pc + 1) Ls rest)) : W p l e R s m args below meth c H locs cells slots Q (F0 m pc Ls (.long (Int64.ofInt v) :: .int (Int32.ofInt i) :: cvR g a :: rest)) := by
  obtain ⟨k1, i1, i2, q⟩ := of_decide_eq_true hok
  obtain ⟨v1, v2, v3⟩ := idx_ok hi i1 i2
  obtain ⟨a1, a2, n1, he, z⟩ := arr_of hr k1 (by omega) (by omega)
  obtain ⟨hx0, hb, hml, hown, hts, hBs, hini, hfr, hlo⟩ := X
  rw [arE_l] at he
  rw [cvR_pos a1]
  refine va_last hx0 hb hBs.1 hr.1 (wsO_D g h) hS (a.toNat - 1) 2 he rfl v1 hdec (fun H1 locs1 q1 q2 q3 => kk H1 locs1 (hr.putA k1 (by omega) a1 a2 (hr.2.arr_put q (Or.inr (Or.inr (Or.inl ⟨k1, hv⟩)))) ?_) q3)
  rw [v2, upd_l i1] at q1
  rw [arE_l]
  exact q1
theorem so_bast (X : Cx g mn p R s m args meth c) (hdec : decode (byt mn) pc = .ok (.bastore, 1)) {a i v w : Int} (hi : in32 i) (hok : (okS h a 101 i = true ∧ w = w8 v) ∨ (okS h a 104 i = true ∧ (v = 0 ∨ v = 1) ∧ w = v)) (hr : RelH g h H) (hS : va_S (AB g) s.heap H locs)
    (kk : ∀ H1 locs1, RelH g (mW h a i w) H1 → va_S (AB g) s.heap H1 locs1 → W p l e R s m args below meth c H1 locs1 cells slots Q (F0 m (pc + 1) Ls rest)) : W p l e R s m args below meth c H locs cells slots Q (F0 m pc Ls (.int (Int32.ofInt v) :: .int (Int32.ofInt i) :: cvR g a :: rest)) := by
  rcases hok with ⟨hok, hw⟩ | ⟨hok, hv, hw⟩
  · obtain ⟨k1, i1, i2, q⟩ := of_decide_eq_true hok
    obtain ⟨v1, v2, v3⟩ := idx_ok hi i1 i2
    obtain ⟨a1, a2, n1, he, z⟩ := arr_of hr k1 (by omega) (by omega)
    obtain ⟨hx0, hb, hml, hown, hts, hBs, hini, hfr, hlo⟩ := X
    rw [arE_i (by omega) (by omega)] at he
    rw [cvR_pos a1]
    refine va_bast hx0 hb hBs.1 hr.1 (wsO_D g h) hS (a.toNat - 1) 0 he rfl v1 hdec (fun H1 locs1 q1 q2 q3 => kk H1 locs1 (hr.putA k1 (by omega) a1 a2 (hr.2.arr_put q (Or.inl ⟨k1, by rw [hw]; exact w8_in v⟩)) ?_) q3)
    rw [vp_nar_byte, o32_8, ← hw, v2, upd_i i1] at q1
    rw [arE_i (by omega) (by omega)]
    exact q1
  · obtain ⟨k1, i1, i2, q⟩ := of_decide_eq_true hok
    obtain ⟨v1, v2, v3⟩ := idx_ok hi i1 i2
    obtain ⟨a1, a2, n1, he, z⟩ := arr_of hr k1 (by omega) (by omega)
    obtain ⟨hx0, hb, hml, hown, hts, hBs, hini, hfr, hlo⟩ := X
    rw [arE_i (by omega) (by omega)] at he
    rw [cvR_pos a1]
    refine va_zast hx0 hb hBs.1 hr.1 (wsO_D g h) hS (a.toNat - 1) 3 he rfl v1 hdec (fun H1 locs1 q1 q2 q3 => kk H1 locs1 (hr.putA k1 (by omega) a1 a2 (hr.2.arr_put q (by omega)) ?_) q3)
    have e : vp_nar .boolean (Int32.ofInt v) = Int32.ofInt w := by
      rw [hw]
      rcases hv with z | z <;> rw [z] <;> decide
    rw [e, v2, upd_i i1] at q1
    rw [arE_i (by omega) (by omega)]
    exact q1
theorem so_aast (X : Cx g mn p R s m args meth c) (hdec : decode (byt mn) pc = .ok (.aastore, 1)) {a i v : Int} (hi : in32 i) (hok : okQ h a i v = true) (hr : RelH g h H) (hS : va_S (AB g) s.heap H locs)
    (kk : ∀ H1 locs1, RelH g (mW h a i v) H1 → va_S (AB g) s.heap H1 locs1 → W p l e R s m args below meth c H1 locs1 cells slots Q (F0 m (pc + 1) Ls rest)) : W p l e R s m args below meth c H locs cells slots Q (F0 m pc Ls (cvR g v :: .int (Int32.ofInt i) :: cvR g a :: rest)) := by
  obtain ⟨k1, k2, i1, i2, q, kv, pv⟩ := of_decide_eq_true hok
  obtain ⟨v1, v2, v3⟩ := idx_ok hi i1 i2
  obtain ⟨a1, a2, n1, he, z⟩ := arr_of hr (a := a) rfl (by omega) (by omega)
  obtain ⟨hx0, hb, hml, hown, hts, hBs, hini, hfr, hlo⟩ := X
  obtain ⟨t0, ht, c1, c2⟩ := tyA_q (g := g) k1 k2
  obtain ⟨b1, b2⟩ := hr.2.obj kv c1 c2
  have hv := wsO_get (g := g) b1 b2
  rw [kv, enE_obj c2] at hv
  rw [arE_q k1] at he
  rw [cvR_pos a1, cvR_pos b1]
  have hci : (ecK (mK h a)).toNat - 1 < 12 := by omega
  refine va_astq (r := (cnm ((ecK (mK h a)).toNat - 1), uT ((ecK (mK h a)).toNat - 1), (tgs ((ecK (mK h a)).toNat - 1)).length)) hx0 hb hBs.1 hr.1 (wsO_D g h) hS (a.toNat - 1) t0 (v.toNat - 1) _ he ht hv (cl_at hci) v1 hdec (fun H1 locs1 q1 q2 q3 => kk H1 locs1 (hr.putA rfl (by omega) a1 a2 (hr.2.arr_put q (by omega)) ?_) q3)
  rw [v2, upd_q i1 pv] at q1
  rw [arE_q k1]
  exact q1
end SO
