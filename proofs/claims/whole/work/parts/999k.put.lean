/-! A draft put: rows cut to their lengths. -/
def vCut (V : Int → Int) (n : Int) : Int → Int := fun o => if 0 ≤ o ∧ o < n then V o else 0
theorem vCut_e {V : Int → Int} {n o : Int} (o0 : 0 ≤ o) (o1 : o < n) : vCut V n o = V o := if_pos ⟨o0, o1⟩
theorem vCut_z {V : Int → Int} {n o : Int} (q : ¬ (0 ≤ o ∧ o < n)) : vCut V n o = 0 := if_neg q
theorem CatC_cg {h : Hp} {c : Int} {V V' : Int → Int} (w : CatC h c V) (u : ∀ o, 0 ≤ o → o < 330 → V' o = V o) : CatC h c V' := by
  have v0 := w.2.1.1
  have v1 := w.2.1.2.1
  have v2 := w.2.2.2.1
  obtain ⟨a1, a2, a3, a4, a5, a6⟩ := w
  have stpe := stp_cg (V' := V') a2 (fun i i0 i1 => u i (by omega) (by omega)) 6
  unfold CatC CatV Vok onV
  rw [u 0 (by omega) (by omega), u 1 (by omega) (by omega), u 2 (by omega) (by omega)]
  refine ⟨⟨a1.1, a1.2.1, a1.2.2.1, a1.2.2.2.1, fun s s0 s1 => ?_, fun s s0 s1 => ?_, fun s q s0 s1 q0 q1 => ?_⟩, ⟨a2.1, a2.2.1, fun s s0 s1 => ?_, fun s s0 s1 => ?_, fun s q s0 s1 q0 q1 => ?_⟩, a3, a4, fun i i0 i1 => ?_, fun i i0 i1 => ?_⟩
  · rw [u (3 + s) (by omega) (by omega), stpe s s0 s1]
    exact a1.2.2.2.2.1 s s0 s1
  · rw [u (9 + s) (by omega) (by omega)]
    exact a1.2.2.2.2.2.1 s s0 s1
  · rw [u (33 + 6 * s + q) (by omega) (by omega), u (177 + 6 * s + q) (by omega) (by omega)]
    exact a1.2.2.2.2.2.2 s q s0 s1 q0 q1
  · rw [u (3 + s) (by omega) (by omega)]; exact a2.2.2.1 s s0 s1
  · rw [u (9 + s) (by omega) (by omega)]; exact a2.2.2.2.1 s s0 s1
  · rw [u (33 + 6 * s + q) (by omega) (by omega)]; exact a2.2.2.2.2 s q s0 s1 q0 q1
  · rw [u (33 + i) (by omega) (by omega)]; exact a5 i i0 i1
  · rw [u (321 + i) (by omega) (by omega)]; exact a6 i i0 i1
theorem HouC_cg {h : Hp} {c : Int} {V V' : Int → Int} (w : HouC h c V) (u : ∀ o, 0 ≤ o → o < 26 → V' o = V o) : HouC h c V' := by
  have v3 := w.2.1.1
  obtain ⟨⟨a1, a2, a3, a4, a5, a6, a7, a8⟩, ⟨b1, b2, b3⟩, c1, c2⟩ := w
  unfold HouC HouV Uok
  rw [u 0 (by omega) (by omega), u 1 (by omega) (by omega), u 2 (by omega) (by omega), u 3 (by omega) (by omega)]
  refine ⟨⟨a1, a2, a3, a4, a5, a6, fun r r0 r1 => ?_, fun i i0 i1 => ?_⟩, ⟨b1, fun r r0 r1 => ?_, fun i i0 i1 => ?_⟩, fun r r0 r1 => ?_, c2⟩
  · rw [u (4 + r) (by omega) (by omega)]; exact a7 r r0 r1
  · rw [u (10 + 2 * i) (by omega) (by omega), u (11 + 2 * i) (by omega) (by omega)]; exact a8 i i0 i1
  · rw [u (4 + r) (by omega) (by omega)]; exact b2 r r0 r1
  · rw [u (10 + 2 * i) (by omega) (by omega), u (11 + 2 * i) (by omega) (by omega)]; exact b3 i i0 i1
  · rw [u (4 + r) (by omega) (by omega)]; exact c1 r r0 r1
theorem SkyC_of {h : Hp} {s : Int × Int × Int} {V V' : Int → Int} (w : SkD h s V) (z : s.2.1 = 0) (n : V 0 ≠ 0) (u : ∀ o, 0 ≤ o → o < 18 → V' o = V o) : SkyC h 96 V' := by
  obtain ⟨a1, a2, a3, a4⟩ := w
  obtain ⟨b1, b2⟩ := a4 z
  obtain ⟨c0, c1, c2, c3, c4, c5, c6⟩ := a3
  unfold SkyC Sok
  rw [u 0 (by omega) (by omega), u 1 (by omega) (by omega), u 2 (by omega) (by omega), u 3 (by omega) (by omega), u 4 (by omega) (by omega), u 5 (by omega) (by omega)]
  refine ⟨a1, fun i i0 i1 => ?_, ⟨by omega, c1, c2, c3, c4, c5, fun i i0 i1 => ?_⟩, fun i i0 i1 => ?_⟩
  · rw [u i i0 (by omega)]; exact b1 i i0 i1
  · rw [u (6 + i) (by omega) (by omega), u (12 + i) (by omega) (by omega)]; exact c6 i i0 i1
  · rw [u (6 + i) (by omega) (by omega), u (12 + i) (by omega) (by omega)]; exact b2 i i0 i1
def tPut1 (T V : Int → Int) (k : Int) : Int → Int := up1 (sl3 T V (1510 + 26 * k) 26) 1 (if T 1 = k then k + 1 else T 1)
def tPut2 (T V : Int → Int) (k : Int) : Int → Int := up1 (sl3 T V (1670 + 18 * k) 18) 2 (if T 2 = k then k + 1 else T 2)
theorem s_put1 {h : Hp} {T V : Int → Int} (w : CIn h T) {k : Int} (k0 : 0 ≤ k) (k1 : k < 6) (kT : k ≤ T 1) (d : HouC h 92 V) (vz : ∀ o, ¬ (0 ≤ o ∧ o < 26) → V o = 0) : ∃ h', C_To_putHouse 2 k 92 h = some (0, h') ∧ Fr pW h h' ∧ CIn h' (tPut1 T V k) := by
  have t := w.2.2
  have o2 : okF h 2 10 = true := okF_t w.2.1.2.1
  have e8 : mR h 2 9 = 5 := w.2.1.2.2.1.2.2.1
  have rr : okR h 5 k = true := okR_t (k := 112) w.2.1.2.2.2.2.2.1 (by decide) (by decide) (by decide) k0 k1
  have cc := w.2.1.2.2.2.2.2.2.2.2.2.1 k k0 k1
  have e4 : mR h 5 k = 32 + 4 * k := cc.1
  have cs : HouS h (32 + 4 * k) := cc.2
  obtain ⟨h1, g1, f1, d1⟩ := s_hcopy d.1 d.2.1.1.2 cs (by omega) (by omega)
  have n0 := t.2.2.1
  have m4 : mR h1 2 5 = T 1 := by rw [f1.2 2 5 (by unfold pH; omega)]; exact t.1.2.2.2.2.1
  have f1w : Fr pW h h1 := f1.to (fun b i q => by unfold pH at q; unfold pW; omega)
  have f2 : Fr pW h1 (mW h1 2 5 (if T 1 < k + 1 then k + 1 else T 1)) := Fr.W h1 _ (by unfold pW; omega)
  have em : (if T 1 < k + 1 then k + 1 else T 1) = (if T 1 = k then k + 1 else T 1) := by
    by_cases z : T 1 = k
    · rw [if_pos z, if_pos (by omega)]
    · rw [if_neg z, if_neg (by omega)]
  have ff := f1w.tr f2
  have tp : ∀ i, i ≠ 1 → tPut1 T V k i = sl3 T V (1510 + 26 * k) 26 i := fun i p => up1_n p
  refine ⟨_, ?_, ff, w.w ff (TCo_hou (k := k) t k0 k1 kT ff.1 (fun b i _ _ p q => ?_) (fun i p q => ?_) ?_ (up1_s _ _ _) ?_)⟩
  · have mx : C_Ma_max_II (T 1) (k + 1) h1 = some (if T 1 < k + 1 then k + 1 else T 1, h1) := by rw [E_Ma_max_II]; split <;> rfl
    rw [E_To_putHouse, if_neg (show ¬ k < 0 by omega), if_pos k1, if_pos o2, e8, if_pos rr, e4, if_pos (hF cs), g1, bind_some', if_pos (show okF h1 2 10 = true from okF_t (by rw [f1.1.k]; exact w.2.1.2.1)), m4, w32_id (x := k + 1) (by omega) (by omega), mx, bind_some', if_pos (show okF h1 2 10 = true from okF_t (by rw [f1.1.k]; exact w.2.1.2.1)), hb_eq]
  · rw [mR_mW, if_neg (by omega)]; exact f1.2 b i (by unfold pH; omega)
  · rw [tp i p]; unfold sl3; rw [if_neg (by omega)]
  · rw [mR_same, em]; exact (up1_s _ _ _).symm
  · have ec : houT (tPut1 T V k) k = V := by
      funext o
      unfold houT slc
      by_cases z : 0 ≤ o ∧ o < 26
      · rw [if_pos z, tp _ (by omega)]
        unfold sl3
        rw [if_pos (by omega), show 1510 + 26 * k + o - (1510 + 26 * k) = o by omega]
      · rw [if_neg z, vz o z]
    rw [ec]
    have d2 : HouC h1 (32 + 4 * k) V := ⟨d1, d.2⟩
    exact ⟨d2.1.of f2.1 (fun b i b0 b1 => by rw [mR_ne (by omega)]), d2.2⟩
theorem s_put2 {h : Hp} {T V : Int → Int} (w : CIn h T) {k : Int} (k0 : 0 ≤ k) (k1 : k < 3) (kT : k ≤ T 2) (d : SkyC h 96 V) (vz : ∀ o, ¬ (0 ≤ o ∧ o < 18) → V o = 0) : ∃ h', C_To_putSky 2 k 96 h = some (0, h') ∧ Fr pW h h' ∧ CIn h' (tPut2 T V k) := by
  have t := w.2.2
  have o2 : okF h 2 10 = true := okF_t w.2.1.2.1
  have e8 : mR h 2 10 = 6 := w.2.1.2.2.1.2.2.2.1
  have rr : okR h 6 k = true := okR_t (k := 113) w.2.1.2.2.2.2.2.2.1 (by decide) (by decide) (by decide) k0 k1
  have cc := w.2.1.2.2.2.2.2.2.2.2.2.2.1 k k0 k1
  have e4 : mR h 6 k = 56 + 3 * k := cc.1
  have cs : SkyS h (56 + 3 * k) := cc.2
  obtain ⟨h1, g1, f1, d1⟩ := s_kcopy d cs (by omega)
  have n0 := t.2.2.2.1
  have m4 : mR h1 2 6 = T 2 := by rw [f1.2 2 6 (by unfold pSk; omega)]; exact t.1.2.2.2.2.2.1
  have f1w : Fr pW h h1 := f1.to (fun b i q => by unfold pSk at q; unfold pW; omega)
  have f2 : Fr pW h1 (mW h1 2 6 (if T 2 < k + 1 then k + 1 else T 2)) := Fr.W h1 _ (by unfold pW; omega)
  have em : (if T 2 < k + 1 then k + 1 else T 2) = (if T 2 = k then k + 1 else T 2) := by
    by_cases z : T 2 = k
    · rw [if_pos z, if_pos (by omega)]
    · rw [if_neg z, if_neg (by omega)]
  have ff := f1w.tr f2
  have tp : ∀ i, i ≠ 2 → tPut2 T V k i = sl3 T V (1670 + 18 * k) 18 i := fun i p => up1_n p
  refine ⟨_, ?_, ff, w.w ff (TCo_sky (k := k) t k0 k1 kT ff.1 (fun b i _ _ p q => ?_) (fun i p q => ?_) ?_ (up1_s _ _ _) ?_)⟩
  · have mx : C_Ma_max_II (T 2) (k + 1) h1 = some (if T 2 < k + 1 then k + 1 else T 2, h1) := by rw [E_Ma_max_II]; split <;> rfl
    rw [E_To_putSky, if_neg (show ¬ k < 0 by omega), if_pos k1, if_pos o2, e8, if_pos rr, e4, if_pos (show okF h (56 + 3 * k) 8 = true from okF_t cs.2.1), g1, bind_some', if_pos (show okF h1 2 10 = true from okF_t (by rw [f1.1.k]; exact w.2.1.2.1)), m4, w32_id (x := k + 1) (by omega) (by omega), mx, bind_some', if_pos (show okF h1 2 10 = true from okF_t (by rw [f1.1.k]; exact w.2.1.2.1)), hb_eq]
  · rw [mR_mW, if_neg (by omega)]; exact f1.2 b i (by unfold pSk; omega)
  · rw [tp i p]; unfold sl3; rw [if_neg (by omega)]
  · rw [mR_same, em]; exact (up1_s _ _ _).symm
  · have ec : skyT (tPut2 T V k) k = V := by
      funext o
      unfold skyT slc
      by_cases z : 0 ≤ o ∧ o < 18
      · rw [if_pos z, tp _ (by omega)]
        unfold sl3
        rw [if_pos (by omega), show 1670 + 18 * k + o - (1670 + 18 * k) = o by omega]
      · rw [if_neg z, vz o z]
    rw [ec]
    exact d1.of f2.1 (fun b i b0 b1 => by rw [mR_ne (by omega)])
