/-! Drafts cleared. -/
def sV0 (i : Int) : Int := if i = 4 then 1 else if i = 5 then 24 else 0
theorem s_kclear {h : Hp} (w : SkyS h 96) (s : Int × Int × Int) : ∃ h', C_Sk_clear 96 h = some (0, h') ∧ Fr (pSk 96) h h' ∧ SkD h' s sV0 := by
  have o : okF h 96 8 = true := okF_t w.2.1
  let k1 := mW h 96 0 0
  let k2 := mW k1 96 1 0
  let k3 := mW k2 96 2 0
  let k4 := mW k3 96 3 0
  let k5 := mW k4 96 4 1
  let k6 := mW k5 96 5 24
  have fr : Fr (pSk 96) h k6 := (((((Fr.W h 0 (by unfold pSk; omega)).tr (Fr.W k1 0 (by unfold pSk; omega))).tr (Fr.W k2 0 (by unfold pSk; omega))).tr (Fr.W k3 0 (by unfold pSk; omega))).tr (Fr.W k4 1 (by unfold pSk; omega))).tr (Fr.W k5 24 (by unfold pSk; omega))
  have c : ∀ i, 0 ≤ i → i < 6 → mR k6 96 i = sV0 i := fun i i0 i1 => by
    show mR (mW (mW (mW (mW (mW (mW h 96 0 0) 96 1 0) 96 2 0) 96 3 0) 96 4 1) 96 5 24) 96 i = _
    have : i = 0 ∨ i = 1 ∨ i = 2 ∨ i = 3 ∨ i = 4 ∨ i = 5 := by omega
    rcases this with z | z | z | z | z | z
    · rw [z, mR_ni (by omega), mR_ni (by omega), mR_ni (by omega), mR_ni (by omega), mR_ni (by omega), mR_same]; rfl
    · rw [z, mR_ni (by omega), mR_ni (by omega), mR_ni (by omega), mR_ni (by omega), mR_same]; rfl
    · rw [z, mR_ni (by omega), mR_ni (by omega), mR_ni (by omega), mR_same]; rfl
    · rw [z, mR_ni (by omega), mR_ni (by omega), mR_same]; rfl
    · rw [z, mR_ni (by omega), mR_same]; rfl
    · rw [z, mR_same]; rfl
  refine ⟨k6, ?_, fr, w.of fr.1 (fun i i0 i1 => fr.2 96 i (by unfold pSk; omega)), c 0 (by decide) (by decide), ?_, fun _ => ⟨c, fun i i0 i1 => ?_⟩⟩
  · rw [E_Sk_clear, if_pos o, hb_eq, okF_W, if_pos o, hb_eq, okF_W, okF_W, if_pos o, hb_eq, okF_W, okF_W, okF_W, if_pos o, hb_eq, okF_W, okF_W, okF_W, okF_W, if_pos o, hb_eq, okF_W, okF_W, okF_W, okF_W, okF_W, if_pos o, hb_eq]
  · have z0 : sV0 0 = 0 := rfl
    have z1 : sV0 1 = 0 := rfl
    have z2 : sV0 2 = 0 := rfl
    have z3 : sV0 3 = 0 := rfl
    have z4 : sV0 4 = 1 := rfl
    have z5 : sV0 5 = 24 := rfl
    exact ⟨by omega, by omega, by omega, by omega, by omega, by omega, fun i i0 i1 => by omega⟩
  · have z0 : sV0 0 = 0 := rfl
    omega
theorem l_hcl : ∀ (n : Nat) (i : Int) (h : Hp), HouS h 92 → 0 ≤ i → i + n = 6 → (∀ j, 0 ≤ j → j < i → mR h 93 j = 0) → ∃ h', P_Ho_clear_22 92 i h = some (0, h') ∧ Fr (fun b _ => b = 93) h h' ∧ ∀ j, 0 ≤ j → j < 6 → mR h' 93 j = 0 := by
  intro n
  induction n with
  | zero =>
    intro i h w i0 hi d
    exact ⟨h, by rw [E_Ho_clear_22, if_neg (by omega)], Fr.rf _ h, fun j j0 j1 => d j j0 (by omega)⟩
  | succ n ih =>
    intro i h w i0 hi d
    have f1 : Fr (fun b _ => b = 93) h (mW h 93 i 0) := Fr.W h 0 rfl
    have m4 : mR h 92 4 = 93 := w.2.2.1.1
    have l93 : mK h 93 = 102 ∧ mL h 93 = 6 := w.2.2.2.1
    obtain ⟨h2, g2, f2, d2⟩ := ih (i + 1) _ (w.of f1.1 (fun j _ _ => mR_ne (by decide))) (by omega) (by omega) (fun j j0 j1 => by
      by_cases q : j = i
      · rw [q, mR_same]
      · rw [mR_ni q]; exact d j j0 (by omega))
    refine ⟨h2, ?_, f1.tr f2, d2⟩
    rw [E_Ho_clear_22, if_pos (show i < 6 by omega), if_pos (hF w), m4, if_pos (okS_t l93 (by decide) i0 (by omega)), hb_eq, w32_id (x := i + 1) (by omega) (by omega)]
    exact g2
theorem s_hclear {h : Hp} (w : HouS h 92) : ∃ h', C_Ho_clear 92 h = some (0, h') ∧ Fr (pH 92) h h' ∧ HouC h' 92 zZ := by
  have o := hF w
  let k1 := mW h 92 0 0
  let k2 := mW k1 92 1 0
  let k3 := mW k2 92 2 0
  let k4 := mW k3 92 3 0
  have fr : Fr (pH 92) h k4 := (((Fr.W h 0 (by unfold pH; omega)).tr (Fr.W k1 0 (by unfold pH; omega))).tr (Fr.W k2 0 (by unfold pH; omega))).tr (Fr.W k3 0 (by unfold pH; omega))
  have w4 : HouS k4 92 := w.of fr.1 (fun i i0 i1 => fr.2 92 i (by unfold pH; omega))
  have c : ∀ i, 0 ≤ i → i ≤ 3 → mR k4 92 i = 0 := fun i i0 i1 => by
    show mR (mW (mW (mW (mW h 92 0 0) 92 1 0) 92 2 0) 92 3 0) 92 i = _
    have : i = 0 ∨ i = 1 ∨ i = 2 ∨ i = 3 := by omega
    rcases this with z | z | z | z
    · rw [z, mR_ni (by omega), mR_ni (by omega), mR_ni (by omega), mR_same]
    · rw [z, mR_ni (by omega), mR_ni (by omega), mR_same]
    · rw [z, mR_ni (by omega), mR_same]
    · rw [z, mR_same]
  obtain ⟨h2, g2, f2, d2⟩ := l_hcl 6 0 k4 w4 (by decide) (by decide) (fun j j0 j1 => by omega)
  have e2 : ∀ i, mR h2 92 i = mR k4 92 i := fun i => f2.2 92 i (show ¬ (92 : Int) = 93 by decide)
  refine ⟨h2, ?_, fr.tr (f2.to (fun b i q => by unfold pH; omega)), ⟨w4.of f2.1 (fun i _ _ => e2 i), by omega, by rw [e2]; exact c 0 (by decide) (by decide), by rw [e2]; exact c 1 (by decide) (by decide), by rw [e2]; exact c 2 (by decide) (by decide), by rw [e2]; exact c 3 (by decide) (by decide), d2, fun i i0 i1 => ?_⟩, ⟨?_, fun r _ _ => ?_, fun i i0 i1 => ?_⟩, fun r _ _ => ?_, ?_⟩
  · rw [E_Ho_clear, if_pos o, hb_eq, okF_W, if_pos o, hb_eq, okF_W, okF_W, if_pos o, hb_eq, okF_W, okF_W, okF_W, if_pos o, hb_eq]
    exact g2
  · have z3 : zZ 3 = 0 := rfl
    omega
  · show (0 : Int) ≤ 0 ∧ (0 : Int) ≤ 8; omega
  · show (-51 : Int) ≤ 0 ∧ (0 : Int) ≤ 51; omega
  · have z3 : zZ 3 = 0 := rfl
    omega
  · show (-50 : Int) ≤ 0 ∧ (0 : Int) ≤ 50; omega
  · show (-2147483648 : Int) ≤ 0 ∧ (0 : Int) ≤ 2147483647; omega
