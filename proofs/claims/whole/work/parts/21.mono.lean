/-! Memory only grows; what a store or a making keeps. -/
def leH (h h' : Hp) : Prop := h.1.1 ≤ h'.1.1 ∧ h.1.2 ≤ h'.1.2
theorem leH.rf (h : Hp) : leH h h := ⟨Nat.le_refl _, Nat.le_refl _⟩
theorem leH.tr {a b c : Hp} (h1 : leH a b) (h2 : leH b c) : leH a c := ⟨Nat.le_trans h1.1 h2.1, Nat.le_trans h1.2 h2.2⟩
theorem leH_A (h : Hp) (c : Int) (n : Nat) : leH h (mA h c n) := ⟨Nat.le_succ _, Nat.le_add_right _ _⟩
theorem go_inj {a a' : Nat} {b b' : List (Option TV)} {c c' : List TV} {d d' : Hp} (h : go a b c d = some (Sum.inl (a', b', c', d'))) : a = a' ∧ b = b' ∧ c = c' ∧ d = d' := by
  simp only [go, Option.some.injEq, Sum.inl.injEq, Prod.mk.injEq] at h
  exact h
def gtH (h : Hp) : Cfg ⊕ (Int × Hp) → Prop
  | Sum.inl c => leH h c.2.2.2
  | Sum.inr r => leH h r.2
theorem gtH_go {h h' : Hp} (hl : leH h h') {a : Nat} {b : List (Option TV)} {c : List TV} {y : Cfg ⊕ (Int × Hp)} (hx : go a b c h' = some y) : gtH h y := by
  simp only [go, Option.some.injEq] at hx
  subst hx
  exact hl
set_option maxHeartbeats 8000000 in
theorem ex_mono {cf : Nat → List TV → Hp → Res} (hcf : ∀ cal as h r, cf cal as h = some r → leH h r.2) {mn : Nat} {e : Ent} {ls : List (Option TV)} {st : List TV} {h : Hp} {y : Cfg ⊕ (Int × Hp)} (hx : ex cf mn e ls st h = some y) : gtH h y := by
  unfold ex at hx
  split at hx <;> (repeat' split at hx) <;> first
    | (cases hx; done)
    | exact gtH_go (leH.rf h) hx
    | exact gtH_go (leH_A h _ _) hx
    | exact gtH_go (h' := mW h _ _ _) ⟨Nat.le_refl _, Nat.le_refl _⟩ hx
    | exact gtH_go (h' := mC h _ _ _ _ _) ⟨Nat.le_refl _, Nat.le_refl _⟩ hx
    | (cases hx; exact leH.rf h)
    | (obtain ⟨x, h1, h2⟩ := Option.bind_eq_some_iff.mp hx; exact gtH_go (hcf _ _ _ _ h1) h2)
theorem runM_leH {cf : Nat → List TV → Hp → Res} (hcf : ∀ cal as h r, cf cal as h = some r → leH h r.2) {mn : Nat} : ∀ (n : Nat) (c : Cfg) (r : Int × Hp), runM cf mn n c = some r → leH c.2.2.2 r.2
  | 0, _, _, h => by simp [runM] at h
  | n + 1, c, r, h => by
    simp only [runM] at h
    cases hn : nx cf mn c with
    | none => rw [hn] at h; cases h
    | some y =>
      rw [hn] at h
      have hy : gtH c.2.2.2 y := by
        unfold nx at hn
        split at hn
        · cases hn
        · exact ex_mono hcf hn
      cases y with
      | inl c' => exact leH.tr hy (runM_leH hcf n c' r h)
      | inr x => cases h; exact hy
theorem callT_leH : ∀ (k mn : Nat) (as : List TV) (h : Hp) (r : Int × Hp), callT k mn as h = some r → leH h r.2
  | 0, _, _, _, _, h => by simp [callT] at h
  | k + 1, mn, as, h, r, hr => by
    rw [callT] at hr
    split at hr
    · split at hr
      · obtain ⟨n, hn⟩ := lim_some hr
        exact runM_leH (fun cal as h r => callT_leH k cal as h r) n _ r hn
      · cases hr
    · exact callT_leH k mn as h r hr
theorem CA_leH {mn : Nat} {as : List TV} {h : Hp} {r : Int × Hp} (hr : CA mn as h = some r) : leH h r.2 := callT_leH _ _ _ _ _ hr
theorem okH.upd {g : Gx} {h h' : Hp} (H : okH g h) {a : Int} (ha : 1 ≤ a) (ht : h'.1 = h.1) (hk : ∀ b, mK h' b = mK h b) (hl : ∀ b, mL h' b = mL h b) (ho : ∀ b, b ≠ a → ∀ j, mR h' b j = mR h b j) (hc : okCell (mK h a) (mL h a) (mR h' a)) : okH g h' := by
  obtain ⟨⟨s1, s2, s3, s4, s5⟩, h2, h3, h4⟩ := H
  refine ⟨⟨fun b hb => by rw [hk]; exact s1 b hb, fun b b1 b2 => ?_, fun b b1 b2 => ?_, by rw [hl]; exact s4, fun j hj => ?_⟩, fun b b1 b2 => ?_, by rw [hk]; exact h3, fun b hb => by rw [hk]; exact h4 b (by rw [← ht]; exact hb)⟩
  · rw [ho b (by omega), ho b (by omega)]; exact s2 b b1 b2
  · rw [hl]
    exact ⟨(s3 b b1 b2).1, fun j hj => by rw [ho b (by omega)]; exact (s3 b b1 b2).2 j hj⟩
  · rw [ho _ (by omega)]; exact s5 j hj
  · rw [hk, hl]
    by_cases e : b = a
    · subst e; exact hc
    · have : mR h' b = mR h b := funext (ho b e)
      rw [this]
      exact h2 b b1 (by rw [← ht]; exact b2)
theorem mR_up (h : Hp) (a i v : Int) : mR (mW h a i v) a = fun j => if j = i then v else mR h a j := by
  funext j
  rw [mR_mW]
  by_cases e : j = i <;> simp [e]
theorem okH.obj_put {g : Gx} {h : Hp} (H : okH g h) {a c v : Int} {k t : Nat} (hk : mK h a = c) (h1 : 1 ≤ c) (h2 : c ≤ 12) (ht : (tgs (c.toNat - 1))[k]? = some t) (hv : rng t v) : okH g (mW h a k v) := by
  obtain ⟨a1, a2⟩ := H.obj hk h1 h2
  refine H.upd a1 rfl (fun _ => rfl) (fun _ => rfl) (fun b hb j => by rw [mR_mW, if_neg (fun q => hb q.1)]) ?_
  rw [mR_up]
  rcases H.2.1 a a1 a2 with ⟨q1, q2, q3, q4⟩ | ⟨-, -, z⟩
  · refine Or.inl ⟨q1, q2, q3, fun j t' hj => ?_⟩
    by_cases e : j = k
    · subst e
      rw [hk] at hj
      rw [ht] at hj
      cases hj
      simpa using hv
    · have : ¬ ((j : Int) = (k : Int)) := by omega
      simpa [this] using q4 j t' hj
  · rw [hk] at z
    omega
theorem okH.arr_put {g : Gx} {h : Hp} (H : okH g h) {a i v : Int} (ha : 0 < a) (hk : mK h a = 101 ∧ -128 ≤ v ∧ v ≤ 127 ∨ mK h a = 102 ∧ in32 v ∨ mK h a = 103 ∧ in64 v ∨ mK h a = 104 ∧ (v = 0 ∨ v = 1) ∨ 111 ≤ mK h a ∧ mK h a ≤ 115 ∧ 0 ≤ v) : okH g (mW h a i v) := by
  obtain ⟨a1, a2⟩ := H.pos (a := a) (by omega) (by omega)
  refine H.upd a1 rfl (fun _ => rfl) (fun _ => rfl) (fun b hb j => by rw [mR_mW, if_neg (fun q => hb q.1)]) ?_
  rw [mR_up]
  rcases H.2.1 a a1 a2 with ⟨q1, q2, q3, q4⟩ | ⟨n1, n2, z⟩
  · omega
  · refine Or.inr ⟨n1, n2, ?_⟩
    have key : ∀ (P : Int → Prop), P v → (∀ j, 0 ≤ j → j < mL h a → P (mR h a j)) → ∀ j, 0 ≤ j → j < mL h a → P (if j = i then v else mR h a j) := by
      intro P hv hz j j1 j2
      by_cases e : j = i
      · rw [if_pos e]; exact hv
      · rw [if_neg e]; exact hz j j1 j2
    rcases z with ⟨z1, z2⟩ | ⟨z1, z2⟩ | ⟨z1, z2⟩ | ⟨z1, z2⟩ | ⟨z1, z0, z2⟩
    · exact Or.inl ⟨z1, key (fun x => -128 ≤ x ∧ x ≤ 127) (by omega) z2⟩
    · exact Or.inr (Or.inl ⟨z1, key in32 (by rcases hk with q | q | q | q | q <;> first | exact q.2 | omega) z2⟩)
    · exact Or.inr (Or.inr (Or.inl ⟨z1, key in64 (by rcases hk with q | q | q | q | q <;> first | exact q.2 | omega) z2⟩))
    · exact Or.inr (Or.inr (Or.inr (Or.inl ⟨z1, key (fun x => x = 0 ∨ x = 1) (by omega) z2⟩)))
    · exact Or.inr (Or.inr (Or.inr (Or.inr ⟨z1, z0, key (fun x => 0 ≤ x) (by omega) z2⟩)))
theorem okH.cpy {g : Gx} {h : Hp} (H : okH g h) {src sp dst dp n : Int} (hk : (mK h src = 101 ∨ mK h src = 102) ∧ mK h dst = mK h src ∧ 0 < src ∧ 0 < dst ∧ 0 ≤ sp ∧ 0 ≤ dp ∧ 0 ≤ n ∧ sp + n ≤ mL h src ∧ dp + n ≤ mL h dst) : okH g (mC h src sp dst dp n) := by
  obtain ⟨k1, k2, p1, p2, q1, q2, q3, q4, q5⟩ := hk
  obtain ⟨a1, a2⟩ := H.pos (a := src) (by omega) (by omega)
  obtain ⟨b1, b2⟩ := H.pos (a := dst) (by omega) (by omega)
  refine H.upd b1 rfl (fun _ => rfl) (fun _ => rfl) (fun b hb j => by rw [mR_mC, if_neg (fun q => hb q.1)]) ?_
  have e : mR (mC h src sp dst dp n) dst = fun j => if dp ≤ j ∧ j < dp + n then mR h src (sp + (j - dp)) else mR h dst j := by
    funext j
    rw [mR_mC]
    by_cases q : dp ≤ j ∧ j < dp + n <;> simp [q]
  rw [e]
  have cs := H.2.1 src a1 a2
  have cd' := H.2.1 dst b1 b2
  rcases cs with ⟨z, z', -⟩ | ⟨-, -, zs⟩
  · omega
  rcases cd' with ⟨z, z', -⟩ | ⟨n1, n2, zd⟩
  · omega
  refine Or.inr ⟨n1, n2, ?_⟩
  rcases k1 with k1 | k1
  · refine Or.inl ⟨by omega, fun j j1 j2 => ?_⟩
    have s1 : ∀ j, 0 ≤ j → j < mL h src → -128 ≤ mR h src j ∧ mR h src j ≤ 127 := by rcases zs with z | z | z | z | z <;> first | exact z.2 | omega
    have d1 : ∀ j, 0 ≤ j → j < mL h dst → -128 ≤ mR h dst j ∧ mR h dst j ≤ 127 := by rcases zd with z | z | z | z | z <;> first | exact z.2 | omega
    show -128 ≤ (if dp ≤ j ∧ j < dp + n then mR h src (sp + (j - dp)) else mR h dst j) ∧ (if dp ≤ j ∧ j < dp + n then mR h src (sp + (j - dp)) else mR h dst j) ≤ 127
    by_cases q : dp ≤ j ∧ j < dp + n
    · rw [if_pos q]; exact s1 _ (by omega) (by omega)
    · rw [if_neg q]; exact d1 _ j1 j2
  · refine Or.inr (Or.inl ⟨by omega, fun j j1 j2 => ?_⟩)
    have s1 : ∀ j, 0 ≤ j → j < mL h src → in32 (mR h src j) := by rcases zs with z | z | z | z | z <;> first | exact z.2 | omega
    have d1 : ∀ j, 0 ≤ j → j < mL h dst → in32 (mR h dst j) := by rcases zd with z | z | z | z | z <;> first | exact z.2 | omega
    show in32 (if dp ≤ j ∧ j < dp + n then mR h src (sp + (j - dp)) else mR h dst j)
    by_cases q : dp ≤ j ∧ j < dp + n
    · rw [if_pos q]; exact s1 _ (by omega) (by omega)
    · rw [if_neg q]; exact d1 _ j1 j2
theorem okH.mk {g : Gx} {h : Hp} (H : okH g h) {c : Int} {n : Nat} (hc : okCell c n (fun _ => 0)) : okH g (mA h c n) := by
  obtain ⟨⟨s1, s2, s3, s4, s5⟩, h2, h3, h4⟩ := H
  have ne : ∀ b : Int, b ≤ 0 → ¬ b = mT h + 1 := fun b hb => by unfold mT; omega
  refine ⟨⟨fun b hb => by rw [mK_mA, if_neg (ne b (by omega))]; exact s1 b hb, fun b b1 b2 => ?_, fun b b1 b2 => ?_, by rw [mL_mA, if_neg (ne _ (by omega))]; exact s4, fun j hj => ?_⟩, fun b b1 b2 => ?_, by rw [mK_mA, if_neg (ne 0 (by omega))]; exact h3, fun b hb => ?_⟩
  · rw [mR_mA, mR_mA, if_neg (ne b (by omega)), if_neg (ne b (by omega))]; exact s2 b b1 b2
  · rw [mL_mA, if_neg (ne b (by omega))]
    exact ⟨(s3 b b1 b2).1, fun j hj => by rw [mR_mA, if_neg (ne b (by omega))]; exact (s3 b b1 b2).2 j hj⟩
  · rw [mR_mA, if_neg (ne _ (by omega))]; exact s5 j hj
  · rw [mK_mA, mL_mA]
    by_cases e : b = mT h + 1
    · rw [if_pos e, if_pos e]
      have : mR (mA h c n) b = fun _ => 0 := by funext j; rw [mR_mA, if_pos e]
      rw [this]; exact hc
    · rw [if_neg e, if_neg e]
      have : mR (mA h c n) b = mR h b := by funext j; rw [mR_mA, if_neg e]
      rw [this]
      have b3 : b ≤ ((h.1.1 + 1 : Nat) : Int) := b2
      exact h2 b b1 (by unfold mT at e; omega)
  · have b3 : ((h.1.1 + 1 : Nat) : Int) < b := hb
    rw [mK_mA, if_neg (by unfold mT; omega)]
    exact h4 b (by omega)
