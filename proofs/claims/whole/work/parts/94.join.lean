/-! Both sides of a call in one. -/
def Al (h : Hp) : Prop := (∃ T, Inv h T) ∧ Ims h
def Bo (h : Hp) (f g : Hp → Res) : Prop := ∃ a h1 h2, f h = some (a, h1) ∧ g h1 = some (a, h2) ∧ Al h2 ∧ Kp h h1 ∧ Kp h1 h2
theorem bq {h : Hp} {T : Int → Int} {f g : Hp → Res} {a : Int} (w : Inv h T) (m : Ims h) (q : ∃ h', f h = some (a, h') ∧ Fr pZ h h') (r : ∀ h1, Inv h1 T → ∃ h', g h1 = some (a, h') ∧ Fr pZ h1 h') : Bo h f g := by
  obtain ⟨h1, g1, f1⟩ := q
  obtain ⟨h2, g2, f2⟩ := r h1 (w.of f1)
  exact ⟨a, h1, h2, g1, g2, ⟨⟨T, (w.of f1).of f2⟩, (m.of (f1.to pZ_I)).of (f2.to pZ_I)⟩, (f1.to pZ_I).kI, (f2.to pZ_I).kI⟩
theorem bs {h : Hp} {T : Int → Int} {f g : Hp → Res} {a : Int} (w : Inv h T) (m : Ims h) (q : f h = some (a, h)) (r : g h = some (a, h)) : Bo h f g := ⟨a, h, h, q, r, ⟨⟨T, w⟩, m⟩, Kp.rf h, Kp.rf h⟩
theorem bc {h : Hp} {T T' : Int → Int} {f g : Hp → Res} {a : Int} {K : Prop} (w : Inv h T) (m : Ims h) (q : ∃ h', f h = some (a, h') ∧ Fr pW h h' ∧ (K → CIn h' T') ∧ (¬ K → h' = h)) (r : ∀ h1, MIn h1 T → ∃ h', g h1 = some (a, h') ∧ Fr pD h1 h' ∧ (K → MIn h' T') ∧ (¬ K → h' = h1)) : Bo h f g := by
  obtain ⟨h1, g1, f1, c1, n1⟩ := q
  have fC := f1.to pW_C
  obtain ⟨h2, g2, f2, c2, n2⟩ := r h1 (w.m.of fC)
  refine ⟨a, h1, h2, g1, g2, ⟨?_, (m.of (fC.to pC_I)).of (f2.to pD_I)⟩, (fC.to pC_I).kI, (f2.to pD_I).kI⟩
  by_cases z : K
  · exact ⟨T', Inv.j ((c1 z).of f2) (c2 z)⟩
  · rw [n2 z, n1 z]; exact ⟨T, w⟩
theorem be {h : Hp} {T T' : Int → Int} {f g : Hp → Res} {a : Int} (w : Inv h T) (m : Ims h) (q : ∃ h', f h = some (a, h') ∧ Fr pC h h' ∧ CIn h' T') (r : ∀ h1, MIn h1 T → ∃ h', g h1 = some (a, h') ∧ Fr pD h1 h' ∧ MIn h' T') : Bo h f g := by
  obtain ⟨h1, g1, fC, c1⟩ := q
  obtain ⟨h2, g2, f2, c2⟩ := r h1 (w.m.of fC)
  exact ⟨a, h1, h2, g1, g2, ⟨⟨T', Inv.j (c1.of f2) c2⟩, (m.of (fC.to pC_I)).of (f2.to pD_I)⟩, (fC.to pC_I).kI, (f2.to pD_I).kI⟩
theorem b_scale {h : Hp} (w : Al h) (a b c d : Int) : Bo h (C_LS_scale 1 a b c d) (C_Mo_scale 124 a b c d) := by
  obtain ⟨⟨T, w⟩, m⟩ := w
  exact bq w m (q_scale w a b c d) (fun h1 w1 => r_scale w1 a b c d)
theorem b_far {h : Hp} (w : Al h) (a b c d e : Int) : Bo h (C_LS_far 1 a b c d e) (C_Mo_far 124 a b c d e) := by
  obtain ⟨⟨T, w⟩, m⟩ := w
  exact bq w m (q_far w a b c d e) (fun h1 w1 => r_far w1 a b c d e)
theorem b_line {h : Hp} (w : Al h) (a b c d : Int) : Bo h (C_LS_line 1 a b c d) (C_Mo_line 124 a b c d) := by
  obtain ⟨⟨T, w⟩, m⟩ := w
  exact bq w m (q_line w a b c d) (fun h1 w1 => r_line w1 a b c d)
theorem b_left {h : Hp} (w : Al h) (a b c d : Int) : Bo h (C_LS_left 1 a b c d) (C_Mo_left 124 a b c d) := by
  obtain ⟨⟨T, w⟩, m⟩ := w
  exact bq w m (q_left w a b c d) (fun h1 w1 => r_left w1 a b c d)
theorem b_spread {h : Hp} (w : Al h) (a b c : Int) : Bo h (C_LS_spread 1 a b c) (C_Mo_spread 124 a b c) := by
  obtain ⟨⟨T, w⟩, m⟩ := w
  exact bq w m (q_spread w a b c) (fun h1 w1 => r_spread w1 a b c)
theorem b_without {h : Hp} (w : Al h) (a b c d : Int) : Bo h (C_LS_without 1 a b c d) (C_Mo_without 124 a b c d) := by
  obtain ⟨⟨T, w⟩, m⟩ := w
  exact bq w m (q_without w a b c d) (fun h1 w1 => r_without w1 a b c d)
theorem b_span {h : Hp} (w : Al h) (a b c d : Int) : Bo h (C_LS_span 1 a b c d) (C_Mo_span 124 a b c d) := by
  obtain ⟨⟨T, w⟩, m⟩ := w
  exact bq w m (q_span w a b c d) (fun h1 w1 => r_span w1 a b c d)
theorem b_odd {h : Hp} (w : Al h) (a b c d : Int) : Bo h (C_LS_odd 1 a b c d) (C_Mo_odd 124 a b c d) := by
  obtain ⟨⟨T, w⟩, m⟩ := w
  exact bq w m (q_odd w a b c d) (fun h1 w1 => r_odd w1 a b c d)
theorem b_age {h : Hp} (w : Al h) (a b c : Int) : Bo h (C_LS_age 1 a b c) (C_Mo_age 124 a b c) := by
  obtain ⟨⟨T, w⟩, m⟩ := w
  exact bq w m (q_age w a b c) (fun h1 w1 => r_age w1 a b c)
theorem b_barred {h : Hp} (w : Al h) (a b c : Int) : Bo h (C_LS_barred 1 a b c) (C_Mo_barred 124 a b c) := by
  obtain ⟨⟨T, w⟩, m⟩ := w
  exact bq w m (q_barred w a b c) (fun h1 w1 => r_barred w1 a b c)
theorem b_up {h : Hp} (w : Al h) (a b c d : Int) : Bo h (C_LS_up 1 a b c d) (C_Mo_up 124 a b c d) := by
  obtain ⟨⟨T, w⟩, m⟩ := w
  exact bq w m (q_up w a b c d) (fun h1 w1 => r_up w1 a b c d)
theorem b_worst {h : Hp} (w : Al h) (a b c : Int) : Bo h (C_LS_worst 1 a b c) (C_Mo_worst 124 a b c) := by
  obtain ⟨⟨T, w⟩, m⟩ := w
  exact bq w m (q_worst w a b c) (fun h1 w1 => r_worst w1 a b c)
theorem b_part {h : Hp} (w : Al h) (a b c d : Int) : Bo h (C_LS_part 1 a b c d) (C_Mo_part 124 a b c d) := by
  obtain ⟨⟨T, w⟩, m⟩ := w
  exact bq w m (q_part w a b c d) (fun h1 w1 => r_part w1 a b c d)
theorem b_agree {h : Hp} (w : Al h) (a b c d : Int) : Bo h (C_LS_agree 1 a b c d) (C_Mo_agree 124 a b c d) := by
  obtain ⟨⟨T, w⟩, m⟩ := w
  exact bq w m (q_agree w a b c d) (fun h1 w1 => r_agree w1 a b c d)
theorem b_since {h : Hp} (w : Al h) (a b : Int) : Bo h (C_LS_since 1 a b) (C_Mo_since 124 a b) := by
  obtain ⟨⟨T, w⟩, m⟩ := w
  exact bq w m (q_since w a b) (fun h1 w1 => r_since w1 a b)
theorem b_stands {h : Hp} (w : Al h) (a b c : Int) : Bo h (C_LS_stands 1 a b c) (C_Mo_stands 124 a b c) := by
  obtain ⟨⟨T, w⟩, m⟩ := w
  exact bq w m (q_stands w a b c) (fun h1 w1 => r_stands w1 a b c)
theorem b_worlds {h : Hp} (w : Al h) (a b c d e : Int) : Bo h (C_LS_worlds 1 a b c d e) (C_Mo_worlds 124 a b c d e) := by
  obtain ⟨⟨T, w⟩, m⟩ := w
  exact bq w m (q_worlds w a b c d e) (fun h1 w1 => r_worlds w1 a b c d e)
theorem b_chance {h : Hp} (w : Al h) (a b c : Int) : Bo h (C_LS_chance 1 a b c) (C_Mo_chance 124 a b c) := by
  obtain ⟨⟨T, w⟩, m⟩ := w
  exact bq w m (q_chance w a b c) (fun h1 w1 => r_chance w1 a b c)
theorem b_alike {h : Hp} (w : Al h) (a b c d : Int) : Bo h (C_LS_alike 1 a b c d) (C_Mo_alike 124 a b c d) := by
  obtain ⟨⟨T, w⟩, m⟩ := w
  exact bq w m (q_alike w a b c d) (fun h1 w1 => r_alike w1 a b c d)
theorem b_heaps {h : Hp} (w : Al h) (a b c d e : Int) : Bo h (C_LS_heaps 1 a b c d e) (C_Mo_heaps 124 a b c d e) := by
  obtain ⟨⟨T, w⟩, m⟩ := w
  exact bq w m (q_heaps w a b c d e) (fun h1 w1 => r_heaps w1 a b c d e)
theorem b_middle {h : Hp} (w : Al h) (a b c : Int) : Bo h (C_LS_middle 1 a b c) (C_Mo_middle 124 a b c) := by
  obtain ⟨⟨T, w⟩, m⟩ := w
  exact bq w m (q_middle w a b c) (fun h1 w1 => r_middle w1 a b c)
theorem b_across {h : Hp} (w : Al h) (a b c d : Int) : Bo h (C_LS_across 1 a b c d) (C_Mo_across 124 a b c d) := by
  obtain ⟨⟨T, w⟩, m⟩ := w
  exact bq w m (q_across w a b c d) (fun h1 w1 => r_across w1 a b c d)
theorem b_path {h : Hp} (w : Al h) (a b c d e : Int) : Bo h (C_LS_path 1 a b c d e) (C_Mo_path 124 a b c d e) := by
  obtain ⟨⟨T, w⟩, m⟩ := w
  exact bq w m (q_path w a b c d e) (fun h1 w1 => r_path w1 a b c d e)
theorem b_strait {h : Hp} (w : Al h) (a b c : Int) : Bo h (C_LS_strait 1 a b c) (C_Mo_strait 124 a b c) := by
  obtain ⟨⟨T, w⟩, m⟩ := w
  exact bq w m (q_strait w a b c) (fun h1 w1 => r_strait w1 a b c)
theorem b_changes {h : Hp} (w : Al h) (a b : Int) : Bo h (C_LS_changes 1 a b) (C_Mo_changes 124 a b) := by
  obtain ⟨⟨T, w⟩, m⟩ := w
  exact bq w m (q_changes w a b) (fun h1 w1 => r_changes w1 a b)
theorem b_next {h : Hp} (w : Al h) (a b c : Int) : Bo h (C_LS_next 1 a b c) (C_Mo_next 124 a b c) := by
  obtain ⟨⟨T, w⟩, m⟩ := w
  exact bq w m (q_next w a b c) (fun h1 w1 => r_next w1 a b c)
theorem b_kept {h : Hp} (w : Al h) (a b : Int) : Bo h (C_LS_kept 1 a b) (C_Mo_kept 124 a b) := by
  obtain ⟨⟨T, w⟩, m⟩ := w
  exact bq w m (q_kept w a b) (fun h1 w1 => r_kept w1 a b)
theorem b_beside {h : Hp} (w : Al h) (a b c d e : Int) : Bo h (C_LS_beside 1 a b c d e) (C_Mo_beside 124 a b c d e) := by
  obtain ⟨⟨T, w⟩, m⟩ := w
  exact bq w m (q_beside w a b c d e) (fun h1 w1 => r_beside w1 a b c d e)
theorem b_fault {h : Hp} (w : Al h) (a : Int) : Bo h (C_LS_fault 1 a) (C_Mo_fault 124 a) := by
  obtain ⟨⟨T, w⟩, m⟩ := w
  exact bs w m (q_fault w a) (r_fault w a)
theorem b_speed {h : Hp} (w : Al h) (a b : Int) : Bo h (C_LS_speed 1 a b) (C_Mo_speed 124 a b) := by
  obtain ⟨⟨T, w⟩, m⟩ := w
  exact bs w m (q_speed w a b) (r_speed w a b)
theorem b_entry {h : Hp} (w : Al h) (a b c d : Int) : Bo h (C_LS_entry 1 a b c d) (C_Mo_entry 124 a b c d) := by
  obtain ⟨⟨T, w⟩, m⟩ := w
  exact bs w m (q_entry w a b c d) (r_entry w a b c d)
theorem b_of {h : Hp} (w : Al h) (a b : Int) : Bo h (C_LS_of 1 a b) (C_Mo_of 124 a b) := by
  obtain ⟨⟨T, w⟩, m⟩ := w
  exact bs w m (q_of w a b) (r_of w a b)
theorem b_sky {h : Hp} (w : Al h) (a b : Int) : Bo h (C_LS_sky 1 a b) (C_Mo_sky 124 a b) := by
  obtain ⟨⟨T, w⟩, m⟩ := w
  exact bs w m (q_sky w a b) (r_sky w a b)
theorem b_seen {h : Hp} (w : Al h) (a b : Int) : Bo h (C_LS_seen 1 a b) (C_Mo_seen 124 a b) := by
  obtain ⟨⟨T, w⟩, m⟩ := w
  exact bs w m (q_seen w a b) (r_seen w a b)
theorem b_count {h : Hp} (w : Al h) (a : Int) : Bo h (C_LS_count 1 a) (C_Mo_count 124 a) := by
  obtain ⟨⟨T, w⟩, m⟩ := w
  exact bs w m (q_count w a) (r_count w a)
theorem b_chosen {h : Hp} (w : Al h) (a b c d : Int) : Bo h (C_LS_chosen 1 a b c d) (C_Mo_chosen 124 a b c d) := by
  obtain ⟨⟨T, w⟩, m⟩ := w
  exact bs w m (q_chosen w a b c d) (r_chosen w a b c d)
theorem b_about {h : Hp} (w : Al h) (a b : Int) (q : in32 b) : Bo h (C_LS_about 1 a b) (C_Mo_about 124 a b) := by
  obtain ⟨⟨T, w⟩, m⟩ := w
  exact bs w m (q_about w a b q) (r_about w a b)
theorem b_sorts {h : Hp} (w : Al h) (a b c d e : Int) (q : in32 e) : Bo h (C_LS_sorts 1 a b c d e) (C_Mo_sorts 124 a b c d e) := by
  obtain ⟨⟨T, w⟩, m⟩ := w
  exact bq w m (q_sorts w a b c d e q) (fun h1 w1 => r_sorts w1 a b c d e)
theorem b_has {h : Hp} (w : Al h) (a b c d e : Int) : Bo h (C_LS_has 1 a b c d e) (C_Mo_has 124 a b c d e) := by
  obtain ⟨⟨T, w⟩, m⟩ := w
  exact bc w m (q_has w a b c d e) (fun h1 w1 => r_has w1 w.c.tok a b c d e)
theorem b_lean {h : Hp} (w : Al h) (a b c : Int) : Bo h (C_LS_lean 1 a b c) (C_Mo_lean 124 a b c) := by
  obtain ⟨⟨T, w⟩, m⟩ := w
  exact bc w m (q_lean w a b c) (fun h1 w1 => r_lean w1 w.c.tok a b c)
theorem b_cast {h : Hp} (w : Al h) (a b c : Int) (q : c = 0 ∨ c = 1) : Bo h (C_LS_cast 1 a b c) (C_Mo_cast 124 a b c) := by
  obtain ⟨⟨T, w⟩, m⟩ := w
  exact bc w m (q_cast w a b c q) (fun h1 w1 => r_cast w1 w.c.tok a b c)
theorem b_say {h : Hp} (w : Al h) (a b c d : Int) : Bo h (C_LS_say 1 a b c d) (C_Mo_say 124 a b c d) := by
  obtain ⟨⟨T, w⟩, m⟩ := w
  exact bc w m (q_say w a b c d) (fun h1 w1 => r_say w1 w.c.tok a b c d)
theorem b_make {h : Hp} (w : Al h) (a b c : Int) : Bo h (C_LS_make 1 a b c) (C_Mo_make 124 a b c) := by
  obtain ⟨⟨T, w⟩, m⟩ := w
  obtain ⟨h1, g1, f1, c1, n1⟩ := q_make w a b c
  exact bc (K := aMake T a b ≠ -1) w m ⟨h1, g1, f1, c1, fun z => n1 (Classical.not_not.1 z)⟩ (fun h1 w1 => by
    obtain ⟨h2, g2, f2, c2, n2⟩ := r_make w1 w.c.tok a b c
    exact ⟨h2, g2, f2, c2, fun z => n2 (Classical.not_not.1 z)⟩)
theorem b_feed {h : Hp} (w : Al h) (a b c d e : Int) : Bo h (C_LS_feed 1 a b c d e) (C_Mo_feed 124 a b c d e) := by
  obtain ⟨⟨T, w⟩, m⟩ := w
  obtain ⟨h1, g1, f1, c1⟩ := q_feed w a b c d e
  exact be w m ⟨h1, g1, f1.to pW_C, c1⟩ (fun h1 w1 => r_feed w1 w.c.tok a b c d e)
theorem b_end {h : Hp} (w : Al h) (a : Int) : Bo h (C_LS_end 1 a) (C_Mo_end 124 a) := by
  obtain ⟨⟨T, w⟩, m⟩ := w
  exact be w m (q_end w.c a) (fun h1 w1 => r_end w1 a)
theorem j_image {h : Hp} (w : Al h) (a : Int) : Bo h (C_LS_image 1 a) (C_Mo_image 124 a) := by
  obtain ⟨⟨T, w⟩, m⟩ := w
  obtain ⟨x, h1, h2, g1, g2, w2, m2, k1, k2⟩ := b_image w m a
  exact ⟨x, h1, h2, g1, g2, ⟨⟨T, w2⟩, m2⟩, k1, k2⟩
theorem j_again {h : Hp} (w : Al h) (a : Int) : Bo h (C_LS_again 1 a) (C_Mo_again 124 a) := by
  obtain ⟨⟨T, w⟩, m⟩ := w
  obtain ⟨x, h1, h2, T', g1, g2, w2, m2, k1, k2⟩ := b_again w m a
  exact ⟨x, h1, h2, g1, g2, ⟨⟨T', w2⟩, m2⟩, k1, k2⟩
