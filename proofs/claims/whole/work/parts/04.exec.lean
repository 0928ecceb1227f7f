/-! One step, runs, calls; and the rows by which runs are unfolded. -/
def cnd : Jvm.ClassFile.Cond → Int → Int → Bool
  | .eq, x, y => decide (x = y)
  | .ne, x, y => !decide (x = y)
  | .lt, x, y => decide (x < y)
  | .ge, x, y => !decide (x < y)
  | .gt, x, y => decide (y < x)
  | .le, x, y => !decide (y < x)
def lcm (a b : Int) : Int := if a < b then -1 else if a = b then 0 else 1
def atK : ArrayType → Int
  | .boolean => 104
  | .byte => 101
  | .int => 102
  | .long => 103
  | _ => 0
def tg1 (e : Ent) : Nat := e.2.2.1.headD 0
noncomputable def ex (cf : Nat → List TV → Hp → Res) (mn : Nat) (e : Ent) (ls : List (Option TV)) (st : List TV) (h : Hp) : Option (Cfg ⊕ (Int × Hp)) :=
  match e.1 with
  | .iconst i => go e.2.1 ls (vI i :: st) h
  | .bipush i => go e.2.1 ls (vI i :: st) h
  | .sipush i => go e.2.1 ls (vI i :: st) h
  | .lconst i => go e.2.1 ls (vL (i.val : Int) :: st) h
  | .ldc i => match kc (ow mn) i with
    | some v => go e.2.1 ls (v :: st) h
    | none => none
  | .ldc_w i => match kc (ow mn) i with
    | some v => go e.2.1 ls (v :: st) h
    | none => none
  | .ldc2_w i => match kc (ow mn) i with
    | some v => go e.2.1 ls (v :: st) h
    | none => none
  | .iload i => match gl ls i with
    | some (Sum.inl v) => go e.2.1 ls (vI v :: st) h
    | _ => none
  | .iload_n i => match gl ls i.val with
    | some (Sum.inl v) => go e.2.1 ls (vI v :: st) h
    | _ => none
  | .lload i => match gl ls i with
    | some (Sum.inr (Sum.inl v)) => go e.2.1 ls (vL v :: st) h
    | _ => none
  | .lload_n i => match gl ls i.val with
    | some (Sum.inr (Sum.inl v)) => go e.2.1 ls (vL v :: st) h
    | _ => none
  | .aload i => match gl ls i with
    | some (Sum.inr (Sum.inr v)) => go e.2.1 ls (vR v :: st) h
    | _ => none
  | .aload_n i => match gl ls i.val with
    | some (Sum.inr (Sum.inr v)) => go e.2.1 ls (vR v :: st) h
    | _ => none
  | .istore i => match st with
    | Sum.inl v :: st => (match st1 ls i (vI v) with
      | some ls' => go e.2.1 ls' st h
      | none => none)
    | _ => none
  | .istore_n i => match st with
    | Sum.inl v :: st => (match st1 ls i.val (vI v) with
      | some ls' => go e.2.1 ls' st h
      | none => none)
    | _ => none
  | .lstore i => match st with
    | Sum.inr (Sum.inl v) :: st => (match st2 ls i (vL v) with
      | some ls' => go e.2.1 ls' st h
      | none => none)
    | _ => none
  | .lstore_n i => match st with
    | Sum.inr (Sum.inl v) :: st => (match st2 ls i.val (vL v) with
      | some ls' => go e.2.1 ls' st h
      | none => none)
    | _ => none
  | .astore i => match st with
    | Sum.inr (Sum.inr v) :: st => (match st1 ls i (vR v) with
      | some ls' => go e.2.1 ls' st h
      | none => none)
    | _ => none
  | .astore_n i => match st with
    | Sum.inr (Sum.inr v) :: st => (match st1 ls i.val (vR v) with
      | some ls' => go e.2.1 ls' st h
      | none => none)
    | _ => none
  | .iinc i c => match gl ls i with
    | some (Sum.inl v) => (match st1 ls i (vI (w32 (v + c))) with
      | some ls' => go e.2.1 ls' st h
      | none => none)
    | _ => none
  | .iadd => match st with
    | Sum.inl b :: Sum.inl a :: st => go e.2.1 ls (vI (w32 (a + b)) :: st) h
    | _ => none
  | .isub => match st with
    | Sum.inl b :: Sum.inl a :: st => go e.2.1 ls (vI (w32 (a - b)) :: st) h
    | _ => none
  | .imul => match st with
    | Sum.inl b :: Sum.inl a :: st => go e.2.1 ls (vI (w32 (a * b)) :: st) h
    | _ => none
  | .idiv => match st with
    | Sum.inl b :: Sum.inl a :: st => if b = 0 then none else go e.2.1 ls (vI (w32 (a.tdiv b)) :: st) h
    | _ => none
  | .irem => match st with
    | Sum.inl b :: Sum.inl a :: st => if b = 0 then none else go e.2.1 ls (vI (a.tmod b) :: st) h
    | _ => none
  | .ineg => match st with
    | Sum.inl a :: st => go e.2.1 ls (vI (w32 (-a)) :: st) h
    | _ => none
  | .iand => match st with
    | Sum.inl b :: Sum.inl a :: st => go e.2.1 ls (vI (i_and a b) :: st) h
    | _ => none
  | .ior => match st with
    | Sum.inl b :: Sum.inl a :: st => go e.2.1 ls (vI (i_or a b) :: st) h
    | _ => none
  | .ixor => match st with
    | Sum.inl b :: Sum.inl a :: st => go e.2.1 ls (vI (i_xor a b) :: st) h
    | _ => none
  | .ishl => match st with
    | Sum.inl b :: Sum.inl a :: st => go e.2.1 ls (vI (i_shl a b) :: st) h
    | _ => none
  | .ishr => match st with
    | Sum.inl b :: Sum.inl a :: st => go e.2.1 ls (vI (i_shr a b) :: st) h
    | _ => none
  | .iushr => match st with
    | Sum.inl b :: Sum.inl a :: st => go e.2.1 ls (vI (i_ush a b) :: st) h
    | _ => none
  | .ladd => match st with
    | Sum.inr (Sum.inl b) :: Sum.inr (Sum.inl a) :: st => go e.2.1 ls (vL (w64 (a + b)) :: st) h
    | _ => none
  | .lsub => match st with
    | Sum.inr (Sum.inl b) :: Sum.inr (Sum.inl a) :: st => go e.2.1 ls (vL (w64 (a - b)) :: st) h
    | _ => none
  | .lmul => match st with
    | Sum.inr (Sum.inl b) :: Sum.inr (Sum.inl a) :: st => go e.2.1 ls (vL (w64 (a * b)) :: st) h
    | _ => none
  | .ldiv => match st with
    | Sum.inr (Sum.inl b) :: Sum.inr (Sum.inl a) :: st => if b = 0 then none else go e.2.1 ls (vL (w64 (a.tdiv b)) :: st) h
    | _ => none
  | .lrem => match st with
    | Sum.inr (Sum.inl b) :: Sum.inr (Sum.inl a) :: st => if b = 0 then none else go e.2.1 ls (vL (a.tmod b) :: st) h
    | _ => none
  | .lneg => match st with
    | Sum.inr (Sum.inl a) :: st => go e.2.1 ls (vL (w64 (-a)) :: st) h
    | _ => none
  | .i2l => match st with
    | Sum.inl a :: st => go e.2.1 ls (vL a :: st) h
    | _ => none
  | .l2i => match st with
    | Sum.inr (Sum.inl a) :: st => go e.2.1 ls (vI (w32 a) :: st) h
    | _ => none
  | .i2b => match st with
    | Sum.inl a :: st => go e.2.1 ls (vI (w8 a) :: st) h
    | _ => none
  | .i2c => match st with
    | Sum.inl a :: st => go e.2.1 ls (vI (a % 65536) :: st) h
    | _ => none
  | .lcmp => match st with
    | Sum.inr (Sum.inl b) :: Sum.inr (Sum.inl a) :: st => go e.2.1 ls (vI (lcm a b) :: st) h
    | _ => none
  | .dup => match st with
    | v :: st => if cat1 v = 1 then go e.2.1 ls (v :: v :: st) h else none
    | _ => none
  | .dup2 => match st with
    | v :: w :: st => if cat1 v = 1 ∧ cat1 w = 1 then go e.2.1 ls (v :: w :: v :: w :: st) h else none
    | _ => none
  | .pop => match st with
    | v :: st => if cat1 v = 1 then go e.2.1 ls st h else none
    | _ => none
  | .goto _ => go (tg1 e) ls st h
  | .ifCond c _ => match st with
    | Sum.inl x :: st => go (if cnd c x 0 = true then tg1 e else e.2.1) ls st h
    | _ => none
  | .if_icmp c _ => match st with
    | Sum.inl y :: Sum.inl x :: st => go (if cnd c x y = true then tg1 e else e.2.1) ls st h
    | _ => none
  | .ifnonnull _ => match st with
    | Sum.inr (Sum.inr a) :: st => if 0 ≤ a then go (if a = 0 then e.2.1 else tg1 e) ls st h else none
    | _ => none
  | .tableswitch _ lo _ _ => match st with
    | Sum.inl x :: st => go (tswi x (tg1 e) lo e.2.2.1.tail) ls st h
    | _ => none
  | .getfield i => match fl (ow mn) i, st with
    | some (c, k, 1), Sum.inr (Sum.inr a) :: st => if okF h a c = true then go e.2.1 ls (vL (mR h a k) :: st) h else none
    | some (c, k, 2), Sum.inr (Sum.inr a) :: st => if okF h a c = true then go e.2.1 ls (vR (mR h a k) :: st) h else none
    | some (c, k, _), Sum.inr (Sum.inr a) :: st => if okF h a c = true then go e.2.1 ls (vI (mR h a k) :: st) h else none
    | _, _ => none
  | .putfield i => match fl (ow mn) i, st with
    | some (c, k, 0), Sum.inl v :: Sum.inr (Sum.inr a) :: st => if okF h a c = true then go e.2.1 ls st (mW h a k v) else none
    | some (c, k, 1), Sum.inr (Sum.inl v) :: Sum.inr (Sum.inr a) :: st => if okF h a c = true then go e.2.1 ls st (mW h a k v) else none
    | some (c, k, 2), Sum.inr (Sum.inr v) :: Sum.inr (Sum.inr a) :: st => if okF h a c = true then go e.2.1 ls st (mW h a k v) else none
    | some (c, k, 3), Sum.inl v :: Sum.inr (Sum.inr a) :: st => if okF h a c = true then (if v = 0 ∨ v = 1 then go e.2.1 ls st (mW h a k v) else none) else none
    | _, _ => none
  | .getstatic i => match gs (ow mn) i with
    | some v => go e.2.1 ls (v :: st) h
    | none => none
  | .iaload => match st with
    | Sum.inl i :: Sum.inr (Sum.inr a) :: st => if okA h a 102 i = true then go e.2.1 ls (vI (mR h a i) :: st) h else none
    | _ => none
  | .laload => match st with
    | Sum.inl i :: Sum.inr (Sum.inr a) :: st => if okA h a 103 i = true then go e.2.1 ls (vL (mR h a i) :: st) h else none
    | _ => none
  | .baload => match st with
    | Sum.inl i :: Sum.inr (Sum.inr a) :: st => if okB h a i = true then go e.2.1 ls (vI (mR h a i) :: st) h else none
    | _ => none
  | .aaload => match st with
    | Sum.inl i :: Sum.inr (Sum.inr a) :: st => if okR h a i = true then go e.2.1 ls (vR (mR h a i) :: st) h else none
    | _ => none
  | .iastore => match st with
    | Sum.inl v :: Sum.inl i :: Sum.inr (Sum.inr a) :: st => if okS h a 102 i = true then go e.2.1 ls st (mW h a i v) else none
    | _ => none
  | .lastore => match st with
    | Sum.inr (Sum.inl v) :: Sum.inl i :: Sum.inr (Sum.inr a) :: st => if okS h a 103 i = true then go e.2.1 ls st (mW h a i v) else none
    | _ => none
  | .bastore => match st with
    | Sum.inl v :: Sum.inl i :: Sum.inr (Sum.inr a) :: st => if okS h a 101 i = true then go e.2.1 ls st (mW h a i (w8 v)) else if okS h a 104 i = true ∧ (v = 0 ∨ v = 1) then go e.2.1 ls st (mW h a i v) else none
    | _ => none
  | .aastore => match st with
    | Sum.inr (Sum.inr v) :: Sum.inl i :: Sum.inr (Sum.inr a) :: st => if okQ h a i v = true then go e.2.1 ls st (mW h a i v) else none
    | _ => none
  | .arraylength => match st with
    | Sum.inr (Sum.inr a) :: st => if okY h a = true then go e.2.1 ls (vI (mL h a) :: st) h else none
    | _ => none
  | .new i => match nw (ow mn) i with
    | some (c, n) => go e.2.1 ls (vR (mT h + 1) :: st) (mA h c n)
    | none => none
  | .newarray t => match st with
    | Sum.inl n :: st => if 0 ≤ n ∧ n ≤ 100000 then go e.2.1 ls (vR (mT h + 1) :: st) (mA h (atK t) n.toNat) else none
    | _ => none
  | .anewarray i => match aw (ow mn) i, st with
    | some c, Sum.inl n :: st => if 0 ≤ n ∧ n ≤ 100000 then go e.2.1 ls (vR (mT h + 1) :: st) (mA h c n.toNat) else none
    | _, _ => none
  | .invokestatic i => match ml mn i with
    | some (cal, n, _, rt) => (match popn n [] st with
      | some (as, rest) => if csum rest ≤ 8 then
          (if cal = 9991 then (match as with
            | [Sum.inr (Sum.inr src), Sum.inl sp, Sum.inr (Sum.inr dst), Sum.inl dp, Sum.inl k] => if okC h src sp dst dp k = true then go e.2.1 ls rest (mC h src sp dst dp k) else none
            | _ => none)
          else if cal < mn then (cf cal as h).bind (fun x => go e.2.1 ls (psh rt x.1 rest) x.2) else none) else none
      | none => none)
    | none => none
  | .invokevirtual i => match ml mn i with
    | some (cal, n, c, rt) => (match popn n [] st with
      | some (Sum.inr (Sum.inr a) :: as, rest) => if okF h a c = true then (if csum rest ≤ 8 ∧ cal < mn then (cf cal (Sum.inr (Sum.inr a) :: as) h).bind (fun x => go e.2.1 ls (psh rt x.1 rest) x.2) else none) else none
      | _ => none)
    | none => none
  | .invokespecial i => match ml mn i with
    | some (cal, n, c, rt) => (match popn n [] st with
      | some (Sum.inr (Sum.inr a) :: as, rest) => if cal = 9990 then (if 0 < a ∧ csum rest ≤ 8 then go e.2.1 ls rest h else none) else if okF h a c = true then (if csum rest ≤ 8 ∧ cal < mn ∧ rt = 0 then (cf cal (Sum.inr (Sum.inr a) :: as) h).bind (fun x => go e.2.1 ls rest x.2) else none) else none
      | _ => none)
    | none => none
  | .ireturn => match st with
    | [Sum.inl v] => if rok (rtM mn) v = true then some (Sum.inr (v, h)) else none
    | _ => none
  | .lreturn => match st with
    | [Sum.inr (Sum.inl v)] => some (Sum.inr (v, h))
    | _ => none
  | .areturn => match st with
    | [Sum.inr (Sum.inr v)] => if 0 < v then some (Sum.inr (v, h)) else none
    | _ => none
  | .return_ => match st with
    | [] => some (Sum.inr (0, h))
    | _ => none
  | _ => none
noncomputable def nx (cf : Nat → List TV → Hp → Res) (mn : Nat) (c : Cfg) : Option (Cfg ⊕ (Int × Hp)) := match cd mn c.1 with
  | none => none
  | some e => ex cf mn e (msk e.2.2.2 c.2.1) c.2.2.1 c.2.2.2
noncomputable def runM (cf : Nat → List TV → Hp → Res) (mn : Nat) : Nat → Cfg → Res
  | 0, _ => none
  | n + 1, c => match nx cf mn c with
    | none => none
    | some (Sum.inl c') => runM cf mn n c'
    | some (Sum.inr r) => some r
theorem runM_mono {cf : Nat → List TV → Hp → Res} {mn : Nat} : ∀ (n : Nat) (c : Cfg) (x : Int × Hp), runM cf mn n c = some x → ∀ k, runM cf mn (n + k) c = some x
  | 0, _, _, h, _ => by simp [runM] at h
  | n + 1, c, x, h, k => by
    have e : n + 1 + k = (n + k) + 1 := by omega
    rw [e]
    simp only [runM] at h ⊢
    cases hn : nx cf mn c with
    | none => rw [hn] at h; exact h
    | some y =>
      rw [hn] at h
      cases y with
      | inl c' => exact runM_mono n c' x h k
      | inr r => exact h
noncomputable def lim {α : Type} (f : Nat → Option α) : Option α := @dite (Option α) (∃ n x, f n = some x) (Classical.propDecidable _) (fun h => f h.choose) (fun _ => none)
theorem lim_eq {α : Type} {f : Nat → Option α} (hm : ∀ n x, f n = some x → ∀ k, f (n + k) = some x) {n : Nat} {x : α} (h : f n = some x) : lim f = some x := by
  have he : ∃ n x, f n = some x := ⟨n, x, h⟩
  unfold lim
  rw [dif_pos he]
  obtain ⟨y, hy⟩ := he.choose_spec
  have a := hm _ _ hy n
  have b := hm _ _ h he.choose
  rw [Nat.add_comm] at b
  rw [hy, ← a, b]
theorem lim_some {α : Type} {f : Nat → Option α} {x : α} (h : lim f = some x) : ∃ n, f n = some x := by
  unfold lim at h
  by_cases he : ∃ n x, f n = some x
  · rw [dif_pos he] at h; exact ⟨_, h⟩
  · rw [dif_neg he] at h; cases h
noncomputable def RLc (cf : Nat → List TV → Hp → Res) (mn : Nat) (c : Cfg) : Res := lim (fun n => runM cf mn n c)
theorem RLc_eq (cf : Nat → List TV → Hp → Res) (mn : Nat) (c : Cfg) : RLc cf mn c = match nx cf mn c with
    | none => none
    | some (Sum.inl c') => RLc cf mn c'
    | some (Sum.inr r) => some r := by
  have key : ∀ (n : Nat), runM cf mn (n + 1) c = match nx cf mn c with
    | none => none
    | some (Sum.inl c') => runM cf mn n c'
    | some (Sum.inr r) => some r := fun n => by rw [runM] <;> rfl
  cases hn : nx cf mn c with
  | none =>
    simp only [hn] at key ⊢
    cases hr : RLc cf mn c with
    | none => rfl
    | some x =>
      obtain ⟨n, h⟩ := lim_some hr
      cases n with
      | zero => simp [runM] at h
      | succ n => rw [key] at h; cases h
  | some y =>
    cases y with
    | inr r =>
      simp only [hn] at key ⊢
      exact lim_eq (fun n x h k => runM_mono n c x h k) (key 0)
    | inl c' =>
      simp only [hn] at key ⊢
      cases hr : RLc cf mn c' with
      | some x =>
        obtain ⟨n, h⟩ := lim_some hr
        exact lim_eq (n := n + 1) (fun n x h k => runM_mono n c x h k) ((key n).trans h)
      | none =>
        cases hs : RLc cf mn c with
        | none => rfl
        | some x =>
          obtain ⟨n, h⟩ := lim_some hs
          cases n with
          | zero => simp [runM] at h
          | succ n =>
            rw [key] at h
            have := lim_eq (fun n x h k => runM_mono n c' x h k) h
            rw [RLc] at hr
            rw [hr] at this
            cases this
noncomputable def callT : Nat → Nat → List TV → Hp → Res
  | 0, _, _, _ => none
  | k + 1, mn, as, h => if mn = k then (if (ini as).length ≤ mxl k then RLc (callT k) k (0, pad (mxl k) (ini as), [], h) else none) else callT k mn as h
noncomputable def CA (mn : Nat) (as : List TV) (h : Hp) : Res := callT NM mn as h
noncomputable def RL (mn pc : Nat) (ls : List (Option TV)) (st : List TV) (h : Hp) : Res := RLc (callT mn) mn (pc, ls, st, h)
theorem callT_at : ∀ (k mn : Nat) (as : List TV) (h : Hp), mn < k → callT k mn as h = if (ini as).length ≤ mxl mn then RL mn 0 (pad (mxl mn) (ini as)) [] h else none
  | 0, _, _, _, hk => absurd hk (Nat.not_lt_zero _)
  | k + 1, mn, as, h, hk => by
    by_cases e : mn = k
    · subst e
      rw [callT, if_pos rfl]
      rfl
    · rw [callT, if_neg e]
      exact callT_at k mn as h (by omega)
theorem CA_at {mn : Nat} (hm : mn < NM) (as : List TV) (h : Hp) : CA mn as h = if (ini as).length ≤ mxl mn then RL mn 0 (pad (mxl mn) (ini as)) [] h else none := callT_at NM mn as h hm
theorem CA_eq {mn : Nat} (hm : Nat.blt mn NM = true) {as : List TV} {ls : List (Option TV)} (hf : Nat.ble (ini as).length (mxl mn) = true) (hl : pad (mxl mn) (ini as) = ls) (h : Hp) : CA mn as h = RL mn 0 ls [] h := by
  subst hl
  rw [CA_at (Nat.blt_eq.mp hm), if_pos (Nat.ble_eq.mp hf)]
theorem callT_CA {cal mn : Nat} (hc : cal < mn) (hm : mn ≤ NM) (as : List TV) (h : Hp) : callT mn cal as h = CA cal as h := by
  rw [callT_at _ _ _ _ hc, CA, callT_at _ _ _ _ (Nat.lt_of_lt_of_le hc hm)]
theorem cd_lt {mn pc : Nat} {e : Ent} (h : cd mn pc = some e) : mn < NM := by
  unfold cd at h
  cases hb : Nat.blt mn NM with
  | true => exact Nat.blt_eq.mp hb
  | false => rw [hb] at h; cases h
theorem RL_go {mn pc : Nat} {e : Ent} {ls : List (Option TV)} {st : List TV} {h : Hp} {pc' : Nat} {ls' : List (Option TV)} {st' : List TV} {h' : Hp} {R : Res} (hc : cd mn pc = some e) (hm : msk e.2.2.2 ls = ls) (hx : ex (callT mn) mn e ls st h = go pc' ls' st' h') (k : RL mn pc' ls' st' h' = R) : RL mn pc ls st h = R := by
  rw [RL, RLc_eq]
  have : nx (callT mn) mn (pc, ls, st, h) = go pc' ls' st' h' := by
    simp only [nx, hc, hm]
    exact hx
  rw [this]
  exact k
theorem RL_end {mn pc : Nat} {e : Ent} {ls : List (Option TV)} {st : List TV} {h : Hp} {r : Option (Int × Hp)} (hc : cd mn pc = some e) (hm : msk e.2.2.2 ls = ls) (hx : ex (callT mn) mn e ls st h = r.map Sum.inr) : RL mn pc ls st h = r := by
  rw [RL, RLc_eq]
  have : nx (callT mn) mn (pc, ls, st, h) = r.map Sum.inr := by
    simp only [nx, hc, hm]
    exact hx
  rw [this]
  cases r <;> rfl
theorem mskL_mskL : ∀ (q : List Bool) (ls : List (Option TV)), mskL q (mskL q ls) = mskL q ls
  | [], ls => by simp [mskL]
  | true :: _, [] => rfl
  | false :: _, [] => rfl
  | true :: bs, v :: ls => by simp only [mskL]; rw [mskL_mskL bs ls]
  | false :: bs, v :: ls => by simp only [mskL]; rw [mskL_mskL bs ls]
theorem msk_msk : ∀ (q : Option (List Bool)) (ls : List (Option TV)), msk q (msk q ls) = msk q ls
  | none, _ => rfl
  | some bs, ls => mskL_mskL bs ls
theorem x_cut {mn pc : Nat} {e : Ent} {ls ls' : List (Option TV)} {st : List TV} {h : Hp} (hc : cd mn pc = some e) (hm : msk e.2.2.2 ls = ls') : RL mn pc ls st h = RL mn pc ls' st h := by
  subst hm
  rw [RL, RL, RLc_eq, RLc_eq]
  have : nx (callT mn) mn (pc, ls, st, h) = nx (callT mn) mn (pc, msk e.2.2.2 ls, st, h) := by
    simp only [nx, hc, msk_msk]
  rw [this]
