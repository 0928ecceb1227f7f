/-! The unfolding rows, one for each shape of instruction: printed by wip/whole/gen/xr.py. -/
theorem lcm_f (x y : Int) : (lcm x y = 0 ↔ x = y) ∧ (lcm x y < 0 ↔ x < y) ∧ (0 < lcm x y ↔ y < x) := by
  unfold lcm
  refine ⟨?_, ?_, ?_⟩ <;> (split <;> (try split) <;> omega)
theorem x_iconst {mn pc nx_ : Nat} {tt : List Nat} {q : Option (List Bool)} {ls : List (Option TV)} {st : List TV} {h : Hp} {i : Int} {R : Res} (hc : cd mn pc = some (.iconst i, nx_, tt, q)) (hm : msk q ls = ls)  (k : RL mn nx_ ls (vI i :: st) h = R) : RL mn pc ls st h = R := RL_go hc hm (by rfl) k
theorem x_bipush {mn pc nx_ : Nat} {tt : List Nat} {q : Option (List Bool)} {ls : List (Option TV)} {st : List TV} {h : Hp} {i : Int} {R : Res} (hc : cd mn pc = some (.bipush i, nx_, tt, q)) (hm : msk q ls = ls)  (k : RL mn nx_ ls (vI i :: st) h = R) : RL mn pc ls st h = R := RL_go hc hm (by rfl) k
theorem x_sipush {mn pc nx_ : Nat} {tt : List Nat} {q : Option (List Bool)} {ls : List (Option TV)} {st : List TV} {h : Hp} {i : Int} {R : Res} (hc : cd mn pc = some (.sipush i, nx_, tt, q)) (hm : msk q ls = ls)  (k : RL mn nx_ ls (vI i :: st) h = R) : RL mn pc ls st h = R := RL_go hc hm (by rfl) k
theorem x_lconst {mn pc nx_ : Nat} {tt : List Nat} {q : Option (List Bool)} {ls : List (Option TV)} {st : List TV} {h : Hp} {i : Fin 2} {v : Int} {R : Res} (hc : cd mn pc = some (.lconst i, nx_, tt, q)) (hm : msk q ls = ls) (hv : (i.val : Int) = v) (k : RL mn nx_ ls (vL v :: st) h = R) : RL mn pc ls st h = R := RL_go hc hm (by subst hv; rfl) k
theorem x_ldc {mn pc nx_ : Nat} {tt : List Nat} {q : Option (List Bool)} {ls : List (Option TV)} {st : List TV} {h : Hp} {i : Nat} {v : TV} {R : Res} (hc : cd mn pc = some (.ldc i, nx_, tt, q)) (hm : msk q ls = ls) (hk : kc (ow mn) i = some v) (k : RL mn nx_ ls (v :: st) h = R) : RL mn pc ls st h = R := RL_go hc hm (by simp only [ex, hk]) k
theorem x_ldc_w {mn pc nx_ : Nat} {tt : List Nat} {q : Option (List Bool)} {ls : List (Option TV)} {st : List TV} {h : Hp} {i : Nat} {v : TV} {R : Res} (hc : cd mn pc = some (.ldc_w i, nx_, tt, q)) (hm : msk q ls = ls) (hk : kc (ow mn) i = some v) (k : RL mn nx_ ls (v :: st) h = R) : RL mn pc ls st h = R := RL_go hc hm (by simp only [ex, hk]) k
theorem x_ldc2_w {mn pc nx_ : Nat} {tt : List Nat} {q : Option (List Bool)} {ls : List (Option TV)} {st : List TV} {h : Hp} {i : Nat} {v : TV} {R : Res} (hc : cd mn pc = some (.ldc2_w i, nx_, tt, q)) (hm : msk q ls = ls) (hk : kc (ow mn) i = some v) (k : RL mn nx_ ls (v :: st) h = R) : RL mn pc ls st h = R := RL_go hc hm (by simp only [ex, hk]) k
theorem x_getst {mn pc nx_ : Nat} {tt : List Nat} {q : Option (List Bool)} {ls : List (Option TV)} {st : List TV} {h : Hp} {i : Nat} {v : TV} {R : Res} (hc : cd mn pc = some (.getstatic i, nx_, tt, q)) (hm : msk q ls = ls) (hk : gs (ow mn) i = some v) (k : RL mn nx_ ls (v :: st) h = R) : RL mn pc ls st h = R := RL_go hc hm (by simp only [ex, hk]) k
theorem x_iload {mn pc nx_ : Nat} {tt : List Nat} {q : Option (List Bool)} {ls : List (Option TV)} {st : List TV} {h : Hp} {i : Nat} {v : Int} {R : Res} (hc : cd mn pc = some (.iload i, nx_, tt, q)) (hm : msk q ls = ls) (hg : gl ls i = some (vI v)) (k : RL mn nx_ ls (vI v :: st) h = R) : RL mn pc ls st h = R := RL_go hc hm (by simp only [ex, hg]) k
theorem x_iload_n {mn pc nx_ : Nat} {tt : List Nat} {q : Option (List Bool)} {ls : List (Option TV)} {st : List TV} {h : Hp} {i : Fin 4} {v : Int} {R : Res} (hc : cd mn pc = some (.iload_n i, nx_, tt, q)) (hm : msk q ls = ls) (hg : gl ls i.val = some (vI v)) (k : RL mn nx_ ls (vI v :: st) h = R) : RL mn pc ls st h = R := RL_go hc hm (by simp only [ex, hg]) k
theorem x_lload {mn pc nx_ : Nat} {tt : List Nat} {q : Option (List Bool)} {ls : List (Option TV)} {st : List TV} {h : Hp} {i : Nat} {v : Int} {R : Res} (hc : cd mn pc = some (.lload i, nx_, tt, q)) (hm : msk q ls = ls) (hg : gl ls i = some (vL v)) (k : RL mn nx_ ls (vL v :: st) h = R) : RL mn pc ls st h = R := RL_go hc hm (by simp only [ex, hg]) k
theorem x_lload_n {mn pc nx_ : Nat} {tt : List Nat} {q : Option (List Bool)} {ls : List (Option TV)} {st : List TV} {h : Hp} {i : Fin 4} {v : Int} {R : Res} (hc : cd mn pc = some (.lload_n i, nx_, tt, q)) (hm : msk q ls = ls) (hg : gl ls i.val = some (vL v)) (k : RL mn nx_ ls (vL v :: st) h = R) : RL mn pc ls st h = R := RL_go hc hm (by simp only [ex, hg]) k
theorem x_aload {mn pc nx_ : Nat} {tt : List Nat} {q : Option (List Bool)} {ls : List (Option TV)} {st : List TV} {h : Hp} {i : Nat} {v : Int} {R : Res} (hc : cd mn pc = some (.aload i, nx_, tt, q)) (hm : msk q ls = ls) (hg : gl ls i = some (vR v)) (k : RL mn nx_ ls (vR v :: st) h = R) : RL mn pc ls st h = R := RL_go hc hm (by simp only [ex, hg]) k
theorem x_aload_n {mn pc nx_ : Nat} {tt : List Nat} {q : Option (List Bool)} {ls : List (Option TV)} {st : List TV} {h : Hp} {i : Fin 4} {v : Int} {R : Res} (hc : cd mn pc = some (.aload_n i, nx_, tt, q)) (hm : msk q ls = ls) (hg : gl ls i.val = some (vR v)) (k : RL mn nx_ ls (vR v :: st) h = R) : RL mn pc ls st h = R := RL_go hc hm (by simp only [ex, hg]) k
theorem x_istore {mn pc nx_ : Nat} {tt : List Nat} {q : Option (List Bool)} {ls : List (Option TV)} {st : List TV} {h : Hp} {i : Nat} {v : Int} {R : Res} (ls' : List (Option TV)) (hc : cd mn pc = some (.istore i, nx_, tt, q)) (hm : msk q ls = ls) (hg : st1 ls i (vI v) = some ls') (k : RL mn nx_ ls' st h = R) : RL mn pc ls (vI v :: st) h = R := RL_go hc hm (by simp only [ex, hg]) k
theorem x_istore_n {mn pc nx_ : Nat} {tt : List Nat} {q : Option (List Bool)} {ls : List (Option TV)} {st : List TV} {h : Hp} {i : Fin 4} {v : Int} {R : Res} (ls' : List (Option TV)) (hc : cd mn pc = some (.istore_n i, nx_, tt, q)) (hm : msk q ls = ls) (hg : st1 ls i.val (vI v) = some ls') (k : RL mn nx_ ls' st h = R) : RL mn pc ls (vI v :: st) h = R := RL_go hc hm (by simp only [ex, hg]) k
theorem x_lstore {mn pc nx_ : Nat} {tt : List Nat} {q : Option (List Bool)} {ls : List (Option TV)} {st : List TV} {h : Hp} {i : Nat} {v : Int} {R : Res} (ls' : List (Option TV)) (hc : cd mn pc = some (.lstore i, nx_, tt, q)) (hm : msk q ls = ls) (hg : st2 ls i (vL v) = some ls') (k : RL mn nx_ ls' st h = R) : RL mn pc ls (vL v :: st) h = R := RL_go hc hm (by simp only [ex, hg]) k
theorem x_lstore_n {mn pc nx_ : Nat} {tt : List Nat} {q : Option (List Bool)} {ls : List (Option TV)} {st : List TV} {h : Hp} {i : Fin 4} {v : Int} {R : Res} (ls' : List (Option TV)) (hc : cd mn pc = some (.lstore_n i, nx_, tt, q)) (hm : msk q ls = ls) (hg : st2 ls i.val (vL v) = some ls') (k : RL mn nx_ ls' st h = R) : RL mn pc ls (vL v :: st) h = R := RL_go hc hm (by simp only [ex, hg]) k
theorem x_astore {mn pc nx_ : Nat} {tt : List Nat} {q : Option (List Bool)} {ls : List (Option TV)} {st : List TV} {h : Hp} {i : Nat} {v : Int} {R : Res} (ls' : List (Option TV)) (hc : cd mn pc = some (.astore i, nx_, tt, q)) (hm : msk q ls = ls) (hg : st1 ls i (vR v) = some ls') (k : RL mn nx_ ls' st h = R) : RL mn pc ls (vR v :: st) h = R := RL_go hc hm (by simp only [ex, hg]) k
theorem x_astore_n {mn pc nx_ : Nat} {tt : List Nat} {q : Option (List Bool)} {ls : List (Option TV)} {st : List TV} {h : Hp} {i : Fin 4} {v : Int} {R : Res} (ls' : List (Option TV)) (hc : cd mn pc = some (.astore_n i, nx_, tt, q)) (hm : msk q ls = ls) (hg : st1 ls i.val (vR v) = some ls') (k : RL mn nx_ ls' st h = R) : RL mn pc ls (vR v :: st) h = R := RL_go hc hm (by simp only [ex, hg]) k
theorem x_iinc {mn pc nx_ : Nat} {tt : List Nat} {q : Option (List Bool)} {ls : List (Option TV)} {st : List TV} {h : Hp} {i : Nat} {c v : Int} {R : Res} (ls' : List (Option TV)) (hc : cd mn pc = some (.iinc i c, nx_, tt, q)) (hm : msk q ls = ls) (hv : gl ls i = some (vI v)) (hg : st1 ls i (vI (w32 (v + c))) = some ls') (k : RL mn nx_ ls' st h = R) : RL mn pc ls st h = R := RL_go hc hm (by simp only [ex, hv, hg]) k
theorem x_iadd {mn pc nx_ : Nat} {tt : List Nat} {q : Option (List Bool)} {ls : List (Option TV)} {st : List TV} {h : Hp} {a b : Int} {R : Res} (hc : cd mn pc = some (.iadd, nx_, tt, q)) (hm : msk q ls = ls)  (k : RL mn nx_ ls (vI (w32 (a + b)) :: st) h = R) : RL mn pc ls (vI b :: vI a :: st) h = R := RL_go hc hm (by rfl) k
theorem x_isub {mn pc nx_ : Nat} {tt : List Nat} {q : Option (List Bool)} {ls : List (Option TV)} {st : List TV} {h : Hp} {a b : Int} {R : Res} (hc : cd mn pc = some (.isub, nx_, tt, q)) (hm : msk q ls = ls)  (k : RL mn nx_ ls (vI (w32 (a - b)) :: st) h = R) : RL mn pc ls (vI b :: vI a :: st) h = R := RL_go hc hm (by rfl) k
theorem x_imul {mn pc nx_ : Nat} {tt : List Nat} {q : Option (List Bool)} {ls : List (Option TV)} {st : List TV} {h : Hp} {a b : Int} {R : Res} (hc : cd mn pc = some (.imul, nx_, tt, q)) (hm : msk q ls = ls)  (k : RL mn nx_ ls (vI (w32 (a * b)) :: st) h = R) : RL mn pc ls (vI b :: vI a :: st) h = R := RL_go hc hm (by rfl) k
theorem x_iand {mn pc nx_ : Nat} {tt : List Nat} {q : Option (List Bool)} {ls : List (Option TV)} {st : List TV} {h : Hp} {a b : Int} {R : Res} (hc : cd mn pc = some (.iand, nx_, tt, q)) (hm : msk q ls = ls)  (k : RL mn nx_ ls (vI (i_and a b) :: st) h = R) : RL mn pc ls (vI b :: vI a :: st) h = R := RL_go hc hm (by rfl) k
theorem x_ior {mn pc nx_ : Nat} {tt : List Nat} {q : Option (List Bool)} {ls : List (Option TV)} {st : List TV} {h : Hp} {a b : Int} {R : Res} (hc : cd mn pc = some (.ior, nx_, tt, q)) (hm : msk q ls = ls)  (k : RL mn nx_ ls (vI (i_or a b) :: st) h = R) : RL mn pc ls (vI b :: vI a :: st) h = R := RL_go hc hm (by rfl) k
theorem x_ixor {mn pc nx_ : Nat} {tt : List Nat} {q : Option (List Bool)} {ls : List (Option TV)} {st : List TV} {h : Hp} {a b : Int} {R : Res} (hc : cd mn pc = some (.ixor, nx_, tt, q)) (hm : msk q ls = ls)  (k : RL mn nx_ ls (vI (i_xor a b) :: st) h = R) : RL mn pc ls (vI b :: vI a :: st) h = R := RL_go hc hm (by rfl) k
theorem x_ishl {mn pc nx_ : Nat} {tt : List Nat} {q : Option (List Bool)} {ls : List (Option TV)} {st : List TV} {h : Hp} {a b : Int} {R : Res} (hc : cd mn pc = some (.ishl, nx_, tt, q)) (hm : msk q ls = ls)  (k : RL mn nx_ ls (vI (i_shl a b) :: st) h = R) : RL mn pc ls (vI b :: vI a :: st) h = R := RL_go hc hm (by rfl) k
theorem x_ishr {mn pc nx_ : Nat} {tt : List Nat} {q : Option (List Bool)} {ls : List (Option TV)} {st : List TV} {h : Hp} {a b : Int} {R : Res} (hc : cd mn pc = some (.ishr, nx_, tt, q)) (hm : msk q ls = ls)  (k : RL mn nx_ ls (vI (i_shr a b) :: st) h = R) : RL mn pc ls (vI b :: vI a :: st) h = R := RL_go hc hm (by rfl) k
theorem x_iushr {mn pc nx_ : Nat} {tt : List Nat} {q : Option (List Bool)} {ls : List (Option TV)} {st : List TV} {h : Hp} {a b : Int} {R : Res} (hc : cd mn pc = some (.iushr, nx_, tt, q)) (hm : msk q ls = ls)  (k : RL mn nx_ ls (vI (i_ush a b) :: st) h = R) : RL mn pc ls (vI b :: vI a :: st) h = R := RL_go hc hm (by rfl) k
theorem x_ladd {mn pc nx_ : Nat} {tt : List Nat} {q : Option (List Bool)} {ls : List (Option TV)} {st : List TV} {h : Hp} {a b : Int} {R : Res} (hc : cd mn pc = some (.ladd, nx_, tt, q)) (hm : msk q ls = ls)  (k : RL mn nx_ ls (vL (w64 (a + b)) :: st) h = R) : RL mn pc ls (vL b :: vL a :: st) h = R := RL_go hc hm (by rfl) k
theorem x_lsub {mn pc nx_ : Nat} {tt : List Nat} {q : Option (List Bool)} {ls : List (Option TV)} {st : List TV} {h : Hp} {a b : Int} {R : Res} (hc : cd mn pc = some (.lsub, nx_, tt, q)) (hm : msk q ls = ls)  (k : RL mn nx_ ls (vL (w64 (a - b)) :: st) h = R) : RL mn pc ls (vL b :: vL a :: st) h = R := RL_go hc hm (by rfl) k
theorem x_lmul {mn pc nx_ : Nat} {tt : List Nat} {q : Option (List Bool)} {ls : List (Option TV)} {st : List TV} {h : Hp} {a b : Int} {R : Res} (hc : cd mn pc = some (.lmul, nx_, tt, q)) (hm : msk q ls = ls)  (k : RL mn nx_ ls (vL (w64 (a * b)) :: st) h = R) : RL mn pc ls (vL b :: vL a :: st) h = R := RL_go hc hm (by rfl) k
theorem x_idiv {mn pc nx_ : Nat} {tt : List Nat} {q : Option (List Bool)} {ls : List (Option TV)} {st : List TV} {h : Hp} {a b : Int} {R : Res} (hc : cd mn pc = some (.idiv, nx_, tt, q)) (hm : msk q ls = ls) (k : RL mn nx_ ls (vI (w32 (a.tdiv b)) :: st) h = R) : RL mn pc ls (vI b :: vI a :: st) h = if b = 0 then none else R := by
  by_cases hz : b = 0
  · rw [if_pos hz]; exact RL_end (r := none) hc hm (by simp only [ex]; rw [if_pos hz]; rfl)
  · rw [if_neg hz]; exact RL_go hc hm (by simp only [ex]; rw [if_neg hz]) k
theorem x_idivk {mn pc nx_ : Nat} {tt : List Nat} {q : Option (List Bool)} {ls : List (Option TV)} {st : List TV} {h : Hp} {a b : Int} {R : Res} (hz : ¬ b = 0) (hc : cd mn pc = some (.idiv, nx_, tt, q)) (hm : msk q ls = ls) (k : RL mn nx_ ls (vI (w32 (a.tdiv b)) :: st) h = R) : RL mn pc ls (vI b :: vI a :: st) h = R := by
  exact RL_go hc hm (by simp only [ex]; rw [if_neg hz]) k
theorem x_irem {mn pc nx_ : Nat} {tt : List Nat} {q : Option (List Bool)} {ls : List (Option TV)} {st : List TV} {h : Hp} {a b : Int} {R : Res} (hc : cd mn pc = some (.irem, nx_, tt, q)) (hm : msk q ls = ls) (k : RL mn nx_ ls (vI (a.tmod b) :: st) h = R) : RL mn pc ls (vI b :: vI a :: st) h = if b = 0 then none else R := by
  by_cases hz : b = 0
  · rw [if_pos hz]; exact RL_end (r := none) hc hm (by simp only [ex]; rw [if_pos hz]; rfl)
  · rw [if_neg hz]; exact RL_go hc hm (by simp only [ex]; rw [if_neg hz]) k
theorem x_iremk {mn pc nx_ : Nat} {tt : List Nat} {q : Option (List Bool)} {ls : List (Option TV)} {st : List TV} {h : Hp} {a b : Int} {R : Res} (hz : ¬ b = 0) (hc : cd mn pc = some (.irem, nx_, tt, q)) (hm : msk q ls = ls) (k : RL mn nx_ ls (vI (a.tmod b) :: st) h = R) : RL mn pc ls (vI b :: vI a :: st) h = R := by
  exact RL_go hc hm (by simp only [ex]; rw [if_neg hz]) k
theorem x_ldiv {mn pc nx_ : Nat} {tt : List Nat} {q : Option (List Bool)} {ls : List (Option TV)} {st : List TV} {h : Hp} {a b : Int} {R : Res} (hc : cd mn pc = some (.ldiv, nx_, tt, q)) (hm : msk q ls = ls) (k : RL mn nx_ ls (vL (w64 (a.tdiv b)) :: st) h = R) : RL mn pc ls (vL b :: vL a :: st) h = if b = 0 then none else R := by
  by_cases hz : b = 0
  · rw [if_pos hz]; exact RL_end (r := none) hc hm (by simp only [ex]; rw [if_pos hz]; rfl)
  · rw [if_neg hz]; exact RL_go hc hm (by simp only [ex]; rw [if_neg hz]) k
theorem x_ldivk {mn pc nx_ : Nat} {tt : List Nat} {q : Option (List Bool)} {ls : List (Option TV)} {st : List TV} {h : Hp} {a b : Int} {R : Res} (hz : ¬ b = 0) (hc : cd mn pc = some (.ldiv, nx_, tt, q)) (hm : msk q ls = ls) (k : RL mn nx_ ls (vL (w64 (a.tdiv b)) :: st) h = R) : RL mn pc ls (vL b :: vL a :: st) h = R := by
  exact RL_go hc hm (by simp only [ex]; rw [if_neg hz]) k
theorem x_lrem {mn pc nx_ : Nat} {tt : List Nat} {q : Option (List Bool)} {ls : List (Option TV)} {st : List TV} {h : Hp} {a b : Int} {R : Res} (hc : cd mn pc = some (.lrem, nx_, tt, q)) (hm : msk q ls = ls) (k : RL mn nx_ ls (vL (a.tmod b) :: st) h = R) : RL mn pc ls (vL b :: vL a :: st) h = if b = 0 then none else R := by
  by_cases hz : b = 0
  · rw [if_pos hz]; exact RL_end (r := none) hc hm (by simp only [ex]; rw [if_pos hz]; rfl)
  · rw [if_neg hz]; exact RL_go hc hm (by simp only [ex]; rw [if_neg hz]) k
theorem x_lremk {mn pc nx_ : Nat} {tt : List Nat} {q : Option (List Bool)} {ls : List (Option TV)} {st : List TV} {h : Hp} {a b : Int} {R : Res} (hz : ¬ b = 0) (hc : cd mn pc = some (.lrem, nx_, tt, q)) (hm : msk q ls = ls) (k : RL mn nx_ ls (vL (a.tmod b) :: st) h = R) : RL mn pc ls (vL b :: vL a :: st) h = R := by
  exact RL_go hc hm (by simp only [ex]; rw [if_neg hz]) k
theorem x_ineg {mn pc nx_ : Nat} {tt : List Nat} {q : Option (List Bool)} {ls : List (Option TV)} {st : List TV} {h : Hp} {a : Int} {R : Res} (hc : cd mn pc = some (.ineg, nx_, tt, q)) (hm : msk q ls = ls)  (k : RL mn nx_ ls (vI (w32 (-a)) :: st) h = R) : RL mn pc ls (vI a :: st) h = R := RL_go hc hm (by rfl) k
theorem x_lneg {mn pc nx_ : Nat} {tt : List Nat} {q : Option (List Bool)} {ls : List (Option TV)} {st : List TV} {h : Hp} {a : Int} {R : Res} (hc : cd mn pc = some (.lneg, nx_, tt, q)) (hm : msk q ls = ls)  (k : RL mn nx_ ls (vL (w64 (-a)) :: st) h = R) : RL mn pc ls (vL a :: st) h = R := RL_go hc hm (by rfl) k
theorem x_i2l {mn pc nx_ : Nat} {tt : List Nat} {q : Option (List Bool)} {ls : List (Option TV)} {st : List TV} {h : Hp} {a : Int} {R : Res} (hc : cd mn pc = some (.i2l, nx_, tt, q)) (hm : msk q ls = ls)  (k : RL mn nx_ ls (vL a :: st) h = R) : RL mn pc ls (vI a :: st) h = R := RL_go hc hm (by rfl) k
theorem x_l2i {mn pc nx_ : Nat} {tt : List Nat} {q : Option (List Bool)} {ls : List (Option TV)} {st : List TV} {h : Hp} {a : Int} {R : Res} (hc : cd mn pc = some (.l2i, nx_, tt, q)) (hm : msk q ls = ls)  (k : RL mn nx_ ls (vI (w32 a) :: st) h = R) : RL mn pc ls (vL a :: st) h = R := RL_go hc hm (by rfl) k
theorem x_i2b {mn pc nx_ : Nat} {tt : List Nat} {q : Option (List Bool)} {ls : List (Option TV)} {st : List TV} {h : Hp} {a : Int} {R : Res} (hc : cd mn pc = some (.i2b, nx_, tt, q)) (hm : msk q ls = ls)  (k : RL mn nx_ ls (vI (w8 a) :: st) h = R) : RL mn pc ls (vI a :: st) h = R := RL_go hc hm (by rfl) k
theorem x_i2c {mn pc nx_ : Nat} {tt : List Nat} {q : Option (List Bool)} {ls : List (Option TV)} {st : List TV} {h : Hp} {a : Int} {R : Res} (hc : cd mn pc = some (.i2c, nx_, tt, q)) (hm : msk q ls = ls)  (k : RL mn nx_ ls (vI (a % 65536) :: st) h = R) : RL mn pc ls (vI a :: st) h = R := RL_go hc hm (by rfl) k
theorem x_dup {mn pc nx_ : Nat} {tt : List Nat} {q : Option (List Bool)} {ls : List (Option TV)} {st : List TV} {h : Hp} {v : TV} {R : Res} (hc : cd mn pc = some (.dup, nx_, tt, q)) (hm : msk q ls = ls) (h1 : cat1 v = 1) (k : RL mn nx_ ls (v :: v :: st) h = R) : RL mn pc ls (v :: st) h = R := RL_go hc hm (by simp only [ex]; rw [if_pos h1]) k
theorem x_dup2 {mn pc nx_ : Nat} {tt : List Nat} {q : Option (List Bool)} {ls : List (Option TV)} {st : List TV} {h : Hp} {v w : TV} {R : Res} (hc : cd mn pc = some (.dup2, nx_, tt, q)) (hm : msk q ls = ls) (h1 : cat1 v = 1) (h2 : cat1 w = 1) (k : RL mn nx_ ls (v :: w :: v :: w :: st) h = R) : RL mn pc ls (v :: w :: st) h = R := RL_go hc hm (by simp only [ex]; rw [if_pos ⟨h1, h2⟩]) k
theorem x_pop {mn pc nx_ : Nat} {tt : List Nat} {q : Option (List Bool)} {ls : List (Option TV)} {st : List TV} {h : Hp} {v : TV} {R : Res} (hc : cd mn pc = some (.pop, nx_, tt, q)) (hm : msk q ls = ls) (h1 : cat1 v = 1) (k : RL mn nx_ ls st h = R) : RL mn pc ls (v :: st) h = R := RL_go hc hm (by simp only [ex]; rw [if_pos h1]) k
theorem x_goto {mn pc nx_ t : Nat} {q : Option (List Bool)} {ls : List (Option TV)} {st : List TV} {h : Hp} {o : Int} {R : Res} (hc : cd mn pc = some (.goto o, nx_, [t], q)) (hm : msk q ls = ls) (k : RL mn t ls st h = R) : RL mn pc ls st h = R := RL_go hc hm rfl k
theorem x_icmp_eq {mn pc nx_ t : Nat} {q : Option (List Bool)} {ls : List (Option TV)} {st : List TV} {h : Hp} {o : Int} {x y : Int} {A B : Res} (hc : cd mn pc = some (.if_icmp .eq o, nx_, [t], q)) (hm : msk q ls = ls) (kt : RL mn t ls st h = A) (kf : RL mn nx_ ls st h = B) : RL mn pc ls (vI y :: vI x :: st) h = if x = y then A else B := by
  by_cases hz : x = y
  · rw [if_pos hz]; exact RL_go (pc' := t) hc hm (by simp [ex, cnd, hz, tg1]) kt
  · rw [if_neg hz]; exact RL_go (pc' := nx_) hc hm (by simp [ex, cnd, hz, tg1]) kf
theorem x_if_eq {mn pc nx_ t : Nat} {q : Option (List Bool)} {ls : List (Option TV)} {st : List TV} {h : Hp} {o : Int} {x : Int} {A B : Res} (hc : cd mn pc = some (.ifCond .eq o, nx_, [t], q)) (hm : msk q ls = ls) (kt : RL mn t ls st h = A) (kf : RL mn nx_ ls st h = B) : RL mn pc ls (vI x :: st) h = if x = 0 then A else B := by
  by_cases hz : x = 0
  · rw [if_pos hz]; exact RL_go (pc' := t) hc hm (by simp [ex, cnd, hz, tg1]) kt
  · rw [if_neg hz]; exact RL_go (pc' := nx_) hc hm (by simp [ex, cnd, hz, tg1]) kf
theorem x_lc_eq {mn pc nx_ n2 t : Nat} {tt : List Nat} {q q2 : Option (List Bool)} {ls : List (Option TV)} {st : List TV} {h : Hp} {o : Int} {x y : Int} {A B : Res} (hc : cd mn pc = some (.lcmp, nx_, tt, q)) (hm : msk q ls = ls) (hc2 : cd mn nx_ = some (.ifCond .eq o, n2, [t], q2)) (hm2 : msk q2 ls = ls) (kt : RL mn t ls st h = A) (kf : RL mn n2 ls st h = B) : RL mn pc ls (vL y :: vL x :: st) h = if x = y then A else B := by
  refine RL_go (st' := vI (lcm x y) :: st) hc hm rfl ?_
  by_cases hz : x = y
  · rw [if_pos hz]; exact RL_go (pc' := t) hc2 hm2 (by simp only [ex, cnd, tg1]; have h7 := lcm_f x y; simp only [h7.1, h7.2.1, h7.2.2]; simp [hz]) kt
  · rw [if_neg hz]; exact RL_go (pc' := n2) hc2 hm2 (by simp only [ex, cnd, tg1]; have h7 := lcm_f x y; simp only [h7.1, h7.2.1, h7.2.2]; simp [hz]) kf
theorem x_icmp_ne {mn pc nx_ t : Nat} {q : Option (List Bool)} {ls : List (Option TV)} {st : List TV} {h : Hp} {o : Int} {x y : Int} {A B : Res} (hc : cd mn pc = some (.if_icmp .ne o, nx_, [t], q)) (hm : msk q ls = ls) (kt : RL mn t ls st h = A) (kf : RL mn nx_ ls st h = B) : RL mn pc ls (vI y :: vI x :: st) h = if x = y then B else A := by
  by_cases hz : x = y
  · rw [if_pos hz]; exact RL_go (pc' := nx_) hc hm (by simp [ex, cnd, hz, tg1]) kf
  · rw [if_neg hz]; exact RL_go (pc' := t) hc hm (by simp [ex, cnd, hz, tg1]) kt
theorem x_if_ne {mn pc nx_ t : Nat} {q : Option (List Bool)} {ls : List (Option TV)} {st : List TV} {h : Hp} {o : Int} {x : Int} {A B : Res} (hc : cd mn pc = some (.ifCond .ne o, nx_, [t], q)) (hm : msk q ls = ls) (kt : RL mn t ls st h = A) (kf : RL mn nx_ ls st h = B) : RL mn pc ls (vI x :: st) h = if x = 0 then B else A := by
  by_cases hz : x = 0
  · rw [if_pos hz]; exact RL_go (pc' := nx_) hc hm (by simp [ex, cnd, hz, tg1]) kf
  · rw [if_neg hz]; exact RL_go (pc' := t) hc hm (by simp [ex, cnd, hz, tg1]) kt
theorem x_lc_ne {mn pc nx_ n2 t : Nat} {tt : List Nat} {q q2 : Option (List Bool)} {ls : List (Option TV)} {st : List TV} {h : Hp} {o : Int} {x y : Int} {A B : Res} (hc : cd mn pc = some (.lcmp, nx_, tt, q)) (hm : msk q ls = ls) (hc2 : cd mn nx_ = some (.ifCond .ne o, n2, [t], q2)) (hm2 : msk q2 ls = ls) (kt : RL mn t ls st h = A) (kf : RL mn n2 ls st h = B) : RL mn pc ls (vL y :: vL x :: st) h = if x = y then B else A := by
  refine RL_go (st' := vI (lcm x y) :: st) hc hm rfl ?_
  by_cases hz : x = y
  · rw [if_pos hz]; exact RL_go (pc' := n2) hc2 hm2 (by simp only [ex, cnd, tg1]; have h7 := lcm_f x y; simp only [h7.1, h7.2.1, h7.2.2]; simp [hz]) kf
  · rw [if_neg hz]; exact RL_go (pc' := t) hc2 hm2 (by simp only [ex, cnd, tg1]; have h7 := lcm_f x y; simp only [h7.1, h7.2.1, h7.2.2]; simp [hz]) kt
theorem x_icmp_lt {mn pc nx_ t : Nat} {q : Option (List Bool)} {ls : List (Option TV)} {st : List TV} {h : Hp} {o : Int} {x y : Int} {A B : Res} (hc : cd mn pc = some (.if_icmp .lt o, nx_, [t], q)) (hm : msk q ls = ls) (kt : RL mn t ls st h = A) (kf : RL mn nx_ ls st h = B) : RL mn pc ls (vI y :: vI x :: st) h = if x < y then A else B := by
  by_cases hz : x < y
  · rw [if_pos hz]; exact RL_go (pc' := t) hc hm (by simp [ex, cnd, hz, tg1]) kt
  · rw [if_neg hz]; exact RL_go (pc' := nx_) hc hm (by simp [ex, cnd, hz, tg1]) kf
theorem x_if_lt {mn pc nx_ t : Nat} {q : Option (List Bool)} {ls : List (Option TV)} {st : List TV} {h : Hp} {o : Int} {x : Int} {A B : Res} (hc : cd mn pc = some (.ifCond .lt o, nx_, [t], q)) (hm : msk q ls = ls) (kt : RL mn t ls st h = A) (kf : RL mn nx_ ls st h = B) : RL mn pc ls (vI x :: st) h = if x < 0 then A else B := by
  by_cases hz : x < 0
  · rw [if_pos hz]; exact RL_go (pc' := t) hc hm (by simp [ex, cnd, hz, tg1]) kt
  · rw [if_neg hz]; exact RL_go (pc' := nx_) hc hm (by simp [ex, cnd, hz, tg1]) kf
theorem x_lc_lt {mn pc nx_ n2 t : Nat} {tt : List Nat} {q q2 : Option (List Bool)} {ls : List (Option TV)} {st : List TV} {h : Hp} {o : Int} {x y : Int} {A B : Res} (hc : cd mn pc = some (.lcmp, nx_, tt, q)) (hm : msk q ls = ls) (hc2 : cd mn nx_ = some (.ifCond .lt o, n2, [t], q2)) (hm2 : msk q2 ls = ls) (kt : RL mn t ls st h = A) (kf : RL mn n2 ls st h = B) : RL mn pc ls (vL y :: vL x :: st) h = if x < y then A else B := by
  refine RL_go (st' := vI (lcm x y) :: st) hc hm rfl ?_
  by_cases hz : x < y
  · rw [if_pos hz]; exact RL_go (pc' := t) hc2 hm2 (by simp only [ex, cnd, tg1]; have h7 := lcm_f x y; simp only [h7.1, h7.2.1, h7.2.2]; simp [hz]) kt
  · rw [if_neg hz]; exact RL_go (pc' := n2) hc2 hm2 (by simp only [ex, cnd, tg1]; have h7 := lcm_f x y; simp only [h7.1, h7.2.1, h7.2.2]; simp [hz]) kf
theorem x_icmp_ge {mn pc nx_ t : Nat} {q : Option (List Bool)} {ls : List (Option TV)} {st : List TV} {h : Hp} {o : Int} {x y : Int} {A B : Res} (hc : cd mn pc = some (.if_icmp .ge o, nx_, [t], q)) (hm : msk q ls = ls) (kt : RL mn t ls st h = A) (kf : RL mn nx_ ls st h = B) : RL mn pc ls (vI y :: vI x :: st) h = if x < y then B else A := by
  by_cases hz : x < y
  · rw [if_pos hz]; exact RL_go (pc' := nx_) hc hm (by simp [ex, cnd, hz, tg1]) kf
  · rw [if_neg hz]; exact RL_go (pc' := t) hc hm (by simp [ex, cnd, hz, tg1]) kt
theorem x_if_ge {mn pc nx_ t : Nat} {q : Option (List Bool)} {ls : List (Option TV)} {st : List TV} {h : Hp} {o : Int} {x : Int} {A B : Res} (hc : cd mn pc = some (.ifCond .ge o, nx_, [t], q)) (hm : msk q ls = ls) (kt : RL mn t ls st h = A) (kf : RL mn nx_ ls st h = B) : RL mn pc ls (vI x :: st) h = if x < 0 then B else A := by
  by_cases hz : x < 0
  · rw [if_pos hz]; exact RL_go (pc' := nx_) hc hm (by simp [ex, cnd, hz, tg1]) kf
  · rw [if_neg hz]; exact RL_go (pc' := t) hc hm (by simp [ex, cnd, hz, tg1]) kt
theorem x_lc_ge {mn pc nx_ n2 t : Nat} {tt : List Nat} {q q2 : Option (List Bool)} {ls : List (Option TV)} {st : List TV} {h : Hp} {o : Int} {x y : Int} {A B : Res} (hc : cd mn pc = some (.lcmp, nx_, tt, q)) (hm : msk q ls = ls) (hc2 : cd mn nx_ = some (.ifCond .ge o, n2, [t], q2)) (hm2 : msk q2 ls = ls) (kt : RL mn t ls st h = A) (kf : RL mn n2 ls st h = B) : RL mn pc ls (vL y :: vL x :: st) h = if x < y then B else A := by
  refine RL_go (st' := vI (lcm x y) :: st) hc hm rfl ?_
  by_cases hz : x < y
  · rw [if_pos hz]; exact RL_go (pc' := n2) hc2 hm2 (by simp only [ex, cnd, tg1]; have h7 := lcm_f x y; simp only [h7.1, h7.2.1, h7.2.2]; simp [hz]) kf
  · rw [if_neg hz]; exact RL_go (pc' := t) hc2 hm2 (by simp only [ex, cnd, tg1]; have h7 := lcm_f x y; simp only [h7.1, h7.2.1, h7.2.2]; simp [hz]) kt
theorem x_icmp_gt {mn pc nx_ t : Nat} {q : Option (List Bool)} {ls : List (Option TV)} {st : List TV} {h : Hp} {o : Int} {x y : Int} {A B : Res} (hc : cd mn pc = some (.if_icmp .gt o, nx_, [t], q)) (hm : msk q ls = ls) (kt : RL mn t ls st h = A) (kf : RL mn nx_ ls st h = B) : RL mn pc ls (vI y :: vI x :: st) h = if y < x then A else B := by
  by_cases hz : y < x
  · rw [if_pos hz]; exact RL_go (pc' := t) hc hm (by simp [ex, cnd, hz, tg1]) kt
  · rw [if_neg hz]; exact RL_go (pc' := nx_) hc hm (by simp [ex, cnd, hz, tg1]) kf
theorem x_if_gt {mn pc nx_ t : Nat} {q : Option (List Bool)} {ls : List (Option TV)} {st : List TV} {h : Hp} {o : Int} {x : Int} {A B : Res} (hc : cd mn pc = some (.ifCond .gt o, nx_, [t], q)) (hm : msk q ls = ls) (kt : RL mn t ls st h = A) (kf : RL mn nx_ ls st h = B) : RL mn pc ls (vI x :: st) h = if 0 < x then A else B := by
  by_cases hz : 0 < x
  · rw [if_pos hz]; exact RL_go (pc' := t) hc hm (by simp [ex, cnd, hz, tg1]) kt
  · rw [if_neg hz]; exact RL_go (pc' := nx_) hc hm (by simp [ex, cnd, hz, tg1]) kf
theorem x_lc_gt {mn pc nx_ n2 t : Nat} {tt : List Nat} {q q2 : Option (List Bool)} {ls : List (Option TV)} {st : List TV} {h : Hp} {o : Int} {x y : Int} {A B : Res} (hc : cd mn pc = some (.lcmp, nx_, tt, q)) (hm : msk q ls = ls) (hc2 : cd mn nx_ = some (.ifCond .gt o, n2, [t], q2)) (hm2 : msk q2 ls = ls) (kt : RL mn t ls st h = A) (kf : RL mn n2 ls st h = B) : RL mn pc ls (vL y :: vL x :: st) h = if y < x then A else B := by
  refine RL_go (st' := vI (lcm x y) :: st) hc hm rfl ?_
  by_cases hz : y < x
  · rw [if_pos hz]; exact RL_go (pc' := t) hc2 hm2 (by simp only [ex, cnd, tg1]; have h7 := lcm_f x y; simp only [h7.1, h7.2.1, h7.2.2]; simp [hz]) kt
  · rw [if_neg hz]; exact RL_go (pc' := n2) hc2 hm2 (by simp only [ex, cnd, tg1]; have h7 := lcm_f x y; simp only [h7.1, h7.2.1, h7.2.2]; simp [hz]) kf
theorem x_icmp_le {mn pc nx_ t : Nat} {q : Option (List Bool)} {ls : List (Option TV)} {st : List TV} {h : Hp} {o : Int} {x y : Int} {A B : Res} (hc : cd mn pc = some (.if_icmp .le o, nx_, [t], q)) (hm : msk q ls = ls) (kt : RL mn t ls st h = A) (kf : RL mn nx_ ls st h = B) : RL mn pc ls (vI y :: vI x :: st) h = if y < x then B else A := by
  by_cases hz : y < x
  · rw [if_pos hz]; exact RL_go (pc' := nx_) hc hm (by simp [ex, cnd, hz, tg1]) kf
  · rw [if_neg hz]; exact RL_go (pc' := t) hc hm (by simp [ex, cnd, hz, tg1]) kt
theorem x_if_le {mn pc nx_ t : Nat} {q : Option (List Bool)} {ls : List (Option TV)} {st : List TV} {h : Hp} {o : Int} {x : Int} {A B : Res} (hc : cd mn pc = some (.ifCond .le o, nx_, [t], q)) (hm : msk q ls = ls) (kt : RL mn t ls st h = A) (kf : RL mn nx_ ls st h = B) : RL mn pc ls (vI x :: st) h = if 0 < x then B else A := by
  by_cases hz : 0 < x
  · rw [if_pos hz]; exact RL_go (pc' := nx_) hc hm (by simp [ex, cnd, hz, tg1]) kf
  · rw [if_neg hz]; exact RL_go (pc' := t) hc hm (by simp [ex, cnd, hz, tg1]) kt
theorem x_lc_le {mn pc nx_ n2 t : Nat} {tt : List Nat} {q q2 : Option (List Bool)} {ls : List (Option TV)} {st : List TV} {h : Hp} {o : Int} {x y : Int} {A B : Res} (hc : cd mn pc = some (.lcmp, nx_, tt, q)) (hm : msk q ls = ls) (hc2 : cd mn nx_ = some (.ifCond .le o, n2, [t], q2)) (hm2 : msk q2 ls = ls) (kt : RL mn t ls st h = A) (kf : RL mn n2 ls st h = B) : RL mn pc ls (vL y :: vL x :: st) h = if y < x then B else A := by
  refine RL_go (st' := vI (lcm x y) :: st) hc hm rfl ?_
  by_cases hz : y < x
  · rw [if_pos hz]; exact RL_go (pc' := n2) hc2 hm2 (by simp only [ex, cnd, tg1]; have h7 := lcm_f x y; simp only [h7.1, h7.2.1, h7.2.2]; simp [hz]) kf
  · rw [if_neg hz]; exact RL_go (pc' := t) hc2 hm2 (by simp only [ex, cnd, tg1]; have h7 := lcm_f x y; simp only [h7.1, h7.2.1, h7.2.2]; simp [hz]) kt
theorem x_ifnn {mn pc nx_ t : Nat} {q : Option (List Bool)} {ls : List (Option TV)} {st : List TV} {h : Hp} {o : Int} {a : Int} {A B : Res} (hc : cd mn pc = some (.ifnonnull o, nx_, [t], q)) (hm : msk q ls = ls) (kt : RL mn t ls st h = A) (kf : RL mn nx_ ls st h = B) : RL mn pc ls (vR a :: st) h = if a < 0 then none else if a = 0 then B else A := by
  by_cases h0 : a < 0
  · rw [if_pos h0]; exact RL_end (r := none) hc hm (by simp only [ex]; rw [if_neg (by omega)]; rfl)
  · rw [if_neg h0]
    by_cases hz : a = 0
    · rw [if_pos hz]; exact RL_go (pc' := nx_) hc hm (by simp only [ex]; rw [if_pos (by omega), if_pos hz]) kf
    · rw [if_neg hz]; exact RL_go (pc' := t) hc hm (by simp only [ex]; rw [if_pos (by omega), if_neg hz]; rfl) kt
noncomputable def tsr (mn : Nat) (ls : List (Option TV)) (st : List TV) (h : Hp) (x : Int) (D : Nat) : Int → List Nat → Res
  | _, [] => RL mn D ls st h
  | lo, t :: ts => if x = lo then RL mn t ls st h else tsr mn ls st h x D (lo + 1) ts
theorem tsr_tswi (mn : Nat) (ls : List (Option TV)) (st : List TV) (h : Hp) (x : Int) (D : Nat) : ∀ (lo : Int) (ts : List Nat), RL mn (tswi x D lo ts) ls st h = tsr mn ls st h x D lo ts
  | _, [] => rfl
  | lo, t :: ts => by
    simp only [tswi, tsr]
    by_cases hz : x = lo
    · rw [if_pos hz, if_pos hz]
    · rw [if_neg hz, if_neg hz]; exact tsr_tswi mn ls st h x D (lo + 1) ts
theorem x_tsw {mn pc nx_ D : Nat} {q : Option (List Bool)} {ls : List (Option TV)} {st : List TV} {h : Hp} {x d lo hi : Int} {os : Array Int} {ts : List Nat} {R : Res} (hc : cd mn pc = some (.tableswitch d lo hi os, nx_, D :: ts, q)) (hm : msk q ls = ls) (k : tsr mn ls st h x D lo ts = R) : RL mn pc ls (vI x :: st) h = R := RL_go (pc' := tswi x D lo ts) hc hm rfl ((tsr_tswi mn ls st h x D lo ts).trans k)
theorem x_ifc {c : Prop} {i : Decidable c} {A B A1 B1 : Res} (ha : A = A1) (hb : B = B1) : (@ite Res c i A B) = (@ite Res c i A1 B1) := by rw [ha, hb]
theorem x_getI {mn pc nx_ : Nat} {tt : List Nat} {q : Option (List Bool)} {ls : List (Option TV)} {st : List TV} {h : Hp} {i : Nat} {a c k_ : Int} {R : Res} (hc : cd mn pc = some (.getfield i, nx_, tt, q)) (hm : msk q ls = ls) (hf : fl (ow mn) i = some (c, k_, 0)) (k : RL mn nx_ ls (vI (mR h a k_) :: st) h = R) : RL mn pc ls (vR a :: st) h = if okF h a c = true then R else none := by
  by_cases hz : okF h a c = true
  · rw [if_pos hz]; exact RL_go hc hm (by simp only [ex, hf]; rw [if_pos hz]) k
  · rw [if_neg hz]; exact RL_end (r := none) hc hm (by simp only [ex, hf]; rw [if_neg hz]; rfl)
theorem x_getL {mn pc nx_ : Nat} {tt : List Nat} {q : Option (List Bool)} {ls : List (Option TV)} {st : List TV} {h : Hp} {i : Nat} {a c k_ : Int} {R : Res} (hc : cd mn pc = some (.getfield i, nx_, tt, q)) (hm : msk q ls = ls) (hf : fl (ow mn) i = some (c, k_, 1)) (k : RL mn nx_ ls (vL (mR h a k_) :: st) h = R) : RL mn pc ls (vR a :: st) h = if okF h a c = true then R else none := by
  by_cases hz : okF h a c = true
  · rw [if_pos hz]; exact RL_go hc hm (by simp only [ex, hf]; rw [if_pos hz]) k
  · rw [if_neg hz]; exact RL_end (r := none) hc hm (by simp only [ex, hf]; rw [if_neg hz]; rfl)
theorem x_getR {mn pc nx_ : Nat} {tt : List Nat} {q : Option (List Bool)} {ls : List (Option TV)} {st : List TV} {h : Hp} {i : Nat} {a c k_ : Int} {R : Res} (hc : cd mn pc = some (.getfield i, nx_, tt, q)) (hm : msk q ls = ls) (hf : fl (ow mn) i = some (c, k_, 2)) (k : RL mn nx_ ls (vR (mR h a k_) :: st) h = R) : RL mn pc ls (vR a :: st) h = if okF h a c = true then R else none := by
  by_cases hz : okF h a c = true
  · rw [if_pos hz]; exact RL_go hc hm (by simp only [ex, hf]; rw [if_pos hz]) k
  · rw [if_neg hz]; exact RL_end (r := none) hc hm (by simp only [ex, hf]; rw [if_neg hz]; rfl)
theorem x_getZ {mn pc nx_ : Nat} {tt : List Nat} {q : Option (List Bool)} {ls : List (Option TV)} {st : List TV} {h : Hp} {i : Nat} {a c k_ : Int} {R : Res} (hc : cd mn pc = some (.getfield i, nx_, tt, q)) (hm : msk q ls = ls) (hf : fl (ow mn) i = some (c, k_, 3)) (k : RL mn nx_ ls (vI (mR h a k_) :: st) h = R) : RL mn pc ls (vR a :: st) h = if okF h a c = true then R else none := by
  by_cases hz : okF h a c = true
  · rw [if_pos hz]; exact RL_go hc hm (by simp only [ex, hf]; rw [if_pos hz]) k
  · rw [if_neg hz]; exact RL_end (r := none) hc hm (by simp only [ex, hf]; rw [if_neg hz]; rfl)
theorem x_putI {mn pc nx_ : Nat} {tt : List Nat} {q : Option (List Bool)} {ls : List (Option TV)} {st : List TV} {h : Hp} {i : Nat} {a c k_ v : Int} {R : Hp → Res} (hc : cd mn pc = some (.putfield i, nx_, tt, q)) (hm : msk q ls = ls) (hf : fl (ow mn) i = some (c, k_, 0)) (k : ∀ h1, RL mn nx_ ls st h1 = R h1) : RL mn pc ls (vI v :: vR a :: st) h = if okF h a c = true then hb (mW h a k_ v) R else none := by
  by_cases hz : okF h a c = true
  · rw [if_pos hz]; exact RL_go hc hm (by simp only [ex, hf]; rw [if_pos hz]) (k _)
  · rw [if_neg hz]; exact RL_end (r := none) hc hm (by simp only [ex, hf]; rw [if_neg hz]; rfl)
theorem x_putL {mn pc nx_ : Nat} {tt : List Nat} {q : Option (List Bool)} {ls : List (Option TV)} {st : List TV} {h : Hp} {i : Nat} {a c k_ v : Int} {R : Hp → Res} (hc : cd mn pc = some (.putfield i, nx_, tt, q)) (hm : msk q ls = ls) (hf : fl (ow mn) i = some (c, k_, 1)) (k : ∀ h1, RL mn nx_ ls st h1 = R h1) : RL mn pc ls (vL v :: vR a :: st) h = if okF h a c = true then hb (mW h a k_ v) R else none := by
  by_cases hz : okF h a c = true
  · rw [if_pos hz]; exact RL_go hc hm (by simp only [ex, hf]; rw [if_pos hz]) (k _)
  · rw [if_neg hz]; exact RL_end (r := none) hc hm (by simp only [ex, hf]; rw [if_neg hz]; rfl)
theorem x_putR {mn pc nx_ : Nat} {tt : List Nat} {q : Option (List Bool)} {ls : List (Option TV)} {st : List TV} {h : Hp} {i : Nat} {a c k_ v : Int} {R : Hp → Res} (hc : cd mn pc = some (.putfield i, nx_, tt, q)) (hm : msk q ls = ls) (hf : fl (ow mn) i = some (c, k_, 2)) (k : ∀ h1, RL mn nx_ ls st h1 = R h1) : RL mn pc ls (vR v :: vR a :: st) h = if okF h a c = true then hb (mW h a k_ v) R else none := by
  by_cases hz : okF h a c = true
  · rw [if_pos hz]; exact RL_go hc hm (by simp only [ex, hf]; rw [if_pos hz]) (k _)
  · rw [if_neg hz]; exact RL_end (r := none) hc hm (by simp only [ex, hf]; rw [if_neg hz]; rfl)
theorem x_putZ {mn pc nx_ : Nat} {tt : List Nat} {q : Option (List Bool)} {ls : List (Option TV)} {st : List TV} {h : Hp} {i : Nat} {a c k_ v : Int} {R : Hp → Res} (hc : cd mn pc = some (.putfield i, nx_, tt, q)) (hm : msk q ls = ls) (hf : fl (ow mn) i = some (c, k_, 3)) (hv : v = 0 ∨ v = 1) (k : ∀ h1, RL mn nx_ ls st h1 = R h1) : RL mn pc ls (vI v :: vR a :: st) h = if okF h a c = true then hb (mW h a k_ v) R else none := by
  by_cases hz : okF h a c = true
  · rw [if_pos hz]; exact RL_go hc hm (by simp only [ex, hf]; rw [if_pos hz, if_pos hv]) (k _)
  · rw [if_neg hz]; exact RL_end (r := none) hc hm (by simp only [ex, hf]; rw [if_neg hz]; rfl)
theorem x_iald {mn pc nx_ : Nat} {tt : List Nat} {q : Option (List Bool)} {ls : List (Option TV)} {st : List TV} {h : Hp} {a i : Int} {R : Res} (hc : cd mn pc = some (.iaload, nx_, tt, q)) (hm : msk q ls = ls)  (k : RL mn nx_ ls (vI (mR h a i) :: st) h = R) : RL mn pc ls (vI i :: vR a :: st) h = if okA h a 102 i = true then R else none := by
  by_cases hz : okA h a 102 i = true
  · rw [if_pos hz]; exact RL_go hc hm (by simp only [ex]; rw [if_pos hz]) k
  · rw [if_neg hz]; exact RL_end (r := none) hc hm (by simp only [ex]; rw [if_neg hz]; rfl)
theorem x_lald {mn pc nx_ : Nat} {tt : List Nat} {q : Option (List Bool)} {ls : List (Option TV)} {st : List TV} {h : Hp} {a i : Int} {R : Res} (hc : cd mn pc = some (.laload, nx_, tt, q)) (hm : msk q ls = ls)  (k : RL mn nx_ ls (vL (mR h a i) :: st) h = R) : RL mn pc ls (vI i :: vR a :: st) h = if okA h a 103 i = true then R else none := by
  by_cases hz : okA h a 103 i = true
  · rw [if_pos hz]; exact RL_go hc hm (by simp only [ex]; rw [if_pos hz]) k
  · rw [if_neg hz]; exact RL_end (r := none) hc hm (by simp only [ex]; rw [if_neg hz]; rfl)
theorem x_bald {mn pc nx_ : Nat} {tt : List Nat} {q : Option (List Bool)} {ls : List (Option TV)} {st : List TV} {h : Hp} {a i : Int} {R : Res} (hc : cd mn pc = some (.baload, nx_, tt, q)) (hm : msk q ls = ls)  (k : RL mn nx_ ls (vI (mR h a i) :: st) h = R) : RL mn pc ls (vI i :: vR a :: st) h = if okB h a i = true then R else none := by
  by_cases hz : okB h a i = true
  · rw [if_pos hz]; exact RL_go hc hm (by simp only [ex]; rw [if_pos hz]) k
  · rw [if_neg hz]; exact RL_end (r := none) hc hm (by simp only [ex]; rw [if_neg hz]; rfl)
theorem x_aald {mn pc nx_ : Nat} {tt : List Nat} {q : Option (List Bool)} {ls : List (Option TV)} {st : List TV} {h : Hp} {a i : Int} {R : Res} (hc : cd mn pc = some (.aaload, nx_, tt, q)) (hm : msk q ls = ls)  (k : RL mn nx_ ls (vR (mR h a i) :: st) h = R) : RL mn pc ls (vI i :: vR a :: st) h = if okR h a i = true then R else none := by
  by_cases hz : okR h a i = true
  · rw [if_pos hz]; exact RL_go hc hm (by simp only [ex]; rw [if_pos hz]) k
  · rw [if_neg hz]; exact RL_end (r := none) hc hm (by simp only [ex]; rw [if_neg hz]; rfl)
theorem x_alen {mn pc nx_ : Nat} {tt : List Nat} {q : Option (List Bool)} {ls : List (Option TV)} {st : List TV} {h : Hp} {a : Int} {R : Res} (hc : cd mn pc = some (.arraylength, nx_, tt, q)) (hm : msk q ls = ls)  (k : RL mn nx_ ls (vI (mL h a) :: st) h = R) : RL mn pc ls (vR a :: st) h = if okY h a = true then R else none := by
  by_cases hz : okY h a = true
  · rw [if_pos hz]; exact RL_go hc hm (by simp only [ex]; rw [if_pos hz]) k
  · rw [if_neg hz]; exact RL_end (r := none) hc hm (by simp only [ex]; rw [if_neg hz]; rfl)
theorem x_iast {mn pc nx_ : Nat} {tt : List Nat} {q : Option (List Bool)} {ls : List (Option TV)} {st : List TV} {h : Hp} {a i v : Int} {R : Hp → Res} (hc : cd mn pc = some (.iastore, nx_, tt, q)) (hm : msk q ls = ls)  (k : ∀ h1, RL mn nx_ ls st h1 = R h1) : RL mn pc ls (vI v :: vI i :: vR a :: st) h = if okS h a 102 i = true then hb (mW h a i v) R else none := by
  by_cases hz : okS h a 102 i = true
  · rw [if_pos hz]; exact RL_go hc hm (by simp only [ex]; rw [if_pos hz]) (k _)
  · rw [if_neg hz]; exact RL_end (r := none) hc hm (by simp only [ex]; rw [if_neg hz]; rfl)
theorem x_last {mn pc nx_ : Nat} {tt : List Nat} {q : Option (List Bool)} {ls : List (Option TV)} {st : List TV} {h : Hp} {a i v : Int} {R : Hp → Res} (hc : cd mn pc = some (.lastore, nx_, tt, q)) (hm : msk q ls = ls)  (k : ∀ h1, RL mn nx_ ls st h1 = R h1) : RL mn pc ls (vL v :: vI i :: vR a :: st) h = if okS h a 103 i = true then hb (mW h a i v) R else none := by
  by_cases hz : okS h a 103 i = true
  · rw [if_pos hz]; exact RL_go hc hm (by simp only [ex]; rw [if_pos hz]) (k _)
  · rw [if_neg hz]; exact RL_end (r := none) hc hm (by simp only [ex]; rw [if_neg hz]; rfl)
theorem x_aast {mn pc nx_ : Nat} {tt : List Nat} {q : Option (List Bool)} {ls : List (Option TV)} {st : List TV} {h : Hp} {a i v : Int} {R : Hp → Res} (hc : cd mn pc = some (.aastore, nx_, tt, q)) (hm : msk q ls = ls)  (k : ∀ h1, RL mn nx_ ls st h1 = R h1) : RL mn pc ls (vR v :: vI i :: vR a :: st) h = if okQ h a i v = true then hb (mW h a i v) R else none := by
  by_cases hz : okQ h a i v = true
  · rw [if_pos hz]; exact RL_go hc hm (by simp only [ex]; rw [if_pos hz]) (k _)
  · rw [if_neg hz]; exact RL_end (r := none) hc hm (by simp only [ex]; rw [if_neg hz]; rfl)
theorem x_bast {mn pc nx_ : Nat} {tt : List Nat} {q : Option (List Bool)} {ls : List (Option TV)} {st : List TV} {h : Hp} {a i v : Int} {R : Hp → Res} (hc : cd mn pc = some (.bastore, nx_, tt, q)) (hm : msk q ls = ls) (k : ∀ h1, RL mn nx_ ls st h1 = R h1) : RL mn pc ls (vI v :: vI i :: vR a :: st) h = if okS h a 101 i = true then hb (mW h a i (w8 v)) R else if okS h a 104 i = true ∧ (v = 0 ∨ v = 1) then hb (mW h a i v) R else none := by
  by_cases hz : okS h a 101 i = true
  · rw [if_pos hz]; exact RL_go hc hm (by simp only [ex]; rw [if_pos hz]) (k _)
  · rw [if_neg hz]
    by_cases hy : okS h a 104 i = true ∧ (v = 0 ∨ v = 1)
    · rw [if_pos hy]; exact RL_go hc hm (by simp only [ex]; rw [if_neg hz, if_pos hy]) (k _)
    · rw [if_neg hy]; exact RL_end (r := none) hc hm (by simp only [ex]; rw [if_neg hz, if_neg hy]; rfl)
theorem x_new {mn pc nx_ : Nat} {tt : List Nat} {q : Option (List Bool)} {ls : List (Option TV)} {st : List TV} {h : Hp} {i n : Nat} {c : Int} {R : Hp → Res} (hc : cd mn pc = some (.new i, nx_, tt, q)) (hm : msk q ls = ls) (hn : nw (ow mn) i = some (c, n)) (k : ∀ h1, RL mn nx_ ls (vR (mT h + 1) :: st) h1 = R h1) : RL mn pc ls st h = hb (mA h c n) R := RL_go hc hm (by simp only [ex, hn]) (k _)
theorem x_newa {mn pc nx_ : Nat} {tt : List Nat} {q : Option (List Bool)} {ls : List (Option TV)} {st : List TV} {h : Hp} {t : ArrayType} {n : Int} {N : Nat} {c : Int} {R : Hp → Res} (hc : cd mn pc = some (.newarray t, nx_, tt, q)) (hm : msk q ls = ls) (hn : 0 ≤ n ∧ n ≤ 100000) (hN : n.toNat = N) (ht : atK t = c) (k : ∀ h1, RL mn nx_ ls (vR (mT h + 1) :: st) h1 = R h1) : RL mn pc ls (vI n :: st) h = hb (mA h c N) R := by
  subst hN; subst ht
  exact RL_go hc hm (by simp only [ex]; rw [if_pos hn]) (k _)
theorem x_anew {mn pc nx_ : Nat} {tt : List Nat} {q : Option (List Bool)} {ls : List (Option TV)} {st : List TV} {h : Hp} {i : Nat} {n : Int} {N : Nat} {c : Int} {R : Hp → Res} (hc : cd mn pc = some (.anewarray i, nx_, tt, q)) (hm : msk q ls = ls) (ha : aw (ow mn) i = some c) (hn : 0 ≤ n ∧ n ≤ 100000) (hN : n.toNat = N) (k : ∀ h1, RL mn nx_ ls (vR (mT h + 1) :: st) h1 = R h1) : RL mn pc ls (vI n :: st) h = hb (mA h c N) R := by
  subst hN
  exact RL_go hc hm (by simp only [ex, ha]; rw [if_pos hn]) (k _)
theorem x_callSv {mn pc nx_ : Nat} {tt : List Nat} {q : Option (List Bool)} {ls : List (Option TV)} {st : List TV} {h : Hp}  {i cal n : Nat} {c : Int} {as rest : List TV} {R : Int × Hp → Res} (hc : cd mn pc = some (.invokestatic i, nx_, tt, q)) (hm : msk q ls = ls) (hml : ml mn i = some (cal, n, c, 0)) (hp : popn n [] st = some (as, rest)) (hl : Nat.blt cal mn = true) (hcs : Nat.ble (csum rest) 8 = true)  (k : ∀ x : Int × Hp, RL mn nx_ ls rest x.2 = R x) : RL mn pc ls st h = (CA cal as h).bind R := by
  have hlt : cal < mn := Nat.blt_eq.mp hl
  have hnm : mn ≤ NM := Nat.le_of_lt (cd_lt hc)
  have hcs' : csum rest ≤ 8 := Nat.ble_eq.mp hcs
  have h99 : mn < 9990 := Nat.lt_of_lt_of_le (cd_lt hc) (by decide +kernel)
  rw [RL, RLc_eq]
  cases hr2 : CA cal as h with
  | none =>
    have e : nx (callT mn) mn (pc, ls, st, h) = none := by
      simp only [nx, hc, hm, ex, hml, hp]
      rw [if_pos hcs', if_neg (by omega), if_pos hlt]
      rw [callT_CA hlt hnm, hr2]; rfl
    rw [e]; rfl
  | some x =>
    have e : nx (callT mn) mn (pc, ls, st, h) = go nx_ ls rest x.2 := by
      simp only [nx, hc, hm, ex, hml, hp]
      rw [if_pos hcs', if_neg (by omega), if_pos hlt]
      rw [callT_CA hlt hnm, hr2]; rfl
    rw [e]
    exact k x

theorem x_callVv {mn pc nx_ : Nat} {tt : List Nat} {q : Option (List Bool)} {ls : List (Option TV)} {st : List TV} {h : Hp}  {i cal n : Nat} {c a : Int} {as rest : List TV} {R : Int × Hp → Res} (hc : cd mn pc = some (.invokevirtual i, nx_, tt, q)) (hm : msk q ls = ls) (hml : ml mn i = some (cal, n, c, 0)) (hp : popn n [] st = some (vR a :: as, rest)) (hl : Nat.blt cal mn = true) (hcs : Nat.ble (csum rest) 8 = true)  (k : ∀ x : Int × Hp, RL mn nx_ ls rest x.2 = R x) : RL mn pc ls st h = if okF h a c = true then (CA cal (vR a :: as) h).bind R else none := by
  by_cases hz : okF h a c = true
  case neg => rw [if_neg hz]; exact RL_end (r := none) hc hm (by simp only [ex, hml, hp]; rw [if_neg hz]; rfl)
  rw [if_pos hz]
  have hlt : cal < mn := Nat.blt_eq.mp hl
  have hnm : mn ≤ NM := Nat.le_of_lt (cd_lt hc)
  have hcs' : csum rest ≤ 8 := Nat.ble_eq.mp hcs
  rw [RL, RLc_eq]
  cases hr2 : CA cal (vR a :: as) h with
  | none =>
    have e : nx (callT mn) mn (pc, ls, st, h) = none := by
      simp only [nx, hc, hm, ex, hml, hp]
      rw [if_pos hz, if_pos ⟨hcs', hlt⟩]
      rw [callT_CA hlt hnm, hr2]; rfl
    rw [e]; rfl
  | some x =>
    have e : nx (callT mn) mn (pc, ls, st, h) = go nx_ ls rest x.2 := by
      simp only [nx, hc, hm, ex, hml, hp]
      rw [if_pos hz, if_pos ⟨hcs', hlt⟩]
      rw [callT_CA hlt hnm, hr2]; rfl
    rw [e]
    exact k x

theorem x_callSi {mn pc nx_ : Nat} {tt : List Nat} {q : Option (List Bool)} {ls : List (Option TV)} {st : List TV} {h : Hp} {rt : Nat} {i cal n : Nat} {c : Int} {as rest : List TV} {R : Int × Hp → Res} (hc : cd mn pc = some (.invokestatic i, nx_, tt, q)) (hm : msk q ls = ls) (hml : ml mn i = some (cal, n, c, rt)) (hp : popn n [] st = some (as, rest)) (hl : Nat.blt cal mn = true) (hcs : Nat.ble (csum rest) 8 = true) (hr : ∀ x : Int, psh rt x rest = vI x :: rest) (k : ∀ x : Int × Hp, RL mn nx_ ls (vI x.1 :: rest) x.2 = R x) : RL mn pc ls st h = (CA cal as h).bind R := by
  have hlt : cal < mn := Nat.blt_eq.mp hl
  have hnm : mn ≤ NM := Nat.le_of_lt (cd_lt hc)
  have hcs' : csum rest ≤ 8 := Nat.ble_eq.mp hcs
  have h99 : mn < 9990 := Nat.lt_of_lt_of_le (cd_lt hc) (by decide +kernel)
  rw [RL, RLc_eq]
  cases hr2 : CA cal as h with
  | none =>
    have e : nx (callT mn) mn (pc, ls, st, h) = none := by
      simp only [nx, hc, hm, ex, hml, hp]
      rw [if_pos hcs', if_neg (by omega), if_pos hlt]
      rw [callT_CA hlt hnm, hr2]; rfl
    rw [e]; rfl
  | some x =>
    have e : nx (callT mn) mn (pc, ls, st, h) = go nx_ ls (vI x.1 :: rest) x.2 := by
      simp only [nx, hc, hm, ex, hml, hp]
      rw [if_pos hcs', if_neg (by omega), if_pos hlt]
      rw [callT_CA hlt hnm, hr2]; show go nx_ ls (psh rt x.1 rest) x.2 = _; rw [hr]
    rw [e]
    exact k x

theorem x_callVi {mn pc nx_ : Nat} {tt : List Nat} {q : Option (List Bool)} {ls : List (Option TV)} {st : List TV} {h : Hp} {rt : Nat} {i cal n : Nat} {c a : Int} {as rest : List TV} {R : Int × Hp → Res} (hc : cd mn pc = some (.invokevirtual i, nx_, tt, q)) (hm : msk q ls = ls) (hml : ml mn i = some (cal, n, c, rt)) (hp : popn n [] st = some (vR a :: as, rest)) (hl : Nat.blt cal mn = true) (hcs : Nat.ble (csum rest) 8 = true) (hr : ∀ x : Int, psh rt x rest = vI x :: rest) (k : ∀ x : Int × Hp, RL mn nx_ ls (vI x.1 :: rest) x.2 = R x) : RL mn pc ls st h = if okF h a c = true then (CA cal (vR a :: as) h).bind R else none := by
  by_cases hz : okF h a c = true
  case neg => rw [if_neg hz]; exact RL_end (r := none) hc hm (by simp only [ex, hml, hp]; rw [if_neg hz]; rfl)
  rw [if_pos hz]
  have hlt : cal < mn := Nat.blt_eq.mp hl
  have hnm : mn ≤ NM := Nat.le_of_lt (cd_lt hc)
  have hcs' : csum rest ≤ 8 := Nat.ble_eq.mp hcs
  rw [RL, RLc_eq]
  cases hr2 : CA cal (vR a :: as) h with
  | none =>
    have e : nx (callT mn) mn (pc, ls, st, h) = none := by
      simp only [nx, hc, hm, ex, hml, hp]
      rw [if_pos hz, if_pos ⟨hcs', hlt⟩]
      rw [callT_CA hlt hnm, hr2]; rfl
    rw [e]; rfl
  | some x =>
    have e : nx (callT mn) mn (pc, ls, st, h) = go nx_ ls (vI x.1 :: rest) x.2 := by
      simp only [nx, hc, hm, ex, hml, hp]
      rw [if_pos hz, if_pos ⟨hcs', hlt⟩]
      rw [callT_CA hlt hnm, hr2]; show go nx_ ls (psh rt x.1 rest) x.2 = _; rw [hr]
    rw [e]
    exact k x

theorem x_callSl {mn pc nx_ : Nat} {tt : List Nat} {q : Option (List Bool)} {ls : List (Option TV)} {st : List TV} {h : Hp}  {i cal n : Nat} {c : Int} {as rest : List TV} {R : Int × Hp → Res} (hc : cd mn pc = some (.invokestatic i, nx_, tt, q)) (hm : msk q ls = ls) (hml : ml mn i = some (cal, n, c, 2)) (hp : popn n [] st = some (as, rest)) (hl : Nat.blt cal mn = true) (hcs : Nat.ble (csum rest) 8 = true)  (k : ∀ x : Int × Hp, RL mn nx_ ls (vL x.1 :: rest) x.2 = R x) : RL mn pc ls st h = (CA cal as h).bind R := by
  have hlt : cal < mn := Nat.blt_eq.mp hl
  have hnm : mn ≤ NM := Nat.le_of_lt (cd_lt hc)
  have hcs' : csum rest ≤ 8 := Nat.ble_eq.mp hcs
  have h99 : mn < 9990 := Nat.lt_of_lt_of_le (cd_lt hc) (by decide +kernel)
  rw [RL, RLc_eq]
  cases hr2 : CA cal as h with
  | none =>
    have e : nx (callT mn) mn (pc, ls, st, h) = none := by
      simp only [nx, hc, hm, ex, hml, hp]
      rw [if_pos hcs', if_neg (by omega), if_pos hlt]
      rw [callT_CA hlt hnm, hr2]; rfl
    rw [e]; rfl
  | some x =>
    have e : nx (callT mn) mn (pc, ls, st, h) = go nx_ ls (vL x.1 :: rest) x.2 := by
      simp only [nx, hc, hm, ex, hml, hp]
      rw [if_pos hcs', if_neg (by omega), if_pos hlt]
      rw [callT_CA hlt hnm, hr2]; rfl
    rw [e]
    exact k x

theorem x_callVl {mn pc nx_ : Nat} {tt : List Nat} {q : Option (List Bool)} {ls : List (Option TV)} {st : List TV} {h : Hp}  {i cal n : Nat} {c a : Int} {as rest : List TV} {R : Int × Hp → Res} (hc : cd mn pc = some (.invokevirtual i, nx_, tt, q)) (hm : msk q ls = ls) (hml : ml mn i = some (cal, n, c, 2)) (hp : popn n [] st = some (vR a :: as, rest)) (hl : Nat.blt cal mn = true) (hcs : Nat.ble (csum rest) 8 = true)  (k : ∀ x : Int × Hp, RL mn nx_ ls (vL x.1 :: rest) x.2 = R x) : RL mn pc ls st h = if okF h a c = true then (CA cal (vR a :: as) h).bind R else none := by
  by_cases hz : okF h a c = true
  case neg => rw [if_neg hz]; exact RL_end (r := none) hc hm (by simp only [ex, hml, hp]; rw [if_neg hz]; rfl)
  rw [if_pos hz]
  have hlt : cal < mn := Nat.blt_eq.mp hl
  have hnm : mn ≤ NM := Nat.le_of_lt (cd_lt hc)
  have hcs' : csum rest ≤ 8 := Nat.ble_eq.mp hcs
  rw [RL, RLc_eq]
  cases hr2 : CA cal (vR a :: as) h with
  | none =>
    have e : nx (callT mn) mn (pc, ls, st, h) = none := by
      simp only [nx, hc, hm, ex, hml, hp]
      rw [if_pos hz, if_pos ⟨hcs', hlt⟩]
      rw [callT_CA hlt hnm, hr2]; rfl
    rw [e]; rfl
  | some x =>
    have e : nx (callT mn) mn (pc, ls, st, h) = go nx_ ls (vL x.1 :: rest) x.2 := by
      simp only [nx, hc, hm, ex, hml, hp]
      rw [if_pos hz, if_pos ⟨hcs', hlt⟩]
      rw [callT_CA hlt hnm, hr2]; rfl
    rw [e]
    exact k x

theorem x_callSr {mn pc nx_ : Nat} {tt : List Nat} {q : Option (List Bool)} {ls : List (Option TV)} {st : List TV} {h : Hp}  {i cal n : Nat} {c : Int} {as rest : List TV} {R : Int × Hp → Res} (hc : cd mn pc = some (.invokestatic i, nx_, tt, q)) (hm : msk q ls = ls) (hml : ml mn i = some (cal, n, c, 3)) (hp : popn n [] st = some (as, rest)) (hl : Nat.blt cal mn = true) (hcs : Nat.ble (csum rest) 8 = true)  (k : ∀ x : Int × Hp, RL mn nx_ ls (vR x.1 :: rest) x.2 = R x) : RL mn pc ls st h = (CA cal as h).bind R := by
  have hlt : cal < mn := Nat.blt_eq.mp hl
  have hnm : mn ≤ NM := Nat.le_of_lt (cd_lt hc)
  have hcs' : csum rest ≤ 8 := Nat.ble_eq.mp hcs
  have h99 : mn < 9990 := Nat.lt_of_lt_of_le (cd_lt hc) (by decide +kernel)
  rw [RL, RLc_eq]
  cases hr2 : CA cal as h with
  | none =>
    have e : nx (callT mn) mn (pc, ls, st, h) = none := by
      simp only [nx, hc, hm, ex, hml, hp]
      rw [if_pos hcs', if_neg (by omega), if_pos hlt]
      rw [callT_CA hlt hnm, hr2]; rfl
    rw [e]; rfl
  | some x =>
    have e : nx (callT mn) mn (pc, ls, st, h) = go nx_ ls (vR x.1 :: rest) x.2 := by
      simp only [nx, hc, hm, ex, hml, hp]
      rw [if_pos hcs', if_neg (by omega), if_pos hlt]
      rw [callT_CA hlt hnm, hr2]; rfl
    rw [e]
    exact k x

theorem x_callVr {mn pc nx_ : Nat} {tt : List Nat} {q : Option (List Bool)} {ls : List (Option TV)} {st : List TV} {h : Hp}  {i cal n : Nat} {c a : Int} {as rest : List TV} {R : Int × Hp → Res} (hc : cd mn pc = some (.invokevirtual i, nx_, tt, q)) (hm : msk q ls = ls) (hml : ml mn i = some (cal, n, c, 3)) (hp : popn n [] st = some (vR a :: as, rest)) (hl : Nat.blt cal mn = true) (hcs : Nat.ble (csum rest) 8 = true)  (k : ∀ x : Int × Hp, RL mn nx_ ls (vR x.1 :: rest) x.2 = R x) : RL mn pc ls st h = if okF h a c = true then (CA cal (vR a :: as) h).bind R else none := by
  by_cases hz : okF h a c = true
  case neg => rw [if_neg hz]; exact RL_end (r := none) hc hm (by simp only [ex, hml, hp]; rw [if_neg hz]; rfl)
  rw [if_pos hz]
  have hlt : cal < mn := Nat.blt_eq.mp hl
  have hnm : mn ≤ NM := Nat.le_of_lt (cd_lt hc)
  have hcs' : csum rest ≤ 8 := Nat.ble_eq.mp hcs
  rw [RL, RLc_eq]
  cases hr2 : CA cal (vR a :: as) h with
  | none =>
    have e : nx (callT mn) mn (pc, ls, st, h) = none := by
      simp only [nx, hc, hm, ex, hml, hp]
      rw [if_pos hz, if_pos ⟨hcs', hlt⟩]
      rw [callT_CA hlt hnm, hr2]; rfl
    rw [e]; rfl
  | some x =>
    have e : nx (callT mn) mn (pc, ls, st, h) = go nx_ ls (vR x.1 :: rest) x.2 := by
      simp only [nx, hc, hm, ex, hml, hp]
      rw [if_pos hz, if_pos ⟨hcs', hlt⟩]
      rw [callT_CA hlt hnm, hr2]; rfl
    rw [e]
    exact k x

theorem x_callI {mn pc nx_ : Nat} {tt : List Nat} {q : Option (List Bool)} {ls : List (Option TV)} {st : List TV} {h : Hp} {i cal n : Nat} {c a : Int} {as rest : List TV} {R : Int × Hp → Res} (hc : cd mn pc = some (.invokespecial i, nx_, tt, q)) (hm : msk q ls = ls) (hml : ml mn i = some (cal, n, c, 0)) (hp : popn n [] st = some (vR a :: as, rest)) (hl : Nat.blt cal mn = true) (hcs : Nat.ble (csum rest) 8 = true) (k : ∀ x : Int × Hp, RL mn nx_ ls rest x.2 = R x) : RL mn pc ls st h = if okF h a c = true then (CA cal (vR a :: as) h).bind R else none := by
  have h99 : mn < 9990 := Nat.lt_of_lt_of_le (cd_lt hc) (by decide +kernel)
  have hl9 : cal < mn := Nat.blt_eq.mp hl
  by_cases hz : okF h a c = true
  case neg => rw [if_neg hz]; exact RL_end (r := none) hc hm (by simp only [ex, hml, hp]; rw [if_neg (by omega), if_neg hz]; rfl)
  rw [if_pos hz]
  have hlt : cal < mn := Nat.blt_eq.mp hl
  have hnm : mn ≤ NM := Nat.le_of_lt (cd_lt hc)
  have hcs' : csum rest ≤ 8 := Nat.ble_eq.mp hcs
  rw [RL, RLc_eq]
  cases hr2 : CA cal (vR a :: as) h with
  | none =>
    have e : nx (callT mn) mn (pc, ls, st, h) = none := by
      simp only [nx, hc, hm, ex, hml, hp]
      rw [if_neg (by omega), if_pos hz, if_pos ⟨hcs', hlt, trivial⟩]
      rw [callT_CA hlt hnm, hr2]; rfl
    rw [e]; rfl
  | some x =>
    have e : nx (callT mn) mn (pc, ls, st, h) = go nx_ ls rest x.2 := by
      simp only [nx, hc, hm, ex, hml, hp]
      rw [if_neg (by omega), if_pos hz, if_pos ⟨hcs', hlt, trivial⟩]
      rw [callT_CA hlt hnm, hr2]; rfl
    rw [e]
    exact k x

theorem x_objI {mn pc nx_ : Nat} {tt : List Nat} {q : Option (List Bool)} {ls : List (Option TV)} {st : List TV} {h : Hp} {i : Nat} {c a : Int} {rt : Nat} {R : Res} (hc : cd mn pc = some (.invokespecial i, nx_, tt, q)) (hm : msk q ls = ls) (hml : ml mn i = some (9990, 1, c, rt)) (hcs : Nat.ble (csum st) 8 = true) (k : RL mn nx_ ls st h = R) : RL mn pc ls (vR a :: st) h = if 0 < a then R else none := by
  have hcs' : csum st ≤ 8 := Nat.ble_eq.mp hcs
  by_cases hz : 0 < a
  · rw [if_pos hz]; exact RL_go hc hm (by simp only [ex, hml, popn]; rw [if_pos trivial, if_pos ⟨hz, hcs'⟩]) k
  · rw [if_neg hz]; exact RL_end (r := none) hc hm (by simp only [ex, hml, popn]; rw [if_pos trivial, if_neg (fun q => hz q.1)]; rfl)
theorem x_acpy {mn pc nx_ : Nat} {tt : List Nat} {q : Option (List Bool)} {ls : List (Option TV)} {st : List TV} {h : Hp} {i : Nat} {c src sp dst dp n : Int} {rt : Nat} {R : Hp → Res} (hc : cd mn pc = some (.invokestatic i, nx_, tt, q)) (hm : msk q ls = ls) (hml : ml mn i = some (9991, 5, c, rt)) (hcs : Nat.ble (csum st) 8 = true) (k : ∀ h1, RL mn nx_ ls st h1 = R h1) : RL mn pc ls (vI n :: vI dp :: vR dst :: vI sp :: vR src :: st) h = if okC h src sp dst dp n = true then hb (mC h src sp dst dp n) R else none := by
  have hcs' : csum st ≤ 8 := Nat.ble_eq.mp hcs
  by_cases hz : okC h src sp dst dp n = true
  · rw [if_pos hz]; exact RL_go hc hm (by simp only [ex, hml, popn]; rw [if_pos hcs', if_pos trivial, if_pos hz]) (k _)
  · rw [if_neg hz]; exact RL_end (r := none) hc hm (by simp only [ex, hml, popn]; rw [if_pos hcs', if_pos trivial, if_neg hz]; rfl)
theorem x_iret {mn pc nx_ : Nat} {tt : List Nat} {q : Option (List Bool)} {ls : List (Option TV)} {h : Hp} {v : Int} (hc : cd mn pc = some (.ireturn, nx_, tt, q)) (hm : msk q ls = ls) : RL mn pc ls [vI v] h = if rok (rtM mn) v = true then some (v, h) else none := by
  by_cases hz : rok (rtM mn) v = true
  · rw [if_pos hz]; exact RL_end (r := some (v, h)) hc hm (by simp only [ex]; rw [if_pos hz]; rfl)
  · rw [if_neg hz]; exact RL_end (r := none) hc hm (by simp only [ex]; rw [if_neg hz]; rfl)
theorem x_iretk {mn pc nx_ : Nat} {tt : List Nat} {q : Option (List Bool)} {ls : List (Option TV)} {h : Hp} {v : Int} (hc : cd mn pc = some (.ireturn, nx_, tt, q)) (hm : msk q ls = ls) (hz : rok (rtM mn) v = true) : RL mn pc ls [vI v] h = some (v, h) := RL_end (r := some (v, h)) hc hm (by simp only [ex]; rw [if_pos hz]; rfl)
theorem x_lret {mn pc nx_ : Nat} {tt : List Nat} {q : Option (List Bool)} {ls : List (Option TV)} {h : Hp} {v : Int} (hc : cd mn pc = some (.lreturn, nx_, tt, q)) (hm : msk q ls = ls) : RL mn pc ls [vL v] h = some (v, h) := RL_end (r := some (v, h)) hc hm rfl
theorem x_aret {mn pc nx_ : Nat} {tt : List Nat} {q : Option (List Bool)} {ls : List (Option TV)} {h : Hp} {v : Int} (hc : cd mn pc = some (.areturn, nx_, tt, q)) (hm : msk q ls = ls) : RL mn pc ls [vR v] h = if 0 < v then some (v, h) else none := by
  by_cases hz : 0 < v
  · rw [if_pos hz]; exact RL_end (r := some (v, h)) hc hm (by simp only [ex]; rw [if_pos hz]; rfl)
  · rw [if_neg hz]; exact RL_end (r := none) hc hm (by simp only [ex]; rw [if_neg hz]; rfl)
theorem x_none {mn pc : Nat} {ls : List (Option TV)} {st : List TV} {h : Hp} (hc : cd mn pc = none) : RL mn pc ls st h = none := by
  rw [RL, RLc_eq]; simp only [nx, hc]
theorem x_vret {mn pc nx_ : Nat} {tt : List Nat} {q : Option (List Bool)} {ls : List (Option TV)} {h : Hp} (hc : cd mn pc = some (.return_, nx_, tt, q)) (hm : msk q ls = ls) : RL mn pc ls [] h = some (0, h) := RL_end (r := some (0, h)) hc hm rfl
