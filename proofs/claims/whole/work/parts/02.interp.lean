/-! An interpreter of the claim's own bytecode over a plain memory: values int, long, reference as Int; memory by address and place. -/
abbrev TV : Type := Int ⊕ (Int ⊕ Int)
abbrev vI (x : Int) : TV := Sum.inl x
abbrev vL (x : Int) : TV := Sum.inr (Sum.inl x)
abbrev vR (x : Int) : TV := Sum.inr (Sum.inr x)
def w32 (x : Int) : Int := Int.bmod x 4294967296
def w64 (x : Int) : Int := Int.bmod x 18446744073709551616
def w8 (x : Int) : Int := Int.bmod x 256
def i_and (a b : Int) : Int := (Int32.ofInt a &&& Int32.ofInt b).toInt
def i_or (a b : Int) : Int := (Int32.ofInt a ||| Int32.ofInt b).toInt
def i_xor (a b : Int) : Int := (Int32.ofInt a ^^^ Int32.ofInt b).toInt
def i_shl (a b : Int) : Int := (Int32.ofInt a <<< (Int32.ofInt b &&& 31)).toInt
def i_shr (a b : Int) : Int := (Int32.ofInt a >>> (Int32.ofInt b &&& 31)).toInt
def i_ush (a b : Int) : Int := ((Int32.ofInt a).toUInt32 >>> ((Int32.ofInt b).toUInt32 &&& Int32.toUInt32 31)).toInt32.toInt
/-- memory: how many cells and slots; kind and length of a cell; its places -/
abbrev Hp : Type := (Nat × Nat) × ((Int → Int × Int) × (Int → Int → Int))
def mT (h : Hp) : Int := (h.1.1 : Int)
def mK (h : Hp) (a : Int) : Int := (h.2.1 a).1
def mL (h : Hp) (a : Int) : Int := (h.2.1 a).2
def mR (h : Hp) (a i : Int) : Int := h.2.2 a i
def mW (h : Hp) (a i v : Int) : Hp := (h.1, h.2.1, fun b j => if b = a ∧ j = i then v else h.2.2 b j)
def mA (h : Hp) (c : Int) (n : Nat) : Hp := ((h.1.1 + 1, h.1.2 + n), fun b => if b = (h.1.1 : Int) + 1 then (c, (n : Int)) else h.2.1 b, fun b j => if b = (h.1.1 : Int) + 1 then 0 else h.2.2 b j)
def mC (h : Hp) (src sp dst dp n : Int) : Hp := (h.1, h.2.1, fun b j => if b = dst ∧ dp ≤ j ∧ j < dp + n then h.2.2 src (sp + (j - dp)) else h.2.2 b j)
def okF (h : Hp) (a c : Int) : Bool := decide (mK h a = c)
def okA (h : Hp) (a c i : Int) : Bool := decide (mK h a = c ∧ 0 ≤ i ∧ i < mL h a)
def okB (h : Hp) (a i : Int) : Bool := decide ((mK h a = 101 ∨ mK h a = 104) ∧ 0 ≤ i ∧ i < mL h a)
def okS (h : Hp) (a c i : Int) : Bool := decide (mK h a = c ∧ 0 ≤ i ∧ i < mL h a ∧ 0 < a)
def okR (h : Hp) (a i : Int) : Bool := decide (111 ≤ mK h a ∧ mK h a ≤ 115 ∧ 0 ≤ i ∧ i < mL h a ∧ 0 < a)
def okY (h : Hp) (a : Int) : Bool := decide (101 ≤ mK h a ∧ mK h a ≤ 115)
def ecK (c : Int) : Int := if c = 111 then 1 else if c = 112 then 3 else if c = 113 then 8 else if c = 114 then 7 else 10
def okQ (h : Hp) (a i v : Int) : Bool := decide (111 ≤ mK h a ∧ mK h a ≤ 115 ∧ 0 ≤ i ∧ i < mL h a ∧ 0 < a ∧ mK h v = ecK (mK h a) ∧ 0 < v)
def okC (h : Hp) (src sp dst dp n : Int) : Bool := decide ((mK h src = 101 ∨ mK h src = 102) ∧ mK h dst = mK h src ∧ 0 < src ∧ 0 < dst ∧ 0 ≤ sp ∧ 0 ≤ dp ∧ 0 ≤ n ∧ sp + n ≤ mL h src ∧ dp + n ≤ mL h dst)
def hb {α : Type} (h : Hp) (f : Hp → α) : α := f h
abbrev Ent : Type := Instr × Nat × List Nat × Option (List Bool)
abbrev Cfg : Type := Nat × List (Option TV) × List TV × Hp
abbrev Res : Type := Option (Int × Hp)
def gl : List (Option TV) → Nat → Option TV
  | [], _ => none
  | v :: _, 0 => v
  | _ :: ls, i + 1 => gl ls i
def sl : List (Option TV) → Nat → Option TV → List (Option TV)
  | [], _, _ => []
  | _ :: ls, 0, v => v :: ls
  | a :: ls, i + 1, v => a :: sl ls i v
def isLong : Option TV → Bool
  | some (Sum.inr (Sum.inl _)) => true
  | _ => false
def kl (ls : List (Option TV)) : Nat → List (Option TV)
  | 0 => ls
  | i + 1 => if isLong (gl ls i) = true then sl ls i none else ls
def st1 (ls : List (Option TV)) (i : Nat) (v : TV) : Option (List (Option TV)) := if i < ls.length then some (sl (kl ls i) i (some v)) else none
def st2 (ls : List (Option TV)) (i : Nat) (v : TV) : Option (List (Option TV)) := if i + 1 < ls.length then some (sl (sl (kl ls i) i (some v)) (i + 1) none) else none
def mskL : List Bool → List (Option TV) → List (Option TV)
  | true :: bs, v :: ls => v :: mskL bs ls
  | false :: bs, _ :: ls => none :: mskL bs ls
  | _, _ => []
def msk : Option (List Bool) → List (Option TV) → List (Option TV)
  | none, ls => ls
  | some bs, ls => mskL bs ls
def popn : Nat → List TV → List TV → Option (List TV × List TV)
  | 0, acc, st => some (acc, st)
  | n + 1, acc, v :: st => popn n (v :: acc) st
  | _ + 1, _, [] => none
def cat1 : TV → Nat
  | Sum.inr (Sum.inl _) => 2
  | _ => 1
def csum : List TV → Nat
  | [] => 0
  | v :: st => cat1 v + csum st
def psh : Nat → Int → List TV → List TV
  | 0, _, st => st
  | 2, x, st => vL x :: st
  | 3, x, st => vR x :: st
  | _, x, st => vI x :: st
/-- what a return of a small type may give -/
def rok : Nat → Int → Bool
  | 4, v => decide (v = 0 ∨ v = 1)
  | 5, v => decide (0 ≤ v ∧ v ≤ 65535)
  | 6, v => decide (-128 ≤ v ∧ v ≤ 127)
  | _, _ => true
/-- arguments as locals -/
def ini : List TV → List (Option TV)
  | [] => []
  | Sum.inr (Sum.inl x) :: as => some (vL x) :: none :: ini as
  | v :: as => some v :: ini as
def pad : Nat → List (Option TV) → List (Option TV)
  | n, v :: ls => v :: pad (n - 1) ls
  | n, [] => List.replicate n none
def go (pc : Nat) (ls : List (Option TV)) (st : List TV) (h : Hp) : Option (Cfg ⊕ (Int × Hp)) := some (Sum.inl (pc, ls, st, h))
def tswi (x : Int) (D : Nat) : Int → List Nat → Nat
  | _, [] => D
  | lo, t :: ts => if x = lo then t else tswi x D (lo + 1) ts
