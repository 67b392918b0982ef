abbrev Sg : Type := (Nat → Nat → Int32) × (Nat → Nat → Int64)
def up1 (σ : Sg) (k i : Nat) (v : Int32) : Sg := (fun a => if a = k then upd (σ.1 a) i v else σ.1 a, σ.2)
def upL (σ : Sg) (k i : Nat) (v : Int64) : Sg := (σ.1, fun a => if a = k then vp_updL (σ.2 a) i v else σ.2 a)
def ald (σ : Sg) (k n : Nat) (i : Int32) : Option Int32 := if i < 0 ∨ n ≤ i.toNatClampNeg then none else some (σ.1 k i.toNatClampNeg)
def ast (σ : Sg) (k n : Nat) (i v : Int32) : Option Sg := if i < 0 ∨ n ≤ i.toNatClampNeg then none else some (up1 σ k i.toNatClampNeg v)
def aldL (σ : Sg) (k n : Nat) (i : Int32) : Option Int64 := if i < 0 ∨ n ≤ i.toNatClampNeg then none else some (σ.2 k i.toNatClampNeg)
def astL (σ : Sg) (k n : Nat) (i : Int32) (v : Int64) : Option Sg := if i < 0 ∨ n ≤ i.toNatClampNeg then none else some (upL σ k i.toNatClampNeg v)
def pfi (σ : Sg) (k j : Nat) (v : Int32) : Option Sg := some (up1 σ k j v)
def pfz (σ : Sg) (k j : Nat) (v : Int32) : Option Sg := if v = 0 ∨ v = 1 then some (up1 σ k j v) else none
def zrt (v : Int32) : Option Int32 := if v = 0 ∨ v = 1 then some v else none
def lrm (x y : Int64) : Option Int64 := if y = 0 then none else some (x - x / y * y)
def nm {α β : Type} (a : α) (f : α → Option β) : Option β := f a
def itr {S X : Type} : Nat → (S → Option (S ⊕ X)) → S → Option X
  | 0, _, _ => none
  | n + 1, F, s => (F s).bind fun y => match y with
    | .inl s' => itr n F s'
    | .inr x => some x
