-- THE WORLD: a fixed number of cells, each an int row, a long row or an object whose fields are ints or fixed references
abbrev Sg : Type := (Nat → Nat → Int32) × (Nat → Nat → Int64)
abbrev Sh : Type := Nat → Nat × Nat × List (Nat ⊕ Nat)
def fv (ad : Nat → Nat) (σ : Sg) (k : Nat) : Nat ⊕ Nat → Value := fun x => match x with
  | .inl j => .int (σ.1 k j)
  | .inr j => .ref (ad j)
def ceOf (aI aL : ClassId) (ad : Nat → Nat) (σ : Sg) (k : Nat) (x : Nat × Nat × List (Nat ⊕ Nat)) : va_E := match x with
  | (0, n, _) => .inl (aI, n, .inl (σ.1 k))
  | (1, n, _) => .inl (aL, n, .inr (.inl (σ.2 k)))
  | (c + 2, _, fl) => .inr (c, fl.map (fv ad σ k))
def wl (aI aL : ClassId) (N : Nat) (sh : Sh) (ad : Nat → Nat) (σ : Sg) : va_W := (List.range N).map fun k => (ad k, ceOf aI aL ad σ k (sh k))
def Wd (D : va_G) (aI aL : ClassId) (N : Nat) (sh : Sh) (ad : Nat → Nat) (σ : Sg) (H : Heap) : Prop := va_P D vwCl (wl aI aL N sh ad σ) H
def AA (ad : Nat → Nat) (N sz : Nat) : Nat → Prop := fun q => (∃ k, k < N ∧ q = ad k) ∨ sz ≤ q
def Inj (ad : Nat → Nat) (N : Nat) : Prop := ∀ i j, i < N → j < N → ad i = ad j → i = j
theorem wl_get {aI aL : ClassId} {N : Nat} {sh : Sh} {ad : Nat → Nat} {σ : Sg} {k : Nat} (hk : k < N) : (wl aI aL N sh ad σ)[k]? = some (ad k, ceOf aI aL ad σ k (sh k)) := by
  unfold wl
  rw [List.getElem?_map, List.getElem?_range hk]
  rfl
theorem wl_lt {aI aL : ClassId} {N : Nat} {sh : Sh} {ad : Nat → Nat} {σ : Sg} {k : Nat} {q : Nat × va_E} (h : (wl aI aL N sh ad σ)[k]? = some q) : k < N := by
  have h1 := (List.getElem?_eq_some_iff.mp h).1
  simpa [wl] using h1
theorem wl_in {aI aL : ClassId} {N : Nat} {sh : Sh} {ad : Nat → Nat} {σ : Sg} {k : Nat} {q : Nat × va_E} (h : (wl aI aL N sh ad σ)[k]? = some q) : k < N ∧ q = (ad k, ceOf aI aL ad σ k (sh k)) := by
  have h1 := wl_lt h
  rw [wl_get h1] at h
  exact ⟨h1, (Option.some.inj h).symm⟩
theorem wl_D {aI aL : ClassId} {N : Nat} {sh : Sh} {ad : Nat → Nat} {σ : Sg} {A : Nat → Prop} (inj : Inj ad N) (hA : ∀ k, k < N → A (ad k)) : va_D A (wl aI aL N sh ad σ) := by
  refine ⟨fun i j p q hi hj e => ?_, fun k q hk => ?_⟩
  · obtain ⟨h1, rfl⟩ := wl_in hi
    obtain ⟨h2, rfl⟩ := wl_in hj
    exact inj i j h1 h2 e
  · obtain ⟨h1, rfl⟩ := wl_in hk
    exact hA k h1
theorem wl_set {aI aL : ClassId} {N : Nat} {sh : Sh} {ad : Nat → Nat} {σ σ' : Sg} {k : Nat} {e : va_E} (h1 : ceOf aI aL ad σ' k (sh k) = e) (h2 : ∀ j, j ≠ k → ceOf aI aL ad σ' j (sh j) = ceOf aI aL ad σ j (sh j)) : (wl aI aL N sh ad σ).set k (ad k, e) = wl aI aL N sh ad σ' := by
  apply List.ext_getElem?
  intro j
  by_cases hj : j < N
  · rw [wl_get hj]
    by_cases hk : j = k
    · subst hk
      rw [List.getElem?_set_self (by simpa [wl] using hj), h1]
    · rw [List.getElem?_set_ne (fun q => hk q.symm), wl_get hj, h2 j hk]
  · rw [List.getElem?_eq_none (by simpa [wl] using hj), List.getElem?_eq_none (by simpa [wl] using hj)]
def up1 (σ : Sg) (k i : Nat) (v : Int32) : Sg := (fun a => if a = k then upd (σ.1 a) i v else σ.1 a, σ.2)
def upL (σ : Sg) (k i : Nat) (v : Int64) : Sg := (σ.1, fun a => if a = k then vp_updL (σ.2 a) i v else σ.2 a)
def ald (σ : Sg) (k n : Nat) (i : Int32) : Option Int32 := if i < 0 ∨ n ≤ i.toNatClampNeg then none else some (σ.1 k i.toNatClampNeg)
def ast (σ : Sg) (k n : Nat) (i v : Int32) : Option Sg := if i < 0 ∨ n ≤ i.toNatClampNeg then none else some (up1 σ k i.toNatClampNeg v)
def aldL (σ : Sg) (k n : Nat) (i : Int32) : Option Int64 := if i < 0 ∨ n ≤ i.toNatClampNeg then none else some (σ.2 k i.toNatClampNeg)
def astL (σ : Sg) (k n : Nat) (i : Int32) (v : Int64) : Option Sg := if i < 0 ∨ n ≤ i.toNatClampNeg then none else some (upL σ k i.toNatClampNeg v)
def pfi (σ : Sg) (k j : Nat) (v : Int32) : Option Sg := some (up1 σ k j v)
def pfz (σ : Sg) (k j : Nat) (v : Int32) : Option Sg := if v = 0 ∨ v = 1 then some (up1 σ k j v) else none
def zrt (v : Int32) : Option Int32 := if v = 0 ∨ v = 1 then some v else none
def lrm (x y : Int64) : Option Int64 := if y = 0 then none else some (x - x / y * y)
def nm {α β : Type} (a : α) (f : α → Option β) : Option β := f a
theorem nm_inv {α β : Type} {a : α} {f : α → Option β} {y : β} (h : nm a f = some y) : ∃ z, z = a ∧ f z = some y := ⟨a, rfl, h⟩
theorem bnd {α β : Type} {a : Option α} {f : α → Option β} {y : β} (h : a.bind f = some y) : ∃ z, a = some z ∧ f z = some y := by
  cases a with
  | none => cases h
  | some z => exact ⟨z, rfl, h⟩
theorem mapi {α β : Type} {a : Option α} {f : α → β} {y : β} (h : a.map f = some y) : ∃ z, a = some z ∧ f z = y := by
  cases a with
  | none => cases h
  | some z => exact ⟨z, rfl, Option.some.inj h⟩
theorem ift {α : Type} {c : Prop} [Decidable c] {a b y : α} (h : (if c then a else b) = y) (hc : c) : a = y := by rw [if_pos hc] at h; exact h
theorem iff' {α : Type} {c : Prop} [Decidable c] {a b y : α} (h : (if c then a else b) = y) (hc : ¬ c) : b = y := by rw [if_neg hc] at h; exact h
-- a loop: a step goes on, or goes out
def itr {S X : Type} : Nat → (S → Option (S ⊕ X)) → S → Option X
  | 0, _, _ => none
  | n + 1, F, s => (F s).bind fun y => match y with
    | .inl s' => itr n F s'
    | .inr x => some x
def KK {S X : Type} (n : Nat) (F : S → Option (S ⊕ X)) (K : X → Prop) : S ⊕ X → Prop := fun y => match y with
  | .inl s => ∃ x, itr n F s = some x ∧ K x
  | .inr x => K x
theorem itr_inv {S X : Type} {n : Nat} {F : S → Option (S ⊕ X)} {s : S} {x : X} {K : X → Prop} (h : itr (n + 1) F s = some x) (hK : K x) : ∃ y, F s = some y ∧ KK n F K y := by
  obtain ⟨y, h1, h2⟩ := bnd (show ((F s).bind fun y => match y with
    | .inl s' => itr n F s'
    | .inr x => some x) = some x from h)
  refine ⟨y, h1, ?_⟩
  cases y with
  | inl s' => exact ⟨x, h2, hK⟩
  | inr z => cases h2; exact hK
-- what is said of nest mates
def nestWs : List Cond := [.methodLinkNest RX8 11 yX6_init RX8, .methodLinkNest RX8 18 yX4_init RX8, .methodLinkNest RX8 25 yX1_init RX8, .methodLinkNest RX8 41 yX2_init RX8, .methodLinkNest RX8 48 yX7_init RX8, .methodLinkNest RX8 55 yX3_init RX8, .methodLinkNest RX6 19 yX8_put RX8, .methodLinkNest RX1 30 yX8_clearRow RX8, .methodLinkNest RX6 37 yX8_at RX8, .methodLinkNest RX4 55 yX8_put RX8, .methodLinkNest RX4 63 yX8_at RX8, .methodLinkNest RX1 72 yX8_put RX8, .methodLinkNest RX1 76 yX8_at RX8, .methodLinkNest RX1 48 yX8_copy RX8, .methodLinkNest RX1 92 yX8_holdsAll RX8, .methodLinkNest RX2 33 yX8_at RX8, .methodLinkNest RX2 29 yX8_put RX8, .methodLinkNest RX1 80 yX8_has RX8, .methodLinkNest RX7 27 yX8_holdsAll RX8, .methodLinkNest RX7 35 yX8_has RX8, .methodLinkNest RX7 45 yX8_at RX8, .methodLinkNest RX7 49 yX8_put RX8, .methodLinkNest RX0 24 yX8_has RX8, .methodLinkNest RX0 48 yX8_holdsAll RX8, .methodLinkNest RX5 29 yX8_has RX8, .methodLinkNest RX3 28 yX8_put RX8, .methodLinkNest RX3 32 yX8_at RX8, .methodLinkNest RX3 53 yX8_has RX8]
def NW (U : State) : Prop := ∀ w ∈ nestWs, va_Nw w U
theorem NW_warm {s U : State} (hW : s.WarmedH U.vm) (h : NW s) : NW U := by
  have key : ∀ (l : List Cond), (∀ w ∈ l, ∃ a i x q, w = Cond.methodLinkNest a i x q) → (∀ w ∈ l, va_Nw w s) → ∀ w ∈ l, va_Nw w U := by
    intro l h1 h2 w hw
    obtain ⟨a, i, x, q, rfl⟩ := h1 w hw
    exact va_Nw.warmM hW (h2 _ hw)
  refine key nestWs ?_ h
  unfold nestWs
  simp
theorem NW_call {U : State} (h : NW U) (g : JFrame) (mk : MethodId) (a : Array Value) : NW (U.calling g mk a) := by
  have key : ∀ (l : List Cond), (∀ w ∈ l, ∃ a i x q, w = Cond.methodLinkNest a i x q) → (∀ w ∈ l, va_Nw w U) → ∀ w ∈ l, va_Nw w (U.calling g mk a) := by
    intro l h1 h2 w hw
    obtain ⟨a, i, x, q, rfl⟩ := h1 w hw
    exact va_Nw.same rfl rfl (h2 _ hw)
  refine key nestWs ?_ h
  unfold nestWs
  simp
def tysIL (aI aL : ClassId) : List (ClassId × FieldType) := [(aI, .int), (aL, .long)]
abbrev CT (p : Program) (m : MethodId) (c : Code) (cc : ByteArray) (nL : Nat) (s : State) (args : Array Value) (own : String) (D : va_G) (aI aL : ClassId) : Prop :=
  CallFix p m c cc nL s args WA own ∧ va_K D vwCl (tysIL aI aL) s ∧ NW s
abbrev HS (D : va_G) (aI aL : ClassId) (N : Nat) (sh : Sh) (ad : Nat → Nat) (σ : Sg) (s : State) (H : Heap) (locs : List Loc) : Prop :=
  Wd D aI aL N sh ad σ H ∧ va_S (AA ad N s.heap.size) s.heap H locs ∧ Inj ad N
def wS (y : MethodName) (b : ByteArray) (n : Nat) (ret : Option FieldType) : List Cond := .code y b n ret :: WA
def Pw (D : va_G) (aI aL : ClassId) (N : Nat) (sh : Sh) (ad : Nat → Nat) (sz : Nat) (σ : Sg) (av : List Value) : Array Value → State → Prop :=
  va_Pc av (fun U => U.heap.size = sz ∧ Wd D aI aL N sh ad σ U.heap ∧ va_K D vwCl (tysIL aI aL) U ∧ NW U)
def Qi (D : va_G) (aI aL : ClassId) (N : Nat) (sh : Sh) (ad : Nat → Nat) (r0 : Int32) (σ0 : Sg) (sz : Nat) : Array Value → State → Outcome → State → Prop :=
  va_Qi (fun (r : Int32) (u : Sg) => r = r0 ∧ u = σ0) (fun u t => Wd D aI aL N sh ad u t.heap) (AA ad N sz)
def Ql (D : va_G) (aI aL : ClassId) (N : Nat) (sh : Sh) (ad : Nat → Nat) (r0 : Int64) (σ0 : Sg) (sz : Nat) : Array Value → State → Outcome → State → Prop :=
  va_Ql (fun (r : Int64) (u : Sg) => r = r0 ∧ u = σ0) (fun u t => Wd D aI aL N sh ad u t.heap) (AA ad N sz)
def Qv (D : va_G) (aI aL : ClassId) (N : Nat) (sh : Sh) (ad : Nat → Nat) (σ0 : Sg) (sz : Nat) : Array Value → State → Outcome → State → Prop :=
  va_Qv (fun (u : Sg) => u = σ0) (fun u t => Wd D aI aL N sh ad u t.heap) (AA ad N sz)
def Qr (D : va_G) (aI aL : ClassId) (N : Nat) (sh : Sh) (ad : Nat → Nat) (k0 : Nat) (σ0 : Sg) (sz : Nat) : Array Value → State → Outcome → State → Prop :=
  va_Qr (fun (u : Nat × Sg) => u = (k0, σ0)) (fun u a t => a = ad u.1 ∧ Wd D aI aL N sh ad u.2 t.heap) (AA ad N sz)
def RM (fr lo : Nat) : Room := { frames := fr, cells := 0, slots := 0, locals := lo }
theorem tA {y : MethodName} {b : ByteArray} {n : Nat} {ret : Option FieldType} {args : Array Value} {s : State} (h : ∀ w ∈ wS y b n ret, w.before args s = true) : ∀ w ∈ WA, w.before args s = true := fun w hw => h w (List.mem_cons_of_mem _ hw)
theorem goodWA {y : MethodName} {b : ByteArray} {n : Nat} {ret : Option FieldType} (h : Cond.code y b n ret ∈ WA) : GoodIn WA (wS y b n ret) := by
  intro w hw
  rcases List.mem_cons.mp hw with rfl | hw
  · exact ⟨h, good_of_word (wa_good _ h)⟩
  · exact ⟨hw, good_of_word (wa_good _ hw)⟩
theorem goodIn_ap {big a b : List Cond} (ha : GoodIn big a) (hb : GoodIn big b) : GoodIn big (a ++ b) := fun w h => (List.mem_append.mp h).elim (ha w) (hb w)
theorem gV {own C : String} {idx : Nat} {y : MethodName} {b : ByteArray} {n : Nat} {ret : Option FieldType} (h1 : Cond.methodLink own idx y ∈ WA) (h2 : Cond.instanceMethod y ∈ WA) (h3 : Cond.selects C y y ∈ WA) (h4 : Cond.initialized C ∈ WA) (h5 : Cond.code y b n ret ∈ WA) : GoodIn WA (wsV own idx C y (wS y b n ret)) := by
  refine goodIn_ap (fun w hw => ?_) (goodWA h5)
  have : w ∈ WA := by
    simp only [List.mem_cons, List.not_mem_nil, or_false] at hw
    rcases hw with rfl | rfl | rfl | rfl <;> assumption
  exact ⟨this, good_of_word (wa_good _ this)⟩
theorem gS {own : String} {idx : Nat} {y : MethodName} {b : ByteArray} {n : Nat} {ret : Option FieldType} (h1 : Cond.methodLink own idx y ∈ WA) (h2 : Cond.static y ∈ WA) (h4 : Cond.initialized own ∈ WA) (h5 : Cond.code y b n ret ∈ WA) : GoodIn WA (wsS own idx y (wS y b n ret)) := by
  refine goodIn_ap (fun w hw => ?_) (goodWA h5)
  have : w ∈ WA := by
    simp only [List.mem_cons, List.not_mem_nil, or_false] at hw
    rcases hw with rfl | rfl | rfl <;> assumption
  exact ⟨this, good_of_word (wa_good _ this)⟩
section MW
variable {p : Program} {l : Launch} {e : Env} {R : Room} {s : State} {m : MethodId} {args : Array Value} {below : List Frame} {meth : Method} {c : Code} {H : Heap} {locs : List Loc} {Q : State → Prop}
variable {cc : ByteArray} {nL : Nat} {own : String} {D : va_G} {aI aL : ClassId} {N : Nat} {sh : Sh} {ad : Nat → Nat} {σ : Sg} {pc : Nat} {ls : Array Slot} {rest : List Value} {cells slots : Nat}
theorem hsD (h : HS D aI aL N sh ad σ s H locs) : va_D (AA ad N s.heap.size) (wl aI aL N sh ad σ) := wl_D h.2.2 (fun k hk => Or.inl ⟨k, hk, rfl⟩)
set_option maxHeartbeats 1000000 in
theorem w_get (C : CT p m c cc nL s args own D aI aL) (hP : HS D aI aL N sh ad σ s H locs) {k : Nat} (hk : k < N) (ci : Nat) {Nf : Nat} {fl : List (Nat ⊕ Nat)} (hsh : sh k = (ci + 2, Nf, fl)) {Cn : String} {T : u_T} (hc : vwCl[ci]? = some (Cn, T, Nf)) (hin : ∀ w ∈ u_ws Cn T Nf, w ∈ WA) (j : Nat) (hj : j < Nf) {index : Nat} (hl : Cond.fieldLink own index (T j).1 (T j).2.1 (T j).2.2.1 ∈ WA) {v : Value} (hv : (fl.map (fv ad σ k))[j]? = some v) (d : decode cc pc = .ok (.getfield index, 3))
    (kk : W p l e R s m args below meth c H locs cells slots Q (F0 m (pc + 3) ls (v :: rest))) : W p l e R s m args below meth c H locs cells slots Q (F0 m pc ls (.ref (ad k) :: rest)) := by
  obtain ⟨⟨hx, hb, hml, hown, hts⟩, hK, hN⟩ := C
  refine va_get (ci := ci) hx hb hts hin hown hK hP.1 k (fs := fl.map (fv ad σ k)) ?_ hc j hj (hts _ hl) (fun _ h => h) hv d kk
  rw [wl_get hk, hsh]
  rfl
def flok : Nat → List (Nat ⊕ Nat) → Bool := fun i l => match l with
  | [] => true
  | .inl j :: r => (j == i) && flok (i + 1) r
  | .inr _ :: r => flok (i + 1) r
theorem flok_at : ∀ (l : List (Nat ⊕ Nat)) (i j x : Nat), flok i l = true → l[j]? = some (.inl x) → x = i + j := by
  intro l
  induction l with
  | nil => intro i j x _ h; simp at h
  | cons a r ih =>
    intro i j x h1 h2
    cases j with
    | zero =>
      rw [List.getElem?_cons_zero] at h2
      cases h2
      unfold flok at h1
      simp only [Bool.and_eq_true, beq_iff_eq] at h1
      omega
    | succ j =>
      rw [List.getElem?_cons_succ] at h2
      have h3 : flok (i + 1) r = true := by
        cases a with
        | inl y => unfold flok at h1; simp only [Bool.and_eq_true] at h1; exact h1.2
        | inr y => unfold flok at h1; exact h1
      have := ih (i + 1) j x h3 h2
      omega
theorem fl_set {fl : List (Nat ⊕ Nat)} {k j : Nat} {v : Int32} (hf : flok 0 fl = true) (hj : fl[j]? = some (.inl j)) : (fl.map (fv ad σ k)).set j (.int v) = fl.map (fv ad (up1 σ k j v) k) := by
  apply List.ext_getElem?
  intro i
  have hl := (List.getElem?_eq_some_iff.mp hj).1
  by_cases hi : i = j
  · subst hi
    rw [List.getElem?_set_self (by simpa using hl), List.getElem?_map, hj]
    simp [fv, up1, upd]
  · rw [List.getElem?_set_ne (fun q => hi q.symm), List.getElem?_map, List.getElem?_map]
    cases hq : fl[i]? with
    | none => rfl
    | some x =>
      cases x with
      | inr y => rfl
      | inl y =>
        have := flok_at fl 0 i y hf hq
        simp [fv, up1, upd, show y ≠ j by omega]
theorem ce_up1 {x : Nat × Nat × List (Nat ⊕ Nat)} {k j i : Nat} {v : Int32} (h : j ≠ k) : ceOf aI aL ad (up1 σ k i v) j x = ceOf aI aL ad σ j x := by
  obtain ⟨a, n, fl⟩ := x
  match a with
  | 0 => simp [ceOf, up1, h]
  | 1 => simp [ceOf, up1]
  | a + 2 =>
    simp only [ceOf]
    congr 2
    apply List.map_congr_left
    intro y _
    cases y <;> simp [fv, up1, h]
theorem ce_upL {x : Nat × Nat × List (Nat ⊕ Nat)} {k j i : Nat} {v : Int64} (h : j ≠ k) : ceOf aI aL ad (upL σ k i v) j x = ceOf aI aL ad σ j x := by
  obtain ⟨a, n, fl⟩ := x
  match a with
  | 0 => simp [ceOf, upL]
  | 1 => simp [ceOf, upL, h]
  | a + 2 =>
    simp only [ceOf]
    congr 2
theorem w_put0 (C : CT p m c cc nL s args own D aI aL) (hP : HS D aI aL N sh ad σ s H locs) {k : Nat} (hk : k < N) (ci : Nat) {Nf : Nat} {fl : List (Nat ⊕ Nat)} (hsh : sh k = (ci + 2, Nf, fl)) {Cn : String} {T : u_T} (hc : vwCl[ci]? = some (Cn, T, Nf)) (hin : ∀ w ∈ u_ws Cn T Nf, w ∈ WA) (ty : Nat → FieldType) (hty : ∀ k, k < Nf → parseFieldDescriptor (T k).2.2.1 = some (ty k)) (hnm : ∀ a, a < Nf → ∀ b, b < Nf → a ≠ b → (T a).2.1 ≠ (T b).2.1) (j : Nat) (hj : j < Nf) {index : Nat} (hl : Cond.fieldLink own index (T j).1 (T j).2.1 (T j).2.2.1 ∈ WA) (hfin : (T j).2.2.2 = false) {v : Int32} (hn : narrow (ty j) (.int v) = .int v) (hfit : fits (ty j) (.int v) = true) (hf : flok 0 fl = true) (hfj : fl[j]? = some (.inl j)) (d : decode cc pc = .ok (.putfield index, 3))
    (kk : ∀ (H1 : Heap) (locs1 : List Loc), HS D aI aL N sh ad (up1 σ k j v) s H1 locs1 → W p l e R s m args below meth c H1 locs1 cells slots Q (F0 m (pc + 3) ls rest)) : W p l e R s m args below meth c H locs cells slots Q (F0 m pc ls (.int v :: .ref (ad k) :: rest)) := by
  obtain ⟨⟨hx, hb, hml, hown, hts⟩, hK, hN⟩ := C
  have hD := hsD hP
  obtain ⟨hW, hS, hinj⟩ := hP
  refine va_put (ci := ci) (fs := fl.map (fv ad σ k)) hx hb hts hin ty hty hnm hown hK hW hD hS k (by rw [wl_get hk, hsh]; rfl) hc j hj (hts _ hl) (fun _ h => h) hfin (hty j hj) hn hfit (by rw [List.length_map]; exact (List.getElem?_eq_some_iff.mp hfj).1) d (fun H1 locs1 h1 h2 h3 => ?_)
  refine kk H1 locs1 ⟨?_, h3, hinj⟩
  have e := wl_set (aI := aI) (aL := aL) (N := N) (sh := sh) (ad := ad) (σ := σ) (σ' := up1 σ k j v) (k := k) (e := .inr (ci, (fl.map (fv ad σ k)).set j (.int v))) (by rw [hsh, fl_set hf hfj]; rfl) (fun i hi => ce_up1 hi)
  unfold Wd
  rw [← e]
  exact h1
theorem w_puti (C : CT p m c cc nL s args own D aI aL) (hP : HS D aI aL N sh ad σ s H locs) {k : Nat} (hk : k < N) (ci : Nat) {Nf : Nat} {fl : List (Nat ⊕ Nat)} (hsh : sh k = (ci + 2, Nf, fl)) {Cn : String} {T : u_T} (hc : vwCl[ci]? = some (Cn, T, Nf)) (hin : ∀ w ∈ u_ws Cn T Nf, w ∈ WA) (ty : Nat → FieldType) (hty : ∀ k, k < Nf → parseFieldDescriptor (T k).2.2.1 = some (ty k)) (hnm : ∀ a, a < Nf → ∀ b, b < Nf → a ≠ b → (T a).2.1 ≠ (T b).2.1) (j : Nat) (hj : j < Nf) {index : Nat} (hl : Cond.fieldLink own index (T j).1 (T j).2.1 (T j).2.2.1 ∈ WA) (hfin : (T j).2.2.2 = false) (htj : ty j = .int) (hf : flok 0 fl = true) (hfj : fl[j]? = some (.inl j)) {v : Int32} {σ' : Sg} (hv : pfi σ k j v = some σ') (d : decode cc pc = .ok (.putfield index, 3))
    (kk : ∀ (H1 : Heap) (locs1 : List Loc), HS D aI aL N sh ad σ' s H1 locs1 → W p l e R s m args below meth c H1 locs1 cells slots Q (F0 m (pc + 3) ls rest)) : W p l e R s m args below meth c H locs cells slots Q (F0 m pc ls (.int v :: .ref (ad k) :: rest)) := by
  obtain rfl := Option.some.inj hv
  exact w_put0 C hP hk ci hsh hc hin ty hty hnm j hj hl hfin (by rw [htj]; rfl) (by rw [htj]; rfl) hf hfj d kk
theorem nz1 {v : Int32} (h : v = 0 ∨ v = 1) : narrow .boolean (.int v) = .int v ∧ fits .boolean (.int v) = true := by
  rcases h with rfl | rfl <;> exact ⟨by decide +kernel, by decide +kernel⟩
theorem w_putz (C : CT p m c cc nL s args own D aI aL) (hP : HS D aI aL N sh ad σ s H locs) {k : Nat} (hk : k < N) (ci : Nat) {Nf : Nat} {fl : List (Nat ⊕ Nat)} (hsh : sh k = (ci + 2, Nf, fl)) {Cn : String} {T : u_T} (hc : vwCl[ci]? = some (Cn, T, Nf)) (hin : ∀ w ∈ u_ws Cn T Nf, w ∈ WA) (ty : Nat → FieldType) (hty : ∀ k, k < Nf → parseFieldDescriptor (T k).2.2.1 = some (ty k)) (hnm : ∀ a, a < Nf → ∀ b, b < Nf → a ≠ b → (T a).2.1 ≠ (T b).2.1) (j : Nat) (hj : j < Nf) {index : Nat} (hl : Cond.fieldLink own index (T j).1 (T j).2.1 (T j).2.2.1 ∈ WA) (hfin : (T j).2.2.2 = false) (htj : ty j = .boolean) (hf : flok 0 fl = true) (hfj : fl[j]? = some (.inl j)) {v : Int32} {σ' : Sg} (hv : pfz σ k j v = some σ') (d : decode cc pc = .ok (.putfield index, 3))
    (kk : ∀ (H1 : Heap) (locs1 : List Loc), HS D aI aL N sh ad σ' s H1 locs1 → W p l e R s m args below meth c H1 locs1 cells slots Q (F0 m (pc + 3) ls rest)) : W p l e R s m args below meth c H locs cells slots Q (F0 m pc ls (.int v :: .ref (ad k) :: rest)) := by
  unfold pfz at hv
  by_cases hz : v = 0 ∨ v = 1
  · rw [if_pos hz] at hv
    obtain rfl := Option.some.inj hv
    exact w_put0 C hP hk ci hsh hc hin ty hty hnm j hj hl hfin (by rw [htj]; exact (nz1 hz).1) (by rw [htj]; exact (nz1 hz).2) hf hfj d kk
  · rw [if_neg hz] at hv
    cases hv
theorem w_ald (C : CT p m c cc nL s args own D aI aL) (hP : HS D aI aL N sh ad σ s H locs) {k : Nat} (hk : k < N) {n : Nat} {fl : List (Nat ⊕ Nat)} (hsh : sh k = (0, n, fl)) {i v : Int32} (hv : ald σ k n i = some v) (d : decode cc pc = .ok (.iaload, 1))
    (kk : W p l e R s m args below meth c H locs cells slots Q (F0 m (pc + 1) ls (.int v :: rest))) : W p l e R s m args below meth c H locs cells slots Q (F0 m pc ls (.int i :: .ref (ad k) :: rest)) := by
  obtain ⟨⟨hx, hb, hml, hown, hts⟩, hK, hN⟩ := C
  unfold ald at hv
  by_cases hz : i < 0 ∨ n ≤ i.toNatClampNeg
  · rw [if_pos hz] at hv; cases hv
  · rw [if_neg hz] at hv
    obtain rfl := Option.some.inj hv
    exact va_iald hx hb hK hP.1 k 0 (n := n) (f := σ.1 k) (by rw [wl_get hk, hsh]; rfl) rfl hz d kk
theorem w_aldL (C : CT p m c cc nL s args own D aI aL) (hP : HS D aI aL N sh ad σ s H locs) {k : Nat} (hk : k < N) {n : Nat} {fl : List (Nat ⊕ Nat)} (hsh : sh k = (1, n, fl)) {i : Int32} {v : Int64} (hv : aldL σ k n i = some v) (d : decode cc pc = .ok (.laload, 1))
    (kk : W p l e R s m args below meth c H locs cells slots Q (F0 m (pc + 1) ls (.long v :: rest))) : W p l e R s m args below meth c H locs cells slots Q (F0 m pc ls (.int i :: .ref (ad k) :: rest)) := by
  obtain ⟨⟨hx, hb, hml, hown, hts⟩, hK, hN⟩ := C
  unfold aldL at hv
  by_cases hz : i < 0 ∨ n ≤ i.toNatClampNeg
  · rw [if_pos hz] at hv; cases hv
  · rw [if_neg hz] at hv
    obtain rfl := Option.some.inj hv
    exact va_lald hx hb hK hP.1 k 1 (n := n) (f := σ.2 k) (by rw [wl_get hk, hsh]; rfl) rfl hz d kk
theorem w_ast (C : CT p m c cc nL s args own D aI aL) (hP : HS D aI aL N sh ad σ s H locs) {k : Nat} (hk : k < N) {n : Nat} {fl : List (Nat ⊕ Nat)} (hsh : sh k = (0, n, fl)) {i v : Int32} {σ' : Sg} (hv : ast σ k n i v = some σ') (d : decode cc pc = .ok (.iastore, 1))
    (kk : ∀ (H1 : Heap) (locs1 : List Loc), HS D aI aL N sh ad σ' s H1 locs1 → W p l e R s m args below meth c H1 locs1 cells slots Q (F0 m (pc + 1) ls rest)) : W p l e R s m args below meth c H locs cells slots Q (F0 m pc ls (.int v :: .int i :: .ref (ad k) :: rest)) := by
  obtain ⟨⟨hx, hb, hml, hown, hts⟩, hK, hN⟩ := C
  have hD := hsD hP
  obtain ⟨hW, hS, hinj⟩ := hP
  unfold ast at hv
  by_cases hz : i < 0 ∨ n ≤ i.toNatClampNeg
  · rw [if_pos hz] at hv; cases hv
  · rw [if_neg hz] at hv
    obtain rfl := Option.some.inj hv
    refine va_iast hx hb hK hW hD hS k 0 (n := n) (f := σ.1 k) (by rw [wl_get hk, hsh]; rfl) rfl hz d (fun H1 locs1 h1 h2 h3 => kk H1 locs1 ⟨?_, h3, hinj⟩)
    have e := wl_set (aI := aI) (aL := aL) (N := N) (sh := sh) (ad := ad) (σ := σ) (σ' := up1 σ k i.toNatClampNeg v) (k := k) (e := .inl (aI, n, .inl (upd (σ.1 k) i.toNatClampNeg v))) (by rw [hsh]; simp [ceOf, up1]) (fun i hi => ce_up1 hi)
    unfold Wd
    rw [← e]
    exact h1
theorem w_astL (C : CT p m c cc nL s args own D aI aL) (hP : HS D aI aL N sh ad σ s H locs) {k : Nat} (hk : k < N) {n : Nat} {fl : List (Nat ⊕ Nat)} (hsh : sh k = (1, n, fl)) {i : Int32} {v : Int64} {σ' : Sg} (hv : astL σ k n i v = some σ') (d : decode cc pc = .ok (.lastore, 1))
    (kk : ∀ (H1 : Heap) (locs1 : List Loc), HS D aI aL N sh ad σ' s H1 locs1 → W p l e R s m args below meth c H1 locs1 cells slots Q (F0 m (pc + 1) ls rest)) : W p l e R s m args below meth c H locs cells slots Q (F0 m pc ls (.long v :: .int i :: .ref (ad k) :: rest)) := by
  obtain ⟨⟨hx, hb, hml, hown, hts⟩, hK, hN⟩ := C
  have hD := hsD hP
  obtain ⟨hW, hS, hinj⟩ := hP
  unfold astL at hv
  by_cases hz : i < 0 ∨ n ≤ i.toNatClampNeg
  · rw [if_pos hz] at hv; cases hv
  · rw [if_neg hz] at hv
    obtain rfl := Option.some.inj hv
    refine va_last hx hb hK hW hD hS k 1 (n := n) (f := σ.2 k) (by rw [wl_get hk, hsh]; rfl) rfl hz d (fun H1 locs1 h1 h2 h3 => kk H1 locs1 ⟨?_, h3, hinj⟩)
    have e := wl_set (aI := aI) (aL := aL) (N := N) (sh := sh) (ad := ad) (σ := σ) (σ' := upL σ k i.toNatClampNeg v) (k := k) (e := .inl (aL, n, .inr (.inl (vp_updL (σ.2 k) i.toNatClampNeg v)))) (by rw [hsh]; simp [ceOf, upL]) (fun i hi => ce_upL hi)
    unfold Wd
    rw [← e]
    exact h1
theorem w_alen (C : CT p m c cc nL s args own D aI aL) (hP : HS D aI aL N sh ad σ s H locs) {k : Nat} (hk : k < N) {n : Nat} {fl : List (Nat ⊕ Nat)} (hsh : sh k = (0, n, fl)) (d : decode cc pc = .ok (.arraylength, 1))
    (kk : W p l e R s m args below meth c H locs cells slots Q (F0 m (pc + 1) ls (.int (nI n) :: rest))) : W p l e R s m args below meth c H locs cells slots Q (F0 m pc ls (.ref (ad k) :: rest)) := by
  obtain ⟨⟨hx, hb, hml, hown, hts⟩, hK, hN⟩ := C
  exact va_alen hx hb hK hP.1 k 0 (x := (n, .inl (σ.1 k))) (by rw [wl_get hk, hsh]; rfl) (ty := .int) rfl (v := nI n) rfl d kk
theorem w_lrm (C : CT p m c cc nL s args own D aI aL) {x y v : Int64} (hv : lrm x y = some v) (d : decode cc pc = .ok (.lrem, 1))
    (kk : W p l e R s m args below meth c H locs cells slots Q (F0 m (pc + 1) ls (.long v :: rest))) : W p l e R s m args below meth c H locs cells slots Q (F0 m pc ls (.long y :: .long x :: rest)) := by
  unfold lrm at hv
  by_cases hz : y = 0
  · rw [if_pos hz] at hv; cases hv
  · rw [if_neg hz] at hv
    obtain rfl := Option.some.inj hv
    exact lv_lrem C.1.1 C.1.2.1 d hz kk
-- names for what lies on top
theorem w_ni {x v : Int32} (h : v = x) (kk : W p l e R s m args below meth c H locs cells slots Q (F0 m pc ls (.int v :: rest))) : W p l e R s m args below meth c H locs cells slots Q (F0 m pc ls (.int x :: rest)) := by subst h; exact kk
theorem w_nl {x v : Int64} (h : v = x) (kk : W p l e R s m args below meth c H locs cells slots Q (F0 m pc ls (.long v :: rest))) : W p l e R s m args below meth c H locs cells slots Q (F0 m pc ls (.long x :: rest)) := by subst h; exact kk
-- calls
theorem AA_mono {sz sz' q : Nat} (h : sz ≤ sz') (hq : AA ad N sz' q) : AA ad N sz q := hq.imp id (fun h2 => Nat.le_trans h h2)
theorem Pw_blind {sz : Nat} {av : List Value} : FrameBlind (Pw D aI aL N sh ad sz σ av) := fun a U g mk q => by
  obtain ⟨q0, q1, qP, qK, qN⟩ := q
  exact ⟨q0, q1, qP, va_K.moved (u := U) (U := U.calling g mk a) (Vm.Alike.refl U.vm) qK, NW_call qN g mk a⟩
theorem Pw_at (C : CT p m c cc nL s args own D aI aL) (hP : HS D aI aL N sh ad σ s H locs) (av : List Value) : ∀ U : State, U.heap = H → s.WarmedH U.vm → Pw D aI aL N sh ad H.size σ av av.toArray U := by
  intro U hU hW
  exact ⟨rfl, by rw [hU], by rw [hU]; exact hP.1, va_K.moved hW.alike C.2.1, NW_warm hW C.2.2⟩
variable {y : MethodName} {b : ByteArray} {mx fr lo index : Nat} {ret : Option FieldType} {Qc : Array Value → State → Outcome → State → Prop}
theorem w_rV (C : CT p m c cc nL s args own D aI aL) (hP : HS D aI aL N sh ad σ s H locs) {k : Nat} {As st0 : List Value} (hM : Met l y (wS y b mx ret) (RM fr lo) (Pw D aI aL N sh ad H.size σ (.ref (ad k) :: As)) Qc 0 0 (AA ad N H.size)) {Cn : String} (hG : GoodIn WA (wsV own index Cn y (wS y b mx ret))) (n : Nat) (hd : y.cls = Cn ∧ y.cls ≠ "java/lang/invoke/MethodHandle" ∧ y.cls ≠ "java/lang/invoke/VarHandle" ∧ (parseMethodDescriptor y.desc).map (fun d => d.parameters.length) = some n) (hR : fr + 1 ≤ R.frames ∧ 8 + (mx + 11) + lo ≤ R.locals) (hk : k < N) (ci : Nat) {Nf : Nat} {fl : List (Nat ⊕ Nat)} (hsh : sh k = (ci + 2, Nf, fl)) {T : u_T} (hc : vwCl[ci]? = some (Cn, T, Nf)) (hn : As.length = n) (hls : ls.size = nL) (hst : st0 = As.reverse ++ .ref (ad k) :: rest) (hW : (rest.map fun v => v.category).sum ≤ 8) (d : decode cc pc = .ok (.invokevirtual index, 3)) :
    va_Run p l e R s m args below meth c H locs 0 0 0 0 (F0 m pc ls st0) rest (Qc (Value.ref (ad k) :: As).toArray) (AA ad N H.size) := by
  have hblind := Pw_blind (D := D) (aI := aI) (aL := aL) (N := N) (sh := sh) (ad := ad) (σ := σ) (sz := H.size) (av := .ref (ad k) :: As)
  have hat := Pw_at C hP (.ref (ad k) :: As)
  obtain ⟨hF, hK, hN⟩ := C
  exact va_runV (As := As) (rest := rest) hF hM (cwV n hF.2.2.2.2 hG rfl rfl rfl hd hR) ⟨hblind, va_recv hK hP.1 (q0 := k) hc (by rw [wl_get hk, hsh]; rfl), hat⟩ rfl hn hls hst (lv_room hW) d ⟨Nat.zero_le _, Nat.zero_le _⟩
theorem w_rVK (C : CT p m c cc nL s args own D aI aL) (hP : HS D aI aL N sh ad σ s H locs) {k : Nat} {As st0 : List Value} (hM : Met l y (wS y b mx ret) (RM fr lo) (Pw D aI aL N sh ad H.size σ (.ref (ad k) :: As)) Qc 0 0 (AA ad N H.size)) {Cn : String} (hG : GoodIn WA (wsV own index Cn y (wS y b mx ret))) (n : Nat) (hd : y.cls = Cn ∧ y.cls ≠ "java/lang/invoke/MethodHandle" ∧ y.cls ≠ "java/lang/invoke/VarHandle" ∧ (parseMethodDescriptor y.desc).map (fun d => d.parameters.length) = some n) (hR : fr + 1 ≤ R.frames ∧ 8 + (mx + 11) + lo ≤ R.locals) (hk : k < N) (ci : Nat) {Nf : Nat} {fl : List (Nat ⊕ Nat)} (hsh : sh k = (ci + 2, Nf, fl)) {T : u_T} (hc : vwCl[ci]? = some (Cn, T, Nf)) (hn : As.length = n) (hls : ls.size = nL) (hcs : cells ≤ R.cells ∧ slots ≤ R.slots) (hst : st0 = As.reverse ++ .ref (ad k) :: rest) (hW : (rest.map fun v => v.category).sum ≤ 8) (d : decode cc pc = .ok (.invokevirtual index, 3)) :
    va_Run p l e R s m args below meth c H locs cells slots 0 0 (F0 m pc ls st0) rest (Qc (Value.ref (ad k) :: As).toArray) (AA ad N H.size) := by
  have hblind := Pw_blind (D := D) (aI := aI) (aL := aL) (N := N) (sh := sh) (ad := ad) (σ := σ) (sz := H.size) (av := .ref (ad k) :: As)
  have hat := Pw_at C hP (.ref (ad k) :: As)
  obtain ⟨hF, hK, hN⟩ := C
  exact va_runV (As := As) (rest := rest) hF hM (cwV n hF.2.2.2.2 hG rfl rfl rfl hd hR) ⟨hblind, va_recv hK hP.1 (q0 := k) hc (by rw [wl_get hk, hsh]; rfl), hat⟩ rfl hn hls hst (lv_room hW) d hcs
theorem w_rS (C : CT p m c cc nL s args own D aI aL) (hP : HS D aI aL N sh ad σ s H locs) {As st0 : List Value} (hM : Met l y (wS y b mx ret) (RM fr lo) (Pw D aI aL N sh ad H.size σ As) Qc 0 0 (AA ad N H.size)) {own2 : String} (hlink : Cond.methodLink own index y ∈ WA) (hstat : Cond.static y ∈ WA) (hini : Cond.initialized y.cls ∈ WA) (hcode : Cond.code y b mx ret ∈ WA) (n : Nat) (hd : y.cls = own2 ∧ y.cls ≠ "java/lang/invoke/MethodHandle" ∧ y.cls ≠ "java/lang/invoke/VarHandle" ∧ (parseMethodDescriptor y.desc).map (fun d => d.parameters.length) = some n) (hR : fr + 1 ≤ R.frames ∧ 8 + (mx + 11) + lo ≤ R.locals) (hn : As.length = n) (hls : ls.size = nL) (hst : st0 = As.reverse ++ rest) (hW : (rest.map fun v => v.category).sum ≤ 8) (d : decode cc pc = .ok (.invokestatic index, 3)) :
    va_Run p l e R s m args below meth c H locs 0 0 0 0 (F0 m pc ls st0) rest (Qc As.toArray) (AA ad N H.size) := by
  have hblind := Pw_blind (D := D) (aI := aI) (aL := aL) (N := N) (sh := sh) (ad := ad) (σ := σ) (sz := H.size) (av := As)
  have hat := Pw_at C hP As
  obtain ⟨hF, hK, hN⟩ := C
  have hts := hF.2.2.2.2
  exact va_runS (As := As) (rest := rest) hF hM ⟨callB_of n hts (goodWA hcode) rfl rfl rfl (hts _ hini) (hts _ hlink) hd.2 hR, hts _ hstat⟩ ⟨hblind, hat⟩ rfl hn hls hst (lv_room hW) d ⟨Nat.zero_le _, Nat.zero_le _⟩
theorem w_rN (C : CT p m c cc nL s args own D aI aL) (hP : HS D aI aL N sh ad σ s H locs) {As st0 : List Value} (hM : Met l y (wS y b mx ret) (RM fr lo) (Pw D aI aL N sh ad H.size σ As) Qc 0 0 (AA ad N H.size)) {host own2 : String} (hlink : Cond.methodLinkNest own index y host ∈ nestWs) (hstat : Cond.static y ∈ WA) (hini : Cond.initialized y.cls ∈ WA) (hcode : Cond.code y b mx ret ∈ WA) (n : Nat) (hd : y.cls = own2 ∧ y.cls ≠ "java/lang/invoke/MethodHandle" ∧ y.cls ≠ "java/lang/invoke/VarHandle" ∧ (parseMethodDescriptor y.desc).map (fun d => d.parameters.length) = some n) (hR : fr + 1 ≤ R.frames ∧ 8 + (mx + 11) + lo ≤ R.locals) (hn : As.length = n) (hls : ls.size = nL) (hst : st0 = As.reverse ++ rest) (hW : (rest.map fun v => v.category).sum ≤ 8) (d : decode cc pc = .ok (.invokestatic index, 3)) :
    va_Run p l e R s m args below meth c H locs 0 0 0 0 (F0 m pc ls st0) rest (Qc As.toArray) (AA ad N H.size) := by
  have hblind := Pw_blind (D := D) (aI := aI) (aL := aL) (N := N) (sh := sh) (ad := ad) (σ := σ) (sz := H.size) (av := As)
  have hat := Pw_at C hP As
  obtain ⟨hF, hK, hN⟩ := C
  have hts := hF.2.2.2.2
  exact va_runSN (As := As) (rest := rest) hF hM ⟨va_cnB n hts (goodWA hcode) rfl rfl rfl (hN _ hlink) (hts _ hini) hd.2 hR, hts _ hstat, trivial⟩ ⟨hblind, hat⟩ rfl hn hls hst (lv_room hW) d ⟨Nat.zero_le _, Nat.zero_le _⟩
theorem w_ci {r0 : Int32} {σ0 : Sg} {a : Array Value} {st0 : List Value} (hr : va_Run p l e R s m args below meth c H locs cells slots 0 0 (F0 m pc ls st0) rest (Qi D aI aL N sh ad r0 σ0 H.size a) (AA ad N H.size)) (hP : HS D aI aL N sh ad σ s H locs)
    (kk : ∀ (H1 : Heap) (locs1 : List Loc), HS D aI aL N sh ad σ0 s H1 locs1 → W p l e R s m args below meth c H1 locs1 cells slots Q (F0 m (pc + 3) ls (.int r0 :: rest))) : W p l e R s m args below meth c H locs cells slots Q (F0 m pc ls st0) := by
  obtain ⟨hW, hS, hinj⟩ := hP
  refine va_calli (A0 := AA ad N s.heap.size) hr hS (fun q _ h => AA_mono hS.1 h) (fun q h => AA_mono hS.1 h) (fun r u t H1 locs1 ht hvm hp hB hz hk hS1 => ?_)
  obtain ⟨rfl, rfl⟩ := hp
  exact kk H1 locs1 ⟨by rw [← ht]; exact hB, hS1, hinj⟩
theorem w_cl {r0 : Int64} {σ0 : Sg} {a : Array Value} {st0 : List Value} (hr : va_Run p l e R s m args below meth c H locs cells slots 0 0 (F0 m pc ls st0) rest (Ql D aI aL N sh ad r0 σ0 H.size a) (AA ad N H.size)) (hP : HS D aI aL N sh ad σ s H locs)
    (kk : ∀ (H1 : Heap) (locs1 : List Loc), HS D aI aL N sh ad σ0 s H1 locs1 → W p l e R s m args below meth c H1 locs1 cells slots Q (F0 m (pc + 3) ls (.long r0 :: rest))) : W p l e R s m args below meth c H locs cells slots Q (F0 m pc ls st0) := by
  obtain ⟨hW, hS, hinj⟩ := hP
  refine va_calll (A0 := AA ad N s.heap.size) hr hS (fun q _ h => AA_mono hS.1 h) (fun q h => AA_mono hS.1 h) (fun r u t H1 locs1 ht hvm hp hB hz hk hS1 => ?_)
  obtain ⟨rfl, rfl⟩ := hp
  exact kk H1 locs1 ⟨by rw [← ht]; exact hB, hS1, hinj⟩
theorem w_cv {σ0 : Sg} {a : Array Value} {st0 : List Value} (hr : va_Run p l e R s m args below meth c H locs cells slots 0 0 (F0 m pc ls st0) rest (Qv D aI aL N sh ad σ0 H.size a) (AA ad N H.size)) (hP : HS D aI aL N sh ad σ s H locs)
    (kk : ∀ (H1 : Heap) (locs1 : List Loc), HS D aI aL N sh ad σ0 s H1 locs1 → W p l e R s m args below meth c H1 locs1 cells slots Q (F0 m (pc + 3) ls rest)) : W p l e R s m args below meth c H locs cells slots Q (F0 m pc ls st0) := by
  obtain ⟨hW, hS, hinj⟩ := hP
  refine va_callv (A0 := AA ad N s.heap.size) hr hS (fun q _ h => AA_mono hS.1 h) (fun q h => AA_mono hS.1 h) (fun u t H1 locs1 ht hvm hp hB hz hk hS1 => ?_)
  obtain rfl := hp
  exact kk H1 locs1 ⟨by rw [← ht]; exact hB, hS1, hinj⟩
theorem w_cr {k0 : Nat} {σ0 : Sg} {a : Array Value} {st0 : List Value} (hr : va_Run p l e R s m args below meth c H locs cells slots 0 0 (F0 m pc ls st0) rest (Qr D aI aL N sh ad k0 σ0 H.size a) (AA ad N H.size)) (hP : HS D aI aL N sh ad σ s H locs)
    (kk : ∀ (H1 : Heap) (locs1 : List Loc), HS D aI aL N sh ad σ0 s H1 locs1 → W p l e R s m args below meth c H1 locs1 cells slots Q (F0 m (pc + 3) ls (.ref (ad k0) :: rest))) : W p l e R s m args below meth c H locs cells slots Q (F0 m pc ls st0) := by
  obtain ⟨hW, hS, hinj⟩ := hP
  refine va_callr (A0 := AA ad N s.heap.size) hr hS (fun q _ h => AA_mono hS.1 h) (fun q h => AA_mono hS.1 h) (fun u r t H1 locs1 ht hvm hp hB hz hk hS1 => ?_)
  obtain rfl := hp
  obtain ⟨rfl, hB⟩ := hB
  exact kk H1 locs1 ⟨by rw [← ht]; exact hB, hS1, hinj⟩
-- ends
theorem w_iret (C : CT p m c cc nL s args own D aI aL) (hlk : meth.locks = false) (hr : meth.sig.returnType = some .int) (hP : HS D aI aL N sh ad σ s H locs) {v r0 : Int32} {σ0 : Sg} (e1 : v = r0) (e2 : σ = σ0) (d : decode cc pc = .ok (.ireturn, 1)) :
    W p l e R s m args below meth c H locs 0 0 (MQ below (Qi D aI aL N sh ad r0 σ0 s.heap.size) args s 0 0 (AA ad N s.heap.size)) (F0 m pc ls [.int v]) := by
  subst e1; subst e2
  obtain ⟨hW, hS, hinj⟩ := hP
  exact W.iret C.1.1 C.1.2.1 hr (fun t ht hW2 => ⟨⟨v, σ, rfl, ⟨rfl, rfl⟩, by show Wd D aI aL N sh ad σ t.heap; rw [ht]; exact hW⟩, hS.F ht⟩) hS.2.2 d hlk
theorem w_zret (C : CT p m c cc nL s args own D aI aL) (hlk : meth.locks = false) (hr : meth.sig.returnType = some .boolean) (hP : HS D aI aL N sh ad σ s H locs) {v w r0 : Int32} {σ0 : Sg} (hz : zrt v = some w) (e1 : w = r0) (e2 : σ = σ0) (d : decode cc pc = .ok (.ireturn, 1)) :
    W p l e R s m args below meth c H locs 0 0 (MQ below (Qi D aI aL N sh ad r0 σ0 s.heap.size) args s 0 0 (AA ad N s.heap.size)) (F0 m pc ls [.int v]) := by
  subst e1; subst e2
  obtain ⟨hW, hS, hinj⟩ := hP
  unfold zrt at hz
  by_cases h : v = 0 ∨ v = 1
  · rw [if_pos h] at hz
    obtain rfl := Option.some.inj hz
    exact W.zret C.1.1 C.1.2.1 hr (nz1 h).1 (fun t ht hW2 => ⟨⟨v, σ, rfl, ⟨rfl, rfl⟩, by show Wd D aI aL N sh ad σ t.heap; rw [ht]; exact hW⟩, hS.F ht⟩) hS.2.2 d hlk
  · rw [if_neg h] at hz; cases hz
theorem w_lret (C : CT p m c cc nL s args own D aI aL) (hlk : meth.locks = false) (hr : meth.sig.returnType = some .long) (hP : HS D aI aL N sh ad σ s H locs) {v r0 : Int64} {σ0 : Sg} (e1 : v = r0) (e2 : σ = σ0) (d : decode cc pc = .ok (.lreturn, 1)) :
    W p l e R s m args below meth c H locs 0 0 (MQ below (Ql D aI aL N sh ad r0 σ0 s.heap.size) args s 0 0 (AA ad N s.heap.size)) (F0 m pc ls [.long v]) := by
  subst e1; subst e2
  obtain ⟨hW, hS, hinj⟩ := hP
  exact W.lret C.1.1 C.1.2.1 hr (fun t ht hW2 => ⟨⟨v, σ, rfl, ⟨rfl, rfl⟩, by show Wd D aI aL N sh ad σ t.heap; rw [ht]; exact hW⟩, hS.F ht⟩) hS.2.2 d hlk
theorem w_vret (C : CT p m c cc nL s args own D aI aL) (hlk : meth.locks = false) (hr : meth.sig.returnType = none) (hP : HS D aI aL N sh ad σ s H locs) {σ0 : Sg} (e2 : σ = σ0) (d : decode cc pc = .ok (.return_, 1)) :
    W p l e R s m args below meth c H locs 0 0 (MQ below (Qv D aI aL N sh ad σ0 s.heap.size) args s 0 0 (AA ad N s.heap.size)) (F0 m pc ls []) := by
  subst e2
  obtain ⟨hW, hS, hinj⟩ := hP
  exact W.vret C.1.1 C.1.2.1 hr (fun t ht hW2 => ⟨⟨σ, rfl, rfl, by show Wd D aI aL N sh ad σ t.heap; rw [ht]; exact hW⟩, hS.F ht⟩) hS.2.2 d hlk
theorem w_aret (C : CT p m c cc nL s args own D aI aL) (hlk : meth.locks = false) {cn : String} (hr : meth.sig.returnType = some (.object cn)) (hP : HS D aI aL N sh ad σ s H locs) {k k0 : Nat} {σ0 : Sg} (e1 : k = k0) (e2 : σ = σ0) (d : decode cc pc = .ok (.areturn, 1)) :
    W p l e R s m args below meth c H locs 0 0 (MQ below (Qr D aI aL N sh ad k0 σ0 s.heap.size) args s 0 0 (AA ad N s.heap.size)) (F0 m pc ls [.ref (ad k)]) := by
  subst e1; subst e2
  obtain ⟨hW, hS, hinj⟩ := hP
  exact W.aret C.1.1 C.1.2.1 hr (Or.inl ⟨cn, rfl⟩) (Or.inr ⟨_, rfl⟩) (fun t ht hW2 => ⟨⟨(k, σ), ad k, rfl, rfl, rfl, by show Wd D aI aL N sh ad σ t.heap; rw [ht]; exact hW⟩, hS.F ht⟩) hS.2.2 d hlk
end MW
/-- a contract out of its body's walk -/
theorem Mof {l : Launch} {D : va_G} {aI aL : ClassId} {N : Nat} {sh : Sh} {ad : Nat → Nat} {σ : Sg} {y : MethodName} {cc : ByteArray} {mx fr lo sz : Nat} {ret : Option FieldType} {av : List Value} {Qc : Nat → Array Value → State → Outcome → State → Prop} (hy : plainName y.cls = true) (inj : Inj ad N) (hlen : (lg_sl av).length ≤ mx)
    (body : ∀ (p : Program) (e : Env) (s : State) (m : MethodId) (args : Array Value) (below : List Frame) (meth : Method) (c : Code) (ls : Array Slot), CT p m c cc mx s args y.cls D aI aL → meth.locks = false → meth.sig.returnType = ret → HS D aI aL N sh ad σ s s.heap [] → lv_has ls mx (lv_args 0 av) →
      W p l e (RM fr lo) s m args below meth c s.heap [] 0 0 (MQ below (Qc s.heap.size) args s 0 0 (AA ad N s.heap.size)) (F0 m 0 ls [])) :
    Met l y (wS y cc mx ret) (RM fr lo) (Pw D aI aL N sh ad sz σ av) (Qc sz) 0 0 (AA ad N sz) := by
  refine Met.ofW (cc := cc) (maxL := mx) (ret := ret) hy rfl ?_
  intro p e s m args below meth c s₁ B hml hv
  obtain ⟨rfl, hsz, hP, hK, hN⟩ := hv
  have hts := atoms_spec (ws := wS y cc mx ret) B.pre
  have hown : s.vm.findClass y.cls = some m.cls := findClass_of_methodNamed B.named
  subst hsz
  have hl := lv_entry av (n := mx) hlen
  rw [lg_entry_eq]
  generalize (lg_sl av ++ List.replicate (mx - (lg_sl av).length) Slot.unset).toArray = ls at hl ⊢
  exact body p e s m av.toArray below meth c ls ⟨⟨B.exec, B.bytes, hml, hown, tA hts⟩, hK, hN⟩ B.notSynchronized B.returns ⟨hP, va_S.rf, inj⟩ hl
-- switches
theorem tb_out {x : Int32} {n : Nat} (hn : n < 2 ^ 31) (h : ∀ j, j < n → ¬ x = nI j) : x.toInt < (0 : Int) ∨ ((n : Int) - 1) < x.toInt := by
  rcases Int.lt_or_le x.toInt 0 with h1 | h1
  · exact Or.inl h1
  · refine Or.inr ?_
    rcases Int.lt_or_le ((n : Int) - 1) x.toInt with h2 | h2
    · exact h2
    · exfalso
      have e : x = nI x.toInt.toNat := by
        apply Int32.toInt_inj.mp
        rw [nI_toInt (by omega)]
        omega
      exact h x.toInt.toNat (by omega) e
