-- sets of bits
def sub (x y : Nat) : Prop := ∀ k, x.testBit k = true → y.testBit k = true
theorem sub_rfl (x : Nat) : sub x x := fun _ h => h
theorem sub_tr {x y z : Nat} (h : sub x y) (g : sub y z) : sub x z := fun k q => g k (h k q)
theorem sub_as {x y : Nat} (h : sub x y) (g : sub y x) : x = y := by
  apply Nat.eq_of_testBit_eq
  intro i
  have h1 := h i
  have h2 := g i
  cases hx : x.testBit i <;> cases hy : y.testBit i <;> simp_all
theorem sub_or {x y : Nat} : sub x (x ||| y) := fun k h => by rw [Nat.testBit_or, h]; rfl
theorem tb_or2 {x c k : Nat} : (x ||| 2 ^ c).testBit k = (x.testBit k || decide (c = k)) := by rw [Nat.testBit_or, Nat.testBit_two_pow]
theorem or_in {x c : Nat} (h : x.testBit c = true) : x ||| 2 ^ c = x := by
  apply Nat.eq_of_testBit_eq
  intro i
  rw [tb_or2]
  by_cases e : c = i
  · subst e; simp [h]
  · simp [e]
theorem or_ne {x y c : Nat} (hs : sub y x) (h : x.testBit c = false) : x ||| 2 ^ c ≠ y := by
  intro e
  have h1 : (x ||| 2 ^ c).testBit c = true := by rw [tb_or2]; simp
  rw [e] at h1
  have := hs c h1
  rw [h] at this
  cases this
theorem pow10 {c : Nat} (h : c < 10) : 2 ^ c < 1024 := Nat.pow_lt_pow_right (a := 2) (n := 10) (by decide) h
theorem or10 {x y : Nat} (h : x < 1024) (g : y < 1024) : x ||| y < 1024 := Nat.or_lt_two_pow (n := 10) h g
theorem and10 (x : Nat) {y : Nat} (g : y < 1024) : x &&& y < 1024 := Nat.and_lt_two_pow (n := 10) x g
theorem tb10 {x k : Nat} (h : x < 1024) (hk : x.testBit k = true) : k < 10 := by
  rcases Nat.lt_or_ge k 10 with q | q
  · exact q
  · have := Nat.testBit_lt_two_pow (x := x) (i := k) (Nat.lt_of_lt_of_le h (Nat.pow_le_pow_right (show 0 < 2 by decide) q))
    rw [this] at hk
    cases hk
theorem tbn {x k n : Nat} (h : x < 2 ^ n) (hk : x.testBit k = true) : k < n := by
  rcases Nat.lt_or_ge k n with q | q
  · exact q
  · have := Nat.testBit_lt_two_pow (x := x) (i := k) (Nat.lt_of_lt_of_le h (Nat.pow_le_pow_right (by decide) q))
    rw [this] at hk
    cases hk
theorem and_sub {x p : Nat} : x &&& p = p ↔ sub p x := by
  constructor
  · intro h k hk
    rw [← h, Nat.testBit_and] at hk
    simp only [Bool.and_eq_true] at hk
    exact hk.1
  · intro h
    apply Nat.eq_of_testBit_eq
    intro i
    rw [Nat.testBit_and]
    cases hp : p.testBit i
    · simp
    · rw [h i hp]; rfl
theorem sub_p1 {x c : Nat} : sub (2 ^ c) x ↔ x.testBit c = true := by
  constructor
  · intro h
    exact h c Nat.testBit_two_pow_self
  · intro h k hk
    rw [Nat.testBit_two_pow] at hk
    have := of_decide_eq_true hk
    subst this
    exact h
theorem sub_p2 {x a b : Nat} : sub (2 ^ a ||| 2 ^ b) x ↔ x.testBit a = true ∧ x.testBit b = true := by
  constructor
  · intro h
    exact ⟨h a (by rw [Nat.testBit_or, Nat.testBit_two_pow_self]; rfl), h b (by rw [Nat.testBit_or, Nat.testBit_two_pow_self, Bool.or_true])⟩
  · rintro ⟨h1, h2⟩ k hk
    rw [tb_or2, Nat.testBit_two_pow] at hk
    simp only [Bool.or_eq_true, decide_eq_true_eq] at hk
    rcases hk with rfl | rfl <;> assumption
-- how many
def pcn (x : Nat) : Nat → Nat
  | 0 => 0
  | k + 1 => pcn x k + (if x.testBit k then 1 else 0)
def pc (x : Nat) : Nat := pcn x 10
theorem pcn_le (x : Nat) : ∀ k, pcn x k ≤ k := by
  intro k
  induction k with
  | zero => exact Nat.le_refl 0
  | succ k ih => unfold pcn; split <;> omega
theorem ite_mono {p q : Bool} (h : p = true → q = true) : (if p = true then 1 else 0 : Nat) ≤ (if q = true then 1 else 0) := by cases p <;> cases q <;> simp_all
theorem pcn_mono {x y : Nat} : ∀ k, (∀ i, i < k → x.testBit i = true → y.testBit i = true) → pcn x k ≤ pcn y k ∧ ((∃ i, i < k ∧ x.testBit i = false ∧ y.testBit i = true) → pcn x k < pcn y k) := by
  intro k
  induction k with
  | zero => intro _; exact ⟨Nat.le_refl _, fun ⟨i, h, _⟩ => absurd h (by omega)⟩
  | succ k ih =>
    intro h
    obtain ⟨h1, h2⟩ := ih (fun i hi => h i (by omega))
    have hk := h k (by omega)
    have hm := ite_mono hk
    unfold pcn
    refine ⟨by omega, ?_⟩
    · rintro ⟨i, hi, g1, g2⟩
      by_cases e : i = k
      · subst e
        rw [g1, g2]
        simp only [if_true, Bool.false_eq_true, if_false]
        omega
      · have := h2 ⟨i, by omega, g1, g2⟩
        omega
theorem pc_le (x : Nat) : pc x ≤ 10 := pcn_le x 10
theorem pc_mono {x y : Nat} (h : sub x y) : pc x ≤ pc y := (pcn_mono 10 (fun i _ => h i)).1
theorem pc_lt {x y : Nat} (hy : y < 1024) (h : sub x y) (hne : x ≠ y) : pc x < pc y := by
  refine (pcn_mono 10 (fun i _ => h i)).2 ?_
  refine Classical.byContradiction (fun hc => hne (sub_as h (fun k hk => ?_)))
  cases hx : x.testBit k
  · exact absurd ⟨k, tb10 hy hk, hx, hk⟩ hc
  · rfl
-- a step from a set; all steps once; again and again
def aft (F : Fl) (sl t on : Nat) : Nat := if on.testBit (fA F t) = true ∧ on.testBit (fB F t) = true ∧ sl.testBit (fC F t) = true then on ||| 2 ^ fC F t else on
def ps1 (F : Fl) (steps sl : Nat) (t on : Nat) : Nat := if steps.testBit t = true then aft F sl t on else on
def ps (F : Fl) (steps sl on : Nat) : Nat := fo (ps1 F steps sl) on (fM F)
def pit (F : Fl) (steps sl x : Nat) : Nat → Nat
  | 0 => x
  | i + 1 => ps F steps sl (pit F steps sl x i)
def clo (F : Fl) (steps sl set : Nat) : Nat := pit F steps sl (set &&& sl) 10
theorem aft_sub (F : Fl) (sl t on : Nat) : sub on (aft F sl t on) := by unfold aft; split; exact sub_or; exact sub_rfl _
theorem ps1_sub (F : Fl) (steps sl t on : Nat) : sub on (ps1 F steps sl t on) := by unfold ps1; split; exact aft_sub _ _ _ _; exact sub_rfl _
theorem fo_sub (F : Fl) (steps sl on : Nat) : ∀ k, sub on (fo (ps1 F steps sl) on k) := by
  intro k
  induction k with
  | zero => exact sub_rfl _
  | succ k ih => exact sub_tr ih (ps1_sub _ _ _ _ _)
theorem fo_up (F : Fl) (steps sl on : Nat) : ∀ j k, k ≤ j → sub (fo (ps1 F steps sl) on k) (fo (ps1 F steps sl) on j) := by
  intro j
  induction j with
  | zero => intro k hk; rw [Nat.le_zero.mp hk]; exact sub_rfl _
  | succ j ih =>
    intro k hk
    rcases Nat.lt_or_ge k (j + 1) with q | q
    · exact sub_tr (ih k (by omega)) (ps1_sub _ _ _ _ _)
    · rw [show k = j + 1 by omega]; exact sub_rfl _
theorem aft_lt {F : Fl} (hF : OKL F) {sl t on : Nat} (ht : t < fM F) (h : on < 1024) : aft F sl t on < 1024 := by
  unfold aft
  split
  · exact or10 h (pow10 (by have := (hF.2.2.1 t ht).2.2.1; have := hF.1.2; omega))
  · exact h
theorem ps1_lt {F : Fl} (hF : OKL F) {steps sl t on : Nat} (ht : t < fM F) (h : on < 1024) : ps1 F steps sl t on < 1024 := by
  unfold ps1
  split
  · exact aft_lt hF ht h
  · exact h
theorem fo_lt {F : Fl} (hF : OKL F) {steps sl on : Nat} (h : on < 1024) : ∀ k, k ≤ fM F → fo (ps1 F steps sl) on k < 1024 := by
  intro k
  induction k with
  | zero => intro _; exact h
  | succ k ih => intro hk; exact ps1_lt hF (by omega) (ih (by omega))
theorem ps_lt {F : Fl} (hF : OKL F) {steps sl on : Nat} (h : on < 1024) : ps F steps sl on < 1024 := fo_lt hF h _ (Nat.le_refl _)
theorem pit_lt {F : Fl} (hF : OKL F) {steps sl x : Nat} (h : x < 1024) : ∀ i, pit F steps sl x i < 1024 := by
  intro i
  induction i with
  | zero => exact h
  | succ i ih => exact ps_lt hF ih
theorem ps_sub (F : Fl) (steps sl on : Nat) : sub on (ps F steps sl on) := fo_sub F steps sl on _
theorem pit_st {F : Fl} {steps sl x i : Nat} (h : pit F steps sl x (i + 1) = pit F steps sl x i) : ∀ j, pit F steps sl x (i + j) = pit F steps sl x i := by
  intro j
  induction j with
  | zero => rfl
  | succ j ih =>
    show ps F steps sl (pit F steps sl x (i + j)) = _
    rw [ih]
    exact h
theorem pit_fx {F : Fl} (hF : OKL F) {steps sl x : Nat} (h : x < 1024) : ∃ i, i ≤ 10 ∧ pit F steps sl x (i + 1) = pit F steps sl x i := by
  refine Classical.byContradiction (fun hc => ?_)
  have key : ∀ i, i ≤ 11 → i ≤ pc (pit F steps sl x i) := by
    intro i
    induction i with
    | zero => intro _; exact Nat.zero_le _
    | succ i ih =>
      intro hi
      have h1 := ih (by omega)
      have h2 := pc_lt (pit_lt hF h (i + 1)) (ps_sub F steps sl (pit F steps sl x i)) (fun q => hc ⟨i, by omega, q.symm⟩)
      have h3 : pc (pit F steps sl x i) < pc (pit F steps sl x (i + 1)) := h2
      omega
  have := key 11 (by omega)
  have := pc_le (pit F steps sl x 11)
  omega
theorem clo_fx {F : Fl} (hF : OKL F) {steps sl set : Nat} (hs : sl < 1024) : ps F steps sl (clo F steps sl set) = clo F steps sl set := by
  obtain ⟨i, h1, h2⟩ := pit_fx hF (steps := steps) (sl := sl) (x := set &&& sl) (and10 _ hs)
  have h3 := pit_st h2 (10 - i)
  have h4 := pit_st h2 (11 - i)
  rw [show i + (10 - i) = 10 by omega] at h3
  rw [show i + (11 - i) = 11 by omega] at h4
  show pit F steps sl (set &&& sl) 11 = pit F steps sl (set &&& sl) 10
  rw [h3, h4]
theorem clo_lt {F : Fl} (hF : OKL F) {steps sl set : Nat} (hs : sl < 1024) : clo F steps sl set < 1024 := pit_lt hF (and10 _ hs) 10
-- the least set that is closed
def cld (F : Fl) (steps sl y : Nat) : Prop := ∀ t, t < fM F → steps.testBit t = true → y.testBit (fA F t) = true → y.testBit (fB F t) = true → sl.testBit (fC F t) = true → y.testBit (fC F t) = true
theorem ps_min {F : Fl} {steps sl x y : Nat} (h : sub x y) (hc : cld F steps sl y) : sub (ps F steps sl x) y := by
  have key : ∀ k, k ≤ fM F → sub (fo (ps1 F steps sl) x k) y := by
    intro k
    induction k with
    | zero => intro _; exact h
    | succ k ih =>
      intro hk
      have h1 := ih (by omega)
      rw [fo_s]
      unfold ps1
      split
      · rename_i hst
        unfold aft
        split
        · rename_i hq
          intro i hi
          rw [tb_or2] at hi
          simp only [Bool.or_eq_true, decide_eq_true_eq] at hi
          rcases hi with hi | rfl
          · exact h1 i hi
          · exact hc k (by omega) hst (h1 _ hq.1) (h1 _ hq.2.1) hq.2.2
        · exact h1
      · exact h1
  exact key _ (Nat.le_refl _)
theorem pit_min {F : Fl} {steps sl x y : Nat} (h : sub x y) (hc : cld F steps sl y) : ∀ i, sub (pit F steps sl x i) y := by
  intro i
  induction i with
  | zero => exact h
  | succ i ih => exact ps_min ih hc
theorem pit_ext (F : Fl) (steps sl x : Nat) : ∀ i, sub x (pit F steps sl x i) := by
  intro i
  induction i with
  | zero => exact sub_rfl _
  | succ i ih => exact sub_tr ih (ps_sub _ _ _ _)
theorem fx_cld {F : Fl} {steps sl y : Nat} (h : ps F steps sl y = y) : cld F steps sl y := by
  intro t ht h1 h2 h3 h4
  have e1 : fo (ps1 F steps sl) y t = y := sub_as (by have := fo_up F steps sl y (fM F) t (by omega); rw [show fo (ps1 F steps sl) y (fM F) = y from h] at this; exact this) (fo_sub _ _ _ _ _)
  have e2 : sub (fo (ps1 F steps sl) y (t + 1)) y := by have := fo_up F steps sl y (fM F) (t + 1) (by omega); rw [show fo (ps1 F steps sl) y (fM F) = y from h] at this; exact this
  rw [fo_s, e1] at e2
  unfold ps1 at e2
  rw [if_pos h1] at e2
  unfold aft at e2
  rw [if_pos ⟨h2, h3, h4⟩] at e2
  exact e2 _ (by rw [tb_or2]; simp)
theorem clo_ext (F : Fl) (steps sl set : Nat) : sub (set &&& sl) (clo F steps sl set) := pit_ext F steps sl _ 10
theorem clo_cld {F : Fl} (hF : OKL F) {steps sl set : Nat} (hs : sl < 1024) : cld F steps sl (clo F steps sl set) := fx_cld (clo_fx hF hs)
theorem clo_min {F : Fl} {steps sl set y : Nat} (h : sub (set &&& sl) y) (hc : cld F steps sl y) : sub (clo F steps sl set) y := pit_min h hc 10
theorem cld_sl (F : Fl) (steps sl : Nat) : cld F steps sl sl := fun _ _ _ _ _ h => h
theorem and_r (x y : Nat) : sub (x &&& y) y := fun k h => by rw [Nat.testBit_and] at h; simp only [Bool.and_eq_true] at h; exact h.2
theorem and_l (x y : Nat) : sub (x &&& y) x := fun k h => by rw [Nat.testBit_and] at h; simp only [Bool.and_eq_true] at h; exact h.1
theorem clo_sl (F : Fl) (steps sl set : Nat) : sub (clo F steps sl set) sl := clo_min (and_r _ _) (cld_sl _ _ _)
theorem and_mono {x y z : Nat} (h : sub x y) : sub (x &&& z) (y &&& z) := fun k q => by
  rw [Nat.testBit_and] at q ⊢
  simp only [Bool.and_eq_true] at q ⊢
  exact ⟨h k q.1, q.2⟩
theorem clo_mono {F : Fl} (hF : OKL F) {steps sl x y : Nat} (hs : sl < 1024) (h : sub x y) : sub (clo F steps sl x) (clo F steps sl y) :=
  clo_min (sub_tr (and_mono h) (clo_ext _ _ _ _)) (clo_cld hF hs)
