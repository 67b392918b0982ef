-- the fewest steps to a stone, and how many rows are so short
def wst (F : Fl) (s : Nat) (g : Nat → Nat × Nat) (t : Nat) (a : Nat × Nat) : Nat × Nat :=
  if aft F (fTh F) t s = s ∨ (g (aft F (fTh F) t s)).1 = 1000 ∨ a.1 < (g (aft F (fTh F) t s)).1 + 1 then a
  else ((g (aft F (fTh F) t s)).1 + 1, (g (aft F (fTh F) t s)).2 + if (g (aft F (fTh F) t s)).1 + 1 = a.1 then a.2 else 0)
def wva (F : Fl) (j : Nat) (g : Nat → Nat × Nat) (s : Nat) : Nat × Nat := if s.testBit j = true then (0, 1) else fo (wst F s g) (1000, 0) (fM F)
def wtab (F : Fl) (j : Nat) : Nat → Nat → Nat × Nat
  | 0 => fun _ => (1000, 0)
  | k + 1 => fun x => if x = 1023 - k then wva F j (wtab F j k) x else wtab F j k x
def wk (F : Fl) (j : Nat) (s : Nat) : Nat × Nat := wtab F j 1024 s
theorem wtab_st (F : Fl) (j : Nat) {x : Nat} (hx : x < 1024) : ∀ k, k ≤ 1024 → 1024 - x ≤ k → wtab F j k x = wtab F j (1024 - x) x := by
  intro k
  induction k with
  | zero => intro _ h; omega
  | succ k ih =>
    intro h1 h2
    by_cases c : x = 1023 - k
    · rw [show 1024 - x = k + 1 by omega]
    · show (if x = 1023 - k then wva F j (wtab F j k) x else wtab F j k x) = _
      rw [if_neg c]
      exact ih (by omega) (by omega)
theorem aft_gt {F : Fl} {t s : Nat} (h : aft F (fTh F) t s ≠ s) : s < aft F (fTh F) t s := by
  have := sub_le (aft_sub F (fTh F) t s)
  omega
theorem wva_cg {F : Fl} (hF : OKL F) {j s : Nat} {g g' : Nat → Nat × Nat} (hs : s < 1024) (h : ∀ a, s < a → a < 1024 → g a = g' a) : wva F j g s = wva F j g' s := by
  unfold wva
  by_cases c : s.testBit j = true
  · rw [if_pos c, if_pos c]
  rw [if_neg c, if_neg c]
  have key : ∀ k, k ≤ fM F → fo (wst F s g) (1000, 0) k = fo (wst F s g') (1000, 0) k := by
    intro k
    induction k with
    | zero => intro _; rfl
    | succ k ih =>
      intro hk
      rw [fo_s, fo_s, ih (by omega)]
      unfold wst
      by_cases e : aft F (fTh F) k s = s
      · rw [if_pos (Or.inl e), if_pos (Or.inl e)]
      · rw [h _ (aft_gt e) (aft_lt hF (by omega) hs)]
  exact key _ (Nat.le_refl _)
theorem wk_eq {F : Fl} (hF : OKL F) (j : Nat) {s : Nat} (hs : s < 1024) : wk F j s = wva F j (wk F j) s := by
  have e : wk F j s = wva F j (wtab F j (1023 - s)) s := by
    unfold wk
    rw [wtab_st F j hs 1024 (Nat.le_refl _) (by omega), show 1024 - s = (1023 - s) + 1 by omega]
    exact if_pos (by omega)
  rw [e]
  refine wva_cg hF hs (fun a h1 h2 => ?_)
  unfold wk
  rw [wtab_st F j h2 1024 (Nat.le_refl _) (by omega), wtab_st F j h2 (1023 - s) (by omega) (by omega)]
theorem aft_pc {F : Fl} (hF : OKL F) {t s : Nat} (ht : t < fM F) (h : aft F (fTh F) t s ≠ s) : pc (aft F (fTh F) t s) = pc s + 1 := by
  have h1 := (aft_ne (fTh F) t s).mp h
  rw [aft_eq h, pc_add (hF.c10 ht).2.2 h1.2.2.2]
/-- how few: all or at most what is left -/
theorem wk_few {F : Fl} (hF : OKL F) {j : Nat} : ∀ n s, s < 1024 → 1023 - s = n → ((wk F j s).1 = 1000 ∨ (wk F j s).1 + pc s ≤ 10) ∧ (s.testBit j = false → 1 ≤ (wk F j s).1) := by
  intro n
  induction n using Nat.strongRecOn with
  | ind n ih =>
    intro s hs hn
    rw [wk_eq hF j hs]
    unfold wva
    by_cases c : s.testBit j = true
    · rw [if_pos c]
      exact ⟨Or.inr (by have := pc_le s; simpa using this), fun q => by rw [c] at q; cases q⟩
    rw [if_neg c]
    have key : ∀ k, k ≤ fM F → ((fo (wst F s (wk F j)) (1000, 0) k).1 = 1000 ∨ (fo (wst F s (wk F j)) (1000, 0) k).1 + pc s ≤ 10) ∧ 1 ≤ (fo (wst F s (wk F j)) (1000, 0) k).1 := by
      intro k
      induction k with
      | zero => intro _; exact ⟨Or.inl rfl, by show 1 ≤ 1000; decide⟩
      | succ k ih2 =>
        intro hk
        have h1 := ih2 (by omega)
        rw [fo_s]
        generalize fo (wst F s (wk F j)) (1000, 0) k = a at h1
        unfold wst
        by_cases c2 : aft F (fTh F) k s = s ∨ (wk F j (aft F (fTh F) k s)).1 = 1000 ∨ a.1 < (wk F j (aft F (fTh F) k s)).1 + 1
        · rw [if_pos c2]; exact h1
        · rw [if_neg c2]
          have e1 : aft F (fTh F) k s ≠ s := fun q => c2 (Or.inl q)
          have e2 : (wk F j (aft F (fTh F) k s)).1 ≠ 1000 := fun q => c2 (Or.inr (Or.inl q))
          have e3 := aft_gt e1
          have e4 := aft_lt hF (sl := fTh F) (show k < fM F by omega) hs
          have e5 := (ih (1023 - aft F (fTh F) k s) (by omega) _ e4 rfl).1
          rw [aft_pc hF (by omega) e1] at e5
          show ((wk F j (aft F (fTh F) k s)).1 + 1 = 1000 ∨ (wk F j (aft F (fTh F) k s)).1 + 1 + pc s ≤ 10) ∧ 1 ≤ (wk F j (aft F (fTh F) k s)).1 + 1
          exact ⟨Or.inr (by omega), by omega⟩
    exact ⟨(key _ (Nat.le_refl _)).1, fun _ => (key _ (Nat.le_refl _)).2⟩
-- how many rows at most
def un (F : Fl) (s : Nat) : Nat → Nat
  | 0 => 0
  | k + 1 => un F s k + (if s.testBit (fC F k) = true then 0 else 1)
theorem un_s (F : Fl) (s k : Nat) : un F s (k + 1) = un F s k + (if s.testBit (fC F k) = true then 0 else 1) := rfl
theorem un_le (F : Fl) (s : Nat) : ∀ k, un F s k ≤ k := by
  intro k
  induction k with
  | zero => exact Nat.le_refl _
  | succ k ih => unfold un; split <;> omega
theorem un_lt {F : Fl} {x y t : Nat} (h : sub x y) (h1 : x.testBit (fC F t) = false) (h2 : y.testBit (fC F t) = true) : ∀ k, un F y k + (if t < k then 1 else 0) ≤ un F x k := by
  intro k
  induction k with
  | zero => rw [if_neg (Nat.not_lt_zero _)]; exact Nat.le_refl _
  | succ k ih =>
    rw [un_s, un_s]
    by_cases e : t = k
    · subst e
      rw [if_neg (Nat.lt_irrefl _)] at ih
      rw [h1, h2, if_pos rfl, if_pos (Nat.lt_succ_self _), if_neg Bool.false_ne_true]
      omega
    · have e2 : (if t < k + 1 then 1 else 0) = if t < k then 1 else 0 := by
        by_cases q : t < k
        · rw [if_pos q, if_pos (by omega)]
        · rw [if_neg q, if_neg (by omega)]
      rw [e2]
      cases hx : x.testBit (fC F k)
      · rw [if_neg Bool.false_ne_true]
        have : (if y.testBit (fC F k) = true then 0 else 1 : Nat) ≤ 1 := by split <;> omega
        omega
      · rw [h _ hx, if_pos rfl]
        omega
def fac : Nat → Nat
  | 0 => 1
  | n + 1 => (n + 1) * fac n
theorem fac_pos : ∀ n, 1 ≤ fac n := by
  intro n
  induction n with
  | zero => exact Nat.le_refl _
  | succ n ih => unfold fac; exact Nat.mul_le_mul (show 1 ≤ n + 1 by omega) ih
theorem fac_mono {a : Nat} : ∀ b, fac a ≤ fac (a + b) := by
  intro b
  induction b with
  | zero => exact Nat.le_refl _
  | succ b ih =>
    show fac a ≤ (a + b + 1) * fac (a + b)
    have := Nat.mul_le_mul (show 1 ≤ a + b + 1 by omega) ih
    omega
theorem fac_le {a b : Nat} (h : a ≤ b) : fac a ≤ fac b := by
  have := fac_mono (a := a) (b - a)
  rw [show a + (b - a) = b by omega] at this
  exact this
theorem wk_row {F : Fl} (hF : OKL F) {j : Nat} : ∀ n s, s < 1024 → 1023 - s = n → (wk F j s).2 ≤ fac (un F s (fM F)) := by
  intro n
  induction n using Nat.strongRecOn with
  | ind n ih =>
    intro s hs hn
    rw [wk_eq hF j hs]
    unfold wva
    by_cases c : s.testBit j = true
    · rw [if_pos c]; exact fac_pos _
    rw [if_neg c]
    have key : ∀ k, k ≤ fM F → (fo (wst F s (wk F j)) (1000, 0) k).2 ≤ un F s k * fac (un F s (fM F) - 1) := by
      intro k
      induction k with
      | zero => intro _; exact Nat.zero_le _
      | succ k ih2 =>
        intro hk
        have h1 := ih2 (by omega)
        rw [fo_s]
        generalize fo (wst F s (wk F j)) (1000, 0) k = a at h1
        have h2 : un F s k * fac (un F s (fM F) - 1) ≤ un F s (k + 1) * fac (un F s (fM F) - 1) := Nat.mul_le_mul_right _ (by rw [un_s]; omega)
        unfold wst
        by_cases c2 : aft F (fTh F) k s = s ∨ (wk F j (aft F (fTh F) k s)).1 = 1000 ∨ a.1 < (wk F j (aft F (fTh F) k s)).1 + 1
        · rw [if_pos c2]; omega
        · rw [if_neg c2]
          have e1 : aft F (fTh F) k s ≠ s := fun q => c2 (Or.inl q)
          have e3 := aft_gt e1
          have e4 := aft_lt hF (sl := fTh F) (show k < fM F by omega) hs
          have e5 := ih (1023 - aft F (fTh F) k s) (by omega) _ e4 rfl
          have e6 := (aft_ne (fTh F) k s).mp e1
          have e7 := un_lt (F := F) (t := k) (aft_sub F (fTh F) k s) e6.2.2.2 (by rw [aft_eq e1, tb_or2]; simp) (fM F)
          rw [if_pos (show k < fM F by omega)] at e7
          have e8 : fac (un F (aft F (fTh F) k s) (fM F)) ≤ fac (un F s (fM F) - 1) := fac_le (by omega)
          have e9 : un F s (k + 1) = un F s k + 1 := by
            show un F s k + (if s.testBit (fC F k) = true then 0 else 1) = _
            rw [e6.2.2.2]; rfl
          rw [e9, Nat.add_mul, Nat.one_mul]
          show (wk F j (aft F (fTh F) k s)).2 + (if (wk F j (aft F (fTh F) k s)).1 + 1 = a.1 then a.2 else 0) ≤ _
          split <;> omega
    refine Nat.le_trans (key _ (Nat.le_refl _)) ?_
    cases hu : un F s (fM F) with
    | zero => rw [Nat.zero_mul]; exact Nat.zero_le _
    | succ u => exact Nat.le_refl _
theorem wk_r31 {F : Fl} (hF : OKL F) {j s : Nat} (hs : s < 1024) : (wk F j s).2 < 2 ^ 31 := by
  have h1 := wk_row hF (j := j) _ s hs rfl
  have h2 := un_le F s (fM F)
  have h3 := fac_le (show un F s (fM F) ≤ 10 by have := hF.2.1; omega)
  have h4 : fac 10 = 3628800 := by decide
  omega
theorem wk_f {F : Fl} (hF : OKL F) {j s : Nat} (hs : s < 1024) : (wk F j s).1 = 1000 ∨ (wk F j s).1 ≤ 10 := by
  have := (wk_few hF (j := j) _ s hs rfl).1
  omega
theorem wk_f1 {F : Fl} (hF : OKL F) {j s : Nat} (hs : s < 1024) (h : s.testBit j = false) : 1 ≤ (wk F j s).1 := (wk_few hF (j := j) _ s hs rfl).2 h
/-- how few, on the way -/
def wfo (F : Fl) (j s k : Nat) : Nat × Nat := fo (wst F s (wk F j)) (1000, 0) k
theorem wfo_s (F : Fl) (j s k : Nat) : wfo F j s (k + 1) = wst F s (wk F j) k (wfo F j s k) := rfl
theorem wfo_f {F : Fl} (hF : OKL F) {j s : Nat} (hs : s < 1024) : ∀ k, k ≤ fM F → ((wfo F j s k).1 = 1000 ∨ (wfo F j s k).1 ≤ 11) ∧ 1 ≤ (wfo F j s k).1 := by
  intro k
  induction k with
  | zero => intro _; exact ⟨Or.inl rfl, by show 1 ≤ 1000; decide⟩
  | succ k ih =>
    intro hk
    have h1 := ih (by omega)
    rw [wfo_s]
    generalize wfo F j s k = a at h1
    unfold wst
    by_cases c2 : aft F (fTh F) k s = s ∨ (wk F j (aft F (fTh F) k s)).1 = 1000 ∨ a.1 < (wk F j (aft F (fTh F) k s)).1 + 1
    · rw [if_pos c2]; exact h1
    · rw [if_neg c2]
      have e2 : (wk F j (aft F (fTh F) k s)).1 ≠ 1000 := fun q => c2 (Or.inr (Or.inl q))
      have := wk_f hF (j := j) (aft_lt hF (sl := fTh F) (show k < fM F by omega) hs)
      show ((wk F j (aft F (fTh F) k s)).1 + 1 = 1000 ∨ (wk F j (aft F (fTh F) k s)).1 + 1 ≤ 11) ∧ 1 ≤ (wk F j (aft F (fTh F) k s)).1 + 1
      exact ⟨Or.inr (by omega), by omega⟩
theorem wk_yes {F : Fl} (hF : OKL F) {j s : Nat} (hs : s < 1024) (h : s.testBit j = true) : wk F j s = (0, 1) := by
  rw [wk_eq hF j hs]
  exact if_pos h
theorem wk_no {F : Fl} (hF : OKL F) {j s : Nat} (hs : s < 1024) (h : s.testBit j = false) : wk F j s = wfo F j s (fM F) := by
  rw [wk_eq hF j hs]
  exact if_neg (by rw [h]; decide)
