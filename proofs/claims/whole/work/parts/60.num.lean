-- the numbers of a text
def fg (tx : Nat → Nat) (len j : Nat) : Bool := decide (j < len) && (decide (48 ≤ tx j) && decide (tx j ≤ 57))
def sep (i k : Nat) : Nat := if i + 1 = k then 59 else 44
def num (tx : Nat → Nat) (len p s : Nat) : Option (Nat × Nat) :=
  if fg tx len p = true then
    (if fg tx len (p + 1) = true then (if p + 2 < len ∧ tx (p + 2) = s then some (10 * (tx p - 48) + (tx (p + 1) - 48), p + 3) else none)
     else (if p + 1 < len ∧ tx (p + 1) = s then some (tx p - 48, p + 2) else none))
  else none
def BX (tx : Nat → Nat) (len : Nat) (z : Sg) : Prop := z.1 1 1 = nI len ∧ ∀ j, j < len → z.1 2 j = nI (tx j)
def BM (tx : Nat → Nat) (len : Nat) (z : Sg) : Prop := z.1 0 4 = nI len ∧ ∀ j, j < len → z.1 2 j = nI (tx j)
theorem t_fig : ∀ t, t < 256 → f_X4_isFigure (nI t) = some (bz (decide (48 ≤ t) && decide (t ≤ 57))) := by decide +kernel
theorem t_fig1 : f_X4_isFigure (-1) = some 0 := by decide +kernel
theorem t_in : ∀ t, t < 256 → f_X9_in (nI t).toInt64 48 57 = some (bz (decide (48 ≤ t) && decide (t ≤ 57))) := by decide +kernel
theorem fg_y {tx : Nat → Nat} {len j : Nat} (h : fg tx len j = true) : j < len ∧ 48 ≤ tx j ∧ tx j ≤ 57 := by
  unfold fg at h
  simp only [Bool.and_eq_true, decide_eq_true_eq] at h
  exact h
theorem fg_in {tx : Nat → Nat} {len j : Nat} (h : j < len) : fg tx len j = (decide (48 ≤ tx j) && decide (tx j ≤ 57)) := by
  unfold fg
  rw [decide_eq_true h, Bool.true_and]
theorem fg_out {tx : Nat → Nat} {len j : Nat} (h : ¬ j < len) : fg tx len j = false := by
  unfold fg
  rw [decide_eq_false h, Bool.false_and]
section
variable {tx : Nat → Nat} {len : Nat} {z : Sg}
theorem x_byte (hl : len ≤ 300) (h : BX tx len z) {j : Nat} (hj : j < 1000) : f_X6_byteAt (nI j) z = some (if j < len then nI (tx j) else -1) := by
  unfold f_X6_byteAt f_X6_byteAt_23 f_X6_byteAt_24
  rw [if_neg (nI_pos (by omega)), h.1]
  by_cases c : j < len
  · rw [if_neg (nI_ge c (by omega)), if_pos c, bind_ok (x_at (by omega) (by decide)), h.2 j c]
  · rw [if_pos (nI_le (by omega) (by omega)), if_neg c]
theorem x_isFig (ht : ∀ j, j < len → tx j < 256) (j : Nat) : f_X4_isFigure (if j < len then nI (tx j) else -1) = some (bz (fg tx len j)) := by
  by_cases c : j < len
  · rw [if_pos c, t_fig _ (ht j c), fg_in c]
  · rw [if_neg c, t_fig1, fg_out c]; rfl
def figs (tx : Nat → Nat) (len p : Nat) : Nat := if fg tx len p = true then (if fg tx len (p + 1) = true then 2 else 1) else 0
theorem x_figs (hl : len ≤ 300) (ht : ∀ j, j < len → tx j < 256) (h : BX tx len z) {p : Nat} (hp : p < 900) : f_X4_figuresAt (nI p) z = some (nI (figs tx len p)) := by
  unfold f_X4_figuresAt f_X4_figuresAt_31 figs
  rw [bind_ok (x_byte hl h (by omega)), bind_ok (x_isFig ht p)]
  cases c : fg tx len p
  · rw [bz_f, if_pos rfl, if_neg (by decide)]; rfl
  rw [bz_t, if_neg (by decide : ¬ (1 : Int32) = 0), nI_1, bind_ok (x_byte hl h (by omega)), bind_ok (x_isFig ht (p + 1)), if_pos rfl]
  cases c2 : fg tx len (p + 1)
  · rw [bz_f, if_pos rfl, if_neg (by decide)]; rfl
  · rw [bz_t, if_neg (by decide : ¬ (1 : Int32) = 0), if_pos rfl]; rfl
theorem z_num {v t : Nat} (h : 48 ≤ t) : (10 : Int32) * nI v + nI t - 48 = nI (10 * v + (t - 48)) := by
  rw [z_lit 10, z_mul, nI_add, z_lit 48, pk_sub (by omega), show 10 * v + t - 48 = 10 * v + (t - 48) by omega]
theorem x_num_s (hl : len ≤ 300) (h : BX tx len z) {p k c v : Nat} (hk : k ≤ 2) (hc : c < k) (hp : p < 900) (hf : fg tx len (p + c) = true) : f_X4_numberAt_5s (nI p) (nI k) (nI v) (nI c) z = some (.inl (nI (10 * v + (tx (p + c) - 48)), nI (c + 1))) := by
  have hq := fg_y hf
  unfold f_X4_numberAt_5s
  rw [if_neg (nI_ge hc (by omega)), nI_add, bind_ok (x_byte hl h (by omega)), if_pos hq.1, nm_eq, nm_eq, z_num hq.2.1, nI_1]
theorem x_num_e {p k v : Nat} (hk : k ≤ 2) : f_X4_numberAt_5s (nI p) (nI k) (nI v) (nI k) z = some (.inr (nI v)) := by
  unfold f_X4_numberAt_5s
  rw [if_pos (nI_le (Nat.le_refl _) (by omega))]
theorem x_num1 (hl : len ≤ 300) (h : BX tx len z) {p : Nat} (hp : p < 900) (h1 : fg tx len p = true) : f_X4_numberAt (nI p) (nI 1) z = some (nI (tx p - 48)) := by
  have e1 := x_num_s hl h (p := p) (k := 1) (c := 0) (v := 0) (by decide) (by decide) hp h1
  have e2 := x_num_e (z := z) (p := p) (k := 1) (v := 10 * 0 + (tx (p + 0) - 48)) (by decide)
  unfold f_X4_numberAt f_X4_numberAt_5
  show itr (2999 + 1) (fun s => f_X4_numberAt_5s (nI p) (nI 1) s.1 s.2 z) (nI 0, nI 0) = _
  rw [itr_in e1, itr_out (n := 2998) e2]
  rw [Nat.mul_zero, Nat.zero_add, Nat.add_zero]
theorem x_num2 (hl : len ≤ 300) (h : BX tx len z) {p : Nat} (hp : p < 900) (h1 : fg tx len p = true) (h2 : fg tx len (p + 1) = true) : f_X4_numberAt (nI p) (nI 2) z = some (nI (10 * (tx p - 48) + (tx (p + 1) - 48))) := by
  have e1 := x_num_s hl h (p := p) (k := 2) (c := 0) (v := 0) (by decide) (by decide) hp h1
  have e2 := x_num_s hl h (p := p) (k := 2) (c := 1) (v := 10 * 0 + (tx (p + 0) - 48)) (by decide) (by decide) hp h2
  have e3 := x_num_e (z := z) (p := p) (k := 2) (v := 10 * (10 * 0 + (tx (p + 0) - 48)) + (tx (p + 1) - 48)) (by decide)
  unfold f_X4_numberAt f_X4_numberAt_5
  show itr (2999 + 1) (fun s => f_X4_numberAt_5s (nI p) (nI 2) s.1 s.2 z) (nI 0, nI 0) = _
  rw [itr_in e1, itr_in (n := 2998) e2, itr_out (n := 2997) e3]
  rw [Nat.mul_zero, Nat.zero_add, Nat.add_zero]
/-- one number in the class -/
theorem x_one (hl : len ≤ 300) (ht : ∀ j, j < len → tx j < 256) (h : BX tx len z) {p i k : Nat} (hp : p ≤ len) (hi : i < k) (hk : k ≤ 3) :
    ∃ z', (∀ a, a ≠ 4 → z'.1 a = z.1 a) ∧ ((num tx len p (sep i k) = none ∧ f_X4_itemsEnd_23s (nI k) (nI p) (nI i) z = some (.inr (-1, z'))) ∨ ∃ n q, num tx len p (sep i k) = some (n, q) ∧ z' = up1 z 4 i (nI n) ∧ f_X4_itemsEnd_23s (nI k) (nI p) (nI i) z = some (.inl (nI q, nI (i + 1), z'))) := by
  unfold f_X4_itemsEnd_23s
  rw [if_neg (nI_ge hi (by omega)), bind_ok (x_figs hl ht h (by omega))]
  have up4 : ∀ n, ∀ a, a ≠ 4 → (up1 z 4 i (nI n)).1 a = z.1 a := fun n a ha => funext (fun j => by rw [up1_eq, if_neg (fun q => ha q.1)])
  -- the sign after the number
  have tail : ∀ n f q, f ≤ 2 → q = p + f + 1 → num tx len p (sep i k) = (if p + f < len ∧ tx (p + f) = sep i k then some (n, q) else none) →
      ∃ z', (∀ a, a ≠ 4 → z'.1 a = z.1 a) ∧ ((num tx len p (sep i k) = none ∧ ((f_X8_put 4 3 (nI i) (nI n) z).bind fun q6 => if nI i = nI k - 1 then f_X4_itemsEnd_76 (nI k) (nI p) (nI i) (nI f) 59 q6 else f_X4_itemsEnd_76 (nI k) (nI p) (nI i) (nI f) 44 q6) = some (.inr (-1, z'))) ∨ ∃ n2 q2, num tx len p (sep i k) = some (n2, q2) ∧ z' = up1 z 4 i (nI n2) ∧ ((f_X8_put 4 3 (nI i) (nI n) z).bind fun q6 => if nI i = nI k - 1 then f_X4_itemsEnd_76 (nI k) (nI p) (nI i) (nI f) 59 q6 else f_X4_itemsEnd_76 (nI k) (nI p) (nI i) (nI f) 44 q6) = some (.inl (nI q2, nI (i + 1), z'))) := by
    intro n f q hf hq hn
    have hB : BX tx len (up1 z 4 i (nI n)) := ⟨by rw [up4 n 1 (by decide)]; exact h.1, fun j hj => by rw [up4 n 2 (by decide)]; exact h.2 j hj⟩
    have e76 : ∀ s, s < 256 → f_X4_itemsEnd_76 (nI k) (nI p) (nI i) (nI f) (nI s) (up1 z 4 i (nI n)) = if p + f < len ∧ tx (p + f) = s then some (.inl (nI q, nI (i + 1), up1 z 4 i (nI n))) else some (.inr (-1, up1 z 4 i (nI n))) := by
      intro s hs
      unfold f_X4_itemsEnd_76
      rw [nI_add, bind_ok (x_byte hl hB (by omega))]
      by_cases c : p + f < len
      · rw [if_pos c]
        by_cases c2 : tx (p + f) = s
        · rw [if_pos (show nI (tx (p + f)) = nI s by rw [c2]), if_pos ⟨c, c2⟩, nm_eq, nm_eq, nI_1, nI_1, nI_add, hq]; rfl
        · rw [if_neg (fun w => c2 ((nI_eq (a := tx (p + f)) (b := s) (by have := ht _ c; omega) (by omega)).mp w)), if_neg (fun w => c2 w.2)]
      · rw [if_neg c, if_neg (fun w => (nI_neg (j := s) (by omega)).1 w.symm), if_neg (fun w => c w.1)]
    have both : ((f_X8_put 4 3 (nI i) (nI n) z).bind fun q6 => if nI i = nI k - 1 then f_X4_itemsEnd_76 (nI k) (nI p) (nI i) (nI f) 59 q6 else f_X4_itemsEnd_76 (nI k) (nI p) (nI i) (nI f) 44 q6) = if p + f < len ∧ tx (p + f) = sep i k then some (.inl (nI q, nI (i + 1), up1 z 4 i (nI n))) else some (.inr (-1, up1 z 4 i (nI n))) := by
      rw [bind_ok (x_put (by omega) (by decide)), show nI k - 1 = nI (k - 1) from pk_sub (b := 1) (by omega)]
      unfold sep
      by_cases c : i + 1 = k
      · rw [if_pos (show nI i = nI (k - 1) by rw [show k - 1 = i by omega]), if_pos c]
        exact e76 59 (by decide)
      · rw [if_neg (fun w => by have := (nI_eq (a := i) (b := k - 1) (by omega) (by omega)).mp w; omega), if_neg c]
        exact e76 44 (by decide)
    refine ⟨up1 z 4 i (nI n), up4 n, ?_⟩
    rw [both, hn]
    by_cases c : p + f < len ∧ tx (p + f) = sep i k
    · rw [if_pos c, if_pos c]; exact Or.inr ⟨n, q, rfl, rfl, rfl⟩
    · rw [if_neg c, if_neg c]; exact Or.inl ⟨rfl, rfl⟩
  cases c1 : fg tx len p
  · have e0 : figs tx len p = 0 := by unfold figs; rw [c1]; rfl
    have en : num tx len p (sep i k) = none := by unfold num; rw [c1]; rfl
    rw [e0, if_pos z_e0]
    exact ⟨z, fun _ _ => rfl, Or.inl ⟨en, rfl⟩⟩
  cases c2 : fg tx len (p + 1)
  · have e0 : figs tx len p = 1 := by unfold figs; rw [c1, c2]; rfl
    rw [e0, if_neg (by decide : ¬ nI 1 = 0), bind_ok (x_num1 hl h (by omega) c1)]
    exact tail _ 1 _ (by decide) rfl (by unfold num; rw [c1, c2, if_pos rfl, if_neg (by decide)])
  · have e0 : figs tx len p = 2 := by unfold figs; rw [c1, c2]; rfl
    rw [e0, if_neg (by decide : ¬ nI 2 = 0), bind_ok (x_num2 hl h (by omega) c1 c2)]
    exact tail _ 2 _ (by decide) rfl (by unfold num; rw [c1, c2, if_pos rfl, if_pos rfl])
end
