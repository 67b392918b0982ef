section
variable {tx : Nat → Nat} {len : Nat} {z : Sg}
theorem BM_at (h : BM tx len z) (p : Nat) : BM tx len (up1 z 0 7 (nI p)) := ⟨by rw [up1_eq, if_neg (by omega)]; exact h.1, fun j hj => by rw [up1_eq, if_neg (by omega)]; exact h.2 j hj⟩
theorem m_in15 (hl : len ≤ 300) (ht : ∀ j, j < len → tx j < 256) (h : BM tx len z) {p c v : Nat} {k i : Int32} (hat : z.1 0 7 = nI (p + c)) (hc : c < 3) (hp : p ≤ len) (hf : fg tx len (p + c) = true) :
    f_X9_takes_15s k i (nI p) (nI v) z = some (.inl (nI (10 * v + (tx (p + c) - 48)), up1 z 0 7 (nI (p + c + 1)))) := by
  have hq := fg_y hf
  unfold f_X9_takes_15s
  rw [h.1, hat, if_neg (nI_ge hq.1 (by omega)), pk_sub (by omega), Nat.add_sub_cancel_left, if_neg (show ¬ (3 : Int32) ≤ nI c from nI_ge (a := c) (b := 3) hc (by decide)), bind_ok (ald_ok (by omega) (by decide)), h.2 _ hq.1, bind_ok (t_in _ (ht _ hq.1)), ← fg_in hq.1, hf, bz_t, if_neg (by decide : ¬ (1 : Int32) = 0), bind_ok (ald_ok (by omega) (by decide)), h.2 _ hq.1, z_num hq.2.1, nm_eq, nI_1, bind_ok (pfi_eq _ _ _ _)]
theorem m_out15 (hl : len ≤ 300) (ht : ∀ j, j < len → tx j < 256) (h : BM tx len z) {p c v : Nat} {k i : Int32} (hat : z.1 0 7 = nI (p + c)) (hc : c ≤ 3) (hp : p ≤ len) (hf : c = 3 ∨ fg tx len (p + c) = false) :
    f_X9_takes_15s k i (nI p) (nI v) z = (f_X9_takes_91 k i (nI p) (nI v) z).map (fun w => .inr w) := by
  unfold f_X9_takes_15s
  rw [h.1, hat]
  by_cases c1 : p + c < len
  · rw [if_neg (nI_ge c1 (by omega)), pk_sub (by omega), Nat.add_sub_cancel_left]
    by_cases c2 : c = 3
    · rw [c2, if_pos (by decide)]
    · rw [if_neg (show ¬ (3 : Int32) ≤ nI c from nI_ge (a := c) (b := 3) (by omega) (by decide)), bind_ok (ald_ok (by omega) (by decide)), h.2 _ c1, bind_ok (t_in _ (ht _ c1)), ← fg_in c1, hf.resolve_left c2, bz_f, if_pos rfl]
  · rw [if_pos (nI_le (by omega) (by omega))]
/-- the sign after the number -/
theorem m_91 (hl : len ≤ 300) (ht : ∀ j, j < len → tx j < 256) (h : BM tx len z) {p c v k i : Nat} (hat : z.1 0 7 = nI (p + c)) (hp : p ≤ len) (hpc : p + c ≤ len) (hi : i < k) (hk : k ≤ 3) :
    f_X9_takes_91 (nI k) (nI i) (nI p) (nI v) z = if 1 ≤ c ∧ c ≤ 2 ∧ p + c < len ∧ tx (p + c) = sep i k then some (.inl (nI (i + 1), up1 (up1 z 4 i (nI v)) 0 7 (nI (p + c + 1)))) else some (.inr (0, z)) := by
  have no : (f_X9_takes_146 z).map (fun w => (Sum.inr w : (Int32 × Sg) ⊕ (Int32 × Sg))) = some (.inr (0, z)) := rfl
  unfold f_X9_takes_91
  rw [hat, h.1]
  by_cases c0 : c = 0
  · rw [if_pos (show nI (p + c) = nI p by rw [c0]; rfl), no, if_neg (fun q => by omega)]
  rw [if_neg (fun q => by have := (nI_eq (a := p + c) (b := p) (by omega) (by omega)).mp q; omega), pk_sub (by omega), Nat.add_sub_cancel_left]
  by_cases c1 : 2 < c
  · rw [if_pos (show (2 : Int32) < nI c from nI_lt (a := 2) c1 (by omega)), no, if_neg (fun q => by omega)]
  rw [if_neg (show ¬ (2 : Int32) < nI c from nI_nlt (a := 2) (b := c) (by omega) (by decide))]
  by_cases c2 : p + c < len
  case neg => rw [if_pos (show nI (p + c) = nI len by rw [show p + c = len by omega]), no, if_neg (fun q => c2 q.2.2.1)]
  have e143 : ∀ s, s < 256 → f_X9_takes_143 (nI k) (nI i) (nI v) (nI (tx (p + c))) (nI s) z = if tx (p + c) = s then some (.inl (nI (i + 1), up1 (up1 z 4 i (nI v)) 0 7 (nI (p + c + 1)))) else some (.inr (0, z)) := by
    intro s hs
    have hb := ht _ c2
    unfold f_X9_takes_143
    by_cases c3 : tx (p + c) = s
    · rw [if_pos (show nI (tx (p + c)) = nI s by rw [c3]), if_pos c3, bind_ok (ast_ok (by omega) (by decide)), up1_eq, if_neg (by omega), hat, nI_1, bind_ok (pfi_eq _ _ _ _), nm_eq, nI_1]
    · rw [if_neg (fun w => c3 ((nI_eq (a := tx (p + c)) (b := s) (by omega) (by omega)).mp w)), if_neg c3, no]
  rw [if_neg (fun q => by have := (nI_eq (a := p + c) (b := len) (by omega) (by omega)).mp q; omega), bind_ok (ald_ok (by omega) (by decide)), h.2 _ c2, show nI k - 1 = nI (k - 1) from pk_sub (b := 1) (by omega)]
  have fin : (if tx (p + c) = sep i k then some (Sum.inl (nI (i + 1), up1 (up1 z 4 i (nI v)) 0 7 (nI (p + c + 1)))) else some (.inr (0, z)) : Option ((Int32 × Sg) ⊕ (Int32 × Sg))) = if 1 ≤ c ∧ c ≤ 2 ∧ p + c < len ∧ tx (p + c) = sep i k then some (.inl (nI (i + 1), up1 (up1 z 4 i (nI v)) 0 7 (nI (p + c + 1)))) else some (.inr (0, z)) := by
    by_cases c4 : tx (p + c) = sep i k
    · rw [if_pos c4, if_pos ⟨by omega, by omega, c2, c4⟩]
    · rw [if_neg c4, if_neg (fun q => c4 q.2.2.2)]
  rw [← fin]
  unfold sep
  by_cases c3 : i + 1 = k
  · rw [if_pos (show nI i = nI (k - 1) by rw [show k - 1 = i by omega]), if_pos c3]
    exact e143 59 (by decide)
  · rw [if_neg (fun w => by have := (nI_eq (a := i) (b := k - 1) (by omega) (by omega)).mp w; omega), if_neg c3]
    exact e143 44 (by decide)
/-- one number in the reference -/
theorem m_one (hl : len ≤ 300) (ht : ∀ j, j < len → tx j < 256) (h : BM tx len z) {p i k : Nat} (hat : z.1 0 7 = nI p) (hp : p ≤ len) (hi : i < k) (hk : k ≤ 3) :
    ∃ z', (∀ a j, a ≠ 4 → ¬ (a = 0 ∧ j = 7) → z'.1 a j = z.1 a j) ∧ ((num tx len p (sep i k) = none ∧ f_X9_takes_2s (nI k) (nI i) z = some (.inr (0, z'))) ∨ ∃ n q, num tx len p (sep i k) = some (n, q) ∧ f_X9_takes_2s (nI k) (nI i) z = some (.inl (nI (i + 1), z')) ∧ z'.1 0 7 = nI q ∧ z'.1 4 i = nI n ∧ ∀ j, j ≠ i → z'.1 4 j = z.1 4 j) := by
  unfold f_X9_takes_2s
  rw [if_neg (nI_ge hi (by omega)), hat, nm_eq]
  unfold f_X9_takes_15
  -- after c figures
  have tail : ∀ c v (y : Sg) (N : Nat), c ≤ 3 → p + c ≤ len → (c = 3 ∨ fg tx len (p + c) = false) → BM tx len y → y.1 0 7 = nI (p + c) → (∀ a j, ¬ (a = 0 ∧ j = 7) → y.1 a j = z.1 a j) →
      num tx len p (sep i k) = (if 1 ≤ c ∧ c ≤ 2 ∧ p + c < len ∧ tx (p + c) = sep i k then some (v, p + c + 1) else none) →
      ∃ z', (∀ a j, a ≠ 4 → ¬ (a = 0 ∧ j = 7) → z'.1 a j = z.1 a j) ∧ ((num tx len p (sep i k) = none ∧ itr (N + 1) (fun s => f_X9_takes_15s (nI k) (nI i) (nI p) s.1 s.2) (nI v, y) = some (.inr (0, z'))) ∨ ∃ n q, num tx len p (sep i k) = some (n, q) ∧ itr (N + 1) (fun s => f_X9_takes_15s (nI k) (nI i) (nI p) s.1 s.2) (nI v, y) = some (.inl (nI (i + 1), z')) ∧ z'.1 0 7 = nI q ∧ z'.1 4 i = nI n ∧ ∀ j, j ≠ i → z'.1 4 j = z.1 4 j) := by
    intro c v y N hc hpc hf hB hy hs hn
    have e1 := m_out15 hl ht hB (k := nI k) (i := nI i) (v := v) hy hc hp hf
    rw [m_91 hl ht hB (v := v) hy hp hpc hi hk] at e1
    by_cases q : 1 ≤ c ∧ c ≤ 2 ∧ p + c < len ∧ tx (p + c) = sep i k
    · rw [if_pos q] at e1 hn
      refine ⟨up1 (up1 y 4 i (nI v)) 0 7 (nI (p + c + 1)), fun a j h1 h2 => by rw [up1_eq, if_neg h2, up1_eq, if_neg (fun w => h1 w.1), hs a j h2], Or.inr ⟨v, p + c + 1, hn, itr_out e1, by rw [up1_eq, if_pos ⟨rfl, rfl⟩], by rw [up1_eq, if_neg (by omega), up1_eq, if_pos ⟨rfl, rfl⟩], fun j hj => by rw [up1_eq, if_neg (by omega), up1_eq, if_neg (fun w => hj w.2), hs 4 j (by omega)]⟩⟩
    · rw [if_neg q] at e1 hn
      exact ⟨y, fun a j _ h2 => hs a j h2, Or.inl ⟨hn, itr_out e1⟩⟩
  have sep_nf : ∀ j, fg tx len j = true → tx j ≠ sep i k := fun j hj e => by
    have := fg_y hj
    rw [e] at this
    unfold sep at this
    split at this <;> omega
  cases c1 : fg tx len p
  · refine tail 0 0 z 2999 (by decide) hp (Or.inr c1) h hat (fun _ _ _ => rfl) ?_
    unfold num
    rw [c1, if_neg (by decide), if_neg (fun q => by omega)]
  have q1 := fg_y c1
  have e1 := m_in15 hl ht h (k := nI k) (i := nI i) (c := 0) (v := 0) hat (by decide) hp c1
  rw [Nat.mul_zero, Nat.zero_add, Nat.add_zero] at e1
  have B1 := BM_at h (p + 1)
  have a1 : (up1 z 0 7 (nI (p + 1))).1 0 7 = nI (p + 1) := by rw [up1_eq, if_pos ⟨rfl, rfl⟩]
  have s1 : ∀ a j, ¬ (a = 0 ∧ j = 7) → (up1 z 0 7 (nI (p + 1))).1 a j = z.1 a j := fun a j hq => by rw [up1_eq, if_neg hq]
  rw [show itr 3000 (fun s => f_X9_takes_15s (nI k) (nI i) (nI p) s.1 s.2) (0, z) = itr 2999 (fun s => f_X9_takes_15s (nI k) (nI i) (nI p) s.1 s.2) (nI (tx p - 48), up1 z 0 7 (nI (p + 1))) from itr_in (n := 2999) e1]
  cases c2 : fg tx len (p + 1)
  · refine tail 1 (tx p - 48) _ 2998 (by decide) (by omega) (Or.inr c2) B1 a1 s1 ?_
    unfold num
    rw [c1, c2, if_pos rfl, if_neg (by decide)]
    by_cases q : p + 1 < len ∧ tx (p + 1) = sep i k
    · rw [if_pos q, if_pos ⟨by decide, by decide, q⟩]
    · rw [if_neg q, if_neg (fun w => q w.2.2)]
  have q2 := fg_y c2
  have e2 := m_in15 hl ht B1 (k := nI k) (i := nI i) (c := 1) (v := tx p - 48) a1 (by decide) hp c2
  have B2 := BM_at B1 (p + 1 + 1)
  have a2 : (up1 (up1 z 0 7 (nI (p + 1))) 0 7 (nI (p + 1 + 1))).1 0 7 = nI (p + 2) := by rw [up1_eq, if_pos ⟨rfl, rfl⟩]
  have s2 : ∀ a j, ¬ (a = 0 ∧ j = 7) → (up1 (up1 z 0 7 (nI (p + 1))) 0 7 (nI (p + 1 + 1))).1 a j = z.1 a j := fun a j hq => by rw [up1_eq, if_neg hq, s1 a j hq]
  rw [show itr 2999 (fun s => f_X9_takes_15s (nI k) (nI i) (nI p) s.1 s.2) (nI (tx p - 48), up1 z 0 7 (nI (p + 1))) = itr 2998 (fun s => f_X9_takes_15s (nI k) (nI i) (nI p) s.1 s.2) (nI (10 * (tx p - 48) + (tx (p + 1) - 48)), up1 (up1 z 0 7 (nI (p + 1))) 0 7 (nI (p + 1 + 1))) from itr_in (n := 2998) e2]
  cases c3 : fg tx len (p + 2)
  · refine tail 2 (10 * (tx p - 48) + (tx (p + 1) - 48)) _ 2997 (by decide) (by omega) (Or.inr c3) B2 a2 s2 ?_
    unfold num
    rw [c1, c2, if_pos rfl, if_pos rfl]
    by_cases q : p + 2 < len ∧ tx (p + 2) = sep i k
    · rw [if_pos q, if_pos ⟨by decide, by decide, q⟩]
    · rw [if_neg q, if_neg (fun w => q w.2.2)]
  have q3 := fg_y c3
  have e3 := m_in15 hl ht B2 (k := nI k) (i := nI i) (c := 2) (v := 10 * (tx p - 48) + (tx (p + 1) - 48)) a2 (by decide) hp c3
  have B3 := BM_at B2 (p + 2 + 1)
  rw [show itr 2998 (fun s => f_X9_takes_15s (nI k) (nI i) (nI p) s.1 s.2) (nI (10 * (tx p - 48) + (tx (p + 1) - 48)), up1 (up1 z 0 7 (nI (p + 1))) 0 7 (nI (p + 1 + 1))) = itr 2997 (fun s => f_X9_takes_15s (nI k) (nI i) (nI p) s.1 s.2) (nI (10 * (10 * (tx p - 48) + (tx (p + 1) - 48)) + (tx (p + 2) - 48)), up1 (up1 (up1 z 0 7 (nI (p + 1))) 0 7 (nI (p + 1 + 1))) 0 7 (nI (p + 2 + 1))) from itr_in (n := 2997) e3]
  refine tail 3 _ _ 2996 (by decide) (by omega) (Or.inl rfl) B3 (by rw [up1_eq, if_pos ⟨rfl, rfl⟩]) (fun a j hq => by rw [up1_eq, if_neg hq, s2 a j hq]) ?_
  unfold num
  rw [c1, c2, if_pos rfl, if_pos rfl, if_neg (fun q => sep_nf _ c3 q.2), if_neg (fun q => by omega)]
end
