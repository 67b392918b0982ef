-- copies
theorem m_copy {r1 r2 : Nat} {σ : Sg} (h1 : r1 + 55 ≤ 660) (h2 : r2 + 55 ≤ 660) (hd : r1 + 55 ≤ r2 ∨ r2 + 55 ≤ r1) :
    ∃ z, f_X9_copy (nI r1) (nI r2) σ = some z ∧ ∀ a j, z.1 a j = if a = 1 ∧ r2 ≤ j ∧ j < r2 + 55 then σ.1 1 (r1 + (j - r2)) else σ.1 a j := by
  unfold f_X9_copy f_X9_copy_2
  refine itr_ivv (fun (k : Nat) (z : Int32 × Sg) => z.1 = nI k ∧ ∀ a j, z.2.1 a j = if a = 1 ∧ r2 ≤ j ∧ j < r2 + k then σ.1 1 (r1 + (j - r2)) else σ.1 a j) _ 55 0 3000 _ (by decide) ⟨rfl, fun a j => by rw [if_neg (by omega)]⟩ ?_ ?_
  · rintro k ⟨z1, z⟩ - hk ⟨q1, q2⟩
    rw [Nat.zero_add] at hk
    have q1' : z1 = nI k := q1
    subst q1'
    have q2' : ∀ a j, z.1 a j = if a = 1 ∧ r2 ≤ j ∧ j < r2 + k then σ.1 1 (r1 + (j - r2)) else σ.1 a j := q2
    refine ⟨(nI (k + 1), up1 z 1 (r2 + k) (z.1 1 (r1 + k))), ?_, rfl, fun a j => ?_⟩
    · show f_X9_copy_2s (nI r1) (nI r2) (nI k) z = _
      unfold f_X9_copy_2s
      rw [if_neg (show ¬ (55 : Int32) ≤ nI k from nI_ge (a := k) (b := 55) hk (by decide)), m_wk r1 (by omega)]
      show ((ast z 1 660 (nI r2 + nI k) (z.1 1 (r1 + k))).bind _) = _
      rw [nI_add, bind_ok (ast_ok (by omega) (by decide)), nm_eq, nI_1]
    · show (up1 z 1 (r2 + k) (z.1 1 (r1 + k))).1 a j = _
      rw [up1_eq]
      by_cases c : a = 1 ∧ j = r2 + k
      · rw [if_pos c, if_pos ⟨c.1, by omega, by omega⟩, q2', if_neg (by omega), show r1 + (j - r2) = r1 + k by omega]
      · rw [if_neg c, q2']
        by_cases c2 : a = 1 ∧ r2 ≤ j ∧ j < r2 + k
        · rw [if_pos c2, if_pos ⟨c2.1, c2.2.1, by omega⟩]
        · rw [if_neg c2, if_neg (by omega)]
  · rintro ⟨z1, z⟩ ⟨q1, q2⟩
    rw [Nat.zero_add] at q1 q2
    have q1' : z1 = nI 55 := q1
    subst q1'
    refine ⟨z, ?_, q2⟩
    show f_X9_copy_2s (nI r1) (nI r2) (nI 55) z = _
    unfold f_X9_copy_2s
    rw [if_pos (by decide)]
/-- the floor at one place is the floor at another -/
theorem FM_move {r1 r2 : Nat} {F : Fl} {σ z : Sg} (h : ∀ i, i < 55 → z.1 1 (r2 + i) = σ.1 1 (r1 + i)) (hm : fM F ≤ 10) (g : FM r1 F σ) : FM r2 F z := by
  have h0 := h 0 (by decide)
  rw [Nat.add_zero, Nat.add_zero] at h0
  obtain ⟨⟨g1, g2, g3, g4, g5⟩, g6, g7⟩ := g
  refine ⟨⟨by rw [h0]; exact g1, by rw [h 4 (by decide)]; exact g2, by rw [h 1 (by decide)]; exact g3, fun t ht => ?_, fun s hs => ?_⟩, by rw [h 2 (by decide)]; exact g6, by rw [h 3 (by decide)]; exact g7⟩
  · obtain ⟨a1, a2, a3⟩ := g4 t ht
    rw [Nat.add_assoc, h (5 + t) (by omega), Nat.add_assoc, h (15 + t) (by omega), Nat.add_assoc, h (25 + t) (by omega)]
    rw [Nat.add_assoc] at a1 a2 a3
    exact ⟨a1, a2, a3⟩
  · obtain ⟨a1, a2⟩ := g5 s hs
    rw [Nat.add_assoc, h (45 + s) (by omega), Nat.add_assoc, h (35 + s) (by omega)]
    rw [Nat.add_assoc] at a1 a2
    exact ⟨a1, a2⟩
theorem FM_keep {r : Nat} {F : Fl} {σ z : Sg} (h : ∀ j, r ≤ j → j < r + 55 → z.1 1 j = σ.1 1 j) (hm : fM F ≤ 10) (g : FM r F σ) : FM r F z := FM_move (fun i hi => h _ (by omega) (by omega)) hm g
theorem x_copy {k1 k2 : Nat} {σ : Sg} (hk : k1 ≠ k2) : ∃ z, f_X8_copy k1 10 k2 10 σ = some z ∧ ∀ a j, z.1 a j = if a = k2 ∧ j < 10 then σ.1 k1 j else σ.1 a j := by
  unfold f_X8_copy f_X8_copy_2
  refine itr_ivv (fun (k : Nat) (z : Int32 × Sg) => z.1 = nI k ∧ ∀ a j, z.2.1 a j = if a = k2 ∧ j < k then σ.1 k1 j else σ.1 a j) _ 10 0 3000 _ (by decide) ⟨rfl, fun a j => by rw [if_neg (by omega)]⟩ ?_ ?_
  · rintro k ⟨z1, z⟩ - hk' ⟨q1, q2⟩
    rw [Nat.zero_add] at hk'
    have q1' : z1 = nI k := q1
    subst q1'
    have q2' : ∀ a j, z.1 a j = if a = k2 ∧ j < k then σ.1 k1 j else σ.1 a j := q2
    refine ⟨(nI (k + 1), up1 z k2 k (z.1 k1 k)), ?_, rfl, fun a j => ?_⟩
    · show f_X8_copy_2s k1 10 k2 10 (nI k) z = _
      unfold f_X8_copy_2s
      rw [if_neg (nI_ge hk' (by decide)), if_neg (nI_ge hk' (by decide)), bind_ok (ald_ok hk' (by decide)), bind_ok (ast_ok hk' (by decide)), nm_eq, nI_1]
    · show (up1 z k2 k (z.1 k1 k)).1 a j = _
      rw [up1_eq]
      by_cases c : a = k2 ∧ j = k
      · rw [if_pos c, if_pos ⟨c.1, by omega⟩, q2', if_neg (fun q => hk q.1), c.2]
      · rw [if_neg c, q2']
        by_cases c2 : a = k2 ∧ j < k
        · rw [if_pos c2, if_pos ⟨c2.1, by omega⟩]
        · rw [if_neg c2, if_neg (by omega)]
  · rintro ⟨z1, z⟩ ⟨q1, q2⟩
    rw [Nat.zero_add] at q1 q2
    have q1' : z1 = nI 10 := q1
    subst q1'
    refine ⟨z, ?_, q2⟩
    show f_X8_copy_2s k1 10 k2 10 (nI 10) z = _
    unfold f_X8_copy_2s
    rw [if_pos (nI_le (Nat.le_refl _) (by decide))]
    rfl
/-- a floor copied -/
theorem x_copyFrom {b b2 : Nat} {F : Fl} {σ : Sg} (hd : b + 7 ≤ b2 ∨ b2 + 7 ≤ b) (hm : fM F ≤ 10) (g : FX b2 F σ) :
    ∃ z, f_X1_copyFrom b b2 σ = some z ∧ FX b F z ∧ ∀ a, a < b ∨ b + 6 < a → ∀ j, z.1 a j = σ.1 a j := by
  obtain ⟨z1, e1, p1⟩ := x_copy (k1 := b2 + 1) (k2 := b + 1) (σ := σ) (by omega)
  obtain ⟨z2, e2, p2⟩ := x_copy (k1 := b2 + 2) (k2 := b + 2) (σ := z1) (by omega)
  obtain ⟨z3, e3, p3⟩ := x_copy (k1 := b2 + 3) (k2 := b + 3) (σ := z2) (by omega)
  obtain ⟨z4, e4, p4⟩ := x_copy (k1 := b2 + 4) (k2 := b + 4) (σ := z3) (by omega)
  obtain ⟨z5, e5, p5⟩ := x_copy (k1 := b2 + 5) (k2 := b + 5) (σ := z4) (by omega)
  obtain ⟨z6, e6, p6⟩ := x_copy (k1 := b2 + 6) (k2 := b + 6) (σ := z5) (by omega)
  -- what the six rows are
  have rows : ∀ a j, z6.1 a j = if b + 1 ≤ a ∧ a ≤ b + 6 ∧ j < 10 then σ.1 (b2 + (a - b)) j else σ.1 a j := by
    intro a j
    have out : ∀ n, n ≤ 6 → ∀ j, (b + 7 ≤ b2 + n ∨ b2 + n < b + 1) → z6.1 (b2 + n) j = σ.1 (b2 + n) j ∧ z5.1 (b2 + n) j = σ.1 (b2 + n) j ∧ z4.1 (b2 + n) j = σ.1 (b2 + n) j ∧ z3.1 (b2 + n) j = σ.1 (b2 + n) j ∧ z2.1 (b2 + n) j = σ.1 (b2 + n) j ∧ z1.1 (b2 + n) j = σ.1 (b2 + n) j := by
      intro n hn j hh
      have s1 : z1.1 (b2 + n) j = σ.1 (b2 + n) j := by rw [p1, if_neg (by omega)]
      have s2 : z2.1 (b2 + n) j = σ.1 (b2 + n) j := by rw [p2, if_neg (by omega), s1]
      have s3 : z3.1 (b2 + n) j = σ.1 (b2 + n) j := by rw [p3, if_neg (by omega), s2]
      have s4 : z4.1 (b2 + n) j = σ.1 (b2 + n) j := by rw [p4, if_neg (by omega), s3]
      have s5 : z5.1 (b2 + n) j = σ.1 (b2 + n) j := by rw [p5, if_neg (by omega), s4]
      have s6 : z6.1 (b2 + n) j = σ.1 (b2 + n) j := by rw [p6, if_neg (by omega), s5]
      exact ⟨s6, s5, s4, s3, s2, s1⟩
    by_cases c : b + 1 ≤ a ∧ a ≤ b + 6 ∧ j < 10
    · rw [if_pos c]
      obtain ⟨c1, c2, c3⟩ := c
      rcases (show a = b + 1 ∨ a = b + 2 ∨ a = b + 3 ∨ a = b + 4 ∨ a = b + 5 ∨ a = b + 6 by omega) with rfl | rfl | rfl | rfl | rfl | rfl
      · rw [p6, if_neg (by omega), p5, if_neg (by omega), p4, if_neg (by omega), p3, if_neg (by omega), p2, if_neg (by omega), p1, if_pos ⟨rfl, c3⟩, show b + 1 - b = 1 by omega]
      · rw [p6, if_neg (by omega), p5, if_neg (by omega), p4, if_neg (by omega), p3, if_neg (by omega), p2, if_pos ⟨rfl, c3⟩, (out 2 (by decide) j (by omega)).2.2.2.2.2, show b + 2 - b = 2 by omega]
      · rw [p6, if_neg (by omega), p5, if_neg (by omega), p4, if_neg (by omega), p3, if_pos ⟨rfl, c3⟩, (out 3 (by decide) j (by omega)).2.2.2.2.1, show b + 3 - b = 3 by omega]
      · rw [p6, if_neg (by omega), p5, if_neg (by omega), p4, if_pos ⟨rfl, c3⟩, (out 4 (by decide) j (by omega)).2.2.2.1, show b + 4 - b = 4 by omega]
      · rw [p6, if_neg (by omega), p5, if_pos ⟨rfl, c3⟩, (out 5 (by decide) j (by omega)).2.2.1, show b + 5 - b = 5 by omega]
      · rw [p6, if_pos ⟨rfl, c3⟩, (out 6 (by decide) j (by omega)).2.1, show b + 6 - b = 6 by omega]
    · rw [if_neg c, p6, if_neg (by omega), p5, if_neg (by omega), p4, if_neg (by omega), p3, if_neg (by omega), p2, if_neg (by omega), p1, if_neg (by omega)]
  unfold f_X1_copyFrom
  rw [bind_ok e1, bind_ok e2, bind_ok e3, bind_ok e4, bind_ok e5, bind_ok e6, bind_ok (pfi_eq _ _ _ _), bind_ok (pfi_eq _ _ _ _), bind_ok (pfi_eq _ _ _ _), bind_ok (pfi_eq _ _ _ _), bind_ok (pfi_eq _ _ _ _)]
  refine ⟨_, rfl, ?_, fun a ha j => ?_⟩
  · have fin : ∀ a j, (up1 (up1 (up1 (up1 (up1 z6 b 6 (z6.1 b2 6)) b 7 ((up1 z6 b 6 (z6.1 b2 6)).1 b2 7)) b 8 ((up1 (up1 z6 b 6 (z6.1 b2 6)) b 7 ((up1 z6 b 6 (z6.1 b2 6)).1 b2 7)).1 b2 8)) b 9 ((up1 (up1 (up1 z6 b 6 (z6.1 b2 6)) b 7 ((up1 z6 b 6 (z6.1 b2 6)).1 b2 7)) b 8 ((up1 (up1 z6 b 6 (z6.1 b2 6)) b 7 ((up1 z6 b 6 (z6.1 b2 6)).1 b2 7)).1 b2 8)).1 b2 9)) b 10 ((up1 (up1 (up1 (up1 z6 b 6 (z6.1 b2 6)) b 7 ((up1 z6 b 6 (z6.1 b2 6)).1 b2 7)) b 8 ((up1 (up1 z6 b 6 (z6.1 b2 6)) b 7 ((up1 z6 b 6 (z6.1 b2 6)).1 b2 7)).1 b2 8)) b 9 ((up1 (up1 (up1 z6 b 6 (z6.1 b2 6)) b 7 ((up1 z6 b 6 (z6.1 b2 6)).1 b2 7)) b 8 ((up1 (up1 z6 b 6 (z6.1 b2 6)) b 7 ((up1 z6 b 6 (z6.1 b2 6)).1 b2 7)).1 b2 8)).1 b2 9)).1 b2 10)).1 a j = if a = b ∧ 6 ≤ j ∧ j ≤ 10 then σ.1 b2 j else if b + 1 ≤ a ∧ a ≤ b + 6 ∧ j < 10 then σ.1 (b2 + (a - b)) j else σ.1 a j := by
      intro a j
      have hb2 : ∀ j, z6.1 b2 j = σ.1 b2 j := fun j => by rw [rows, if_neg (by omega)]
      have hne : b2 ≠ b := by omega
      simp only [up1_eq, hne, false_and, if_false, hb2]
      by_cases c : a = b ∧ 6 ≤ j ∧ j ≤ 10
      · rw [if_pos c]
        rcases (show j = 6 ∨ j = 7 ∨ j = 8 ∨ j = 9 ∨ j = 10 by omega) with rfl | rfl | rfl | rfl | rfl <;> simp [c.1]
      · rw [if_neg c, if_neg (by omega), if_neg (by omega), if_neg (by omega), if_neg (by omega), if_neg (by omega), rows]
    have r : ∀ n, 1 ≤ n → n ≤ 6 → ∀ j, j < 10 → (if b + n = b ∧ 6 ≤ j ∧ j ≤ 10 then σ.1 b2 j else if b + 1 ≤ b + n ∧ b + n ≤ b + 6 ∧ j < 10 then σ.1 (b2 + (b + n - b)) j else σ.1 (b + n) j) = σ.1 (b2 + n) j := by
      intro n h1 h2 j hj
      rw [if_neg (by omega), if_pos (by omega), show b + n - b = n by omega]
    obtain ⟨⟨g1, g2, g3, g4, g5⟩, g6, g7⟩ := g
    refine ⟨⟨?_, ?_, ?_, fun t ht => ?_, fun s hs => ?_⟩, ?_, ?_⟩
    · rw [fin, if_pos (by omega)]; exact g1
    · rw [fin, if_pos (by omega)]; exact g2
    · rw [fin, if_pos (by omega)]; exact g3
    · obtain ⟨a1, a2, a3, a4⟩ := g4 t ht
      rw [fin (b + 1) t, fin (b + 2) t, fin (b + 3) t, fin (b + 4) t, r 1 (by omega) (by omega) t (by omega), r 2 (by omega) (by omega) t (by omega), r 3 (by omega) (by omega) t (by omega), r 4 (by omega) (by omega) t (by omega)]
      exact ⟨a1, a2, a3, a4⟩
    · obtain ⟨a1, a2⟩ := g5 s hs
      rw [fin (b + 5) s, fin (b + 6) s, r 5 (by omega) (by omega) s hs, r 6 (by omega) (by omega) s hs]
      exact ⟨a1, a2⟩
    · rw [fin, if_pos (by omega)]; exact g6
    · rw [fin, if_pos (by omega)]; exact g7
  · have hne : a ≠ b := by omega
    simp only [up1_eq, hne, false_and, if_false]
    rw [rows, if_neg (by omega)]
