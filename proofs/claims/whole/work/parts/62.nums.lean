section
variable {tx : Nat → Nat} {len : Nat}
theorem num_ok {p s n q : Nat} (h : num tx len p s = some (n, q)) : n < 100 ∧ p + 2 ≤ q ∧ q ≤ len := by
  unfold num at h
  by_cases c1 : fg tx len p = true
  · have q1 := fg_y c1
    rw [if_pos c1] at h
    by_cases c2 : fg tx len (p + 1) = true
    · have q2 := fg_y c2
      rw [if_pos c2] at h
      by_cases c3 : p + 2 < len ∧ tx (p + 2) = s
      · rw [if_pos c3] at h
        cases h
        omega
      · rw [if_neg c3] at h; cases h
    · rw [if_neg c2] at h
      by_cases c3 : p + 1 < len ∧ tx (p + 1) = s
      · rw [if_pos c3] at h
        cases h
        omega
      · rw [if_neg c3] at h; cases h
  · rw [if_neg c1] at h; cases h
theorem nums_both (hl : len ≤ 300) (ht : ∀ j, j < len → tx j < 256) {k : Nat} (hk : k ≤ 3) : ∀ r i p (zX zM : Sg) NX NM, i + r = k → r < NX → r < NM → p ≤ len → BX tx len zX → BM tx len zM → zM.1 0 7 = nI p →
    (∃ sX sM, itr NX (fun s => f_X4_itemsEnd_23s (nI k) s.1 s.2.1 s.2.2) (nI p, nI i, zX) = some (-1, sX) ∧ itr NM (fun s => f_X9_takes_2s (nI k) s.1 s.2) (nI i, zM) = some (0, sM) ∧ (∀ a j, a ≠ 4 → sX.1 a j = zX.1 a j) ∧ (∀ a j, a ≠ 4 → ¬ (a = 0 ∧ j = 7) → sM.1 a j = zM.1 a j)) ∨
    (∃ sX sM q, ∃ n : Nat → Nat, p + r ≤ q ∧ q ≤ len ∧ itr NX (fun s => f_X4_itemsEnd_23s (nI k) s.1 s.2.1 s.2.2) (nI p, nI i, zX) = some (nI q, sX) ∧ itr NM (fun s => f_X9_takes_2s (nI k) s.1 s.2) (nI i, zM) = some (1, sM) ∧ sM.1 0 7 = nI q ∧ (∀ j, i ≤ j → j < k → sX.1 4 j = nI (n j) ∧ sM.1 4 j = nI (n j) ∧ n j < 100) ∧ (∀ j, j < i → sX.1 4 j = zX.1 4 j ∧ sM.1 4 j = zM.1 4 j) ∧ (∀ a j, a ≠ 4 → sX.1 a j = zX.1 a j) ∧ (∀ a j, a ≠ 4 → ¬ (a = 0 ∧ j = 7) → sM.1 a j = zM.1 a j)) := by
  intro r
  induction r with
  | zero =>
    intro i p zX zM NX NM hi hX hM hp bX bM hat
    obtain ⟨NX, rfl⟩ : ∃ M, NX = M + 1 := ⟨NX - 1, by omega⟩
    obtain ⟨NM, rfl⟩ : ∃ M, NM = M + 1 := ⟨NM - 1, by omega⟩
    obtain rfl : i = k := by omega
    refine Or.inr ⟨zX, zM, p, fun _ => 0, by omega, hp, itr_out ?_, itr_out ?_, hat, fun j h1 h2 => by omega, fun j h1 => ⟨rfl, rfl⟩, fun _ _ _ => rfl, fun _ _ _ _ => rfl⟩
    · show f_X4_itemsEnd_23s (nI i) (nI p) (nI i) zX = _
      unfold f_X4_itemsEnd_23s
      rw [if_pos (nI_le (Nat.le_refl _) (by omega))]
    · show f_X9_takes_2s (nI i) (nI i) zM = _
      unfold f_X9_takes_2s
      rw [if_pos (nI_le (Nat.le_refl _) (by omega))]
      rfl
  | succ r ih =>
    intro i p zX zM NX NM hi hX hM hp bX bM hat
    obtain ⟨NX, rfl⟩ : ∃ M, NX = M + 1 := ⟨NX - 1, by omega⟩
    obtain ⟨NM, rfl⟩ : ∃ M, NM = M + 1 := ⟨NM - 1, by omega⟩
    obtain ⟨yX, x1, x2⟩ := x_one hl ht bX (p := p) (i := i) (k := k) hp (by omega) hk
    obtain ⟨yM, m1, m2⟩ := m_one hl ht bM (p := p) (i := i) (k := k) hat hp (by omega) hk
    rcases x2 with ⟨e1, e2⟩ | ⟨n, q, e1, e2, e3⟩
    · rcases m2 with ⟨f1, f2⟩ | ⟨n, q, f1, -⟩
      · exact Or.inl ⟨yX, yM, itr_out e2, itr_out f2, fun a j ha => by rw [x1 a ha], m1⟩
      · rw [e1] at f1; cases f1
    · rcases m2 with ⟨f1, -⟩ | ⟨n2, q2, f1, f2, f3, f4, f5⟩
      · rw [e1] at f1; cases f1
      · rw [e1] at f1
        cases f1
        obtain ⟨g1, g2, g3⟩ := num_ok e1
        have x4 : ∀ j, yX.1 4 j = if j = i then nI n else zX.1 4 j := fun j => by rw [e2, up1_eq]; simp
        have hr := ih (i + 1) q yX yM NX NM (by omega) (by omega) (by omega) g3 ⟨by rw [x1 1 (by decide)]; exact bX.1, fun j hj => by rw [x1 2 (by decide)]; exact bX.2 j hj⟩ ⟨by rw [m1 0 4 (by decide) (by omega)]; exact bM.1, fun j hj => by rw [m1 2 j (by decide) (by omega)]; exact bM.2 j hj⟩ f3
        rw [itr_in e3, itr_in f2]
        rcases hr with ⟨sX, sM, h1, h2, h3, h4⟩ | ⟨sX, sM, q3, nn, h1, h2, h3, h4, h5, h6, h7, h8, h9⟩
        · exact Or.inl ⟨sX, sM, h1, h2, fun a j ha => by rw [h3 a j ha, x1 a ha], fun a j ha hb => by rw [h4 a j ha hb, m1 a j ha hb]⟩
        · refine Or.inr ⟨sX, sM, q3, fun j => if j = i then n else nn j, by omega, h2, h3, h4, h5, fun j k1 k2 => ?_, fun j k1 => ?_, fun a j ha => by rw [h8 a j ha, x1 a ha], fun a j ha hb => by rw [h9 a j ha hb, m1 a j ha hb]⟩
          · show sX.1 4 j = nI (if j = i then n else nn j) ∧ sM.1 4 j = nI (if j = i then n else nn j) ∧ (if j = i then n else nn j) < 100
            by_cases c : j = i
            · rw [if_pos c, (h7 j (by omega)).1, (h7 j (by omega)).2, x4, if_pos c, c, f4]
              exact ⟨rfl, rfl, g1⟩
            · rw [if_neg c]
              exact h6 j (by omega) k2
          · rw [(h7 j (by omega)).1, (h7 j (by omega)).2, x4, if_neg (by omega), f5 j (by omega)]
            exact ⟨rfl, rfl⟩
-- the draft
/-- what is read so far, in the class's draft and in the reference's place 605 -/
def DR (D : Fl) (b : Nat) (only : Bool) (zX zM : Sg) : Prop := OKL D ∧ FXl b D zX ∧ FMl 605 D zM ∧ zX.1 b 9 = nI (2 ^ fN D - 1) ∧ zX.1 3 1 = bz only ∧ zM.1 0 9 = bz (!only) ∧ (only = true → fM D = 0 ∧ fBg D = 0)
theorem FXl_pt {b : Nat} {F : Fl} {σ z : Sg} (h : ∀ a j, b ≤ a → a ≤ b + 6 → z.1 a j = σ.1 a j) (g : FXl b F σ) : FXl b F z := by
  obtain ⟨g1, g2, g3, g4, g5⟩ := g
  refine ⟨by rw [h _ _ (by omega) (by omega)]; exact g1, by rw [h _ _ (by omega) (by omega)]; exact g2, by rw [h _ _ (by omega) (by omega)]; exact g3, fun t ht => ?_, fun s hs => ?_⟩
  · rw [h _ _ (by omega) (by omega), h _ _ (by omega) (by omega), h _ _ (by omega) (by omega), h _ _ (by omega) (by omega)]; exact g4 t ht
  · rw [h _ _ (by omega) (by omega), h _ _ (by omega) (by omega)]; exact g5 s hs
theorem FMl_pt {r : Nat} {F : Fl} {σ z : Sg} (hm : fM F ≤ 10) (h : ∀ j, r ≤ j → j < r + 55 → z.1 1 j = σ.1 1 j) (g : FMl r F σ) : FMl r F z := by
  obtain ⟨g1, g2, g3, g4, g5⟩ := g
  refine ⟨by rw [h _ (by omega) (by omega)]; exact g1, by rw [h _ (by omega) (by omega)]; exact g2, by rw [h _ (by omega) (by omega)]; exact g3, fun t ht => ?_, fun s hs => ?_⟩
  · rw [h _ (by omega) (by omega), h _ (by omega) (by omega), h _ (by omega) (by omega)]; exact g4 t ht
  · rw [h _ (by omega) (by omega), h _ (by omega) (by omega)]; exact g5 s hs
end
