-- a floor: ((stones, steps, begins, there, stood), A, B, C, gainsay, wear)
abbrev Fl : Type := (Nat × Nat × Nat × Nat × Nat) × (Nat → Nat) × (Nat → Nat) × (Nat → Nat) × (Nat → Nat) × (Nat → Int32)
def fN (F : Fl) : Nat := F.1.1
def fM (F : Fl) : Nat := F.1.2.1
def fBg (F : Fl) : Nat := F.1.2.2.1
def fTh (F : Fl) : Nat := F.1.2.2.2.1
def fSt (F : Fl) : Nat := F.1.2.2.2.2
def fA (F : Fl) : Nat → Nat := F.2.1
def fB (F : Fl) : Nat → Nat := F.2.2.1
def fC (F : Fl) : Nat → Nat := F.2.2.2.1
def fG (F : Fl) : Nat → Nat := F.2.2.2.2.1
def fW (F : Fl) : Nat → Int32 := F.2.2.2.2.2
/-- what is laid is so -/
def OKL (F : Fl) : Prop := (1 ≤ fN F ∧ fN F ≤ 10) ∧ fM F ≤ 10 ∧ (∀ t, t < fM F → fA F t < fN F ∧ fB F t < fN F ∧ fC F t < fN F ∧ fC F t ≠ fA F t ∧ fC F t ≠ fB F t) ∧ fBg F < 2 ^ fN F ∧ ∀ s, s < 10 → fG F s < 2 ^ 10
def OKF (F : Fl) : Prop := OKL F ∧ 1 ≤ fM F ∧ fTh F < 2 ^ fN F ∧ fSt F &&& fTh F = fSt F
/-- the class's floor at cell b, without what is there and stood on -/
def FXl (b : Nat) (F : Fl) (σ : Sg) : Prop := σ.1 b 6 = nI (fN F) ∧ σ.1 b 7 = nI (fM F) ∧ σ.1 b 8 = nI (fBg F) ∧ (∀ t, t < fM F → σ.1 (b + 1) t = nI (fA F t) ∧ σ.1 (b + 2) t = nI (fB F t) ∧ σ.1 (b + 3) t = nI (fC F t) ∧ σ.1 (b + 4) t = nI (2 ^ fA F t ||| 2 ^ fB F t)) ∧ ∀ s, s < 10 → σ.1 (b + 5) s = nI (fG F s) ∧ σ.1 (b + 6) s = fW F s
def FX (b : Nat) (F : Fl) (σ : Sg) : Prop := FXl b F σ ∧ σ.1 b 9 = nI (fTh F) ∧ σ.1 b 10 = nI (fSt F)
/-- the reference's floor at place r of w -/
def FMl (r : Nat) (F : Fl) (σ : Sg) : Prop := σ.1 1 r = nI (fN F) ∧ σ.1 1 (r + 4) = nI (fM F) ∧ σ.1 1 (r + 1) = nI (fBg F) ∧ (∀ t, t < fM F → σ.1 1 (r + 5 + t) = nI (fA F t) ∧ σ.1 1 (r + 15 + t) = nI (fB F t) ∧ σ.1 1 (r + 25 + t) = nI (fC F t)) ∧ ∀ s, s < 10 → σ.1 1 (r + 45 + s) = nI (fG F s) ∧ σ.1 1 (r + 35 + s) = fW F s
def FM (r : Nat) (F : Fl) (σ : Sg) : Prop := FMl r F σ ∧ σ.1 1 (r + 2) = nI (fTh F) ∧ σ.1 1 (r + 3) = nI (fSt F)
theorem fa_lt (a b : Int32) : a < b ↔ a.toInt < b.toInt := Int32.lt_iff_toInt_lt
theorem fa_wide_lt (a b : Int32) : a.toInt64 < b.toInt64 ↔ a < b := by
  rw [Int64.lt_iff_toInt_lt, Int32.toInt_toInt64, Int32.toInt_toInt64, ← Int32.lt_iff_toInt_lt]
-- the reference's small methods
theorem lgc_lt (x y : Int64) : lg_cmp x y < 0 ↔ x < y := by
  unfold lg_cmp
  by_cases h : x > y
  · rw [if_pos h]
    have : ¬ x < y := fun q => by
      rw [Int64.lt_iff_toInt_lt] at q
      have h2 : y < x := h
      rw [Int64.lt_iff_toInt_lt] at h2
      omega
    simp only [this, iff_false]
    decide
  · rw [if_neg h]
    by_cases h2 : x = y
    · subst h2
      rw [if_pos rfl]
      simp only [iff_false, show ¬ ((0 : Int32) < 0) by decide, false_iff]
      exact h
    · rw [if_neg h2]
      have : x < y := by
        rw [Int64.lt_iff_toInt_lt]
        have h3 : ¬ y.toInt < x.toInt := fun q => h (Int64.lt_iff_toInt_lt.mpr q)
        have h4 : x.toInt ≠ y.toInt := fun q => h2 (Int64.toInt_inj.mp q)
        omega
      simp only [this, iff_true]
      decide
theorem lgc_gt (x y : Int64) : 0 < lg_cmp x y ↔ y < x := by
  unfold lg_cmp
  by_cases h : x > y
  · rw [if_pos h]
    exact ⟨fun _ => h, fun _ => by decide⟩
  · rw [if_neg h]
    by_cases h2 : x = y
    · rw [if_pos h2]
      exact ⟨fun q => absurd q (by decide), fun q => absurd q h⟩
    · rw [if_neg h2]
      exact ⟨fun q => absurd q (by decide), fun q => absurd q h⟩
/-- in 0 .. n-1: 1, else 0 -/
def inn (v : Int32) (n : Nat) : Int32 := if v < 0 ∨ nI n ≤ v then 0 else 1
theorem inn_nI {j n : Nat} (h : j < n) (hn : n < 2 ^ 31) : inn (nI j) n = 1 := by
  unfold inn
  rw [if_neg]
  rintro (q | q)
  · exact nI_pos (by omega) q
  · exact nI_ge h hn q
theorem inn_cases (v : Int32) {n : Nat} (hn : n < 2 ^ 31) : inn v n = 0 ∨ ∃ j, j < n ∧ v = nI j ∧ inn v n = 1 := by
  rcases pk_ix v hn with h | h | ⟨j, h1, h2⟩
  · exact Or.inl (if_pos (Or.inl h))
  · exact Or.inl (if_pos (Or.inr h))
  · exact Or.inr ⟨j, h1, h2, by rw [h2]; exact inn_nI h1 hn⟩
theorem m_in (v : Int32) {n : Nat} (h1 : 1 ≤ n) (hn : n < 2 ^ 31) : f_X9_in v.toInt64 0 ((nI n - 1).toInt64) = some (inn v n) := by
  have e : nI n - 1 = nI (n - 1) := pk_sub (a := n) (b := 1) h1
  have z : (0 : Int64) = (0 : Int32).toInt64 := by decide +kernel
  unfold f_X9_in
  rw [e]
  by_cases c1 : v < 0
  · rw [if_pos ((lgc_lt _ _).mpr (by rw [z]; exact (fa_wide_lt _ _).mpr c1))]
    unfold inn
    rw [if_pos (Or.inl c1)]
    rfl
  · rw [if_neg (fun q => c1 (by rw [lgc_lt, z] at q; exact (fa_wide_lt _ _).mp q))]
    by_cases c2 : nI (n - 1) < v
    · rw [if_pos ((lgc_gt _ _).mpr ((fa_wide_lt _ _).mpr c2))]
      unfold inn
      rw [if_pos]
      · rfl
      · refine Or.inr ?_
        rw [Int32.le_iff_toInt_le, nI_toInt hn]
        rw [fa_lt, nI_toInt (by omega)] at c2
        omega
    · rw [if_neg (fun q => c2 ((fa_wide_lt _ _).mp ((lgc_gt _ _).mp q)))]
      unfold inn
      rw [if_neg]
      · rfl
      · rintro (q | q)
        · exact c1 q
        · rw [Int32.le_iff_toInt_le, nI_toInt hn] at q
          rw [fa_lt, nI_toInt (by omega)] at c2
          omega
theorem inn_01 (v : Int32) (n : Nat) : inn v n = 0 ∨ inn v n = 1 := by unfold inn; split <;> simp
theorem m_has {a k : Nat} (ha : a < 2 ^ 31) (hk : k < 32) : f_X9_has (nI a) (nI k) = some (zb a k) := by
  unfold f_X9_has
  rw [z_has ha hk]
  rcases zb_01 a k with h | h <;> rw [h] <;> rfl
theorem m_w {σ : Sg} {j : Nat} (h : j < 660) : ald σ 1 660 (nI j) = some (σ.1 1 j) := ald_ok h (by decide)
theorem m_wk {σ : Sg} (k : Nat) {j : Nat} (h : k + j < 660) : ald σ 1 660 (nI k + nI j) = some (σ.1 1 (k + j)) := by
  rw [nI_add]
  exact ald_ok h (by decide)
theorem p10 {n : Nat} (h : n ≤ 10) : 2 ^ n ≤ 1024 := Nat.pow_le_pow_right (by decide) h
theorem x_hasStone {b : Nat} {F : Fl} {σ : Sg} (h : FXl b F σ) (v : Int32) : f_X1_hasStone b v σ = some (inn v (fN F)) := by
  unfold f_X1_hasStone inn
  rw [h.1]
  by_cases c1 : v < 0
  · rw [if_pos c1, if_pos (Or.inl c1)]; rfl
  · rw [if_neg c1]
    by_cases c2 : nI (fN F) ≤ v
    · rw [if_pos c2, if_pos (Or.inr c2)]; rfl
    · rw [if_neg c2, if_neg (by rintro (q | q) <;> contradiction)]; rfl
theorem m_isStone {F : Fl} {σ : Sg} (hF : OKL F) (h : FMl 0 F σ) (v : Int32) : f_X9_isStone v σ = some (inn v (fN F)) := by
  unfold f_X9_isStone
  rw [z_0, bind_ok (m_w (by decide)), h.1, bind_ok (m_in v hF.1.1 (by have := hF.1.2; omega)), bind_ok (zrt_01 (inn_01 _ _))]
theorem m_isStep {F : Fl} {σ : Sg} (hF : OKF F) (h : FMl 0 F σ) (v : Int32) : f_X9_isStep v σ = some (inn v (fM F)) := by
  unfold f_X9_isStep
  rw [z_lit 4, bind_ok (m_w (by decide)), show σ.1 1 4 = nI (fM F) from h.2.1, bind_ok (m_in v hF.2.1 (by have := hF.1.2.1; omega)), bind_ok (zrt_01 (inn_01 _ _))]
theorem m_isSet {F : Fl} {σ : Sg} (hF : OKL F) (h : FMl 0 F σ) (v : Int32) : f_X9_isSet v σ = some (inn v (2 ^ fN F)) := by
  have h10 := p10 hF.1.2
  unfold f_X9_isSet
  rw [z_0, bind_ok (m_w (by decide)), h.1, z_bit (by have := hF.1.2; omega), bind_ok (m_in v Nat.one_le_two_pow (by omega)), bind_ok (zrt_01 (inn_01 _ _))]
