-- what is minded
def dsh (un : Nat) : Nat := if un = 8 then 1 else 0
theorem dsh_8 : dsh 8 = 1 := rfl
theorem dsh_0 {un : Nat} (h : un < 8) : dsh un = 0 := if_neg (by omega)
def NX (un : Nat) (k v : Int32) (z y : Sg) : Prop := y.1 33 2 = nI (un - dsh un + 1) ∧ (∀ i, i < un - dsh un → y.1 34 i = z.1 34 (i + dsh un) ∧ y.1 35 i = z.1 35 (i + dsh un)) ∧ y.1 34 (un - dsh un) = k ∧ y.1 35 (un - dsh un) = v ∧ ∀ a j, ¬ (a = 33 ∧ j = 2) → a ≠ 34 → a ≠ 35 → y.1 a j = z.1 a j
def NM (un : Nat) (σ y : Sg) : Prop := y.1 0 2 = nI (un - dsh un + 1) ∧ (∀ i, i < un - dsh un → ∀ q, q < 55 → y.1 1 (165 + 55 * i + q) = σ.1 1 (165 + 55 * (i + dsh un) + q)) ∧ (∀ q, q < 55 → y.1 1 (165 + 55 * (un - dsh un) + q) = σ.1 1 q) ∧ ∀ a j, ¬ (a = 0 ∧ j = 2) → ¬ (a = 1 ∧ 165 ≤ j ∧ j < 605) → y.1 a j = σ.1 a j
theorem x_note13 {z : Sg} {n : Nat} (hn : n < 8) (h : z.1 33 2 = nI n) (k v : Int32) : f_X2_note_13 k v z = some (up1 (up1 (up1 z 34 n k) 35 n v) 33 2 (nI (n + 1))) := by
  have h2 : (up1 z 34 n k).1 33 2 = nI n := by rw [up1_eq, if_neg (by omega), h]
  have h3 : (up1 (up1 z 34 n k) 35 n v).1 33 2 = nI n := by rw [up1_eq, if_neg (by omega), h2]
  unfold f_X2_note_13
  rw [h, bind_ok (x_put hn (by decide)), h2, bind_ok (x_put hn (by decide)), h3, nI_1]
  rfl
theorem x_forget {z : Sg} (h : z.1 33 2 = nI 8) : ∃ y, f_X2_forgetOldest z = some y ∧ y.1 33 2 = nI 7 ∧ (∀ i, i < 7 → y.1 34 i = z.1 34 (i + 1) ∧ y.1 35 i = z.1 35 (i + 1)) ∧ ∀ a j, ¬ (a = 33 ∧ j = 2) → a ≠ 34 → a ≠ 35 → y.1 a j = z.1 a j := by
  unfold f_X2_forgetOldest f_X2_forgetOldest_2
  refine itr_ivv (fun (i : Nat) (s : Int32 × Sg) => s.1 = nI i ∧ ∀ a j, s.2.1 a j = if (a = 34 ∨ a = 35) ∧ j + 1 < i then z.1 a (j + 1) else z.1 a j) _ 7 1 3000 _ (by decide) ⟨rfl, fun a j => by rw [if_neg (by omega)]⟩ ?_ ?_
  · rintro i ⟨s1, s⟩ hi1 hi2 ⟨q1, q2⟩
    have q1' : s1 = nI i := q1
    subst q1'
    have q2' : ∀ a j, s.1 a j = if (a = 34 ∨ a = 35) ∧ j + 1 < i then z.1 a (j + 1) else z.1 a j := q2
    have hs : s.1 33 2 = nI 8 := by rw [q2', if_neg (by omega), h]
    refine ⟨(nI (i + 1), up1 (up1 s 34 (i - 1) (s.1 34 i)) 35 (i - 1) (s.1 35 i)), ?_, rfl, fun a j => ?_⟩
    · show f_X2_forgetOldest_2s (nI i) s = _
      unfold f_X2_forgetOldest_2s
      have h5 : (up1 s 34 (i - 1) (s.1 34 i)).1 35 i = s.1 35 i := by rw [up1_eq, if_neg (by omega)]
      rw [hs, if_neg (nI_ge (by omega) (by decide)), bind_ok (x_at (by omega) (by decide)), show nI i - 1 = nI (i - 1) from pk_sub (b := 1) hi1, bind_ok (x_put (by omega) (by decide)), bind_ok (x_at (by omega) (by decide)), h5, bind_ok (x_put (by omega) (by decide)), nm_eq, nI_1]
    · show (up1 (up1 s 34 (i - 1) (s.1 34 i)) 35 (i - 1) (s.1 35 i)).1 a j = _
      rw [up1_eq, up1_eq]
      by_cases c1 : a = 35 ∧ j = i - 1
      · rw [if_pos c1, if_pos (by omega), q2', if_neg (by omega), c1.1, c1.2, show i - 1 + 1 = i by omega]
      · rw [if_neg c1]
        by_cases c2 : a = 34 ∧ j = i - 1
        · rw [if_pos c2, if_pos (by omega), q2', if_neg (by omega), c2.1, c2.2, show i - 1 + 1 = i by omega]
        · rw [if_neg c2, q2']
          by_cases c3 : (a = 34 ∨ a = 35) ∧ j + 1 < i
          · rw [if_pos c3, if_pos (by omega)]
          · rw [if_neg c3, if_neg (by omega)]
  · rintro ⟨s1, s⟩ ⟨q1, q2⟩
    have q1' : s1 = nI 8 := q1
    subst q1'
    have q2' : ∀ a j, s.1 a j = if (a = 34 ∨ a = 35) ∧ j + 1 < 8 then z.1 a (j + 1) else z.1 a j := q2
    have hs : s.1 33 2 = nI 8 := by rw [q2', if_neg (by omega), h]
    refine ⟨up1 s 33 2 (nI 7), ?_, by rw [up1_eq, if_pos ⟨rfl, rfl⟩], fun i hi => ?_, fun a j h1 h2 h3 => ?_⟩
    · show f_X2_forgetOldest_2s (nI 8) s = _
      unfold f_X2_forgetOldest_2s
      rw [hs, if_pos (nI_le (Nat.le_refl _) (by decide))]
      rfl
    · rw [up1_eq, if_neg (by omega), q2', if_pos (by omega), up1_eq, if_neg (by omega), q2', if_pos (by omega)]
      exact ⟨rfl, rfl⟩
    · rw [up1_eq, if_neg h1, q2', if_neg (by omega)]
theorem x_note {z : Sg} {un : Nat} (hu : un ≤ 8) (h : z.1 33 2 = nI un) (k v : Int32) : ∃ y, f_X2_note k v z = some y ∧ NX un k v z y := by
  unfold f_X2_note
  rw [h]
  rcases Nat.lt_or_ge un 8 with c | c
  · rw [if_pos (show nI un < (8 : Int32) from nI_lt (b := 8) c (by decide)), x_note13 c h]
    refine ⟨_, rfl, ?_⟩
    unfold NX
    rw [dsh_0 c]
    refine ⟨by rw [up1_eq, if_pos ⟨rfl, rfl⟩]; rfl, fun i hi => ?_, ?_, ?_, fun a j h1 h2 h3 => by rw [up1_eq, if_neg h1, up1_eq, if_neg (by omega), up1_eq, if_neg (by omega)]⟩
    · have a1 : (up1 (up1 (up1 z 34 un k) 35 un v) 33 2 (nI (un + 1))).1 34 i = z.1 34 i := by rw [up1_eq, if_neg (by omega), up1_eq, if_neg (by omega), up1_eq, if_neg (by omega)]
      have a2 : (up1 (up1 (up1 z 34 un k) 35 un v) 33 2 (nI (un + 1))).1 35 i = z.1 35 i := by rw [up1_eq, if_neg (by omega), up1_eq, if_neg (by omega), up1_eq, if_neg (by omega)]
      exact ⟨a1, a2⟩
    · rw [up1_eq, if_neg (by omega), up1_eq, if_neg (by omega), up1_eq, if_pos ⟨rfl, by omega⟩]
    · rw [up1_eq, if_neg (by omega), up1_eq, if_pos ⟨rfl, by omega⟩]
  · obtain rfl : un = 8 := by omega
    obtain ⟨y, y1, y2, y3, y4⟩ := x_forget h
    rw [if_neg (show ¬ nI 8 < (8 : Int32) by decide), bind_ok y1, x_note13 (by decide) y2]
    refine ⟨_, rfl, ?_⟩
    unfold NX
    rw [dsh_8]
    refine ⟨by rw [up1_eq, if_pos ⟨rfl, rfl⟩], fun i hi => ?_, ?_, ?_, fun a j h1 h2 h3 => by rw [up1_eq, if_neg h1, up1_eq, if_neg (by omega), up1_eq, if_neg (by omega), y4 a j h1 h2 h3]⟩
    · have a1 : (up1 (up1 (up1 y 34 7 k) 35 7 v) 33 2 (nI (7 + 1))).1 34 i = y.1 34 i := by rw [up1_eq, if_neg (by omega), up1_eq, if_neg (by omega), up1_eq, if_neg (by omega)]
      have a2 : (up1 (up1 (up1 y 34 7 k) 35 7 v) 33 2 (nI (7 + 1))).1 35 i = y.1 35 i := by rw [up1_eq, if_neg (by omega), up1_eq, if_neg (by omega), up1_eq, if_neg (by omega)]
      rw [a1, a2]
      exact y3 i (by omega)
    · rw [up1_eq, if_neg (by omega), up1_eq, if_neg (by omega), up1_eq, if_pos ⟨rfl, by omega⟩]
    · rw [up1_eq, if_neg (by omega), up1_eq, if_pos ⟨rfl, by omega⟩]
theorem m_minds57 {s : Sg} {n : Nat} (hn : n < 8) (h : s.1 0 2 = nI n) : ∃ y, f_X9_minds_57 s = some y ∧ y.1 0 2 = nI (n + 1) ∧ (∀ q, q < 55 → y.1 1 (165 + 55 * n + q) = s.1 1 q) ∧ ∀ a j, ¬ (a = 0 ∧ j = 2) → ¬ (a = 1 ∧ 165 + 55 * n ≤ j ∧ j < 165 + 55 * n + 55) → y.1 a j = s.1 a j := by
  obtain ⟨y, f1, f2⟩ := m_copy (r1 := 0) (r2 := 165 + 55 * n) (σ := s) (by omega) (by omega) (by omega)
  unfold f_X9_minds_57
  have h2 : y.1 0 2 = nI n := by rw [f2, if_neg (by omega), h]
  rw [h, z_lit 165, z_pl, z_0, bind_ok f1, h2, nI_1]
  refine ⟨up1 y 0 2 (nI (n + 1)), rfl, by rw [up1_eq, if_pos ⟨rfl, rfl⟩], fun q hq => ?_, fun a j h3 h4 => by rw [up1_eq, if_neg h3, f2, if_neg h4]⟩
  rw [up1_eq, if_neg (by omega), f2, if_pos ⟨rfl, by omega, by omega⟩]
  exact congrArg (s.1 1) (by omega)
theorem m_minds {σ : Sg} {un : Nat} (hu : un ≤ 8) (h : σ.1 0 2 = nI un) : ∃ y, f_X9_minds σ = some y ∧ NM un σ y := by
  unfold f_X9_minds
  rw [h]
  rcases Nat.lt_or_ge un 8 with c | c
  · rw [if_neg (show ¬ nI un = (8 : Int32) from fun q => by have := (nI_eq (a := un) (b := 8) (by omega) (by decide)).mp q; omega)]
    obtain ⟨y, y1, y2, y3, y4⟩ := m_minds57 c h
    refine ⟨y, y1, ?_⟩
    unfold NM
    rw [dsh_0 c]
    exact ⟨y2, fun i hi q hq => y4 1 _ (by omega) (by omega), y3, fun a j h1 h2 => y4 a j h1 (by omega)⟩
  · obtain rfl : un = 8 := by omega
    rw [if_pos (show nI 8 = (8 : Int32) from rfl)]
    unfold f_X9_minds_11
    refine itr_ivv (fun (k : Nat) (s : Int32 × Sg) => s.1 = nI k ∧ ∀ a j, s.2.1 a j = if a = 1 ∧ 165 ≤ j ∧ j < 165 + k then σ.1 1 (j + 55) else σ.1 a j) _ 385 0 3000 _ (by decide) ⟨rfl, fun a j => by rw [if_neg (by omega)]⟩ ?_ ?_
    · rintro k ⟨s1, s⟩ - hk ⟨q1, q2⟩
      rw [Nat.zero_add] at hk
      have q1' : s1 = nI k := q1
      subst q1'
      have q2' : ∀ a j, s.1 a j = if a = 1 ∧ 165 ≤ j ∧ j < 165 + k then σ.1 1 (j + 55) else σ.1 a j := q2
      refine ⟨(nI (k + 1), up1 s 1 (165 + k) (s.1 1 (165 + k + 55))), ?_, rfl, fun a j => ?_⟩
      · show f_X9_minds_11s (nI k) s = _
        unfold f_X9_minds_11s
        rw [if_neg (show ¬ (385 : Int32) ≤ nI k from nI_ge (a := k) (b := 385) hk (by decide)), z_lit 165, z_lit 55, nI_add, nI_add, bind_ok (ald_ok (by omega) (by decide)), bind_ok (ast_ok (by omega) (by decide)), nm_eq, nI_1]
      · show (up1 s 1 (165 + k) (s.1 1 (165 + k + 55))).1 a j = _
        rw [up1_eq]
        by_cases c1 : a = 1 ∧ j = 165 + k
        · rw [if_pos c1, if_pos (by omega), q2', if_neg (by omega), c1.2]
        · rw [if_neg c1, q2']
          by_cases c3 : a = 1 ∧ 165 ≤ j ∧ j < 165 + k
          · rw [if_pos c3, if_pos (by omega)]
          · rw [if_neg c3, if_neg (by omega)]
    · rintro ⟨s1, s⟩ ⟨q1, q2⟩
      rw [Nat.zero_add] at q1 q2
      have q1' : s1 = nI 385 := q1
      subst q1'
      have q2' : ∀ a j, s.1 a j = if a = 1 ∧ 165 ≤ j ∧ j < 165 + 385 then σ.1 1 (j + 55) else σ.1 a j := q2
      have hs : s.1 0 2 = nI 8 := by rw [q2', if_neg (by omega), h]
      obtain ⟨y, y1, y2, y3, y4⟩ := m_minds57 (s := up1 s 0 2 (nI 7)) (n := 7) (by decide) (by rw [up1_eq, if_pos ⟨rfl, rfl⟩])
      refine ⟨y, ?_, ?_⟩
      · show f_X9_minds_11s (nI 385) s = _
        unfold f_X9_minds_11s
        rw [if_pos (by decide : (385 : Int32) ≤ nI 385), hs, show nI 8 - (1 : Int32) = nI 7 by decide, bind_ok (pfi_eq _ _ _ _), y1]
        rfl
      · unfold NM
        rw [dsh_8]
        refine ⟨y2, fun i hi q hq => ?_, fun q hq => ?_, fun a j h1 h2 => ?_⟩
        · rw [y4 1 _ (by omega) (by omega), up1_eq, if_neg (by omega), q2', if_pos ⟨rfl, by omega, by omega⟩]
          exact congrArg (σ.1 1) (by omega)
        · rw [y3 q hq, up1_eq, if_neg (by omega), q2', if_neg (by omega)]
        · rw [y4 a j h1 (by omega), up1_eq, if_neg h1, q2', if_neg (by omega)]
section
variable {F F' : Fl} {σX σM zX yX yM : Sg}
/-- one more is minded -/
theorem UNDO_push {un : Nat} {k v : Int32} (hF : OKF F) (hM : FM 0 F σM) (hu : un ≤ 8) (h : ∃ G : Nat → Fl, G un = F ∧ ∀ i, i < un → OKF (G i) ∧ FM (165 + 55 * i) (G i) σM ∧ PO (zX.1 34 i) (zX.1 35 i) (G i) (G (i + 1))) (hp : PO k v F F') (hx : NX un k v zX yX) (hm : NM un σM yM) : UNDO F' yX yM := by
  obtain ⟨G, g1, g2⟩ := h
  obtain ⟨x1, x2, x3, x4, x5⟩ := hx
  obtain ⟨m1, m2, m3, m4⟩ := hm
  have hd : dsh un ≤ un ∧ un - dsh un ≤ 7 := by unfold dsh; split <;> omega
  revert x1 x2 x3 x4 m1 m2 m3 hd
  generalize dsh un = d
  intro x1 x2 x3 x4 m1 m2 m3 hd
  refine ⟨un - d + 1, by omega, x1, m1, fun i => if i ≤ un - d then G (i + d) else F', if_neg (by omega), fun i hi => ?_⟩
  show OKF (if i ≤ un - d then G (i + d) else F') ∧ FM (165 + 55 * i) (if i ≤ un - d then G (i + d) else F') yM ∧ PO (yX.1 34 i) (yX.1 35 i) (if i ≤ un - d then G (i + d) else F') (if i + 1 ≤ un - d then G (i + 1 + d) else F')
  rw [if_pos (show i ≤ un - d by omega)]
  rcases Nat.lt_or_ge i (un - d) with c | c
  · obtain ⟨a1, a2, a3⟩ := g2 (i + d) (by omega)
    rw [if_pos (show i + 1 ≤ un - d by omega), (x2 i c).1, (x2 i c).2, show i + 1 + d = i + d + 1 by omega]
    exact ⟨a1, FM_move (fun q hq => m2 i c q hq) a1.m10 a2, a3⟩
  · have e : i = un - d := by omega
    rw [if_neg (show ¬ i + 1 ≤ un - d by omega), e, x3, x4, show un - d + d = un by omega, g1]
    exact ⟨hF, FM_move (r1 := 0) (fun q hq => by rw [m3 q hq, Nat.zero_add]) hF.m10 hM, hp⟩
end
