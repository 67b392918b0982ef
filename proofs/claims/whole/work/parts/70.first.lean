-- the first floor
def Ff : Fl := ((4, 2, 3, 15, 3), (fun t => if t = 0 then 0 else 2), (fun t => if t = 0 then 1 else 2), (fun t => if t = 0 then 2 else 3), (fun _ => 0), fun _ => 0)
theorem Ff_ok : OKF Ff := by
  refine ⟨⟨by decide, by decide, fun t ht => ?_, by decide, fun s hs => by show 0 < 2 ^ 10; decide⟩, by decide, by decide, by decide⟩
  have ht' : t < 2 := ht
  rcases (show t = 0 ∨ t = 1 by omega) with rfl | rfl <;> decide
def chk (s : Sg) (l : List (Nat × Nat × Int32)) (a b c d : Nat) : Bool := l.all (fun x => decide (s.1 x.1 x.2.1 = x.2.2)) && (List.range 10).all (fun i => decide (s.1 a (b + i) = nI 0) && decide (s.1 c (d + i) = 0))
def lX : List (Nat × Nat × Int32) := [(12, 6, nI 4), (12, 7, nI 2), (12, 8, nI 3), (12, 9, nI 15), (12, 10, nI 3), (13, 0, nI 0), (14, 0, nI 1), (15, 0, nI 2), (16, 0, nI 3), (13, 1, nI 2), (14, 1, nI 2), (15, 1, nI 3), (16, 1, nI 4), (1, 1, nI 0), (0, 10, nI 0), (0, 11, nI 0), (33, 2, nI 0)]
def lM : List (Nat × Nat × Int32) := [(1, 0, nI 4), (1, 4, nI 2), (1, 1, nI 3), (1, 2, nI 15), (1, 3, nI 3), (1, 5, nI 0), (1, 15, nI 1), (1, 25, nI 2), (1, 6, nI 2), (1, 16, nI 2), (1, 26, nI 3), (0, 4, nI 0), (0, 6, nI 0), (0, 1, nI 0), (0, 2, nI 0)]
def chkX (s : Sg) : Bool := chk s lX 17 0 18 0
def chkM (s : Sg) : Bool := chk s lM 1 45 1 35
theorem i_M : (match f_X9_init0 σz with | some s => chkM s | none => false) = true := by decide +kernel
theorem i_X : (match f_X8_init0 σz with | some s => chkX s | none => false) = true := by decide +kernel
theorem chk_ok {s : Sg} {l : List (Nat × Nat × Int32)} {a b c d : Nat} (h : chk s l a b c d = true) : (∀ x, x ∈ l → s.1 x.1 x.2.1 = x.2.2) ∧ ∀ i, i < 10 → s.1 a (b + i) = nI 0 ∧ s.1 c (d + i) = 0 := by
  unfold chk at h
  rw [Bool.and_eq_true, List.all_eq_true, List.all_eq_true] at h
  refine ⟨fun x hx => of_decide_eq_true (h.1 x hx), fun i hi => ?_⟩
  have := h.2 i (List.mem_range.mpr hi)
  rw [Bool.and_eq_true] at this
  exact ⟨of_decide_eq_true this.1, of_decide_eq_true this.2⟩
theorem init_both : ∃ sX sM, f_X8_init0 σz = some sX ∧ f_X9_init0 σz = some sM ∧ Sim sX sM := by
  have hX := i_X
  have hM := i_M
  cases eX : f_X8_init0 σz with
  | none => rw [eX] at hX; cases hX
  | some sX =>
    cases eM : f_X9_init0 σz with
    | none => rw [eM] at hM; cases hM
    | some sM =>
      rw [eX] at hX
      rw [eM] at hM
      obtain ⟨x1, x2⟩ := chk_ok (show chk sX lX 17 0 18 0 = true from hX)
      obtain ⟨m1, m2⟩ := chk_ok (show chk sM lM 1 45 1 35 = true from hM)
      refine ⟨sX, sM, rfl, rfl, Ff, Ff_ok, ⟨⟨x1 (12, 6, nI 4) (by decide), x1 (12, 7, nI 2) (by decide), x1 (12, 8, nI 3) (by decide), fun t ht => ?_, fun i hi => ?_⟩, x1 (12, 9, nI 15) (by decide), x1 (12, 10, nI 3) (by decide)⟩, ⟨⟨m1 (1, 0, nI 4) (by decide), m1 (1, 4, nI 2) (by decide), m1 (1, 1, nI 3) (by decide), fun t ht => ?_, fun i hi => ?_⟩, m1 (1, 2, nI 15) (by decide), m1 (1, 3, nI 3) (by decide)⟩, ⟨0, by decide, x1 (1, 1, nI 0) (by decide), m1 (0, 4, nI 0) (by decide), fun j hj => absurd hj (Nat.not_lt_zero _)⟩, TOLD_0 (x1 (0, 10, nI 0) (by decide)) (m1 (0, 6, nI 0) (by decide)), ⟨0, by decide, x1 (0, 11, nI 0) (by decide), m1 (0, 1, nI 0) (by decide), fun j hj => absurd hj (Nat.not_lt_zero _)⟩, UNDO_0 (x1 (33, 2, nI 0) (by decide)) (m1 (0, 2, nI 0) (by decide))⟩
      · have ht' : t < 2 := ht
        rcases (show t = 0 ∨ t = 1 by omega) with rfl | rfl
        · exact ⟨x1 (13, 0, nI 0) (by decide), x1 (14, 0, nI 1) (by decide), x1 (15, 0, nI 2) (by decide), x1 (16, 0, nI 3) (by decide)⟩
        · exact ⟨x1 (13, 1, nI 2) (by decide), x1 (14, 1, nI 2) (by decide), x1 (15, 1, nI 3) (by decide), x1 (16, 1, nI 4) (by decide)⟩
      · have := x2 i hi
        rw [Nat.zero_add] at this
        exact this
      · have ht' : t < 2 := ht
        rcases (show t = 0 ∨ t = 1 by omega) with rfl | rfl
        · exact ⟨m1 (1, 5, nI 0) (by decide), m1 (1, 15, nI 1) (by decide), m1 (1, 25, nI 2) (by decide)⟩
        · exact ⟨m1 (1, 6, nI 2) (by decide), m1 (1, 16, nI 2) (by decide), m1 (1, 26, nI 3) (by decide)⟩
      · have := m2 i hi
        rw [Nat.zero_add, Nat.zero_add]
        exact this
