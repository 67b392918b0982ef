-- the start of a reading
theorem x_clear (k : Nat) (σ : Sg) : ∃ z, f_X8_clearRow k 10 σ = some z ∧ ∀ a j, z.1 a j = if a = k ∧ j < 10 then 0 else σ.1 a j := by
  unfold f_X8_clearRow f_X8_clearRow_2
  refine itr_ivv (fun (i : Nat) (z : Int32 × Sg) => z.1 = nI i ∧ ∀ a j, z.2.1 a j = if a = k ∧ j < i then 0 else σ.1 a j) _ 10 0 3000 _ (by decide) ⟨rfl, fun a j => by rw [if_neg (by omega)]⟩ ?_ ?_
  · rintro i ⟨z1, z⟩ - hi ⟨q1, q2⟩
    rw [Nat.zero_add] at hi
    have q1' : z1 = nI i := q1
    subst q1'
    have q2' : ∀ a j, z.1 a j = if a = k ∧ j < i then 0 else σ.1 a j := q2
    refine ⟨(nI (i + 1), up1 z k i 0), ?_, rfl, fun a j => ?_⟩
    · show f_X8_clearRow_2s k 10 (nI i) z = _
      unfold f_X8_clearRow_2s
      rw [if_neg (nI_ge hi (by decide)), bind_ok (ast_ok hi (by decide)), nm_eq, nI_1]
    · show (up1 z k i 0).1 a j = _
      rw [up1_eq]
      by_cases c : a = k ∧ j = i
      · rw [if_pos c, if_pos ⟨c.1, by omega⟩]
      · rw [if_neg c, q2']
        by_cases c2 : a = k ∧ j < i
        · rw [if_pos c2, if_pos ⟨c2.1, by omega⟩]
        · rw [if_neg c2, if_neg (by omega)]
  · rintro ⟨z1, z⟩ ⟨q1, q2⟩
    rw [Nat.zero_add] at q1 q2
    have q1' : z1 = nI 10 := q1
    subst q1'
    refine ⟨z, ?_, q2⟩
    show f_X8_clearRow_2s k 10 (nI 10) z = _
    unfold f_X8_clearRow_2s
    rw [if_pos (nI_le (Nat.le_refl _) (by decide))]
theorem m_anew (σ : Sg) : ∃ z, f_X9_makeAnew 605 σ = some z ∧ ∀ a j, z.1 a j = if a = 1 ∧ 605 ≤ j ∧ j < 660 then (if j = 605 then 4 else 0) else σ.1 a j := by
  unfold f_X9_makeAnew f_X9_makeAnew_2
  refine itr_ivv (fun (i : Nat) (z : Int32 × Sg) => z.1 = nI i ∧ ∀ a j, z.2.1 a j = if a = 1 ∧ 605 ≤ j ∧ j < 605 + i then 0 else σ.1 a j) _ 55 0 3000 _ (by decide) ⟨rfl, fun a j => by rw [if_neg (by omega)]⟩ ?_ ?_
  · rintro i ⟨z1, z⟩ - hi ⟨q1, q2⟩
    rw [Nat.zero_add] at hi
    have q1' : z1 = nI i := q1
    subst q1'
    have q2' : ∀ a j, z.1 a j = if a = 1 ∧ 605 ≤ j ∧ j < 605 + i then 0 else σ.1 a j := q2
    refine ⟨(nI (i + 1), up1 z 1 (605 + i) 0), ?_, rfl, fun a j => ?_⟩
    · show f_X9_makeAnew_2s 605 (nI i) z = _
      unfold f_X9_makeAnew_2s
      rw [if_neg (show ¬ (55 : Int32) ≤ nI i from nI_ge (a := i) (b := 55) hi (by decide)), z_lit 605, nI_add, bind_ok (ast_ok (by omega) (by decide)), nm_eq, nI_1]
    · show (up1 z 1 (605 + i) 0).1 a j = _
      rw [up1_eq]
      by_cases c : a = 1 ∧ j = 605 + i
      · rw [if_pos c, if_pos ⟨c.1, by omega, by omega⟩]
      · rw [if_neg c, q2']
        by_cases c2 : a = 1 ∧ 605 ≤ j ∧ j < 605 + i
        · rw [if_pos c2, if_pos ⟨c2.1, c2.2.1, by omega⟩]
        · rw [if_neg c2, if_neg (by omega)]
  · rintro ⟨z1, z⟩ ⟨q1, q2⟩
    rw [Nat.zero_add] at q1 q2
    have q1' : z1 = nI 55 := q1
    subst q1'
    have q2' : ∀ a j, z.1 a j = if a = 1 ∧ 605 ≤ j ∧ j < 605 + 55 then 0 else σ.1 a j := q2
    refine ⟨up1 z 1 605 4, ?_, fun a j => ?_⟩
    · show f_X9_makeAnew_2s 605 (nI 55) z = _
      unfold f_X9_makeAnew_2s
      rw [if_pos (by decide : (55 : Int32) ≤ nI 55), show (605 : Int32) + 0 = nI 605 by decide, bind_ok (ast_ok (by decide) (by decide))]
    · rw [up1_eq]
      by_cases c : a = 1 ∧ j = 605
      · rw [if_pos c, if_pos ⟨c.1, by omega, by omega⟩, if_pos c.2]
      · rw [if_neg c, q2']
        by_cases c2 : a = 1 ∧ 605 ≤ j ∧ j < 605 + 55
        · rw [if_pos c2, if_pos ⟨c2.1, c2.2.1, by omega⟩, if_neg (by omega)]
        · rw [if_neg c2, if_neg (by omega)]
/-- nothing is read yet -/
def D0 : Fl := ((4, 0, 0, 15, 0), (fun _ => 0), (fun _ => 0), (fun _ => 0), (fun _ => 0), fun _ => 0)
theorem D0_ok : OKL D0 := ⟨by decide, by decide, fun t ht => absurd ht (Nat.not_lt_zero _), by decide, fun s _ => by show 0 < 2 ^ 10; decide⟩
theorem start_both (σX σM : Sg) : ∃ zX zM, (∀ f : Sg → Option (Int32 × Sg), (((f_X1_empty 5 σX).bind fun q1 => (pfz q1 3 1 1).bind f)) = f zX) ∧ (∀ f : Sg → Option (Int32 × Sg), ((f_X9_makeAnew 605 σM).bind fun q1 => (pfz q1 0 9 0).bind fun s2 => (pfi s2 0 7 0).bind f) = f zM) ∧ DR D0 5 true zX zM ∧ zM.1 0 7 = nI 0 ∧ frX zX σX ∧ frM zM σM := by
  obtain ⟨y1, e1, p1⟩ := x_clear 10 σX
  obtain ⟨y2, e2, p2⟩ := x_clear 11 y1
  obtain ⟨m1, g1, w1⟩ := m_anew σM
  let y3 := up1 y2 5 7 0
  let y4 := up1 y3 5 8 0
  let y5 := up1 y4 5 10 0
  let y6 := up1 y5 5 6 (nI 4)
  let y7 := up1 y6 5 9 (nI (2 ^ 4 - 1))
  let y8 := up1 y7 3 1 1
  have hx : ∀ a j, y8.1 a j = if a = 3 ∧ j = 1 then 1 else if a = 5 ∧ j = 9 then nI (2 ^ 4 - 1) else if a = 5 ∧ j = 6 then nI 4 else if a = 5 ∧ j = 10 then 0 else if a = 5 ∧ j = 8 then 0 else if a = 5 ∧ j = 7 then 0 else if a = 11 ∧ j < 10 then 0 else if a = 10 ∧ j < 10 then 0 else σX.1 a j := fun a j => by
    show (up1 (up1 (up1 (up1 (up1 (up1 y2 5 7 0) 5 8 0) 5 10 0) 5 6 (nI 4)) 5 9 (nI (2 ^ 4 - 1))) 3 1 1).1 a j = _
    rw [up1_eq, up1_eq, up1_eq, up1_eq, up1_eq, up1_eq, p2, p1]
  let n2 := up1 m1 0 9 0
  let n3 := up1 n2 0 7 0
  have hm : ∀ a j, n3.1 a j = if a = 0 ∧ j = 7 then 0 else if a = 0 ∧ j = 9 then 0 else if a = 1 ∧ 605 ≤ j ∧ j < 660 then (if j = 605 then 4 else 0) else σM.1 a j := fun a j => by
    show (up1 (up1 m1 0 9 0) 0 7 0).1 a j = _
    rw [up1_eq, up1_eq, w1]
  refine ⟨y8, n3, fun f => ?_, fun f => ?_, ⟨D0_ok, ⟨?_, ?_, ?_, fun t ht => absurd ht (Nat.not_lt_zero _), fun s hs => ⟨?_, ?_⟩⟩, ⟨?_, ?_, ?_, fun t ht => absurd ht (Nat.not_lt_zero _), fun s hs => ⟨?_, ?_⟩⟩, ?_, ?_, ?_, fun _ => ⟨rfl, rfl⟩⟩, ?_, fun a j h1 h2 h3 => ?_, fun a j h1 h2 h3 => ?_⟩
  · have es : f_X1_empty 5 σX = some y7 := by
      unfold f_X1_empty
      rw [show (5 + 5 : Nat) = 10 from rfl, show (5 + 6 : Nat) = 11 from rfl, bind_ok e1, bind_ok e2, bind_ok (pfi_eq _ _ _ _), bind_ok (pfi_eq _ _ _ _), bind_ok (pfi_eq _ _ _ _), z_lit 4, x_setStones (by decide), if_pos (by decide)]
      rfl
    rw [bind_ok es, show pfz y7 3 1 1 = some y8 from rfl]
    rfl
  · rw [bind_ok g1, show pfz m1 0 9 0 = some n2 from rfl, bind_ok rfl, bind_ok (pfi_eq _ _ _ _)]
  · rw [hx, if_neg (by omega), if_neg (by omega), if_pos ⟨rfl, by omega⟩]; rfl
  · rw [hx, if_neg (by omega), if_neg (by omega), if_neg (by omega), if_neg (by omega), if_neg (by omega), if_pos ⟨rfl, by omega⟩]; rfl
  · rw [hx, if_neg (by omega), if_neg (by omega), if_neg (by omega), if_neg (by omega), if_pos ⟨rfl, by omega⟩]; rfl
  · rw [hx, if_neg (by omega), if_neg (by omega), if_neg (by omega), if_neg (by omega), if_neg (by omega), if_neg (by omega), if_neg (by omega), if_pos ⟨rfl, by omega⟩]; rfl
  · rw [hx, if_neg (by omega), if_neg (by omega), if_neg (by omega), if_neg (by omega), if_neg (by omega), if_neg (by omega), if_pos ⟨rfl, by omega⟩]; rfl
  · rw [hm, if_neg (by omega), if_neg (by omega), if_pos ⟨rfl, by omega, by omega⟩, if_pos rfl]; rfl
  · rw [hm, if_neg (by omega), if_neg (by omega), if_pos ⟨rfl, by omega, by omega⟩, if_neg (by omega)]; rfl
  · rw [hm, if_neg (by omega), if_neg (by omega), if_pos ⟨rfl, by omega, by omega⟩, if_neg (by omega)]; rfl
  · rw [hm, if_neg (by omega), if_neg (by omega), if_pos ⟨rfl, by omega, by omega⟩, if_neg (by omega)]; rfl
  · rw [hm, if_neg (by omega), if_neg (by omega), if_pos ⟨rfl, by omega, by omega⟩, if_neg (by omega)]; rfl
  · rw [hx, if_neg (by omega), if_pos ⟨rfl, by omega⟩]; rfl
  · rw [hx, if_pos ⟨rfl, by omega⟩]; rfl
  · rw [hm, if_neg (by omega), if_pos ⟨rfl, rfl⟩]; rfl
  · rw [hm, if_pos ⟨rfl, rfl⟩]; rfl
  · rw [hx, if_neg (by omega), if_neg (by omega), if_neg (by omega), if_neg (by omega), if_neg (by omega), if_neg (by omega), if_neg (by omega), if_neg (by omega)]
  · rw [hm, if_neg (by omega), if_neg (by omega), if_neg (by omega)]
