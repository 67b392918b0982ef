section
variable {D : Fl} {s : Sg}
theorem FMl_gai (h : OKL D) (hM : FMl 605 D s) {n m : Nat} (hn : n < 10) (hm : m < 10) (hne : n ≠ m) : FMl 605 (gaiF D n m) (up1 (up1 s 1 (650 + n) (nI (fG D n ||| 2 ^ m))) 1 (650 + m) (nI (fG D m ||| 2 ^ n))) := by
  have o : ∀ j, j ≠ 650 + n → j ≠ 650 + m → (up1 (up1 s 1 (650 + n) (nI (fG D n ||| 2 ^ m))) 1 (650 + m) (nI (fG D m ||| 2 ^ n))).1 1 j = s.1 1 j := fun j q r => by rw [up1_eq, if_neg (fun w => r w.2), up1_eq, if_neg (fun w => q w.2)]
  have hmm := h.2.1
  obtain ⟨g1, g2, g3, g4, g5⟩ := hM
  refine ⟨by rw [o _ (by omega) (by omega)]; exact g1, by rw [o _ (by omega) (by omega)]; exact g2, by rw [o _ (by omega) (by omega)]; exact g3, fun t ht => ?_, fun i hi => ?_⟩
  · have ht' : t < fM D := ht
    rw [o _ (by omega) (by omega), o _ (by omega) (by omega), o _ (by omega) (by omega)]; exact g4 t ht
  · refine ⟨?_, by rw [o _ (by omega) (by omega)]; exact (g5 i hi).2⟩
    show _ = nI (if i = n then fG D n ||| 2 ^ m else if i = m then fG D m ||| 2 ^ n else fG D i)
    rw [up1_eq]
    by_cases q1 : i = m
    · rw [if_pos ⟨rfl, by omega⟩, if_neg (by omega), if_pos q1]
    · rw [if_neg (by omega), up1_eq]
      by_cases q2 : i = n
      · rw [if_pos ⟨rfl, by omega⟩, if_pos q2]
      · rw [if_neg (by omega), if_neg q2, if_neg q1]; exact (g5 i hi).1
/-- item x, after its numbers -/
theorem m_pair (h : OKL D) (hM : FMl 605 D s) {n m : Nat} (hn : n < 100) (hm : m < 100) (h4 : s.1 4 0 = nI n) (h5 : s.1 4 1 = nI m) :
    ∃ s', ((ald s 4 3 0).bind fun x11 => (f_X9_isRead x11 s).bind fun q12 => if q12 = 0 then f_X9_readPair_53 s else (ald s 4 3 1).bind fun x13 => (f_X9_isRead x13 s).bind fun q14 => if q14 = 0 then f_X9_readPair_53 s else (ald s 4 3 0).bind fun x15 => (ald s 4 3 1).bind fun x16 => if x15 = x16 then f_X9_readPair_53 s else f_X9_readPair_54 1 s) = some (bz (decide (n < fN D ∧ m < fN D ∧ n ≠ m)), s') ∧ frM s' s ∧ (n < fN D ∧ m < fN D ∧ n ≠ m → FMl 605 (gaiF D n m) s') ∧ s'.1 0 9 = s.1 0 9 ∧ s'.1 0 7 = s.1 0 7 := by
  have hN := h.1
  have a0 : ald s 4 3 0 = some (nI n) := by rw [z_0, ald_ok (by decide) (by decide), h4]
  have a1 : ald s 4 3 1 = some (nI m) := by rw [z_1, ald_ok (by decide) (by decide), h5]
  have no : f_X9_readPair_53 s = some (0, s) := by
    unfold f_X9_readPair_53 f_X9_readPair_54
    rw [if_pos rfl]
    rfl
  rw [bind_ok a0, bind_ok a1, bind_ok a0, bind_ok a1, bind_ok (m_isRead h hM hn), bind_ok (m_isRead h hM hm), no]
  by_cases c1 : n < fN D
  case neg =>
    rw [decide_eq_false c1, bz_f, if_pos rfl, decide_eq_false (fun q => c1 q.1)]
    exact ⟨s, rfl, frM_r s, fun q => absurd q.1 c1, rfl, rfl⟩
  rw [decide_eq_true c1, bz_t, if_neg (by decide : ¬ (1 : Int32) = 0)]
  by_cases c2 : m < fN D
  case neg =>
    rw [decide_eq_false c2, bz_f, if_pos rfl, decide_eq_false (fun q => c2 q.2.1)]
    exact ⟨s, rfl, frM_r s, fun q => absurd q.2.1 c2, rfl, rfl⟩
  rw [decide_eq_true c2, bz_t, if_neg (by decide : ¬ (1 : Int32) = 0)]
  by_cases c3 : n = m
  · rw [if_pos (show nI n = nI m by rw [c3]), decide_eq_false (fun q => q.2.2 c3)]
    exact ⟨s, rfl, frM_r s, fun q => absurd c3 q.2.2, rfl, rfl⟩
  rw [if_neg (nI_ne (by omega) (by omega) c3), decide_eq_true (show n < fN D ∧ m < fN D ∧ n ≠ m from ⟨c1, c2, c3⟩)]
  refine ⟨up1 (up1 s 1 (650 + n) (nI (fG D n ||| 2 ^ m))) 1 (650 + m) (nI (fG D m ||| 2 ^ n)), ?_, frM_t (frM_1 (by omega) _) (frM_1 (by omega) _), fun _ => FMl_gai h hM (by omega) (by omega) c3, by rw [up1_eq, if_neg (by omega), up1_eq, if_neg (by omega)], by rw [up1_eq, if_neg (by omega), up1_eq, if_neg (by omega)]⟩
  have b0 : ald (up1 s 1 (650 + n) (nI (fG D n ||| 2 ^ m))) 4 3 0 = some (nI n) := by rw [z_0, ald_ok (by decide) (by decide), up1_eq, if_neg (by omega), h4]
  have b1 : ald (up1 s 1 (650 + n) (nI (fG D n ||| 2 ^ m))) 4 3 1 = some (nI m) := by rw [z_1, ald_ok (by decide) (by decide), up1_eq, if_neg (by omega), h5]
  have g0 : ald s 1 660 (650 + nI n) = some (nI (fG D n)) := by
    rw [z_lit 650, m_wk 650 (by omega)]
    exact congrArg some (hM.2.2.2.2 n (by omega)).1
  have g1 : ald (up1 s 1 (650 + n) (nI (fG D n ||| 2 ^ m))) 1 660 (650 + nI m) = some (nI (fG D m)) := by
    rw [z_lit 650, m_wk 650 (by omega), up1_eq, if_neg (by omega)]
    exact congrArg some (hM.2.2.2.2 m (by omega)).1
  unfold f_X9_readPair_54 f_X9_readPair_111
  rw [if_neg (by decide : ¬ (1 : Int32) = 0), bind_ok a0, bind_ok g0, bind_ok a1, z_bit (by omega), z_or, show (650 : Int32) + nI n = nI (650 + n) by rw [z_lit 650, nI_add], bind_ok (ast_ok (by omega) (by decide)), bind_ok b1, bind_ok g1, bind_ok b0, z_bit (by omega), z_or, show (650 : Int32) + nI m = nI (650 + m) by rw [z_lit 650, nI_add], bind_ok (ast_ok (by omega) (by decide))]
  rfl
end
