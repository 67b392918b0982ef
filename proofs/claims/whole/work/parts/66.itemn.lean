theorem t_in10 : ∀ t, t < 100 → f_X9_in (nI t).toInt64 1 10 = some (bz (decide (1 ≤ t) && decide (t ≤ 10))) := by decide +kernel
section
variable {D : Fl} {s : Sg}
theorem m_289n {v : Int32} (hv : v = 0 ∨ v = 1) (h9 : s.1 0 9 = 0) : f_X9_readItem_289 110 v s = some (v, up1 s 0 9 0) := by
  unfold f_X9_readItem_289 f_X9_readItem_308
  rw [h9, if_pos rfl, if_pos rfl]
  show ((zrt v).bind _) = _
  rw [bind_ok (zrt_01 hv)]
/-- item n -/
theorem m_n (hM : FMl 605 D s) {n : Nat} (hn : n < 100) (h4 : s.1 4 0 = nI n) (h9 : s.1 0 9 = 0) :
    ∃ s', ((ald s 4 3 0).bind fun x15 => (f_X9_in ((x15 : Int32).toInt64) 1 10).bind fun q16 => if q16 = 0 then f_X9_readItem_108 110 s else f_X9_readItem_109 110 1 s) = some (bz (decide (1 ≤ n) && decide (n ≤ 10)), s') ∧ frM s' s ∧ (1 ≤ n ∧ n ≤ 10 → FMl 605 (manF D n) s') ∧ s'.1 0 9 = 0 ∧ s'.1 0 7 = s.1 0 7 := by
  have a0 : ald s 4 3 0 = some (nI n) := by rw [z_0, ald_ok (by decide) (by decide), h4]
  rw [bind_ok a0, bind_ok (t_in10 n hn)]
  unfold f_X9_readItem_108 f_X9_readItem_109 f_X9_readItem_138
  have h9' : ∀ v, (up1 s 1 605 v).1 0 9 = 0 := fun v => by rw [up1_eq, if_neg (by omega), h9]
  by_cases c : 1 ≤ n ∧ n ≤ 10
  · rw [decide_eq_true c.1, decide_eq_true c.2, show bz (true && true) = 1 from rfl, if_neg (by decide : ¬ (1 : Int32) = 0), if_neg (by decide : ¬ (1 : Int32) = 0), bind_ok a0, z_lit 605, bind_ok (ast_ok (by decide) (by decide)), m_289n (Or.inr rfl) (h9' _)]
    exact ⟨_, rfl, frM_t (frM_9 _) (frM_1 (by decide) _), fun _ => FMl_9 (FMl_man hM n) _, by rw [up1_eq, if_pos ⟨rfl, rfl⟩], by rw [up1_eq, if_neg (by omega), up1_eq, if_neg (by omega)]⟩
  · have e : bz (decide (1 ≤ n) && decide (n ≤ 10)) = 0 := by
      rw [show (decide (1 ≤ n) && decide (n ≤ 10)) = false from by
        cases q : (decide (1 ≤ n) && decide (n ≤ 10))
        · rfl
        · rw [Bool.and_eq_true, decide_eq_true_eq, decide_eq_true_eq] at q; exact absurd q c]
      rfl
    rw [e, if_pos rfl, if_pos rfl, z_lit 605, bind_ok (m_w (by decide)), bind_ok (ast_ok (by decide) (by decide)), m_289n (Or.inl rfl) (h9' _)]
    exact ⟨_, rfl, frM_t (frM_9 _) (frM_1 (by decide) _), fun q => absurd q c, by rw [up1_eq, if_pos ⟨rfl, rfl⟩], by rw [up1_eq, if_neg (by omega), up1_eq, if_neg (by omega)]⟩
/-- item w -/
theorem m_wea (h : OKL D) (hM : FMl 605 D s) {n m : Nat} (hn : n < 100) (h4 : s.1 4 0 = nI n) (h5 : s.1 4 1 = nI m) :
    ∃ s', ((ald s 4 3 0).bind fun x23 => (f_X9_isRead x23 s).bind fun q24 => if q24 = 0 then f_X9_readItem_240 119 s else f_X9_readItem_241 119 1 s) = some (bz (decide (n < fN D)), s') ∧ frM s' s ∧ (n < fN D → FMl 605 (weaF D n (nI m)) s') ∧ s'.1 0 9 = 1 ∧ s'.1 0 7 = s.1 0 7 := by
  have hN := h.1
  have a0 : ald s 4 3 0 = some (nI n) := by rw [z_0, ald_ok (by decide) (by decide), h4]
  have a1 : ald s 4 3 1 = some (nI m) := by rw [z_1, ald_ok (by decide) (by decide), h5]
  rw [bind_ok a0, bind_ok (m_isRead h hM hn)]
  unfold f_X9_readItem_240 f_X9_readItem_241 f_X9_readItem_263 f_X9_readItem_285
  by_cases c : n < fN D
  · rw [decide_eq_true c, bz_t, if_neg (by decide : ¬ (1 : Int32) = 0), if_neg (by decide : ¬ (1 : Int32) = 0), bind_ok a0, if_neg (by decide : ¬ (1 : Int32) = 0), bind_ok a1, z_lit 640, nI_add, bind_ok (ast_ok (by omega) (by decide)), m_289 (by decide) (Or.inr rfl)]
    exact ⟨_, rfl, frM_t (frM_9 _) (frM_1 (by omega) _), fun _ => FMl_9 (FMl_wea h hM n (by omega) _) _, by rw [up1_eq, if_pos ⟨rfl, rfl⟩], by rw [up1_eq, if_neg (by omega), up1_eq, if_neg (by omega)]⟩
  · rw [decide_eq_false c, bz_f, if_pos rfl, if_pos rfl, if_pos rfl, z_lit 640, bind_ok (m_w (by decide)), show nI 640 + (0 : Int32) = nI 640 by decide, bind_ok (ast_ok (by decide) (by decide)), m_289 (by decide) (Or.inl rfl)]
    exact ⟨_, rfl, frM_t (frM_9 _) (frM_1 (by decide) _), fun q => absurd q c, by rw [up1_eq, if_pos ⟨rfl, rfl⟩], by rw [up1_eq, if_neg (by omega), up1_eq, if_neg (by omega)]⟩
end
