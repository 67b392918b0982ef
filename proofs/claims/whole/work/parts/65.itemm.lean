section
variable {D : Fl} {s : Sg}
/-- what the reading of an item may change in the reference -/
def frM (s' s : Sg) : Prop := ∀ a j, ¬ (a = 0 ∧ (j = 7 ∨ j = 9)) → ¬ (a = 1 ∧ 605 ≤ j) → a ≠ 4 → s'.1 a j = s.1 a j
theorem frM_r (s : Sg) : frM s s := fun _ _ _ _ _ => rfl
theorem frM_t {x y z : Sg} (h : frM x y) (g : frM y z) : frM x z := fun a j h1 h2 h3 => (h a j h1 h2 h3).trans (g a j h1 h2 h3)
theorem frM_1 {j : Nat} (hj : 605 ≤ j) (v : Int32) : frM (up1 s 1 j v) s := fun a i _ h2 _ => by rw [up1_eq, if_neg (fun q => h2 ⟨q.1, by rw [q.2]; exact hj⟩)]
theorem frM_9 (v : Int32) : frM (up1 s 0 9 v) s := fun a i h1 _ _ => by rw [up1_eq, if_neg (fun q => h1 ⟨q.1, Or.inr q.2⟩)]
theorem m_isRead (h : OKL D) (hM : FMl 605 D s) {n : Nat} (hn : n < 100) : f_X9_isRead (nI n) s = some (bz (decide (n < fN D))) := by
  have hN := h.1
  unfold f_X9_isRead
  rw [z_lit 605, bind_ok (m_w (by decide)), hM.1]
  by_cases c : n < fN D
  · rw [if_neg (nI_ge c (by omega)), decide_eq_true c]; rfl
  · rw [if_pos (nI_le (by omega) (by omega)), decide_eq_false c]; rfl
theorem m_289 {L v : Int32} (hL : L ≠ 110) (hv : v = 0 ∨ v = 1) : f_X9_readItem_289 L v s = some (v, up1 s 0 9 1) := by
  unfold f_X9_readItem_289 f_X9_readItem_303 f_X9_readItem_308
  rw [if_neg hL]
  have e : ∀ x : Option (Int32 × Sg), (if s.1 0 9 = 0 then x else x) = x := fun x => by split <;> rfl
  rw [e]
  show ((zrt v).bind _) = _
  rw [bind_ok (zrt_01 hv)]
theorem FMl_9 (hM : FMl 605 D s) (v : Int32) : FMl 605 D (up1 s 0 9 v) := by
  unfold FMl
  have : (up1 s 0 9 v).1 1 = s.1 1 := funext (fun j => by rw [up1_eq, if_neg (by omega)])
  rw [this]
  exact hM
theorem FMl_beg (hM : FMl 605 D s) (n : Nat) : FMl 605 (begF D n) (up1 s 1 606 (nI (fBg D ||| 2 ^ n))) := by
  have o : ∀ j, j ≠ 606 → (up1 s 1 606 (nI (fBg D ||| 2 ^ n))).1 1 j = s.1 1 j := fun j q => by rw [up1_eq, if_neg (fun w => q w.2)]
  obtain ⟨g1, g2, g3, g4, g5⟩ := hM
  refine ⟨by rw [o _ (by omega)]; exact g1, by rw [o _ (by omega)]; exact g2, by rw [up1_eq, if_pos ⟨rfl, rfl⟩]; rfl, fun t ht => ?_, fun i hi => ?_⟩
  · rw [o _ (by omega), o _ (by omega), o _ (by omega)]; exact g4 t ht
  · rw [o _ (by omega), o _ (by omega)]; exact g5 i hi
theorem FMl_man (hM : FMl 605 D s) (n : Nat) : FMl 605 (manF D n) (up1 s 1 605 (nI n)) := by
  have o : ∀ j, j ≠ 605 → (up1 s 1 605 (nI n)).1 1 j = s.1 1 j := fun j q => by rw [up1_eq, if_neg (fun w => q w.2)]
  obtain ⟨g1, g2, g3, g4, g5⟩ := hM
  refine ⟨by rw [up1_eq, if_pos ⟨rfl, rfl⟩]; rfl, by rw [o _ (by omega)]; exact g2, by rw [o _ (by omega)]; exact g3, fun t ht => ?_, fun i hi => ?_⟩
  · rw [o _ (by omega), o _ (by omega), o _ (by omega)]; exact g4 t ht
  · rw [o _ (by omega), o _ (by omega)]; exact g5 i hi
theorem FMl_wea (h : OKL D) (hM : FMl 605 D s) (n : Nat) (hn : n < 10) (v : Int32) : FMl 605 (weaF D n v) (up1 s 1 (640 + n) v) := by
  have o : ∀ j, j ≠ 640 + n → (up1 s 1 (640 + n) v).1 1 j = s.1 1 j := fun j q => by rw [up1_eq, if_neg (fun w => q w.2)]
  obtain ⟨g1, g2, g3, g4, g5⟩ := hM
  refine ⟨by rw [o _ (by omega)]; exact g1, by rw [o _ (by omega)]; exact g2, by rw [o _ (by omega)]; exact g3, fun t ht => ?_, fun i hi => ?_⟩
  · have ht' : t < fM D := ht
    have hm := h.2.1
    rw [o _ (by omega), o _ (by omega), o _ (by omega)]; exact g4 t ht
  · refine ⟨by rw [o _ (by omega)]; exact (g5 i hi).1, ?_⟩
    show _ = if i = n then v else fW D i
    rw [up1_eq]
    by_cases c : i = n
    · rw [if_pos ⟨rfl, by omega⟩, if_pos c]
    · rw [if_neg (by omega), if_neg c]; exact (g5 i hi).2
/-- item a -/
theorem m_a (h : OKL D) (hM : FMl 605 D s) {n : Nat} (hn : n < 100) (h4 : s.1 4 0 = nI n) :
    ∃ s', ((ald s 4 3 0).bind fun x9 => (f_X9_isRead x9 s).bind fun q10 => if q10 = 0 then f_X9_readItem_167 97 s else f_X9_readItem_168 97 1 s) = some (bz (decide (n < fN D)), s') ∧ frM s' s ∧ (n < fN D → FMl 605 (begF D n) s') ∧ s'.1 0 9 = 1 ∧ s'.1 0 7 = s.1 0 7 := by
  have hN := h.1
  have a0 : ald s 4 3 0 = some (nI n) := by rw [z_0, ald_ok (by decide) (by decide), h4]
  have a6 : ald s 1 660 606 = some (nI (fBg D)) := by rw [z_lit 606, m_w (by decide)]; exact congrArg some hM.2.2.1
  rw [bind_ok a0, bind_ok (m_isRead h hM hn)]
  unfold f_X9_readItem_167 f_X9_readItem_168 f_X9_readItem_194
  by_cases c : n < fN D
  · rw [decide_eq_true c, bz_t, if_neg (by decide : ¬ (1 : Int32) = 0), bind_ok a6, if_neg (by decide : ¬ (1 : Int32) = 0), bind_ok a0, z_bit (by omega), z_or, z_lit 606, bind_ok (ast_ok (by decide) (by decide)), m_289 (by decide) (Or.inr rfl)]
    exact ⟨_, rfl, frM_t (frM_9 _) (frM_1 (by decide) _), fun _ => FMl_9 (FMl_beg hM n) _, by rw [up1_eq, if_pos ⟨rfl, rfl⟩], by rw [up1_eq, if_neg (by omega), up1_eq, if_neg (by omega)]⟩
  · rw [decide_eq_false c, bz_f, if_pos rfl, bind_ok a6, if_pos rfl, z_or0, z_lit 606, bind_ok (ast_ok (by decide) (by decide)), m_289 (by decide) (Or.inl rfl)]
    exact ⟨_, rfl, frM_t (frM_9 _) (frM_1 (by decide) _), fun q => absurd q c, by rw [up1_eq, if_pos ⟨rfl, rfl⟩], by rw [up1_eq, if_neg (by omega), up1_eq, if_neg (by omega)]⟩
end
