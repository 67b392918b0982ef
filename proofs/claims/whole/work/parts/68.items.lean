section
variable {D : Fl} {s : Sg}
theorem m_layStep (hm : fM D < 10) (hM : FMl 605 D s) (a c e : Nat) : ∃ s', f_X9_layStep 605 (nI a) (nI c) (nI e) s = some s' ∧ FMl 605 (layF D a c e) s' ∧ frM s' s ∧ (∀ j, s'.1 0 j = s.1 0 j) := by
  obtain ⟨m, hmm⟩ : ∃ m, m = fM D := ⟨_, rfl⟩
  obtain ⟨g1, g2, g3, g4, g5⟩ := hM
  have h9 : s.1 1 609 = nI m := by rw [hmm]; exact g2
  have k1 : ∀ y : Sg, ∀ x v, x ≠ 609 → (up1 y 1 x v).1 1 609 = y.1 1 609 := fun y x v hx => by rw [up1_eq, if_neg (fun q => hx q.2.symm)]
  obtain ⟨w, hw⟩ : ∃ w, w = up1 (up1 (up1 (up1 s 1 (610 + m) (nI a)) 1 (620 + m) (nI c)) 1 (630 + m) (nI e)) 1 609 (nI (m + 1)) := ⟨_, rfl⟩
  have ow : ∀ x j, ¬ (x = 1 ∧ (j = 609 ∨ j = 610 + m ∨ j = 620 + m ∨ j = 630 + m)) → w.1 x j = s.1 x j := fun x j p => by rw [hw, up1_eq, if_neg (by omega), up1_eq, if_neg (by omega), up1_eq, if_neg (by omega), up1_eq, if_neg (by omega)]
  have w4 : w.1 1 609 = nI (m + 1) := by rw [hw, up1_eq, if_pos ⟨rfl, rfl⟩]
  have w5 : w.1 1 (610 + m) = nI a := by rw [hw, up1_eq, if_neg (by omega), up1_eq, if_neg (by omega), up1_eq, if_neg (by omega), up1_eq, if_pos ⟨rfl, rfl⟩]
  have w15 : w.1 1 (620 + m) = nI c := by rw [hw, up1_eq, if_neg (by omega), up1_eq, if_neg (by omega), up1_eq, if_pos ⟨rfl, rfl⟩]
  have w25 : w.1 1 (630 + m) = nI e := by rw [hw, up1_eq, if_neg (by omega), up1_eq, if_pos ⟨rfl, rfl⟩]
  have fM' : fM (layF D a c e) = m + 1 := by rw [hmm]; rfl
  refine ⟨w, ?_, ⟨by rw [ow _ _ (by omega)]; exact g1, by rw [fM']; exact w4, by rw [ow _ _ (by omega)]; exact g3, fun t ht => ?_, fun i hi => ?_⟩, fun x j h1 h2 h3 => ow x j (by omega), fun j => ow 0 j (by omega)⟩
  · unfold f_X9_layStep
    rw [show (605 : Int32) + 4 = nI 609 by decide, show (605 : Int32) + 5 = nI 610 by decide, show (605 : Int32) + 15 = nI 620 by decide, show (605 : Int32) + 25 = nI 630 by decide, bind_ok (ald_ok (by decide) (by decide)), h9, nI_add, nI_add, nI_add, bind_ok (ast_ok (by omega) (by decide)), bind_ok (ast_ok (by omega) (by decide)), bind_ok (ast_ok (by omega) (by decide)), bind_ok (ald_ok (by decide) (by decide)), k1 _ _ _ (by omega), k1 _ _ _ (by omega), k1 _ _ _ (by omega), h9, nI_1, bind_ok (ast_ok (by decide) (by decide)), hw]
  · rw [fM'] at ht
    rw [show fA (layF D a c e) t = if t = m then a else fA D t by rw [hmm]; rfl, show fB (layF D a c e) t = if t = m then c else fB D t by rw [hmm]; rfl, show fC (layF D a c e) t = if t = m then e else fC D t by rw [hmm]; rfl]
    by_cases q : t = m
    · rw [if_pos q, if_pos q, if_pos q, q]; exact ⟨w5, w15, w25⟩
    · rw [if_neg q, if_neg q, if_neg q, ow _ _ (by omega), ow _ _ (by omega), ow _ _ (by omega)]
      exact g4 t (by omega)
  · rw [ow _ _ (by omega), ow _ _ (by omega)]; exact g5 i hi
/-- item t, after its numbers -/
theorem m_stp (h : OKL D) (hM : FMl 605 D s) {a c e : Nat} (ha : a < 100) (hc : c < 100) (he : e < 100) (h4 : s.1 4 0 = nI a) (h5 : s.1 4 1 = nI c) (h6 : s.1 4 2 = nI e) :
    ∃ s', ((ald s 4 3 0).bind fun x7 => (f_X9_isRead x7 s).bind fun q8 => if q8 = 0 then f_X9_readStep_94 s else (ald s 4 3 1).bind fun x9 => (f_X9_isRead x9 s).bind fun q10 => if q10 = 0 then f_X9_readStep_94 s else (ald s 4 3 2).bind fun x11 => (f_X9_isRead x11 s).bind fun q12 => if q12 = 0 then f_X9_readStep_94 s else (ald s 4 3 2).bind fun x13 => (ald s 4 3 0).bind fun x14 => if x13 = x14 then f_X9_readStep_94 s else (ald s 4 3 2).bind fun x15 => (ald s 4 3 1).bind fun x16 => if x15 = x16 then f_X9_readStep_94 s else (ald s 1 660 609).bind fun x17 => if (10 : Int32) ≤ x17 then f_X9_readStep_94 s else f_X9_readStep_95 1 s) = some (if stp D a c e ∧ fM D < 10 then (1, s') else (0, s)) ∧ frM s' s ∧ (stp D a c e ∧ fM D < 10 → FMl 605 (layF D a c e) s') ∧ ∀ j, s'.1 0 j = s.1 0 j := by
  have hN := h.1
  have hMM := h.2.1
  have a0 : ald s 4 3 0 = some (nI a) := by rw [z_0, ald_ok (by decide) (by decide), h4]
  have a1 : ald s 4 3 1 = some (nI c) := by rw [z_1, ald_ok (by decide) (by decide), h5]
  have a2 : ald s 4 3 2 = some (nI e) := by rw [z_lit 2, ald_ok (by decide) (by decide), h6]
  have a9 : ald s 1 660 609 = some (nI (fM D)) := by rw [z_lit 609, m_w (by decide)]; exact congrArg some hM.2.1
  have no : f_X9_readStep_94 s = some (0, s) := by
    unfold f_X9_readStep_94 f_X9_readStep_95
    rw [if_pos rfl]
    rfl
  have bad : ¬ (stp D a c e ∧ fM D < 10) → ∃ s', (some (0, s) : Option (Int32 × Sg)) = some (if stp D a c e ∧ fM D < 10 then (1, s') else (0, s)) ∧ frM s' s ∧ (stp D a c e ∧ fM D < 10 → FMl 605 (layF D a c e) s') ∧ ∀ j, s'.1 0 j = s.1 0 j := fun q => ⟨s, by rw [if_neg q], frM_r s, fun w => absurd w q, fun _ => rfl⟩
  rw [bind_ok a0, bind_ok (m_isRead h hM ha), bind_ok a1, bind_ok (m_isRead h hM hc), bind_ok a2, bind_ok (m_isRead h hM he), bind_ok a2, bind_ok a0, bind_ok a2, bind_ok a1, bind_ok a9, no]
  by_cases c1 : a < fN D
  case neg => rw [decide_eq_false c1, bz_f, if_pos rfl]; exact bad (fun q => c1 q.1.1)
  rw [decide_eq_true c1, bz_t, if_neg (by decide : ¬ (1 : Int32) = 0)]
  by_cases c2 : c < fN D
  case neg => rw [decide_eq_false c2, bz_f, if_pos rfl]; exact bad (fun q => c2 q.1.2.1)
  rw [decide_eq_true c2, bz_t, if_neg (by decide : ¬ (1 : Int32) = 0)]
  by_cases c3 : e < fN D
  case neg => rw [decide_eq_false c3, bz_f, if_pos rfl]; exact bad (fun q => c3 q.1.2.2.1)
  rw [decide_eq_true c3, bz_t, if_neg (by decide : ¬ (1 : Int32) = 0)]
  by_cases c4 : e = a
  · rw [if_pos (show nI e = nI a by rw [c4])]; exact bad (fun q => q.1.2.2.2.1 c4)
  rw [if_neg (nI_ne (by omega) (by omega) c4)]
  by_cases c5 : e = c
  · rw [if_pos (show nI e = nI c by rw [c5])]; exact bad (fun q => q.1.2.2.2.2 c5)
  rw [if_neg (nI_ne (by omega) (by omega) c5)]
  by_cases c6 : fM D < 10
  case neg => rw [if_pos (show (10 : Int32) ≤ nI (fM D) from nI_le (a := 10) (by omega) (by omega))]; exact bad (fun q => c6 q.2)
  rw [if_neg (show ¬ (10 : Int32) ≤ nI (fM D) from nI_ge (b := 10) c6 (by decide))]
  obtain ⟨s', k1, k2, k3, k4⟩ := m_layStep c6 hM a c e
  refine ⟨s', ?_, k3, fun _ => k2, k4⟩
  unfold f_X9_readStep_95 f_X9_readStep_125
  rw [if_neg (by decide : ¬ (1 : Int32) = 0), bind_ok a0, bind_ok a1, bind_ok a2, bind_ok k1, if_pos ⟨⟨c1, c2, c3, c4, c5⟩, c6⟩]
  rfl
end
