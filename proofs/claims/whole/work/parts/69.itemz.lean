section
variable {D : Fl} {tx : Nat → Nat} {len p w : Nat} {only : Bool} {zX zM : Sg}
theorem item_t (hl : len ≤ 300) (ht : ∀ j, j < len → tx j < 256) (hD : DR D 5 only zX zM) (bX : BX tx len zX) (bM : BM tx len zM) (hat : zM.1 0 7 = nI p) (hp : p < len) (hw : w < 300) (hL : tx p = 116) : ITEM len p w zX zM := by
  have hM0 : f_X9_readItem zM = (f_X9_readStep (up1 zM 0 7 (nI (p + 1)))).bind fun q25 => f_X9_readItem_289 116 q25.1 q25.2 := by
    unfold f_X9_readItem
    rw [hat, bind_ok (ald_ok (by omega) (by decide)), bM.2 p hp, hL, bind_ok (pfi_eq _ _ _ _), nI_1, if_neg (show ¬ nI 116 = (97 : Int32) by decide), if_neg (show ¬ nI 116 = (110 : Int32) by decide), if_pos (show nI 116 = (116 : Int32) from rfl)]
    rfl
  have bM1 : BM tx len (up1 zM 0 7 (nI (p + 1))) := BM_at bM (p + 1)
  rcases nums_both hl ht (k := 3) (by decide) 3 0 (p + 1) zX (up1 zM 0 7 (nI (p + 1))) 3000 3000 rfl (by decide) (by decide) (by omega) bX bM1 (by rw [up1_eq, if_pos ⟨rfl, rfl⟩]) with ⟨sX, sM, e1, e2, fx, fm⟩ | ⟨sX, sM, q, n, h1, h2, e1, e2, h3, h4, -, fx, fm⟩
  · obtain ⟨dD, fX, fR⟩ := DR_nums hD fx fm
    have hR := x_round hl bX hp hw (k := 3) (by rw [hL]; rfl) (by decide) (by decide) e1
    rw [if_pos rfl] at hR
    have e2' : f_X9_takes 3 (up1 zM 0 7 (nI (p + 1))) = some (0, sM) := e2
    refine Or.inl ⟨sX, up1 sM 0 9 1, hR, ?_, fX, frM_t (frM_9 _) fR⟩
    have ep : f_X9_readStep (up1 zM 0 7 (nI (p + 1))) = some (0, sM) := by
      unfold f_X9_readStep
      rw [bind_ok e2', if_pos rfl]
      unfold f_X9_readStep_94 f_X9_readStep_95
      rw [if_pos rfl]
      rfl
    rw [hM0, bind_ok ep, m_289 (by decide) (Or.inl rfl)]
  · obtain ⟨dD, fX, fR⟩ := DR_nums hD fx fm
    obtain ⟨d1, d2, d3, d4, d5, d6, d7⟩ := dD
    have hn := h4 0 (Nat.le_refl _) (by decide)
    have hn1 := h4 1 (by decide) (by decide)
    have hn2 := h4 2 (by decide) (by decide)
    have hR := x_round hl bX hp hw (k := 3) (by rw [hL]; rfl) (by decide) (by decide) e1
    have bsX : BX tx len sX := ⟨by rw [fx 1 1 (by omega)]; exact bX.1, fun j hj => by rw [fx 2 j (by omega)]; exact bX.2 j hj⟩
    have e2' : f_X9_takes 3 (up1 zM 0 7 (nI (p + 1))) = some (1, sM) := e2
    obtain ⟨yM, m1, m2, m3, m4⟩ := m_stp d1 d3 hn.2.2 hn1.2.2 hn2.2.2 hn.2.1 hn1.2.1 hn2.2.1
    have ep : f_X9_readStep (up1 zM 0 7 (nI (p + 1))) = some (if stp D (n 0) (n 1) (n 2) ∧ fM D < 10 then (1, yM) else (0, sM)) := by
      unfold f_X9_readStep
      rw [bind_ok e2', if_neg (by decide : ¬ (1 : Int32) = 0)]
      exact m1
    obtain ⟨yX, g1, g2, g3, g4⟩ := x_addStepL (z := up1 sX 3 1 0) d1 (FXl_pt (fun a j h1 h2 => by rw [up1_eq, if_neg (by omega)]) d2) hn.2.2 hn1.2.2 hn2.2.2
    have eT : f_X4_takeItem 5 (nI 116) sX = (f_X1_addStep 5 (nI (n 0)) (nI (n 1)) (nI (n 2)) (up1 sX 3 1 0)).bind fun q7 => (zrt q7.1).bind fun x8 => some ((x8, q7.2)) := by
      unfold f_X4_takeItem
      rw [show f_X8_at 4 3 0 sX = some (nI (n 0)) by rw [z_0, x_at (by decide) (by decide), hn.1], bind_ok rfl, show f_X8_at 4 3 1 sX = some (nI (n 1)) by rw [z_1, x_at (by decide) (by decide), hn1.1], bind_ok rfl, if_neg (show ¬ nI 116 = (110 : Int32) by decide)]
      rw [show pfz sX 3 1 0 = some (up1 sX 3 1 0) from rfl, bind_ok rfl, if_neg (show ¬ nI 116 = (97 : Int32) by decide), if_pos (show nI 116 = (116 : Int32) from rfl), show f_X8_at 4 3 2 (up1 sX 3 1 0) = some (nI (n 2)) by rw [z_lit 2, x_at (by decide) (by decide), up1_eq, if_neg (by omega), hn2.1], bind_ok rfl]
    rw [if_neg (nI_neg (by omega)).1, bind_ok (x_byte hl bsX (by omega)), if_pos hp, hL, eT] at hR
    by_cases c : stp D (n 0) (n 1) (n 2) ∧ fM D < 10
    · have eM : f_X9_readItem zM = some (1, up1 yM 0 9 1) := by
        rw [hM0, ep, if_pos c]
        exact m_289 (by decide) (Or.inr rfl)
      rw [g1 c] at hR
      refine Or.inr ⟨yX, _, q, layF D (n 0) (n 1) (n 2), false, by omega, h2, hR, eM, by rw [up1_eq, if_neg (by omega), m4]; exact h3, ⟨layF_okl d1 c.2 c.1.1 c.1.2.1 c.1.2.2.1 c.1.2.2.2.1 c.1.2.2.2.2, g3 c, FMl_9 (m3 c) _, ?_, ?_, by rw [up1_eq, if_pos ⟨rfl, rfl⟩]; rfl, fun q => by cases q⟩, fun a j h1 h2 h3 => by rw [g4 a j (by omega) (by omega), up1_eq, if_neg h2]; exact fX a j h1 h2 h3, frM_t (frM_9 _) (frM_t m2 fR)⟩
      · rw [g4 5 9 (by omega) (by omega), up1_eq, if_neg (by omega)]; exact d4
      · rw [g4 3 1 (by omega) (by omega), up1_eq, if_pos ⟨rfl, rfl⟩]; rfl
    · have eM : f_X9_readItem zM = some (0, up1 sM 0 9 1) := by
        rw [hM0, ep, if_neg c]
        exact m_289 (by decide) (Or.inl rfl)
      rw [g2 c] at hR
      exact Or.inl ⟨_, _, hR, eM, fun a j h1 h2 h3 => by rw [up1_eq, if_neg h2]; exact fX a j h1 h2 h3, frM_t (frM_9 _) fR⟩
end
