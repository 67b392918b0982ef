section
variable {D : Fl} {tx : Nat → Nat} {len p w : Nat} {only : Bool} {zX zM : Sg}
theorem item_w (hl : len ≤ 300) (ht : ∀ j, j < len → tx j < 256) (hD : DR D 5 only zX zM) (bX : BX tx len zX) (bM : BM tx len zM) (hat : zM.1 0 7 = nI p) (hp : p < len) (hw : w < 300) (hL : tx p = 119) : ITEM len p w zX zM := by
  have hM0 : f_X9_readItem zM = (f_X9_takes 2 (up1 zM 0 7 (nI (p + 1)))).bind fun q3 => if q3.1 = 0 then f_X9_readItem_240 119 q3.2 else (ald q3.2 4 3 0).bind fun x9 => (f_X9_isRead x9 q3.2).bind fun q10 => if q10 = 0 then f_X9_readItem_240 119 q3.2 else f_X9_readItem_241 119 1 q3.2 := by
    unfold f_X9_readItem
    rw [hat, bind_ok (ald_ok (by omega) (by decide)), bM.2 p hp, hL, bind_ok (pfi_eq _ _ _ _), nI_1, if_neg (show ¬ nI 119 = (97 : Int32) by decide), if_neg (show ¬ nI 119 = (110 : Int32) by decide), if_neg (show ¬ nI 119 = (116 : Int32) by decide), if_pos (show nI 119 = (119 : Int32) from rfl)]
    rfl
  have bM1 : BM tx len (up1 zM 0 7 (nI (p + 1))) := BM_at bM (p + 1)
  rcases nums_both hl ht (k := 2) (by decide) 2 0 (p + 1) zX (up1 zM 0 7 (nI (p + 1))) 3000 3000 rfl (by decide) (by decide) (by omega) bX bM1 (by rw [up1_eq, if_pos ⟨rfl, rfl⟩]) with ⟨sX, sM, e1, e2, fx, fm⟩ | ⟨sX, sM, q, n, h1, h2, e1, e2, h3, h4, -, fx, fm⟩
  · obtain ⟨dD, fX, fM⟩ := DR_nums hD fx fm
    have hR := x_round hl bX hp hw (k := 2) (by rw [hL]; rfl) (by decide) (by decide) e1
    rw [if_pos rfl] at hR
    have e2' : f_X9_takes 2 (up1 zM 0 7 (nI (p + 1))) = some (0, sM) := e2
    refine Or.inl ⟨sX, up1 (up1 sM 1 640 (sM.1 1 640)) 0 9 1, hR, ?_, fX, frM_t (frM_t (frM_9 _) (frM_1 (by decide) _)) fM⟩
    rw [hM0, bind_ok e2', if_pos rfl]
    unfold f_X9_readItem_240 f_X9_readItem_241 f_X9_readItem_263 f_X9_readItem_285
    rw [if_pos rfl, if_pos rfl, z_lit 640, bind_ok (m_w (by decide)), show nI 640 + (0 : Int32) = nI 640 by decide, bind_ok (ast_ok (by decide) (by decide)), m_289 (by decide) (Or.inl rfl)]
  · obtain ⟨dD, fX, fM⟩ := DR_nums hD fx fm
    obtain ⟨d1, d2, d3, d4, d5, d6, d7⟩ := dD
    have hn := h4 0 (Nat.le_refl _) (by decide)
    have hn1 := h4 1 (by decide) (by decide)
    have hR := x_round hl bX hp hw (k := 2) (by rw [hL]; rfl) (by decide) (by decide) e1
    have bsX : BX tx len sX := ⟨by rw [fx 1 1 (by omega)]; exact bX.1, fun j hj => by rw [fx 2 j (by omega)]; exact bX.2 j hj⟩
    have e2' : f_X9_takes 2 (up1 zM 0 7 (nI (p + 1))) = some (1, sM) := e2
    obtain ⟨yM, m1, m2, m3, m4, m5⟩ := m_wea d1 d3 hn.2.2 hn.2.1 hn1.2.1
    have eM : f_X9_readItem zM = some (bz (decide (n 0 < fN D)), yM) := by
      rw [hM0, bind_ok e2', if_neg (by decide : ¬ (1 : Int32) = 0)]
      exact m1
    have eT : f_X4_takeItem 5 (nI 119) sX = if n 0 < fN D then some (1, up1 (up1 sX 3 1 0) 11 (n 0) (nI (n 1))) else some (0, up1 sX 3 1 0) := by
      unfold f_X4_takeItem
      rw [show f_X8_at 4 3 0 sX = some (nI (n 0)) by rw [z_0, x_at (by decide) (by decide), hn.1], bind_ok rfl, show f_X8_at 4 3 1 sX = some (nI (n 1)) by rw [z_1, x_at (by decide) (by decide), hn1.1], bind_ok rfl, if_neg (show ¬ nI 119 = (110 : Int32) by decide)]
      rw [show pfz sX 3 1 0 = some (up1 sX 3 1 0) from rfl, bind_ok rfl, if_neg (show ¬ nI 119 = (97 : Int32) by decide), if_neg (show ¬ nI 119 = (116 : Int32) by decide), if_neg (show ¬ nI 119 = (120 : Int32) by decide), x_setWear d1 (FXl_pt (fun a j h1 h2 => by rw [up1_eq, if_neg (by omega)]) d2) hn.2.2]
      by_cases c : n 0 < fN D
      · rw [if_pos c]; rfl
      · rw [if_neg c]; rfl
    rw [if_neg (nI_neg (by omega)).1, bind_ok (x_byte hl bsX (by omega)), if_pos hp, hL, eT] at hR
    by_cases c : n 0 < fN D
    · rw [if_pos c] at hR
      rw [decide_eq_true c] at eM
      refine Or.inr ⟨_, yM, q, weaF D (n 0) (nI (n 1)), false, by omega, h2, hR, eM, by rw [m5]; exact h3, ⟨weaF_ok d1 _ _, FXl_wea (FXl_pt (fun a j h1 h2 => by rw [up1_eq, if_neg (by omega)]) d2) _ _, m3 c, ?_, ?_, m4, fun q => by cases q⟩, fun a j h1 h2 h3 => by rw [up1_eq, if_neg (by omega), up1_eq, if_neg h2]; exact fX a j h1 h2 h3, frM_t m2 fM⟩
      · rw [up1_eq, if_neg (by omega), up1_eq, if_neg (by omega)]; exact d4
      · rw [up1_eq, if_neg (by omega), up1_eq, if_pos ⟨rfl, rfl⟩]; rfl
    · rw [if_neg c] at hR
      rw [decide_eq_false c] at eM
      exact Or.inl ⟨_, yM, hR, eM, fun a j h1 h2 h3 => by rw [up1_eq, if_neg h2]; exact fX a j h1 h2 h3, frM_t m2 fM⟩
end
