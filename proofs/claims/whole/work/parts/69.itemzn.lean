section
variable {D : Fl} {tx : Nat → Nat} {len p w : Nat} {only : Bool} {zX zM : Sg}
theorem item_n (hl : len ≤ 300) (ht : ∀ j, j < len → tx j < 256) (hD : DR D 5 only zX zM) (bX : BX tx len zX) (bM : BM tx len zM) (hat : zM.1 0 7 = nI p) (hp : p < len) (hw : w < 300) (hL : tx p = 110) : ITEM len p w zX zM := by
  obtain ⟨sZ, hZ⟩ : ∃ sZ, sZ = up1 zM 0 7 (nI (p + 1)) := ⟨_, rfl⟩
  have h09 : sZ.1 0 9 = bz (!only) := by rw [hZ, up1_eq, if_neg (by omega)]; exact hD.2.2.2.2.2.1
  have hM0 : f_X9_readItem zM = if sZ.1 0 9 = 0 then (f_X9_takes 1 sZ).bind fun q14 => if q14.1 = 0 then f_X9_readItem_108 110 q14.2 else (ald q14.2 4 3 0).bind fun x15 => (f_X9_in ((x15 : Int32).toInt64) 1 10).bind fun q16 => if q16 = 0 then f_X9_readItem_108 110 q14.2 else f_X9_readItem_109 110 1 q14.2 else f_X9_readItem_108 110 sZ := by
    unfold f_X9_readItem
    rw [hat, bind_ok (ald_ok (by omega) (by decide)), bM.2 p hp, hL, bind_ok (pfi_eq _ _ _ _), nI_1, if_neg (show ¬ nI 110 = (97 : Int32) by decide), if_pos (show nI 110 = (110 : Int32) from rfl), hZ]
    rfl
  have r108 : ∀ s : Sg, ∃ s', f_X9_readItem_108 110 s = some (0, s') ∧ frM s' s := by
    intro s
    unfold f_X9_readItem_108 f_X9_readItem_109 f_X9_readItem_138
    rw [if_pos rfl, z_lit 605, bind_ok (m_w (by decide)), bind_ok (ast_ok (by decide) (by decide))]
    unfold f_X9_readItem_289 f_X9_readItem_303 f_X9_readItem_308
    by_cases c : (up1 s 1 605 (s.1 1 605)).1 0 9 = 0
    · rw [if_pos c, if_pos rfl]
      exact ⟨_, rfl, frM_t (frM_9 _) (frM_1 (by decide) _)⟩
    · rw [if_neg c]
      exact ⟨_, rfl, frM_t (frM_9 _) (frM_1 (by decide) _)⟩
  have bM1 : BM tx len sZ := by rw [hZ]; exact BM_at bM (p + 1)
  have fZ : frM sZ zM := fun a j h1 _ _ => by rw [hZ, up1_eq, if_neg (by omega)]
  rcases nums_both hl ht (k := 1) (by decide) 1 0 (p + 1) zX sZ 3000 3000 rfl (by decide) (by decide) (by omega) bX bM1 (by rw [hZ, up1_eq, if_pos ⟨rfl, rfl⟩]) with ⟨sX, sM, e1, e2, fx, fm⟩ | ⟨sX, sM, q, n, h1, h2, e1, e2, h3, h4, -, fx, fm⟩
  · rw [hZ] at fm
    obtain ⟨dD, fX, fR⟩ := DR_nums hD fx fm
    have hR := x_round hl bX hp hw (k := 1) (by rw [hL]; rfl) (by decide) (by decide) e1
    rw [if_pos rfl] at hR
    have e2' : f_X9_takes 1 sZ = some (0, sM) := e2
    by_cases c : sZ.1 0 9 = 0
    · obtain ⟨s', k1, k2⟩ := r108 sM
      exact Or.inl ⟨sX, s', hR, by rw [hM0, if_pos c, bind_ok e2', if_pos rfl]; exact k1, fX, frM_t k2 fR⟩
    · obtain ⟨s', k1, k2⟩ := r108 sZ
      exact Or.inl ⟨sX, s', hR, by rw [hM0, if_neg c]; exact k1, fX, frM_t k2 fZ⟩
  · rw [hZ] at fm
    obtain ⟨dD, fX, fR⟩ := DR_nums hD fx fm
    obtain ⟨d1, d2, d3, d4, d5, d6, d7⟩ := dD
    have hn := h4 0 (Nat.le_refl _) (by decide)
    have hR := x_round hl bX hp hw (k := 1) (by rw [hL]; rfl) (by decide) (by decide) e1
    have bsX : BX tx len sX := ⟨by rw [fx 1 1 (by omega)]; exact bX.1, fun j hj => by rw [fx 2 j (by omega)]; exact bX.2 j hj⟩
    have e2' : f_X9_takes 1 sZ = some (1, sM) := e2
    have a1 : f_X8_at 4 3 1 sX = some (sX.1 4 1) := x_at (i := 1) (by decide) (by decide)
    have eT : f_X4_takeItem 5 (nI 110) sX = if sX.1 3 1 = 0 then some (0, sX) else if 1 ≤ n 0 ∧ n 0 ≤ 10 then some (1, up1 (up1 sX 5 6 (nI (n 0))) 5 9 (nI (2 ^ n 0 - 1))) else some (0, sX) := by
      unfold f_X4_takeItem
      rw [show f_X8_at 4 3 0 sX = some (nI (n 0)) by rw [z_0, x_at (by decide) (by decide), hn.1], bind_ok rfl, bind_ok a1, if_pos (show nI 110 = (110 : Int32) from rfl), x_setStones hn.2.2]
      by_cases c1 : sX.1 3 1 = 0
      · rw [if_pos c1, if_pos c1]; rfl
      · rw [if_neg c1, if_neg c1]
        by_cases c2 : 1 ≤ n 0 ∧ n 0 ≤ 10
        · rw [if_pos c2]; rfl
        · rw [if_neg c2]; rfl
    rw [if_neg (nI_neg (by omega)).1, bind_ok (x_byte hl bsX (by omega)), if_pos hp, hL, eT, d5] at hR
    cases only with
    | false =>
      rw [bz_f, if_pos rfl] at hR
      obtain ⟨s', k1, k2⟩ := r108 sZ
      exact Or.inl ⟨sX, s', hR, by rw [hM0, h09, if_neg (by decide)]; exact k1, fX, frM_t k2 fZ⟩
    | true =>
      have d6' : sM.1 0 9 = 0 := d6
      obtain ⟨yM, m1, m2, m3, m4, m5⟩ := m_n d3 hn.2.2 hn.2.1 d6'
      have eM : f_X9_readItem zM = some (bz (decide (1 ≤ n 0) && decide (n 0 ≤ 10)), yM) := by
        rw [hM0, h09, if_pos (by decide), bind_ok e2', if_neg (by decide : ¬ (1 : Int32) = 0)]
        exact m1
      rw [bz_t, if_neg (by decide : ¬ (1 : Int32) = 0)] at hR
      by_cases c : 1 ≤ n 0 ∧ n 0 ≤ 10
      · rw [if_pos c] at hR
        rw [decide_eq_true c.1, decide_eq_true c.2] at eM
        refine Or.inr ⟨_, yM, q, manF D (n 0), true, by omega, h2, hR, eM, by rw [m5]; exact h3, ⟨manF_ok d1 c.1 c.2 (d7 rfl).1 (d7 rfl).2, FXl_man d2 _ _, m3 c, by rw [up1_eq, if_pos ⟨rfl, rfl⟩]; rfl, by rw [up1_eq, if_neg (by omega), up1_eq, if_neg (by omega)]; exact d5, m4, fun _ => d7 rfl⟩, fun a j h1 h2 h3 => by rw [up1_eq, if_neg (by omega), up1_eq, if_neg (by omega)]; exact fX a j h1 h2 h3, frM_t m2 fR⟩
      · rw [if_neg c] at hR
        have e0 : (decide (1 ≤ n 0) && decide (n 0 ≤ 10)) = false := by
          cases q : (decide (1 ≤ n 0) && decide (n 0 ≤ 10))
          · rfl
          · rw [Bool.and_eq_true, decide_eq_true_eq, decide_eq_true_eq] at q; exact absurd q c
        rw [e0] at eM
        exact Or.inl ⟨_, yM, hR, eM, fX, frM_t m2 fR⟩
end
