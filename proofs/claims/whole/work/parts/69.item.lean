def frX (s' s : Sg) : Prop := ∀ a j, a ≠ 4 → ¬ (a = 3 ∧ j = 1) → ¬ (5 ≤ a ∧ a ≤ 11) → s'.1 a j = s.1 a j
/-- one item: both refuse it, or both take it -/
def ITEM (len p w : Nat) (zX zM : Sg) : Prop :=
  (∃ sX sM, f_X4_readOnto_14s 5 (nI p) (nI w) zX = some (.inr (nI p, sX)) ∧ f_X9_readItem zM = some (0, sM) ∧ frX sX zX ∧ frM sM zM) ∨
  (∃ sX sM q D' only', p < q ∧ q ≤ len ∧ f_X4_readOnto_14s 5 (nI p) (nI w) zX = some (.inl (nI q, nI (w + 1), sX)) ∧ f_X9_readItem zM = some (1, sM) ∧ sM.1 0 7 = nI q ∧ DR D' 5 only' sX sM ∧ frX sX zX ∧ frM sM zM)
section
variable {D : Fl} {tx : Nat → Nat} {len p w : Nat} {only : Bool} {zX zM : Sg}
/-- the class's round, after the letter -/
theorem x_round (hl : len ≤ 300) (h : BX tx len zX) (hp : p < len) (hw : w < 300) {k : Nat} (hk : f_X4_numbersOf (nI (tx p)) = some (nI k)) (hk1 : 1 ≤ k) (hk3 : k ≤ 3) {e : Int32} {sX : Sg} (he : itr 3000 (fun s => f_X4_itemsEnd_23s (nI k) s.1 s.2.1 s.2.2) (nI (p + 1), nI 0, zX) = some (e, sX)) :
    f_X4_readOnto_14s 5 (nI p) (nI w) zX = if e = -1 then some (.inr (nI p, sX)) else (f_X6_byteAt (nI p) sX).bind fun q6 => (f_X4_takeItem 5 q6 sX).bind fun q7 => if q7.1 = 0 then some (.inr (nI p, q7.2)) else some (.inl (e, nI (w + 1), q7.2)) := by
  unfold f_X4_readOnto_14s f_X4_itemsEnd f_X6_size f_X4_itemsEnd_23
  rw [if_neg (show ¬ (300 : Int32) ≤ nI w from nI_ge (a := w) (b := 300) hw (by decide)), h.1]
  show (if nI len ≤ nI p then _ else _) = _
  rw [if_neg (nI_ge hp (by omega)), bind_ok (x_byte hl h (by omega)), if_pos hp, bind_ok hk, if_neg (z_ne0 (by omega) (by omega)), nm_eq, nI_1]
  have he' : itr 3000 (fun s => f_X4_itemsEnd_23s (nI k) s.1 s.2.1 s.2.2) (nI (p + 1), 0, zX) = some (e, sX) := he
  rw [bind_ok he', ← nI_1 w]
  rfl
theorem frX_FXl (h : frX zX zM) (q : ∀ a j, 5 ≤ a → a ≤ 11 → zX.1 a j = zM.1 a j) (g : FXl 5 D zM) : FXl 5 D zX := FXl_pt (fun a j h1 h2 => q a j h1 (by omega)) g
/-- what the numbers leave, for the draft -/
theorem DR_nums {sX sM : Sg} {q : Nat} (hD : DR D 5 only zX zM) (fx : ∀ a j, a ≠ 4 → sX.1 a j = zX.1 a j) (fm : ∀ a j, a ≠ 4 → ¬ (a = 0 ∧ j = 7) → sM.1 a j = (up1 zM 0 7 (nI q)).1 a j) : DR D 5 only sX sM ∧ frX sX zX ∧ frM sM zM := by
  obtain ⟨d1, d2, d3, d4, d5, d6, d7⟩ := hD
  have fm2 : ∀ a j, a ≠ 4 → ¬ (a = 0 ∧ j = 7) → sM.1 a j = zM.1 a j := fun a j h1 h2 => by rw [fm a j h1 h2, up1_eq, if_neg h2]
  refine ⟨⟨d1, FXl_pt (fun a j h1 h2 => fx a j (by omega)) d2, FMl_pt d1.2.1 (fun j h1 h2 => fm2 1 j (by omega) (by omega)) d3, by rw [fx 5 9 (by omega)]; exact d4, by rw [fx 3 1 (by omega)]; exact d5, by rw [fm2 0 9 (by omega) (by omega)]; exact d6, d7⟩, fun a j h1 _ _ => fx a j h1, fun a j h1 _ h3 => fm2 a j h3 (by omega)⟩
theorem item_a (hl : len ≤ 300) (ht : ∀ j, j < len → tx j < 256) (hD : DR D 5 only zX zM) (bX : BX tx len zX) (bM : BM tx len zM) (hat : zM.1 0 7 = nI p) (hp : p < len) (hw : w < 300) (hL : tx p = 97) : ITEM len p w zX zM := by
  have hM0 : f_X9_readItem zM = (f_X9_takes 1 (up1 zM 0 7 (nI (p + 1)))).bind fun q3 => if q3.1 = 0 then f_X9_readItem_167 97 q3.2 else (ald q3.2 4 3 0).bind fun x9 => (f_X9_isRead x9 q3.2).bind fun q10 => if q10 = 0 then f_X9_readItem_167 97 q3.2 else f_X9_readItem_168 97 1 q3.2 := by
    unfold f_X9_readItem
    rw [hat, bind_ok (ald_ok (by omega) (by decide)), bM.2 p hp, hL, bind_ok (pfi_eq _ _ _ _), nI_1, if_pos (show nI 97 = (97 : Int32) from rfl)]
    rfl
  have bM1 : BM tx len (up1 zM 0 7 (nI (p + 1))) := BM_at bM (p + 1)
  rcases nums_both hl ht (k := 1) (by decide) 1 0 (p + 1) zX (up1 zM 0 7 (nI (p + 1))) 3000 3000 rfl (by decide) (by decide) (by omega) bX bM1 (by rw [up1_eq, if_pos ⟨rfl, rfl⟩]) with ⟨sX, sM, e1, e2, fx, fm⟩ | ⟨sX, sM, q, n, h1, h2, e1, e2, h3, h4, -, fx, fm⟩
  · obtain ⟨dD, fX, fM⟩ := DR_nums hD fx fm
    have hR := x_round hl bX hp hw (k := 1) (by rw [hL]; rfl) (by decide) (by decide) e1
    rw [if_pos rfl] at hR
    have e2' : f_X9_takes 1 (up1 zM 0 7 (nI (p + 1))) = some (0, sM) := e2
    have a6 : ald sM 1 660 606 = some (nI (fBg D)) := by rw [z_lit 606, m_w (by decide)]; exact congrArg some dD.2.2.1.2.2.1
    refine Or.inl ⟨sX, up1 (up1 sM 1 606 (nI (fBg D))) 0 9 1, hR, ?_, fX, frM_t (frM_t (frM_9 _) (frM_1 (by decide) _)) fM⟩
    rw [hM0, bind_ok e2', if_pos rfl]
    unfold f_X9_readItem_167 f_X9_readItem_168 f_X9_readItem_194
    rw [bind_ok a6, if_pos rfl, z_or0, z_lit 606, bind_ok (ast_ok (by decide) (by decide)), m_289 (by decide) (Or.inl rfl)]
  · obtain ⟨dD, fX, fM⟩ := DR_nums hD fx fm
    obtain ⟨d1, d2, d3, d4, d5, d6, d7⟩ := dD
    have hn := h4 0 (Nat.le_refl _) (by decide)
    have hR := x_round hl bX hp hw (k := 1) (by rw [hL]; rfl) (by decide) (by decide) e1
    have bsX : BX tx len sX := ⟨by rw [fx 1 1 (by omega)]; exact bX.1, fun j hj => by rw [fx 2 j (by omega)]; exact bX.2 j hj⟩
    have e2' : f_X9_takes 1 (up1 zM 0 7 (nI (p + 1))) = some (1, sM) := e2
    obtain ⟨yM, m1, m2, m3, m4, m5⟩ := m_a d1 d3 hn.2.2 hn.2.1
    have eM : f_X9_readItem zM = some (bz (decide (n 0 < fN D)), yM) := by
      rw [hM0, bind_ok e2', if_neg (by decide : ¬ (1 : Int32) = 0)]
      exact m1
    have a1 : f_X8_at 4 3 1 sX = some (sX.1 4 1) := x_at (i := 1) (by decide) (by decide)
    have eT : f_X4_takeItem 5 (nI 97) sX = if n 0 < fN D then some (1, up1 (up1 sX 3 1 0) 5 8 (nI (fBg D ||| 2 ^ n 0))) else some (0, up1 sX 3 1 0) := by
      unfold f_X4_takeItem
      rw [show f_X8_at 4 3 0 sX = some (nI (n 0)) by rw [z_0, x_at (by decide) (by decide), hn.1], bind_ok rfl, bind_ok a1, if_neg (show ¬ nI 97 = (110 : Int32) by decide)]
      show ((f_X1_beginOn 5 (nI (n 0)) (up1 sX 3 1 0)).bind _) = _
      rw [x_begOn d1 (FXl_pt (fun a j h1 h2 => by rw [up1_eq, if_neg (by omega)]) d2) hn.2.2]
      by_cases c : n 0 < fN D
      · rw [if_pos c]; rfl
      · rw [if_neg c]; rfl
    rw [if_neg (nI_neg (by omega)).1, bind_ok (x_byte hl bsX (by omega)), if_pos hp, hL, eT] at hR
    by_cases c : n 0 < fN D
    · rw [if_pos c] at hR
      rw [decide_eq_true c] at eM
      refine Or.inr ⟨_, yM, q, begF D (n 0), false, by omega, h2, hR, eM, by rw [m5]; exact h3, ⟨begF_ok d1 c, FXl_beg (FXl_pt (fun a j h1 h2 => by rw [up1_eq, if_neg (by omega)]) d2) _, m3 c, ?_, ?_, m4, fun q => by cases q⟩, fun a j h1 h2 h3 => by rw [up1_eq, if_neg (by omega), up1_eq, if_neg h2]; exact fX a j h1 h2 h3, frM_t m2 fM⟩
      · rw [up1_eq, if_neg (by omega), up1_eq, if_neg (by omega)]; exact d4
      · rw [up1_eq, if_neg (by omega), up1_eq, if_pos ⟨rfl, rfl⟩]; rfl
    · rw [if_neg c] at hR
      rw [decide_eq_false c] at eM
      exact Or.inl ⟨_, yM, hR, eM, fun a j h1 h2 h3 => by rw [up1_eq, if_neg h2]; exact fX a j h1 h2 h3, frM_t m2 fM⟩
end
