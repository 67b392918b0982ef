section
variable {D : Fl} {tx : Nat → Nat} {len p w : Nat} {only : Bool} {zX zM : Sg}
theorem item_o (hl : len ≤ 300) (ht : ∀ j, j < len → tx j < 256) (bX : BX tx len zX) (bM : BM tx len zM) (hat : zM.1 0 7 = nI p) (hp : p < len) (hw : w < 300) (h1 : tx p ≠ 97) (h2 : tx p ≠ 110) (h3 : tx p ≠ 116) (h4 : tx p ≠ 119) (h5 : tx p ≠ 120) : ITEM len p w zX zM := by
  have hb := ht p hp
  have n1 : ¬ nI (tx p) = (97 : Int32) := nI_ne (b := 97) (by omega) (by decide) h1
  have n2 : ¬ nI (tx p) = (110 : Int32) := nI_ne (b := 110) (by omega) (by decide) h2
  have n3 : ¬ nI (tx p) = (116 : Int32) := nI_ne (b := 116) (by omega) (by decide) h3
  have n4 : ¬ nI (tx p) = (119 : Int32) := nI_ne (b := 119) (by omega) (by decide) h4
  have n5 : ¬ nI (tx p) = (120 : Int32) := nI_ne (b := 120) (by omega) (by decide) h5
  refine Or.inl ⟨zX, up1 (up1 zM 0 7 (nI (p + 1))) 0 9 1, ?_, ?_, fun _ _ _ _ _ => rfl, fun a j q _ _ => by rw [up1_eq, if_neg (by omega), up1_eq, if_neg (by omega)]⟩
  · have e0 : f_X4_numbersOf (nI (tx p)) = some 0 := by
      unfold f_X4_numbersOf
      rw [if_neg n1, if_neg n2, if_neg n3, if_neg n4, if_neg n5]
    unfold f_X4_readOnto_14s f_X4_itemsEnd f_X6_size
    rw [if_neg (show ¬ (300 : Int32) ≤ nI w from nI_ge (a := w) (b := 300) hw (by decide)), bX.1]
    show (if nI len ≤ nI p then _ else _) = _
    rw [if_neg (nI_ge hp (by omega)), bind_ok (x_byte hl bX (by omega)), if_pos hp, bind_ok e0, if_pos rfl]
    rfl
  · unfold f_X9_readItem
    rw [hat, bind_ok (ald_ok (by omega) (by decide)), bM.2 p hp, bind_ok (pfi_eq _ _ _ _), nI_1, if_neg n1, if_neg n2, if_neg n3, if_neg n4, if_neg n5]
    exact m_289 n2 (Or.inl rfl)
theorem item_both (hl : len ≤ 300) (ht : ∀ j, j < len → tx j < 256) (hD : DR D 5 only zX zM) (bX : BX tx len zX) (bM : BM tx len zM) (hat : zM.1 0 7 = nI p) (hp : p < len) (hw : w < 300) : ITEM len p w zX zM := by
  by_cases h1 : tx p = 97
  · exact item_a hl ht hD bX bM hat hp hw h1
  by_cases h2 : tx p = 110
  · exact item_n hl ht hD bX bM hat hp hw h2
  by_cases h3 : tx p = 116
  · exact item_t hl ht hD bX bM hat hp hw h3
  by_cases h4 : tx p = 119
  · exact item_w hl ht hD bX bM hat hp hw h4
  by_cases h5 : tx p = 120
  · exact item_x hl ht hD bX bM hat hp hw h5
  exact item_o hl ht bX bM hat hp hw h1 h2 h3 h4 h5
end
