def frX (s' s : Sg) : Prop := ∀ a j, a ≠ 4 → ¬ (a = 3 ∧ j = 1) → ¬ (5 ≤ a ∧ a ≤ 11) → s'.1 a j = s.1 a j
/-- one item: both refuse it, or both take it -/
def ITEM (len p w : Nat) (zX zM : Sg) : Prop :=
  (∃ sX sM, f_X4_readOnto_14s 5 (nI p) (nI w) zX = some (.inr (nI p, sX)) ∧ f_X9_readItem zM = some (0, sM) ∧ frX sX zX ∧ frM sM zM) ∨
  (∃ sX sM q D' only', p < q ∧ q ≤ len ∧ f_X4_readOnto_14s 5 (nI p) (nI w) zX = some (.inl (nI q, nI (w + 1), sX)) ∧ f_X9_readItem zM = some (1, sM) ∧ sM.1 0 7 = nI q ∧ DR D' 5 only' sX sM ∧ frX sX zX ∧ frM sM zM)
section
variable {D : Fl} {tx : Nat → Nat} {len p w : Nat} {only : Bool} {zX zM : Sg}
/-- the class's round, after the letter -/
theorem x_round (hl : len ≤ 300) (h : BX tx len zX) (hp : p < len) (hw : w < 300) {k : Nat} (hk : f_X4_numbersOf (nI (tx p)) = some (nI k)) (hk1 : 1 ≤ k) (hk3 : k ≤ 3) {e : Int32} {sX : Sg} (he : itr 3000 (fun s => f_X4_itemsEnd_23s (nI k) s.1 s.2.1 s.2.2) (nI (p + 1), nI 0, zX) = some (e, sX)) :
    f_X4_readOnto_14s 5 (nI p) (nI w) zX = if e = -1 then some (.inr (nI p, sX)) else (f_X6_byteAt (nI p) sX).bind fun q6 => (f_X4_takeItem 5 q6 sX).bind fun q7 => if q7.1 = 0 then some (.inr (nI p, q7.2)) else some (.inl (e, nI (w + 1), q7.2)) := by
  unfold f_X4_readOnto_14s f_X4_itemsEnd f_X6_size f_X4_itemsEnd_23
  rw [if_neg (show ¬ (300 : Int32) ≤ nI w from nI_ge (a := w) (b := 300) hw (by decide)), h.1]
  show (if nI len ≤ nI p then _ else _) = _
  rw [if_neg (nI_ge hp (by omega)), bind_ok (x_byte hl h (by omega)), if_pos hp, bind_ok hk, if_neg (z_ne0 (by omega) (by omega)), nm_eq, nI_1]
  have he' : itr 3000 (fun s => f_X4_itemsEnd_23s (nI k) s.1 s.2.1 s.2.2) (nI (p + 1), 0, zX) = some (e, sX) := he
  rw [bind_ok he', ← nI_1 w]
  rfl
end
