section
variable {tx : Nat → Nat} {len : Nat}
theorem frX_t {x y z : Sg} (h : frX x y) (g : frX y z) : frX x z := fun a j h1 h2 h3 => (h a j h1 h2 h3).trans (g a j h1 h2 h3)
theorem BX_fr {x z : Sg} (h : frX x z) (g : BX tx len z) : BX tx len x := ⟨by rw [h 1 1 (by omega) (by omega) (by omega)]; exact g.1, fun j hj => by rw [h 2 j (by omega) (by omega) (by omega)]; exact g.2 j hj⟩
theorem BM_fr {x z : Sg} (h : frM x z) (g : BM tx len z) : BM tx len x := ⟨by rw [h 0 4 (by omega) (by omega) (by omega)]; exact g.1, fun j hj => by rw [h 2 j (by omega) (by omega) (by omega)]; exact g.2 j hj⟩
theorem x_stand {D : Fl} {z : Sg} {only : Bool} {zM : Sg} (hD : DR D 5 only z zM) : f_X4_readOnto_68 5 z = some (-4, up1 z 5 10 (nI (fBg D))) := by
  unfold f_X4_readOnto_68 f_X1_standOnBeginnings f_X1_beginnings
  rw [hD.2.1.2.2.1, hD.2.2.2.1, z_and, Nat.and_comm, and_all hD.1.2.2.2.1]
  rfl
theorem loop_both (hl : len ≤ 300) (ht : ∀ j, j < len → tx j < 256) : ∀ n p w (zX zM : Sg) (D : Fl) (only : Bool) NX NM, len - p ≤ n → n < NX → n < NM → p ≤ len → w ≤ p → DR D 5 only zX zM → BX tx len zX → BM tx len zM → zM.1 0 7 = nI p →
    (∃ e sX sM, e < len ∧ itr NX (fun s => f_X4_readOnto_14s 5 s.1 s.2.1 s.2.2) (nI p, nI w, zX) = some (nI e, sX) ∧ itr NM (fun s => f_X9_fault_17s s) zM = some (nI e, sM) ∧ frX sX zX ∧ frM sM zM) ∨
    (∃ sX sM D' only', DR D' 5 only' sX sM ∧ itr NX (fun s => f_X4_readOnto_14s 5 s.1 s.2.1 s.2.2) (nI p, nI w, zX) = some (-4, up1 sX 5 10 (nI (fBg D'))) ∧ itr NM (fun s => f_X9_fault_17s s) zM = some (-4, sM) ∧ frX sX zX ∧ frM sM zM) := by
  intro n
  induction n with
  | zero =>
    intro p w zX zM D only NX NM hn hX hM hp hw hD bX bM hat
    obtain ⟨NX, rfl⟩ : ∃ M, NX = M + 1 := ⟨NX - 1, by omega⟩
    obtain ⟨NM, rfl⟩ : ∃ M, NM = M + 1 := ⟨NM - 1, by omega⟩
    refine Or.inr ⟨zX, zM, D, only, hD, itr_out ?_, itr_out ?_, fun _ _ _ _ _ => rfl, frM_r zM⟩
    · show f_X4_readOnto_14s 5 (nI p) (nI w) zX = _
      unfold f_X4_readOnto_14s f_X6_size
      rw [x_stand hD, bX.1]
      by_cases c : (300 : Int32) ≤ nI w
      · rw [if_pos c]; rfl
      · rw [if_neg c]
        show (if nI len ≤ nI p then _ else _) = _
        rw [if_pos (nI_le (by omega) (by omega))]; rfl
    · show f_X9_fault_17s zM = _
      unfold f_X9_fault_17s
      rw [bM.1, hat, if_pos (nI_le (by omega) (by omega))]
  | succ n ih =>
    intro p w zX zM D only NX NM hn hX hM hp hw hD bX bM hat
    rcases Nat.lt_or_ge p len with c | c
    case inr => exact ih p w zX zM D only NX NM (by omega) (by omega) (by omega) hp hw hD bX bM hat
    obtain ⟨NX, rfl⟩ : ∃ M, NX = M + 1 := ⟨NX - 1, by omega⟩
    obtain ⟨NM, rfl⟩ : ∃ M, NM = M + 1 := ⟨NM - 1, by omega⟩
    have fM0 : ∀ r : Int32, ∀ s, f_X9_readItem zM = some (r, s) → f_X9_fault_17s zM = if r = 0 then some (.inr (nI p, s)) else some (.inl s) := by
      intro r s h
      unfold f_X9_fault_17s
      rw [bM.1, hat, if_neg (nI_ge c (by omega)), nm_eq, bind_ok h]
    rcases item_both hl ht hD bX bM hat c (show w < 300 by omega) with ⟨sX, sM, e1, e2, e3, e4⟩ | ⟨sX, sM, q, D', only', q1, q2, e1, e2, e3, e4, e5, e6⟩
    · have := fM0 _ _ e2
      rw [if_pos rfl] at this
      exact Or.inl ⟨p, sX, sM, c, itr_out e1, itr_out this, e3, e4⟩
    · have := fM0 _ _ e2
      rw [if_neg (by decide : ¬ (1 : Int32) = 0)] at this
      rw [itr_in e1, itr_in this]
      rcases ih q (w + 1) sX sM D' only' NX NM (by omega) (by omega) (by omega) q2 (by omega) e4 (BX_fr e5 bX) (BM_fr e6 bM) e3 with ⟨e, yX, yM, k1, k2, k3, k4, k5⟩ | ⟨yX, yM, D2, o2, k1, k2, k3, k4, k5⟩
      · exact Or.inl ⟨e, yX, yM, k1, k2, k3, frX_t k4 e5, frM_t k5 e6⟩
      · exact Or.inr ⟨yX, yM, D2, o2, k1, k2, k3, frX_t k4 e5, frM_t k5 e6⟩
end
