section
variable {D : Fl} {b : Nat} {z : Sg}
theorem x_setGain (h : OKL D) (hX : FXl b D z) {n m : Nat} (hn : n < 100) (hm : m < 100) : ∃ z', (f_X1_setGainsay b (nI n) (nI m) z = if n < fN D ∧ m < fN D ∧ n ≠ m then some (1, z') else some (0, z)) ∧ (n < fN D ∧ m < fN D ∧ n ≠ m → FXl b (gaiF D n m) z') ∧ ∀ a j, a ≠ b + 5 → z'.1 a j = z.1 a j := by
  have hN := h.1
  refine ⟨up1 (up1 z (b + 5) n (nI (fG D n ||| 2 ^ m))) (b + 5) m (nI (fG D m ||| 2 ^ n)), ?_, ?_, fun a j q => by rw [up1_eq, if_neg (fun w => q w.1), up1_eq, if_neg (fun w => q w.1)]⟩
  · unfold f_X1_setGainsay f_X1_setGainsay_21
    rw [bind_ok (x_hasStone hX (nI n)), inn_n (by omega) (by omega), bind_ok (x_hasStone hX (nI m)), inn_n (by omega) (by omega)]
    by_cases c1 : n < fN D
    case neg => rw [if_neg c1, if_pos rfl, if_neg (fun q => c1 q.1)]; rfl
    rw [if_pos c1, if_neg (by decide : ¬ (1 : Int32) = 0)]
    by_cases c2 : m < fN D
    case neg => rw [if_neg c2, if_pos rfl, if_neg (fun q => c2 q.2.1)]; rfl
    rw [if_pos c2, if_neg (by decide : ¬ (1 : Int32) = 0)]
    by_cases c3 : n = m
    · rw [if_pos (show nI n = nI m by rw [c3]), if_neg (fun q => q.2.2 c3)]; rfl
    have e1 : (up1 z (b + 5) n (nI (fG D n ||| 2 ^ m))).1 (b + 5) m = nI (fG D m) := by rw [up1_eq, if_neg (by omega)]; exact (hX.2.2.2.2 m (by omega)).1
    rw [if_neg (nI_ne (by omega) (by omega) c3), if_pos ⟨c1, c2, c3⟩, bind_ok (x_at (by omega) (by decide)), (hX.2.2.2.2 n (by omega)).1, z_bit (by omega), z_or, bind_ok (x_put (by omega) (by decide)), bind_ok (x_at (by omega) (by decide)), e1, z_bit (by omega), z_or, bind_ok (x_put (by omega) (by decide))]
    rfl
  · rintro ⟨c1, c2, c3⟩
    have o : ∀ a j, a ≠ b + 5 → (up1 (up1 z (b + 5) n (nI (fG D n ||| 2 ^ m))) (b + 5) m (nI (fG D m ||| 2 ^ n))).1 a j = z.1 a j := fun a j q => by rw [up1_eq, if_neg (fun w => q w.1), up1_eq, if_neg (fun w => q w.1)]
    obtain ⟨g1, g2, g3, g4, g5⟩ := hX
    refine ⟨by rw [o _ _ (by omega)]; exact g1, by rw [o _ _ (by omega)]; exact g2, by rw [o _ _ (by omega)]; exact g3, fun t ht => ?_, fun s hs => ?_⟩
    · rw [o _ _ (by omega), o _ _ (by omega), o _ _ (by omega), o _ _ (by omega)]; exact g4 t ht
    · refine ⟨?_, by rw [o _ _ (by omega)]; exact (g5 s hs).2⟩
      show _ = nI (if s = n then fG D n ||| 2 ^ m else if s = m then fG D m ||| 2 ^ n else fG D s)
      rw [up1_eq]
      by_cases q1 : s = m
      · rw [if_pos ⟨rfl, q1⟩, if_neg (by omega), if_pos q1]
      · rw [if_neg (fun w => q1 w.2), up1_eq]
        by_cases q2 : s = n
        · rw [if_pos ⟨rfl, q2⟩, if_pos q2]
        · rw [if_neg (fun w => q2 w.2), if_neg q2, if_neg q1]; exact (g5 s hs).1
/-- a step may be laid so -/
abbrev stp (D : Fl) (a c e : Nat) : Prop := a < fN D ∧ c < fN D ∧ e < fN D ∧ e ≠ a ∧ e ≠ c
theorem x_couldL (h : OKL D) (hX : FXl b D z) {a c e : Nat} (ha : a < 100) (hc : c < 100) (he : e < 100) : (stp D a c e → f_X1_couldBeStep b (nI a) (nI c) (nI e) z = some 1) ∧ (¬ stp D a c e → f_X1_couldBeStep b (nI a) (nI c) (nI e) z = some 0) := by
  have hN := h.1
  unfold f_X1_couldBeStep f_X1_couldBeStep_38 f_X1_couldBeStep_39
  rw [bind_ok (x_hasStone hX (nI a)), inn_n (by omega) (by omega), bind_ok (x_hasStone hX (nI c)), inn_n (by omega) (by omega), bind_ok (x_hasStone hX (nI e)), inn_n (by omega) (by omega)]
  by_cases c1 : a < fN D
  case neg => exact ⟨fun q => absurd q.1 c1, fun _ => by rw [if_neg c1, if_pos rfl]; rfl⟩
  by_cases c2 : c < fN D
  case neg => exact ⟨fun q => absurd q.2.1 c2, fun _ => by rw [if_pos c1, if_neg (by decide : ¬ (1 : Int32) = 0), if_neg c2, if_pos rfl]; rfl⟩
  by_cases c3 : e < fN D
  case neg => exact ⟨fun q => absurd q.2.2.1 c3, fun _ => by rw [if_pos c1, if_neg (by decide : ¬ (1 : Int32) = 0), if_pos c2, if_neg (by decide : ¬ (1 : Int32) = 0), if_neg c3, if_pos rfl]; rfl⟩
  rw [if_pos c1, if_neg (by decide : ¬ (1 : Int32) = 0), if_pos c2, if_neg (by decide : ¬ (1 : Int32) = 0), if_pos c3, if_neg (by decide : ¬ (1 : Int32) = 0)]
  by_cases c4 : e = a
  · exact ⟨fun q => absurd c4 q.2.2.2.1, fun _ => by rw [if_pos (show nI e = nI a by rw [c4])]; rfl⟩
  rw [if_neg (nI_ne (by omega) (by omega) c4)]
  by_cases c5 : e = c
  · exact ⟨fun q => absurd c5 q.2.2.2.2, fun _ => by rw [if_pos (show nI e = nI c by rw [c5])]; rfl⟩
  rw [if_neg (nI_ne (by omega) (by omega) c5)]
  exact ⟨fun _ => rfl, fun q => absurd ⟨c1, c2, c3, c4, c5⟩ q⟩
theorem x_addStepL (h : OKL D) (hX : FXl b D z) {a c e : Nat} (ha : a < 100) (hc : c < 100) (he : e < 100) : ∃ z', (stp D a c e ∧ fM D < 10 → f_X1_addStep b (nI a) (nI c) (nI e) z = some (1, z')) ∧ (¬ (stp D a c e ∧ fM D < 10) → f_X1_addStep b (nI a) (nI c) (nI e) z = some (0, z)) ∧ (stp D a c e ∧ fM D < 10 → FXl b (layF D a c e) z') ∧ ∀ x j, ¬ (x = b ∧ j = 7) → ¬ (b + 1 ≤ x ∧ x ≤ b + 4) → z'.1 x j = z.1 x j := by
  have hN := h.1
  have hM := h.2.1
  obtain ⟨m, hm⟩ : ∃ m, m = fM D := ⟨_, rfl⟩
  have h7 := hX.2.1
  rw [← hm] at h7
  obtain ⟨k1, k2⟩ := x_couldL h hX ha hc he
  obtain ⟨z', hz⟩ : ∃ z', z' = up1 (up1 (up1 (up1 (up1 z (b + 1) m (nI a)) (b + 2) m (nI c)) (b + 3) m (nI e)) (b + 4) m (nI (2 ^ a ||| 2 ^ c))) b 7 (nI (m + 1)) := ⟨_, rfl⟩
  have o : ∀ x j, ¬ (x = b ∧ j = 7) → ¬ (b + 1 ≤ x ∧ x ≤ b + 4 ∧ j = m) → z'.1 x j = z.1 x j := fun x j p q => by rw [hz, up1_eq, if_neg p, up1_eq, if_neg (by omega), up1_eq, if_neg (by omega), up1_eq, if_neg (by omega), up1_eq, if_neg (by omega)]
  refine ⟨z', ?_, ?_, ?_, fun x j p q => o x j p (by omega)⟩
  · rintro ⟨s, hlt⟩
    have s' := s
    obtain ⟨s1, s2, s3, s4, s5⟩ := s
    have kk : ∀ y : Sg, ∀ x, (b + 1 ≤ x ∧ x ≤ b + 4) → ∀ v, (up1 y x m v).1 b 7 = y.1 b 7 := fun y x hx v => by rw [up1_eq, if_neg (by omega)]
    unfold f_X1_addStep
    rw [bind_ok (k1 s'), if_neg (by decide : ¬ (1 : Int32) = 0), h7, if_pos (show nI m < (10 : Int32) from nI_lt (b := 10) (by omega) (by decide)), bind_ok (x_put (by omega) (by decide)), kk _ _ (by omega), h7, bind_ok (x_put (by omega) (by decide)), kk _ _ (by omega), kk _ _ (by omega), h7, bind_ok (x_put (by omega) (by decide)), kk _ _ (by omega), kk _ _ (by omega), kk _ _ (by omega), h7, z_bit (by omega), z_bit (by omega), z_or, bind_ok (x_put (by omega) (by decide)), kk _ _ (by omega), kk _ _ (by omega), kk _ _ (by omega), kk _ _ (by omega), h7, nI_1, bind_ok (pfi_eq _ _ _ _), hz]
    rfl
  · intro s
    unfold f_X1_addStep f_X1_addStep_19
    by_cases q : stp D a c e
    · rw [bind_ok (k1 q), if_neg (by decide : ¬ (1 : Int32) = 0), h7, if_neg (show ¬ nI m < (10 : Int32) from nI_nlt (a := m) (b := 10) (by have : ¬ fM D < 10 := fun w => s ⟨q, w⟩; omega) (by omega))]
      rfl
    · rw [bind_ok (k2 q), if_pos rfl]
      rfl
  · rintro ⟨s, hlt⟩
    obtain ⟨g1, g2, g3, g4, g5⟩ := hX
    have fM' : fM (layF D a c e) = m + 1 := by rw [hm]; rfl
    refine ⟨by rw [o _ _ (by omega) (by omega)]; exact g1, by rw [fM', hz, up1_eq, if_pos ⟨rfl, rfl⟩], by rw [o _ _ (by omega) (by omega)]; exact g3, fun t ht => ?_, fun i hi => ?_⟩
    · rw [fM'] at ht
      rw [show fA (layF D a c e) t = if t = m then a else fA D t by rw [hm]; rfl, show fB (layF D a c e) t = if t = m then c else fB D t by rw [hm]; rfl, show fC (layF D a c e) t = if t = m then e else fC D t by rw [hm]; rfl]
      by_cases q : t = m
      · rw [if_pos q, if_pos q, if_pos q, q, hz]
        refine ⟨?_, ?_, ?_, ?_⟩
        · rw [up1_eq, if_neg (by omega), up1_eq, if_neg (by omega), up1_eq, if_neg (by omega), up1_eq, if_neg (by omega), up1_eq, if_pos ⟨rfl, rfl⟩]
        · rw [up1_eq, if_neg (by omega), up1_eq, if_neg (by omega), up1_eq, if_neg (by omega), up1_eq, if_pos ⟨rfl, rfl⟩]
        · rw [up1_eq, if_neg (by omega), up1_eq, if_neg (by omega), up1_eq, if_pos ⟨rfl, rfl⟩]
        · rw [up1_eq, if_neg (by omega), up1_eq, if_pos ⟨rfl, rfl⟩]
      · rw [if_neg q, if_neg q, if_neg q, o _ _ (by omega) (by omega), o _ _ (by omega) (by omega), o _ _ (by omega) (by omega), o _ _ (by omega) (by omega)]
        exact g4 t (by omega)
    · rw [o _ _ (by omega) (by omega), o _ _ (by omega) (by omega)]; exact g5 i hi
end
