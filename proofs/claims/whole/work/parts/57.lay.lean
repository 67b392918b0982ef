section
variable {F F' : Fl} {σX σM zX yX yM : Sg}
theorem nI_ne {a b : Nat} (ha : a < 2 ^ 31) (hb : b < 2 ^ 31) (h : a ≠ b) : ¬ nI a = nI b := fun q => h ((nI_eq ha hb).mp q)
/-- promise 10: lay -/
theorem s_8 : simC8 Sim := fun σX σM ⟨F, h⟩ v1 v2 v3 => by
  have hb := h
  obtain ⟨hF, hX, hM, h4, h5, h6, h7⟩ := h
  have hm := hF.m10
  have hn := hF.1.1
  unfold f_X8_lay f_X9_lay
  rw [bind_ok (x_could hF hX v1 v2 v3), bind_ok (m_isStone hF.1 hM.1 v1), bind_ok (m_isStone hF.1 hM.1 v2), bind_ok (m_isStone hF.1 hM.1 v3)]
  rcases inn_cases v1 (n := fN F) (by omega) with e1 | ⟨a, ha, rfl, e1⟩
  · rw [e1, if_neg (show ¬ ((0 : Int32) = 1 ∧ _) from fun q => absurd q.1 (by decide)), if_pos rfl, if_pos rfl]
    exact ⟨_, _, _, rfl, rfl, F, hb⟩
  rcases inn_cases v2 (n := fN F) (by omega) with e2 | ⟨b, hb2, rfl, e2⟩
  · rw [e1, e2, if_neg (show ¬ ((1 : Int32) = 1 ∧ (0 : Int32) = 1 ∧ _) from fun q => absurd q.2.1 (by decide)), if_pos rfl, if_neg (by decide : ¬ (1 : Int32) = 0), if_pos rfl]
    exact ⟨_, _, _, rfl, rfl, F, hb⟩
  rcases inn_cases v3 (n := fN F) (by omega) with e3 | ⟨c, hc, rfl, e3⟩
  · rw [e1, e2, e3, if_neg (show ¬ ((1 : Int32) = 1 ∧ (1 : Int32) = 1 ∧ (0 : Int32) = 1 ∧ _) from fun q => absurd q.2.2.1 (by decide)), if_pos rfl, if_neg (by decide : ¬ (1 : Int32) = 0), if_neg (by decide : ¬ (1 : Int32) = 0), if_pos rfl]
    exact ⟨_, _, _, rfl, rfl, F, hb⟩
  have ec := x_could hF hX (nI a) (nI b) (nI c)
  rw [e1, e2, e3] at ec ⊢
  by_cases c1 : c = a
  · rw [if_neg (show ¬ ((1 : Int32) = 1 ∧ (1 : Int32) = 1 ∧ (1 : Int32) = 1 ∧ nI c ≠ nI a ∧ nI c ≠ nI b) from fun q => q.2.2.2.1 (by rw [c1])), if_pos rfl, if_neg (by decide : ¬ (1 : Int32) = 0), if_neg (by decide : ¬ (1 : Int32) = 0), if_neg (by decide : ¬ (1 : Int32) = 0), if_pos (show nI a = nI c by rw [c1])]
    exact ⟨_, _, _, rfl, rfl, F, hb⟩
  by_cases c2 : c = b
  · rw [if_neg (show ¬ ((1 : Int32) = 1 ∧ (1 : Int32) = 1 ∧ (1 : Int32) = 1 ∧ nI c ≠ nI a ∧ nI c ≠ nI b) from fun q => q.2.2.2.2 (by rw [c2])), if_pos rfl, if_neg (by decide : ¬ (1 : Int32) = 0), if_neg (by decide : ¬ (1 : Int32) = 0), if_neg (by decide : ¬ (1 : Int32) = 0), if_neg (nI_ne (a := a) (b := c) (by omega) (by omega) (by omega)), if_pos (show nI b = nI c by rw [c2])]
    exact ⟨_, _, _, rfl, rfl, F, hb⟩
  have hall5 : (1 : Int32) = 1 ∧ (1 : Int32) = 1 ∧ (1 : Int32) = 1 ∧ nI c ≠ nI a ∧ nI c ≠ nI b := ⟨rfl, rfl, rfl, nI_ne (by omega) (by omega) c1, nI_ne (by omega) (by omega) c2⟩
  rw [if_pos hall5] at ec
  rw [if_pos hall5, if_neg (by decide : ¬ (1 : Int32) = 0), if_neg (by decide : ¬ (1 : Int32) = 0), if_neg (by decide : ¬ (1 : Int32) = 0), if_neg (by decide : ¬ (1 : Int32) = 0), if_neg (nI_ne (a := a) (b := c) (by omega) (by omega) (by omega)), if_neg (nI_ne (a := b) (b := c) (by omega) (by omega) (by omega)), bind_ok (x_steps hX), bind_ok (m_w4 hM)]
  rcases Nat.lt_or_ge (fM F) 10 with cm | cm
  case inr =>
    have e10 : fM F = 10 := by omega
    rw [e10, if_neg (show ¬ nI 10 < (10 : Int32) by decide), if_pos (show nI 10 = (10 : Int32) from rfl)]
    exact ⟨_, _, _, rfl, rfl, F, hb⟩
  have elt : nI (fM F) < (10 : Int32) := nI_lt (b := 10) cm (by decide)
  rw [if_pos elt, if_neg (show ¬ nI (fM F) = (10 : Int32) from nI_ne (b := 10) (by omega) (by decide) (by omega))]
  obtain ⟨m, hmm⟩ : ∃ m, m = fM F := ⟨_, rfl⟩
  have hx7 := hX.1.2.1
  rw [← hmm] at hx7 elt
  have hoF' : OKF (layF F a b c) := layF_ok hF cm ha hb2 hc c1 c2
  obtain ⟨zX, hz⟩ : ∃ z, z = up1 (up1 (up1 (up1 (up1 σX 13 m (nI a)) 14 m (nI b)) 15 m (nI c)) 16 m (nI (2 ^ a ||| 2 ^ b))) 12 7 (nI (m + 1)) := ⟨_, rfl⟩
  have oz : ∀ x j, ¬ (x = 12 ∧ j = 7) → ¬ (13 ≤ x ∧ x ≤ 16 ∧ j = m) → zX.1 x j = σX.1 x j := fun x j p q => by rw [hz, up1_eq, if_neg p, up1_eq, if_neg (by omega), up1_eq, if_neg (by omega), up1_eq, if_neg (by omega), up1_eq, if_neg (by omega)]
  have z7 : zX.1 12 7 = nI (m + 1) := by rw [hz, up1_eq, if_pos ⟨rfl, rfl⟩]
  have z13 : zX.1 13 m = nI a := by rw [hz, up1_eq, if_neg (by omega), up1_eq, if_neg (by omega), up1_eq, if_neg (by omega), up1_eq, if_neg (by omega), up1_eq, if_pos ⟨rfl, rfl⟩]
  have z14 : zX.1 14 m = nI b := by rw [hz, up1_eq, if_neg (by omega), up1_eq, if_neg (by omega), up1_eq, if_neg (by omega), up1_eq, if_pos ⟨rfl, rfl⟩]
  have z15 : zX.1 15 m = nI c := by rw [hz, up1_eq, if_neg (by omega), up1_eq, if_neg (by omega), up1_eq, if_pos ⟨rfl, rfl⟩]
  have z16 : zX.1 16 m = nI (2 ^ a ||| 2 ^ b) := by rw [hz, up1_eq, if_neg (by omega), up1_eq, if_pos ⟨rfl, rfl⟩]
  have ea : f_X1_addStep 12 (nI a) (nI b) (nI c) σX = some (1, zX) := by
    have k1 : ∀ y : Sg, ∀ x, (x = 13 ∨ x = 14 ∨ x = 15 ∨ x = 16) → ∀ v, (up1 y x m v).1 12 7 = y.1 12 7 := fun y x hx v => by rw [up1_eq, if_neg (by omega)]
    unfold f_X1_addStep
    rw [bind_ok ec, if_neg (by decide : ¬ (1 : Int32) = 0), hx7, if_pos elt, bind_ok (x_put (by omega) (by decide)), k1 _ _ (by omega), hx7, bind_ok (x_put (by omega) (by decide)), k1 _ _ (by omega), k1 _ _ (by omega), hx7, bind_ok (x_put (by omega) (by decide)), k1 _ _ (by omega), k1 _ _ (by omega), k1 _ _ (by omega), hx7, z_bit (by omega), z_bit (by omega), z_or, bind_ok (x_put (by omega) (by decide)), k1 _ _ (by omega), k1 _ _ (by omega), k1 _ _ (by omega), k1 _ _ (by omega), hx7, nI_1, bind_ok (pfi_eq _ _ _ _), hz]
    rfl
  have fA' : ∀ t, fA (layF F a b c) t = if t = m then a else fA F t := fun t => by rw [hmm]; rfl
  have fB' : ∀ t, fB (layF F a b c) t = if t = m then b else fB F t := fun t => by rw [hmm]; rfl
  have fC' : ∀ t, fC (layF F a b c) t = if t = m then c else fC F t := fun t => by rw [hmm]; rfl
  have fM' : fM (layF F a b c) = m + 1 := by rw [hmm]; rfl
  have hXz : FX 12 (layF F a b c) zX := by
    refine ⟨⟨by rw [oz _ _ (by omega) (by omega)]; exact hX.1.1, by rw [z7, fM'], by rw [oz _ _ (by omega) (by omega)]; exact hX.1.2.2.1, fun u hu => ?_, fun s hs => ?_⟩, by rw [oz _ _ (by omega) (by omega)]; exact hX.2.1, by rw [oz _ _ (by omega) (by omega)]; exact hX.2.2⟩
    · rw [fM'] at hu
      rw [fA', fB', fC']
      by_cases e : u = m
      · rw [if_pos e, if_pos e, if_pos e, e]; exact ⟨z13, z14, z15, z16⟩
      · rw [if_neg e, if_neg e, if_neg e, oz _ _ (by omega) (by omega), oz _ _ (by omega) (by omega), oz _ _ (by omega) (by omega), oz _ _ (by omega) (by omega)]
        exact hX.1.2.2.2.1 u (by omega)
    · rw [oz _ _ (by omega) (by omega), oz _ _ (by omega) (by omega)]; exact hX.1.2.2.2.2 s hs
  have hp : PO 3 0 F (layF F a b c) := Or.inr (Or.inr ⟨rfl, a, b, c, cm, rfl⟩)
  obtain ⟨un, u1, u2, u3, u4⟩ := UNDO_go (zX := zX) hF hM h7 (oz _ _ (by omega) (by omega)) (fun j => oz _ _ (by omega) (by omega)) (fun j => oz _ _ (by omega) (by omega)) hp
  obtain ⟨yX, n1, n2⟩ := x_note u1 u2 3 0
  obtain ⟨yM, p1, p2⟩ := m_minds u1 u3
  have hU := u4 yX yM n2 p2
  have ny := n2.2.2.2.2
  have py := p2.2.2.2
  have hXy : FX 12 (layF F a b c) yX := FX_pt (fun a j p q => ny a j (by omega) (by omega) (by omega)) hXz
  have hMy : FM 0 F yM := FM_keep (fun j p q => py 1 j (by omega) (by omega)) hm hM
  obtain ⟨wM, hw⟩ : ∃ w, w = up1 (up1 (up1 (up1 yM 1 (5 + m) (nI a)) 1 (15 + m) (nI b)) 1 (25 + m) (nI c)) 1 4 (nI (m + 1)) := ⟨_, rfl⟩
  have ow : ∀ x j, ¬ (x = 1 ∧ (j = 4 ∨ j = 5 + m ∨ j = 15 + m ∨ j = 25 + m)) → wM.1 x j = yM.1 x j := fun x j p => by rw [hw, up1_eq, if_neg (by omega), up1_eq, if_neg (by omega), up1_eq, if_neg (by omega), up1_eq, if_neg (by omega)]
  have w4 : wM.1 1 4 = nI (m + 1) := by rw [hw, up1_eq, if_pos ⟨rfl, rfl⟩]
  have w5 : wM.1 1 (5 + m) = nI a := by rw [hw, up1_eq, if_neg (by omega), up1_eq, if_neg (by omega), up1_eq, if_neg (by omega), up1_eq, if_pos ⟨rfl, rfl⟩]
  have w15 : wM.1 1 (15 + m) = nI b := by rw [hw, up1_eq, if_neg (by omega), up1_eq, if_neg (by omega), up1_eq, if_pos ⟨rfl, rfl⟩]
  have w25 : wM.1 1 (25 + m) = nI c := by rw [hw, up1_eq, if_neg (by omega), up1_eq, if_pos ⟨rfl, rfl⟩]
  have hMw : FM 0 (layF F a b c) wM := by
    refine ⟨⟨by rw [ow _ _ (by omega)]; exact hMy.1.1, by rw [fM']; exact w4, by rw [ow _ _ (by omega)]; exact hMy.1.2.2.1, fun u hu => ?_, fun s hs => ?_⟩, by rw [ow _ _ (by omega)]; exact hMy.2.1, by rw [ow _ _ (by omega)]; exact hMy.2.2⟩
    · rw [fM'] at hu
      rw [fA', fB', fC']
      by_cases e : u = m
      · rw [if_pos e, if_pos e, if_pos e, e, Nat.zero_add, Nat.zero_add, Nat.zero_add]; exact ⟨w5, w15, w25⟩
      · rw [if_neg e, if_neg e, if_neg e, ow _ _ (by omega), ow _ _ (by omega), ow _ _ (by omega)]
        exact hMy.1.2.2.2.1 u (by omega)
    · rw [ow _ _ (by omega), ow _ _ (by omega)]; exact hMy.1.2.2.2.2 s hs
  have oX : ∀ x j, ¬ (12 ≤ x ∧ x ≤ 16) → ¬ (x = 33 ∧ j = 2) → x ≠ 34 → x ≠ 35 → yX.1 x j = σX.1 x j := fun x j q1 q3 q4 q5 => by rw [ny x j q3 q4 q5, oz x j (by omega) (by omega)]
  have oM : ∀ x j, ¬ (x = 0 ∧ j = 2) → ¬ (x = 1 ∧ 165 ≤ j ∧ j < 605) → ¬ (x = 1 ∧ j < 55) → wM.1 x j = σM.1 x j := fun x j q1 q2 q3 => by rw [ow x j (by omega), py x j q1 q2]
  obtain ⟨tn, t1, t2, t3, t4⟩ := h5
  have hT : TOLD (layF F a b c) yX wM := ⟨tn, t1, by rw [oX 0 10 (by omega) (by omega) (by omega) (by omega)]; exact t2, by rw [oM 0 6 (by omega) (by omega) (by omega)]; exact t3, fun j hj => by
    obtain ⟨t, k1, k2, k3⟩ := t4 j hj
    exact ⟨t, by rw [fM']; omega, by rw [oX 41 j (by omega) (by omega) (by omega) (by omega)]; exact k2, by rw [oM 3 j (by omega) (by omega) (by omega)]; exact k3⟩⟩
  refine ⟨nI m, yX, wM, ?_, ?_, layF F a b c, hoF', hXy, hMw, TEXT_k (oX 1 1 (by omega) (by omega) (by omega) (by omega)) (fun j => oX 2 j (by omega) (by omega) (by omega) (by omega)) (oM 0 4 (by omega) (by omega) (by omega)) (fun j => oM 2 j (by omega) (by omega) (by omega)) h4, hT, KEPT_k (oX 0 11 (by omega) (by omega) (by omega) (by omega)) (fun a j p q => oX a j (by omega) (by omega) (by omega) (by omega)) (oM 0 1 (by omega) (by omega) (by omega)) (fun j p q => oM 1 j (by omega) (by omega) (by omega)) h6, UNDO_k rfl (fun _ => rfl) (fun _ => rfl) (ow 0 2 (by omega)) (fun j p q => ow 1 j (by omega)) hU⟩
  · have nb : f_X2_noteLaid zX = some yX := by
      unfold f_X2_noteLaid
      rw [bind_ok n1]
    rw [bind_ok ea, bind_ok nb, bind_ok (x_steps hXy), fM', show nI (m + 1) - 1 = nI m from pk_sub (b := 1) (by omega)]
  · have k1 : ∀ y : Sg, ∀ x v, (x = 5 + m ∨ x = 15 + m ∨ x = 25 + m) → (up1 y 1 x v).1 1 4 = y.1 1 4 := fun y x v hx => by rw [up1_eq, if_neg (by omega)]
    have hy4 : yM.1 1 4 = nI m := by rw [hmm]; exact hMy.1.2.1
    have el : f_X9_layStep 0 (nI a) (nI b) (nI c) yM = some wM := by
      unfold f_X9_layStep
      rw [show (0 : Int32) + 4 = nI 4 by decide, show (0 : Int32) + 5 = nI 5 by decide, show (0 : Int32) + 15 = nI 15 by decide, show (0 : Int32) + 25 = nI 25 by decide, bind_ok (ald_ok (by decide) (by decide)), hy4, nI_add, nI_add, nI_add, bind_ok (ast_ok (by omega) (by decide)), bind_ok (ast_ok (by omega) (by decide)), bind_ok (ast_ok (by omega) (by decide)), bind_ok (ald_ok (by decide) (by decide)), k1 _ _ _ (by omega), k1 _ _ _ (by omega), k1 _ _ _ (by omega), hy4, nI_1, bind_ok (ast_ok (by decide) (by decide)), hw]
    rw [bind_ok p1, bind_ok el, bind_ok (m_w4 hMw), fM', show nI (m + 1) - 1 = nI m from pk_sub (b := 1) (by omega)]
end
