section
variable {F : Fl} {σX σM : Sg}
theorem OKL.n10 (hF : OKL F) : fN F ≤ 10 := hF.1.2
theorem le_lit {k n : Nat} (hk : k ≤ n) (hn : n < 2 ^ 31) : nI k ≤ nI n := nI_le hk hn
/-- promise 7: stone -/
theorem q_stone (hF : OKF F) (hX : FX 12 F σX) (hM : FM 0 F σM) (v w : Int32) : ∃ r, f_X8_stone v w σX = some r ∧ f_X9_stone v w σM = some r := by
  have hn := hF.1.1
  unfold f_X8_stone f_X9_stone
  rw [bind_ok (x_isStone hX v), bind_ok (m_isStone hF.1 hM.1 v)]
  rcases inn_cases v (n := fN F) (by omega) with e | ⟨j, h1, rfl, e⟩
  · rw [e]; exact ⟨_, rfl, rfl⟩
  rw [e, if_neg (by decide : ¬ (1 : Int32) = 0), if_neg (by decide : ¬ (1 : Int32) = 0), bind_ok (z_inK w 4 4 (by decide) (by decide))]
  have hj : j < 10 := by omega
  have hq := hX.1.2.2.2.2 j hj
  have hr := hM.1.2.2.2.2 j hj
  simp only [Nat.zero_add] at hr
  rcases inn_cases w (n := 4 + 1) (by decide) with e | ⟨k, hk, rfl, e⟩
  · rw [e, if_pos rfl]
    refine ⟨-1, ?_, rfl⟩
    rcases inn_out e with c | c
    · rw [if_pos c]; rfl
    · by_cases c1 : w < 0
      · rw [if_pos c1]; rfl
      · rw [if_neg c1, if_neg]
        · rfl
        · intro q
          have := (gt_of (v := w) (n := 4) (by decide)).mp c
          rw [fa_lt] at this
          rw [Int32.le_iff_toInt_le] at q
          have e1 : (nI 4).toInt = (4 : Int32).toInt := rfl
          omega
  rw [e, if_neg (by decide : ¬ (1 : Int32) = 0), if_neg (nI_pos (by omega)), if_pos (show nI k ≤ (4 : Int32) from nI_le (a := k) (b := 4) (by omega) (by decide))]
  rcases (show k = 0 ∨ k = 1 ∨ k = 2 ∨ k = 3 ∨ k = 4 by omega) with rfl | rfl | rfl | rfl | rfl
  · rw [if_pos (show nI 0 = 0 from rfl), if_pos (show nI 0 = 0 from rfl), bind_ok (x_there hX), bind_ok (x_bitOf (lt31 hF.th) (by omega)), bind_ok (m_w2 hM), z_has (lt31 hF.th) (by omega)]
    exact ⟨_, rfl, rfl⟩
  · rw [if_neg (show ¬ nI 1 = 0 by decide), if_neg (show ¬ nI 1 = 0 by decide), if_pos (show nI 1 = 1 from rfl), if_pos (show nI 1 = 1 from rfl), bind_ok (x_stood hX), bind_ok (x_bitOf (lt31 hF.st) (by omega)), bind_ok (m_w3 hM), z_has (lt31 hF.st) (by omega)]
    exact ⟨_, rfl, rfl⟩
  · rw [if_neg (show ¬ nI 2 = 0 by decide), if_neg (show ¬ nI 2 = 0 by decide), if_neg (show ¬ nI 2 = 1 by decide), if_neg (show ¬ nI 2 = 1 by decide), if_pos (show nI 2 = 2 from rfl), if_pos (show nI 2 = 2 from rfl)]
    unfold f_X1_begins
    rw [hX.1.2.2.1]
    refine ⟨zb (fBg F) j, ?_, ?_⟩
    · show ((f_X8_bitOf (nI (fBg F)) (nI j)).bind fun q7 => some q7) = _
      rw [bind_ok (x_bitOf (lt31 hF.bg) (by omega))]
    · rw [bind_ok (m_w1 hM), z_has (lt31 hF.bg) (by omega)]; rfl
  · rw [if_neg (show ¬ nI 3 = 0 by decide), if_neg (show ¬ nI 3 = 0 by decide), if_neg (show ¬ nI 3 = 1 by decide), if_neg (show ¬ nI 3 = 1 by decide), if_neg (show ¬ nI 3 = 2 by decide), if_neg (show ¬ nI 3 = 2 by decide), if_pos (show nI 3 = 3 from rfl), if_pos (show nI 3 = 3 from rfl)]
    unfold f_X1_wearOf
    rw [bind_ok (x_at (by omega) (by decide)), z_lit 35, bind_ok (m_wk 35 (by omega)), hq.2, hr.2]
    exact ⟨_, rfl, rfl⟩
  · rw [if_neg (show ¬ nI 4 = 0 by decide), if_neg (show ¬ nI 4 = 0 by decide), if_neg (show ¬ nI 4 = 1 by decide), if_neg (show ¬ nI 4 = 1 by decide), if_neg (show ¬ nI 4 = 2 by decide), if_neg (show ¬ nI 4 = 2 by decide), if_neg (show ¬ nI 4 = 3 by decide), if_neg (show ¬ nI 4 = 3 by decide)]
    unfold f_X1_gainsayersOf
    rw [bind_ok (x_at (by omega) (by decide)), z_lit 45, bind_ok (m_wk 45 (by omega)), hq.1, hr.1]
    exact ⟨_, rfl, rfl⟩
theorem m_A (hF : OKF F) (h : FM 0 F σM) {t : Nat} (ht : t < fM F) : ald σM 1 660 (5 + nI t) = some (nI (fA F t)) := by
  have hm := hF.m10
  have hq := (h.1.2.2.2.1 t ht).1
  simp only [Nat.zero_add] at hq
  rw [z_lit 5, m_wk 5 (by omega), hq]
theorem m_B (hF : OKF F) (h : FM 0 F σM) {t : Nat} (ht : t < fM F) : ald σM 1 660 (15 + nI t) = some (nI (fB F t)) := by
  have hm := hF.m10
  have hq := (h.1.2.2.2.1 t ht).2.1
  simp only [Nat.zero_add] at hq
  rw [z_lit 15, m_wk 15 (by omega), hq]
/-- a step may be gone, where one stands -/
theorem m_may (hF : OKF F) (h : FM 0 F σM) {t : Nat} (ht : t < fM F) : f_X9_may (nI t) σM = some (if aft F (fTh F) t (fSt F) = fSt F then 0 else 1) := by
  obtain ⟨ca, cb, cc⟩ := hF.1.c10 ht
  have hn := aft_ne (F := F) (fTh F) t (fSt F)
  have hs := hF.sub
  have res0 : ¬ ((fSt F).testBit (fA F t) = true ∧ (fSt F).testBit (fB F t) = true ∧ (fTh F).testBit (fC F t) = true ∧ (fSt F).testBit (fC F t) = false) → (if aft F (fTh F) t (fSt F) = fSt F then (0 : Int32) else 1) = 0 := fun q => if_pos (Classical.byContradiction (fun z => q (hn.mp z)))
  unfold f_X9_may
  rw [bind_ok (m_A hF h ht), bind_ok (m_B hF h ht), bind_ok (m_C hF h ht), nm_eq, bind_ok (m_w2 h), z_bit (by omega), z_bit (by omega), z_bit (by omega), z_or, z_or, z_dif]
  have h3 : (2 ^ fA F t ||| 2 ^ fB F t) ||| 2 ^ fC F t < 1024 := or10 (or10 (pow10 ca) (pow10 cb)) (pow10 cc)
  by_cases c0 : dif ((2 ^ fA F t ||| 2 ^ fB F t) ||| 2 ^ fC F t) (fTh F) = 0
  case neg =>
    rw [if_neg (z_ne0 (lt31 (dif_lt h3)) c0), res0]
    · rfl
    · rintro ⟨q1, q2, q3, -⟩
      refine c0 ((dif_0 h3).mpr (fun k hk => ?_))
      rw [tb_or2] at hk
      simp only [Bool.or_eq_true, decide_eq_true_eq] at hk
      rcases hk with hk | rfl
      · exact sub_p2.mpr ⟨hs _ q1, hs _ q2⟩ k hk
      · exact q3
  have hc : (fTh F).testBit (fC F t) = true := (dif_0 h3).mp c0 _ (by rw [tb_or2]; simp)
  rw [c0, if_pos z_e0, bind_ok (m_w3 h), bind_ok (m_A hF h ht), bind_ok (m_has (lt31 hF.st) (by omega))]
  cases c1 : (fSt F).testBit (fA F t)
  · rw [zb_0.mpr c1, if_pos rfl, res0 (by simp [c1])]; rfl
  rw [zb_1.mpr c1, if_neg (by decide : ¬ (1 : Int32) = 0), bind_ok (m_w3 h), bind_ok (m_B hF h ht), bind_ok (m_has (lt31 hF.st) (by omega))]
  cases c2 : (fSt F).testBit (fB F t)
  · rw [zb_0.mpr c2, if_pos rfl, res0 (by simp [c2])]; rfl
  rw [zb_1.mpr c2, if_neg (by decide : ¬ (1 : Int32) = 0), bind_ok (m_w3 h), bind_ok (m_C hF h ht), bind_ok (m_has (lt31 hF.st) (by omega))]
  cases c3 : (fSt F).testBit (fC F t)
  case true => rw [zb_1.mpr c3, if_neg (by decide : ¬ (1 : Int32) = 0), res0 (by simp [c3])]; rfl
  rw [zb_0.mpr c3, if_pos rfl, if_neg (hn.mpr ⟨c1, c2, hc, c3⟩)]
  rfl
theorem x_may (hF : OKF F) (h : FX 12 F σX) {t : Nat} (ht : t < fM F) : f_X1_mayBeGone 12 (nI t) σX = some (if aft F (fTh F) t (fSt F) = fSt F then 0 else 1) := by
  have hm := hF.m10
  unfold f_X1_mayBeGone f_X1_after
  rw [h.2.1, h.2.2, x_aftA hF.1 h.1 ht hF.st hF.th]
  show (if nI _ = nI _ then _ else _) = _
  by_cases e : aft F (fTh F) t (fSt F) = fSt F
  · rw [e, if_pos rfl, if_pos rfl]; rfl
  · rw [if_neg e, if_neg (fun q => e ((nI_eq (lt31 (aft_lt hF.1 ht hF.st)) (lt31 hF.st)).mp q))]; rfl
/-- promise 8: step -/
theorem q_step (hF : OKF F) (hX : FX 12 F σX) (hM : FM 0 F σM) (v w : Int32) : ∃ r, f_X8_step v w σX = some r ∧ f_X9_step v w σM = some r := by
  have hm := hF.m10
  unfold f_X8_step f_X9_step
  rw [bind_ok (x_isStep hX v), bind_ok (m_isStep hF hM.1 v)]
  rcases inn_cases v (n := fM F) (by omega) with e | ⟨j, h1, rfl, e⟩
  · rw [e]; exact ⟨_, rfl, rfl⟩
  rw [e, if_neg (by decide : ¬ (1 : Int32) = 0), if_neg (by decide : ¬ (1 : Int32) = 0), bind_ok (z_inK w 3 3 (by decide) (by decide))]
  have hq := hX.1.2.2.2.1 j h1
  rcases inn_cases w (n := 3 + 1) (by decide) with e | ⟨k, hk, rfl, e⟩
  · rw [e, if_pos rfl]
    refine ⟨-1, ?_, rfl⟩
    rcases inn_out e with c | c
    · rw [if_pos c]; rfl
    · by_cases c1 : w < 0
      · rw [if_pos c1]; rfl
      · rw [if_neg c1, if_neg]
        · rfl
        · intro q
          have := (gt_of (v := w) (n := 3) (by decide)).mp c
          rw [fa_lt] at this
          rw [Int32.le_iff_toInt_le] at q
          have e1 : (nI 3).toInt = (3 : Int32).toInt := rfl
          omega
  rw [e, if_neg (by decide : ¬ (1 : Int32) = 0), if_neg (nI_pos (by omega)), if_pos (show nI k ≤ (3 : Int32) from nI_le (a := k) (b := 3) (by omega) (by decide))]
  rcases (show k = 0 ∨ k = 1 ∨ k = 2 ∨ k = 3 by omega) with rfl | rfl | rfl | rfl
  · rw [if_pos (show nI 0 = 0 from rfl), if_pos (show nI 0 = 0 from rfl), bind_ok (m_A hF hM h1)]
    unfold f_X1_firstOf
    rw [bind_ok (x_at (by omega) (by decide)), hq.1]
    exact ⟨_, rfl, rfl⟩
  · rw [if_neg (show ¬ nI 1 = 0 by decide), if_neg (show ¬ nI 1 = 0 by decide), if_pos (show nI 1 = 1 from rfl), if_pos (show nI 1 = 1 from rfl), bind_ok (m_B hF hM h1)]
    unfold f_X1_secondOf
    rw [bind_ok (x_at (by omega) (by decide)), hq.2.1]
    exact ⟨_, rfl, rfl⟩
  · rw [if_neg (show ¬ nI 2 = 0 by decide), if_neg (show ¬ nI 2 = 0 by decide), if_neg (show ¬ nI 2 = 1 by decide), if_neg (show ¬ nI 2 = 1 by decide), if_pos (show nI 2 = 2 from rfl), if_pos (show nI 2 = 2 from rfl), bind_ok (m_C hF hM h1)]
    unfold f_X1_endOf
    rw [bind_ok (x_at (by omega) (by decide)), hq.2.2.1]
    exact ⟨_, rfl, rfl⟩
  · rw [if_neg (show ¬ nI 3 = 0 by decide), if_neg (show ¬ nI 3 = 0 by decide), if_neg (show ¬ nI 3 = 1 by decide), if_neg (show ¬ nI 3 = 1 by decide), if_neg (show ¬ nI 3 = 2 by decide), if_neg (show ¬ nI 3 = 2 by decide), bind_ok (m_may hF hM h1), bind_ok (x_may hF hX h1)]
    by_cases e : aft F (fTh F) j (fSt F) = fSt F
    · rw [if_pos e]; exact ⟨_, rfl, rfl⟩
    · rw [if_neg e]; exact ⟨_, rfl, rfl⟩
end
