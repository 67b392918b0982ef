section
variable {F : Fl} {σX σM : Sg}
/-- a first step on a shortest row -/
def fsP (F : Fl) (j t : Nat) : Bool := decide (1 ≤ (wk F j (fSt F)).1) && decide (aft F (fTh F) t (fSt F) ≠ fSt F) && decide ((wk F j (aft F (fTh F) t (fSt F))).1 + 1 = (wk F j (fSt F)).1)
theorem x_first (hF : OKF F) {z : Sg} (hX : FX 12 F z) {j : Nat} (hT : TX F j z (fSt F)) (h1 : (wk F j (fSt F)).1 ≤ 10) :
    f_X7_lowestFirstStep_14 (nI (fSt F)) (nI (wk F j (fSt F)).1) 0 z = some (cd (low (fsP F j) 0 (fM F))) := by
  have hm := hF.m10
  have hm1 := hF.2.1
  have hst := hF.st
  obtain ⟨f, hf⟩ : ∃ f, f = (wk F j (fSt F)).1 := ⟨_, rfl⟩
  rw [← hf] at h1 ⊢
  have key : ∀ k i N, i + k = fM F → k < N → itr N (fun s => f_X7_lowestFirstStep_14s (nI (fSt F)) (nI f) s z) (nI i) = some (cd (low (fsP F j) i k)) := by
    intro k
    induction k with
    | zero =>
      intro i N hi hN
      obtain ⟨N, rfl⟩ : ∃ M, N = M + 1 := ⟨N - 1, by omega⟩
      refine itr_out ?_
      show f_X7_lowestFirstStep_14s (nI (fSt F)) (nI f) (nI i) z = _
      unfold f_X7_lowestFirstStep_14s
      rw [bind_ok (x_steps hX), if_pos (nI_le (by omega) (by omega))]
      rfl
    | succ k ih =>
      intro i N hi hN
      obtain ⟨N, rfl⟩ : ∃ M, N = M + 1 := ⟨N - 1, by omega⟩
      have hal := aft_lt hF.1 (sl := fTh F) (show i < fM F by omega) hst
      rcases Nat.eq_zero_or_pos f with h0 | h0
      · have e1 : low (fsP F j) i (k + 1) = none := by
          rw [low_none]
          intro t _ _
          unfold fsP
          rw [← hf, h0]
          rfl
        rw [e1]
        refine itr_out ?_
        show f_X7_lowestFirstStep_14s (nI (fSt F)) (nI f) (nI i) z = _
        unfold f_X7_lowestFirstStep_14s
        rw [bind_ok (x_steps hX), if_neg (nI_ge (by omega) (by omega)), h0, if_pos (by decide : nI 0 ≤ (0 : Int32))]
        rfl
      have hh : f_X7_lowestFirstStep_14s (nI (fSt F)) (nI f) (nI i) z = if fsP F j i = true then some (Sum.inr (nI i)) else some (Sum.inl (nI (i + 1))) := by
        unfold f_X7_lowestFirstStep_14s
        rw [bind_ok (x_steps hX), if_neg (nI_ge (by omega) (by omega)), if_neg (show ¬ nI f ≤ (0 : Int32) from nI_ge (a := 0) (b := f) (by omega) (by omega)), bind_ok (x_aft hF.1 hX (by omega) hst hF.th)]
        have go : f_X7_lowestFirstStep_60 (nI (fSt F)) (nI f) (nI i) z = some (Sum.inl (nI (i + 1))) := by
          unfold f_X7_lowestFirstStep_60
          rw [nm_eq, nI_1]
        by_cases e : aft F (fTh F) i (fSt F) = fSt F
        · rw [if_pos (show nI _ = nI (fSt F) by rw [e]), go, if_neg (by simp [fsP, e])]
        rw [if_neg (fun q => e ((nI_eq (lt31 hal) (lt31 hst)).mp q)), bind_ok (x_at hal (by decide)), (hT _ (Nat.le_of_lt (aft_gt e)) hal (aft_th hF.sub) (aft_sub _ _ _ _)).1, show nI f - 1 = nI (f - 1) from pk_sub (b := 1) h0]
        have hw := wk_f hF.1 (j := j) hal
        by_cases c : (wk F j (aft F (fTh F) i (fSt F))).1 + 1 = f
        · rw [if_pos (show nI _ = nI (f - 1) by rw [← c]; rfl), if_pos (by unfold fsP; rw [← hf]; simp [e, c, h0, Nat.pos_iff_ne_zero.mp h0]; omega)]
        · rw [if_neg (fun q => by have := (nI_eq (by omega) (by omega)).mp q; omega), go, if_neg (by unfold fsP; rw [← hf]; simp [c])]
      unfold low
      by_cases c : fsP F j i = true
      · rw [if_pos c] at hh
        rw [if_pos c]
        exact itr_out hh
      · rw [if_neg c] at hh
        rw [if_neg c, itr_in hh]
        exact ih (i + 1) N (by omega) (by omega)
  unfold f_X7_lowestFirstStep_14
  exact key (fM F) 0 3000 (by omega) (by omega)
theorem m_first (hF : OKF F) {z : Sg} (hM : FM 0 F z) {j v : Nat} (hv : v ≤ 2) (hT : TM F j z 0) (h1 : (wk F j (fSt F)).1 ≤ 10) :
    f_X9_walk_65 (nI v) (nI (fSt F)) (-4) (nI (fM F - 1)) z = some (if v = 0 then lN (wk F j (fSt F)).1 else if v = 1 then (cd (low (fsP F j) 0 (fM F))).toInt64 else lN (wk F j (fSt F)).2, z) := by
  have hm := hF.m10
  have hm1 := hF.2.1
  have hst := hF.st
  have hsN : fSt F < 2 ^ fN F := subp hF.2.2.1 hF.sub
  obtain ⟨t1, t2⟩ := hT (fSt F) (Nat.zero_le _) hsN
  rw [mf_0 (by omega)] at t1
  unfold f_X9_walk_65
  refine itr_run (fun k => (cd (low (fsP F j) (fM F - k) k), sI (fM F - 1) k)) (fM F) ?_ (by omega) (fun k hk => ?_) ?_
  · show (-4, nI (fM F - 1)) = (-4, sI (fM F - 1) 0)
    rw [sI_in (by omega), Nat.sub_zero]
  · show f_X9_walk_65s (nI v) (nI (fSt F)) (cd (low (fsP F j) (fM F - k) k)) (sI (fM F - 1) k) z = some (.inl (cd (low (fsP F j) (fM F - (k + 1)) (k + 1)), sI (fM F - 1) (k + 1)))
    obtain ⟨i, ei⟩ : ∃ i, i = fM F - 1 - k := ⟨_, rfl⟩
    have hi : i < fM F := by omega
    rw [sI_in (by omega), show fM F - k = i + 1 by omega, show fM F - (k + 1) = i by omega, ← ei]
    have hal := aft_lt hF.1 (sl := fTh F) hi hst
    obtain ⟨ca, cb, cc⟩ := hF.1.c10 hi
    have go : ∀ a : Int32, f_X9_walk_138 (nI v) (nI (fSt F)) (nI i) a z = some (.inl (a, sI (fM F - 1) (k + 1))) := by
      intro a
      unfold f_X9_walk_138
      rw [nm_eq, ei, sI_s (by omega)]
    have no : fsP F j i = false → f_X9_walk_123 (nI v) (nI (fSt F)) (cd (low (fsP F j) (i + 1) k)) (nI i) z = some (.inl (cd (low (fsP F j) i (k + 1)), sI (fM F - 1) (k + 1))) := by
      intro c
      unfold f_X9_walk_123 f_X9_walk_124
      rw [if_pos rfl, go, show low (fsP F j) i (k + 1) = low (fsP F j) (i + 1) k from if_neg (by simp [c])]
    unfold f_X9_walk_65s
    rw [if_neg (nI_pos (by omega)), bind_ok (ald_ok hst (by decide)), t1]
    rcases Nat.eq_zero_or_pos (wk F j (fSt F)).1 with h0 | h0
    · rw [h0, if_pos (by decide : nI 0 ≤ (0 : Int32)), no (by unfold fsP; rw [h0]; rfl)]
    rw [if_neg (show ¬ nI (wk F j (fSt F)).1 ≤ (0 : Int32) from nI_ge (a := 0) (by omega) (by omega)), bind_ok (m_mayFrom hF hM hi hst)]
    by_cases e : aft F (fTh F) i (fSt F) = fSt F
    · rw [if_pos e, if_pos rfl, no (by simp [fsP, e])]
    have ha2 : aft F (fTh F) i (fSt F) < 2 ^ fN F := by
      rw [aft_eq e]
      exact Nat.or_lt_two_pow hsN (Nat.pow_lt_pow_right (by decide) (hF.1.2.2.1 i hi).2.2.1)
    have t3 := (hT _ (Nat.zero_le _) ha2).1
    have hw := wk_f hF.1 (j := j) hal
    have hmf : mf (wk F j (aft F (fTh F) i (fSt F))).1 = (wk F j (fSt F)).1 - 1 ↔ (wk F j (aft F (fTh F) i (fSt F))).1 + 1 = (wk F j (fSt F)).1 := by
      unfold mf
      split <;> omega
    have hmb : mf (wk F j (aft F (fTh F) i (fSt F))).1 ≤ 100 := by unfold mf; split <;> omega
    rw [if_neg e, if_neg (by decide : ¬ (1 : Int32) = 0), bind_ok (m_C hF hM hi), z_bit (by omega), z_or, ← aft_eq e, bind_ok (ald_ok hal (by decide)), bind_ok (ald_ok hst (by decide)), t1, t3, show nI (wk F j (fSt F)).1 - 1 = nI ((wk F j (fSt F)).1 - 1) from pk_sub (b := 1) h0]
    by_cases c : (wk F j (aft F (fTh F) i (fSt F))).1 + 1 = (wk F j (fSt F)).1
    · rw [if_pos (by rw [hmf.mpr c])]
      unfold f_X9_walk_124
      rw [if_neg (by decide : ¬ (1 : Int32) = 0), go, show low (fsP F j) i (k + 1) = some i from if_pos (by unfold fsP; simp [e, c]; omega)]
      rfl
    · rw [if_neg (fun q => c (hmf.mp ((nI_eq (by omega) (by omega)).mp q))), no (by unfold fsP; simp [c])]
  · show f_X9_walk_65s (nI v) (nI (fSt F)) (cd (low (fsP F j) (fM F - fM F) (fM F))) (sI (fM F - 1) (fM F)) z = _
    unfold f_X9_walk_65s
    have e : sI (fM F - 1) (fM F) = -1 := by
      have := sI_out (fM F - 1)
      rw [show fM F - 1 + 1 = fM F by omega] at this
      exact this
    rw [e, if_pos (by decide), Nat.sub_self]
    rcases (show v = 0 ∨ v = 1 ∨ v = 2 by omega) with rfl | rfl | rfl
    · rw [if_pos (show nI 0 = 0 from rfl), bind_ok (ald_ok hst (by decide)), t1, z_l32 (by omega)]
      rfl
    · rw [if_neg (show ¬ nI 1 = 0 by decide), if_pos (show nI 1 = 1 from rfl)]
      rfl
    · rw [if_neg (show ¬ nI 2 = 0 by decide), if_neg (show ¬ nI 2 = 1 by decide), bind_ok (aldL_ok hst (by decide)), t2]
      rfl
/-- promise 13: walk -/
theorem q_walk (hF : OKF F) (hX : FX 12 F σX) (hM : FM 0 F σM) (v w : Int32) : ∃ r zX zM, f_X8_walk v w σX = some (r, zX) ∧ f_X9_walk v w σM = some (r, zM) ∧ eqX zX σX ∧ eqM zM σM := by
  have hn := hF.1.1
  have hm := hF.m10
  have hm1 := hF.2.1
  have hst := hF.st
  unfold f_X8_walk f_X9_walk
  rw [bind_ok (x_isStone hX v), bind_ok (m_isStone hF.1 hM.1 v)]
  rcases inn_cases v (n := fN F) (by omega) with e | ⟨j, h1, rfl, e⟩
  · rw [e]; exact ⟨_, _, _, rfl, rfl, fun _ _ _ => rfl, fun _ _ => rfl⟩
  rw [e, if_neg (by decide : ¬ (1 : Int32) = 0), if_neg (by decide : ¬ (1 : Int32) = 0), bind_ok (z_inK w 2 2 (by decide) (by decide))]
  rcases inn_cases w (n := 2 + 1) (by decide) with e | ⟨k, hk, rfl, e⟩
  · rw [e, if_pos rfl]
    refine ⟨-1, σX, σM, ?_, rfl, fun _ _ _ => rfl, fun _ _ => rfl⟩
    rcases inn_out e with c | c
    · rw [if_pos c]; rfl
    · by_cases c1 : w < 0
      · rw [if_pos c1]; rfl
      · rw [if_neg c1, if_neg]
        · rfl
        · intro q
          have := (gt_of (v := w) (n := 2) (by decide)).mp c
          rw [fa_lt] at this
          rw [Int32.le_iff_toInt_le] at q
          have e1 : (nI 2).toInt = (2 : Int32).toInt := rfl
          omega
  obtain ⟨zX, x1, x2, x3⟩ := x_measure hF hX (j := j) (by omega)
  obtain ⟨zM, y1, y2, y3⟩ := m_layWalks hF hM (j := j) (by omega)
  have hX2 := eqX_FX x2 hX
  have hM2 : FM 0 F zM := FM_same (y2 1 (by decide)) hM
  have hsN : fSt F < 2 ^ fN F := subp hF.2.2.1 hF.sub
  obtain ⟨t1, t2⟩ := y3 (fSt F) (Nat.zero_le _) hsN
  obtain ⟨u1, u2⟩ := x3 (fSt F) (Nat.le_refl _) hst hF.sub (sub_rfl _)
  have hr := wk_r31 hF.1 (j := j) hst
  rw [e, if_neg (by decide : ¬ (1 : Int32) = 0), if_neg (nI_pos (by omega)), if_pos (show nI k ≤ (2 : Int32) from nI_le (a := k) (b := 2) (by omega) (by decide)), bind_ok x1, bind_ok y1, bind_ok (m_w3 hM2), bind_ok (ald_ok hst (by decide)), t1]
  rcases wk_f hF.1 (j := j) hst with c | c
  · -- there is no row
    have ef : f_X7_fewestSteps zX = some (-4) := by
      unfold f_X7_fewestSteps
      rw [bind_ok (x_stood hX2), bind_ok (x_at hst (by decide)), u1, c, if_pos (by decide : nI 1000 = (1000 : Int32))]
      rfl
    refine ⟨-4, zX, zM, ?_, by rw [c, mf_1, if_pos (show nI 100 = (100 : Int32) from rfl)], x2, y2⟩
    rcases (show k = 0 ∨ k = 1 ∨ k = 2 by omega) with rfl | rfl | rfl
    · rw [if_pos (show nI 0 = 0 from rfl), bind_ok ef]; rfl
    · rw [if_neg (show ¬ nI 1 = 0 by decide), if_pos (show nI 1 = 1 from rfl)]
      have el : f_X7_lowestFirstStep zX = some (-4) := by
        unfold f_X7_lowestFirstStep
        rw [bind_ok (x_stood hX2), bind_ok ef]
        unfold f_X7_lowestFirstStep_14
        refine itr_out ?_
        show f_X7_lowestFirstStep_14s (nI (fSt F)) (-4) 0 zX = _
        unfold f_X7_lowestFirstStep_14s
        rw [bind_ok (x_steps hX2), if_neg (show ¬ nI (fM F) ≤ (0 : Int32) from nI_ge (a := 0) (b := fM F) (by omega) (by omega)), if_pos (by decide : (-4 : Int32) ≤ 0)]
        rfl
      rw [bind_ok el]; rfl
    · rw [if_neg (show ¬ nI 2 = 0 by decide), if_neg (show ¬ nI 2 = 1 by decide)]
      have el : f_X7_howManyRows zX = some (-4) := by
        unfold f_X7_howManyRows
        rw [bind_ok ef, if_pos rfl]
        rfl
      rw [bind_ok el]; rfl
  · have ef : f_X7_fewestSteps zX = some (nI (wk F j (fSt F)).1) := by
      unfold f_X7_fewestSteps
      rw [bind_ok (x_stood hX2), bind_ok (x_at hst (by decide)), u1, if_neg (fun q => by have := (nI_eq (a := (wk F j (fSt F)).1) (b := 1000) (by omega) (by omega)).mp q; omega)]
      rfl
    rw [mf_0 (by omega), if_neg (show ¬ nI (wk F j (fSt F)).1 = (100 : Int32) from fun q => by have := (nI_eq (a := (wk F j (fSt F)).1) (b := 100) (by omega) (by omega)).mp q; omega), bind_ok (m_w4 hM2), nm_eq, show nI (fM F) - 1 = nI (fM F - 1) from pk_sub (b := 1) hm1]
    refine ⟨_, zX, zM, ?_, m_first hF hM2 (v := k) (by omega) y3 c, x2, y2⟩
    rcases (show k = 0 ∨ k = 1 ∨ k = 2 by omega) with rfl | rfl | rfl
    · rw [if_pos (show nI 0 = 0 from rfl), bind_ok ef, z_l32 (by omega)]; rfl
    · rw [if_neg (show ¬ nI 1 = 0 by decide), if_pos (show nI 1 = 1 from rfl)]
      have el : f_X7_lowestFirstStep zX = some (cd (low (fsP F j) 0 (fM F))) := by
        unfold f_X7_lowestFirstStep
        rw [bind_ok (x_stood hX2), bind_ok ef, x_first hF hX2 x3 c]
      rw [bind_ok el]; rfl
    · rw [if_neg (show ¬ nI 2 = 0 by decide), if_neg (show ¬ nI 2 = 1 by decide)]
      have el : f_X7_howManyRows zX = some (nI (wk F j (fSt F)).2) := by
        unfold f_X7_howManyRows
        rw [bind_ok ef, if_neg (nI_neg (by omega)).2.2, bind_ok (x_stood hX2), bind_ok (x_at hst (by decide)), u2]
        rfl
      rw [bind_ok el, z_l32 hr]; rfl
end
