-- how many bits
theorem x_bc : ∀ x, x < 1024 → f_J6_bitCount_0f7a4 (nI x) = some (nI (pc x)) := by decide +kernel
theorem m_ones {x : Nat} (hx : x < 1024) : f_X9_ones (nI x) = some (nI (pc x)) := by
  unfold f_X9_ones f_X9_ones_4
  refine itr_run (fun k => (nI (pcn x k), nI k)) 10 rfl (by decide) (fun k hk => ?_) ?_
  · show f_X9_ones_4s (nI x) (nI (pcn x k)) (nI k) = _
    unfold f_X9_ones_4s
    rw [z_lit 10, if_neg (nI_ge hk (by decide)), nm_eq, nm_eq, nI_1, z_has (lt31 hx) (by omega)]
    have e : nI (pcn x k) + zb x k = nI (pcn x (k + 1)) := by
      rw [show pcn x (k + 1) = pcn x k + (if x.testBit k then 1 else 0) from rfl]
      unfold zb
      cases x.testBit k
      · show nI (pcn x k) + 0 = nI (pcn x k + 0)
        rw [z_0, nI_add]
      · exact nI_1 _
    rw [e]
  · show f_X9_ones_4s (nI x) (nI (pcn x 10)) (nI 10) = _
    unfold f_X9_ones_4s
    rw [if_pos (by decide)]
    rfl
theorem pcn_add {x c : Nat} (h : x.testBit c = false) : ∀ k, pcn (x ||| 2 ^ c) k = pcn x k + (if c < k then 1 else 0) := by
  intro k
  induction k with
  | zero => rfl
  | succ k ih =>
    unfold pcn
    rw [ih, tb_or2]
    by_cases e : c = k
    · subst e
      rw [h]
      simp
    · by_cases e2 : c < k
      · simp [e, e2, show c < k + 1 by omega]
        omega
      · simp [e, e2, show ¬ c < k + 1 by omega]
theorem pc_add {x c : Nat} (hc : c < 10) (h : x.testBit c = false) : pc (x ||| 2 ^ c) = pc x + 1 := by
  unfold pc
  rw [pcn_add h, if_pos hc]
theorem sub_or_eq {x y : Nat} (h : sub y x) : x ||| y = x := by
  apply Nat.eq_of_testBit_eq
  intro i
  rw [Nat.testBit_or]
  cases hy : y.testBit i
  · simp
  · rw [h i hy]; rfl
section
variable {F : Fl} {σX σM : Sg}
/-- all at once -/
def oa1 (F : Fl) (on : Nat) (t acc : Nat) : Nat := if aft F (fTh F) t on = on then acc else acc ||| 2 ^ fC F t
def oa (F : Fl) (on : Nat) : Nat := fo (oa1 F on) on (fM F)
theorem oa_sub (F : Fl) (on : Nat) : ∀ k, sub on (fo (oa1 F on) on k) := by
  intro k
  induction k with
  | zero => exact sub_rfl _
  | succ k ih => rw [fo_s]; unfold oa1; split; exact ih; exact sub_tr ih sub_or
theorem oa_lt (hF : OKF F) {on : Nat} (h : on < 1024) : ∀ k, k ≤ fM F → fo (oa1 F on) on k < 1024 := by
  intro k
  induction k with
  | zero => intro _; exact h
  | succ k ih =>
    intro hk
    rw [fo_s]
    unfold oa1
    split
    · exact ih (by omega)
    · exact or10 (ih (by omega)) (pow10 (hF.1.c10 (by omega : k < fM F)).2.2)
theorem x_stood (h : FX 12 F σX) : f_X1_stood 12 σX = some (nI (fSt F)) := by unfold f_X1_stood; rw [h.2.2]
theorem x_there (h : FX 12 F σX) : f_X1_there 12 σX = some (nI (fTh F)) := by unfold f_X1_there; rw [h.2.1]
theorem x_steps (h : FX 12 F σX) : f_X1_stepCount 12 σX = some (nI (fM F)) := by unfold f_X1_stepCount; rw [h.1.2.1]
theorem x_stones (h : FX 12 F σX) : f_X1_stoneCount 12 σX = some (nI (fN F)) := by unfold f_X1_stoneCount; rw [h.1.1]
theorem x_allAt (hF : OKF F) (h : FX 12 F σX) {on : Nat} (ho : on < 1024) : f_X7_afterAllAtOnce (nI on) σX = some (nI (oa F on)) := by
  have hm := hF.m10
  unfold f_X7_afterAllAtOnce f_X7_afterAllAtOnce_4
  refine itr_run (fun k => (nI (fo (oa1 F on) on k), nI k)) (fM F) rfl (by omega) (fun k hk => ?_) ?_
  · show f_X7_afterAllAtOnce_4s (nI on) (nI (fo (oa1 F on) on k)) (nI k) σX = _
    unfold f_X7_afterAllAtOnce_4s
    rw [bind_ok (x_steps h), if_neg (nI_ge hk (by omega)), bind_ok (x_aft hF.1 h hk ho hF.th), nm_eq, nm_eq, nI_1, z_or, fo_s]
    congr 4
    by_cases e : aft F (fTh F) k on = on
    · rw [show oa1 F on k (fo (oa1 F on) on k) = fo (oa1 F on) on k from if_pos e, e, sub_or_eq (oa_sub F on k)]
    · rw [show oa1 F on k (fo (oa1 F on) on k) = fo (oa1 F on) on k ||| 2 ^ fC F k from if_neg e, aft_eq e, ← Nat.or_assoc, sub_or_eq (oa_sub F on k)]
  · show f_X7_afterAllAtOnce_4s (nI on) (nI (fo (oa1 F on) on (fM F))) (nI (fM F)) σX = _
    unfold f_X7_afterAllAtOnce_4s
    rw [bind_ok (x_steps h), if_pos (nI_le (Nat.le_refl _) (by omega))]
    rfl
theorem m_w4 (h : FM 0 F σM) : ald σM 1 660 4 = some (nI (fM F)) := by
  rw [z_lit 4, m_w (by decide)]
  exact congrArg some h.1.2.1
theorem m_w3 (h : FM 0 F σM) : ald σM 1 660 3 = some (nI (fSt F)) := by
  rw [z_lit 3, m_w (by decide)]
  exact congrArg some h.2.2
theorem m_w2 (h : FM 0 F σM) : ald σM 1 660 2 = some (nI (fTh F)) := by
  rw [z_lit 2, m_w (by decide)]
  exact congrArg some h.2.1
theorem m_w1 (h : FM 0 F σM) : ald σM 1 660 1 = some (nI (fBg F)) := by
  rw [z_1, m_w (by decide)]
  exact congrArg some h.1.2.2.1
theorem m_w0 (h : FM 0 F σM) : ald σM 1 660 0 = some (nI (fN F)) := by
  rw [z_0, m_w (by decide)]
  exact congrArg some h.1.1
theorem m_allAt (hF : OKF F) (h : FM 0 F σM) {on : Nat} (v1 : Int32) (i : Nat) (ho : on < 1024) : f_X9_round_41 v1 (nI on) (nI i) (nI on) (nI 0) σM = some (.inl (nI (oa F on), nI (i + 1))) := by
  have hm := hF.m10
  unfold f_X9_round_41
  refine itr_run (fun k => (nI (fo (oa1 F on) on k), nI k)) (fM F) rfl (by omega) (fun k hk => ?_) ?_
  · obtain ⟨ca, cb, cc⟩ := hF.1.c10 hk
    show f_X9_round_41s v1 (nI on) (nI i) (nI (fo (oa1 F on) on k)) (nI k) σM = _
    unfold f_X9_round_41s
    rw [bind_ok (m_w4 h), if_neg (nI_ge hk (by omega)), bind_ok (m_mayFrom hF h hk ho), fo_s]
    unfold oa1
    by_cases e : aft F (fTh F) k on = on
    · rw [if_pos e, if_pos rfl, if_pos e]
      unfold f_X9_round_80
      rw [nm_eq, nm_eq, nI_1, z_or0]
    · rw [if_neg e, if_neg (by decide), if_neg e, bind_ok (m_C hF h hk), z_bit (by omega)]
      unfold f_X9_round_80
      rw [nm_eq, nm_eq, nI_1, z_or]
  · show f_X9_round_41s v1 (nI on) (nI i) (nI (fo (oa1 F on) on (fM F))) (nI (fM F)) σM = _
    unfold f_X9_round_41s
    rw [bind_ok (m_w4 h), if_pos (nI_le (Nat.le_refl _) (by omega)), nm_eq, nI_1]
    rfl
theorem round_both (hF : OKF F) (hX : FX 12 F σX) (hM : FM 0 F σM) {j : Nat} (hj : j < 10) : ∀ k i on N, i + k = 11 → k < N → on < 1024 →
    ∃ r, itr N (fun s => f_X7_rounds_7s (nI j) s.1 s.2 σX) (nI on, nI i) = some r ∧ itr N (fun s => f_X9_round_19s (nI j) s.1 s.2 σM) (nI on, nI i) = some r := by
  intro k
  induction k with
  | zero =>
    intro i on N hi hN ho
    obtain ⟨N, rfl⟩ : ∃ M, N = M + 1 := ⟨N - 1, by omega⟩
    obtain rfl : i = 11 := by omega
    refine ⟨-4, itr_out ?_, itr_out ?_⟩
    · show f_X7_rounds_7s (nI j) (nI on) (nI 11) σX = _
      unfold f_X7_rounds_7s
      rw [if_pos (by decide)]
    · show f_X9_round_19s (nI j) (nI on) (nI 11) σM = _
      unfold f_X9_round_19s
      rw [if_pos (by decide)]
  | succ k ih =>
    intro i on N hi hN ho
    obtain ⟨N, rfl⟩ : ∃ M, N = M + 1 := ⟨N - 1, by omega⟩
    have hc : ¬ (10 : Int32) < nI i := nI_nlt (a := 10) (b := i) (by omega) (by decide)
    have eX : f_X7_rounds_7s (nI j) (nI on) (nI i) σX = if on.testBit j = true then some (.inr (nI i)) else some (.inl (nI (oa F on), nI (i + 1))) := by
      unfold f_X7_rounds_7s
      rw [if_neg hc, bind_ok (x_has (lt31 ho) (by omega))]
      cases c : on.testBit j
      · rw [zb_0.mpr c, if_pos rfl, bind_ok (x_allAt hF hX ho), nm_eq, nI_1]; rfl
      · rw [zb_1.mpr c, if_neg (by decide)]; rfl
    have eM : f_X9_round_19s (nI j) (nI on) (nI i) σM = if on.testBit j = true then some (.inr (nI i)) else some (.inl (nI (oa F on), nI (i + 1))) := by
      unfold f_X9_round_19s
      rw [if_neg hc, bind_ok (m_has (lt31 ho) (by omega))]
      cases c : on.testBit j
      · rw [zb_0.mpr c, if_pos rfl, z_0, m_allAt hF hM (nI j) i ho]; rfl
      · rw [zb_1.mpr c, if_neg (by decide)]; rfl
    by_cases c : on.testBit j = true
    · rw [if_pos c] at eX eM
      exact ⟨_, itr_out eX, itr_out eM⟩
    · rw [if_neg c] at eX eM
      rw [itr_in eX, itr_in eM]
      exact ih (i + 1) (oa F on) N (by omega) (by omega) (oa_lt hF ho _ (Nat.le_refl _))
/-- promise 14: round -/
theorem q_round (hF : OKF F) (hX : FX 12 F σX) (hM : FM 0 F σM) (v : Int32) : ∃ r, f_X8_round v σX = some r ∧ f_X9_round v σM = some r := by
  have hn := hF.1.1
  unfold f_X8_round f_X9_round
  rw [bind_ok (x_isStone hX v), bind_ok (m_isStone hF.1 hM.1 v)]
  rcases inn_cases v (n := fN F) (by omega) with e | ⟨j, h1, rfl, e⟩
  · rw [e]; exact ⟨_, rfl, rfl⟩
  · rw [e, if_neg (by decide), if_neg (by decide), bind_ok (m_w3 hM)]
    unfold f_X7_rounds
    rw [bind_ok (x_stood hX)]
    obtain ⟨r, h2, h3⟩ := round_both hF hX hM (j := j) (by omega) 11 0 (fSt F) 3000 (by omega) (by omega) hF.st
    refine ⟨r, ?_, h3⟩
    unfold f_X7_rounds_7
    rw [show (0 : Int32) = nI 0 from rfl, h2]
    rfl
/-- promise 16: lost -/
theorem q_lost (hF : OKF F) (hX : FX 12 F σX) (hM : FM 0 F σM) (v : Int32) : ∃ r, f_X8_lost v σX = some r ∧ f_X9_lost v σM = some r := by
  have hn := hF.1.1
  have hm := hF.m10
  have h10 := p10 hm
  unfold f_X8_lost f_X9_lost
  rw [bind_ok (x_isStone hX v), bind_ok (m_isStone hF.1 hM.1 v)]
  rcases inn_cases v (n := fN F) (by omega) with e | ⟨j, h1, rfl, e⟩
  · rw [e]; exact ⟨_, rfl, rfl⟩
  · rw [e, if_neg (by decide), if_neg (by decide), bind_ok (m_w2 hM), bind_ok (m_has (lt31 hF.th) (by omega))]
    unfold f_X1_isThere
    rw [hX.2.1, bind_ok (x_has (lt31 hF.th) (by omega)), bind_ok (zrt_01 (zb_01 _ _))]
    show ∃ r, (if zb (fTh F) j = 0 then _ else _) = some r ∧ _
    cases c : (fTh F).testBit j
    · rw [zb_0.mpr c]; exact ⟨_, rfl, rfl⟩
    · rw [zb_1.mpr c, if_neg (by decide), if_neg (by decide), bind_ok (m_beg hM), bind_ok (m_reachOf hF hM _), bind_ok (m_beg hM), bind_ok (m_all hF hM), bind_ok (m_w2 hM), z_bit (by omega), z_dif, z_dif, bind_ok (m_closure hF.1 hM.1 (by omega) (dif_lt hF.th)), z_dif, z_dif]
      refine ⟨_, ?_, rfl⟩
      unfold f_X0_lostBy
      rw [bind_ok (x_there hX), z_bit (by omega), z_dif, nm_eq, bind_ok (x_beg hX), z_lit 1023, bind_ok (x_reachBy hF.1 hX.1 (by decide) (dif_lt hF.th)), bind_ok (x_beg hX), bind_ok (x_reachOf hF hX _), z_dif, z_and]
      show some _ = some _
      congr 2
      have e1 : clo F (2 ^ fM F - 1) (dif (fTh F) (2 ^ j)) (dif (beg F) (2 ^ j)) = clo F 1023 (dif (fTh F) (2 ^ j)) (beg F) := by
        rw [clo_all hm]
        apply clo_set
        apply Nat.eq_of_testBit_eq
        intro i
        rw [Nat.testBit_and, Nat.testBit_and, dif_p hF.th, dif_p (beg_lt hF)]
        cases (beg F).testBit i <;> cases (fTh F).testBit i <;> simp
      rw [e1]
      apply Nat.eq_of_testBit_eq
      intro i
      rw [Nat.testBit_and, dif_p (dif_lt (rch_lt hF _)), dif_p hF.th]
      cases hr : (dif (rch F (beg F)) (clo F 1023 (dif (fTh F) (2 ^ j)) (beg F))).testBit i
      · rfl
      · have hr2 := hr
        rw [dif_tb (rch_lt hF _)] at hr2
        simp only [Bool.and_eq_true] at hr2
        rw [clo_sl F 1023 (fTh F) (beg F) i hr2.1]
        simp
end
