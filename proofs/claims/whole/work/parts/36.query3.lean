section
variable {F : Fl} {σX σM : Sg}
/-- the told row, as both hold it -/
def TOLD (F : Fl) (σX σM : Sg) : Prop := ∃ tn, tn ≤ 12 ∧ σX.1 0 10 = nI tn ∧ σM.1 0 6 = nI tn ∧ ∀ j, j < tn → ∃ t, t < fM F ∧ σX.1 41 j = nI t ∧ σM.1 3 j = nI t
theorem aft_lt' (hF : OKF F) {t on : Nat} (ht : t < fM F) (h : on < 1024) : aft F (fTh F) t on < 1024 := aft_lt hF.1 ht h
/-- promise 27: judge -/
theorem q_judge (hF : OKF F) (hX : FX 12 F σX) (hM : FM 0 F σM) (hT : TOLD F σX σM) : ∃ r, f_X8_judge σX = some r ∧ f_X9_judge σM = some r := by
  obtain ⟨tn, h12, tX, tM, hrow⟩ := hT
  have key : ∀ k i on N, i + k = tn → k < N → on < 1024 → ∃ r, itr N (fun s => f_X8_judge_10s s.1 s.2 σX) (nI on, nI i) = some r ∧ itr N (fun s => f_X9_judge_9s s.1 s.2 σM) (nI on, nI i) = some r := by
    intro k
    induction k with
    | zero =>
      intro i on N hi hN ho
      obtain ⟨N, rfl⟩ : ∃ M, N = M + 1 := ⟨N - 1, by omega⟩
      refine ⟨-4, itr_out ?_, itr_out ?_⟩
      · show f_X8_judge_10s (nI on) (nI i) σX = _
        unfold f_X8_judge_10s
        rw [tX, if_pos (nI_le (by omega) (by omega))]
      · show f_X9_judge_9s (nI on) (nI i) σM = _
        unfold f_X9_judge_9s
        rw [tM, if_pos (nI_le (by omega) (by omega))]
    | succ k ih =>
      intro i on N hi hN ho
      obtain ⟨N, rfl⟩ : ∃ M, N = M + 1 := ⟨N - 1, by omega⟩
      obtain ⟨t, ht, eX, eM⟩ := hrow i (by omega)
      obtain ⟨ca, cb, cc⟩ := hF.1.c10 ht
      have gX : f_X8_judge_10s (nI on) (nI i) σX = if aft F (fTh F) t on = on then some (.inr (nI i)) else some (.inl (nI (aft F (fTh F) t on), nI (i + 1))) := by
        unfold f_X8_judge_10s
        rw [tX, if_neg (nI_ge (by omega) (by omega)), bind_ok (x_at (by omega) (by decide)), eX, bind_ok (x_aft hF.1 hX ht ho hF.th)]
        by_cases e : aft F (fTh F) t on = on
        · rw [e, if_pos rfl, if_pos rfl]
        · rw [if_neg e, if_neg (fun q => e ((nI_eq (lt31 (aft_lt' hF ht ho)) (lt31 ho)).mp q)), nm_eq, nI_1]
      have gM : f_X9_judge_9s (nI on) (nI i) σM = if aft F (fTh F) t on = on then some (.inr (nI i)) else some (.inl (nI (aft F (fTh F) t on), nI (i + 1))) := by
        unfold f_X9_judge_9s
        rw [tM, if_neg (nI_ge (by omega) (by omega)), bind_ok (ald_ok (by omega) (by decide)), eM, bind_ok (m_mayFrom hF hM ht ho)]
        by_cases e : aft F (fTh F) t on = on
        · rw [if_pos e, if_pos rfl, if_pos e]
        · rw [if_neg e, if_neg (by decide), if_neg e, bind_ok (ald_ok (by omega) (by decide)), eM, bind_ok (m_C hF hM ht), z_bit (by omega), z_or, nm_eq, nm_eq, nI_1, aft_eq e]
      by_cases e : aft F (fTh F) t on = on
      · rw [if_pos e] at gX gM
        exact ⟨_, itr_out gX, itr_out gM⟩
      · rw [if_neg e] at gX gM
        rw [itr_in gX, itr_in gM]
        exact ih (i + 1) _ N (by omega) (by omega) (aft_lt' hF ht ho)
  unfold f_X8_judge f_X9_judge
  rw [bind_ok (x_stood hX), bind_ok (m_w3 hM)]
  exact key tn 0 (fSt F) 3000 (by omega) (by omega) hF.st
-- draws
theorem z_l32 {n : Nat} (h : n < 2 ^ 31) : (nI n).toInt64 = lN n := nI_l h
theorem x_drawn (hF : OKF F) (hX : FX 12 F σX) {z k : Nat} (hz : z ≤ 9999) (hk : k < 99) :
    ∃ t, t < fM F ∧ f_X8_drawnStep (nI z) (nI k) σX = some (nI t) ∧ (lrm ((7919 * (nI z).toInt64 + 6151 * (nI k).toInt64 + 1) * (7919 * (nI z).toInt64 + 6151 * (nI k).toInt64 + 1)) 65521).bind (fun x6 => lrm x6 ((nI (fM F)).toInt64)) = some (lN t) := by
  have hm := hF.m10
  have h1 := hF.2.1
  have e0 : (7919 : Int64) * (nI z).toInt64 + 6151 * (nI k).toInt64 + 1 = lN (7919 * z + 6151 * k + 1) := by
    rw [z_l32 (by omega), z_l32 (by omega), show (7919 : Int64) = lN 7919 from rfl, show (6151 : Int64) = lN 6151 from rfl, lN_mul, lN_mul, lN_add, lN_1]
  have hb : (7919 * z + 6151 * k + 1) * (7919 * z + 6151 * k + 1) < 2 ^ 63 := by
    have : 7919 * z + 6151 * k + 1 ≤ 100000000 := by omega
    have := Nat.mul_le_mul this this
    omega
  have e1 : lrm (lN (7919 * z + 6151 * k + 1) * lN (7919 * z + 6151 * k + 1)) 65521 = some (lN ((7919 * z + 6151 * k + 1) * (7919 * z + 6151 * k + 1) % 65521)) := by
    unfold lrm
    rw [if_neg (by decide), lN_mul, show (65521 : Int64) = lN 65521 from rfl, pk_lRem hb (by decide) (by decide)]
  have hr : (7919 * z + 6151 * k + 1) * (7919 * z + 6151 * k + 1) % 65521 < 65521 := Nat.mod_lt _ (by decide)
  have e2 : lrm (lN ((7919 * z + 6151 * k + 1) * (7919 * z + 6151 * k + 1) % 65521)) (nI (fM F)).toInt64 = some (lN ((7919 * z + 6151 * k + 1) * (7919 * z + 6151 * k + 1) % 65521 % fM F)) := by
    unfold lrm
    rw [z_l32 (by omega), if_neg, pk_lRem (by omega) (by omega) (by omega)]
    intro q
    have := (pk_lEQ (a := fM F) (b := 0) (by omega) (by omega)).mp q
    omega
  refine ⟨(7919 * z + 6151 * k + 1) * (7919 * z + 6151 * k + 1) % 65521 % fM F, Nat.mod_lt _ (by omega), ?_, ?_⟩
  · unfold f_X8_drawnStep
    rw [bind_ok (x_steps hX), if_neg, nm_eq, e0, bind_ok e1, bind_ok e2, lN_i]
    intro q
    have := (nI_eq (a := fM F) (b := 0) (by omega) (by omega)).mp q
    omega
  · rw [e0, bind_ok e1, e2]
/-- promise 28: year -/
theorem year_both (hF : OKF F) (hX : FX 12 F σX) (hM : FM 0 F σM) {z n : Nat} (hz : z ≤ 9999) (hn : n ≤ 99) (w : Int32) : ∀ k i on g N, i + k = n → k < N → on < 1024 → pc on = pc (fSt F) + g →
    ∃ r, itr N (fun s => f_X8_year_45s (nI z) (nI n) w s.1 s.2 σX) (nI on, nI i) = some r ∧ itr N (fun s => f_X9_year_50s (nI z) (nI n) w s.1 s.2.1 s.2.2 σM) (nI on, nI g, nI i) = some r := by
  have hm := hF.m10
  intro k
  induction k with
  | zero =>
    intro i on g N hi hN ho hg
    obtain ⟨N, rfl⟩ : ∃ M, N = M + 1 := ⟨N - 1, by omega⟩
    have gX : f_X8_year_45s (nI z) (nI n) w (nI on) (nI i) σX = some (.inr (if w = 0 then nI g else nI on)) := by
      unfold f_X8_year_45s
      rw [if_pos (nI_le (by omega) (by omega))]
      by_cases c : w = 0
      · rw [if_pos c, if_pos c, bind_ok (x_bc _ ho), bind_ok (x_stood hX), bind_ok (x_bc _ hF.st), pk_sub (by omega), hg, Nat.add_sub_cancel_left]
        rfl
      · rw [if_neg c, if_neg c]; rfl
    have gM : f_X9_year_50s (nI z) (nI n) w (nI on) (nI g) (nI i) σM = some (.inr (if w = 0 then nI g else nI on)) := by
      unfold f_X9_year_50s
      rw [if_pos (nI_le (by omega) (by omega))]
      by_cases c : w = 0
      · rw [if_pos c, if_pos c]; rfl
      · rw [if_neg c, if_neg c]; rfl
    exact ⟨_, itr_out gX, itr_out gM⟩
  | succ k ih =>
    intro i on g N hi hN ho hg
    obtain ⟨N, rfl⟩ : ∃ M, N = M + 1 := ⟨N - 1, by omega⟩
    obtain ⟨t, ht, dX, dM⟩ := x_drawn hF hX (z := z) (k := i) hz (by omega)
    obtain ⟨ca, cb, cc⟩ := hF.1.c10 ht
    obtain ⟨x6, d1, d2⟩ : ∃ x6, lrm ((7919 * (nI z).toInt64 + 6151 * (nI i).toInt64 + 1) * (7919 * (nI z).toInt64 + 6151 * (nI i).toInt64 + 1)) 65521 = some x6 ∧ lrm x6 ((nI (fM F)).toInt64) = some (lN t) := by
      cases hq : lrm ((7919 * (nI z).toInt64 + 6151 * (nI i).toInt64 + 1) * (7919 * (nI z).toInt64 + 6151 * (nI i).toInt64 + 1)) 65521 with
      | none => rw [hq] at dM; cases dM
      | some x6 => rw [hq] at dM; exact ⟨x6, rfl, dM⟩
    have gX : f_X8_year_45s (nI z) (nI n) w (nI on) (nI i) σX = some (.inl (nI (aft F (fTh F) t on), nI (i + 1))) := by
      unfold f_X8_year_45s
      rw [if_neg (nI_ge (by omega) (by omega)), bind_ok dX, bind_ok (x_aft hF.1 hX ht ho hF.th), nm_eq, nI_1]
    by_cases e : aft F (fTh F) t on = on
    · have gM : f_X9_year_50s (nI z) (nI n) w (nI on) (nI g) (nI i) σM = some (.inl (nI on, nI g, nI (i + 1))) := by
        unfold f_X9_year_50s
        rw [if_neg (nI_ge (by omega) (by omega)), nm_eq, bind_ok d1, bind_ok (m_w4 hM), bind_ok d2, nm_eq, lN_i, bind_ok (m_mayFrom hF hM ht ho), if_pos e, if_pos rfl]
        unfold f_X9_year_125
        rw [nm_eq, nI_1]
      rw [e] at gX
      rw [itr_in gX, itr_in gM]
      exact ih (i + 1) on g N (by omega) (by omega) ho hg
    · have gM : f_X9_year_50s (nI z) (nI n) w (nI on) (nI g) (nI i) σM = some (.inl (nI (aft F (fTh F) t on), nI (g + 1), nI (i + 1))) := by
        unfold f_X9_year_50s
        rw [if_neg (nI_ge (by omega) (by omega)), nm_eq, bind_ok d1, bind_ok (m_w4 hM), bind_ok d2, nm_eq, lN_i, bind_ok (m_mayFrom hF hM ht ho), if_neg e, if_neg (by decide), bind_ok (m_C hF hM ht), z_bit (by omega), z_or, nm_eq, nm_eq, nI_1, aft_eq e]
        unfold f_X9_year_125
        rw [nm_eq, nI_1]
      rw [itr_in gX, itr_in gM]
      refine ih (i + 1) _ (g + 1) N (by omega) (by omega) (aft_lt' hF ht ho) ?_
      rw [aft_eq e, pc_add cc ((aft_ne _ _ _).mp e).2.2.2, hg]
      omega
theorem z_in1 (v : Int32) : f_X9_in v.toInt64 1 99 = some (if v < 1 ∨ 99 < v then 0 else 1) := by
  unfold f_X9_in
  have e1 : lg_cmp v.toInt64 1 < 0 ↔ v < 1 := by rw [lgc_lt, show (1 : Int64) = (1 : Int32).toInt64 by decide, fa_wide_lt]
  have e2 : (0 : Int32) < lg_cmp v.toInt64 99 ↔ 99 < v := by rw [lgc_gt, show (99 : Int64) = (99 : Int32).toInt64 by decide, fa_wide_lt]
  by_cases c1 : v < 1
  · rw [if_pos (e1.mpr c1), if_pos (Or.inl c1)]; rfl
  · rw [if_neg (fun q => c1 (e1.mp q))]
    by_cases c2 : 99 < v
    · rw [if_pos (e2.mpr c2), if_pos (Or.inr c2)]; rfl
    · rw [if_neg (fun q => c2 (e2.mp q)), if_neg (by rintro (q | q) <;> contradiction)]; rfl
theorem z_inK (v : Int32) (c : Int64) (n : Nat) (hn : n < 2 ^ 30) (hc : c = (nI n).toInt64) : f_X9_in v.toInt64 0 c = some (inn v (n + 1)) := by rw [hc]; exact z_rg v n hn
theorem inn_out {v : Int32} {n : Nat} (h : inn v n = 0) : v < 0 ∨ nI n ≤ v := by
  unfold inn at h
  by_cases c : v < 0 ∨ nI n ≤ v
  · exact c
  · rw [if_neg c] at h; cases h
theorem gt_of {v : Int32} {n : Nat} (hn : n < 2 ^ 30) : nI (n + 1) ≤ v ↔ nI n < v := by
  rw [fa_lt, Int32.le_iff_toInt_le, nI_toInt (by omega), nI_toInt (by omega)]
  omega
theorem q_year (hF : OKF F) (hX : FX 12 F σX) (hM : FM 0 F σM) (v1 v2 v3 : Int32) : ∃ r, f_X8_year v1 v2 v3 σX = some r ∧ f_X9_year v1 v2 v3 σM = some r := by
  unfold f_X8_year f_X9_year
  rw [bind_ok (z_inK v1 9999 9999 (by decide) (by decide))]
  rcases inn_cases v1 (n := 9999 + 1) (by decide) with e | ⟨z, hz, rfl, e⟩
  · rw [e, if_pos rfl]
    refine ⟨-1, ?_, rfl⟩
    rcases inn_out e with c | c
    · rw [if_pos c]; rfl
    · by_cases c1 : v1 < 0
      · rw [if_pos c1]; rfl
      · rw [if_neg c1, if_pos (show (9999 : Int32) < v1 from (gt_of (n := 9999) (by decide)).mp c)]; rfl
  rw [e, if_neg (by decide : ¬ (1 : Int32) = 0), if_neg (nI_pos (by omega)), if_neg (show ¬ (9999 : Int32) < nI z from nI_nlt (a := 9999) (b := z) (by omega) (by decide)), bind_ok (z_in1 v2)]
  by_cases c1 : v2 < 1
  · rw [if_pos c1, if_pos (Or.inl c1), if_pos rfl]; exact ⟨_, rfl, rfl⟩
  rw [if_neg c1]
  by_cases c2 : (99 : Int32) < v2
  · rw [if_pos c2, if_pos (Or.inr c2), if_pos rfl]; exact ⟨_, rfl, rfl⟩
  rw [if_neg c2, if_neg (show ¬ (v2 < 1 ∨ (99 : Int32) < v2) from fun q => q.elim c1 c2), if_neg (by decide : ¬ (1 : Int32) = 0), bind_ok (z_inK v3 1 1 (by decide) (by decide))]
  obtain ⟨n, hn, rfl⟩ : ∃ n, n ≤ 99 ∧ v2 = nI n := by
    rcases pk_ix v2 (n := 100) (by decide) with q | q | ⟨j, q1, q2⟩
    · exact absurd (by rw [fa_lt] at q ⊢; exact Int.lt_trans q (by decide)) c1
    · exact absurd ((gt_of (n := 99) (by decide)).mp q) c2
    · exact ⟨j, by omega, q2⟩
  rcases inn_cases v3 (n := 1 + 1) (by decide) with e | ⟨w, hw, rfl, e⟩
  · rw [e, if_pos rfl]
    refine ⟨-1, ?_, rfl⟩
    rcases inn_out e with c | c
    · rw [if_pos c]; rfl
    · by_cases c1 : v3 < 0
      · rw [if_pos c1]; rfl
      · rw [if_neg c1, if_neg]
        · rfl
        · intro q
          have := (gt_of (v := v3) (n := 1) (by decide)).mp c
          rw [fa_lt] at this
          rw [Int32.le_iff_toInt_le] at q
          have e1 : (nI 1).toInt = (1 : Int32).toInt := rfl
          omega
  · rw [e, if_neg (by decide : ¬ (1 : Int32) = 0), if_neg (nI_pos (by omega)), if_pos (show nI w ≤ (1 : Int32) from nI_le (a := w) (b := 1) (by omega) (by decide)), bind_ok (x_stood hX), bind_ok (m_w3 hM)]
    exact year_both hF hX hM (by omega) hn (nI w) n 0 (fSt F) 0 3000 (by omega) (by omega) hF.st (by omega)
/-- promise 20: idle -/
theorem q_idle (hF : OKF F) (hX : FX 12 F σX) (hM : FM 0 F σM) : ∃ r, f_X8_idle σX = some r ∧ f_X9_idle σM = some r := by
  have hm := hF.m10
  have hn := hF.1.1
  have h10 := p10 hm
  have h10n := p10 hn.2
  obtain ⟨il, hil⟩ : ∃ il : Nat → Nat → Nat, il = fun t acc => if (clo F (dif 1023 (2 ^ t)) (2 ^ fN F - 1) (2 ^ fA F t ||| 2 ^ fB F t)).testBit (fC F t) = true then acc ||| 2 ^ t else acc := ⟨_, rfl⟩
  refine ⟨nI (fo il 0 (fM F)), ?_, ?_⟩
  · unfold f_X8_idle f_X5_idleSteps f_X5_idleSteps_4
    refine Eq.trans (bind_ok (x := nI (fo il 0 (fM F))) (itr_run (fun k => (nI (fo il 0 k), nI k)) (fM F) rfl (by omega) (fun k hk => ?_) ?_)) rfl
    · obtain ⟨ca, cb, cc⟩ := hF.1.c10 hk
      have hq := hX.1.2.2.2.1 k hk
      show f_X5_idleSteps_4s (nI (fo il 0 k)) (nI k) σX = _
      unfold f_X5_idleSteps_4s
      rw [bind_ok (x_steps hX), if_neg (nI_ge hk (by omega)), z_bit (by omega), z_lit 1023, z_dif, nm_eq]
      have e1 : f_X1_originsOf 12 (nI k) σX = some (nI (2 ^ fA F k ||| 2 ^ fB F k)) := by
        unfold f_X1_originsOf
        rw [bind_ok (x_at (by omega) (by decide)), hq.2.2.2]
      have e2 : f_X1_endOf 12 (nI k) σX = some (nI (fC F k)) := by
        unfold f_X1_endOf
        rw [bind_ok (x_at (by omega) (by decide)), hq.2.2.1]
      rw [bind_ok e1, bind_ok (x_allStones hF hX), bind_ok (x_reachBy hF.1 hX.1 (dif_lt (by decide)) (by omega)), bind_ok e2, bind_ok (x_has (lt31 (clo_lt hF.1 (by omega))) (by omega)), fo_s]
      cases c : (clo F (dif 1023 (2 ^ k)) (2 ^ fN F - 1) (2 ^ fA F k ||| 2 ^ fB F k)).testBit (fC F k)
      · rw [zb_0.mpr c, if_pos rfl, show il k (fo il 0 k) = fo il 0 k by rw [hil]; simp only [c]; rfl]
        unfold f_X5_idleSteps_57
        rw [nm_eq, nI_1]
      · rw [zb_1.mpr c, if_neg (by decide), nm_eq, z_or, show il k (fo il 0 k) = fo il 0 k ||| 2 ^ k by rw [hil]; simp only [c]; rfl]
        unfold f_X5_idleSteps_57
        rw [nm_eq, nI_1]
    · show f_X5_idleSteps_4s (nI (fo il 0 (fM F))) (nI (fM F)) σX = _
      unfold f_X5_idleSteps_4s
      rw [bind_ok (x_steps hX), if_pos (nI_le (Nat.le_refl _) (by omega))]
  · unfold f_X9_idle f_X9_idle_4
    refine itr_run (fun k => (nI (fo il 0 k), nI k)) (fM F) rfl (by omega) (fun k hk => ?_) ?_
    · obtain ⟨ca, cb, cc⟩ := hF.1.c10 hk
      have hq := hM.1.2.2.2.1 k hk
      simp only [Nat.zero_add] at hq
      show f_X9_idle_4s (nI (fo il 0 k)) (nI k) σM = _
      unfold f_X9_idle_4s
      rw [bind_ok (m_w4 hM), if_neg (nI_ge hk (by omega)), z_lit 5, bind_ok (m_wk 5 (by omega)), hq.1, z_lit 15, bind_ok (m_wk 15 (by omega)), hq.2.1, bind_ok (m_all hF hM), bind_ok (m_w0 hM), z_bit (by omega), z_bit (by omega), z_bit (by omega), z_bit (by omega), z_or, z_dif, show nI (2 ^ fN F) - 1 = nI (2 ^ fN F - 1) from pk_sub (b := 1) Nat.one_le_two_pow, bind_ok (m_closure hF.1 hM.1 (dif_lt (by omega)) (by omega)), bind_ok (m_C hF hM hk), bind_ok (m_has (lt31 (clo_lt hF.1 (by omega))) (by omega)), fo_s]
      rw [clo_st (F := F) (s1 := dif (2 ^ fM F - 1) (2 ^ k)) (s2 := dif 1023 (2 ^ k)) (fun t ht => by rw [dif_p (by omega), dif_p (by decide), all_tb, a1023]; simp [ht, show t < 10 by omega])]
      cases c : (clo F (dif 1023 (2 ^ k)) (2 ^ fN F - 1) (2 ^ fA F k ||| 2 ^ fB F k)).testBit (fC F k)
      · rw [zb_0.mpr c, if_pos rfl, show il k (fo il 0 k) = fo il 0 k by rw [hil]; simp only [c]; rfl]
        unfold f_X9_idle_85
        rw [nm_eq, nm_eq, nI_1, z_or0]
      · rw [zb_1.mpr c, if_neg (by decide), show il k (fo il 0 k) = fo il 0 k ||| 2 ^ k by rw [hil]; simp only [c]; rfl]
        unfold f_X9_idle_85
        rw [nm_eq, nm_eq, nI_1, z_or]
    · show f_X9_idle_4s (nI (fo il 0 (fM F))) (nI (fM F)) σM = _
      unfold f_X9_idle_4s
      rw [bind_ok (m_w4 hM), if_pos (nI_le (Nat.le_refl _) (by omega))]
end
