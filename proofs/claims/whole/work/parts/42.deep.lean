section
variable {F : Fl} {σX σM : Sg}
theorem FM_same {r : Nat} {σ s : Sg} (h : s.1 1 = σ.1 1) (hM : FM r F σ) : FM r F s := by
  unfold FM FMl
  rw [h]
  exact hM
theorem FX_same {b : Nat} {σ s : Sg} (h : ∀ k, b ≤ k → k ≤ b + 6 → s.1 k = σ.1 k) (hX : FX b F σ) : FX b F s := by
  unfold FX FXl
  rw [h b (by omega) (by omega), h (b + 1) (by omega) (by omega), h (b + 2) (by omega) (by omega), h (b + 3) (by omega) (by omega), h (b + 4) (by omega) (by omega), h (b + 5) (by omega) (by omega), h (b + 6) (by omega) (by omega)]
  exact hX
/-- what is k deep or deeper -/
def dk (F : Fl) : Nat → Nat := itn (dd F) (2 ^ fN F - 1)
theorem dk_0 : dk F 0 = 2 ^ fN F - 1 := rfl
theorem dk_s (k : Nat) : dk F (k + 1) = dd F (dk F k) := rfl
theorem dk_lt (hF : OKL F) (k : Nat) : dk F k < 1024 := by
  have := p10 hF.1.2
  cases k with
  | zero => rw [dk_0]; omega
  | succ k => exact dd_lt hF _
theorem dk_dn1 (hF : OKL F) : ∀ k, sub (dk F (k + 1)) (dk F k) := by
  intro k
  induction k with
  | zero =>
    intro c hc
    rw [dk_s] at hc
    obtain ⟨t, q1, rfl, -⟩ := dd_tb.mp hc
    rw [dk_0, all_tb]
    exact decide_eq_true (hF.2.2.1 t q1).2.2.1
  | succ k ih => exact dd_mono ih
theorem dk_dn (hF : OKL F) (i : Nat) : ∀ j, sub (dk F (i + j)) (dk F i) := by
  intro j
  induction j with
  | zero => exact sub_rfl _
  | succ j ih => exact sub_tr (dk_dn1 hF (i + j)) ih
theorem dk_le (hF : OKL F) {i j : Nat} (h : i ≤ j) : sub (dk F j) (dk F i) := by
  have := dk_dn hF i (j - i)
  rw [show i + (j - i) = j by omega] at this
  exact this
theorem ne0_tb {x : Nat} (h : x ≠ 0) : ∃ c, x.testBit c = true := Nat.exists_testBit_of_ne_zero h
theorem tb_ne0 {x c : Nat} (h : x.testBit c = true) : x ≠ 0 := fun e => by rw [e, Nat.zero_testBit] at h; cases h
theorem no_cir (hF : OKL F) (h : dk F 10 = 0) : cir F = none := by
  unfold cir
  rw [low_none]
  intro v _ hv
  rw [Nat.zero_add] at hv
  -- the last depth that holds v
  have hex : ∃ k, (dk F k).testBit v = true ∧ (dk F (k + 1)).testBit v = false := by
    refine Classical.byContradiction (fun hc => ?_)
    have : ∀ k, (dk F k).testBit v = true := by
      intro k
      induction k with
      | zero => rw [dk_0, all_tb]; exact decide_eq_true hv
      | succ k ih =>
        cases q : (dk F (k + 1)).testBit v
        · exact absurd ⟨k, ih, q⟩ hc
        · rfl
    exact tb_ne0 (this 10) h
  obtain ⟨k, h1, h2⟩ := hex
  have hc : cbe F v (dk F (k + 1)) := by
    intro t ht hq
    have two : ∀ j, ((dk F j).testBit (fA F t) = true ∨ (dk F j).testBit (fB F t) = true) → (dk F (j + 1)).testBit (fC F t) = true := fun j q => dd_tb.mpr ⟨t, ht, rfl, q⟩
    rcases hq with q | q | q
    · exact two k (Or.inl (by rw [q]; exact h1))
    · exact two k (Or.inr (by rw [q]; exact h1))
    · exact dk_dn1 hF (k + 1) _ (two (k + 1) q)
  cases q : (lead F v).testBit v
  · rfl
  · have := lead_min hc v q
    rw [h2] at this
    cases this
theorem pc_1023 : pc 1023 = 10 := by decide
theorem has_cir (hF : OKL F) (h : dk F 10 ≠ 0) : cir F ≠ none := by
  intro hc
  unfold cir at hc
  rw [low_none] at hc
  have hno : ∀ v, v < fN F → (lead F v).testBit v = false := fun v hv => hc v (Nat.zero_le _) (by omega)
  have inA : ∀ k u, (dk F k).testBit u = true → u < fN F := by
    intro k u hu
    have := dk_le hF (Nat.zero_le k) u hu
    rw [dk_0, all_tb] at this
    exact of_decide_eq_true this
  obtain ⟨c, hcb⟩ := ne0_tb h
  have key : ∀ j, j ≤ 10 → ∃ u, (dk F (10 - j)).testBit u = true ∧ j ≤ pc (lead F u) := by
    intro j
    induction j with
    | zero => intro _; exact ⟨c, hcb, Nat.zero_le _⟩
    | succ j ih =>
      intro hj
      obtain ⟨u, h1, h2⟩ := ih (by omega)
      rw [show 10 - j = (10 - (j + 1)) + 1 by omega, dk_s] at h1
      obtain ⟨t, q1, rfl, q3⟩ := dd_tb.mp h1
      have hcu := hno (fC F t) (hF.2.2.1 t q1).2.2.1
      have step : ∀ w, (fA F t = w ∨ fB F t = w) → pc (lead F (fC F t)) < pc (lead F w) := by
        intro w hw
        have hin : (lead F w).testBit (fC F t) = true := lead_cld hF w t q1 (hw.elim Or.inl (fun q => Or.inr (Or.inl q)))
        refine pc_lt (lead_lt hF w) (lead_min (fun t2 ht2 hq => ?_)) (fun e => by rw [← e, hcu] at hin; cases hin)
        refine lead_cld hF w t2 ht2 (Or.inr (Or.inr ?_))
        rcases hq with q | q | q | q
        · left; rw [q]; exact hin
        · right; rw [q]; exact hin
        · exact Or.inl q
        · exact Or.inr q
      rcases q3 with q | q
      · exact ⟨fA F t, q, by have := step _ (Or.inl rfl); omega⟩
      · exact ⟨fB F t, q, by have := step _ (Or.inr rfl); omega⟩
  obtain ⟨u, h1, h2⟩ := key 10 (Nat.le_refl _)
  have hu := inA _ _ h1
  have hn := hF.1.2
  have := pc_lt (x := lead F u) (y := 1023) (by decide) (fun k hk => by rw [a1023]; exact decide_eq_true (tb10 (lead_lt hF u) hk)) (fun e => by
    have := hno u hu
    rw [e, a1023] at this
    have h3 := of_decide_eq_false this
    omega)
  rw [pc_1023] at this
  omega
/-- the class's depth -/
theorem x_depth (hF : OKF F) (h : FX 12 F σX) {L : Nat} (h1 : dk F L ≠ 0) (h2 : dk F (L + 1) = 0) (hL : L < 10) : f_X5_depth σX = some (nI L) := by
  unfold f_X5_depth
  rw [bind_ok (x_allStones hF h)]
  unfold f_X5_depth_7
  refine itr_run (fun k => (nI (dk F k), nI k)) L rfl (by omega) (fun k hk => ?_) ?_
  · show f_X5_depth_7s (nI (dk F k)) (nI k) σX = some (.inl (nI (dk F (k + 1)), nI (k + 1)))
    unfold f_X5_depth_7s
    rw [z_lit 10, if_neg (nI_ge (by omega) (by decide)), bind_ok (x_behind hF h (dk_lt hF.1 k)), ← dk_s, if_neg (z_ne0 (lt31 (dk_lt hF.1 _)) _), nm_eq, nI_1]
    obtain ⟨c, hc⟩ := ne0_tb h1
    exact tb_ne0 (dk_le hF.1 (show k + 1 ≤ L by omega) c hc)
  · show f_X5_depth_7s (nI (dk F L)) (nI L) σX = _
    unfold f_X5_depth_7s
    rw [z_lit 10, if_neg (nI_ge (by omega) (by decide)), bind_ok (x_behind hF h (dk_lt hF.1 L)), ← dk_s, h2, if_pos z_e0]
theorem x_depth_no (hF : OKF F) (h : FX 12 F σX) (h1 : dk F 10 ≠ 0) : f_X5_depth σX = some (-4) := by
  unfold f_X5_depth
  rw [bind_ok (x_allStones hF h)]
  unfold f_X5_depth_7
  refine itr_run (fun k => (nI (dk F k), nI k)) 10 rfl (by omega) (fun k hk => ?_) ?_
  · show f_X5_depth_7s (nI (dk F k)) (nI k) σX = some (.inl (nI (dk F (k + 1)), nI (k + 1)))
    unfold f_X5_depth_7s
    rw [z_lit 10, if_neg (nI_ge (by omega) (by decide)), bind_ok (x_behind hF h (dk_lt hF.1 k)), ← dk_s, if_neg (z_ne0 (lt31 (dk_lt hF.1 _)) _), nm_eq, nI_1]
    obtain ⟨c, hc⟩ := ne0_tb h1
    exact tb_ne0 (dk_le hF.1 (show k + 1 ≤ 10 by omega) c hc)
  · show f_X5_depth_7s (nI (dk F 10)) (nI 10) σX = _
    unfold f_X5_depth_7s
    rw [z_lit 10, if_pos (nI_le (Nat.le_refl _) (by decide))]
/-- the reference's table of depths: after r rounds, t steps of the next -/
def DP (F : Fl) (σM : Sg) (r t : Nat) (b : Nat) (d : Nat → Nat) (s : Sg) : Prop := (∀ k, k ≠ 7 → s.1 k = σM.1 k) ∧ (∀ c, c < 10 → s.1 7 c = nI (d c)) ∧ (∀ c, c < fN F → (dk F (d c)).testBit c = true) ∧ (∀ c, c < fN F → ∀ k, k ≤ r → (dk F k).testBit c = true → k ≤ d c) ∧ (∀ u, u < t → ∀ k, k ≤ r → ((dk F k).testBit (fA F u) = true ∨ (dk F k).testBit (fB F u) = true) → k + 1 ≤ d (fC F u) ∧ k + 1 ≤ b) ∧ (dk F b ≠ 0) ∧ (∀ k, k ≤ r → dk F k ≠ 0 → k ≤ b)
theorem DP.same {r t b : Nat} {d : Nat → Nat} {s : Sg} (h : DP F σM r t b d s) : ∀ k, k ≠ 7 → s.1 k = σM.1 k := h.1
theorem DP.tab {r t b : Nat} {d : Nat → Nat} {s : Sg} (h : DP F σM r t b d s) : ∀ c, c < 10 → s.1 7 c = nI (d c) := h.2.1
theorem DP.lo {r t b : Nat} {d : Nat → Nat} {s : Sg} (h : DP F σM r t b d s) : ∀ c, c < fN F → (dk F (d c)).testBit c = true := h.2.2.1
theorem DP.up {r t b : Nat} {d : Nat → Nat} {s : Sg} (h : DP F σM r t b d s) : ∀ c, c < fN F → ∀ k, k ≤ r → (dk F k).testBit c = true → k ≤ d c := h.2.2.2.1
theorem DP.nx {r t b : Nat} {d : Nat → Nat} {s : Sg} (h : DP F σM r t b d s) : ∀ u, u < t → ∀ k, k ≤ r → ((dk F k).testBit (fA F u) = true ∨ (dk F k).testBit (fB F u) = true) → k + 1 ≤ d (fC F u) ∧ k + 1 ≤ b := h.2.2.2.2.1
theorem DP.bl {r t b : Nat} {d : Nat → Nat} {s : Sg} (h : DP F σM r t b d s) : dk F b ≠ 0 := h.2.2.2.2.2.1
theorem DP.bu {r t b : Nat} {d : Nat → Nat} {s : Sg} (h : DP F σM r t b d s) : ∀ k, k ≤ r → dk F k ≠ 0 → k ≤ b := h.2.2.2.2.2.2
theorem dp_next {r b : Nat} {d : Nat → Nat} {s : Sg} (h : DP F σM r (fM F) b d s) : DP F σM (r + 1) 0 b d s := by
  refine ⟨h.same, h.tab, h.lo, fun c hc k hk hb => ?_, fun u hu => absurd hu (Nat.not_lt_zero _), h.bl, fun k hk hb => ?_⟩
  · cases k with
    | zero => exact Nat.zero_le _
    | succ k =>
      rw [dk_s] at hb
      obtain ⟨t, q1, rfl, q3⟩ := dd_tb.mp hb
      exact (h.nx t q1 k (by omega) q3).1
  · cases k with
    | zero => exact Nat.zero_le _
    | succ k =>
      obtain ⟨c, hc⟩ := ne0_tb hb
      rw [dk_s] at hc
      obtain ⟨t, q1, rfl, q3⟩ := dd_tb.mp hc
      exact (h.nx t q1 k (by omega) q3).2
theorem dp_lt (hF : OKL F) (h10 : dk F 10 = 0) {x : Nat} (h : dk F x ≠ 0) : x < 10 := by
  refine Classical.byContradiction (fun q => ?_)
  obtain ⟨c, hc⟩ := ne0_tb h
  exact tb_ne0 (dk_le hF (show 10 ≤ x by omega) c hc) h10
def upf (d : Nat → Nat) (c e x : Nat) : Nat := if x = c then e else d x
theorem upf_1 (d : Nat → Nat) (c e : Nat) : upf d c e c = e := if_pos rfl
theorem upf_0 {d : Nat → Nat} {c e x : Nat} (h : x ≠ c) : upf d c e x = d x := if_neg h
theorem m_deep_in (hF : OKF F) (hM : FM 0 F σM) (h10 : dk F 10 = 0) {r t b : Nat} {d : Nat → Nat} {s : Sg} (ht : t < fM F) (v : Int32) (h : DP F σM r t b d s) :
    ∃ b2 d2 s2, f_X9_deep_45s (nI b) v (nI t) s = some (.inl (nI b2, nI (t + 1), s2)) ∧ DP F σM r (t + 1) b2 d2 s2 := by
  have hm := hF.m10
  have hs := FM_same (h.same 1 (by decide)) hM
  obtain ⟨ca, cb, cc⟩ := hF.1.c10 ht
  have hl := hF.1.2.2.1 t ht
  have dl : ∀ c, c < fN F → d c < 10 := fun c hc => dp_lt hF.1 h10 (tb_ne0 (h.lo c hc))
  have bl := dp_lt hF.1 h10 h.bl
  -- the higher of the two
  obtain ⟨z, hz1, hz2, hz3, hz4, hz5⟩ : ∃ z, d (fA F t) ≤ z ∧ d (fB F t) ≤ z ∧ z < 10 ∧ ((dk F z).testBit (fA F t) = true ∨ (dk F z).testBit (fB F t) = true) ∧ f_X9_deep_45s (nI b) v (nI t) s = f_X9_deep_115 (nI b) v (nI t) (nI z) s := by
    have hA : ald s 7 10 (nI (fA F t)) = some (nI (d (fA F t))) := by rw [ald_ok (by omega) (by decide), h.tab _ (by omega)]
    have hB : ald s 7 10 (nI (fB F t)) = some (nI (d (fB F t))) := by rw [ald_ok (by omega) (by decide), h.tab _ (by omega)]
    have dA := dl _ hl.1
    have dB := dl _ hl.2.1
    by_cases c : d (fA F t) ≤ d (fB F t)
    · refine ⟨d (fB F t), c, Nat.le_refl _, dB, Or.inr (h.lo _ hl.2.1), ?_⟩
      unfold f_X9_deep_45s
      rw [bind_ok (m_w4 hs), if_neg (nI_ge ht (by omega)), bind_ok (m_A hF hs ht), bind_ok hA, bind_ok (m_B hF hs ht), bind_ok hB, if_pos (nI_le c (by omega)), bind_ok (m_B hF hs ht), bind_ok hB]
    · refine ⟨d (fA F t), Nat.le_refl _, by omega, dA, Or.inl (h.lo _ hl.1), ?_⟩
      unfold f_X9_deep_45s
      rw [bind_ok (m_w4 hs), if_neg (nI_ge ht (by omega)), bind_ok (m_A hF hs ht), bind_ok hA, bind_ok (m_B hF hs ht), bind_ok hB, if_neg (nI_ge (by omega) (by omega)), bind_ok (m_A hF hs ht), bind_ok hA]
  have hC : ald s 7 10 (nI (fC F t)) = some (nI (d (fC F t))) := by rw [ald_ok (by omega) (by decide), h.tab _ (by omega)]
  have dC := dl _ hl.2.2.1
  obtain ⟨e, he1, he2, he3⟩ : ∃ e, e = max (z + 1) (d (fC F t)) ∧ e ≤ 10 ∧ f_X9_deep_115 (nI b) v (nI t) (nI z) s = f_X9_deep_172 (nI b) v (nI t) (nI z) (nI (fC F t)) (nI e) s := by
    by_cases c : z + 1 ≤ d (fC F t)
    · refine ⟨d (fC F t), by omega, by omega, ?_⟩
      unfold f_X9_deep_115
      rw [bind_ok (m_C hF hs ht), bind_ok (m_C hF hs ht), bind_ok hC, nI_1, if_pos (nI_le c (by omega)), bind_ok (m_C hF hs ht), bind_ok hC]
    · refine ⟨z + 1, by omega, by omega, ?_⟩
      unfold f_X9_deep_115
      rw [bind_ok (m_C hF hs ht), bind_ok (m_C hF hs ht), bind_ok hC, nI_1, if_neg (nI_ge (by omega) (by omega))]
  obtain ⟨b2, hb1, hb2⟩ : ∃ b2, b2 = max (z + 1) b ∧ f_X9_deep_172 (nI b) v (nI t) (nI z) (nI (fC F t)) (nI e) s = some (.inl (nI b2, nI (t + 1), up1 s 7 (fC F t) (nI e))) := by
    by_cases c : z + 1 ≤ b
    · refine ⟨b, by omega, ?_⟩
      unfold f_X9_deep_172
      rw [bind_ok (ast_ok (by omega) (by decide)), nI_1, if_pos (nI_le c (by omega))]
      unfold f_X9_deep_189
      rw [nm_eq, nI_1]
    · refine ⟨z + 1, by omega, ?_⟩
      unfold f_X9_deep_172
      rw [bind_ok (ast_ok (by omega) (by decide)), nI_1, if_neg (nI_ge (by omega) (by omega))]
      unfold f_X9_deep_189
      rw [nm_eq, nI_1]
  have hnew : (dk F (z + 1)).testBit (fC F t) = true := dd_tb.mpr ⟨t, ht, rfl, hz4⟩
  refine ⟨b2, upf d (fC F t) e, _, by rw [hz5, he3, hb2], ?_⟩
  have dm : ∀ c, d c ≤ upf d (fC F t) e c := by
    intro c
    by_cases q : c = fC F t
    · rw [q, upf_1]; omega
    · rw [upf_0 q]; exact Nat.le_refl _
  refine ⟨fun k hk => ?_, fun c hc => ?_, fun c hc => ?_, fun c hc k hk hb => Nat.le_trans (h.up c hc k hk hb) (dm c), fun u hu k hk hq => ?_, ?_, fun k hk hb => by have := h.bu k hk hb; omega⟩
  · rw [← h.same k hk]
    funext j
    rw [up1_eq, if_neg (fun q => hk q.1)]
  · rw [up1_eq]
    by_cases q : c = fC F t
    · rw [if_pos ⟨rfl, q⟩, q, upf_1]
    · rw [if_neg (fun x => q x.2), upf_0 q, h.tab c hc]
  · by_cases q : c = fC F t
    · subst q
      rw [upf_1, he1]
      rcases Nat.le_total (z + 1) (d (fC F t)) with c2 | c2
      · rw [Nat.max_eq_right c2]; exact h.lo _ hc
      · rw [Nat.max_eq_left c2]; exact hnew
    · rw [upf_0 q]; exact h.lo c hc
  · rcases Nat.lt_or_ge u t with c1 | c1
    · have := h.nx u c1 k hk hq
      have := dm (fC F u)
      omega
    · obtain rfl : u = t := by omega
      have hkz : k ≤ z := by
        rcases hq with q | q
        · have := h.up _ hl.1 k hk q; omega
        · have := h.up _ hl.2.1 k hk q; omega
      rw [upf_1]
      omega
  · rw [hb1]
    rcases Nat.le_total (z + 1) b with c2 | c2
    · rw [Nat.max_eq_right c2]; exact h.bl
    · rw [Nat.max_eq_left c2]; exact tb_ne0 hnew
theorem m_deep (hF : OKF F) (hM : FM 0 F σM) (h10 : dk F 10 = 0) : ∃ L s, L < 10 ∧ dk F L ≠ 0 ∧ dk F (L + 1) = 0 ∧ f_X9_deep_14 0 σM = some (nI L, s) ∧ ∀ k, k ≠ 7 → s.1 k = σM.1 k := by
  have hm := hF.m10
  have hn := hF.1.1
  have h2 : 2 ≤ 2 ^ fN F := by
    have := Nat.pow_le_pow_right (show 0 < 2 by decide) hn.1
    omega
  -- ten rounds
  have rounds : ∀ s, DP F σM 0 0 0 (fun _ => 0) s → ∃ x, f_X9_deep_37 0 0 s = some x ∧ ∃ b d, x.1 = nI b ∧ DP F σM 10 0 b d x.2 := by
    intro s h0
    unfold f_X9_deep_37
    refine itr_ivv (fun (r : Nat) (z : Int32 × Int32 × Sg) => ∃ b d, z.1 = nI b ∧ z.2.1 = nI r ∧ DP F σM r 0 b d z.2.2) (fun (x : Int32 × Sg) => ∃ b d, x.1 = nI b ∧ DP F σM 10 0 b d x.2) 10 0 3000 _ (by decide) ⟨0, _, rfl, rfl, h0⟩ ?_ ?_
    · rintro r ⟨z1, z2, z3⟩ - hr ⟨b, d, rfl, rfl, h⟩
      rw [Nat.zero_add] at hr
      show ∃ z', f_X9_deep_37s (nI b) (nI r) z3 = some (.inl z') ∧ _
      unfold f_X9_deep_37s
      rw [z_lit 10, if_neg (nI_ge hr (by decide))]
      unfold f_X9_deep_45
      have := itr_ivv (G := fun s => f_X9_deep_45s s.1 (nI r) s.2.1 s.2.2) (fun (t : Nat) (z : Int32 × Int32 × Sg) => ∃ b d, z.1 = nI b ∧ z.2.1 = nI t ∧ DP F σM r t b d z.2.2) (fun (x : (Int32 × Int32 × Sg) ⊕ (Int32 × Sg)) => ∃ z', x = Sum.inl z' ∧ ∃ b d, z'.1 = nI b ∧ z'.2.1 = nI (r + 1) ∧ DP F σM (r + 1) 0 b d z'.2.2) (fM F) 0 3000 (nI b, nI 0, z3) (by omega) ⟨b, d, rfl, rfl, h⟩ ?_ ?_
      · obtain ⟨x, e1, z', rfl, e2⟩ := this
        exact ⟨z', e1, e2⟩
      · rintro t ⟨y1, y2, y3⟩ - ht ⟨b, d, rfl, rfl, h⟩
        rw [Nat.zero_add] at ht
        obtain ⟨b2, d2, s2, e1, e2⟩ := m_deep_in hF hM h10 ht (nI r) h
        exact ⟨_, e1, b2, d2, rfl, rfl, e2⟩
      · rintro ⟨y1, y2, y3⟩ ⟨b, d, rfl, rfl, h⟩
        rw [Nat.zero_add] at h ⊢
        refine ⟨Sum.inl (nI b, nI (r + 1), y3), ?_, (nI b, nI (r + 1), y3), rfl, b, d, rfl, rfl, dp_next h⟩
        show f_X9_deep_45s (nI b) (nI r) (nI (fM F)) y3 = _
        unfold f_X9_deep_45s
        rw [bind_ok (m_w4 (FM_same (h.same 1 (by decide)) hM)), if_pos (nI_le (Nat.le_refl _) (by omega)), nm_eq, nI_1]
    · rintro ⟨z1, z2, z3⟩ ⟨b, d, rfl, rfl, h⟩
      refine ⟨(nI b, z3), ?_, b, d, rfl, h⟩
      show f_X9_deep_37s (nI b) (nI 10) z3 = _
      unfold f_X9_deep_37s
      rw [z_lit 10, if_pos (nI_le (Nat.le_refl _) (by decide))]
  have all : ∃ x, f_X9_deep_14 0 σM = some x ∧ ∃ b d, x.1 = nI b ∧ DP F σM 10 0 b d x.2 := by
    unfold f_X9_deep_14
    refine itr_ivv (fun (i : Nat) (z : Int32 × Sg) => z.1 = nI i ∧ (∀ k, k ≠ 7 → z.2.1 k = σM.1 k) ∧ ∀ c, c < i → z.2.1 7 c = nI 0) _ 10 0 3000 _ (by decide) ⟨rfl, fun _ _ => rfl, fun c hc => absurd hc (Nat.not_lt_zero _)⟩ ?_ ?_
    · rintro i ⟨z1, z2⟩ - hi ⟨rfl, g1, g2⟩
      rw [Nat.zero_add] at hi
      refine ⟨(nI (i + 1), up1 z2 7 i 0), ?_, rfl, fun k hk => ?_, fun c hc => ?_⟩
      · show f_X9_deep_14s (nI i) z2 = _
        unfold f_X9_deep_14s
        rw [z_lit 10, if_neg (nI_ge hi (by decide)), bind_ok (ast_ok (by omega) (by decide)), nm_eq, nI_1]
      · rw [← g1 k hk]
        funext j
        show (up1 z2 7 i 0).1 k j = z2.1 k j
        rw [up1_eq, if_neg (fun q => hk q.1)]
      · show (up1 z2 7 i 0).1 7 c = nI 0
        rw [up1_eq]
        by_cases q : c = i
        · rw [if_pos ⟨rfl, q⟩]; rfl
        · rw [if_neg (fun x => q x.2)]; exact g2 c (by omega)
    · rintro ⟨z1, z2⟩ ⟨rfl, g1, g2⟩
      have h0 : DP F σM 0 0 0 (fun _ => 0) z2 := by
        refine ⟨g1, fun c hc => g2 c (by omega), fun c hc => ?_, fun c _ k hk _ => by omega, fun u hu => absurd hu (Nat.not_lt_zero _), ?_, fun k hk _ => by omega⟩
        · rw [dk_0, all_tb]; exact decide_eq_true hc
        · rw [dk_0]; omega
      obtain ⟨x, e1, e2⟩ := rounds z2 h0
      refine ⟨x, ?_, e2⟩
      show f_X9_deep_14s (nI 10) z2 = _
      unfold f_X9_deep_14s
      rw [z_lit 10, if_pos (nI_le (Nat.le_refl _) (by decide)), e1]
      rfl
  obtain ⟨⟨x1, x2⟩, e1, b, d, rfl, h⟩ := all
  have hb := dp_lt hF.1 h10 h.bl
  refine ⟨b, x2, hb, h.bl, ?_, e1, h.same⟩
  refine Classical.byContradiction (fun q => ?_)
  have := h.bu (b + 1) (by omega) q
  omega
/-- promise 22: deep -/
theorem q_deep (hF : OKF F) (hX : FX 12 F σX) (hM : FM 0 F σM) : ∃ r σM2, f_X8_deep σX = some r ∧ f_X9_deep σM = some (r, σM2) ∧ ∀ k, k ≠ 7 → σM2.1 k = σM.1 k := by
  unfold f_X8_deep f_X9_deep
  rw [bind_ok (m_circle hF hM)]
  by_cases c : dk F 10 = 0
  · obtain ⟨L, s, h1, h2, h3, h4, h5⟩ := m_deep hF hM c
    rw [no_cir hF.1 c, if_pos (show cd none = -4 from rfl)]
    refine ⟨nI L, s, ?_, h4, h5⟩
    rw [bind_ok (x_depth hF hX h2 h3 h1)]
  · refine ⟨-4, σM, ?_, ?_, fun _ _ => rfl⟩
    · rw [bind_ok (x_depth_no hF hX c)]
    · rw [if_neg]
      cases q : cir F with
      | none => exact absurd q (has_cir hF.1 c)
      | some v =>
        have hn := hF.1.1
        have := low_lt _ _ _ _ q
        exact (nI_neg (by omega)).2.2
end
