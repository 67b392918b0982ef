-- the hall; is an aim met
def gc (F : Fl) (x s : Nat) : Bool := x.testBit s && decide (fG F s &&& x ≠ 0)
def hl1 (F : Fl) (x s : Nat) (is : Bool) : Bool := is || gc F x s
def hall (F : Fl) (x : Nat) : Bool := fo (hl1 F x) false (fN F)
theorem hl_iff (F : Fl) (x : Nat) : ∀ k, fo (hl1 F x) false k = true ↔ ∃ s, s < k ∧ gc F x s = true := by
  intro k
  induction k with
  | zero => simp [fo]
  | succ k ih =>
    rw [fo_s]
    unfold hl1
    rw [Bool.or_eq_true]
    constructor
    · rintro (h | h)
      · obtain ⟨s, h1, h2⟩ := ih.mp h
        exact ⟨s, by omega, h2⟩
      · exact ⟨k, by omega, h⟩
    · rintro ⟨s, h1, h2⟩
      by_cases e : s = k
      · subst e; exact Or.inr h2
      · exact Or.inl (ih.mpr ⟨s, by omega, h2⟩)
theorem and_ne0 {x y : Nat} : x &&& y ≠ 0 ↔ ∃ k, x.testBit k = true ∧ y.testBit k = true := by
  constructor
  · intro h
    refine Classical.byContradiction (fun hc => h ?_)
    apply Nat.eq_of_testBit_eq
    intro i
    rw [Nat.testBit_and, Nat.zero_testBit]
    cases h1 : x.testBit i <;> cases h2 : y.testBit i <;> simp
    exact hc ⟨i, h1, h2⟩
  · rintro ⟨k, h1, h2⟩ e
    have := congrArg (fun z => Nat.testBit z k) e
    simp [h1, h2] at this
theorem hall_mono {F : Fl} {x y : Nat} (h : sub x y) (hx : hall F x = true) : hall F y = true := by
  obtain ⟨s, h1, h2⟩ := (hl_iff F x _).mp hx
  refine (hl_iff F y _).mpr ⟨s, h1, ?_⟩
  unfold gc at h2 ⊢
  simp only [Bool.and_eq_true, decide_eq_true_eq] at h2 ⊢
  obtain ⟨k, g1, g2⟩ := and_ne0.mp h2.2
  exact ⟨h s h2.1, and_ne0.mpr ⟨k, g1, h k g2⟩⟩
theorem hall_0 (F : Fl) : hall F 0 = false := by
  cases h : hall F 0
  · rfl
  · obtain ⟨s, h1, h2⟩ := (hl_iff F 0 _).mp h
    unfold gc at h2
    simp at h2
/-- a truth as the class tells it -/
def bz (b : Bool) : Int32 := if b then 1 else 0
theorem bz_01 (b : Bool) : bz b = 0 ∨ bz b = 1 := by cases b <;> simp [bz]
theorem zb_bz (a k : Nat) : zb a k = bz (a.testBit k) := by unfold zb bz; rfl
theorem bz_t : bz true = 1 := rfl
theorem bz_f : bz false = 0 := rfl
theorem z_e0 : nI 0 = (0 : Int32) := rfl
theorem z_ne0 {a : Nat} (h : a < 2 ^ 31) (h2 : a ≠ 0) : ¬ nI a = (0 : Int32) := fun q => h2 ((nI_eq h (by decide)).mp (show nI a = nI 0 from q))
theorem nI_neg {j : Nat} (h : j < 2 ^ 31) : ¬ nI j = -1 ∧ ¬ nI j = -2 ∧ ¬ nI j = -4 := by
  refine ⟨?_, ?_, ?_⟩ <;> (intro e; have := nI_toInt h; rw [e] at this; revert this; simp; try omega)
section
variable {F : Fl} {σX σM : Sg}
theorem x_gain (hX : FX 12 F σX) {s : Nat} (hs : s < 10) : f_X1_gainsayersOf 12 (nI s) σX = some (nI (fG F s)) := by
  unfold f_X1_gainsayersOf
  rw [bind_ok (x_at hs (by decide)), (hX.1.2.2.2.2 s hs).1]
theorem x_hasG (hF : OKF F) (hX : FX 12 F σX) {x : Nat} (hx : x < 1024) : f_X1_hasGainsayersIn 12 (nI x) σX = some (bz (hall F x)) := by
  have hn := hF.1.1
  have key : ∀ k s N, s + k = fN F → k < N → fo (hl1 F x) false s = false → itr N (fun z => f_X1_hasGainsayersIn_2s 12 (nI x) z σX) (nI s) = some (bz (hall F x)) := by
    intro k
    induction k with
    | zero =>
      intro s N hs hN hf
      obtain ⟨N, rfl⟩ : ∃ M, N = M + 1 := ⟨N - 1, by omega⟩
      obtain rfl : s = fN F := by omega
      refine itr_out ?_
      unfold f_X1_hasGainsayersIn_2s
      rw [hX.1.1, if_pos (nI_le (Nat.le_refl _) (by omega)), show hall F x = false from hf]
      rfl
    | succ k ih =>
      intro s N hs hN hf
      obtain ⟨N, rfl⟩ : ∃ M, N = M + 1 := ⟨N - 1, by omega⟩
      have e : f_X1_hasGainsayersIn_2s 12 (nI x) (nI s) σX = if gc F x s = true then some (.inr 1) else some (.inl (nI (s + 1))) := by
        unfold f_X1_hasGainsayersIn_2s
        rw [hX.1.1, if_neg (nI_ge (by omega) (by omega)), bind_ok (x_has (lt31 hx) (by omega))]
        unfold gc
        cases c : x.testBit s
        · rw [zb_0.mpr c, if_pos rfl]
          unfold f_X1_hasGainsayersIn_30
          rw [nm_eq, nI_1]
          rfl
        · rw [zb_1.mpr c, if_neg (by decide), bind_ok (x_gain hX (by omega)), z_and]
          by_cases c2 : fG F s &&& x = 0
          · rw [c2, if_pos z_e0]
            unfold f_X1_hasGainsayersIn_30
            rw [nm_eq, nI_1]
            rfl
          · rw [if_neg (z_ne0 (lt31 (and10 _ hx)) c2)]
            simp only [ne_eq, c2, not_false_eq_true, decide_true, Bool.and_self, if_true]
            rfl
      by_cases c : gc F x s = true
      · rw [if_pos c] at e
        rw [itr_out e, show hall F x = true from (hl_iff F x _).mpr ⟨s, by omega, c⟩]
        rfl
      · rw [if_neg c] at e
        rw [itr_in e]
        refine ih (s + 1) N (by omega) (by omega) ?_
        rw [fo_s, hf]
        unfold hl1
        simpa using c
  unfold f_X1_hasGainsayersIn f_X1_hasGainsayersIn_2
  exact key (fN F) 0 3000 (by omega) (by omega) rfl
theorem m_isHall (hF : OKF F) (hM : FM 0 F σM) (v : Nat) : f_X9_isHall (nI v) σM = some (bz (hall F (rch F v))) := by
  have hn := hF.1.1
  have hx := rch_lt hF v
  unfold f_X9_isHall
  rw [bind_ok (m_reachOf hF hM v)]
  unfold f_X9_isHall_11
  refine itr_run (fun k => (bz (fo (hl1 F (rch F v)) false k), nI k)) (fN F) rfl (by omega) (fun k hk => ?_) ?_
  · show f_X9_isHall_11s (nI (rch F v)) (bz (fo (hl1 F (rch F v)) false k)) (nI k) σM = some (.inl (bz (fo (hl1 F (rch F v)) false (k + 1)), nI (k + 1)))
    have hq := (hM.1.2.2.2.2 k (by omega)).1
    rw [Nat.zero_add] at hq
    have l50 : f_X9_isHall_50 (nI (rch F v)) (nI k) σM = some (.inl (1, nI (k + 1))) := by
      unfold f_X9_isHall_50 f_X9_isHall_55
      rw [nm_eq, nI_1]
    have l54 : f_X9_isHall_54 (nI (rch F v)) (nI k) σM = some (.inl (0, nI (k + 1))) := by
      unfold f_X9_isHall_54 f_X9_isHall_55
      rw [nm_eq, nI_1]
    rw [fo_s]
    unfold f_X9_isHall_11s
    rw [bind_ok (m_w0 hM), if_neg (nI_ge hk (by omega))]
    cases c0 : fo (hl1 F (rch F v)) false k
    · rw [bz_f, if_pos rfl, bind_ok (m_has (lt31 hx) (by omega)), show hl1 F (rch F v) k false = gc F (rch F v) k from rfl]
      unfold gc
      cases c : (rch F v).testBit k
      · rw [zb_0.mpr c, if_pos rfl, l54]; rfl
      · rw [zb_1.mpr c, if_neg (by decide), z_lit 45, bind_ok (m_wk 45 (by omega)), hq, z_and]
        by_cases c2 : fG F k &&& rch F v = 0
        · rw [c2, if_pos z_e0, l54]; rfl
        · rw [if_neg (z_ne0 (lt31 (and10 _ hx)) c2), l50]
          simp only [ne_eq, c2, not_false_eq_true, decide_true, Bool.and_self]
          rfl
    · rw [bz_t, if_neg (by decide), l50]
      rfl
  · show f_X9_isHall_11s (nI (rch F v)) (bz (hall F (rch F v))) (nI (fN F)) σM = _
    unfold f_X9_isHall_11s
    rw [bind_ok (m_w0 hM), if_pos (nI_le (Nat.le_refl _) (by omega)), bind_ok (zrt_01 (bz_01 _))]
theorem x_met0 (hF : OKF F) (hX : FX 12 F σX) (v : Nat) : (f_X1_there 12 σX).bind (fun q1 => f_X1_reachBy 12 (nI v) 1023 q1 σX) = some (nI (rch F v)) := by
  rw [bind_ok (x_there hX), z_lit 1023, x_reachBy hF.1 hX.1 (by decide) hF.th]
  rfl
theorem x_met_s (hF : OKF F) (hX : FX 12 F σX) {j : Nat} (hj : j < 10) (v : Nat) : f_X0_isMet (nI j) (nI v) σX = some (bz ((rch F v).testBit j)) := by
  unfold f_X0_isMet
  rw [bind_ok (x_there hX), z_lit 1023, bind_ok (x_reachBy hF.1 hX.1 (by decide) hF.th), if_neg (nI_neg (by omega)).1, if_neg (nI_neg (by omega)).2.1, bind_ok (x_has (lt31 (clo_lt hF.1 hF.th)) (by omega)), bind_ok (zrt_01 (zb_01 _ _)), zb_bz]
  rfl
theorem x_met_h (hF : OKF F) (hX : FX 12 F σX) (v : Nat) : f_X0_isMet (-1) (nI v) σX = some (bz (hall F (rch F v))) := by
  unfold f_X0_isMet
  rw [bind_ok (x_there hX), z_lit 1023, bind_ok (x_reachBy hF.1 hX.1 (by decide) hF.th), if_pos rfl, bind_ok (x_hasG hF hX (clo_lt hF.1 hF.th)), bind_ok (zrt_01 (bz_01 _))]
  rfl
theorem x_met_n (hF : OKF F) (hX : FX 12 F σX) (v : Nat) : f_X0_isMet (-2) (nI v) σX = some (bz (!hall F (rch F v))) := by
  unfold f_X0_isMet
  rw [bind_ok (x_there hX), z_lit 1023, bind_ok (x_reachBy hF.1 hX.1 (by decide) hF.th), if_neg (by decide), if_pos rfl, bind_ok (x_hasG hF hX (clo_lt hF.1 hF.th))]
  rw [show clo F 1023 (fTh F) v = rch F v from rfl]
  cases hall F (rch F v) <;> rfl
end
-- the least of the smallest
def IsMin (P : Nat → Prop) (b : Nat) : Prop := P b ∧ ∀ s, P s → pc b < pc s ∨ (pc b = pc s ∧ b ≤ s)
theorem IsMin.eq {P : Nat → Prop} {a b : Nat} (h : IsMin P a) (g : IsMin P b) : a = b := by
  rcases h.2 b g.1 with q | ⟨q1, q2⟩ <;> rcases g.2 a h.1 with r | ⟨r1, r2⟩ <;> omega
theorem sub_le {x y : Nat} (h : sub x y) : x ≤ y := by
  rw [← and_sub.mpr h]
  exact Nat.and_le_left
def up1s (ok : Nat → Bool) (ch s best : Nat) : Nat := if pc s < pc best ∧ ch &&& s = s ∧ ok s = true then s else best
theorem up_min {ok : Nat → Bool} {ch : Nat} (hc : ch < 1024) (h0 : ok ch = true) : IsMin (fun s => sub s ch ∧ ok s = true) (fo (up1s ok ch) ch ch) := by
  have key : ∀ k, k ≤ ch → (sub (fo (up1s ok ch) ch k) ch ∧ ok (fo (up1s ok ch) ch k) = true) ∧ (∀ s, s < k → sub s ch ∧ ok s = true → pc (fo (up1s ok ch) ch k) < pc s ∨ (pc (fo (up1s ok ch) ch k) = pc s ∧ fo (up1s ok ch) ch k ≤ s)) ∧ (fo (up1s ok ch) ch k = ch ∨ fo (up1s ok ch) ch k < k) := by
    intro k
    induction k with
    | zero => intro _; exact ⟨⟨sub_rfl _, h0⟩, fun s hs => absurd hs (by omega), Or.inl rfl⟩
    | succ k ih =>
      intro hk
      obtain ⟨h1, h2, h3⟩ := ih (by omega)
      rw [fo_s]
      generalize fo (up1s ok ch) ch k = b at h1 h2 h3
      unfold up1s
      split
      · rename_i q
        refine ⟨⟨and_sub.mp q.2.1, q.2.2⟩, fun s hs hP => ?_, Or.inr (by omega)⟩
        rcases Nat.lt_or_ge s k with e | e
        · rcases h2 s e hP with r | ⟨r1, r2⟩ <;> exact Or.inl (by omega)
        · obtain rfl : s = k := by omega
          exact Or.inr ⟨rfl, Nat.le_refl _⟩
      · rename_i q
        refine ⟨h1, fun s hs hP => ?_, h3.imp id (fun z => by omega)⟩
        rcases Nat.lt_or_ge s k with e | e
        · exact h2 s e hP
        · obtain rfl : s = k := by omega
          have q2 : ¬ pc s < pc b := fun z => q ⟨z, and_sub.mpr hP.1, hP.2⟩
          rcases Nat.lt_or_ge (pc b) (pc s) with z | z
          · exact Or.inl z
          · refine Or.inr ⟨by omega, ?_⟩
            rcases h3 with z2 | z2
            · exfalso
              have := pc_lt hc hP.1 (by omega)
              rw [z2] at q2
              exact q2 this
            · omega
  obtain ⟨h1, h2, h3⟩ := key ch (Nat.le_refl _)
  refine ⟨h1, fun s hP => ?_⟩
  rcases Nat.lt_or_ge s ch with e | e
  · exact h2 s e hP
  · obtain rfl : s = ch := by have := sub_le hP.1; omega
    rcases h3 with z | z
    · exact Or.inr ⟨by rw [z], by omega⟩
    · exact Or.inl (pc_lt hc h1.1 (by omega))
def dn1s (ok : Nat → Bool) (ch i best : Nat) : Nat := if ch &&& (ch - i) = ch - i ∧ ok (ch - i) = true ∧ pc (ch - i) ≤ pc best then ch - i else best
theorem dn_min {ok : Nat → Bool} {ch : Nat} (h0 : ok ch = true) : IsMin (fun s => sub s ch ∧ ok s = true) (fo (dn1s ok ch) ch (ch + 1)) := by
  have key : ∀ i, i ≤ ch + 1 → (sub (fo (dn1s ok ch) ch i) ch ∧ ok (fo (dn1s ok ch) ch i) = true) ∧ (∀ s, ch < s + i → sub s ch ∧ ok s = true → pc (fo (dn1s ok ch) ch i) < pc s ∨ (pc (fo (dn1s ok ch) ch i) = pc s ∧ fo (dn1s ok ch) ch i ≤ s)) := by
    intro i
    induction i with
    | zero => intro _; exact ⟨⟨sub_rfl _, h0⟩, fun s hs hP => absurd (sub_le hP.1) (by omega)⟩
    | succ i ih =>
      intro hi
      obtain ⟨h1, h2⟩ := ih (by omega)
      rw [fo_s]
      generalize fo (dn1s ok ch) ch i = b at h1 h2
      unfold dn1s
      split
      · rename_i q
        refine ⟨⟨and_sub.mp q.1, q.2.1⟩, fun s hs hP => ?_⟩
        rcases Nat.lt_or_ge ch (s + i) with e | e
        · rcases h2 s e hP with r | ⟨r1, r2⟩
          · exact Or.inl (by omega)
          · rcases Nat.lt_or_ge (pc (ch - i)) (pc s) with z | z
            · exact Or.inl z
            · exact Or.inr ⟨by omega, by omega⟩
        · obtain rfl : s = ch - i := by omega
          exact Or.inr ⟨rfl, Nat.le_refl _⟩
      · rename_i q
        refine ⟨h1, fun s hs hP => ?_⟩
        rcases Nat.lt_or_ge ch (s + i) with e | e
        · exact h2 s e hP
        · obtain rfl : s = ch - i := by omega
          refine Or.inl ?_
          rcases Nat.lt_or_ge (pc b) (pc (ch - i)) with z | z
          · exact z
          · exact absurd ⟨and_sub.mpr hP.1, hP.2, z⟩ q
  obtain ⟨h1, h2⟩ := key (ch + 1) (Nat.le_refl _)
  exact ⟨h1, fun s hP => h2 s (by omega) hP⟩
