-- the plain queries
/-- x without y -/
def dif (x y : Nat) : Nat := x &&& (y ^^^ (2 ^ 32 - 1))
theorem z_dif (x y : Nat) : nI x &&& (nI y ^^^ (-1)) = nI (dif x y) := by rw [z_m1, z_xor, z_and]; rfl
theorem dif_tb {x y i : Nat} (hx : x < 1024) : (dif x y).testBit i = (x.testBit i && !y.testBit i) := by
  unfold dif
  rw [Nat.testBit_and, Nat.testBit_xor, Nat.testBit_two_pow_sub_one]
  cases h : x.testBit i
  · rfl
  · have := tb10 hx h
    simp [show i < 32 by omega]
theorem dif_lt {x y : Nat} (hx : x < 1024) : dif x y < 1024 := by
  unfold dif
  rw [Nat.and_comm]
  exact and10 _ hx
theorem dif_p {x k i : Nat} (hx : x < 1024) : (dif x (2 ^ k)).testBit i = (x.testBit i && decide (i ≠ k)) := by
  rw [dif_tb hx, Nat.testBit_two_pow]
  by_cases h : k = i
  · subst h; simp
  · simp [h, Ne.symm h]
theorem clo_st {F : Fl} {s1 s2 sl set : Nat} (h : ∀ t, t < fM F → s1.testBit t = s2.testBit t) : clo F s1 sl set = clo F s2 sl set := by
  have e : ∀ on, ps F s1 sl on = ps F s2 sl on := by
    intro on
    have key : ∀ k, k ≤ fM F → fo (ps1 F s1 sl) on k = fo (ps1 F s2 sl) on k := by
      intro k
      induction k with
      | zero => intro _; rfl
      | succ k ih =>
        intro hk
        rw [fo_s, fo_s, ih (by omega)]
        unfold ps1
        rw [h k (by omega)]
    exact key _ (Nat.le_refl _)
  have key : ∀ i, pit F s1 sl (set &&& sl) i = pit F s2 sl (set &&& sl) i := by
    intro i
    induction i with
    | zero => rfl
    | succ i ih =>
      show ps F s1 sl (pit F s1 sl (set &&& sl) i) = ps F s2 sl (pit F s2 sl (set &&& sl) i)
      rw [ih, e]
  exact key 10
theorem clo_set {F : Fl} {st sl x y : Nat} (h : x &&& sl = y &&& sl) : clo F st sl x = clo F st sl y := by unfold clo; rw [h]
theorem all_tb {m t : Nat} : (2 ^ m - 1).testBit t = decide (t < m) := Nat.testBit_two_pow_sub_one m t
theorem a1023 {t : Nat} : (1023 : Nat).testBit t = decide (t < 10) := Nat.testBit_two_pow_sub_one 10 t
/-- all steps, in the reference's words and in the class's -/
theorem clo_all {F : Fl} (hm : fM F ≤ 10) {sl set : Nat} : clo F (2 ^ fM F - 1) sl set = clo F 1023 sl set := clo_st (fun t ht => by rw [all_tb, a1023]; simp [ht, show t < 10 by omega])
/-- the reach of a set -/
def rch (F : Fl) (set : Nat) : Nat := clo F 1023 (fTh F) set
/-- on which one begins, there -/
def beg (F : Fl) : Nat := fBg F &&& fTh F
section
variable {F : Fl} {σX σM : Sg}
theorem OKF.m10 (hF : OKF F) : fM F ≤ 10 := hF.1.2.1
theorem OKF.th (hF : OKF F) : fTh F < 1024 := Nat.lt_of_lt_of_le hF.2.2.1 (p10 hF.1.1.2)
theorem OKF.st (hF : OKF F) : fSt F < 1024 := by rw [← hF.2.2.2]; exact and10 _ hF.th
theorem OKF.bg (hF : OKF F) : fBg F < 1024 := Nat.lt_of_lt_of_le hF.1.2.2.2.1 (p10 hF.1.1.2)
theorem OKF.sub (hF : OKF F) : sub (fSt F) (fTh F) := fun k h => by rw [← hF.2.2.2, Nat.testBit_and] at h; simp only [Bool.and_eq_true] at h; exact h.2
theorem beg_lt (hF : OKF F) : beg F < 1024 := and10 _ hF.th
theorem rch_lt (hF : OKF F) (x : Nat) : rch F x < 1024 := clo_lt hF.1 hF.th
theorem x_reachOf (hF : OKF F) (h : FX 12 F σX) (v : Nat) : f_X1_reachOf 12 (nI v) σX = some (nI (rch F v)) := by
  unfold f_X1_reachOf
  rw [h.2.1, z_lit 1023, bind_ok (x_reachBy hF.1 h.1 (by decide) hF.th)]
  rfl
theorem m_all (hF : OKF F) (h : FM 0 F σM) : f_X9_allSteps σM = some (nI (2 ^ fM F - 1)) := by
  have hm := hF.m10
  unfold f_X9_allSteps
  rw [z_lit 4, bind_ok (m_w (by decide)), show σM.1 1 4 = nI (fM F) from h.1.2.1, z_bit (by omega), z_1, pk_sub Nat.one_le_two_pow]
theorem m_reachOf (hF : OKF F) (h : FM 0 F σM) (v : Nat) : f_X9_reachOf (nI v) σM = some (nI (rch F v)) := by
  have hm := hF.m10
  have h10 := p10 hm
  unfold f_X9_reachOf
  rw [bind_ok (m_all hF h), z_lit 2, bind_ok (m_w (by decide)), show σM.1 1 2 = nI (fTh F) from h.2.1, bind_ok (m_closure hF.1 h.1 (by omega) hF.th), clo_all hm]
  rfl
theorem x_beg (h : FX 12 F σX) : f_X1_beginnings 12 σX = some (nI (beg F)) := by
  unfold f_X1_beginnings
  rw [h.1.2.2.1, h.2.1, z_and]
  rfl
theorem m_beg (h : FM 0 F σM) : f_X9_beginnings σM = some (nI (beg F)) := by
  unfold f_X9_beginnings
  rw [z_1, bind_ok (m_w (by decide)), show σM.1 1 1 = nI (fBg F) from h.1.2.2.1, z_lit 2, bind_ok (m_w (by decide)), show σM.1 1 2 = nI (fTh F) from h.2.1, z_and]
  rfl
theorem x_isStone (h : FX 12 F σX) (v : Int32) : f_X8_isStone v σX = some (inn v (fN F)) := by
  unfold f_X8_isStone
  rw [bind_ok (x_hasStone h.1 v), bind_ok (zrt_01 (inn_01 _ _))]
theorem x_isStep (h : FX 12 F σX) (v : Int32) : f_X8_isStep v σX = some (inn v (fM F)) := by
  unfold f_X8_isStep inn
  by_cases c1 : v < 0
  · rw [if_pos c1, if_pos (Or.inl c1)]; rfl
  · rw [if_neg c1, show f_X1_stepCount 12 σX = some (nI (fM F)) by unfold f_X1_stepCount; rw [h.1.2.1]]
    show (if nI (fM F) ≤ v then _ else _) = _
    by_cases c2 : nI (fM F) ≤ v
    · rw [if_pos c2, if_pos (Or.inr c2)]; rfl
    · rw [if_neg c2, if_neg (by rintro (q | q) <;> contradiction)]; rfl
theorem x_allStones (hF : OKF F) (h : FX 12 F σX) : f_X1_allStones 12 σX = some (nI (2 ^ fN F - 1)) := by
  unfold f_X1_allStones
  rw [h.1.1, z_bit (by have := hF.1.1.2; omega), z_1, pk_sub Nat.one_le_two_pow]
theorem x_isSet (hF : OKF F) (h : FX 12 F σX) (v : Int32) : f_X8_isSetOfStones v σX = some (inn v (2 ^ fN F)) := by
  have h10 := p10 hF.1.1.2
  have h1 : 1 ≤ 2 ^ fN F := Nat.one_le_two_pow
  unfold f_X8_isSetOfStones inn
  by_cases c1 : v < 0
  · rw [if_pos c1, if_pos (Or.inl c1)]; rfl
  · rw [if_neg c1, bind_ok (x_allStones hF h)]
    have e : nI (2 ^ fN F - 1) < v ↔ nI (2 ^ fN F) ≤ v := by
      rw [fa_lt, Int32.le_iff_toInt_le, nI_toInt (by omega), nI_toInt (by omega)]
      omega
    by_cases c2 : nI (2 ^ fN F) ≤ v
    · rw [if_pos (e.mpr c2), if_pos (Or.inr c2)]; rfl
    · rw [if_neg (fun q => c2 (e.mp q)), if_neg (by rintro (q | q) <;> contradiction)]; rfl
/-- promise 12: reach -/
theorem q_reach (hF : OKF F) (hX : FX 12 F σX) (hM : FM 0 F σM) (v : Int32) : ∃ r, f_X8_reach v σX = some r ∧ f_X9_reach v σM = some r := by
  have h10 := p10 hF.1.1.2
  unfold f_X8_reach f_X9_reach
  rw [bind_ok (x_isSet hF hX v), bind_ok (m_isSet hF.1 hM.1 v)]
  rcases inn_cases v (n := 2 ^ fN F) (by omega) with e | ⟨j, h1, rfl, e⟩
  · rw [e]; exact ⟨_, rfl, rfl⟩
  · rw [e, if_neg (by decide), if_neg (by decide), bind_ok (x_reachOf hF hX j), bind_ok (m_reachOf hF hM j)]
    exact ⟨_, rfl, rfl⟩
theorem z_rg (v : Int32) (n : Nat) (hn : n < 2 ^ 30) : f_X9_in v.toInt64 0 ((nI n).toInt64) = some (inn v (n + 1)) := by
  have e : nI n = nI (n + 1) - 1 := by
    have := pk_sub (a := n + 1) (b := 1) (by omega)
    rw [show nI 1 = (1 : Int32) from rfl] at this
    rw [this, Nat.add_sub_cancel]
  rw [e]
  exact m_in v (by omega) (by omega)
/-- what is gone from here (the class's words, the reference's) -/
theorem aft_ne {F : Fl} (sl t on : Nat) : aft F sl t on ≠ on ↔ (on.testBit (fA F t) = true ∧ on.testBit (fB F t) = true ∧ sl.testBit (fC F t) = true ∧ on.testBit (fC F t) = false) := by
  unfold aft
  by_cases c : on.testBit (fA F t) = true ∧ on.testBit (fB F t) = true ∧ sl.testBit (fC F t) = true
  · rw [if_pos c]
    cases h : on.testBit (fC F t)
    · simp only [c, and_self, iff_true, ne_eq]
      exact or_ne (sub_rfl _) h
    · rw [or_in h]
      simp
  · rw [if_neg c]
    simp only [ne_eq, not_true_eq_false, false_iff]
    exact fun q => c ⟨q.1, q.2.1, q.2.2.1⟩
def mayF (F : Fl) (on t : Nat) : Prop := aft F (fTh F) t on ≠ on
theorem m_mayFrom (hF : OKF F) (h : FM 0 F σM) {on t : Nat} (ht : t < fM F) (ho : on < 1024) : f_X9_mayFrom (nI on) (nI t) σM = some (if aft F (fTh F) t on = on then 0 else 1) := by
  obtain ⟨ca, cb, cc⟩ := hF.1.c10 ht
  have hm := hF.m10
  have hq := h.1.2.2.2.1 t ht
  simp only [Nat.zero_add] at hq
  have hn := aft_ne (F := F) (fTh F) t on
  have res0 : ¬ (on.testBit (fA F t) = true ∧ on.testBit (fB F t) = true ∧ (fTh F).testBit (fC F t) = true ∧ on.testBit (fC F t) = false) → (if aft F (fTh F) t on = on then (0 : Int32) else 1) = 0 := fun q => if_pos (Classical.byContradiction (fun z => q (hn.mp z)))
  unfold f_X9_mayFrom
  rw [z_lit 2, bind_ok (m_w (by decide)), show σM.1 1 2 = nI (fTh F) from h.2.1, z_lit 25, bind_ok (m_wk 25 (by omega)), hq.2.2, bind_ok (m_has (lt31 hF.th) (by omega))]
  cases c1 : (fTh F).testBit (fC F t)
  · rw [zb_0.mpr c1, if_pos rfl, res0 (by simp [c1])]; rfl
  rw [zb_1.mpr c1, if_neg (by decide), bind_ok (m_wk 25 (by omega)), hq.2.2, bind_ok (m_has (lt31 ho) (by omega))]
  cases c2 : on.testBit (fC F t)
  case true => rw [zb_1.mpr c2, if_neg (by decide), res0 (by simp [c2])]; rfl
  rw [zb_0.mpr c2, if_pos rfl, z_lit 5, bind_ok (m_wk 5 (by omega)), hq.1, bind_ok (m_has (lt31 ho) (by omega))]
  cases c3 : on.testBit (fA F t)
  · rw [zb_0.mpr c3, if_pos rfl, res0 (by simp [c3])]; rfl
  rw [zb_1.mpr c3, if_neg (by decide), z_lit 15, bind_ok (m_wk 15 (by omega)), hq.2.1, bind_ok (m_has (lt31 ho) (by omega))]
  cases c4 : on.testBit (fB F t)
  · rw [zb_0.mpr c4, if_pos rfl, res0 (by simp [c4])]; rfl
  rw [zb_1.mpr c4, if_neg (by decide), if_neg (hn.mpr ⟨c3, c4, c1, c2⟩)]
  rfl
theorem aft_eq {F : Fl} {sl t on : Nat} (h : aft F sl t on ≠ on) : aft F sl t on = on ||| 2 ^ fC F t := by
  have := (aft_ne sl t on).mp h
  unfold aft
  rw [if_pos ⟨this.1, this.2.1, this.2.2.1⟩]
theorem m_C (hF : OKF F) (h : FM 0 F σM) {t : Nat} (ht : t < fM F) : ald σM 1 660 (25 + nI t) = some (nI (fC F t)) := by
  have hm := hF.m10
  have hq := (h.1.2.2.2.1 t ht).2.2
  simp only [Nat.zero_add] at hq
  rw [z_lit 25, m_wk 25 (by omega), hq]
end
