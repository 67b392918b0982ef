-- the class's and the reference's reach are clo
theorem lt31 {x : Nat} (h : x < 1024) : x < 2 ^ 31 := by omega
theorem OKL.c10 {F : Fl} (hF : OKL F) {t : Nat} (ht : t < fM F) : fA F t < 10 ∧ fB F t < 10 ∧ fC F t < 10 := by
  have h := hF.2.2.1 t ht
  have h2 := hF.1.2
  omega
theorem x_aftA {b : Nat} {F : Fl} {σ : Sg} (hF : OKL F) (h : FXl b F σ) {t on sl : Nat} (ht : t < fM F) (ho : on < 1024) (hs : sl < 1024) : f_X1_afterAmong b (nI t) (nI on) (nI sl) σ = some (nI (aft F sl t on)) := by
  have hm := hF.2.1
  obtain ⟨ca, cb, cc⟩ := hF.c10 ht
  have hq := h.2.2.2.1 t ht
  unfold f_X1_afterAmong
  rw [bind_ok (x_at (by omega) (by decide)), hq.2.2.1, nm_eq, bind_ok (x_at (by omega) (by decide)), hq.2.2.2, bind_ok (x_holds _ _ (lt31 ho) (lt31 (or10 (pow10 ca) (pow10 cb)))), z_bit (by omega)]
  unfold aft
  by_cases c1 : on &&& (2 ^ fA F t ||| 2 ^ fB F t) = 2 ^ fA F t ||| 2 ^ fB F t
  · rw [if_pos c1, if_neg (by decide), bind_ok (x_holds _ _ (lt31 hs) (lt31 (pow10 cc)))]
    have c2 := sub_p2.mp (and_sub.mp c1)
    by_cases c3 : sl &&& 2 ^ fC F t = 2 ^ fC F t
    · rw [if_pos c3, if_neg (by decide), if_pos ⟨c2.1, c2.2, sub_p1.mp (and_sub.mp c3)⟩, z_or]
      rfl
    · rw [if_neg c3, if_pos rfl, if_neg (fun q => c3 (and_sub.mpr (sub_p1.mpr q.2.2)))]
      rfl
  · rw [if_neg c1, if_pos rfl, if_neg (fun q => c1 (and_sub.mpr (sub_p2.mpr ⟨q.1, q.2.1⟩)))]
    rfl
theorem x_aft {b : Nat} {F : Fl} {σ : Sg} (hF : OKL F) (h : FX b F σ) {t on : Nat} (ht : t < fM F) (ho : on < 1024) (hs : fTh F < 1024) : f_X1_after b (nI t) (nI on) σ = some (nI (aft F (fTh F) t on)) := by
  unfold f_X1_after
  rw [h.2.1, bind_ok (x_aftA hF h.1 ht ho hs)]
theorem ps1_pos {F : Fl} {steps sl t on : Nat} (h : steps.testBit t = true) : ps1 F steps sl t on = aft F sl t on := if_pos h
theorem ps1_neg {F : Fl} {steps sl t on : Nat} (h : ¬ steps.testBit t = true) : ps1 F steps sl t on = on := if_neg h
theorem z_or0 (a : Nat) : nI a ||| 0 = nI a := by rw [z_0, z_or, Nat.or_zero]
theorem x_reach_in {b : Nat} {F : Fl} {σ : Sg} (hF : OKL F) (h : FXl b F σ) {steps sl on turn : Nat} (hst : steps < 1024) (hs : sl < 1024) (ho : on < 1024) :
    f_X1_reachBy_22 b (nI steps) (nI sl) (nI on) (nI turn) (nI on) (nI 0) σ = if ps F steps sl on = on then some (.inr (nI on)) else some (.inl (nI (ps F steps sl on), nI (turn + 1))) := by
  have hm := hF.2.1
  have hlast : ∀ y, (if ps F steps sl on = on then some (.inr (nI on)) else some (.inl (nI (ps F steps sl on), nI (turn + 1)))) = some y → f_X1_reachBy_22 b (nI steps) (nI sl) (nI on) (nI turn) (nI on) (nI 0) σ = some y := by
    intro y hy
    unfold f_X1_reachBy_22
    refine itr_run (fun j => (nI (fo (ps1 F steps sl) on j), nI j)) (fM F) rfl (by omega) (fun j hj => ?_) ?_
    · have hlt := fo_lt hF (steps := steps) (sl := sl) ho j (by omega)
      show f_X1_reachBy_22s b (nI steps) (nI sl) (nI (fo (ps1 F steps sl) on j)) (nI turn) (nI on) (nI j) σ = _
      unfold f_X1_reachBy_22s
      rw [h.2.1, if_neg (nI_ge hj (by omega)), bind_ok (x_has (lt31 hst) (by omega)), fo_s]
      by_cases c : steps.testBit j = true
      · rw [zb_1.mpr c, if_neg (by decide), bind_ok (x_aftA hF h hj hlt hs), ps1_pos c]
        unfold f_X1_reachBy_51
        rw [nm_eq, nI_1]
      · rw [zb_0.mpr (by simpa using c), if_pos rfl, ps1_neg c]
        unfold f_X1_reachBy_51
        rw [nm_eq, nI_1]
    · show f_X1_reachBy_22s b (nI steps) (nI sl) (nI (fo (ps1 F steps sl) on (fM F))) (nI turn) (nI on) (nI (fM F)) σ = _
      unfold f_X1_reachBy_22s
      rw [h.2.1, if_pos (nI_le (Nat.le_refl _) (by omega)), nm_eq, nI_1]
      rw [show fo (ps1 F steps sl) on (fM F) = ps F steps sl on from rfl]
      have hlt := ps_lt hF (steps := steps) (sl := sl) ho
      by_cases c : ps F steps sl on = on
      · rw [if_pos c] at hy
        rw [c, if_pos rfl, ← Option.some.inj hy]
      · rw [if_neg c] at hy
        rw [if_neg (fun q => c ((nI_eq (lt31 hlt) (lt31 ho)).mp q)), ← Option.some.inj hy]
  by_cases c : ps F steps sl on = on
  · rw [if_pos c] at hlast ⊢
    exact hlast _ rfl
  · rw [if_neg c] at hlast ⊢
    exact hlast _ rfl
theorem x_reach_out {b : Nat} {F : Fl} {σ : Sg} (hF : OKL F) (h : FXl b F σ) {steps sl x : Nat} (hst : steps < 1024) (hs : sl < 1024) (hx : x < 1024) :
    ∀ k i N, i + k = 10 → k < N → itr N (fun s => f_X1_reachBy_8s b (nI steps) (nI sl) s.1 s.2 σ) (nI (pit F steps sl x i), nI i) = some (nI (pit F steps sl x 10)) := by
  intro k
  induction k with
  | zero =>
    intro i N hi hN
    obtain ⟨N, rfl⟩ : ∃ M, N = M + 1 := ⟨N - 1, by omega⟩
    obtain rfl : i = 10 := by omega
    refine itr_out ?_
    show f_X1_reachBy_8s b (nI steps) (nI sl) (nI (pit F steps sl x 10)) (nI 10) σ = _
    unfold f_X1_reachBy_8s
    rw [if_pos (by decide)]
  | succ k ih =>
    intro i N hi hN
    obtain ⟨N, rfl⟩ : ∃ M, N = M + 1 := ⟨N - 1, by omega⟩
    have hp := pit_lt hF (steps := steps) (sl := sl) hx i
    have e : f_X1_reachBy_8s b (nI steps) (nI sl) (nI (pit F steps sl x i)) (nI i) σ = if ps F steps sl (pit F steps sl x i) = pit F steps sl x i then some (.inr (nI (pit F steps sl x i))) else some (.inl (nI (ps F steps sl (pit F steps sl x i)), nI (i + 1))) := by
      unfold f_X1_reachBy_8s
      rw [z_lit 10, if_neg (nI_ge (by omega) (by decide)), z_0]
      exact x_reach_in hF h hst hs hp
    by_cases c : ps F steps sl (pit F steps sl x i) = pit F steps sl x i
    · rw [if_pos c] at e
      rw [itr_out e]
      have := pit_st (show pit F steps sl x (i + 1) = pit F steps sl x i from c) (k + 1)
      rw [hi] at this
      rw [this]
    · rw [if_neg c] at e
      rw [itr_in e]
      exact ih (i + 1) N (by omega) (by omega)
theorem x_reachBy {b : Nat} {F : Fl} {σ : Sg} (hF : OKL F) (h : FXl b F σ) {set steps sl : Nat} (hst : steps < 1024) (hs : sl < 1024) : f_X1_reachBy b (nI set) (nI steps) (nI sl) σ = some (nI (clo F steps sl set)) := by
  unfold f_X1_reachBy
  rw [z_and, nm_eq]
  exact x_reach_out hF h hst hs (and10 _ hs) 10 0 3000 (by omega) (by omega)
-- the reference
def chg (F : Fl) (steps sl on j : Nat) : Int32 := if fo (ps1 F steps sl) on j = on then 0 else 1
theorem m_cl_in {F : Fl} {σ : Sg} (hF : OKL F) (h : FMl 0 F σ) {steps sl on : Nat} (hst : steps < 1024) (hs : sl < 1024) (ho : on < 1024) :
    f_X9_closure_19 (nI steps) (nI sl) (nI on) 0 (nI 0) σ = some (.inl (nI (ps F steps sl on), if ps F steps sl on = on then 0 else 1)) := by
  have hm := hF.2.1
  unfold f_X9_closure_19
  refine itr_run (fun j => (nI (fo (ps1 F steps sl) on j), chg F steps sl on j, nI j)) (fM F) ?_ (by omega) (fun j hj => ?_) ?_
  · show (nI on, (0 : Int32), nI 0) = (nI on, chg F steps sl on 0, nI 0)
    unfold chg
    rw [if_pos (show fo (ps1 F steps sl) on 0 = on from rfl)]
  · obtain ⟨ca, cb, cc⟩ := hF.c10 hj
    have hq := h.2.2.2.1 j hj
    simp only [Nat.zero_add] at hq
    have hlt := fo_lt hF (steps := steps) (sl := sl) ho j (by omega)
    have hsub := fo_sub F steps sl on j
    show f_X9_closure_19s (nI steps) (nI sl) (nI (fo (ps1 F steps sl) on j)) (chg F steps sl on j) (nI j) σ = some (.inl (nI (fo (ps1 F steps sl) on (j + 1)), chg F steps sl on (j + 1), nI (j + 1)))
    -- where nothing is gone
    have still : ps1 F steps sl j (fo (ps1 F steps sl) on j) = fo (ps1 F steps sl) on j → f_X9_closure_113 (nI steps) (nI sl) (nI (fo (ps1 F steps sl) on j)) (chg F steps sl on j) (nI j) σ = some (.inl (nI (fo (ps1 F steps sl) on (j + 1)), chg F steps sl on (j + 1), nI (j + 1))) := by
      intro e
      have e2 : fo (ps1 F steps sl) on (j + 1) = fo (ps1 F steps sl) on j := by rw [fo_s, e]
      have e3 : chg F steps sl on (j + 1) = chg F steps sl on j := by unfold chg; rw [e2]
      rw [e2, e3]
      unfold f_X9_closure_113 f_X9_closure_114
      rw [if_pos rfl]
      unfold f_X9_closure_139
      rw [nm_eq, z_or0, if_pos rfl]
      unfold chg
      by_cases c : fo (ps1 F steps sl) on j = on
      · rw [if_pos c, if_pos rfl]
        unfold f_X9_closure_157
        rw [nm_eq, nI_1]
      · rw [if_neg c, if_neg (by decide)]
        unfold f_X9_closure_152 f_X9_closure_157
        rw [nm_eq, nI_1]
    unfold f_X9_closure_19s
    rw [z_lit 4, bind_ok (m_w (by decide)), show σ.1 1 4 = nI (fM F) from h.2.1, if_neg (nI_ge hj (by omega)), bind_ok (m_has (lt31 hst) (by omega))]
    by_cases c1 : steps.testBit j = true
    case neg => rw [zb_0.mpr (by simpa using c1), if_pos rfl]; exact still (by unfold ps1; rw [if_neg c1])
    rw [zb_1.mpr c1, if_neg (by decide), z_lit 5, bind_ok (m_wk 5 (by omega)), hq.1, bind_ok (m_has (lt31 hlt) (by omega))]
    by_cases c2 : (fo (ps1 F steps sl) on j).testBit (fA F j) = true
    case neg => rw [zb_0.mpr (by simpa using c2), if_pos rfl]; exact still (by unfold ps1 aft; rw [if_pos c1, if_neg (fun q => c2 q.1)])
    rw [zb_1.mpr c2, if_neg (by decide), z_lit 15, bind_ok (m_wk 15 (by omega)), hq.2.1, bind_ok (m_has (lt31 hlt) (by omega))]
    by_cases c3 : (fo (ps1 F steps sl) on j).testBit (fB F j) = true
    case neg => rw [zb_0.mpr (by simpa using c3), if_pos rfl]; exact still (by unfold ps1 aft; rw [if_pos c1, if_neg (fun q => c3 q.2.1)])
    rw [zb_1.mpr c3, if_neg (by decide), z_lit 25, bind_ok (m_wk 25 (by omega)), hq.2.2, bind_ok (m_has (lt31 hs) (by omega))]
    by_cases c4 : sl.testBit (fC F j) = true
    case neg => rw [zb_0.mpr (by simpa using c4), if_pos rfl]; exact still (by unfold ps1 aft; rw [if_pos c1, if_neg (fun q => c4 q.2.2)])
    rw [zb_1.mpr c4, if_neg (by decide), bind_ok (m_wk 25 (by omega)), hq.2.2, bind_ok (m_has (lt31 hlt) (by omega))]
    have ea : ps1 F steps sl j (fo (ps1 F steps sl) on j) = fo (ps1 F steps sl) on j ||| 2 ^ fC F j := by unfold ps1 aft; rw [if_pos c1, if_pos ⟨c2, c3, c4⟩]
    by_cases c5 : (fo (ps1 F steps sl) on j).testBit (fC F j) = true
    · rw [zb_1.mpr c5, if_neg (by decide)]
      exact still (by rw [ea, or_in c5])
    · have c5 : (fo (ps1 F steps sl) on j).testBit (fC F j) = false := by simpa using c5
      rw [zb_0.mpr c5, if_pos rfl]
      have e3 : chg F steps sl on (j + 1) = 1 := by
        unfold chg
        rw [fo_s, ea, if_neg (or_ne hsub c5)]
      rw [fo_s, ea, e3]
      unfold f_X9_closure_114
      rw [if_neg (by decide), z_lit 25, bind_ok (m_wk 25 (by omega)), hq.2.2, z_bit (by omega)]
      unfold f_X9_closure_139
      rw [nm_eq, z_or]
      have l152 : f_X9_closure_152 (nI steps) (nI sl) (nI (fo (ps1 F steps sl) on j ||| 2 ^ fC F j)) (nI j) σ = some (.inl (nI (fo (ps1 F steps sl) on j ||| 2 ^ fC F j), 1, nI (j + 1))) := by
        unfold f_X9_closure_152 f_X9_closure_157
        rw [nm_eq, nI_1]
      unfold chg
      by_cases c : fo (ps1 F steps sl) on j = on
      · rw [if_pos c, if_pos rfl, if_neg (by decide)]; exact l152
      · rw [if_neg c, if_neg (by decide)]; exact l152
  · show f_X9_closure_19s (nI steps) (nI sl) (nI (fo (ps1 F steps sl) on (fM F))) (chg F steps sl on (fM F)) (nI (fM F)) σ = _
    unfold f_X9_closure_19s
    rw [z_lit 4, bind_ok (m_w (by decide)), show σ.1 1 4 = nI (fM F) from h.2.1, if_pos (nI_le (Nat.le_refl _) (by omega))]
    rfl
theorem m_cl_out {F : Fl} {σ : Sg} (hF : OKL F) (h : FMl 0 F σ) {steps sl x : Nat} (hst : steps < 1024) (hs : sl < 1024) (hx : x < 1024) :
    ∀ k i N, (∃ i2, i ≤ i2 ∧ i2 < i + k ∧ i2 ≤ 10 ∧ pit F steps sl x (i2 + 1) = pit F steps sl x i2) → k < N → itr N (fun s => f_X9_closure_8s (nI steps) (nI sl) s.1 s.2 σ) (nI (pit F steps sl x i), 1) = some (nI (pit F steps sl x 10)) := by
  intro k
  induction k with
  | zero => rintro i N ⟨i2, h1, h2, -⟩; omega
  | succ k ih =>
    rintro i N ⟨i2, h1, h2, h3, h4⟩ hN
    obtain ⟨N, rfl⟩ : ∃ M, N = M + 1 := ⟨N - 1, by omega⟩
    have hp := pit_lt hF (steps := steps) (sl := sl) hx i
    have e : f_X9_closure_8s (nI steps) (nI sl) (nI (pit F steps sl x i)) 1 σ = some (.inl (nI (ps F steps sl (pit F steps sl x i)), if ps F steps sl (pit F steps sl x i) = pit F steps sl x i then 0 else 1)) := by
      unfold f_X9_closure_8s
      rw [if_neg (by decide)]
      exact m_cl_in hF h hst hs hp
    rw [itr_in e]
    by_cases c : ps F steps sl (pit F steps sl x i) = pit F steps sl x i
    · rw [if_pos c, c]
      obtain ⟨N, rfl⟩ : ∃ M, N = M + 1 := ⟨N - 1, by omega⟩
      have e2 : f_X9_closure_8s (nI steps) (nI sl) (nI (pit F steps sl x i)) 0 σ = some (.inr (nI (pit F steps sl x i))) := by
        unfold f_X9_closure_8s
        rw [if_pos rfl]
      rw [itr_out e2]
      have := pit_st (show pit F steps sl x (i + 1) = pit F steps sl x i from c) (10 - i)
      rw [show i + (10 - i) = 10 by omega] at this
      rw [this]
    · rw [if_neg c]
      refine ih (i + 1) N ⟨i2, ?_, by omega, h3, h4⟩ (by omega)
      rcases Nat.lt_or_ge i i2 with q | q
      · omega
      · obtain rfl : i = i2 := by omega
        exact absurd h4 c
theorem m_closure {F : Fl} {σ : Sg} (hF : OKL F) (h : FMl 0 F σ) {set steps sl : Nat} (hst : steps < 1024) (hs : sl < 1024) : f_X9_closure (nI set) (nI steps) (nI sl) σ = some (nI (clo F steps sl set)) := by
  unfold f_X9_closure
  rw [z_and, nm_eq]
  obtain ⟨i, h1, h2⟩ := pit_fx hF (steps := steps) (sl := sl) (x := set &&& sl) (and10 _ hs)
  exact m_cl_out hF h hst hs (and10 _ hs) 11 0 3000 ⟨i, by omega, by omega, h1, h2⟩ (by omega)
