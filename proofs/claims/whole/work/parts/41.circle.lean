-- loops by an invariant
theorem itr_ivv {S X : Type} {G : S → Option (S ⊕ X)} (P : Nat → S → Prop) (Q : X → Prop) : ∀ (k i N : Nat) (s : S), k < N → P i s → (∀ j z, i ≤ j → j < i + k → P j z → ∃ z', G z = some (.inl z') ∧ P (j + 1) z') → (∀ z, P (i + k) z → ∃ x, G z = some (.inr x) ∧ Q x) → ∃ x, itr N G s = some x ∧ Q x := by
  intro k
  induction k with
  | zero =>
    intro i N s hN h0 _ h2
    obtain ⟨N, rfl⟩ : ∃ M, N = M + 1 := ⟨N - 1, by omega⟩
    obtain ⟨x, h3, h4⟩ := h2 s h0
    exact ⟨x, itr_out h3, h4⟩
  | succ k ih =>
    intro i N s hN h0 h1 h2
    obtain ⟨N, rfl⟩ : ∃ M, N = M + 1 := ⟨N - 1, by omega⟩
    obtain ⟨z, h3, h4⟩ := h1 i s (Nat.le_refl _) (by omega) h0
    rw [itr_in h3]
    exact ih (i + 1) N z (by omega) h4 (fun j w q1 q2 => h1 j w (by omega) (by omega)) (fun w q => h2 w (by rw [show i + (k + 1) = i + 1 + k by omega]; exact q))
-- again and again
def itn (f : Nat → Nat) (x : Nat) : Nat → Nat
  | 0 => x
  | i + 1 => f (itn f x i)
theorem itn_lt {f : Nat → Nat} (hl : ∀ x, x < 1024 → f x < 1024) {x : Nat} (hx : x < 1024) : ∀ i, itn f x i < 1024 := by
  intro i
  induction i with
  | zero => exact hx
  | succ i ih => exact hl _ ih
theorem itn_st {f : Nat → Nat} {x i : Nat} (h : itn f x (i + 1) = itn f x i) : ∀ j, itn f x (i + j) = itn f x i := by
  intro j
  induction j with
  | zero => rfl
  | succ j ih => show f (itn f x (i + j)) = _; rw [ih]; exact h
theorem fix10 {f : Nat → Nat} (hl : ∀ x, x < 1024 → f x < 1024) (hs : ∀ x, sub x (f x)) {x : Nat} (hx : x < 1024) : f (itn f x 10) = itn f x 10 := by
  have h1 : ∃ i, i ≤ 10 ∧ itn f x (i + 1) = itn f x i := by
    refine Classical.byContradiction (fun hc => ?_)
    have key : ∀ i, i ≤ 11 → i ≤ pc (itn f x i) := by
      intro i
      induction i with
      | zero => intro _; exact Nat.zero_le _
      | succ i ih =>
        intro hi
        have h1 := ih (by omega)
        have h2 := pc_lt (itn_lt hl hx (i + 1)) (hs (itn f x i)) (fun q => hc ⟨i, by omega, q.symm⟩)
        have h3 : pc (itn f x i) < pc (itn f x (i + 1)) := h2
        omega
    have := key 11 (by omega)
    have := pc_le (itn f x 11)
    omega
  obtain ⟨i, h1, h2⟩ := h1
  have h3 := itn_st h2 (10 - i)
  have h4 := itn_st h2 (11 - i)
  rw [show i + (10 - i) = 10 by omega] at h3
  rw [show i + (11 - i) = 11 by omega] at h4
  show itn f x 11 = itn f x 10
  rw [h3, h4]
theorem itn_ext {f : Nat → Nat} (hs : ∀ x, sub x (f x)) (x : Nat) : ∀ i, sub x (itn f x i) := by
  intro i
  induction i with
  | zero => exact sub_rfl _
  | succ i ih => exact sub_tr ih (hs _)
-- directly behind
def dd1 (F : Fl) (s t acc : Nat) : Nat := if s.testBit (fA F t) = true ∨ s.testBit (fB F t) = true then acc ||| 2 ^ fC F t else acc
def ddn (F : Fl) (s k : Nat) : Nat := fo (dd1 F s) 0 k
def dd (F : Fl) (s : Nat) : Nat := ddn F s (fM F)
theorem ddn_tb (F : Fl) (s c : Nat) : ∀ k, (ddn F s k).testBit c = true ↔ ∃ t, t < k ∧ fC F t = c ∧ (s.testBit (fA F t) = true ∨ s.testBit (fB F t) = true) := by
  intro k
  induction k with
  | zero =>
    show (0 : Nat).testBit c = true ↔ _
    rw [Nat.zero_testBit]
    constructor
    · intro q; cases q
    · rintro ⟨t, q, -⟩; omega
  | succ k ih =>
    show (dd1 F s k (ddn F s k)).testBit c = true ↔ _
    unfold dd1
    by_cases c1 : s.testBit (fA F k) = true ∨ s.testBit (fB F k) = true
    · rw [if_pos c1, tb_or2, Bool.or_eq_true, decide_eq_true_eq, ih]
      constructor
      · rintro (⟨t, q1, q2⟩ | q)
        · exact ⟨t, by omega, q2⟩
        · exact ⟨k, by omega, q, c1⟩
      · rintro ⟨t, q1, q2, q3⟩
        by_cases e : t = k
        · subst e; exact Or.inr q2
        · exact Or.inl ⟨t, by omega, q2, q3⟩
    · rw [if_neg c1, ih]
      constructor
      · rintro ⟨t, q1, q2⟩; exact ⟨t, by omega, q2⟩
      · rintro ⟨t, q1, q2, q3⟩
        by_cases e : t = k
        · subst e; exact absurd q3 c1
        · exact ⟨t, by omega, q2, q3⟩
theorem dd_tb {F : Fl} {s c : Nat} : (dd F s).testBit c = true ↔ ∃ t, t < fM F ∧ fC F t = c ∧ (s.testBit (fA F t) = true ∨ s.testBit (fB F t) = true) := ddn_tb F s c _
theorem ddn_lt {F : Fl} (hF : OKL F) (s : Nat) : ∀ k, k ≤ fM F → ddn F s k < 1024 := by
  intro k
  induction k with
  | zero => intro _; show (0 : Nat) < 1024; decide
  | succ k ih =>
    intro hk
    show dd1 F s k (ddn F s k) < 1024
    unfold dd1
    split
    · exact or10 (ih (by omega)) (pow10 (hF.c10 (by omega : k < fM F)).2.2)
    · exact ih (by omega)
theorem dd_lt {F : Fl} (hF : OKL F) (s : Nat) : dd F s < 1024 := ddn_lt hF s _ (Nat.le_refl _)
theorem dd_mono {F : Fl} {x y : Nat} (h : sub x y) : sub (dd F x) (dd F y) := fun c hc => by
  rw [dd_tb] at hc ⊢
  obtain ⟨t, q1, q2, q3⟩ := hc
  exact ⟨t, q1, q2, q3.imp (h _) (h _)⟩
theorem or_and0 {s a b : Nat} : (2 ^ a ||| 2 ^ b) &&& s = 0 ↔ ¬ (s.testBit a = true ∨ s.testBit b = true) := by
  constructor
  · intro h q
    have key : ∀ i, s.testBit i = true → (2 ^ a ||| 2 ^ b).testBit i = false := by
      intro i hi
      have := congrArg (fun z => Nat.testBit z i) h
      simp only [Nat.testBit_and, Nat.zero_testBit, hi, Bool.and_true] at this
      exact this
    rcases q with q | q
    · have := key a q; rw [Nat.testBit_or, Nat.testBit_two_pow_self] at this; cases this
    · have := key b q; rw [Nat.testBit_or, Nat.testBit_two_pow_self, Bool.or_true] at this; cases this
  · intro q
    apply Nat.eq_of_testBit_eq
    intro i
    rw [Nat.testBit_and, tb_or2, Nat.testBit_two_pow, Nat.zero_testBit]
    cases hs : s.testBit i
    · simp
    · have h1 : a ≠ i := fun e => q (Or.inl (by rw [e]; exact hs))
      have h2 : b ≠ i := fun e => q (Or.inr (by rw [e]; exact hs))
      simp [h1, h2]
section
variable {F : Fl} {σX σM : Sg}
theorem x_behind (hF : OKF F) (h : FX 12 F σX) {s : Nat} (hs : s < 1024) : f_X1_directlyBehind 12 (nI s) σX = some (nI (dd F s)) := by
  have hm := hF.m10
  unfold f_X1_directlyBehind f_X1_directlyBehind_4
  refine itr_run (fun k => (nI (ddn F s k), nI k)) (fM F) rfl (by omega) (fun k hk => ?_) ?_
  · have hq := h.1.2.2.2.1 k hk
    obtain ⟨ca, cb, cc⟩ := hF.1.c10 hk
    show f_X1_directlyBehind_4s 12 (nI s) (nI (ddn F s k)) (nI k) σX = some (.inl (nI (ddn F s (k + 1)), nI (k + 1)))
    unfold f_X1_directlyBehind_4s
    have e1 : f_X1_originsOf 12 (nI k) σX = some (nI (2 ^ fA F k ||| 2 ^ fB F k)) := by
      unfold f_X1_originsOf
      rw [bind_ok (x_at (by omega) (by decide)), hq.2.2.2]
    have e2 : f_X1_endOf 12 (nI k) σX = some (nI (fC F k)) := by
      unfold f_X1_endOf
      rw [bind_ok (x_at (by omega) (by decide)), hq.2.2.1]
    rw [h.1.2.1, if_neg (nI_ge hk (by omega)), bind_ok e1, z_and]
    by_cases c : s.testBit (fA F k) = true ∨ s.testBit (fB F k) = true
    · rw [if_neg (z_ne0 (lt31 (and10 _ hs)) (fun q => or_and0.mp q c)), bind_ok e2, z_bit (by omega), z_or, nm_eq, show ddn F s (k + 1) = ddn F s k ||| 2 ^ fC F k from if_pos c]
      unfold f_X1_directlyBehind_32
      rw [nm_eq, nI_1]
    · rw [or_and0.mpr c, if_pos z_e0, show ddn F s (k + 1) = ddn F s k from if_neg c]
      unfold f_X1_directlyBehind_32
      rw [nm_eq, nI_1]
  · show f_X1_directlyBehind_4s 12 (nI s) (nI (ddn F s (fM F))) (nI (fM F)) σX = _
    unfold f_X1_directlyBehind_4s
    rw [h.1.2.1, if_pos (nI_le (Nat.le_refl _) (by omega))]
    rfl
/-- all that is behind a stone -/
def evb (F : Fl) (v : Nat) : Nat := itn (fun x => x ||| dd F x) (dd F (2 ^ v)) 10
/-- closed, behind v -/
def cbe (F : Fl) (v y : Nat) : Prop := ∀ t, t < fM F → (fA F t = v ∨ fB F t = v ∨ y.testBit (fA F t) = true ∨ y.testBit (fB F t) = true) → y.testBit (fC F t) = true
theorem evb_lt (hF : OKL F) (v : Nat) : evb F v < 1024 := itn_lt (fun x hx => or10 hx (dd_lt hF x)) (dd_lt hF _) 10
theorem evb_min {v y : Nat} (h : cbe F v y) : sub (evb F v) y := by
  have key : ∀ i, sub (itn (fun x => x ||| dd F x) (dd F (2 ^ v)) i) y := by
    intro i
    induction i with
    | zero =>
      intro c hc
      obtain ⟨t, q1, rfl, q3⟩ := dd_tb.mp hc
      refine h t q1 ?_
      simp only [Nat.testBit_two_pow, decide_eq_true_eq] at q3
      rcases q3 with q | q
      · exact Or.inl q.symm
      · exact Or.inr (Or.inl q.symm)
    | succ i ih =>
      intro c hc
      have hc2 : (itn (fun x => x ||| dd F x) (dd F (2 ^ v)) i ||| dd F (itn (fun x => x ||| dd F x) (dd F (2 ^ v)) i)).testBit c = true := hc
      rw [Nat.testBit_or, Bool.or_eq_true] at hc2
      rcases hc2 with q | q
      · exact ih c q
      · obtain ⟨t, q1, rfl, q3⟩ := dd_tb.mp q
        exact h t q1 (Or.inr (Or.inr (q3.imp (ih _) (ih _))))
  exact key 10
theorem evb_cld (hF : OKL F) (v : Nat) : cbe F v (evb F v) := by
  have hfx : evb F v ||| dd F (evb F v) = evb F v := fix10 (f := fun x => x ||| dd F x) (fun x hx => or10 hx (dd_lt hF x)) (fun x => sub_or) (dd_lt hF (2 ^ v))
  have h0 : sub (dd F (2 ^ v)) (evb F v) := itn_ext (fun x => sub_or) _ 10
  intro t ht hq
  have two : ∀ s, (s.testBit (fA F t) = true ∨ s.testBit (fB F t) = true) → (dd F s).testBit (fC F t) = true := fun s q => dd_tb.mpr ⟨t, ht, rfl, q⟩
  rcases hq with q | q | q
  · exact h0 _ (two _ (Or.inl (by rw [q]; exact Nat.testBit_two_pow_self)))
  · exact h0 _ (two _ (Or.inr (by rw [q]; exact Nat.testBit_two_pow_self)))
  · rw [← hfx, Nat.testBit_or, two _ q, Bool.or_true]
theorem x_evb (hF : OKF F) (h : FX 12 F σX) {v : Nat} (hv : v < 10) : f_X5_everBehind (nI v) σX = some (nI (evb F v)) := by
  unfold f_X5_everBehind
  rw [z_bit (by omega), bind_ok (x_behind hF h (pow10 hv))]
  unfold f_X5_everBehind_10
  refine itr_run (fun k => (nI (itn (fun x => x ||| dd F x) (dd F (2 ^ v)) k), nI k)) 10 rfl (by decide) (fun k hk => ?_) ?_
  · show f_X5_everBehind_10s (nI (itn (fun x => x ||| dd F x) (dd F (2 ^ v)) k)) (nI k) σX = _
    unfold f_X5_everBehind_10s
    rw [z_lit 10, if_neg (nI_ge hk (by decide)), bind_ok (x_behind hF h (itn_lt (fun x hx => or10 hx (dd_lt hF.1 x)) (dd_lt hF.1 _) k)), nm_eq, nm_eq, nI_1, z_or]
    rfl
  · show f_X5_everBehind_10s (nI (evb F v)) (nI 10) σX = _
    unfold f_X5_everBehind_10s
    rw [z_lit 10, if_pos (nI_le (Nat.le_refl _) (by decide))]
-- the reference's way
def ld1 (F : Fl) (v t y : Nat) : Nat := if fA F t = v ∨ fB F t = v ∨ y.testBit (fA F t) = true ∨ y.testBit (fB F t) = true then y ||| 2 ^ fC F t else y
def lds (F : Fl) (v y : Nat) : Nat := fo (ld1 F v) y (fM F)
def lead (F : Fl) (v : Nat) : Nat := itn (lds F v) 0 10
theorem ld1_sub (v t y : Nat) : sub y (ld1 F v t y) := by unfold ld1; split; exact sub_or; exact sub_rfl _
theorem ldn_up (v y : Nat) : ∀ j k, k ≤ j → sub (fo (ld1 F v) y k) (fo (ld1 F v) y j) := by
  intro j
  induction j with
  | zero => intro k hk; rw [Nat.le_zero.mp hk]; exact sub_rfl _
  | succ j ih =>
    intro k hk
    rcases Nat.lt_or_ge k (j + 1) with q | q
    · exact sub_tr (ih k (by omega)) (ld1_sub _ _ _)
    · rw [show k = j + 1 by omega]; exact sub_rfl _
theorem ldn_lt (hF : OKL F) {v y : Nat} (hy : y < 1024) : ∀ k, k ≤ fM F → fo (ld1 F v) y k < 1024 := by
  intro k
  induction k with
  | zero => intro _; exact hy
  | succ k ih =>
    intro hk
    rw [fo_s]
    unfold ld1
    split
    · exact or10 (ih (by omega)) (pow10 (hF.c10 (by omega : k < fM F)).2.2)
    · exact ih (by omega)
theorem lds_lt (hF : OKL F) {v : Nat} : ∀ y, y < 1024 → lds F v y < 1024 := fun _ hy => ldn_lt hF hy _ (Nat.le_refl _)
theorem lead_lt (hF : OKL F) (v : Nat) : lead F v < 1024 := itn_lt (lds_lt hF) (by decide) 10
theorem lead_min {v y : Nat} (h : cbe F v y) : sub (lead F v) y := by
  have one : ∀ x, sub x y → ∀ k, k ≤ fM F → sub (fo (ld1 F v) x k) y := by
    intro x hx k
    induction k with
    | zero => intro _; exact hx
    | succ k ih =>
      intro hk
      have h1 := ih (by omega)
      rw [fo_s]
      unfold ld1
      split
      · rename_i hq
        intro i hi
        rw [tb_or2] at hi
        simp only [Bool.or_eq_true, decide_eq_true_eq] at hi
        rcases hi with hi | rfl
        · exact h1 i hi
        · refine h k (by omega) ?_
          rcases hq with q | q | q | q
          · exact Or.inl q
          · exact Or.inr (Or.inl q)
          · exact Or.inr (Or.inr (Or.inl (h1 _ q)))
          · exact Or.inr (Or.inr (Or.inr (h1 _ q)))
      · exact h1
  have key : ∀ i, sub (itn (lds F v) 0 i) y := by
    intro i
    induction i with
    | zero => intro k hk; rw [show itn (lds F v) 0 0 = 0 from rfl, Nat.zero_testBit] at hk; cases hk
    | succ i ih => exact one _ ih _ (Nat.le_refl _)
  exact key 10
theorem lead_cld (hF : OKL F) (v : Nat) : cbe F v (lead F v) := by
  have hfx : lds F v (lead F v) = lead F v := fix10 (lds_lt hF) (fun x => ldn_up v x _ 0 (Nat.zero_le _)) (by decide)
  intro t ht hq
  have e1 : fo (ld1 F v) (lead F v) t = lead F v := sub_as (by have := ldn_up (F := F) v (lead F v) (fM F) t (by omega); rw [show fo (ld1 F v) (lead F v) (fM F) = lead F v from hfx] at this; exact this) (ldn_up v _ t 0 (Nat.zero_le _))
  have e2 : sub (fo (ld1 F v) (lead F v) (t + 1)) (lead F v) := by have := ldn_up (F := F) v (lead F v) (fM F) (t + 1) (by omega); rw [show fo (ld1 F v) (lead F v) (fM F) = lead F v from hfx] at this; exact this
  rw [fo_s, e1] at e2
  unfold ld1 at e2
  rw [if_pos hq] at e2
  exact e2 _ (by rw [tb_or2]; simp)
theorem evb_lead (hF : OKL F) (v : Nat) : evb F v = lead F v := sub_as (evb_min (lead_cld hF v)) (lead_min (evb_cld hF v))
theorem m_leads (hF : OKF F) (h : FM 0 F σM) {v : Nat} (hv : v < 10) : f_X9_leads (nI v) σM = some (nI (lead F v)) := by
  have hm := hF.m10
  unfold f_X9_leads f_X9_leads_4
  refine itr_run (fun k => (nI (itn (lds F v) 0 k), nI k)) 10 rfl (by decide) (fun i hi => ?_) ?_
  · show f_X9_leads_4s (nI v) (nI (itn (lds F v) 0 i)) (nI i) σM = some (.inl (nI (itn (lds F v) 0 (i + 1)), nI (i + 1)))
    have hy := itn_lt (lds_lt hF.1 (v := v)) (show 0 < 1024 by decide) i
    show f_X9_leads_4s (nI v) (nI (itn (lds F v) 0 i)) (nI i) σM = some (.inl (nI (lds F v (itn (lds F v) 0 i)), nI (i + 1)))
    generalize itn (lds F v) 0 i = y at hy
    unfold f_X9_leads_4s
    rw [z_lit 10, if_neg (nI_ge hi (by decide))]
    unfold f_X9_leads_13
    refine itr_run (fun k => (nI (fo (ld1 F v) y k), nI k)) (fM F) rfl (by omega) (fun k hk => ?_) ?_
    · obtain ⟨ca, cb, cc⟩ := hF.1.c10 hk
      have hz := ldn_lt hF.1 (v := v) hy k (by omega)
      show f_X9_leads_13s (nI v) (nI (fo (ld1 F v) y k)) (nI i) (nI k) σM = some (.inl (nI (fo (ld1 F v) y (k + 1)), nI (k + 1)))
      rw [fo_s]
      generalize fo (ld1 F v) y k = z at hz
      have yes : ld1 F v k z = z ||| 2 ^ fC F k → f_X9_leads_84 (nI v) (nI z) (nI i) (nI k) σM = some (.inl (nI (ld1 F v k z), nI (k + 1))) := by
        intro e
        unfold f_X9_leads_84 f_X9_leads_89
        rw [if_neg (by decide : ¬ (1 : Int32) = 0), bind_ok (m_C hF h hk), z_bit (by omega)]
        unfold f_X9_leads_113
        rw [nm_eq, nm_eq, nI_1, z_or, e]
      unfold f_X9_leads_13s
      rw [bind_ok (m_w4 h), if_neg (nI_ge hk (by omega)), bind_ok (m_A hF h hk)]
      by_cases c1 : fA F k = v
      · rw [if_pos (show nI (fA F k) = nI v by rw [c1])]
        exact yes (if_pos (Or.inl c1))
      rw [if_neg (fun q => c1 ((nI_eq (a := fA F k) (b := v) (by omega) (by omega)).mp q)), bind_ok (m_B hF h hk)]
      by_cases c2 : fB F k = v
      · rw [if_pos (show nI (fB F k) = nI v by rw [c2])]
        exact yes (if_pos (Or.inr (Or.inl c2)))
      rw [if_neg (fun q => c2 ((nI_eq (a := fB F k) (b := v) (by omega) (by omega)).mp q)), bind_ok (m_A hF h hk), bind_ok (m_has (lt31 hz) (by omega))]
      cases c3 : z.testBit (fA F k)
      case true =>
        rw [zb_1.mpr c3, if_neg (by decide : ¬ (1 : Int32) = 0)]
        exact yes (if_pos (Or.inr (Or.inr (Or.inl c3))))
      rw [zb_0.mpr c3, if_pos rfl, bind_ok (m_B hF h hk), bind_ok (m_has (lt31 hz) (by omega))]
      cases c4 : z.testBit (fB F k)
      case true =>
        rw [zb_1.mpr c4, if_neg (by decide : ¬ (1 : Int32) = 0)]
        exact yes (if_pos (Or.inr (Or.inr (Or.inr c4))))
      rw [zb_0.mpr c4, if_pos rfl, show ld1 F v k z = z from if_neg (by simp [c1, c2, c3, c4])]
      unfold f_X9_leads_89
      rw [if_pos rfl]
      unfold f_X9_leads_113
      rw [nm_eq, nm_eq, nI_1, z_or0]
    · show f_X9_leads_13s (nI v) (nI (lds F v y)) (nI i) (nI (fM F)) σM = _
      unfold f_X9_leads_13s
      rw [bind_ok (m_w4 h), if_pos (nI_le (Nat.le_refl _) (by omega)), nm_eq, nI_1]
  · show f_X9_leads_4s (nI v) (nI (lead F v)) (nI 10) σM = _
    unfold f_X9_leads_4s
    rw [z_lit 10, if_pos (nI_le (Nat.le_refl _) (by decide))]
/-- the lowest with p, from i, k of them -/
def low (p : Nat → Bool) : Nat → Nat → Option Nat
  | _, 0 => none
  | i, k + 1 => if p i = true then some i else low p (i + 1) k
theorem low_none (p : Nat → Bool) : ∀ k i, low p i k = none ↔ ∀ j, i ≤ j → j < i + k → p j = false := by
  intro k
  induction k with
  | zero => intro i; exact ⟨fun _ j h1 h2 => by omega, fun _ => rfl⟩
  | succ k ih =>
    intro i
    unfold low
    by_cases c : p i = true
    · rw [if_pos c]
      constructor
      · intro q; cases q
      · intro q; have := q i (Nat.le_refl _) (by omega); rw [c] at this; cases this
    · rw [if_neg c, ih]
      constructor
      · intro q j h1 h2
        by_cases e : j = i
        · subst e; simpa using c
        · exact q j (by omega) (by omega)
      · intro q j h1 h2
        exact q j (by omega) (by omega)
theorem low_lt (p : Nat → Bool) : ∀ k i b, low p i k = some b → b < i + k := by
  intro k
  induction k with
  | zero => intro i b h; cases h
  | succ k ih =>
    intro i b h
    unfold low at h
    by_cases c : p i = true
    · rw [if_pos c] at h; cases h; omega
    · rw [if_neg c] at h
      have := ih _ _ h
      omega
def cir (F : Fl) : Option Nat := low (fun v => (lead F v).testBit v) 0 (fN F)
theorem x_circle (hF : OKF F) (h : FX 12 F σX) : f_X5_lowestInCircle σX = some (cd (cir F)) := by
  have hn := hF.1.1
  have key : ∀ k i N, i + k = fN F → k < N → itr N (fun s => f_X5_lowestInCircle_2s s σX) (nI i) = some (cd (low (fun v => (lead F v).testBit v) i k)) := by
    intro k
    induction k with
    | zero =>
      intro i N hi hN
      obtain ⟨N, rfl⟩ : ∃ M, N = M + 1 := ⟨N - 1, by omega⟩
      refine itr_out ?_
      show f_X5_lowestInCircle_2s (nI i) σX = _
      unfold f_X5_lowestInCircle_2s
      rw [bind_ok (x_stones h), if_pos (nI_le (by omega) (by omega))]
      rfl
    | succ k ih =>
      intro i N hi hN
      obtain ⟨N, rfl⟩ : ∃ M, N = M + 1 := ⟨N - 1, by omega⟩
      have hh : f_X5_lowestInCircle_2s (nI i) σX = (if (lead F i).testBit i = true then some (Sum.inr (nI i)) else some (Sum.inl (nI (i + 1))) : Option (Int32 ⊕ Int32)) := by
        unfold f_X5_lowestInCircle_2s
        rw [bind_ok (x_stones h), if_neg (nI_ge (by omega) (by omega)), bind_ok (x_evb hF h (by omega)), evb_lead hF.1, bind_ok (x_has (lt31 (lead_lt hF.1 i)) (by omega))]
        cases c : (lead F i).testBit i
        · rw [zb_0.mpr c, if_pos rfl, nm_eq, nI_1]; rfl
        · rw [zb_1.mpr c, if_neg (by decide)]; rfl
      unfold low
      by_cases c : (lead F i).testBit i = true
      · rw [if_pos c] at hh
        rw [if_pos c]
        exact itr_out hh
      · rw [if_neg c] at hh
        rw [if_neg c, itr_in hh]
        exact ih (i + 1) N (by omega) (by omega)
  unfold f_X5_lowestInCircle f_X5_lowestInCircle_2
  exact key (fN F) 0 3000 (by omega) (by omega)
theorem m_circle (hF : OKF F) (h : FM 0 F σM) : f_X9_circle σM = some (cd (cir F)) := by
  have hn := hF.1.1
  unfold f_X9_circle
  rw [bind_ok (m_w0 h), nm_eq, show nI (fN F) - (1 : Int32) = nI (fN F - 1) from pk_sub (b := 1) hn.1]
  unfold f_X9_circle_12
  refine itr_run (fun k => (cd (low (fun v => (lead F v).testBit v) (fN F - k) k), sI (fN F - 1) k)) (fN F) ?_ (by omega) (fun k hk => ?_) ?_
  · show (-4, nI (fN F - 1)) = (-4, sI (fN F - 1) 0)
    rw [sI_in (by omega), Nat.sub_zero]
  · show f_X9_circle_12s (cd (low (fun v => (lead F v).testBit v) (fN F - k) k)) (sI (fN F - 1) k) σM = some (.inl (cd (low (fun v => (lead F v).testBit v) (fN F - (k + 1)) (k + 1)), sI (fN F - 1) (k + 1)))
    rw [sI_in (by omega)]
    unfold f_X9_circle_12s
    rw [if_neg (nI_pos (by omega)), bind_ok (m_leads hF h (by omega)), bind_ok (m_has (lt31 (lead_lt hF.1 _)) (by omega))]
    obtain ⟨i, ei⟩ : ∃ i, i = fN F - 1 - k := ⟨_, rfl⟩
    rw [show fN F - k = i + 1 by omega, show fN F - (k + 1) = i by omega, ← ei]
    have go : ∀ a, f_X9_circle_33 (nI i) a σM = some (.inl (a, sI (fN F - 1) (k + 1))) := by
      intro a
      unfold f_X9_circle_33
      rw [nm_eq, ei, sI_s (by omega)]
    cases c : (lead F i).testBit i
    · rw [zb_0.mpr c, if_pos rfl, go, show low (fun v => (lead F v).testBit v) i (k + 1) = low (fun v => (lead F v).testBit v) (i + 1) k from if_neg (by simp [c])]
    · rw [zb_1.mpr c, if_neg (by decide), go, show low (fun v => (lead F v).testBit v) i (k + 1) = some i from if_pos c]
      rfl
  · show f_X9_circle_12s (cd (low (fun v => (lead F v).testBit v) (fN F - fN F) (fN F))) (sI (fN F - 1) (fN F)) σM = _
    unfold f_X9_circle_12s
    have e : sI (fN F - 1) (fN F) = -1 := by
      have := sI_out (fN F - 1)
      rw [show fN F - 1 + 1 = fN F by omega] at this
      exact this
    rw [e, if_pos (by decide), Nat.sub_self]
    rfl
/-- promise 21: circle -/
theorem q_circle (hF : OKF F) (hX : FX 12 F σX) (hM : FM 0 F σM) : ∃ r, f_X8_circle σX = some r ∧ f_X9_circle σM = some r := by
  refine ⟨_, ?_, m_circle hF hM⟩
  unfold f_X8_circle
  rw [bind_ok (x_circle hF hX)]
end
