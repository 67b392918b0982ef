section
variable {F : Fl} {σX σM : Sg}
def mf (f : Nat) : Nat := if f = 1000 then 100 else f
theorem mf_1 : mf 1000 = 100 := rfl
theorem mf_0 {f : Nat} (h : f ≤ 11) : mf f = f := if_neg (by omega)
/-- the reference's table from a set up -/
def TM (F : Fl) (j : Nat) (z : Sg) (n : Nat) : Prop := ∀ a, n ≤ a → a < 2 ^ fN F → z.1 6 a = nI (mf (wk F j a).1) ∧ z.2 5 a = lN (wk F j a).2
def eqM (z σ : Sg) : Prop := ∀ k, k ≠ 6 → z.1 k = σ.1 k
theorem eqM_tr {x y z : Sg} (h : eqM x y) (g : eqM y z) : eqM x z := fun k hk => (h k hk).trans (g k hk)
theorem eqM_up (z : Sg) (u : Nat) (x : Int32) (y : Int64) : eqM (up1 (upL z 5 u y) 6 u x) z := by
  intro k hk
  funext i
  rw [up1_eq, if_neg (fun q => hk q.1), upL_1]
theorem eqM_up2 (z : Sg) (u : Nat) (x : Int32) (y : Int64) : eqM (upL (up1 z 6 u x) 5 u y) z := by
  intro k hk
  funext i
  rw [upL_1, up1_eq, if_neg (fun q => hk q.1)]
theorem m_184 {y : Sg} {j u k a w g : Nat} (hu : u < 1024) (ha : a < 1024) (hau : a ≠ u) (hw : w ≤ 10) (hg : g ≤ 100) (h1 : y.1 6 a = nI w) (h2 : y.1 6 u = nI g) (R : Int64) :
    f_X9_layWalks_184 (nI j) (nI u) (nI k) (nI a) (nI u) R y = some (.inl (nI (k + 1), up1 (upL y 5 u R) 6 u (nI (min (w + 1) g)))) := by
  unfold f_X9_layWalks_184
  rw [bind_ok (astL_ok hu (by decide)), bind_ok (ald_ok ha (by decide)), bind_ok (ald_ok hu (by decide)), upL_1, h1, h2, nI_1]
  have fin : ∀ x, f_X9_layWalks_226 (nI j) (nI u) (nI k) (nI u) x (upL y 5 u R) = some (.inl (nI (k + 1), up1 (upL y 5 u R) 6 u x)) := by
    intro x
    unfold f_X9_layWalks_226
    rw [bind_ok (ast_ok hu (by decide))]
    unfold f_X9_layWalks_227
    rw [nm_eq, nI_1]
  by_cases c : g ≤ w + 1
  · rw [if_pos (nI_le c (by omega)), bind_ok (ald_ok hu (by decide)), upL_1, h2, fin, Nat.min_eq_right c]
  · rw [if_neg (nI_ge (by omega) (by omega)), bind_ok (ald_ok ha (by decide)), upL_1, h1, nI_1, fin, Nat.min_eq_left (by omega)]
theorem m_lay1 (hF : OKF F) {z : Sg} (hM : FM 0 F z) {j u : Nat} (hj : j < 10) (hu : u < 2 ^ fN F) (hT : TM F j z (u + 1)) :
    ∃ z', f_X9_layWalks_11s (nI j) (nI u) z = some (.inl (nI u + (-1), z')) ∧ eqM z' z ∧ TM F j z' u := by
  have hm := hF.m10
  have hm1 := hF.2.1
  have h10 := p10 hF.1.1.2
  have hu10 : u < 1024 := by omega
  have hN := hF.1.1
  have start : ∀ x y, FM 0 F (upL (up1 z 6 u x) 5 u y) := fun x y => FM_same (eqM_up2 z u x y 1 (by decide)) hM
  unfold f_X9_layWalks_11s
  rw [if_neg (nI_pos (by omega)), bind_ok (m_has (lt31 hu10) (by omega))]
  cases c : u.testBit j
  case true =>
    rw [zb_1.mpr c, if_neg (by decide : ¬ (1 : Int32) = 0)]
    refine ⟨upL (up1 z 6 u 0) 5 u 1, ?_, eqM_up2 _ _ _ _, fun a h1 h2 => ?_⟩
    · unfold f_X9_layWalks_34
      rw [bind_ok (ast_ok hu10 (by decide)), bind_ok (m_has (lt31 hu10) (by omega)), zb_1.mpr c, if_neg (by decide : ¬ (1 : Int32) = 0)]
      unfold f_X9_layWalks_53
      rw [bind_ok (astL_ok hu10 (by decide))]
      unfold f_X9_layWalks_56
      refine itr_out ?_
      show f_X9_layWalks_56s (nI j) (nI u) 0 (upL (up1 z 6 u 0) 5 u 1) = _
      unfold f_X9_layWalks_56s
      rw [bind_ok (m_w4 (start _ _)), if_neg (show ¬ nI (fM F) ≤ (0 : Int32) from nI_ge (a := 0) (b := fM F) (by omega) (by omega)), bind_ok (m_has (lt31 hu10) (by omega)), zb_1.mpr c, if_neg (by decide : ¬ (1 : Int32) = 0)]
      rfl
    · rw [upL_1, up1_eq, upL_eq, up1_2]
      by_cases e : a = u
      · subst e
        rw [if_pos ⟨rfl, rfl⟩, if_pos ⟨rfl, rfl⟩, wk_yes hF.1 hu10 c]
        exact ⟨rfl, rfl⟩
      · rw [if_neg (fun q => e q.2), if_neg (fun q => e q.2)]
        exact hT a (by omega) h2
  rw [zb_0.mpr c, if_pos rfl]
  unfold f_X9_layWalks_34
  rw [bind_ok (ast_ok hu10 (by decide)), bind_ok (m_has (lt31 hu10) (by omega)), zb_0.mpr c, if_pos rfl]
  unfold f_X9_layWalks_53
  rw [bind_ok (astL_ok hu10 (by decide))]
  unfold f_X9_layWalks_56
  have := itr_ivv (G := fun s => f_X9_layWalks_56s (nI j) (nI u) s.1 s.2) (fun (k : Nat) (y : Int32 × Sg) => y.1 = nI k ∧ eqM y.2 z ∧ y.2.1 6 u = nI (mf (wfo F j u k).1) ∧ y.2.2 5 u = lN (wfo F j u k).2 ∧ TM F j y.2 (u + 1)) (fun (x : (Int32 × Sg) ⊕ Sg) => ∃ z', x = Sum.inl (nI u + (-1), z') ∧ eqM z' z ∧ TM F j z' u) (fM F) 0 3000 (0, upL (up1 z 6 u 100) 5 u 0) (by omega) ⟨rfl, eqM_up2 _ _ _ _, ?_, ?_, fun a h1 h2 => ?_⟩ ?_ ?_
  · obtain ⟨x, e1, z', rfl, e2, e3⟩ := this
    exact ⟨z', e1, e2, e3⟩
  · show (upL (up1 z 6 u 100) 5 u 0).1 6 u = nI 100
    rw [upL_1, up1_eq, if_pos ⟨rfl, rfl⟩]; rfl
  · show (upL (up1 z 6 u 100) 5 u 0).2 5 u = lN 0
    rw [upL_eq, if_pos ⟨rfl, rfl⟩]; rfl
  · show (upL (up1 z 6 u 100) 5 u 0).1 6 a = _ ∧ (upL (up1 z 6 u 100) 5 u 0).2 5 a = _
    rw [upL_1, up1_eq, upL_eq, up1_2, if_neg (fun q => by omega), if_neg (fun q => by omega)]
    exact hT a h1 h2
  · rintro k ⟨y1, y⟩ - hk ⟨rfl, q2, q3, q4, q5⟩
    rw [Nat.zero_add] at hk
    have q2' : eqM y z := q2
    have q3' : y.1 6 u = nI (mf (wfo F j u k).1) := q3
    have q4' : y.2 5 u = lN (wfo F j u k).2 := q4
    have q5' : TM F j y (u + 1) := q5
    have hy : FM 0 F y := FM_same (q2' 1 (by decide)) hM
    have hf := wfo_f hF.1 (j := j) hu10 k (by omega)
    show ∃ z', f_X9_layWalks_56s (nI j) (nI u) (nI k) y = some (.inl z') ∧ _
    rw [wfo_s]
    revert q3' q4' hf
    clear q3 q4
    generalize wfo F j u k = w0
    obtain ⟨f, r⟩ := w0
    intro q3 q4 hf
    have hf1 : (f = 1000 ∨ f ≤ 11) ∧ 1 ≤ f := hf
    have q3' : y.1 6 u = nI (mf f) := q3
    have q4' : y.2 5 u = lN r := q4
    obtain ⟨ca, cb, cc⟩ := hF.1.c10 hk
    have hal := aft_lt hF.1 (sl := fTh F) hk hu10
    have skip : ∀ x, f_X9_layWalks_227 (nI j) (nI u) (nI k) x = some (.inl (nI (k + 1), x)) := by
      intro x
      unfold f_X9_layWalks_227
      rw [nm_eq, nI_1]
    unfold f_X9_layWalks_56s
    rw [bind_ok (m_w4 hy), if_neg (nI_ge hk (by omega)), bind_ok (m_has (lt31 hu10) (by omega)), zb_0.mpr c, if_pos rfl, bind_ok (m_C hF hy hk), nm_eq, z_bit (by omega), z_or, bind_ok (m_mayFrom hF hy hk hu10)]
    by_cases e : aft F (fTh F) k u = u
    · rw [if_pos e, if_pos rfl, skip, show wst F u (wk F j) k (f, r) = (f, r) from if_pos (Or.inl e)]
      exact ⟨_, rfl, rfl, q2', q3', q4', q5'⟩
    have hg := aft_gt e
    have ha2 : aft F (fTh F) k u < 2 ^ fN F := by
      rw [aft_eq e]
      exact Nat.or_lt_two_pow hu (Nat.pow_lt_pow_right (by decide) (hF.1.2.2.1 k hk).2.2.1)
    obtain ⟨t1, t2⟩ := q5' _ (show u + 1 ≤ aft F (fTh F) k u by omega) ha2
    have hw := wk_f hF.1 (j := j) hal
    have hwst := show wst F u (wk F j) k (f, r) = if aft F (fTh F) k u = u ∨ (wk F j (aft F (fTh F) k u)).1 = 1000 ∨ f < (wk F j (aft F (fTh F) k u)).1 + 1 then (f, r) else ((wk F j (aft F (fTh F) k u)).1 + 1, (wk F j (aft F (fTh F) k u)).2 + if (wk F j (aft F (fTh F) k u)).1 + 1 = f then r else 0) from rfl
    rw [if_neg e, if_neg (by decide : ¬ (1 : Int32) = 0), ← aft_eq e]
    revert t1 t2 hw hwst
    generalize (wk F j (aft F (fTh F) k u)).1 = w
    generalize (wk F j (aft F (fTh F) k u)).2 = rw_
    intro t1 t2 hw hwst
    rw [bind_ok (ald_ok hal (by decide)), t1]
    by_cases c0 : w = 1000
    · rw [hwst, if_pos (Or.inr (Or.inl c0)), c0, mf_1, if_pos (by decide : (100 : Int32) ≤ nI 100), skip]
      exact ⟨_, rfl, rfl, q2', q3', q4', q5'⟩
    have hw10 : w ≤ 10 := by omega
    rw [mf_0 (by omega)] at t1 ⊢
    have hg100 : mf f ≤ 100 := by unfold mf; split <;> omega
    have upd_ : ∀ R x, f_X9_layWalks_184 (nI j) (nI u) (nI k) (nI (aft F (fTh F) k u)) (nI u) R y = some (.inl (nI (k + 1), x)) → (∃ p, min (w + 1) (mf f) = mf p.1 ∧ R = lN p.2 ∧ wst F u (wk F j) k (f, r) = p) → ∃ z', f_X9_layWalks_184 (nI j) (nI u) (nI k) (nI (aft F (fTh F) k u)) (nI u) R y = some (.inl z') ∧ z'.1 = nI (k + 1) ∧ eqM z'.2 z ∧ z'.2.1 6 u = nI (mf (wst F u (wk F j) k (f, r)).1) ∧ z'.2.2 5 u = lN (wst F u (wk F j) k (f, r)).2 ∧ TM F j z'.2 (u + 1) := by
      rintro R x - ⟨p, p1, p2, p3⟩
      refine ⟨_, m_184 hu10 hal (by omega) hw10 hg100 t1 q3' R, rfl, eqM_tr (eqM_up _ _ _ _) q2', ?_, ?_, fun a h1 h2 => ?_⟩
      · show (up1 (upL y 5 u R) 6 u _).1 6 u = _
        rw [up1_eq, if_pos ⟨rfl, rfl⟩, p1, p3]
      · show (up1 (upL y 5 u R) 6 u _).2 5 u = _
        rw [up1_2, upL_eq, if_pos ⟨rfl, rfl⟩, p2, p3]
      · show (up1 (upL y 5 u R) 6 u _).1 6 a = _ ∧ (up1 (upL y 5 u R) 6 u _).2 5 a = _
        rw [up1_eq, up1_2, upL_eq, upL_1, if_neg (fun q => by omega), if_neg (fun q => by omega)]
        exact q5' a h1 h2
    rw [if_neg (show ¬ (100 : Int32) ≤ nI w from nI_ge (a := w) (b := 100) (by omega) (by decide)), bind_ok (ald_ok hal (by decide)), bind_ok (ald_ok hu10 (by decide)), t1, q3', nI_1]
    by_cases c1 : f < w + 1
    · have hmf := mf_0 (f := f) (by omega)
      rw [hmf] at q3' upd_ ⊢
      rw [if_pos (nI_le (by omega) (by omega)), bind_ok (ald_ok hal (by decide)), bind_ok (ald_ok hu10 (by decide)), t1, q3', nI_1, if_neg (fun q => by have := (nI_eq (a := w + 1) (b := f) (by omega) (by omega)).mp q; omega), bind_ok (aldL_ok hu10 (by decide)), q4']
      refine upd_ _ _ (m_184 hu10 hal (by omega) hw10 (by omega) t1 q3' _) ⟨(f, r), ?_, rfl, ?_⟩
      · show min (w + 1) f = mf f
        rw [hmf]; omega
      · rw [hwst, if_pos (Or.inr (Or.inr c1))]
    have hwn : wst F u (wk F j) k (f, r) = (w + 1, rw_ + if w + 1 = f then r else 0) := by rw [hwst, if_neg (fun q => q.elim e (fun q => q.elim c0 c1))]
    by_cases c2 : w + 1 = f
    · have hmf := mf_0 (f := f) (by omega)
      rw [hmf] at q3' upd_ ⊢
      rw [if_pos (nI_le (by omega) (by omega)), bind_ok (ald_ok hal (by decide)), bind_ok (ald_ok hu10 (by decide)), t1, q3', nI_1, if_pos (show nI (w + 1) = nI f by rw [c2]), bind_ok (aldL_ok hu10 (by decide)), bind_ok (aldL_ok hal (by decide)), q4', t2, lN_add]
      refine upd_ _ _ (m_184 hu10 hal (by omega) hw10 (by omega) t1 q3' _) ⟨(f, r + rw_), ?_, rfl, ?_⟩
      · show min (w + 1) f = mf f
        rw [hmf]; omega
      · rw [hwn, if_pos c2, Nat.add_comm rw_ r, c2]
    · have hmf : w + 1 < mf f := by unfold mf; split <;> omega
      rw [if_neg (nI_ge hmf (by omega)), bind_ok (aldL_ok hal (by decide)), t2]
      refine upd_ _ _ (m_184 hu10 hal (by omega) hw10 hg100 t1 q3' _) ⟨(w + 1, rw_), ?_, rfl, ?_⟩
      · show min (w + 1) (mf f) = mf (w + 1)
        rw [mf_0 (f := w + 1) (by omega)]; omega
      · rw [hwn, if_neg c2]; rfl
  · rintro ⟨y1, y⟩ ⟨q1, q2, q3, q4, q5⟩
    rw [Nat.zero_add] at q1 q3 q4
    have q1' : y1 = nI (fM F) := q1
    subst q1'
    have q2' : eqM y z := q2
    refine ⟨Sum.inl (nI u + (-1), y), ?_, y, rfl, q2, fun a h1 h2 => ?_⟩
    · show f_X9_layWalks_56s (nI j) (nI u) (nI (fM F)) y = _
      unfold f_X9_layWalks_56s
      rw [bind_ok (m_w4 (FM_same (q2' 1 (by decide)) hM)), if_pos (nI_le (Nat.le_refl _) (by omega))]
      rfl
    · by_cases e : a = u
      · subst e
        rw [wk_no hF.1 hu10 c]
        exact ⟨q3, q4⟩
      · exact q5 a (by omega) h2
theorem m_layWalks (hF : OKF F) (hM : FM 0 F σM) {j : Nat} (hj : j < 10) : ∃ z, f_X9_layWalks (nI j) σM = some z ∧ eqM z σM ∧ TM F j z 0 := by
  have h10 := p10 hF.1.1.2
  have h1 : 1 ≤ 2 ^ fN F := Nat.one_le_two_pow
  have hN := hF.1.1
  unfold f_X9_layWalks
  rw [bind_ok (m_w0 hM), nm_eq, z_bit (by omega), show nI (2 ^ fN F) - 1 = nI (2 ^ fN F - 1) from pk_sub (b := 1) h1]
  unfold f_X9_layWalks_11
  refine itr_ivv (fun (k : Nat) (z : Int32 × Sg) => z.1 = sI (2 ^ fN F - 1) k ∧ eqM z.2 σM ∧ TM F j z.2 (2 ^ fN F - k)) (fun (z : Sg) => eqM z σM ∧ TM F j z 0) (2 ^ fN F) 0 3000 _ (by omega) ⟨?_, fun _ _ => rfl, fun a h1 h2 => by omega⟩ ?_ ?_
  · show nI (2 ^ fN F - 1) = sI (2 ^ fN F - 1) 0
    rw [sI_in (by omega), Nat.sub_zero]
  · rintro k ⟨z1, z⟩ - hk ⟨q1, q2, q3⟩
    rw [Nat.zero_add] at hk
    have q1' : z1 = sI (2 ^ fN F - 1) k := q1
    subst q1'
    have q2' : eqM z σM := q2
    obtain ⟨z', e1, e2, e3⟩ := m_lay1 hF (FM_same (q2' 1 (by decide)) hM) hj (u := 2 ^ fN F - 1 - k) (by omega) (fun a h1 h2 => q3 a (by omega) h2)
    refine ⟨(sI (2 ^ fN F - 1) (k + 1), z'), ?_, rfl, eqM_tr e2 q2', fun a h1 h2 => e3 a (by omega) h2⟩
    show f_X9_layWalks_11s (nI j) (sI (2 ^ fN F - 1) k) z = _
    rw [sI_in (by omega), e1, sI_s (by omega)]
  · rintro ⟨z1, z⟩ ⟨q1, q2, q3⟩
    rw [Nat.zero_add] at q1 q3
    have q1' : z1 = sI (2 ^ fN F - 1) (2 ^ fN F) := q1
    subst q1'
    refine ⟨z, ?_, q2, fun a h1 h2 => q3 a (by omega) h2⟩
    show f_X9_layWalks_11s (nI j) (sI (2 ^ fN F - 1) (2 ^ fN F)) z = _
    unfold f_X9_layWalks_11s
    have e : sI (2 ^ fN F - 1) (2 ^ fN F) = -1 := by
      have := sI_out (2 ^ fN F - 1)
      rw [show 2 ^ fN F - 1 + 1 = 2 ^ fN F by omega] at this
      exact this
    rw [e, if_pos (by decide)]
end
