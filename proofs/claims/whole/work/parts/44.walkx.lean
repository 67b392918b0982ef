section
variable {F : Fl} {σX σM : Sg}
/-- the class's table from a set up -/
def TX (F : Fl) (j : Nat) (z : Sg) (n : Nat) : Prop := ∀ a, n ≤ a → a < 1024 → sub a (fTh F) → sub (fSt F) a → z.1 37 a = nI (wk F j a).1 ∧ z.1 38 a = nI (wk F j a).2
theorem aft_th {F : Fl} {t s : Nat} (h : sub s (fTh F)) : sub (aft F (fTh F) t s) (fTh F) := by
  unfold aft
  split
  · rename_i q
    intro i hi
    rw [tb_or2] at hi
    simp only [Bool.or_eq_true, decide_eq_true_eq] at hi
    rcases hi with hi | rfl
    · exact h i hi
    · exact q.2.2
  · exact h
theorem x_put2 (u : Nat) (hu : u < 1024) (x y : Int32) (z : Sg) : f_X7_measureFrom_109 (nI u) x y z = some (up1 (up1 z 37 u x) 38 u y) := by
  unfold f_X7_measureFrom_109
  rw [bind_ok (x_put hu (by decide)), bind_ok (x_put hu (by decide))]
theorem x_mFrom (hF : OKF F) {z : Sg} (hX : FX 12 F z) {j u : Nat} (hj : j < 10) (hu : u < 1024) (h1 : sub u (fTh F)) (h2 : sub (fSt F) u) (hT : TX F j z (u + 1)) :
    f_X7_measureFrom (nI u) (nI j) z = some (up1 (up1 z 37 u (nI (wk F j u).1)) 38 u (nI (wk F j u).2)) := by
  have hm := hF.m10
  have hm1 := hF.2.1
  unfold f_X7_measureFrom
  rw [bind_ok (x_has (lt31 hu) (by omega))]
  cases c : u.testBit j
  case true =>
    rw [zb_1.mpr c, if_neg (by decide : ¬ (1 : Int32) = 0), wk_yes hF.1 hu c]
    unfold f_X7_measureFrom_22 f_X7_measureFrom_25
    refine itr_out ?_
    show f_X7_measureFrom_25s (nI u) 0 1 0 z = _
    unfold f_X7_measureFrom_25s
    rw [bind_ok (x_steps hX), if_neg (show ¬ nI (fM F) ≤ (0 : Int32) from nI_ge (a := 0) (b := fM F) (by omega) (by omega)), if_pos (by decide : (0 : Int32) ≤ 0), x_put2 u hu]
    rfl
  rw [zb_0.mpr c, if_pos rfl, wk_no hF.1 hu c]
  unfold f_X7_measureFrom_22 f_X7_measureFrom_25
  refine itr_run (fun k => (nI (wfo F j u k).1, nI (wfo F j u k).2, nI k)) (fM F) rfl (by omega) (fun k hk => ?_) ?_
  · show f_X7_measureFrom_25s (nI u) (nI (wfo F j u k).1) (nI (wfo F j u k).2) (nI k) z = some (.inl (nI (wfo F j u (k + 1)).1, nI (wfo F j u (k + 1)).2, nI (k + 1)))
    have hf := wfo_f hF.1 (j := j) hu k (by omega)
    rw [wfo_s]
    generalize wfo F j u k = a at hf
    obtain ⟨f, r⟩ := a
    have hf1 : (f = 1000 ∨ f ≤ 11) ∧ 1 ≤ f := hf
    have hal := aft_lt hF.1 (sl := fTh F) hk hu
    have go : ∀ x y : Int32, f_X7_measureFrom_103 (nI u) x y (nI k) z = some (.inl (x, y, nI (k + 1))) := by
      intro x y
      unfold f_X7_measureFrom_103
      rw [nm_eq, nI_1]
    show f_X7_measureFrom_25s (nI u) (nI f) (nI r) (nI k) z = _
    unfold f_X7_measureFrom_25s
    rw [bind_ok (x_steps hX), if_neg (nI_ge hk (by omega)), if_neg (show ¬ nI f ≤ (0 : Int32) from nI_ge (a := 0) (b := f) (by omega) (by omega)), bind_ok (x_aft hF.1 hX hk hu hF.th), bind_ok (x_at hal (by decide)), nm_eq]
    by_cases e : aft F (fTh F) k u = u
    · rw [if_pos (show nI (aft F (fTh F) k u) = nI u by rw [e]), go, show wst F u (wk F j) k (f, r) = (f, r) from if_pos (Or.inl e)]
    rw [if_neg (fun q => e ((nI_eq (lt31 hal) (lt31 hu)).mp q))]
    have hg := aft_gt e
    obtain ⟨t1, t2⟩ := hT _ (show u + 1 ≤ aft F (fTh F) k u by omega) hal (aft_th h1) (sub_tr h2 (aft_sub F (fTh F) k u))
    have hw := wk_f hF.1 (j := j) hal
    rw [t1, nI_1]
    by_cases c2 : (wk F j (aft F (fTh F) k u)).1 = 1000 ∨ f < (wk F j (aft F (fTh F) k u)).1 + 1
    · rw [if_pos (nI_lt (by omega) (by omega)), go, show wst F u (wk F j) k (f, r) = (f, r) from if_pos (Or.inr c2)]
    · rw [if_neg (nI_nlt (by omega) (by omega)), bind_ok (x_at hal (by decide)), t2, show wst F u (wk F j) k (f, r) = ((wk F j (aft F (fTh F) k u)).1 + 1, (wk F j (aft F (fTh F) k u)).2 + if (wk F j (aft F (fTh F) k u)).1 + 1 = f then r else 0) from if_neg (fun q => q.elim e c2)]
      unfold f_X7_measureFrom_96
      by_cases c3 : (wk F j (aft F (fTh F) k u)).1 + 1 = f
      · rw [if_pos (show nI _ = nI f by rw [c3]), nm_eq, go, nI_add, if_pos c3]
      · rw [if_neg (fun q => c3 ((nI_eq (by omega) (by omega)).mp q)), nm_eq, go, z_0, nI_add, if_neg c3]
  · show f_X7_measureFrom_25s (nI u) (nI (wfo F j u (fM F)).1) (nI (wfo F j u (fM F)).2) (nI (fM F)) z = _
    unfold f_X7_measureFrom_25s
    rw [bind_ok (x_steps hX), if_pos (nI_le (Nat.le_refl _) (by omega)), x_put2 u hu]
    rfl
def eqX (z σ : Sg) : Prop := ∀ k, k ≠ 37 → k ≠ 38 → z.1 k = σ.1 k
theorem eqX_FX {z : Sg} (h : eqX z σX) (hX : FX 12 F σX) : FX 12 F z := FX_same (fun k h1 h2 => h k (by omega) (by omega)) hX
theorem x_measure (hF : OKF F) (hX : FX 12 F σX) {j : Nat} (hj : j < 10) : ∃ z, f_X7_measure (nI j) σX = some z ∧ eqX z σX ∧ TX F j z (fSt F) := by
  have hst := hF.st
  have hth := hF.th
  have hle := sub_le hF.sub
  unfold f_X7_measure
  rw [bind_ok (x_stood hX), bind_ok (x_there hX)]
  unfold f_X7_measure_11
  refine itr_ivv (fun (k : Nat) (z : Int32 × Sg) => z.1 = sI (fTh F) k ∧ eqX z.2 σX ∧ TX F j z.2 (fTh F + 1 - k)) (fun (z : Sg) => eqX z σX ∧ TX F j z (fSt F)) (fTh F - fSt F + 1) 0 3000 _ (by omega) ⟨?_, fun _ _ _ => rfl, fun a h1 _ h2 => ?_⟩ ?_ ?_
  · show nI (fTh F) = sI (fTh F) 0
    rw [sI_in (by omega), Nat.sub_zero]
  · have := sub_le h2; omega
  · rintro k ⟨z1, z⟩ - hk ⟨q1, q2, q3⟩
    have q1' : z1 = sI (fTh F) k := q1
    subst q1'
    have q2' : eqX z σX := q2
    have q3' : TX F j z (fTh F + 1 - k) := q3
    have hz := eqX_FX q2' hX
    obtain ⟨u, hu⟩ : ∃ u, u = fTh F - k := ⟨_, rfl⟩
    show ∃ z', f_X7_measure_11s (nI j) (nI (fSt F)) (sI (fTh F) k) z = some (.inl z') ∧ _
    rw [sI_in (by omega), ← hu]
    have go : ∀ y, f_X7_measure_46 (nI j) (nI (fSt F)) (nI u) y = some (.inl (sI (fTh F) (k + 1), y)) := by
      intro y
      unfold f_X7_measure_46
      rw [nm_eq, hu, sI_s (by omega)]
    have skip : ¬ (sub u (fTh F) ∧ sub (fSt F) u) → TX F j z (fTh F + 1 - (k + 1)) := by
      intro hn a h1 h2 h3 h4
      by_cases e : a = u
      · subst e; exact absurd ⟨h3, h4⟩ hn
      · exact q3' a (by omega) h2 h3 h4
    unfold f_X7_measure_11s
    rw [if_neg (nI_nlt (by omega) (by omega)), bind_ok (x_holds _ _ (by omega) (by omega))]
    by_cases c1 : u &&& fSt F = fSt F
    case neg =>
      rw [if_neg c1, if_pos rfl, go]
      exact ⟨_, rfl, rfl, q2', skip (fun q => c1 (and_sub.mpr q.2))⟩
    rw [if_pos c1, if_neg (by decide : ¬ (1 : Int32) = 0), bind_ok (x_there hz), bind_ok (x_holds _ _ (by omega) (by omega))]
    by_cases c2 : fTh F &&& u = u
    case neg =>
      rw [if_neg c2, if_pos rfl, go]
      exact ⟨_, rfl, rfl, q2', skip (fun q => c2 (and_sub.mpr q.1))⟩
    rw [if_pos c2, if_neg (by decide : ¬ (1 : Int32) = 0), bind_ok (x_mFrom hF hz hj (by omega) (and_sub.mp c2) (and_sub.mp c1) (fun a h1 => q3' a (by omega))), go]
    refine ⟨_, rfl, rfl, fun k2 n1 n2 => ?_, fun a h1 h2 h3 h4 => ?_⟩
    · rw [← q2' k2 n1 n2]
      funext i
      show (up1 (up1 z 37 u _) 38 u _).1 k2 i = z.1 k2 i
      rw [up1_eq, if_neg (fun q => n2 q.1), up1_eq, if_neg (fun q => n1 q.1)]
    · show (up1 (up1 z 37 u _) 38 u _).1 37 a = _ ∧ (up1 (up1 z 37 u _) 38 u _).1 38 a = _
      rw [up1_eq, up1_eq, up1_eq, up1_eq, if_neg (by rintro ⟨q, -⟩; cases q), if_neg (show ¬ (38 = 37 ∧ a = u) by rintro ⟨q, -⟩; cases q)]
      by_cases e : a = u
      · subst e
        rw [if_pos ⟨rfl, rfl⟩, if_pos ⟨rfl, rfl⟩]
        exact ⟨rfl, rfl⟩
      · rw [if_neg (fun q => e q.2), if_neg (fun q => e q.2)]
        exact q3' a (by omega) h2 h3 h4
  · rintro ⟨z1, z⟩ ⟨q1, q2, q3⟩
    rw [Nat.zero_add] at q1 q3
    have q1' : z1 = sI (fTh F) (fTh F - fSt F + 1) := q1
    subst q1'
    refine ⟨z, ?_, q2, fun a h1 => q3 a (by omega)⟩
    show f_X7_measure_11s (nI j) (nI (fSt F)) (sI (fTh F) (fTh F - fSt F + 1)) z = _
    unfold f_X7_measure_11s
    rw [if_pos]
    by_cases c : fSt F = 0
    · rw [c, Nat.sub_zero, sI_out]; decide
    · rw [sI_in (by omega)]; exact nI_lt (by omega) (by omega)
end
