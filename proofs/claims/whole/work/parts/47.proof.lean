-- rows of proof: what a set of steps lays from where one begins
def lay (F : Fl) (S : Nat) : Nat := clo F S (fTh F) (beg F)
/-- the lowest bit -/
def ltn (S : Nat) : Nat → Nat → Nat
  | i, 0 => i
  | i, k + 1 => if S.testBit i then i else ltn S (i + 1) k
def ltz (S : Nat) : Nat := ltn S 0 10
theorem x_ntz : ∀ S, S < 1024 → 1 ≤ S → f_J6_numberOfTrailingZeros_0f7a4 (nI S) = some (nI (ltz S)) ∧ S.testBit (ltz S) = true ∧ (S &&& (S - 1)) ||| 2 ^ ltz S = S ∧ S &&& (S - 1) < S := by decide +kernel
theorem beg_and (F : Fl) : beg F &&& fTh F = beg F := and_sub.mpr (and_r _ _) |> fun h => by rw [Nat.and_comm]; exact h
theorem lay_0 {F : Fl} (hF : OKF F) : lay F 0 = beg F := by
  refine sub_as (clo_min (and_l _ _) (fun t _ h => by rw [Nat.zero_testBit] at h; cases h)) ?_
  have := clo_ext F 0 (fTh F) (beg F)
  rw [beg_and] at this
  exact this
theorem lay_lt {F : Fl} (hF : OKF F) (S : Nat) : lay F S < 1024 := clo_lt hF.1 hF.th
theorem lay_cld {F : Fl} (hF : OKF F) (S : Nat) : cld F S (fTh F) (lay F S) := clo_cld hF.1 hF.th
theorem cld_dn {F : Fl} {S S' sl y : Nat} (h : sub S' S) (g : cld F S sl y) : cld F S' sl y := fun t ht q => g t ht (h t q)
theorem lay_beg (F : Fl) (S : Nat) : sub (beg F) (lay F S) := by
  have := clo_ext F S (fTh F) (beg F)
  rw [beg_and] at this
  exact this
theorem lay_sub {F : Fl} (hF : OKF F) {S S' : Nat} (h : sub S' S) : sub (lay F S') (lay F S) := clo_min (by rw [beg_and]; exact lay_beg F S) (cld_dn h (lay_cld hF S))
theorem lay_same {F : Fl} (hF : OKF F) {S S' t : Nat} (h : S' ||| 2 ^ t = S) (e : aft F (fTh F) t (lay F S') = lay F S') : lay F S = lay F S' := by
  refine sub_as (clo_min (by rw [beg_and]; exact lay_beg F S') (fun u hu q1 q2 q3 q4 => ?_)) (lay_sub hF (by rw [← h]; exact sub_or))
  rw [← h, tb_or2] at q1
  simp only [Bool.or_eq_true, decide_eq_true_eq] at q1
  rcases q1 with q1 | rfl
  · exact lay_cld hF S' u hu q1 q2 q3 q4
  · cases c : (lay F S').testBit (fC F t)
    · exact absurd e ((aft_ne (fTh F) t (lay F S')).mpr ⟨q2, q3, q4, c⟩)
    · rfl
theorem lay_more {F : Fl} (hF : OKF F) {S S' t : Nat} (h : S' ||| 2 ^ t = S) : clo F S (fTh F) (lay F S') = lay F S := by
  have hs := lay_sub hF (S := S) (S' := S') (by rw [← h]; exact sub_or)
  refine sub_as (clo_min (sub_tr (and_l _ _) hs) (lay_cld hF S)) (clo_min ?_ (clo_cld hF.1 hF.th))
  refine sub_tr ?_ (clo_ext F S (fTh F) (lay F S'))
  intro k hk
  rw [beg_and] at hk
  rw [Nat.testBit_and, lay_beg F S' k hk, and_r (fBg F) (fTh F) k hk]
  rfl
section
variable {F : Fl} {σX σM : Sg}
def eqP (z σ : Sg) : Prop := ∀ k, k ≠ 39 → k ≠ 40 → z.1 k = σ.1 k
theorem eqP_FX {z : Sg} (h : eqP z σX) (hX : FX 12 F σX) : FX 12 F z := FX_same (fun k h1 h2 => h k (by omega) (by omega)) hX
/-- the class's reckoning -/
def RKp (F : Fl) (z : Sg) (n : Nat) : Prop := z.1 39 1 = nI (2 ^ fM F) ∧ ∀ S, S < n → z.1 40 S = nI (lay F S)
theorem eqP_40 {z : Sg} (h : eqP z σX) (i : Nat) (x : Int32) : eqP (up1 z 40 i x) σX := by
  intro k h1 h2
  rw [← h k h1 h2]
  funext j
  rw [up1_eq, if_neg (fun q => h2 q.1)]
theorem eqP_39 {z : Sg} (h : eqP z σX) (i : Nat) (x : Int32) : eqP (up1 z 39 i x) σX := by
  intro k h1 h2
  rw [← h k h1 h2]
  funext j
  rw [up1_eq, if_neg (fun q => h1 q.1)]
theorem RK_s {z : Sg} {n : Nat} (h : RKp F z n) : RKp F (up1 z 40 n (nI (lay F n))) (n + 1) := by
  refine ⟨?_, fun S hS => ?_⟩
  · rw [up1_eq, if_neg (by rintro ⟨q, -⟩; cases q)]; exact h.1
  · rw [up1_eq]
    by_cases e : S = n
    · rw [if_pos ⟨rfl, e⟩, e]
    · rw [if_neg (fun q => e q.2)]; exact h.2 S (by omega)
theorem x_reckon (hF : OKF F) (hX : FX 12 F σX) : ∃ z, f_X3_reckon σX = some z ∧ eqP z σX ∧ RKp F z (2 ^ fM F) := by
  have hm := hF.m10
  have h10 := p10 hm
  have h1 : 1 ≤ 2 ^ fM F := Nat.one_le_two_pow
  unfold f_X3_reckon
  rw [bind_ok (x_steps hX), bind_ok (pfi_eq _ _ _ _), z_bit (by omega)]
  have e0 : eqP (up1 σX 39 1 (nI (2 ^ fM F))) σX := eqP_39 (fun _ _ _ => rfl) _ _
  rw [bind_ok (x_beg (eqP_FX e0 hX)), z_0, bind_ok (x_put (by decide) (by decide)), z_1]
  unfold f_X3_reckon_24
  have r1 : RKp F (up1 (up1 σX 39 1 (nI (2 ^ fM F))) 40 0 (nI (beg F))) 1 := by
    have := RK_s (F := F) (z := up1 σX 39 1 (nI (2 ^ fM F))) (n := 0) ⟨by rw [up1_eq, if_pos ⟨rfl, rfl⟩], fun S hS => absurd hS (Nat.not_lt_zero _)⟩
    rw [lay_0 hF] at this
    exact this
  refine itr_ivv (fun (k : Nat) (z : Int32 × Sg) => z.1 = nI k ∧ eqP z.2 σX ∧ RKp F z.2 k) (fun (z : Sg) => eqP z σX ∧ RKp F z (2 ^ fM F)) (2 ^ fM F - 1) 1 3000 _ (by omega) ⟨rfl, eqP_40 e0 _ _, r1⟩ ?_ ?_
  · rintro S ⟨z1, z⟩ hS1 hS2 ⟨q1, q2, q3⟩
    have q1' : z1 = nI S := q1
    subst q1'
    have q2' : eqP z σX := q2
    have q3' : RKp F z S := q3
    have hz := eqP_FX q2' hX
    have hS : S < 2 ^ fM F := by omega
    obtain ⟨n1, n2, n3, n4⟩ := x_ntz S (by omega) hS1
    have ht : ltz S < fM F := tbn hS n2
    have fin : ∀ r, r = lay F S → ∃ z', f_X3_reckon_76 (nI S) (nI r) z = some (.inl z') ∧ z'.1 = nI (S + 1) ∧ eqP z'.2 σX ∧ RKp F z'.2 (S + 1) := by
      rintro r rfl
      refine ⟨(nI (S + 1), up1 z 40 S (nI (lay F S))), ?_, rfl, eqP_40 q2' _ _, RK_s q3'⟩
      unfold f_X3_reckon_76
      rw [bind_ok (x_put (by omega) (by decide)), nm_eq, nI_1]
    show ∃ z', f_X3_reckon_24s (nI S) z = some (.inl z') ∧ _
    unfold f_X3_reckon_24s
    rw [q3'.1, if_neg (nI_ge hS (by omega)), show nI S - 1 = nI (S - 1) from pk_sub (b := 1) hS1, z_and, bind_ok (x_at (by omega) (by decide)), q3'.2 _ n4, bind_ok n1, bind_ok (x_aft hF.1 hz ht (lay_lt hF _) hF.th)]
    by_cases e : aft F (fTh F) (ltz S) (lay F (S &&& (S - 1))) = lay F (S &&& (S - 1))
    · rw [if_pos (show nI _ = nI _ by rw [e])]
      exact fin _ (lay_same hF n3 e).symm
    · rw [if_neg (fun q => e ((nI_eq (lt31 (aft_lt hF.1 ht (lay_lt hF _))) (lt31 (lay_lt hF _))).mp q)), bind_ok (x_there hz), bind_ok (x_reachBy hF.1 hz.1 (by omega) hF.th)]
      exact fin _ (lay_more hF n3)
  · rintro ⟨z1, z⟩ ⟨q1, q2, q3⟩
    rw [show 1 + (2 ^ fM F - 1) = 2 ^ fM F by omega] at q1 q3
    have q1' : z1 = nI (2 ^ fM F) := q1
    subst q1'
    have q3' : RKp F z (2 ^ fM F) := q3
    refine ⟨z, ?_, q2, q3⟩
    show f_X3_reckon_24s (nI (2 ^ fM F)) z = _
    unfold f_X3_reckon_24s
    rw [q3'.1, if_pos (nI_le (Nat.le_refl _) (by omega))]
/-- a proof: it lays j, and without none of its steps -/
def ip1 (F : Fl) (j S i : Nat) (a : Bool) : Bool := a && !(S.testBit i && (lay F (dif S (2 ^ i))).testBit j)
def ipf (F : Fl) (j S k : Nat) : Bool := fo (ip1 F j S) ((lay F S).testBit j) k
def isp (F : Fl) (j S : Nat) : Bool := ipf F j S 10
theorem ipf_s (F : Fl) (j S k : Nat) : ipf F j S (k + 1) = (ipf F j S k && !(S.testBit k && (lay F (dif S (2 ^ k))).testBit j)) := rfl
theorem ipf_f {j S i : Nat} (h : ipf F j S i = false) : ∀ k, ipf F j S (i + k) = false := by
  intro k
  induction k with
  | zero => exact h
  | succ k ih => rw [show i + (k + 1) = (i + k) + 1 from rfl, ipf_s, ih]; rfl
theorem ipf_no {j S i : Nat} (hi : i ≤ 10) (h : ipf F j S i = false) : isp F j S = false := by
  have := ipf_f h (10 - i)
  rw [show i + (10 - i) = 10 by omega] at this
  exact this
theorem ipf_m {j S m : Nat} (hS : S < 2 ^ m) : ∀ k, ipf F j S (m + k) = ipf F j S m := by
  intro k
  induction k with
  | zero => rfl
  | succ k ih =>
    rw [show m + (k + 1) = (m + k) + 1 from rfl, ipf_s, ih]
    have : S.testBit (m + k) = false := by
      cases q : S.testBit (m + k)
      · rfl
      · have := tbn hS q; omega
    rw [this]
    simp
theorem isp_m {j S : Nat} (hm : fM F ≤ 10) (hS : S < 2 ^ fM F) : isp F j S = ipf F j S (fM F) := by
  have := ipf_m (F := F) (j := j) hS (10 - fM F)
  rw [show fM F + (10 - fM F) = 10 by omega] at this
  exact this
theorem dif_sub {x y : Nat} (hx : x < 1024) : sub (dif x y) x := fun k hk => by
  rw [dif_tb hx] at hk
  simp only [Bool.and_eq_true] at hk
  exact hk.1
theorem x_isp (hF : OKF F) {z : Sg} (hz : RKp F z (2 ^ fM F)) {j S : Nat} (hj : j < 10) (hS : S < 2 ^ fM F) : f_X3_isProof (nI S) (nI j) z = some (bz (isp F j S)) := by
  have hm := hF.m10
  have h10 := p10 hm
  unfold f_X3_isProof
  rw [bind_ok (x_at (by omega) (by decide)), hz.2 S hS, bind_ok (x_has (lt31 (lay_lt hF S)) (by omega))]
  cases c : (lay F S).testBit j
  · rw [zb_0.mpr c, if_pos rfl, ipf_no (F := F) (j := j) (S := S) (i := 0) (by decide) c]
    rfl
  rw [zb_1.mpr c, if_neg (by decide : ¬ (1 : Int32) = 0)]
  have key : ∀ k i N, i + k = 10 → k < N → ipf F j S i = true → itr N (fun s => f_X3_isProof_19s (nI S) (nI j) s z) (nI i) = some (bz (isp F j S)) := by
    intro k
    induction k with
    | zero =>
      intro i N hi hN h
      obtain ⟨N, rfl⟩ : ∃ M, N = M + 1 := ⟨N - 1, by omega⟩
      obtain rfl : i = 10 := by omega
      refine itr_out ?_
      show f_X3_isProof_19s (nI S) (nI j) (nI 10) z = _
      unfold f_X3_isProof_19s
      rw [if_pos (by decide : (10 : Int32) ≤ nI 10), show isp F j S = true from h]
      rfl
    | succ k ih =>
      intro i N hi hN h
      obtain ⟨N, rfl⟩ : ∃ M, N = M + 1 := ⟨N - 1, by omega⟩
      have hd : dif S (2 ^ i) < 2 ^ fM F := subp hS (dif_sub (by omega))
      have hh : f_X3_isProof_19s (nI S) (nI j) (nI i) z = if ipf F j S (i + 1) = true then some (Sum.inl (nI (i + 1))) else some (Sum.inr 0) := by
        have go : f_X3_isProof_56 (nI S) (nI j) (nI i) z = some (Sum.inl (nI (i + 1))) := by
          unfold f_X3_isProof_56
          rw [nm_eq, nI_1]
        unfold f_X3_isProof_19s
        rw [if_neg (show ¬ (10 : Int32) ≤ nI i from nI_ge (a := i) (b := 10) (by omega) (by decide)), bind_ok (x_has (by omega) (by omega)), ipf_s, h]
        cases c1 : S.testBit i
        · rw [zb_0.mpr c1, if_pos rfl, go]; rfl
        rw [zb_1.mpr c1, if_neg (by decide : ¬ (1 : Int32) = 0), z_bit (by omega), z_dif, bind_ok (x_at (by omega) (by decide)), hz.2 _ hd, bind_ok (x_has (lt31 (lay_lt hF _)) (by omega))]
        cases c2 : (lay F (dif S (2 ^ i))).testBit j
        · rw [zb_0.mpr c2, if_pos rfl, go]; rfl
        · rw [zb_1.mpr c2, if_neg (by decide : ¬ (1 : Int32) = 0)]; rfl
      cases c3 : ipf F j S (i + 1)
      · rw [c3, if_neg Bool.false_ne_true] at hh
        rw [ipf_no (by omega) c3]
        exact itr_out hh
      · rw [c3, if_pos rfl] at hh
        rw [itr_in hh]
        exact ih (i + 1) N (by omega) (by omega) c3
  unfold f_X3_isProof_19
  exact key 10 0 3000 (by omega) (by omega) c
theorem m_proves (hF : OKF F) (hM : FM 0 F σM) {j S : Nat} (hj : j < 10) (hS : S < 1024) : f_X9_proves (nI S) (nI j) σM = some (zb (lay F S) j) := by
  unfold f_X9_proves
  rw [bind_ok (m_beg hM), bind_ok (m_w2 hM), bind_ok (m_closure hF.1 hM.1 hS hF.th), bind_ok (m_has (lt31 (clo_lt hF.1 hF.th)) (by omega)), bind_ok (zrt_01 (zb_01 _ _))]
  rfl
theorem m_isp (hF : OKF F) (hM : FM 0 F σM) {j S : Nat} (hj : j < 10) (hS : S < 2 ^ fM F) : f_X9_isProof (nI S) (nI j) σM = some (bz (isp F j S)) := by
  have hm := hF.m10
  have h10 := p10 hm
  unfold f_X9_isProof
  rw [bind_ok (m_proves hF hM hj (by omega)), isp_m hm hS]
  have key : ∀ k i N, i + k = fM F → k < N → itr N (fun s => f_X9_isProof_10s (nI S) (nI j) s.1 s.2 σM) (bz (ipf F j S i), nI i) = some (bz (ipf F j S (fM F))) := by
    intro k
    induction k with
    | zero =>
      intro i N hi hN
      obtain ⟨N, rfl⟩ : ∃ M, N = M + 1 := ⟨N - 1, by omega⟩
      obtain rfl : i = fM F := by omega
      refine itr_out ?_
      show f_X9_isProof_10s (nI S) (nI j) (bz (ipf F j S (fM F))) (nI (fM F)) σM = _
      unfold f_X9_isProof_10s
      rw [bind_ok (m_w4 hM), if_pos (nI_le (Nat.le_refl _) (by omega))]
      unfold f_X9_isProof_62
      rw [bind_ok (zrt_01 (bz_01 _))]
      rfl
    | succ k ih =>
      intro i N hi hN
      obtain ⟨N, rfl⟩ : ∃ M, N = M + 1 := ⟨N - 1, by omega⟩
      have hi10 : i < 10 := by omega
      cases c0 : ipf F j S i
      · have := ipf_f c0 (k + 1)
        rw [show i + (k + 1) = fM F from hi] at this
        rw [this]
        refine itr_out ?_
        show f_X9_isProof_10s (nI S) (nI j) (bz false) (nI i) σM = _
        unfold f_X9_isProof_10s
        rw [bind_ok (m_w4 hM), if_neg (nI_ge (by omega) (by omega)), if_pos bz_f]
        rfl
      have hh : f_X9_isProof_10s (nI S) (nI j) (bz true) (nI i) σM = some (Sum.inl (bz (ipf F j S (i + 1)), nI (i + 1))) := by
        have go : ∀ a : Int32, f_X9_isProof_55 (nI S) (nI j) (nI i) a σM = some (Sum.inl (a, nI (i + 1))) := by
          intro a
          unfold f_X9_isProof_55
          rw [nm_eq, nI_1]
        unfold f_X9_isProof_10s f_X9_isProof_50
        rw [bind_ok (m_w4 hM), if_neg (nI_ge (by omega) (by omega)), if_neg (show ¬ bz true = 0 by decide), bind_ok (m_has (by omega) (by omega)), ipf_s, c0]
        cases c1 : S.testBit i
        · rw [zb_0.mpr c1, if_pos rfl, go]; rfl
        rw [zb_1.mpr c1, if_neg (by decide : ¬ (1 : Int32) = 0), z_bit (by omega), z_dif, bind_ok (m_proves hF hM hj (dif_lt (by omega)))]
        cases c2 : (lay F (dif S (2 ^ i))).testBit j
        · rw [zb_0.mpr c2, if_pos rfl, go]; rfl
        · rw [zb_1.mpr c2, if_neg (by decide : ¬ (1 : Int32) = 0), go]; rfl
      rw [itr_in hh]
      exact ih (i + 1) N (by omega) (by omega)
  unfold f_X9_isProof_10
  rw [zb_bz, z_0]
  exact key (fM F) 0 3000 (by omega) (by omega)
end
