section
variable {F : Fl} {σX σM : Sg}
def cn1 (p : Nat → Bool) (S a : Nat) : Nat := if p S = true then a + 1 else a
def ia1 (p : Nat → Bool) (S : Nat) (a : Option Nat) : Option Nat := if p S = true then (match a with | none => some S | some x => some (x &&& S)) else a
def ia0 (d : Nat) (a : Option Nat) : Int32 := match a with | none => nI d | some x => nI x
theorem ia_n {p : Nat → Bool} {S : Nat} {a : Option Nat} (hp : p S = false) : ia1 p S a = a := if_neg (by rw [hp]; decide)
theorem cn_y {p : Nat → Bool} {S a : Nat} (hp : p S = true) : cn1 p S a = a + 1 := if_pos hp
theorem cn_n {p : Nat → Bool} {S a : Nat} (hp : p S = false) : cn1 p S a = a := if_neg (by rw [hp]; decide)
theorem cn_le (p : Nat → Bool) : ∀ k, fo (cn1 p) 0 k ≤ k := by
  intro k
  induction k with
  | zero => exact Nat.le_refl _
  | succ k ih =>
    rw [fo_s]
    cases c : p k
    · rw [cn_n c]; omega
    · rw [cn_y c]; omega
theorem ia_ne {p : Nat → Bool} {S : Nat} (a : Option Nat) (hp : p S = true) : ia1 p S a ≠ none := by
  unfold ia1
  rw [if_pos hp]
  cases a <;> exact fun q => by cases q
theorem cn_ia (p : Nat → Bool) : ∀ k, fo (cn1 p) 0 k = 0 ↔ fo (ia1 p) none k = none := by
  intro k
  induction k with
  | zero => exact ⟨fun _ => rfl, fun _ => rfl⟩
  | succ k ih =>
    rw [fo_s, fo_s]
    cases c : p k
    · rw [cn_n c, ia_n c]; exact ih
    · rw [cn_y c]
      exact ⟨fun q => by omega, fun q => absurd q (ia_ne _ c)⟩
theorem ia_s {p : Nat → Bool} {d S : Nat} {a : Option Nat} (hp : p S = true) (hd : d &&& S = S) : ia0 d a &&& nI S = ia0 d (ia1 p S a) := by
  unfold ia1
  rw [if_pos hp]
  cases a with
  | none => show nI d &&& nI S = nI S; rw [z_and, hd]
  | some x => show nI x &&& nI S = nI (x &&& S); rw [z_and]
def an (F : Fl) (p : Nat → Bool) : Nat := fo (cn1 p) 0 (2 ^ fM F)
theorem x_howMany (hF : OKF F) {z : Sg} (hz : RKp F z (2 ^ fM F)) {j : Nat} (hj : j < 10) : f_X3_howMany (nI j) z = some (nI (an F (isp F j))) := by
  have h10 := p10 hF.m10
  unfold f_X3_howMany f_X3_howMany_4
  refine itr_run (fun k => (nI (fo (cn1 (isp F j)) 0 k), nI k)) (2 ^ fM F) rfl (by omega) (fun k hk => ?_) ?_
  · show f_X3_howMany_4s (nI j) (nI (fo (cn1 (isp F j)) 0 k)) (nI k) z = some (.inl (nI (fo (cn1 (isp F j)) 0 (k + 1)), nI (k + 1)))
    unfold f_X3_howMany_4s f_X3_howMany_24
    rw [hz.1, if_neg (nI_ge hk (by omega)), bind_ok (x_isp hF hz hj hk), fo_s]
    cases c : isp F j k
    · rw [bz_f, if_pos rfl, nm_eq, nI_1, cn_n c]
    · rw [bz_t, if_neg (by decide : ¬ (1 : Int32) = 0), nm_eq, nm_eq, nI_1, nI_1, cn_y c]
  · show f_X3_howMany_4s (nI j) (nI (an F (isp F j))) (nI (2 ^ fM F)) z = _
    unfold f_X3_howMany_4s
    rw [hz.1, if_pos (nI_le (Nat.le_refl _) (by omega))]
def sh (F : Fl) (j k : Nat) : Option Nat := fo (ub1 (isp F j)) none k
def shc (o : Option Nat) : Nat := match o with | none => 11 | some b => pc b
theorem sh_lt {j k b : Nat} (h : sh F j k = some b) : b < k := ub_lt _ _ _ h
theorem x_shortest (hF : OKF F) {z : Sg} (hz : RKp F z (2 ^ fM F)) {j : Nat} (hj : j < 10) : f_X3_shortest (nI j) z = some (cd (sh F j (2 ^ fM F))) := by
  have h10 := p10 hF.m10
  unfold f_X3_shortest f_X3_shortest_9
  refine itr_run (fun k => (cd (sh F j k), nI (shc (sh F j k)), nI k)) (2 ^ fM F) rfl (by omega) (fun k hk => ?_) ?_
  · show f_X3_shortest_9s (nI j) (cd (sh F j k)) (nI (shc (sh F j k))) (nI k) z = some (.inl (cd (sh F j (k + 1)), nI (shc (sh F j (k + 1))), nI (k + 1)))
    have es : sh F j (k + 1) = ub1 (isp F j) k (sh F j k) := rfl
    rw [es]
    generalize sh F j k = o
    have hp := pc_le k
    have hc : shc o ≤ 11 := by
      cases o with
      | none => exact Nat.le_refl _
      | some b => have := pc_le b; show pc b ≤ 11; omega
    have e1 : ub1 (isp F j) k o = if pc k < shc o ∧ isp F j k = true then some k else o := by
      cases o with
      | none =>
        show (if isp F j k = true then some k else none) = if pc k < 11 ∧ isp F j k = true then some k else none
        simp only [show pc k < 11 by omega, true_and]
      | some b =>
        show (if isp F j k = true ∧ pc k < pc b then some k else some b) = if pc k < pc b ∧ isp F j k = true then some k else some b
        simp only [And.comm]
    unfold f_X3_shortest_9s f_X3_shortest_46
    rw [hz.1, if_neg (nI_ge hk (by omega)), bind_ok (x_bc k (by omega))]
    by_cases c1 : shc o ≤ pc k
    · rw [if_pos (nI_le c1 (by omega)), nm_eq, nI_1, e1, if_neg (fun q => by omega)]
    rw [if_neg (nI_ge (by omega) (by omega)), bind_ok (x_isp hF hz hj hk)]
    cases c : isp F j k
    · rw [bz_f, if_pos rfl, nm_eq, nI_1, e1, if_neg (fun q => by have := q.2; rw [c] at this; cases this)]
    · rw [bz_t, if_neg (by decide : ¬ (1 : Int32) = 0), bind_ok (x_bc k (by omega)), nm_eq, nI_1, e1, if_pos ⟨by omega, c⟩]
      rfl
  · show f_X3_shortest_9s (nI j) (cd (sh F j (2 ^ fM F))) (nI (shc (sh F j (2 ^ fM F)))) (nI (2 ^ fM F)) z = _
    unfold f_X3_shortest_9s
    rw [hz.1, if_pos (nI_le (Nat.le_refl _) (by omega))]
def ial (F : Fl) (j k : Nat) : Option Nat := fo (ia1 (isp F j)) none k
theorem and_1023 {S : Nat} (h : S < 1024) : 1023 &&& S = S := by
  rw [and_sub]
  intro k hk
  rw [a1023]
  exact decide_eq_true (tb10 h hk)
theorem and_all {S m : Nat} (h : S < 2 ^ m) : (2 ^ m - 1) &&& S = S := by
  rw [and_sub]
  intro k hk
  rw [all_tb]
  exact decide_eq_true (tbn h hk)
def ia2 (a : Option Nat) : Int32 := match a with | none => 0 | some x => nI x
theorem x_inAll (hF : OKF F) {z : Sg} (hz : RKp F z (2 ^ fM F)) {j : Nat} (hj : j < 10) : f_X3_inAll (nI j) z = some (ia2 (ial F j (2 ^ fM F))) := by
  have h10 := p10 hF.m10
  unfold f_X3_inAll f_X3_inAll_9
  refine itr_run (fun k => (ia0 1023 (ial F j k), bz (ial F j k).isSome, nI k)) (2 ^ fM F) rfl (by omega) (fun k hk => ?_) ?_
  · show f_X3_inAll_9s (nI j) (ia0 1023 (ial F j k)) (bz (ial F j k).isSome) (nI k) z = some (.inl (ia0 1023 (ial F j (k + 1)), bz (ial F j (k + 1)).isSome, nI (k + 1)))
    have es : ial F j (k + 1) = ia1 (isp F j) k (ial F j k) := rfl
    rw [es]
    generalize ial F j k = o
    unfold f_X3_inAll_9s f_X3_inAll_35
    rw [hz.1, if_neg (nI_ge hk (by omega)), bind_ok (x_isp hF hz hj hk)]
    cases c : isp F j k
    · rw [bz_f, if_pos rfl, nm_eq, nI_1, ia_n c]
    · rw [bz_t, if_neg (by decide : ¬ (1 : Int32) = 0), nm_eq, nm_eq, nI_1, ia_s c (and_1023 (by omega))]
      unfold ia1
      rw [if_pos c]
      cases o <;> rfl
  · show f_X3_inAll_9s (nI j) (ia0 1023 (ial F j (2 ^ fM F))) (bz (ial F j (2 ^ fM F)).isSome) (nI (2 ^ fM F)) z = _
    unfold f_X3_inAll_9s
    rw [hz.1, if_pos (nI_le (Nat.le_refl _) (by omega))]
    cases ial F j (2 ^ fM F) with
    | none => rfl
    | some x => rfl
theorem m_proofs (hF : OKF F) (hM : FM 0 F σM) {j v : Nat} (hj : j < 10) (hv : v ≤ 2) : f_X9_proofs_37 (nI j) (nI v) 0 (-4) (nI (2 ^ fM F - 1)) 0 σM = some (if v = 0 then nI (an F (isp F j)) else if v = 1 then cd (sh F j (2 ^ fM F)) else ia2 (ial F j (2 ^ fM F))) := by
  have h10 := p10 hF.m10
  have h1 : 1 ≤ 2 ^ fM F := Nat.one_le_two_pow
  unfold f_X9_proofs_37
  refine itr_run (fun k => (nI (fo (cn1 (isp F j)) 0 k), cd (sh F j k), ia0 (2 ^ fM F - 1) (ial F j k), nI k)) (2 ^ fM F) rfl (by omega) (fun k hk => ?_) ?_
  · show f_X9_proofs_37s (nI j) (nI v) (nI (fo (cn1 (isp F j)) 0 k)) (cd (sh F j k)) (ia0 (2 ^ fM F - 1) (ial F j k)) (nI k) σM = some (.inl (nI (fo (cn1 (isp F j)) 0 (k + 1)), cd (sh F j (k + 1)), ia0 (2 ^ fM F - 1) (ial F j (k + 1)), nI (k + 1)))
    have es : ial F j (k + 1) = ia1 (isp F j) k (ial F j k) := rfl
    have es2 : sh F j (k + 1) = ub1 (isp F j) k (sh F j k) := rfl
    have hb : ∀ b, sh F j k = some b → b < k := fun b h => sh_lt h
    rw [es, es2, fo_s]
    revert hb
    generalize sh F j k = o
    generalize ial F j k = o2
    generalize fo (cn1 (isp F j)) 0 k = n
    intro hb
    unfold f_X9_proofs_37s
    rw [bind_ok (m_all hF hM), if_neg (nI_nlt (by omega) (by omega)), bind_ok (m_isp hF hM hj hk)]
    cases c : isp F j k
    · rw [bz_f, if_pos rfl, ia_n c, cn_n c, show ub1 (isp F j) k o = o by unfold ub1; cases o <;> simp [c]]
      unfold f_X9_proofs_95
      rw [nm_eq, nI_1]
    have fin : ∀ x : Int32, f_X9_proofs_83 (nI j) (nI v) (nI n) (ia0 (2 ^ fM F - 1) o2) (nI k) x σM = some (.inl (nI (cn1 (isp F j) k n), x, ia0 (2 ^ fM F - 1) (ia1 (isp F j) k o2), nI (k + 1))) := by
      intro x
      unfold f_X9_proofs_83 f_X9_proofs_95
      rw [nm_eq, nm_eq, nm_eq, nI_1, nI_1, ia_s c (and_all hk), cn_y c]
    rw [bz_t, if_neg (by decide : ¬ (1 : Int32) = 0)]
    unfold f_X9_proofs_76
    cases o with
    | none =>
      rw [if_pos (show cd none = -4 from rfl), fin, show ub1 (isp F j) k none = some k from if_pos c]
      rfl
    | some b =>
      have hbk := hb b rfl
      have hp1 := pc_le k
      have hp2 := pc_le b
      rw [show cd (some b) = nI b from rfl, if_neg (nI_neg (by omega)).2.2, bind_ok (m_ones (by omega)), bind_ok (m_ones (by omega))]
      by_cases c3 : pc k < pc b
      · rw [if_neg (nI_ge c3 (by omega)), fin, show ub1 (isp F j) k (some b) = some k from if_pos ⟨c, c3⟩]
        rfl
      · rw [if_pos (nI_le (by omega) (by omega)), fin, show ub1 (isp F j) k (some b) = some b from if_neg (fun q => c3 q.2)]
        rfl
  · show f_X9_proofs_37s (nI j) (nI v) (nI (an F (isp F j))) (cd (sh F j (2 ^ fM F))) (ia0 (2 ^ fM F - 1) (ial F j (2 ^ fM F))) (nI (2 ^ fM F)) σM = _
    unfold f_X9_proofs_37s
    rw [bind_ok (m_all hF hM), if_pos (nI_lt (by omega) (by omega))]
    have hle := cn_le (isp F j) (2 ^ fM F)
    have hci := cn_ia (isp F j) (2 ^ fM F)
    rcases (show v = 0 ∨ v = 1 ∨ v = 2 by omega) with rfl | rfl | rfl
    · rw [if_pos (show nI 0 = 0 from rfl)]; rfl
    · rw [if_neg (show ¬ nI 1 = 0 by decide), if_pos (show nI 1 = 1 from rfl)]; rfl
    · rw [if_neg (show ¬ nI 2 = 0 by decide), if_neg (show ¬ nI 2 = 1 by decide)]
      by_cases c : an F (isp F j) = 0
      · rw [c, if_pos z_e0, show ial F j (2 ^ fM F) = none from hci.mp c]
        rfl
      · have hle2 : an F (isp F j) ≤ 2 ^ fM F := hle
        rw [if_neg (z_ne0 (by omega) c)]
        cases h : ial F j (2 ^ fM F) with
        | none => exact absurd (hci.mpr h) c
        | some x => rfl
/-- promise 23: proofs -/
theorem q_proofs (hF : OKF F) (hX : FX 12 F σX) (hM : FM 0 F σM) (v w : Int32) : ∃ r zX, f_X8_proofs v w σX = some (r, zX) ∧ f_X9_proofs v w σM = some r ∧ eqP zX σX := by
  have hn := hF.1.1
  unfold f_X8_proofs f_X9_proofs
  rw [bind_ok (x_isStone hX v), bind_ok (m_isStone hF.1 hM.1 v)]
  rcases inn_cases v (n := fN F) (by omega) with e | ⟨j, h1, rfl, e⟩
  · rw [e]; exact ⟨_, _, rfl, rfl, fun _ _ _ => rfl⟩
  rw [e, if_neg (by decide : ¬ (1 : Int32) = 0), if_neg (by decide : ¬ (1 : Int32) = 0), bind_ok (z_inK w 2 2 (by decide) (by decide))]
  rcases inn_cases w (n := 2 + 1) (by decide) with e | ⟨k, hk, rfl, e⟩
  · rw [e, if_pos rfl]
    refine ⟨-1, σX, ?_, rfl, fun _ _ _ => rfl⟩
    rcases inn_out e with c | c
    · rw [if_pos c]; rfl
    · by_cases c1 : w < 0
      · rw [if_pos c1]; rfl
      · rw [if_neg c1, if_neg]
        · rfl
        · intro q
          have := (gt_of (v := w) (n := 2) (by decide)).mp c
          rw [fa_lt] at this
          rw [Int32.le_iff_toInt_le] at q
          have e1 : (nI 2).toInt = (2 : Int32).toInt := rfl
          omega
  obtain ⟨zX, x1, x2, x3⟩ := x_reckon hF hX
  rw [e, if_neg (by decide : ¬ (1 : Int32) = 0), if_neg (nI_pos (by omega)), if_pos (show nI k ≤ (2 : Int32) from nI_le (a := k) (b := 2) (by omega) (by decide)), bind_ok x1, bind_ok (m_all hF hM), m_proofs hF hM (v := k) (by omega) (by omega)]
  refine ⟨_, zX, ?_, rfl, x2⟩
  rcases (show k = 0 ∨ k = 1 ∨ k = 2 by omega) with rfl | rfl | rfl
  · rw [if_pos (show nI 0 = 0 from rfl), bind_ok (x_howMany hF x3 (by omega))]; rfl
  · rw [if_neg (show ¬ nI 1 = 0 by decide), if_pos (show nI 1 = 1 from rfl), bind_ok (x_shortest hF x3 (by omega))]; rfl
  · rw [if_neg (show ¬ nI 2 = 0 by decide), if_neg (show ¬ nI 2 = 1 by decide), bind_ok (x_inAll hF x3 (by omega))]; rfl
-- worn
def en1 (F : Fl) (S t a : Nat) : Nat := if S.testBit t = true then a ||| 2 ^ fC F t else a
def ends (F : Fl) (S : Nat) : Nat := fo (en1 F S) 0 (fM F)
theorem en_lt (hF : OKL F) (S : Nat) : ∀ k, k ≤ fM F → fo (en1 F S) 0 k < 1024 := by
  intro k
  induction k with
  | zero => intro _; show (0 : Nat) < 1024; decide
  | succ k ih =>
    intro hk
    rw [fo_s]
    unfold en1
    split
    · exact or10 (ih (by omega)) (pow10 (hF.c10 (by omega : k < fM F)).2.2)
    · exact ih (by omega)
theorem x_ends (hF : OKF F) {z : Sg} (hX : FX 12 F z) {S : Nat} (hS : S < 1024) : f_X3_endsOf (nI S) z = some (nI (ends F S)) := by
  have hm := hF.m10
  unfold f_X3_endsOf f_X3_endsOf_4
  refine itr_run (fun k => (nI (fo (en1 F S) 0 k), nI k)) (fM F) rfl (by omega) (fun k hk => ?_) ?_
  · have hq := hX.1.2.2.2.1 k hk
    obtain ⟨ca, cb, cc⟩ := hF.1.c10 hk
    show f_X3_endsOf_4s (nI S) (nI (fo (en1 F S) 0 k)) (nI k) z = some (.inl (nI (fo (en1 F S) 0 (k + 1)), nI (k + 1)))
    have e2 : f_X1_endOf 12 (nI k) z = some (nI (fC F k)) := by
      unfold f_X1_endOf
      rw [bind_ok (x_at (by omega) (by decide)), hq.2.2.1]
    unfold f_X3_endsOf_4s f_X3_endsOf_30
    rw [bind_ok (x_steps hX), if_neg (nI_ge hk (by omega)), bind_ok (x_has (lt31 hS) (by omega)), fo_s]
    cases c : S.testBit k
    · rw [zb_0.mpr c, if_pos rfl, nm_eq, nI_1, show en1 F S k (fo (en1 F S) 0 k) = fo (en1 F S) 0 k from if_neg (by rw [c]; decide)]
    · rw [zb_1.mpr c, if_neg (by decide : ¬ (1 : Int32) = 0), bind_ok e2, nm_eq, nm_eq, nI_1, z_bit (by omega), z_or, show en1 F S k (fo (en1 F S) 0 k) = fo (en1 F S) 0 k ||| 2 ^ fC F k from if_pos c]
  · show f_X3_endsOf_4s (nI S) (nI (ends F S)) (nI (fM F)) z = _
    unfold f_X3_endsOf_4s
    rw [bind_ok (x_steps hX), if_pos (nI_le (Nat.le_refl _) (by omega))]
def wp (F : Fl) (j w S : Nat) : Bool := decide (ends F S = w) && isp F j S
theorem x_wear (hF : OKF F) {z : Sg} (hX : FX 12 F z) (hz : RKp F z (2 ^ fM F)) {j w : Nat} (hj : j < 10) (hw : w < 1024) : f_X3_howManyWear (nI j) (nI w) z = some (nI (an F (wp F j w))) := by
  have h10 := p10 hF.m10
  unfold f_X3_howManyWear f_X3_howManyWear_6
  refine itr_run (fun k => (nI (fo (cn1 (wp F j w)) 0 k), nI k)) (2 ^ fM F) rfl (by omega) (fun k hk => ?_) ?_
  · show f_X3_howManyWear_6s (nI j) (nI w) (nI (fo (cn1 (wp F j w)) 0 k)) (nI k) z = some (.inl (nI (fo (cn1 (wp F j w)) 0 (k + 1)), nI (k + 1)))
    have hl : ends F k < 1024 := en_lt hF.1 k _ (Nat.le_refl _)
    unfold f_X3_howManyWear_6s f_X3_howManyWear_38
    rw [hz.1, if_neg (nI_ge hk (by omega)), bind_ok (x_ends hF hX (by omega)), fo_s]
    by_cases e : ends F k = w
    · rw [if_pos (show nI (ends F k) = nI w by rw [e]), bind_ok (x_isp hF hz hj hk)]
      cases c : isp F j k
      · rw [bz_f, if_pos rfl, nm_eq, nI_1, cn_n (by unfold wp; rw [c, Bool.and_false])]
      · rw [bz_t, if_neg (by decide : ¬ (1 : Int32) = 0), nm_eq, nm_eq, nI_1, nI_1, cn_y (by unfold wp; rw [c, decide_eq_true e]; rfl)]
    · rw [if_neg (fun q => e ((nI_eq (lt31 hl) (lt31 hw)).mp q)), nm_eq, nI_1, cn_n (by unfold wp; rw [decide_eq_false e]; rfl)]
  · show f_X3_howManyWear_6s (nI j) (nI w) (nI (an F (wp F j w))) (nI (2 ^ fM F)) z = _
    unfold f_X3_howManyWear_6s
    rw [hz.1, if_pos (nI_le (Nat.le_refl _) (by omega))]
theorem m_worn (hF : OKF F) (hM : FM 0 F σM) {j w : Nat} (hj : j < 10) (hw : w < 1024) : f_X9_worn_23 (nI j) (nI w) 0 0 σM = some (nI (an F (wp F j w))) := by
  have hm := hF.m10
  have h10 := p10 hF.m10
  have h1 : 1 ≤ 2 ^ fM F := Nat.one_le_two_pow
  unfold f_X9_worn_23
  refine itr_run (fun k => (nI (fo (cn1 (wp F j w)) 0 k), nI k)) (2 ^ fM F) rfl (by omega) (fun S hS => ?_) ?_
  · show f_X9_worn_23s (nI j) (nI w) (nI (fo (cn1 (wp F j w)) 0 S)) (nI S) σM = some (.inl (nI (fo (cn1 (wp F j w)) 0 (S + 1)), nI (S + 1)))
    have hl : ends F S < 1024 := en_lt hF.1 S _ (Nat.le_refl _)
    rw [fo_s]
    generalize fo (cn1 (wp F j w)) 0 S = n
    unfold f_X9_worn_23s
    rw [bind_ok (m_all hF hM), if_neg (nI_nlt (by omega) (by omega))]
    unfold f_X9_worn_38
    refine itr_run (fun k => (nI (fo (en1 F S) 0 k), nI k)) (fM F) rfl (by omega) (fun k hk => ?_) ?_
    · obtain ⟨ca, cb, cc⟩ := hF.1.c10 hk
      show f_X9_worn_38s (nI j) (nI w) (nI n) (nI S) (nI (fo (en1 F S) 0 k)) (nI k) σM = some (.inl (nI (fo (en1 F S) 0 (k + 1)), nI (k + 1)))
      unfold f_X9_worn_38s f_X9_worn_77
      rw [bind_ok (m_w4 hM), if_neg (nI_ge hk (by omega)), bind_ok (m_has (by omega) (by omega)), fo_s]
      cases c : S.testBit k
      · rw [zb_0.mpr c, if_pos rfl, nm_eq, nm_eq, nI_1, z_or0, show en1 F S k (fo (en1 F S) 0 k) = fo (en1 F S) 0 k from if_neg (by rw [c]; decide)]
      · rw [zb_1.mpr c, if_neg (by decide : ¬ (1 : Int32) = 0), bind_ok (m_C hF hM hk), nm_eq, nm_eq, nI_1, z_bit (by omega), z_or, show en1 F S k (fo (en1 F S) 0 k) = fo (en1 F S) 0 k ||| 2 ^ fC F k from if_pos c]
    · show f_X9_worn_38s (nI j) (nI w) (nI n) (nI S) (nI (ends F S)) (nI (fM F)) σM = _
      unfold f_X9_worn_38s f_X9_worn_107 f_X9_worn_108
      rw [bind_ok (m_w4 hM), if_pos (nI_le (Nat.le_refl _) (by omega))]
      by_cases e : ends F S = w
      · rw [if_pos (show nI (ends F S) = nI w by rw [e]), bind_ok (m_isp hF hM hj hS)]
        cases c : isp F j S
        · rw [bz_f, if_pos rfl, nm_eq, nm_eq, nI_1, z_0, nI_add, Nat.add_zero, cn_n (by unfold wp; rw [c, Bool.and_false])]
          rfl
        · rw [bz_t, if_neg (by decide : ¬ (1 : Int32) = 0), nm_eq, nm_eq, nI_1, nI_1, cn_y (by unfold wp; rw [c, decide_eq_true e]; rfl)]
          rfl
      · rw [if_neg (fun q => e ((nI_eq (lt31 hl) (lt31 hw)).mp q)), nm_eq, nm_eq, nI_1, z_0, nI_add, Nat.add_zero, cn_n (by unfold wp; rw [decide_eq_false e]; rfl)]
        rfl
  · show f_X9_worn_23s (nI j) (nI w) (nI (an F (wp F j w))) (nI (2 ^ fM F)) σM = _
    unfold f_X9_worn_23s
    rw [bind_ok (m_all hF hM), if_pos (nI_lt (by omega) (by omega))]
/-- promise 24: worn -/
theorem q_worn (hF : OKF F) (hX : FX 12 F σX) (hM : FM 0 F σM) (v w : Int32) : ∃ r zX, f_X8_worn v w σX = some (r, zX) ∧ f_X9_worn v w σM = some r ∧ eqP zX σX := by
  have hn := hF.1.1
  have h10 := p10 hn.2
  unfold f_X8_worn f_X9_worn
  rw [bind_ok (x_isStone hX v), bind_ok (m_isStone hF.1 hM.1 v)]
  rcases inn_cases v (n := fN F) (by omega) with e | ⟨j, h1, rfl, e⟩
  · rw [e]; exact ⟨_, _, rfl, rfl, fun _ _ _ => rfl⟩
  rw [e, if_neg (by decide : ¬ (1 : Int32) = 0), if_neg (by decide : ¬ (1 : Int32) = 0), bind_ok (x_isSet hF hX w), bind_ok (m_isSet hF.1 hM.1 w)]
  rcases inn_cases w (n := 2 ^ fN F) (by omega) with e | ⟨k, hk, rfl, e⟩
  · rw [e]; exact ⟨_, _, rfl, rfl, fun _ _ _ => rfl⟩
  obtain ⟨zX, x1, x2, x3⟩ := x_reckon hF hX
  rw [e, if_neg (by decide : ¬ (1 : Int32) = 0), if_neg (by decide : ¬ (1 : Int32) = 0), bind_ok x1, bind_ok (x_wear hF (eqP_FX x2 hX) x3 (by omega) (by omega)), m_worn hF hM (by omega) (by omega)]
  exact ⟨_, zX, rfl, rfl, x2⟩
end
