theorem dif_0 {x y : Nat} (hx : x < 1024) : dif x y = 0 ↔ sub x y := by
  constructor
  · intro h k hk
    have := congrArg (fun z => Nat.testBit z k) h
    simp only [dif_tb hx, Nat.zero_testBit, hk, Bool.true_and, Bool.not_eq_false'] at this
    exact this
  · intro h
    apply Nat.eq_of_testBit_eq
    intro i
    rw [dif_tb hx, Nat.zero_testBit]
    cases hi : x.testBit i
    · rfl
    · rw [h i hi]; rfl
theorem xor10 {x y : Nat} (h : x < 1024) (g : y < 1024) : x ^^^ y < 1024 := Nat.xor_lt_two_pow (n := 10) h g
/-- from ch down to -1 -/
def sI (ch i : Nat) : Int32 := if i ≤ ch then nI (ch - i) else -1
theorem sI_in {ch i : Nat} (h : i ≤ ch) : sI ch i = nI (ch - i) := if_pos h
theorem sI_out (ch : Nat) : sI ch (ch + 1) = -1 := if_neg (by omega)
theorem sI_s {ch i : Nat} (h : i ≤ ch) : nI (ch - i) + (-1) = sI ch (i + 1) := by
  rcases Nat.lt_or_ge i ch with q | q
  · rw [sI_in (by omega), show ch - i = (ch - (i + 1)) + 1 by omega]
    exact pk_m1 _
  · obtain rfl : i = ch := by omega
    rw [sI_out, Nat.sub_self]
    decide +kernel
def ub1 (p : Nat → Bool) (k : Nat) (o : Option Nat) : Option Nat := match o with
  | none => if p k = true then some k else none
  | some b => if p k = true ∧ pc k < pc b then some k else some b
theorem ub_min (p : Nat → Bool) : ∀ K, (fo (ub1 p) none K = none ∧ ∀ s, s < K → p s = false) ∨ ∃ b, fo (ub1 p) none K = some b ∧ b < K ∧ IsMin (fun s => s < K ∧ p s = true) b := by
  intro K
  induction K with
  | zero => exact Or.inl ⟨rfl, fun s hs => absurd hs (by omega)⟩
  | succ k ih =>
    rw [fo_s]
    rcases ih with ⟨h1, h2⟩ | ⟨b, h1, h2, h3⟩
    · rw [h1]
      cases c : p k
      · refine Or.inl ⟨by simp [ub1, c], fun s hs => ?_⟩
        rcases Nat.lt_or_ge s k with e | e
        · exact h2 s e
        · obtain rfl : s = k := by omega
          exact c
      · refine Or.inr ⟨k, by simp [ub1, c], by omega, ⟨by omega, c⟩, fun s hs => ?_⟩
        rcases Nat.lt_or_ge s k with e | e
        · have hs2 : s < k + 1 ∧ p s = true := hs
          rw [h2 s e] at hs2
          exact absurd hs2.2 (by decide)
        · obtain rfl : s = k := by omega
          exact Or.inr ⟨rfl, Nat.le_refl _⟩
    · rw [h1]
      by_cases c : p k = true ∧ pc k < pc b
      · refine Or.inr ⟨k, by simp [ub1, c], by omega, ⟨by omega, c.1⟩, fun s hs => ?_⟩
        rcases Nat.lt_or_ge s k with e | e
        · rcases h3.2 s ⟨e, hs.2⟩ with r | ⟨r1, r2⟩ <;> exact Or.inl (by omega)
        · obtain rfl : s = k := by omega
          exact Or.inr ⟨rfl, Nat.le_refl _⟩
      · refine Or.inr ⟨b, by simp [ub1, c], by omega, ⟨by omega, h3.1.2⟩, fun s hs => ?_⟩
        rcases Nat.lt_or_ge s k with e | e
        · exact h3.2 s ⟨e, hs.2⟩
        · obtain rfl : s = k := by omega
          have : ¬ pc s < pc b := fun z => c ⟨hs.2, z⟩
          rcases Nat.lt_or_ge (pc b) (pc s) with z | z
          · exact Or.inl z
          · exact Or.inr ⟨by omega, by omega⟩
/-- a number or none, as the reference holds it -/
def cd (o : Option Nat) : Int32 := match o with
  | none => -4
  | some b => nI b
section
variable {F : Fl} {σX σM : Sg}
theorem x_fewT {aim : Int32} {ok : Nat → Bool} (hmet : ∀ v, f_X0_isMet aim (nI v) σX = some (bz (ok v))) {start ch : Nat} (hc : ch < 1024) :
    f_X0_fewestTurned aim (nI start) (nI ch) σX = if ok (start ^^^ ch) = true then some (nI (fo (up1s (fun s => ok (start ^^^ s)) ch) ch ch)) else some (-4) := by
  unfold f_X0_fewestTurned
  rw [z_xor, bind_ok (hmet _)]
  cases c : ok (start ^^^ ch)
  · rfl
  · rw [bz_t, if_neg (by decide), if_pos rfl, bind_ok (x_bc _ hc)]
    unfold f_X0_fewestTurned_26
    have hle : ∀ k, k ≤ ch → fo (up1s (fun s => ok (start ^^^ s)) ch) ch k ≤ ch := by
      intro k
      induction k with
      | zero => intro _; exact Nat.le_refl _
      | succ k ih =>
        intro hk
        rw [fo_s]
        unfold up1s
        split
        · omega
        · exact ih (by omega)
    refine itr_run (fun k => (nI (fo (up1s (fun s => ok (start ^^^ s)) ch) ch k), nI (pc (fo (up1s (fun s => ok (start ^^^ s)) ch) ch k)), nI k)) ch rfl (by omega) (fun k hk => ?_) ?_
    · have hb := hle k (by omega)
      have hp1 := pc_le k
      have hp2 := pc_le (fo (up1s (fun s => ok (start ^^^ s)) ch) ch k)
      have same : ∀ b, f_X0_fewestTurned_75 aim (nI start) (nI ch) (nI b) (nI (pc b)) (nI k) σX = some (.inl (nI b, nI (pc b), nI (k + 1))) := by
        intro b
        unfold f_X0_fewestTurned_75
        rw [nm_eq, nI_1]
      show f_X0_fewestTurned_26s aim (nI start) (nI ch) (nI (fo (up1s (fun s => ok (start ^^^ s)) ch) ch k)) (nI (pc (fo (up1s (fun s => ok (start ^^^ s)) ch) ch k))) (nI k) σX = some (.inl (nI (fo (up1s (fun s => ok (start ^^^ s)) ch) ch (k + 1)), nI (pc (fo (up1s (fun s => ok (start ^^^ s)) ch) ch (k + 1))), nI (k + 1)))
      rw [fo_s]
      generalize fo (up1s (fun s => ok (start ^^^ s)) ch) ch k = b at hb hp2 ⊢
      unfold f_X0_fewestTurned_26s
      rw [if_neg (nI_ge hk (by omega)), bind_ok (x_bc _ (by omega))]
      by_cases c1 : pc k < pc b
      · rw [if_neg (nI_ge c1 (by omega)), bind_ok (x_holds _ _ (by omega) (by omega))]
        by_cases c2 : ch &&& k = k
        · rw [if_pos c2, if_neg (by decide), z_xor, bind_ok (hmet _)]
          cases c3 : ok (start ^^^ k)
          · rw [bz_f, if_pos rfl, same, show up1s (fun s => ok (start ^^^ s)) ch k b = b from if_neg (fun q => by have q3 : ok (start ^^^ k) = true := q.2.2; rw [c3] at q3; cases q3)]
          · rw [bz_t, if_neg (by decide), same, show up1s (fun s => ok (start ^^^ s)) ch k b = k from if_pos ⟨c1, c2, c3⟩]
        · rw [if_neg c2, if_pos rfl, same, show up1s (fun s => ok (start ^^^ s)) ch k b = b from if_neg (fun q => c2 q.2.1)]
      · rw [if_pos (nI_le (by omega) (by omega)), same, show up1s (fun s => ok (start ^^^ s)) ch k b = b from if_neg (fun q => c1 q.1)]
    · show f_X0_fewestTurned_26s aim (nI start) (nI ch) (nI (fo (up1s (fun s => ok (start ^^^ s)) ch) ch ch)) _ (nI ch) σX = _
      unfold f_X0_fewestTurned_26s
      rw [if_pos (nI_le (Nat.le_refl _) (by omega))]
theorem dn_le (ok : Nat → Bool) (ch : Nat) : ∀ k, fo (dn1s ok ch) ch k ≤ ch := by
  intro k
  induction k with
  | zero => exact Nat.le_refl _
  | succ k ih =>
    rw [fo_s]
    unfold dn1s
    split
    · omega
    · exact ih
/-- needs: those without each of which it is not -/
def nd1 (F : Fl) (j b acc : Nat) : Nat := if (beg F).testBit b = true ∧ (rch F (dif (beg F) (2 ^ b))).testBit j = false then acc ||| 2 ^ b else acc
theorem x_needed (hF : OKF F) (hX : FX 12 F σX) {j : Nat} (hj : j < 10) : f_X0_neededFor (nI j) σX = some (nI (fo (nd1 F j) 0 (fN F))) := by
  have hn := hF.1.1
  unfold f_X0_neededFor f_X0_neededFor_4
  refine itr_run (fun k => (nI (fo (nd1 F j) 0 k), nI k)) (fN F) rfl (by omega) (fun k hk => ?_) ?_
  · show f_X0_neededFor_4s (nI j) (nI (fo (nd1 F j) 0 k)) (nI k) σX = some (.inl (nI (fo (nd1 F j) 0 (k + 1)), nI (k + 1)))
    have go : ∀ a, f_X0_neededFor_51 (nI j) (nI a) (nI k) σX = some (.inl (nI a, nI (k + 1))) := by
      intro a
      unfold f_X0_neededFor_51
      rw [nm_eq, nI_1]
    rw [fo_s]
    generalize fo (nd1 F j) 0 k = a
    unfold f_X0_neededFor_4s
    rw [bind_ok (x_stones hX), if_neg (nI_ge hk (by omega)), bind_ok (x_beg hX), z_bit (by omega), z_dif, nm_eq, bind_ok (x_beg hX), bind_ok (x_has (lt31 (beg_lt hF)) (by omega))]
    cases c : (beg F).testBit k
    · rw [zb_0.mpr c, if_pos rfl, go, show nd1 F j k a = a from if_neg (fun q => by rw [c] at q; exact absurd q.1 (by decide))]
    · rw [zb_1.mpr c, if_neg (by decide), bind_ok (x_met_s hF hX hj _)]
      cases c2 : (rch F (dif (beg F) (2 ^ k))).testBit j
      · rw [bz_f, if_pos rfl, nm_eq, z_or, go, show nd1 F j k a = a ||| 2 ^ k from if_pos ⟨c, c2⟩]
      · rw [bz_t, if_neg (by decide), go, show nd1 F j k a = a from if_neg (fun q => by rw [c2] at q; exact absurd q.2 (by decide))]
  · show f_X0_neededFor_4s (nI j) (nI (fo (nd1 F j) 0 (fN F))) (nI (fN F)) σX = _
    unfold f_X0_neededFor_4s
    rw [bind_ok (x_stones hX), if_pos (nI_le (Nat.le_refl _) (by omega))]
theorem m_needed (hF : OKF F) (hM : FM 0 F σM) {j best : Nat} (hj : j < 10) (w : Int32) : f_X9_needs_119 (nI j) w (nI (beg F)) (nI 0) (nI best) (nI 0) σM = some (if w = 0 then nI (fo (nd1 F j) 0 (fN F)) else nI best) := by
  have hn := hF.1.1
  unfold f_X9_needs_119
  refine itr_run (fun k => (nI (fo (nd1 F j) 0 k), nI k)) (fN F) rfl (by omega) (fun k hk => ?_) ?_
  · show f_X9_needs_119s (nI j) w (nI (beg F)) (nI (fo (nd1 F j) 0 k)) (nI best) (nI k) σM = some (.inl (nI (fo (nd1 F j) 0 (k + 1)), nI (k + 1)))
    have go : ∀ a b, f_X9_needs_168 (nI j) w (nI (beg F)) (nI best) (nI k) (nI a) (nI b) σM = some (.inl (nI (a ||| b), nI (k + 1))) := by
      intro a b
      unfold f_X9_needs_168
      rw [nm_eq, nm_eq, nI_1, z_or]
    have go0 : ∀ a, f_X9_needs_167 (nI j) w (nI (beg F)) (nI best) (nI k) (nI a) σM = some (.inl (nI a, nI (k + 1))) := by
      intro a
      unfold f_X9_needs_167
      rw [z_0, go, Nat.or_zero]
    rw [fo_s]
    generalize fo (nd1 F j) 0 k = a
    unfold f_X9_needs_119s
    rw [bind_ok (m_w0 hM), if_neg (nI_ge hk (by omega)), bind_ok (m_has (lt31 (beg_lt hF)) (by omega))]
    cases c : (beg F).testBit k
    · rw [zb_0.mpr c, if_pos rfl, go0, show nd1 F j k a = a from if_neg (fun q => by rw [c] at q; exact absurd q.1 (by decide))]
    · rw [zb_1.mpr c, if_neg (by decide), z_bit (by omega), z_dif, bind_ok (m_reachOf hF hM _), bind_ok (m_has (lt31 (rch_lt hF _)) (by omega))]
      cases c2 : (rch F (dif (beg F) (2 ^ k))).testBit j
      · rw [zb_0.mpr c2, if_pos rfl, go, show nd1 F j k a = a ||| 2 ^ k from if_pos ⟨c, c2⟩]
      · rw [zb_1.mpr c2, if_neg (by decide), go0, show nd1 F j k a = a from if_neg (fun q => by rw [c2] at q; exact absurd q.2 (by decide))]
  · show f_X9_needs_119s (nI j) w (nI (beg F)) (nI (fo (nd1 F j) 0 (fN F))) (nI best) (nI (fN F)) σM = _
    unfold f_X9_needs_119s
    rw [bind_ok (m_w0 hM), if_pos (nI_le (Nat.le_refl _) (by omega))]
    by_cases c : w = 0
    · rw [if_pos c, if_pos c]; rfl
    · rw [if_neg c, if_neg c]; rfl
theorem m_needs_dn (hF : OKF F) (hM : FM 0 F σM) {j : Nat} (hj : j < 10) (w : Int32) : f_X9_needs_49 (nI j) w (nI (beg F)) (nI 0) (nI (beg F)) (nI (beg F)) σM = some (if w = 0 then nI (fo (nd1 F j) 0 (fN F)) else nI (fo (dn1s (fun s => (rch F s).testBit j) (beg F)) (beg F) (beg F + 1))) := by
  have hb := beg_lt hF
  unfold f_X9_needs_49
  refine itr_run (fun k => (nI (fo (dn1s (fun s => (rch F s).testBit j) (beg F)) (beg F) k), sI (beg F) k)) (beg F + 1) ?_ (by omega) (fun k hk => ?_) ?_
  · show (nI (beg F), nI (beg F)) = (nI (beg F), sI (beg F) 0)
    rw [sI_in (by omega), Nat.sub_zero]
  · show f_X9_needs_49s (nI j) w (nI (beg F)) (nI 0) (nI (fo (dn1s (fun s => (rch F s).testBit j) (beg F)) (beg F) k)) (sI (beg F) k) σM = some (.inl (nI (fo (dn1s (fun s => (rch F s).testBit j) (beg F)) (beg F) (k + 1)), sI (beg F) (k + 1)))
    have hle := dn_le (fun s => (rch F s).testBit j) (beg F) k
    rw [fo_s, sI_in (show k ≤ beg F by omega)]
    generalize fo (dn1s (fun s => (rch F s).testBit j) (beg F)) (beg F) k = b at hle
    have go : ∀ a, f_X9_needs_108 (nI j) w (nI (beg F)) (nI 0) (nI (beg F - k)) (nI a) σM = some (.inl (nI a, sI (beg F) (k + 1))) := by
      intro a
      unfold f_X9_needs_108
      rw [nm_eq, sI_s (by omega)]
    have go0 : f_X9_needs_80 (nI j) w (nI (beg F)) (nI 0) (nI b) (nI (beg F - k)) σM = some (.inl (nI b, sI (beg F) (k + 1))) := by
      unfold f_X9_needs_80 f_X9_needs_81
      rw [if_pos rfl]
      unfold f_X9_needs_106
      exact go b
    have hp1 := pc_le b
    have hp2 := pc_le (beg F - k)
    unfold f_X9_needs_49s
    rw [if_neg (nI_pos (by omega)), z_dif]
    by_cases c1 : (beg F) &&& (beg F - k) = beg F - k
    · rw [(dif_0 (by omega)).mpr (and_sub.mp c1), if_pos z_e0, bind_ok (m_reachOf hF hM _), bind_ok (m_has (lt31 (rch_lt hF _)) (by omega))]
      cases c2 : (rch F (beg F - k)).testBit j
      · rw [zb_0.mpr c2, if_pos rfl, go0, show dn1s (fun s => (rch F s).testBit j) (beg F) k b = b from if_neg (fun q => by have q3 : (rch F (beg F - k)).testBit j = true := q.2.1; rw [c2] at q3; cases q3)]
      · rw [zb_1.mpr c2, if_neg (by decide)]
        unfold f_X9_needs_81
        rw [if_neg (by decide), bind_ok (m_ones (by omega)), bind_ok (m_ones (by omega))]
        by_cases c3 : pc (beg F - k) ≤ pc b
        · rw [if_neg (nI_nlt c3 (by omega)), go, show dn1s (fun s => (rch F s).testBit j) (beg F) k b = beg F - k from if_pos ⟨c1, c2, c3⟩]
        · rw [if_pos (nI_lt (by omega) (by omega)), show dn1s (fun s => (rch F s).testBit j) (beg F) k b = b from if_neg (fun q => c3 q.2.2)]
          unfold f_X9_needs_106
          exact go b
    · rw [if_neg (z_ne0 (lt31 (dif_lt (by omega))) (fun q => c1 (and_sub.mpr ((dif_0 (by omega)).mp q)))), go0, show dn1s (fun s => (rch F s).testBit j) (beg F) k b = b from if_neg (fun q => c1 q.1)]
  · show f_X9_needs_49s (nI j) w (nI (beg F)) (nI 0) (nI (fo (dn1s (fun s => (rch F s).testBit j) (beg F)) (beg F) (beg F + 1))) (sI (beg F) (beg F + 1)) σM = _
    unfold f_X9_needs_49s
    rw [sI_out, if_pos (by decide), z_0, m_needed hF hM hj w]
    rfl
/-- promise 15: needs -/
theorem q_needs (hF : OKF F) (hX : FX 12 F σX) (hM : FM 0 F σM) (v1 v2 : Int32) : ∃ r, f_X8_needs v1 v2 σX = some r ∧ f_X9_needs v1 v2 σM = some r := by
  have hn := hF.1.1
  have hb := beg_lt hF
  unfold f_X8_needs f_X9_needs
  rw [bind_ok (x_isStone hX v1), bind_ok (m_isStone hF.1 hM.1 v1)]
  rcases inn_cases v1 (n := fN F) (by omega) with e | ⟨j, h1, rfl, e⟩
  · rw [e]; exact ⟨_, rfl, rfl⟩
  rw [e, if_neg (by decide : ¬ (1 : Int32) = 0), if_neg (by decide : ¬ (1 : Int32) = 0), bind_ok (z_inK v2 1 1 (by decide) (by decide))]
  rcases inn_cases v2 (n := 1 + 1) (by decide) with e | ⟨w, hw, rfl, e⟩
  · rw [e, if_pos rfl]
    refine ⟨-1, ?_, rfl⟩
    rcases inn_out e with c | c
    · rw [if_pos c]; rfl
    · by_cases c1 : v2 < 0
      · rw [if_pos c1]; rfl
      · rw [if_neg c1, if_neg]
        · rfl
        · intro q
          have := (gt_of (v := v2) (n := 1) (by decide)).mp c
          rw [fa_lt] at this
          rw [Int32.le_iff_toInt_le] at q
          have e1 : (nI 1).toInt = (1 : Int32).toInt := rfl
          omega
  rw [e, if_neg (by decide : ¬ (1 : Int32) = 0), if_neg (nI_pos (by omega)), if_pos (show nI w ≤ (1 : Int32) from nI_le (a := w) (b := 1) (by omega) (by decide)), bind_ok (m_beg hM), bind_ok (m_reachOf hF hM _), bind_ok (m_has (lt31 (rch_lt hF _)) (by omega))]
  have el : f_X0_leadTo (nI j) σX = some (bz ((rch F (beg F)).testBit j)) := by
    unfold f_X0_leadTo
    rw [bind_ok (x_beg hX), bind_ok (x_met_s hF hX (by omega) _), bind_ok (zrt_01 (bz_01 _))]
  rw [bind_ok el]
  cases c : (rch F (beg F)).testBit j
  · rw [zb_0.mpr c]; exact ⟨_, rfl, rfl⟩
  rw [zb_1.mpr c, bz_t, if_neg (by decide : ¬ (1 : Int32) = 0), if_neg (by decide : ¬ (1 : Int32) = 0), z_0, m_needs_dn hF hM (by omega) (nI w)]
  rcases (show w = 0 ∨ w = 1 by omega) with rfl | rfl
  · refine ⟨nI (fo (nd1 F j) 0 (fN F)), ?_, rfl⟩
    rw [if_pos (show nI 0 = nI 0 from rfl), bind_ok (x_needed hF hX (by omega))]
    rfl
  · refine ⟨nI (fo (dn1s (fun s => (rch F s).testBit j) (beg F)) (beg F) (beg F + 1)), ?_, rfl⟩
    rw [if_neg (show ¬ nI 1 = nI 0 by decide)]
    unfold f_X0_fewestFor
    have ef := x_fewT (aim := nI j) (ok := fun s => (rch F s).testBit j) (fun v => x_met_s hF hX (by omega) v) (start := 0) (ch := beg F) hb
    rw [Nat.zero_xor, if_pos c] at ef
    rw [bind_ok (x_beg hX), z_0, bind_ok ef]
    have hu : fo (up1s (fun s => (rch F (0 ^^^ s)).testBit j) (beg F)) (beg F) (beg F) = fo (dn1s (fun s => (rch F s).testBit j) (beg F)) (beg F) (beg F + 1) := by
      have a1 := up_min (ok := fun s => (rch F s).testBit j) hb c
      have a2 := dn_min (ok := fun s => (rch F s).testBit j) (ch := beg F) c
      have e0 : (fun s => (rch F (0 ^^^ s)).testBit j) = fun s => (rch F s).testBit j := by funext s; rw [Nat.zero_xor]
      rw [e0]
      exact a1.eq a2
    rw [hu]
    rfl
end
