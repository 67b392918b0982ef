section
variable {F F' : Fl} {σX σM zX yX yM : Sg}
theorem dif_or {x c : Nat} (hx : x < 1024) (hc : c < 10) (h : x.testBit c = false) : dif (x ||| 2 ^ c) (2 ^ c) = x := by
  apply Nat.eq_of_testBit_eq
  intro i
  rw [dif_p (or10 hx (pow10 hc)), tb_or2]
  by_cases e : i = c
  · subst e; simp [h]
  · simp [e, Ne.symm e]
theorem or_dif2 {x c : Nat} (hx : x < 1024) (h : x.testBit c = true) : dif x (2 ^ c) ||| 2 ^ c = x := by
  apply Nat.eq_of_testBit_eq
  intro i
  rw [tb_or2, dif_p hx]
  by_cases e : i = c
  · subst e; simp [h]
  · simp [e, Ne.symm e]
theorem dif_no {x c : Nat} (hx : x < 1024) (h : x.testBit c = false) : dif x (2 ^ c) = x := by
  apply Nat.eq_of_testBit_eq
  intro i
  rw [dif_p hx]
  by_cases e : i = c
  · subst e; simp [h]
  · simp [e]
theorem wear_back (x : Int32) : x + 1 - 1 = x := by
  apply Int32.toBitVec_inj.1
  simp
/-- what was done is taken back -/
theorem x_back {k v : Int32} {s : Sg} (hF : OKF F) (hp : PO k v F F') (hX : FX 12 F' s) :
    ∃ y, (if k = 0 then (f_X1_untread 12 v s).bind fun q6 => f_X2_takeBackLatest_81 q6 else if k = 3 then (f_X1_removeLatestStep 12 s).bind fun q5 => f_X2_takeBackLatest_81 q5 else if k = 2 then f_X2_takeBackLatest_78 v 1 s else f_X2_takeBackLatest_78 v 0 s) = some y ∧ FX 12 F y ∧ ∀ a j, ¬ (12 ≤ a ∧ a ≤ 18) → y.1 a j = s.1 a j := by
  rcases hp with ⟨rfl, c, hc, rfl, hb, rfl⟩ | ⟨hk, c, hc, rfl, hb, hk2, rfl⟩ | ⟨rfl, a, b, c, hm, rfl⟩
  · rw [if_pos rfl]
    have h10 : s.1 12 10 = nI (fSt F ||| 2 ^ c) := hX.2.2
    have hw : s.1 18 c = fW F c + 1 := by
      have := (hX.1.2.2.2.2 c hc).2
      rw [show s.1 18 c = fW (goF F c) c from this]
      exact if_pos rfl
    refine ⟨up1 (up1 s 12 10 (nI (fSt F))) 18 c (fW F c), ?_, ?_, fun a j h => by rw [up1_eq, if_neg (by omega), up1_eq, if_neg (by omega)]⟩
    · unfold f_X1_untread
      rw [h10, z_bit (by omega), z_dif, dif_or hF.st hc hb, bind_ok (pfi_eq _ _ _ _), bind_ok (x_at (by omega) (by decide)), up1_eq, if_neg (by omega), hw, wear_back, bind_ok (x_put (by omega) (by decide))]
      rfl
    · have o : ∀ a j, ¬ (a = 12 ∧ j = 10) → ¬ (a = 18 ∧ j = c) → (up1 (up1 s 12 10 (nI (fSt F))) 18 c (fW F c)).1 a j = s.1 a j := fun a j p q => by rw [up1_eq, if_neg q, up1_eq, if_neg p]
      refine ⟨⟨by rw [o _ _ (by omega) (by omega)]; exact hX.1.1, by rw [o _ _ (by omega) (by omega)]; exact hX.1.2.1, by rw [o _ _ (by omega) (by omega)]; exact hX.1.2.2.1, fun u hu => ?_, fun i hi => ?_⟩, by rw [o _ _ (by omega) (by omega)]; exact hX.2.1, by rw [up1_eq, if_neg (by omega), up1_eq, if_pos ⟨rfl, rfl⟩]⟩
      · rw [o _ _ (by omega) (by omega), o _ _ (by omega) (by omega), o _ _ (by omega) (by omega), o _ _ (by omega) (by omega)]; exact hX.1.2.2.2.1 u hu
      · have h0 := hX.1.2.2.2.2 i hi
        refine ⟨by rw [o _ _ (by omega) (by omega)]; exact h0.1, ?_⟩
        by_cases e : i = c
        · rw [e, up1_eq, if_pos ⟨rfl, rfl⟩]
        · rw [o _ _ (by omega) (by omega), h0.2]
          exact if_neg e
  · have h9 : s.1 12 9 = nI (dif (fTh F) (2 ^ c)) := hX.2.1
    have h10 : s.1 12 10 = nI (dif (fSt F) (2 ^ c)) := hX.2.2
    have o : ∀ y : Sg, (∀ a j, ¬ (a = 12 ∧ (j = 9 ∨ j = 10)) → y.1 a j = s.1 a j) → y.1 12 9 = nI (fTh F) → y.1 12 10 = nI (fSt F) → FX 12 F y := by
      intro y o h1 h2
      refine ⟨⟨by rw [o _ _ (by omega)]; exact hX.1.1, by rw [o _ _ (by omega)]; exact hX.1.2.1, by rw [o _ _ (by omega)]; exact hX.1.2.2.1, fun u hu => ?_, fun i hi => ?_⟩, h1, h2⟩
      · rw [o _ _ (by omega), o _ _ (by omega), o _ _ (by omega), o _ _ (by omega)]; exact hX.1.2.2.2.1 u hu
      · rw [o _ _ (by omega), o _ _ (by omega)]; exact hX.1.2.2.2.2 i hi
    rcases hk with rfl | rfl
    · have hs : (fSt F).testBit c = false := by
        cases q : (fSt F).testBit c
        · rfl
        · exact absurd (hk2.mp q) (by decide)
      rw [if_neg (by decide : ¬ (1 : Int32) = 0), if_neg (by decide : ¬ (1 : Int32) = 3), if_neg (by decide : ¬ (1 : Int32) = 2)]
      refine ⟨up1 s 12 9 (nI (fTh F)), ?_, o _ (fun a j h => by rw [up1_eq, if_neg (by omega)]) (by rw [up1_eq, if_pos ⟨rfl, rfl⟩]) (by rw [up1_eq, if_neg (by omega), h10, dif_no hF.st hs]), fun a j h => by rw [up1_eq, if_neg (by omega)]⟩
      unfold f_X2_takeBackLatest_78 f_X1_putSlabBack
      rw [h9, z_bit (by omega), z_or, or_dif2 hF.th hb, bind_ok (pfi_eq _ _ _ _), if_pos rfl]
      rfl
    · have hs := hk2.mpr rfl
      rw [if_neg (by decide : ¬ (2 : Int32) = 0), if_neg (by decide : ¬ (2 : Int32) = 3), if_pos rfl]
      refine ⟨up1 (up1 s 12 9 (nI (fTh F))) 12 10 (nI (fSt F)), ?_, o _ (fun a j h => by rw [up1_eq, if_neg (by omega), up1_eq, if_neg (by omega)]) (by rw [up1_eq, if_neg (by omega), up1_eq, if_pos ⟨rfl, rfl⟩]) (by rw [up1_eq, if_pos ⟨rfl, rfl⟩]), fun a j h => by rw [up1_eq, if_neg (by omega), up1_eq, if_neg (by omega)]⟩
      unfold f_X2_takeBackLatest_78 f_X1_putSlabBack
      rw [h9, z_bit (by omega), z_or, or_dif2 hF.th hb, bind_ok (pfi_eq _ _ _ _), if_neg (by decide : ¬ (1 : Int32) = 0), up1_eq, if_neg (by omega), h10, z_or, or_dif2 hF.st hs, bind_ok (pfi_eq _ _ _ _)]
      rfl
  · rw [if_neg (by decide : ¬ (3 : Int32) = 0), if_pos rfl]
    have h7 : s.1 12 7 = nI (fM F + 1) := hX.1.2.1
    have o : ∀ x j, ¬ (x = 12 ∧ j = 7) → (up1 s 12 7 (nI (fM F))).1 x j = s.1 x j := fun x j p => by rw [up1_eq, if_neg p]
    refine ⟨up1 s 12 7 (nI (fM F)), ?_, ?_, fun a j h => o a j (by omega)⟩
    · unfold f_X1_removeLatestStep
      rw [h7, if_neg (show ¬ nI (fM F + 1) ≤ (0 : Int32) from nI_ge (a := 0) (b := fM F + 1) (by omega) (by omega)), show nI (fM F + 1) - 1 = nI (fM F) from pk_sub (b := 1) (by omega), bind_ok (pfi_eq _ _ _ _)]
      rfl
    · refine ⟨⟨by rw [o _ _ (by omega)]; exact hX.1.1, by rw [up1_eq, if_pos ⟨rfl, rfl⟩], by rw [o _ _ (by omega)]; exact hX.1.2.2.1, fun u hu => ?_, fun i hi => ?_⟩, by rw [o _ _ (by omega)]; exact hX.2.1, by rw [o _ _ (by omega)]; exact hX.2.2⟩
      · have h0 := hX.1.2.2.2.1 u (show u < fM F + 1 by omega)
        rw [o _ _ (by omega), o _ _ (by omega), o _ _ (by omega), o _ _ (by omega)]
        rw [show fA (layF F a b c) u = fA F u from if_neg (by omega), show fB (layF F a b c) u = fB F u from if_neg (by omega), show fC (layF F a b c) u = fC F u from if_neg (by omega)] at h0
        exact h0
      · rw [o _ _ (by omega), o _ _ (by omega)]; exact hX.1.2.2.2.2 i hi
/-- promise 11: undo -/
theorem s_9 : simC9 Sim := fun σX σM ⟨F, h⟩ => by
  have hb := h
  obtain ⟨hF, hX, hM, h4, h5, h6, ⟨un, u1, u2, u3, G, u4, u5⟩⟩ := h
  unfold f_X8_undo f_X9_undo f_X2_size
  rw [u2, u3]
  show ∃ r σX2 σM2, (if nI un = 0 then _ else _) = some (r, σX2) ∧ _
  cases un with
  | zero =>
    rw [if_pos z_e0, if_pos z_e0]
    exact ⟨_, _, _, rfl, rfl, F, hb⟩
  | succ n =>
    have ed : nI (n + 1) - 1 = nI n := pk_sub (b := 1) (by omega)
    obtain ⟨g1, g2, g3⟩ := u5 n (by omega)
    rw [u4] at g3
    rw [if_neg (z_ne0 (a := n + 1) (by omega) (by omega)), if_neg (z_ne0 (a := n + 1) (by omega) (by omega)), ed, bind_ok (pfi_eq _ _ _ _)]
    have y1 : (up1 σM 0 2 (nI n)).1 0 2 = nI n := by rw [up1_eq, if_pos ⟨rfl, rfl⟩]
    obtain ⟨y, f1, f2⟩ := m_copy (r1 := 165 + 55 * n) (r2 := 0) (σ := up1 σM 0 2 (nI n)) (by omega) (by omega) (by omega)
    have s2 : (up1 σX 33 2 (nI n)).1 33 2 = nI n := by rw [up1_eq, if_pos ⟨rfl, rfl⟩]
    obtain ⟨z, e1, e2, e3⟩ := x_back (s := up1 σX 33 2 (nI n)) g1 g3 (FX_pt (fun a j p q => by rw [up1_eq, if_neg (by omega)]) hX)
    have s34 : (up1 σX 33 2 (nI n)).1 34 n = σX.1 34 n := by rw [up1_eq, if_neg (by omega)]
    have s35 : (up1 σX 33 2 (nI n)).1 35 n = σX.1 35 n := by rw [up1_eq, if_neg (by omega)]
    have f1' : f_X9_copy (nI (165 + 55 * n)) 0 (up1 σM 0 2 (nI n)) = some y := f1
    have et : f_X2_takeBackLatest σX = some z := by
      unfold f_X2_takeBackLatest
      rw [u2, if_neg (z_ne0 (a := n + 1) (by omega) (by omega)), ed, bind_ok (pfi_eq _ _ _ _), s2, bind_ok (x_at (by omega) (by decide)), bind_ok (x_at (by omega) (by decide)), s34, s35, e1]
    have oX : ∀ a j, ¬ (12 ≤ a ∧ a ≤ 18) → ¬ (a = 33 ∧ j = 2) → ¬ (a = 0 ∧ j = 10) → (up1 z 0 10 0).1 a j = σX.1 a j := fun a j p q r => by rw [up1_eq, if_neg r, e3 a j p, up1_eq, if_neg q]
    have oM : ∀ a j, ¬ (a = 1 ∧ j < 55) → ¬ (a = 0 ∧ j = 2) → ¬ (a = 0 ∧ j = 6) → (up1 y 0 6 0).1 a j = σM.1 a j := fun a j p q r => by rw [up1_eq, if_neg r, f2, if_neg (by omega), up1_eq, if_neg q]
    have x3 : (up1 z 0 10 0).1 33 2 = nI n := by rw [up1_eq, if_neg (by omega), e3 33 2 (by omega), s2]
    have y3 : (up1 y 0 6 0).1 0 2 = nI n := by rw [up1_eq, if_neg (by omega), f2, if_neg (by omega), y1]
    refine ⟨nI n, up1 z 0 10 0, up1 y 0 6 0, ?_, ?_, G n, g1, FX_pt (fun a j p q => by rw [up1_eq, if_neg (by omega)]) e2, FM_move (r1 := 165 + 55 * n) (fun j hj => ?_) g1.m10 g2, TEXT_k (oX 1 1 (by omega) (by omega) (by omega)) (fun j => oX 2 j (by omega) (by omega) (by omega)) (oM 0 4 (by omega) (by omega) (by omega)) (fun j => oM 2 j (by omega) (by omega) (by omega)) h4, TOLD_0 (by rw [up1_eq, if_pos ⟨rfl, rfl⟩]) (by rw [up1_eq, if_pos ⟨rfl, rfl⟩]), KEPT_k (oX 0 11 (by omega) (by omega) (by omega)) (fun a j p q => oX a j (by omega) (by omega) (by omega)) (oM 0 1 (by omega) (by omega) (by omega)) (fun j p q => oM 1 j (by omega) (by omega) (by omega)) h6, ⟨n, by omega, x3, y3, G, rfl, fun i hi => ?_⟩⟩
    · rw [bind_ok et, bind_ok (pfi_eq _ _ _ _)]
      show some ((up1 z 0 10 0).1 33 2, up1 z 0 10 0) = _
      rw [x3]
    · rw [y1, z_lit 165, z_pl, bind_ok f1', bind_ok (pfi_eq _ _ _ _)]
      show some ((up1 y 0 6 0).1 0 2, up1 y 0 6 0) = _
      rw [y3]
    · rw [up1_eq, if_neg (by omega), f2, if_pos ⟨rfl, by omega, by omega⟩, up1_eq, if_neg (by omega)]
      exact congrArg (σM.1 1) (by omega)
    · obtain ⟨k1, k2, k3⟩ := u5 i (by omega)
      rw [oX 34 i (by omega) (by omega) (by omega), oX 35 i (by omega) (by omega) (by omega)]
      exact ⟨k1, FM_keep (fun j p q => oM 1 j (by omega) (by omega) (by omega)) k1.m10 k2, k3⟩
end
