section
variable {F : Fl} {σX σM zX zM : Sg}
theorem z_mul (a b : Nat) : nI a * nI b = nI (a * b) := by
  apply Int32.toBitVec_inj.1
  show BitVec.ofNat 32 a * BitVec.ofNat 32 b = BitVec.ofNat 32 (a * b)
  rw [BitVec.ofNat_mul]
theorem z_pl (p k : Nat) : nI p + (55 : Int32) * nI k = nI (p + 55 * k) := by rw [z_lit 55, z_mul, nI_add]
theorem x_keeper {k : Nat} (hk : k < 2) (σ : Sg) : f_X8_keeperOf (nI k) σ = some (19 + 7 * k) := by
  unfold f_X8_keeperOf
  rcases (show k = 0 ∨ k = 1 by omega) with rfl | rfl
  · rw [if_pos (show nI 0 = (0 : Int32) from rfl)]; rfl
  · rw [if_neg (show ¬ nI 1 = (0 : Int32) by decide)]; rfl
theorem gfl_ok {k : Nat} (hk : k < 2) : gfl (19 + 7 * k) = some () := by
  unfold gfl
  rw [if_pos (by unfold isFl; omega)]
/-- promise 27: keep -/
theorem s_27 : simC27 Sim := fun σX σM ⟨F, h⟩ => by
  have hb := h
  obtain ⟨hF, hX, hM, h4, h5, ⟨kn, k1, k2, k3, k4⟩, h7⟩ := h
  unfold f_X8_keep f_X9_keep
  rw [k2, k3]
  rcases Nat.lt_or_ge kn 2 with c | c
  case inr =>
    obtain rfl : kn = 2 := by omega
    rw [if_neg (show ¬ nI 2 < (2 : Int32) by decide), if_pos (show nI 2 = (2 : Int32) from rfl)]
    exact ⟨_, _, _, rfl, rfl, F, hb⟩
  obtain ⟨z, e1, e2, e3⟩ := x_copyFrom (b := 19 + 7 * kn) (b2 := 12) (F := F) (σ := σX) (by omega) hF.m10 hX
  obtain ⟨y, f1, f2⟩ := m_copy (r1 := 0) (r2 := 55 + 55 * kn) (σ := σM) (by omega) (by omega) (by omega)
  have mo : ∀ a j, ¬ (a = 1 ∧ 55 + 55 * kn ≤ j ∧ j < 55 + 55 * kn + 55) → y.1 a j = σM.1 a j := fun a j q => by rw [f2, if_neg q]
  rw [if_pos (show nI kn < (2 : Int32) from nI_lt (b := 2) c (by decide)), if_neg (show ¬ nI kn = (2 : Int32) from fun q => by have := (nI_eq (a := kn) (b := 2) (by omega) (by decide)).mp q; omega), bind_ok (x_keeper c σX), bind_ok (gfl_ok c), bind_ok e1, bind_ok (pfi_eq _ _ _ _), z_lit 55, z_mul, nI_add, z_0, bind_ok f1, bind_ok (pfi_eq _ _ _ _), e3 0 (by omega), k2, mo 0 1 (by omega), k3, nI_1]
  have x2 : (up1 z 0 11 (nI (kn + 1))).1 0 11 = nI (kn + 1) := by rw [up1_eq, if_pos ⟨rfl, rfl⟩]
  have y2 : (up1 y 0 1 (nI (kn + 1))).1 0 1 = nI (kn + 1) := by rw [up1_eq, if_pos ⟨rfl, rfl⟩]
  have ox : ∀ a j, a < 19 + 7 * kn ∨ 25 + 7 * kn < a → ¬ (a = 0 ∧ j = 11) → (up1 z 0 11 (nI (kn + 1))).1 a j = σX.1 a j := fun a j q r => by rw [up1_eq, if_neg r, e3 a (by omega)]
  have om : ∀ a j, ¬ (a = 1 ∧ 55 + 55 * kn ≤ j ∧ j < 55 + 55 * kn + 55) → ¬ (a = 0 ∧ j = 1) → (up1 y 0 1 (nI (kn + 1))).1 a j = σM.1 a j := fun a j q r => by rw [up1_eq, if_neg r, mo a j q]
  rw [x2, y2]
  refine ⟨_, _, _, rfl, rfl, F, hF, FX_pt (fun a j p q => ox a j (by omega) (by omega)) hX, FM_keep (fun j p q => om 1 j (by omega) (by omega)) hF.m10 hM, TEXT_k (ox 1 1 (by omega) (by omega)) (fun j => ox 2 j (by omega) (by omega)) (om 0 4 (by omega) (by omega)) (fun j => om 2 j (by omega) (by omega)) h4, TOLD_k (ox 0 10 (by omega) (by omega)) (fun j => ox 41 j (by omega) (by omega)) (om 0 6 (by omega) (by omega)) (fun j => om 3 j (by omega) (by omega)) h5, ⟨kn + 1, by omega, x2, y2, fun i hi => ?_⟩, UNDO_k (ox 33 2 (by omega) (by omega)) (fun j => ox 34 j (by omega) (by omega)) (fun j => ox 35 j (by omega) (by omega)) (om 0 2 (by omega) (by omega)) (fun j p q => om 1 j (by omega) (by omega)) h7⟩
  rcases Nat.lt_or_ge i kn with c2 | c2
  · obtain ⟨K, g1, g2, g3⟩ := k4 i c2
    exact ⟨K, g1, FX_pt (fun a j p q => ox a j (by omega) (by omega)) g2, FM_keep (fun j p q => om 1 j (by omega) (by omega)) g1.m10 g3⟩
  · obtain rfl : i = kn := by omega
    refine ⟨F, hF, FX_pt (fun a j p q => by rw [up1_eq, if_neg (by omega)]) e2, FM_move (r1 := 0) (fun j hj => ?_) hF.m10 hM⟩
    rw [up1_eq, if_neg (by omega), f2, if_pos ⟨rfl, by omega, by omega⟩]
    exact congrArg (σM.1 1) (by omega)
/-- promise 27: back -/
theorem s_28 : simC28 Sim := fun σX σM ⟨F, h⟩ => by
  have hb := h
  obtain ⟨hF, hX, hM, h4, h5, ⟨kn, k1, k2, k3, k4⟩, h7⟩ := h
  unfold f_X8_back f_X9_back
  rw [k2, k3]
  cases kn with
  | zero =>
    rw [if_pos z_e0, if_pos z_e0]
    exact ⟨_, _, _, rfl, rfl, F, hb⟩
  | succ k =>
    obtain ⟨K, g1, g2, g3⟩ := k4 k (by omega)
    have ed : nI (k + 1) - 1 = nI k := pk_sub (b := 1) (by omega)
    rw [if_neg (z_ne0 (by omega) (by omega)), if_neg (z_ne0 (by omega) (by omega)), ed, bind_ok (pfi_eq _ _ _ _), bind_ok (pfi_eq _ _ _ _)]
    have x1 : (up1 σX 0 11 (nI k)).1 0 11 = nI k := by rw [up1_eq, if_pos ⟨rfl, rfl⟩]
    have y1 : (up1 σM 0 1 (nI k)).1 0 1 = nI k := by rw [up1_eq, if_pos ⟨rfl, rfl⟩]
    have g2' : FX (19 + 7 * k) K (up1 σX 0 11 (nI k)) := FX_pt (fun a j p q => by rw [up1_eq, if_neg (by omega)]) g2
    obtain ⟨z, e1, e2, e3⟩ := x_copyFrom (b := 12) (b2 := 19 + 7 * k) (F := K) (σ := up1 σX 0 11 (nI k)) (by omega) g1.m10 g2'
    obtain ⟨y, f1, f2⟩ := m_copy (r1 := 55 + 55 * k) (r2 := 0) (σ := up1 σM 0 1 (nI k)) (by omega) (by omega) (by omega)
    rw [x1, y1, bind_ok (x_keeper (by omega) _), bind_ok (gfl_ok (by omega)), bind_ok e1, z_lit 55, z_mul, nI_add, z_0, bind_ok f1]
    unfold f_X8_forgetRowAndPast f_X2_clear
    have ox : ∀ a j, a < 12 ∨ 18 < a → ¬ (a = 0 ∧ j = 11) → ¬ (a = 0 ∧ j = 10) → ¬ (a = 33 ∧ j = 2) → (up1 (up1 z 0 10 0) 33 2 0).1 a j = σX.1 a j := fun a j q r1 r2 r3 => by rw [up1_eq, if_neg r3, up1_eq, if_neg r2, e3 a (by omega), up1_eq, if_neg r1]
    have om : ∀ a j, ¬ (a = 1 ∧ j < 55) → ¬ (a = 0 ∧ j = 1) → ¬ (a = 0 ∧ j = 6) → ¬ (a = 0 ∧ j = 2) → (up1 (up1 y 0 6 0) 0 2 0).1 a j = σM.1 a j := fun a j q r1 r2 r3 => by rw [up1_eq, if_neg r3, up1_eq, if_neg r2, f2, if_neg (by omega), up1_eq, if_neg r1]
    have x2 : (up1 (up1 z 0 10 0) 33 2 0).1 0 11 = nI k := by rw [up1_eq, if_neg (by omega), up1_eq, if_neg (by omega), e3 0 (by omega), x1]
    have y2 : (up1 (up1 y 0 6 0) 0 2 0).1 0 1 = nI k := by rw [up1_eq, if_neg (by omega), up1_eq, if_neg (by omega), f2, if_neg (by omega), y1]
    refine ⟨nI k, up1 (up1 z 0 10 0) 33 2 0, up1 (up1 y 0 6 0) 0 2 0, ?_, ?_, K, g1, FX_pt (fun a j p q => by rw [up1_eq, if_neg (by omega), up1_eq, if_neg (by omega)]) e2, FM_move (r1 := 55 + 55 * k) (fun j hj => ?_) g1.m10 g3, TEXT_k (ox 1 1 (by omega) (by omega) (by omega) (by omega)) (fun j => ox 2 j (by omega) (by omega) (by omega) (by omega)) (om 0 4 (by omega) (by omega) (by omega) (by omega)) (fun j => om 2 j (by omega) (by omega) (by omega) (by omega)) h4, TOLD_0 (by rw [up1_eq, if_neg (by omega), up1_eq, if_pos ⟨rfl, rfl⟩]) (by rw [up1_eq, if_neg (by omega), up1_eq, if_pos ⟨rfl, rfl⟩]), ⟨k, by omega, x2, y2, fun i hi => ?_⟩, UNDO_0 (by rw [up1_eq, if_pos ⟨rfl, rfl⟩]) (by rw [up1_eq, if_pos ⟨rfl, rfl⟩])⟩
    · show some ((up1 (up1 z 0 10 0) 33 2 0).1 0 11, up1 (up1 z 0 10 0) 33 2 0) = _
      rw [x2]
    · show some ((up1 (up1 y 0 6 0) 0 2 0).1 0 1, up1 (up1 y 0 6 0) 0 2 0) = _
      rw [y2]
    · rw [up1_eq, if_neg (by omega), up1_eq, if_neg (by omega), f2, if_pos ⟨rfl, by omega, by omega⟩, up1_eq, if_neg (by omega)]
      exact congrArg (σM.1 1) (by omega)
    · obtain ⟨K2, m1, m2, m3⟩ := k4 i (by omega)
      exact ⟨K2, m1, FX_pt (fun a j p q => ox a j (by omega) (by omega) (by omega) (by omega)) m2, FM_keep (fun j p q => om 1 j (by omega) (by omega) (by omega) (by omega)) m1.m10 m3⟩
end
