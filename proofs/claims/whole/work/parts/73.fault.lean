/-- the text is read: both at the first fault, or both to the end -/
theorem read_both {σX σM : Sg} (h : TEXT σX σM) :
    (∃ e zX zM, e < 300 ∧ f_X4_readOnto 5 σX = some (nI e, zX) ∧ f_X9_fault σM = some (nI e, zM) ∧ frX zX σX ∧ frM zM σM) ∨
    (∃ sX sM D only, DR D 5 only sX sM ∧ f_X4_readOnto 5 σX = some (-4, up1 sX 5 10 (nI (fBg D))) ∧ f_X9_fault σM = some (-4, sM) ∧ frX sX σX ∧ frM sM σM) := by
  obtain ⟨len, l1, l2, l3, l4⟩ := h
  obtain ⟨zX, zM, e1, e2, d1, d2, d3, d4⟩ := start_both σX σM
  have ht : ∀ j, j < len → (σX.1 2 j).toNatClampNeg < 256 ∧ σX.1 2 j = nI (σX.1 2 j).toNatClampNeg ∧ σM.1 2 j = nI (σX.1 2 j).toNatClampNeg := fun j hj => by
    obtain ⟨v, v1, v2, v3⟩ := l4 j hj
    rw [v2, v3, nI_clamp (by omega)]
    exact ⟨v1, rfl, rfl⟩
  have bX : BX (fun j => (σX.1 2 j).toNatClampNeg) len zX := BX_fr d3 ⟨l2, fun j hj => (ht j hj).2.1⟩
  have bM : BM (fun j => (σX.1 2 j).toNatClampNeg) len zM := BM_fr d4 ⟨l3, fun j hj => (ht j hj).2.2⟩
  have o1 : f_X4_readOnto 5 σX = itr 3000 (fun s => f_X4_readOnto_14s 5 s.1 s.2.1 s.2.2) (nI 0, nI 0, zX) := e1 (fun s2 => f_X4_readOnto_14 5 0 0 s2)
  have o2 : f_X9_fault σM = itr 3000 (fun s => f_X9_fault_17s s) zM := e2 (fun s3 => f_X9_fault_17 s3)
  rw [o1, o2]
  rcases loop_both l1 (fun j hj => (ht j hj).1) len 0 0 zX zM D0 true 3000 3000 (by omega) (by omega) (by omega) (by omega) (Nat.le_refl _) d1 bX bM d2 with ⟨e, sX, sM, k1, k2, k3, k4, k5⟩ | ⟨sX, sM, D, only, k1, k2, k3, k4, k5⟩
  · exact Or.inl ⟨e, sX, sM, by omega, k2, k3, frX_t k4 d3, frM_t k5 d4⟩
  · exact Or.inr ⟨sX, sM, D, only, k1, k2, k3, frX_t k4 d3, frM_t k5 d4⟩
theorem live_frX {z σ : Sg} (h : frX z σ) : liveX z σ := fun a j q => h a j (by omega) (by omega) (by omega)
theorem live_frM {z σ : Sg} (h : frM z σ) : liveM z σ := fun a j q => h a j (by omega) (by omega) (by omega)
theorem frX_5 {σ : Sg} (v : Int32) : frX (up1 σ 5 10 v) σ := fun a j _ _ h3 => by rw [up1_eq, if_neg (by omega)]
/-- promise 4: fault -/
theorem s_2 : simC2 Sim := fun σX σM ⟨F, h⟩ => by
  unfold f_X8_fault
  rcases read_both h.2.2.2.1 with ⟨e, zX, zM, -, e1, e2, e3, e4⟩ | ⟨sX, sM, D, only, -, e1, e2, e3, e4⟩
  · rw [bind_ok e1, e2]
    exact ⟨_, _, _, rfl, rfl, F, Sim_k (live_frX e3) (live_frM e4) h⟩
  · rw [bind_ok e1, e2]
    exact ⟨_, _, _, rfl, rfl, F, Sim_k (live_frX (frX_t (frX_5 _) e3)) (live_frM e4) h⟩
/-- the floor that was read, all there, stood on where one begins -/
def setF (D : Fl) : Fl := ((fN D, fM D, fBg D, 2 ^ fN D - 1, fBg D), fA D, fB D, fC D, fG D, fW D)
theorem setF_ok {D : Fl} (h : OKL D) (hm : 1 ≤ fM D) : OKF (setF D) := by
  refine ⟨h, hm, ?_, ?_⟩
  · show 2 ^ fN D - 1 < 2 ^ fN D
    have := Nat.one_le_two_pow (n := fN D)
    omega
  · show fBg D &&& (2 ^ fN D - 1) = fBg D
    rw [Nat.and_comm]
    exact and_all h.2.2.2.1
/-- promise 5: layFloor -/
theorem s_3 : simC3 Sim := fun σX σM ⟨F, h⟩ => by
  unfold f_X8_layFloor f_X9_layFloor f_X8_layFloor_30 f_X9_layFloor_20
  rcases read_both h.2.2.2.1 with ⟨e, zX, zM, he, e1, e2, e3, e4⟩ | ⟨sX, sM, D, only, hD, e1, e2, e3, e4⟩
  · have ne : ¬ nI e = (-4 : Int32) := fun q => nI_pos (n := e) (by omega) (by rw [q]; decide)
    rw [bind_ok e1, bind_ok e2, if_neg ne, if_neg ne]
    exact ⟨_, _, _, rfl, rfl, F, Sim_k (live_frX e3) (live_frM e4) h⟩
  obtain ⟨d1, ⟨x1, x2, x3, x4, x5⟩, ⟨m1, m2, m3, m4, m5⟩, x9, -, -, -⟩ := hD
  have hN := d1.1
  have hM10 := d1.2.1
  have hp := p10 hN.2
  have zx : ∀ a j, ¬ (a = 5 ∧ j = 10) → (up1 sX 5 10 (nI (fBg D))).1 a j = sX.1 a j := fun a j q => by rw [up1_eq, if_neg q]
  have es : f_X1_stepCount 5 (up1 sX 5 10 (nI (fBg D))) = some (nI (fM D)) := by unfold f_X1_stepCount; rw [zx _ _ (by omega), x2]
  have em : ald sM 1 660 609 = some (nI (fM D)) := by rw [z_lit 609, m_w (by decide)]; exact congrArg some m2
  rw [bind_ok e1, bind_ok e2, if_pos rfl, if_pos rfl, bind_ok es, bind_ok em]
  by_cases c : fM D = 0
  · rw [if_pos (show nI (fM D) = (0 : Int32) by rw [c]; rfl), if_pos (show nI (fM D) = (0 : Int32) by rw [c]; rfl)]
    exact ⟨_, _, _, rfl, rfl, F, Sim_k (live_frX (frX_t (frX_5 _) e3)) (live_frM e4) h⟩
  rw [if_neg (z_ne0 (by omega) c), if_neg (z_ne0 (by omega) c)]
  have g : FX 5 (setF D) (up1 sX 5 10 (nI (fBg D))) := by
    refine ⟨⟨by rw [zx _ _ (by omega)]; exact x1, by rw [zx _ _ (by omega)]; exact x2, by rw [zx _ _ (by omega)]; exact x3, fun t ht => ?_, fun s hs => ?_⟩, by rw [zx _ _ (by omega)]; exact x9, by rw [up1_eq, if_pos ⟨rfl, rfl⟩]; rfl⟩
    · rw [zx _ _ (by omega), zx _ _ (by omega), zx _ _ (by omega), zx _ _ (by omega)]; exact x4 t ht
    · rw [zx _ _ (by omega), zx _ _ (by omega)]; exact x5 s hs
  obtain ⟨z, f1, f2, f3⟩ := x_copyFrom (b := 12) (b2 := 5) (F := setF D) (Or.inr (by decide)) hM10 g
  obtain ⟨y, k1, k2⟩ := m_copy (r1 := 605) (r2 := 0) (σ := sM) (by decide) (by decide) (by decide)
  have y0 : y.1 1 0 = nI (fN D) := by rw [k2, if_pos (by decide)]; exact m1
  have y1 : y.1 1 1 = nI (fBg D) := by rw [k2, if_pos (by decide)]; exact m3
  have eset : f_X9_settle 0 y = some (up1 (up1 y 1 2 (nI (2 ^ fN D - 1))) 1 3 (nI (fBg D))) := by
    unfold f_X9_settle
    have a1 : (up1 y 1 2 (nI (2 ^ fN D - 1))).1 1 1 = nI (fBg D) := by rw [up1_eq, if_neg (by decide), y1]
    rw [show (0 : Int32) + 0 = nI 0 by decide, bind_ok (m_w (by decide)), y0, z_bit (by omega), show nI (2 ^ fN D) - 1 = nI (2 ^ fN D - 1) from pk_sub (b := 1) Nat.one_le_two_pow, show (0 : Int32) + 2 = nI 2 by decide, bind_ok (ast_ok (by decide) (by decide)), show (0 : Int32) + 1 = nI 1 by decide, bind_ok (m_w (by decide)), a1, show (0 : Int32) + 3 = nI 3 by decide, bind_ok (ast_ok (by decide) (by decide))]
  have ef : ∀ s, f_X8_forgetRowAndPast s = some (up1 (up1 s 0 10 0) 33 2 0) := fun _ => rfl
  let zz := up1 (up1 (up1 z 0 11 0) 0 10 0) 33 2 0
  have hz : ∀ a j, zz.1 a j = if a = 33 ∧ j = 2 then 0 else if a = 0 ∧ j = 10 then 0 else if a = 0 ∧ j = 11 then 0 else z.1 a j := fun a j => by
    show (up1 (up1 (up1 z 0 11 0) 0 10 0) 33 2 0).1 a j = _
    rw [up1_eq, up1_eq, up1_eq]
  let yy := up1 (up1 (up1 (up1 (up1 y 1 2 (nI (2 ^ fN D - 1))) 1 3 (nI (fBg D))) 0 6 0) 0 2 0) 0 1 0
  have hy : ∀ a j, yy.1 a j = if a = 0 ∧ j = 1 then 0 else if a = 0 ∧ j = 2 then 0 else if a = 0 ∧ j = 6 then 0 else if a = 1 ∧ j = 3 then nI (fBg D) else if a = 1 ∧ j = 2 then nI (2 ^ fN D - 1) else y.1 a j := fun a j => by
    show (up1 (up1 (up1 (up1 (up1 y 1 2 (nI (2 ^ fN D - 1))) 1 3 (nI (fBg D))) 0 6 0) 0 2 0) 0 1 0).1 a j = _
    rw [up1_eq, up1_eq, up1_eq, up1_eq, up1_eq]
  have hc : f_X1_stoneCount 12 zz = some (nI (fN D)) := by
    unfold f_X1_stoneCount
    rw [hz, if_neg (by omega), if_neg (by omega), if_neg (by omega), f2.1.1]
    rfl
  have hc2 : ald yy 1 660 0 = some (nI (fN D)) := by
    rw [z_0, m_w (by decide), hy, if_neg (by omega), if_neg (by omega), if_neg (by omega), if_neg (by omega), if_neg (by omega), y0]
  have eX : (f_X1_copyFrom 12 5 (up1 sX 5 10 (nI (fBg D)))).bind (fun q3 => (pfi q3 0 11 0).bind fun s4 => (f_X8_forgetRowAndPast s4).bind fun q5 => (f_X1_stoneCount 12 q5).bind fun q6 => some ((q6, q5))) = some (nI (fN D), zz) := by
    rw [bind_ok f1, bind_ok (pfi_eq _ _ _ _), bind_ok (ef _)]
    show (f_X1_stoneCount 12 zz).bind _ = _
    rw [bind_ok hc]
  have eM : (f_X9_copy 605 0 sM).bind (fun q3 => (f_X9_settle 0 q3).bind fun q4 => (pfi q4 0 6 0).bind fun s5 => (pfi s5 0 2 0).bind fun s6 => (pfi s6 0 1 0).bind fun s7 => (ald s7 1 660 0).bind fun x8 => some ((x8, s7))) = some (nI (fN D), yy) := by
    rw [bind_ok (show f_X9_copy 605 0 sM = some y from k1), bind_ok eset, bind_ok (pfi_eq _ _ _ _), bind_ok (pfi_eq _ _ _ _), bind_ok (pfi_eq _ _ _ _)]
    show (ald yy 1 660 0).bind _ = _
    rw [bind_ok hc2]
  have lx : ∀ a j, (a = 1 ∨ a = 2) → zz.1 a j = σX.1 a j := fun a j q => by
    rw [hz, if_neg (by omega), if_neg (by omega), if_neg (by omega), f3 a (by omega), zx _ _ (by omega)]
    exact e3 a j (by omega) (by omega) (by omega)
  have lm : ∀ a j, (a = 2 ∨ (a = 0 ∧ j = 4)) → yy.1 a j = σM.1 a j := fun a j q => by
    rw [hy, if_neg (by omega), if_neg (by omega), if_neg (by omega), if_neg (by omega), if_neg (by omega), k2, if_neg (by omega)]
    exact e4 a j (by omega) (by omega) (by omega)
  have ly : ∀ i, i < 55 → i ≠ 2 → i ≠ 3 → yy.1 1 i = sM.1 1 (605 + i) := fun i hi q1 q2 => by
    rw [hy, if_neg (by omega), if_neg (by omega), if_neg (by omega), if_neg (by omega), if_neg (by omega), k2, if_pos ⟨rfl, by omega, by omega⟩, Nat.sub_zero]
  refine ⟨nI (fN D), zz, yy, eX, eM, setF D, setF_ok d1 (by omega), FX_pt (fun a j p q => by rw [hz, if_neg (by omega), if_neg (by omega), if_neg (by omega)]) f2, ⟨⟨?_, ?_, ?_, fun t ht => ?_, fun s hs => ?_⟩, ?_, ?_⟩, TEXT_k (lx 1 1 (by omega)) (fun j => lx 2 j (by omega)) (lm 0 4 (by omega)) (fun j => lm 2 j (by omega)) h.2.2.2.1, TOLD_0 ?_ ?_, ⟨0, by decide, ?_, ?_, fun i hi => absurd hi (Nat.not_lt_zero _)⟩, UNDO_0 ?_ ?_⟩
  · rw [ly 0 (by omega) (by omega) (by omega)]; exact m1
  · rw [ly (0 + 4) (by omega) (by omega) (by omega)]; exact m2
  · rw [ly (0 + 1) (by omega) (by omega) (by omega)]; exact m3
  · have ht' : t < fM D := ht
    obtain ⟨a1, a2, a3⟩ := m4 t ht'
    rw [ly (0 + 5 + t) (by omega) (by omega) (by omega), ly (0 + 15 + t) (by omega) (by omega) (by omega), ly (0 + 25 + t) (by omega) (by omega) (by omega), show 605 + (0 + 5 + t) = 605 + 5 + t by omega, show 605 + (0 + 15 + t) = 605 + 15 + t by omega, show 605 + (0 + 25 + t) = 605 + 25 + t by omega]
    exact ⟨a1, a2, a3⟩
  · obtain ⟨a1, a2⟩ := m5 s hs
    rw [ly (0 + 45 + s) (by omega) (by omega) (by omega), ly (0 + 35 + s) (by omega) (by omega) (by omega), show 605 + (0 + 45 + s) = 605 + 45 + s by omega, show 605 + (0 + 35 + s) = 605 + 35 + s by omega]
    exact ⟨a1, a2⟩
  · rw [hy, if_neg (by omega), if_neg (by omega), if_neg (by omega), if_neg (by omega), if_pos ⟨rfl, by omega⟩]; rfl
  · rw [hy, if_neg (by omega), if_neg (by omega), if_neg (by omega), if_pos ⟨rfl, by omega⟩]; rfl
  · rw [hz, if_neg (by omega), if_pos ⟨rfl, rfl⟩]
  · rw [hy, if_neg (by omega), if_neg (by omega), if_pos ⟨rfl, rfl⟩]
  · rw [hz, if_neg (by omega), if_neg (by omega), if_pos ⟨rfl, rfl⟩]; rfl
  · rw [hy, if_pos ⟨rfl, rfl⟩]; rfl
  · rw [hz, if_pos ⟨rfl, rfl⟩]
  · rw [hy, if_neg (by omega), if_pos ⟨rfl, rfl⟩]
