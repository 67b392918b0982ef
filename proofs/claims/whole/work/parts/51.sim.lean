-- what both hold
def goF (F : Fl) (c : Nat) : Fl := ((fN F, fM F, fBg F, fTh F, fSt F ||| 2 ^ c), fA F, fB F, fC F, fG F, fun s => if s = c then fW F s + 1 else fW F s)
def outF (F : Fl) (v : Nat) : Fl := ((fN F, fM F, fBg F, dif (fTh F) (2 ^ v), dif (fSt F) (2 ^ v)), fA F, fB F, fC F, fG F, fW F)
def layF (F : Fl) (a b c : Nat) : Fl := ((fN F, fM F + 1, fBg F, fTh F, fSt F), (fun t => if t = fM F then a else fA F t), (fun t => if t = fM F then b else fB F t), (fun t => if t = fM F then c else fC F t), fG F, fW F)
/-- what was done, as the class minds it -/
def PO (k v : Int32) (F F' : Fl) : Prop :=
  (k = 0 ∧ ∃ c, c < 10 ∧ v = nI c ∧ (fSt F).testBit c = false ∧ F' = goF F c) ∨
  ((k = 1 ∨ k = 2) ∧ ∃ c, c < 10 ∧ v = nI c ∧ (fTh F).testBit c = true ∧ ((fSt F).testBit c = true ↔ k = 2) ∧ F' = outF F c) ∨
  (k = 3 ∧ ∃ a b c, fM F < 10 ∧ F' = layF F a b c)
def TEXT (σX σM : Sg) : Prop := ∃ len, len ≤ 300 ∧ σX.1 1 1 = nI len ∧ σM.1 0 4 = nI len ∧ ∀ j, j < len → ∃ v, v < 256 ∧ σX.1 2 j = nI v ∧ σM.1 2 j = nI v
def KEPT (σX σM : Sg) : Prop := ∃ kn, kn ≤ 2 ∧ σX.1 0 11 = nI kn ∧ σM.1 0 1 = nI kn ∧ ∀ i, i < kn → ∃ K, OKF K ∧ FX (19 + 7 * i) K σX ∧ FM (55 + 55 * i) K σM
def UNDO (F : Fl) (σX σM : Sg) : Prop := ∃ un, un ≤ 8 ∧ σX.1 33 2 = nI un ∧ σM.1 0 2 = nI un ∧ ∃ G : Nat → Fl, G un = F ∧ ∀ i, i < un → OKF (G i) ∧ FM (165 + 55 * i) (G i) σM ∧ PO (σX.1 34 i) (σX.1 35 i) (G i) (G (i + 1))
def SimF (F : Fl) (σX σM : Sg) : Prop := OKF F ∧ FX 12 F σX ∧ FM 0 F σM ∧ TEXT σX σM ∧ TOLD F σX σM ∧ KEPT σX σM ∧ UNDO F σX σM
def Sim (σX σM : Sg) : Prop := ∃ F, SimF F σX σM
-- what stays
theorem FX_pt {b : Nat} {F : Fl} {σ z : Sg} (h : ∀ a j, b ≤ a → a ≤ b + 6 → z.1 a j = σ.1 a j) (g : FX b F σ) : FX b F z := FX_same (fun k h1 h2 => funext (fun j => h k j h1 h2)) g
section
variable {F : Fl} {σX σM zX zM : Sg}
theorem TEXT_k (h1 : zX.1 1 1 = σX.1 1 1) (h2 : ∀ j, zX.1 2 j = σX.1 2 j) (h3 : zM.1 0 4 = σM.1 0 4) (h4 : ∀ j, zM.1 2 j = σM.1 2 j) (g : TEXT σX σM) : TEXT zX zM := by
  obtain ⟨len, g1, g2, g3, g4⟩ := g
  refine ⟨len, g1, by rw [h1]; exact g2, by rw [h3]; exact g3, fun j hj => ?_⟩
  rw [h2, h4]
  exact g4 j hj
theorem TOLD_k (h1 : zX.1 0 10 = σX.1 0 10) (h2 : ∀ j, zX.1 41 j = σX.1 41 j) (h3 : zM.1 0 6 = σM.1 0 6) (h4 : ∀ j, zM.1 3 j = σM.1 3 j) (g : TOLD F σX σM) : TOLD F zX zM := by
  obtain ⟨tn, g1, g2, g3, g4⟩ := g
  refine ⟨tn, g1, by rw [h1]; exact g2, by rw [h3]; exact g3, fun j hj => ?_⟩
  rw [h2, h4]
  exact g4 j hj
theorem TOLD_0 (h1 : zX.1 0 10 = 0) (h3 : zM.1 0 6 = 0) : TOLD F zX zM := ⟨0, by decide, h1, h3, fun j hj => absurd hj (Nat.not_lt_zero _)⟩
theorem KEPT_k (h1 : zX.1 0 11 = σX.1 0 11) (h2 : ∀ a j, 19 ≤ a → a ≤ 32 → zX.1 a j = σX.1 a j) (h3 : zM.1 0 1 = σM.1 0 1) (h4 : ∀ j, 55 ≤ j → j < 165 → zM.1 1 j = σM.1 1 j) (g : KEPT σX σM) : KEPT zX zM := by
  obtain ⟨kn, g1, g2, g3, g4⟩ := g
  refine ⟨kn, g1, by rw [h1]; exact g2, by rw [h3]; exact g3, fun i hi => ?_⟩
  obtain ⟨K, k1, k2, k3⟩ := g4 i hi
  exact ⟨K, k1, FX_pt (fun a j p q => h2 a j (by omega) (by omega)) k2, FM_keep (fun j p q => h4 j (by omega) (by omega)) k1.m10 k3⟩
theorem UNDO_k (h1 : zX.1 33 2 = σX.1 33 2) (h2 : ∀ j, zX.1 34 j = σX.1 34 j) (h3 : ∀ j, zX.1 35 j = σX.1 35 j) (h4 : zM.1 0 2 = σM.1 0 2) (h5 : ∀ j, 165 ≤ j → j < 605 → zM.1 1 j = σM.1 1 j) (g : UNDO F σX σM) : UNDO F zX zM := by
  obtain ⟨un, g1, g2, g3, G, g4, g5⟩ := g
  refine ⟨un, g1, by rw [h1]; exact g2, by rw [h4]; exact g3, G, g4, fun i hi => ?_⟩
  obtain ⟨k1, k2, k3⟩ := g5 i hi
  rw [h2, h3]
  exact ⟨k1, FM_keep (fun j p q => h5 j (by omega) (by omega)) k1.m10 k2, k3⟩
theorem UNDO_0 (h1 : zX.1 33 2 = 0) (h2 : zM.1 0 2 = 0) : UNDO F zX zM := ⟨0, by decide, h1, h2, fun _ => F, rfl, fun i hi => absurd hi (Nat.not_lt_zero _)⟩
def liveX (zX σX : Sg) : Prop := ∀ a j, (a ≤ 2 ∨ (12 ≤ a ∧ a ≤ 35) ∨ a = 41) → zX.1 a j = σX.1 a j
def liveM (zM σM : Sg) : Prop := ∀ a j, ((a = 0 ∧ (j = 1 ∨ j = 2 ∨ j = 4 ∨ j = 6)) ∨ (a = 1 ∧ j < 605) ∨ a = 2 ∨ a = 3) → zM.1 a j = σM.1 a j
theorem Sim_k (hX : liveX zX σX) (hM : liveM zM σM) (h : SimF F σX σM) : SimF F zX zM := by
  obtain ⟨g1, g2, g3, g4, g5, g6, g7⟩ := h
  refine ⟨g1, FX_pt (fun a j p q => hX a j (by omega)) g2, FM_keep (fun j p q => hM 1 j (by omega)) g1.m10 g3, TEXT_k (hX 1 1 (by omega)) (fun j => hX 2 j (by omega)) (hM 0 4 (by omega)) (fun j => hM 2 j (by omega)) g4, TOLD_k (hX 0 10 (by omega)) (fun j => hX 41 j (by omega)) (hM 0 6 (by omega)) (fun j => hM 3 j (by omega)) g5, KEPT_k (hX 0 11 (by omega)) (fun a j p q => hX a j (by omega)) (hM 0 1 (by omega)) (fun j p q => hM 1 j (by omega)) g6, UNDO_k (hX 33 2 (by omega)) (fun j => hX 34 j (by omega)) (fun j => hX 35 j (by omega)) (hM 0 2 (by omega)) (fun j p q => hM 1 j (by omega)) g7⟩
theorem liveX_r (σ : Sg) : liveX σ σ := fun _ _ _ => rfl
theorem liveM_r (σ : Sg) : liveM σ σ := fun _ _ _ => rfl
end
-- the queries, with Sim
theorem s_4 : simC4 Sim := fun σX σM ⟨F, h⟩ v w => by
  obtain ⟨r, e1, e2⟩ := q_stone h.1 h.2.1 h.2.2.1 v w
  exact ⟨r, e1, e2, F, h⟩
theorem s_5 : simC5 Sim := fun σX σM ⟨F, h⟩ v w => by
  obtain ⟨r, e1, e2⟩ := q_step h.1 h.2.1 h.2.2.1 v w
  exact ⟨r, e1, e2, F, h⟩
theorem s_10 : simC10 Sim := fun σX σM ⟨F, h⟩ v => by
  obtain ⟨r, e1, e2⟩ := q_reach h.1 h.2.1 h.2.2.1 v
  exact ⟨r, e1, e2, F, h⟩
theorem s_11 : simC11 Sim := fun σX σM ⟨F, h⟩ v w => by
  obtain ⟨r, zX, zM, e1, e2, e3, e4⟩ := q_walk h.1 h.2.1 h.2.2.1 v w
  exact ⟨r, zX, zM, e1, e2, F, Sim_k (fun a j q => by rw [e3 a (by omega) (by omega)]) (fun a j q => by rw [e4 a (by omega)]) h⟩
theorem s_12 : simC12 Sim := fun σX σM ⟨F, h⟩ v => by
  obtain ⟨r, e1, e2⟩ := q_round h.1 h.2.1 h.2.2.1 v
  exact ⟨r, e1, e2, F, h⟩
theorem s_13 : simC13 Sim := fun σX σM ⟨F, h⟩ v w => by
  obtain ⟨r, e1, e2⟩ := q_needs h.1 h.2.1 h.2.2.1 v w
  exact ⟨r, e1, e2, F, h⟩
theorem s_14 : simC14 Sim := fun σX σM ⟨F, h⟩ v => by
  obtain ⟨r, e1, e2⟩ := q_lost h.1 h.2.1 h.2.2.1 v
  exact ⟨r, e1, e2, F, h⟩
theorem s_15 : simC15 Sim := fun σX σM ⟨F, h⟩ v => by
  obtain ⟨r, e1, e2⟩ := q_begin h.1 h.2.1 h.2.2.1 v
  exact ⟨r, e1, e2, F, h⟩
theorem s_16 : simC16 Sim := fun σX σM ⟨F, h⟩ v => by
  obtain ⟨r, e1, e2⟩ := q_hall h.1 h.2.1 h.2.2.1 v
  exact ⟨r, e1, e2, F, h⟩
theorem s_17 : simC17 Sim := fun σX σM ⟨F, h⟩ => by
  obtain ⟨r, e1, e2⟩ := q_rope h.1 h.2.1 h.2.2.1
  exact ⟨r, e1, e2, F, h⟩
theorem s_18 : simC18 Sim := fun σX σM ⟨F, h⟩ => by
  obtain ⟨r, e1, e2⟩ := q_idle h.1 h.2.1 h.2.2.1
  exact ⟨r, e1, e2, F, h⟩
theorem s_19 : simC19 Sim := fun σX σM ⟨F, h⟩ => by
  obtain ⟨r, e1, e2⟩ := q_circle h.1 h.2.1 h.2.2.1
  exact ⟨r, e1, e2, F, h⟩
theorem s_20 : simC20 Sim := fun σX σM ⟨F, h⟩ => by
  obtain ⟨r, zM, e1, e2, e3⟩ := q_deep h.1 h.2.1 h.2.2.1
  exact ⟨r, zM, e1, e2, F, Sim_k (liveX_r _) (fun a j q => by rw [e3 a (by omega)]) h⟩
theorem s_21 : simC21 Sim := fun σX σM ⟨F, h⟩ v w => by
  obtain ⟨r, zX, e1, e2, e3⟩ := q_proofs h.1 h.2.1 h.2.2.1 v w
  exact ⟨r, zX, e1, e2, F, Sim_k (fun a j q => by rw [e3 a (by omega) (by omega)]) (liveM_r _) h⟩
theorem s_22 : simC22 Sim := fun σX σM ⟨F, h⟩ v w => by
  obtain ⟨r, zX, e1, e2, e3⟩ := q_worn h.1 h.2.1 h.2.2.1 v w
  exact ⟨r, zX, e1, e2, F, Sim_k (fun a j q => by rw [e3 a (by omega) (by omega)]) (liveM_r _) h⟩
theorem s_25 : simC25 Sim := fun σX σM ⟨F, h⟩ => by
  obtain ⟨r, e1, e2⟩ := q_judge h.1 h.2.1 h.2.2.1 h.2.2.2.2.1
  exact ⟨r, e1, e2, F, h⟩
theorem s_26 : simC26 Sim := fun σX σM ⟨F, h⟩ u v w => by
  obtain ⟨r, e1, e2⟩ := q_year h.1 h.2.1 h.2.2.1 u v w
  exact ⟨r, e1, e2, F, h⟩
/-- promise 29: count -/
theorem s_29 : simC29 Sim := fun σX σM ⟨F, h⟩ v => by
  suffices q : ∃ r, f_X8_count v σX = some r ∧ f_X9_count v σM = some r by
    obtain ⟨r, e1, e2⟩ := q
    exact ⟨r, e1, e2, F, h⟩
  obtain ⟨hF, hX, hM, ⟨len, l1, l2, l3, -⟩, ⟨tn, t1, t2, t3, -⟩, ⟨kn, k1, k2, k3, -⟩, ⟨un, u1, u2, u3, -⟩⟩ := h
  unfold f_X8_count f_X9_count f_X2_size f_X6_size
  by_cases c0 : v = 0
  · rw [if_pos c0, if_pos c0, bind_ok (x_stones hX), bind_ok (m_w0 hM)]; exact ⟨_, rfl, rfl⟩
  rw [if_neg c0, if_neg c0]
  by_cases c1 : v = 1
  · rw [if_pos c1, if_pos c1, bind_ok (x_steps hX), bind_ok (m_w4 hM)]; exact ⟨_, rfl, rfl⟩
  rw [if_neg c1, if_neg c1]
  by_cases c2 : v = 2
  · rw [if_pos c2, if_pos c2, bind_ok (x_there hX), bind_ok (x_bc _ hF.th), bind_ok (m_w2 hM), bind_ok (m_ones hF.th)]; exact ⟨_, rfl, rfl⟩
  rw [if_neg c2, if_neg c2]
  by_cases c3 : v = 3
  · rw [if_pos c3, if_pos c3, bind_ok (x_stood hX), bind_ok (x_bc _ hF.st), bind_ok (m_w3 hM), bind_ok (m_ones hF.st)]; exact ⟨_, rfl, rfl⟩
  rw [if_neg c3, if_neg c3]
  by_cases c4 : v = 4
  · rw [if_pos c4, if_pos c4, t2, t3]; exact ⟨_, rfl, rfl⟩
  rw [if_neg c4, if_neg c4]
  by_cases c5 : v = 5
  · rw [if_pos c5, if_pos c5, u2, u3]; exact ⟨_, rfl, rfl⟩
  rw [if_neg c5, if_neg c5]
  by_cases c6 : v = 6
  · rw [if_pos c6, if_pos c6, k2, k3]; exact ⟨_, rfl, rfl⟩
  rw [if_neg c6, if_neg c6]
  by_cases c7 : v = 7
  · rw [if_pos c7, if_pos c7, l2, l3]; exact ⟨_, rfl, rfl⟩
  rw [if_neg c7, if_neg c7]
  exact ⟨_, rfl, rfl⟩
