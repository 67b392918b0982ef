section
variable {F F' : Fl} {σX σM zX yX yM : Sg}
theorem dif_lt2 {x n k : Nat} (hx : x < 2 ^ n) (hn : n ≤ 10) : dif x (2 ^ k) < 2 ^ n := subp hx (dif_sub (Nat.lt_of_lt_of_le hx (p10 hn)))
theorem outF_ok {c : Nat} (hF : OKF F) : OKF (outF F c) := by
  refine ⟨hF.1, hF.2.1, dif_lt2 hF.2.2.1 hF.1.1.2, ?_⟩
  show dif (fSt F) (2 ^ c) &&& dif (fTh F) (2 ^ c) = dif (fSt F) (2 ^ c)
  rw [Nat.and_comm, and_sub]
  intro k hk
  rw [dif_p hF.st] at hk
  rw [dif_p hF.th]
  simp only [Bool.and_eq_true] at hk ⊢
  exact ⟨hF.sub k hk.1, hk.2⟩
/-- promise 10: takeOut -/
theorem s_7 : simC7 Sim := fun σX σM ⟨F, h⟩ v => by
  have hb := h
  obtain ⟨hF, hX, hM, h4, h5, h6, h7⟩ := h
  have hm := hF.m10
  have hn := hF.1.1
  unfold f_X8_takeOut f_X9_takeOut
  rw [bind_ok (x_isStone hX v), bind_ok (m_isStone hF.1 hM.1 v)]
  rcases inn_cases v (n := fN F) (by omega) with e | ⟨c, h1, rfl, e⟩
  · rw [e]; exact ⟨_, _, _, rfl, rfl, F, hb⟩
  have hc10 : c < 10 := by omega
  have eth : f_X1_isThere 12 (nI c) σX = some (zb (fTh F) c) := by
    unfold f_X1_isThere
    rw [hX.2.1, bind_ok (x_has (lt31 hF.th) (by omega)), bind_ok (zrt_01 (zb_01 _ _))]
  rw [e, if_neg (by decide : ¬ (1 : Int32) = 0), if_neg (by decide : ¬ (1 : Int32) = 0), bind_ok eth, bind_ok (m_w2 hM), bind_ok (m_has (lt31 hF.th) (by omega))]
  cases c1 : (fTh F).testBit c
  · rw [zb_0.mpr c1, if_pos rfl, if_pos rfl]; exact ⟨_, _, _, rfl, rfl, F, hb⟩
  rw [zb_1.mpr c1, if_neg (by decide : ¬ (1 : Int32) = 0), if_neg (by decide : ¬ (1 : Int32) = 0), bind_ok (x_stood hX), bind_ok (x_bitOf (lt31 hF.st) (by omega))]
  obtain ⟨k, hk, hk2, hkn⟩ : ∃ k : Int32, (k = 1 ∨ k = 2) ∧ ((fSt F).testBit c = true ↔ k = 2) ∧ (if zb (fSt F) c = 1 then f_X8_takeOut_49 (nI c) (nI c) 1 σX else f_X8_takeOut_49 (nI c) (nI c) 0 σX) = (f_X2_note k (nI c) σX).bind fun q5 => (f_X1_removeSlab 12 (nI c) q5).bind fun q6 => (f_X1_there 12 q6).bind fun q7 => (f_J6_bitCount_0f7a4 q7).bind fun q8 => some ((q8, q6)) := by
    have un : ∀ k : Int32, ∀ a : Int32, f_X2_noteOut (nI c) a σX = f_X2_note k (nI c) σX → f_X8_takeOut_49 (nI c) (nI c) a σX = (f_X2_note k (nI c) σX).bind fun q5 => (f_X1_removeSlab 12 (nI c) q5).bind fun q6 => (f_X1_there 12 q6).bind fun q7 => (f_J6_bitCount_0f7a4 q7).bind fun q8 => some ((q8, q6)) := by
      intro k a q
      unfold f_X8_takeOut_49
      rw [q]
    have idb : ∀ x : Option Sg, (x.bind fun q1 => some q1) = x := fun x => by cases x <;> rfl
    cases c2 : (fSt F).testBit c
    · refine ⟨1, Or.inl rfl, by decide, ?_⟩
      rw [zb_0.mpr c2, if_neg (by decide : ¬ (0 : Int32) = 1)]
      refine un 1 0 ?_
      unfold f_X2_noteOut f_X2_noteOut_10
      rw [if_pos rfl]
      exact idb _
    · refine ⟨2, Or.inr rfl, by decide, ?_⟩
      rw [zb_1.mpr c2, if_pos rfl]
      refine un 2 1 ?_
      unfold f_X2_noteOut f_X2_noteOut_10
      rw [if_neg (by decide : ¬ (1 : Int32) = 0)]
      exact idb _
  rw [hkn]
  have hoF' : OKF (outF F c) := outF_ok hF
  have hp : PO k (nI c) F (outF F c) := Or.inr (Or.inl ⟨hk, c, hc10, rfl, c1, hk2, rfl⟩)
  obtain ⟨un, u1, u2, u3, u4⟩ := UNDO_go (zX := σX) hF hM h7 rfl (fun _ => rfl) (fun _ => rfl) hp
  obtain ⟨yX, n1, n2⟩ := x_note u1 u2 k (nI c)
  obtain ⟨yM, p1, p2⟩ := m_minds u1 u3
  have hU := u4 yX yM n2 p2
  have ny := n2.2.2.2.2
  have py := p2.2.2.2
  have hXy : FX 12 F yX := FX_pt (fun a j p q => ny a j (by omega) (by omega) (by omega)) hX
  have hMy : FM 0 F yM := FM_keep (fun j p q => py 1 j (by omega) (by omega)) hm hM
  have fth : fTh (outF F c) = dif (fTh F) (2 ^ c) := rfl
  have fst : fSt (outF F c) = dif (fSt F) (2 ^ c) := rfl
  obtain ⟨wX, hwX⟩ : ∃ w, w = up1 (up1 yX 12 9 (nI (dif (fTh F) (2 ^ c)))) 12 10 (nI (dif (fSt F) (2 ^ c))) := ⟨_, rfl⟩
  obtain ⟨wM, hwM⟩ : ∃ w, w = up1 (up1 yM 1 2 (nI (dif (fTh F) (2 ^ c)))) 1 3 (nI (dif (fSt F) (2 ^ c))) := ⟨_, rfl⟩
  have oX1 : ∀ a j, ¬ (a = 12 ∧ (j = 9 ∨ j = 10)) → wX.1 a j = yX.1 a j := fun a j p => by rw [hwX, up1_eq, if_neg (by omega), up1_eq, if_neg (by omega)]
  have oM1 : ∀ a j, ¬ (a = 1 ∧ (j = 2 ∨ j = 3)) → wM.1 a j = yM.1 a j := fun a j p => by rw [hwM, up1_eq, if_neg (by omega), up1_eq, if_neg (by omega)]
  have x9 : wX.1 12 9 = nI (dif (fTh F) (2 ^ c)) := by rw [hwX, up1_eq, if_neg (by omega), up1_eq, if_pos ⟨rfl, rfl⟩]
  have x10 : wX.1 12 10 = nI (dif (fSt F) (2 ^ c)) := by rw [hwX, up1_eq, if_pos ⟨rfl, rfl⟩]
  have m2 : wM.1 1 2 = nI (dif (fTh F) (2 ^ c)) := by rw [hwM, up1_eq, if_neg (by omega), up1_eq, if_pos ⟨rfl, rfl⟩]
  have m3 : wM.1 1 3 = nI (dif (fSt F) (2 ^ c)) := by rw [hwM, up1_eq, if_pos ⟨rfl, rfl⟩]
  have hXw : FX 12 (outF F c) wX := by
    refine ⟨⟨by rw [oX1 _ _ (by omega)]; exact hXy.1.1, by rw [oX1 _ _ (by omega)]; exact hXy.1.2.1, by rw [oX1 _ _ (by omega)]; exact hXy.1.2.2.1, fun u hu => ?_, fun s hs => ?_⟩, by rw [x9, fth], by rw [x10, fst]⟩
    · rw [oX1 _ _ (by omega), oX1 _ _ (by omega), oX1 _ _ (by omega), oX1 _ _ (by omega)]; exact hXy.1.2.2.2.1 u hu
    · rw [oX1 _ _ (by omega), oX1 _ _ (by omega)]; exact hXy.1.2.2.2.2 s hs
  have hMw : FM 0 (outF F c) wM := by
    refine ⟨⟨by rw [oM1 _ _ (by omega)]; exact hMy.1.1, by rw [oM1 _ _ (by omega)]; exact hMy.1.2.1, by rw [oM1 _ _ (by omega)]; exact hMy.1.2.2.1, fun u hu => ?_, fun s hs => ?_⟩, by rw [fth]; exact m2, by rw [fst]; exact m3⟩
    · rw [oM1 _ _ (by omega), oM1 _ _ (by omega), oM1 _ _ (by omega)]; exact hMy.1.2.2.2.1 u hu
    · rw [oM1 _ _ (by omega), oM1 _ _ (by omega)]; exact hMy.1.2.2.2.2 s hs
  have oX : ∀ a j, a ≠ 12 → ¬ (a = 33 ∧ j = 2) → a ≠ 34 → a ≠ 35 → wX.1 a j = σX.1 a j := fun a j q1 q3 q4 q5 => by rw [oX1 a j (by omega), ny a j q3 q4 q5]
  have oM : ∀ a j, ¬ (a = 0 ∧ j = 2) → ¬ (a = 1 ∧ 165 ≤ j ∧ j < 605) → ¬ (a = 1 ∧ j < 55) → wM.1 a j = σM.1 a j := fun a j q1 q2 q3 => by rw [oM1 a j (by omega), py a j q1 q2]
  refine ⟨nI (pc (dif (fTh F) (2 ^ c))), wX, wM, ?_, ?_, outF F c, hoF', hXw, hMw, TEXT_k (oX 1 1 (by omega) (by omega) (by omega) (by omega)) (fun j => oX 2 j (by omega) (by omega) (by omega) (by omega)) (oM 0 4 (by omega) (by omega) (by omega)) (fun j => oM 2 j (by omega) (by omega) (by omega)) h4, TOLD_k (F := F) (oX 0 10 (by omega) (by omega) (by omega) (by omega)) (fun j => oX 41 j (by omega) (by omega) (by omega) (by omega)) (oM 0 6 (by omega) (by omega) (by omega)) (fun j => oM 3 j (by omega) (by omega) (by omega)) h5, KEPT_k (oX 0 11 (by omega) (by omega) (by omega) (by omega)) (fun a j p q => oX a j (by omega) (by omega) (by omega) (by omega)) (oM 0 1 (by omega) (by omega) (by omega)) (fun j p q => oM 1 j (by omega) (by omega) (by omega)) h6, UNDO_k (oX1 33 2 (by omega)) (fun j => oX1 34 j (by omega)) (fun j => oX1 35 j (by omega)) (oM1 0 2 (by omega)) (fun j p q => oM1 1 j (by omega)) hU⟩
  · have er : f_X1_removeSlab 12 (nI c) yX = some wX := by
      unfold f_X1_removeSlab
      rw [hXy.2.1, z_bit (by omega), z_dif, bind_ok (pfi_eq _ _ _ _), up1_eq, if_neg (by omega), hXy.2.2, z_dif, bind_ok (pfi_eq _ _ _ _), hwX]
    rw [bind_ok n1, bind_ok er, bind_ok (x_there hXw), fth, bind_ok (x_bc _ (dif_lt hF.th))]
  · rw [bind_ok p1, bind_ok (m_w2 hMy), z_bit (by omega), z_dif, z_lit 2, bind_ok (ast_ok (by decide) (by decide))]
    have hM3 : ald (up1 yM 1 2 (nI (dif (fTh F) (2 ^ c)))) 1 660 3 = some (nI (fSt F)) := by
      have := m_w3 hMy
      rw [z_lit 3, m_w (by decide)] at this ⊢
      rw [up1_eq, if_neg (by omega), this]
    rw [bind_ok hM3, z_dif, z_lit 3, bind_ok (ast_ok (by decide) (by decide)), ← hwM, show (nI 2 : Int32) = 2 from rfl, bind_ok (m_w2 hMw), fth, bind_ok (m_ones (dif_lt hF.th))]
theorem layF_ok {a b c : Nat} (hF : OKF F) (hm : fM F < 10) (ha : a < fN F) (hb : b < fN F) (hc : c < fN F) (h1 : c ≠ a) (h2 : c ≠ b) : OKF (layF F a b c) := by
  refine ⟨⟨hF.1.1, hm, fun t ht => ?_, hF.1.2.2.2⟩, by show 1 ≤ fM F + 1; omega, hF.2.2⟩
  show (if t = fM F then a else fA F t) < fN F ∧ (if t = fM F then b else fB F t) < fN F ∧ (if t = fM F then c else fC F t) < fN F ∧ (if t = fM F then c else fC F t) ≠ (if t = fM F then a else fA F t) ∧ (if t = fM F then c else fC F t) ≠ (if t = fM F then b else fB F t)
  by_cases e : t = fM F
  · rw [if_pos e, if_pos e, if_pos e]; exact ⟨ha, hb, hc, h1, h2⟩
  · rw [if_neg e, if_neg e, if_neg e]
    have ht' : t < fM F + 1 := ht
    exact hF.1.2.2.1 t (by omega)
theorem x_could (hF : OKF F) (hX : FX 12 F σX) (v1 v2 v3 : Int32) : f_X1_couldBeStep 12 v1 v2 v3 σX = some (if inn v1 (fN F) = 1 ∧ inn v2 (fN F) = 1 ∧ inn v3 (fN F) = 1 ∧ v3 ≠ v1 ∧ v3 ≠ v2 then 1 else 0) := by
  unfold f_X1_couldBeStep f_X1_couldBeStep_38 f_X1_couldBeStep_39
  rw [bind_ok (x_hasStone hX.1 v1), bind_ok (x_hasStone hX.1 v2), bind_ok (x_hasStone hX.1 v3)]
  rcases inn_01 v1 (fN F) with e1 | e1 <;> rcases inn_01 v2 (fN F) with e2 | e2 <;> rcases inn_01 v3 (fN F) with e3 | e3 <;> rw [e1, e2, e3] <;> by_cases c1 : v3 = v1 <;> by_cases c2 : v3 = v2 <;> simp [c1, c2, zrt] <;> rfl
end
