section
variable {F F' : Fl} {σX σM zX yX yM : Sg}
theorem UNDO_go {k v : Int32} (hF : OKF F) (hM : FM 0 F σM) (g : UNDO F σX σM) (h1 : zX.1 33 2 = σX.1 33 2) (h2 : ∀ j, zX.1 34 j = σX.1 34 j) (h3 : ∀ j, zX.1 35 j = σX.1 35 j) (hp : PO k v F F') :
    ∃ un, un ≤ 8 ∧ zX.1 33 2 = nI un ∧ σM.1 0 2 = nI un ∧ ∀ yX yM, NX un k v zX yX → NM un σM yM → UNDO F' yX yM := by
  obtain ⟨un, u1, u2, u3, G, u4, u5⟩ := g
  refine ⟨un, u1, by rw [h1]; exact u2, u3, fun yX yM n1 n2 => UNDO_push hF hM u1 ⟨G, u4, fun i hi => ?_⟩ hp n1 n2⟩
  rw [h2, h3]
  exact u5 i hi
theorem goF_ok {c : Nat} (hF : OKF F) (hc : (fTh F).testBit c = true) : OKF (goF F c) := by
  refine ⟨hF.1, hF.2.1, hF.2.2.1, ?_⟩
  show (fSt F ||| 2 ^ c) &&& fTh F = fSt F ||| 2 ^ c
  rw [Nat.and_comm, and_sub]
  intro k hk
  rw [tb_or2] at hk
  simp only [Bool.or_eq_true, decide_eq_true_eq] at hk
  rcases hk with hk | rfl
  · exact hF.sub k hk
  · exact hc
/-- promise 9: go -/
theorem s_6 : simC6 Sim := fun σX σM ⟨F, h⟩ v => by
  have hb := h
  obtain ⟨hF, hX, hM, h4, h5, h6, h7⟩ := h
  have hm := hF.m10
  unfold f_X8_go f_X9_go
  rw [bind_ok (x_isStep hX v), bind_ok (m_isStep hF hM.1 v)]
  rcases inn_cases v (n := fM F) (by omega) with e | ⟨t, ht, rfl, e⟩
  · rw [e]; exact ⟨_, _, _, rfl, rfl, F, hb⟩
  rw [e, if_neg (by decide : ¬ (1 : Int32) = 0), if_neg (by decide : ¬ (1 : Int32) = 0), bind_ok (x_may hF hX ht), bind_ok (m_may hF hM ht)]
  by_cases e : aft F (fTh F) t (fSt F) = fSt F
  · rw [if_pos e, if_pos rfl, if_pos rfl]; exact ⟨_, _, _, rfl, rfl, F, hb⟩
  rw [if_neg e, if_neg (by decide : ¬ (1 : Int32) = 0), if_neg (by decide : ¬ (1 : Int32) = 0)]
  obtain ⟨ca, cb, cc⟩ := hF.1.c10 ht
  have hne := (aft_ne (fTh F) t (fSt F)).mp e
  have hq := hX.1.2.2.2.1 t ht
  obtain ⟨c, hc⟩ : ∃ c, c = fC F t := ⟨_, rfl⟩
  have hc10 : c < 10 := by omega
  obtain ⟨S, hS⟩ : ∃ S, S = fSt F ||| 2 ^ c := ⟨_, rfl⟩
  have hS10 : S < 1024 := by rw [hS]; exact or10 hF.st (pow10 hc10)
  have hW := (hX.1.2.2.2.2 c hc10).2
  have hWM := (hM.1.2.2.2.2 c hc10).2
  rw [Nat.zero_add] at hWM
  have hoF' : OKF (goF F c) := goF_ok hF (by rw [hc]; exact hne.2.2.1)
  obtain ⟨zX, hz⟩ : ∃ z, z = up1 (up1 σX 12 10 (nI S)) 18 c (fW F c + 1) := ⟨_, rfl⟩
  have oz : ∀ a j, ¬ (a = 12 ∧ j = 10) → ¬ (a = 18 ∧ j = c) → zX.1 a j = σX.1 a j := fun a j p q => by rw [hz, up1_eq, if_neg q, up1_eq, if_neg p]
  have z1 : zX.1 12 10 = nI S := by rw [hz, up1_eq, if_neg (by omega), up1_eq, if_pos ⟨rfl, rfl⟩]
  have z2 : zX.1 18 c = fW F c + 1 := by rw [hz, up1_eq, if_pos ⟨rfl, rfl⟩]
  have et : f_X1_tread 12 (nI t) σX = some zX := by
    unfold f_X1_tread f_X1_endOf
    rw [bind_ok (x_at (by omega) (by decide)), hq.2.2.1]
    show ((f_X1_after 12 (nI t) (σX.1 12 10) σX).bind _) = _
    rw [hX.2.2, bind_ok (x_aft hF.1 hX ht hF.st hF.th), bind_ok (pfi_eq _ _ _ _), bind_ok (x_at cc (by decide)), up1_eq, if_neg (by omega), bind_ok (x_put cc (by decide)), aft_eq e, ← hc, hW, ← hS, hz]
  have hXz : FX 12 (goF F c) zX := by
    refine ⟨⟨by rw [oz _ _ (by omega) (by omega)]; exact hX.1.1, by rw [oz _ _ (by omega) (by omega)]; exact hX.1.2.1, by rw [oz _ _ (by omega) (by omega)]; exact hX.1.2.2.1, fun u hu => ?_, fun s hs => ?_⟩, by rw [oz _ _ (by omega) (by omega)]; exact hX.2.1, by rw [z1, hS]; rfl⟩
    · rw [oz _ _ (by omega) (by omega), oz _ _ (by omega) (by omega), oz _ _ (by omega) (by omega), oz _ _ (by omega) (by omega)]
      exact hX.1.2.2.2.1 u hu
    · have h0 := hX.1.2.2.2.2 s hs
      refine ⟨by rw [oz _ _ (by omega) (by omega)]; exact h0.1, ?_⟩
      show zX.1 18 s = if s = c then fW F s + 1 else fW F s
      by_cases q : s = c
      · rw [if_pos q, q, z2]
      · rw [if_neg q, oz _ _ (by omega) (by omega)]; exact h0.2
  have hp : PO 0 (nI c) F (goF F c) := Or.inl ⟨rfl, c, hc10, rfl, by rw [hc]; exact hne.2.2.2, rfl⟩
  obtain ⟨un, u1, u2, u3, u4⟩ := UNDO_go (zX := zX) hF hM h7 (oz _ _ (by omega) (by omega)) (fun j => oz _ _ (by omega) (by omega)) (fun j => oz _ _ (by omega) (by omega)) hp
  obtain ⟨yX, n1, n2⟩ := x_note u1 u2 0 (nI c)
  obtain ⟨yM, p1, p2⟩ := m_minds u1 u3
  have hU := u4 yX yM n2 p2
  have ny := n2.2.2.2.2
  have py := p2.2.2.2
  have hMy : FM 0 F yM := FM_keep (fun j p q => py 1 j (by omega) (by omega)) hm hM
  obtain ⟨wM, hw⟩ : ∃ w, w = up1 (up1 yM 1 3 (nI S)) 1 (35 + c) (fW F c + 1) := ⟨_, rfl⟩
  have ow : ∀ a j, ¬ (a = 1 ∧ j = 3) → ¬ (a = 1 ∧ j = 35 + c) → wM.1 a j = yM.1 a j := fun a j p q => by rw [hw, up1_eq, if_neg q, up1_eq, if_neg p]
  have w1 : wM.1 1 3 = nI S := by rw [hw, up1_eq, if_neg (by omega), up1_eq, if_pos ⟨rfl, rfl⟩]
  have w2 : wM.1 1 (35 + c) = fW F c + 1 := by rw [hw, up1_eq, if_pos ⟨rfl, rfl⟩]
  have oX : ∀ a j, ¬ (a = 12 ∧ j = 10) → a ≠ 18 → ¬ (a = 33 ∧ j = 2) → a ≠ 34 → a ≠ 35 → yX.1 a j = σX.1 a j := fun a j q1 q2 q3 q4 q5 => by rw [ny a j q3 q4 q5, oz a j q1 (by omega)]
  have oM : ∀ a j, ¬ (a = 0 ∧ j = 2) → ¬ (a = 1 ∧ 165 ≤ j ∧ j < 605) → ¬ (a = 1 ∧ j < 55) → wM.1 a j = σM.1 a j := fun a j q1 q2 q3 => by rw [ow a j (by omega) (by omega), py a j q1 q2]
  have hXy : FX 12 (goF F c) yX := FX_pt (fun a j p q => ny a j (by omega) (by omega) (by omega)) hXz
  have hMw : FM 0 (goF F c) wM := by
    refine ⟨⟨by rw [ow _ _ (by omega) (by omega)]; exact hMy.1.1, by rw [ow _ _ (by omega) (by omega)]; exact hMy.1.2.1, by rw [ow _ _ (by omega) (by omega)]; exact hMy.1.2.2.1, fun u hu => ?_, fun s hs => ?_⟩, by rw [ow _ _ (by omega) (by omega)]; exact hMy.2.1, by rw [show (0 + 3 : Nat) = 3 from rfl, w1, hS]; rfl⟩
    · have hu' : u < fM F := hu
      rw [ow _ _ (by omega) (by omega), ow _ _ (by omega) (by omega), ow _ _ (by omega) (by omega)]
      exact hMy.1.2.2.2.1 u hu
    · have h0 := hMy.1.2.2.2.2 s hs
      refine ⟨by rw [ow _ _ (by omega) (by omega)]; exact h0.1, ?_⟩
      show wM.1 1 (0 + 35 + s) = if s = c then fW F s + 1 else fW F s
      by_cases q : s = c
      · rw [if_pos q, q, show 0 + 35 + c = 35 + c by omega, w2]
      · rw [if_neg q, ow _ _ (by omega) (by omega)]; exact h0.2
  refine ⟨nI (pc S), yX, wM, ?_, ?_, goF F c, hoF', hXy, hMw, TEXT_k (oX 1 1 (by omega) (by omega) (by omega) (by omega) (by omega)) (fun j => oX 2 j (by omega) (by omega) (by omega) (by omega) (by omega)) (oM 0 4 (by omega) (by omega) (by omega)) (fun j => oM 2 j (by omega) (by omega) (by omega)) h4, TOLD_k (F := F) (oX 0 10 (by omega) (by omega) (by omega) (by omega) (by omega)) (fun j => oX 41 j (by omega) (by omega) (by omega) (by omega) (by omega)) (oM 0 6 (by omega) (by omega) (by omega)) (fun j => oM 3 j (by omega) (by omega) (by omega)) h5, KEPT_k (oX 0 11 (by omega) (by omega) (by omega) (by omega) (by omega)) (fun a j p q => oX a j (by omega) (by omega) (by omega) (by omega) (by omega)) (oM 0 1 (by omega) (by omega) (by omega)) (fun j p q => oM 1 j (by omega) (by omega) (by omega)) h6, UNDO_k rfl (fun _ => rfl) (fun _ => rfl) (ow 0 2 (by omega) (by omega)) (fun j p q => ow 1 j (by omega) (by omega)) hU⟩
  · rw [bind_ok et]
    have ne : f_X1_endOf 12 (nI t) zX = some (nI c) := by
      unfold f_X1_endOf
      rw [bind_ok (x_at (by omega) (by decide)), (hXz.1.2.2.2.1 t ht).2.2.1, show fC (goF F c) t = c from hc.symm]
    have nb : f_X2_noteGone (nI c) zX = some yX := by
      unfold f_X2_noteGone
      rw [bind_ok n1]
    rw [bind_ok ne, bind_ok nb]
    rw [bind_ok (x_stood hXy), show fSt (goF F c) = S from hS.symm, bind_ok (x_bc _ hS10)]
  · rw [bind_ok p1, bind_ok (m_w3 hMy), bind_ok (m_C hF hMy ht), z_bit (by omega), z_or, ← hc, ← hS, z_lit 3, bind_ok (ast_ok (by decide) (by decide))]
    have hM3 : ald (up1 yM 1 3 (nI S)) 1 660 (25 + nI t) = some (nI c) := by
      have := m_C hF hMy ht
      rw [z_lit 25, m_wk 25 (by omega)] at this ⊢
      rw [up1_eq, if_neg (by omega), this, hc]
    have hM4 : ald (up1 yM 1 3 (nI S)) 1 660 (35 + nI c) = some (fW F c) := by
      rw [z_lit 35, m_wk 35 (by omega), up1_eq, if_neg (by omega), py 1 _ (by omega) (by omega), hWM]
    rw [bind_ok hM3, bind_ok hM4, z_lit 35, nI_add, bind_ok (ast_ok (by omega) (by decide)), ← hw, show (nI 3 : Int32) = 3 from rfl, bind_ok (m_w3 hMw), show fSt (goF F c) = S from hS.symm, bind_ok (m_ones hS10)]
end
