section
variable {F : Fl} {σX σM : Sg}
theorem ub_lt (p : Nat → Bool) : ∀ k b, fo (ub1 p) none k = some b → b < k := by
  intro k b h
  rcases ub_min p k with ⟨h1, -⟩ | ⟨b2, h1, h2, -⟩
  · rw [h1] at h; cases h
  · rw [h1] at h; cases h; exact h2
/-- begin: which sets may be put in -/
def bgP (F : Fl) (j s : Nat) : Bool := decide (dif s (fTh F) = 0) && !s.testBit j && (rch F (beg F ||| s)).testBit j
theorem m_begins (hF : OKF F) (hM : FM 0 F σM) {j : Nat} (hj : j < 10) : f_X9_begins (nI j) σM = some (cd (fo (ub1 (bgP F j)) none (2 ^ fN F))) := by
  have h10 := p10 hF.1.1.2
  have hn := hF.1.1
  unfold f_X9_begins f_X9_begins_5
  refine itr_run (fun k => (cd (fo (ub1 (bgP F j)) none k), nI k)) (2 ^ fN F) rfl (by omega) (fun k hk => ?_) ?_
  · show f_X9_begins_5s (nI j) (cd (fo (ub1 (bgP F j)) none k)) (nI k) σM = some (.inl (cd (fo (ub1 (bgP F j)) none (k + 1)), nI (k + 1)))
    have hb := ub_lt (bgP F j) k
    rw [fo_s]
    generalize fo (ub1 (bgP F j)) none k = o at hb
    have go : ∀ a, f_X9_begins_89 (nI j) (nI k) a σM = some (.inl (a, nI (k + 1))) := by
      intro a
      unfold f_X9_begins_89
      rw [nm_eq, nI_1]
    have no : ∀ x : Option Nat, f_X9_begins_88 (nI j) (cd x) (nI k) σM = some (.inl (cd x, nI (k + 1))) := fun x => go _
    have no2 : f_X9_begins_59 (nI j) (cd o) (nI k) σM = some (.inl (cd o, nI (k + 1))) := by
      unfold f_X9_begins_59 f_X9_begins_60
      rw [if_pos rfl]
      exact no o
    have hk10 : k < 1024 := by omega
    have try_ : f_X9_begins_55 (nI j) (cd o) (nI k) σM = some (.inl (if (rch F (beg F ||| k)).testBit j = true then nI k else cd o, nI (k + 1))) := by
      unfold f_X9_begins_55 f_X9_begins_60
      rw [if_neg (by decide), bind_ok (m_beg hM), z_or, bind_ok (m_reachOf hF hM _), bind_ok (m_has (lt31 (rch_lt hF _)) (by omega))]
      cases c : (rch F (beg F ||| k)).testBit j
      · rw [zb_0.mpr c, if_pos rfl, no]; rfl
      · rw [zb_1.mpr c, if_neg (by decide), go]; rfl
    have stay : bgP F j k = false → ub1 (bgP F j) k o = o := by
      intro c
      unfold ub1
      cases o <;> simp [c]
    unfold f_X9_begins_5s
    rw [bind_ok (m_w0 hM), z_bit (by omega), if_neg (nI_ge hk (by omega)), bind_ok (m_w2 hM), z_dif]
    by_cases c1 : dif k (fTh F) = 0
    case neg => rw [if_neg (z_ne0 (lt31 (dif_lt hk10)) c1), no2, stay (by simp [bgP, c1])]
    rw [c1, if_pos z_e0, bind_ok (m_has (lt31 hk10) (by omega))]
    cases c2 : k.testBit j
    case true => rw [zb_1.mpr c2, if_neg (by decide), no2, stay (by simp [bgP, c2])]
    rw [zb_0.mpr c2, if_pos rfl]
    have hP : bgP F j k = (rch F (beg F ||| k)).testBit j := by simp [bgP, c1, c2]
    cases o with
    | none =>
      rw [show cd none = -4 from rfl] at try_ ⊢
      rw [if_pos rfl, try_]
      congr 3
      show _ = cd (if bgP F j k = true then some k else none)
      rw [hP]
      split <;> rfl
    | some b =>
      have hbk := hb b rfl
      have hp1 := pc_le k
      have hp2 := pc_le b
      rw [show cd (some b) = nI b from rfl] at try_ no2 ⊢
      rw [if_neg (nI_neg (by omega)).2.2, bind_ok (m_ones hk10), bind_ok (m_ones (by omega))]
      by_cases c3 : pc k < pc b
      · rw [if_neg (nI_ge c3 (by omega)), try_]
        congr 3
        show _ = cd (if bgP F j k = true ∧ pc k < pc b then some k else some b)
        rw [hP]
        simp only [c3, and_true]
        split <;> rfl
      · rw [if_pos (nI_le (by omega) (by omega)), no2]
        congr 3
        show _ = cd (if bgP F j k = true ∧ pc k < pc b then some k else some b)
        simp only [c3, and_false, if_false]
        rfl
  · show f_X9_begins_5s (nI j) (cd (fo (ub1 (bgP F j)) none (2 ^ fN F))) (nI (2 ^ fN F)) σM = _
    unfold f_X9_begins_5s
    rw [bind_ok (m_w0 hM), z_bit (by omega), if_pos (nI_le (Nat.le_refl _) (by omega))]
theorem or_dif {x s y : Nat} (hs : s < 1024) (h : sub s y) (hx : x < 1024) (hd : sub s (dif y x) ∨ True) : True := trivial
theorem xor_or {x s : Nat} (h : ∀ k, s.testBit k = true → x.testBit k = false) : x ^^^ s = x ||| s := by
  apply Nat.eq_of_testBit_eq
  intro i
  rw [Nat.testBit_xor, Nat.testBit_or]
  have := h i
  cases h1 : s.testBit i <;> cases h2 : x.testBit i <;> simp_all
theorem or_dif_eq {x s : Nat} (hs : s < 1024) : x ||| dif s x = x ||| s := by
  apply Nat.eq_of_testBit_eq
  intro i
  rw [Nat.testBit_or, Nat.testBit_or, dif_tb hs]
  cases x.testBit i <;> cases s.testBit i <;> rfl
theorem subp {s n : Nat} (hs : s < 2 ^ n) {x : Nat} (h : sub x s) : x < 2 ^ n := Nat.lt_of_le_of_lt (sub_le h) hs
/-- promise 17: begin -/
theorem q_begin (hF : OKF F) (hX : FX 12 F σX) (hM : FM 0 F σM) (v : Int32) : ∃ r, f_X8_begin v σX = some r ∧ f_X9_begin v σM = some r := by
  have hn := hF.1.1
  have hb := beg_lt hF
  have hth := hF.th
  unfold f_X8_begin f_X9_begin
  rw [bind_ok (x_isStone hX v), bind_ok (m_isStone hF.1 hM.1 v)]
  rcases inn_cases v (n := fN F) (by omega) with e | ⟨j, h1, rfl, e⟩
  · rw [e]; exact ⟨_, rfl, rfl⟩
  rw [e, if_neg (by decide : ¬ (1 : Int32) = 0), if_neg (by decide : ¬ (1 : Int32) = 0), bind_ok (m_w2 hM), bind_ok (m_has (lt31 hth) (by omega))]
  unfold f_X1_isThere
  rw [hX.2.1, bind_ok (x_has (lt31 hth) (by omega)), bind_ok (zrt_01 (zb_01 _ _))]
  show ∃ r, (if zb (fTh F) j = 0 then _ else _) = some r ∧ _
  cases c : (fTh F).testBit j
  · rw [zb_0.mpr c]; exact ⟨_, rfl, rfl⟩
  rw [zb_1.mpr c, if_neg (by decide : ¬ (1 : Int32) = 0), if_neg (by decide : ¬ (1 : Int32) = 0), bind_ok (m_begins hF hM (by omega))]
  refine ⟨_, ?_, rfl⟩
  unfold f_X0_fewestMoreFor
  have hd1 : dif (fTh F) (2 ^ j) < 1024 := dif_lt hth
  have hch : dif (dif (fTh F) (2 ^ j)) (beg F) < 1024 := dif_lt hd1
  rw [bind_ok (x_there hX), bind_ok (x_beg hX), z_bit (by omega), z_dif, z_dif, nm_eq, bind_ok (x_beg hX)]
  obtain ⟨ch, ech⟩ : ∃ ch, ch = dif (dif (fTh F) (2 ^ j)) (beg F) := ⟨_, rfl⟩
  rw [← ech] at hch ⊢
  have hct : ∀ i, ch.testBit i = ((fTh F).testBit i && decide (i ≠ j) && !(beg F).testBit i) := fun i => by rw [ech, dif_tb hd1, dif_p hth]
  have ef := x_fewT (aim := nI j) (ok := fun s => (rch F s).testBit j) (fun v => x_met_s hF hX (by omega) v) (start := beg F) (ch := ch) hch
  -- what the choice's sets are
  have hxo : ∀ s, sub s ch → beg F ^^^ s = beg F ||| s := fun s hs => xor_or (fun k hk => by
    have := hs k hk
    rw [hct] at this
    simp only [Bool.and_eq_true, Bool.not_eq_true'] at this
    exact this.2)
  have hP1 : ∀ s, sub s ch → (rch F (beg F ||| s)).testBit j = true → s < 2 ^ fN F ∧ bgP F j s = true := by
    intro s hs hr
    have hst : sub s (fTh F) := fun k hk => by have := hs k hk; rw [hct] at this; simp only [Bool.and_eq_true] at this; exact this.1.1
    refine ⟨subp hF.2.2.1 hst, ?_⟩
    have hj2 : s.testBit j = false := by
      cases q : s.testBit j
      · rfl
      · have := hs j q; rw [hct] at this; simp at this
    unfold bgP
    simp [hr, hj2, (dif_0 (Nat.lt_of_le_of_lt (sub_le hst) hth)).mpr hst]
  have hP2 : ∀ s, s < 2 ^ fN F → bgP F j s = true → sub (dif s (beg F)) ch ∧ (rch F (beg F ||| dif s (beg F))).testBit j = true ∧ (pc (dif s (beg F)) < pc s ∨ dif s (beg F) = s) := by
    intro s hs hp
    have hs10 : s < 1024 := Nat.lt_of_lt_of_le hs (p10 hn.2)
    unfold bgP at hp
    simp only [Bool.and_eq_true, decide_eq_true_eq, Bool.not_eq_true'] at hp
    have hst := (dif_0 hs10).mp hp.1.1
    refine ⟨fun k hk => ?_, by rw [or_dif_eq hs10]; exact hp.2, ?_⟩
    · rw [dif_tb hs10] at hk
      simp only [Bool.and_eq_true, Bool.not_eq_true'] at hk
      rw [hct, hst k hk.1, hk.2]
      have : k ≠ j := fun q => by subst q; rw [hp.1.2] at hk; exact absurd hk.1 (by decide)
      simp [this]
    · by_cases q : dif s (beg F) = s
      · exact Or.inr q
      · exact Or.inl (pc_lt hs10 (fun k hk => by rw [dif_tb hs10] at hk; simp only [Bool.and_eq_true] at hk; exact hk.1) q)
  have hmono : ∀ x y, sub x y → (rch F x).testBit j = true → (rch F y).testBit j = true := fun x y h => clo_mono hF.1 hth h j
  cases c2 : (rch F (beg F ^^^ ch)).testBit j
  · rw [if_neg (by rw [c2]; decide)] at ef
    rw [bind_ok ef]
    rcases ub_min (bgP F j) (2 ^ fN F) with ⟨g1, -⟩ | ⟨b, -, -, g3⟩
    · rw [g1]; rfl
    · exfalso
      obtain ⟨k1, k2, -⟩ := hP2 b g3.1.1 g3.1.2
      have := hmono (beg F ||| dif b (beg F)) (beg F ||| ch) (fun i hi => by rw [Nat.testBit_or] at hi ⊢; simp only [Bool.or_eq_true] at hi ⊢; exact hi.imp id (k1 i)) k2
      rw [← hxo ch (sub_rfl _), c2] at this
      cases this
  · rw [if_pos c2] at ef
    rw [bind_ok ef]
    have a1 := up_min (ok := fun s => (rch F (beg F ^^^ s)).testBit j) hch c2
    obtain ⟨b, eb⟩ : ∃ b, b = fo (up1s (fun s => (rch F (beg F ^^^ s)).testBit j) ch) ch ch := ⟨_, rfl⟩
    rw [← eb] at a1 ⊢
    have hbq := hP1 b a1.1.1 (by have := a1.1.2; rw [hxo b a1.1.1] at this; exact this)
    rcases ub_min (bgP F j) (2 ^ fN F) with ⟨-, g2⟩ | ⟨b2, g1, -, g3⟩
    · rw [g2 b hbq.1] at hbq
      exact absurd hbq.2 (by decide)
    · rw [g1]
      have hmin : IsMin (fun s => s < 2 ^ fN F ∧ bgP F j s = true) b := by
        refine ⟨hbq, fun s hs => ?_⟩
        obtain ⟨k1, k2, k3⟩ := hP2 s hs.1 hs.2
        have hq := a1.2 (dif s (beg F)) ⟨k1, by rw [hxo _ k1]; exact k2⟩
        rcases k3 with k3 | k3
        · rcases hq with r | ⟨r1, r2⟩ <;> exact Or.inl (by omega)
        · rw [k3] at hq; exact hq
      rw [hmin.eq g3]
      rfl
/-- hall: which sets lead into it -/
def haP (F : Fl) (s : Nat) : Bool := decide (dif s (beg F) = 0) && hall F (rch F s)
theorem m_hall1 (hF : OKF F) (hM : FM 0 F σM) : f_X9_hall_17 1 (-4) 0 σM = some (cd (fo (ub1 (haP F)) none (2 ^ fN F))) := by
  have h10 := p10 hF.1.1.2
  have hn := hF.1.1
  unfold f_X9_hall_17
  refine itr_run (fun k => (cd (fo (ub1 (haP F)) none k), nI k)) (2 ^ fN F) rfl (by omega) (fun k hk => ?_) ?_
  · show f_X9_hall_17s 1 (cd (fo (ub1 (haP F)) none k)) (nI k) σM = some (.inl (cd (fo (ub1 (haP F)) none (k + 1)), nI (k + 1)))
    have hb := ub_lt (haP F) k
    rw [fo_s]
    generalize fo (ub1 (haP F)) none k = o at hb
    have go : ∀ a, f_X9_hall_87 1 (nI k) a σM = some (.inl (a, nI (k + 1))) := by
      intro a
      unfold f_X9_hall_87
      rw [nm_eq, nI_1]
    have no : f_X9_hall_86 1 (cd o) (nI k) σM = some (.inl (cd o, nI (k + 1))) := go _
    have no2 : f_X9_hall_66 1 (cd o) (nI k) σM = some (.inl (cd o, nI (k + 1))) := by
      unfold f_X9_hall_66 f_X9_hall_67
      rw [if_pos rfl]
      exact no
    have hk10 : k < 1024 := by omega
    have try_ : f_X9_hall_62 1 (cd o) (nI k) σM = some (.inl (if hall F (rch F k) = true then nI k else cd o, nI (k + 1))) := by
      unfold f_X9_hall_62 f_X9_hall_67
      rw [if_neg (by decide), bind_ok (m_isHall hF hM _)]
      cases c : hall F (rch F k)
      · rw [bz_f, if_pos rfl, no]; rfl
      · rw [bz_t, if_neg (by decide), go]; rfl
    have stay : haP F k = false → ub1 (haP F) k o = o := by
      intro c
      unfold ub1
      cases o <;> simp [c]
    unfold f_X9_hall_17s
    rw [bind_ok (m_w0 hM), z_bit (by omega), if_neg (nI_ge hk (by omega)), if_pos rfl, bind_ok (m_beg hM), z_dif]
    by_cases c1 : dif k (beg F) = 0
    case neg => rw [if_neg (z_ne0 (lt31 (dif_lt hk10)) c1), no2, stay (by simp [haP, c1])]
    rw [c1, if_pos z_e0]
    have hP : haP F k = hall F (rch F k) := by simp [haP, c1]
    cases o with
    | none =>
      rw [show cd none = -4 from rfl] at try_ ⊢
      rw [if_pos rfl, try_]
      congr 3
      show _ = cd (if haP F k = true then some k else none)
      rw [hP]
      split <;> rfl
    | some b =>
      have hbk := hb b rfl
      have hp1 := pc_le k
      have hp2 := pc_le b
      rw [show cd (some b) = nI b from rfl] at try_ no2 ⊢
      rw [if_neg (nI_neg (by omega)).2.2, bind_ok (m_ones hk10), bind_ok (m_ones (by omega))]
      by_cases c3 : pc k < pc b
      · rw [if_neg (nI_ge c3 (by omega)), try_]
        congr 3
        show _ = cd (if haP F k = true ∧ pc k < pc b then some k else some b)
        rw [hP]
        simp only [c3, and_true]
        split <;> rfl
      · rw [if_pos (nI_le (by omega) (by omega)), no2]
        congr 3
        show _ = cd (if haP F k = true ∧ pc k < pc b then some k else some b)
        simp only [c3, and_false, if_false]
        rfl
  · show f_X9_hall_17s 1 (cd (fo (ub1 (haP F)) none (2 ^ fN F))) (nI (2 ^ fN F)) σM = _
    unfold f_X9_hall_17s
    rw [bind_ok (m_w0 hM), z_bit (by omega), if_pos (nI_le (Nat.le_refl _) (by omega))]
    unfold f_X9_hall_94
    rw [if_pos rfl]
    rfl
theorem m_hall0 (hF : OKF F) (hM : FM 0 F σM) : f_X9_hall_17 0 (-4) 0 σM = some (bz (hall F (rch F (beg F)))) := by
  have h10 := p10 hF.1.1.2
  have hn := hF.1.1
  have h1 : 1 ≤ 2 ^ fN F := Nat.one_le_two_pow
  unfold f_X9_hall_17
  refine itr_out ?_
  show f_X9_hall_17s 0 (-4) (nI 0) σM = _
  unfold f_X9_hall_17s
  rw [bind_ok (m_w0 hM), z_bit (by omega), if_neg (nI_ge (by omega) (by omega)), if_neg (by decide)]
  unfold f_X9_hall_94
  rw [if_neg (by decide), bind_ok (m_beg hM), bind_ok (m_isHall hF hM _)]
  cases hall F (rch F (beg F)) <;> rfl
/-- promise 18: hall -/
theorem q_hall (hF : OKF F) (hX : FX 12 F σX) (hM : FM 0 F σM) (v : Int32) : ∃ r, f_X8_hall v σX = some r ∧ f_X9_hall v σM = some r := by
  have hn := hF.1.1
  have hb := beg_lt hF
  have hth := hF.th
  unfold f_X8_hall f_X9_hall
  rw [bind_ok (z_inK v 1 1 (by decide) (by decide))]
  rcases inn_cases v (n := 1 + 1) (by decide) with e | ⟨w, hw, rfl, e⟩
  · rw [e, if_pos rfl]
    refine ⟨-1, ?_, rfl⟩
    rcases inn_out e with c | c
    · rw [if_pos c]; rfl
    · by_cases c1 : v < 0
      · rw [if_pos c1]; rfl
      · rw [if_neg c1, if_neg]
        · rfl
        · intro q
          have := (gt_of (v := v) (n := 1) (by decide)).mp c
          rw [fa_lt] at this
          rw [Int32.le_iff_toInt_le] at q
          have e1 : (nI 1).toInt = (1 : Int32).toInt := rfl
          omega
  rw [e, if_neg (by decide : ¬ (1 : Int32) = 0), if_neg (nI_pos (by omega)), if_pos (show nI w ≤ (1 : Int32) from nI_le (a := w) (b := 1) (by omega) (by decide))]
  rcases (show w = 0 ∨ w = 1 by omega) with rfl | rfl
  · refine ⟨_, ?_, m_hall0 hF hM⟩
    rw [if_pos z_e0]
    have el : f_X0_leadIntoHall σX = some (bz (hall F (rch F (beg F)))) := by
      unfold f_X0_leadIntoHall
      rw [bind_ok (x_beg hX), bind_ok (x_met_h hF hX _), bind_ok (zrt_01 (bz_01 _))]
    rw [bind_ok el]
    cases hall F (rch F (beg F)) <;> rfl
  · refine ⟨_, ?_, m_hall1 hF hM⟩
    rw [if_neg (show ¬ nI 1 = 0 by decide)]
    unfold f_X0_fewestIntoHall
    have ef := x_fewT (aim := -1) (ok := fun s => hall F (rch F s)) (fun v => x_met_h hF hX v) (start := 0) (ch := beg F) hb
    have e0 : (fun s => hall F (rch F (0 ^^^ s))) = fun s => hall F (rch F s) := by funext s; rw [Nat.zero_xor]
    rw [e0, Nat.zero_xor] at ef
    rw [bind_ok (x_beg hX), z_0]
    have hP1 : ∀ s, sub s (beg F) → hall F (rch F s) = true → s < 2 ^ fN F ∧ haP F s = true := by
      intro s hs hr
      have hst : sub s (fTh F) := sub_tr hs (and_r _ _)
      refine ⟨subp hF.2.2.1 hst, ?_⟩
      unfold haP
      simp [hr, (dif_0 (Nat.lt_of_le_of_lt (sub_le hst) hth)).mpr hs]
    have hP2 : ∀ s, s < 2 ^ fN F → haP F s = true → sub s (beg F) ∧ hall F (rch F s) = true := by
      intro s hs hp
      have hs10 : s < 1024 := Nat.lt_of_lt_of_le hs (p10 hn.2)
      unfold haP at hp
      simp only [Bool.and_eq_true, decide_eq_true_eq] at hp
      exact ⟨(dif_0 hs10).mp hp.1, hp.2⟩
    cases c2 : hall F (rch F (beg F))
    · rw [if_neg (by rw [c2]; decide)] at ef
      rw [bind_ok ef]
      rcases ub_min (haP F) (2 ^ fN F) with ⟨g1, -⟩ | ⟨b, -, -, g3⟩
      · rw [g1]; rfl
      · exfalso
        obtain ⟨k1, k2⟩ := hP2 b g3.1.1 g3.1.2
        have := hall_mono (clo_mono hF.1 hth k1) k2
        rw [show clo F 1023 (fTh F) (beg F) = rch F (beg F) from rfl, c2] at this
        cases this
    · rw [if_pos c2] at ef
      rw [bind_ok ef]
      have a1 := up_min (ok := fun s => hall F (rch F s)) hb c2
      obtain ⟨b, eb⟩ : ∃ b, b = fo (up1s (fun s => hall F (rch F s)) (beg F)) (beg F) (beg F) := ⟨_, rfl⟩
      rw [← eb] at a1 ⊢
      have hbq := hP1 b a1.1.1 a1.1.2
      rcases ub_min (haP F) (2 ^ fN F) with ⟨-, g2⟩ | ⟨b2, g1, -, g3⟩
      · rw [g2 b hbq.1] at hbq
        exact absurd hbq.2 (by decide)
      · rw [g1]
        have hmin : IsMin (fun s => s < 2 ^ fN F ∧ haP F s = true) b := ⟨hbq, fun s hs => a1.2 s (hP2 s hs.1 hs.2)⟩
        rw [hmin.eq g3]
        rfl
theorem rch_0 (F : Fl) : rch F 0 = 0 := by
  refine sub_as (clo_min (fun k h => by simp at h) (fun t _ _ h => by simp at h)) (fun k h => by simp at h)
theorem xor_dif {x s : Nat} (hx : x < 1024) (h : sub s x) : x ^^^ s = dif x s := by
  apply Nat.eq_of_testBit_eq
  intro i
  rw [Nat.testBit_xor, dif_tb hx]
  have := h i
  cases h1 : s.testBit i <;> cases h2 : x.testBit i <;> simp_all
/-- promise 19: rope -/
theorem q_rope (hF : OKF F) (hX : FX 12 F σX) (hM : FM 0 F σM) : ∃ r, f_X8_rope σX = some r ∧ f_X9_rope σM = some r := by
  have hb := beg_lt hF
  obtain ⟨ok, hok⟩ : ∃ ok : Nat → Bool, ok = fun s => !hall F (rch F (beg F ^^^ s)) := ⟨_, rfl⟩
  have h0 : ok (beg F) = true := by rw [hok]; simp [rch_0, hall_0]
  refine ⟨nI (fo (dn1s ok (beg F)) (beg F) (beg F + 1)), ?_, ?_⟩
  · unfold f_X8_rope f_X0_fewestToRopeOff
    have ef := x_fewT (aim := -2) (ok := fun s => !hall F (rch F s)) (fun v => x_met_n hF hX v) (start := beg F) (ch := beg F) hb
    rw [show (fun s => (fun s => !hall F (rch F s)) (beg F ^^^ s)) = ok from hok.symm, if_pos (show (fun s => !hall F (rch F s)) (beg F ^^^ beg F) = true by have := h0; rw [hok] at this; exact this)] at ef
    rw [bind_ok (x_beg hX), bind_ok (x_beg hX), bind_ok ef, (up_min hb h0).eq (dn_min h0)]
    rfl
  · unfold f_X9_rope f_X9_rope_10
    rw [bind_ok (m_beg hM), bind_ok (m_beg hM)]
    refine itr_run (fun k => (nI (fo (dn1s ok (beg F)) (beg F) k), sI (beg F) k)) (beg F + 1) ?_ (by omega) (fun k hk => ?_) ?_
    · show (nI (beg F), nI (beg F)) = (nI (beg F), sI (beg F) 0)
      rw [sI_in (by omega), Nat.sub_zero]
    · show f_X9_rope_10s (nI (fo (dn1s ok (beg F)) (beg F) k)) (sI (beg F) k) σM = some (.inl (nI (fo (dn1s ok (beg F)) (beg F) (k + 1)), sI (beg F) (k + 1)))
      have hle := dn_le ok (beg F) k
      rw [fo_s, sI_in (show k ≤ beg F by omega)]
      generalize fo (dn1s ok (beg F)) (beg F) k = b at hle
      have go : ∀ a, f_X9_rope_66 (nI (beg F - k)) (nI a) σM = some (.inl (nI a, sI (beg F) (k + 1))) := by
        intro a
        unfold f_X9_rope_66
        rw [nm_eq, sI_s (by omega)]
      have go0 : f_X9_rope_40 (nI b) (nI (beg F - k)) σM = some (.inl (nI b, sI (beg F) (k + 1))) := by
        unfold f_X9_rope_40 f_X9_rope_41
        rw [if_pos rfl]
        exact go b
      have hp1 := pc_le b
      have hp2 := pc_le (beg F - k)
      unfold f_X9_rope_10s
      rw [if_neg (nI_pos (by omega)), bind_ok (m_beg hM), z_dif]
      by_cases c1 : (beg F) &&& (beg F - k) = beg F - k
      · have hs := and_sub.mp c1
        rw [(dif_0 (by omega)).mpr hs, if_pos z_e0, bind_ok (m_ones (by omega)), bind_ok (m_ones (by omega))]
        by_cases c3 : pc (beg F - k) ≤ pc b
        · rw [if_neg (nI_nlt c3 (by omega))]
          unfold f_X9_rope_41
          rw [if_neg (by decide), bind_ok (m_beg hM), z_dif, bind_ok (m_isHall hF hM _), ← xor_dif hb hs]
          have ho : ok (beg F - k) = !hall F (rch F (beg F ^^^ (beg F - k))) := by rw [hok]
          cases c2 : hall F (rch F (beg F ^^^ (beg F - k)))
          · rw [bz_f, if_pos rfl, go, show dn1s ok (beg F) k b = beg F - k from if_pos ⟨c1, by rw [ho, c2]; rfl, c3⟩]
          · rw [bz_t, if_neg (by decide), show dn1s ok (beg F) k b = b from if_neg (fun q => by have q3 := q.2.1; rw [ho, c2] at q3; cases q3)]
            exact go b
        · rw [if_pos (nI_lt (by omega) (by omega)), go0, show dn1s ok (beg F) k b = b from if_neg (fun q => c3 q.2.2)]
      · rw [if_neg (z_ne0 (lt31 (dif_lt (by omega))) (fun q => c1 (and_sub.mpr ((dif_0 (by omega)).mp q)))), go0, show dn1s ok (beg F) k b = b from if_neg (fun q => c1 q.1)]
    · show f_X9_rope_10s (nI (fo (dn1s ok (beg F)) (beg F) (beg F + 1))) (sI (beg F) (beg F + 1)) σM = _
      unfold f_X9_rope_10s
      rw [sI_out, if_pos (by decide)]
end
