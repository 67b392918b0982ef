-- small writing calls
def dn (k : Nat) : Int32 := if k = 0 then -1 else nI (k - 1)
theorem dn_s (k : Nat) : dn (k + 1) = nI k := rfl
theorem dn_m (k : Nat) : nI k + (-1) = dn k := by
  cases k with
  | zero => decide
  | succ k => exact pk_m1 _
theorem nI_all (x : Int32) : ∃ n, x = nI n := ⟨x.toBitVec.toNat, Int32.toBitVec_inj.1 (by show x.toBitVec = BitVec.ofNat 32 x.toBitVec.toNat; rw [BitVec.ofNat_toNat, BitVec.setWidth_eq])⟩
theorem byte_ok (x : Int64) : ∃ v, v < 256 ∧ x.toInt32 &&& 255 = nI v ∧ (x &&& 255).toInt32 = nI v := by
  obtain ⟨n, hn⟩ := nI_all x.toInt32
  refine ⟨n &&& 255, Nat.and_lt_two_pow (n := 8) _ (by decide), ?_, ?_⟩
  · rw [hn, z_lit 255, z_and]
  · rw [Int64.toInt32_and, hn, show (255 : Int64).toInt32 = nI 255 by decide, z_and]
theorem z_in8 (v : Int32) : f_X9_in v.toInt64 1 8 = some (if v < 1 ∨ 8 < v then 0 else 1) := by
  unfold f_X9_in
  have e1 : lg_cmp v.toInt64 1 < 0 ↔ v < 1 := by rw [lgc_lt, show (1 : Int64) = (1 : Int32).toInt64 by decide, fa_wide_lt]
  have e2 : (0 : Int32) < lg_cmp v.toInt64 8 ↔ 8 < v := by rw [lgc_gt, show (8 : Int64) = (8 : Int32).toInt64 by decide, fa_wide_lt]
  by_cases c1 : v < 1
  · rw [if_pos (e1.mpr c1), if_pos (Or.inl c1)]; rfl
  · rw [if_neg (fun q => c1 (e1.mp q))]
    by_cases c2 : 8 < v
    · rw [if_pos (e2.mpr c2), if_pos (Or.inr c2)]; rfl
    · rw [if_neg (fun q => c2 (e2.mp q)), if_neg (by rintro (q | q) <;> contradiction)]; rfl
section
variable {F : Fl} {σX σM zX zM : Sg}
def TXT (len : Nat) (σX σM : Sg) : Prop := σX.1 1 1 = nI len ∧ σM.1 0 4 = nI len ∧ ∀ j, j < len → ∃ v, v < 256 ∧ σX.1 2 j = nI v ∧ σM.1 2 j = nI v
theorem write_both (w : Int64) : ∀ k len N (zX zM : Sg), k < N → len + k ≤ 300 → TXT len zX zM →
    ∃ yX yM, itr N (fun s => f_X8_write_36s w s.1 s.2) (dn k, zX) = some (nI (len + k), yX) ∧ itr N (fun s => f_X9_write_34s w s.1 s.2) (dn k, zM) = some (nI (len + k), yM) ∧ TXT (len + k) yX yM ∧ (∀ a j, ¬ (a = 1 ∧ j = 1) → a ≠ 2 → yX.1 a j = zX.1 a j) ∧ ∀ a j, ¬ (a = 0 ∧ j = 4) → a ≠ 2 → yM.1 a j = zM.1 a j := by
  intro k
  induction k with
  | zero =>
    intro len N zX zM hN hl ht
    obtain ⟨N, rfl⟩ : ∃ M, N = M + 1 := ⟨N - 1, by omega⟩
    refine ⟨zX, zM, itr_out ?_, itr_out ?_, ht, fun _ _ _ _ => rfl, fun _ _ _ _ => rfl⟩
    · show f_X8_write_36s w (-1) zX = _
      unfold f_X8_write_36s f_X6_size
      rw [if_pos (by decide : (-1 : Int32) < 0), ht.1]
      rfl
    · show f_X9_write_34s w (-1) zM = _
      unfold f_X9_write_34s
      rw [if_pos (by decide : (-1 : Int32) < 0), ht.2.1]
      rfl
  | succ k ih =>
    intro len N zX zM hN hl ht
    obtain ⟨N, rfl⟩ : ∃ M, N = M + 1 := ⟨N - 1, by omega⟩
    obtain ⟨v, v1, v2, v3⟩ := byte_ok (w >>> ((((8 : Int32) * nI k) : Int32).toInt64 &&& 63))
    have eX : f_X8_write_36s w (nI k) zX = some (.inl (dn k, up1 (up1 zX 2 len (nI v)) 1 1 (nI (len + 1)))) := by
      unfold f_X8_write_36s f_X6_addByte
      rw [if_neg (nI_pos (by omega)), v2, ht.1, if_neg (show ¬ (300 : Int32) ≤ nI len from nI_ge (a := len) (b := 300) (by omega) (by decide)), bind_ok (x_put (by omega) (by decide)), bind_ok (pfi_eq _ _ _ _), up1_eq, if_neg (by rintro ⟨q, -⟩; cases q), ht.1, nI_1]
      show ((some _).bind _) = _
      rw [← dn_m k]
      rfl
    have eM : f_X9_write_34s w (nI k) zM = some (.inl (dn k, up1 (up1 zM 2 len (nI v)) 0 4 (nI (len + 1)))) := by
      unfold f_X9_write_34s
      rw [if_neg (nI_pos (by omega)), v3, ht.2.1, bind_ok (ast_ok (by omega) (by decide)), bind_ok (pfi_eq _ _ _ _), up1_eq, if_neg (by rintro ⟨q, -⟩; cases q), ht.2.1, nI_1, nm_eq, dn_m]
    obtain ⟨yX, yM, y1, y2, y3, y4, y5⟩ := ih (len + 1) N (up1 (up1 zX 2 len (nI v)) 1 1 (nI (len + 1))) (up1 (up1 zM 2 len (nI v)) 0 4 (nI (len + 1))) (by omega) (by omega) (by
      refine ⟨by rw [up1_eq, if_pos ⟨rfl, rfl⟩], by rw [up1_eq, if_pos ⟨rfl, rfl⟩], fun j hj => ?_⟩
      have ex : (up1 (up1 zX 2 len (nI v)) 1 1 (nI (len + 1))).1 2 j = if j = len then nI v else zX.1 2 j := by
        rw [up1_eq, if_neg (by omega), up1_eq]; simp
      have em : (up1 (up1 zM 2 len (nI v)) 0 4 (nI (len + 1))).1 2 j = if j = len then nI v else zM.1 2 j := by
        rw [up1_eq, if_neg (by omega), up1_eq]; simp
      rw [ex, em]
      by_cases e : j = len
      · rw [if_pos e, if_pos e]; exact ⟨v, v1, rfl, rfl⟩
      · rw [if_neg e, if_neg e]; exact ht.2.2 j (by omega))
    rw [show len + 1 + k = len + (k + 1) by omega] at y1 y2 y3
    refine ⟨yX, yM, ?_, ?_, y3, fun a j h1 h2 => ?_, fun a j h1 h2 => ?_⟩
    · rw [dn_s, itr_in eX]; exact y1
    · rw [dn_s, itr_in eM]; exact y2
    · rw [y4 a j h1 h2, up1_eq, if_neg h1, up1_eq, if_neg (fun q => h2 q.1)]
    · rw [y5 a j h1 h2, up1_eq, if_neg h1, up1_eq, if_neg (fun q => h2 q.1)]
/-- promise 4: write -/
theorem s_0 : simC0 Sim := fun σX σM ⟨F, h⟩ v w => by
  unfold f_X8_write f_X9_write f_X6_size
  rw [bind_ok (z_in8 v)]
  by_cases c1 : v < 1
  · rw [if_pos c1, if_pos (Or.inl c1), if_pos rfl]; exact ⟨_, _, _, rfl, rfl, F, h⟩
  rw [if_neg c1]
  by_cases c2 : v ≤ 8
  case neg =>
    rw [if_neg c2, if_pos (Or.inr (Int32.not_le.mp c2)), if_pos rfl]; exact ⟨_, _, _, rfl, rfl, F, h⟩
  rw [if_pos c2, if_neg (show ¬ (v < 1 ∨ (8 : Int32) < v) from fun q => q.elim c1 (fun q => Int32.not_lt.mpr c2 q)), if_neg (by decide : ¬ (1 : Int32) = 0)]
  obtain ⟨k, hk, rfl⟩ : ∃ k, k < 8 ∧ v = nI (k + 1) := by
    rcases pk_ix v (n := 9) (by decide) with q | q | ⟨j, q1, q2⟩
    · exact absurd (by rw [fa_lt] at q ⊢; exact Int.lt_trans q (by decide)) c1
    · exact absurd c2 (Int32.not_le.mpr ((gt_of (n := 8) (by decide)).mp q))
    · cases j with
      | zero => exact absurd (by rw [q2]; decide) c1
      | succ j => exact ⟨j, by omega, q2⟩
  obtain ⟨hF, hX, hM, ⟨len, l1, l2, l3, l4⟩, h5, h6, h7⟩ := h
  show ∃ r σX2 σM2, (if (σX.1 1 1) + nI (k + 1) ≤ 300 then _ else _) = some (r, σX2) ∧ _
  rw [l2, l3, nI_add]
  by_cases c3 : len + (k + 1) ≤ 300
  · obtain ⟨yX, yM, y1, y2, y3, y4, y5⟩ := write_both w (k + 1) len 3000 σX σM (by omega) c3 ⟨l2, l3, l4⟩
    have ed : nI (k + 1) - 1 = dn (k + 1) := pk_sub (b := 1) (by omega)
    refine ⟨nI (len + (k + 1)), yX, yM, ?_, ?_, F, hF, FX_pt (fun a j p q => y4 a j (by omega) (by omega)) hX, FM_keep (fun j p q => y5 1 j (by omega) (by omega)) hF.m10 hM, ⟨len + (k + 1), c3, y3⟩, TOLD_k (y4 0 10 (by omega) (by omega)) (fun j => y4 41 j (by omega) (by omega)) (y5 0 6 (by omega) (by omega)) (fun j => y5 3 j (by omega) (by omega)) h5, KEPT_k (y4 0 11 (by omega) (by omega)) (fun a j p q => y4 a j (by omega) (by omega)) (y5 0 1 (by omega) (by omega)) (fun j p q => y5 1 j (by omega) (by omega)) h6, UNDO_k (y4 33 2 (by omega) (by omega)) (fun j => y4 34 j (by omega) (by omega)) (fun j => y4 35 j (by omega) (by omega)) (y5 0 2 (by omega) (by omega)) (fun j p q => y5 1 j (by omega) (by omega)) h7⟩
    · rw [if_pos (show nI (len + (k + 1)) ≤ (300 : Int32) from nI_le (b := 300) c3 (by decide)), nm_eq, ed]
      exact y1
    · rw [if_pos (show nI (len + (k + 1)) ≤ (300 : Int32) from nI_le (b := 300) c3 (by decide)), nm_eq, ed]
      exact y2
  · have c4 : ¬ nI (len + (k + 1)) ≤ (300 : Int32) := nI_ge (a := 300) (by omega) (by omega)
    rw [if_neg c4, if_neg c4]
    exact ⟨-3, σX, σM, rfl, rfl, F, hF, hX, hM, ⟨len, l1, l2, l3, l4⟩, h5, h6, h7⟩
/-- promise 4: wipe -/
theorem s_1 : simC1 Sim := fun σX σM ⟨F, h⟩ => by
  obtain ⟨hF, hX, hM, ⟨len, l1, l2, l3, l4⟩, h5, h6, h7⟩ := h
  unfold f_X8_wipe f_X9_wipe f_X6_size f_X6_clear
  refine ⟨nI len, up1 σX 1 1 0, up1 σM 0 4 0, ?_, ?_, F, hF, FX_pt (fun a j p q => by rw [up1_eq, if_neg (by omega)]) hX, FM_keep (fun j p q => by rw [up1_eq, if_neg (by omega)]) hF.m10 hM, ⟨0, by decide, by rw [up1_eq, if_pos ⟨rfl, rfl⟩]; rfl, by rw [up1_eq, if_pos ⟨rfl, rfl⟩]; rfl, fun j hj => absurd hj (Nat.not_lt_zero _)⟩, TOLD_k (by rw [up1_eq, if_neg (by omega)]) (fun j => by rw [up1_eq, if_neg (by omega)]) (by rw [up1_eq, if_neg (by omega)]) (fun j => by rw [up1_eq, if_neg (by omega)]) h5, KEPT_k (by rw [up1_eq, if_neg (by omega)]) (fun a j p q => by rw [up1_eq, if_neg (by omega)]) (by rw [up1_eq, if_neg (by omega)]) (fun j p q => by rw [up1_eq, if_neg (by omega)]) h6, UNDO_k (by rw [up1_eq, if_neg (by omega)]) (fun j => by rw [up1_eq, if_neg (by omega)]) (fun j => by rw [up1_eq, if_neg (by omega)]) (by rw [up1_eq, if_neg (by omega)]) (fun j p q => by rw [up1_eq, if_neg (by omega)]) h7⟩
  · rw [l2]; rfl
  · rw [nm_eq, l3]; rfl
/-- promise 26: noRow -/
theorem s_24 : simC24 Sim := fun σX σM ⟨F, h⟩ => by
  obtain ⟨hF, hX, hM, h4, ⟨tn, t1, t2, t3, t4⟩, h6, h7⟩ := h
  unfold f_X8_noRow f_X9_noRow
  refine ⟨nI tn, up1 σX 0 10 0, up1 σM 0 6 0, ?_, ?_, F, hF, FX_pt (fun a j p q => by rw [up1_eq, if_neg (by omega)]) hX, FM_keep (fun j p q => by rw [up1_eq, if_neg (by omega)]) hF.m10 hM, TEXT_k (by rw [up1_eq, if_neg (by omega)]) (fun j => by rw [up1_eq, if_neg (by omega)]) (by rw [up1_eq, if_neg (by omega)]) (fun j => by rw [up1_eq, if_neg (by omega)]) h4, TOLD_0 (by rw [up1_eq, if_pos ⟨rfl, rfl⟩]) (by rw [up1_eq, if_pos ⟨rfl, rfl⟩]), KEPT_k (by rw [up1_eq, if_neg (by omega)]) (fun a j p q => by rw [up1_eq, if_neg (by omega)]) (by rw [up1_eq, if_neg (by omega)]) (fun j p q => by rw [up1_eq, if_neg (by omega)]) h6, UNDO_k (by rw [up1_eq, if_neg (by omega)]) (fun j => by rw [up1_eq, if_neg (by omega)]) (fun j => by rw [up1_eq, if_neg (by omega)]) (by rw [up1_eq, if_neg (by omega)]) (fun j p q => by rw [up1_eq, if_neg (by omega)]) h7⟩
  · rw [nm_eq, t2]; rfl
  · rw [nm_eq, t3]; rfl
/-- promise 25: tell -/
theorem s_23 : simC23 Sim := fun σX σM ⟨F, h⟩ v => by
  obtain ⟨hF, hX, hM, h4, ⟨tn, t1, t2, t3, t4⟩, h6, h7⟩ := h
  have hm := hF.m10
  have hb : SimF F σX σM := ⟨hF, hX, hM, h4, ⟨tn, t1, t2, t3, t4⟩, h6, h7⟩
  unfold f_X8_tell f_X9_tell
  rw [bind_ok (x_isStep hX v), bind_ok (m_isStep hF hM.1 v)]
  rcases inn_cases v (n := fM F) (by omega) with e | ⟨k, hk, rfl, e⟩
  · rw [e]; exact ⟨_, _, _, rfl, rfl, F, hb⟩
  rw [e, if_neg (by decide : ¬ (1 : Int32) = 0), if_neg (by decide : ¬ (1 : Int32) = 0), t2, t3]
  rcases Nat.lt_or_ge tn 12 with c | c
  case inr =>
    obtain rfl : tn = 12 := by omega
    rw [if_neg (show ¬ nI 12 < (12 : Int32) by decide), if_pos (show nI 12 = (12 : Int32) from rfl)]
    exact ⟨_, _, _, rfl, rfl, F, hb⟩
  rw [if_pos (show nI tn < (12 : Int32) from nI_lt (b := 12) c (by decide)), if_neg (show ¬ nI tn = (12 : Int32) from fun q => by have := (nI_eq (a := tn) (b := 12) (by omega) (by decide)).mp q; omega), bind_ok (x_put c (by decide)), bind_ok (ast_ok c (by decide)), bind_ok (pfi_eq _ _ _ _), bind_ok (pfi_eq _ _ _ _)]
  have x1 : (up1 σX 41 tn (nI k)).1 0 10 = nI tn := by rw [up1_eq, if_neg (by omega), t2]
  have y1 : (up1 σM 3 tn (nI k)).1 0 6 = nI tn := by rw [up1_eq, if_neg (by omega), t3]
  have x2 : (up1 (up1 σX 41 tn (nI k)) 0 10 (nI tn + 1)).1 0 10 = nI (tn + 1) := by rw [up1_eq, if_pos ⟨rfl, rfl⟩, nI_1]
  have y2 : (up1 (up1 σM 3 tn (nI k)) 0 6 (nI tn + 1)).1 0 6 = nI (tn + 1) := by rw [up1_eq, if_pos ⟨rfl, rfl⟩, nI_1]
  rw [x1, y1, x2, y2]
  refine ⟨_, _, _, rfl, rfl, F, hF, FX_pt (fun a j p q => by rw [up1_eq, if_neg (by omega), up1_eq, if_neg (by omega)]) hX, FM_keep (fun j p q => by rw [up1_eq, if_neg (by omega), up1_eq, if_neg (by omega)]) hF.m10 hM, TEXT_k (by rw [up1_eq, if_neg (by omega), up1_eq, if_neg (by omega)]) (fun j => by rw [up1_eq, if_neg (by omega), up1_eq, if_neg (by omega)]) (by rw [up1_eq, if_neg (by omega), up1_eq, if_neg (by omega)]) (fun j => by rw [up1_eq, if_neg (by omega), up1_eq, if_neg (by omega)]) h4, ⟨tn + 1, by omega, x2, y2, fun j hj => ?_⟩, KEPT_k (by rw [up1_eq, if_neg (by omega), up1_eq, if_neg (by omega)]) (fun a j p q => by rw [up1_eq, if_neg (by omega), up1_eq, if_neg (by omega)]) (by rw [up1_eq, if_neg (by omega), up1_eq, if_neg (by omega)]) (fun j p q => by rw [up1_eq, if_neg (by omega), up1_eq, if_neg (by omega)]) h6, UNDO_k (by rw [up1_eq, if_neg (by omega), up1_eq, if_neg (by omega)]) (fun j => by rw [up1_eq, if_neg (by omega), up1_eq, if_neg (by omega)]) (fun j => by rw [up1_eq, if_neg (by omega), up1_eq, if_neg (by omega)]) (by rw [up1_eq, if_neg (by omega), up1_eq, if_neg (by omega)]) (fun j p q => by rw [up1_eq, if_neg (by omega), up1_eq, if_neg (by omega)]) h7⟩
  have ex : (up1 (up1 σX 41 tn (nI k)) 0 10 (nI tn + 1)).1 41 j = if j = tn then nI k else σX.1 41 j := by
    rw [up1_eq, if_neg (by omega), up1_eq]; simp
  have em : (up1 (up1 σM 3 tn (nI k)) 0 6 (nI tn + 1)).1 3 j = if j = tn then nI k else σM.1 3 j := by
    rw [up1_eq, if_neg (by omega), up1_eq]; simp
  rw [ex, em]
  by_cases e2 : j = tn
  · rw [if_pos e2, if_pos e2]; exact ⟨k, hk, rfl, rfl⟩
  · rw [if_neg e2, if_neg e2]; exact t4 j (by omega)
end
