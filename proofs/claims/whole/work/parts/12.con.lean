theorem hd_X8_stone : yX8_stone.cls = RX8 ∧ yX8_stone.cls ≠ "java/lang/invoke/MethodHandle" ∧ yX8_stone.cls ≠ "java/lang/invoke/VarHandle" ∧ (parseMethodDescriptor yX8_stone.desc).map (fun d => d.parameters.length) = some 2 := by decide +kernel
set_option maxHeartbeats 4000000 in
set_option maxRecDepth 100000 in
theorem c_X8_stone (l : Launch) (D : va_G) (aI aL : ClassId) (ad : Nat → Nat) (inj : Inj ad 42) (sz : Nat) (σ : Sg) (v1 : Int32) (v2 : Int32) (r0 : Int32) (hf : f_X8_stone v1 v2 σ = some r0) : Met l yX8_stone (wS yX8_stone cX8_stone 3 (some .int)) (RM 2 42) (Pw D aI aL 42 shX ad sz σ [.ref (ad 0), .int v1, .int v2]) (Qi D aI aL 42 shX ad r0 σ sz) 0 0 (AA ad 42 sz) := by
  refine Mof (Qc := Qi D aI aL 42 shX ad r0 σ) (by decide) inj (Nat.le_of_ble_eq_true rfl) ?_
  intro p e s m args below meth c ls C hlk hr hP hl
  have hx := C.1.1
  have hb_ := C.1.2.1
  have hown := C.1.2.2.2.1
  have hts := C.1.2.2.2.2
  have hl : lv_has ls 3 [(0, .ref (ad 0)), (1, .int v1), (2, .int v2)] := hl
  have bk_17 : ∀ (y : Int32), f_X8_stone_17 σ = some y → (fun y => y = r0) y → ∀ (H : Heap) (locs : List Loc) (ls : Array Slot), HS D aI aL 42 shX ad σ s H locs → lv_has ls 3 [] → W p l e (RM 2 42) s m args below meth c H locs 0 0 (MQ below (Qi D aI aL 42 shX ad r0 σ s.heap.size) args s 0 0 (AA ad 42 s.heap.size)) (F0 m 17 ls []) := by
    intro y h hK H locs ls hP hl
    unfold f_X8_stone_17 at h
    refine lv_iconst (v := (-1)) hx hb_ dX8_stone_17 (by decide) ?_
    obtain rfl := Option.some.inj h
    have hK : ((-1) : Int32) = r0 := hK
    exact w_iret C hlk hr hP hK rfl dX8_stone_18
  have bk : ∀ (y : Int32), f_X8_stone v1 v2 σ = some y → y = r0 → ∀ (H : Heap) (locs : List Loc), HS D aI aL 42 shX ad σ s H locs → W p l e (RM 2 42) s m args below meth c H locs 0 0 (MQ below (Qi D aI aL 42 shX ad r0 σ s.heap.size) args s 0 0 (AA ad 42 s.heap.size)) (F0 m 0 ls []) := by
    intro y h hK H locs hP
    unfold f_X8_stone at h
    refine lv_aload_n hx hb_ dX8_stone_0 rfl (lv_at hl 0 rfl) ?_
    refine lv_iload_n hx hb_ dX8_stone_1 rfl (lv_at hl 1 rfl) ?_
    obtain ⟨q1, hq1, h⟩ := bnd h
    refine w_ci (w_rV (As := [.int v1]) (rest := []) C hP (k := 0) (c_X8_isStone l D aI aL ad inj _ σ v1 q1 hq1) (gV wt367 wt369 wp3 wt1 wt370) 1 hd_X8_isStone ⟨Nat.le_of_ble_eq_true rfl, Nat.le_of_ble_eq_true rfl⟩ (by decide) 6 rfl rfl rfl hl.1 rfl (Nat.le_of_ble_eq_true rfl) dX8_stone_2) hP (fun H locs hP => ?_)
    refine lv_if_eq (tgt := 17) hx hb_ dX8_stone_5 (by decide) (fun hc => ?_) (fun hc => ?_)
    · replace h := ift h hc
      exact bk_17 y h hK _ _ _ hP (lv_sub hl [] rfl)
    · replace h := iff' h hc
      refine lv_iload_n hx hb_ dX8_stone_8 rfl (lv_at hl 2 rfl) ?_
      refine lv_if_lt (tgt := 17) hx hb_ dX8_stone_9 (by decide) (fun hc => ?_) (fun hc => ?_)
      · replace h := ift h hc
        exact bk_17 y h hK _ _ _ hP (lv_sub hl [] rfl)
      · replace h := iff' h hc
        refine lv_iload_n hx hb_ dX8_stone_12 rfl (lv_at hl 2 rfl) ?_
        refine lv_iconst (v := 4) hx hb_ dX8_stone_13 (by decide) ?_
        refine lv_icmp_le (tgt := 19) hx hb_ dX8_stone_14 (by decide) (fun hc => ?_) (fun hc => ?_)
        · replace h := ift h hc
          refine lv_iload_n hx hb_ dX8_stone_19 rfl (lv_at hl 2 rfl) ?_
          by_cases hc0 : v2 = 0
          · replace h := ift h hc0
            refine lv_tableIn (off := 32) (tgt := 52) hx hb_ dX8_stone_20 (by rw [hc0]; decide +kernel) (by rw [hc0]; decide +kernel) (by rw [hc0]; decide +kernel) (by decide) ?_
            refine lv_aload_n hx hb_ dX8_stone_52 rfl (lv_at hl 0 rfl) ?_
            refine w_get C hP (k := 0) (by decide) 6 rfl rfl inWX8 3 (by decide) wt287 (v := .ref (ad 12)) rfl dX8_stone_53 ?_
            obtain ⟨q2, hq2, h⟩ := bnd h
            refine w_ci (w_rV (As := []) (rest := []) C hP (k := 12) (c_X1_there l D aI aL ad inj _ σ 12 fl12 q2 hq2) (gV wt372 wt373 wt374 wt4 wt375) 0 hd_X1_there ⟨Nat.le_of_ble_eq_true rfl, Nat.le_of_ble_eq_true rfl⟩ (by decide) 0 rfl rfl rfl hl.1 rfl (Nat.le_of_ble_eq_true rfl) dX8_stone_56) hP (fun H locs hP => ?_)
            refine lv_iload_n hx hb_ dX8_stone_59 rfl (lv_at hl 1 rfl) ?_
            obtain ⟨q3, hq3, h⟩ := bnd h
            refine w_ci (w_rS (As := [.int q2, .int v1]) (rest := []) C hP (c_X8_bitOf l D aI aL ad inj _ σ q2 v1 q3 hq3) wt376 wt377 wt1 wt378 2 hd_X8_bitOf ⟨Nat.le_of_ble_eq_true rfl, Nat.le_of_ble_eq_true rfl⟩ rfl hl.1 rfl (Nat.le_of_ble_eq_true rfl) dX8_stone_60) hP (fun H locs hP => ?_)
            obtain rfl := Option.some.inj h
            have hK : (q3 : Int32) = r0 := hK
            exact w_iret C hlk hr hP hK rfl dX8_stone_63
          replace h := iff' h hc0
          by_cases hc1 : v2 = 1
          · replace h := ift h hc1
            refine lv_tableIn (off := 44) (tgt := 64) hx hb_ dX8_stone_20 (by rw [hc1]; decide +kernel) (by rw [hc1]; decide +kernel) (by rw [hc1]; decide +kernel) (by decide) ?_
            refine lv_aload_n hx hb_ dX8_stone_64 rfl (lv_at hl 0 rfl) ?_
            refine w_get C hP (k := 0) (by decide) 6 rfl rfl inWX8 3 (by decide) wt287 (v := .ref (ad 12)) rfl dX8_stone_65 ?_
            obtain ⟨q4, hq4, h⟩ := bnd h
            refine w_ci (w_rV (As := []) (rest := []) C hP (k := 12) (c_X1_stood l D aI aL ad inj _ σ 12 fl12 q4 hq4) (gV wt379 wt380 wt381 wt4 wt382) 0 hd_X1_stood ⟨Nat.le_of_ble_eq_true rfl, Nat.le_of_ble_eq_true rfl⟩ (by decide) 0 rfl rfl rfl hl.1 rfl (Nat.le_of_ble_eq_true rfl) dX8_stone_68) hP (fun H locs hP => ?_)
            refine lv_iload_n hx hb_ dX8_stone_71 rfl (lv_at hl 1 rfl) ?_
            obtain ⟨q5, hq5, h⟩ := bnd h
            refine w_ci (w_rS (As := [.int q4, .int v1]) (rest := []) C hP (c_X8_bitOf l D aI aL ad inj _ σ q4 v1 q5 hq5) wt376 wt377 wt1 wt378 2 hd_X8_bitOf ⟨Nat.le_of_ble_eq_true rfl, Nat.le_of_ble_eq_true rfl⟩ rfl hl.1 rfl (Nat.le_of_ble_eq_true rfl) dX8_stone_72) hP (fun H locs hP => ?_)
            obtain rfl := Option.some.inj h
            have hK : (q5 : Int32) = r0 := hK
            exact w_iret C hlk hr hP hK rfl dX8_stone_75
          replace h := iff' h hc1
          by_cases hc2 : v2 = 2
          · replace h := ift h hc2
            refine lv_tableIn (off := 56) (tgt := 76) hx hb_ dX8_stone_20 (by rw [hc2]; decide +kernel) (by rw [hc2]; decide +kernel) (by rw [hc2]; decide +kernel) (by decide) ?_
            refine lv_aload_n hx hb_ dX8_stone_76 rfl (lv_at hl 0 rfl) ?_
            refine w_get C hP (k := 0) (by decide) 6 rfl rfl inWX8 3 (by decide) wt287 (v := .ref (ad 12)) rfl dX8_stone_77 ?_
            obtain ⟨q6, hq6, h⟩ := bnd h
            refine w_ci (w_rV (As := []) (rest := []) C hP (k := 12) (c_X1_begins l D aI aL ad inj _ σ 12 fl12 q6 hq6) (gV wt383 wt384 wt385 wt4 wt386) 0 hd_X1_begins ⟨Nat.le_of_ble_eq_true rfl, Nat.le_of_ble_eq_true rfl⟩ (by decide) 0 rfl rfl rfl hl.1 rfl (Nat.le_of_ble_eq_true rfl) dX8_stone_80) hP (fun H locs hP => ?_)
            refine lv_iload_n hx hb_ dX8_stone_83 rfl (lv_at hl 1 rfl) ?_
            obtain ⟨q7, hq7, h⟩ := bnd h
            refine w_ci (w_rS (As := [.int q6, .int v1]) (rest := []) C hP (c_X8_bitOf l D aI aL ad inj _ σ q6 v1 q7 hq7) wt376 wt377 wt1 wt378 2 hd_X8_bitOf ⟨Nat.le_of_ble_eq_true rfl, Nat.le_of_ble_eq_true rfl⟩ rfl hl.1 rfl (Nat.le_of_ble_eq_true rfl) dX8_stone_84) hP (fun H locs hP => ?_)
            obtain rfl := Option.some.inj h
            have hK : (q7 : Int32) = r0 := hK
            exact w_iret C hlk hr hP hK rfl dX8_stone_87
          replace h := iff' h hc2
          by_cases hc3 : v2 = 3
          · replace h := ift h hc3
            refine lv_tableIn (off := 68) (tgt := 88) hx hb_ dX8_stone_20 (by rw [hc3]; decide +kernel) (by rw [hc3]; decide +kernel) (by rw [hc3]; decide +kernel) (by decide) ?_
            refine lv_aload_n hx hb_ dX8_stone_88 rfl (lv_at hl 0 rfl) ?_
            refine w_get C hP (k := 0) (by decide) 6 rfl rfl inWX8 3 (by decide) wt287 (v := .ref (ad 12)) rfl dX8_stone_89 ?_
            refine lv_iload_n hx hb_ dX8_stone_92 rfl (lv_at hl 1 rfl) ?_
            obtain ⟨q8, hq8, h⟩ := bnd h
            refine w_ci (w_rV (As := [.int v1]) (rest := []) C hP (k := 12) (c_X1_wearOf l D aI aL ad inj _ σ 12 fl12 v1 q8 hq8) (gV wt387 wt388 wt389 wt4 wt390) 1 hd_X1_wearOf ⟨Nat.le_of_ble_eq_true rfl, Nat.le_of_ble_eq_true rfl⟩ (by decide) 0 rfl rfl rfl hl.1 rfl (Nat.le_of_ble_eq_true rfl) dX8_stone_93) hP (fun H locs hP => ?_)
            obtain rfl := Option.some.inj h
            have hK : (q8 : Int32) = r0 := hK
            exact w_iret C hlk hr hP hK rfl dX8_stone_96
          replace h := iff' h hc3
          refine lv_tableOut (tgt := 97) hx hb_ dX8_stone_20 (tb_out (n := 4) (by decide) (fun j hj => match j, hj with | 0, _ => hc0 | 1, _ => hc1 | 2, _ => hc2 | 3, _ => hc3 | j + 4, hj => absurd hj (by omega))) (by decide) ?_
          refine lv_aload_n hx hb_ dX8_stone_97 rfl (lv_at hl 0 rfl) ?_
          refine w_get C hP (k := 0) (by decide) 6 rfl rfl inWX8 3 (by decide) wt287 (v := .ref (ad 12)) rfl dX8_stone_98 ?_
          refine lv_iload_n hx hb_ dX8_stone_101 rfl (lv_at hl 1 rfl) ?_
          obtain ⟨q9, hq9, h⟩ := bnd h
          refine w_ci (w_rV (As := [.int v1]) (rest := []) C hP (k := 12) (c_X1_gainsayersOf l D aI aL ad inj _ σ 12 fl12 v1 q9 hq9) (gV wt391 wt392 wt393 wt4 wt394) 1 hd_X1_gainsayersOf ⟨Nat.le_of_ble_eq_true rfl, Nat.le_of_ble_eq_true rfl⟩ (by decide) 0 rfl rfl rfl hl.1 rfl (Nat.le_of_ble_eq_true rfl) dX8_stone_102) hP (fun H locs hP => ?_)
          obtain rfl := Option.some.inj h
          have hK : (q9 : Int32) = r0 := hK
          exact w_iret C hlk hr hP hK rfl dX8_stone_105
        · replace h := iff' h hc
          exact bk_17 y h hK _ _ _ hP (lv_sub hl [] rfl)
  exact bk r0 hf rfl _ _ hP
theorem hd_X8_isStep : yX8_isStep.cls = RX8 ∧ yX8_isStep.cls ≠ "java/lang/invoke/MethodHandle" ∧ yX8_isStep.cls ≠ "java/lang/invoke/VarHandle" ∧ (parseMethodDescriptor yX8_isStep.desc).map (fun d => d.parameters.length) = some 1 := by decide +kernel
set_option maxHeartbeats 4000000 in
set_option maxRecDepth 100000 in
theorem c_X8_isStep (l : Launch) (D : va_G) (aI aL : ClassId) (ad : Nat → Nat) (inj : Inj ad 42) (sz : Nat) (σ : Sg) (v1 : Int32) (r0 : Int32) (hf : f_X8_isStep v1 σ = some r0) : Met l yX8_isStep (wS yX8_isStep cX8_isStep 2 (some .boolean)) (RM 1 20) (Pw D aI aL 42 shX ad sz σ [.ref (ad 0), .int v1]) (Qi D aI aL 42 shX ad r0 σ sz) 0 0 (AA ad 42 sz) := by
  refine Mof (Qc := Qi D aI aL 42 shX ad r0 σ) (by decide) inj (Nat.le_of_ble_eq_true rfl) ?_
  intro p e s m args below meth c ls C hlk hr hP hl
  have hx := C.1.1
  have hb_ := C.1.2.1
  have hown := C.1.2.2.2.1
  have hts := C.1.2.2.2.2
  have hl : lv_has ls 2 [(0, .ref (ad 0)), (1, .int v1)] := hl
  have bk_20 : ∀ (t0_20 : Int32) (y : Int32), f_X8_isStep_20 t0_20 σ = some y → (fun y => y = r0) y → ∀ (H : Heap) (locs : List Loc) (ls : Array Slot), HS D aI aL 42 shX ad σ s H locs → lv_has ls 2 [] → W p l e (RM 1 20) s m args below meth c H locs 0 0 (MQ below (Qi D aI aL 42 shX ad r0 σ s.heap.size) args s 0 0 (AA ad 42 s.heap.size)) (F0 m 20 ls [.int t0_20]) := by
    intro t0_20 y h hK H locs ls hP hl
    unfold f_X8_isStep_20 at h
    obtain ⟨x1, hx1, h⟩ := bnd h
    obtain rfl := Option.some.inj h
    have hK : (x1 : Int32) = r0 := hK
    exact w_zret C hlk hr hP hx1 hK rfl dX8_isStep_20
  have bk_19 : ∀ (y : Int32), f_X8_isStep_19 σ = some y → (fun y => y = r0) y → ∀ (H : Heap) (locs : List Loc) (ls : Array Slot), HS D aI aL 42 shX ad σ s H locs → lv_has ls 2 [] → W p l e (RM 1 20) s m args below meth c H locs 0 0 (MQ below (Qi D aI aL 42 shX ad r0 σ s.heap.size) args s 0 0 (AA ad 42 s.heap.size)) (F0 m 19 ls []) := by
    intro y h hK H locs ls hP hl
    unfold f_X8_isStep_19 at h
    refine lv_iconst (v := 0) hx hb_ dX8_isStep_19 (by decide) ?_
    exact bk_20 0 y h hK _ _ _ hP (lv_sub hl [] rfl)
  have bk : ∀ (y : Int32), f_X8_isStep v1 σ = some y → y = r0 → ∀ (H : Heap) (locs : List Loc), HS D aI aL 42 shX ad σ s H locs → W p l e (RM 1 20) s m args below meth c H locs 0 0 (MQ below (Qi D aI aL 42 shX ad r0 σ s.heap.size) args s 0 0 (AA ad 42 s.heap.size)) (F0 m 0 ls []) := by
    intro y h hK H locs hP
    unfold f_X8_isStep at h
    refine lv_iload_n hx hb_ dX8_isStep_0 rfl (lv_at hl 1 rfl) ?_
    refine lv_if_lt (tgt := 19) hx hb_ dX8_isStep_1 (by decide) (fun hc => ?_) (fun hc => ?_)
    · replace h := ift h hc
      exact bk_19 y h hK _ _ _ hP (lv_sub hl [] rfl)
    · replace h := iff' h hc
      refine lv_iload_n hx hb_ dX8_isStep_4 rfl (lv_at hl 1 rfl) ?_
      refine lv_aload_n hx hb_ dX8_isStep_5 rfl (lv_at hl 0 rfl) ?_
      refine w_get C hP (k := 0) (by decide) 6 rfl rfl inWX8 3 (by decide) wt287 (v := .ref (ad 12)) rfl dX8_isStep_6 ?_
      obtain ⟨q2, hq2, h⟩ := bnd h
      refine w_ci (w_rV (As := []) (rest := [.int v1]) C hP (k := 12) (c_X1_stepCount l D aI aL ad inj _ σ 12 fl12 q2 hq2) (gV wt340 wt341 wt342 wt4 wt343) 0 hd_X1_stepCount ⟨Nat.le_of_ble_eq_true rfl, Nat.le_of_ble_eq_true rfl⟩ (by decide) 0 rfl rfl rfl hl.1 rfl (Nat.le_of_ble_eq_true rfl) dX8_isStep_9) hP (fun H locs hP => ?_)
      refine lv_icmp_ge (tgt := 19) hx hb_ dX8_isStep_12 (by decide) (fun hc => ?_) (fun hc => ?_)
      · replace h := ift h hc
        exact bk_19 y h hK _ _ _ hP (lv_sub hl [] rfl)
      · replace h := iff' h hc
        refine lv_iconst (v := 1) hx hb_ dX8_isStep_15 (by decide) ?_
        refine lv_goto (tgt := 20) hx hb_ dX8_isStep_16 (by decide) ?_
        exact bk_20 1 y h hK _ _ _ hP (lv_sub hl [] rfl)
  exact bk r0 hf rfl _ _ hP
theorem hd_X8_step : yX8_step.cls = RX8 ∧ yX8_step.cls ≠ "java/lang/invoke/MethodHandle" ∧ yX8_step.cls ≠ "java/lang/invoke/VarHandle" ∧ (parseMethodDescriptor yX8_step.desc).map (fun d => d.parameters.length) = some 2 := by decide +kernel
set_option maxHeartbeats 4000000 in
set_option maxRecDepth 100000 in
theorem c_X8_step (l : Launch) (D : va_G) (aI aL : ClassId) (ad : Nat → Nat) (inj : Inj ad 42) (sz : Nat) (σ : Sg) (v1 : Int32) (v2 : Int32) (r0 : Int32) (hf : f_X8_step v1 v2 σ = some r0) : Met l yX8_step (wS yX8_step cX8_step 3 (some .int)) (RM 4 88) (Pw D aI aL 42 shX ad sz σ [.ref (ad 0), .int v1, .int v2]) (Qi D aI aL 42 shX ad r0 σ sz) 0 0 (AA ad 42 sz) := by
  refine Mof (Qc := Qi D aI aL 42 shX ad r0 σ) (by decide) inj (Nat.le_of_ble_eq_true rfl) ?_
  intro p e s m args below meth c ls C hlk hr hP hl
  have hx := C.1.1
  have hb_ := C.1.2.1
  have hown := C.1.2.2.2.1
  have hts := C.1.2.2.2.2
  have hl : lv_has ls 3 [(0, .ref (ad 0)), (1, .int v1), (2, .int v2)] := hl
  have bk_17 : ∀ (y : Int32), f_X8_step_17 σ = some y → (fun y => y = r0) y → ∀ (H : Heap) (locs : List Loc) (ls : Array Slot), HS D aI aL 42 shX ad σ s H locs → lv_has ls 3 [] → W p l e (RM 4 88) s m args below meth c H locs 0 0 (MQ below (Qi D aI aL 42 shX ad r0 σ s.heap.size) args s 0 0 (AA ad 42 s.heap.size)) (F0 m 17 ls []) := by
    intro y h hK H locs ls hP hl
    unfold f_X8_step_17 at h
    refine lv_iconst (v := (-1)) hx hb_ dX8_step_17 (by decide) ?_
    obtain rfl := Option.some.inj h
    have hK : ((-1) : Int32) = r0 := hK
    exact w_iret C hlk hr hP hK rfl dX8_step_18
  have bk_91 : ∀ (t0_91 : Int32) (y : Int32), f_X8_step_91 t0_91 σ = some y → (fun y => y = r0) y → ∀ (H : Heap) (locs : List Loc) (ls : Array Slot), HS D aI aL 42 shX ad σ s H locs → lv_has ls 3 [] → W p l e (RM 4 88) s m args below meth c H locs 0 0 (MQ below (Qi D aI aL 42 shX ad r0 σ s.heap.size) args s 0 0 (AA ad 42 s.heap.size)) (F0 m 91 ls [.int t0_91]) := by
    intro t0_91 y h hK H locs ls hP hl
    unfold f_X8_step_91 at h
    obtain rfl := Option.some.inj h
    have hK : (t0_91 : Int32) = r0 := hK
    exact w_iret C hlk hr hP hK rfl dX8_step_91
  have bk : ∀ (y : Int32), f_X8_step v1 v2 σ = some y → y = r0 → ∀ (H : Heap) (locs : List Loc), HS D aI aL 42 shX ad σ s H locs → W p l e (RM 4 88) s m args below meth c H locs 0 0 (MQ below (Qi D aI aL 42 shX ad r0 σ s.heap.size) args s 0 0 (AA ad 42 s.heap.size)) (F0 m 0 ls []) := by
    intro y h hK H locs hP
    unfold f_X8_step at h
    refine lv_aload_n hx hb_ dX8_step_0 rfl (lv_at hl 0 rfl) ?_
    refine lv_iload_n hx hb_ dX8_step_1 rfl (lv_at hl 1 rfl) ?_
    obtain ⟨q1, hq1, h⟩ := bnd h
    refine w_ci (w_rV (As := [.int v1]) (rest := []) C hP (k := 0) (c_X8_isStep l D aI aL ad inj _ σ v1 q1 hq1) (gV wt399 wt401 wp4 wt1 wt402) 1 hd_X8_isStep ⟨Nat.le_of_ble_eq_true rfl, Nat.le_of_ble_eq_true rfl⟩ (by decide) 6 rfl rfl rfl hl.1 rfl (Nat.le_of_ble_eq_true rfl) dX8_step_2) hP (fun H locs hP => ?_)
    refine lv_if_eq (tgt := 17) hx hb_ dX8_step_5 (by decide) (fun hc => ?_) (fun hc => ?_)
    · replace h := ift h hc
      exact bk_17 y h hK _ _ _ hP (lv_sub hl [] rfl)
    · replace h := iff' h hc
      refine lv_iload_n hx hb_ dX8_step_8 rfl (lv_at hl 2 rfl) ?_
      refine lv_if_lt (tgt := 17) hx hb_ dX8_step_9 (by decide) (fun hc => ?_) (fun hc => ?_)
      · replace h := ift h hc
        exact bk_17 y h hK _ _ _ hP (lv_sub hl [] rfl)
      · replace h := iff' h hc
        refine lv_iload_n hx hb_ dX8_step_12 rfl (lv_at hl 2 rfl) ?_
        refine lv_iconst (v := 3) hx hb_ dX8_step_13 (by decide) ?_
        refine lv_icmp_le (tgt := 19) hx hb_ dX8_step_14 (by decide) (fun hc => ?_) (fun hc => ?_)
        · replace h := ift h hc
          refine lv_iload_n hx hb_ dX8_step_19 rfl (lv_at hl 2 rfl) ?_
          by_cases hc0 : v2 = 0
          · replace h := ift h hc0
            refine lv_tableIn (off := 28) (tgt := 48) hx hb_ dX8_step_20 (by rw [hc0]; decide +kernel) (by rw [hc0]; decide +kernel) (by rw [hc0]; decide +kernel) (by decide) ?_
            refine lv_aload_n hx hb_ dX8_step_48 rfl (lv_at hl 0 rfl) ?_
            refine w_get C hP (k := 0) (by decide) 6 rfl rfl inWX8 3 (by decide) wt287 (v := .ref (ad 12)) rfl dX8_step_49 ?_
            refine lv_iload_n hx hb_ dX8_step_52 rfl (lv_at hl 1 rfl) ?_
            obtain ⟨q2, hq2, h⟩ := bnd h
            refine w_ci (w_rV (As := [.int v1]) (rest := []) C hP (k := 12) (c_X1_firstOf l D aI aL ad inj _ σ 12 fl12 v1 q2 hq2) (gV wt403 wt404 wt405 wt4 wt406) 1 hd_X1_firstOf ⟨Nat.le_of_ble_eq_true rfl, Nat.le_of_ble_eq_true rfl⟩ (by decide) 0 rfl rfl rfl hl.1 rfl (Nat.le_of_ble_eq_true rfl) dX8_step_53) hP (fun H locs hP => ?_)
            obtain rfl := Option.some.inj h
            have hK : (q2 : Int32) = r0 := hK
            exact w_iret C hlk hr hP hK rfl dX8_step_56
          replace h := iff' h hc0
          by_cases hc1 : v2 = 1
          · replace h := ift h hc1
            refine lv_tableIn (off := 37) (tgt := 57) hx hb_ dX8_step_20 (by rw [hc1]; decide +kernel) (by rw [hc1]; decide +kernel) (by rw [hc1]; decide +kernel) (by decide) ?_
            refine lv_aload_n hx hb_ dX8_step_57 rfl (lv_at hl 0 rfl) ?_
            refine w_get C hP (k := 0) (by decide) 6 rfl rfl inWX8 3 (by decide) wt287 (v := .ref (ad 12)) rfl dX8_step_58 ?_
            refine lv_iload_n hx hb_ dX8_step_61 rfl (lv_at hl 1 rfl) ?_
            obtain ⟨q3, hq3, h⟩ := bnd h
            refine w_ci (w_rV (As := [.int v1]) (rest := []) C hP (k := 12) (c_X1_secondOf l D aI aL ad inj _ σ 12 fl12 v1 q3 hq3) (gV wt407 wt408 wt409 wt4 wt410) 1 hd_X1_secondOf ⟨Nat.le_of_ble_eq_true rfl, Nat.le_of_ble_eq_true rfl⟩ (by decide) 0 rfl rfl rfl hl.1 rfl (Nat.le_of_ble_eq_true rfl) dX8_step_62) hP (fun H locs hP => ?_)
            obtain rfl := Option.some.inj h
            have hK : (q3 : Int32) = r0 := hK
            exact w_iret C hlk hr hP hK rfl dX8_step_65
          replace h := iff' h hc1
          by_cases hc2 : v2 = 2
          · replace h := ift h hc2
            refine lv_tableIn (off := 46) (tgt := 66) hx hb_ dX8_step_20 (by rw [hc2]; decide +kernel) (by rw [hc2]; decide +kernel) (by rw [hc2]; decide +kernel) (by decide) ?_
            refine lv_aload_n hx hb_ dX8_step_66 rfl (lv_at hl 0 rfl) ?_
            refine w_get C hP (k := 0) (by decide) 6 rfl rfl inWX8 3 (by decide) wt287 (v := .ref (ad 12)) rfl dX8_step_67 ?_
            refine lv_iload_n hx hb_ dX8_step_70 rfl (lv_at hl 1 rfl) ?_
            obtain ⟨q4, hq4, h⟩ := bnd h
            refine w_ci (w_rV (As := [.int v1]) (rest := []) C hP (k := 12) (c_X1_endOf l D aI aL ad inj _ σ 12 fl12 v1 q4 hq4) (gV wt411 wt412 wt413 wt4 wt414) 1 hd_X1_endOf ⟨Nat.le_of_ble_eq_true rfl, Nat.le_of_ble_eq_true rfl⟩ (by decide) 0 rfl rfl rfl hl.1 rfl (Nat.le_of_ble_eq_true rfl) dX8_step_71) hP (fun H locs hP => ?_)
            obtain rfl := Option.some.inj h
            have hK : (q4 : Int32) = r0 := hK
            exact w_iret C hlk hr hP hK rfl dX8_step_74
          replace h := iff' h hc2
          refine lv_tableOut (tgt := 75) hx hb_ dX8_step_20 (tb_out (n := 3) (by decide) (fun j hj => match j, hj with | 0, _ => hc0 | 1, _ => hc1 | 2, _ => hc2 | j + 3, hj => absurd hj (by omega))) (by decide) ?_
          refine lv_aload_n hx hb_ dX8_step_75 rfl (lv_at hl 0 rfl) ?_
          refine w_get C hP (k := 0) (by decide) 6 rfl rfl inWX8 3 (by decide) wt287 (v := .ref (ad 12)) rfl dX8_step_76 ?_
          refine lv_iload_n hx hb_ dX8_step_79 rfl (lv_at hl 1 rfl) ?_
          obtain ⟨q5, hq5, h⟩ := bnd h
          refine w_ci (w_rV (As := [.int v1]) (rest := []) C hP (k := 12) (c_X1_mayBeGone l D aI aL ad inj _ σ 12 fl12 v1 q5 hq5) (gV wt415 wt416 wt417 wt4 wt418) 1 hd_X1_mayBeGone ⟨Nat.le_of_ble_eq_true rfl, Nat.le_of_ble_eq_true rfl⟩ (by decide) 0 rfl rfl rfl hl.1 rfl (Nat.le_of_ble_eq_true rfl) dX8_step_80) hP (fun H locs hP => ?_)
          refine lv_if_eq (tgt := 90) hx hb_ dX8_step_83 (by decide) (fun hc => ?_) (fun hc => ?_)
          · replace h := ift h hc
            refine lv_iconst (v := 0) hx hb_ dX8_step_90 (by decide) ?_
            exact bk_91 0 y h hK _ _ _ hP (lv_sub hl [] rfl)
          · replace h := iff' h hc
            refine lv_iconst (v := 1) hx hb_ dX8_step_86 (by decide) ?_
            refine lv_goto (tgt := 91) hx hb_ dX8_step_87 (by decide) ?_
            exact bk_91 1 y h hK _ _ _ hP (lv_sub hl [] rfl)
        · replace h := iff' h hc
          exact bk_17 y h hK _ _ _ hP (lv_sub hl [] rfl)
  exact bk r0 hf rfl _ _ hP
theorem hd_X8_go : yX8_go.cls = RX8 ∧ yX8_go.cls ≠ "java/lang/invoke/MethodHandle" ∧ yX8_go.cls ≠ "java/lang/invoke/VarHandle" ∧ (parseMethodDescriptor yX8_go.desc).map (fun d => d.parameters.length) = some 1 := by decide +kernel
set_option maxHeartbeats 4000000 in
set_option maxRecDepth 100000 in
theorem c_X8_go (l : Launch) (D : va_G) (aI aL : ClassId) (ad : Nat → Nat) (inj : Inj ad 42) (sz : Nat) (σ : Sg) (v1 : Int32) (r0 : (Int32 × Sg)) (hf : f_X8_go v1 σ = some r0) : Met l yX8_go (wS yX8_go cX8_go 2 (some .int)) (RM 4 89) (Pw D aI aL 42 shX ad sz σ [.ref (ad 0), .int v1]) (Qi D aI aL 42 shX ad r0.1 r0.2 sz) 0 0 (AA ad 42 sz) := by
  refine Mof (Qc := Qi D aI aL 42 shX ad r0.1 r0.2) (by decide) inj (Nat.le_of_ble_eq_true rfl) ?_
  intro p e s m args below meth c ls C hlk hr hP hl
  have hx := C.1.1
  have hb_ := C.1.2.1
  have hown := C.1.2.2.2.1
  have hts := C.1.2.2.2.2
  have hl : lv_has ls 2 [(0, .ref (ad 0)), (1, .int v1)] := hl
  have bk : ∀ (y : (Int32 × Sg)), f_X8_go v1 σ = some y → y = r0 → ∀ (H : Heap) (locs : List Loc), HS D aI aL 42 shX ad σ s H locs → W p l e (RM 4 89) s m args below meth c H locs 0 0 (MQ below (Qi D aI aL 42 shX ad r0.1 r0.2 s.heap.size) args s 0 0 (AA ad 42 s.heap.size)) (F0 m 0 ls []) := by
    intro y h hK H locs hP
    unfold f_X8_go at h
    refine lv_aload_n hx hb_ dX8_go_0 rfl (lv_at hl 0 rfl) ?_
    refine lv_iload_n hx hb_ dX8_go_1 rfl (lv_at hl 1 rfl) ?_
    obtain ⟨q1, hq1, h⟩ := bnd h
    refine w_ci (w_rV (As := [.int v1]) (rest := []) C hP (k := 0) (c_X8_isStep l D aI aL ad inj _ σ v1 q1 hq1) (gV wt399 wt401 wp4 wt1 wt402) 1 hd_X8_isStep ⟨Nat.le_of_ble_eq_true rfl, Nat.le_of_ble_eq_true rfl⟩ (by decide) 6 rfl rfl rfl hl.1 rfl (Nat.le_of_ble_eq_true rfl) dX8_go_2) hP (fun H locs hP => ?_)
    refine lv_if_ne (tgt := 10) hx hb_ dX8_go_5 (by decide) (fun hc => ?_) (fun hc => ?_)
    · replace h := iff' h hc
      refine lv_aload_n hx hb_ dX8_go_10 rfl (lv_at hl 0 rfl) ?_
      refine w_get C hP (k := 0) (by decide) 6 rfl rfl inWX8 3 (by decide) wt287 (v := .ref (ad 12)) rfl dX8_go_11 ?_
      refine lv_iload_n hx hb_ dX8_go_14 rfl (lv_at hl 1 rfl) ?_
      obtain ⟨q2, hq2, h⟩ := bnd h
      refine w_ci (w_rV (As := [.int v1]) (rest := []) C hP (k := 12) (c_X1_mayBeGone l D aI aL ad inj _ σ 12 fl12 v1 q2 hq2) (gV wt415 wt416 wt417 wt4 wt418) 1 hd_X1_mayBeGone ⟨Nat.le_of_ble_eq_true rfl, Nat.le_of_ble_eq_true rfl⟩ (by decide) 0 rfl rfl rfl hl.1 rfl (Nat.le_of_ble_eq_true rfl) dX8_go_15) hP (fun H locs hP => ?_)
      refine lv_if_ne (tgt := 24) hx hb_ dX8_go_18 (by decide) (fun hc => ?_) (fun hc => ?_)
      · replace h := iff' h hc
        refine lv_aload_n hx hb_ dX8_go_24 rfl (lv_at hl 0 rfl) ?_
        refine w_get C hP (k := 0) (by decide) 6 rfl rfl inWX8 3 (by decide) wt287 (v := .ref (ad 12)) rfl dX8_go_25 ?_
        refine lv_iload_n hx hb_ dX8_go_28 rfl (lv_at hl 1 rfl) ?_
        obtain ⟨q3, hq3, h⟩ := bnd h
        refine w_cv (w_rV (As := [.int v1]) (rest := []) C hP (k := 12) (c_X1_tread l D aI aL ad inj _ σ 12 fl12 v1 q3 hq3) (gV wt434 wt435 wt436 wt4 wt437) 1 hd_X1_tread ⟨Nat.le_of_ble_eq_true rfl, Nat.le_of_ble_eq_true rfl⟩ (by decide) 0 rfl rfl rfl hl.1 rfl (Nat.le_of_ble_eq_true rfl) dX8_go_29) hP (fun H locs hP => ?_)
        refine lv_aload_n hx hb_ dX8_go_32 rfl (lv_at hl 0 rfl) ?_
        refine w_get C hP (k := 0) (by decide) 6 rfl rfl inWX8 6 (by decide) wt290 (v := .ref (ad 33)) rfl dX8_go_33 ?_
        refine lv_aload_n hx hb_ dX8_go_36 rfl (lv_at hl 0 rfl) ?_
        refine w_get C hP (k := 0) (by decide) 6 rfl rfl inWX8 3 (by decide) wt287 (v := .ref (ad 12)) rfl dX8_go_37 ?_
        refine lv_iload_n hx hb_ dX8_go_40 rfl (lv_at hl 1 rfl) ?_
        obtain ⟨q4, hq4, h⟩ := bnd h
        refine w_ci (w_rV (As := [.int v1]) (rest := [.ref (ad 33)]) C hP (k := 12) (c_X1_endOf l D aI aL ad inj _ q3 12 fl12 v1 q4 hq4) (gV wt411 wt412 wt413 wt4 wt414) 1 hd_X1_endOf ⟨Nat.le_of_ble_eq_true rfl, Nat.le_of_ble_eq_true rfl⟩ (by decide) 0 rfl rfl rfl hl.1 rfl (Nat.le_of_ble_eq_true rfl) dX8_go_41) hP (fun H locs hP => ?_)
        obtain ⟨q5, hq5, h⟩ := bnd h
        refine w_cv (w_rV (As := [.int q4]) (rest := []) C hP (k := 33) (c_X2_noteGone l D aI aL ad inj _ q3 q4 q5 hq5) (gV wt439 wt440 wt441 wt5 wt442) 1 hd_X2_noteGone ⟨Nat.le_of_ble_eq_true rfl, Nat.le_of_ble_eq_true rfl⟩ (by decide) 1 rfl rfl rfl hl.1 rfl (Nat.le_of_ble_eq_true rfl) dX8_go_44) hP (fun H locs hP => ?_)
        refine lv_aload_n hx hb_ dX8_go_47 rfl (lv_at hl 0 rfl) ?_
        refine w_get C hP (k := 0) (by decide) 6 rfl rfl inWX8 3 (by decide) wt287 (v := .ref (ad 12)) rfl dX8_go_48 ?_
        obtain ⟨q6, hq6, h⟩ := bnd h
        refine w_ci (w_rV (As := []) (rest := []) C hP (k := 12) (c_X1_stood l D aI aL ad inj _ q5 12 fl12 q6 hq6) (gV wt379 wt380 wt381 wt4 wt382) 0 hd_X1_stood ⟨Nat.le_of_ble_eq_true rfl, Nat.le_of_ble_eq_true rfl⟩ (by decide) 0 rfl rfl rfl hl.1 rfl (Nat.le_of_ble_eq_true rfl) dX8_go_51) hP (fun H locs hP => ?_)
        obtain ⟨q7, hq7, h⟩ := bnd h
        refine w_ci (w_rS (As := [.int q6]) (rest := []) C hP (c_J6_bitCount_0f7a4 l D aI aL ad inj _ q5 q6 q7 hq7) wt453 wt454 wt13 wt455 1 hd_J6_bitCount_0f7a4 ⟨Nat.le_of_ble_eq_true rfl, Nat.le_of_ble_eq_true rfl⟩ rfl hl.1 rfl (Nat.le_of_ble_eq_true rfl) dX8_go_54) hP (fun H locs hP => ?_)
        obtain rfl := Option.some.inj h
        have hK : (q7, q5) = r0 := hK
        have hK1 := congrArg Prod.fst hK
        have hK2 := congrArg Prod.snd hK
        exact w_iret C hlk hr hP hK1 hK2 dX8_go_57
      · replace h := ift h hc
        refine lv_bipush (v := (-2)) hx hb_ dX8_go_21 (by decide) ?_
        obtain rfl := Option.some.inj h
        have hK : ((-2), σ) = r0 := hK
        have hK1 := congrArg Prod.fst hK
        have hK2 := congrArg Prod.snd hK
        exact w_iret C hlk hr hP hK1 hK2 dX8_go_23
    · replace h := ift h hc
      refine lv_iconst (v := (-1)) hx hb_ dX8_go_8 (by decide) ?_
      obtain rfl := Option.some.inj h
      have hK : ((-1), σ) = r0 := hK
      have hK1 := congrArg Prod.fst hK
      have hK2 := congrArg Prod.snd hK
      exact w_iret C hlk hr hP hK1 hK2 dX8_go_9
  exact bk r0 hf rfl _ _ hP
theorem hd_X8_takeOut : yX8_takeOut.cls = RX8 ∧ yX8_takeOut.cls ≠ "java/lang/invoke/MethodHandle" ∧ yX8_takeOut.cls ≠ "java/lang/invoke/VarHandle" ∧ (parseMethodDescriptor yX8_takeOut.desc).map (fun d => d.parameters.length) = some 1 := by decide +kernel
set_option maxHeartbeats 4000000 in
set_option maxRecDepth 100000 in
theorem c_X8_takeOut (l : Launch) (D : va_G) (aI aL : ClassId) (ad : Nat → Nat) (inj : Inj ad 42) (sz : Nat) (σ : Sg) (v1 : Int32) (r0 : (Int32 × Sg)) (hf : f_X8_takeOut v1 σ = some r0) : Met l yX8_takeOut (wS yX8_takeOut cX8_takeOut 2 (some .int)) (RM 4 87) (Pw D aI aL 42 shX ad sz σ [.ref (ad 0), .int v1]) (Qi D aI aL 42 shX ad r0.1 r0.2 sz) 0 0 (AA ad 42 sz) := by
  refine Mof (Qc := Qi D aI aL 42 shX ad r0.1 r0.2) (by decide) inj (Nat.le_of_ble_eq_true rfl) ?_
  intro p e s m args below meth c ls C hlk hr hP hl
  have hx := C.1.1
  have hb_ := C.1.2.1
  have hown := C.1.2.2.2.1
  have hts := C.1.2.2.2.2
  have hl : lv_has ls 2 [(0, .ref (ad 0)), (1, .int v1)] := hl
  have bk_49 : ∀ (t1_49 : Int32) (t2_49 : Int32) (s_49 : Sg) (y : (Int32 × Sg)), f_X8_takeOut_49 v1 t1_49 t2_49 s_49 = some y → (fun y => y = r0) y → ∀ (H : Heap) (locs : List Loc) (ls : Array Slot), HS D aI aL 42 shX ad s_49 s H locs → lv_has ls 2 [(0, .ref (ad 0)), (1, .int v1)] → W p l e (RM 4 87) s m args below meth c H locs 0 0 (MQ below (Qi D aI aL 42 shX ad r0.1 r0.2 s.heap.size) args s 0 0 (AA ad 42 s.heap.size)) (F0 m 49 ls [.int t2_49, .int t1_49, .ref (ad 33)]) := by
    intro t1_49 t2_49 s_49 y h hK H locs ls hP hl
    unfold f_X8_takeOut_49 at h
    obtain ⟨q5, hq5, h⟩ := bnd h
    refine w_cv (w_rV (As := [.int t1_49, .int t2_49]) (rest := []) C hP (k := 33) (c_X2_noteOut l D aI aL ad inj _ s_49 t1_49 t2_49 q5 hq5) (gV wt470 wt471 wt472 wt5 wt473) 2 hd_X2_noteOut ⟨Nat.le_of_ble_eq_true rfl, Nat.le_of_ble_eq_true rfl⟩ (by decide) 1 rfl rfl rfl hl.1 rfl (Nat.le_of_ble_eq_true rfl) dX8_takeOut_49) hP (fun H locs hP => ?_)
    refine lv_aload_n hx hb_ dX8_takeOut_52 rfl (lv_at hl 0 rfl) ?_
    refine w_get C hP (k := 0) (by decide) 6 rfl rfl inWX8 3 (by decide) wt287 (v := .ref (ad 12)) rfl dX8_takeOut_53 ?_
    refine lv_iload_n hx hb_ dX8_takeOut_56 rfl (lv_at hl 1 rfl) ?_
    obtain ⟨q6, hq6, h⟩ := bnd h
    refine w_cv (w_rV (As := [.int v1]) (rest := []) C hP (k := 12) (c_X1_removeSlab l D aI aL ad inj _ q5 12 fl12 v1 q6 hq6) (gV wt474 wt475 wt476 wt4 wt477) 1 hd_X1_removeSlab ⟨Nat.le_of_ble_eq_true rfl, Nat.le_of_ble_eq_true rfl⟩ (by decide) 0 rfl rfl rfl hl.1 rfl (Nat.le_of_ble_eq_true rfl) dX8_takeOut_57) hP (fun H locs hP => ?_)
    refine lv_aload_n hx hb_ dX8_takeOut_60 rfl (lv_at hl 0 rfl) ?_
    refine w_get C hP (k := 0) (by decide) 6 rfl rfl inWX8 3 (by decide) wt287 (v := .ref (ad 12)) rfl dX8_takeOut_61 ?_
    obtain ⟨q7, hq7, h⟩ := bnd h
    refine w_ci (w_rV (As := []) (rest := []) C hP (k := 12) (c_X1_there l D aI aL ad inj _ q6 12 fl12 q7 hq7) (gV wt372 wt373 wt374 wt4 wt375) 0 hd_X1_there ⟨Nat.le_of_ble_eq_true rfl, Nat.le_of_ble_eq_true rfl⟩ (by decide) 0 rfl rfl rfl hl.1 rfl (Nat.le_of_ble_eq_true rfl) dX8_takeOut_64) hP (fun H locs hP => ?_)
    obtain ⟨q8, hq8, h⟩ := bnd h
    refine w_ci (w_rS (As := [.int q7]) (rest := []) C hP (c_J6_bitCount_0f7a4 l D aI aL ad inj _ q6 q7 q8 hq8) wt453 wt454 wt13 wt455 1 hd_J6_bitCount_0f7a4 ⟨Nat.le_of_ble_eq_true rfl, Nat.le_of_ble_eq_true rfl⟩ rfl hl.1 rfl (Nat.le_of_ble_eq_true rfl) dX8_takeOut_67) hP (fun H locs hP => ?_)
    obtain rfl := Option.some.inj h
    have hK : (q8, q6) = r0 := hK
    have hK1 := congrArg Prod.fst hK
    have hK2 := congrArg Prod.snd hK
    exact w_iret C hlk hr hP hK1 hK2 dX8_takeOut_70
  have bk : ∀ (y : (Int32 × Sg)), f_X8_takeOut v1 σ = some y → y = r0 → ∀ (H : Heap) (locs : List Loc), HS D aI aL 42 shX ad σ s H locs → W p l e (RM 4 87) s m args below meth c H locs 0 0 (MQ below (Qi D aI aL 42 shX ad r0.1 r0.2 s.heap.size) args s 0 0 (AA ad 42 s.heap.size)) (F0 m 0 ls []) := by
    intro y h hK H locs hP
    unfold f_X8_takeOut at h
    refine lv_aload_n hx hb_ dX8_takeOut_0 rfl (lv_at hl 0 rfl) ?_
    refine lv_iload_n hx hb_ dX8_takeOut_1 rfl (lv_at hl 1 rfl) ?_
    obtain ⟨q1, hq1, h⟩ := bnd h
    refine w_ci (w_rV (As := [.int v1]) (rest := []) C hP (k := 0) (c_X8_isStone l D aI aL ad inj _ σ v1 q1 hq1) (gV wt367 wt369 wp3 wt1 wt370) 1 hd_X8_isStone ⟨Nat.le_of_ble_eq_true rfl, Nat.le_of_ble_eq_true rfl⟩ (by decide) 6 rfl rfl rfl hl.1 rfl (Nat.le_of_ble_eq_true rfl) dX8_takeOut_2) hP (fun H locs hP => ?_)
    refine lv_if_ne (tgt := 10) hx hb_ dX8_takeOut_5 (by decide) (fun hc => ?_) (fun hc => ?_)
    · replace h := iff' h hc
      refine lv_aload_n hx hb_ dX8_takeOut_10 rfl (lv_at hl 0 rfl) ?_
      refine w_get C hP (k := 0) (by decide) 6 rfl rfl inWX8 3 (by decide) wt287 (v := .ref (ad 12)) rfl dX8_takeOut_11 ?_
      refine lv_iload_n hx hb_ dX8_takeOut_14 rfl (lv_at hl 1 rfl) ?_
      obtain ⟨q2, hq2, h⟩ := bnd h
      refine w_ci (w_rV (As := [.int v1]) (rest := []) C hP (k := 12) (c_X1_isThere l D aI aL ad inj _ σ 12 fl12 v1 q2 hq2) (gV wt463 wt464 wt465 wt4 wt466) 1 hd_X1_isThere ⟨Nat.le_of_ble_eq_true rfl, Nat.le_of_ble_eq_true rfl⟩ (by decide) 0 rfl rfl rfl hl.1 rfl (Nat.le_of_ble_eq_true rfl) dX8_takeOut_15) hP (fun H locs hP => ?_)
      refine lv_if_ne (tgt := 24) hx hb_ dX8_takeOut_18 (by decide) (fun hc => ?_) (fun hc => ?_)
      · replace h := iff' h hc
        refine lv_aload_n hx hb_ dX8_takeOut_24 rfl (lv_at hl 0 rfl) ?_
        refine w_get C hP (k := 0) (by decide) 6 rfl rfl inWX8 6 (by decide) wt290 (v := .ref (ad 33)) rfl dX8_takeOut_25 ?_
        refine lv_iload_n hx hb_ dX8_takeOut_28 rfl (lv_at hl 1 rfl) ?_
        refine lv_aload_n hx hb_ dX8_takeOut_29 rfl (lv_at hl 0 rfl) ?_
        refine w_get C hP (k := 0) (by decide) 6 rfl rfl inWX8 3 (by decide) wt287 (v := .ref (ad 12)) rfl dX8_takeOut_30 ?_
        obtain ⟨q3, hq3, h⟩ := bnd h
        refine w_ci (w_rV (As := []) (rest := [.int v1, .ref (ad 33)]) C hP (k := 12) (c_X1_stood l D aI aL ad inj _ σ 12 fl12 q3 hq3) (gV wt379 wt380 wt381 wt4 wt382) 0 hd_X1_stood ⟨Nat.le_of_ble_eq_true rfl, Nat.le_of_ble_eq_true rfl⟩ (by decide) 0 rfl rfl rfl hl.1 rfl (Nat.le_of_ble_eq_true rfl) dX8_takeOut_33) hP (fun H locs hP => ?_)
        refine lv_iload_n hx hb_ dX8_takeOut_36 rfl (lv_at hl 1 rfl) ?_
        obtain ⟨q4, hq4, h⟩ := bnd h
        refine w_ci (w_rS (As := [.int q3, .int v1]) (rest := [.int v1, .ref (ad 33)]) C hP (c_X8_bitOf l D aI aL ad inj _ σ q3 v1 q4 hq4) wt376 wt377 wt1 wt378 2 hd_X8_bitOf ⟨Nat.le_of_ble_eq_true rfl, Nat.le_of_ble_eq_true rfl⟩ rfl hl.1 rfl (Nat.le_of_ble_eq_true rfl) dX8_takeOut_37) hP (fun H locs hP => ?_)
        refine lv_iconst (v := 1) hx hb_ dX8_takeOut_40 (by decide) ?_
        refine lv_icmp_ne (tgt := 48) hx hb_ dX8_takeOut_41 (by decide) (fun hc => ?_) (fun hc => ?_)
        · replace h := iff' h hc
          refine lv_iconst (v := 0) hx hb_ dX8_takeOut_48 (by decide) ?_
          exact bk_49 v1 0 σ y h hK _ _ _ hP (lv_sub hl [0, 1] rfl)
        · replace h := ift h hc
          refine lv_iconst (v := 1) hx hb_ dX8_takeOut_44 (by decide) ?_
          refine lv_goto (tgt := 49) hx hb_ dX8_takeOut_45 (by decide) ?_
          exact bk_49 v1 1 σ y h hK _ _ _ hP (lv_sub hl [0, 1] rfl)
      · replace h := ift h hc
        refine lv_bipush (v := (-2)) hx hb_ dX8_takeOut_21 (by decide) ?_
        obtain rfl := Option.some.inj h
        have hK : ((-2), σ) = r0 := hK
        have hK1 := congrArg Prod.fst hK
        have hK2 := congrArg Prod.snd hK
        exact w_iret C hlk hr hP hK1 hK2 dX8_takeOut_23
    · replace h := ift h hc
      refine lv_iconst (v := (-1)) hx hb_ dX8_takeOut_8 (by decide) ?_
      obtain rfl := Option.some.inj h
      have hK : ((-1), σ) = r0 := hK
      have hK1 := congrArg Prod.fst hK
      have hK2 := congrArg Prod.snd hK
      exact w_iret C hlk hr hP hK1 hK2 dX8_takeOut_9
  exact bk r0 hf rfl _ _ hP
theorem hd_X8_lay : yX8_lay.cls = RX8 ∧ yX8_lay.cls ≠ "java/lang/invoke/MethodHandle" ∧ yX8_lay.cls ≠ "java/lang/invoke/VarHandle" ∧ (parseMethodDescriptor yX8_lay.desc).map (fun d => d.parameters.length) = some 3 := by decide +kernel
set_option maxHeartbeats 4000000 in
set_option maxRecDepth 100000 in
theorem c_X8_lay (l : Launch) (D : va_G) (aI aL : ClassId) (ad : Nat → Nat) (inj : Inj ad 42) (sz : Nat) (σ : Sg) (v1 : Int32) (v2 : Int32) (v3 : Int32) (r0 : (Int32 × Sg)) (hf : f_X8_lay v1 v2 v3 σ = some r0) : Met l yX8_lay (wS yX8_lay cX8_lay 4 (some .int)) (RM 4 85) (Pw D aI aL 42 shX ad sz σ [.ref (ad 0), .int v1, .int v2, .int v3]) (Qi D aI aL 42 shX ad r0.1 r0.2 sz) 0 0 (AA ad 42 sz) := by
  refine Mof (Qc := Qi D aI aL 42 shX ad r0.1 r0.2) (by decide) inj (Nat.le_of_ble_eq_true rfl) ?_
  intro p e s m args below meth c ls C hlk hr hP hl
  have hx := C.1.1
  have hb_ := C.1.2.1
  have hown := C.1.2.2.2.1
  have hts := C.1.2.2.2.2
  have hl : lv_has ls 4 [(0, .ref (ad 0)), (1, .int v1), (2, .int v2), (3, .int v3)] := hl
  have bk : ∀ (y : (Int32 × Sg)), f_X8_lay v1 v2 v3 σ = some y → y = r0 → ∀ (H : Heap) (locs : List Loc), HS D aI aL 42 shX ad σ s H locs → W p l e (RM 4 85) s m args below meth c H locs 0 0 (MQ below (Qi D aI aL 42 shX ad r0.1 r0.2 s.heap.size) args s 0 0 (AA ad 42 s.heap.size)) (F0 m 0 ls []) := by
    intro y h hK H locs hP
    unfold f_X8_lay at h
    refine lv_aload_n hx hb_ dX8_lay_0 rfl (lv_at hl 0 rfl) ?_
    refine w_get C hP (k := 0) (by decide) 6 rfl rfl inWX8 3 (by decide) wt287 (v := .ref (ad 12)) rfl dX8_lay_1 ?_
    refine lv_iload_n hx hb_ dX8_lay_4 rfl (lv_at hl 1 rfl) ?_
    refine lv_iload_n hx hb_ dX8_lay_5 rfl (lv_at hl 2 rfl) ?_
    refine lv_iload_n hx hb_ dX8_lay_6 rfl (lv_at hl 3 rfl) ?_
    obtain ⟨q1, hq1, h⟩ := bnd h
    refine w_ci (w_rV (As := [.int v1, .int v2, .int v3]) (rest := []) C hP (k := 12) (c_X1_couldBeStep l D aI aL ad inj _ σ 12 fl12 v1 v2 v3 q1 hq1) (gV wt482 wt259 wt260 wt4 wt261) 3 hd_X1_couldBeStep ⟨Nat.le_of_ble_eq_true rfl, Nat.le_of_ble_eq_true rfl⟩ (by decide) 0 rfl rfl rfl hl.1 rfl (Nat.le_of_ble_eq_true rfl) dX8_lay_7) hP (fun H locs hP => ?_)
    refine lv_if_ne (tgt := 15) hx hb_ dX8_lay_10 (by decide) (fun hc => ?_) (fun hc => ?_)
    · replace h := iff' h hc
      refine lv_aload_n hx hb_ dX8_lay_15 rfl (lv_at hl 0 rfl) ?_
      refine w_get C hP (k := 0) (by decide) 6 rfl rfl inWX8 3 (by decide) wt287 (v := .ref (ad 12)) rfl dX8_lay_16 ?_
      obtain ⟨q2, hq2, h⟩ := bnd h
      refine w_ci (w_rV (As := []) (rest := []) C hP (k := 12) (c_X1_stepCount l D aI aL ad inj _ σ 12 fl12 q2 hq2) (gV wt340 wt341 wt342 wt4 wt343) 0 hd_X1_stepCount ⟨Nat.le_of_ble_eq_true rfl, Nat.le_of_ble_eq_true rfl⟩ (by decide) 0 rfl rfl rfl hl.1 rfl (Nat.le_of_ble_eq_true rfl) dX8_lay_19) hP (fun H locs hP => ?_)
      refine lv_bipush (v := 10) hx hb_ dX8_lay_22 (by decide) ?_
      refine lv_icmp_lt (tgt := 30) hx hb_ dX8_lay_24 (by decide) (fun hc => ?_) (fun hc => ?_)
      · replace h := ift h hc
        refine lv_aload_n hx hb_ dX8_lay_30 rfl (lv_at hl 0 rfl) ?_
        refine w_get C hP (k := 0) (by decide) 6 rfl rfl inWX8 3 (by decide) wt287 (v := .ref (ad 12)) rfl dX8_lay_31 ?_
        refine lv_iload_n hx hb_ dX8_lay_34 rfl (lv_at hl 1 rfl) ?_
        refine lv_iload_n hx hb_ dX8_lay_35 rfl (lv_at hl 2 rfl) ?_
        refine lv_iload_n hx hb_ dX8_lay_36 rfl (lv_at hl 3 rfl) ?_
        obtain ⟨q3, hq3, h⟩ := bnd h
        refine w_ci (w_rV (As := [.int v1, .int v2, .int v3]) (rest := []) C hP (k := 12) (c_X1_addStep l D aI aL ad inj _ σ 12 fl12 v1 v2 v3 q3 hq3) (gV wt483 wt255 wt256 wt4 wt257) 3 hd_X1_addStep ⟨Nat.le_of_ble_eq_true rfl, Nat.le_of_ble_eq_true rfl⟩ (by decide) 0 rfl rfl rfl hl.1 rfl (Nat.le_of_ble_eq_true rfl) dX8_lay_37) hP (fun H locs hP => ?_)
        refine lv_pop hx hb_ dX8_lay_40 rfl ?_
        refine lv_aload_n hx hb_ dX8_lay_41 rfl (lv_at hl 0 rfl) ?_
        refine w_get C hP (k := 0) (by decide) 6 rfl rfl inWX8 6 (by decide) wt290 (v := .ref (ad 33)) rfl dX8_lay_42 ?_
        obtain ⟨q4, hq4, h⟩ := bnd h
        refine w_cv (w_rV (As := []) (rest := []) C hP (k := 33) (c_X2_noteLaid l D aI aL ad inj _ q3.2 q4 hq4) (gV wt484 wt485 wt486 wt5 wt487) 0 hd_X2_noteLaid ⟨Nat.le_of_ble_eq_true rfl, Nat.le_of_ble_eq_true rfl⟩ (by decide) 1 rfl rfl rfl hl.1 rfl (Nat.le_of_ble_eq_true rfl) dX8_lay_45) hP (fun H locs hP => ?_)
        refine lv_aload_n hx hb_ dX8_lay_48 rfl (lv_at hl 0 rfl) ?_
        refine w_get C hP (k := 0) (by decide) 6 rfl rfl inWX8 3 (by decide) wt287 (v := .ref (ad 12)) rfl dX8_lay_49 ?_
        obtain ⟨q5, hq5, h⟩ := bnd h
        refine w_ci (w_rV (As := []) (rest := []) C hP (k := 12) (c_X1_stepCount l D aI aL ad inj _ q4 12 fl12 q5 hq5) (gV wt340 wt341 wt342 wt4 wt343) 0 hd_X1_stepCount ⟨Nat.le_of_ble_eq_true rfl, Nat.le_of_ble_eq_true rfl⟩ (by decide) 0 rfl rfl rfl hl.1 rfl (Nat.le_of_ble_eq_true rfl) dX8_lay_52) hP (fun H locs hP => ?_)
        refine lv_iconst (v := 1) hx hb_ dX8_lay_55 (by decide) ?_
        refine lv_isub hx hb_ dX8_lay_56 ?_
        obtain rfl := Option.some.inj h
        have hK : ((q5 - (1 : Int32)), q4) = r0 := hK
        have hK1 := congrArg Prod.fst hK
        have hK2 := congrArg Prod.snd hK
        exact w_iret C hlk hr hP hK1 hK2 dX8_lay_57
      · replace h := iff' h hc
        refine lv_bipush (v := (-3)) hx hb_ dX8_lay_27 (by decide) ?_
        obtain rfl := Option.some.inj h
        have hK : ((-3), σ) = r0 := hK
        have hK1 := congrArg Prod.fst hK
        have hK2 := congrArg Prod.snd hK
        exact w_iret C hlk hr hP hK1 hK2 dX8_lay_29
    · replace h := ift h hc
      refine lv_iconst (v := (-1)) hx hb_ dX8_lay_13 (by decide) ?_
      obtain rfl := Option.some.inj h
      have hK : ((-1), σ) = r0 := hK
      have hK1 := congrArg Prod.fst hK
      have hK2 := congrArg Prod.snd hK
      exact w_iret C hlk hr hP hK1 hK2 dX8_lay_14
  exact bk r0 hf rfl _ _ hP
theorem hd_X8_undo : yX8_undo.cls = RX8 ∧ yX8_undo.cls ≠ "java/lang/invoke/MethodHandle" ∧ yX8_undo.cls ≠ "java/lang/invoke/VarHandle" ∧ (parseMethodDescriptor yX8_undo.desc).map (fun d => d.parameters.length) = some 0 := by decide +kernel
set_option maxHeartbeats 4000000 in
set_option maxRecDepth 100000 in
theorem c_X8_undo (l : Launch) (D : va_G) (aI aL : ClassId) (ad : Nat → Nat) (inj : Inj ad 42) (sz : Nat) (σ : Sg) (r0 : (Int32 × Sg)) (hf : f_X8_undo σ = some r0) : Met l yX8_undo (wS yX8_undo cX8_undo 1 (some .int)) (RM 3 66) (Pw D aI aL 42 shX ad sz σ [.ref (ad 0)]) (Qi D aI aL 42 shX ad r0.1 r0.2 sz) 0 0 (AA ad 42 sz) := by
  refine Mof (Qc := Qi D aI aL 42 shX ad r0.1 r0.2) (by decide) inj (Nat.le_of_ble_eq_true rfl) ?_
  intro p e s m args below meth c ls C hlk hr hP hl
  have hx := C.1.1
  have hb_ := C.1.2.1
  have hown := C.1.2.2.2.1
  have hts := C.1.2.2.2.2
  have hl : lv_has ls 1 [(0, .ref (ad 0))] := hl
  have bk : ∀ (y : (Int32 × Sg)), f_X8_undo σ = some y → y = r0 → ∀ (H : Heap) (locs : List Loc), HS D aI aL 42 shX ad σ s H locs → W p l e (RM 3 66) s m args below meth c H locs 0 0 (MQ below (Qi D aI aL 42 shX ad r0.1 r0.2 s.heap.size) args s 0 0 (AA ad 42 s.heap.size)) (F0 m 0 ls []) := by
    intro y h hK H locs hP
    unfold f_X8_undo at h
    refine lv_aload_n hx hb_ dX8_undo_0 rfl (lv_at hl 0 rfl) ?_
    refine w_get C hP (k := 0) (by decide) 6 rfl rfl inWX8 6 (by decide) wt290 (v := .ref (ad 33)) rfl dX8_undo_1 ?_
    obtain ⟨q1, hq1, h⟩ := bnd h
    refine w_ci (w_rV (As := []) (rest := []) C hP (k := 33) (c_X2_size l D aI aL ad inj _ σ q1 hq1) (gV wt492 wt493 wt494 wt5 wt495) 0 hd_X2_size ⟨Nat.le_of_ble_eq_true rfl, Nat.le_of_ble_eq_true rfl⟩ (by decide) 1 rfl rfl rfl hl.1 rfl (Nat.le_of_ble_eq_true rfl) dX8_undo_4) hP (fun H locs hP => ?_)
    refine lv_if_ne (tgt := 13) hx hb_ dX8_undo_7 (by decide) (fun hc => ?_) (fun hc => ?_)
    · replace h := iff' h hc
      refine lv_aload_n hx hb_ dX8_undo_13 rfl (lv_at hl 0 rfl) ?_
      refine w_get C hP (k := 0) (by decide) 6 rfl rfl inWX8 6 (by decide) wt290 (v := .ref (ad 33)) rfl dX8_undo_14 ?_
      refine lv_aload_n hx hb_ dX8_undo_17 rfl (lv_at hl 0 rfl) ?_
      refine w_get C hP (k := 0) (by decide) 6 rfl rfl inWX8 3 (by decide) wt287 (v := .ref (ad 12)) rfl dX8_undo_18 ?_
      obtain ⟨q2, hq2, h⟩ := bnd h
      refine w_cv (w_rV (As := [.ref (ad 12)]) (rest := []) C hP (k := 33) (c_X2_takeBackLatest l D aI aL ad inj _ σ q2 hq2) (gV wt496 wt497 wt498 wt5 wt499) 1 hd_X2_takeBackLatest ⟨Nat.le_of_ble_eq_true rfl, Nat.le_of_ble_eq_true rfl⟩ (by decide) 1 rfl rfl rfl hl.1 rfl (Nat.le_of_ble_eq_true rfl) dX8_undo_21) hP (fun H locs hP => ?_)
      refine lv_aload_n hx hb_ dX8_undo_24 rfl (lv_at hl 0 rfl) ?_
      refine lv_iconst (v := 0) hx hb_ dX8_undo_25 (by decide) ?_
      obtain ⟨s3, hs3, h⟩ := bnd h
      refine w_puti C hP (k := 0) (by decide) 6 rfl rfl inWX8 tyX8 tyX8_ok nmX8 10 (by decide) wt294 rfl rfl rfl rfl hs3 dX8_undo_26 (fun H locs hP => ?_)
      refine lv_aload_n hx hb_ dX8_undo_29 rfl (lv_at hl 0 rfl) ?_
      refine w_get C hP (k := 0) (by decide) 6 rfl rfl inWX8 6 (by decide) wt290 (v := .ref (ad 33)) rfl dX8_undo_30 ?_
      obtain ⟨q4, hq4, h⟩ := bnd h
      refine w_ci (w_rV (As := []) (rest := []) C hP (k := 33) (c_X2_size l D aI aL ad inj _ s3 q4 hq4) (gV wt492 wt493 wt494 wt5 wt495) 0 hd_X2_size ⟨Nat.le_of_ble_eq_true rfl, Nat.le_of_ble_eq_true rfl⟩ (by decide) 1 rfl rfl rfl hl.1 rfl (Nat.le_of_ble_eq_true rfl) dX8_undo_33) hP (fun H locs hP => ?_)
      obtain rfl := Option.some.inj h
      have hK : (q4, s3) = r0 := hK
      have hK1 := congrArg Prod.fst hK
      have hK2 := congrArg Prod.snd hK
      exact w_iret C hlk hr hP hK1 hK2 dX8_undo_36
    · replace h := ift h hc
      refine lv_bipush (v := (-2)) hx hb_ dX8_undo_10 (by decide) ?_
      obtain rfl := Option.some.inj h
      have hK : ((-2), σ) = r0 := hK
      have hK1 := congrArg Prod.fst hK
      have hK2 := congrArg Prod.snd hK
      exact w_iret C hlk hr hP hK1 hK2 dX8_undo_12
  exact bk r0 hf rfl _ _ hP
theorem hd_X8_isSetOfStones : yX8_isSetOfStones.cls = RX8 ∧ yX8_isSetOfStones.cls ≠ "java/lang/invoke/MethodHandle" ∧ yX8_isSetOfStones.cls ≠ "java/lang/invoke/VarHandle" ∧ (parseMethodDescriptor yX8_isSetOfStones.desc).map (fun d => d.parameters.length) = some 1 := by decide +kernel
set_option maxHeartbeats 4000000 in
set_option maxRecDepth 100000 in
theorem c_X8_isSetOfStones (l : Launch) (D : va_G) (aI aL : ClassId) (ad : Nat → Nat) (inj : Inj ad 42) (sz : Nat) (σ : Sg) (v1 : Int32) (r0 : Int32) (hf : f_X8_isSetOfStones v1 σ = some r0) : Met l yX8_isSetOfStones (wS yX8_isSetOfStones cX8_isSetOfStones 2 (some .boolean)) (RM 1 20) (Pw D aI aL 42 shX ad sz σ [.ref (ad 0), .int v1]) (Qi D aI aL 42 shX ad r0 σ sz) 0 0 (AA ad 42 sz) := by
  refine Mof (Qc := Qi D aI aL 42 shX ad r0 σ) (by decide) inj (Nat.le_of_ble_eq_true rfl) ?_
  intro p e s m args below meth c ls C hlk hr hP hl
  have hx := C.1.1
  have hb_ := C.1.2.1
  have hown := C.1.2.2.2.1
  have hts := C.1.2.2.2.2
  have hl : lv_has ls 2 [(0, .ref (ad 0)), (1, .int v1)] := hl
  have bk_20 : ∀ (t0_20 : Int32) (y : Int32), f_X8_isSetOfStones_20 t0_20 σ = some y → (fun y => y = r0) y → ∀ (H : Heap) (locs : List Loc) (ls : Array Slot), HS D aI aL 42 shX ad σ s H locs → lv_has ls 2 [] → W p l e (RM 1 20) s m args below meth c H locs 0 0 (MQ below (Qi D aI aL 42 shX ad r0 σ s.heap.size) args s 0 0 (AA ad 42 s.heap.size)) (F0 m 20 ls [.int t0_20]) := by
    intro t0_20 y h hK H locs ls hP hl
    unfold f_X8_isSetOfStones_20 at h
    obtain ⟨x1, hx1, h⟩ := bnd h
    obtain rfl := Option.some.inj h
    have hK : (x1 : Int32) = r0 := hK
    exact w_zret C hlk hr hP hx1 hK rfl dX8_isSetOfStones_20
  have bk_19 : ∀ (y : Int32), f_X8_isSetOfStones_19 σ = some y → (fun y => y = r0) y → ∀ (H : Heap) (locs : List Loc) (ls : Array Slot), HS D aI aL 42 shX ad σ s H locs → lv_has ls 2 [] → W p l e (RM 1 20) s m args below meth c H locs 0 0 (MQ below (Qi D aI aL 42 shX ad r0 σ s.heap.size) args s 0 0 (AA ad 42 s.heap.size)) (F0 m 19 ls []) := by
    intro y h hK H locs ls hP hl
    unfold f_X8_isSetOfStones_19 at h
    refine lv_iconst (v := 0) hx hb_ dX8_isSetOfStones_19 (by decide) ?_
    exact bk_20 0 y h hK _ _ _ hP (lv_sub hl [] rfl)
  have bk : ∀ (y : Int32), f_X8_isSetOfStones v1 σ = some y → y = r0 → ∀ (H : Heap) (locs : List Loc), HS D aI aL 42 shX ad σ s H locs → W p l e (RM 1 20) s m args below meth c H locs 0 0 (MQ below (Qi D aI aL 42 shX ad r0 σ s.heap.size) args s 0 0 (AA ad 42 s.heap.size)) (F0 m 0 ls []) := by
    intro y h hK H locs hP
    unfold f_X8_isSetOfStones at h
    refine lv_iload_n hx hb_ dX8_isSetOfStones_0 rfl (lv_at hl 1 rfl) ?_
    refine lv_if_lt (tgt := 19) hx hb_ dX8_isSetOfStones_1 (by decide) (fun hc => ?_) (fun hc => ?_)
    · replace h := ift h hc
      exact bk_19 y h hK _ _ _ hP (lv_sub hl [] rfl)
    · replace h := iff' h hc
      refine lv_iload_n hx hb_ dX8_isSetOfStones_4 rfl (lv_at hl 1 rfl) ?_
      refine lv_aload_n hx hb_ dX8_isSetOfStones_5 rfl (lv_at hl 0 rfl) ?_
      refine w_get C hP (k := 0) (by decide) 6 rfl rfl inWX8 3 (by decide) wt287 (v := .ref (ad 12)) rfl dX8_isSetOfStones_6 ?_
      obtain ⟨q2, hq2, h⟩ := bnd h
      refine w_ci (w_rV (As := []) (rest := [.int v1]) C hP (k := 12) (c_X1_allStones l D aI aL ad inj _ σ 12 fl12 q2 hq2) (gV wt520 wt209 wt210 wt4 wt211) 0 hd_X1_allStones ⟨Nat.le_of_ble_eq_true rfl, Nat.le_of_ble_eq_true rfl⟩ (by decide) 0 rfl rfl rfl hl.1 rfl (Nat.le_of_ble_eq_true rfl) dX8_isSetOfStones_9) hP (fun H locs hP => ?_)
      refine lv_icmp_gt (tgt := 19) hx hb_ dX8_isSetOfStones_12 (by decide) (fun hc => ?_) (fun hc => ?_)
      · replace h := ift h hc
        exact bk_19 y h hK _ _ _ hP (lv_sub hl [] rfl)
      · replace h := iff' h hc
        refine lv_iconst (v := 1) hx hb_ dX8_isSetOfStones_15 (by decide) ?_
        refine lv_goto (tgt := 20) hx hb_ dX8_isSetOfStones_16 (by decide) ?_
        exact bk_20 1 y h hK _ _ _ hP (lv_sub hl [] rfl)
  exact bk r0 hf rfl _ _ hP
theorem hd_X8_reach : yX8_reach.cls = RX8 ∧ yX8_reach.cls ≠ "java/lang/invoke/MethodHandle" ∧ yX8_reach.cls ≠ "java/lang/invoke/VarHandle" ∧ (parseMethodDescriptor yX8_reach.desc).map (fun d => d.parameters.length) = some 1 := by decide +kernel
set_option maxHeartbeats 4000000 in
set_option maxRecDepth 100000 in
theorem c_X8_reach (l : Launch) (D : va_G) (aI aL : ClassId) (ad : Nat → Nat) (inj : Inj ad 42) (sz : Nat) (σ : Sg) (v1 : Int32) (r0 : Int32) (hf : f_X8_reach v1 σ = some r0) : Met l yX8_reach (wS yX8_reach cX8_reach 2 (some .int)) (RM 4 93) (Pw D aI aL 42 shX ad sz σ [.ref (ad 0), .int v1]) (Qi D aI aL 42 shX ad r0 σ sz) 0 0 (AA ad 42 sz) := by
  refine Mof (Qc := Qi D aI aL 42 shX ad r0 σ) (by decide) inj (Nat.le_of_ble_eq_true rfl) ?_
  intro p e s m args below meth c ls C hlk hr hP hl
  have hx := C.1.1
  have hb_ := C.1.2.1
  have hown := C.1.2.2.2.1
  have hts := C.1.2.2.2.2
  have hl : lv_has ls 2 [(0, .ref (ad 0)), (1, .int v1)] := hl
  have bk : ∀ (y : Int32), f_X8_reach v1 σ = some y → y = r0 → ∀ (H : Heap) (locs : List Loc), HS D aI aL 42 shX ad σ s H locs → W p l e (RM 4 93) s m args below meth c H locs 0 0 (MQ below (Qi D aI aL 42 shX ad r0 σ s.heap.size) args s 0 0 (AA ad 42 s.heap.size)) (F0 m 0 ls []) := by
    intro y h hK H locs hP
    unfold f_X8_reach at h
    refine lv_aload_n hx hb_ dX8_reach_0 rfl (lv_at hl 0 rfl) ?_
    refine lv_iload_n hx hb_ dX8_reach_1 rfl (lv_at hl 1 rfl) ?_
    obtain ⟨q1, hq1, h⟩ := bnd h
    refine w_ci (w_rV (As := [.int v1]) (rest := []) C hP (k := 0) (c_X8_isSetOfStones l D aI aL ad inj _ σ v1 q1 hq1) (gV wt516 wt518 wp8 wt1 wt519) 1 hd_X8_isSetOfStones ⟨Nat.le_of_ble_eq_true rfl, Nat.le_of_ble_eq_true rfl⟩ (by decide) 6 rfl rfl rfl hl.1 rfl (Nat.le_of_ble_eq_true rfl) dX8_reach_2) hP (fun H locs hP => ?_)
    refine lv_if_ne (tgt := 10) hx hb_ dX8_reach_5 (by decide) (fun hc => ?_) (fun hc => ?_)
    · replace h := iff' h hc
      refine lv_aload_n hx hb_ dX8_reach_10 rfl (lv_at hl 0 rfl) ?_
      refine w_get C hP (k := 0) (by decide) 6 rfl rfl inWX8 3 (by decide) wt287 (v := .ref (ad 12)) rfl dX8_reach_11 ?_
      refine lv_iload_n hx hb_ dX8_reach_14 rfl (lv_at hl 1 rfl) ?_
      obtain ⟨q2, hq2, h⟩ := bnd h
      refine w_ci (w_rV (As := [.int v1]) (rest := []) C hP (k := 12) (c_X1_reachOf l D aI aL ad inj _ σ 12 fl12 v1 q2 hq2) (gV wt521 wt522 wt523 wt4 wt524) 1 hd_X1_reachOf ⟨Nat.le_of_ble_eq_true rfl, Nat.le_of_ble_eq_true rfl⟩ (by decide) 0 rfl rfl rfl hl.1 rfl (Nat.le_of_ble_eq_true rfl) dX8_reach_15) hP (fun H locs hP => ?_)
      obtain rfl := Option.some.inj h
      have hK : (q2 : Int32) = r0 := hK
      exact w_iret C hlk hr hP hK rfl dX8_reach_18
    · replace h := ift h hc
      refine lv_iconst (v := (-1)) hx hb_ dX8_reach_8 (by decide) ?_
      obtain rfl := Option.some.inj h
      have hK : ((-1) : Int32) = r0 := hK
      exact w_iret C hlk hr hP hK rfl dX8_reach_9
  exact bk r0 hf rfl _ _ hP
theorem hd_X8_walk : yX8_walk.cls = RX8 ∧ yX8_walk.cls ≠ "java/lang/invoke/MethodHandle" ∧ yX8_walk.cls ≠ "java/lang/invoke/VarHandle" ∧ (parseMethodDescriptor yX8_walk.desc).map (fun d => d.parameters.length) = some 2 := by decide +kernel
set_option maxHeartbeats 4000000 in
set_option maxRecDepth 100000 in
theorem c_X8_walk (l : Launch) (D : va_G) (aI aL : ClassId) (ad : Nat → Nat) (inj : Inj ad 42) (sz : Nat) (σ : Sg) (v1 : Int32) (v2 : Int32) (r0 : (Int64 × Sg)) (hf : f_X8_walk v1 v2 σ = some r0) : Met l yX8_walk (wS yX8_walk cX8_walk 3 (some .long)) (RM 5 119) (Pw D aI aL 42 shX ad sz σ [.ref (ad 0), .int v1, .int v2]) (Ql D aI aL 42 shX ad r0.1 r0.2 sz) 0 0 (AA ad 42 sz) := by
  refine Mof (Qc := Ql D aI aL 42 shX ad r0.1 r0.2) (by decide) inj (Nat.le_of_ble_eq_true rfl) ?_
  intro p e s m args below meth c ls C hlk hr hP hl
  have hx := C.1.1
  have hb_ := C.1.2.1
  have hown := C.1.2.2.2.1
  have hts := C.1.2.2.2.2
  have hl : lv_has ls 3 [(0, .ref (ad 0)), (1, .int v1), (2, .int v2)] := hl
  have bk_17 : ∀ (s_17 : Sg) (y : (Int64 × Sg)), f_X8_walk_17 s_17 = some y → (fun y => y = r0) y → ∀ (H : Heap) (locs : List Loc) (ls : Array Slot), HS D aI aL 42 shX ad s_17 s H locs → lv_has ls 3 [] → W p l e (RM 5 119) s m args below meth c H locs 0 0 (MQ below (Ql D aI aL 42 shX ad r0.1 r0.2 s.heap.size) args s 0 0 (AA ad 42 s.heap.size)) (F0 m 17 ls []) := by
    intro s_17 y h hK H locs ls hP hl
    unfold f_X8_walk_17 at h
    refine lv_ldc2 hx hb_ hown (hts _ wt533) dX8_walk_17 ?_
    obtain rfl := Option.some.inj h
    have hK : ((-1), s_17) = r0 := hK
    have hK1 := congrArg Prod.fst hK
    have hK2 := congrArg Prod.snd hK
    exact w_lret C hlk hr hP hK1 hK2 dX8_walk_20
  have bk : ∀ (y : (Int64 × Sg)), f_X8_walk v1 v2 σ = some y → y = r0 → ∀ (H : Heap) (locs : List Loc), HS D aI aL 42 shX ad σ s H locs → W p l e (RM 5 119) s m args below meth c H locs 0 0 (MQ below (Ql D aI aL 42 shX ad r0.1 r0.2 s.heap.size) args s 0 0 (AA ad 42 s.heap.size)) (F0 m 0 ls []) := by
    intro y h hK H locs hP
    unfold f_X8_walk at h
    refine lv_aload_n hx hb_ dX8_walk_0 rfl (lv_at hl 0 rfl) ?_
    refine lv_iload_n hx hb_ dX8_walk_1 rfl (lv_at hl 1 rfl) ?_
    obtain ⟨q1, hq1, h⟩ := bnd h
    refine w_ci (w_rV (As := [.int v1]) (rest := []) C hP (k := 0) (c_X8_isStone l D aI aL ad inj _ σ v1 q1 hq1) (gV wt367 wt369 wp3 wt1 wt370) 1 hd_X8_isStone ⟨Nat.le_of_ble_eq_true rfl, Nat.le_of_ble_eq_true rfl⟩ (by decide) 6 rfl rfl rfl hl.1 rfl (Nat.le_of_ble_eq_true rfl) dX8_walk_2) hP (fun H locs hP => ?_)
    refine lv_if_eq (tgt := 17) hx hb_ dX8_walk_5 (by decide) (fun hc => ?_) (fun hc => ?_)
    · replace h := ift h hc
      exact bk_17 σ y h hK _ _ _ hP (lv_sub hl [] rfl)
    · replace h := iff' h hc
      refine lv_iload_n hx hb_ dX8_walk_8 rfl (lv_at hl 2 rfl) ?_
      refine lv_if_lt (tgt := 17) hx hb_ dX8_walk_9 (by decide) (fun hc => ?_) (fun hc => ?_)
      · replace h := ift h hc
        exact bk_17 σ y h hK _ _ _ hP (lv_sub hl [] rfl)
      · replace h := iff' h hc
        refine lv_iload_n hx hb_ dX8_walk_12 rfl (lv_at hl 2 rfl) ?_
        refine lv_iconst (v := 2) hx hb_ dX8_walk_13 (by decide) ?_
        refine lv_icmp_le (tgt := 21) hx hb_ dX8_walk_14 (by decide) (fun hc => ?_) (fun hc => ?_)
        · replace h := ift h hc
          refine lv_aload_n hx hb_ dX8_walk_21 rfl (lv_at hl 0 rfl) ?_
          refine w_get C hP (k := 0) (by decide) 6 rfl rfl inWX8 7 (by decide) wt291 (v := .ref (ad 36)) rfl dX8_walk_22 ?_
          refine lv_aload_n hx hb_ dX8_walk_25 rfl (lv_at hl 0 rfl) ?_
          refine w_get C hP (k := 0) (by decide) 6 rfl rfl inWX8 3 (by decide) wt287 (v := .ref (ad 12)) rfl dX8_walk_26 ?_
          refine lv_iload_n hx hb_ dX8_walk_29 rfl (lv_at hl 1 rfl) ?_
          obtain ⟨q2, hq2, h⟩ := bnd h
          refine w_cv (w_rV (As := [.ref (ad 12), .int v1]) (rest := []) C hP (k := 36) (c_X7_measure l D aI aL ad inj _ σ v1 q2 hq2) (gV wt534 wt535 wt536 wt6 wt537) 2 hd_X7_measure ⟨Nat.le_of_ble_eq_true rfl, Nat.le_of_ble_eq_true rfl⟩ (by decide) 5 rfl rfl rfl hl.1 rfl (Nat.le_of_ble_eq_true rfl) dX8_walk_30) hP (fun H locs hP => ?_)
          refine lv_iload_n hx hb_ dX8_walk_33 rfl (lv_at hl 2 rfl) ?_
          by_cases hc0 : v2 = 0
          · replace h := ift h hc0
            refine lv_lookup (off := 26) (tgt := 60) hx hb_ dX8_walk_34 (by decide +kernel) (by rw [hc0]; decide +kernel) (by decide) ?_
            refine lv_aload_n hx hb_ dX8_walk_60 rfl (lv_at hl 0 rfl) ?_
            refine w_get C hP (k := 0) (by decide) 6 rfl rfl inWX8 7 (by decide) wt291 (v := .ref (ad 36)) rfl dX8_walk_61 ?_
            refine lv_aload_n hx hb_ dX8_walk_64 rfl (lv_at hl 0 rfl) ?_
            refine w_get C hP (k := 0) (by decide) 6 rfl rfl inWX8 3 (by decide) wt287 (v := .ref (ad 12)) rfl dX8_walk_65 ?_
            obtain ⟨q3, hq3, h⟩ := bnd h
            refine w_ci (w_rV (As := [.ref (ad 12)]) (rest := []) C hP (k := 36) (c_X7_fewestSteps l D aI aL ad inj _ q2 q3 hq3) (gV wt550 wt551 wt552 wt6 wt553) 1 hd_X7_fewestSteps ⟨Nat.le_of_ble_eq_true rfl, Nat.le_of_ble_eq_true rfl⟩ (by decide) 5 rfl rfl rfl hl.1 rfl (Nat.le_of_ble_eq_true rfl) dX8_walk_68) hP (fun H locs hP => ?_)
            refine lv_i2l hx hb_ dX8_walk_71 rfl ?_
            obtain rfl := Option.some.inj h
            have hK : (((q3 : Int32).toInt64), q2) = r0 := hK
            have hK1 := congrArg Prod.fst hK
            have hK2 := congrArg Prod.snd hK
            exact w_lret C hlk hr hP hK1 hK2 dX8_walk_72
          replace h := iff' h hc0
          by_cases hc1 : v2 = 1
          · replace h := ift h hc1
            refine lv_lookup (off := 39) (tgt := 73) hx hb_ dX8_walk_34 (by decide +kernel) (by rw [hc1]; decide +kernel) (by decide) ?_
            refine lv_aload_n hx hb_ dX8_walk_73 rfl (lv_at hl 0 rfl) ?_
            refine w_get C hP (k := 0) (by decide) 6 rfl rfl inWX8 7 (by decide) wt291 (v := .ref (ad 36)) rfl dX8_walk_74 ?_
            refine lv_aload_n hx hb_ dX8_walk_77 rfl (lv_at hl 0 rfl) ?_
            refine w_get C hP (k := 0) (by decide) 6 rfl rfl inWX8 3 (by decide) wt287 (v := .ref (ad 12)) rfl dX8_walk_78 ?_
            obtain ⟨q4, hq4, h⟩ := bnd h
            refine w_ci (w_rV (As := [.ref (ad 12)]) (rest := []) C hP (k := 36) (c_X7_lowestFirstStep l D aI aL ad inj _ q2 q4 hq4) (gV wt554 wt555 wt556 wt6 wt557) 1 hd_X7_lowestFirstStep ⟨Nat.le_of_ble_eq_true rfl, Nat.le_of_ble_eq_true rfl⟩ (by decide) 5 rfl rfl rfl hl.1 rfl (Nat.le_of_ble_eq_true rfl) dX8_walk_81) hP (fun H locs hP => ?_)
            refine lv_i2l hx hb_ dX8_walk_84 rfl ?_
            obtain rfl := Option.some.inj h
            have hK : (((q4 : Int32).toInt64), q2) = r0 := hK
            have hK1 := congrArg Prod.fst hK
            have hK2 := congrArg Prod.snd hK
            exact w_lret C hlk hr hP hK1 hK2 dX8_walk_85
          replace h := iff' h hc1
          refine lv_lookup (off := 52) (tgt := 86) hx hb_ dX8_walk_34 (by decide +kernel) ((by rw [lv_osw hc0 (by decide +kernel), lv_osw hc1 (by decide +kernel)]; rfl)) (by decide) ?_
          refine lv_aload_n hx hb_ dX8_walk_86 rfl (lv_at hl 0 rfl) ?_
          refine w_get C hP (k := 0) (by decide) 6 rfl rfl inWX8 7 (by decide) wt291 (v := .ref (ad 36)) rfl dX8_walk_87 ?_
          refine lv_aload_n hx hb_ dX8_walk_90 rfl (lv_at hl 0 rfl) ?_
          refine w_get C hP (k := 0) (by decide) 6 rfl rfl inWX8 3 (by decide) wt287 (v := .ref (ad 12)) rfl dX8_walk_91 ?_
          obtain ⟨q5, hq5, h⟩ := bnd h
          refine w_ci (w_rV (As := [.ref (ad 12)]) (rest := []) C hP (k := 36) (c_X7_howManyRows l D aI aL ad inj _ q2 q5 hq5) (gV wt559 wt560 wt561 wt6 wt562) 1 hd_X7_howManyRows ⟨Nat.le_of_ble_eq_true rfl, Nat.le_of_ble_eq_true rfl⟩ (by decide) 5 rfl rfl rfl hl.1 rfl (Nat.le_of_ble_eq_true rfl) dX8_walk_94) hP (fun H locs hP => ?_)
          refine lv_i2l hx hb_ dX8_walk_97 rfl ?_
          obtain rfl := Option.some.inj h
          have hK : (((q5 : Int32).toInt64), q2) = r0 := hK
          have hK1 := congrArg Prod.fst hK
          have hK2 := congrArg Prod.snd hK
          exact w_lret C hlk hr hP hK1 hK2 dX8_walk_98
        · replace h := iff' h hc
          exact bk_17 σ y h hK _ _ _ hP (lv_sub hl [] rfl)
  exact bk r0 hf rfl _ _ hP
theorem hd_X8_round : yX8_round.cls = RX8 ∧ yX8_round.cls ≠ "java/lang/invoke/MethodHandle" ∧ yX8_round.cls ≠ "java/lang/invoke/VarHandle" ∧ (parseMethodDescriptor yX8_round.desc).map (fun d => d.parameters.length) = some 1 := by decide +kernel
set_option maxHeartbeats 4000000 in
set_option maxRecDepth 100000 in
theorem c_X8_round (l : Launch) (D : va_G) (aI aL : ClassId) (ad : Nat → Nat) (inj : Inj ad 42) (sz : Nat) (σ : Sg) (v1 : Int32) (r0 : Int32) (hf : f_X8_round v1 σ = some r0) : Met l yX8_round (wS yX8_round cX8_round 2 (some .int)) (RM 5 113) (Pw D aI aL 42 shX ad sz σ [.ref (ad 0), .int v1]) (Qi D aI aL 42 shX ad r0 σ sz) 0 0 (AA ad 42 sz) := by
  refine Mof (Qc := Qi D aI aL 42 shX ad r0 σ) (by decide) inj (Nat.le_of_ble_eq_true rfl) ?_
  intro p e s m args below meth c ls C hlk hr hP hl
  have hx := C.1.1
  have hb_ := C.1.2.1
  have hown := C.1.2.2.2.1
  have hts := C.1.2.2.2.2
  have hl : lv_has ls 2 [(0, .ref (ad 0)), (1, .int v1)] := hl
  have bk : ∀ (y : Int32), f_X8_round v1 σ = some y → y = r0 → ∀ (H : Heap) (locs : List Loc), HS D aI aL 42 shX ad σ s H locs → W p l e (RM 5 113) s m args below meth c H locs 0 0 (MQ below (Qi D aI aL 42 shX ad r0 σ s.heap.size) args s 0 0 (AA ad 42 s.heap.size)) (F0 m 0 ls []) := by
    intro y h hK H locs hP
    unfold f_X8_round at h
    refine lv_aload_n hx hb_ dX8_round_0 rfl (lv_at hl 0 rfl) ?_
    refine lv_iload_n hx hb_ dX8_round_1 rfl (lv_at hl 1 rfl) ?_
    obtain ⟨q1, hq1, h⟩ := bnd h
    refine w_ci (w_rV (As := [.int v1]) (rest := []) C hP (k := 0) (c_X8_isStone l D aI aL ad inj _ σ v1 q1 hq1) (gV wt367 wt369 wp3 wt1 wt370) 1 hd_X8_isStone ⟨Nat.le_of_ble_eq_true rfl, Nat.le_of_ble_eq_true rfl⟩ (by decide) 6 rfl rfl rfl hl.1 rfl (Nat.le_of_ble_eq_true rfl) dX8_round_2) hP (fun H locs hP => ?_)
    refine lv_if_ne (tgt := 10) hx hb_ dX8_round_5 (by decide) (fun hc => ?_) (fun hc => ?_)
    · replace h := iff' h hc
      refine lv_aload_n hx hb_ dX8_round_10 rfl (lv_at hl 0 rfl) ?_
      refine w_get C hP (k := 0) (by decide) 6 rfl rfl inWX8 3 (by decide) wt287 (v := .ref (ad 12)) rfl dX8_round_11 ?_
      refine lv_iload_n hx hb_ dX8_round_14 rfl (lv_at hl 1 rfl) ?_
      obtain ⟨q2, hq2, h⟩ := bnd h
      refine w_ci (w_rS (As := [.ref (ad 12), .int v1]) (rest := []) C hP (c_X7_rounds l D aI aL ad inj _ σ v1 q2 hq2) wt567 wt568 wt6 wt569 2 hd_X7_rounds ⟨Nat.le_of_ble_eq_true rfl, Nat.le_of_ble_eq_true rfl⟩ rfl hl.1 rfl (Nat.le_of_ble_eq_true rfl) dX8_round_15) hP (fun H locs hP => ?_)
      obtain rfl := Option.some.inj h
      have hK : (q2 : Int32) = r0 := hK
      exact w_iret C hlk hr hP hK rfl dX8_round_18
    · replace h := ift h hc
      refine lv_iconst (v := (-1)) hx hb_ dX8_round_8 (by decide) ?_
      obtain rfl := Option.some.inj h
      have hK : ((-1) : Int32) = r0 := hK
      exact w_iret C hlk hr hP hK rfl dX8_round_9
  exact bk r0 hf rfl _ _ hP
theorem hd_X8_needs : yX8_needs.cls = RX8 ∧ yX8_needs.cls ≠ "java/lang/invoke/MethodHandle" ∧ yX8_needs.cls ≠ "java/lang/invoke/VarHandle" ∧ (parseMethodDescriptor yX8_needs.desc).map (fun d => d.parameters.length) = some 2 := by decide +kernel
set_option maxHeartbeats 4000000 in
set_option maxRecDepth 100000 in
theorem c_X8_needs (l : Launch) (D : va_G) (aI aL : ClassId) (ad : Nat → Nat) (inj : Inj ad 42) (sz : Nat) (σ : Sg) (v1 : Int32) (v2 : Int32) (r0 : Int32) (hf : f_X8_needs v1 v2 σ = some r0) : Met l yX8_needs (wS yX8_needs cX8_needs 3 (some .int)) (RM 6 143) (Pw D aI aL 42 shX ad sz σ [.ref (ad 0), .int v1, .int v2]) (Qi D aI aL 42 shX ad r0 σ sz) 0 0 (AA ad 42 sz) := by
  refine Mof (Qc := Qi D aI aL 42 shX ad r0 σ) (by decide) inj (Nat.le_of_ble_eq_true rfl) ?_
  intro p e s m args below meth c ls C hlk hr hP hl
  have hx := C.1.1
  have hb_ := C.1.2.1
  have hown := C.1.2.2.2.1
  have hts := C.1.2.2.2.2
  have hl : lv_has ls 3 [(0, .ref (ad 0)), (1, .int v1), (2, .int v2)] := hl
  have bk_17 : ∀ (y : Int32), f_X8_needs_17 σ = some y → (fun y => y = r0) y → ∀ (H : Heap) (locs : List Loc) (ls : Array Slot), HS D aI aL 42 shX ad σ s H locs → lv_has ls 3 [] → W p l e (RM 6 143) s m args below meth c H locs 0 0 (MQ below (Qi D aI aL 42 shX ad r0 σ s.heap.size) args s 0 0 (AA ad 42 s.heap.size)) (F0 m 17 ls []) := by
    intro y h hK H locs ls hP hl
    unfold f_X8_needs_17 at h
    refine lv_iconst (v := (-1)) hx hb_ dX8_needs_17 (by decide) ?_
    obtain rfl := Option.some.inj h
    have hK : ((-1) : Int32) = r0 := hK
    exact w_iret C hlk hr hP hK rfl dX8_needs_18
  have bk_56 : ∀ (t0_56 : Int32) (y : Int32), f_X8_needs_56 t0_56 σ = some y → (fun y => y = r0) y → ∀ (H : Heap) (locs : List Loc) (ls : Array Slot), HS D aI aL 42 shX ad σ s H locs → lv_has ls 3 [] → W p l e (RM 6 143) s m args below meth c H locs 0 0 (MQ below (Qi D aI aL 42 shX ad r0 σ s.heap.size) args s 0 0 (AA ad 42 s.heap.size)) (F0 m 56 ls [.int t0_56]) := by
    intro t0_56 y h hK H locs ls hP hl
    unfold f_X8_needs_56 at h
    obtain rfl := Option.some.inj h
    have hK : (t0_56 : Int32) = r0 := hK
    exact w_iret C hlk hr hP hK rfl dX8_needs_56
  have bk : ∀ (y : Int32), f_X8_needs v1 v2 σ = some y → y = r0 → ∀ (H : Heap) (locs : List Loc), HS D aI aL 42 shX ad σ s H locs → W p l e (RM 6 143) s m args below meth c H locs 0 0 (MQ below (Qi D aI aL 42 shX ad r0 σ s.heap.size) args s 0 0 (AA ad 42 s.heap.size)) (F0 m 0 ls []) := by
    intro y h hK H locs hP
    unfold f_X8_needs at h
    refine lv_aload_n hx hb_ dX8_needs_0 rfl (lv_at hl 0 rfl) ?_
    refine lv_iload_n hx hb_ dX8_needs_1 rfl (lv_at hl 1 rfl) ?_
    obtain ⟨q1, hq1, h⟩ := bnd h
    refine w_ci (w_rV (As := [.int v1]) (rest := []) C hP (k := 0) (c_X8_isStone l D aI aL ad inj _ σ v1 q1 hq1) (gV wt367 wt369 wp3 wt1 wt370) 1 hd_X8_isStone ⟨Nat.le_of_ble_eq_true rfl, Nat.le_of_ble_eq_true rfl⟩ (by decide) 6 rfl rfl rfl hl.1 rfl (Nat.le_of_ble_eq_true rfl) dX8_needs_2) hP (fun H locs hP => ?_)
    refine lv_if_eq (tgt := 17) hx hb_ dX8_needs_5 (by decide) (fun hc => ?_) (fun hc => ?_)
    · replace h := ift h hc
      exact bk_17 y h hK _ _ _ hP (lv_sub hl [] rfl)
    · replace h := iff' h hc
      refine lv_iload_n hx hb_ dX8_needs_8 rfl (lv_at hl 2 rfl) ?_
      refine lv_if_lt (tgt := 17) hx hb_ dX8_needs_9 (by decide) (fun hc => ?_) (fun hc => ?_)
      · replace h := ift h hc
        exact bk_17 y h hK _ _ _ hP (lv_sub hl [] rfl)
      · replace h := iff' h hc
        refine lv_iload_n hx hb_ dX8_needs_12 rfl (lv_at hl 2 rfl) ?_
        refine lv_iconst (v := 1) hx hb_ dX8_needs_13 (by decide) ?_
        refine lv_icmp_le (tgt := 19) hx hb_ dX8_needs_14 (by decide) (fun hc => ?_) (fun hc => ?_)
        · replace h := ift h hc
          refine lv_aload_n hx hb_ dX8_needs_19 rfl (lv_at hl 0 rfl) ?_
          refine w_get C hP (k := 0) (by decide) 6 rfl rfl inWX8 3 (by decide) wt287 (v := .ref (ad 12)) rfl dX8_needs_20 ?_
          refine lv_iload_n hx hb_ dX8_needs_23 rfl (lv_at hl 1 rfl) ?_
          obtain ⟨q2, hq2, h⟩ := bnd h
          refine w_ci (w_rS (As := [.ref (ad 12), .int v1]) (rest := []) C hP (c_X0_leadTo l D aI aL ad inj _ σ v1 q2 hq2) wt577 wt578 wt14 wt579 2 hd_X0_leadTo ⟨Nat.le_of_ble_eq_true rfl, Nat.le_of_ble_eq_true rfl⟩ rfl hl.1 rfl (Nat.le_of_ble_eq_true rfl) dX8_needs_24) hP (fun H locs hP => ?_)
          refine lv_if_ne (tgt := 33) hx hb_ dX8_needs_27 (by decide) (fun hc => ?_) (fun hc => ?_)
          · replace h := iff' h hc
            refine lv_iload_n hx hb_ dX8_needs_33 rfl (lv_at hl 2 rfl) ?_
            refine lv_if_ne (tgt := 48) hx hb_ dX8_needs_34 (by decide) (fun hc => ?_) (fun hc => ?_)
            · replace h := iff' h hc
              refine lv_aload_n hx hb_ dX8_needs_48 rfl (lv_at hl 0 rfl) ?_
              refine w_get C hP (k := 0) (by decide) 6 rfl rfl inWX8 3 (by decide) wt287 (v := .ref (ad 12)) rfl dX8_needs_49 ?_
              refine lv_iload_n hx hb_ dX8_needs_52 rfl (lv_at hl 1 rfl) ?_
              obtain ⟨q3, hq3, h⟩ := bnd h
              refine w_ci (w_rS (As := [.ref (ad 12), .int v1]) (rest := []) C hP (c_X0_fewestFor l D aI aL ad inj _ σ v1 q3 hq3) wt596 wt597 wt14 wt598 2 hd_X0_fewestFor ⟨Nat.le_of_ble_eq_true rfl, Nat.le_of_ble_eq_true rfl⟩ rfl hl.1 rfl (Nat.le_of_ble_eq_true rfl) dX8_needs_53) hP (fun H locs hP => ?_)
              exact bk_56 q3 y h hK _ _ _ hP (lv_sub hl [] rfl)
            · replace h := ift h hc
              refine lv_aload_n hx hb_ dX8_needs_37 rfl (lv_at hl 0 rfl) ?_
              refine w_get C hP (k := 0) (by decide) 6 rfl rfl inWX8 3 (by decide) wt287 (v := .ref (ad 12)) rfl dX8_needs_38 ?_
              refine lv_iload_n hx hb_ dX8_needs_41 rfl (lv_at hl 1 rfl) ?_
              obtain ⟨q4, hq4, h⟩ := bnd h
              refine w_ci (w_rS (As := [.ref (ad 12), .int v1]) (rest := []) C hP (c_X0_neededFor l D aI aL ad inj _ σ v1 q4 hq4) wt592 wt593 wt14 wt594 2 hd_X0_neededFor ⟨Nat.le_of_ble_eq_true rfl, Nat.le_of_ble_eq_true rfl⟩ rfl hl.1 rfl (Nat.le_of_ble_eq_true rfl) dX8_needs_42) hP (fun H locs hP => ?_)
              refine lv_goto (tgt := 56) hx hb_ dX8_needs_45 (by decide) ?_
              exact bk_56 q4 y h hK _ _ _ hP (lv_sub hl [] rfl)
          · replace h := ift h hc
            refine lv_bipush (v := (-4)) hx hb_ dX8_needs_30 (by decide) ?_
            obtain rfl := Option.some.inj h
            have hK : ((-4) : Int32) = r0 := hK
            exact w_iret C hlk hr hP hK rfl dX8_needs_32
        · replace h := iff' h hc
          exact bk_17 y h hK _ _ _ hP (lv_sub hl [] rfl)
  exact bk r0 hf rfl _ _ hP
theorem hd_X8_lost : yX8_lost.cls = RX8 ∧ yX8_lost.cls ≠ "java/lang/invoke/MethodHandle" ∧ yX8_lost.cls ≠ "java/lang/invoke/VarHandle" ∧ (parseMethodDescriptor yX8_lost.desc).map (fun d => d.parameters.length) = some 1 := by decide +kernel
set_option maxHeartbeats 4000000 in
set_option maxRecDepth 100000 in
theorem c_X8_lost (l : Launch) (D : va_G) (aI aL : ClassId) (ad : Nat → Nat) (inj : Inj ad 42) (sz : Nat) (σ : Sg) (v1 : Int32) (r0 : Int32) (hf : f_X8_lost v1 σ = some r0) : Met l yX8_lost (wS yX8_lost cX8_lost 2 (some .int)) (RM 5 116) (Pw D aI aL 42 shX ad sz σ [.ref (ad 0), .int v1]) (Qi D aI aL 42 shX ad r0 σ sz) 0 0 (AA ad 42 sz) := by
  refine Mof (Qc := Qi D aI aL 42 shX ad r0 σ) (by decide) inj (Nat.le_of_ble_eq_true rfl) ?_
  intro p e s m args below meth c ls C hlk hr hP hl
  have hx := C.1.1
  have hb_ := C.1.2.1
  have hown := C.1.2.2.2.1
  have hts := C.1.2.2.2.2
  have hl : lv_has ls 2 [(0, .ref (ad 0)), (1, .int v1)] := hl
  have bk : ∀ (y : Int32), f_X8_lost v1 σ = some y → y = r0 → ∀ (H : Heap) (locs : List Loc), HS D aI aL 42 shX ad σ s H locs → W p l e (RM 5 116) s m args below meth c H locs 0 0 (MQ below (Qi D aI aL 42 shX ad r0 σ s.heap.size) args s 0 0 (AA ad 42 s.heap.size)) (F0 m 0 ls []) := by
    intro y h hK H locs hP
    unfold f_X8_lost at h
    refine lv_aload_n hx hb_ dX8_lost_0 rfl (lv_at hl 0 rfl) ?_
    refine lv_iload_n hx hb_ dX8_lost_1 rfl (lv_at hl 1 rfl) ?_
    obtain ⟨q1, hq1, h⟩ := bnd h
    refine w_ci (w_rV (As := [.int v1]) (rest := []) C hP (k := 0) (c_X8_isStone l D aI aL ad inj _ σ v1 q1 hq1) (gV wt367 wt369 wp3 wt1 wt370) 1 hd_X8_isStone ⟨Nat.le_of_ble_eq_true rfl, Nat.le_of_ble_eq_true rfl⟩ (by decide) 6 rfl rfl rfl hl.1 rfl (Nat.le_of_ble_eq_true rfl) dX8_lost_2) hP (fun H locs hP => ?_)
    refine lv_if_ne (tgt := 10) hx hb_ dX8_lost_5 (by decide) (fun hc => ?_) (fun hc => ?_)
    · replace h := iff' h hc
      refine lv_aload_n hx hb_ dX8_lost_10 rfl (lv_at hl 0 rfl) ?_
      refine w_get C hP (k := 0) (by decide) 6 rfl rfl inWX8 3 (by decide) wt287 (v := .ref (ad 12)) rfl dX8_lost_11 ?_
      refine lv_iload_n hx hb_ dX8_lost_14 rfl (lv_at hl 1 rfl) ?_
      obtain ⟨q2, hq2, h⟩ := bnd h
      refine w_ci (w_rV (As := [.int v1]) (rest := []) C hP (k := 12) (c_X1_isThere l D aI aL ad inj _ σ 12 fl12 v1 q2 hq2) (gV wt463 wt464 wt465 wt4 wt466) 1 hd_X1_isThere ⟨Nat.le_of_ble_eq_true rfl, Nat.le_of_ble_eq_true rfl⟩ (by decide) 0 rfl rfl rfl hl.1 rfl (Nat.le_of_ble_eq_true rfl) dX8_lost_15) hP (fun H locs hP => ?_)
      refine lv_if_ne (tgt := 24) hx hb_ dX8_lost_18 (by decide) (fun hc => ?_) (fun hc => ?_)
      · replace h := iff' h hc
        refine lv_aload_n hx hb_ dX8_lost_24 rfl (lv_at hl 0 rfl) ?_
        refine w_get C hP (k := 0) (by decide) 6 rfl rfl inWX8 3 (by decide) wt287 (v := .ref (ad 12)) rfl dX8_lost_25 ?_
        refine lv_iload_n hx hb_ dX8_lost_28 rfl (lv_at hl 1 rfl) ?_
        obtain ⟨q3, hq3, h⟩ := bnd h
        refine w_ci (w_rS (As := [.ref (ad 12), .int v1]) (rest := []) C hP (c_X0_lostBy l D aI aL ad inj _ σ v1 q3 hq3) wt608 wt609 wt14 wt610 2 hd_X0_lostBy ⟨Nat.le_of_ble_eq_true rfl, Nat.le_of_ble_eq_true rfl⟩ rfl hl.1 rfl (Nat.le_of_ble_eq_true rfl) dX8_lost_29) hP (fun H locs hP => ?_)
        obtain rfl := Option.some.inj h
        have hK : (q3 : Int32) = r0 := hK
        exact w_iret C hlk hr hP hK rfl dX8_lost_32
      · replace h := ift h hc
        refine lv_bipush (v := (-2)) hx hb_ dX8_lost_21 (by decide) ?_
        obtain rfl := Option.some.inj h
        have hK : ((-2) : Int32) = r0 := hK
        exact w_iret C hlk hr hP hK rfl dX8_lost_23
    · replace h := ift h hc
      refine lv_iconst (v := (-1)) hx hb_ dX8_lost_8 (by decide) ?_
      obtain rfl := Option.some.inj h
      have hK : ((-1) : Int32) = r0 := hK
      exact w_iret C hlk hr hP hK rfl dX8_lost_9
  exact bk r0 hf rfl _ _ hP
theorem hd_X8_begin : yX8_begin.cls = RX8 ∧ yX8_begin.cls ≠ "java/lang/invoke/MethodHandle" ∧ yX8_begin.cls ≠ "java/lang/invoke/VarHandle" ∧ (parseMethodDescriptor yX8_begin.desc).map (fun d => d.parameters.length) = some 1 := by decide +kernel
set_option maxHeartbeats 4000000 in
set_option maxRecDepth 100000 in
theorem c_X8_begin (l : Launch) (D : va_G) (aI aL : ClassId) (ad : Nat → Nat) (inj : Inj ad 42) (sz : Nat) (σ : Sg) (v1 : Int32) (r0 : Int32) (hf : f_X8_begin v1 σ = some r0) : Met l yX8_begin (wS yX8_begin cX8_begin 2 (some .int)) (RM 6 144) (Pw D aI aL 42 shX ad sz σ [.ref (ad 0), .int v1]) (Qi D aI aL 42 shX ad r0 σ sz) 0 0 (AA ad 42 sz) := by
  refine Mof (Qc := Qi D aI aL 42 shX ad r0 σ) (by decide) inj (Nat.le_of_ble_eq_true rfl) ?_
  intro p e s m args below meth c ls C hlk hr hP hl
  have hx := C.1.1
  have hb_ := C.1.2.1
  have hown := C.1.2.2.2.1
  have hts := C.1.2.2.2.2
  have hl : lv_has ls 2 [(0, .ref (ad 0)), (1, .int v1)] := hl
  have bk : ∀ (y : Int32), f_X8_begin v1 σ = some y → y = r0 → ∀ (H : Heap) (locs : List Loc), HS D aI aL 42 shX ad σ s H locs → W p l e (RM 6 144) s m args below meth c H locs 0 0 (MQ below (Qi D aI aL 42 shX ad r0 σ s.heap.size) args s 0 0 (AA ad 42 s.heap.size)) (F0 m 0 ls []) := by
    intro y h hK H locs hP
    unfold f_X8_begin at h
    refine lv_aload_n hx hb_ dX8_begin_0 rfl (lv_at hl 0 rfl) ?_
    refine lv_iload_n hx hb_ dX8_begin_1 rfl (lv_at hl 1 rfl) ?_
    obtain ⟨q1, hq1, h⟩ := bnd h
    refine w_ci (w_rV (As := [.int v1]) (rest := []) C hP (k := 0) (c_X8_isStone l D aI aL ad inj _ σ v1 q1 hq1) (gV wt367 wt369 wp3 wt1 wt370) 1 hd_X8_isStone ⟨Nat.le_of_ble_eq_true rfl, Nat.le_of_ble_eq_true rfl⟩ (by decide) 6 rfl rfl rfl hl.1 rfl (Nat.le_of_ble_eq_true rfl) dX8_begin_2) hP (fun H locs hP => ?_)
    refine lv_if_ne (tgt := 10) hx hb_ dX8_begin_5 (by decide) (fun hc => ?_) (fun hc => ?_)
    · replace h := iff' h hc
      refine lv_aload_n hx hb_ dX8_begin_10 rfl (lv_at hl 0 rfl) ?_
      refine w_get C hP (k := 0) (by decide) 6 rfl rfl inWX8 3 (by decide) wt287 (v := .ref (ad 12)) rfl dX8_begin_11 ?_
      refine lv_iload_n hx hb_ dX8_begin_14 rfl (lv_at hl 1 rfl) ?_
      obtain ⟨q2, hq2, h⟩ := bnd h
      refine w_ci (w_rV (As := [.int v1]) (rest := []) C hP (k := 12) (c_X1_isThere l D aI aL ad inj _ σ 12 fl12 v1 q2 hq2) (gV wt463 wt464 wt465 wt4 wt466) 1 hd_X1_isThere ⟨Nat.le_of_ble_eq_true rfl, Nat.le_of_ble_eq_true rfl⟩ (by decide) 0 rfl rfl rfl hl.1 rfl (Nat.le_of_ble_eq_true rfl) dX8_begin_15) hP (fun H locs hP => ?_)
      refine lv_if_ne (tgt := 24) hx hb_ dX8_begin_18 (by decide) (fun hc => ?_) (fun hc => ?_)
      · replace h := iff' h hc
        refine lv_aload_n hx hb_ dX8_begin_24 rfl (lv_at hl 0 rfl) ?_
        refine w_get C hP (k := 0) (by decide) 6 rfl rfl inWX8 3 (by decide) wt287 (v := .ref (ad 12)) rfl dX8_begin_25 ?_
        refine lv_iload_n hx hb_ dX8_begin_28 rfl (lv_at hl 1 rfl) ?_
        obtain ⟨q3, hq3, h⟩ := bnd h
        refine w_ci (w_rS (As := [.ref (ad 12), .int v1]) (rest := []) C hP (c_X0_fewestMoreFor l D aI aL ad inj _ σ v1 q3 hq3) wt616 wt617 wt14 wt618 2 hd_X0_fewestMoreFor ⟨Nat.le_of_ble_eq_true rfl, Nat.le_of_ble_eq_true rfl⟩ rfl hl.1 rfl (Nat.le_of_ble_eq_true rfl) dX8_begin_29) hP (fun H locs hP => ?_)
        obtain rfl := Option.some.inj h
        have hK : (q3 : Int32) = r0 := hK
        exact w_iret C hlk hr hP hK rfl dX8_begin_32
      · replace h := ift h hc
        refine lv_bipush (v := (-2)) hx hb_ dX8_begin_21 (by decide) ?_
        obtain rfl := Option.some.inj h
        have hK : ((-2) : Int32) = r0 := hK
        exact w_iret C hlk hr hP hK rfl dX8_begin_23
    · replace h := ift h hc
      refine lv_iconst (v := (-1)) hx hb_ dX8_begin_8 (by decide) ?_
      obtain rfl := Option.some.inj h
      have hK : ((-1) : Int32) = r0 := hK
      exact w_iret C hlk hr hP hK rfl dX8_begin_9
  exact bk r0 hf rfl _ _ hP
theorem hd_X8_hall : yX8_hall.cls = RX8 ∧ yX8_hall.cls ≠ "java/lang/invoke/MethodHandle" ∧ yX8_hall.cls ≠ "java/lang/invoke/VarHandle" ∧ (parseMethodDescriptor yX8_hall.desc).map (fun d => d.parameters.length) = some 1 := by decide +kernel
set_option maxHeartbeats 4000000 in
set_option maxRecDepth 100000 in
theorem c_X8_hall (l : Launch) (D : va_G) (aI aL : ClassId) (ad : Nat → Nat) (inj : Inj ad 42) (sz : Nat) (σ : Sg) (v1 : Int32) (r0 : Int32) (hf : f_X8_hall v1 σ = some r0) : Met l yX8_hall (wS yX8_hall cX8_hall 2 (some .int)) (RM 6 142) (Pw D aI aL 42 shX ad sz σ [.ref (ad 0), .int v1]) (Qi D aI aL 42 shX ad r0 σ sz) 0 0 (AA ad 42 sz) := by
  refine Mof (Qc := Qi D aI aL 42 shX ad r0 σ) (by decide) inj (Nat.le_of_ble_eq_true rfl) ?_
  intro p e s m args below meth c ls C hlk hr hP hl
  have hx := C.1.1
  have hb_ := C.1.2.1
  have hown := C.1.2.2.2.1
  have hts := C.1.2.2.2.2
  have hl : lv_has ls 2 [(0, .ref (ad 0)), (1, .int v1)] := hl
  have bk_9 : ∀ (y : Int32), f_X8_hall_9 σ = some y → (fun y => y = r0) y → ∀ (H : Heap) (locs : List Loc) (ls : Array Slot), HS D aI aL 42 shX ad σ s H locs → lv_has ls 2 [] → W p l e (RM 6 142) s m args below meth c H locs 0 0 (MQ below (Qi D aI aL 42 shX ad r0 σ s.heap.size) args s 0 0 (AA ad 42 s.heap.size)) (F0 m 9 ls []) := by
    intro y h hK H locs ls hP hl
    unfold f_X8_hall_9 at h
    refine lv_iconst (v := (-1)) hx hb_ dX8_hall_9 (by decide) ?_
    obtain rfl := Option.some.inj h
    have hK : ((-1) : Int32) = r0 := hK
    exact w_iret C hlk hr hP hK rfl dX8_hall_10
  have bk_30 : ∀ (t0_30 : Int32) (y : Int32), f_X8_hall_30 t0_30 σ = some y → (fun y => y = r0) y → ∀ (H : Heap) (locs : List Loc) (ls : Array Slot), HS D aI aL 42 shX ad σ s H locs → lv_has ls 2 [] → W p l e (RM 6 142) s m args below meth c H locs 0 0 (MQ below (Qi D aI aL 42 shX ad r0 σ s.heap.size) args s 0 0 (AA ad 42 s.heap.size)) (F0 m 30 ls [.int t0_30]) := by
    intro t0_30 y h hK H locs ls hP hl
    unfold f_X8_hall_30 at h
    obtain rfl := Option.some.inj h
    have hK : (t0_30 : Int32) = r0 := hK
    exact w_iret C hlk hr hP hK rfl dX8_hall_30
  have bk : ∀ (y : Int32), f_X8_hall v1 σ = some y → y = r0 → ∀ (H : Heap) (locs : List Loc), HS D aI aL 42 shX ad σ s H locs → W p l e (RM 6 142) s m args below meth c H locs 0 0 (MQ below (Qi D aI aL 42 shX ad r0 σ s.heap.size) args s 0 0 (AA ad 42 s.heap.size)) (F0 m 0 ls []) := by
    intro y h hK H locs hP
    unfold f_X8_hall at h
    refine lv_iload_n hx hb_ dX8_hall_0 rfl (lv_at hl 1 rfl) ?_
    refine lv_if_lt (tgt := 9) hx hb_ dX8_hall_1 (by decide) (fun hc => ?_) (fun hc => ?_)
    · replace h := ift h hc
      exact bk_9 y h hK _ _ _ hP (lv_sub hl [] rfl)
    · replace h := iff' h hc
      refine lv_iload_n hx hb_ dX8_hall_4 rfl (lv_at hl 1 rfl) ?_
      refine lv_iconst (v := 1) hx hb_ dX8_hall_5 (by decide) ?_
      refine lv_icmp_le (tgt := 11) hx hb_ dX8_hall_6 (by decide) (fun hc => ?_) (fun hc => ?_)
      · replace h := ift h hc
        refine lv_iload_n hx hb_ dX8_hall_11 rfl (lv_at hl 1 rfl) ?_
        refine lv_if_ne (tgt := 31) hx hb_ dX8_hall_12 (by decide) (fun hc => ?_) (fun hc => ?_)
        · replace h := iff' h hc
          refine lv_aload_n hx hb_ dX8_hall_31 rfl (lv_at hl 0 rfl) ?_
          refine w_get C hP (k := 0) (by decide) 6 rfl rfl inWX8 3 (by decide) wt287 (v := .ref (ad 12)) rfl dX8_hall_32 ?_
          obtain ⟨q1, hq1, h⟩ := bnd h
          refine w_ci (w_rS (As := [.ref (ad 12)]) (rest := []) C hP (c_X0_fewestIntoHall l D aI aL ad inj _ σ q1 hq1) wt626 wt627 wt14 wt628 1 hd_X0_fewestIntoHall ⟨Nat.le_of_ble_eq_true rfl, Nat.le_of_ble_eq_true rfl⟩ rfl hl.1 rfl (Nat.le_of_ble_eq_true rfl) dX8_hall_35) hP (fun H locs hP => ?_)
          obtain rfl := Option.some.inj h
          have hK : (q1 : Int32) = r0 := hK
          exact w_iret C hlk hr hP hK rfl dX8_hall_38
        · replace h := ift h hc
          refine lv_aload_n hx hb_ dX8_hall_15 rfl (lv_at hl 0 rfl) ?_
          refine w_get C hP (k := 0) (by decide) 6 rfl rfl inWX8 3 (by decide) wt287 (v := .ref (ad 12)) rfl dX8_hall_16 ?_
          obtain ⟨q2, hq2, h⟩ := bnd h
          refine w_ci (w_rS (As := [.ref (ad 12)]) (rest := []) C hP (c_X0_leadIntoHall l D aI aL ad inj _ σ q2 hq2) wt623 wt624 wt14 wt625 1 hd_X0_leadIntoHall ⟨Nat.le_of_ble_eq_true rfl, Nat.le_of_ble_eq_true rfl⟩ rfl hl.1 rfl (Nat.le_of_ble_eq_true rfl) dX8_hall_19) hP (fun H locs hP => ?_)
          refine lv_if_eq (tgt := 29) hx hb_ dX8_hall_22 (by decide) (fun hc => ?_) (fun hc => ?_)
          · replace h := ift h hc
            refine lv_iconst (v := 0) hx hb_ dX8_hall_29 (by decide) ?_
            exact bk_30 0 y h hK _ _ _ hP (lv_sub hl [] rfl)
          · replace h := iff' h hc
            refine lv_iconst (v := 1) hx hb_ dX8_hall_25 (by decide) ?_
            refine lv_goto (tgt := 30) hx hb_ dX8_hall_26 (by decide) ?_
            exact bk_30 1 y h hK _ _ _ hP (lv_sub hl [] rfl)
      · replace h := iff' h hc
        exact bk_9 y h hK _ _ _ hP (lv_sub hl [] rfl)
  exact bk r0 hf rfl _ _ hP
theorem hd_X8_rope : yX8_rope.cls = RX8 ∧ yX8_rope.cls ≠ "java/lang/invoke/MethodHandle" ∧ yX8_rope.cls ≠ "java/lang/invoke/VarHandle" ∧ (parseMethodDescriptor yX8_rope.desc).map (fun d => d.parameters.length) = some 0 := by decide +kernel
set_option maxHeartbeats 4000000 in
set_option maxRecDepth 100000 in
theorem c_X8_rope (l : Launch) (D : va_G) (aI aL : ClassId) (ad : Nat → Nat) (inj : Inj ad 42) (sz : Nat) (σ : Sg) (r0 : Int32) (hf : f_X8_rope σ = some r0) : Met l yX8_rope (wS yX8_rope cX8_rope 1 (some .int)) (RM 6 142) (Pw D aI aL 42 shX ad sz σ [.ref (ad 0)]) (Qi D aI aL 42 shX ad r0 σ sz) 0 0 (AA ad 42 sz) := by
  refine Mof (Qc := Qi D aI aL 42 shX ad r0 σ) (by decide) inj (Nat.le_of_ble_eq_true rfl) ?_
  intro p e s m args below meth c ls C hlk hr hP hl
  have hx := C.1.1
  have hb_ := C.1.2.1
  have hown := C.1.2.2.2.1
  have hts := C.1.2.2.2.2
  have hl : lv_has ls 1 [(0, .ref (ad 0))] := hl
  have bk : ∀ (y : Int32), f_X8_rope σ = some y → y = r0 → ∀ (H : Heap) (locs : List Loc), HS D aI aL 42 shX ad σ s H locs → W p l e (RM 6 142) s m args below meth c H locs 0 0 (MQ below (Qi D aI aL 42 shX ad r0 σ s.heap.size) args s 0 0 (AA ad 42 s.heap.size)) (F0 m 0 ls []) := by
    intro y h hK H locs hP
    unfold f_X8_rope at h
    refine lv_aload_n hx hb_ dX8_rope_0 rfl (lv_at hl 0 rfl) ?_
    refine w_get C hP (k := 0) (by decide) 6 rfl rfl inWX8 3 (by decide) wt287 (v := .ref (ad 12)) rfl dX8_rope_1 ?_
    obtain ⟨q1, hq1, h⟩ := bnd h
    refine w_ci (w_rS (As := [.ref (ad 12)]) (rest := []) C hP (c_X0_fewestToRopeOff l D aI aL ad inj _ σ q1 hq1) wt633 wt634 wt14 wt635 1 hd_X0_fewestToRopeOff ⟨Nat.le_of_ble_eq_true rfl, Nat.le_of_ble_eq_true rfl⟩ rfl hl.1 rfl (Nat.le_of_ble_eq_true rfl) dX8_rope_4) hP (fun H locs hP => ?_)
    obtain rfl := Option.some.inj h
    have hK : (q1 : Int32) = r0 := hK
    exact w_iret C hlk hr hP hK rfl dX8_rope_7
  exact bk r0 hf rfl _ _ hP
theorem hd_X8_idle : yX8_idle.cls = RX8 ∧ yX8_idle.cls ≠ "java/lang/invoke/MethodHandle" ∧ yX8_idle.cls ≠ "java/lang/invoke/VarHandle" ∧ (parseMethodDescriptor yX8_idle.desc).map (fun d => d.parameters.length) = some 0 := by decide +kernel
set_option maxHeartbeats 4000000 in
set_option maxRecDepth 100000 in
theorem c_X8_idle (l : Launch) (D : va_G) (aI aL : ClassId) (ad : Nat → Nat) (inj : Inj ad 42) (sz : Nat) (σ : Sg) (r0 : Int32) (hf : f_X8_idle σ = some r0) : Met l yX8_idle (wS yX8_idle cX8_idle 1 (some .int)) (RM 4 96) (Pw D aI aL 42 shX ad sz σ [.ref (ad 0)]) (Qi D aI aL 42 shX ad r0 σ sz) 0 0 (AA ad 42 sz) := by
  refine Mof (Qc := Qi D aI aL 42 shX ad r0 σ) (by decide) inj (Nat.le_of_ble_eq_true rfl) ?_
  intro p e s m args below meth c ls C hlk hr hP hl
  have hx := C.1.1
  have hb_ := C.1.2.1
  have hown := C.1.2.2.2.1
  have hts := C.1.2.2.2.2
  have hl : lv_has ls 1 [(0, .ref (ad 0))] := hl
  have bk : ∀ (y : Int32), f_X8_idle σ = some y → y = r0 → ∀ (H : Heap) (locs : List Loc), HS D aI aL 42 shX ad σ s H locs → W p l e (RM 4 96) s m args below meth c H locs 0 0 (MQ below (Qi D aI aL 42 shX ad r0 σ s.heap.size) args s 0 0 (AA ad 42 s.heap.size)) (F0 m 0 ls []) := by
    intro y h hK H locs hP
    unfold f_X8_idle at h
    refine lv_aload_n hx hb_ dX8_idle_0 rfl (lv_at hl 0 rfl) ?_
    refine w_get C hP (k := 0) (by decide) 6 rfl rfl inWX8 3 (by decide) wt287 (v := .ref (ad 12)) rfl dX8_idle_1 ?_
    obtain ⟨q1, hq1, h⟩ := bnd h
    refine w_ci (w_rS (As := [.ref (ad 12)]) (rest := []) C hP (c_X5_idleSteps l D aI aL ad inj _ σ q1 hq1) wt640 wt641 wt15 wt642 1 hd_X5_idleSteps ⟨Nat.le_of_ble_eq_true rfl, Nat.le_of_ble_eq_true rfl⟩ rfl hl.1 rfl (Nat.le_of_ble_eq_true rfl) dX8_idle_4) hP (fun H locs hP => ?_)
    obtain rfl := Option.some.inj h
    have hK : (q1 : Int32) = r0 := hK
    exact w_iret C hlk hr hP hK rfl dX8_idle_7
  exact bk r0 hf rfl _ _ hP
theorem hd_X8_circle : yX8_circle.cls = RX8 ∧ yX8_circle.cls ≠ "java/lang/invoke/MethodHandle" ∧ yX8_circle.cls ≠ "java/lang/invoke/VarHandle" ∧ (parseMethodDescriptor yX8_circle.desc).map (fun d => d.parameters.length) = some 0 := by decide +kernel
set_option maxHeartbeats 4000000 in
set_option maxRecDepth 100000 in
theorem c_X8_circle (l : Launch) (D : va_G) (aI aL : ClassId) (ad : Nat → Nat) (inj : Inj ad 42) (sz : Nat) (σ : Sg) (r0 : Int32) (hf : f_X8_circle σ = some r0) : Met l yX8_circle (wS yX8_circle cX8_circle 1 (some .int)) (RM 5 109) (Pw D aI aL 42 shX ad sz σ [.ref (ad 0)]) (Qi D aI aL 42 shX ad r0 σ sz) 0 0 (AA ad 42 sz) := by
  refine Mof (Qc := Qi D aI aL 42 shX ad r0 σ) (by decide) inj (Nat.le_of_ble_eq_true rfl) ?_
  intro p e s m args below meth c ls C hlk hr hP hl
  have hx := C.1.1
  have hb_ := C.1.2.1
  have hown := C.1.2.2.2.1
  have hts := C.1.2.2.2.2
  have hl : lv_has ls 1 [(0, .ref (ad 0))] := hl
  have bk : ∀ (y : Int32), f_X8_circle σ = some y → y = r0 → ∀ (H : Heap) (locs : List Loc), HS D aI aL 42 shX ad σ s H locs → W p l e (RM 5 109) s m args below meth c H locs 0 0 (MQ below (Qi D aI aL 42 shX ad r0 σ s.heap.size) args s 0 0 (AA ad 42 s.heap.size)) (F0 m 0 ls []) := by
    intro y h hK H locs hP
    unfold f_X8_circle at h
    refine lv_aload_n hx hb_ dX8_circle_0 rfl (lv_at hl 0 rfl) ?_
    refine w_get C hP (k := 0) (by decide) 6 rfl rfl inWX8 3 (by decide) wt287 (v := .ref (ad 12)) rfl dX8_circle_1 ?_
    obtain ⟨q1, hq1, h⟩ := bnd h
    refine w_ci (w_rS (As := [.ref (ad 12)]) (rest := []) C hP (c_X5_lowestInCircle l D aI aL ad inj _ σ q1 hq1) wt656 wt657 wt15 wt658 1 hd_X5_lowestInCircle ⟨Nat.le_of_ble_eq_true rfl, Nat.le_of_ble_eq_true rfl⟩ rfl hl.1 rfl (Nat.le_of_ble_eq_true rfl) dX8_circle_4) hP (fun H locs hP => ?_)
    obtain rfl := Option.some.inj h
    have hK : (q1 : Int32) = r0 := hK
    exact w_iret C hlk hr hP hK rfl dX8_circle_7
  exact bk r0 hf rfl _ _ hP
theorem hd_X8_deep : yX8_deep.cls = RX8 ∧ yX8_deep.cls ≠ "java/lang/invoke/MethodHandle" ∧ yX8_deep.cls ≠ "java/lang/invoke/VarHandle" ∧ (parseMethodDescriptor yX8_deep.desc).map (fun d => d.parameters.length) = some 0 := by decide +kernel
set_option maxHeartbeats 4000000 in
set_option maxRecDepth 100000 in
theorem c_X8_deep (l : Launch) (D : va_G) (aI aL : ClassId) (ad : Nat → Nat) (inj : Inj ad 42) (sz : Nat) (σ : Sg) (r0 : Int32) (hf : f_X8_deep σ = some r0) : Met l yX8_deep (wS yX8_deep cX8_deep 1 (some .int)) (RM 4 87) (Pw D aI aL 42 shX ad sz σ [.ref (ad 0)]) (Qi D aI aL 42 shX ad r0 σ sz) 0 0 (AA ad 42 sz) := by
  refine Mof (Qc := Qi D aI aL 42 shX ad r0 σ) (by decide) inj (Nat.le_of_ble_eq_true rfl) ?_
  intro p e s m args below meth c ls C hlk hr hP hl
  have hx := C.1.1
  have hb_ := C.1.2.1
  have hown := C.1.2.2.2.1
  have hts := C.1.2.2.2.2
  have hl : lv_has ls 1 [(0, .ref (ad 0))] := hl
  have bk : ∀ (y : Int32), f_X8_deep σ = some y → y = r0 → ∀ (H : Heap) (locs : List Loc), HS D aI aL 42 shX ad σ s H locs → W p l e (RM 4 87) s m args below meth c H locs 0 0 (MQ below (Qi D aI aL 42 shX ad r0 σ s.heap.size) args s 0 0 (AA ad 42 s.heap.size)) (F0 m 0 ls []) := by
    intro y h hK H locs hP
    unfold f_X8_deep at h
    refine lv_aload_n hx hb_ dX8_deep_0 rfl (lv_at hl 0 rfl) ?_
    refine w_get C hP (k := 0) (by decide) 6 rfl rfl inWX8 3 (by decide) wt287 (v := .ref (ad 12)) rfl dX8_deep_1 ?_
    obtain ⟨q1, hq1, h⟩ := bnd h
    refine w_ci (w_rS (As := [.ref (ad 12)]) (rest := []) C hP (c_X5_depth l D aI aL ad inj _ σ q1 hq1) wt672 wt673 wt15 wt674 1 hd_X5_depth ⟨Nat.le_of_ble_eq_true rfl, Nat.le_of_ble_eq_true rfl⟩ rfl hl.1 rfl (Nat.le_of_ble_eq_true rfl) dX8_deep_4) hP (fun H locs hP => ?_)
    obtain rfl := Option.some.inj h
    have hK : (q1 : Int32) = r0 := hK
    exact w_iret C hlk hr hP hK rfl dX8_deep_7
  exact bk r0 hf rfl _ _ hP
theorem hd_X8_proofs : yX8_proofs.cls = RX8 ∧ yX8_proofs.cls ≠ "java/lang/invoke/MethodHandle" ∧ yX8_proofs.cls ≠ "java/lang/invoke/VarHandle" ∧ (parseMethodDescriptor yX8_proofs.desc).map (fun d => d.parameters.length) = some 2 := by decide +kernel
set_option maxHeartbeats 4000000 in
set_option maxRecDepth 100000 in
theorem c_X8_proofs (l : Launch) (D : va_G) (aI aL : ClassId) (ad : Nat → Nat) (inj : Inj ad 42) (sz : Nat) (σ : Sg) (v1 : Int32) (v2 : Int32) (r0 : (Int32 × Sg)) (hf : f_X8_proofs v1 v2 σ = some r0) : Met l yX8_proofs (wS yX8_proofs cX8_proofs 3 (some .int)) (RM 4 97) (Pw D aI aL 42 shX ad sz σ [.ref (ad 0), .int v1, .int v2]) (Qi D aI aL 42 shX ad r0.1 r0.2 sz) 0 0 (AA ad 42 sz) := by
  refine Mof (Qc := Qi D aI aL 42 shX ad r0.1 r0.2) (by decide) inj (Nat.le_of_ble_eq_true rfl) ?_
  intro p e s m args below meth c ls C hlk hr hP hl
  have hx := C.1.1
  have hb_ := C.1.2.1
  have hown := C.1.2.2.2.1
  have hts := C.1.2.2.2.2
  have hl : lv_has ls 3 [(0, .ref (ad 0)), (1, .int v1), (2, .int v2)] := hl
  have bk_17 : ∀ (s_17 : Sg) (y : (Int32 × Sg)), f_X8_proofs_17 s_17 = some y → (fun y => y = r0) y → ∀ (H : Heap) (locs : List Loc) (ls : Array Slot), HS D aI aL 42 shX ad s_17 s H locs → lv_has ls 3 [] → W p l e (RM 4 97) s m args below meth c H locs 0 0 (MQ below (Qi D aI aL 42 shX ad r0.1 r0.2 s.heap.size) args s 0 0 (AA ad 42 s.heap.size)) (F0 m 17 ls []) := by
    intro s_17 y h hK H locs ls hP hl
    unfold f_X8_proofs_17 at h
    refine lv_iconst (v := (-1)) hx hb_ dX8_proofs_17 (by decide) ?_
    obtain rfl := Option.some.inj h
    have hK : ((-1), s_17) = r0 := hK
    have hK1 := congrArg Prod.fst hK
    have hK2 := congrArg Prod.snd hK
    exact w_iret C hlk hr hP hK1 hK2 dX8_proofs_18
  have bk : ∀ (y : (Int32 × Sg)), f_X8_proofs v1 v2 σ = some y → y = r0 → ∀ (H : Heap) (locs : List Loc), HS D aI aL 42 shX ad σ s H locs → W p l e (RM 4 97) s m args below meth c H locs 0 0 (MQ below (Qi D aI aL 42 shX ad r0.1 r0.2 s.heap.size) args s 0 0 (AA ad 42 s.heap.size)) (F0 m 0 ls []) := by
    intro y h hK H locs hP
    unfold f_X8_proofs at h
    refine lv_aload_n hx hb_ dX8_proofs_0 rfl (lv_at hl 0 rfl) ?_
    refine lv_iload_n hx hb_ dX8_proofs_1 rfl (lv_at hl 1 rfl) ?_
    obtain ⟨q1, hq1, h⟩ := bnd h
    refine w_ci (w_rV (As := [.int v1]) (rest := []) C hP (k := 0) (c_X8_isStone l D aI aL ad inj _ σ v1 q1 hq1) (gV wt367 wt369 wp3 wt1 wt370) 1 hd_X8_isStone ⟨Nat.le_of_ble_eq_true rfl, Nat.le_of_ble_eq_true rfl⟩ (by decide) 6 rfl rfl rfl hl.1 rfl (Nat.le_of_ble_eq_true rfl) dX8_proofs_2) hP (fun H locs hP => ?_)
    refine lv_if_eq (tgt := 17) hx hb_ dX8_proofs_5 (by decide) (fun hc => ?_) (fun hc => ?_)
    · replace h := ift h hc
      exact bk_17 σ y h hK _ _ _ hP (lv_sub hl [] rfl)
    · replace h := iff' h hc
      refine lv_iload_n hx hb_ dX8_proofs_8 rfl (lv_at hl 2 rfl) ?_
      refine lv_if_lt (tgt := 17) hx hb_ dX8_proofs_9 (by decide) (fun hc => ?_) (fun hc => ?_)
      · replace h := ift h hc
        exact bk_17 σ y h hK _ _ _ hP (lv_sub hl [] rfl)
      · replace h := iff' h hc
        refine lv_iload_n hx hb_ dX8_proofs_12 rfl (lv_at hl 2 rfl) ?_
        refine lv_iconst (v := 2) hx hb_ dX8_proofs_13 (by decide) ?_
        refine lv_icmp_le (tgt := 19) hx hb_ dX8_proofs_14 (by decide) (fun hc => ?_) (fun hc => ?_)
        · replace h := ift h hc
          refine lv_aload_n hx hb_ dX8_proofs_19 rfl (lv_at hl 0 rfl) ?_
          refine w_get C hP (k := 0) (by decide) 6 rfl rfl inWX8 8 (by decide) wt292 (v := .ref (ad 39)) rfl dX8_proofs_20 ?_
          refine lv_aload_n hx hb_ dX8_proofs_23 rfl (lv_at hl 0 rfl) ?_
          refine w_get C hP (k := 0) (by decide) 6 rfl rfl inWX8 3 (by decide) wt287 (v := .ref (ad 12)) rfl dX8_proofs_24 ?_
          obtain ⟨q2, hq2, h⟩ := bnd h
          refine w_cv (w_rV (As := [.ref (ad 12)]) (rest := []) C hP (k := 39) (c_X3_reckon l D aI aL ad inj _ σ q2 hq2) (gV wt679 wt680 wt681 wt7 wt682) 1 hd_X3_reckon ⟨Nat.le_of_ble_eq_true rfl, Nat.le_of_ble_eq_true rfl⟩ (by decide) 2 rfl rfl rfl hl.1 rfl (Nat.le_of_ble_eq_true rfl) dX8_proofs_27) hP (fun H locs hP => ?_)
          refine lv_iload_n hx hb_ dX8_proofs_30 rfl (lv_at hl 2 rfl) ?_
          by_cases hc0 : v2 = 0
          · replace h := ift h hc0
            refine lv_lookup (off := 25) (tgt := 56) hx hb_ dX8_proofs_31 (by decide +kernel) (by rw [hc0]; decide +kernel) (by decide) ?_
            refine lv_aload_n hx hb_ dX8_proofs_56 rfl (lv_at hl 0 rfl) ?_
            refine w_get C hP (k := 0) (by decide) 6 rfl rfl inWX8 8 (by decide) wt292 (v := .ref (ad 39)) rfl dX8_proofs_57 ?_
            refine lv_iload_n hx hb_ dX8_proofs_60 rfl (lv_at hl 1 rfl) ?_
            obtain ⟨q3, hq3, h⟩ := bnd h
            refine w_ci (w_rV (As := [.int v1]) (rest := []) C hP (k := 39) (c_X3_howMany l D aI aL ad inj _ q2 v1 q3 hq3) (gV wt694 wt695 wt696 wt7 wt697) 1 hd_X3_howMany ⟨Nat.le_of_ble_eq_true rfl, Nat.le_of_ble_eq_true rfl⟩ (by decide) 2 rfl rfl rfl hl.1 rfl (Nat.le_of_ble_eq_true rfl) dX8_proofs_61) hP (fun H locs hP => ?_)
            obtain rfl := Option.some.inj h
            have hK : (q3, q2) = r0 := hK
            have hK1 := congrArg Prod.fst hK
            have hK2 := congrArg Prod.snd hK
            exact w_iret C hlk hr hP hK1 hK2 dX8_proofs_64
          replace h := iff' h hc0
          by_cases hc1 : v2 = 1
          · replace h := ift h hc1
            refine lv_lookup (off := 34) (tgt := 65) hx hb_ dX8_proofs_31 (by decide +kernel) (by rw [hc1]; decide +kernel) (by decide) ?_
            refine lv_aload_n hx hb_ dX8_proofs_65 rfl (lv_at hl 0 rfl) ?_
            refine w_get C hP (k := 0) (by decide) 6 rfl rfl inWX8 8 (by decide) wt292 (v := .ref (ad 39)) rfl dX8_proofs_66 ?_
            refine lv_iload_n hx hb_ dX8_proofs_69 rfl (lv_at hl 1 rfl) ?_
            obtain ⟨q4, hq4, h⟩ := bnd h
            refine w_ci (w_rV (As := [.int v1]) (rest := []) C hP (k := 39) (c_X3_shortest l D aI aL ad inj _ q2 v1 q4 hq4) (gV wt703 wt704 wt705 wt7 wt706) 1 hd_X3_shortest ⟨Nat.le_of_ble_eq_true rfl, Nat.le_of_ble_eq_true rfl⟩ (by decide) 2 rfl rfl rfl hl.1 rfl (Nat.le_of_ble_eq_true rfl) dX8_proofs_70) hP (fun H locs hP => ?_)
            obtain rfl := Option.some.inj h
            have hK : (q4, q2) = r0 := hK
            have hK1 := congrArg Prod.fst hK
            have hK2 := congrArg Prod.snd hK
            exact w_iret C hlk hr hP hK1 hK2 dX8_proofs_73
          replace h := iff' h hc1
          refine lv_lookup (off := 43) (tgt := 74) hx hb_ dX8_proofs_31 (by decide +kernel) ((by rw [lv_osw hc0 (by decide +kernel), lv_osw hc1 (by decide +kernel)]; rfl)) (by decide) ?_
          refine lv_aload_n hx hb_ dX8_proofs_74 rfl (lv_at hl 0 rfl) ?_
          refine w_get C hP (k := 0) (by decide) 6 rfl rfl inWX8 8 (by decide) wt292 (v := .ref (ad 39)) rfl dX8_proofs_75 ?_
          refine lv_iload_n hx hb_ dX8_proofs_78 rfl (lv_at hl 1 rfl) ?_
          obtain ⟨q5, hq5, h⟩ := bnd h
          refine w_ci (w_rV (As := [.int v1]) (rest := []) C hP (k := 39) (c_X3_inAll l D aI aL ad inj _ q2 v1 q5 hq5) (gV wt708 wt709 wt710 wt7 wt711) 1 hd_X3_inAll ⟨Nat.le_of_ble_eq_true rfl, Nat.le_of_ble_eq_true rfl⟩ (by decide) 2 rfl rfl rfl hl.1 rfl (Nat.le_of_ble_eq_true rfl) dX8_proofs_79) hP (fun H locs hP => ?_)
          obtain rfl := Option.some.inj h
          have hK : (q5, q2) = r0 := hK
          have hK1 := congrArg Prod.fst hK
          have hK2 := congrArg Prod.snd hK
          exact w_iret C hlk hr hP hK1 hK2 dX8_proofs_82
        · replace h := iff' h hc
          exact bk_17 σ y h hK _ _ _ hP (lv_sub hl [] rfl)
  exact bk r0 hf rfl _ _ hP
theorem hd_X8_worn : yX8_worn.cls = RX8 ∧ yX8_worn.cls ≠ "java/lang/invoke/MethodHandle" ∧ yX8_worn.cls ≠ "java/lang/invoke/VarHandle" ∧ (parseMethodDescriptor yX8_worn.desc).map (fun d => d.parameters.length) = some 2 := by decide +kernel
set_option maxHeartbeats 4000000 in
set_option maxRecDepth 100000 in
theorem c_X8_worn (l : Launch) (D : va_G) (aI aL : ClassId) (ad : Nat → Nat) (inj : Inj ad 42) (sz : Nat) (σ : Sg) (v1 : Int32) (v2 : Int32) (r0 : (Int32 × Sg)) (hf : f_X8_worn v1 v2 σ = some r0) : Met l yX8_worn (wS yX8_worn cX8_worn 3 (some .int)) (RM 4 97) (Pw D aI aL 42 shX ad sz σ [.ref (ad 0), .int v1, .int v2]) (Qi D aI aL 42 shX ad r0.1 r0.2 sz) 0 0 (AA ad 42 sz) := by
  refine Mof (Qc := Qi D aI aL 42 shX ad r0.1 r0.2) (by decide) inj (Nat.le_of_ble_eq_true rfl) ?_
  intro p e s m args below meth c ls C hlk hr hP hl
  have hx := C.1.1
  have hb_ := C.1.2.1
  have hown := C.1.2.2.2.1
  have hts := C.1.2.2.2.2
  have hl : lv_has ls 3 [(0, .ref (ad 0)), (1, .int v1), (2, .int v2)] := hl
  have bk_16 : ∀ (s_16 : Sg) (y : (Int32 × Sg)), f_X8_worn_16 s_16 = some y → (fun y => y = r0) y → ∀ (H : Heap) (locs : List Loc) (ls : Array Slot), HS D aI aL 42 shX ad s_16 s H locs → lv_has ls 3 [] → W p l e (RM 4 97) s m args below meth c H locs 0 0 (MQ below (Qi D aI aL 42 shX ad r0.1 r0.2 s.heap.size) args s 0 0 (AA ad 42 s.heap.size)) (F0 m 16 ls []) := by
    intro s_16 y h hK H locs ls hP hl
    unfold f_X8_worn_16 at h
    refine lv_iconst (v := (-1)) hx hb_ dX8_worn_16 (by decide) ?_
    obtain rfl := Option.some.inj h
    have hK : ((-1), s_16) = r0 := hK
    have hK1 := congrArg Prod.fst hK
    have hK2 := congrArg Prod.snd hK
    exact w_iret C hlk hr hP hK1 hK2 dX8_worn_17
  have bk : ∀ (y : (Int32 × Sg)), f_X8_worn v1 v2 σ = some y → y = r0 → ∀ (H : Heap) (locs : List Loc), HS D aI aL 42 shX ad σ s H locs → W p l e (RM 4 97) s m args below meth c H locs 0 0 (MQ below (Qi D aI aL 42 shX ad r0.1 r0.2 s.heap.size) args s 0 0 (AA ad 42 s.heap.size)) (F0 m 0 ls []) := by
    intro y h hK H locs hP
    unfold f_X8_worn at h
    refine lv_aload_n hx hb_ dX8_worn_0 rfl (lv_at hl 0 rfl) ?_
    refine lv_iload_n hx hb_ dX8_worn_1 rfl (lv_at hl 1 rfl) ?_
    obtain ⟨q1, hq1, h⟩ := bnd h
    refine w_ci (w_rV (As := [.int v1]) (rest := []) C hP (k := 0) (c_X8_isStone l D aI aL ad inj _ σ v1 q1 hq1) (gV wt367 wt369 wp3 wt1 wt370) 1 hd_X8_isStone ⟨Nat.le_of_ble_eq_true rfl, Nat.le_of_ble_eq_true rfl⟩ (by decide) 6 rfl rfl rfl hl.1 rfl (Nat.le_of_ble_eq_true rfl) dX8_worn_2) hP (fun H locs hP => ?_)
    refine lv_if_eq (tgt := 16) hx hb_ dX8_worn_5 (by decide) (fun hc => ?_) (fun hc => ?_)
    · replace h := ift h hc
      exact bk_16 σ y h hK _ _ _ hP (lv_sub hl [] rfl)
    · replace h := iff' h hc
      refine lv_aload_n hx hb_ dX8_worn_8 rfl (lv_at hl 0 rfl) ?_
      refine lv_iload_n hx hb_ dX8_worn_9 rfl (lv_at hl 2 rfl) ?_
      obtain ⟨q2, hq2, h⟩ := bnd h
      refine w_ci (w_rV (As := [.int v2]) (rest := []) C hP (k := 0) (c_X8_isSetOfStones l D aI aL ad inj _ σ v2 q2 hq2) (gV wt516 wt518 wp8 wt1 wt519) 1 hd_X8_isSetOfStones ⟨Nat.le_of_ble_eq_true rfl, Nat.le_of_ble_eq_true rfl⟩ (by decide) 6 rfl rfl rfl hl.1 rfl (Nat.le_of_ble_eq_true rfl) dX8_worn_10) hP (fun H locs hP => ?_)
      refine lv_if_ne (tgt := 18) hx hb_ dX8_worn_13 (by decide) (fun hc => ?_) (fun hc => ?_)
      · replace h := iff' h hc
        refine lv_aload_n hx hb_ dX8_worn_18 rfl (lv_at hl 0 rfl) ?_
        refine w_get C hP (k := 0) (by decide) 6 rfl rfl inWX8 8 (by decide) wt292 (v := .ref (ad 39)) rfl dX8_worn_19 ?_
        refine lv_aload_n hx hb_ dX8_worn_22 rfl (lv_at hl 0 rfl) ?_
        refine w_get C hP (k := 0) (by decide) 6 rfl rfl inWX8 3 (by decide) wt287 (v := .ref (ad 12)) rfl dX8_worn_23 ?_
        obtain ⟨q3, hq3, h⟩ := bnd h
        refine w_cv (w_rV (As := [.ref (ad 12)]) (rest := []) C hP (k := 39) (c_X3_reckon l D aI aL ad inj _ σ q3 hq3) (gV wt679 wt680 wt681 wt7 wt682) 1 hd_X3_reckon ⟨Nat.le_of_ble_eq_true rfl, Nat.le_of_ble_eq_true rfl⟩ (by decide) 2 rfl rfl rfl hl.1 rfl (Nat.le_of_ble_eq_true rfl) dX8_worn_26) hP (fun H locs hP => ?_)
        refine lv_aload_n hx hb_ dX8_worn_29 rfl (lv_at hl 0 rfl) ?_
        refine w_get C hP (k := 0) (by decide) 6 rfl rfl inWX8 8 (by decide) wt292 (v := .ref (ad 39)) rfl dX8_worn_30 ?_
        refine lv_aload_n hx hb_ dX8_worn_33 rfl (lv_at hl 0 rfl) ?_
        refine w_get C hP (k := 0) (by decide) 6 rfl rfl inWX8 3 (by decide) wt287 (v := .ref (ad 12)) rfl dX8_worn_34 ?_
        refine lv_iload_n hx hb_ dX8_worn_37 rfl (lv_at hl 1 rfl) ?_
        refine lv_iload_n hx hb_ dX8_worn_38 rfl (lv_at hl 2 rfl) ?_
        obtain ⟨q4, hq4, h⟩ := bnd h
        refine w_ci (w_rV (As := [.ref (ad 12), .int v1, .int v2]) (rest := []) C hP (k := 39) (c_X3_howManyWear l D aI aL ad inj _ q3 v1 v2 q4 hq4) (gV wt716 wt717 wt718 wt7 wt719) 3 hd_X3_howManyWear ⟨Nat.le_of_ble_eq_true rfl, Nat.le_of_ble_eq_true rfl⟩ (by decide) 2 rfl rfl rfl hl.1 rfl (Nat.le_of_ble_eq_true rfl) dX8_worn_39) hP (fun H locs hP => ?_)
        obtain rfl := Option.some.inj h
        have hK : (q4, q3) = r0 := hK
        have hK1 := congrArg Prod.fst hK
        have hK2 := congrArg Prod.snd hK
        exact w_iret C hlk hr hP hK1 hK2 dX8_worn_42
      · replace h := ift h hc
        exact bk_16 σ y h hK _ _ _ hP (lv_sub hl [] rfl)
  exact bk r0 hf rfl _ _ hP
theorem hd_X8_tell : yX8_tell.cls = RX8 ∧ yX8_tell.cls ≠ "java/lang/invoke/MethodHandle" ∧ yX8_tell.cls ≠ "java/lang/invoke/VarHandle" ∧ (parseMethodDescriptor yX8_tell.desc).map (fun d => d.parameters.length) = some 1 := by decide +kernel
set_option maxHeartbeats 4000000 in
set_option maxRecDepth 100000 in
theorem c_X8_tell (l : Launch) (D : va_G) (aI aL : ClassId) (ad : Nat → Nat) (inj : Inj ad 42) (sz : Nat) (σ : Sg) (v1 : Int32) (r0 : (Int32 × Sg)) (hf : f_X8_tell v1 σ = some r0) : Met l yX8_tell (wS yX8_tell cX8_tell 2 (some .int)) (RM 2 41) (Pw D aI aL 42 shX ad sz σ [.ref (ad 0), .int v1]) (Qi D aI aL 42 shX ad r0.1 r0.2 sz) 0 0 (AA ad 42 sz) := by
  refine Mof (Qc := Qi D aI aL 42 shX ad r0.1 r0.2) (by decide) inj (Nat.le_of_ble_eq_true rfl) ?_
  intro p e s m args below meth c ls C hlk hr hP hl
  have hx := C.1.1
  have hb_ := C.1.2.1
  have hown := C.1.2.2.2.1
  have hts := C.1.2.2.2.2
  have hl : lv_has ls 2 [(0, .ref (ad 0)), (1, .int v1)] := hl
  have bk : ∀ (y : (Int32 × Sg)), f_X8_tell v1 σ = some y → y = r0 → ∀ (H : Heap) (locs : List Loc), HS D aI aL 42 shX ad σ s H locs → W p l e (RM 2 41) s m args below meth c H locs 0 0 (MQ below (Qi D aI aL 42 shX ad r0.1 r0.2 s.heap.size) args s 0 0 (AA ad 42 s.heap.size)) (F0 m 0 ls []) := by
    intro y h hK H locs hP
    unfold f_X8_tell at h
    refine lv_aload_n hx hb_ dX8_tell_0 rfl (lv_at hl 0 rfl) ?_
    refine lv_iload_n hx hb_ dX8_tell_1 rfl (lv_at hl 1 rfl) ?_
    obtain ⟨q1, hq1, h⟩ := bnd h
    refine w_ci (w_rV (As := [.int v1]) (rest := []) C hP (k := 0) (c_X8_isStep l D aI aL ad inj _ σ v1 q1 hq1) (gV wt399 wt401 wp4 wt1 wt402) 1 hd_X8_isStep ⟨Nat.le_of_ble_eq_true rfl, Nat.le_of_ble_eq_true rfl⟩ (by decide) 6 rfl rfl rfl hl.1 rfl (Nat.le_of_ble_eq_true rfl) dX8_tell_2) hP (fun H locs hP => ?_)
    refine lv_if_ne (tgt := 10) hx hb_ dX8_tell_5 (by decide) (fun hc => ?_) (fun hc => ?_)
    · replace h := iff' h hc
      refine lv_aload_n hx hb_ dX8_tell_10 rfl (lv_at hl 0 rfl) ?_
      refine w_get C hP (k := 0) (by decide) 6 rfl rfl inWX8 10 (by decide) wt294 (v := .int (σ.1 0 10)) rfl dX8_tell_11 ?_
      refine lv_bipush (v := 12) hx hb_ dX8_tell_14 (by decide) ?_
      refine lv_icmp_lt (tgt := 22) hx hb_ dX8_tell_16 (by decide) (fun hc => ?_) (fun hc => ?_)
      · replace h := ift h hc
        refine lv_aload_n hx hb_ dX8_tell_22 rfl (lv_at hl 0 rfl) ?_
        refine w_get C hP (k := 0) (by decide) 6 rfl rfl inWX8 9 (by decide) wt293 (v := .ref (ad 41)) rfl dX8_tell_23 ?_
        refine lv_aload_n hx hb_ dX8_tell_26 rfl (lv_at hl 0 rfl) ?_
        refine w_get C hP (k := 0) (by decide) 6 rfl rfl inWX8 10 (by decide) wt294 (v := .int (σ.1 0 10)) rfl dX8_tell_27 ?_
        refine lv_iload_n hx hb_ dX8_tell_30 rfl (lv_at hl 1 rfl) ?_
        obtain ⟨q2, hq2, h⟩ := bnd h
        refine w_cv (w_rS (As := [.ref (ad 41), .int (σ.1 0 10), .int v1]) (rest := []) C hP (c_X8_put l D aI aL ad inj _ σ 41 12 (by decide) rfl (σ.1 0 10) v1 q2 hq2) wt728 wt191 wt1 wt192 3 hd_X8_put ⟨Nat.le_of_ble_eq_true rfl, Nat.le_of_ble_eq_true rfl⟩ rfl hl.1 rfl (Nat.le_of_ble_eq_true rfl) dX8_tell_31) hP (fun H locs hP => ?_)
        refine lv_aload_n hx hb_ dX8_tell_34 rfl (lv_at hl 0 rfl) ?_
        refine lv_dup hx hb_ dX8_tell_35 rfl ?_
        refine w_get C hP (k := 0) (by decide) 6 rfl rfl inWX8 10 (by decide) wt294 (v := .int (q2.1 0 10)) rfl dX8_tell_36 ?_
        refine lv_iconst (v := 1) hx hb_ dX8_tell_39 (by decide) ?_
        refine lv_iadd hx hb_ dX8_tell_40 ?_
        obtain ⟨s3, hs3, h⟩ := bnd h
        refine w_puti C hP (k := 0) (by decide) 6 rfl rfl inWX8 tyX8 tyX8_ok nmX8 10 (by decide) wt294 rfl rfl rfl rfl hs3 dX8_tell_41 (fun H locs hP => ?_)
        refine lv_aload_n hx hb_ dX8_tell_44 rfl (lv_at hl 0 rfl) ?_
        refine w_get C hP (k := 0) (by decide) 6 rfl rfl inWX8 10 (by decide) wt294 (v := .int (s3.1 0 10)) rfl dX8_tell_45 ?_
        obtain rfl := Option.some.inj h
        have hK : ((s3.1 0 10), s3) = r0 := hK
        have hK1 := congrArg Prod.fst hK
        have hK2 := congrArg Prod.snd hK
        exact w_iret C hlk hr hP hK1 hK2 dX8_tell_48
      · replace h := iff' h hc
        refine lv_bipush (v := (-3)) hx hb_ dX8_tell_19 (by decide) ?_
        obtain rfl := Option.some.inj h
        have hK : ((-3), σ) = r0 := hK
        have hK1 := congrArg Prod.fst hK
        have hK2 := congrArg Prod.snd hK
        exact w_iret C hlk hr hP hK1 hK2 dX8_tell_21
    · replace h := ift h hc
      refine lv_iconst (v := (-1)) hx hb_ dX8_tell_8 (by decide) ?_
      obtain rfl := Option.some.inj h
      have hK : ((-1), σ) = r0 := hK
      have hK1 := congrArg Prod.fst hK
      have hK2 := congrArg Prod.snd hK
      exact w_iret C hlk hr hP hK1 hK2 dX8_tell_9
  exact bk r0 hf rfl _ _ hP
theorem hd_X8_noRow : yX8_noRow.cls = RX8 ∧ yX8_noRow.cls ≠ "java/lang/invoke/MethodHandle" ∧ yX8_noRow.cls ≠ "java/lang/invoke/VarHandle" ∧ (parseMethodDescriptor yX8_noRow.desc).map (fun d => d.parameters.length) = some 0 := by decide +kernel
set_option maxHeartbeats 4000000 in
set_option maxRecDepth 100000 in
theorem c_X8_noRow (l : Launch) (D : va_G) (aI aL : ClassId) (ad : Nat → Nat) (inj : Inj ad 42) (sz : Nat) (σ : Sg) (r0 : (Int32 × Sg)) (hf : f_X8_noRow σ = some r0) : Met l yX8_noRow (wS yX8_noRow cX8_noRow 2 (some .int)) (RM 0 0) (Pw D aI aL 42 shX ad sz σ [.ref (ad 0)]) (Qi D aI aL 42 shX ad r0.1 r0.2 sz) 0 0 (AA ad 42 sz) := by
  refine Mof (Qc := Qi D aI aL 42 shX ad r0.1 r0.2) (by decide) inj (Nat.le_of_ble_eq_true rfl) ?_
  intro p e s m args below meth c ls C hlk hr hP hl
  have hx := C.1.1
  have hb_ := C.1.2.1
  have hown := C.1.2.2.2.1
  have hts := C.1.2.2.2.2
  have hl : lv_has ls 2 [(0, .ref (ad 0))] := hl
  have bk : ∀ (y : (Int32 × Sg)), f_X8_noRow σ = some y → y = r0 → ∀ (H : Heap) (locs : List Loc), HS D aI aL 42 shX ad σ s H locs → W p l e (RM 0 0) s m args below meth c H locs 0 0 (MQ below (Qi D aI aL 42 shX ad r0.1 r0.2 s.heap.size) args s 0 0 (AA ad 42 s.heap.size)) (F0 m 0 ls []) := by
    intro y h hK H locs hP
    unfold f_X8_noRow at h
    refine lv_aload_n hx hb_ dX8_noRow_0 rfl (lv_at hl 0 rfl) ?_
    refine w_get C hP (k := 0) (by decide) 6 rfl rfl inWX8 10 (by decide) wt294 (v := .int (σ.1 0 10)) rfl dX8_noRow_1 ?_
    obtain ⟨x1, hx1, h⟩ := nm_inv h
    refine w_ni hx1 ?_
    refine lv_istore_n (lv' := [(1, .int x1), (0, .ref (ad 0))]) hx hb_ dX8_noRow_4 rfl hl (by decide) rfl (fun ls hl => ?_)
    refine lv_aload_n hx hb_ dX8_noRow_5 rfl (lv_at hl 1 rfl) ?_
    refine lv_iconst (v := 0) hx hb_ dX8_noRow_6 (by decide) ?_
    obtain ⟨s2, hs2, h⟩ := bnd h
    refine w_puti C hP (k := 0) (by decide) 6 rfl rfl inWX8 tyX8 tyX8_ok nmX8 10 (by decide) wt294 rfl rfl rfl rfl hs2 dX8_noRow_7 (fun H locs hP => ?_)
    refine lv_iload_n hx hb_ dX8_noRow_10 rfl (lv_at hl 0 rfl) ?_
    obtain rfl := Option.some.inj h
    have hK : (x1, s2) = r0 := hK
    have hK1 := congrArg Prod.fst hK
    have hK2 := congrArg Prod.snd hK
    exact w_iret C hlk hr hP hK1 hK2 dX8_noRow_11
  exact bk r0 hf rfl _ _ hP
theorem hd_X8_judge : yX8_judge.cls = RX8 ∧ yX8_judge.cls ≠ "java/lang/invoke/MethodHandle" ∧ yX8_judge.cls ≠ "java/lang/invoke/VarHandle" ∧ (parseMethodDescriptor yX8_judge.desc).map (fun d => d.parameters.length) = some 0 := by decide +kernel
set_option maxHeartbeats 4000000 in
set_option maxRecDepth 100000 in
theorem c_X8_judge (l : Launch) (D : va_G) (aI aL : ClassId) (ad : Nat → Nat) (inj : Inj ad 42) (sz : Nat) (σ : Sg) (r0 : Int32) (hf : f_X8_judge σ = some r0) : Met l yX8_judge (wS yX8_judge cX8_judge 4 (some .int)) (RM 3 67) (Pw D aI aL 42 shX ad sz σ [.ref (ad 0)]) (Qi D aI aL 42 shX ad r0 σ sz) 0 0 (AA ad 42 sz) := by
  refine Mof (Qc := Qi D aI aL 42 shX ad r0 σ) (by decide) inj (Nat.le_of_ble_eq_true rfl) ?_
  intro p e s m args below meth c ls C hlk hr hP hl
  have hx := C.1.1
  have hb_ := C.1.2.1
  have hown := C.1.2.2.2.1
  have hts := C.1.2.2.2.2
  have hl : lv_has ls 4 [(0, .ref (ad 0))] := hl
  have lp_10 : ∀ (n_10 : Nat) (v1_10 : Int32) (v2_10 : Int32) (y : Int32), itr n_10 (fun s => f_X8_judge_10s s.1 s.2 σ) (v1_10, v2_10) = some y → (fun y => y = r0) y → ∀ (H : Heap) (locs : List Loc) (ls : Array Slot), HS D aI aL 42 shX ad σ s H locs → lv_has ls 4 [(0, .ref (ad 0)), (1, .int v1_10), (2, .int v2_10)] → W p l e (RM 3 67) s m args below meth c H locs 0 0 (MQ below (Qi D aI aL 42 shX ad r0 σ s.heap.size) args s 0 0 (AA ad 42 s.heap.size)) (F0 m 10 ls []) := by
    intro n_10
    induction n_10 with
    | zero =>
      intro v1_10 v2_10 y h hK
      cases (show (none : Option Int32) = some y from h)
    | succ n_10 ih_10 =>
      intro v1_10 v2_10 y h hK H locs ls hP hl
      obtain ⟨y, h, hK⟩ := itr_inv (K := (fun y => y = r0)) h hK
      replace h : f_X8_judge_10s v1_10 v2_10 σ = some y := h
      unfold f_X8_judge_10s at h
      refine lv_iload_n hx hb_ dX8_judge_10 rfl (lv_at hl 2 rfl) ?_
      refine lv_aload_n hx hb_ dX8_judge_11 rfl (lv_at hl 0 rfl) ?_
      refine w_get C hP (k := 0) (by decide) 6 rfl rfl inWX8 10 (by decide) wt294 (v := .int (σ.1 0 10)) rfl dX8_judge_12 ?_
      refine lv_icmp_ge (tgt := 50) hx hb_ dX8_judge_15 (by decide) (fun hc => ?_) (fun hc => ?_)
      · replace h := ift h hc
        refine lv_bipush (v := (-4)) hx hb_ dX8_judge_50 (by decide) ?_
        obtain rfl := Option.some.inj h
        have hK : ((-4) : Int32) = r0 := hK
        exact w_iret C hlk hr hP hK rfl dX8_judge_52
      · replace h := iff' h hc
        refine lv_aload_n hx hb_ dX8_judge_18 rfl (lv_at hl 0 rfl) ?_
        refine w_get C hP (k := 0) (by decide) 6 rfl rfl inWX8 3 (by decide) wt287 (v := .ref (ad 12)) rfl dX8_judge_19 ?_
        refine lv_aload_n hx hb_ dX8_judge_22 rfl (lv_at hl 0 rfl) ?_
        refine w_get C hP (k := 0) (by decide) 6 rfl rfl inWX8 9 (by decide) wt293 (v := .ref (ad 41)) rfl dX8_judge_23 ?_
        refine lv_iload_n hx hb_ dX8_judge_26 rfl (lv_at hl 2 rfl) ?_
        obtain ⟨q2, hq2, h⟩ := bnd h
        refine w_ci (w_rS (As := [.ref (ad 41), .int v2_10]) (rest := [.ref (ad 12)]) C hP (c_X8_at l D aI aL ad inj _ σ 41 12 (by decide) rfl v2_10 q2 hq2) wt737 wt225 wt1 wt226 2 hd_X8_at ⟨Nat.le_of_ble_eq_true rfl, Nat.le_of_ble_eq_true rfl⟩ rfl hl.1 rfl (Nat.le_of_ble_eq_true rfl) dX8_judge_27) hP (fun H locs hP => ?_)
        refine lv_iload_n hx hb_ dX8_judge_30 rfl (lv_at hl 1 rfl) ?_
        obtain ⟨q3, hq3, h⟩ := bnd h
        refine w_ci (w_rV (As := [.int q2, .int v1_10]) (rest := []) C hP (k := 12) (c_X1_after l D aI aL ad inj _ σ 12 fl12 q2 v1_10 q3 hq3) (gV wt738 wt420 wt421 wt4 wt422) 2 hd_X1_after ⟨Nat.le_of_ble_eq_true rfl, Nat.le_of_ble_eq_true rfl⟩ (by decide) 0 rfl rfl rfl hl.1 rfl (Nat.le_of_ble_eq_true rfl) dX8_judge_31) hP (fun H locs hP => ?_)
        refine lv_istore_n (lv' := [(3, .int q3), (0, .ref (ad 0)), (1, .int v1_10), (2, .int v2_10)]) hx hb_ dX8_judge_34 rfl hl (by decide) rfl (fun ls hl => ?_)
        refine lv_iload_n hx hb_ dX8_judge_35 rfl (lv_at hl 0 rfl) ?_
        refine lv_iload_n hx hb_ dX8_judge_36 rfl (lv_at hl 2 rfl) ?_
        refine lv_icmp_ne (tgt := 42) hx hb_ dX8_judge_37 (by decide) (fun hc => ?_) (fun hc => ?_)
        · replace h := iff' h hc
          refine lv_iload_n hx hb_ dX8_judge_42 rfl (lv_at hl 0 rfl) ?_
          refine lv_istore_n (lv' := [(1, .int q3), (3, .int q3), (0, .ref (ad 0)), (2, .int v2_10)]) hx hb_ dX8_judge_43 rfl hl (by decide) rfl (fun ls hl => ?_)
          obtain ⟨x4, hx4, h⟩ := nm_inv h
          refine lv_iinc (v := x4) (lv' := [(2, .int x4), (1, .int q3), (3, .int q3), (0, .ref (ad 0))]) hx hb_ dX8_judge_44 hl (k := 3) rfl (by rw [hx4]; rfl) (by decide) rfl (fun ls hl => ?_)
          refine lv_goto (tgt := 10) hx hb_ dX8_judge_47 (by decide) ?_
          obtain rfl := Option.some.inj h
          obtain ⟨y2, h, hK⟩ := hK
          exact ih_10 q3 x4 y2 h hK _ _ _ hP (lv_sub hl [3, 1, 0] rfl)
        · replace h := ift h hc
          refine lv_iload_n hx hb_ dX8_judge_40 rfl (lv_at hl 3 rfl) ?_
          obtain rfl := Option.some.inj h
          have hK : (v2_10 : Int32) = r0 := hK
          exact w_iret C hlk hr hP hK rfl dX8_judge_41
  have bk_10 : ∀ (v1_10 : Int32) (v2_10 : Int32) (y : Int32), f_X8_judge_10 v1_10 v2_10 σ = some y → (fun y => y = r0) y → ∀ (H : Heap) (locs : List Loc) (ls : Array Slot), HS D aI aL 42 shX ad σ s H locs → lv_has ls 4 [(0, .ref (ad 0)), (1, .int v1_10), (2, .int v2_10)] → W p l e (RM 3 67) s m args below meth c H locs 0 0 (MQ below (Qi D aI aL 42 shX ad r0 σ s.heap.size) args s 0 0 (AA ad 42 s.heap.size)) (F0 m 10 ls []) := fun v1_10 v2_10 y h hK => lp_10 3000 v1_10 v2_10 y h hK
  have bk : ∀ (y : Int32), f_X8_judge σ = some y → y = r0 → ∀ (H : Heap) (locs : List Loc), HS D aI aL 42 shX ad σ s H locs → W p l e (RM 3 67) s m args below meth c H locs 0 0 (MQ below (Qi D aI aL 42 shX ad r0 σ s.heap.size) args s 0 0 (AA ad 42 s.heap.size)) (F0 m 0 ls []) := by
    intro y h hK H locs hP
    unfold f_X8_judge at h
    refine lv_aload_n hx hb_ dX8_judge_0 rfl (lv_at hl 0 rfl) ?_
    refine w_get C hP (k := 0) (by decide) 6 rfl rfl inWX8 3 (by decide) wt287 (v := .ref (ad 12)) rfl dX8_judge_1 ?_
    obtain ⟨q1, hq1, h⟩ := bnd h
    refine w_ci (w_rV (As := []) (rest := []) C hP (k := 12) (c_X1_stood l D aI aL ad inj _ σ 12 fl12 q1 hq1) (gV wt379 wt380 wt381 wt4 wt382) 0 hd_X1_stood ⟨Nat.le_of_ble_eq_true rfl, Nat.le_of_ble_eq_true rfl⟩ (by decide) 0 rfl rfl rfl hl.1 rfl (Nat.le_of_ble_eq_true rfl) dX8_judge_4) hP (fun H locs hP => ?_)
    refine lv_istore_n (lv' := [(1, .int q1), (0, .ref (ad 0))]) hx hb_ dX8_judge_7 rfl hl (by decide) rfl (fun ls hl => ?_)
    refine lv_iconst (v := 0) hx hb_ dX8_judge_8 (by decide) ?_
    refine lv_istore_n (lv' := [(2, .int 0), (1, .int q1), (0, .ref (ad 0))]) hx hb_ dX8_judge_9 rfl hl (by decide) rfl (fun ls hl => ?_)
    exact bk_10 q1 0 y h hK _ _ _ hP (lv_sub hl [2, 1, 0] rfl)
  exact bk r0 hf rfl _ _ hP
theorem hd_X8_drawnStep : yX8_drawnStep.cls = RX8 ∧ yX8_drawnStep.cls ≠ "java/lang/invoke/MethodHandle" ∧ yX8_drawnStep.cls ≠ "java/lang/invoke/VarHandle" ∧ (parseMethodDescriptor yX8_drawnStep.desc).map (fun d => d.parameters.length) = some 2 := by decide +kernel
set_option maxHeartbeats 4000000 in
set_option maxRecDepth 100000 in
theorem c_X8_drawnStep (l : Launch) (D : va_G) (aI aL : ClassId) (ad : Nat → Nat) (inj : Inj ad 42) (sz : Nat) (σ : Sg) (v1 : Int32) (v2 : Int32) (r0 : Int32) (hf : f_X8_drawnStep v1 v2 σ = some r0) : Met l yX8_drawnStep (wS yX8_drawnStep cX8_drawnStep 6 (some .int)) (RM 1 20) (Pw D aI aL 42 shX ad sz σ [.ref (ad 0), .int v1, .int v2]) (Qi D aI aL 42 shX ad r0 σ sz) 0 0 (AA ad 42 sz) := by
  refine Mof (Qc := Qi D aI aL 42 shX ad r0 σ) (by decide) inj (Nat.le_of_ble_eq_true rfl) ?_
  intro p e s m args below meth c ls C hlk hr hP hl
  have hx := C.1.1
  have hb_ := C.1.2.1
  have hown := C.1.2.2.2.1
  have hts := C.1.2.2.2.2
  have hl : lv_has ls 6 [(0, .ref (ad 0)), (1, .int v1), (2, .int v2)] := hl
  have bk : ∀ (y : Int32), f_X8_drawnStep v1 v2 σ = some y → y = r0 → ∀ (H : Heap) (locs : List Loc), HS D aI aL 42 shX ad σ s H locs → W p l e (RM 1 20) s m args below meth c H locs 0 0 (MQ below (Qi D aI aL 42 shX ad r0 σ s.heap.size) args s 0 0 (AA ad 42 s.heap.size)) (F0 m 0 ls []) := by
    intro y h hK H locs hP
    unfold f_X8_drawnStep at h
    refine lv_aload_n hx hb_ dX8_drawnStep_0 rfl (lv_at hl 0 rfl) ?_
    refine w_get C hP (k := 0) (by decide) 6 rfl rfl inWX8 3 (by decide) wt287 (v := .ref (ad 12)) rfl dX8_drawnStep_1 ?_
    obtain ⟨q1, hq1, h⟩ := bnd h
    refine w_ci (w_rV (As := []) (rest := []) C hP (k := 12) (c_X1_stepCount l D aI aL ad inj _ σ 12 fl12 q1 hq1) (gV wt340 wt341 wt342 wt4 wt343) 0 hd_X1_stepCount ⟨Nat.le_of_ble_eq_true rfl, Nat.le_of_ble_eq_true rfl⟩ (by decide) 0 rfl rfl rfl hl.1 rfl (Nat.le_of_ble_eq_true rfl) dX8_drawnStep_4) hP (fun H locs hP => ?_)
    refine lv_istore_n (lv' := [(3, .int q1), (0, .ref (ad 0)), (1, .int v1), (2, .int v2)]) hx hb_ dX8_drawnStep_7 rfl hl (by decide) rfl (fun ls hl => ?_)
    refine lv_iload_n hx hb_ dX8_drawnStep_8 rfl (lv_at hl 0 rfl) ?_
    refine lv_if_ne (tgt := 14) hx hb_ dX8_drawnStep_9 (by decide) (fun hc => ?_) (fun hc => ?_)
    · replace h := iff' h hc
      refine lv_ldc2 hx hb_ hown (hts _ wt747) dX8_drawnStep_14 ?_
      refine lv_iload_n hx hb_ dX8_drawnStep_17 rfl (lv_at hl 2 rfl) ?_
      refine lv_i2l hx hb_ dX8_drawnStep_18 rfl ?_
      refine lv_lmul hx hb_ dX8_drawnStep_19 ?_
      refine lv_ldc2 hx hb_ hown (hts _ wt748) dX8_drawnStep_20 ?_
      refine lv_iload_n hx hb_ dX8_drawnStep_23 rfl (lv_at hl 3 rfl) ?_
      refine lv_i2l hx hb_ dX8_drawnStep_24 rfl ?_
      refine lv_lmul hx hb_ dX8_drawnStep_25 ?_
      refine lv_ladd hx hb_ dX8_drawnStep_26 ?_
      refine lv_lconst (v := 1) hx hb_ dX8_drawnStep_27 (by decide) ?_
      refine lv_ladd hx hb_ dX8_drawnStep_28 ?_
      obtain ⟨x2, hx2, h⟩ := nm_inv h
      refine w_nl hx2 ?_
      refine lv_lstore (lv' := [(4, .long x2), (3, .int q1), (0, .ref (ad 0)), (1, .int v1), (2, .int v2)]) hx hb_ dX8_drawnStep_29 hl (by decide) rfl (fun ls hl => ?_)
      refine lv_lload hx hb_ dX8_drawnStep_31 (lv_at hl 0 rfl) ?_
      refine lv_lload hx hb_ dX8_drawnStep_33 (lv_at hl 0 rfl) ?_
      refine lv_lmul hx hb_ dX8_drawnStep_35 ?_
      refine lv_ldc2 hx hb_ hown (hts _ wt749) dX8_drawnStep_36 ?_
      obtain ⟨x3, hx3, h⟩ := bnd h
      refine w_lrm C hx3 dX8_drawnStep_39 ?_
      refine lv_iload_n hx hb_ dX8_drawnStep_40 rfl (lv_at hl 1 rfl) ?_
      refine lv_i2l hx hb_ dX8_drawnStep_41 rfl ?_
      obtain ⟨x4, hx4, h⟩ := bnd h
      refine w_lrm C hx4 dX8_drawnStep_42 ?_
      refine lv_l2i hx hb_ dX8_drawnStep_43 rfl ?_
      obtain rfl := Option.some.inj h
      have hK : (((x4 : Int64).toInt32) : Int32) = r0 := hK
      exact w_iret C hlk hr hP hK rfl dX8_drawnStep_44
    · replace h := ift h hc
      refine lv_iconst (v := 0) hx hb_ dX8_drawnStep_12 (by decide) ?_
      obtain rfl := Option.some.inj h
      have hK : (0 : Int32) = r0 := hK
      exact w_iret C hlk hr hP hK rfl dX8_drawnStep_13
  exact bk r0 hf rfl _ _ hP
theorem hd_X8_year : yX8_year.cls = RX8 ∧ yX8_year.cls ≠ "java/lang/invoke/MethodHandle" ∧ yX8_year.cls ≠ "java/lang/invoke/VarHandle" ∧ (parseMethodDescriptor yX8_year.desc).map (fun d => d.parameters.length) = some 3 := by decide +kernel
set_option maxHeartbeats 4000000 in
set_option maxRecDepth 100000 in
theorem c_X8_year (l : Launch) (D : va_G) (aI aL : ClassId) (ad : Nat → Nat) (inj : Inj ad 42) (sz : Nat) (σ : Sg) (v1 : Int32) (v2 : Int32) (v3 : Int32) (r0 : Int32) (hf : f_X8_year v1 v2 v3 σ = some r0) : Met l yX8_year (wS yX8_year cX8_year 6 (some .int)) (RM 3 67) (Pw D aI aL 42 shX ad sz σ [.ref (ad 0), .int v1, .int v2, .int v3]) (Qi D aI aL 42 shX ad r0 σ sz) 0 0 (AA ad 42 sz) := by
  refine Mof (Qc := Qi D aI aL 42 shX ad r0 σ) (by decide) inj (Nat.le_of_ble_eq_true rfl) ?_
  intro p e s m args below meth c ls C hlk hr hP hl
  have hx := C.1.1
  have hb_ := C.1.2.1
  have hown := C.1.2.2.2.1
  have hts := C.1.2.2.2.2
  have hl : lv_has ls 6 [(0, .ref (ad 0)), (1, .int v1), (2, .int v2), (3, .int v3)] := hl
  have bk_31 : ∀ (y : Int32), f_X8_year_31 σ = some y → (fun y => y = r0) y → ∀ (H : Heap) (locs : List Loc) (ls : Array Slot), HS D aI aL 42 shX ad σ s H locs → lv_has ls 6 [] → W p l e (RM 3 67) s m args below meth c H locs 0 0 (MQ below (Qi D aI aL 42 shX ad r0 σ s.heap.size) args s 0 0 (AA ad 42 s.heap.size)) (F0 m 31 ls []) := by
    intro y h hK H locs ls hP hl
    unfold f_X8_year_31 at h
    refine lv_iconst (v := (-1)) hx hb_ dX8_year_31 (by decide) ?_
    obtain rfl := Option.some.inj h
    have hK : ((-1) : Int32) = r0 := hK
    exact w_iret C hlk hr hP hK rfl dX8_year_32
  have bk_100 : ∀ (t0_100 : Int32) (y : Int32), f_X8_year_100 t0_100 σ = some y → (fun y => y = r0) y → ∀ (H : Heap) (locs : List Loc) (ls : Array Slot), HS D aI aL 42 shX ad σ s H locs → lv_has ls 6 [] → W p l e (RM 3 67) s m args below meth c H locs 0 0 (MQ below (Qi D aI aL 42 shX ad r0 σ s.heap.size) args s 0 0 (AA ad 42 s.heap.size)) (F0 m 100 ls [.int t0_100]) := by
    intro t0_100 y h hK H locs ls hP hl
    unfold f_X8_year_100 at h
    obtain rfl := Option.some.inj h
    have hK : (t0_100 : Int32) = r0 := hK
    exact w_iret C hlk hr hP hK rfl dX8_year_100
  have lp_45 : ∀ (n_45 : Nat) (v4_45 : Int32) (v5_45 : Int32) (y : Int32), itr n_45 (fun s => f_X8_year_45s v1 v2 v3 s.1 s.2 σ) (v4_45, v5_45) = some y → (fun y => y = r0) y → ∀ (H : Heap) (locs : List Loc) (ls : Array Slot), HS D aI aL 42 shX ad σ s H locs → lv_has ls 6 [(0, .ref (ad 0)), (1, .int v1), (2, .int v2), (3, .int v3), (4, .int v4_45), (5, .int v5_45)] → W p l e (RM 3 67) s m args below meth c H locs 0 0 (MQ below (Qi D aI aL 42 shX ad r0 σ s.heap.size) args s 0 0 (AA ad 42 s.heap.size)) (F0 m 45 ls []) := by
    intro n_45
    induction n_45 with
    | zero =>
      intro v4_45 v5_45 y h hK
      cases (show (none : Option Int32) = some y from h)
    | succ n_45 ih_45 =>
      intro v4_45 v5_45 y h hK H locs ls hP hl
      obtain ⟨y, h, hK⟩ := itr_inv (K := (fun y => y = r0)) h hK
      replace h : f_X8_year_45s v1 v2 v3 v4_45 v5_45 σ = some y := h
      unfold f_X8_year_45s at h
      refine lv_iload hx hb_ dX8_year_45 (lv_at hl 5 rfl) ?_
      refine lv_iload_n hx hb_ dX8_year_47 rfl (lv_at hl 2 rfl) ?_
      refine lv_icmp_ge (tgt := 75) hx hb_ dX8_year_48 (by decide) (fun hc => ?_) (fun hc => ?_)
      · replace h := ift h hc
        refine lv_iload_n hx hb_ dX8_year_75 rfl (lv_at hl 3 rfl) ?_
        refine lv_if_ne (tgt := 98) hx hb_ dX8_year_76 (by decide) (fun hc => ?_) (fun hc => ?_)
        · replace h := iff' h hc
          refine lv_iload hx hb_ dX8_year_98 (lv_at hl 4 rfl) ?_
          obtain ⟨y2, h2, rfl⟩ := mapi h
          exact bk_100 v4_45 y2 h2 hK _ _ _ hP (lv_sub hl [] rfl)
        · replace h := ift h hc
          refine lv_iload hx hb_ dX8_year_79 (lv_at hl 4 rfl) ?_
          obtain ⟨q2, hq2, h⟩ := bnd h
          refine w_ci (w_rS (As := [.int v4_45]) (rest := []) C hP (c_J6_bitCount_0f7a4 l D aI aL ad inj _ σ v4_45 q2 hq2) wt453 wt454 wt13 wt455 1 hd_J6_bitCount_0f7a4 ⟨Nat.le_of_ble_eq_true rfl, Nat.le_of_ble_eq_true rfl⟩ rfl hl.1 rfl (Nat.le_of_ble_eq_true rfl) dX8_year_81) hP (fun H locs hP => ?_)
          refine lv_aload_n hx hb_ dX8_year_84 rfl (lv_at hl 0 rfl) ?_
          refine w_get C hP (k := 0) (by decide) 6 rfl rfl inWX8 3 (by decide) wt287 (v := .ref (ad 12)) rfl dX8_year_85 ?_
          obtain ⟨q3, hq3, h⟩ := bnd h
          refine w_ci (w_rV (As := []) (rest := [.int q2]) C hP (k := 12) (c_X1_stood l D aI aL ad inj _ σ 12 fl12 q3 hq3) (gV wt379 wt380 wt381 wt4 wt382) 0 hd_X1_stood ⟨Nat.le_of_ble_eq_true rfl, Nat.le_of_ble_eq_true rfl⟩ (by decide) 0 rfl rfl rfl hl.1 rfl (Nat.le_of_ble_eq_true rfl) dX8_year_88) hP (fun H locs hP => ?_)
          obtain ⟨q4, hq4, h⟩ := bnd h
          refine w_ci (w_rS (As := [.int q3]) (rest := [.int q2]) C hP (c_J6_bitCount_0f7a4 l D aI aL ad inj _ σ q3 q4 hq4) wt453 wt454 wt13 wt455 1 hd_J6_bitCount_0f7a4 ⟨Nat.le_of_ble_eq_true rfl, Nat.le_of_ble_eq_true rfl⟩ rfl hl.1 rfl (Nat.le_of_ble_eq_true rfl) dX8_year_91) hP (fun H locs hP => ?_)
          refine lv_isub hx hb_ dX8_year_94 ?_
          refine lv_goto (tgt := 100) hx hb_ dX8_year_95 (by decide) ?_
          obtain ⟨y2, h2, rfl⟩ := mapi h
          exact bk_100 (q2 - q4) y2 h2 hK _ _ _ hP (lv_sub hl [] rfl)
      · replace h := iff' h hc
        refine lv_aload_n hx hb_ dX8_year_51 rfl (lv_at hl 0 rfl) ?_
        refine w_get C hP (k := 0) (by decide) 6 rfl rfl inWX8 3 (by decide) wt287 (v := .ref (ad 12)) rfl dX8_year_52 ?_
        refine lv_aload_n hx hb_ dX8_year_55 rfl (lv_at hl 0 rfl) ?_
        refine lv_iload_n hx hb_ dX8_year_56 rfl (lv_at hl 1 rfl) ?_
        refine lv_iload hx hb_ dX8_year_57 (lv_at hl 5 rfl) ?_
        obtain ⟨q5, hq5, h⟩ := bnd h
        refine w_ci (w_rV (As := [.int v1, .int v5_45]) (rest := [.ref (ad 12)]) C hP (k := 0) (c_X8_drawnStep l D aI aL ad inj _ σ v1 v5_45 q5 hq5) (gV wt743 wt745 wp11 wt1 wt746) 2 hd_X8_drawnStep ⟨Nat.le_of_ble_eq_true rfl, Nat.le_of_ble_eq_true rfl⟩ (by decide) 6 rfl rfl rfl hl.1 rfl (Nat.le_of_ble_eq_true rfl) dX8_year_59) hP (fun H locs hP => ?_)
        refine lv_iload hx hb_ dX8_year_62 (lv_at hl 4 rfl) ?_
        obtain ⟨q6, hq6, h⟩ := bnd h
        refine w_ci (w_rV (As := [.int q5, .int v4_45]) (rest := []) C hP (k := 12) (c_X1_after l D aI aL ad inj _ σ 12 fl12 q5 v4_45 q6 hq6) (gV wt738 wt420 wt421 wt4 wt422) 2 hd_X1_after ⟨Nat.le_of_ble_eq_true rfl, Nat.le_of_ble_eq_true rfl⟩ (by decide) 0 rfl rfl rfl hl.1 rfl (Nat.le_of_ble_eq_true rfl) dX8_year_64) hP (fun H locs hP => ?_)
        refine lv_istore (lv' := [(4, .int q6), (0, .ref (ad 0)), (1, .int v1), (2, .int v2), (3, .int v3), (5, .int v5_45)]) hx hb_ dX8_year_67 hl (by decide) rfl (fun ls hl => ?_)
        obtain ⟨x7, hx7, h⟩ := nm_inv h
        refine lv_iinc (v := x7) (lv' := [(5, .int x7), (4, .int q6), (0, .ref (ad 0)), (1, .int v1), (2, .int v2), (3, .int v3)]) hx hb_ dX8_year_69 hl (k := 5) rfl (by rw [hx7]; rfl) (by decide) rfl (fun ls hl => ?_)
        refine lv_goto (tgt := 45) hx hb_ dX8_year_72 (by decide) ?_
        obtain rfl := Option.some.inj h
        obtain ⟨y2, h, hK⟩ := hK
        exact ih_45 q6 x7 y2 h hK _ _ _ hP (lv_sub hl [2, 3, 4, 5, 1, 0] rfl)
  have bk_45 : ∀ (v4_45 : Int32) (v5_45 : Int32) (y : Int32), f_X8_year_45 v1 v2 v3 v4_45 v5_45 σ = some y → (fun y => y = r0) y → ∀ (H : Heap) (locs : List Loc) (ls : Array Slot), HS D aI aL 42 shX ad σ s H locs → lv_has ls 6 [(0, .ref (ad 0)), (1, .int v1), (2, .int v2), (3, .int v3), (4, .int v4_45), (5, .int v5_45)] → W p l e (RM 3 67) s m args below meth c H locs 0 0 (MQ below (Qi D aI aL 42 shX ad r0 σ s.heap.size) args s 0 0 (AA ad 42 s.heap.size)) (F0 m 45 ls []) := fun v4_45 v5_45 y h hK => lp_45 3000 v4_45 v5_45 y h hK
  have bk : ∀ (y : Int32), f_X8_year v1 v2 v3 σ = some y → y = r0 → ∀ (H : Heap) (locs : List Loc), HS D aI aL 42 shX ad σ s H locs → W p l e (RM 3 67) s m args below meth c H locs 0 0 (MQ below (Qi D aI aL 42 shX ad r0 σ s.heap.size) args s 0 0 (AA ad 42 s.heap.size)) (F0 m 0 ls []) := by
    intro y h hK H locs hP
    unfold f_X8_year at h
    refine lv_iload_n hx hb_ dX8_year_0 rfl (lv_at hl 1 rfl) ?_
    refine lv_if_lt (tgt := 31) hx hb_ dX8_year_1 (by decide) (fun hc => ?_) (fun hc => ?_)
    · replace h := ift h hc
      exact bk_31 y h hK _ _ _ hP (lv_sub hl [] rfl)
    · replace h := iff' h hc
      refine lv_iload_n hx hb_ dX8_year_4 rfl (lv_at hl 1 rfl) ?_
      refine lv_sipush (v := 9999) hx hb_ dX8_year_5 (by decide) ?_
      refine lv_icmp_gt (tgt := 31) hx hb_ dX8_year_8 (by decide) (fun hc => ?_) (fun hc => ?_)
      · replace h := ift h hc
        exact bk_31 y h hK _ _ _ hP (lv_sub hl [] rfl)
      · replace h := iff' h hc
        refine lv_iload_n hx hb_ dX8_year_11 rfl (lv_at hl 2 rfl) ?_
        refine lv_iconst (v := 1) hx hb_ dX8_year_12 (by decide) ?_
        refine lv_icmp_lt (tgt := 31) hx hb_ dX8_year_13 (by decide) (fun hc => ?_) (fun hc => ?_)
        · replace h := ift h hc
          exact bk_31 y h hK _ _ _ hP (lv_sub hl [] rfl)
        · replace h := iff' h hc
          refine lv_iload_n hx hb_ dX8_year_16 rfl (lv_at hl 2 rfl) ?_
          refine lv_bipush (v := 99) hx hb_ dX8_year_17 (by decide) ?_
          refine lv_icmp_gt (tgt := 31) hx hb_ dX8_year_19 (by decide) (fun hc => ?_) (fun hc => ?_)
          · replace h := ift h hc
            exact bk_31 y h hK _ _ _ hP (lv_sub hl [] rfl)
          · replace h := iff' h hc
            refine lv_iload_n hx hb_ dX8_year_22 rfl (lv_at hl 3 rfl) ?_
            refine lv_if_lt (tgt := 31) hx hb_ dX8_year_23 (by decide) (fun hc => ?_) (fun hc => ?_)
            · replace h := ift h hc
              exact bk_31 y h hK _ _ _ hP (lv_sub hl [] rfl)
            · replace h := iff' h hc
              refine lv_iload_n hx hb_ dX8_year_26 rfl (lv_at hl 3 rfl) ?_
              refine lv_iconst (v := 1) hx hb_ dX8_year_27 (by decide) ?_
              refine lv_icmp_le (tgt := 33) hx hb_ dX8_year_28 (by decide) (fun hc => ?_) (fun hc => ?_)
              · replace h := ift h hc
                refine lv_aload_n hx hb_ dX8_year_33 rfl (lv_at hl 0 rfl) ?_
                refine w_get C hP (k := 0) (by decide) 6 rfl rfl inWX8 3 (by decide) wt287 (v := .ref (ad 12)) rfl dX8_year_34 ?_
                obtain ⟨q1, hq1, h⟩ := bnd h
                refine w_ci (w_rV (As := []) (rest := []) C hP (k := 12) (c_X1_stood l D aI aL ad inj _ σ 12 fl12 q1 hq1) (gV wt379 wt380 wt381 wt4 wt382) 0 hd_X1_stood ⟨Nat.le_of_ble_eq_true rfl, Nat.le_of_ble_eq_true rfl⟩ (by decide) 0 rfl rfl rfl hl.1 rfl (Nat.le_of_ble_eq_true rfl) dX8_year_37) hP (fun H locs hP => ?_)
                refine lv_istore (lv' := [(4, .int q1), (0, .ref (ad 0)), (1, .int v1), (2, .int v2), (3, .int v3)]) hx hb_ dX8_year_40 hl (by decide) rfl (fun ls hl => ?_)
                refine lv_iconst (v := 0) hx hb_ dX8_year_42 (by decide) ?_
                refine lv_istore (lv' := [(5, .int 0), (4, .int q1), (0, .ref (ad 0)), (1, .int v1), (2, .int v2), (3, .int v3)]) hx hb_ dX8_year_43 hl (by decide) rfl (fun ls hl => ?_)
                exact bk_45 q1 0 y h hK _ _ _ hP (lv_sub hl [2, 3, 4, 5, 1, 0] rfl)
              · replace h := iff' h hc
                exact bk_31 y h hK _ _ _ hP (lv_sub hl [] rfl)
  exact bk r0 hf rfl _ _ hP
theorem hd_X8_keeperOf : yX8_keeperOf.cls = RX8 ∧ yX8_keeperOf.cls ≠ "java/lang/invoke/MethodHandle" ∧ yX8_keeperOf.cls ≠ "java/lang/invoke/VarHandle" ∧ (parseMethodDescriptor yX8_keeperOf.desc).map (fun d => d.parameters.length) = some 1 := by decide +kernel
set_option maxHeartbeats 4000000 in
set_option maxRecDepth 100000 in
theorem c_X8_keeperOf (l : Launch) (D : va_G) (aI aL : ClassId) (ad : Nat → Nat) (inj : Inj ad 42) (sz : Nat) (σ : Sg) (v1 : Int32) (r0 : Nat) (hf : f_X8_keeperOf v1 σ = some r0) : Met l yX8_keeperOf (wS yX8_keeperOf cX8_keeperOf 2 (some (.object "FloorOfProofs$Floor"))) (RM 0 0) (Pw D aI aL 42 shX ad sz σ [.ref (ad 0), .int v1]) (Qr D aI aL 42 shX ad r0 σ sz) 0 0 (AA ad 42 sz) := by
  refine Mof (Qc := Qr D aI aL 42 shX ad r0 σ) (by decide) inj (Nat.le_of_ble_eq_true rfl) ?_
  intro p e s m args below meth c ls C hlk hr hP hl
  have hx := C.1.1
  have hb_ := C.1.2.1
  have hown := C.1.2.2.2.1
  have hts := C.1.2.2.2.2
  have hl : lv_has ls 2 [(0, .ref (ad 0)), (1, .int v1)] := hl
  have bk_15 : ∀ (t0_15 : Nat) (y : Nat), f_X8_keeperOf_15 t0_15 σ = some y → (fun y => y = r0) y → ∀ (H : Heap) (locs : List Loc) (ls : Array Slot), HS D aI aL 42 shX ad σ s H locs → lv_has ls 2 [] → W p l e (RM 0 0) s m args below meth c H locs 0 0 (MQ below (Qr D aI aL 42 shX ad r0 σ s.heap.size) args s 0 0 (AA ad 42 s.heap.size)) (F0 m 15 ls [.ref (ad t0_15)]) := by
    intro t0_15 y h hK H locs ls hP hl
    unfold f_X8_keeperOf_15 at h
    obtain rfl := Option.some.inj h
    have hK : (t0_15 : Nat) = r0 := hK
    exact w_aret C hlk hr hP hK rfl dX8_keeperOf_15
  have bk : ∀ (y : Nat), f_X8_keeperOf v1 σ = some y → y = r0 → ∀ (H : Heap) (locs : List Loc), HS D aI aL 42 shX ad σ s H locs → W p l e (RM 0 0) s m args below meth c H locs 0 0 (MQ below (Qr D aI aL 42 shX ad r0 σ s.heap.size) args s 0 0 (AA ad 42 s.heap.size)) (F0 m 0 ls []) := by
    intro y h hK H locs hP
    unfold f_X8_keeperOf at h
    refine lv_iload_n hx hb_ dX8_keeperOf_0 rfl (lv_at hl 1 rfl) ?_
    refine lv_if_ne (tgt := 11) hx hb_ dX8_keeperOf_1 (by decide) (fun hc => ?_) (fun hc => ?_)
    · replace h := iff' h hc
      refine lv_aload_n hx hb_ dX8_keeperOf_11 rfl (lv_at hl 0 rfl) ?_
      refine w_get C hP (k := 0) (by decide) 6 rfl rfl inWX8 5 (by decide) wt289 (v := .ref (ad 26)) rfl dX8_keeperOf_12 ?_
      exact bk_15 26 y h hK _ _ _ hP (lv_sub hl [] rfl)
    · replace h := ift h hc
      refine lv_aload_n hx hb_ dX8_keeperOf_4 rfl (lv_at hl 0 rfl) ?_
      refine w_get C hP (k := 0) (by decide) 6 rfl rfl inWX8 4 (by decide) wt288 (v := .ref (ad 19)) rfl dX8_keeperOf_5 ?_
      refine lv_goto (tgt := 15) hx hb_ dX8_keeperOf_8 (by decide) ?_
      exact bk_15 19 y h hK _ _ _ hP (lv_sub hl [] rfl)
  exact bk r0 hf rfl _ _ hP
theorem hd_X8_keep : yX8_keep.cls = RX8 ∧ yX8_keep.cls ≠ "java/lang/invoke/MethodHandle" ∧ yX8_keep.cls ≠ "java/lang/invoke/VarHandle" ∧ (parseMethodDescriptor yX8_keep.desc).map (fun d => d.parameters.length) = some 0 := by decide +kernel
set_option maxHeartbeats 4000000 in
set_option maxRecDepth 100000 in
theorem c_X8_keep (l : Launch) (D : va_G) (aI aL : ClassId) (ad : Nat → Nat) (inj : Inj ad 42) (sz : Nat) (σ : Sg) (r0 : (Int32 × Sg)) (hf : f_X8_keep σ = some r0) : Met l yX8_keep (wS yX8_keep cX8_keep 1 (some .int)) (RM 2 43) (Pw D aI aL 42 shX ad sz σ [.ref (ad 0)]) (Qi D aI aL 42 shX ad r0.1 r0.2 sz) 0 0 (AA ad 42 sz) := by
  refine Mof (Qc := Qi D aI aL 42 shX ad r0.1 r0.2) (by decide) inj (Nat.le_of_ble_eq_true rfl) ?_
  intro p e s m args below meth c ls C hlk hr hP hl
  have hx := C.1.1
  have hb_ := C.1.2.1
  have hown := C.1.2.2.2.1
  have hts := C.1.2.2.2.2
  have hl : lv_has ls 1 [(0, .ref (ad 0))] := hl
  have bk : ∀ (y : (Int32 × Sg)), f_X8_keep σ = some y → y = r0 → ∀ (H : Heap) (locs : List Loc), HS D aI aL 42 shX ad σ s H locs → W p l e (RM 2 43) s m args below meth c H locs 0 0 (MQ below (Qi D aI aL 42 shX ad r0.1 r0.2 s.heap.size) args s 0 0 (AA ad 42 s.heap.size)) (F0 m 0 ls []) := by
    intro y h hK H locs hP
    unfold f_X8_keep at h
    refine lv_aload_n hx hb_ dX8_keep_0 rfl (lv_at hl 0 rfl) ?_
    refine w_get C hP (k := 0) (by decide) 6 rfl rfl inWX8 11 (by decide) wt295 (v := .int (σ.1 0 11)) rfl dX8_keep_1 ?_
    refine lv_iconst (v := 2) hx hb_ dX8_keep_4 (by decide) ?_
    refine lv_icmp_lt (tgt := 11) hx hb_ dX8_keep_5 (by decide) (fun hc => ?_) (fun hc => ?_)
    · replace h := ift h hc
      refine lv_aload_n hx hb_ dX8_keep_11 rfl (lv_at hl 0 rfl) ?_
      refine lv_aload_n hx hb_ dX8_keep_12 rfl (lv_at hl 0 rfl) ?_
      refine w_get C hP (k := 0) (by decide) 6 rfl rfl inWX8 11 (by decide) wt295 (v := .int (σ.1 0 11)) rfl dX8_keep_13 ?_
      obtain ⟨q1, hq1, h⟩ := bnd h
      refine w_cr (w_rV (As := [.int (σ.1 0 11)]) (rest := []) C hP (k := 0) (c_X8_keeperOf l D aI aL ad inj _ σ (σ.1 0 11) q1 hq1) (gV wt754 wt756 wp12 wt1 wt757) 1 hd_X8_keeperOf ⟨Nat.le_of_ble_eq_true rfl, Nat.le_of_ble_eq_true rfl⟩ (by decide) 6 rfl rfl rfl hl.1 rfl (Nat.le_of_ble_eq_true rfl) dX8_keep_16) hP (fun H locs hP => ?_)
      obtain ⟨_, hg, h⟩ := bnd h
      have h_q1 := hq1
      have hq1 := gfl_is hg
      refine lv_aload_n hx hb_ dX8_keep_19 rfl (lv_at hl 0 rfl) ?_
      refine w_get C hP (k := 0) (by decide) 6 rfl rfl inWX8 3 (by decide) wt287 (v := .ref (ad 12)) rfl dX8_keep_20 ?_
      obtain ⟨q2, hq2, h⟩ := bnd h
      refine w_cv (w_rV (As := [.ref (ad 12)]) (rest := []) C hP (k := q1) (c_X1_copyFrom l D aI aL ad inj _ σ q1 hq1 12 fl12 q2 hq2) (gV wt344 wt345 wt346 wt4 wt347) 1 hd_X1_copyFrom ⟨Nat.le_of_ble_eq_true rfl, Nat.le_of_ble_eq_true rfl⟩ (fl_l0 hq1) 0 (fl_sh hq1) rfl rfl hl.1 rfl (Nat.le_of_ble_eq_true rfl) dX8_keep_23) hP (fun H locs hP => ?_)
      refine lv_aload_n hx hb_ dX8_keep_26 rfl (lv_at hl 0 rfl) ?_
      refine lv_dup hx hb_ dX8_keep_27 rfl ?_
      refine w_get C hP (k := 0) (by decide) 6 rfl rfl inWX8 11 (by decide) wt295 (v := .int (q2.1 0 11)) rfl dX8_keep_28 ?_
      refine lv_iconst (v := 1) hx hb_ dX8_keep_31 (by decide) ?_
      refine lv_iadd hx hb_ dX8_keep_32 ?_
      obtain ⟨s3, hs3, h⟩ := bnd h
      refine w_puti C hP (k := 0) (by decide) 6 rfl rfl inWX8 tyX8 tyX8_ok nmX8 11 (by decide) wt295 rfl rfl rfl rfl hs3 dX8_keep_33 (fun H locs hP => ?_)
      refine lv_aload_n hx hb_ dX8_keep_36 rfl (lv_at hl 0 rfl) ?_
      refine w_get C hP (k := 0) (by decide) 6 rfl rfl inWX8 11 (by decide) wt295 (v := .int (s3.1 0 11)) rfl dX8_keep_37 ?_
      obtain rfl := Option.some.inj h
      have hK : ((s3.1 0 11), s3) = r0 := hK
      have hK1 := congrArg Prod.fst hK
      have hK2 := congrArg Prod.snd hK
      exact w_iret C hlk hr hP hK1 hK2 dX8_keep_40
    · replace h := iff' h hc
      refine lv_bipush (v := (-3)) hx hb_ dX8_keep_8 (by decide) ?_
      obtain rfl := Option.some.inj h
      have hK : ((-3), σ) = r0 := hK
      have hK1 := congrArg Prod.fst hK
      have hK2 := congrArg Prod.snd hK
      exact w_iret C hlk hr hP hK1 hK2 dX8_keep_10
  exact bk r0 hf rfl _ _ hP
theorem hd_X8_back : yX8_back.cls = RX8 ∧ yX8_back.cls ≠ "java/lang/invoke/MethodHandle" ∧ yX8_back.cls ≠ "java/lang/invoke/VarHandle" ∧ (parseMethodDescriptor yX8_back.desc).map (fun d => d.parameters.length) = some 0 := by decide +kernel
set_option maxHeartbeats 4000000 in
set_option maxRecDepth 100000 in
theorem c_X8_back (l : Launch) (D : va_G) (aI aL : ClassId) (ad : Nat → Nat) (inj : Inj ad 42) (sz : Nat) (σ : Sg) (r0 : (Int32 × Sg)) (hf : f_X8_back σ = some r0) : Met l yX8_back (wS yX8_back cX8_back 1 (some .int)) (RM 2 43) (Pw D aI aL 42 shX ad sz σ [.ref (ad 0)]) (Qi D aI aL 42 shX ad r0.1 r0.2 sz) 0 0 (AA ad 42 sz) := by
  refine Mof (Qc := Qi D aI aL 42 shX ad r0.1 r0.2) (by decide) inj (Nat.le_of_ble_eq_true rfl) ?_
  intro p e s m args below meth c ls C hlk hr hP hl
  have hx := C.1.1
  have hb_ := C.1.2.1
  have hown := C.1.2.2.2.1
  have hts := C.1.2.2.2.2
  have hl : lv_has ls 1 [(0, .ref (ad 0))] := hl
  have bk : ∀ (y : (Int32 × Sg)), f_X8_back σ = some y → y = r0 → ∀ (H : Heap) (locs : List Loc), HS D aI aL 42 shX ad σ s H locs → W p l e (RM 2 43) s m args below meth c H locs 0 0 (MQ below (Qi D aI aL 42 shX ad r0.1 r0.2 s.heap.size) args s 0 0 (AA ad 42 s.heap.size)) (F0 m 0 ls []) := by
    intro y h hK H locs hP
    unfold f_X8_back at h
    refine lv_aload_n hx hb_ dX8_back_0 rfl (lv_at hl 0 rfl) ?_
    refine w_get C hP (k := 0) (by decide) 6 rfl rfl inWX8 11 (by decide) wt295 (v := .int (σ.1 0 11)) rfl dX8_back_1 ?_
    refine lv_if_ne (tgt := 10) hx hb_ dX8_back_4 (by decide) (fun hc => ?_) (fun hc => ?_)
    · replace h := iff' h hc
      refine lv_aload_n hx hb_ dX8_back_10 rfl (lv_at hl 0 rfl) ?_
      refine lv_dup hx hb_ dX8_back_11 rfl ?_
      refine w_get C hP (k := 0) (by decide) 6 rfl rfl inWX8 11 (by decide) wt295 (v := .int (σ.1 0 11)) rfl dX8_back_12 ?_
      refine lv_iconst (v := 1) hx hb_ dX8_back_15 (by decide) ?_
      refine lv_isub hx hb_ dX8_back_16 ?_
      obtain ⟨s1, hs1, h⟩ := bnd h
      refine w_puti C hP (k := 0) (by decide) 6 rfl rfl inWX8 tyX8 tyX8_ok nmX8 11 (by decide) wt295 rfl rfl rfl rfl hs1 dX8_back_17 (fun H locs hP => ?_)
      refine lv_aload_n hx hb_ dX8_back_20 rfl (lv_at hl 0 rfl) ?_
      refine w_get C hP (k := 0) (by decide) 6 rfl rfl inWX8 3 (by decide) wt287 (v := .ref (ad 12)) rfl dX8_back_21 ?_
      refine lv_aload_n hx hb_ dX8_back_24 rfl (lv_at hl 0 rfl) ?_
      refine lv_aload_n hx hb_ dX8_back_25 rfl (lv_at hl 0 rfl) ?_
      refine w_get C hP (k := 0) (by decide) 6 rfl rfl inWX8 11 (by decide) wt295 (v := .int (s1.1 0 11)) rfl dX8_back_26 ?_
      obtain ⟨q2, hq2, h⟩ := bnd h
      refine w_cr (w_rV (As := [.int (s1.1 0 11)]) (rest := [.ref (ad 12)]) C hP (k := 0) (c_X8_keeperOf l D aI aL ad inj _ s1 (s1.1 0 11) q2 hq2) (gV wt754 wt756 wp12 wt1 wt757) 1 hd_X8_keeperOf ⟨Nat.le_of_ble_eq_true rfl, Nat.le_of_ble_eq_true rfl⟩ (by decide) 6 rfl rfl rfl hl.1 rfl (Nat.le_of_ble_eq_true rfl) dX8_back_29) hP (fun H locs hP => ?_)
      obtain ⟨_, hg, h⟩ := bnd h
      have h_q2 := hq2
      have hq2 := gfl_is hg
      obtain ⟨q3, hq3, h⟩ := bnd h
      refine w_cv (w_rV (As := [.ref (ad q2)]) (rest := []) C hP (k := 12) (c_X1_copyFrom l D aI aL ad inj _ s1 12 fl12 q2 hq2 q3 hq3) (gV wt344 wt345 wt346 wt4 wt347) 1 hd_X1_copyFrom ⟨Nat.le_of_ble_eq_true rfl, Nat.le_of_ble_eq_true rfl⟩ (by decide) 0 rfl rfl rfl hl.1 rfl (Nat.le_of_ble_eq_true rfl) dX8_back_32) hP (fun H locs hP => ?_)
      refine lv_aload_n hx hb_ dX8_back_35 rfl (lv_at hl 0 rfl) ?_
      obtain ⟨q4, hq4, h⟩ := bnd h
      refine w_cv (w_rV (As := []) (rest := []) C hP (k := 0) (c_X8_forgetRowAndPast l D aI aL ad inj _ q3 q4 hq4) (gV wt351 wt353 wp2 wt1 wt354) 0 hd_X8_forgetRowAndPast ⟨Nat.le_of_ble_eq_true rfl, Nat.le_of_ble_eq_true rfl⟩ (by decide) 6 rfl rfl rfl hl.1 rfl (Nat.le_of_ble_eq_true rfl) dX8_back_36) hP (fun H locs hP => ?_)
      refine lv_aload_n hx hb_ dX8_back_39 rfl (lv_at hl 0 rfl) ?_
      refine w_get C hP (k := 0) (by decide) 6 rfl rfl inWX8 11 (by decide) wt295 (v := .int (q4.1 0 11)) rfl dX8_back_40 ?_
      obtain rfl := Option.some.inj h
      have hK : ((q4.1 0 11), q4) = r0 := hK
      have hK1 := congrArg Prod.fst hK
      have hK2 := congrArg Prod.snd hK
      exact w_iret C hlk hr hP hK1 hK2 dX8_back_43
    · replace h := ift h hc
      refine lv_bipush (v := (-2)) hx hb_ dX8_back_7 (by decide) ?_
      obtain rfl := Option.some.inj h
      have hK : ((-2), σ) = r0 := hK
      have hK1 := congrArg Prod.fst hK
      have hK2 := congrArg Prod.snd hK
      exact w_iret C hlk hr hP hK1 hK2 dX8_back_9
  exact bk r0 hf rfl _ _ hP
theorem hd_X8_count : yX8_count.cls = RX8 ∧ yX8_count.cls ≠ "java/lang/invoke/MethodHandle" ∧ yX8_count.cls ≠ "java/lang/invoke/VarHandle" ∧ (parseMethodDescriptor yX8_count.desc).map (fun d => d.parameters.length) = some 1 := by decide +kernel
set_option maxHeartbeats 4000000 in
set_option maxRecDepth 100000 in
theorem c_X8_count (l : Launch) (D : va_G) (aI aL : ClassId) (ad : Nat → Nat) (inj : Inj ad 42) (sz : Nat) (σ : Sg) (v1 : Int32) (r0 : Int32) (hf : f_X8_count v1 σ = some r0) : Met l yX8_count (wS yX8_count cX8_count 2 (some .int)) (RM 1 20) (Pw D aI aL 42 shX ad sz σ [.ref (ad 0), .int v1]) (Qi D aI aL 42 shX ad r0 σ sz) 0 0 (AA ad 42 sz) := by
  refine Mof (Qc := Qi D aI aL 42 shX ad r0 σ) (by decide) inj (Nat.le_of_ble_eq_true rfl) ?_
  intro p e s m args below meth c ls C hlk hr hP hl
  have hx := C.1.1
  have hb_ := C.1.2.1
  have hown := C.1.2.2.2.1
  have hts := C.1.2.2.2.2
  have hl : lv_has ls 2 [(0, .ref (ad 0)), (1, .int v1)] := hl
  have bk : ∀ (y : Int32), f_X8_count v1 σ = some y → y = r0 → ∀ (H : Heap) (locs : List Loc), HS D aI aL 42 shX ad σ s H locs → W p l e (RM 1 20) s m args below meth c H locs 0 0 (MQ below (Qi D aI aL 42 shX ad r0 σ s.heap.size) args s 0 0 (AA ad 42 s.heap.size)) (F0 m 0 ls []) := by
    intro y h hK H locs hP
    unfold f_X8_count at h
    refine lv_iload_n hx hb_ dX8_count_0 rfl (lv_at hl 1 rfl) ?_
    by_cases hc0 : v1 = 0
    · replace h := ift h hc0
      refine lv_tableIn (off := 47) (tgt := 48) hx hb_ dX8_count_1 (by rw [hc0]; decide +kernel) (by rw [hc0]; decide +kernel) (by rw [hc0]; decide +kernel) (by decide) ?_
      refine lv_aload_n hx hb_ dX8_count_48 rfl (lv_at hl 0 rfl) ?_
      refine w_get C hP (k := 0) (by decide) 6 rfl rfl inWX8 3 (by decide) wt287 (v := .ref (ad 12)) rfl dX8_count_49 ?_
      obtain ⟨q1, hq1, h⟩ := bnd h
      refine w_ci (w_rV (As := []) (rest := []) C hP (k := 12) (c_X1_stoneCount l D aI aL ad inj _ σ 12 fl12 q1 hq1) (gV wt359 wt360 wt361 wt4 wt362) 0 hd_X1_stoneCount ⟨Nat.le_of_ble_eq_true rfl, Nat.le_of_ble_eq_true rfl⟩ (by decide) 0 rfl rfl rfl hl.1 rfl (Nat.le_of_ble_eq_true rfl) dX8_count_52) hP (fun H locs hP => ?_)
      obtain rfl := Option.some.inj h
      have hK : (q1 : Int32) = r0 := hK
      exact w_iret C hlk hr hP hK rfl dX8_count_55
    replace h := iff' h hc0
    by_cases hc1 : v1 = 1
    · replace h := ift h hc1
      refine lv_tableIn (off := 55) (tgt := 56) hx hb_ dX8_count_1 (by rw [hc1]; decide +kernel) (by rw [hc1]; decide +kernel) (by rw [hc1]; decide +kernel) (by decide) ?_
      refine lv_aload_n hx hb_ dX8_count_56 rfl (lv_at hl 0 rfl) ?_
      refine w_get C hP (k := 0) (by decide) 6 rfl rfl inWX8 3 (by decide) wt287 (v := .ref (ad 12)) rfl dX8_count_57 ?_
      obtain ⟨q2, hq2, h⟩ := bnd h
      refine w_ci (w_rV (As := []) (rest := []) C hP (k := 12) (c_X1_stepCount l D aI aL ad inj _ σ 12 fl12 q2 hq2) (gV wt340 wt341 wt342 wt4 wt343) 0 hd_X1_stepCount ⟨Nat.le_of_ble_eq_true rfl, Nat.le_of_ble_eq_true rfl⟩ (by decide) 0 rfl rfl rfl hl.1 rfl (Nat.le_of_ble_eq_true rfl) dX8_count_60) hP (fun H locs hP => ?_)
      obtain rfl := Option.some.inj h
      have hK : (q2 : Int32) = r0 := hK
      exact w_iret C hlk hr hP hK rfl dX8_count_63
    replace h := iff' h hc1
    by_cases hc2 : v1 = 2
    · replace h := ift h hc2
      refine lv_tableIn (off := 63) (tgt := 64) hx hb_ dX8_count_1 (by rw [hc2]; decide +kernel) (by rw [hc2]; decide +kernel) (by rw [hc2]; decide +kernel) (by decide) ?_
      refine lv_aload_n hx hb_ dX8_count_64 rfl (lv_at hl 0 rfl) ?_
      refine w_get C hP (k := 0) (by decide) 6 rfl rfl inWX8 3 (by decide) wt287 (v := .ref (ad 12)) rfl dX8_count_65 ?_
      obtain ⟨q3, hq3, h⟩ := bnd h
      refine w_ci (w_rV (As := []) (rest := []) C hP (k := 12) (c_X1_there l D aI aL ad inj _ σ 12 fl12 q3 hq3) (gV wt372 wt373 wt374 wt4 wt375) 0 hd_X1_there ⟨Nat.le_of_ble_eq_true rfl, Nat.le_of_ble_eq_true rfl⟩ (by decide) 0 rfl rfl rfl hl.1 rfl (Nat.le_of_ble_eq_true rfl) dX8_count_68) hP (fun H locs hP => ?_)
      obtain ⟨q4, hq4, h⟩ := bnd h
      refine w_ci (w_rS (As := [.int q3]) (rest := []) C hP (c_J6_bitCount_0f7a4 l D aI aL ad inj _ σ q3 q4 hq4) wt453 wt454 wt13 wt455 1 hd_J6_bitCount_0f7a4 ⟨Nat.le_of_ble_eq_true rfl, Nat.le_of_ble_eq_true rfl⟩ rfl hl.1 rfl (Nat.le_of_ble_eq_true rfl) dX8_count_71) hP (fun H locs hP => ?_)
      obtain rfl := Option.some.inj h
      have hK : (q4 : Int32) = r0 := hK
      exact w_iret C hlk hr hP hK rfl dX8_count_74
    replace h := iff' h hc2
    by_cases hc3 : v1 = 3
    · replace h := ift h hc3
      refine lv_tableIn (off := 74) (tgt := 75) hx hb_ dX8_count_1 (by rw [hc3]; decide +kernel) (by rw [hc3]; decide +kernel) (by rw [hc3]; decide +kernel) (by decide) ?_
      refine lv_aload_n hx hb_ dX8_count_75 rfl (lv_at hl 0 rfl) ?_
      refine w_get C hP (k := 0) (by decide) 6 rfl rfl inWX8 3 (by decide) wt287 (v := .ref (ad 12)) rfl dX8_count_76 ?_
      obtain ⟨q5, hq5, h⟩ := bnd h
      refine w_ci (w_rV (As := []) (rest := []) C hP (k := 12) (c_X1_stood l D aI aL ad inj _ σ 12 fl12 q5 hq5) (gV wt379 wt380 wt381 wt4 wt382) 0 hd_X1_stood ⟨Nat.le_of_ble_eq_true rfl, Nat.le_of_ble_eq_true rfl⟩ (by decide) 0 rfl rfl rfl hl.1 rfl (Nat.le_of_ble_eq_true rfl) dX8_count_79) hP (fun H locs hP => ?_)
      obtain ⟨q6, hq6, h⟩ := bnd h
      refine w_ci (w_rS (As := [.int q5]) (rest := []) C hP (c_J6_bitCount_0f7a4 l D aI aL ad inj _ σ q5 q6 hq6) wt453 wt454 wt13 wt455 1 hd_J6_bitCount_0f7a4 ⟨Nat.le_of_ble_eq_true rfl, Nat.le_of_ble_eq_true rfl⟩ rfl hl.1 rfl (Nat.le_of_ble_eq_true rfl) dX8_count_82) hP (fun H locs hP => ?_)
      obtain rfl := Option.some.inj h
      have hK : (q6 : Int32) = r0 := hK
      exact w_iret C hlk hr hP hK rfl dX8_count_85
    replace h := iff' h hc3
    by_cases hc4 : v1 = 4
    · replace h := ift h hc4
      refine lv_tableIn (off := 85) (tgt := 86) hx hb_ dX8_count_1 (by rw [hc4]; decide +kernel) (by rw [hc4]; decide +kernel) (by rw [hc4]; decide +kernel) (by decide) ?_
      refine lv_aload_n hx hb_ dX8_count_86 rfl (lv_at hl 0 rfl) ?_
      refine w_get C hP (k := 0) (by decide) 6 rfl rfl inWX8 10 (by decide) wt294 (v := .int (σ.1 0 10)) rfl dX8_count_87 ?_
      obtain rfl := Option.some.inj h
      have hK : ((σ.1 0 10) : Int32) = r0 := hK
      exact w_iret C hlk hr hP hK rfl dX8_count_90
    replace h := iff' h hc4
    by_cases hc5 : v1 = 5
    · replace h := ift h hc5
      refine lv_tableIn (off := 90) (tgt := 91) hx hb_ dX8_count_1 (by rw [hc5]; decide +kernel) (by rw [hc5]; decide +kernel) (by rw [hc5]; decide +kernel) (by decide) ?_
      refine lv_aload_n hx hb_ dX8_count_91 rfl (lv_at hl 0 rfl) ?_
      refine w_get C hP (k := 0) (by decide) 6 rfl rfl inWX8 6 (by decide) wt290 (v := .ref (ad 33)) rfl dX8_count_92 ?_
      obtain ⟨q7, hq7, h⟩ := bnd h
      refine w_ci (w_rV (As := []) (rest := []) C hP (k := 33) (c_X2_size l D aI aL ad inj _ σ q7 hq7) (gV wt492 wt493 wt494 wt5 wt495) 0 hd_X2_size ⟨Nat.le_of_ble_eq_true rfl, Nat.le_of_ble_eq_true rfl⟩ (by decide) 1 rfl rfl rfl hl.1 rfl (Nat.le_of_ble_eq_true rfl) dX8_count_95) hP (fun H locs hP => ?_)
      obtain rfl := Option.some.inj h
      have hK : (q7 : Int32) = r0 := hK
      exact w_iret C hlk hr hP hK rfl dX8_count_98
    replace h := iff' h hc5
    by_cases hc6 : v1 = 6
    · replace h := ift h hc6
      refine lv_tableIn (off := 98) (tgt := 99) hx hb_ dX8_count_1 (by rw [hc6]; decide +kernel) (by rw [hc6]; decide +kernel) (by rw [hc6]; decide +kernel) (by decide) ?_
      refine lv_aload_n hx hb_ dX8_count_99 rfl (lv_at hl 0 rfl) ?_
      refine w_get C hP (k := 0) (by decide) 6 rfl rfl inWX8 11 (by decide) wt295 (v := .int (σ.1 0 11)) rfl dX8_count_100 ?_
      obtain rfl := Option.some.inj h
      have hK : ((σ.1 0 11) : Int32) = r0 := hK
      exact w_iret C hlk hr hP hK rfl dX8_count_103
    replace h := iff' h hc6
    by_cases hc7 : v1 = 7
    · replace h := ift h hc7
      refine lv_tableIn (off := 103) (tgt := 104) hx hb_ dX8_count_1 (by rw [hc7]; decide +kernel) (by rw [hc7]; decide +kernel) (by rw [hc7]; decide +kernel) (by decide) ?_
      refine lv_aload_n hx hb_ dX8_count_104 rfl (lv_at hl 0 rfl) ?_
      refine w_get C hP (k := 0) (by decide) 6 rfl rfl inWX8 0 (by decide) wt284 (v := .ref (ad 1)) rfl dX8_count_105 ?_
      obtain ⟨q8, hq8, h⟩ := bnd h
      refine w_ci (w_rV (As := []) (rest := []) C hP (k := 1) (c_X6_size l D aI aL ad inj _ σ q8 hq8) (gV wt326 wt213 wt214 wt2 wt215) 0 hd_X6_size ⟨Nat.le_of_ble_eq_true rfl, Nat.le_of_ble_eq_true rfl⟩ (by decide) 4 rfl rfl rfl hl.1 rfl (Nat.le_of_ble_eq_true rfl) dX8_count_108) hP (fun H locs hP => ?_)
      obtain rfl := Option.some.inj h
      have hK : (q8 : Int32) = r0 := hK
      exact w_iret C hlk hr hP hK rfl dX8_count_111
    replace h := iff' h hc7
    refine lv_tableOut (tgt := 112) hx hb_ dX8_count_1 (tb_out (n := 8) (by decide) (fun j hj => match j, hj with | 0, _ => hc0 | 1, _ => hc1 | 2, _ => hc2 | 3, _ => hc3 | 4, _ => hc4 | 5, _ => hc5 | 6, _ => hc6 | 7, _ => hc7 | j + 8, hj => absurd hj (by omega))) (by decide) ?_
    refine lv_iconst (v := (-1)) hx hb_ dX8_count_112 (by decide) ?_
    obtain rfl := Option.some.inj h
    have hK : ((-1) : Int32) = r0 := hK
    exact w_iret C hlk hr hP hK rfl dX8_count_113
  exact bk r0 hf rfl _ _ hP
theorem hd_X9_in : yX9_in.cls = RX9 ∧ yX9_in.cls ≠ "java/lang/invoke/MethodHandle" ∧ yX9_in.cls ≠ "java/lang/invoke/VarHandle" ∧ (parseMethodDescriptor yX9_in.desc).map (fun d => d.parameters.length) = some 3 := by decide +kernel
set_option maxHeartbeats 4000000 in
set_option maxRecDepth 100000 in
theorem c_X9_in (l : Launch) (D : va_G) (aI aL : ClassId) (ad : Nat → Nat) (inj : Inj ad 8) (sz : Nat) (σ : Sg) (v0 : Int64) (v2 : Int64) (v4 : Int64) (r0 : Int32) (hf : f_X9_in v0 v2 v4 = some r0) : Met l yX9_in (wS yX9_in cX9_in 6 (some .boolean)) (RM 0 0) (Pw D aI aL 8 shM ad sz σ [.long v0, .long v2, .long v4]) (Qi D aI aL 8 shM ad r0 σ sz) 0 0 (AA ad 8 sz) := by
  refine Mof (Qc := Qi D aI aL 8 shM ad r0 σ) (by decide) inj (Nat.le_of_ble_eq_true rfl) ?_
  intro p e s m args below meth c ls C hlk hr hP hl
  have hx := C.1.1
  have hb_ := C.1.2.1
  have hown := C.1.2.2.2.1
  have hts := C.1.2.2.2.2
  have hl : lv_has ls 6 [(0, .long v0), (2, .long v2), (4, .long v4)] := hl
  have bk_18 : ∀ (t0_18 : Int32) (y : Int32), f_X9_in_18 t0_18 = some y → (fun y => y = r0) y → ∀ (H : Heap) (locs : List Loc) (ls : Array Slot), HS D aI aL 8 shM ad σ s H locs → lv_has ls 6 [] → W p l e (RM 0 0) s m args below meth c H locs 0 0 (MQ below (Qi D aI aL 8 shM ad r0 σ s.heap.size) args s 0 0 (AA ad 8 s.heap.size)) (F0 m 18 ls [.int t0_18]) := by
    intro t0_18 y h hK H locs ls hP hl
    unfold f_X9_in_18 at h
    obtain ⟨x1, hx1, h⟩ := bnd h
    obtain rfl := Option.some.inj h
    have hK : (x1 : Int32) = r0 := hK
    exact w_zret C hlk hr hP hx1 hK rfl dX9_in_18
  have bk_17 : ∀ (y : Int32), f_X9_in_17  = some y → (fun y => y = r0) y → ∀ (H : Heap) (locs : List Loc) (ls : Array Slot), HS D aI aL 8 shM ad σ s H locs → lv_has ls 6 [] → W p l e (RM 0 0) s m args below meth c H locs 0 0 (MQ below (Qi D aI aL 8 shM ad r0 σ s.heap.size) args s 0 0 (AA ad 8 s.heap.size)) (F0 m 17 ls []) := by
    intro y h hK H locs ls hP hl
    unfold f_X9_in_17 at h
    refine lv_iconst (v := 0) hx hb_ dX9_in_17 (by decide) ?_
    exact bk_18 0 y h hK _ _ _ hP (lv_sub hl [] rfl)
  have bk : ∀ (y : Int32), f_X9_in v0 v2 v4 = some y → y = r0 → ∀ (H : Heap) (locs : List Loc), HS D aI aL 8 shM ad σ s H locs → W p l e (RM 0 0) s m args below meth c H locs 0 0 (MQ below (Qi D aI aL 8 shM ad r0 σ s.heap.size) args s 0 0 (AA ad 8 s.heap.size)) (F0 m 0 ls []) := by
    intro y h hK H locs hP
    unfold f_X9_in at h
    refine lv_lload_n hx hb_ dX9_in_0 rfl (lv_at hl 0 rfl) ?_
    refine lv_lload_n hx hb_ dX9_in_1 rfl (lv_at hl 1 rfl) ?_
    refine W.lcmp hx hb_ dX9_in_2 ?_
    refine lv_if_lt (tgt := 17) hx hb_ dX9_in_3 (by decide) (fun hc => ?_) (fun hc => ?_)
    · replace h := ift h hc
      exact bk_17 y h hK _ _ _ hP (lv_sub hl [] rfl)
    · replace h := iff' h hc
      refine lv_lload_n hx hb_ dX9_in_6 rfl (lv_at hl 0 rfl) ?_
      refine lv_lload hx hb_ dX9_in_7 (lv_at hl 2 rfl) ?_
      refine W.lcmp hx hb_ dX9_in_9 ?_
      refine lv_if_gt (tgt := 17) hx hb_ dX9_in_10 (by decide) (fun hc => ?_) (fun hc => ?_)
      · replace h := ift h hc
        exact bk_17 y h hK _ _ _ hP (lv_sub hl [] rfl)
      · replace h := iff' h hc
        refine lv_iconst (v := 1) hx hb_ dX9_in_13 (by decide) ?_
        refine lv_goto (tgt := 18) hx hb_ dX9_in_14 (by decide) ?_
        exact bk_18 1 y h hK _ _ _ hP (lv_sub hl [] rfl)
  exact bk r0 hf rfl _ _ hP
theorem hd_X9_has : yX9_has.cls = RX9 ∧ yX9_has.cls ≠ "java/lang/invoke/MethodHandle" ∧ yX9_has.cls ≠ "java/lang/invoke/VarHandle" ∧ (parseMethodDescriptor yX9_has.desc).map (fun d => d.parameters.length) = some 2 := by decide +kernel
set_option maxHeartbeats 4000000 in
set_option maxRecDepth 100000 in
theorem c_X9_has (l : Launch) (D : va_G) (aI aL : ClassId) (ad : Nat → Nat) (inj : Inj ad 8) (sz : Nat) (σ : Sg) (v0 : Int32) (v1 : Int32) (r0 : Int32) (hf : f_X9_has v0 v1 = some r0) : Met l yX9_has (wS yX9_has cX9_has 2 (some .boolean)) (RM 0 0) (Pw D aI aL 8 shM ad sz σ [.int v0, .int v1]) (Qi D aI aL 8 shM ad r0 σ sz) 0 0 (AA ad 8 sz) := by
  refine Mof (Qc := Qi D aI aL 8 shM ad r0 σ) (by decide) inj (Nat.le_of_ble_eq_true rfl) ?_
  intro p e s m args below meth c ls C hlk hr hP hl
  have hx := C.1.1
  have hb_ := C.1.2.1
  have hown := C.1.2.2.2.1
  have hts := C.1.2.2.2.2
  have hl : lv_has ls 2 [(0, .int v0), (1, .int v1)] := hl
  have bk_14 : ∀ (t0_14 : Int32) (y : Int32), f_X9_has_14 t0_14 = some y → (fun y => y = r0) y → ∀ (H : Heap) (locs : List Loc) (ls : Array Slot), HS D aI aL 8 shM ad σ s H locs → lv_has ls 2 [] → W p l e (RM 0 0) s m args below meth c H locs 0 0 (MQ below (Qi D aI aL 8 shM ad r0 σ s.heap.size) args s 0 0 (AA ad 8 s.heap.size)) (F0 m 14 ls [.int t0_14]) := by
    intro t0_14 y h hK H locs ls hP hl
    unfold f_X9_has_14 at h
    obtain ⟨x1, hx1, h⟩ := bnd h
    obtain rfl := Option.some.inj h
    have hK : (x1 : Int32) = r0 := hK
    exact w_zret C hlk hr hP hx1 hK rfl dX9_has_14
  have bk : ∀ (y : Int32), f_X9_has v0 v1 = some y → y = r0 → ∀ (H : Heap) (locs : List Loc), HS D aI aL 8 shM ad σ s H locs → W p l e (RM 0 0) s m args below meth c H locs 0 0 (MQ below (Qi D aI aL 8 shM ad r0 σ s.heap.size) args s 0 0 (AA ad 8 s.heap.size)) (F0 m 0 ls []) := by
    intro y h hK H locs hP
    unfold f_X9_has at h
    refine lv_iload_n hx hb_ dX9_has_0 rfl (lv_at hl 0 rfl) ?_
    refine lv_iload_n hx hb_ dX9_has_1 rfl (lv_at hl 1 rfl) ?_
    refine lv_ishr hx hb_ dX9_has_2 ?_
    refine lv_iconst (v := 1) hx hb_ dX9_has_3 (by decide) ?_
    refine lv_iand hx hb_ dX9_has_4 ?_
    refine lv_iconst (v := 1) hx hb_ dX9_has_5 (by decide) ?_
    refine lv_icmp_ne (tgt := 13) hx hb_ dX9_has_6 (by decide) (fun hc => ?_) (fun hc => ?_)
    · replace h := iff' h hc
      refine lv_iconst (v := 0) hx hb_ dX9_has_13 (by decide) ?_
      exact bk_14 0 y h hK _ _ _ hP (lv_sub hl [] rfl)
    · replace h := ift h hc
      refine lv_iconst (v := 1) hx hb_ dX9_has_9 (by decide) ?_
      refine lv_goto (tgt := 14) hx hb_ dX9_has_10 (by decide) ?_
      exact bk_14 1 y h hK _ _ _ hP (lv_sub hl [] rfl)
  exact bk r0 hf rfl _ _ hP
theorem hd_X9_ones : yX9_ones.cls = RX9 ∧ yX9_ones.cls ≠ "java/lang/invoke/MethodHandle" ∧ yX9_ones.cls ≠ "java/lang/invoke/VarHandle" ∧ (parseMethodDescriptor yX9_ones.desc).map (fun d => d.parameters.length) = some 1 := by decide +kernel
set_option maxHeartbeats 4000000 in
set_option maxRecDepth 100000 in
theorem c_X9_ones (l : Launch) (D : va_G) (aI aL : ClassId) (ad : Nat → Nat) (inj : Inj ad 8) (sz : Nat) (σ : Sg) (v0 : Int32) (r0 : Int32) (hf : f_X9_ones v0 = some r0) : Met l yX9_ones (wS yX9_ones cX9_ones 3 (some .int)) (RM 0 0) (Pw D aI aL 8 shM ad sz σ [.int v0]) (Qi D aI aL 8 shM ad r0 σ sz) 0 0 (AA ad 8 sz) := by
  refine Mof (Qc := Qi D aI aL 8 shM ad r0 σ) (by decide) inj (Nat.le_of_ble_eq_true rfl) ?_
  intro p e s m args below meth c ls C hlk hr hP hl
  have hx := C.1.1
  have hb_ := C.1.2.1
  have hown := C.1.2.2.2.1
  have hts := C.1.2.2.2.2
  have hl : lv_has ls 3 [(0, .int v0)] := hl
  have lp_4 : ∀ (n_4 : Nat) (v1_4 : Int32) (v2_4 : Int32) (y : Int32), itr n_4 (fun s => f_X9_ones_4s v0 s.1 s.2) (v1_4, v2_4) = some y → (fun y => y = r0) y → ∀ (H : Heap) (locs : List Loc) (ls : Array Slot), HS D aI aL 8 shM ad σ s H locs → lv_has ls 3 [(0, .int v0), (1, .int v1_4), (2, .int v2_4)] → W p l e (RM 0 0) s m args below meth c H locs 0 0 (MQ below (Qi D aI aL 8 shM ad r0 σ s.heap.size) args s 0 0 (AA ad 8 s.heap.size)) (F0 m 4 ls []) := by
    intro n_4
    induction n_4 with
    | zero =>
      intro v1_4 v2_4 y h hK
      cases (show (none : Option Int32) = some y from h)
    | succ n_4 ih_4 =>
      intro v1_4 v2_4 y h hK H locs ls hP hl
      obtain ⟨y, h, hK⟩ := itr_inv (K := (fun y => y = r0)) h hK
      replace h : f_X9_ones_4s v0 v1_4 v2_4 = some y := h
      unfold f_X9_ones_4s at h
      refine lv_iload_n hx hb_ dX9_ones_4 rfl (lv_at hl 2 rfl) ?_
      refine lv_bipush (v := 10) hx hb_ dX9_ones_5 (by decide) ?_
      refine lv_icmp_ge (tgt := 24) hx hb_ dX9_ones_7 (by decide) (fun hc => ?_) (fun hc => ?_)
      · replace h := ift h hc
        refine lv_iload_n hx hb_ dX9_ones_24 rfl (lv_at hl 1 rfl) ?_
        obtain rfl := Option.some.inj h
        have hK : (v1_4 : Int32) = r0 := hK
        exact w_iret C hlk hr hP hK rfl dX9_ones_25
      · replace h := iff' h hc
        refine lv_iload_n hx hb_ dX9_ones_10 rfl (lv_at hl 1 rfl) ?_
        refine lv_iload_n hx hb_ dX9_ones_11 rfl (lv_at hl 0 rfl) ?_
        refine lv_iload_n hx hb_ dX9_ones_12 rfl (lv_at hl 2 rfl) ?_
        refine lv_ishr hx hb_ dX9_ones_13 ?_
        refine lv_iconst (v := 1) hx hb_ dX9_ones_14 (by decide) ?_
        refine lv_iand hx hb_ dX9_ones_15 ?_
        refine lv_iadd hx hb_ dX9_ones_16 ?_
        obtain ⟨x1, hx1, h⟩ := nm_inv h
        refine w_ni hx1 ?_
        refine lv_istore_n (lv' := [(1, .int x1), (0, .int v0), (2, .int v2_4)]) hx hb_ dX9_ones_17 rfl hl (by decide) rfl (fun ls hl => ?_)
        obtain ⟨x2, hx2, h⟩ := nm_inv h
        refine lv_iinc (v := x2) (lv' := [(2, .int x2), (1, .int x1), (0, .int v0)]) hx hb_ dX9_ones_18 hl (k := 2) rfl (by rw [hx2]; rfl) (by decide) rfl (fun ls hl => ?_)
        refine lv_goto (tgt := 4) hx hb_ dX9_ones_21 (by decide) ?_
        obtain rfl := Option.some.inj h
        obtain ⟨y2, h, hK⟩ := hK
        exact ih_4 x1 x2 y2 h hK _ _ _ hP (lv_sub hl [2, 1, 0] rfl)
  have bk_4 : ∀ (v1_4 : Int32) (v2_4 : Int32) (y : Int32), f_X9_ones_4 v0 v1_4 v2_4 = some y → (fun y => y = r0) y → ∀ (H : Heap) (locs : List Loc) (ls : Array Slot), HS D aI aL 8 shM ad σ s H locs → lv_has ls 3 [(0, .int v0), (1, .int v1_4), (2, .int v2_4)] → W p l e (RM 0 0) s m args below meth c H locs 0 0 (MQ below (Qi D aI aL 8 shM ad r0 σ s.heap.size) args s 0 0 (AA ad 8 s.heap.size)) (F0 m 4 ls []) := fun v1_4 v2_4 y h hK => lp_4 3000 v1_4 v2_4 y h hK
  have bk : ∀ (y : Int32), f_X9_ones v0 = some y → y = r0 → ∀ (H : Heap) (locs : List Loc), HS D aI aL 8 shM ad σ s H locs → W p l e (RM 0 0) s m args below meth c H locs 0 0 (MQ below (Qi D aI aL 8 shM ad r0 σ s.heap.size) args s 0 0 (AA ad 8 s.heap.size)) (F0 m 0 ls []) := by
    intro y h hK H locs hP
    unfold f_X9_ones at h
    refine lv_iconst (v := 0) hx hb_ dX9_ones_0 (by decide) ?_
    refine lv_istore_n (lv' := [(1, .int 0), (0, .int v0)]) hx hb_ dX9_ones_1 rfl hl (by decide) rfl (fun ls hl => ?_)
    refine lv_iconst (v := 0) hx hb_ dX9_ones_2 (by decide) ?_
    refine lv_istore_n (lv' := [(2, .int 0), (1, .int 0), (0, .int v0)]) hx hb_ dX9_ones_3 rfl hl (by decide) rfl (fun ls hl => ?_)
    exact bk_4 0 0 y h hK _ _ _ hP (lv_sub hl [2, 1, 0] rfl)
  exact bk r0 hf rfl _ _ hP
theorem hd_X9_copy : yX9_copy.cls = RX9 ∧ yX9_copy.cls ≠ "java/lang/invoke/MethodHandle" ∧ yX9_copy.cls ≠ "java/lang/invoke/VarHandle" ∧ (parseMethodDescriptor yX9_copy.desc).map (fun d => d.parameters.length) = some 2 := by decide +kernel
set_option maxHeartbeats 4000000 in
set_option maxRecDepth 100000 in
theorem c_X9_copy (l : Launch) (D : va_G) (aI aL : ClassId) (ad : Nat → Nat) (inj : Inj ad 8) (sz : Nat) (σ : Sg) (v1 : Int32) (v2 : Int32) (r0 : Sg) (hf : f_X9_copy v1 v2 σ = some r0) : Met l yX9_copy (wS yX9_copy cX9_copy 4 (none : Option Jvm.ClassFile.FieldType)) (RM 0 0) (Pw D aI aL 8 shM ad sz σ [.ref (ad 0), .int v1, .int v2]) (Qv D aI aL 8 shM ad r0 sz) 0 0 (AA ad 8 sz) := by
  refine Mof (Qc := Qv D aI aL 8 shM ad r0) (by decide) inj (Nat.le_of_ble_eq_true rfl) ?_
  intro p e s m args below meth c ls C hlk hr hP hl
  have hx := C.1.1
  have hb_ := C.1.2.1
  have hown := C.1.2.2.2.1
  have hts := C.1.2.2.2.2
  have hl : lv_has ls 4 [(0, .ref (ad 0)), (1, .int v1), (2, .int v2)] := hl
  have lp_2 : ∀ (n_2 : Nat) (v3_2 : Int32) (s_2 : Sg) (y : Sg), itr n_2 (fun s => f_X9_copy_2s v1 v2 s.1 s.2) (v3_2, s_2) = some y → (fun y => y = r0) y → ∀ (H : Heap) (locs : List Loc) (ls : Array Slot), HS D aI aL 8 shM ad s_2 s H locs → lv_has ls 4 [(0, .ref (ad 0)), (1, .int v1), (2, .int v2), (3, .int v3_2)] → W p l e (RM 0 0) s m args below meth c H locs 0 0 (MQ below (Qv D aI aL 8 shM ad r0 s.heap.size) args s 0 0 (AA ad 8 s.heap.size)) (F0 m 2 ls []) := by
    intro n_2
    induction n_2 with
    | zero =>
      intro v3_2 s_2 y h hK
      cases (show (none : Option Sg) = some y from h)
    | succ n_2 ih_2 =>
      intro v3_2 s_2 y h hK H locs ls hP hl
      obtain ⟨y, h, hK⟩ := itr_inv (K := (fun y => y = r0)) h hK
      replace h : f_X9_copy_2s v1 v2 v3_2 s_2 = some y := h
      unfold f_X9_copy_2s at h
      refine lv_iload_n hx hb_ dX9_copy_2 rfl (lv_at hl 3 rfl) ?_
      refine lv_bipush (v := 55) hx hb_ dX9_copy_3 (by decide) ?_
      refine lv_icmp_ge (tgt := 30) hx hb_ dX9_copy_5 (by decide) (fun hc => ?_) (fun hc => ?_)
      · replace h := ift h hc
        obtain rfl := Option.some.inj h
        have hK : s_2 = r0 := hK
        exact w_vret C hlk hr hP hK dX9_copy_30
      · replace h := iff' h hc
        refine lv_aload_n hx hb_ dX9_copy_8 rfl (lv_at hl 0 rfl) ?_
        refine w_get C hP (k := 0) (by decide) 7 rfl rfl inWX9 0 (by decide) wt784 (v := .ref (ad 1)) rfl dX9_copy_9 ?_
        refine lv_iload_n hx hb_ dX9_copy_12 rfl (lv_at hl 2 rfl) ?_
        refine lv_iload_n hx hb_ dX9_copy_13 rfl (lv_at hl 3 rfl) ?_
        refine lv_iadd hx hb_ dX9_copy_14 ?_
        refine lv_aload_n hx hb_ dX9_copy_15 rfl (lv_at hl 0 rfl) ?_
        refine w_get C hP (k := 0) (by decide) 7 rfl rfl inWX9 0 (by decide) wt784 (v := .ref (ad 1)) rfl dX9_copy_16 ?_
        refine lv_iload_n hx hb_ dX9_copy_19 rfl (lv_at hl 1 rfl) ?_
        refine lv_iload_n hx hb_ dX9_copy_20 rfl (lv_at hl 3 rfl) ?_
        refine lv_iadd hx hb_ dX9_copy_21 ?_
        obtain ⟨x1, hx1, h⟩ := bnd h
        refine w_ald C hP (k := 1) (by decide) (n := 660) rfl hx1 dX9_copy_22 ?_
        obtain ⟨s2, hs2, h⟩ := bnd h
        refine w_ast C hP (k := 1) (by decide) (n := 660) rfl hs2 dX9_copy_23 (fun H locs hP => ?_)
        obtain ⟨x3, hx3, h⟩ := nm_inv h
        refine lv_iinc (v := x3) (lv' := [(3, .int x3), (0, .ref (ad 0)), (1, .int v1), (2, .int v2)]) hx hb_ dX9_copy_24 hl (k := 3) rfl (by rw [hx3]; rfl) (by decide) rfl (fun ls hl => ?_)
        refine lv_goto (tgt := 2) hx hb_ dX9_copy_27 (by decide) ?_
        obtain rfl := Option.some.inj h
        obtain ⟨y2, h, hK⟩ := hK
        exact ih_2 x3 s2 y2 h hK _ _ _ hP (lv_sub hl [1, 2, 3, 0] rfl)
  have bk_2 : ∀ (v3_2 : Int32) (s_2 : Sg) (y : Sg), f_X9_copy_2 v1 v2 v3_2 s_2 = some y → (fun y => y = r0) y → ∀ (H : Heap) (locs : List Loc) (ls : Array Slot), HS D aI aL 8 shM ad s_2 s H locs → lv_has ls 4 [(0, .ref (ad 0)), (1, .int v1), (2, .int v2), (3, .int v3_2)] → W p l e (RM 0 0) s m args below meth c H locs 0 0 (MQ below (Qv D aI aL 8 shM ad r0 s.heap.size) args s 0 0 (AA ad 8 s.heap.size)) (F0 m 2 ls []) := fun v3_2 s_2 y h hK => lp_2 3000 v3_2 s_2 y h hK
  have bk : ∀ (y : Sg), f_X9_copy v1 v2 σ = some y → y = r0 → ∀ (H : Heap) (locs : List Loc), HS D aI aL 8 shM ad σ s H locs → W p l e (RM 0 0) s m args below meth c H locs 0 0 (MQ below (Qv D aI aL 8 shM ad r0 s.heap.size) args s 0 0 (AA ad 8 s.heap.size)) (F0 m 0 ls []) := by
    intro y h hK H locs hP
    unfold f_X9_copy at h
    refine lv_iconst (v := 0) hx hb_ dX9_copy_0 (by decide) ?_
    refine lv_istore_n (lv' := [(3, .int 0), (0, .ref (ad 0)), (1, .int v1), (2, .int v2)]) hx hb_ dX9_copy_1 rfl hl (by decide) rfl (fun ls hl => ?_)
    exact bk_2 0 σ y h hK _ _ _ hP (lv_sub hl [1, 2, 3, 0] rfl)
  exact bk r0 hf rfl _ _ hP
theorem hd_X9_makeAnew : yX9_makeAnew.cls = RX9 ∧ yX9_makeAnew.cls ≠ "java/lang/invoke/MethodHandle" ∧ yX9_makeAnew.cls ≠ "java/lang/invoke/VarHandle" ∧ (parseMethodDescriptor yX9_makeAnew.desc).map (fun d => d.parameters.length) = some 1 := by decide +kernel
set_option maxHeartbeats 4000000 in
set_option maxRecDepth 100000 in
theorem c_X9_makeAnew (l : Launch) (D : va_G) (aI aL : ClassId) (ad : Nat → Nat) (inj : Inj ad 8) (sz : Nat) (σ : Sg) (v1 : Int32) (r0 : Sg) (hf : f_X9_makeAnew v1 σ = some r0) : Met l yX9_makeAnew (wS yX9_makeAnew cX9_makeAnew 3 (none : Option Jvm.ClassFile.FieldType)) (RM 0 0) (Pw D aI aL 8 shM ad sz σ [.ref (ad 0), .int v1]) (Qv D aI aL 8 shM ad r0 sz) 0 0 (AA ad 8 sz) := by
  refine Mof (Qc := Qv D aI aL 8 shM ad r0) (by decide) inj (Nat.le_of_ble_eq_true rfl) ?_
  intro p e s m args below meth c ls C hlk hr hP hl
  have hx := C.1.1
  have hb_ := C.1.2.1
  have hown := C.1.2.2.2.1
  have hts := C.1.2.2.2.2
  have hl : lv_has ls 3 [(0, .ref (ad 0)), (1, .int v1)] := hl
  have lp_2 : ∀ (n_2 : Nat) (v2_2 : Int32) (s_2 : Sg) (y : Sg), itr n_2 (fun s => f_X9_makeAnew_2s v1 s.1 s.2) (v2_2, s_2) = some y → (fun y => y = r0) y → ∀ (H : Heap) (locs : List Loc) (ls : Array Slot), HS D aI aL 8 shM ad s_2 s H locs → lv_has ls 3 [(0, .ref (ad 0)), (1, .int v1), (2, .int v2_2)] → W p l e (RM 0 0) s m args below meth c H locs 0 0 (MQ below (Qv D aI aL 8 shM ad r0 s.heap.size) args s 0 0 (AA ad 8 s.heap.size)) (F0 m 2 ls []) := by
    intro n_2
    induction n_2 with
    | zero =>
      intro v2_2 s_2 y h hK
      cases (show (none : Option Sg) = some y from h)
    | succ n_2 ih_2 =>
      intro v2_2 s_2 y h hK H locs ls hP hl
      obtain ⟨y, h, hK⟩ := itr_inv (K := (fun y => y = r0)) h hK
      replace h : f_X9_makeAnew_2s v1 v2_2 s_2 = some y := h
      unfold f_X9_makeAnew_2s at h
      refine lv_iload_n hx hb_ dX9_makeAnew_2 rfl (lv_at hl 2 rfl) ?_
      refine lv_bipush (v := 55) hx hb_ dX9_makeAnew_3 (by decide) ?_
      refine lv_icmp_ge (tgt := 23) hx hb_ dX9_makeAnew_5 (by decide) (fun hc => ?_) (fun hc => ?_)
      · replace h := ift h hc
        refine lv_aload_n hx hb_ dX9_makeAnew_23 rfl (lv_at hl 0 rfl) ?_
        refine w_get C hP (k := 0) (by decide) 7 rfl rfl inWX9 0 (by decide) wt784 (v := .ref (ad 1)) rfl dX9_makeAnew_24 ?_
        refine lv_iload_n hx hb_ dX9_makeAnew_27 rfl (lv_at hl 1 rfl) ?_
        refine lv_iconst (v := 0) hx hb_ dX9_makeAnew_28 (by decide) ?_
        refine lv_iadd hx hb_ dX9_makeAnew_29 ?_
        refine lv_iconst (v := 4) hx hb_ dX9_makeAnew_30 (by decide) ?_
        obtain ⟨s1, hs1, h⟩ := bnd h
        refine w_ast C hP (k := 1) (by decide) (n := 660) rfl hs1 dX9_makeAnew_31 (fun H locs hP => ?_)
        obtain rfl := Option.some.inj h
        have hK : s1 = r0 := hK
        exact w_vret C hlk hr hP hK dX9_makeAnew_32
      · replace h := iff' h hc
        refine lv_aload_n hx hb_ dX9_makeAnew_8 rfl (lv_at hl 0 rfl) ?_
        refine w_get C hP (k := 0) (by decide) 7 rfl rfl inWX9 0 (by decide) wt784 (v := .ref (ad 1)) rfl dX9_makeAnew_9 ?_
        refine lv_iload_n hx hb_ dX9_makeAnew_12 rfl (lv_at hl 1 rfl) ?_
        refine lv_iload_n hx hb_ dX9_makeAnew_13 rfl (lv_at hl 2 rfl) ?_
        refine lv_iadd hx hb_ dX9_makeAnew_14 ?_
        refine lv_iconst (v := 0) hx hb_ dX9_makeAnew_15 (by decide) ?_
        obtain ⟨s2, hs2, h⟩ := bnd h
        refine w_ast C hP (k := 1) (by decide) (n := 660) rfl hs2 dX9_makeAnew_16 (fun H locs hP => ?_)
        obtain ⟨x3, hx3, h⟩ := nm_inv h
        refine lv_iinc (v := x3) (lv' := [(2, .int x3), (0, .ref (ad 0)), (1, .int v1)]) hx hb_ dX9_makeAnew_17 hl (k := 2) rfl (by rw [hx3]; rfl) (by decide) rfl (fun ls hl => ?_)
        refine lv_goto (tgt := 2) hx hb_ dX9_makeAnew_20 (by decide) ?_
        obtain rfl := Option.some.inj h
        obtain ⟨y2, h, hK⟩ := hK
        exact ih_2 x3 s2 y2 h hK _ _ _ hP (lv_sub hl [1, 2, 0] rfl)
  have bk_2 : ∀ (v2_2 : Int32) (s_2 : Sg) (y : Sg), f_X9_makeAnew_2 v1 v2_2 s_2 = some y → (fun y => y = r0) y → ∀ (H : Heap) (locs : List Loc) (ls : Array Slot), HS D aI aL 8 shM ad s_2 s H locs → lv_has ls 3 [(0, .ref (ad 0)), (1, .int v1), (2, .int v2_2)] → W p l e (RM 0 0) s m args below meth c H locs 0 0 (MQ below (Qv D aI aL 8 shM ad r0 s.heap.size) args s 0 0 (AA ad 8 s.heap.size)) (F0 m 2 ls []) := fun v2_2 s_2 y h hK => lp_2 3000 v2_2 s_2 y h hK
  have bk : ∀ (y : Sg), f_X9_makeAnew v1 σ = some y → y = r0 → ∀ (H : Heap) (locs : List Loc), HS D aI aL 8 shM ad σ s H locs → W p l e (RM 0 0) s m args below meth c H locs 0 0 (MQ below (Qv D aI aL 8 shM ad r0 s.heap.size) args s 0 0 (AA ad 8 s.heap.size)) (F0 m 0 ls []) := by
    intro y h hK H locs hP
    unfold f_X9_makeAnew at h
    refine lv_iconst (v := 0) hx hb_ dX9_makeAnew_0 (by decide) ?_
    refine lv_istore_n (lv' := [(2, .int 0), (0, .ref (ad 0)), (1, .int v1)]) hx hb_ dX9_makeAnew_1 rfl hl (by decide) rfl (fun ls hl => ?_)
    exact bk_2 0 σ y h hK _ _ _ hP (lv_sub hl [1, 2, 0] rfl)
  exact bk r0 hf rfl _ _ hP
theorem hd_X9_layStep : yX9_layStep.cls = RX9 ∧ yX9_layStep.cls ≠ "java/lang/invoke/MethodHandle" ∧ yX9_layStep.cls ≠ "java/lang/invoke/VarHandle" ∧ (parseMethodDescriptor yX9_layStep.desc).map (fun d => d.parameters.length) = some 4 := by decide +kernel
set_option maxHeartbeats 4000000 in
set_option maxRecDepth 100000 in
theorem c_X9_layStep (l : Launch) (D : va_G) (aI aL : ClassId) (ad : Nat → Nat) (inj : Inj ad 8) (sz : Nat) (σ : Sg) (v1 : Int32) (v2 : Int32) (v3 : Int32) (v4 : Int32) (r0 : Sg) (hf : f_X9_layStep v1 v2 v3 v4 σ = some r0) : Met l yX9_layStep (wS yX9_layStep cX9_layStep 6 (none : Option Jvm.ClassFile.FieldType)) (RM 0 0) (Pw D aI aL 8 shM ad sz σ [.ref (ad 0), .int v1, .int v2, .int v3, .int v4]) (Qv D aI aL 8 shM ad r0 sz) 0 0 (AA ad 8 sz) := by
  refine Mof (Qc := Qv D aI aL 8 shM ad r0) (by decide) inj (Nat.le_of_ble_eq_true rfl) ?_
  intro p e s m args below meth c ls C hlk hr hP hl
  have hx := C.1.1
  have hb_ := C.1.2.1
  have hown := C.1.2.2.2.1
  have hts := C.1.2.2.2.2
  have hl : lv_has ls 6 [(0, .ref (ad 0)), (1, .int v1), (2, .int v2), (3, .int v3), (4, .int v4)] := hl
  have bk : ∀ (y : Sg), f_X9_layStep v1 v2 v3 v4 σ = some y → y = r0 → ∀ (H : Heap) (locs : List Loc), HS D aI aL 8 shM ad σ s H locs → W p l e (RM 0 0) s m args below meth c H locs 0 0 (MQ below (Qv D aI aL 8 shM ad r0 s.heap.size) args s 0 0 (AA ad 8 s.heap.size)) (F0 m 0 ls []) := by
    intro y h hK H locs hP
    unfold f_X9_layStep at h
    refine lv_aload_n hx hb_ dX9_layStep_0 rfl (lv_at hl 0 rfl) ?_
    refine w_get C hP (k := 0) (by decide) 7 rfl rfl inWX9 0 (by decide) wt784 (v := .ref (ad 1)) rfl dX9_layStep_1 ?_
    refine lv_iload_n hx hb_ dX9_layStep_4 rfl (lv_at hl 1 rfl) ?_
    refine lv_iconst (v := 4) hx hb_ dX9_layStep_5 (by decide) ?_
    refine lv_iadd hx hb_ dX9_layStep_6 ?_
    obtain ⟨x1, hx1, h⟩ := bnd h
    refine w_ald C hP (k := 1) (by decide) (n := 660) rfl hx1 dX9_layStep_7 ?_
    refine lv_istore (lv' := [(5, .int x1), (0, .ref (ad 0)), (1, .int v1), (2, .int v2), (3, .int v3), (4, .int v4)]) hx hb_ dX9_layStep_8 hl (by decide) rfl (fun ls hl => ?_)
    refine lv_aload_n hx hb_ dX9_layStep_10 rfl (lv_at hl 1 rfl) ?_
    refine w_get C hP (k := 0) (by decide) 7 rfl rfl inWX9 0 (by decide) wt784 (v := .ref (ad 1)) rfl dX9_layStep_11 ?_
    refine lv_iload_n hx hb_ dX9_layStep_14 rfl (lv_at hl 2 rfl) ?_
    refine lv_iconst (v := 5) hx hb_ dX9_layStep_15 (by decide) ?_
    refine lv_iadd hx hb_ dX9_layStep_16 ?_
    refine lv_iload hx hb_ dX9_layStep_17 (lv_at hl 0 rfl) ?_
    refine lv_iadd hx hb_ dX9_layStep_19 ?_
    refine lv_iload_n hx hb_ dX9_layStep_20 rfl (lv_at hl 3 rfl) ?_
    obtain ⟨s2, hs2, h⟩ := bnd h
    refine w_ast C hP (k := 1) (by decide) (n := 660) rfl hs2 dX9_layStep_21 (fun H locs hP => ?_)
    refine lv_aload_n hx hb_ dX9_layStep_22 rfl (lv_at hl 1 rfl) ?_
    refine w_get C hP (k := 0) (by decide) 7 rfl rfl inWX9 0 (by decide) wt784 (v := .ref (ad 1)) rfl dX9_layStep_23 ?_
    refine lv_iload_n hx hb_ dX9_layStep_26 rfl (lv_at hl 2 rfl) ?_
    refine lv_bipush (v := 15) hx hb_ dX9_layStep_27 (by decide) ?_
    refine lv_iadd hx hb_ dX9_layStep_29 ?_
    refine lv_iload hx hb_ dX9_layStep_30 (lv_at hl 0 rfl) ?_
    refine lv_iadd hx hb_ dX9_layStep_32 ?_
    refine lv_iload_n hx hb_ dX9_layStep_33 rfl (lv_at hl 4 rfl) ?_
    obtain ⟨s3, hs3, h⟩ := bnd h
    refine w_ast C hP (k := 1) (by decide) (n := 660) rfl hs3 dX9_layStep_34 (fun H locs hP => ?_)
    refine lv_aload_n hx hb_ dX9_layStep_35 rfl (lv_at hl 1 rfl) ?_
    refine w_get C hP (k := 0) (by decide) 7 rfl rfl inWX9 0 (by decide) wt784 (v := .ref (ad 1)) rfl dX9_layStep_36 ?_
    refine lv_iload_n hx hb_ dX9_layStep_39 rfl (lv_at hl 2 rfl) ?_
    refine lv_bipush (v := 25) hx hb_ dX9_layStep_40 (by decide) ?_
    refine lv_iadd hx hb_ dX9_layStep_42 ?_
    refine lv_iload hx hb_ dX9_layStep_43 (lv_at hl 0 rfl) ?_
    refine lv_iadd hx hb_ dX9_layStep_45 ?_
    refine lv_iload hx hb_ dX9_layStep_46 (lv_at hl 5 rfl) ?_
    obtain ⟨s4, hs4, h⟩ := bnd h
    refine w_ast C hP (k := 1) (by decide) (n := 660) rfl hs4 dX9_layStep_48 (fun H locs hP => ?_)
    refine lv_aload_n hx hb_ dX9_layStep_49 rfl (lv_at hl 1 rfl) ?_
    refine w_get C hP (k := 0) (by decide) 7 rfl rfl inWX9 0 (by decide) wt784 (v := .ref (ad 1)) rfl dX9_layStep_50 ?_
    refine lv_iload_n hx hb_ dX9_layStep_53 rfl (lv_at hl 2 rfl) ?_
    refine lv_iconst (v := 4) hx hb_ dX9_layStep_54 (by decide) ?_
    refine lv_iadd hx hb_ dX9_layStep_55 ?_
    refine lv_dup2_11 hx hb_ dX9_layStep_56 rfl rfl ?_
    obtain ⟨x5, hx5, h⟩ := bnd h
    refine w_ald C hP (k := 1) (by decide) (n := 660) rfl hx5 dX9_layStep_57 ?_
    refine lv_iconst (v := 1) hx hb_ dX9_layStep_58 (by decide) ?_
    refine lv_iadd hx hb_ dX9_layStep_59 ?_
    obtain ⟨s6, hs6, h⟩ := bnd h
    refine w_ast C hP (k := 1) (by decide) (n := 660) rfl hs6 dX9_layStep_60 (fun H locs hP => ?_)
    obtain rfl := Option.some.inj h
    have hK : s6 = r0 := hK
    exact w_vret C hlk hr hP hK dX9_layStep_61
  exact bk r0 hf rfl _ _ hP
theorem hd_X9_settle : yX9_settle.cls = RX9 ∧ yX9_settle.cls ≠ "java/lang/invoke/MethodHandle" ∧ yX9_settle.cls ≠ "java/lang/invoke/VarHandle" ∧ (parseMethodDescriptor yX9_settle.desc).map (fun d => d.parameters.length) = some 1 := by decide +kernel
set_option maxHeartbeats 4000000 in
set_option maxRecDepth 100000 in
theorem c_X9_settle (l : Launch) (D : va_G) (aI aL : ClassId) (ad : Nat → Nat) (inj : Inj ad 8) (sz : Nat) (σ : Sg) (v1 : Int32) (r0 : Sg) (hf : f_X9_settle v1 σ = some r0) : Met l yX9_settle (wS yX9_settle cX9_settle 2 (none : Option Jvm.ClassFile.FieldType)) (RM 0 0) (Pw D aI aL 8 shM ad sz σ [.ref (ad 0), .int v1]) (Qv D aI aL 8 shM ad r0 sz) 0 0 (AA ad 8 sz) := by
  refine Mof (Qc := Qv D aI aL 8 shM ad r0) (by decide) inj (Nat.le_of_ble_eq_true rfl) ?_
  intro p e s m args below meth c ls C hlk hr hP hl
  have hx := C.1.1
  have hb_ := C.1.2.1
  have hown := C.1.2.2.2.1
  have hts := C.1.2.2.2.2
  have hl : lv_has ls 2 [(0, .ref (ad 0)), (1, .int v1)] := hl
  have bk : ∀ (y : Sg), f_X9_settle v1 σ = some y → y = r0 → ∀ (H : Heap) (locs : List Loc), HS D aI aL 8 shM ad σ s H locs → W p l e (RM 0 0) s m args below meth c H locs 0 0 (MQ below (Qv D aI aL 8 shM ad r0 s.heap.size) args s 0 0 (AA ad 8 s.heap.size)) (F0 m 0 ls []) := by
    intro y h hK H locs hP
    unfold f_X9_settle at h
    refine lv_aload_n hx hb_ dX9_settle_0 rfl (lv_at hl 0 rfl) ?_
    refine w_get C hP (k := 0) (by decide) 7 rfl rfl inWX9 0 (by decide) wt784 (v := .ref (ad 1)) rfl dX9_settle_1 ?_
    refine lv_iload_n hx hb_ dX9_settle_4 rfl (lv_at hl 1 rfl) ?_
    refine lv_iconst (v := 2) hx hb_ dX9_settle_5 (by decide) ?_
    refine lv_iadd hx hb_ dX9_settle_6 ?_
    refine lv_iconst (v := 1) hx hb_ dX9_settle_7 (by decide) ?_
    refine lv_aload_n hx hb_ dX9_settle_8 rfl (lv_at hl 0 rfl) ?_
    refine w_get C hP (k := 0) (by decide) 7 rfl rfl inWX9 0 (by decide) wt784 (v := .ref (ad 1)) rfl dX9_settle_9 ?_
    refine lv_iload_n hx hb_ dX9_settle_12 rfl (lv_at hl 1 rfl) ?_
    refine lv_iconst (v := 0) hx hb_ dX9_settle_13 (by decide) ?_
    refine lv_iadd hx hb_ dX9_settle_14 ?_
    obtain ⟨x1, hx1, h⟩ := bnd h
    refine w_ald C hP (k := 1) (by decide) (n := 660) rfl hx1 dX9_settle_15 ?_
    refine lv_ishl hx hb_ dX9_settle_16 ?_
    refine lv_iconst (v := 1) hx hb_ dX9_settle_17 (by decide) ?_
    refine lv_isub hx hb_ dX9_settle_18 ?_
    obtain ⟨s2, hs2, h⟩ := bnd h
    refine w_ast C hP (k := 1) (by decide) (n := 660) rfl hs2 dX9_settle_19 (fun H locs hP => ?_)
    refine lv_aload_n hx hb_ dX9_settle_20 rfl (lv_at hl 0 rfl) ?_
    refine w_get C hP (k := 0) (by decide) 7 rfl rfl inWX9 0 (by decide) wt784 (v := .ref (ad 1)) rfl dX9_settle_21 ?_
    refine lv_iload_n hx hb_ dX9_settle_24 rfl (lv_at hl 1 rfl) ?_
    refine lv_iconst (v := 3) hx hb_ dX9_settle_25 (by decide) ?_
    refine lv_iadd hx hb_ dX9_settle_26 ?_
    refine lv_aload_n hx hb_ dX9_settle_27 rfl (lv_at hl 0 rfl) ?_
    refine w_get C hP (k := 0) (by decide) 7 rfl rfl inWX9 0 (by decide) wt784 (v := .ref (ad 1)) rfl dX9_settle_28 ?_
    refine lv_iload_n hx hb_ dX9_settle_31 rfl (lv_at hl 1 rfl) ?_
    refine lv_iconst (v := 1) hx hb_ dX9_settle_32 (by decide) ?_
    refine lv_iadd hx hb_ dX9_settle_33 ?_
    obtain ⟨x3, hx3, h⟩ := bnd h
    refine w_ald C hP (k := 1) (by decide) (n := 660) rfl hx3 dX9_settle_34 ?_
    obtain ⟨s4, hs4, h⟩ := bnd h
    refine w_ast C hP (k := 1) (by decide) (n := 660) rfl hs4 dX9_settle_35 (fun H locs hP => ?_)
    obtain rfl := Option.some.inj h
    have hK : s4 = r0 := hK
    exact w_vret C hlk hr hP hK dX9_settle_36
  exact bk r0 hf rfl _ _ hP
theorem hd_X9_isStone : yX9_isStone.cls = RX9 ∧ yX9_isStone.cls ≠ "java/lang/invoke/MethodHandle" ∧ yX9_isStone.cls ≠ "java/lang/invoke/VarHandle" ∧ (parseMethodDescriptor yX9_isStone.desc).map (fun d => d.parameters.length) = some 1 := by decide +kernel
set_option maxHeartbeats 4000000 in
set_option maxRecDepth 100000 in
theorem c_X9_isStone (l : Launch) (D : va_G) (aI aL : ClassId) (ad : Nat → Nat) (inj : Inj ad 8) (sz : Nat) (σ : Sg) (v1 : Int32) (r0 : Int32) (hf : f_X9_isStone v1 σ = some r0) : Met l yX9_isStone (wS yX9_isStone cX9_isStone 2 (some .boolean)) (RM 1 25) (Pw D aI aL 8 shM ad sz σ [.ref (ad 0), .int v1]) (Qi D aI aL 8 shM ad r0 σ sz) 0 0 (AA ad 8 sz) := by
  refine Mof (Qc := Qi D aI aL 8 shM ad r0 σ) (by decide) inj (Nat.le_of_ble_eq_true rfl) ?_
  intro p e s m args below meth c ls C hlk hr hP hl
  have hx := C.1.1
  have hb_ := C.1.2.1
  have hown := C.1.2.2.2.1
  have hts := C.1.2.2.2.2
  have hl : lv_has ls 2 [(0, .ref (ad 0)), (1, .int v1)] := hl
  have bk : ∀ (y : Int32), f_X9_isStone v1 σ = some y → y = r0 → ∀ (H : Heap) (locs : List Loc), HS D aI aL 8 shM ad σ s H locs → W p l e (RM 1 25) s m args below meth c H locs 0 0 (MQ below (Qi D aI aL 8 shM ad r0 σ s.heap.size) args s 0 0 (AA ad 8 s.heap.size)) (F0 m 0 ls []) := by
    intro y h hK H locs hP
    unfold f_X9_isStone at h
    refine lv_iload_n hx hb_ dX9_isStone_0 rfl (lv_at hl 1 rfl) ?_
    refine lv_i2l hx hb_ dX9_isStone_1 rfl ?_
    refine lv_lconst (v := 0) hx hb_ dX9_isStone_2 (by decide) ?_
    refine lv_aload_n hx hb_ dX9_isStone_3 rfl (lv_at hl 0 rfl) ?_
    refine w_get C hP (k := 0) (by decide) 7 rfl rfl inWX9 0 (by decide) wt784 (v := .ref (ad 1)) rfl dX9_isStone_4 ?_
    refine lv_iconst (v := 0) hx hb_ dX9_isStone_7 (by decide) ?_
    obtain ⟨x1, hx1, h⟩ := bnd h
    refine w_ald C hP (k := 1) (by decide) (n := 660) rfl hx1 dX9_isStone_8 ?_
    refine lv_iconst (v := 1) hx hb_ dX9_isStone_9 (by decide) ?_
    refine lv_isub hx hb_ dX9_isStone_10 ?_
    refine lv_i2l hx hb_ dX9_isStone_11 rfl ?_
    obtain ⟨q2, hq2, h⟩ := bnd h
    refine w_ci (w_rS (As := [.long ((v1 : Int32).toInt64), .long 0, .long (((x1 - (1 : Int32)) : Int32).toInt64)]) (rest := []) C hP (c_X9_in l D aI aL ad inj _ σ ((v1 : Int32).toInt64) 0 (((x1 - (1 : Int32)) : Int32).toInt64) q2 hq2) wt830 wt831 wt12 wt832 3 hd_X9_in ⟨Nat.le_of_ble_eq_true rfl, Nat.le_of_ble_eq_true rfl⟩ rfl hl.1 rfl (Nat.le_of_ble_eq_true rfl) dX9_isStone_12) hP (fun H locs hP => ?_)
    obtain ⟨x3, hx3, h⟩ := bnd h
    obtain rfl := Option.some.inj h
    have hK : (x3 : Int32) = r0 := hK
    exact w_zret C hlk hr hP hx3 hK rfl dX9_isStone_15
  exact bk r0 hf rfl _ _ hP
theorem hd_X9_isSet : yX9_isSet.cls = RX9 ∧ yX9_isSet.cls ≠ "java/lang/invoke/MethodHandle" ∧ yX9_isSet.cls ≠ "java/lang/invoke/VarHandle" ∧ (parseMethodDescriptor yX9_isSet.desc).map (fun d => d.parameters.length) = some 1 := by decide +kernel
set_option maxHeartbeats 4000000 in
set_option maxRecDepth 100000 in
theorem c_X9_isSet (l : Launch) (D : va_G) (aI aL : ClassId) (ad : Nat → Nat) (inj : Inj ad 8) (sz : Nat) (σ : Sg) (v1 : Int32) (r0 : Int32) (hf : f_X9_isSet v1 σ = some r0) : Met l yX9_isSet (wS yX9_isSet cX9_isSet 2 (some .boolean)) (RM 1 25) (Pw D aI aL 8 shM ad sz σ [.ref (ad 0), .int v1]) (Qi D aI aL 8 shM ad r0 σ sz) 0 0 (AA ad 8 sz) := by
  refine Mof (Qc := Qi D aI aL 8 shM ad r0 σ) (by decide) inj (Nat.le_of_ble_eq_true rfl) ?_
  intro p e s m args below meth c ls C hlk hr hP hl
  have hx := C.1.1
  have hb_ := C.1.2.1
  have hown := C.1.2.2.2.1
  have hts := C.1.2.2.2.2
  have hl : lv_has ls 2 [(0, .ref (ad 0)), (1, .int v1)] := hl
  have bk : ∀ (y : Int32), f_X9_isSet v1 σ = some y → y = r0 → ∀ (H : Heap) (locs : List Loc), HS D aI aL 8 shM ad σ s H locs → W p l e (RM 1 25) s m args below meth c H locs 0 0 (MQ below (Qi D aI aL 8 shM ad r0 σ s.heap.size) args s 0 0 (AA ad 8 s.heap.size)) (F0 m 0 ls []) := by
    intro y h hK H locs hP
    unfold f_X9_isSet at h
    refine lv_iload_n hx hb_ dX9_isSet_0 rfl (lv_at hl 1 rfl) ?_
    refine lv_i2l hx hb_ dX9_isSet_1 rfl ?_
    refine lv_lconst (v := 0) hx hb_ dX9_isSet_2 (by decide) ?_
    refine lv_iconst (v := 1) hx hb_ dX9_isSet_3 (by decide) ?_
    refine lv_aload_n hx hb_ dX9_isSet_4 rfl (lv_at hl 0 rfl) ?_
    refine w_get C hP (k := 0) (by decide) 7 rfl rfl inWX9 0 (by decide) wt784 (v := .ref (ad 1)) rfl dX9_isSet_5 ?_
    refine lv_iconst (v := 0) hx hb_ dX9_isSet_8 (by decide) ?_
    obtain ⟨x1, hx1, h⟩ := bnd h
    refine w_ald C hP (k := 1) (by decide) (n := 660) rfl hx1 dX9_isSet_9 ?_
    refine lv_ishl hx hb_ dX9_isSet_10 ?_
    refine lv_iconst (v := 1) hx hb_ dX9_isSet_11 (by decide) ?_
    refine lv_isub hx hb_ dX9_isSet_12 ?_
    refine lv_i2l hx hb_ dX9_isSet_13 rfl ?_
    obtain ⟨q2, hq2, h⟩ := bnd h
    refine w_ci (w_rS (As := [.long ((v1 : Int32).toInt64), .long 0, .long (((((1 : Int32) <<< (x1 &&& 31)) - (1 : Int32)) : Int32).toInt64)]) (rest := []) C hP (c_X9_in l D aI aL ad inj _ σ ((v1 : Int32).toInt64) 0 (((((1 : Int32) <<< (x1 &&& 31)) - (1 : Int32)) : Int32).toInt64) q2 hq2) wt830 wt831 wt12 wt832 3 hd_X9_in ⟨Nat.le_of_ble_eq_true rfl, Nat.le_of_ble_eq_true rfl⟩ rfl hl.1 rfl (Nat.le_of_ble_eq_true rfl) dX9_isSet_14) hP (fun H locs hP => ?_)
    obtain ⟨x3, hx3, h⟩ := bnd h
    obtain rfl := Option.some.inj h
    have hK : (x3 : Int32) = r0 := hK
    exact w_zret C hlk hr hP hx3 hK rfl dX9_isSet_17
  exact bk r0 hf rfl _ _ hP
theorem hd_X9_isStep : yX9_isStep.cls = RX9 ∧ yX9_isStep.cls ≠ "java/lang/invoke/MethodHandle" ∧ yX9_isStep.cls ≠ "java/lang/invoke/VarHandle" ∧ (parseMethodDescriptor yX9_isStep.desc).map (fun d => d.parameters.length) = some 1 := by decide +kernel
set_option maxHeartbeats 4000000 in
set_option maxRecDepth 100000 in
theorem c_X9_isStep (l : Launch) (D : va_G) (aI aL : ClassId) (ad : Nat → Nat) (inj : Inj ad 8) (sz : Nat) (σ : Sg) (v1 : Int32) (r0 : Int32) (hf : f_X9_isStep v1 σ = some r0) : Met l yX9_isStep (wS yX9_isStep cX9_isStep 2 (some .boolean)) (RM 1 25) (Pw D aI aL 8 shM ad sz σ [.ref (ad 0), .int v1]) (Qi D aI aL 8 shM ad r0 σ sz) 0 0 (AA ad 8 sz) := by
  refine Mof (Qc := Qi D aI aL 8 shM ad r0 σ) (by decide) inj (Nat.le_of_ble_eq_true rfl) ?_
  intro p e s m args below meth c ls C hlk hr hP hl
  have hx := C.1.1
  have hb_ := C.1.2.1
  have hown := C.1.2.2.2.1
  have hts := C.1.2.2.2.2
  have hl : lv_has ls 2 [(0, .ref (ad 0)), (1, .int v1)] := hl
  have bk : ∀ (y : Int32), f_X9_isStep v1 σ = some y → y = r0 → ∀ (H : Heap) (locs : List Loc), HS D aI aL 8 shM ad σ s H locs → W p l e (RM 1 25) s m args below meth c H locs 0 0 (MQ below (Qi D aI aL 8 shM ad r0 σ s.heap.size) args s 0 0 (AA ad 8 s.heap.size)) (F0 m 0 ls []) := by
    intro y h hK H locs hP
    unfold f_X9_isStep at h
    refine lv_iload_n hx hb_ dX9_isStep_0 rfl (lv_at hl 1 rfl) ?_
    refine lv_i2l hx hb_ dX9_isStep_1 rfl ?_
    refine lv_lconst (v := 0) hx hb_ dX9_isStep_2 (by decide) ?_
    refine lv_aload_n hx hb_ dX9_isStep_3 rfl (lv_at hl 0 rfl) ?_
    refine w_get C hP (k := 0) (by decide) 7 rfl rfl inWX9 0 (by decide) wt784 (v := .ref (ad 1)) rfl dX9_isStep_4 ?_
    refine lv_iconst (v := 4) hx hb_ dX9_isStep_7 (by decide) ?_
    obtain ⟨x1, hx1, h⟩ := bnd h
    refine w_ald C hP (k := 1) (by decide) (n := 660) rfl hx1 dX9_isStep_8 ?_
    refine lv_iconst (v := 1) hx hb_ dX9_isStep_9 (by decide) ?_
    refine lv_isub hx hb_ dX9_isStep_10 ?_
    refine lv_i2l hx hb_ dX9_isStep_11 rfl ?_
    obtain ⟨q2, hq2, h⟩ := bnd h
    refine w_ci (w_rS (As := [.long ((v1 : Int32).toInt64), .long 0, .long (((x1 - (1 : Int32)) : Int32).toInt64)]) (rest := []) C hP (c_X9_in l D aI aL ad inj _ σ ((v1 : Int32).toInt64) 0 (((x1 - (1 : Int32)) : Int32).toInt64) q2 hq2) wt830 wt831 wt12 wt832 3 hd_X9_in ⟨Nat.le_of_ble_eq_true rfl, Nat.le_of_ble_eq_true rfl⟩ rfl hl.1 rfl (Nat.le_of_ble_eq_true rfl) dX9_isStep_12) hP (fun H locs hP => ?_)
    obtain ⟨x3, hx3, h⟩ := bnd h
    obtain rfl := Option.some.inj h
    have hK : (x3 : Int32) = r0 := hK
    exact w_zret C hlk hr hP hx3 hK rfl dX9_isStep_15
  exact bk r0 hf rfl _ _ hP
theorem hd_X9_write : yX9_write.cls = RX9 ∧ yX9_write.cls ≠ "java/lang/invoke/MethodHandle" ∧ yX9_write.cls ≠ "java/lang/invoke/VarHandle" ∧ (parseMethodDescriptor yX9_write.desc).map (fun d => d.parameters.length) = some 2 := by decide +kernel
set_option maxHeartbeats 4000000 in
set_option maxRecDepth 100000 in
theorem c_X9_write (l : Launch) (D : va_G) (aI aL : ClassId) (ad : Nat → Nat) (inj : Inj ad 8) (sz : Nat) (σ : Sg) (v1 : Int32) (v2 : Int64) (r0 : (Int32 × Sg)) (hf : f_X9_write v1 v2 σ = some r0) : Met l yX9_write (wS yX9_write cX9_write 5 (some .int)) (RM 1 25) (Pw D aI aL 8 shM ad sz σ [.ref (ad 0), .int v1, .long v2]) (Qi D aI aL 8 shM ad r0.1 r0.2 sz) 0 0 (AA ad 8 sz) := by
  refine Mof (Qc := Qi D aI aL 8 shM ad r0.1 r0.2) (by decide) inj (Nat.le_of_ble_eq_true rfl) ?_
  intro p e s m args below meth c ls C hlk hr hP hl
  have hx := C.1.1
  have hb_ := C.1.2.1
  have hown := C.1.2.2.2.1
  have hts := C.1.2.2.2.2
  have hl : lv_has ls 5 [(0, .ref (ad 0)), (1, .int v1), (2, .long v2)] := hl
  have lp_34 : ∀ (n_34 : Nat) (v4_34 : Int32) (s_34 : Sg) (y : (Int32 × Sg)), itr n_34 (fun s => f_X9_write_34s v2 s.1 s.2) (v4_34, s_34) = some y → (fun y => y = r0) y → ∀ (H : Heap) (locs : List Loc) (ls : Array Slot), HS D aI aL 8 shM ad s_34 s H locs → lv_has ls 5 [(0, .ref (ad 0)), (2, .long v2), (4, .int v4_34)] → W p l e (RM 1 25) s m args below meth c H locs 0 0 (MQ below (Qi D aI aL 8 shM ad r0.1 r0.2 s.heap.size) args s 0 0 (AA ad 8 s.heap.size)) (F0 m 34 ls []) := by
    intro n_34
    induction n_34 with
    | zero =>
      intro v4_34 s_34 y h hK
      cases (show (none : Option (Int32 × Sg)) = some y from h)
    | succ n_34 ih_34 =>
      intro v4_34 s_34 y h hK H locs ls hP hl
      obtain ⟨y, h, hK⟩ := itr_inv (K := (fun y => y = r0)) h hK
      replace h : f_X9_write_34s v2 v4_34 s_34 = some y := h
      unfold f_X9_write_34s at h
      refine lv_iload hx hb_ dX9_write_34 (lv_at hl 2 rfl) ?_
      refine lv_if_lt (tgt := 76) hx hb_ dX9_write_36 (by decide) (fun hc => ?_) (fun hc => ?_)
      · replace h := ift h hc
        refine lv_aload_n hx hb_ dX9_write_76 rfl (lv_at hl 0 rfl) ?_
        refine w_get C hP (k := 0) (by decide) 7 rfl rfl inWX9 4 (by decide) wt788 (v := .int (s_34.1 0 4)) rfl dX9_write_77 ?_
        obtain rfl := Option.some.inj h
        have hK : ((s_34.1 0 4), s_34) = r0 := hK
        have hK1 := congrArg Prod.fst hK
        have hK2 := congrArg Prod.snd hK
        exact w_iret C hlk hr hP hK1 hK2 dX9_write_80
      · replace h := iff' h hc
        refine lv_aload_n hx hb_ dX9_write_39 rfl (lv_at hl 0 rfl) ?_
        refine w_get C hP (k := 0) (by decide) 7 rfl rfl inWX9 3 (by decide) wt787 (v := .ref (ad 2)) rfl dX9_write_40 ?_
        refine lv_aload_n hx hb_ dX9_write_43 rfl (lv_at hl 0 rfl) ?_
        refine w_get C hP (k := 0) (by decide) 7 rfl rfl inWX9 4 (by decide) wt788 (v := .int (s_34.1 0 4)) rfl dX9_write_44 ?_
        refine lv_lload_n hx hb_ dX9_write_47 rfl (lv_at hl 1 rfl) ?_
        refine lv_bipush (v := 8) hx hb_ dX9_write_48 (by decide) ?_
        refine lv_iload hx hb_ dX9_write_50 (lv_at hl 2 rfl) ?_
        refine lv_imul hx hb_ dX9_write_52 ?_
        refine lv_lshr hx hb_ dX9_write_53 rfl ?_
        refine lv_ldc2 hx hb_ hown (hts _ wt833) dX9_write_54 ?_
        refine lv_land hx hb_ dX9_write_57 ?_
        refine lv_l2i hx hb_ dX9_write_58 rfl ?_
        obtain ⟨s3, hs3, h⟩ := bnd h
        refine w_ast C hP (k := 2) (by decide) (n := 300) rfl hs3 dX9_write_59 (fun H locs hP => ?_)
        refine lv_aload_n hx hb_ dX9_write_60 rfl (lv_at hl 0 rfl) ?_
        refine lv_dup hx hb_ dX9_write_61 rfl ?_
        refine w_get C hP (k := 0) (by decide) 7 rfl rfl inWX9 4 (by decide) wt788 (v := .int (s3.1 0 4)) rfl dX9_write_62 ?_
        refine lv_iconst (v := 1) hx hb_ dX9_write_65 (by decide) ?_
        refine lv_iadd hx hb_ dX9_write_66 ?_
        obtain ⟨s4, hs4, h⟩ := bnd h
        refine w_puti C hP (k := 0) (by decide) 7 rfl rfl inWX9 tyX9 tyX9_ok nmX9 4 (by decide) wt788 rfl rfl rfl rfl hs4 dX9_write_67 (fun H locs hP => ?_)
        obtain ⟨x5, hx5, h⟩ := nm_inv h
        refine lv_iinc (v := x5) (lv' := [(4, .int x5), (0, .ref (ad 0)), (2, .long v2)]) hx hb_ dX9_write_70 hl (k := 2) rfl (by rw [hx5]; rfl) (by decide) rfl (fun ls hl => ?_)
        refine lv_goto (tgt := 34) hx hb_ dX9_write_73 (by decide) ?_
        obtain rfl := Option.some.inj h
        obtain ⟨y2, h, hK⟩ := hK
        exact ih_34 x5 s4 y2 h hK _ _ _ hP (lv_sub hl [1, 2, 0] rfl)
  have bk_34 : ∀ (v4_34 : Int32) (s_34 : Sg) (y : (Int32 × Sg)), f_X9_write_34 v2 v4_34 s_34 = some y → (fun y => y = r0) y → ∀ (H : Heap) (locs : List Loc) (ls : Array Slot), HS D aI aL 8 shM ad s_34 s H locs → lv_has ls 5 [(0, .ref (ad 0)), (2, .long v2), (4, .int v4_34)] → W p l e (RM 1 25) s m args below meth c H locs 0 0 (MQ below (Qi D aI aL 8 shM ad r0.1 r0.2 s.heap.size) args s 0 0 (AA ad 8 s.heap.size)) (F0 m 34 ls []) := fun v4_34 s_34 y h hK => lp_34 3000 v4_34 s_34 y h hK
  have bk : ∀ (y : (Int32 × Sg)), f_X9_write v1 v2 σ = some y → y = r0 → ∀ (H : Heap) (locs : List Loc), HS D aI aL 8 shM ad σ s H locs → W p l e (RM 1 25) s m args below meth c H locs 0 0 (MQ below (Qi D aI aL 8 shM ad r0.1 r0.2 s.heap.size) args s 0 0 (AA ad 8 s.heap.size)) (F0 m 0 ls []) := by
    intro y h hK H locs hP
    unfold f_X9_write at h
    refine lv_iload_n hx hb_ dX9_write_0 rfl (lv_at hl 1 rfl) ?_
    refine lv_i2l hx hb_ dX9_write_1 rfl ?_
    refine lv_lconst (v := 1) hx hb_ dX9_write_2 (by decide) ?_
    refine lv_ldc2 hx hb_ hown (hts _ wt829) dX9_write_3 ?_
    obtain ⟨q1, hq1, h⟩ := bnd h
    refine w_ci (w_rS (As := [.long ((v1 : Int32).toInt64), .long 1, .long 8]) (rest := []) C hP (c_X9_in l D aI aL ad inj _ σ ((v1 : Int32).toInt64) 1 8 q1 hq1) wt830 wt831 wt12 wt832 3 hd_X9_in ⟨Nat.le_of_ble_eq_true rfl, Nat.le_of_ble_eq_true rfl⟩ rfl hl.1 rfl (Nat.le_of_ble_eq_true rfl) dX9_write_6) hP (fun H locs hP => ?_)
    refine lv_if_ne (tgt := 14) hx hb_ dX9_write_9 (by decide) (fun hc => ?_) (fun hc => ?_)
    · replace h := iff' h hc
      refine lv_aload_n hx hb_ dX9_write_14 rfl (lv_at hl 0 rfl) ?_
      refine w_get C hP (k := 0) (by decide) 7 rfl rfl inWX9 4 (by decide) wt788 (v := .int (σ.1 0 4)) rfl dX9_write_15 ?_
      refine lv_iload_n hx hb_ dX9_write_18 rfl (lv_at hl 1 rfl) ?_
      refine lv_iadd hx hb_ dX9_write_19 ?_
      refine lv_sipush (v := 300) hx hb_ dX9_write_20 (by decide) ?_
      refine lv_icmp_le (tgt := 29) hx hb_ dX9_write_23 (by decide) (fun hc => ?_) (fun hc => ?_)
      · replace h := ift h hc
        refine lv_iload_n hx hb_ dX9_write_29 rfl (lv_at hl 1 rfl) ?_
        refine lv_iconst (v := 1) hx hb_ dX9_write_30 (by decide) ?_
        refine lv_isub hx hb_ dX9_write_31 ?_
        obtain ⟨x2, hx2, h⟩ := nm_inv h
        refine w_ni hx2 ?_
        refine lv_istore (lv' := [(4, .int x2), (0, .ref (ad 0)), (1, .int v1), (2, .long v2)]) hx hb_ dX9_write_32 hl (by decide) rfl (fun ls hl => ?_)
        exact bk_34 x2 σ y h hK _ _ _ hP (lv_sub hl [1, 3, 0] rfl)
      · replace h := iff' h hc
        refine lv_bipush (v := (-3)) hx hb_ dX9_write_26 (by decide) ?_
        obtain rfl := Option.some.inj h
        have hK : ((-3), σ) = r0 := hK
        have hK1 := congrArg Prod.fst hK
        have hK2 := congrArg Prod.snd hK
        exact w_iret C hlk hr hP hK1 hK2 dX9_write_28
    · replace h := ift h hc
      refine lv_iconst (v := (-1)) hx hb_ dX9_write_12 (by decide) ?_
      obtain rfl := Option.some.inj h
      have hK : ((-1), σ) = r0 := hK
      have hK1 := congrArg Prod.fst hK
      have hK2 := congrArg Prod.snd hK
      exact w_iret C hlk hr hP hK1 hK2 dX9_write_13
  exact bk r0 hf rfl _ _ hP
theorem hd_X9_wipe : yX9_wipe.cls = RX9 ∧ yX9_wipe.cls ≠ "java/lang/invoke/MethodHandle" ∧ yX9_wipe.cls ≠ "java/lang/invoke/VarHandle" ∧ (parseMethodDescriptor yX9_wipe.desc).map (fun d => d.parameters.length) = some 0 := by decide +kernel
set_option maxHeartbeats 4000000 in
set_option maxRecDepth 100000 in
theorem c_X9_wipe (l : Launch) (D : va_G) (aI aL : ClassId) (ad : Nat → Nat) (inj : Inj ad 8) (sz : Nat) (σ : Sg) (r0 : (Int32 × Sg)) (hf : f_X9_wipe σ = some r0) : Met l yX9_wipe (wS yX9_wipe cX9_wipe 2 (some .int)) (RM 0 0) (Pw D aI aL 8 shM ad sz σ [.ref (ad 0)]) (Qi D aI aL 8 shM ad r0.1 r0.2 sz) 0 0 (AA ad 8 sz) := by
  refine Mof (Qc := Qi D aI aL 8 shM ad r0.1 r0.2) (by decide) inj (Nat.le_of_ble_eq_true rfl) ?_
  intro p e s m args below meth c ls C hlk hr hP hl
  have hx := C.1.1
  have hb_ := C.1.2.1
  have hown := C.1.2.2.2.1
  have hts := C.1.2.2.2.2
  have hl : lv_has ls 2 [(0, .ref (ad 0))] := hl
  have bk : ∀ (y : (Int32 × Sg)), f_X9_wipe σ = some y → y = r0 → ∀ (H : Heap) (locs : List Loc), HS D aI aL 8 shM ad σ s H locs → W p l e (RM 0 0) s m args below meth c H locs 0 0 (MQ below (Qi D aI aL 8 shM ad r0.1 r0.2 s.heap.size) args s 0 0 (AA ad 8 s.heap.size)) (F0 m 0 ls []) := by
    intro y h hK H locs hP
    unfold f_X9_wipe at h
    refine lv_aload_n hx hb_ dX9_wipe_0 rfl (lv_at hl 0 rfl) ?_
    refine w_get C hP (k := 0) (by decide) 7 rfl rfl inWX9 4 (by decide) wt788 (v := .int (σ.1 0 4)) rfl dX9_wipe_1 ?_
    obtain ⟨x1, hx1, h⟩ := nm_inv h
    refine w_ni hx1 ?_
    refine lv_istore_n (lv' := [(1, .int x1), (0, .ref (ad 0))]) hx hb_ dX9_wipe_4 rfl hl (by decide) rfl (fun ls hl => ?_)
    refine lv_aload_n hx hb_ dX9_wipe_5 rfl (lv_at hl 1 rfl) ?_
    refine lv_iconst (v := 0) hx hb_ dX9_wipe_6 (by decide) ?_
    obtain ⟨s2, hs2, h⟩ := bnd h
    refine w_puti C hP (k := 0) (by decide) 7 rfl rfl inWX9 tyX9 tyX9_ok nmX9 4 (by decide) wt788 rfl rfl rfl rfl hs2 dX9_wipe_7 (fun H locs hP => ?_)
    refine lv_iload_n hx hb_ dX9_wipe_10 rfl (lv_at hl 0 rfl) ?_
    obtain rfl := Option.some.inj h
    have hK : (x1, s2) = r0 := hK
    have hK1 := congrArg Prod.fst hK
    have hK2 := congrArg Prod.snd hK
    exact w_iret C hlk hr hP hK1 hK2 dX9_wipe_11
  exact bk r0 hf rfl _ _ hP
theorem hd_X9_takes : yX9_takes.cls = RX9 ∧ yX9_takes.cls ≠ "java/lang/invoke/MethodHandle" ∧ yX9_takes.cls ≠ "java/lang/invoke/VarHandle" ∧ (parseMethodDescriptor yX9_takes.desc).map (fun d => d.parameters.length) = some 1 := by decide +kernel
set_option maxHeartbeats 4000000 in
set_option maxRecDepth 100000 in
theorem c_X9_takes (l : Launch) (D : va_G) (aI aL : ClassId) (ad : Nat → Nat) (inj : Inj ad 8) (sz : Nat) (σ : Sg) (v1 : Int32) (r0 : (Int32 × Sg)) (hf : f_X9_takes v1 σ = some r0) : Met l yX9_takes (wS yX9_takes cX9_takes 5 (some .boolean)) (RM 1 25) (Pw D aI aL 8 shM ad sz σ [.ref (ad 0), .int v1]) (Qi D aI aL 8 shM ad r0.1 r0.2 sz) 0 0 (AA ad 8 sz) := by
  refine Mof (Qc := Qi D aI aL 8 shM ad r0.1 r0.2) (by decide) inj (Nat.le_of_ble_eq_true rfl) ?_
  intro p e s m args below meth c ls C hlk hr hP hl
  have hx := C.1.1
  have hb_ := C.1.2.1
  have hown := C.1.2.2.2.1
  have hts := C.1.2.2.2.2
  have hl : lv_has ls 5 [(0, .ref (ad 0)), (1, .int v1)] := hl
  have bk_146 : ∀ (s_146 : Sg) (y : (Int32 × Sg)), f_X9_takes_146 s_146 = some y → (fun y => y = r0) y → ∀ (H : Heap) (locs : List Loc) (ls : Array Slot), HS D aI aL 8 shM ad s_146 s H locs → lv_has ls 5 [] → W p l e (RM 1 25) s m args below meth c H locs 0 0 (MQ below (Qi D aI aL 8 shM ad r0.1 r0.2 s.heap.size) args s 0 0 (AA ad 8 s.heap.size)) (F0 m 146 ls []) := by
    intro s_146 y h hK H locs ls hP hl
    unfold f_X9_takes_146 at h
    refine lv_iconst (v := 0) hx hb_ dX9_takes_146 (by decide) ?_
    obtain ⟨x3, hx3, h⟩ := bnd h
    obtain rfl := Option.some.inj h
    have hK : (x3, s_146) = r0 := hK
    have hK1 := congrArg Prod.fst hK
    have hK2 := congrArg Prod.snd hK
    exact w_zret C hlk hr hP hx3 hK1 hK2 dX9_takes_147
  have lp_2 : ∀ (n_2 : Nat) (v2_2 : Int32) (s_2 : Sg) (y : (Int32 × Sg)), itr n_2 (fun s => f_X9_takes_2s v1 s.1 s.2) (v2_2, s_2) = some y → (fun y => y = r0) y → ∀ (H : Heap) (locs : List Loc) (ls : Array Slot), HS D aI aL 8 shM ad s_2 s H locs → lv_has ls 5 [(0, .ref (ad 0)), (1, .int v1), (2, .int v2_2)] → W p l e (RM 1 25) s m args below meth c H locs 0 0 (MQ below (Qi D aI aL 8 shM ad r0.1 r0.2 s.heap.size) args s 0 0 (AA ad 8 s.heap.size)) (F0 m 2 ls []) := by
    intro n_2
    induction n_2 with
    | zero =>
      intro v2_2 s_2 y h hK
      cases (show (none : Option (Int32 × Sg)) = some y from h)
    | succ n_2 ih_2 =>
      have bk_143 : ∀ (v2_143 : Int32) (v4_143 : Int32) (t0_143 : Int32) (t1_143 : Int32) (s_143 : Sg) (y : ((Int32 × Sg) ⊕ (Int32 × Sg))), f_X9_takes_143 v1 v2_143 v4_143 t0_143 t1_143 s_143 = some y → (KK n_2 (fun s => f_X9_takes_2s v1 s.1 s.2) (fun y => y = r0)) y → ∀ (H : Heap) (locs : List Loc) (ls : Array Slot), HS D aI aL 8 shM ad s_143 s H locs → lv_has ls 5 [(0, .ref (ad 0)), (1, .int v1), (2, .int v2_143), (4, .int v4_143)] → W p l e (RM 1 25) s m args below meth c H locs 0 0 (MQ below (Qi D aI aL 8 shM ad r0.1 r0.2 s.heap.size) args s 0 0 (AA ad 8 s.heap.size)) (F0 m 143 ls [.int t1_143, .int t0_143]) := by
        intro v2_143 v4_143 t0_143 t1_143 s_143 y h hK H locs ls hP hl
        unfold f_X9_takes_143 at h
        refine lv_icmp_eq (tgt := 148) hx hb_ dX9_takes_143 (by decide) (fun hc => ?_) (fun hc => ?_)
        · replace h := ift h hc
          refine lv_aload_n hx hb_ dX9_takes_148 rfl (lv_at hl 0 rfl) ?_
          refine w_get C hP (k := 0) (by decide) 7 rfl rfl inWX9 8 (by decide) wt792 (v := .ref (ad 4)) rfl dX9_takes_149 ?_
          refine lv_iload_n hx hb_ dX9_takes_152 rfl (lv_at hl 2 rfl) ?_
          refine lv_iload hx hb_ dX9_takes_153 (lv_at hl 3 rfl) ?_
          obtain ⟨s5, hs5, h⟩ := bnd h
          refine w_ast C hP (k := 4) (by decide) (n := 3) rfl hs5 dX9_takes_155 (fun H locs hP => ?_)
          refine lv_aload_n hx hb_ dX9_takes_156 rfl (lv_at hl 0 rfl) ?_
          refine lv_dup hx hb_ dX9_takes_157 rfl ?_
          refine w_get C hP (k := 0) (by decide) 7 rfl rfl inWX9 7 (by decide) wt791 (v := .int (s5.1 0 7)) rfl dX9_takes_158 ?_
          refine lv_iconst (v := 1) hx hb_ dX9_takes_161 (by decide) ?_
          refine lv_iadd hx hb_ dX9_takes_162 ?_
          obtain ⟨s6, hs6, h⟩ := bnd h
          refine w_puti C hP (k := 0) (by decide) 7 rfl rfl inWX9 tyX9 tyX9_ok nmX9 7 (by decide) wt791 rfl rfl rfl rfl hs6 dX9_takes_163 (fun H locs hP => ?_)
          obtain ⟨x7, hx7, h⟩ := nm_inv h
          refine lv_iinc (v := x7) (lv' := [(2, .int x7), (0, .ref (ad 0)), (1, .int v1), (4, .int v4_143)]) hx hb_ dX9_takes_166 hl (k := 2) rfl (by rw [hx7]; rfl) (by decide) rfl (fun ls hl => ?_)
          refine lv_goto (tgt := 2) hx hb_ dX9_takes_169 (by decide) ?_
          obtain rfl := Option.some.inj h
          obtain ⟨y2, h, hK⟩ := hK
          exact ih_2 x7 s6 y2 h hK _ _ _ hP (lv_sub hl [1, 2, 0] rfl)
        · replace h := iff' h hc
          obtain ⟨y2, h2, rfl⟩ := mapi h
          exact bk_146 s_143 y2 h2 hK _ _ _ hP (lv_sub hl [] rfl)
      have bk_91 : ∀ (v2_91 : Int32) (v3_91 : Int32) (v4_91 : Int32) (s_91 : Sg) (y : ((Int32 × Sg) ⊕ (Int32 × Sg))), f_X9_takes_91 v1 v2_91 v3_91 v4_91 s_91 = some y → (KK n_2 (fun s => f_X9_takes_2s v1 s.1 s.2) (fun y => y = r0)) y → ∀ (H : Heap) (locs : List Loc) (ls : Array Slot), HS D aI aL 8 shM ad s_91 s H locs → lv_has ls 5 [(0, .ref (ad 0)), (1, .int v1), (2, .int v2_91), (3, .int v3_91), (4, .int v4_91)] → W p l e (RM 1 25) s m args below meth c H locs 0 0 (MQ below (Qi D aI aL 8 shM ad r0.1 r0.2 s.heap.size) args s 0 0 (AA ad 8 s.heap.size)) (F0 m 91 ls []) := by
        intro v2_91 v3_91 v4_91 s_91 y h hK H locs ls hP hl
        unfold f_X9_takes_91 at h
        refine lv_aload_n hx hb_ dX9_takes_91 rfl (lv_at hl 0 rfl) ?_
        refine w_get C hP (k := 0) (by decide) 7 rfl rfl inWX9 7 (by decide) wt791 (v := .int (s_91.1 0 7)) rfl dX9_takes_92 ?_
        refine lv_iload_n hx hb_ dX9_takes_95 rfl (lv_at hl 3 rfl) ?_
        refine lv_icmp_eq (tgt := 146) hx hb_ dX9_takes_96 (by decide) (fun hc => ?_) (fun hc => ?_)
        · replace h := ift h hc
          obtain ⟨y2, h2, rfl⟩ := mapi h
          exact bk_146 s_91 y2 h2 hK _ _ _ hP (lv_sub hl [] rfl)
        · replace h := iff' h hc
          refine lv_aload_n hx hb_ dX9_takes_99 rfl (lv_at hl 0 rfl) ?_
          refine w_get C hP (k := 0) (by decide) 7 rfl rfl inWX9 7 (by decide) wt791 (v := .int (s_91.1 0 7)) rfl dX9_takes_100 ?_
          refine lv_iload_n hx hb_ dX9_takes_103 rfl (lv_at hl 3 rfl) ?_
          refine lv_isub hx hb_ dX9_takes_104 ?_
          refine lv_iconst (v := 2) hx hb_ dX9_takes_105 (by decide) ?_
          refine lv_icmp_gt (tgt := 146) hx hb_ dX9_takes_106 (by decide) (fun hc => ?_) (fun hc => ?_)
          · replace h := ift h hc
            obtain ⟨y2, h2, rfl⟩ := mapi h
            exact bk_146 s_91 y2 h2 hK _ _ _ hP (lv_sub hl [] rfl)
          · replace h := iff' h hc
            refine lv_aload_n hx hb_ dX9_takes_109 rfl (lv_at hl 0 rfl) ?_
            refine w_get C hP (k := 0) (by decide) 7 rfl rfl inWX9 7 (by decide) wt791 (v := .int (s_91.1 0 7)) rfl dX9_takes_110 ?_
            refine lv_aload_n hx hb_ dX9_takes_113 rfl (lv_at hl 0 rfl) ?_
            refine w_get C hP (k := 0) (by decide) 7 rfl rfl inWX9 4 (by decide) wt788 (v := .int (s_91.1 0 4)) rfl dX9_takes_114 ?_
            refine lv_icmp_eq (tgt := 146) hx hb_ dX9_takes_117 (by decide) (fun hc => ?_) (fun hc => ?_)
            · replace h := ift h hc
              obtain ⟨y2, h2, rfl⟩ := mapi h
              exact bk_146 s_91 y2 h2 hK _ _ _ hP (lv_sub hl [] rfl)
            · replace h := iff' h hc
              refine lv_aload_n hx hb_ dX9_takes_120 rfl (lv_at hl 0 rfl) ?_
              refine w_get C hP (k := 0) (by decide) 7 rfl rfl inWX9 3 (by decide) wt787 (v := .ref (ad 2)) rfl dX9_takes_121 ?_
              refine lv_aload_n hx hb_ dX9_takes_124 rfl (lv_at hl 0 rfl) ?_
              refine w_get C hP (k := 0) (by decide) 7 rfl rfl inWX9 7 (by decide) wt791 (v := .int (s_91.1 0 7)) rfl dX9_takes_125 ?_
              obtain ⟨x4, hx4, h⟩ := bnd h
              refine w_ald C hP (k := 2) (by decide) (n := 300) rfl hx4 dX9_takes_128 ?_
              refine lv_iload_n hx hb_ dX9_takes_129 rfl (lv_at hl 2 rfl) ?_
              refine lv_iload_n hx hb_ dX9_takes_130 rfl (lv_at hl 1 rfl) ?_
              refine lv_iconst (v := 1) hx hb_ dX9_takes_131 (by decide) ?_
              refine lv_isub hx hb_ dX9_takes_132 ?_
              refine lv_icmp_ne (tgt := 141) hx hb_ dX9_takes_133 (by decide) (fun hc => ?_) (fun hc => ?_)
              · replace h := iff' h hc
                refine lv_bipush (v := 44) hx hb_ dX9_takes_141 (by decide) ?_
                exact bk_143 v2_91 v4_91 x4 44 s_91 y h hK _ _ _ hP (lv_sub hl [0, 1, 2, 4] rfl)
              · replace h := ift h hc
                refine lv_bipush (v := 59) hx hb_ dX9_takes_136 (by decide) ?_
                refine lv_goto (tgt := 143) hx hb_ dX9_takes_138 (by decide) ?_
                exact bk_143 v2_91 v4_91 x4 59 s_91 y h hK _ _ _ hP (lv_sub hl [0, 1, 2, 4] rfl)
      have lp_15 : ∀ (v2_15 : Int32) (v3_15 : Int32) (n_15 : Nat) (v4_15 : Int32) (s_15 : Sg) (y : ((Int32 × Sg) ⊕ (Int32 × Sg))), itr n_15 (fun s => f_X9_takes_15s v1 v2_15 v3_15 s.1 s.2) (v4_15, s_15) = some y → (KK n_2 (fun s => f_X9_takes_2s v1 s.1 s.2) (fun y => y = r0)) y → ∀ (H : Heap) (locs : List Loc) (ls : Array Slot), HS D aI aL 8 shM ad s_15 s H locs → lv_has ls 5 [(0, .ref (ad 0)), (1, .int v1), (2, .int v2_15), (3, .int v3_15), (4, .int v4_15)] → W p l e (RM 1 25) s m args below meth c H locs 0 0 (MQ below (Qi D aI aL 8 shM ad r0.1 r0.2 s.heap.size) args s 0 0 (AA ad 8 s.heap.size)) (F0 m 15 ls []) := by
        intro v2_15 v3_15 n_15
        induction n_15 with
        | zero =>
          intro v4_15 s_15 y h hK
          cases (show (none : Option ((Int32 × Sg) ⊕ (Int32 × Sg))) = some y from h)
        | succ n_15 ih_15 =>
          intro v4_15 s_15 y h hK H locs ls hP hl
          obtain ⟨y, h, hK⟩ := itr_inv (K := (KK n_2 (fun s => f_X9_takes_2s v1 s.1 s.2) (fun y => y = r0))) h hK
          replace h : f_X9_takes_15s v1 v2_15 v3_15 v4_15 s_15 = some y := h
          unfold f_X9_takes_15s at h
          refine lv_aload_n hx hb_ dX9_takes_15 rfl (lv_at hl 0 rfl) ?_
          refine w_get C hP (k := 0) (by decide) 7 rfl rfl inWX9 7 (by decide) wt791 (v := .int (s_15.1 0 7)) rfl dX9_takes_16 ?_
          refine lv_aload_n hx hb_ dX9_takes_19 rfl (lv_at hl 0 rfl) ?_
          refine w_get C hP (k := 0) (by decide) 7 rfl rfl inWX9 4 (by decide) wt788 (v := .int (s_15.1 0 4)) rfl dX9_takes_20 ?_
          refine lv_icmp_ge (tgt := 91) hx hb_ dX9_takes_23 (by decide) (fun hc => ?_) (fun hc => ?_)
          · replace h := ift h hc
            obtain ⟨y2, h2, rfl⟩ := mapi h
            exact bk_91 v2_15 v3_15 v4_15 s_15 y2 h2 hK _ _ _ hP (lv_sub hl [0, 1, 2, 3, 4] rfl)
          · replace h := iff' h hc
            refine lv_aload_n hx hb_ dX9_takes_26 rfl (lv_at hl 0 rfl) ?_
            refine w_get C hP (k := 0) (by decide) 7 rfl rfl inWX9 7 (by decide) wt791 (v := .int (s_15.1 0 7)) rfl dX9_takes_27 ?_
            refine lv_iload_n hx hb_ dX9_takes_30 rfl (lv_at hl 3 rfl) ?_
            refine lv_isub hx hb_ dX9_takes_31 ?_
            refine lv_iconst (v := 3) hx hb_ dX9_takes_32 (by decide) ?_
            refine lv_icmp_ge (tgt := 91) hx hb_ dX9_takes_33 (by decide) (fun hc => ?_) (fun hc => ?_)
            · replace h := ift h hc
              obtain ⟨y2, h2, rfl⟩ := mapi h
              exact bk_91 v2_15 v3_15 v4_15 s_15 y2 h2 hK _ _ _ hP (lv_sub hl [0, 1, 2, 3, 4] rfl)
            · replace h := iff' h hc
              refine lv_aload_n hx hb_ dX9_takes_36 rfl (lv_at hl 0 rfl) ?_
              refine w_get C hP (k := 0) (by decide) 7 rfl rfl inWX9 3 (by decide) wt787 (v := .ref (ad 2)) rfl dX9_takes_37 ?_
              refine lv_aload_n hx hb_ dX9_takes_40 rfl (lv_at hl 0 rfl) ?_
              refine w_get C hP (k := 0) (by decide) 7 rfl rfl inWX9 7 (by decide) wt791 (v := .int (s_15.1 0 7)) rfl dX9_takes_41 ?_
              obtain ⟨x8, hx8, h⟩ := bnd h
              refine w_ald C hP (k := 2) (by decide) (n := 300) rfl hx8 dX9_takes_44 ?_
              refine lv_i2l hx hb_ dX9_takes_45 rfl ?_
              refine lv_ldc2 hx hb_ hown (hts _ wt850) dX9_takes_46 ?_
              refine lv_ldc2 hx hb_ hown (hts _ wt851) dX9_takes_49 ?_
              obtain ⟨q9, hq9, h⟩ := bnd h
              refine w_ci (w_rS (As := [.long ((x8 : Int32).toInt64), .long 48, .long 57]) (rest := []) C hP (c_X9_in l D aI aL ad inj _ s_15 ((x8 : Int32).toInt64) 48 57 q9 hq9) wt830 wt831 wt12 wt832 3 hd_X9_in ⟨Nat.le_of_ble_eq_true rfl, Nat.le_of_ble_eq_true rfl⟩ rfl hl.1 rfl (Nat.le_of_ble_eq_true rfl) dX9_takes_52) hP (fun H locs hP => ?_)
              refine lv_if_eq (tgt := 91) hx hb_ dX9_takes_55 (by decide) (fun hc => ?_) (fun hc => ?_)
              · replace h := ift h hc
                obtain ⟨y2, h2, rfl⟩ := mapi h
                exact bk_91 v2_15 v3_15 v4_15 s_15 y2 h2 hK _ _ _ hP (lv_sub hl [0, 1, 2, 3, 4] rfl)
              · replace h := iff' h hc
                refine lv_bipush (v := 10) hx hb_ dX9_takes_58 (by decide) ?_
                refine lv_iload hx hb_ dX9_takes_60 (lv_at hl 4 rfl) ?_
                refine lv_imul hx hb_ dX9_takes_62 ?_
                refine lv_aload_n hx hb_ dX9_takes_63 rfl (lv_at hl 0 rfl) ?_
                refine w_get C hP (k := 0) (by decide) 7 rfl rfl inWX9 3 (by decide) wt787 (v := .ref (ad 2)) rfl dX9_takes_64 ?_
                refine lv_aload_n hx hb_ dX9_takes_67 rfl (lv_at hl 0 rfl) ?_
                refine w_get C hP (k := 0) (by decide) 7 rfl rfl inWX9 7 (by decide) wt791 (v := .int (s_15.1 0 7)) rfl dX9_takes_68 ?_
                obtain ⟨x10, hx10, h⟩ := bnd h
                refine w_ald C hP (k := 2) (by decide) (n := 300) rfl hx10 dX9_takes_71 ?_
                refine lv_iadd hx hb_ dX9_takes_72 ?_
                refine lv_bipush (v := 48) hx hb_ dX9_takes_73 (by decide) ?_
                refine lv_isub hx hb_ dX9_takes_75 ?_
                obtain ⟨x11, hx11, h⟩ := nm_inv h
                refine w_ni hx11 ?_
                refine lv_istore (lv' := [(4, .int x11), (0, .ref (ad 0)), (1, .int v1), (2, .int v2_15), (3, .int v3_15)]) hx hb_ dX9_takes_76 hl (by decide) rfl (fun ls hl => ?_)
                refine lv_aload_n hx hb_ dX9_takes_78 rfl (lv_at hl 1 rfl) ?_
                refine lv_dup hx hb_ dX9_takes_79 rfl ?_
                refine w_get C hP (k := 0) (by decide) 7 rfl rfl inWX9 7 (by decide) wt791 (v := .int (s_15.1 0 7)) rfl dX9_takes_80 ?_
                refine lv_iconst (v := 1) hx hb_ dX9_takes_83 (by decide) ?_
                refine lv_iadd hx hb_ dX9_takes_84 ?_
                obtain ⟨s12, hs12, h⟩ := bnd h
                refine w_puti C hP (k := 0) (by decide) 7 rfl rfl inWX9 tyX9 tyX9_ok nmX9 7 (by decide) wt791 rfl rfl rfl rfl hs12 dX9_takes_85 (fun H locs hP => ?_)
                refine lv_goto (tgt := 15) hx hb_ dX9_takes_88 (by decide) ?_
                obtain rfl := Option.some.inj h
                obtain ⟨y2, h, hK⟩ := hK
                exact ih_15 x11 s12 y2 h hK _ _ _ hP (lv_sub hl [1, 2, 3, 4, 0] rfl)
      have bk_15 : ∀ (v2_15 : Int32) (v3_15 : Int32) (v4_15 : Int32) (s_15 : Sg) (y : ((Int32 × Sg) ⊕ (Int32 × Sg))), f_X9_takes_15 v1 v2_15 v3_15 v4_15 s_15 = some y → (KK n_2 (fun s => f_X9_takes_2s v1 s.1 s.2) (fun y => y = r0)) y → ∀ (H : Heap) (locs : List Loc) (ls : Array Slot), HS D aI aL 8 shM ad s_15 s H locs → lv_has ls 5 [(0, .ref (ad 0)), (1, .int v1), (2, .int v2_15), (3, .int v3_15), (4, .int v4_15)] → W p l e (RM 1 25) s m args below meth c H locs 0 0 (MQ below (Qi D aI aL 8 shM ad r0.1 r0.2 s.heap.size) args s 0 0 (AA ad 8 s.heap.size)) (F0 m 15 ls []) := fun v2_15 v3_15 v4_15 s_15 y h hK => lp_15 v2_15 v3_15 3000 v4_15 s_15 y h hK
      intro v2_2 s_2 y h hK H locs ls hP hl
      obtain ⟨y, h, hK⟩ := itr_inv (K := (fun y => y = r0)) h hK
      replace h : f_X9_takes_2s v1 v2_2 s_2 = some y := h
      unfold f_X9_takes_2s at h
      refine lv_iload_n hx hb_ dX9_takes_2 rfl (lv_at hl 2 rfl) ?_
      refine lv_iload_n hx hb_ dX9_takes_3 rfl (lv_at hl 1 rfl) ?_
      refine lv_icmp_ge (tgt := 172) hx hb_ dX9_takes_4 (by decide) (fun hc => ?_) (fun hc => ?_)
      · replace h := ift h hc
        refine lv_iconst (v := 1) hx hb_ dX9_takes_172 (by decide) ?_
        obtain ⟨x1, hx1, h⟩ := bnd h
        obtain rfl := Option.some.inj h
        have hK : (x1, s_2) = r0 := hK
        have hK1 := congrArg Prod.fst hK
        have hK2 := congrArg Prod.snd hK
        exact w_zret C hlk hr hP hx1 hK1 hK2 dX9_takes_173
      · replace h := iff' h hc
        refine lv_aload_n hx hb_ dX9_takes_7 rfl (lv_at hl 0 rfl) ?_
        refine w_get C hP (k := 0) (by decide) 7 rfl rfl inWX9 7 (by decide) wt791 (v := .int (s_2.1 0 7)) rfl dX9_takes_8 ?_
        obtain ⟨x2, hx2, h⟩ := nm_inv h
        refine w_ni hx2 ?_
        refine lv_istore_n (lv' := [(3, .int x2), (0, .ref (ad 0)), (1, .int v1), (2, .int v2_2)]) hx hb_ dX9_takes_11 rfl hl (by decide) rfl (fun ls hl => ?_)
        refine lv_iconst (v := 0) hx hb_ dX9_takes_12 (by decide) ?_
        refine lv_istore (lv' := [(4, .int 0), (3, .int x2), (0, .ref (ad 0)), (1, .int v1), (2, .int v2_2)]) hx hb_ dX9_takes_13 hl (by decide) rfl (fun ls hl => ?_)
        exact bk_15 v2_2 x2 0 s_2 y h hK _ _ _ hP (lv_sub hl [2, 3, 4, 1, 0] rfl)
  have bk_2 : ∀ (v2_2 : Int32) (s_2 : Sg) (y : (Int32 × Sg)), f_X9_takes_2 v1 v2_2 s_2 = some y → (fun y => y = r0) y → ∀ (H : Heap) (locs : List Loc) (ls : Array Slot), HS D aI aL 8 shM ad s_2 s H locs → lv_has ls 5 [(0, .ref (ad 0)), (1, .int v1), (2, .int v2_2)] → W p l e (RM 1 25) s m args below meth c H locs 0 0 (MQ below (Qi D aI aL 8 shM ad r0.1 r0.2 s.heap.size) args s 0 0 (AA ad 8 s.heap.size)) (F0 m 2 ls []) := fun v2_2 s_2 y h hK => lp_2 3000 v2_2 s_2 y h hK
  have bk : ∀ (y : (Int32 × Sg)), f_X9_takes v1 σ = some y → y = r0 → ∀ (H : Heap) (locs : List Loc), HS D aI aL 8 shM ad σ s H locs → W p l e (RM 1 25) s m args below meth c H locs 0 0 (MQ below (Qi D aI aL 8 shM ad r0.1 r0.2 s.heap.size) args s 0 0 (AA ad 8 s.heap.size)) (F0 m 0 ls []) := by
    intro y h hK H locs hP
    unfold f_X9_takes at h
    refine lv_iconst (v := 0) hx hb_ dX9_takes_0 (by decide) ?_
    refine lv_istore_n (lv' := [(2, .int 0), (0, .ref (ad 0)), (1, .int v1)]) hx hb_ dX9_takes_1 rfl hl (by decide) rfl (fun ls hl => ?_)
    exact bk_2 0 σ y h hK _ _ _ hP (lv_sub hl [1, 2, 0] rfl)
  exact bk r0 hf rfl _ _ hP
