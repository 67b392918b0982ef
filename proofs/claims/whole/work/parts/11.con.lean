theorem hd_X2_takeBackLatest : yX2_takeBackLatest.cls = RX2 ∧ yX2_takeBackLatest.cls ≠ "java/lang/invoke/MethodHandle" ∧ yX2_takeBackLatest.cls ≠ "java/lang/invoke/VarHandle" ∧ (parseMethodDescriptor yX2_takeBackLatest.desc).map (fun d => d.parameters.length) = some 1 := by decide +kernel
set_option maxHeartbeats 4000000 in
set_option maxRecDepth 100000 in
theorem c_X2_takeBackLatest (l : Launch) (D : va_G) (aI aL : ClassId) (ad : Nat → Nat) (inj : Inj ad 42) (sz : Nat) (σ : Sg) (r0 : Sg) (hf : f_X2_takeBackLatest σ = some r0) : Met l yX2_takeBackLatest (wS yX2_takeBackLatest cX2_takeBackLatest 4 (none : Option Jvm.ClassFile.FieldType)) (RM 2 43) (Pw D aI aL 42 shX ad sz σ [.ref (ad 33), .ref (ad 12)]) (Qv D aI aL 42 shX ad r0 sz) 0 0 (AA ad 42 sz) := by
  refine Mof (Qc := Qv D aI aL 42 shX ad r0) (by decide) inj (Nat.le_of_ble_eq_true rfl) ?_
  intro p e s m args below meth c ls C hlk hr hP hl
  have hx := C.1.1
  have hb_ := C.1.2.1
  have hown := C.1.2.2.2.1
  have hts := C.1.2.2.2.2
  have hl : lv_has ls 4 [(0, .ref (ad 33)), (1, .ref (ad 12))] := hl
  have bk_81 : ∀ (s_81 : Sg) (y : Sg), f_X2_takeBackLatest_81 s_81 = some y → (fun y => y = r0) y → ∀ (H : Heap) (locs : List Loc) (ls : Array Slot), HS D aI aL 42 shX ad s_81 s H locs → lv_has ls 4 [] → W p l e (RM 2 43) s m args below meth c H locs 0 0 (MQ below (Qv D aI aL 42 shX ad r0 s.heap.size) args s 0 0 (AA ad 42 s.heap.size)) (F0 m 81 ls []) := by
    intro s_81 y h hK H locs ls hP hl
    unfold f_X2_takeBackLatest_81 at h
    obtain rfl := Option.some.inj h
    have hK : s_81 = r0 := hK
    exact w_vret C hlk hr hP hK dX2_takeBackLatest_81
  have bk_78 : ∀ (t1_78 : Int32) (t2_78 : Int32) (s_78 : Sg) (y : Sg), f_X2_takeBackLatest_78 t1_78 t2_78 s_78 = some y → (fun y => y = r0) y → ∀ (H : Heap) (locs : List Loc) (ls : Array Slot), HS D aI aL 42 shX ad s_78 s H locs → lv_has ls 4 [] → W p l e (RM 2 43) s m args below meth c H locs 0 0 (MQ below (Qv D aI aL 42 shX ad r0 s.heap.size) args s 0 0 (AA ad 42 s.heap.size)) (F0 m 78 ls [.int t2_78, .int t1_78, .ref (ad 12)]) := by
    intro t1_78 t2_78 s_78 y h hK H locs ls hP hl
    unfold f_X2_takeBackLatest_78 at h
    obtain ⟨q4, hq4, h⟩ := bnd h
    refine w_cv (w_rV (As := [.int t1_78, .int t2_78]) (rest := []) C hP (k := 12) (c_X1_putSlabBack l D aI aL ad inj _ s_78 12 fl12 t1_78 t2_78 q4 hq4) (gV wt508 wt509 wt510 wt4 wt511) 2 hd_X1_putSlabBack ⟨Nat.le_of_ble_eq_true rfl, Nat.le_of_ble_eq_true rfl⟩ (by decide) 0 rfl rfl rfl hl.1 rfl (Nat.le_of_ble_eq_true rfl) dX2_takeBackLatest_78) hP (fun H locs hP => ?_)
    exact bk_81 q4 y h hK _ _ _ hP (lv_sub hl [] rfl)
  have bk : ∀ (y : Sg), f_X2_takeBackLatest σ = some y → y = r0 → ∀ (H : Heap) (locs : List Loc), HS D aI aL 42 shX ad σ s H locs → W p l e (RM 2 43) s m args below meth c H locs 0 0 (MQ below (Qv D aI aL 42 shX ad r0 s.heap.size) args s 0 0 (AA ad 42 s.heap.size)) (F0 m 0 ls []) := by
    intro y h hK H locs hP
    unfold f_X2_takeBackLatest at h
    refine lv_aload_n hx hb_ dX2_takeBackLatest_0 rfl (lv_at hl 0 rfl) ?_
    refine w_get C hP (k := 33) (by decide) 1 rfl rfl inWX2 2 (by decide) wt99 (v := .int (σ.1 33 2)) rfl dX2_takeBackLatest_1 ?_
    refine lv_if_ne (tgt := 8) hx hb_ dX2_takeBackLatest_4 (by decide) (fun hc => ?_) (fun hc => ?_)
    · replace h := iff' h hc
      refine lv_aload_n hx hb_ dX2_takeBackLatest_8 rfl (lv_at hl 0 rfl) ?_
      refine lv_dup hx hb_ dX2_takeBackLatest_9 rfl ?_
      refine w_get C hP (k := 33) (by decide) 1 rfl rfl inWX2 2 (by decide) wt99 (v := .int (σ.1 33 2)) rfl dX2_takeBackLatest_10 ?_
      refine lv_iconst (v := 1) hx hb_ dX2_takeBackLatest_13 (by decide) ?_
      refine lv_isub hx hb_ dX2_takeBackLatest_14 ?_
      obtain ⟨s1, hs1, h⟩ := bnd h
      refine w_puti C hP (k := 33) (by decide) 1 rfl rfl inWX2 tyX2 tyX2_ok nmX2 2 (by decide) wt99 rfl rfl rfl rfl hs1 dX2_takeBackLatest_15 (fun H locs hP => ?_)
      refine lv_aload_n hx hb_ dX2_takeBackLatest_18 rfl (lv_at hl 0 rfl) ?_
      refine w_get C hP (k := 33) (by decide) 1 rfl rfl inWX2 0 (by decide) wt97 (v := .ref (ad 34)) rfl dX2_takeBackLatest_19 ?_
      refine lv_aload_n hx hb_ dX2_takeBackLatest_22 rfl (lv_at hl 0 rfl) ?_
      refine w_get C hP (k := 33) (by decide) 1 rfl rfl inWX2 2 (by decide) wt99 (v := .int (s1.1 33 2)) rfl dX2_takeBackLatest_23 ?_
      obtain ⟨q2, hq2, h⟩ := bnd h
      refine w_ci (w_rN (As := [.ref (ad 34), .int (s1.1 33 2)]) (rest := []) C hP (c_X8_at l D aI aL ad inj _ s1 34 8 (by decide) rfl (s1.1 33 2) q2 hq2) nw15 wt225 wt1 wt226 2 hd_X8_at ⟨Nat.le_of_ble_eq_true rfl, Nat.le_of_ble_eq_true rfl⟩ rfl hl.1 rfl (Nat.le_of_ble_eq_true rfl) dX2_takeBackLatest_26) hP (fun H locs hP => ?_)
      refine lv_istore_n (lv' := [(2, .int q2), (0, .ref (ad 33)), (1, .ref (ad 12))]) hx hb_ dX2_takeBackLatest_29 rfl hl (by decide) rfl (fun ls hl => ?_)
      refine lv_aload_n hx hb_ dX2_takeBackLatest_30 rfl (lv_at hl 1 rfl) ?_
      refine w_get C hP (k := 33) (by decide) 1 rfl rfl inWX2 1 (by decide) wt98 (v := .ref (ad 35)) rfl dX2_takeBackLatest_31 ?_
      refine lv_aload_n hx hb_ dX2_takeBackLatest_34 rfl (lv_at hl 1 rfl) ?_
      refine w_get C hP (k := 33) (by decide) 1 rfl rfl inWX2 2 (by decide) wt99 (v := .int (s1.1 33 2)) rfl dX2_takeBackLatest_35 ?_
      obtain ⟨q3, hq3, h⟩ := bnd h
      refine w_ci (w_rN (As := [.ref (ad 35), .int (s1.1 33 2)]) (rest := []) C hP (c_X8_at l D aI aL ad inj _ s1 35 8 (by decide) rfl (s1.1 33 2) q3 hq3) nw15 wt225 wt1 wt226 2 hd_X8_at ⟨Nat.le_of_ble_eq_true rfl, Nat.le_of_ble_eq_true rfl⟩ rfl hl.1 rfl (Nat.le_of_ble_eq_true rfl) dX2_takeBackLatest_38) hP (fun H locs hP => ?_)
      refine lv_istore_n (lv' := [(3, .int q3), (2, .int q2), (0, .ref (ad 33)), (1, .ref (ad 12))]) hx hb_ dX2_takeBackLatest_41 rfl hl (by decide) rfl (fun ls hl => ?_)
      refine lv_iload_n hx hb_ dX2_takeBackLatest_42 rfl (lv_at hl 1 rfl) ?_
      refine lv_if_ne (tgt := 54) hx hb_ dX2_takeBackLatest_43 (by decide) (fun hc => ?_) (fun hc => ?_)
      · replace h := iff' h hc
        refine lv_iload_n hx hb_ dX2_takeBackLatest_54 rfl (lv_at hl 1 rfl) ?_
        refine lv_iconst (v := 3) hx hb_ dX2_takeBackLatest_55 (by decide) ?_
        refine lv_icmp_ne (tgt := 66) hx hb_ dX2_takeBackLatest_56 (by decide) (fun hc => ?_) (fun hc => ?_)
        · replace h := iff' h hc
          refine lv_aload_n hx hb_ dX2_takeBackLatest_66 rfl (lv_at hl 3 rfl) ?_
          refine lv_iload_n hx hb_ dX2_takeBackLatest_67 rfl (lv_at hl 0 rfl) ?_
          refine lv_iload_n hx hb_ dX2_takeBackLatest_68 rfl (lv_at hl 1 rfl) ?_
          refine lv_iconst (v := 2) hx hb_ dX2_takeBackLatest_69 (by decide) ?_
          refine lv_icmp_ne (tgt := 77) hx hb_ dX2_takeBackLatest_70 (by decide) (fun hc => ?_) (fun hc => ?_)
          · replace h := iff' h hc
            refine lv_iconst (v := 0) hx hb_ dX2_takeBackLatest_77 (by decide) ?_
            exact bk_78 q3 0 s1 y h hK _ _ _ hP (lv_sub hl [] rfl)
          · replace h := ift h hc
            refine lv_iconst (v := 1) hx hb_ dX2_takeBackLatest_73 (by decide) ?_
            refine lv_goto (tgt := 78) hx hb_ dX2_takeBackLatest_74 (by decide) ?_
            exact bk_78 q3 1 s1 y h hK _ _ _ hP (lv_sub hl [] rfl)
        · replace h := ift h hc
          refine lv_aload_n hx hb_ dX2_takeBackLatest_59 rfl (lv_at hl 3 rfl) ?_
          obtain ⟨q5, hq5, h⟩ := bnd h
          refine w_cv (w_rV (As := []) (rest := []) C hP (k := 12) (c_X1_removeLatestStep l D aI aL ad inj _ s1 12 fl12 q5 hq5) (gV wt504 wt505 wt506 wt4 wt507) 0 hd_X1_removeLatestStep ⟨Nat.le_of_ble_eq_true rfl, Nat.le_of_ble_eq_true rfl⟩ (by decide) 0 rfl rfl rfl hl.1 rfl (Nat.le_of_ble_eq_true rfl) dX2_takeBackLatest_60) hP (fun H locs hP => ?_)
          refine lv_goto (tgt := 81) hx hb_ dX2_takeBackLatest_63 (by decide) ?_
          exact bk_81 q5 y h hK _ _ _ hP (lv_sub hl [] rfl)
      · replace h := ift h hc
        refine lv_aload_n hx hb_ dX2_takeBackLatest_46 rfl (lv_at hl 3 rfl) ?_
        refine lv_iload_n hx hb_ dX2_takeBackLatest_47 rfl (lv_at hl 0 rfl) ?_
        obtain ⟨q6, hq6, h⟩ := bnd h
        refine w_cv (w_rV (As := [.int q3]) (rest := []) C hP (k := 12) (c_X1_untread l D aI aL ad inj _ s1 12 fl12 q3 q6 hq6) (gV wt500 wt501 wt502 wt4 wt503) 1 hd_X1_untread ⟨Nat.le_of_ble_eq_true rfl, Nat.le_of_ble_eq_true rfl⟩ (by decide) 0 rfl rfl rfl hl.1 rfl (Nat.le_of_ble_eq_true rfl) dX2_takeBackLatest_48) hP (fun H locs hP => ?_)
        refine lv_goto (tgt := 81) hx hb_ dX2_takeBackLatest_51 (by decide) ?_
        exact bk_81 q6 y h hK _ _ _ hP (lv_sub hl [] rfl)
    · replace h := ift h hc
      obtain rfl := Option.some.inj h
      have hK : σ = r0 := hK
      exact w_vret C hlk hr hP hK dX2_takeBackLatest_7
  exact bk r0 hf rfl _ _ hP
theorem hd_J6_numberOfTrailingZeros_0f7a4 : yJ6_numberOfTrailingZeros_0f7a4.cls = RJ6 ∧ yJ6_numberOfTrailingZeros_0f7a4.cls ≠ "java/lang/invoke/MethodHandle" ∧ yJ6_numberOfTrailingZeros_0f7a4.cls ≠ "java/lang/invoke/VarHandle" ∧ (parseMethodDescriptor yJ6_numberOfTrailingZeros_0f7a4.desc).map (fun d => d.parameters.length) = some 1 := by decide +kernel
set_option maxHeartbeats 4000000 in
set_option maxRecDepth 100000 in
theorem c_J6_numberOfTrailingZeros_0f7a4 (l : Launch) (D : va_G) (aI aL : ClassId) (ad : Nat → Nat) (inj : Inj ad 42) (sz : Nat) (σ : Sg) (v0 : Int32) (r0 : Int32) (hf : f_J6_numberOfTrailingZeros_0f7a4 v0 = some r0) : Met l yJ6_numberOfTrailingZeros_0f7a4 (wS yJ6_numberOfTrailingZeros_0f7a4 cJ6_numberOfTrailingZeros_0f7a4 2 (some .int)) (RM 0 0) (Pw D aI aL 42 shX ad sz σ [.int v0]) (Qi D aI aL 42 shX ad r0 σ sz) 0 0 (AA ad 42 sz) := by
  refine Mof (Qc := Qi D aI aL 42 shX ad r0 σ) (by decide) inj (Nat.le_of_ble_eq_true rfl) ?_
  intro p e s m args below meth c ls C hlk hr hP hl
  have hx := C.1.1
  have hb_ := C.1.2.1
  have hown := C.1.2.2.2.1
  have hts := C.1.2.2.2.2
  have hl : lv_has ls 2 [(0, .int v0)] := hl
  have bk_74 : ∀ (v0_74 : Int32) (v1_74 : Int32) (y : Int32), f_J6_numberOfTrailingZeros_0f7a4_74 v0_74 v1_74 = some y → (fun y => y = r0) y → ∀ (H : Heap) (locs : List Loc) (ls : Array Slot), HS D aI aL 42 shX ad σ s H locs → lv_has ls 2 [(0, .int v0_74), (1, .int v1_74)] → W p l e (RM 0 0) s m args below meth c H locs 0 0 (MQ below (Qi D aI aL 42 shX ad r0 σ s.heap.size) args s 0 0 (AA ad 42 s.heap.size)) (F0 m 74 ls []) := by
    intro v0_74 v1_74 y h hK H locs ls hP hl
    unfold f_J6_numberOfTrailingZeros_0f7a4_74 at h
    refine lv_iload_n hx hb_ dJ6_numberOfTrailingZeros_0f7a4_74 rfl (lv_at hl 1 rfl) ?_
    refine lv_iload_n hx hb_ dJ6_numberOfTrailingZeros_0f7a4_75 rfl (lv_at hl 0 rfl) ?_
    refine lv_iconst (v := 1) hx hb_ dJ6_numberOfTrailingZeros_0f7a4_76 (by decide) ?_
    refine lv_iushr hx hb_ dJ6_numberOfTrailingZeros_0f7a4_77 rfl ?_
    refine lv_iadd hx hb_ dJ6_numberOfTrailingZeros_0f7a4_78 ?_
    obtain rfl := Option.some.inj h
    have hK : ((v1_74 + (((v0_74).toUInt32 >>> ((1 : Int32).toUInt32 &&& Int32.toUInt32 31)).toInt32)) : Int32) = r0 := hK
    exact w_iret C hlk hr hP hK rfl dJ6_numberOfTrailingZeros_0f7a4_79
  have bk_62 : ∀ (v0_62 : Int32) (v1_62 : Int32) (y : Int32), f_J6_numberOfTrailingZeros_0f7a4_62 v0_62 v1_62 = some y → (fun y => y = r0) y → ∀ (H : Heap) (locs : List Loc) (ls : Array Slot), HS D aI aL 42 shX ad σ s H locs → lv_has ls 2 [(0, .int v0_62), (1, .int v1_62)] → W p l e (RM 0 0) s m args below meth c H locs 0 0 (MQ below (Qi D aI aL 42 shX ad r0 σ s.heap.size) args s 0 0 (AA ad 42 s.heap.size)) (F0 m 62 ls []) := by
    intro v0_62 v1_62 y h hK H locs ls hP hl
    unfold f_J6_numberOfTrailingZeros_0f7a4_62 at h
    refine lv_iload_n hx hb_ dJ6_numberOfTrailingZeros_0f7a4_62 rfl (lv_at hl 0 rfl) ?_
    refine lv_iconst (v := 4) hx hb_ dJ6_numberOfTrailingZeros_0f7a4_63 (by decide) ?_
    refine lv_icmp_le (tgt := 74) hx hb_ dJ6_numberOfTrailingZeros_0f7a4_64 (by decide) (fun hc => ?_) (fun hc => ?_)
    · replace h := ift h hc
      exact bk_74 v0_62 v1_62 y h hK _ _ _ hP (lv_sub hl [0, 1] rfl)
    · replace h := iff' h hc
      obtain ⟨x2, hx2, h⟩ := nm_inv h
      refine lv_iinc (v := x2) (lv' := [(1, .int x2), (0, .int v0_62)]) hx hb_ dJ6_numberOfTrailingZeros_0f7a4_67 hl (k := 1) rfl (by rw [hx2]; rfl) (by decide) rfl (fun ls hl => ?_)
      refine lv_iload_n hx hb_ dJ6_numberOfTrailingZeros_0f7a4_70 rfl (lv_at hl 1 rfl) ?_
      refine lv_iconst (v := 2) hx hb_ dJ6_numberOfTrailingZeros_0f7a4_71 (by decide) ?_
      refine lv_iushr hx hb_ dJ6_numberOfTrailingZeros_0f7a4_72 rfl ?_
      obtain ⟨x3, hx3, h⟩ := nm_inv h
      refine w_ni hx3 ?_
      refine lv_istore_n (lv' := [(0, .int x3), (1, .int x2)]) hx hb_ dJ6_numberOfTrailingZeros_0f7a4_73 rfl hl (by decide) rfl (fun ls hl => ?_)
      exact bk_74 x3 x2 y h hK _ _ _ hP (lv_sub hl [0, 1] rfl)
  have bk_49 : ∀ (v0_49 : Int32) (v1_49 : Int32) (y : Int32), f_J6_numberOfTrailingZeros_0f7a4_49 v0_49 v1_49 = some y → (fun y => y = r0) y → ∀ (H : Heap) (locs : List Loc) (ls : Array Slot), HS D aI aL 42 shX ad σ s H locs → lv_has ls 2 [(0, .int v0_49), (1, .int v1_49)] → W p l e (RM 0 0) s m args below meth c H locs 0 0 (MQ below (Qi D aI aL 42 shX ad r0 σ s.heap.size) args s 0 0 (AA ad 42 s.heap.size)) (F0 m 49 ls []) := by
    intro v0_49 v1_49 y h hK H locs ls hP hl
    unfold f_J6_numberOfTrailingZeros_0f7a4_49 at h
    refine lv_iload_n hx hb_ dJ6_numberOfTrailingZeros_0f7a4_49 rfl (lv_at hl 0 rfl) ?_
    refine lv_bipush (v := 16) hx hb_ dJ6_numberOfTrailingZeros_0f7a4_50 (by decide) ?_
    refine lv_icmp_le (tgt := 62) hx hb_ dJ6_numberOfTrailingZeros_0f7a4_52 (by decide) (fun hc => ?_) (fun hc => ?_)
    · replace h := ift h hc
      exact bk_62 v0_49 v1_49 y h hK _ _ _ hP (lv_sub hl [0, 1] rfl)
    · replace h := iff' h hc
      obtain ⟨x4, hx4, h⟩ := nm_inv h
      refine lv_iinc (v := x4) (lv' := [(1, .int x4), (0, .int v0_49)]) hx hb_ dJ6_numberOfTrailingZeros_0f7a4_55 hl (k := 1) rfl (by rw [hx4]; rfl) (by decide) rfl (fun ls hl => ?_)
      refine lv_iload_n hx hb_ dJ6_numberOfTrailingZeros_0f7a4_58 rfl (lv_at hl 1 rfl) ?_
      refine lv_iconst (v := 4) hx hb_ dJ6_numberOfTrailingZeros_0f7a4_59 (by decide) ?_
      refine lv_iushr hx hb_ dJ6_numberOfTrailingZeros_0f7a4_60 rfl ?_
      obtain ⟨x5, hx5, h⟩ := nm_inv h
      refine w_ni hx5 ?_
      refine lv_istore_n (lv' := [(0, .int x5), (1, .int x4)]) hx hb_ dJ6_numberOfTrailingZeros_0f7a4_61 rfl hl (by decide) rfl (fun ls hl => ?_)
      exact bk_62 x5 x4 y h hK _ _ _ hP (lv_sub hl [0, 1] rfl)
  have bk_34 : ∀ (v0_34 : Int32) (v1_34 : Int32) (y : Int32), f_J6_numberOfTrailingZeros_0f7a4_34 v0_34 v1_34 = some y → (fun y => y = r0) y → ∀ (H : Heap) (locs : List Loc) (ls : Array Slot), HS D aI aL 42 shX ad σ s H locs → lv_has ls 2 [(0, .int v0_34), (1, .int v1_34)] → W p l e (RM 0 0) s m args below meth c H locs 0 0 (MQ below (Qi D aI aL 42 shX ad r0 σ s.heap.size) args s 0 0 (AA ad 42 s.heap.size)) (F0 m 34 ls []) := by
    intro v0_34 v1_34 y h hK H locs ls hP hl
    unfold f_J6_numberOfTrailingZeros_0f7a4_34 at h
    refine lv_iload_n hx hb_ dJ6_numberOfTrailingZeros_0f7a4_34 rfl (lv_at hl 0 rfl) ?_
    refine lv_sipush (v := 256) hx hb_ dJ6_numberOfTrailingZeros_0f7a4_35 (by decide) ?_
    refine lv_icmp_le (tgt := 49) hx hb_ dJ6_numberOfTrailingZeros_0f7a4_38 (by decide) (fun hc => ?_) (fun hc => ?_)
    · replace h := ift h hc
      exact bk_49 v0_34 v1_34 y h hK _ _ _ hP (lv_sub hl [0, 1] rfl)
    · replace h := iff' h hc
      obtain ⟨x6, hx6, h⟩ := nm_inv h
      refine lv_iinc (v := x6) (lv' := [(1, .int x6), (0, .int v0_34)]) hx hb_ dJ6_numberOfTrailingZeros_0f7a4_41 hl (k := 1) rfl (by rw [hx6]; rfl) (by decide) rfl (fun ls hl => ?_)
      refine lv_iload_n hx hb_ dJ6_numberOfTrailingZeros_0f7a4_44 rfl (lv_at hl 1 rfl) ?_
      refine lv_bipush (v := 8) hx hb_ dJ6_numberOfTrailingZeros_0f7a4_45 (by decide) ?_
      refine lv_iushr hx hb_ dJ6_numberOfTrailingZeros_0f7a4_47 rfl ?_
      obtain ⟨x7, hx7, h⟩ := nm_inv h
      refine w_ni hx7 ?_
      refine lv_istore_n (lv' := [(0, .int x7), (1, .int x6)]) hx hb_ dJ6_numberOfTrailingZeros_0f7a4_48 rfl hl (by decide) rfl (fun ls hl => ?_)
      exact bk_49 x7 x6 y h hK _ _ _ hP (lv_sub hl [0, 1] rfl)
  have bk : ∀ (y : Int32), f_J6_numberOfTrailingZeros_0f7a4 v0 = some y → y = r0 → ∀ (H : Heap) (locs : List Loc), HS D aI aL 42 shX ad σ s H locs → W p l e (RM 0 0) s m args below meth c H locs 0 0 (MQ below (Qi D aI aL 42 shX ad r0 σ s.heap.size) args s 0 0 (AA ad 42 s.heap.size)) (F0 m 0 ls []) := by
    intro y h hK H locs hP
    unfold f_J6_numberOfTrailingZeros_0f7a4 at h
    refine lv_iload_n hx hb_ dJ6_numberOfTrailingZeros_0f7a4_0 rfl (lv_at hl 0 rfl) ?_
    refine lv_iconst (v := (-1)) hx hb_ dJ6_numberOfTrailingZeros_0f7a4_1 (by decide) ?_
    refine lv_ixor hx hb_ dJ6_numberOfTrailingZeros_0f7a4_2 ?_
    refine lv_iload_n hx hb_ dJ6_numberOfTrailingZeros_0f7a4_3 rfl (lv_at hl 0 rfl) ?_
    refine lv_iconst (v := 1) hx hb_ dJ6_numberOfTrailingZeros_0f7a4_4 (by decide) ?_
    refine lv_isub hx hb_ dJ6_numberOfTrailingZeros_0f7a4_5 ?_
    refine lv_iand hx hb_ dJ6_numberOfTrailingZeros_0f7a4_6 ?_
    obtain ⟨x1, hx1, h⟩ := nm_inv h
    refine w_ni hx1 ?_
    refine lv_istore_n (lv' := [(0, .int x1)]) hx hb_ dJ6_numberOfTrailingZeros_0f7a4_7 rfl hl (by decide) rfl (fun ls hl => ?_)
    refine lv_iload_n hx hb_ dJ6_numberOfTrailingZeros_0f7a4_8 rfl (lv_at hl 0 rfl) ?_
    refine lv_if_gt (tgt := 17) hx hb_ dJ6_numberOfTrailingZeros_0f7a4_9 (by decide) (fun hc => ?_) (fun hc => ?_)
    · replace h := ift h hc
      refine lv_iconst (v := 1) hx hb_ dJ6_numberOfTrailingZeros_0f7a4_17 (by decide) ?_
      refine lv_istore_n (lv' := [(1, .int 1), (0, .int x1)]) hx hb_ dJ6_numberOfTrailingZeros_0f7a4_18 rfl hl (by decide) rfl (fun ls hl => ?_)
      refine lv_iload_n hx hb_ dJ6_numberOfTrailingZeros_0f7a4_19 rfl (lv_at hl 1 rfl) ?_
      refine lv_ldcw hx hb_ hown (hts _ wt690) dJ6_numberOfTrailingZeros_0f7a4_20 ?_
      refine lv_icmp_le (tgt := 34) hx hb_ dJ6_numberOfTrailingZeros_0f7a4_23 (by decide) (fun hc => ?_) (fun hc => ?_)
      · replace h := ift h hc
        exact bk_34 x1 1 y h hK _ _ _ hP (lv_sub hl [1, 0] rfl)
      · replace h := iff' h hc
        obtain ⟨x8, hx8, h⟩ := nm_inv h
        refine lv_iinc (v := x8) (lv' := [(1, .int x8), (0, .int x1)]) hx hb_ dJ6_numberOfTrailingZeros_0f7a4_26 hl (k := 0) rfl (by rw [hx8]; rfl) (by decide) rfl (fun ls hl => ?_)
        refine lv_iload_n hx hb_ dJ6_numberOfTrailingZeros_0f7a4_29 rfl (lv_at hl 1 rfl) ?_
        refine lv_bipush (v := 16) hx hb_ dJ6_numberOfTrailingZeros_0f7a4_30 (by decide) ?_
        refine lv_iushr hx hb_ dJ6_numberOfTrailingZeros_0f7a4_32 rfl ?_
        obtain ⟨x9, hx9, h⟩ := nm_inv h
        refine w_ni hx9 ?_
        refine lv_istore_n (lv' := [(0, .int x9), (1, .int x8)]) hx hb_ dJ6_numberOfTrailingZeros_0f7a4_33 rfl hl (by decide) rfl (fun ls hl => ?_)
        exact bk_34 x9 x8 y h hK _ _ _ hP (lv_sub hl [0, 1] rfl)
    · replace h := iff' h hc
      refine lv_iload_n hx hb_ dJ6_numberOfTrailingZeros_0f7a4_12 rfl (lv_at hl 0 rfl) ?_
      refine lv_bipush (v := 32) hx hb_ dJ6_numberOfTrailingZeros_0f7a4_13 (by decide) ?_
      refine lv_iand hx hb_ dJ6_numberOfTrailingZeros_0f7a4_15 ?_
      obtain rfl := Option.some.inj h
      have hK : ((x1 &&& (32 : Int32)) : Int32) = r0 := hK
      exact w_iret C hlk hr hP hK rfl dJ6_numberOfTrailingZeros_0f7a4_16
  exact bk r0 hf rfl _ _ hP
theorem hd_X3_reckon : yX3_reckon.cls = RX3 ∧ yX3_reckon.cls ≠ "java/lang/invoke/MethodHandle" ∧ yX3_reckon.cls ≠ "java/lang/invoke/VarHandle" ∧ (parseMethodDescriptor yX3_reckon.desc).map (fun d => d.parameters.length) = some 1 := by decide +kernel
set_option maxHeartbeats 4000000 in
set_option maxRecDepth 100000 in
theorem c_X3_reckon (l : Launch) (D : va_G) (aI aL : ClassId) (ad : Nat → Nat) (inj : Inj ad 42) (sz : Nat) (σ : Sg) (r0 : Sg) (hf : f_X3_reckon σ = some r0) : Met l yX3_reckon (wS yX3_reckon cX3_reckon 6 (none : Option Jvm.ClassFile.FieldType)) (RM 3 72) (Pw D aI aL 42 shX ad sz σ [.ref (ad 39), .ref (ad 12)]) (Qv D aI aL 42 shX ad r0 sz) 0 0 (AA ad 42 sz) := by
  refine Mof (Qc := Qv D aI aL 42 shX ad r0) (by decide) inj (Nat.le_of_ble_eq_true rfl) ?_
  intro p e s m args below meth c ls C hlk hr hP hl
  have hx := C.1.1
  have hb_ := C.1.2.1
  have hown := C.1.2.2.2.1
  have hts := C.1.2.2.2.2
  have hl : lv_has ls 6 [(0, .ref (ad 39)), (1, .ref (ad 12))] := hl
  have lp_24 : ∀ (n_24 : Nat) (v2_24 : Int32) (s_24 : Sg) (y : Sg), itr n_24 (fun s => f_X3_reckon_24s s.1 s.2) (v2_24, s_24) = some y → (fun y => y = r0) y → ∀ (H : Heap) (locs : List Loc) (ls : Array Slot), HS D aI aL 42 shX ad s_24 s H locs → lv_has ls 6 [(0, .ref (ad 39)), (1, .ref (ad 12)), (2, .int v2_24)] → W p l e (RM 3 72) s m args below meth c H locs 0 0 (MQ below (Qv D aI aL 42 shX ad r0 s.heap.size) args s 0 0 (AA ad 42 s.heap.size)) (F0 m 24 ls []) := by
    intro n_24
    induction n_24 with
    | zero =>
      intro v2_24 s_24 y h hK
      cases (show (none : Option Sg) = some y from h)
    | succ n_24 ih_24 =>
      have bk_76 : ∀ (v2_76 : Int32) (t0_76 : Int32) (s_76 : Sg) (y : ((Int32 × Sg) ⊕ Sg)), f_X3_reckon_76 v2_76 t0_76 s_76 = some y → (KK n_24 (fun s => f_X3_reckon_24s s.1 s.2) (fun y => y = r0)) y → ∀ (H : Heap) (locs : List Loc) (ls : Array Slot), HS D aI aL 42 shX ad s_76 s H locs → lv_has ls 6 [(0, .ref (ad 39)), (1, .ref (ad 12)), (2, .int v2_76)] → W p l e (RM 3 72) s m args below meth c H locs 0 0 (MQ below (Qv D aI aL 42 shX ad r0 s.heap.size) args s 0 0 (AA ad 42 s.heap.size)) (F0 m 76 ls [.int t0_76]) := by
        intro v2_76 t0_76 s_76 y h hK H locs ls hP hl
        unfold f_X3_reckon_76 at h
        refine lv_istore (lv' := [(5, .int t0_76), (0, .ref (ad 39)), (1, .ref (ad 12)), (2, .int v2_76)]) hx hb_ dX3_reckon_76 hl (by decide) rfl (fun ls hl => ?_)
        refine lv_aload_n hx hb_ dX3_reckon_78 rfl (lv_at hl 1 rfl) ?_
        refine w_get C hP (k := 39) (by decide) 2 rfl rfl inWX3 0 (by decide) wt126 (v := .ref (ad 40)) rfl dX3_reckon_79 ?_
        refine lv_iload_n hx hb_ dX3_reckon_82 rfl (lv_at hl 3 rfl) ?_
        refine lv_iload hx hb_ dX3_reckon_83 (lv_at hl 0 rfl) ?_
        obtain ⟨q10, hq10, h⟩ := bnd h
        refine w_cv (w_rN (As := [.ref (ad 40), .int v2_76, .int t0_76]) (rest := []) C hP (c_X8_put l D aI aL ad inj _ s_76 40 1024 (by decide) rfl v2_76 t0_76 q10 hq10) nw25 wt191 wt1 wt192 3 hd_X8_put ⟨Nat.le_of_ble_eq_true rfl, Nat.le_of_ble_eq_true rfl⟩ rfl hl.1 rfl (Nat.le_of_ble_eq_true rfl) dX3_reckon_85) hP (fun H locs hP => ?_)
        obtain ⟨x11, hx11, h⟩ := nm_inv h
        refine lv_iinc (v := x11) (lv' := [(2, .int x11), (5, .int t0_76), (0, .ref (ad 39)), (1, .ref (ad 12))]) hx hb_ dX3_reckon_88 hl (k := 3) rfl (by rw [hx11]; rfl) (by decide) rfl (fun ls hl => ?_)
        refine lv_goto (tgt := 24) hx hb_ dX3_reckon_91 (by decide) ?_
        obtain rfl := Option.some.inj h
        obtain ⟨y2, h, hK⟩ := hK
        exact ih_24 x11 q10 y2 h hK _ _ _ hP (lv_sub hl [2, 3, 0] rfl)
      intro v2_24 s_24 y h hK H locs ls hP hl
      obtain ⟨y, h, hK⟩ := itr_inv (K := (fun y => y = r0)) h hK
      replace h : f_X3_reckon_24s v2_24 s_24 = some y := h
      unfold f_X3_reckon_24s at h
      refine lv_iload_n hx hb_ dX3_reckon_24 rfl (lv_at hl 2 rfl) ?_
      refine lv_aload_n hx hb_ dX3_reckon_25 rfl (lv_at hl 0 rfl) ?_
      refine w_get C hP (k := 39) (by decide) 2 rfl rfl inWX3 1 (by decide) wt127 (v := .int (s_24.1 39 1)) rfl dX3_reckon_26 ?_
      refine lv_icmp_ge (tgt := 94) hx hb_ dX3_reckon_29 (by decide) (fun hc => ?_) (fun hc => ?_)
      · replace h := ift h hc
        obtain rfl := Option.some.inj h
        have hK : s_24 = r0 := hK
        exact w_vret C hlk hr hP hK dX3_reckon_94
      · replace h := iff' h hc
        refine lv_aload_n hx hb_ dX3_reckon_32 rfl (lv_at hl 0 rfl) ?_
        refine w_get C hP (k := 39) (by decide) 2 rfl rfl inWX3 0 (by decide) wt126 (v := .ref (ad 40)) rfl dX3_reckon_33 ?_
        refine lv_iload_n hx hb_ dX3_reckon_36 rfl (lv_at hl 2 rfl) ?_
        refine lv_iload_n hx hb_ dX3_reckon_37 rfl (lv_at hl 2 rfl) ?_
        refine lv_iconst (v := 1) hx hb_ dX3_reckon_38 (by decide) ?_
        refine lv_isub hx hb_ dX3_reckon_39 ?_
        refine lv_iand hx hb_ dX3_reckon_40 ?_
        obtain ⟨q5, hq5, h⟩ := bnd h
        refine w_ci (w_rN (As := [.ref (ad 40), .int (v2_24 &&& (v2_24 - (1 : Int32)))]) (rest := []) C hP (c_X8_at l D aI aL ad inj _ s_24 40 1024 (by decide) rfl (v2_24 &&& (v2_24 - (1 : Int32))) q5 hq5) nw26 wt225 wt1 wt226 2 hd_X8_at ⟨Nat.le_of_ble_eq_true rfl, Nat.le_of_ble_eq_true rfl⟩ rfl hl.1 rfl (Nat.le_of_ble_eq_true rfl) dX3_reckon_41) hP (fun H locs hP => ?_)
        refine lv_istore_n (lv' := [(3, .int q5), (0, .ref (ad 39)), (1, .ref (ad 12)), (2, .int v2_24)]) hx hb_ dX3_reckon_44 rfl hl (by decide) rfl (fun ls hl => ?_)
        refine lv_iload_n hx hb_ dX3_reckon_45 rfl (lv_at hl 3 rfl) ?_
        obtain ⟨q6, hq6, h⟩ := bnd h
        refine w_ci (w_rS (As := [.int v2_24]) (rest := []) C hP (c_J6_numberOfTrailingZeros_0f7a4 l D aI aL ad inj _ s_24 v2_24 q6 hq6) wt687 wt688 wt13 wt689 1 hd_J6_numberOfTrailingZeros_0f7a4 ⟨Nat.le_of_ble_eq_true rfl, Nat.le_of_ble_eq_true rfl⟩ rfl hl.1 rfl (Nat.le_of_ble_eq_true rfl) dX3_reckon_46) hP (fun H locs hP => ?_)
        refine lv_istore (lv' := [(4, .int q6), (3, .int q5), (0, .ref (ad 39)), (1, .ref (ad 12)), (2, .int v2_24)]) hx hb_ dX3_reckon_49 hl (by decide) rfl (fun ls hl => ?_)
        refine lv_aload_n hx hb_ dX3_reckon_51 rfl (lv_at hl 3 rfl) ?_
        refine lv_iload hx hb_ dX3_reckon_52 (lv_at hl 0 rfl) ?_
        refine lv_iload_n hx hb_ dX3_reckon_54 rfl (lv_at hl 1 rfl) ?_
        obtain ⟨q7, hq7, h⟩ := bnd h
        refine w_ci (w_rV (As := [.int q6, .int q5]) (rest := []) C hP (k := 12) (c_X1_after l D aI aL ad inj _ s_24 12 fl12 q6 q5 q7 hq7) (gV wt691 wt420 wt421 wt4 wt422) 2 hd_X1_after ⟨Nat.le_of_ble_eq_true rfl, Nat.le_of_ble_eq_true rfl⟩ (by decide) 0 rfl rfl rfl hl.1 rfl (Nat.le_of_ble_eq_true rfl) dX3_reckon_55) hP (fun H locs hP => ?_)
        refine lv_iload_n hx hb_ dX3_reckon_58 rfl (lv_at hl 1 rfl) ?_
        refine lv_icmp_ne (tgt := 66) hx hb_ dX3_reckon_59 (by decide) (fun hc => ?_) (fun hc => ?_)
        · replace h := iff' h hc
          refine lv_aload_n hx hb_ dX3_reckon_66 rfl (lv_at hl 3 rfl) ?_
          refine lv_iload_n hx hb_ dX3_reckon_67 rfl (lv_at hl 1 rfl) ?_
          refine lv_iload_n hx hb_ dX3_reckon_68 rfl (lv_at hl 4 rfl) ?_
          refine lv_aload_n hx hb_ dX3_reckon_69 rfl (lv_at hl 3 rfl) ?_
          obtain ⟨q8, hq8, h⟩ := bnd h
          refine w_ci (w_rV (As := []) (rest := [.int v2_24, .int q5, .ref (ad 12)]) C hP (k := 12) (c_X1_there l D aI aL ad inj _ s_24 12 fl12 q8 hq8) (gV wt692 wt373 wt374 wt4 wt375) 0 hd_X1_there ⟨Nat.le_of_ble_eq_true rfl, Nat.le_of_ble_eq_true rfl⟩ (by decide) 0 rfl rfl rfl hl.1 rfl (Nat.le_of_ble_eq_true rfl) dX3_reckon_70) hP (fun H locs hP => ?_)
          obtain ⟨q9, hq9, h⟩ := bnd h
          refine w_ci (w_rV (As := [.int q5, .int v2_24, .int q8]) (rest := []) C hP (k := 12) (c_X1_reachBy l D aI aL ad inj _ s_24 12 fl12 q5 v2_24 q8 q9 hq9) (gV wt693 wt526 wt527 wt4 wt528) 3 hd_X1_reachBy ⟨Nat.le_of_ble_eq_true rfl, Nat.le_of_ble_eq_true rfl⟩ (by decide) 0 rfl rfl rfl hl.1 rfl (Nat.le_of_ble_eq_true rfl) dX3_reckon_73) hP (fun H locs hP => ?_)
          exact bk_76 v2_24 q9 s_24 y h hK _ _ _ hP (lv_sub hl [2, 3, 4] rfl)
        · replace h := ift h hc
          refine lv_iload_n hx hb_ dX3_reckon_62 rfl (lv_at hl 1 rfl) ?_
          refine lv_goto (tgt := 76) hx hb_ dX3_reckon_63 (by decide) ?_
          exact bk_76 v2_24 q5 s_24 y h hK _ _ _ hP (lv_sub hl [2, 3, 4] rfl)
  have bk_24 : ∀ (v2_24 : Int32) (s_24 : Sg) (y : Sg), f_X3_reckon_24 v2_24 s_24 = some y → (fun y => y = r0) y → ∀ (H : Heap) (locs : List Loc) (ls : Array Slot), HS D aI aL 42 shX ad s_24 s H locs → lv_has ls 6 [(0, .ref (ad 39)), (1, .ref (ad 12)), (2, .int v2_24)] → W p l e (RM 3 72) s m args below meth c H locs 0 0 (MQ below (Qv D aI aL 42 shX ad r0 s.heap.size) args s 0 0 (AA ad 42 s.heap.size)) (F0 m 24 ls []) := fun v2_24 s_24 y h hK => lp_24 3000 v2_24 s_24 y h hK
  have bk : ∀ (y : Sg), f_X3_reckon σ = some y → y = r0 → ∀ (H : Heap) (locs : List Loc), HS D aI aL 42 shX ad σ s H locs → W p l e (RM 3 72) s m args below meth c H locs 0 0 (MQ below (Qv D aI aL 42 shX ad r0 s.heap.size) args s 0 0 (AA ad 42 s.heap.size)) (F0 m 0 ls []) := by
    intro y h hK H locs hP
    unfold f_X3_reckon at h
    refine lv_aload_n hx hb_ dX3_reckon_0 rfl (lv_at hl 0 rfl) ?_
    refine lv_iconst (v := 1) hx hb_ dX3_reckon_1 (by decide) ?_
    refine lv_aload_n hx hb_ dX3_reckon_2 rfl (lv_at hl 1 rfl) ?_
    obtain ⟨q1, hq1, h⟩ := bnd h
    refine w_ci (w_rV (As := []) (rest := [.int 1, .ref (ad 39)]) C hP (k := 12) (c_X1_stepCount l D aI aL ad inj _ σ 12 fl12 q1 hq1) (gV wt683 wt341 wt342 wt4 wt343) 0 hd_X1_stepCount ⟨Nat.le_of_ble_eq_true rfl, Nat.le_of_ble_eq_true rfl⟩ (by decide) 0 rfl rfl rfl hl.1 rfl (Nat.le_of_ble_eq_true rfl) dX3_reckon_3) hP (fun H locs hP => ?_)
    refine lv_ishl hx hb_ dX3_reckon_6 ?_
    obtain ⟨s2, hs2, h⟩ := bnd h
    refine w_puti C hP (k := 39) (by decide) 2 rfl rfl inWX3 tyX3 tyX3_ok nmX3 1 (by decide) wt127 rfl rfl rfl rfl hs2 dX3_reckon_7 (fun H locs hP => ?_)
    refine lv_aload_n hx hb_ dX3_reckon_10 rfl (lv_at hl 0 rfl) ?_
    refine w_get C hP (k := 39) (by decide) 2 rfl rfl inWX3 0 (by decide) wt126 (v := .ref (ad 40)) rfl dX3_reckon_11 ?_
    refine lv_iconst (v := 0) hx hb_ dX3_reckon_14 (by decide) ?_
    refine lv_aload_n hx hb_ dX3_reckon_15 rfl (lv_at hl 1 rfl) ?_
    obtain ⟨q3, hq3, h⟩ := bnd h
    refine w_ci (w_rV (As := []) (rest := [.int 0, .ref (ad 40)]) C hP (k := 12) (c_X1_beginnings l D aI aL ad inj _ s2 12 fl12 q3 hq3) (gV wt684 wt277 wt278 wt4 wt279) 0 hd_X1_beginnings ⟨Nat.le_of_ble_eq_true rfl, Nat.le_of_ble_eq_true rfl⟩ (by decide) 0 rfl rfl rfl hl.1 rfl (Nat.le_of_ble_eq_true rfl) dX3_reckon_16) hP (fun H locs hP => ?_)
    obtain ⟨q4, hq4, h⟩ := bnd h
    refine w_cv (w_rN (As := [.ref (ad 40), .int 0, .int q3]) (rest := []) C hP (c_X8_put l D aI aL ad inj _ s2 40 1024 (by decide) rfl 0 q3 q4 hq4) nw25 wt191 wt1 wt192 3 hd_X8_put ⟨Nat.le_of_ble_eq_true rfl, Nat.le_of_ble_eq_true rfl⟩ rfl hl.1 rfl (Nat.le_of_ble_eq_true rfl) dX3_reckon_19) hP (fun H locs hP => ?_)
    refine lv_iconst (v := 1) hx hb_ dX3_reckon_22 (by decide) ?_
    refine lv_istore_n (lv' := [(2, .int 1), (0, .ref (ad 39)), (1, .ref (ad 12))]) hx hb_ dX3_reckon_23 rfl hl (by decide) rfl (fun ls hl => ?_)
    exact bk_24 1 q4 y h hK _ _ _ hP (lv_sub hl [1, 2, 0] rfl)
  exact bk r0 hf rfl _ _ hP
theorem hd_X3_isProof : yX3_isProof.cls = RX3 ∧ yX3_isProof.cls ≠ "java/lang/invoke/MethodHandle" ∧ yX3_isProof.cls ≠ "java/lang/invoke/VarHandle" ∧ (parseMethodDescriptor yX3_isProof.desc).map (fun d => d.parameters.length) = some 2 := by decide +kernel
set_option maxHeartbeats 4000000 in
set_option maxRecDepth 100000 in
theorem c_X3_isProof (l : Launch) (D : va_G) (aI aL : ClassId) (ad : Nat → Nat) (inj : Inj ad 42) (sz : Nat) (σ : Sg) (v1 : Int32) (v2 : Int32) (r0 : Int32) (hf : f_X3_isProof v1 v2 σ = some r0) : Met l yX3_isProof (wS yX3_isProof cX3_isProof 4 (some .boolean)) (RM 2 42) (Pw D aI aL 42 shX ad sz σ [.ref (ad 39), .int v1, .int v2]) (Qi D aI aL 42 shX ad r0 σ sz) 0 0 (AA ad 42 sz) := by
  refine Mof (Qc := Qi D aI aL 42 shX ad r0 σ) (by decide) inj (Nat.le_of_ble_eq_true rfl) ?_
  intro p e s m args below meth c ls C hlk hr hP hl
  have hx := C.1.1
  have hb_ := C.1.2.1
  have hown := C.1.2.2.2.1
  have hts := C.1.2.2.2.2
  have hl : lv_has ls 4 [(0, .ref (ad 39)), (1, .int v1), (2, .int v2)] := hl
  have lp_19 : ∀ (n_19 : Nat) (v3_19 : Int32) (y : Int32), itr n_19 (fun s => f_X3_isProof_19s v1 v2 s σ) (v3_19) = some y → (fun y => y = r0) y → ∀ (H : Heap) (locs : List Loc) (ls : Array Slot), HS D aI aL 42 shX ad σ s H locs → lv_has ls 4 [(0, .ref (ad 39)), (1, .int v1), (2, .int v2), (3, .int v3_19)] → W p l e (RM 2 42) s m args below meth c H locs 0 0 (MQ below (Qi D aI aL 42 shX ad r0 σ s.heap.size) args s 0 0 (AA ad 42 s.heap.size)) (F0 m 19 ls []) := by
    intro n_19
    induction n_19 with
    | zero =>
      intro v3_19 y h hK
      cases (show (none : Option Int32) = some y from h)
    | succ n_19 ih_19 =>
      have bk_56 : ∀ (v3_56 : Int32) (y : ((Int32) ⊕ Int32)), f_X3_isProof_56 v1 v2 v3_56 σ = some y → (KK n_19 (fun s => f_X3_isProof_19s v1 v2 s σ) (fun y => y = r0)) y → ∀ (H : Heap) (locs : List Loc) (ls : Array Slot), HS D aI aL 42 shX ad σ s H locs → lv_has ls 4 [(0, .ref (ad 39)), (1, .int v1), (2, .int v2), (3, .int v3_56)] → W p l e (RM 2 42) s m args below meth c H locs 0 0 (MQ below (Qi D aI aL 42 shX ad r0 σ s.heap.size) args s 0 0 (AA ad 42 s.heap.size)) (F0 m 56 ls []) := by
        intro v3_56 y h hK H locs ls hP hl
        unfold f_X3_isProof_56 at h
        obtain ⟨x5, hx5, h⟩ := nm_inv h
        refine lv_iinc (v := x5) (lv' := [(3, .int x5), (0, .ref (ad 39)), (1, .int v1), (2, .int v2)]) hx hb_ dX3_isProof_56 hl (k := 3) rfl (by rw [hx5]; rfl) (by decide) rfl (fun ls hl => ?_)
        refine lv_goto (tgt := 19) hx hb_ dX3_isProof_59 (by decide) ?_
        obtain rfl := Option.some.inj h
        obtain ⟨y2, h, hK⟩ := hK
        exact ih_19 x5 y2 h hK _ _ _ hP (lv_sub hl [1, 2, 3, 0] rfl)
      intro v3_19 y h hK H locs ls hP hl
      obtain ⟨y, h, hK⟩ := itr_inv (K := (fun y => y = r0)) h hK
      replace h : f_X3_isProof_19s v1 v2 v3_19 σ = some y := h
      unfold f_X3_isProof_19s at h
      refine lv_iload_n hx hb_ dX3_isProof_19 rfl (lv_at hl 3 rfl) ?_
      refine lv_bipush (v := 10) hx hb_ dX3_isProof_20 (by decide) ?_
      refine lv_icmp_ge (tgt := 62) hx hb_ dX3_isProof_22 (by decide) (fun hc => ?_) (fun hc => ?_)
      · replace h := ift h hc
        refine lv_iconst (v := 1) hx hb_ dX3_isProof_62 (by decide) ?_
        obtain ⟨x3, hx3, h⟩ := bnd h
        obtain rfl := Option.some.inj h
        have hK : (x3 : Int32) = r0 := hK
        exact w_zret C hlk hr hP hx3 hK rfl dX3_isProof_63
      · replace h := iff' h hc
        refine lv_iload_n hx hb_ dX3_isProof_25 rfl (lv_at hl 1 rfl) ?_
        refine lv_iload_n hx hb_ dX3_isProof_26 rfl (lv_at hl 3 rfl) ?_
        obtain ⟨q4, hq4, h⟩ := bnd h
        refine w_ci (w_rN (As := [.int v1, .int v3_19]) (rest := []) C hP (c_X8_has l D aI aL ad inj _ σ v1 v3_19 q4 hq4) nw27 wt468 wt1 wt469 2 hd_X8_has ⟨Nat.le_of_ble_eq_true rfl, Nat.le_of_ble_eq_true rfl⟩ rfl hl.1 rfl (Nat.le_of_ble_eq_true rfl) dX3_isProof_27) hP (fun H locs hP => ?_)
        refine lv_if_eq (tgt := 56) hx hb_ dX3_isProof_30 (by decide) (fun hc => ?_) (fun hc => ?_)
        · replace h := ift h hc
          exact bk_56 v3_19 y h hK _ _ _ hP (lv_sub hl [0, 1, 2, 3] rfl)
        · replace h := iff' h hc
          refine lv_aload_n hx hb_ dX3_isProof_33 rfl (lv_at hl 0 rfl) ?_
          refine w_get C hP (k := 39) (by decide) 2 rfl rfl inWX3 0 (by decide) wt126 (v := .ref (ad 40)) rfl dX3_isProof_34 ?_
          refine lv_iload_n hx hb_ dX3_isProof_37 rfl (lv_at hl 1 rfl) ?_
          refine lv_iconst (v := 1) hx hb_ dX3_isProof_38 (by decide) ?_
          refine lv_iload_n hx hb_ dX3_isProof_39 rfl (lv_at hl 3 rfl) ?_
          refine lv_ishl hx hb_ dX3_isProof_40 ?_
          refine lv_iconst (v := (-1)) hx hb_ dX3_isProof_41 (by decide) ?_
          refine lv_ixor hx hb_ dX3_isProof_42 ?_
          refine lv_iand hx hb_ dX3_isProof_43 ?_
          obtain ⟨q6, hq6, h⟩ := bnd h
          refine w_ci (w_rN (As := [.ref (ad 40), .int (v1 &&& (((1 : Int32) <<< (v3_19 &&& 31)) ^^^ ((-1) : Int32)))]) (rest := []) C hP (c_X8_at l D aI aL ad inj _ σ 40 1024 (by decide) rfl (v1 &&& (((1 : Int32) <<< (v3_19 &&& 31)) ^^^ ((-1) : Int32))) q6 hq6) nw26 wt225 wt1 wt226 2 hd_X8_at ⟨Nat.le_of_ble_eq_true rfl, Nat.le_of_ble_eq_true rfl⟩ rfl hl.1 rfl (Nat.le_of_ble_eq_true rfl) dX3_isProof_44) hP (fun H locs hP => ?_)
          refine lv_iload_n hx hb_ dX3_isProof_47 rfl (lv_at hl 2 rfl) ?_
          obtain ⟨q7, hq7, h⟩ := bnd h
          refine w_ci (w_rN (As := [.int q6, .int v2]) (rest := []) C hP (c_X8_has l D aI aL ad inj _ σ q6 v2 q7 hq7) nw27 wt468 wt1 wt469 2 hd_X8_has ⟨Nat.le_of_ble_eq_true rfl, Nat.le_of_ble_eq_true rfl⟩ rfl hl.1 rfl (Nat.le_of_ble_eq_true rfl) dX3_isProof_48) hP (fun H locs hP => ?_)
          refine lv_if_eq (tgt := 56) hx hb_ dX3_isProof_51 (by decide) (fun hc => ?_) (fun hc => ?_)
          · replace h := ift h hc
            exact bk_56 v3_19 y h hK _ _ _ hP (lv_sub hl [0, 1, 2, 3] rfl)
          · replace h := iff' h hc
            refine lv_iconst (v := 0) hx hb_ dX3_isProof_54 (by decide) ?_
            obtain ⟨x8, hx8, h⟩ := bnd h
            obtain rfl := Option.some.inj h
            have hK : (x8 : Int32) = r0 := hK
            exact w_zret C hlk hr hP hx8 hK rfl dX3_isProof_55
  have bk_19 : ∀ (v3_19 : Int32) (y : Int32), f_X3_isProof_19 v1 v2 v3_19 σ = some y → (fun y => y = r0) y → ∀ (H : Heap) (locs : List Loc) (ls : Array Slot), HS D aI aL 42 shX ad σ s H locs → lv_has ls 4 [(0, .ref (ad 39)), (1, .int v1), (2, .int v2), (3, .int v3_19)] → W p l e (RM 2 42) s m args below meth c H locs 0 0 (MQ below (Qi D aI aL 42 shX ad r0 σ s.heap.size) args s 0 0 (AA ad 42 s.heap.size)) (F0 m 19 ls []) := fun v3_19 y h hK => lp_19 3000 v3_19 y h hK
  have bk : ∀ (y : Int32), f_X3_isProof v1 v2 σ = some y → y = r0 → ∀ (H : Heap) (locs : List Loc), HS D aI aL 42 shX ad σ s H locs → W p l e (RM 2 42) s m args below meth c H locs 0 0 (MQ below (Qi D aI aL 42 shX ad r0 σ s.heap.size) args s 0 0 (AA ad 42 s.heap.size)) (F0 m 0 ls []) := by
    intro y h hK H locs hP
    unfold f_X3_isProof at h
    refine lv_aload_n hx hb_ dX3_isProof_0 rfl (lv_at hl 0 rfl) ?_
    refine w_get C hP (k := 39) (by decide) 2 rfl rfl inWX3 0 (by decide) wt126 (v := .ref (ad 40)) rfl dX3_isProof_1 ?_
    refine lv_iload_n hx hb_ dX3_isProof_4 rfl (lv_at hl 1 rfl) ?_
    obtain ⟨q1, hq1, h⟩ := bnd h
    refine w_ci (w_rN (As := [.ref (ad 40), .int v1]) (rest := []) C hP (c_X8_at l D aI aL ad inj _ σ 40 1024 (by decide) rfl v1 q1 hq1) nw26 wt225 wt1 wt226 2 hd_X8_at ⟨Nat.le_of_ble_eq_true rfl, Nat.le_of_ble_eq_true rfl⟩ rfl hl.1 rfl (Nat.le_of_ble_eq_true rfl) dX3_isProof_5) hP (fun H locs hP => ?_)
    refine lv_iload_n hx hb_ dX3_isProof_8 rfl (lv_at hl 2 rfl) ?_
    obtain ⟨q2, hq2, h⟩ := bnd h
    refine w_ci (w_rN (As := [.int q1, .int v2]) (rest := []) C hP (c_X8_has l D aI aL ad inj _ σ q1 v2 q2 hq2) nw27 wt468 wt1 wt469 2 hd_X8_has ⟨Nat.le_of_ble_eq_true rfl, Nat.le_of_ble_eq_true rfl⟩ rfl hl.1 rfl (Nat.le_of_ble_eq_true rfl) dX3_isProof_9) hP (fun H locs hP => ?_)
    refine lv_if_ne (tgt := 17) hx hb_ dX3_isProof_12 (by decide) (fun hc => ?_) (fun hc => ?_)
    · replace h := iff' h hc
      refine lv_iconst (v := 0) hx hb_ dX3_isProof_17 (by decide) ?_
      refine lv_istore_n (lv' := [(3, .int 0), (0, .ref (ad 39)), (1, .int v1), (2, .int v2)]) hx hb_ dX3_isProof_18 rfl hl (by decide) rfl (fun ls hl => ?_)
      exact bk_19 0 y h hK _ _ _ hP (lv_sub hl [1, 2, 3, 0] rfl)
    · replace h := ift h hc
      refine lv_iconst (v := 0) hx hb_ dX3_isProof_15 (by decide) ?_
      obtain ⟨x9, hx9, h⟩ := bnd h
      obtain rfl := Option.some.inj h
      have hK : (x9 : Int32) = r0 := hK
      exact w_zret C hlk hr hP hx9 hK rfl dX3_isProof_16
  exact bk r0 hf rfl _ _ hP
theorem hd_X3_howMany : yX3_howMany.cls = RX3 ∧ yX3_howMany.cls ≠ "java/lang/invoke/MethodHandle" ∧ yX3_howMany.cls ≠ "java/lang/invoke/VarHandle" ∧ (parseMethodDescriptor yX3_howMany.desc).map (fun d => d.parameters.length) = some 1 := by decide +kernel
set_option maxHeartbeats 4000000 in
set_option maxRecDepth 100000 in
theorem c_X3_howMany (l : Launch) (D : va_G) (aI aL : ClassId) (ad : Nat → Nat) (inj : Inj ad 42) (sz : Nat) (σ : Sg) (v1 : Int32) (r0 : Int32) (hf : f_X3_howMany v1 σ = some r0) : Met l yX3_howMany (wS yX3_howMany cX3_howMany 4 (some .int)) (RM 3 65) (Pw D aI aL 42 shX ad sz σ [.ref (ad 39), .int v1]) (Qi D aI aL 42 shX ad r0 σ sz) 0 0 (AA ad 42 sz) := by
  refine Mof (Qc := Qi D aI aL 42 shX ad r0 σ) (by decide) inj (Nat.le_of_ble_eq_true rfl) ?_
  intro p e s m args below meth c ls C hlk hr hP hl
  have hx := C.1.1
  have hb_ := C.1.2.1
  have hown := C.1.2.2.2.1
  have hts := C.1.2.2.2.2
  have hl : lv_has ls 4 [(0, .ref (ad 39)), (1, .int v1)] := hl
  have lp_4 : ∀ (n_4 : Nat) (v2_4 : Int32) (v3_4 : Int32) (y : Int32), itr n_4 (fun s => f_X3_howMany_4s v1 s.1 s.2 σ) (v2_4, v3_4) = some y → (fun y => y = r0) y → ∀ (H : Heap) (locs : List Loc) (ls : Array Slot), HS D aI aL 42 shX ad σ s H locs → lv_has ls 4 [(0, .ref (ad 39)), (1, .int v1), (2, .int v2_4), (3, .int v3_4)] → W p l e (RM 3 65) s m args below meth c H locs 0 0 (MQ below (Qi D aI aL 42 shX ad r0 σ s.heap.size) args s 0 0 (AA ad 42 s.heap.size)) (F0 m 4 ls []) := by
    intro n_4
    induction n_4 with
    | zero =>
      intro v2_4 v3_4 y h hK
      cases (show (none : Option Int32) = some y from h)
    | succ n_4 ih_4 =>
      have bk_24 : ∀ (v2_24 : Int32) (v3_24 : Int32) (y : ((Int32 × Int32) ⊕ Int32)), f_X3_howMany_24 v1 v2_24 v3_24 σ = some y → (KK n_4 (fun s => f_X3_howMany_4s v1 s.1 s.2 σ) (fun y => y = r0)) y → ∀ (H : Heap) (locs : List Loc) (ls : Array Slot), HS D aI aL 42 shX ad σ s H locs → lv_has ls 4 [(0, .ref (ad 39)), (1, .int v1), (2, .int v2_24), (3, .int v3_24)] → W p l e (RM 3 65) s m args below meth c H locs 0 0 (MQ below (Qi D aI aL 42 shX ad r0 σ s.heap.size) args s 0 0 (AA ad 42 s.heap.size)) (F0 m 24 ls []) := by
        intro v2_24 v3_24 y h hK H locs ls hP hl
        unfold f_X3_howMany_24 at h
        obtain ⟨x2, hx2, h⟩ := nm_inv h
        refine lv_iinc (v := x2) (lv' := [(3, .int x2), (0, .ref (ad 39)), (1, .int v1), (2, .int v2_24)]) hx hb_ dX3_howMany_24 hl (k := 3) rfl (by rw [hx2]; rfl) (by decide) rfl (fun ls hl => ?_)
        refine lv_goto (tgt := 4) hx hb_ dX3_howMany_27 (by decide) ?_
        obtain rfl := Option.some.inj h
        obtain ⟨y2, h, hK⟩ := hK
        exact ih_4 v2_24 x2 y2 h hK _ _ _ hP (lv_sub hl [1, 2, 3, 0] rfl)
      intro v2_4 v3_4 y h hK H locs ls hP hl
      obtain ⟨y, h, hK⟩ := itr_inv (K := (fun y => y = r0)) h hK
      replace h : f_X3_howMany_4s v1 v2_4 v3_4 σ = some y := h
      unfold f_X3_howMany_4s at h
      refine lv_iload_n hx hb_ dX3_howMany_4 rfl (lv_at hl 3 rfl) ?_
      refine lv_aload_n hx hb_ dX3_howMany_5 rfl (lv_at hl 0 rfl) ?_
      refine w_get C hP (k := 39) (by decide) 2 rfl rfl inWX3 1 (by decide) wt127 (v := .int (σ.1 39 1)) rfl dX3_howMany_6 ?_
      refine lv_icmp_ge (tgt := 30) hx hb_ dX3_howMany_9 (by decide) (fun hc => ?_) (fun hc => ?_)
      · replace h := ift h hc
        refine lv_iload_n hx hb_ dX3_howMany_30 rfl (lv_at hl 2 rfl) ?_
        obtain rfl := Option.some.inj h
        have hK : (v2_4 : Int32) = r0 := hK
        exact w_iret C hlk hr hP hK rfl dX3_howMany_31
      · replace h := iff' h hc
        refine lv_aload_n hx hb_ dX3_howMany_12 rfl (lv_at hl 0 rfl) ?_
        refine lv_iload_n hx hb_ dX3_howMany_13 rfl (lv_at hl 3 rfl) ?_
        refine lv_iload_n hx hb_ dX3_howMany_14 rfl (lv_at hl 1 rfl) ?_
        obtain ⟨q1, hq1, h⟩ := bnd h
        refine w_ci (w_rV (As := [.int v3_4, .int v1]) (rest := []) C hP (k := 39) (c_X3_isProof l D aI aL ad inj _ σ v3_4 v1 q1 hq1) (gV wt698 wt700 wp10 wt7 wt701) 2 hd_X3_isProof ⟨Nat.le_of_ble_eq_true rfl, Nat.le_of_ble_eq_true rfl⟩ (by decide) 2 rfl rfl rfl hl.1 rfl (Nat.le_of_ble_eq_true rfl) dX3_howMany_15) hP (fun H locs hP => ?_)
        refine lv_if_eq (tgt := 24) hx hb_ dX3_howMany_18 (by decide) (fun hc => ?_) (fun hc => ?_)
        · replace h := ift h hc
          exact bk_24 v2_4 v3_4 y h hK _ _ _ hP (lv_sub hl [0, 1, 2, 3] rfl)
        · replace h := iff' h hc
          obtain ⟨x3, hx3, h⟩ := nm_inv h
          refine lv_iinc (v := x3) (lv' := [(2, .int x3), (0, .ref (ad 39)), (1, .int v1), (3, .int v3_4)]) hx hb_ dX3_howMany_21 hl (k := 2) rfl (by rw [hx3]; rfl) (by decide) rfl (fun ls hl => ?_)
          exact bk_24 x3 v3_4 y h hK _ _ _ hP (lv_sub hl [1, 2, 0, 3] rfl)
  have bk_4 : ∀ (v2_4 : Int32) (v3_4 : Int32) (y : Int32), f_X3_howMany_4 v1 v2_4 v3_4 σ = some y → (fun y => y = r0) y → ∀ (H : Heap) (locs : List Loc) (ls : Array Slot), HS D aI aL 42 shX ad σ s H locs → lv_has ls 4 [(0, .ref (ad 39)), (1, .int v1), (2, .int v2_4), (3, .int v3_4)] → W p l e (RM 3 65) s m args below meth c H locs 0 0 (MQ below (Qi D aI aL 42 shX ad r0 σ s.heap.size) args s 0 0 (AA ad 42 s.heap.size)) (F0 m 4 ls []) := fun v2_4 v3_4 y h hK => lp_4 3000 v2_4 v3_4 y h hK
  have bk : ∀ (y : Int32), f_X3_howMany v1 σ = some y → y = r0 → ∀ (H : Heap) (locs : List Loc), HS D aI aL 42 shX ad σ s H locs → W p l e (RM 3 65) s m args below meth c H locs 0 0 (MQ below (Qi D aI aL 42 shX ad r0 σ s.heap.size) args s 0 0 (AA ad 42 s.heap.size)) (F0 m 0 ls []) := by
    intro y h hK H locs hP
    unfold f_X3_howMany at h
    refine lv_iconst (v := 0) hx hb_ dX3_howMany_0 (by decide) ?_
    refine lv_istore_n (lv' := [(2, .int 0), (0, .ref (ad 39)), (1, .int v1)]) hx hb_ dX3_howMany_1 rfl hl (by decide) rfl (fun ls hl => ?_)
    refine lv_iconst (v := 0) hx hb_ dX3_howMany_2 (by decide) ?_
    refine lv_istore_n (lv' := [(3, .int 0), (2, .int 0), (0, .ref (ad 39)), (1, .int v1)]) hx hb_ dX3_howMany_3 rfl hl (by decide) rfl (fun ls hl => ?_)
    exact bk_4 0 0 y h hK _ _ _ hP (lv_sub hl [2, 3, 1, 0] rfl)
  exact bk r0 hf rfl _ _ hP
theorem hd_X3_shortest : yX3_shortest.cls = RX3 ∧ yX3_shortest.cls ≠ "java/lang/invoke/MethodHandle" ∧ yX3_shortest.cls ≠ "java/lang/invoke/VarHandle" ∧ (parseMethodDescriptor yX3_shortest.desc).map (fun d => d.parameters.length) = some 1 := by decide +kernel
set_option maxHeartbeats 4000000 in
set_option maxRecDepth 100000 in
theorem c_X3_shortest (l : Launch) (D : va_G) (aI aL : ClassId) (ad : Nat → Nat) (inj : Inj ad 42) (sz : Nat) (σ : Sg) (v1 : Int32) (r0 : Int32) (hf : f_X3_shortest v1 σ = some r0) : Met l yX3_shortest (wS yX3_shortest cX3_shortest 5 (some .int)) (RM 3 65) (Pw D aI aL 42 shX ad sz σ [.ref (ad 39), .int v1]) (Qi D aI aL 42 shX ad r0 σ sz) 0 0 (AA ad 42 sz) := by
  refine Mof (Qc := Qi D aI aL 42 shX ad r0 σ) (by decide) inj (Nat.le_of_ble_eq_true rfl) ?_
  intro p e s m args below meth c ls C hlk hr hP hl
  have hx := C.1.1
  have hb_ := C.1.2.1
  have hown := C.1.2.2.2.1
  have hts := C.1.2.2.2.2
  have hl : lv_has ls 5 [(0, .ref (ad 39)), (1, .int v1)] := hl
  have lp_9 : ∀ (n_9 : Nat) (v2_9 : Int32) (v3_9 : Int32) (v4_9 : Int32) (y : Int32), itr n_9 (fun s => f_X3_shortest_9s v1 s.1 s.2.1 s.2.2 σ) (v2_9, v3_9, v4_9) = some y → (fun y => y = r0) y → ∀ (H : Heap) (locs : List Loc) (ls : Array Slot), HS D aI aL 42 shX ad σ s H locs → lv_has ls 5 [(0, .ref (ad 39)), (1, .int v1), (2, .int v2_9), (3, .int v3_9), (4, .int v4_9)] → W p l e (RM 3 65) s m args below meth c H locs 0 0 (MQ below (Qi D aI aL 42 shX ad r0 σ s.heap.size) args s 0 0 (AA ad 42 s.heap.size)) (F0 m 9 ls []) := by
    intro n_9
    induction n_9 with
    | zero =>
      intro v2_9 v3_9 v4_9 y h hK
      cases (show (none : Option Int32) = some y from h)
    | succ n_9 ih_9 =>
      have bk_46 : ∀ (v2_46 : Int32) (v3_46 : Int32) (v4_46 : Int32) (y : ((Int32 × Int32 × Int32) ⊕ Int32)), f_X3_shortest_46 v1 v2_46 v3_46 v4_46 σ = some y → (KK n_9 (fun s => f_X3_shortest_9s v1 s.1 s.2.1 s.2.2 σ) (fun y => y = r0)) y → ∀ (H : Heap) (locs : List Loc) (ls : Array Slot), HS D aI aL 42 shX ad σ s H locs → lv_has ls 5 [(0, .ref (ad 39)), (1, .int v1), (2, .int v2_46), (3, .int v3_46), (4, .int v4_46)] → W p l e (RM 3 65) s m args below meth c H locs 0 0 (MQ below (Qi D aI aL 42 shX ad r0 σ s.heap.size) args s 0 0 (AA ad 42 s.heap.size)) (F0 m 46 ls []) := by
        intro v2_46 v3_46 v4_46 y h hK H locs ls hP hl
        unfold f_X3_shortest_46 at h
        obtain ⟨x2, hx2, h⟩ := nm_inv h
        refine lv_iinc (v := x2) (lv' := [(4, .int x2), (0, .ref (ad 39)), (1, .int v1), (2, .int v2_46), (3, .int v3_46)]) hx hb_ dX3_shortest_46 hl (k := 4) rfl (by rw [hx2]; rfl) (by decide) rfl (fun ls hl => ?_)
        refine lv_goto (tgt := 9) hx hb_ dX3_shortest_49 (by decide) ?_
        obtain rfl := Option.some.inj h
        obtain ⟨y2, h, hK⟩ := hK
        exact ih_9 v2_46 v3_46 x2 y2 h hK _ _ _ hP (lv_sub hl [1, 2, 3, 4, 0] rfl)
      intro v2_9 v3_9 v4_9 y h hK H locs ls hP hl
      obtain ⟨y, h, hK⟩ := itr_inv (K := (fun y => y = r0)) h hK
      replace h : f_X3_shortest_9s v1 v2_9 v3_9 v4_9 σ = some y := h
      unfold f_X3_shortest_9s at h
      refine lv_iload hx hb_ dX3_shortest_9 (lv_at hl 4 rfl) ?_
      refine lv_aload_n hx hb_ dX3_shortest_11 rfl (lv_at hl 0 rfl) ?_
      refine w_get C hP (k := 39) (by decide) 2 rfl rfl inWX3 1 (by decide) wt127 (v := .int (σ.1 39 1)) rfl dX3_shortest_12 ?_
      refine lv_icmp_ge (tgt := 52) hx hb_ dX3_shortest_15 (by decide) (fun hc => ?_) (fun hc => ?_)
      · replace h := ift h hc
        refine lv_iload_n hx hb_ dX3_shortest_52 rfl (lv_at hl 2 rfl) ?_
        obtain rfl := Option.some.inj h
        have hK : (v2_9 : Int32) = r0 := hK
        exact w_iret C hlk hr hP hK rfl dX3_shortest_53
      · replace h := iff' h hc
        refine lv_iload hx hb_ dX3_shortest_18 (lv_at hl 4 rfl) ?_
        obtain ⟨q1, hq1, h⟩ := bnd h
        refine w_ci (w_rS (As := [.int v4_9]) (rest := []) C hP (c_J6_bitCount_0f7a4 l D aI aL ad inj _ σ v4_9 q1 hq1) wt707 wt454 wt13 wt455 1 hd_J6_bitCount_0f7a4 ⟨Nat.le_of_ble_eq_true rfl, Nat.le_of_ble_eq_true rfl⟩ rfl hl.1 rfl (Nat.le_of_ble_eq_true rfl) dX3_shortest_20) hP (fun H locs hP => ?_)
        refine lv_iload_n hx hb_ dX3_shortest_23 rfl (lv_at hl 3 rfl) ?_
        refine lv_icmp_ge (tgt := 46) hx hb_ dX3_shortest_24 (by decide) (fun hc => ?_) (fun hc => ?_)
        · replace h := ift h hc
          exact bk_46 v2_9 v3_9 v4_9 y h hK _ _ _ hP (lv_sub hl [0, 1, 2, 3, 4] rfl)
        · replace h := iff' h hc
          refine lv_aload_n hx hb_ dX3_shortest_27 rfl (lv_at hl 0 rfl) ?_
          refine lv_iload hx hb_ dX3_shortest_28 (lv_at hl 4 rfl) ?_
          refine lv_iload_n hx hb_ dX3_shortest_30 rfl (lv_at hl 1 rfl) ?_
          obtain ⟨q3, hq3, h⟩ := bnd h
          refine w_ci (w_rV (As := [.int v4_9, .int v1]) (rest := []) C hP (k := 39) (c_X3_isProof l D aI aL ad inj _ σ v4_9 v1 q3 hq3) (gV wt698 wt700 wp10 wt7 wt701) 2 hd_X3_isProof ⟨Nat.le_of_ble_eq_true rfl, Nat.le_of_ble_eq_true rfl⟩ (by decide) 2 rfl rfl rfl hl.1 rfl (Nat.le_of_ble_eq_true rfl) dX3_shortest_31) hP (fun H locs hP => ?_)
          refine lv_if_eq (tgt := 46) hx hb_ dX3_shortest_34 (by decide) (fun hc => ?_) (fun hc => ?_)
          · replace h := ift h hc
            exact bk_46 v2_9 v3_9 v4_9 y h hK _ _ _ hP (lv_sub hl [0, 1, 2, 3, 4] rfl)
          · replace h := iff' h hc
            refine lv_iload hx hb_ dX3_shortest_37 (lv_at hl 4 rfl) ?_
            refine lv_istore_n (lv' := [(2, .int v4_9), (0, .ref (ad 39)), (1, .int v1), (3, .int v3_9), (4, .int v4_9)]) hx hb_ dX3_shortest_39 rfl hl (by decide) rfl (fun ls hl => ?_)
            refine lv_iload hx hb_ dX3_shortest_40 (lv_at hl 4 rfl) ?_
            obtain ⟨q4, hq4, h⟩ := bnd h
            refine w_ci (w_rS (As := [.int v4_9]) (rest := []) C hP (c_J6_bitCount_0f7a4 l D aI aL ad inj _ σ v4_9 q4 hq4) wt707 wt454 wt13 wt455 1 hd_J6_bitCount_0f7a4 ⟨Nat.le_of_ble_eq_true rfl, Nat.le_of_ble_eq_true rfl⟩ rfl hl.1 rfl (Nat.le_of_ble_eq_true rfl) dX3_shortest_42) hP (fun H locs hP => ?_)
            refine lv_istore_n (lv' := [(3, .int q4), (2, .int v4_9), (0, .ref (ad 39)), (1, .int v1), (4, .int v4_9)]) hx hb_ dX3_shortest_45 rfl hl (by decide) rfl (fun ls hl => ?_)
            exact bk_46 v4_9 q4 v4_9 y h hK _ _ _ hP (lv_sub hl [2, 3, 1, 0, 4] rfl)
  have bk_9 : ∀ (v2_9 : Int32) (v3_9 : Int32) (v4_9 : Int32) (y : Int32), f_X3_shortest_9 v1 v2_9 v3_9 v4_9 σ = some y → (fun y => y = r0) y → ∀ (H : Heap) (locs : List Loc) (ls : Array Slot), HS D aI aL 42 shX ad σ s H locs → lv_has ls 5 [(0, .ref (ad 39)), (1, .int v1), (2, .int v2_9), (3, .int v3_9), (4, .int v4_9)] → W p l e (RM 3 65) s m args below meth c H locs 0 0 (MQ below (Qi D aI aL 42 shX ad r0 σ s.heap.size) args s 0 0 (AA ad 42 s.heap.size)) (F0 m 9 ls []) := fun v2_9 v3_9 v4_9 y h hK => lp_9 3000 v2_9 v3_9 v4_9 y h hK
  have bk : ∀ (y : Int32), f_X3_shortest v1 σ = some y → y = r0 → ∀ (H : Heap) (locs : List Loc), HS D aI aL 42 shX ad σ s H locs → W p l e (RM 3 65) s m args below meth c H locs 0 0 (MQ below (Qi D aI aL 42 shX ad r0 σ s.heap.size) args s 0 0 (AA ad 42 s.heap.size)) (F0 m 0 ls []) := by
    intro y h hK H locs hP
    unfold f_X3_shortest at h
    refine lv_bipush (v := (-4)) hx hb_ dX3_shortest_0 (by decide) ?_
    refine lv_istore_n (lv' := [(2, .int (-4)), (0, .ref (ad 39)), (1, .int v1)]) hx hb_ dX3_shortest_2 rfl hl (by decide) rfl (fun ls hl => ?_)
    refine lv_bipush (v := 11) hx hb_ dX3_shortest_3 (by decide) ?_
    refine lv_istore_n (lv' := [(3, .int 11), (2, .int (-4)), (0, .ref (ad 39)), (1, .int v1)]) hx hb_ dX3_shortest_5 rfl hl (by decide) rfl (fun ls hl => ?_)
    refine lv_iconst (v := 0) hx hb_ dX3_shortest_6 (by decide) ?_
    refine lv_istore (lv' := [(4, .int 0), (3, .int 11), (2, .int (-4)), (0, .ref (ad 39)), (1, .int v1)]) hx hb_ dX3_shortest_7 hl (by decide) rfl (fun ls hl => ?_)
    exact bk_9 (-4) 11 0 y h hK _ _ _ hP (lv_sub hl [3, 4, 2, 1, 0] rfl)
  exact bk r0 hf rfl _ _ hP
theorem hd_X3_inAll : yX3_inAll.cls = RX3 ∧ yX3_inAll.cls ≠ "java/lang/invoke/MethodHandle" ∧ yX3_inAll.cls ≠ "java/lang/invoke/VarHandle" ∧ (parseMethodDescriptor yX3_inAll.desc).map (fun d => d.parameters.length) = some 1 := by decide +kernel
set_option maxHeartbeats 4000000 in
set_option maxRecDepth 100000 in
theorem c_X3_inAll (l : Launch) (D : va_G) (aI aL : ClassId) (ad : Nat → Nat) (inj : Inj ad 42) (sz : Nat) (σ : Sg) (v1 : Int32) (r0 : Int32) (hf : f_X3_inAll v1 σ = some r0) : Met l yX3_inAll (wS yX3_inAll cX3_inAll 5 (some .int)) (RM 3 65) (Pw D aI aL 42 shX ad sz σ [.ref (ad 39), .int v1]) (Qi D aI aL 42 shX ad r0 σ sz) 0 0 (AA ad 42 sz) := by
  refine Mof (Qc := Qi D aI aL 42 shX ad r0 σ) (by decide) inj (Nat.le_of_ble_eq_true rfl) ?_
  intro p e s m args below meth c ls C hlk hr hP hl
  have hx := C.1.1
  have hb_ := C.1.2.1
  have hown := C.1.2.2.2.1
  have hts := C.1.2.2.2.2
  have hl : lv_has ls 5 [(0, .ref (ad 39)), (1, .int v1)] := hl
  have bk_50 : ∀ (t0_50 : Int32) (y : Int32), f_X3_inAll_50 t0_50 σ = some y → (fun y => y = r0) y → ∀ (H : Heap) (locs : List Loc) (ls : Array Slot), HS D aI aL 42 shX ad σ s H locs → lv_has ls 5 [] → W p l e (RM 3 65) s m args below meth c H locs 0 0 (MQ below (Qi D aI aL 42 shX ad r0 σ s.heap.size) args s 0 0 (AA ad 42 s.heap.size)) (F0 m 50 ls [.int t0_50]) := by
    intro t0_50 y h hK H locs ls hP hl
    unfold f_X3_inAll_50 at h
    obtain rfl := Option.some.inj h
    have hK : (t0_50 : Int32) = r0 := hK
    exact w_iret C hlk hr hP hK rfl dX3_inAll_50
  have lp_9 : ∀ (n_9 : Nat) (v2_9 : Int32) (v3_9 : Int32) (v4_9 : Int32) (y : Int32), itr n_9 (fun s => f_X3_inAll_9s v1 s.1 s.2.1 s.2.2 σ) (v2_9, v3_9, v4_9) = some y → (fun y => y = r0) y → ∀ (H : Heap) (locs : List Loc) (ls : Array Slot), HS D aI aL 42 shX ad σ s H locs → lv_has ls 5 [(0, .ref (ad 39)), (1, .int v1), (2, .int v2_9), (3, .int v3_9), (4, .int v4_9)] → W p l e (RM 3 65) s m args below meth c H locs 0 0 (MQ below (Qi D aI aL 42 shX ad r0 σ s.heap.size) args s 0 0 (AA ad 42 s.heap.size)) (F0 m 9 ls []) := by
    intro n_9
    induction n_9 with
    | zero =>
      intro v2_9 v3_9 v4_9 y h hK
      cases (show (none : Option Int32) = some y from h)
    | succ n_9 ih_9 =>
      have bk_35 : ∀ (v2_35 : Int32) (v3_35 : Int32) (v4_35 : Int32) (y : ((Int32 × Int32 × Int32) ⊕ Int32)), f_X3_inAll_35 v1 v2_35 v3_35 v4_35 σ = some y → (KK n_9 (fun s => f_X3_inAll_9s v1 s.1 s.2.1 s.2.2 σ) (fun y => y = r0)) y → ∀ (H : Heap) (locs : List Loc) (ls : Array Slot), HS D aI aL 42 shX ad σ s H locs → lv_has ls 5 [(0, .ref (ad 39)), (1, .int v1), (2, .int v2_35), (3, .int v3_35), (4, .int v4_35)] → W p l e (RM 3 65) s m args below meth c H locs 0 0 (MQ below (Qi D aI aL 42 shX ad r0 σ s.heap.size) args s 0 0 (AA ad 42 s.heap.size)) (F0 m 35 ls []) := by
        intro v2_35 v3_35 v4_35 y h hK H locs ls hP hl
        unfold f_X3_inAll_35 at h
        obtain ⟨x2, hx2, h⟩ := nm_inv h
        refine lv_iinc (v := x2) (lv' := [(4, .int x2), (0, .ref (ad 39)), (1, .int v1), (2, .int v2_35), (3, .int v3_35)]) hx hb_ dX3_inAll_35 hl (k := 4) rfl (by rw [hx2]; rfl) (by decide) rfl (fun ls hl => ?_)
        refine lv_goto (tgt := 9) hx hb_ dX3_inAll_38 (by decide) ?_
        obtain rfl := Option.some.inj h
        obtain ⟨y2, h, hK⟩ := hK
        exact ih_9 v2_35 v3_35 x2 y2 h hK _ _ _ hP (lv_sub hl [1, 2, 3, 4, 0] rfl)
      intro v2_9 v3_9 v4_9 y h hK H locs ls hP hl
      obtain ⟨y, h, hK⟩ := itr_inv (K := (fun y => y = r0)) h hK
      replace h : f_X3_inAll_9s v1 v2_9 v3_9 v4_9 σ = some y := h
      unfold f_X3_inAll_9s at h
      refine lv_iload hx hb_ dX3_inAll_9 (lv_at hl 4 rfl) ?_
      refine lv_aload_n hx hb_ dX3_inAll_11 rfl (lv_at hl 0 rfl) ?_
      refine w_get C hP (k := 39) (by decide) 2 rfl rfl inWX3 1 (by decide) wt127 (v := .int (σ.1 39 1)) rfl dX3_inAll_12 ?_
      refine lv_icmp_ge (tgt := 41) hx hb_ dX3_inAll_15 (by decide) (fun hc => ?_) (fun hc => ?_)
      · replace h := ift h hc
        refine lv_iload_n hx hb_ dX3_inAll_41 rfl (lv_at hl 3 rfl) ?_
        refine lv_if_eq (tgt := 49) hx hb_ dX3_inAll_42 (by decide) (fun hc => ?_) (fun hc => ?_)
        · replace h := ift h hc
          refine lv_iconst (v := 0) hx hb_ dX3_inAll_49 (by decide) ?_
          obtain ⟨y2, h2, rfl⟩ := mapi h
          exact bk_50 0 y2 h2 hK _ _ _ hP (lv_sub hl [] rfl)
        · replace h := iff' h hc
          refine lv_iload_n hx hb_ dX3_inAll_45 rfl (lv_at hl 2 rfl) ?_
          refine lv_goto (tgt := 50) hx hb_ dX3_inAll_46 (by decide) ?_
          obtain ⟨y2, h2, rfl⟩ := mapi h
          exact bk_50 v2_9 y2 h2 hK _ _ _ hP (lv_sub hl [] rfl)
      · replace h := iff' h hc
        refine lv_aload_n hx hb_ dX3_inAll_18 rfl (lv_at hl 0 rfl) ?_
        refine lv_iload hx hb_ dX3_inAll_19 (lv_at hl 4 rfl) ?_
        refine lv_iload_n hx hb_ dX3_inAll_21 rfl (lv_at hl 1 rfl) ?_
        obtain ⟨q1, hq1, h⟩ := bnd h
        refine w_ci (w_rV (As := [.int v4_9, .int v1]) (rest := []) C hP (k := 39) (c_X3_isProof l D aI aL ad inj _ σ v4_9 v1 q1 hq1) (gV wt698 wt700 wp10 wt7 wt701) 2 hd_X3_isProof ⟨Nat.le_of_ble_eq_true rfl, Nat.le_of_ble_eq_true rfl⟩ (by decide) 2 rfl rfl rfl hl.1 rfl (Nat.le_of_ble_eq_true rfl) dX3_inAll_22) hP (fun H locs hP => ?_)
        refine lv_if_eq (tgt := 35) hx hb_ dX3_inAll_25 (by decide) (fun hc => ?_) (fun hc => ?_)
        · replace h := ift h hc
          exact bk_35 v2_9 v3_9 v4_9 y h hK _ _ _ hP (lv_sub hl [0, 1, 2, 3, 4] rfl)
        · replace h := iff' h hc
          refine lv_iload_n hx hb_ dX3_inAll_28 rfl (lv_at hl 2 rfl) ?_
          refine lv_iload hx hb_ dX3_inAll_29 (lv_at hl 4 rfl) ?_
          refine lv_iand hx hb_ dX3_inAll_31 ?_
          obtain ⟨x3, hx3, h⟩ := nm_inv h
          refine w_ni hx3 ?_
          refine lv_istore_n (lv' := [(2, .int x3), (0, .ref (ad 39)), (1, .int v1), (3, .int v3_9), (4, .int v4_9)]) hx hb_ dX3_inAll_32 rfl hl (by decide) rfl (fun ls hl => ?_)
          refine lv_iconst (v := 1) hx hb_ dX3_inAll_33 (by decide) ?_
          refine lv_istore_n (lv' := [(3, .int 1), (2, .int x3), (0, .ref (ad 39)), (1, .int v1), (4, .int v4_9)]) hx hb_ dX3_inAll_34 rfl hl (by decide) rfl (fun ls hl => ?_)
          exact bk_35 x3 1 v4_9 y h hK _ _ _ hP (lv_sub hl [2, 3, 1, 0, 4] rfl)
  have bk_9 : ∀ (v2_9 : Int32) (v3_9 : Int32) (v4_9 : Int32) (y : Int32), f_X3_inAll_9 v1 v2_9 v3_9 v4_9 σ = some y → (fun y => y = r0) y → ∀ (H : Heap) (locs : List Loc) (ls : Array Slot), HS D aI aL 42 shX ad σ s H locs → lv_has ls 5 [(0, .ref (ad 39)), (1, .int v1), (2, .int v2_9), (3, .int v3_9), (4, .int v4_9)] → W p l e (RM 3 65) s m args below meth c H locs 0 0 (MQ below (Qi D aI aL 42 shX ad r0 σ s.heap.size) args s 0 0 (AA ad 42 s.heap.size)) (F0 m 9 ls []) := fun v2_9 v3_9 v4_9 y h hK => lp_9 3000 v2_9 v3_9 v4_9 y h hK
  have bk : ∀ (y : Int32), f_X3_inAll v1 σ = some y → y = r0 → ∀ (H : Heap) (locs : List Loc), HS D aI aL 42 shX ad σ s H locs → W p l e (RM 3 65) s m args below meth c H locs 0 0 (MQ below (Qi D aI aL 42 shX ad r0 σ s.heap.size) args s 0 0 (AA ad 42 s.heap.size)) (F0 m 0 ls []) := by
    intro y h hK H locs hP
    unfold f_X3_inAll at h
    refine lv_sipush (v := 1023) hx hb_ dX3_inAll_0 (by decide) ?_
    refine lv_istore_n (lv' := [(2, .int 1023), (0, .ref (ad 39)), (1, .int v1)]) hx hb_ dX3_inAll_3 rfl hl (by decide) rfl (fun ls hl => ?_)
    refine lv_iconst (v := 0) hx hb_ dX3_inAll_4 (by decide) ?_
    refine lv_istore_n (lv' := [(3, .int 0), (2, .int 1023), (0, .ref (ad 39)), (1, .int v1)]) hx hb_ dX3_inAll_5 rfl hl (by decide) rfl (fun ls hl => ?_)
    refine lv_iconst (v := 0) hx hb_ dX3_inAll_6 (by decide) ?_
    refine lv_istore (lv' := [(4, .int 0), (3, .int 0), (2, .int 1023), (0, .ref (ad 39)), (1, .int v1)]) hx hb_ dX3_inAll_7 hl (by decide) rfl (fun ls hl => ?_)
    exact bk_9 1023 0 0 y h hK _ _ _ hP (lv_sub hl [3, 4, 2, 1, 0] rfl)
  exact bk r0 hf rfl _ _ hP
theorem hd_X3_endsOf : yX3_endsOf.cls = RX3 ∧ yX3_endsOf.cls ≠ "java/lang/invoke/MethodHandle" ∧ yX3_endsOf.cls ≠ "java/lang/invoke/VarHandle" ∧ (parseMethodDescriptor yX3_endsOf.desc).map (fun d => d.parameters.length) = some 2 := by decide +kernel
set_option maxHeartbeats 4000000 in
set_option maxRecDepth 100000 in
theorem c_X3_endsOf (l : Launch) (D : va_G) (aI aL : ClassId) (ad : Nat → Nat) (inj : Inj ad 42) (sz : Nat) (σ : Sg) (v1 : Int32) (r0 : Int32) (hf : f_X3_endsOf v1 σ = some r0) : Met l yX3_endsOf (wS yX3_endsOf cX3_endsOf 4 (some .int)) (RM 2 42) (Pw D aI aL 42 shX ad sz σ [.ref (ad 12), .int v1]) (Qi D aI aL 42 shX ad r0 σ sz) 0 0 (AA ad 42 sz) := by
  refine Mof (Qc := Qi D aI aL 42 shX ad r0 σ) (by decide) inj (Nat.le_of_ble_eq_true rfl) ?_
  intro p e s m args below meth c ls C hlk hr hP hl
  have hx := C.1.1
  have hb_ := C.1.2.1
  have hown := C.1.2.2.2.1
  have hts := C.1.2.2.2.2
  have hl : lv_has ls 4 [(0, .ref (ad 12)), (1, .int v1)] := hl
  have lp_4 : ∀ (n_4 : Nat) (v2_4 : Int32) (v3_4 : Int32) (y : Int32), itr n_4 (fun s => f_X3_endsOf_4s v1 s.1 s.2 σ) (v2_4, v3_4) = some y → (fun y => y = r0) y → ∀ (H : Heap) (locs : List Loc) (ls : Array Slot), HS D aI aL 42 shX ad σ s H locs → lv_has ls 4 [(0, .ref (ad 12)), (1, .int v1), (2, .int v2_4), (3, .int v3_4)] → W p l e (RM 2 42) s m args below meth c H locs 0 0 (MQ below (Qi D aI aL 42 shX ad r0 σ s.heap.size) args s 0 0 (AA ad 42 s.heap.size)) (F0 m 4 ls []) := by
    intro n_4
    induction n_4 with
    | zero =>
      intro v2_4 v3_4 y h hK
      cases (show (none : Option Int32) = some y from h)
    | succ n_4 ih_4 =>
      have bk_30 : ∀ (v2_30 : Int32) (v3_30 : Int32) (y : ((Int32 × Int32) ⊕ Int32)), f_X3_endsOf_30 v1 v2_30 v3_30 σ = some y → (KK n_4 (fun s => f_X3_endsOf_4s v1 s.1 s.2 σ) (fun y => y = r0)) y → ∀ (H : Heap) (locs : List Loc) (ls : Array Slot), HS D aI aL 42 shX ad σ s H locs → lv_has ls 4 [(0, .ref (ad 12)), (1, .int v1), (2, .int v2_30), (3, .int v3_30)] → W p l e (RM 2 42) s m args below meth c H locs 0 0 (MQ below (Qi D aI aL 42 shX ad r0 σ s.heap.size) args s 0 0 (AA ad 42 s.heap.size)) (F0 m 30 ls []) := by
        intro v2_30 v3_30 y h hK H locs ls hP hl
        unfold f_X3_endsOf_30 at h
        obtain ⟨x3, hx3, h⟩ := nm_inv h
        refine lv_iinc (v := x3) (lv' := [(3, .int x3), (0, .ref (ad 12)), (1, .int v1), (2, .int v2_30)]) hx hb_ dX3_endsOf_30 hl (k := 3) rfl (by rw [hx3]; rfl) (by decide) rfl (fun ls hl => ?_)
        refine lv_goto (tgt := 4) hx hb_ dX3_endsOf_33 (by decide) ?_
        obtain rfl := Option.some.inj h
        obtain ⟨y2, h, hK⟩ := hK
        exact ih_4 v2_30 x3 y2 h hK _ _ _ hP (lv_sub hl [1, 2, 3, 0] rfl)
      intro v2_4 v3_4 y h hK H locs ls hP hl
      obtain ⟨y, h, hK⟩ := itr_inv (K := (fun y => y = r0)) h hK
      replace h : f_X3_endsOf_4s v1 v2_4 v3_4 σ = some y := h
      unfold f_X3_endsOf_4s at h
      refine lv_iload_n hx hb_ dX3_endsOf_4 rfl (lv_at hl 3 rfl) ?_
      refine lv_aload_n hx hb_ dX3_endsOf_5 rfl (lv_at hl 0 rfl) ?_
      obtain ⟨q1, hq1, h⟩ := bnd h
      refine w_ci (w_rV (As := []) (rest := [.int v3_4]) C hP (k := 12) (c_X1_stepCount l D aI aL ad inj _ σ 12 fl12 q1 hq1) (gV wt683 wt341 wt342 wt4 wt343) 0 hd_X1_stepCount ⟨Nat.le_of_ble_eq_true rfl, Nat.le_of_ble_eq_true rfl⟩ (by decide) 0 rfl rfl rfl hl.1 rfl (Nat.le_of_ble_eq_true rfl) dX3_endsOf_6) hP (fun H locs hP => ?_)
      refine lv_icmp_ge (tgt := 36) hx hb_ dX3_endsOf_9 (by decide) (fun hc => ?_) (fun hc => ?_)
      · replace h := ift h hc
        refine lv_iload_n hx hb_ dX3_endsOf_36 rfl (lv_at hl 2 rfl) ?_
        obtain rfl := Option.some.inj h
        have hK : (v2_4 : Int32) = r0 := hK
        exact w_iret C hlk hr hP hK rfl dX3_endsOf_37
      · replace h := iff' h hc
        refine lv_iload_n hx hb_ dX3_endsOf_12 rfl (lv_at hl 1 rfl) ?_
        refine lv_iload_n hx hb_ dX3_endsOf_13 rfl (lv_at hl 3 rfl) ?_
        obtain ⟨q2, hq2, h⟩ := bnd h
        refine w_ci (w_rN (As := [.int v1, .int v3_4]) (rest := []) C hP (c_X8_has l D aI aL ad inj _ σ v1 v3_4 q2 hq2) nw27 wt468 wt1 wt469 2 hd_X8_has ⟨Nat.le_of_ble_eq_true rfl, Nat.le_of_ble_eq_true rfl⟩ rfl hl.1 rfl (Nat.le_of_ble_eq_true rfl) dX3_endsOf_14) hP (fun H locs hP => ?_)
        refine lv_if_eq (tgt := 30) hx hb_ dX3_endsOf_17 (by decide) (fun hc => ?_) (fun hc => ?_)
        · replace h := ift h hc
          exact bk_30 v2_4 v3_4 y h hK _ _ _ hP (lv_sub hl [0, 1, 2, 3] rfl)
        · replace h := iff' h hc
          refine lv_iload_n hx hb_ dX3_endsOf_20 rfl (lv_at hl 2 rfl) ?_
          refine lv_iconst (v := 1) hx hb_ dX3_endsOf_21 (by decide) ?_
          refine lv_aload_n hx hb_ dX3_endsOf_22 rfl (lv_at hl 0 rfl) ?_
          refine lv_iload_n hx hb_ dX3_endsOf_23 rfl (lv_at hl 3 rfl) ?_
          obtain ⟨q4, hq4, h⟩ := bnd h
          refine w_ci (w_rV (As := [.int v3_4]) (rest := [.int 1, .int v2_4]) C hP (k := 12) (c_X1_endOf l D aI aL ad inj _ σ 12 fl12 v3_4 q4 hq4) (gV wt723 wt412 wt413 wt4 wt414) 1 hd_X1_endOf ⟨Nat.le_of_ble_eq_true rfl, Nat.le_of_ble_eq_true rfl⟩ (by decide) 0 rfl rfl rfl hl.1 rfl (Nat.le_of_ble_eq_true rfl) dX3_endsOf_24) hP (fun H locs hP => ?_)
          refine lv_ishl hx hb_ dX3_endsOf_27 ?_
          refine lv_ior hx hb_ dX3_endsOf_28 ?_
          obtain ⟨x5, hx5, h⟩ := nm_inv h
          refine w_ni hx5 ?_
          refine lv_istore_n (lv' := [(2, .int x5), (0, .ref (ad 12)), (1, .int v1), (3, .int v3_4)]) hx hb_ dX3_endsOf_29 rfl hl (by decide) rfl (fun ls hl => ?_)
          exact bk_30 x5 v3_4 y h hK _ _ _ hP (lv_sub hl [1, 2, 0, 3] rfl)
  have bk_4 : ∀ (v2_4 : Int32) (v3_4 : Int32) (y : Int32), f_X3_endsOf_4 v1 v2_4 v3_4 σ = some y → (fun y => y = r0) y → ∀ (H : Heap) (locs : List Loc) (ls : Array Slot), HS D aI aL 42 shX ad σ s H locs → lv_has ls 4 [(0, .ref (ad 12)), (1, .int v1), (2, .int v2_4), (3, .int v3_4)] → W p l e (RM 2 42) s m args below meth c H locs 0 0 (MQ below (Qi D aI aL 42 shX ad r0 σ s.heap.size) args s 0 0 (AA ad 42 s.heap.size)) (F0 m 4 ls []) := fun v2_4 v3_4 y h hK => lp_4 3000 v2_4 v3_4 y h hK
  have bk : ∀ (y : Int32), f_X3_endsOf v1 σ = some y → y = r0 → ∀ (H : Heap) (locs : List Loc), HS D aI aL 42 shX ad σ s H locs → W p l e (RM 2 42) s m args below meth c H locs 0 0 (MQ below (Qi D aI aL 42 shX ad r0 σ s.heap.size) args s 0 0 (AA ad 42 s.heap.size)) (F0 m 0 ls []) := by
    intro y h hK H locs hP
    unfold f_X3_endsOf at h
    refine lv_iconst (v := 0) hx hb_ dX3_endsOf_0 (by decide) ?_
    refine lv_istore_n (lv' := [(2, .int 0), (0, .ref (ad 12)), (1, .int v1)]) hx hb_ dX3_endsOf_1 rfl hl (by decide) rfl (fun ls hl => ?_)
    refine lv_iconst (v := 0) hx hb_ dX3_endsOf_2 (by decide) ?_
    refine lv_istore_n (lv' := [(3, .int 0), (2, .int 0), (0, .ref (ad 12)), (1, .int v1)]) hx hb_ dX3_endsOf_3 rfl hl (by decide) rfl (fun ls hl => ?_)
    exact bk_4 0 0 y h hK _ _ _ hP (lv_sub hl [2, 3, 1, 0] rfl)
  exact bk r0 hf rfl _ _ hP
theorem hd_X3_howManyWear : yX3_howManyWear.cls = RX3 ∧ yX3_howManyWear.cls ≠ "java/lang/invoke/MethodHandle" ∧ yX3_howManyWear.cls ≠ "java/lang/invoke/VarHandle" ∧ (parseMethodDescriptor yX3_howManyWear.desc).map (fun d => d.parameters.length) = some 3 := by decide +kernel
set_option maxHeartbeats 4000000 in
set_option maxRecDepth 100000 in
theorem c_X3_howManyWear (l : Launch) (D : va_G) (aI aL : ClassId) (ad : Nat → Nat) (inj : Inj ad 42) (sz : Nat) (σ : Sg) (v2 : Int32) (v3 : Int32) (r0 : Int32) (hf : f_X3_howManyWear v2 v3 σ = some r0) : Met l yX3_howManyWear (wS yX3_howManyWear cX3_howManyWear 6 (some .int)) (RM 3 65) (Pw D aI aL 42 shX ad sz σ [.ref (ad 39), .ref (ad 12), .int v2, .int v3]) (Qi D aI aL 42 shX ad r0 σ sz) 0 0 (AA ad 42 sz) := by
  refine Mof (Qc := Qi D aI aL 42 shX ad r0 σ) (by decide) inj (Nat.le_of_ble_eq_true rfl) ?_
  intro p e s m args below meth c ls C hlk hr hP hl
  have hx := C.1.1
  have hb_ := C.1.2.1
  have hown := C.1.2.2.2.1
  have hts := C.1.2.2.2.2
  have hl : lv_has ls 6 [(0, .ref (ad 39)), (1, .ref (ad 12)), (2, .int v2), (3, .int v3)] := hl
  have lp_6 : ∀ (n_6 : Nat) (v4_6 : Int32) (v5_6 : Int32) (y : Int32), itr n_6 (fun s => f_X3_howManyWear_6s v2 v3 s.1 s.2 σ) (v4_6, v5_6) = some y → (fun y => y = r0) y → ∀ (H : Heap) (locs : List Loc) (ls : Array Slot), HS D aI aL 42 shX ad σ s H locs → lv_has ls 6 [(0, .ref (ad 39)), (1, .ref (ad 12)), (2, .int v2), (3, .int v3), (4, .int v4_6), (5, .int v5_6)] → W p l e (RM 3 65) s m args below meth c H locs 0 0 (MQ below (Qi D aI aL 42 shX ad r0 σ s.heap.size) args s 0 0 (AA ad 42 s.heap.size)) (F0 m 6 ls []) := by
    intro n_6
    induction n_6 with
    | zero =>
      intro v4_6 v5_6 y h hK
      cases (show (none : Option Int32) = some y from h)
    | succ n_6 ih_6 =>
      have bk_38 : ∀ (v4_38 : Int32) (v5_38 : Int32) (y : ((Int32 × Int32) ⊕ Int32)), f_X3_howManyWear_38 v2 v3 v4_38 v5_38 σ = some y → (KK n_6 (fun s => f_X3_howManyWear_6s v2 v3 s.1 s.2 σ) (fun y => y = r0)) y → ∀ (H : Heap) (locs : List Loc) (ls : Array Slot), HS D aI aL 42 shX ad σ s H locs → lv_has ls 6 [(0, .ref (ad 39)), (1, .ref (ad 12)), (2, .int v2), (3, .int v3), (4, .int v4_38), (5, .int v5_38)] → W p l e (RM 3 65) s m args below meth c H locs 0 0 (MQ below (Qi D aI aL 42 shX ad r0 σ s.heap.size) args s 0 0 (AA ad 42 s.heap.size)) (F0 m 38 ls []) := by
        intro v4_38 v5_38 y h hK H locs ls hP hl
        unfold f_X3_howManyWear_38 at h
        obtain ⟨x2, hx2, h⟩ := nm_inv h
        refine lv_iinc (v := x2) (lv' := [(5, .int x2), (0, .ref (ad 39)), (1, .ref (ad 12)), (2, .int v2), (3, .int v3), (4, .int v4_38)]) hx hb_ dX3_howManyWear_38 hl (k := 5) rfl (by rw [hx2]; rfl) (by decide) rfl (fun ls hl => ?_)
        refine lv_goto (tgt := 6) hx hb_ dX3_howManyWear_41 (by decide) ?_
        obtain rfl := Option.some.inj h
        obtain ⟨y2, h, hK⟩ := hK
        exact ih_6 v4_38 x2 y2 h hK _ _ _ hP (lv_sub hl [1, 2, 3, 4, 5, 0] rfl)
      intro v4_6 v5_6 y h hK H locs ls hP hl
      obtain ⟨y, h, hK⟩ := itr_inv (K := (fun y => y = r0)) h hK
      replace h : f_X3_howManyWear_6s v2 v3 v4_6 v5_6 σ = some y := h
      unfold f_X3_howManyWear_6s at h
      refine lv_iload hx hb_ dX3_howManyWear_6 (lv_at hl 5 rfl) ?_
      refine lv_aload_n hx hb_ dX3_howManyWear_8 rfl (lv_at hl 0 rfl) ?_
      refine w_get C hP (k := 39) (by decide) 2 rfl rfl inWX3 1 (by decide) wt127 (v := .int (σ.1 39 1)) rfl dX3_howManyWear_9 ?_
      refine lv_icmp_ge (tgt := 44) hx hb_ dX3_howManyWear_12 (by decide) (fun hc => ?_) (fun hc => ?_)
      · replace h := ift h hc
        refine lv_iload hx hb_ dX3_howManyWear_44 (lv_at hl 4 rfl) ?_
        obtain rfl := Option.some.inj h
        have hK : (v4_6 : Int32) = r0 := hK
        exact w_iret C hlk hr hP hK rfl dX3_howManyWear_46
      · replace h := iff' h hc
        refine lv_aload_n hx hb_ dX3_howManyWear_15 rfl (lv_at hl 1 rfl) ?_
        refine lv_iload hx hb_ dX3_howManyWear_16 (lv_at hl 5 rfl) ?_
        obtain ⟨q1, hq1, h⟩ := bnd h
        refine w_ci (w_rS (As := [.ref (ad 12), .int v5_6]) (rest := []) C hP (c_X3_endsOf l D aI aL ad inj _ σ v5_6 q1 hq1) wt720 wt721 wt7 wt722 2 hd_X3_endsOf ⟨Nat.le_of_ble_eq_true rfl, Nat.le_of_ble_eq_true rfl⟩ rfl hl.1 rfl (Nat.le_of_ble_eq_true rfl) dX3_howManyWear_18) hP (fun H locs hP => ?_)
        refine lv_iload_n hx hb_ dX3_howManyWear_21 rfl (lv_at hl 3 rfl) ?_
        refine lv_icmp_ne (tgt := 38) hx hb_ dX3_howManyWear_22 (by decide) (fun hc => ?_) (fun hc => ?_)
        · replace h := iff' h hc
          exact bk_38 v4_6 v5_6 y h hK _ _ _ hP (lv_sub hl [0, 1, 2, 3, 4, 5] rfl)
        · replace h := ift h hc
          refine lv_aload_n hx hb_ dX3_howManyWear_25 rfl (lv_at hl 0 rfl) ?_
          refine lv_iload hx hb_ dX3_howManyWear_26 (lv_at hl 5 rfl) ?_
          refine lv_iload_n hx hb_ dX3_howManyWear_28 rfl (lv_at hl 2 rfl) ?_
          obtain ⟨q3, hq3, h⟩ := bnd h
          refine w_ci (w_rV (As := [.int v5_6, .int v2]) (rest := []) C hP (k := 39) (c_X3_isProof l D aI aL ad inj _ σ v5_6 v2 q3 hq3) (gV wt698 wt700 wp10 wt7 wt701) 2 hd_X3_isProof ⟨Nat.le_of_ble_eq_true rfl, Nat.le_of_ble_eq_true rfl⟩ (by decide) 2 rfl rfl rfl hl.1 rfl (Nat.le_of_ble_eq_true rfl) dX3_howManyWear_29) hP (fun H locs hP => ?_)
          refine lv_if_eq (tgt := 38) hx hb_ dX3_howManyWear_32 (by decide) (fun hc => ?_) (fun hc => ?_)
          · replace h := ift h hc
            exact bk_38 v4_6 v5_6 y h hK _ _ _ hP (lv_sub hl [0, 1, 2, 3, 4, 5] rfl)
          · replace h := iff' h hc
            obtain ⟨x4, hx4, h⟩ := nm_inv h
            refine lv_iinc (v := x4) (lv' := [(4, .int x4), (0, .ref (ad 39)), (1, .ref (ad 12)), (2, .int v2), (3, .int v3), (5, .int v5_6)]) hx hb_ dX3_howManyWear_35 hl (k := 4) rfl (by rw [hx4]; rfl) (by decide) rfl (fun ls hl => ?_)
            exact bk_38 x4 v5_6 y h hK _ _ _ hP (lv_sub hl [1, 2, 3, 4, 0, 5] rfl)
  have bk_6 : ∀ (v4_6 : Int32) (v5_6 : Int32) (y : Int32), f_X3_howManyWear_6 v2 v3 v4_6 v5_6 σ = some y → (fun y => y = r0) y → ∀ (H : Heap) (locs : List Loc) (ls : Array Slot), HS D aI aL 42 shX ad σ s H locs → lv_has ls 6 [(0, .ref (ad 39)), (1, .ref (ad 12)), (2, .int v2), (3, .int v3), (4, .int v4_6), (5, .int v5_6)] → W p l e (RM 3 65) s m args below meth c H locs 0 0 (MQ below (Qi D aI aL 42 shX ad r0 σ s.heap.size) args s 0 0 (AA ad 42 s.heap.size)) (F0 m 6 ls []) := fun v4_6 v5_6 y h hK => lp_6 3000 v4_6 v5_6 y h hK
  have bk : ∀ (y : Int32), f_X3_howManyWear v2 v3 σ = some y → y = r0 → ∀ (H : Heap) (locs : List Loc), HS D aI aL 42 shX ad σ s H locs → W p l e (RM 3 65) s m args below meth c H locs 0 0 (MQ below (Qi D aI aL 42 shX ad r0 σ s.heap.size) args s 0 0 (AA ad 42 s.heap.size)) (F0 m 0 ls []) := by
    intro y h hK H locs hP
    unfold f_X3_howManyWear at h
    refine lv_iconst (v := 0) hx hb_ dX3_howManyWear_0 (by decide) ?_
    refine lv_istore (lv' := [(4, .int 0), (0, .ref (ad 39)), (1, .ref (ad 12)), (2, .int v2), (3, .int v3)]) hx hb_ dX3_howManyWear_1 hl (by decide) rfl (fun ls hl => ?_)
    refine lv_iconst (v := 0) hx hb_ dX3_howManyWear_3 (by decide) ?_
    refine lv_istore (lv' := [(5, .int 0), (4, .int 0), (0, .ref (ad 39)), (1, .ref (ad 12)), (2, .int v2), (3, .int v3)]) hx hb_ dX3_howManyWear_4 hl (by decide) rfl (fun ls hl => ?_)
    exact bk_6 0 0 y h hK _ _ _ hP (lv_sub hl [2, 3, 4, 5, 1, 0] rfl)
  exact bk r0 hf rfl _ _ hP
theorem hd_X4_isFigure : yX4_isFigure.cls = RX4 ∧ yX4_isFigure.cls ≠ "java/lang/invoke/MethodHandle" ∧ yX4_isFigure.cls ≠ "java/lang/invoke/VarHandle" ∧ (parseMethodDescriptor yX4_isFigure.desc).map (fun d => d.parameters.length) = some 1 := by decide +kernel
set_option maxHeartbeats 4000000 in
set_option maxRecDepth 100000 in
theorem c_X4_isFigure (l : Launch) (D : va_G) (aI aL : ClassId) (ad : Nat → Nat) (inj : Inj ad 42) (sz : Nat) (σ : Sg) (v0 : Int32) (r0 : Int32) (hf : f_X4_isFigure v0 = some r0) : Met l yX4_isFigure (wS yX4_isFigure cX4_isFigure 1 (some .boolean)) (RM 0 0) (Pw D aI aL 42 shX ad sz σ [.int v0]) (Qi D aI aL 42 shX ad r0 σ sz) 0 0 (AA ad 42 sz) := by
  refine Mof (Qc := Qi D aI aL 42 shX ad r0 σ) (by decide) inj (Nat.le_of_ble_eq_true rfl) ?_
  intro p e s m args below meth c ls C hlk hr hP hl
  have hx := C.1.1
  have hb_ := C.1.2.1
  have hown := C.1.2.2.2.1
  have hts := C.1.2.2.2.2
  have hl : lv_has ls 1 [(0, .int v0)] := hl
  have bk_17 : ∀ (t0_17 : Int32) (y : Int32), f_X4_isFigure_17 t0_17 = some y → (fun y => y = r0) y → ∀ (H : Heap) (locs : List Loc) (ls : Array Slot), HS D aI aL 42 shX ad σ s H locs → lv_has ls 1 [] → W p l e (RM 0 0) s m args below meth c H locs 0 0 (MQ below (Qi D aI aL 42 shX ad r0 σ s.heap.size) args s 0 0 (AA ad 42 s.heap.size)) (F0 m 17 ls [.int t0_17]) := by
    intro t0_17 y h hK H locs ls hP hl
    unfold f_X4_isFigure_17 at h
    obtain ⟨x1, hx1, h⟩ := bnd h
    obtain rfl := Option.some.inj h
    have hK : (x1 : Int32) = r0 := hK
    exact w_zret C hlk hr hP hx1 hK rfl dX4_isFigure_17
  have bk_16 : ∀ (y : Int32), f_X4_isFigure_16  = some y → (fun y => y = r0) y → ∀ (H : Heap) (locs : List Loc) (ls : Array Slot), HS D aI aL 42 shX ad σ s H locs → lv_has ls 1 [] → W p l e (RM 0 0) s m args below meth c H locs 0 0 (MQ below (Qi D aI aL 42 shX ad r0 σ s.heap.size) args s 0 0 (AA ad 42 s.heap.size)) (F0 m 16 ls []) := by
    intro y h hK H locs ls hP hl
    unfold f_X4_isFigure_16 at h
    refine lv_iconst (v := 0) hx hb_ dX4_isFigure_16 (by decide) ?_
    exact bk_17 0 y h hK _ _ _ hP (lv_sub hl [] rfl)
  have bk : ∀ (y : Int32), f_X4_isFigure v0 = some y → y = r0 → ∀ (H : Heap) (locs : List Loc), HS D aI aL 42 shX ad σ s H locs → W p l e (RM 0 0) s m args below meth c H locs 0 0 (MQ below (Qi D aI aL 42 shX ad r0 σ s.heap.size) args s 0 0 (AA ad 42 s.heap.size)) (F0 m 0 ls []) := by
    intro y h hK H locs hP
    unfold f_X4_isFigure at h
    refine lv_iload_n hx hb_ dX4_isFigure_0 rfl (lv_at hl 0 rfl) ?_
    refine lv_bipush (v := 48) hx hb_ dX4_isFigure_1 (by decide) ?_
    refine lv_icmp_lt (tgt := 16) hx hb_ dX4_isFigure_3 (by decide) (fun hc => ?_) (fun hc => ?_)
    · replace h := ift h hc
      exact bk_16 y h hK _ _ _ hP (lv_sub hl [] rfl)
    · replace h := iff' h hc
      refine lv_iload_n hx hb_ dX4_isFigure_6 rfl (lv_at hl 0 rfl) ?_
      refine lv_bipush (v := 57) hx hb_ dX4_isFigure_7 (by decide) ?_
      refine lv_icmp_gt (tgt := 16) hx hb_ dX4_isFigure_9 (by decide) (fun hc => ?_) (fun hc => ?_)
      · replace h := ift h hc
        exact bk_16 y h hK _ _ _ hP (lv_sub hl [] rfl)
      · replace h := iff' h hc
        refine lv_iconst (v := 1) hx hb_ dX4_isFigure_12 (by decide) ?_
        refine lv_goto (tgt := 17) hx hb_ dX4_isFigure_13 (by decide) ?_
        exact bk_17 1 y h hK _ _ _ hP (lv_sub hl [] rfl)
  exact bk r0 hf rfl _ _ hP
theorem hd_X6_byteAt : yX6_byteAt.cls = RX6 ∧ yX6_byteAt.cls ≠ "java/lang/invoke/MethodHandle" ∧ yX6_byteAt.cls ≠ "java/lang/invoke/VarHandle" ∧ (parseMethodDescriptor yX6_byteAt.desc).map (fun d => d.parameters.length) = some 1 := by decide +kernel
set_option maxHeartbeats 4000000 in
set_option maxRecDepth 100000 in
theorem c_X6_byteAt (l : Launch) (D : va_G) (aI aL : ClassId) (ad : Nat → Nat) (inj : Inj ad 42) (sz : Nat) (σ : Sg) (v1 : Int32) (r0 : Int32) (hf : f_X6_byteAt v1 σ = some r0) : Met l yX6_byteAt (wS yX6_byteAt cX6_byteAt 2 (some .int)) (RM 1 21) (Pw D aI aL 42 shX ad sz σ [.ref (ad 1), .int v1]) (Qi D aI aL 42 shX ad r0 σ sz) 0 0 (AA ad 42 sz) := by
  refine Mof (Qc := Qi D aI aL 42 shX ad r0 σ) (by decide) inj (Nat.le_of_ble_eq_true rfl) ?_
  intro p e s m args below meth c ls C hlk hr hP hl
  have hx := C.1.1
  have hb_ := C.1.2.1
  have hown := C.1.2.2.2.1
  have hts := C.1.2.2.2.2
  have hl : lv_has ls 2 [(0, .ref (ad 1)), (1, .int v1)] := hl
  have bk_24 : ∀ (t0_24 : Int32) (y : Int32), f_X6_byteAt_24 t0_24 σ = some y → (fun y => y = r0) y → ∀ (H : Heap) (locs : List Loc) (ls : Array Slot), HS D aI aL 42 shX ad σ s H locs → lv_has ls 2 [] → W p l e (RM 1 21) s m args below meth c H locs 0 0 (MQ below (Qi D aI aL 42 shX ad r0 σ s.heap.size) args s 0 0 (AA ad 42 s.heap.size)) (F0 m 24 ls [.int t0_24]) := by
    intro t0_24 y h hK H locs ls hP hl
    unfold f_X6_byteAt_24 at h
    obtain rfl := Option.some.inj h
    have hK : (t0_24 : Int32) = r0 := hK
    exact w_iret C hlk hr hP hK rfl dX6_byteAt_24
  have bk_23 : ∀ (y : Int32), f_X6_byteAt_23 σ = some y → (fun y => y = r0) y → ∀ (H : Heap) (locs : List Loc) (ls : Array Slot), HS D aI aL 42 shX ad σ s H locs → lv_has ls 2 [] → W p l e (RM 1 21) s m args below meth c H locs 0 0 (MQ below (Qi D aI aL 42 shX ad r0 σ s.heap.size) args s 0 0 (AA ad 42 s.heap.size)) (F0 m 23 ls []) := by
    intro y h hK H locs ls hP hl
    unfold f_X6_byteAt_23 at h
    refine lv_iconst (v := (-1)) hx hb_ dX6_byteAt_23 (by decide) ?_
    exact bk_24 (-1) y h hK _ _ _ hP (lv_sub hl [] rfl)
  have bk : ∀ (y : Int32), f_X6_byteAt v1 σ = some y → y = r0 → ∀ (H : Heap) (locs : List Loc), HS D aI aL 42 shX ad σ s H locs → W p l e (RM 1 21) s m args below meth c H locs 0 0 (MQ below (Qi D aI aL 42 shX ad r0 σ s.heap.size) args s 0 0 (AA ad 42 s.heap.size)) (F0 m 0 ls []) := by
    intro y h hK H locs hP
    unfold f_X6_byteAt at h
    refine lv_iload_n hx hb_ dX6_byteAt_0 rfl (lv_at hl 1 rfl) ?_
    refine lv_if_lt (tgt := 23) hx hb_ dX6_byteAt_1 (by decide) (fun hc => ?_) (fun hc => ?_)
    · replace h := ift h hc
      exact bk_23 y h hK _ _ _ hP (lv_sub hl [] rfl)
    · replace h := iff' h hc
      refine lv_iload_n hx hb_ dX6_byteAt_4 rfl (lv_at hl 1 rfl) ?_
      refine lv_aload_n hx hb_ dX6_byteAt_5 rfl (lv_at hl 0 rfl) ?_
      refine w_get C hP (k := 1) (by decide) 4 rfl rfl inWX6 1 (by decide) wt31 (v := .int (σ.1 1 1)) rfl dX6_byteAt_6 ?_
      refine lv_icmp_ge (tgt := 23) hx hb_ dX6_byteAt_9 (by decide) (fun hc => ?_) (fun hc => ?_)
      · replace h := ift h hc
        exact bk_23 y h hK _ _ _ hP (lv_sub hl [] rfl)
      · replace h := iff' h hc
        refine lv_aload_n hx hb_ dX6_byteAt_12 rfl (lv_at hl 0 rfl) ?_
        refine w_get C hP (k := 1) (by decide) 4 rfl rfl inWX6 0 (by decide) wt30 (v := .ref (ad 2)) rfl dX6_byteAt_13 ?_
        refine lv_iload_n hx hb_ dX6_byteAt_16 rfl (lv_at hl 1 rfl) ?_
        obtain ⟨q1, hq1, h⟩ := bnd h
        refine w_ci (w_rN (As := [.ref (ad 2), .int v1]) (rest := []) C hP (c_X8_at l D aI aL ad inj _ σ 2 300 (by decide) rfl v1 q1 hq1) nw8 wt225 wt1 wt226 2 hd_X8_at ⟨Nat.le_of_ble_eq_true rfl, Nat.le_of_ble_eq_true rfl⟩ rfl hl.1 rfl (Nat.le_of_ble_eq_true rfl) dX6_byteAt_17) hP (fun H locs hP => ?_)
        refine lv_goto (tgt := 24) hx hb_ dX6_byteAt_20 (by decide) ?_
        exact bk_24 q1 y h hK _ _ _ hP (lv_sub hl [] rfl)
  exact bk r0 hf rfl _ _ hP
theorem hd_X4_figuresAt : yX4_figuresAt.cls = RX4 ∧ yX4_figuresAt.cls ≠ "java/lang/invoke/MethodHandle" ∧ yX4_figuresAt.cls ≠ "java/lang/invoke/VarHandle" ∧ (parseMethodDescriptor yX4_figuresAt.desc).map (fun d => d.parameters.length) = some 2 := by decide +kernel
set_option maxHeartbeats 4000000 in
set_option maxRecDepth 100000 in
theorem c_X4_figuresAt (l : Launch) (D : va_G) (aI aL : ClassId) (ad : Nat → Nat) (inj : Inj ad 42) (sz : Nat) (σ : Sg) (v1 : Int32) (r0 : Int32) (hf : f_X4_figuresAt v1 σ = some r0) : Met l yX4_figuresAt (wS yX4_figuresAt cX4_figuresAt 2 (some .int)) (RM 2 42) (Pw D aI aL 42 shX ad sz σ [.ref (ad 1), .int v1]) (Qi D aI aL 42 shX ad r0 σ sz) 0 0 (AA ad 42 sz) := by
  refine Mof (Qc := Qi D aI aL 42 shX ad r0 σ) (by decide) inj (Nat.le_of_ble_eq_true rfl) ?_
  intro p e s m args below meth c ls C hlk hr hP hl
  have hx := C.1.1
  have hb_ := C.1.2.1
  have hown := C.1.2.2.2.1
  have hts := C.1.2.2.2.2
  have hl : lv_has ls 2 [(0, .ref (ad 1)), (1, .int v1)] := hl
  have bk_31 : ∀ (t0_31 : Int32) (y : Int32), f_X4_figuresAt_31 t0_31 σ = some y → (fun y => y = r0) y → ∀ (H : Heap) (locs : List Loc) (ls : Array Slot), HS D aI aL 42 shX ad σ s H locs → lv_has ls 2 [] → W p l e (RM 2 42) s m args below meth c H locs 0 0 (MQ below (Qi D aI aL 42 shX ad r0 σ s.heap.size) args s 0 0 (AA ad 42 s.heap.size)) (F0 m 31 ls [.int t0_31]) := by
    intro t0_31 y h hK H locs ls hP hl
    unfold f_X4_figuresAt_31 at h
    obtain rfl := Option.some.inj h
    have hK : (t0_31 : Int32) = r0 := hK
    exact w_iret C hlk hr hP hK rfl dX4_figuresAt_31
  have bk : ∀ (y : Int32), f_X4_figuresAt v1 σ = some y → y = r0 → ∀ (H : Heap) (locs : List Loc), HS D aI aL 42 shX ad σ s H locs → W p l e (RM 2 42) s m args below meth c H locs 0 0 (MQ below (Qi D aI aL 42 shX ad r0 σ s.heap.size) args s 0 0 (AA ad 42 s.heap.size)) (F0 m 0 ls []) := by
    intro y h hK H locs hP
    unfold f_X4_figuresAt at h
    refine lv_aload_n hx hb_ dX4_figuresAt_0 rfl (lv_at hl 0 rfl) ?_
    refine lv_iload_n hx hb_ dX4_figuresAt_1 rfl (lv_at hl 1 rfl) ?_
    obtain ⟨q1, hq1, h⟩ := bnd h
    refine w_ci (w_rV (As := [.int v1]) (rest := []) C hP (k := 1) (c_X6_byteAt l D aI aL ad inj _ σ v1 q1 hq1) (gV wt220 wt221 wt222 wt2 wt223) 1 hd_X6_byteAt ⟨Nat.le_of_ble_eq_true rfl, Nat.le_of_ble_eq_true rfl⟩ (by decide) 4 rfl rfl rfl hl.1 rfl (Nat.le_of_ble_eq_true rfl) dX4_figuresAt_2) hP (fun H locs hP => ?_)
    obtain ⟨q2, hq2, h⟩ := bnd h
    refine w_ci (w_rS (As := [.int q1]) (rest := []) C hP (c_X4_isFigure l D aI aL ad inj _ σ q1 q2 hq2) wt233 wt234 wt3 wt235 1 hd_X4_isFigure ⟨Nat.le_of_ble_eq_true rfl, Nat.le_of_ble_eq_true rfl⟩ rfl hl.1 rfl (Nat.le_of_ble_eq_true rfl) dX4_figuresAt_5) hP (fun H locs hP => ?_)
    refine lv_if_ne (tgt := 13) hx hb_ dX4_figuresAt_8 (by decide) (fun hc => ?_) (fun hc => ?_)
    · replace h := iff' h hc
      refine lv_aload_n hx hb_ dX4_figuresAt_13 rfl (lv_at hl 0 rfl) ?_
      refine lv_iload_n hx hb_ dX4_figuresAt_14 rfl (lv_at hl 1 rfl) ?_
      refine lv_iconst (v := 1) hx hb_ dX4_figuresAt_15 (by decide) ?_
      refine lv_iadd hx hb_ dX4_figuresAt_16 ?_
      obtain ⟨q3, hq3, h⟩ := bnd h
      refine w_ci (w_rV (As := [.int (v1 + (1 : Int32))]) (rest := []) C hP (k := 1) (c_X6_byteAt l D aI aL ad inj _ σ (v1 + (1 : Int32)) q3 hq3) (gV wt220 wt221 wt222 wt2 wt223) 1 hd_X6_byteAt ⟨Nat.le_of_ble_eq_true rfl, Nat.le_of_ble_eq_true rfl⟩ (by decide) 4 rfl rfl rfl hl.1 rfl (Nat.le_of_ble_eq_true rfl) dX4_figuresAt_17) hP (fun H locs hP => ?_)
      obtain ⟨q4, hq4, h⟩ := bnd h
      refine w_ci (w_rS (As := [.int q3]) (rest := []) C hP (c_X4_isFigure l D aI aL ad inj _ σ q3 q4 hq4) wt233 wt234 wt3 wt235 1 hd_X4_isFigure ⟨Nat.le_of_ble_eq_true rfl, Nat.le_of_ble_eq_true rfl⟩ rfl hl.1 rfl (Nat.le_of_ble_eq_true rfl) dX4_figuresAt_20) hP (fun H locs hP => ?_)
      refine lv_if_eq (tgt := 30) hx hb_ dX4_figuresAt_23 (by decide) (fun hc => ?_) (fun hc => ?_)
      · replace h := ift h hc
        refine lv_iconst (v := 1) hx hb_ dX4_figuresAt_30 (by decide) ?_
        exact bk_31 1 y h hK _ _ _ hP (lv_sub hl [] rfl)
      · replace h := iff' h hc
        refine lv_iconst (v := 2) hx hb_ dX4_figuresAt_26 (by decide) ?_
        refine lv_goto (tgt := 31) hx hb_ dX4_figuresAt_27 (by decide) ?_
        exact bk_31 2 y h hK _ _ _ hP (lv_sub hl [] rfl)
    · replace h := ift h hc
      refine lv_iconst (v := 0) hx hb_ dX4_figuresAt_11 (by decide) ?_
      obtain rfl := Option.some.inj h
      have hK : (0 : Int32) = r0 := hK
      exact w_iret C hlk hr hP hK rfl dX4_figuresAt_12
  exact bk r0 hf rfl _ _ hP
theorem hd_X4_numberAt : yX4_numberAt.cls = RX4 ∧ yX4_numberAt.cls ≠ "java/lang/invoke/MethodHandle" ∧ yX4_numberAt.cls ≠ "java/lang/invoke/VarHandle" ∧ (parseMethodDescriptor yX4_numberAt.desc).map (fun d => d.parameters.length) = some 3 := by decide +kernel
set_option maxHeartbeats 4000000 in
set_option maxRecDepth 100000 in
theorem c_X4_numberAt (l : Launch) (D : va_G) (aI aL : ClassId) (ad : Nat → Nat) (inj : Inj ad 42) (sz : Nat) (σ : Sg) (v1 : Int32) (v2 : Int32) (r0 : Int32) (hf : f_X4_numberAt v1 v2 σ = some r0) : Met l yX4_numberAt (wS yX4_numberAt cX4_numberAt 5 (some .int)) (RM 2 42) (Pw D aI aL 42 shX ad sz σ [.ref (ad 1), .int v1, .int v2]) (Qi D aI aL 42 shX ad r0 σ sz) 0 0 (AA ad 42 sz) := by
  refine Mof (Qc := Qi D aI aL 42 shX ad r0 σ) (by decide) inj (Nat.le_of_ble_eq_true rfl) ?_
  intro p e s m args below meth c ls C hlk hr hP hl
  have hx := C.1.1
  have hb_ := C.1.2.1
  have hown := C.1.2.2.2.1
  have hts := C.1.2.2.2.2
  have hl : lv_has ls 5 [(0, .ref (ad 1)), (1, .int v1), (2, .int v2)] := hl
  have lp_5 : ∀ (n_5 : Nat) (v3_5 : Int32) (v4_5 : Int32) (y : Int32), itr n_5 (fun s => f_X4_numberAt_5s v1 v2 s.1 s.2 σ) (v3_5, v4_5) = some y → (fun y => y = r0) y → ∀ (H : Heap) (locs : List Loc) (ls : Array Slot), HS D aI aL 42 shX ad σ s H locs → lv_has ls 5 [(0, .ref (ad 1)), (1, .int v1), (2, .int v2), (3, .int v3_5), (4, .int v4_5)] → W p l e (RM 2 42) s m args below meth c H locs 0 0 (MQ below (Qi D aI aL 42 shX ad r0 σ s.heap.size) args s 0 0 (AA ad 42 s.heap.size)) (F0 m 5 ls []) := by
    intro n_5
    induction n_5 with
    | zero =>
      intro v3_5 v4_5 y h hK
      cases (show (none : Option Int32) = some y from h)
    | succ n_5 ih_5 =>
      intro v3_5 v4_5 y h hK H locs ls hP hl
      obtain ⟨y, h, hK⟩ := itr_inv (K := (fun y => y = r0)) h hK
      replace h : f_X4_numberAt_5s v1 v2 v3_5 v4_5 σ = some y := h
      unfold f_X4_numberAt_5s at h
      refine lv_iload hx hb_ dX4_numberAt_5 (lv_at hl 4 rfl) ?_
      refine lv_iload_n hx hb_ dX4_numberAt_7 rfl (lv_at hl 2 rfl) ?_
      refine lv_icmp_ge (tgt := 34) hx hb_ dX4_numberAt_8 (by decide) (fun hc => ?_) (fun hc => ?_)
      · replace h := ift h hc
        refine lv_iload_n hx hb_ dX4_numberAt_34 rfl (lv_at hl 3 rfl) ?_
        obtain rfl := Option.some.inj h
        have hK : (v3_5 : Int32) = r0 := hK
        exact w_iret C hlk hr hP hK rfl dX4_numberAt_35
      · replace h := iff' h hc
        refine lv_bipush (v := 10) hx hb_ dX4_numberAt_11 (by decide) ?_
        refine lv_iload_n hx hb_ dX4_numberAt_13 rfl (lv_at hl 3 rfl) ?_
        refine lv_imul hx hb_ dX4_numberAt_14 ?_
        refine lv_aload_n hx hb_ dX4_numberAt_15 rfl (lv_at hl 0 rfl) ?_
        refine lv_iload_n hx hb_ dX4_numberAt_16 rfl (lv_at hl 1 rfl) ?_
        refine lv_iload hx hb_ dX4_numberAt_17 (lv_at hl 4 rfl) ?_
        refine lv_iadd hx hb_ dX4_numberAt_19 ?_
        obtain ⟨q1, hq1, h⟩ := bnd h
        refine w_ci (w_rV (As := [.int (v1 + v4_5)]) (rest := [.int ((10 : Int32) * v3_5)]) C hP (k := 1) (c_X6_byteAt l D aI aL ad inj _ σ (v1 + v4_5) q1 hq1) (gV wt220 wt221 wt222 wt2 wt223) 1 hd_X6_byteAt ⟨Nat.le_of_ble_eq_true rfl, Nat.le_of_ble_eq_true rfl⟩ (by decide) 4 rfl rfl rfl hl.1 rfl (Nat.le_of_ble_eq_true rfl) dX4_numberAt_20) hP (fun H locs hP => ?_)
        refine lv_iadd hx hb_ dX4_numberAt_23 ?_
        refine lv_bipush (v := 48) hx hb_ dX4_numberAt_24 (by decide) ?_
        refine lv_isub hx hb_ dX4_numberAt_26 ?_
        obtain ⟨x2, hx2, h⟩ := nm_inv h
        refine w_ni hx2 ?_
        refine lv_istore_n (lv' := [(3, .int x2), (0, .ref (ad 1)), (1, .int v1), (2, .int v2), (4, .int v4_5)]) hx hb_ dX4_numberAt_27 rfl hl (by decide) rfl (fun ls hl => ?_)
        obtain ⟨x3, hx3, h⟩ := nm_inv h
        refine lv_iinc (v := x3) (lv' := [(4, .int x3), (3, .int x2), (0, .ref (ad 1)), (1, .int v1), (2, .int v2)]) hx hb_ dX4_numberAt_28 hl (k := 4) rfl (by rw [hx3]; rfl) (by decide) rfl (fun ls hl => ?_)
        refine lv_goto (tgt := 5) hx hb_ dX4_numberAt_31 (by decide) ?_
        obtain rfl := Option.some.inj h
        obtain ⟨y2, h, hK⟩ := hK
        exact ih_5 x2 x3 y2 h hK _ _ _ hP (lv_sub hl [2, 3, 4, 1, 0] rfl)
  have bk_5 : ∀ (v3_5 : Int32) (v4_5 : Int32) (y : Int32), f_X4_numberAt_5 v1 v2 v3_5 v4_5 σ = some y → (fun y => y = r0) y → ∀ (H : Heap) (locs : List Loc) (ls : Array Slot), HS D aI aL 42 shX ad σ s H locs → lv_has ls 5 [(0, .ref (ad 1)), (1, .int v1), (2, .int v2), (3, .int v3_5), (4, .int v4_5)] → W p l e (RM 2 42) s m args below meth c H locs 0 0 (MQ below (Qi D aI aL 42 shX ad r0 σ s.heap.size) args s 0 0 (AA ad 42 s.heap.size)) (F0 m 5 ls []) := fun v3_5 v4_5 y h hK => lp_5 3000 v3_5 v4_5 y h hK
  have bk : ∀ (y : Int32), f_X4_numberAt v1 v2 σ = some y → y = r0 → ∀ (H : Heap) (locs : List Loc), HS D aI aL 42 shX ad σ s H locs → W p l e (RM 2 42) s m args below meth c H locs 0 0 (MQ below (Qi D aI aL 42 shX ad r0 σ s.heap.size) args s 0 0 (AA ad 42 s.heap.size)) (F0 m 0 ls []) := by
    intro y h hK H locs hP
    unfold f_X4_numberAt at h
    refine lv_iconst (v := 0) hx hb_ dX4_numberAt_0 (by decide) ?_
    refine lv_istore_n (lv' := [(3, .int 0), (0, .ref (ad 1)), (1, .int v1), (2, .int v2)]) hx hb_ dX4_numberAt_1 rfl hl (by decide) rfl (fun ls hl => ?_)
    refine lv_iconst (v := 0) hx hb_ dX4_numberAt_2 (by decide) ?_
    refine lv_istore (lv' := [(4, .int 0), (3, .int 0), (0, .ref (ad 1)), (1, .int v1), (2, .int v2)]) hx hb_ dX4_numberAt_3 hl (by decide) rfl (fun ls hl => ?_)
    exact bk_5 0 0 y h hK _ _ _ hP (lv_sub hl [2, 3, 4, 1, 0] rfl)
  exact bk r0 hf rfl _ _ hP
theorem hd_X4_numbersOf : yX4_numbersOf.cls = RX4 ∧ yX4_numbersOf.cls ≠ "java/lang/invoke/MethodHandle" ∧ yX4_numbersOf.cls ≠ "java/lang/invoke/VarHandle" ∧ (parseMethodDescriptor yX4_numbersOf.desc).map (fun d => d.parameters.length) = some 1 := by decide +kernel
set_option maxHeartbeats 4000000 in
set_option maxRecDepth 100000 in
theorem c_X4_numbersOf (l : Launch) (D : va_G) (aI aL : ClassId) (ad : Nat → Nat) (inj : Inj ad 42) (sz : Nat) (σ : Sg) (v0 : Int32) (r0 : Int32) (hf : f_X4_numbersOf v0 = some r0) : Met l yX4_numbersOf (wS yX4_numbersOf cX4_numbersOf 1 (some .int)) (RM 0 0) (Pw D aI aL 42 shX ad sz σ [.int v0]) (Qi D aI aL 42 shX ad r0 σ sz) 0 0 (AA ad 42 sz) := by
  refine Mof (Qc := Qi D aI aL 42 shX ad r0 σ) (by decide) inj (Nat.le_of_ble_eq_true rfl) ?_
  intro p e s m args below meth c ls C hlk hr hP hl
  have hx := C.1.1
  have hb_ := C.1.2.1
  have hown := C.1.2.2.2.1
  have hts := C.1.2.2.2.2
  have hl : lv_has ls 1 [(0, .int v0)] := hl
  have bk_52 : ∀ (y : Int32), f_X4_numbersOf_52  = some y → (fun y => y = r0) y → ∀ (H : Heap) (locs : List Loc) (ls : Array Slot), HS D aI aL 42 shX ad σ s H locs → lv_has ls 1 [] → W p l e (RM 0 0) s m args below meth c H locs 0 0 (MQ below (Qi D aI aL 42 shX ad r0 σ s.heap.size) args s 0 0 (AA ad 42 s.heap.size)) (F0 m 52 ls []) := by
    intro y h hK H locs ls hP hl
    unfold f_X4_numbersOf_52 at h
    refine lv_iconst (v := 1) hx hb_ dX4_numbersOf_52 (by decide) ?_
    obtain rfl := Option.some.inj h
    have hK : (1 : Int32) = r0 := hK
    exact w_iret C hlk hr hP hK rfl dX4_numbersOf_53
  have bk_54 : ∀ (y : Int32), f_X4_numbersOf_54  = some y → (fun y => y = r0) y → ∀ (H : Heap) (locs : List Loc) (ls : Array Slot), HS D aI aL 42 shX ad σ s H locs → lv_has ls 1 [] → W p l e (RM 0 0) s m args below meth c H locs 0 0 (MQ below (Qi D aI aL 42 shX ad r0 σ s.heap.size) args s 0 0 (AA ad 42 s.heap.size)) (F0 m 54 ls []) := by
    intro y h hK H locs ls hP hl
    unfold f_X4_numbersOf_54 at h
    refine lv_iconst (v := 2) hx hb_ dX4_numbersOf_54 (by decide) ?_
    obtain rfl := Option.some.inj h
    have hK : (2 : Int32) = r0 := hK
    exact w_iret C hlk hr hP hK rfl dX4_numbersOf_55
  have bk : ∀ (y : Int32), f_X4_numbersOf v0 = some y → y = r0 → ∀ (H : Heap) (locs : List Loc), HS D aI aL 42 shX ad σ s H locs → W p l e (RM 0 0) s m args below meth c H locs 0 0 (MQ below (Qi D aI aL 42 shX ad r0 σ s.heap.size) args s 0 0 (AA ad 42 s.heap.size)) (F0 m 0 ls []) := by
    intro y h hK H locs hP
    unfold f_X4_numbersOf at h
    refine lv_iload_n hx hb_ dX4_numbersOf_0 rfl (lv_at hl 0 rfl) ?_
    by_cases hc97 : v0 = 97
    · replace h := ift h hc97
      refine lv_lookup (off := 51) (tgt := 52) hx hb_ dX4_numbersOf_1 (by decide +kernel) (by rw [hc97]; decide +kernel) (by decide) ?_
      exact bk_52 y h hK _ _ _ hP (lv_sub hl [] rfl)
    replace h := iff' h hc97
    by_cases hc110 : v0 = 110
    · replace h := ift h hc110
      refine lv_lookup (off := 51) (tgt := 52) hx hb_ dX4_numbersOf_1 (by decide +kernel) (by rw [hc110]; decide +kernel) (by decide) ?_
      exact bk_52 y h hK _ _ _ hP (lv_sub hl [] rfl)
    replace h := iff' h hc110
    by_cases hc116 : v0 = 116
    · replace h := ift h hc116
      refine lv_lookup (off := 55) (tgt := 56) hx hb_ dX4_numbersOf_1 (by decide +kernel) (by rw [hc116]; decide +kernel) (by decide) ?_
      refine lv_iconst (v := 3) hx hb_ dX4_numbersOf_56 (by decide) ?_
      obtain rfl := Option.some.inj h
      have hK : (3 : Int32) = r0 := hK
      exact w_iret C hlk hr hP hK rfl dX4_numbersOf_57
    replace h := iff' h hc116
    by_cases hc119 : v0 = 119
    · replace h := ift h hc119
      refine lv_lookup (off := 53) (tgt := 54) hx hb_ dX4_numbersOf_1 (by decide +kernel) (by rw [hc119]; decide +kernel) (by decide) ?_
      exact bk_54 y h hK _ _ _ hP (lv_sub hl [] rfl)
    replace h := iff' h hc119
    by_cases hc120 : v0 = 120
    · replace h := ift h hc120
      refine lv_lookup (off := 53) (tgt := 54) hx hb_ dX4_numbersOf_1 (by decide +kernel) (by rw [hc120]; decide +kernel) (by decide) ?_
      exact bk_54 y h hK _ _ _ hP (lv_sub hl [] rfl)
    replace h := iff' h hc120
    refine lv_lookup (off := 57) (tgt := 58) hx hb_ dX4_numbersOf_1 (by decide +kernel) ((by rw [lv_osw hc97 (by decide +kernel), lv_osw hc110 (by decide +kernel), lv_osw hc116 (by decide +kernel), lv_osw hc119 (by decide +kernel), lv_osw hc120 (by decide +kernel)]; rfl)) (by decide) ?_
    refine lv_iconst (v := 0) hx hb_ dX4_numbersOf_58 (by decide) ?_
    obtain rfl := Option.some.inj h
    have hK : (0 : Int32) = r0 := hK
    exact w_iret C hlk hr hP hK rfl dX4_numbersOf_59
  exact bk r0 hf rfl _ _ hP
theorem hd_X4_itemsEnd : yX4_itemsEnd.cls = RX4 ∧ yX4_itemsEnd.cls ≠ "java/lang/invoke/MethodHandle" ∧ yX4_itemsEnd.cls ≠ "java/lang/invoke/VarHandle" ∧ (parseMethodDescriptor yX4_itemsEnd.desc).map (fun d => d.parameters.length) = some 2 := by decide +kernel
set_option maxHeartbeats 4000000 in
set_option maxRecDepth 100000 in
theorem c_X4_itemsEnd (l : Launch) (D : va_G) (aI aL : ClassId) (ad : Nat → Nat) (inj : Inj ad 42) (sz : Nat) (σ : Sg) (v2 : Int32) (r0 : (Int32 × Sg)) (hf : f_X4_itemsEnd v2 σ = some r0) : Met l yX4_itemsEnd (wS yX4_itemsEnd cX4_itemsEnd 8 (some .int)) (RM 3 66) (Pw D aI aL 42 shX ad sz σ [.ref (ad 3), .ref (ad 1), .int v2]) (Qi D aI aL 42 shX ad r0.1 r0.2 sz) 0 0 (AA ad 42 sz) := by
  refine Mof (Qc := Qi D aI aL 42 shX ad r0.1 r0.2) (by decide) inj (Nat.le_of_ble_eq_true rfl) ?_
  intro p e s m args below meth c ls C hlk hr hP hl
  have hx := C.1.1
  have hb_ := C.1.2.1
  have hown := C.1.2.2.2.1
  have hts := C.1.2.2.2.2
  have hl : lv_has ls 8 [(0, .ref (ad 3)), (1, .ref (ad 1)), (2, .int v2)] := hl
  have lp_23 : ∀ (v3_23 : Int32) (n_23 : Nat) (v4_23 : Int32) (v5_23 : Int32) (s_23 : Sg) (y : (Int32 × Sg)), itr n_23 (fun s => f_X4_itemsEnd_23s v3_23 s.1 s.2.1 s.2.2) (v4_23, v5_23, s_23) = some y → (fun y => y = r0) y → ∀ (H : Heap) (locs : List Loc) (ls : Array Slot), HS D aI aL 42 shX ad s_23 s H locs → lv_has ls 8 [(0, .ref (ad 3)), (1, .ref (ad 1)), (3, .int v3_23), (4, .int v4_23), (5, .int v5_23)] → W p l e (RM 3 66) s m args below meth c H locs 0 0 (MQ below (Qi D aI aL 42 shX ad r0.1 r0.2 s.heap.size) args s 0 0 (AA ad 42 s.heap.size)) (F0 m 23 ls []) := by
    intro v3_23 n_23
    induction n_23 with
    | zero =>
      intro v4_23 v5_23 s_23 y h hK
      cases (show (none : Option (Int32 × Sg)) = some y from h)
    | succ n_23 ih_23 =>
      have bk_76 : ∀ (v4_76 : Int32) (v5_76 : Int32) (v6_76 : Int32) (t0_76 : Int32) (s_76 : Sg) (y : ((Int32 × Int32 × Sg) ⊕ (Int32 × Sg))), f_X4_itemsEnd_76 v3_23 v4_76 v5_76 v6_76 t0_76 s_76 = some y → (KK n_23 (fun s => f_X4_itemsEnd_23s v3_23 s.1 s.2.1 s.2.2) (fun y => y = r0)) y → ∀ (H : Heap) (locs : List Loc) (ls : Array Slot), HS D aI aL 42 shX ad s_76 s H locs → lv_has ls 8 [(0, .ref (ad 3)), (1, .ref (ad 1)), (3, .int v3_23), (4, .int v4_76), (5, .int v5_76), (6, .int v6_76)] → W p l e (RM 3 66) s m args below meth c H locs 0 0 (MQ below (Qi D aI aL 42 shX ad r0.1 r0.2 s.heap.size) args s 0 0 (AA ad 42 s.heap.size)) (F0 m 76 ls [.int t0_76]) := by
        intro v4_76 v5_76 v6_76 t0_76 s_76 y h hK H locs ls hP hl
        unfold f_X4_itemsEnd_76 at h
        refine lv_istore (lv' := [(7, .int t0_76), (0, .ref (ad 3)), (1, .ref (ad 1)), (3, .int v3_23), (4, .int v4_76), (5, .int v5_76), (6, .int v6_76)]) hx hb_ dX4_itemsEnd_76 hl (by decide) rfl (fun ls hl => ?_)
        refine lv_aload_n hx hb_ dX4_itemsEnd_78 rfl (lv_at hl 2 rfl) ?_
        refine lv_iload hx hb_ dX4_itemsEnd_79 (lv_at hl 4 rfl) ?_
        refine lv_iload hx hb_ dX4_itemsEnd_81 (lv_at hl 6 rfl) ?_
        refine lv_iadd hx hb_ dX4_itemsEnd_83 ?_
        obtain ⟨q7, hq7, h⟩ := bnd h
        refine w_ci (w_rV (As := [.int (v4_76 + v6_76)]) (rest := []) C hP (k := 1) (c_X6_byteAt l D aI aL ad inj _ s_76 (v4_76 + v6_76) q7 hq7) (gV wt220 wt221 wt222 wt2 wt223) 1 hd_X6_byteAt ⟨Nat.le_of_ble_eq_true rfl, Nat.le_of_ble_eq_true rfl⟩ (by decide) 4 rfl rfl rfl hl.1 rfl (Nat.le_of_ble_eq_true rfl) dX4_itemsEnd_84) hP (fun H locs hP => ?_)
        refine lv_iload hx hb_ dX4_itemsEnd_87 (lv_at hl 0 rfl) ?_
        refine lv_icmp_eq (tgt := 94) hx hb_ dX4_itemsEnd_89 (by decide) (fun hc => ?_) (fun hc => ?_)
        · replace h := ift h hc
          refine lv_iload hx hb_ dX4_itemsEnd_94 (lv_at hl 4 rfl) ?_
          refine lv_iload hx hb_ dX4_itemsEnd_96 (lv_at hl 6 rfl) ?_
          refine lv_iconst (v := 1) hx hb_ dX4_itemsEnd_98 (by decide) ?_
          refine lv_iadd hx hb_ dX4_itemsEnd_99 ?_
          refine lv_iadd hx hb_ dX4_itemsEnd_100 ?_
          obtain ⟨x8, hx8, h⟩ := nm_inv h
          refine w_ni hx8 ?_
          refine lv_istore (lv' := [(4, .int x8), (7, .int t0_76), (0, .ref (ad 3)), (1, .ref (ad 1)), (3, .int v3_23), (5, .int v5_76), (6, .int v6_76)]) hx hb_ dX4_itemsEnd_101 hl (by decide) rfl (fun ls hl => ?_)
          obtain ⟨x9, hx9, h⟩ := nm_inv h
          refine lv_iinc (v := x9) (lv' := [(5, .int x9), (4, .int x8), (7, .int t0_76), (0, .ref (ad 3)), (1, .ref (ad 1)), (3, .int v3_23), (6, .int v6_76)]) hx hb_ dX4_itemsEnd_103 hl (k := 5) rfl (by rw [hx9]; rfl) (by decide) rfl (fun ls hl => ?_)
          refine lv_goto (tgt := 23) hx hb_ dX4_itemsEnd_106 (by decide) ?_
          obtain rfl := Option.some.inj h
          obtain ⟨y2, h, hK⟩ := hK
          exact ih_23 x8 x9 s_76 y2 h hK _ _ _ hP (lv_sub hl [3, 4, 5, 1, 0] rfl)
        · replace h := iff' h hc
          refine lv_iconst (v := (-1)) hx hb_ dX4_itemsEnd_92 (by decide) ?_
          obtain rfl := Option.some.inj h
          have hK : ((-1), s_76) = r0 := hK
          have hK1 := congrArg Prod.fst hK
          have hK2 := congrArg Prod.snd hK
          exact w_iret C hlk hr hP hK1 hK2 dX4_itemsEnd_93
      intro v4_23 v5_23 s_23 y h hK H locs ls hP hl
      obtain ⟨y, h, hK⟩ := itr_inv (K := (fun y => y = r0)) h hK
      replace h : f_X4_itemsEnd_23s v3_23 v4_23 v5_23 s_23 = some y := h
      unfold f_X4_itemsEnd_23s at h
      refine lv_iload hx hb_ dX4_itemsEnd_23 (lv_at hl 4 rfl) ?_
      refine lv_iload_n hx hb_ dX4_itemsEnd_25 rfl (lv_at hl 2 rfl) ?_
      refine lv_icmp_ge (tgt := 109) hx hb_ dX4_itemsEnd_26 (by decide) (fun hc => ?_) (fun hc => ?_)
      · replace h := ift h hc
        refine lv_iload hx hb_ dX4_itemsEnd_109 (lv_at hl 3 rfl) ?_
        obtain rfl := Option.some.inj h
        have hK : (v4_23, s_23) = r0 := hK
        have hK1 := congrArg Prod.fst hK
        have hK2 := congrArg Prod.snd hK
        exact w_iret C hlk hr hP hK1 hK2 dX4_itemsEnd_111
      · replace h := iff' h hc
        refine lv_aload_n hx hb_ dX4_itemsEnd_29 rfl (lv_at hl 1 rfl) ?_
        refine lv_iload hx hb_ dX4_itemsEnd_30 (lv_at hl 3 rfl) ?_
        obtain ⟨q4, hq4, h⟩ := bnd h
        refine w_ci (w_rS (As := [.ref (ad 1), .int v4_23]) (rest := []) C hP (c_X4_figuresAt l D aI aL ad inj _ s_23 v4_23 q4 hq4) wt230 wt231 wt3 wt232 2 hd_X4_figuresAt ⟨Nat.le_of_ble_eq_true rfl, Nat.le_of_ble_eq_true rfl⟩ rfl hl.1 rfl (Nat.le_of_ble_eq_true rfl) dX4_itemsEnd_32) hP (fun H locs hP => ?_)
        refine lv_istore (lv' := [(6, .int q4), (0, .ref (ad 3)), (1, .ref (ad 1)), (3, .int v3_23), (4, .int v4_23), (5, .int v5_23)]) hx hb_ dX4_itemsEnd_35 hl (by decide) rfl (fun ls hl => ?_)
        refine lv_iload hx hb_ dX4_itemsEnd_37 (lv_at hl 0 rfl) ?_
        refine lv_if_ne (tgt := 44) hx hb_ dX4_itemsEnd_39 (by decide) (fun hc => ?_) (fun hc => ?_)
        · replace h := iff' h hc
          refine lv_aload_n hx hb_ dX4_itemsEnd_44 rfl (lv_at hl 1 rfl) ?_
          refine w_get C hP (k := 3) (by decide) 3 rfl rfl inWX4 0 (by decide) wt44 (v := .ref (ad 4)) rfl dX4_itemsEnd_45 ?_
          refine lv_iload hx hb_ dX4_itemsEnd_48 (lv_at hl 5 rfl) ?_
          refine lv_aload_n hx hb_ dX4_itemsEnd_50 rfl (lv_at hl 2 rfl) ?_
          refine lv_iload hx hb_ dX4_itemsEnd_51 (lv_at hl 4 rfl) ?_
          refine lv_iload hx hb_ dX4_itemsEnd_53 (lv_at hl 0 rfl) ?_
          obtain ⟨q5, hq5, h⟩ := bnd h
          refine w_ci (w_rS (As := [.ref (ad 1), .int v4_23, .int q4]) (rest := [.int v5_23, .ref (ad 4)]) C hP (c_X4_numberAt l D aI aL ad inj _ s_23 v4_23 q4 q5 hq5) wt236 wt237 wt3 wt238 3 hd_X4_numberAt ⟨Nat.le_of_ble_eq_true rfl, Nat.le_of_ble_eq_true rfl⟩ rfl hl.1 rfl (Nat.le_of_ble_eq_true rfl) dX4_itemsEnd_55) hP (fun H locs hP => ?_)
          obtain ⟨q6, hq6, h⟩ := bnd h
          refine w_cv (w_rN (As := [.ref (ad 4), .int v5_23, .int q5]) (rest := []) C hP (c_X8_put l D aI aL ad inj _ s_23 4 3 (by decide) rfl v5_23 q5 q6 hq6) nw9 wt191 wt1 wt192 3 hd_X8_put ⟨Nat.le_of_ble_eq_true rfl, Nat.le_of_ble_eq_true rfl⟩ rfl hl.1 rfl (Nat.le_of_ble_eq_true rfl) dX4_itemsEnd_58) hP (fun H locs hP => ?_)
          refine lv_iload hx hb_ dX4_itemsEnd_61 (lv_at hl 5 rfl) ?_
          refine lv_iload_n hx hb_ dX4_itemsEnd_63 rfl (lv_at hl 3 rfl) ?_
          refine lv_iconst (v := 1) hx hb_ dX4_itemsEnd_64 (by decide) ?_
          refine lv_isub hx hb_ dX4_itemsEnd_65 ?_
          refine lv_icmp_ne (tgt := 74) hx hb_ dX4_itemsEnd_66 (by decide) (fun hc => ?_) (fun hc => ?_)
          · replace h := iff' h hc
            refine lv_bipush (v := 44) hx hb_ dX4_itemsEnd_74 (by decide) ?_
            exact bk_76 v4_23 v5_23 q4 44 q6 y h hK _ _ _ hP (lv_sub hl [1, 2, 3, 4, 5, 0] rfl)
          · replace h := ift h hc
            refine lv_bipush (v := 59) hx hb_ dX4_itemsEnd_69 (by decide) ?_
            refine lv_goto (tgt := 76) hx hb_ dX4_itemsEnd_71 (by decide) ?_
            exact bk_76 v4_23 v5_23 q4 59 q6 y h hK _ _ _ hP (lv_sub hl [1, 2, 3, 4, 5, 0] rfl)
        · replace h := ift h hc
          refine lv_iconst (v := (-1)) hx hb_ dX4_itemsEnd_42 (by decide) ?_
          obtain rfl := Option.some.inj h
          have hK : ((-1), s_23) = r0 := hK
          have hK1 := congrArg Prod.fst hK
          have hK2 := congrArg Prod.snd hK
          exact w_iret C hlk hr hP hK1 hK2 dX4_itemsEnd_43
  have bk_23 : ∀ (v3_23 : Int32) (v4_23 : Int32) (v5_23 : Int32) (s_23 : Sg) (y : (Int32 × Sg)), f_X4_itemsEnd_23 v3_23 v4_23 v5_23 s_23 = some y → (fun y => y = r0) y → ∀ (H : Heap) (locs : List Loc) (ls : Array Slot), HS D aI aL 42 shX ad s_23 s H locs → lv_has ls 8 [(0, .ref (ad 3)), (1, .ref (ad 1)), (3, .int v3_23), (4, .int v4_23), (5, .int v5_23)] → W p l e (RM 3 66) s m args below meth c H locs 0 0 (MQ below (Qi D aI aL 42 shX ad r0.1 r0.2 s.heap.size) args s 0 0 (AA ad 42 s.heap.size)) (F0 m 23 ls []) := fun v3_23 v4_23 v5_23 s_23 y h hK => lp_23 v3_23 3000 v4_23 v5_23 s_23 y h hK
  have bk : ∀ (y : (Int32 × Sg)), f_X4_itemsEnd v2 σ = some y → y = r0 → ∀ (H : Heap) (locs : List Loc), HS D aI aL 42 shX ad σ s H locs → W p l e (RM 3 66) s m args below meth c H locs 0 0 (MQ below (Qi D aI aL 42 shX ad r0.1 r0.2 s.heap.size) args s 0 0 (AA ad 42 s.heap.size)) (F0 m 0 ls []) := by
    intro y h hK H locs hP
    unfold f_X4_itemsEnd at h
    refine lv_aload_n hx hb_ dX4_itemsEnd_0 rfl (lv_at hl 1 rfl) ?_
    refine lv_iload_n hx hb_ dX4_itemsEnd_1 rfl (lv_at hl 2 rfl) ?_
    obtain ⟨q1, hq1, h⟩ := bnd h
    refine w_ci (w_rV (As := [.int v2]) (rest := []) C hP (k := 1) (c_X6_byteAt l D aI aL ad inj _ σ v2 q1 hq1) (gV wt220 wt221 wt222 wt2 wt223) 1 hd_X6_byteAt ⟨Nat.le_of_ble_eq_true rfl, Nat.le_of_ble_eq_true rfl⟩ (by decide) 4 rfl rfl rfl hl.1 rfl (Nat.le_of_ble_eq_true rfl) dX4_itemsEnd_2) hP (fun H locs hP => ?_)
    obtain ⟨q2, hq2, h⟩ := bnd h
    refine w_ci (w_rS (As := [.int q1]) (rest := []) C hP (c_X4_numbersOf l D aI aL ad inj _ σ q1 q2 hq2) wt227 wt228 wt3 wt229 1 hd_X4_numbersOf ⟨Nat.le_of_ble_eq_true rfl, Nat.le_of_ble_eq_true rfl⟩ rfl hl.1 rfl (Nat.le_of_ble_eq_true rfl) dX4_itemsEnd_5) hP (fun H locs hP => ?_)
    refine lv_istore_n (lv' := [(3, .int q2), (0, .ref (ad 3)), (1, .ref (ad 1)), (2, .int v2)]) hx hb_ dX4_itemsEnd_8 rfl hl (by decide) rfl (fun ls hl => ?_)
    refine lv_iload_n hx hb_ dX4_itemsEnd_9 rfl (lv_at hl 0 rfl) ?_
    refine lv_if_ne (tgt := 15) hx hb_ dX4_itemsEnd_10 (by decide) (fun hc => ?_) (fun hc => ?_)
    · replace h := iff' h hc
      refine lv_iload_n hx hb_ dX4_itemsEnd_15 rfl (lv_at hl 3 rfl) ?_
      refine lv_iconst (v := 1) hx hb_ dX4_itemsEnd_16 (by decide) ?_
      refine lv_iadd hx hb_ dX4_itemsEnd_17 ?_
      obtain ⟨x3, hx3, h⟩ := nm_inv h
      refine w_ni hx3 ?_
      refine lv_istore (lv' := [(4, .int x3), (3, .int q2), (0, .ref (ad 3)), (1, .ref (ad 1)), (2, .int v2)]) hx hb_ dX4_itemsEnd_18 hl (by decide) rfl (fun ls hl => ?_)
      refine lv_iconst (v := 0) hx hb_ dX4_itemsEnd_20 (by decide) ?_
      refine lv_istore (lv' := [(5, .int 0), (4, .int x3), (3, .int q2), (0, .ref (ad 3)), (1, .ref (ad 1)), (2, .int v2)]) hx hb_ dX4_itemsEnd_21 hl (by decide) rfl (fun ls hl => ?_)
      exact bk_23 q2 x3 0 σ y h hK _ _ _ hP (lv_sub hl [3, 4, 2, 1, 0] rfl)
    · replace h := ift h hc
      refine lv_iconst (v := (-1)) hx hb_ dX4_itemsEnd_13 (by decide) ?_
      obtain rfl := Option.some.inj h
      have hK : ((-1), σ) = r0 := hK
      have hK1 := congrArg Prod.fst hK
      have hK2 := congrArg Prod.snd hK
      exact w_iret C hlk hr hP hK1 hK2 dX4_itemsEnd_14
  exact bk r0 hf rfl _ _ hP
theorem hd_X4_takeItem : yX4_takeItem.cls = RX4 ∧ yX4_takeItem.cls ≠ "java/lang/invoke/MethodHandle" ∧ yX4_takeItem.cls ≠ "java/lang/invoke/VarHandle" ∧ (parseMethodDescriptor yX4_takeItem.desc).map (fun d => d.parameters.length) = some 2 := by decide +kernel
set_option maxHeartbeats 4000000 in
set_option maxRecDepth 100000 in
theorem c_X4_takeItem (l : Launch) (D : va_G) (aI aL : ClassId) (ad : Nat → Nat) (inj : Inj ad 42) (sz : Nat) (σ : Sg) (b : Nat) (hb : isFl b) (v2 : Int32) (r0 : (Int32 × Sg)) (hf : f_X4_takeItem b v2 σ = some r0) : Met l yX4_takeItem (wS yX4_takeItem cX4_takeItem 5 (some .boolean)) (RM 3 67) (Pw D aI aL 42 shX ad sz σ [.ref (ad 3), .ref (ad b), .int v2]) (Qi D aI aL 42 shX ad r0.1 r0.2 sz) 0 0 (AA ad 42 sz) := by
  refine Mof (Qc := Qi D aI aL 42 shX ad r0.1 r0.2) (by decide) inj (Nat.le_of_ble_eq_true rfl) ?_
  intro p e s m args below meth c ls C hlk hr hP hl
  have hx := C.1.1
  have hb_ := C.1.2.1
  have hown := C.1.2.2.2.1
  have hts := C.1.2.2.2.2
  have hl : lv_has ls 5 [(0, .ref (ad 3)), (1, .ref (ad b)), (2, .int v2)] := hl
  have bk_45 : ∀ (t0_45 : Int32) (s_45 : Sg) (y : (Int32 × Sg)), f_X4_takeItem_45 b t0_45 s_45 = some y → (fun y => y = r0) y → ∀ (H : Heap) (locs : List Loc) (ls : Array Slot), HS D aI aL 42 shX ad s_45 s H locs → lv_has ls 5 [] → W p l e (RM 3 67) s m args below meth c H locs 0 0 (MQ below (Qi D aI aL 42 shX ad r0.1 r0.2 s.heap.size) args s 0 0 (AA ad 42 s.heap.size)) (F0 m 45 ls [.int t0_45]) := by
    intro t0_45 s_45 y h hK H locs ls hP hl
    unfold f_X4_takeItem_45 at h
    obtain ⟨x13, hx13, h⟩ := bnd h
    obtain rfl := Option.some.inj h
    have hK : (x13, s_45) = r0 := hK
    have hK1 := congrArg Prod.fst hK
    have hK2 := congrArg Prod.snd hK
    exact w_zret C hlk hr hP hx13 hK1 hK2 dX4_takeItem_45
  have bk_44 : ∀ (s_44 : Sg) (y : (Int32 × Sg)), f_X4_takeItem_44 b s_44 = some y → (fun y => y = r0) y → ∀ (H : Heap) (locs : List Loc) (ls : Array Slot), HS D aI aL 42 shX ad s_44 s H locs → lv_has ls 5 [] → W p l e (RM 3 67) s m args below meth c H locs 0 0 (MQ below (Qi D aI aL 42 shX ad r0.1 r0.2 s.heap.size) args s 0 0 (AA ad 42 s.heap.size)) (F0 m 44 ls []) := by
    intro s_44 y h hK H locs ls hP hl
    unfold f_X4_takeItem_44 at h
    refine lv_iconst (v := 0) hx hb_ dX4_takeItem_44 (by decide) ?_
    exact bk_45 0 s_44 y h hK _ _ _ hP (lv_sub hl [] rfl)
  have bk : ∀ (y : (Int32 × Sg)), f_X4_takeItem b v2 σ = some y → y = r0 → ∀ (H : Heap) (locs : List Loc), HS D aI aL 42 shX ad σ s H locs → W p l e (RM 3 67) s m args below meth c H locs 0 0 (MQ below (Qi D aI aL 42 shX ad r0.1 r0.2 s.heap.size) args s 0 0 (AA ad 42 s.heap.size)) (F0 m 0 ls []) := by
    intro y h hK H locs hP
    unfold f_X4_takeItem at h
    refine lv_aload_n hx hb_ dX4_takeItem_0 rfl (lv_at hl 0 rfl) ?_
    refine w_get C hP (k := 3) (by decide) 3 rfl rfl inWX4 0 (by decide) wt44 (v := .ref (ad 4)) rfl dX4_takeItem_1 ?_
    refine lv_iconst (v := 0) hx hb_ dX4_takeItem_4 (by decide) ?_
    obtain ⟨q1, hq1, h⟩ := bnd h
    refine w_ci (w_rN (As := [.ref (ad 4), .int 0]) (rest := []) C hP (c_X8_at l D aI aL ad inj _ σ 4 3 (by decide) rfl 0 q1 hq1) nw10 wt225 wt1 wt226 2 hd_X8_at ⟨Nat.le_of_ble_eq_true rfl, Nat.le_of_ble_eq_true rfl⟩ rfl hl.1 rfl (Nat.le_of_ble_eq_true rfl) dX4_takeItem_5) hP (fun H locs hP => ?_)
    refine lv_istore_n (lv' := [(3, .int q1), (0, .ref (ad 3)), (1, .ref (ad b)), (2, .int v2)]) hx hb_ dX4_takeItem_8 rfl hl (by decide) rfl (fun ls hl => ?_)
    refine lv_aload_n hx hb_ dX4_takeItem_9 rfl (lv_at hl 1 rfl) ?_
    refine w_get C hP (k := 3) (by decide) 3 rfl rfl inWX4 0 (by decide) wt44 (v := .ref (ad 4)) rfl dX4_takeItem_10 ?_
    refine lv_iconst (v := 1) hx hb_ dX4_takeItem_13 (by decide) ?_
    obtain ⟨q2, hq2, h⟩ := bnd h
    refine w_ci (w_rN (As := [.ref (ad 4), .int 1]) (rest := []) C hP (c_X8_at l D aI aL ad inj _ σ 4 3 (by decide) rfl 1 q2 hq2) nw10 wt225 wt1 wt226 2 hd_X8_at ⟨Nat.le_of_ble_eq_true rfl, Nat.le_of_ble_eq_true rfl⟩ rfl hl.1 rfl (Nat.le_of_ble_eq_true rfl) dX4_takeItem_14) hP (fun H locs hP => ?_)
    refine lv_istore (lv' := [(4, .int q2), (3, .int q1), (0, .ref (ad 3)), (1, .ref (ad b)), (2, .int v2)]) hx hb_ dX4_takeItem_17 hl (by decide) rfl (fun ls hl => ?_)
    refine lv_iload_n hx hb_ dX4_takeItem_19 rfl (lv_at hl 4 rfl) ?_
    refine lv_bipush (v := 110) hx hb_ dX4_takeItem_20 (by decide) ?_
    refine lv_icmp_ne (tgt := 46) hx hb_ dX4_takeItem_22 (by decide) (fun hc => ?_) (fun hc => ?_)
    · replace h := iff' h hc
      refine lv_aload_n hx hb_ dX4_takeItem_46 rfl (lv_at hl 2 rfl) ?_
      refine lv_iconst (v := 0) hx hb_ dX4_takeItem_47 (by decide) ?_
      obtain ⟨s3, hs3, h⟩ := bnd h
      refine w_putz C hP (k := 3) (by decide) 3 rfl rfl inWX4 tyX4 tyX4_ok nmX4 1 (by decide) wt45 rfl rfl rfl rfl hs3 dX4_takeItem_48 (fun H locs hP => ?_)
      refine lv_iload_n hx hb_ dX4_takeItem_51 rfl (lv_at hl 4 rfl) ?_
      by_cases hc97 : v2 = 97
      · replace h := ift h hc97
        refine lv_lookup (off := 36) (tgt := 88) hx hb_ dX4_takeItem_52 (by decide +kernel) (by rw [hc97]; decide +kernel) (by decide) ?_
        refine lv_aload_n hx hb_ dX4_takeItem_88 rfl (lv_at hl 3 rfl) ?_
        refine lv_iload_n hx hb_ dX4_takeItem_89 rfl (lv_at hl 1 rfl) ?_
        obtain ⟨q4, hq4, h⟩ := bnd h
        refine w_ci (w_rV (As := [.int q1]) (rest := []) C hP (k := b) (c_X1_beginOn l D aI aL ad inj _ s3 b hb q1 q4 hq4) (gV wt246 wt247 wt248 wt4 wt249) 1 hd_X1_beginOn ⟨Nat.le_of_ble_eq_true rfl, Nat.le_of_ble_eq_true rfl⟩ (fl_l0 hb) 0 (fl_sh hb) rfl rfl hl.1 rfl (Nat.le_of_ble_eq_true rfl) dX4_takeItem_90) hP (fun H locs hP => ?_)
        obtain ⟨x5, hx5, h⟩ := bnd h
        obtain rfl := Option.some.inj h
        have hK : (x5, q4.2) = r0 := hK
        have hK1 := congrArg Prod.fst hK
        have hK2 := congrArg Prod.snd hK
        exact w_zret C hlk hr hP hx5 hK1 hK2 dX4_takeItem_93
      replace h := iff' h hc97
      by_cases hc116 : v2 = 116
      · replace h := ift h hc116
        refine lv_lookup (off := 42) (tgt := 94) hx hb_ dX4_takeItem_52 (by decide +kernel) (by rw [hc116]; decide +kernel) (by decide) ?_
        refine lv_aload_n hx hb_ dX4_takeItem_94 rfl (lv_at hl 3 rfl) ?_
        refine lv_iload_n hx hb_ dX4_takeItem_95 rfl (lv_at hl 1 rfl) ?_
        refine lv_iload hx hb_ dX4_takeItem_96 (lv_at hl 0 rfl) ?_
        refine lv_aload_n hx hb_ dX4_takeItem_98 rfl (lv_at hl 2 rfl) ?_
        refine w_get C hP (k := 3) (by decide) 3 rfl rfl inWX4 0 (by decide) wt44 (v := .ref (ad 4)) rfl dX4_takeItem_99 ?_
        refine lv_iconst (v := 2) hx hb_ dX4_takeItem_102 (by decide) ?_
        obtain ⟨q6, hq6, h⟩ := bnd h
        refine w_ci (w_rN (As := [.ref (ad 4), .int 2]) (rest := [.int q2, .int q1, .ref (ad b)]) C hP (c_X8_at l D aI aL ad inj _ s3 4 3 (by decide) rfl 2 q6 hq6) nw10 wt225 wt1 wt226 2 hd_X8_at ⟨Nat.le_of_ble_eq_true rfl, Nat.le_of_ble_eq_true rfl⟩ rfl hl.1 rfl (Nat.le_of_ble_eq_true rfl) dX4_takeItem_103) hP (fun H locs hP => ?_)
        obtain ⟨q7, hq7, h⟩ := bnd h
        refine w_ci (w_rV (As := [.int q1, .int q2, .int q6]) (rest := []) C hP (k := b) (c_X1_addStep l D aI aL ad inj _ s3 b hb q1 q2 q6 q7 hq7) (gV wt254 wt255 wt256 wt4 wt257) 3 hd_X1_addStep ⟨Nat.le_of_ble_eq_true rfl, Nat.le_of_ble_eq_true rfl⟩ (fl_l0 hb) 0 (fl_sh hb) rfl rfl hl.1 rfl (Nat.le_of_ble_eq_true rfl) dX4_takeItem_106) hP (fun H locs hP => ?_)
        obtain ⟨x8, hx8, h⟩ := bnd h
        obtain rfl := Option.some.inj h
        have hK : (x8, q7.2) = r0 := hK
        have hK1 := congrArg Prod.fst hK
        have hK2 := congrArg Prod.snd hK
        exact w_zret C hlk hr hP hx8 hK1 hK2 dX4_takeItem_109
      replace h := iff' h hc116
      by_cases hc120 : v2 = 120
      · replace h := ift h hc120
        refine lv_lookup (off := 58) (tgt := 110) hx hb_ dX4_takeItem_52 (by decide +kernel) (by rw [hc120]; decide +kernel) (by decide) ?_
        refine lv_aload_n hx hb_ dX4_takeItem_110 rfl (lv_at hl 3 rfl) ?_
        refine lv_iload_n hx hb_ dX4_takeItem_111 rfl (lv_at hl 1 rfl) ?_
        refine lv_iload hx hb_ dX4_takeItem_112 (lv_at hl 0 rfl) ?_
        obtain ⟨q9, hq9, h⟩ := bnd h
        refine w_ci (w_rV (As := [.int q1, .int q2]) (rest := []) C hP (k := b) (c_X1_setGainsay l D aI aL ad inj _ s3 b hb q1 q2 q9 hq9) (gV wt263 wt264 wt265 wt4 wt266) 2 hd_X1_setGainsay ⟨Nat.le_of_ble_eq_true rfl, Nat.le_of_ble_eq_true rfl⟩ (fl_l0 hb) 0 (fl_sh hb) rfl rfl hl.1 rfl (Nat.le_of_ble_eq_true rfl) dX4_takeItem_114) hP (fun H locs hP => ?_)
        obtain ⟨x10, hx10, h⟩ := bnd h
        obtain rfl := Option.some.inj h
        have hK : (x10, q9.2) = r0 := hK
        have hK1 := congrArg Prod.fst hK
        have hK2 := congrArg Prod.snd hK
        exact w_zret C hlk hr hP hx10 hK1 hK2 dX4_takeItem_117
      replace h := iff' h hc120
      refine lv_lookup (off := 66) (tgt := 118) hx hb_ dX4_takeItem_52 (by decide +kernel) ((by rw [lv_osw hc97 (by decide +kernel), lv_osw hc116 (by decide +kernel), lv_osw hc120 (by decide +kernel)]; rfl)) (by decide) ?_
      refine lv_aload_n hx hb_ dX4_takeItem_118 rfl (lv_at hl 3 rfl) ?_
      refine lv_iload_n hx hb_ dX4_takeItem_119 rfl (lv_at hl 1 rfl) ?_
      refine lv_iload hx hb_ dX4_takeItem_120 (lv_at hl 0 rfl) ?_
      obtain ⟨q11, hq11, h⟩ := bnd h
      refine w_ci (w_rV (As := [.int q1, .int q2]) (rest := []) C hP (k := b) (c_X1_setWear l D aI aL ad inj _ s3 b hb q1 q2 q11 hq11) (gV wt268 wt269 wt270 wt4 wt271) 2 hd_X1_setWear ⟨Nat.le_of_ble_eq_true rfl, Nat.le_of_ble_eq_true rfl⟩ (fl_l0 hb) 0 (fl_sh hb) rfl rfl hl.1 rfl (Nat.le_of_ble_eq_true rfl) dX4_takeItem_122) hP (fun H locs hP => ?_)
      obtain ⟨x12, hx12, h⟩ := bnd h
      obtain rfl := Option.some.inj h
      have hK : (x12, q11.2) = r0 := hK
      have hK1 := congrArg Prod.fst hK
      have hK2 := congrArg Prod.snd hK
      exact w_zret C hlk hr hP hx12 hK1 hK2 dX4_takeItem_125
    · replace h := ift h hc
      refine lv_aload_n hx hb_ dX4_takeItem_25 rfl (lv_at hl 2 rfl) ?_
      refine w_get C hP (k := 3) (by decide) 3 rfl rfl inWX4 1 (by decide) wt45 (v := .int (σ.1 3 1)) rfl dX4_takeItem_26 ?_
      refine lv_if_eq (tgt := 44) hx hb_ dX4_takeItem_29 (by decide) (fun hc => ?_) (fun hc => ?_)
      · replace h := ift h hc
        exact bk_44 σ y h hK _ _ _ hP (lv_sub hl [] rfl)
      · replace h := iff' h hc
        refine lv_aload_n hx hb_ dX4_takeItem_32 rfl (lv_at hl 3 rfl) ?_
        refine lv_iload_n hx hb_ dX4_takeItem_33 rfl (lv_at hl 1 rfl) ?_
        obtain ⟨q14, hq14, h⟩ := bnd h
        refine w_ci (w_rV (As := [.int q1]) (rest := []) C hP (k := b) (c_X1_setStones l D aI aL ad inj _ σ b hb q1 q14 hq14) (gV wt245 wt205 wt206 wt4 wt207) 1 hd_X1_setStones ⟨Nat.le_of_ble_eq_true rfl, Nat.le_of_ble_eq_true rfl⟩ (fl_l0 hb) 0 (fl_sh hb) rfl rfl hl.1 rfl (Nat.le_of_ble_eq_true rfl) dX4_takeItem_34) hP (fun H locs hP => ?_)
        refine lv_if_eq (tgt := 44) hx hb_ dX4_takeItem_37 (by decide) (fun hc => ?_) (fun hc => ?_)
        · replace h := ift h hc
          exact bk_44 q14.2 y h hK _ _ _ hP (lv_sub hl [] rfl)
        · replace h := iff' h hc
          refine lv_iconst (v := 1) hx hb_ dX4_takeItem_40 (by decide) ?_
          refine lv_goto (tgt := 45) hx hb_ dX4_takeItem_41 (by decide) ?_
          exact bk_45 1 q14.2 y h hK _ _ _ hP (lv_sub hl [] rfl)
  exact bk r0 hf rfl _ _ hP
theorem hd_X6_size : yX6_size.cls = RX6 ∧ yX6_size.cls ≠ "java/lang/invoke/MethodHandle" ∧ yX6_size.cls ≠ "java/lang/invoke/VarHandle" ∧ (parseMethodDescriptor yX6_size.desc).map (fun d => d.parameters.length) = some 0 := by decide +kernel
set_option maxHeartbeats 4000000 in
set_option maxRecDepth 100000 in
theorem c_X6_size (l : Launch) (D : va_G) (aI aL : ClassId) (ad : Nat → Nat) (inj : Inj ad 42) (sz : Nat) (σ : Sg) (r0 : Int32) (hf : f_X6_size σ = some r0) : Met l yX6_size (wS yX6_size cX6_size 1 (some .int)) (RM 0 0) (Pw D aI aL 42 shX ad sz σ [.ref (ad 1)]) (Qi D aI aL 42 shX ad r0 σ sz) 0 0 (AA ad 42 sz) := by
  refine Mof (Qc := Qi D aI aL 42 shX ad r0 σ) (by decide) inj (Nat.le_of_ble_eq_true rfl) ?_
  intro p e s m args below meth c ls C hlk hr hP hl
  have hx := C.1.1
  have hb_ := C.1.2.1
  have hown := C.1.2.2.2.1
  have hts := C.1.2.2.2.2
  have hl : lv_has ls 1 [(0, .ref (ad 1))] := hl
  have bk : ∀ (y : Int32), f_X6_size σ = some y → y = r0 → ∀ (H : Heap) (locs : List Loc), HS D aI aL 42 shX ad σ s H locs → W p l e (RM 0 0) s m args below meth c H locs 0 0 (MQ below (Qi D aI aL 42 shX ad r0 σ s.heap.size) args s 0 0 (AA ad 42 s.heap.size)) (F0 m 0 ls []) := by
    intro y h hK H locs hP
    unfold f_X6_size at h
    refine lv_aload_n hx hb_ dX6_size_0 rfl (lv_at hl 0 rfl) ?_
    refine w_get C hP (k := 1) (by decide) 4 rfl rfl inWX6 1 (by decide) wt31 (v := .int (σ.1 1 1)) rfl dX6_size_1 ?_
    obtain rfl := Option.some.inj h
    have hK : ((σ.1 1 1) : Int32) = r0 := hK
    exact w_iret C hlk hr hP hK rfl dX6_size_4
  exact bk r0 hf rfl _ _ hP
theorem hd_X4_readOnto : yX4_readOnto.cls = RX4 ∧ yX4_readOnto.cls ≠ "java/lang/invoke/MethodHandle" ∧ yX4_readOnto.cls ≠ "java/lang/invoke/VarHandle" ∧ (parseMethodDescriptor yX4_readOnto.desc).map (fun d => d.parameters.length) = some 2 := by decide +kernel
set_option maxHeartbeats 4000000 in
set_option maxRecDepth 100000 in
theorem c_X4_readOnto (l : Launch) (D : va_G) (aI aL : ClassId) (ad : Nat → Nat) (inj : Inj ad 42) (sz : Nat) (σ : Sg) (b : Nat) (hb : isFl b) (r0 : (Int32 × Sg)) (hf : f_X4_readOnto b σ = some r0) : Met l yX4_readOnto (wS yX4_readOnto cX4_readOnto 6 (some .int)) (RM 4 93) (Pw D aI aL 42 shX ad sz σ [.ref (ad 3), .ref (ad b), .ref (ad 1)]) (Qi D aI aL 42 shX ad r0.1 r0.2 sz) 0 0 (AA ad 42 sz) := by
  refine Mof (Qc := Qi D aI aL 42 shX ad r0.1 r0.2) (by decide) inj (Nat.le_of_ble_eq_true rfl) ?_
  intro p e s m args below meth c ls C hlk hr hP hl
  have hx := C.1.1
  have hb_ := C.1.2.1
  have hown := C.1.2.2.2.1
  have hts := C.1.2.2.2.2
  have hl : lv_has ls 6 [(0, .ref (ad 3)), (1, .ref (ad b)), (2, .ref (ad 1))] := hl
  have bk_68 : ∀ (s_68 : Sg) (y : (Int32 × Sg)), f_X4_readOnto_68 b s_68 = some y → (fun y => y = r0) y → ∀ (H : Heap) (locs : List Loc) (ls : Array Slot), HS D aI aL 42 shX ad s_68 s H locs → lv_has ls 6 [(1, .ref (ad b))] → W p l e (RM 4 93) s m args below meth c H locs 0 0 (MQ below (Qi D aI aL 42 shX ad r0.1 r0.2 s.heap.size) args s 0 0 (AA ad 42 s.heap.size)) (F0 m 68 ls []) := by
    intro s_68 y h hK H locs ls hP hl
    unfold f_X4_readOnto_68 at h
    refine lv_aload_n hx hb_ dX4_readOnto_68 rfl (lv_at hl 0 rfl) ?_
    obtain ⟨q3, hq3, h⟩ := bnd h
    refine w_cv (w_rV (As := []) (rest := []) C hP (k := b) (c_X1_standOnBeginnings l D aI aL ad inj _ s_68 b hb q3 hq3) (gV wt272 wt273 wt274 wt4 wt275) 0 hd_X1_standOnBeginnings ⟨Nat.le_of_ble_eq_true rfl, Nat.le_of_ble_eq_true rfl⟩ (fl_l0 hb) 0 (fl_sh hb) rfl rfl hl.1 rfl (Nat.le_of_ble_eq_true rfl) dX4_readOnto_69) hP (fun H locs hP => ?_)
    refine lv_bipush (v := (-4)) hx hb_ dX4_readOnto_72 (by decide) ?_
    obtain rfl := Option.some.inj h
    have hK : ((-4), q3) = r0 := hK
    have hK1 := congrArg Prod.fst hK
    have hK2 := congrArg Prod.snd hK
    exact w_iret C hlk hr hP hK1 hK2 dX4_readOnto_74
  have bk_57 : ∀ (v3_57 : Int32) (s_57 : Sg) (y : (Int32 × Sg)), f_X4_readOnto_57 b v3_57 s_57 = some y → (fun y => y = r0) y → ∀ (H : Heap) (locs : List Loc) (ls : Array Slot), HS D aI aL 42 shX ad s_57 s H locs → lv_has ls 6 [(3, .int v3_57)] → W p l e (RM 4 93) s m args below meth c H locs 0 0 (MQ below (Qi D aI aL 42 shX ad r0.1 r0.2 s.heap.size) args s 0 0 (AA ad 42 s.heap.size)) (F0 m 57 ls []) := by
    intro v3_57 s_57 y h hK H locs ls hP hl
    unfold f_X4_readOnto_57 at h
    refine lv_iload_n hx hb_ dX4_readOnto_57 rfl (lv_at hl 0 rfl) ?_
    obtain rfl := Option.some.inj h
    have hK : (v3_57, s_57) = r0 := hK
    have hK1 := congrArg Prod.fst hK
    have hK2 := congrArg Prod.snd hK
    exact w_iret C hlk hr hP hK1 hK2 dX4_readOnto_58
  have lp_14 : ∀ (n_14 : Nat) (v3_14 : Int32) (v4_14 : Int32) (s_14 : Sg) (y : (Int32 × Sg)), itr n_14 (fun s => f_X4_readOnto_14s b s.1 s.2.1 s.2.2) (v3_14, v4_14, s_14) = some y → (fun y => y = r0) y → ∀ (H : Heap) (locs : List Loc) (ls : Array Slot), HS D aI aL 42 shX ad s_14 s H locs → lv_has ls 6 [(0, .ref (ad 3)), (1, .ref (ad b)), (2, .ref (ad 1)), (3, .int v3_14), (4, .int v4_14)] → W p l e (RM 4 93) s m args below meth c H locs 0 0 (MQ below (Qi D aI aL 42 shX ad r0.1 r0.2 s.heap.size) args s 0 0 (AA ad 42 s.heap.size)) (F0 m 14 ls []) := by
    intro n_14
    induction n_14 with
    | zero =>
      intro v3_14 v4_14 s_14 y h hK
      cases (show (none : Option (Int32 × Sg)) = some y from h)
    | succ n_14 ih_14 =>
      intro v3_14 v4_14 s_14 y h hK H locs ls hP hl
      obtain ⟨y, h, hK⟩ := itr_inv (K := (fun y => y = r0)) h hK
      replace h : f_X4_readOnto_14s b v3_14 v4_14 s_14 = some y := h
      unfold f_X4_readOnto_14s at h
      refine lv_iload hx hb_ dX4_readOnto_14 (lv_at hl 4 rfl) ?_
      refine lv_sipush (v := 300) hx hb_ dX4_readOnto_16 (by decide) ?_
      refine lv_icmp_ge (tgt := 68) hx hb_ dX4_readOnto_19 (by decide) (fun hc => ?_) (fun hc => ?_)
      · replace h := ift h hc
        obtain ⟨y2, h2, rfl⟩ := mapi h
        exact bk_68 s_14 y2 h2 hK _ _ _ hP (lv_sub hl [1] rfl)
      · replace h := iff' h hc
        refine lv_iload_n hx hb_ dX4_readOnto_22 rfl (lv_at hl 3 rfl) ?_
        refine lv_aload_n hx hb_ dX4_readOnto_23 rfl (lv_at hl 2 rfl) ?_
        obtain ⟨q4, hq4, h⟩ := bnd h
        refine w_ci (w_rV (As := []) (rest := [.int v3_14]) C hP (k := 1) (c_X6_size l D aI aL ad inj _ s_14 q4 hq4) (gV wt212 wt213 wt214 wt2 wt215) 0 hd_X6_size ⟨Nat.le_of_ble_eq_true rfl, Nat.le_of_ble_eq_true rfl⟩ (by decide) 4 rfl rfl rfl hl.1 rfl (Nat.le_of_ble_eq_true rfl) dX4_readOnto_24) hP (fun H locs hP => ?_)
        refine lv_icmp_ge (tgt := 68) hx hb_ dX4_readOnto_27 (by decide) (fun hc => ?_) (fun hc => ?_)
        · replace h := ift h hc
          obtain ⟨y2, h2, rfl⟩ := mapi h
          exact bk_68 s_14 y2 h2 hK _ _ _ hP (lv_sub hl [1] rfl)
        · replace h := iff' h hc
          refine lv_aload_n hx hb_ dX4_readOnto_30 rfl (lv_at hl 0 rfl) ?_
          refine lv_aload_n hx hb_ dX4_readOnto_31 rfl (lv_at hl 2 rfl) ?_
          refine lv_iload_n hx hb_ dX4_readOnto_32 rfl (lv_at hl 3 rfl) ?_
          obtain ⟨q5, hq5, h⟩ := bnd h
          refine w_ci (w_rV (As := [.ref (ad 1), .int v3_14]) (rest := []) C hP (k := 3) (c_X4_itemsEnd l D aI aL ad inj _ s_14 v3_14 q5 hq5) (gV wt216 wt218 wp0 wt3 wt219) 2 hd_X4_itemsEnd ⟨Nat.le_of_ble_eq_true rfl, Nat.le_of_ble_eq_true rfl⟩ (by decide) 3 rfl rfl rfl hl.1 rfl (Nat.le_of_ble_eq_true rfl) dX4_readOnto_33) hP (fun H locs hP => ?_)
          refine lv_istore (lv' := [(5, .int q5.1), (0, .ref (ad 3)), (1, .ref (ad b)), (2, .ref (ad 1)), (3, .int v3_14), (4, .int v4_14)]) hx hb_ dX4_readOnto_36 hl (by decide) rfl (fun ls hl => ?_)
          refine lv_iload hx hb_ dX4_readOnto_38 (lv_at hl 0 rfl) ?_
          refine lv_iconst (v := (-1)) hx hb_ dX4_readOnto_40 (by decide) ?_
          refine lv_icmp_eq (tgt := 57) hx hb_ dX4_readOnto_41 (by decide) (fun hc => ?_) (fun hc => ?_)
          · replace h := ift h hc
            obtain ⟨y2, h2, rfl⟩ := mapi h
            exact bk_57 v3_14 q5.2 y2 h2 hK _ _ _ hP (lv_sub hl [4] rfl)
          · replace h := iff' h hc
            refine lv_aload_n hx hb_ dX4_readOnto_44 rfl (lv_at hl 1 rfl) ?_
            refine lv_aload_n hx hb_ dX4_readOnto_45 rfl (lv_at hl 2 rfl) ?_
            refine lv_aload_n hx hb_ dX4_readOnto_46 rfl (lv_at hl 3 rfl) ?_
            refine lv_iload_n hx hb_ dX4_readOnto_47 rfl (lv_at hl 4 rfl) ?_
            obtain ⟨q6, hq6, h⟩ := bnd h
            refine w_ci (w_rV (As := [.int v3_14]) (rest := [.ref (ad b), .ref (ad 3)]) C hP (k := 1) (c_X6_byteAt l D aI aL ad inj _ q5.2 v3_14 q6 hq6) (gV wt220 wt221 wt222 wt2 wt223) 1 hd_X6_byteAt ⟨Nat.le_of_ble_eq_true rfl, Nat.le_of_ble_eq_true rfl⟩ (by decide) 4 rfl rfl rfl hl.1 rfl (Nat.le_of_ble_eq_true rfl) dX4_readOnto_48) hP (fun H locs hP => ?_)
            obtain ⟨q7, hq7, h⟩ := bnd h
            refine w_ci (w_rV (As := [.ref (ad b), .int q6]) (rest := []) C hP (k := 3) (c_X4_takeItem l D aI aL ad inj _ q5.2 b hb q6 q7 hq7) (gV wt240 wt242 wp1 wt3 wt243) 2 hd_X4_takeItem ⟨Nat.le_of_ble_eq_true rfl, Nat.le_of_ble_eq_true rfl⟩ (by decide) 3 rfl rfl rfl hl.1 rfl (Nat.le_of_ble_eq_true rfl) dX4_readOnto_51) hP (fun H locs hP => ?_)
            refine lv_if_ne (tgt := 59) hx hb_ dX4_readOnto_54 (by decide) (fun hc => ?_) (fun hc => ?_)
            · replace h := iff' h hc
              refine lv_iload hx hb_ dX4_readOnto_59 (lv_at hl 0 rfl) ?_
              refine lv_istore_n (lv' := [(3, .int q5.1), (5, .int q5.1), (0, .ref (ad 3)), (1, .ref (ad b)), (2, .ref (ad 1)), (4, .int v4_14)]) hx hb_ dX4_readOnto_61 rfl hl (by decide) rfl (fun ls hl => ?_)
              obtain ⟨x8, hx8, h⟩ := nm_inv h
              refine lv_iinc (v := x8) (lv' := [(4, .int x8), (3, .int q5.1), (5, .int q5.1), (0, .ref (ad 3)), (1, .ref (ad b)), (2, .ref (ad 1))]) hx hb_ dX4_readOnto_62 hl (k := 5) rfl (by rw [hx8]; rfl) (by decide) rfl (fun ls hl => ?_)
              refine lv_goto (tgt := 14) hx hb_ dX4_readOnto_65 (by decide) ?_
              obtain rfl := Option.some.inj h
              obtain ⟨y2, h, hK⟩ := hK
              exact ih_14 q5.1 x8 q7.2 y2 h hK _ _ _ hP (lv_sub hl [3, 4, 5, 1, 0] rfl)
            · replace h := ift h hc
              obtain ⟨y2, h2, rfl⟩ := mapi h
              exact bk_57 v3_14 q7.2 y2 h2 hK _ _ _ hP (lv_sub hl [4] rfl)
  have bk_14 : ∀ (v3_14 : Int32) (v4_14 : Int32) (s_14 : Sg) (y : (Int32 × Sg)), f_X4_readOnto_14 b v3_14 v4_14 s_14 = some y → (fun y => y = r0) y → ∀ (H : Heap) (locs : List Loc) (ls : Array Slot), HS D aI aL 42 shX ad s_14 s H locs → lv_has ls 6 [(0, .ref (ad 3)), (1, .ref (ad b)), (2, .ref (ad 1)), (3, .int v3_14), (4, .int v4_14)] → W p l e (RM 4 93) s m args below meth c H locs 0 0 (MQ below (Qi D aI aL 42 shX ad r0.1 r0.2 s.heap.size) args s 0 0 (AA ad 42 s.heap.size)) (F0 m 14 ls []) := fun v3_14 v4_14 s_14 y h hK => lp_14 3000 v3_14 v4_14 s_14 y h hK
  have bk : ∀ (y : (Int32 × Sg)), f_X4_readOnto b σ = some y → y = r0 → ∀ (H : Heap) (locs : List Loc), HS D aI aL 42 shX ad σ s H locs → W p l e (RM 4 93) s m args below meth c H locs 0 0 (MQ below (Qi D aI aL 42 shX ad r0.1 r0.2 s.heap.size) args s 0 0 (AA ad 42 s.heap.size)) (F0 m 0 ls []) := by
    intro y h hK H locs hP
    unfold f_X4_readOnto at h
    refine lv_aload_n hx hb_ dX4_readOnto_0 rfl (lv_at hl 1 rfl) ?_
    obtain ⟨q1, hq1, h⟩ := bnd h
    refine w_cv (w_rV (As := []) (rest := []) C hP (k := b) (c_X1_empty l D aI aL ad inj _ σ b hb q1 hq1) (gV wt197 wt198 wt199 wt4 wt200) 0 hd_X1_empty ⟨Nat.le_of_ble_eq_true rfl, Nat.le_of_ble_eq_true rfl⟩ (fl_l0 hb) 0 (fl_sh hb) rfl rfl hl.1 rfl (Nat.le_of_ble_eq_true rfl) dX4_readOnto_1) hP (fun H locs hP => ?_)
    refine lv_aload_n hx hb_ dX4_readOnto_4 rfl (lv_at hl 0 rfl) ?_
    refine lv_iconst (v := 1) hx hb_ dX4_readOnto_5 (by decide) ?_
    obtain ⟨s2, hs2, h⟩ := bnd h
    refine w_putz C hP (k := 3) (by decide) 3 rfl rfl inWX4 tyX4 tyX4_ok nmX4 1 (by decide) wt45 rfl rfl rfl rfl hs2 dX4_readOnto_6 (fun H locs hP => ?_)
    refine lv_iconst (v := 0) hx hb_ dX4_readOnto_9 (by decide) ?_
    refine lv_istore_n (lv' := [(3, .int 0), (0, .ref (ad 3)), (1, .ref (ad b)), (2, .ref (ad 1))]) hx hb_ dX4_readOnto_10 rfl hl (by decide) rfl (fun ls hl => ?_)
    refine lv_iconst (v := 0) hx hb_ dX4_readOnto_11 (by decide) ?_
    refine lv_istore (lv' := [(4, .int 0), (3, .int 0), (0, .ref (ad 3)), (1, .ref (ad b)), (2, .ref (ad 1))]) hx hb_ dX4_readOnto_12 hl (by decide) rfl (fun ls hl => ?_)
    exact bk_14 0 0 s2 y h hK _ _ _ hP (lv_sub hl [2, 3, 4, 1, 0] rfl)
  exact bk r0 hf rfl _ _ hP
theorem hd_X5_idleSteps : yX5_idleSteps.cls = RX5 ∧ yX5_idleSteps.cls ≠ "java/lang/invoke/MethodHandle" ∧ yX5_idleSteps.cls ≠ "java/lang/invoke/VarHandle" ∧ (parseMethodDescriptor yX5_idleSteps.desc).map (fun d => d.parameters.length) = some 1 := by decide +kernel
set_option maxHeartbeats 4000000 in
set_option maxRecDepth 100000 in
theorem c_X5_idleSteps (l : Launch) (D : va_G) (aI aL : ClassId) (ad : Nat → Nat) (inj : Inj ad 42) (sz : Nat) (σ : Sg) (r0 : Int32) (hf : f_X5_idleSteps σ = some r0) : Met l yX5_idleSteps (wS yX5_idleSteps cX5_idleSteps 5 (some .int)) (RM 3 72) (Pw D aI aL 42 shX ad sz σ [.ref (ad 12)]) (Qi D aI aL 42 shX ad r0 σ sz) 0 0 (AA ad 42 sz) := by
  refine Mof (Qc := Qi D aI aL 42 shX ad r0 σ) (by decide) inj (Nat.le_of_ble_eq_true rfl) ?_
  intro p e s m args below meth c ls C hlk hr hP hl
  have hx := C.1.1
  have hb_ := C.1.2.1
  have hown := C.1.2.2.2.1
  have hts := C.1.2.2.2.2
  have hl : lv_has ls 5 [(0, .ref (ad 12))] := hl
  have lp_4 : ∀ (n_4 : Nat) (v1_4 : Int32) (v2_4 : Int32) (y : Int32), itr n_4 (fun s => f_X5_idleSteps_4s s.1 s.2 σ) (v1_4, v2_4) = some y → (fun y => y = r0) y → ∀ (H : Heap) (locs : List Loc) (ls : Array Slot), HS D aI aL 42 shX ad σ s H locs → lv_has ls 5 [(0, .ref (ad 12)), (1, .int v1_4), (2, .int v2_4)] → W p l e (RM 3 72) s m args below meth c H locs 0 0 (MQ below (Qi D aI aL 42 shX ad r0 σ s.heap.size) args s 0 0 (AA ad 42 s.heap.size)) (F0 m 4 ls []) := by
    intro n_4
    induction n_4 with
    | zero =>
      intro v1_4 v2_4 y h hK
      cases (show (none : Option Int32) = some y from h)
    | succ n_4 ih_4 =>
      have bk_57 : ∀ (v1_57 : Int32) (v2_57 : Int32) (y : ((Int32 × Int32) ⊕ Int32)), f_X5_idleSteps_57 v1_57 v2_57 σ = some y → (KK n_4 (fun s => f_X5_idleSteps_4s s.1 s.2 σ) (fun y => y = r0)) y → ∀ (H : Heap) (locs : List Loc) (ls : Array Slot), HS D aI aL 42 shX ad σ s H locs → lv_has ls 5 [(0, .ref (ad 12)), (1, .int v1_57), (2, .int v2_57)] → W p l e (RM 3 72) s m args below meth c H locs 0 0 (MQ below (Qi D aI aL 42 shX ad r0 σ s.heap.size) args s 0 0 (AA ad 42 s.heap.size)) (F0 m 57 ls []) := by
        intro v1_57 v2_57 y h hK H locs ls hP hl
        unfold f_X5_idleSteps_57 at h
        obtain ⟨x8, hx8, h⟩ := nm_inv h
        refine lv_iinc (v := x8) (lv' := [(2, .int x8), (0, .ref (ad 12)), (1, .int v1_57)]) hx hb_ dX5_idleSteps_57 hl (k := 2) rfl (by rw [hx8]; rfl) (by decide) rfl (fun ls hl => ?_)
        refine lv_goto (tgt := 4) hx hb_ dX5_idleSteps_60 (by decide) ?_
        obtain rfl := Option.some.inj h
        obtain ⟨y2, h, hK⟩ := hK
        exact ih_4 v1_57 x8 y2 h hK _ _ _ hP (lv_sub hl [1, 2, 0] rfl)
      intro v1_4 v2_4 y h hK H locs ls hP hl
      obtain ⟨y, h, hK⟩ := itr_inv (K := (fun y => y = r0)) h hK
      replace h : f_X5_idleSteps_4s v1_4 v2_4 σ = some y := h
      unfold f_X5_idleSteps_4s at h
      refine lv_iload_n hx hb_ dX5_idleSteps_4 rfl (lv_at hl 2 rfl) ?_
      refine lv_aload_n hx hb_ dX5_idleSteps_5 rfl (lv_at hl 0 rfl) ?_
      obtain ⟨q1, hq1, h⟩ := bnd h
      refine w_ci (w_rV (As := []) (rest := [.int v2_4]) C hP (k := 12) (c_X1_stepCount l D aI aL ad inj _ σ 12 fl12 q1 hq1) (gV wt643 wt341 wt342 wt4 wt343) 0 hd_X1_stepCount ⟨Nat.le_of_ble_eq_true rfl, Nat.le_of_ble_eq_true rfl⟩ (by decide) 0 rfl rfl rfl hl.1 rfl (Nat.le_of_ble_eq_true rfl) dX5_idleSteps_6) hP (fun H locs hP => ?_)
      refine lv_icmp_ge (tgt := 63) hx hb_ dX5_idleSteps_9 (by decide) (fun hc => ?_) (fun hc => ?_)
      · replace h := ift h hc
        refine lv_iload_n hx hb_ dX5_idleSteps_63 rfl (lv_at hl 1 rfl) ?_
        obtain rfl := Option.some.inj h
        have hK : (v1_4 : Int32) = r0 := hK
        exact w_iret C hlk hr hP hK rfl dX5_idleSteps_64
      · replace h := iff' h hc
        refine lv_sipush (v := 1023) hx hb_ dX5_idleSteps_12 (by decide) ?_
        refine lv_iconst (v := 1) hx hb_ dX5_idleSteps_15 (by decide) ?_
        refine lv_iload_n hx hb_ dX5_idleSteps_16 rfl (lv_at hl 2 rfl) ?_
        refine lv_ishl hx hb_ dX5_idleSteps_17 ?_
        refine lv_iconst (v := (-1)) hx hb_ dX5_idleSteps_18 (by decide) ?_
        refine lv_ixor hx hb_ dX5_idleSteps_19 ?_
        refine lv_iand hx hb_ dX5_idleSteps_20 ?_
        obtain ⟨x2, hx2, h⟩ := nm_inv h
        refine w_ni hx2 ?_
        refine lv_istore_n (lv' := [(3, .int x2), (0, .ref (ad 12)), (1, .int v1_4), (2, .int v2_4)]) hx hb_ dX5_idleSteps_21 rfl hl (by decide) rfl (fun ls hl => ?_)
        refine lv_aload_n hx hb_ dX5_idleSteps_22 rfl (lv_at hl 1 rfl) ?_
        refine lv_aload_n hx hb_ dX5_idleSteps_23 rfl (lv_at hl 1 rfl) ?_
        refine lv_iload_n hx hb_ dX5_idleSteps_24 rfl (lv_at hl 3 rfl) ?_
        obtain ⟨q3, hq3, h⟩ := bnd h
        refine w_ci (w_rV (As := [.int v2_4]) (rest := [.ref (ad 12)]) C hP (k := 12) (c_X1_originsOf l D aI aL ad inj _ σ 12 fl12 v2_4 q3 hq3) (gV wt644 wt645 wt646 wt4 wt647) 1 hd_X1_originsOf ⟨Nat.le_of_ble_eq_true rfl, Nat.le_of_ble_eq_true rfl⟩ (by decide) 0 rfl rfl rfl hl.1 rfl (Nat.le_of_ble_eq_true rfl) dX5_idleSteps_25) hP (fun H locs hP => ?_)
        refine lv_iload_n hx hb_ dX5_idleSteps_28 rfl (lv_at hl 0 rfl) ?_
        refine lv_aload_n hx hb_ dX5_idleSteps_29 rfl (lv_at hl 1 rfl) ?_
        obtain ⟨q4, hq4, h⟩ := bnd h
        refine w_ci (w_rV (As := []) (rest := [.int x2, .int q3, .ref (ad 12)]) C hP (k := 12) (c_X1_allStones l D aI aL ad inj _ σ 12 fl12 q4 hq4) (gV wt648 wt209 wt210 wt4 wt211) 0 hd_X1_allStones ⟨Nat.le_of_ble_eq_true rfl, Nat.le_of_ble_eq_true rfl⟩ (by decide) 0 rfl rfl rfl hl.1 rfl (Nat.le_of_ble_eq_true rfl) dX5_idleSteps_30) hP (fun H locs hP => ?_)
        obtain ⟨q5, hq5, h⟩ := bnd h
        refine w_ci (w_rV (As := [.int q3, .int x2, .int q4]) (rest := []) C hP (k := 12) (c_X1_reachBy l D aI aL ad inj _ σ 12 fl12 q3 x2 q4 q5 hq5) (gV wt649 wt526 wt527 wt4 wt528) 3 hd_X1_reachBy ⟨Nat.le_of_ble_eq_true rfl, Nat.le_of_ble_eq_true rfl⟩ (by decide) 0 rfl rfl rfl hl.1 rfl (Nat.le_of_ble_eq_true rfl) dX5_idleSteps_33) hP (fun H locs hP => ?_)
        refine lv_istore (lv' := [(4, .int q5), (3, .int x2), (0, .ref (ad 12)), (1, .int v1_4), (2, .int v2_4)]) hx hb_ dX5_idleSteps_36 hl (by decide) rfl (fun ls hl => ?_)
        refine lv_iload hx hb_ dX5_idleSteps_38 (lv_at hl 0 rfl) ?_
        refine lv_aload_n hx hb_ dX5_idleSteps_40 rfl (lv_at hl 2 rfl) ?_
        refine lv_iload_n hx hb_ dX5_idleSteps_41 rfl (lv_at hl 4 rfl) ?_
        obtain ⟨q6, hq6, h⟩ := bnd h
        refine w_ci (w_rV (As := [.int v2_4]) (rest := [.int q5]) C hP (k := 12) (c_X1_endOf l D aI aL ad inj _ σ 12 fl12 v2_4 q6 hq6) (gV wt650 wt412 wt413 wt4 wt414) 1 hd_X1_endOf ⟨Nat.le_of_ble_eq_true rfl, Nat.le_of_ble_eq_true rfl⟩ (by decide) 0 rfl rfl rfl hl.1 rfl (Nat.le_of_ble_eq_true rfl) dX5_idleSteps_42) hP (fun H locs hP => ?_)
        obtain ⟨q7, hq7, h⟩ := bnd h
        refine w_ci (w_rN (As := [.int q5, .int q6]) (rest := []) C hP (c_X8_has l D aI aL ad inj _ σ q5 q6 q7 hq7) nw24 wt468 wt1 wt469 2 hd_X8_has ⟨Nat.le_of_ble_eq_true rfl, Nat.le_of_ble_eq_true rfl⟩ rfl hl.1 rfl (Nat.le_of_ble_eq_true rfl) dX5_idleSteps_45) hP (fun H locs hP => ?_)
        refine lv_if_eq (tgt := 57) hx hb_ dX5_idleSteps_48 (by decide) (fun hc => ?_) (fun hc => ?_)
        · replace h := ift h hc
          exact bk_57 v1_4 v2_4 y h hK _ _ _ hP (lv_sub hl [2, 3, 4] rfl)
        · replace h := iff' h hc
          refine lv_iload_n hx hb_ dX5_idleSteps_51 rfl (lv_at hl 3 rfl) ?_
          refine lv_iconst (v := 1) hx hb_ dX5_idleSteps_52 (by decide) ?_
          refine lv_iload_n hx hb_ dX5_idleSteps_53 rfl (lv_at hl 4 rfl) ?_
          refine lv_ishl hx hb_ dX5_idleSteps_54 ?_
          refine lv_ior hx hb_ dX5_idleSteps_55 ?_
          obtain ⟨x9, hx9, h⟩ := nm_inv h
          refine w_ni hx9 ?_
          refine lv_istore_n (lv' := [(1, .int x9), (4, .int q5), (3, .int x2), (0, .ref (ad 12)), (2, .int v2_4)]) hx hb_ dX5_idleSteps_56 rfl hl (by decide) rfl (fun ls hl => ?_)
          exact bk_57 x9 v2_4 y h hK _ _ _ hP (lv_sub hl [3, 0, 4] rfl)
  have bk_4 : ∀ (v1_4 : Int32) (v2_4 : Int32) (y : Int32), f_X5_idleSteps_4 v1_4 v2_4 σ = some y → (fun y => y = r0) y → ∀ (H : Heap) (locs : List Loc) (ls : Array Slot), HS D aI aL 42 shX ad σ s H locs → lv_has ls 5 [(0, .ref (ad 12)), (1, .int v1_4), (2, .int v2_4)] → W p l e (RM 3 72) s m args below meth c H locs 0 0 (MQ below (Qi D aI aL 42 shX ad r0 σ s.heap.size) args s 0 0 (AA ad 42 s.heap.size)) (F0 m 4 ls []) := fun v1_4 v2_4 y h hK => lp_4 3000 v1_4 v2_4 y h hK
  have bk : ∀ (y : Int32), f_X5_idleSteps σ = some y → y = r0 → ∀ (H : Heap) (locs : List Loc), HS D aI aL 42 shX ad σ s H locs → W p l e (RM 3 72) s m args below meth c H locs 0 0 (MQ below (Qi D aI aL 42 shX ad r0 σ s.heap.size) args s 0 0 (AA ad 42 s.heap.size)) (F0 m 0 ls []) := by
    intro y h hK H locs hP
    unfold f_X5_idleSteps at h
    refine lv_iconst (v := 0) hx hb_ dX5_idleSteps_0 (by decide) ?_
    refine lv_istore_n (lv' := [(1, .int 0), (0, .ref (ad 12))]) hx hb_ dX5_idleSteps_1 rfl hl (by decide) rfl (fun ls hl => ?_)
    refine lv_iconst (v := 0) hx hb_ dX5_idleSteps_2 (by decide) ?_
    refine lv_istore_n (lv' := [(2, .int 0), (1, .int 0), (0, .ref (ad 12))]) hx hb_ dX5_idleSteps_3 rfl hl (by decide) rfl (fun ls hl => ?_)
    exact bk_4 0 0 y h hK _ _ _ hP (lv_sub hl [2, 1, 0] rfl)
  exact bk r0 hf rfl _ _ hP
theorem hd_X5_everBehind : yX5_everBehind.cls = RX5 ∧ yX5_everBehind.cls ≠ "java/lang/invoke/MethodHandle" ∧ yX5_everBehind.cls ≠ "java/lang/invoke/VarHandle" ∧ (parseMethodDescriptor yX5_everBehind.desc).map (fun d => d.parameters.length) = some 2 := by decide +kernel
set_option maxHeartbeats 4000000 in
set_option maxRecDepth 100000 in
theorem c_X5_everBehind (l : Launch) (D : va_G) (aI aL : ClassId) (ad : Nat → Nat) (inj : Inj ad 42) (sz : Nat) (σ : Sg) (v1 : Int32) (r0 : Int32) (hf : f_X5_everBehind v1 σ = some r0) : Met l yX5_everBehind (wS yX5_everBehind cX5_everBehind 4 (some .int)) (RM 3 65) (Pw D aI aL 42 shX ad sz σ [.ref (ad 12), .int v1]) (Qi D aI aL 42 shX ad r0 σ sz) 0 0 (AA ad 42 sz) := by
  refine Mof (Qc := Qi D aI aL 42 shX ad r0 σ) (by decide) inj (Nat.le_of_ble_eq_true rfl) ?_
  intro p e s m args below meth c ls C hlk hr hP hl
  have hx := C.1.1
  have hb_ := C.1.2.1
  have hown := C.1.2.2.2.1
  have hts := C.1.2.2.2.2
  have hl : lv_has ls 4 [(0, .ref (ad 12)), (1, .int v1)] := hl
  have lp_10 : ∀ (n_10 : Nat) (v2_10 : Int32) (v3_10 : Int32) (y : Int32), itr n_10 (fun s => f_X5_everBehind_10s s.1 s.2 σ) (v2_10, v3_10) = some y → (fun y => y = r0) y → ∀ (H : Heap) (locs : List Loc) (ls : Array Slot), HS D aI aL 42 shX ad σ s H locs → lv_has ls 4 [(0, .ref (ad 12)), (2, .int v2_10), (3, .int v3_10)] → W p l e (RM 3 65) s m args below meth c H locs 0 0 (MQ below (Qi D aI aL 42 shX ad r0 σ s.heap.size) args s 0 0 (AA ad 42 s.heap.size)) (F0 m 10 ls []) := by
    intro n_10
    induction n_10 with
    | zero =>
      intro v2_10 v3_10 y h hK
      cases (show (none : Option Int32) = some y from h)
    | succ n_10 ih_10 =>
      intro v2_10 v3_10 y h hK H locs ls hP hl
      obtain ⟨y, h, hK⟩ := itr_inv (K := (fun y => y = r0)) h hK
      replace h : f_X5_everBehind_10s v2_10 v3_10 σ = some y := h
      unfold f_X5_everBehind_10s at h
      refine lv_iload_n hx hb_ dX5_everBehind_10 rfl (lv_at hl 2 rfl) ?_
      refine lv_bipush (v := 10) hx hb_ dX5_everBehind_11 (by decide) ?_
      refine lv_icmp_ge (tgt := 30) hx hb_ dX5_everBehind_13 (by decide) (fun hc => ?_) (fun hc => ?_)
      · replace h := ift h hc
        refine lv_iload_n hx hb_ dX5_everBehind_30 rfl (lv_at hl 1 rfl) ?_
        obtain rfl := Option.some.inj h
        have hK : (v2_10 : Int32) = r0 := hK
        exact w_iret C hlk hr hP hK rfl dX5_everBehind_31
      · replace h := iff' h hc
        refine lv_iload_n hx hb_ dX5_everBehind_16 rfl (lv_at hl 1 rfl) ?_
        refine lv_aload_n hx hb_ dX5_everBehind_17 rfl (lv_at hl 0 rfl) ?_
        refine lv_iload_n hx hb_ dX5_everBehind_18 rfl (lv_at hl 1 rfl) ?_
        obtain ⟨q2, hq2, h⟩ := bnd h
        refine w_ci (w_rV (As := [.int v2_10]) (rest := [.int v2_10]) C hP (k := 12) (c_X1_directlyBehind l D aI aL ad inj _ σ 12 fl12 v2_10 q2 hq2) (gV wt663 wt664 wt665 wt4 wt666) 1 hd_X1_directlyBehind ⟨Nat.le_of_ble_eq_true rfl, Nat.le_of_ble_eq_true rfl⟩ (by decide) 0 rfl rfl rfl hl.1 rfl (Nat.le_of_ble_eq_true rfl) dX5_everBehind_19) hP (fun H locs hP => ?_)
        refine lv_ior hx hb_ dX5_everBehind_22 ?_
        obtain ⟨x3, hx3, h⟩ := nm_inv h
        refine w_ni hx3 ?_
        refine lv_istore_n (lv' := [(2, .int x3), (0, .ref (ad 12)), (3, .int v3_10)]) hx hb_ dX5_everBehind_23 rfl hl (by decide) rfl (fun ls hl => ?_)
        obtain ⟨x4, hx4, h⟩ := nm_inv h
        refine lv_iinc (v := x4) (lv' := [(3, .int x4), (2, .int x3), (0, .ref (ad 12))]) hx hb_ dX5_everBehind_24 hl (k := 2) rfl (by rw [hx4]; rfl) (by decide) rfl (fun ls hl => ?_)
        refine lv_goto (tgt := 10) hx hb_ dX5_everBehind_27 (by decide) ?_
        obtain rfl := Option.some.inj h
        obtain ⟨y2, h, hK⟩ := hK
        exact ih_10 x3 x4 y2 h hK _ _ _ hP (lv_sub hl [2, 1, 0] rfl)
  have bk_10 : ∀ (v2_10 : Int32) (v3_10 : Int32) (y : Int32), f_X5_everBehind_10 v2_10 v3_10 σ = some y → (fun y => y = r0) y → ∀ (H : Heap) (locs : List Loc) (ls : Array Slot), HS D aI aL 42 shX ad σ s H locs → lv_has ls 4 [(0, .ref (ad 12)), (2, .int v2_10), (3, .int v3_10)] → W p l e (RM 3 65) s m args below meth c H locs 0 0 (MQ below (Qi D aI aL 42 shX ad r0 σ s.heap.size) args s 0 0 (AA ad 42 s.heap.size)) (F0 m 10 ls []) := fun v2_10 v3_10 y h hK => lp_10 3000 v2_10 v3_10 y h hK
  have bk : ∀ (y : Int32), f_X5_everBehind v1 σ = some y → y = r0 → ∀ (H : Heap) (locs : List Loc), HS D aI aL 42 shX ad σ s H locs → W p l e (RM 3 65) s m args below meth c H locs 0 0 (MQ below (Qi D aI aL 42 shX ad r0 σ s.heap.size) args s 0 0 (AA ad 42 s.heap.size)) (F0 m 0 ls []) := by
    intro y h hK H locs hP
    unfold f_X5_everBehind at h
    refine lv_aload_n hx hb_ dX5_everBehind_0 rfl (lv_at hl 0 rfl) ?_
    refine lv_iconst (v := 1) hx hb_ dX5_everBehind_1 (by decide) ?_
    refine lv_iload_n hx hb_ dX5_everBehind_2 rfl (lv_at hl 1 rfl) ?_
    refine lv_ishl hx hb_ dX5_everBehind_3 ?_
    obtain ⟨q1, hq1, h⟩ := bnd h
    refine w_ci (w_rV (As := [.int ((1 : Int32) <<< (v1 &&& 31))]) (rest := []) C hP (k := 12) (c_X1_directlyBehind l D aI aL ad inj _ σ 12 fl12 ((1 : Int32) <<< (v1 &&& 31)) q1 hq1) (gV wt663 wt664 wt665 wt4 wt666) 1 hd_X1_directlyBehind ⟨Nat.le_of_ble_eq_true rfl, Nat.le_of_ble_eq_true rfl⟩ (by decide) 0 rfl rfl rfl hl.1 rfl (Nat.le_of_ble_eq_true rfl) dX5_everBehind_4) hP (fun H locs hP => ?_)
    refine lv_istore_n (lv' := [(2, .int q1), (0, .ref (ad 12)), (1, .int v1)]) hx hb_ dX5_everBehind_7 rfl hl (by decide) rfl (fun ls hl => ?_)
    refine lv_iconst (v := 0) hx hb_ dX5_everBehind_8 (by decide) ?_
    refine lv_istore_n (lv' := [(3, .int 0), (2, .int q1), (0, .ref (ad 12)), (1, .int v1)]) hx hb_ dX5_everBehind_9 rfl hl (by decide) rfl (fun ls hl => ?_)
    exact bk_10 q1 0 y h hK _ _ _ hP (lv_sub hl [2, 1, 0] rfl)
  exact bk r0 hf rfl _ _ hP
theorem hd_X5_lowestInCircle : yX5_lowestInCircle.cls = RX5 ∧ yX5_lowestInCircle.cls ≠ "java/lang/invoke/MethodHandle" ∧ yX5_lowestInCircle.cls ≠ "java/lang/invoke/VarHandle" ∧ (parseMethodDescriptor yX5_lowestInCircle.desc).map (fun d => d.parameters.length) = some 1 := by decide +kernel
set_option maxHeartbeats 4000000 in
set_option maxRecDepth 100000 in
theorem c_X5_lowestInCircle (l : Launch) (D : va_G) (aI aL : ClassId) (ad : Nat → Nat) (inj : Inj ad 42) (sz : Nat) (σ : Sg) (r0 : Int32) (hf : f_X5_lowestInCircle σ = some r0) : Met l yX5_lowestInCircle (wS yX5_lowestInCircle cX5_lowestInCircle 2 (some .int)) (RM 4 88) (Pw D aI aL 42 shX ad sz σ [.ref (ad 12)]) (Qi D aI aL 42 shX ad r0 σ sz) 0 0 (AA ad 42 sz) := by
  refine Mof (Qc := Qi D aI aL 42 shX ad r0 σ) (by decide) inj (Nat.le_of_ble_eq_true rfl) ?_
  intro p e s m args below meth c ls C hlk hr hP hl
  have hx := C.1.1
  have hb_ := C.1.2.1
  have hown := C.1.2.2.2.1
  have hts := C.1.2.2.2.2
  have hl : lv_has ls 2 [(0, .ref (ad 12))] := hl
  have lp_2 : ∀ (n_2 : Nat) (v1_2 : Int32) (y : Int32), itr n_2 (fun s => f_X5_lowestInCircle_2s s σ) (v1_2) = some y → (fun y => y = r0) y → ∀ (H : Heap) (locs : List Loc) (ls : Array Slot), HS D aI aL 42 shX ad σ s H locs → lv_has ls 2 [(0, .ref (ad 12)), (1, .int v1_2)] → W p l e (RM 4 88) s m args below meth c H locs 0 0 (MQ below (Qi D aI aL 42 shX ad r0 σ s.heap.size) args s 0 0 (AA ad 42 s.heap.size)) (F0 m 2 ls []) := by
    intro n_2
    induction n_2 with
    | zero =>
      intro v1_2 y h hK
      cases (show (none : Option Int32) = some y from h)
    | succ n_2 ih_2 =>
      intro v1_2 y h hK H locs ls hP hl
      obtain ⟨y, h, hK⟩ := itr_inv (K := (fun y => y = r0)) h hK
      replace h : f_X5_lowestInCircle_2s v1_2 σ = some y := h
      unfold f_X5_lowestInCircle_2s at h
      refine lv_iload_n hx hb_ dX5_lowestInCircle_2 rfl (lv_at hl 1 rfl) ?_
      refine lv_aload_n hx hb_ dX5_lowestInCircle_3 rfl (lv_at hl 0 rfl) ?_
      obtain ⟨q1, hq1, h⟩ := bnd h
      refine w_ci (w_rV (As := []) (rest := [.int v1_2]) C hP (k := 12) (c_X1_stoneCount l D aI aL ad inj _ σ 12 fl12 q1 hq1) (gV wt659 wt360 wt361 wt4 wt362) 0 hd_X1_stoneCount ⟨Nat.le_of_ble_eq_true rfl, Nat.le_of_ble_eq_true rfl⟩ (by decide) 0 rfl rfl rfl hl.1 rfl (Nat.le_of_ble_eq_true rfl) dX5_lowestInCircle_4) hP (fun H locs hP => ?_)
      refine lv_icmp_ge (tgt := 30) hx hb_ dX5_lowestInCircle_7 (by decide) (fun hc => ?_) (fun hc => ?_)
      · replace h := ift h hc
        refine lv_bipush (v := (-4)) hx hb_ dX5_lowestInCircle_30 (by decide) ?_
        obtain rfl := Option.some.inj h
        have hK : ((-4) : Int32) = r0 := hK
        exact w_iret C hlk hr hP hK rfl dX5_lowestInCircle_32
      · replace h := iff' h hc
        refine lv_aload_n hx hb_ dX5_lowestInCircle_10 rfl (lv_at hl 0 rfl) ?_
        refine lv_iload_n hx hb_ dX5_lowestInCircle_11 rfl (lv_at hl 1 rfl) ?_
        obtain ⟨q2, hq2, h⟩ := bnd h
        refine w_ci (w_rS (As := [.ref (ad 12), .int v1_2]) (rest := []) C hP (c_X5_everBehind l D aI aL ad inj _ σ v1_2 q2 hq2) wt660 wt661 wt15 wt662 2 hd_X5_everBehind ⟨Nat.le_of_ble_eq_true rfl, Nat.le_of_ble_eq_true rfl⟩ rfl hl.1 rfl (Nat.le_of_ble_eq_true rfl) dX5_lowestInCircle_12) hP (fun H locs hP => ?_)
        refine lv_iload_n hx hb_ dX5_lowestInCircle_15 rfl (lv_at hl 1 rfl) ?_
        obtain ⟨q3, hq3, h⟩ := bnd h
        refine w_ci (w_rN (As := [.int q2, .int v1_2]) (rest := []) C hP (c_X8_has l D aI aL ad inj _ σ q2 v1_2 q3 hq3) nw24 wt468 wt1 wt469 2 hd_X8_has ⟨Nat.le_of_ble_eq_true rfl, Nat.le_of_ble_eq_true rfl⟩ rfl hl.1 rfl (Nat.le_of_ble_eq_true rfl) dX5_lowestInCircle_16) hP (fun H locs hP => ?_)
        refine lv_if_eq (tgt := 24) hx hb_ dX5_lowestInCircle_19 (by decide) (fun hc => ?_) (fun hc => ?_)
        · replace h := ift h hc
          obtain ⟨x4, hx4, h⟩ := nm_inv h
          refine lv_iinc (v := x4) (lv' := [(1, .int x4), (0, .ref (ad 12))]) hx hb_ dX5_lowestInCircle_24 hl (k := 1) rfl (by rw [hx4]; rfl) (by decide) rfl (fun ls hl => ?_)
          refine lv_goto (tgt := 2) hx hb_ dX5_lowestInCircle_27 (by decide) ?_
          obtain rfl := Option.some.inj h
          obtain ⟨y2, h, hK⟩ := hK
          exact ih_2 x4 y2 h hK _ _ _ hP (lv_sub hl [1, 0] rfl)
        · replace h := iff' h hc
          refine lv_iload_n hx hb_ dX5_lowestInCircle_22 rfl (lv_at hl 1 rfl) ?_
          obtain rfl := Option.some.inj h
          have hK : (v1_2 : Int32) = r0 := hK
          exact w_iret C hlk hr hP hK rfl dX5_lowestInCircle_23
  have bk_2 : ∀ (v1_2 : Int32) (y : Int32), f_X5_lowestInCircle_2 v1_2 σ = some y → (fun y => y = r0) y → ∀ (H : Heap) (locs : List Loc) (ls : Array Slot), HS D aI aL 42 shX ad σ s H locs → lv_has ls 2 [(0, .ref (ad 12)), (1, .int v1_2)] → W p l e (RM 4 88) s m args below meth c H locs 0 0 (MQ below (Qi D aI aL 42 shX ad r0 σ s.heap.size) args s 0 0 (AA ad 42 s.heap.size)) (F0 m 2 ls []) := fun v1_2 y h hK => lp_2 3000 v1_2 y h hK
  have bk : ∀ (y : Int32), f_X5_lowestInCircle σ = some y → y = r0 → ∀ (H : Heap) (locs : List Loc), HS D aI aL 42 shX ad σ s H locs → W p l e (RM 4 88) s m args below meth c H locs 0 0 (MQ below (Qi D aI aL 42 shX ad r0 σ s.heap.size) args s 0 0 (AA ad 42 s.heap.size)) (F0 m 0 ls []) := by
    intro y h hK H locs hP
    unfold f_X5_lowestInCircle at h
    refine lv_iconst (v := 0) hx hb_ dX5_lowestInCircle_0 (by decide) ?_
    refine lv_istore_n (lv' := [(1, .int 0), (0, .ref (ad 12))]) hx hb_ dX5_lowestInCircle_1 rfl hl (by decide) rfl (fun ls hl => ?_)
    exact bk_2 0 y h hK _ _ _ hP (lv_sub hl [1, 0] rfl)
  exact bk r0 hf rfl _ _ hP
theorem hd_X5_depth : yX5_depth.cls = RX5 ∧ yX5_depth.cls ≠ "java/lang/invoke/MethodHandle" ∧ yX5_depth.cls ≠ "java/lang/invoke/VarHandle" ∧ (parseMethodDescriptor yX5_depth.desc).map (fun d => d.parameters.length) = some 1 := by decide +kernel
set_option maxHeartbeats 4000000 in
set_option maxRecDepth 100000 in
theorem c_X5_depth (l : Launch) (D : va_G) (aI aL : ClassId) (ad : Nat → Nat) (inj : Inj ad 42) (sz : Nat) (σ : Sg) (r0 : Int32) (hf : f_X5_depth σ = some r0) : Met l yX5_depth (wS yX5_depth cX5_depth 3 (some .int)) (RM 3 65) (Pw D aI aL 42 shX ad sz σ [.ref (ad 12)]) (Qi D aI aL 42 shX ad r0 σ sz) 0 0 (AA ad 42 sz) := by
  refine Mof (Qc := Qi D aI aL 42 shX ad r0 σ) (by decide) inj (Nat.le_of_ble_eq_true rfl) ?_
  intro p e s m args below meth c ls C hlk hr hP hl
  have hx := C.1.1
  have hb_ := C.1.2.1
  have hown := C.1.2.2.2.1
  have hts := C.1.2.2.2.2
  have hl : lv_has ls 3 [(0, .ref (ad 12))] := hl
  have lp_7 : ∀ (n_7 : Nat) (v1_7 : Int32) (v2_7 : Int32) (y : Int32), itr n_7 (fun s => f_X5_depth_7s s.1 s.2 σ) (v1_7, v2_7) = some y → (fun y => y = r0) y → ∀ (H : Heap) (locs : List Loc) (ls : Array Slot), HS D aI aL 42 shX ad σ s H locs → lv_has ls 3 [(0, .ref (ad 12)), (1, .int v1_7), (2, .int v2_7)] → W p l e (RM 3 65) s m args below meth c H locs 0 0 (MQ below (Qi D aI aL 42 shX ad r0 σ s.heap.size) args s 0 0 (AA ad 42 s.heap.size)) (F0 m 7 ls []) := by
    intro n_7
    induction n_7 with
    | zero =>
      intro v1_7 v2_7 y h hK
      cases (show (none : Option Int32) = some y from h)
    | succ n_7 ih_7 =>
      intro v1_7 v2_7 y h hK H locs ls hP hl
      obtain ⟨y, h, hK⟩ := itr_inv (K := (fun y => y = r0)) h hK
      replace h : f_X5_depth_7s v1_7 v2_7 σ = some y := h
      unfold f_X5_depth_7s at h
      refine lv_iload_n hx hb_ dX5_depth_7 rfl (lv_at hl 2 rfl) ?_
      refine lv_bipush (v := 10) hx hb_ dX5_depth_8 (by decide) ?_
      refine lv_icmp_ge (tgt := 31) hx hb_ dX5_depth_10 (by decide) (fun hc => ?_) (fun hc => ?_)
      · replace h := ift h hc
        refine lv_bipush (v := (-4)) hx hb_ dX5_depth_31 (by decide) ?_
        obtain rfl := Option.some.inj h
        have hK : ((-4) : Int32) = r0 := hK
        exact w_iret C hlk hr hP hK rfl dX5_depth_33
      · replace h := iff' h hc
        refine lv_aload_n hx hb_ dX5_depth_13 rfl (lv_at hl 0 rfl) ?_
        refine lv_iload_n hx hb_ dX5_depth_14 rfl (lv_at hl 1 rfl) ?_
        obtain ⟨q2, hq2, h⟩ := bnd h
        refine w_ci (w_rV (As := [.int v1_7]) (rest := []) C hP (k := 12) (c_X1_directlyBehind l D aI aL ad inj _ σ 12 fl12 v1_7 q2 hq2) (gV wt663 wt664 wt665 wt4 wt666) 1 hd_X1_directlyBehind ⟨Nat.le_of_ble_eq_true rfl, Nat.le_of_ble_eq_true rfl⟩ (by decide) 0 rfl rfl rfl hl.1 rfl (Nat.le_of_ble_eq_true rfl) dX5_depth_15) hP (fun H locs hP => ?_)
        refine lv_istore_n (lv' := [(1, .int q2), (0, .ref (ad 12)), (2, .int v2_7)]) hx hb_ dX5_depth_18 rfl hl (by decide) rfl (fun ls hl => ?_)
        refine lv_iload_n hx hb_ dX5_depth_19 rfl (lv_at hl 0 rfl) ?_
        refine lv_if_ne (tgt := 25) hx hb_ dX5_depth_20 (by decide) (fun hc => ?_) (fun hc => ?_)
        · replace h := iff' h hc
          obtain ⟨x3, hx3, h⟩ := nm_inv h
          refine lv_iinc (v := x3) (lv' := [(2, .int x3), (1, .int q2), (0, .ref (ad 12))]) hx hb_ dX5_depth_25 hl (k := 2) rfl (by rw [hx3]; rfl) (by decide) rfl (fun ls hl => ?_)
          refine lv_goto (tgt := 7) hx hb_ dX5_depth_28 (by decide) ?_
          obtain rfl := Option.some.inj h
          obtain ⟨y2, h, hK⟩ := hK
          exact ih_7 q2 x3 y2 h hK _ _ _ hP (lv_sub hl [2, 1, 0] rfl)
        · replace h := ift h hc
          refine lv_iload_n hx hb_ dX5_depth_23 rfl (lv_at hl 2 rfl) ?_
          obtain rfl := Option.some.inj h
          have hK : (v2_7 : Int32) = r0 := hK
          exact w_iret C hlk hr hP hK rfl dX5_depth_24
  have bk_7 : ∀ (v1_7 : Int32) (v2_7 : Int32) (y : Int32), f_X5_depth_7 v1_7 v2_7 σ = some y → (fun y => y = r0) y → ∀ (H : Heap) (locs : List Loc) (ls : Array Slot), HS D aI aL 42 shX ad σ s H locs → lv_has ls 3 [(0, .ref (ad 12)), (1, .int v1_7), (2, .int v2_7)] → W p l e (RM 3 65) s m args below meth c H locs 0 0 (MQ below (Qi D aI aL 42 shX ad r0 σ s.heap.size) args s 0 0 (AA ad 42 s.heap.size)) (F0 m 7 ls []) := fun v1_7 v2_7 y h hK => lp_7 3000 v1_7 v2_7 y h hK
  have bk : ∀ (y : Int32), f_X5_depth σ = some y → y = r0 → ∀ (H : Heap) (locs : List Loc), HS D aI aL 42 shX ad σ s H locs → W p l e (RM 3 65) s m args below meth c H locs 0 0 (MQ below (Qi D aI aL 42 shX ad r0 σ s.heap.size) args s 0 0 (AA ad 42 s.heap.size)) (F0 m 0 ls []) := by
    intro y h hK H locs hP
    unfold f_X5_depth at h
    refine lv_aload_n hx hb_ dX5_depth_0 rfl (lv_at hl 0 rfl) ?_
    obtain ⟨q1, hq1, h⟩ := bnd h
    refine w_ci (w_rV (As := []) (rest := []) C hP (k := 12) (c_X1_allStones l D aI aL ad inj _ σ 12 fl12 q1 hq1) (gV wt648 wt209 wt210 wt4 wt211) 0 hd_X1_allStones ⟨Nat.le_of_ble_eq_true rfl, Nat.le_of_ble_eq_true rfl⟩ (by decide) 0 rfl rfl rfl hl.1 rfl (Nat.le_of_ble_eq_true rfl) dX5_depth_1) hP (fun H locs hP => ?_)
    refine lv_istore_n (lv' := [(1, .int q1), (0, .ref (ad 12))]) hx hb_ dX5_depth_4 rfl hl (by decide) rfl (fun ls hl => ?_)
    refine lv_iconst (v := 0) hx hb_ dX5_depth_5 (by decide) ?_
    refine lv_istore_n (lv' := [(2, .int 0), (1, .int q1), (0, .ref (ad 12))]) hx hb_ dX5_depth_6 rfl hl (by decide) rfl (fun ls hl => ?_)
    exact bk_7 q1 0 y h hK _ _ _ hP (lv_sub hl [2, 1, 0] rfl)
  exact bk r0 hf rfl _ _ hP
theorem hd_X6_clear : yX6_clear.cls = RX6 ∧ yX6_clear.cls ≠ "java/lang/invoke/MethodHandle" ∧ yX6_clear.cls ≠ "java/lang/invoke/VarHandle" ∧ (parseMethodDescriptor yX6_clear.desc).map (fun d => d.parameters.length) = some 0 := by decide +kernel
set_option maxHeartbeats 4000000 in
set_option maxRecDepth 100000 in
theorem c_X6_clear (l : Launch) (D : va_G) (aI aL : ClassId) (ad : Nat → Nat) (inj : Inj ad 42) (sz : Nat) (σ : Sg) (r0 : Sg) (hf : f_X6_clear σ = some r0) : Met l yX6_clear (wS yX6_clear cX6_clear 1 (none : Option Jvm.ClassFile.FieldType)) (RM 0 0) (Pw D aI aL 42 shX ad sz σ [.ref (ad 1)]) (Qv D aI aL 42 shX ad r0 sz) 0 0 (AA ad 42 sz) := by
  refine Mof (Qc := Qv D aI aL 42 shX ad r0) (by decide) inj (Nat.le_of_ble_eq_true rfl) ?_
  intro p e s m args below meth c ls C hlk hr hP hl
  have hx := C.1.1
  have hb_ := C.1.2.1
  have hown := C.1.2.2.2.1
  have hts := C.1.2.2.2.2
  have hl : lv_has ls 1 [(0, .ref (ad 1))] := hl
  have bk : ∀ (y : Sg), f_X6_clear σ = some y → y = r0 → ∀ (H : Heap) (locs : List Loc), HS D aI aL 42 shX ad σ s H locs → W p l e (RM 0 0) s m args below meth c H locs 0 0 (MQ below (Qv D aI aL 42 shX ad r0 s.heap.size) args s 0 0 (AA ad 42 s.heap.size)) (F0 m 0 ls []) := by
    intro y h hK H locs hP
    unfold f_X6_clear at h
    refine lv_aload_n hx hb_ dX6_clear_0 rfl (lv_at hl 0 rfl) ?_
    refine lv_iconst (v := 0) hx hb_ dX6_clear_1 (by decide) ?_
    obtain ⟨s1, hs1, h⟩ := bnd h
    refine w_puti C hP (k := 1) (by decide) 4 rfl rfl inWX6 tyX6 tyX6_ok nmX6 1 (by decide) wt31 rfl rfl rfl rfl hs1 dX6_clear_2 (fun H locs hP => ?_)
    obtain rfl := Option.some.inj h
    have hK : s1 = r0 := hK
    exact w_vret C hlk hr hP hK dX6_clear_5
  exact bk r0 hf rfl _ _ hP
theorem hd_X6_addByte : yX6_addByte.cls = RX6 ∧ yX6_addByte.cls ≠ "java/lang/invoke/MethodHandle" ∧ yX6_addByte.cls ≠ "java/lang/invoke/VarHandle" ∧ (parseMethodDescriptor yX6_addByte.desc).map (fun d => d.parameters.length) = some 1 := by decide +kernel
set_option maxHeartbeats 4000000 in
set_option maxRecDepth 100000 in
theorem c_X6_addByte (l : Launch) (D : va_G) (aI aL : ClassId) (ad : Nat → Nat) (inj : Inj ad 42) (sz : Nat) (σ : Sg) (v1 : Int32) (r0 : Sg) (hf : f_X6_addByte v1 σ = some r0) : Met l yX6_addByte (wS yX6_addByte cX6_addByte 2 (none : Option Jvm.ClassFile.FieldType)) (RM 1 22) (Pw D aI aL 42 shX ad sz σ [.ref (ad 1), .int v1]) (Qv D aI aL 42 shX ad r0 sz) 0 0 (AA ad 42 sz) := by
  refine Mof (Qc := Qv D aI aL 42 shX ad r0) (by decide) inj (Nat.le_of_ble_eq_true rfl) ?_
  intro p e s m args below meth c ls C hlk hr hP hl
  have hx := C.1.1
  have hb_ := C.1.2.1
  have hown := C.1.2.2.2.1
  have hts := C.1.2.2.2.2
  have hl : lv_has ls 2 [(0, .ref (ad 1)), (1, .int v1)] := hl
  have bk_32 : ∀ (s_32 : Sg) (y : Sg), f_X6_addByte_32 s_32 = some y → (fun y => y = r0) y → ∀ (H : Heap) (locs : List Loc) (ls : Array Slot), HS D aI aL 42 shX ad s_32 s H locs → lv_has ls 2 [] → W p l e (RM 1 22) s m args below meth c H locs 0 0 (MQ below (Qv D aI aL 42 shX ad r0 s.heap.size) args s 0 0 (AA ad 42 s.heap.size)) (F0 m 32 ls []) := by
    intro s_32 y h hK H locs ls hP hl
    unfold f_X6_addByte_32 at h
    obtain rfl := Option.some.inj h
    have hK : s_32 = r0 := hK
    exact w_vret C hlk hr hP hK dX6_addByte_32
  have bk : ∀ (y : Sg), f_X6_addByte v1 σ = some y → y = r0 → ∀ (H : Heap) (locs : List Loc), HS D aI aL 42 shX ad σ s H locs → W p l e (RM 1 22) s m args below meth c H locs 0 0 (MQ below (Qv D aI aL 42 shX ad r0 s.heap.size) args s 0 0 (AA ad 42 s.heap.size)) (F0 m 0 ls []) := by
    intro y h hK H locs hP
    unfold f_X6_addByte at h
    refine lv_aload_n hx hb_ dX6_addByte_0 rfl (lv_at hl 0 rfl) ?_
    refine w_get C hP (k := 1) (by decide) 4 rfl rfl inWX6 1 (by decide) wt31 (v := .int (σ.1 1 1)) rfl dX6_addByte_1 ?_
    refine lv_sipush (v := 300) hx hb_ dX6_addByte_4 (by decide) ?_
    refine lv_icmp_ge (tgt := 32) hx hb_ dX6_addByte_7 (by decide) (fun hc => ?_) (fun hc => ?_)
    · replace h := ift h hc
      exact bk_32 σ y h hK _ _ _ hP (lv_sub hl [] rfl)
    · replace h := iff' h hc
      refine lv_aload_n hx hb_ dX6_addByte_10 rfl (lv_at hl 0 rfl) ?_
      refine w_get C hP (k := 1) (by decide) 4 rfl rfl inWX6 0 (by decide) wt30 (v := .ref (ad 2)) rfl dX6_addByte_11 ?_
      refine lv_aload_n hx hb_ dX6_addByte_14 rfl (lv_at hl 0 rfl) ?_
      refine w_get C hP (k := 1) (by decide) 4 rfl rfl inWX6 1 (by decide) wt31 (v := .int (σ.1 1 1)) rfl dX6_addByte_15 ?_
      refine lv_iload_n hx hb_ dX6_addByte_18 rfl (lv_at hl 1 rfl) ?_
      obtain ⟨q1, hq1, h⟩ := bnd h
      refine w_cv (w_rN (As := [.ref (ad 2), .int (σ.1 1 1), .int v1]) (rest := []) C hP (c_X8_put l D aI aL ad inj _ σ 2 300 (by decide) rfl (σ.1 1 1) v1 q1 hq1) nw6 wt191 wt1 wt192 3 hd_X8_put ⟨Nat.le_of_ble_eq_true rfl, Nat.le_of_ble_eq_true rfl⟩ rfl hl.1 rfl (Nat.le_of_ble_eq_true rfl) dX6_addByte_19) hP (fun H locs hP => ?_)
      refine lv_aload_n hx hb_ dX6_addByte_22 rfl (lv_at hl 0 rfl) ?_
      refine lv_dup hx hb_ dX6_addByte_23 rfl ?_
      refine w_get C hP (k := 1) (by decide) 4 rfl rfl inWX6 1 (by decide) wt31 (v := .int (q1.1 1 1)) rfl dX6_addByte_24 ?_
      refine lv_iconst (v := 1) hx hb_ dX6_addByte_27 (by decide) ?_
      refine lv_iadd hx hb_ dX6_addByte_28 ?_
      obtain ⟨s2, hs2, h⟩ := bnd h
      refine w_puti C hP (k := 1) (by decide) 4 rfl rfl inWX6 tyX6 tyX6_ok nmX6 1 (by decide) wt31 rfl rfl rfl rfl hs2 dX6_addByte_29 (fun H locs hP => ?_)
      exact bk_32 s2 y h hK _ _ _ hP (lv_sub hl [] rfl)
  exact bk r0 hf rfl _ _ hP
theorem hd_X7_measureFrom : yX7_measureFrom.cls = RX7 ∧ yX7_measureFrom.cls ≠ "java/lang/invoke/MethodHandle" ∧ yX7_measureFrom.cls ≠ "java/lang/invoke/VarHandle" ∧ (parseMethodDescriptor yX7_measureFrom.desc).map (fun d => d.parameters.length) = some 3 := by decide +kernel
set_option maxHeartbeats 4000000 in
set_option maxRecDepth 100000 in
theorem c_X7_measureFrom (l : Launch) (D : va_G) (aI aL : ClassId) (ad : Nat → Nat) (inj : Inj ad 42) (sz : Nat) (σ : Sg) (v2 : Int32) (v3 : Int32) (r0 : Sg) (hf : f_X7_measureFrom v2 v3 σ = some r0) : Met l yX7_measureFrom (wS yX7_measureFrom cX7_measureFrom 9 (none : Option Jvm.ClassFile.FieldType)) (RM 3 67) (Pw D aI aL 42 shX ad sz σ [.ref (ad 36), .ref (ad 12), .int v2, .int v3]) (Qv D aI aL 42 shX ad r0 sz) 0 0 (AA ad 42 sz) := by
  refine Mof (Qc := Qv D aI aL 42 shX ad r0) (by decide) inj (Nat.le_of_ble_eq_true rfl) ?_
  intro p e s m args below meth c ls C hlk hr hP hl
  have hx := C.1.1
  have hb_ := C.1.2.1
  have hown := C.1.2.2.2.1
  have hts := C.1.2.2.2.2
  have hl : lv_has ls 9 [(0, .ref (ad 36)), (1, .ref (ad 12)), (2, .int v2), (3, .int v3)] := hl
  have bk_109 : ∀ (v4_109 : Int32) (v5_109 : Int32) (s_109 : Sg) (y : Sg), f_X7_measureFrom_109 v2 v4_109 v5_109 s_109 = some y → (fun y => y = r0) y → ∀ (H : Heap) (locs : List Loc) (ls : Array Slot), HS D aI aL 42 shX ad s_109 s H locs → lv_has ls 9 [(0, .ref (ad 36)), (2, .int v2), (4, .int v4_109), (5, .int v5_109)] → W p l e (RM 3 67) s m args below meth c H locs 0 0 (MQ below (Qv D aI aL 42 shX ad r0 s.heap.size) args s 0 0 (AA ad 42 s.heap.size)) (F0 m 109 ls []) := by
    intro v4_109 v5_109 s_109 y h hK H locs ls hP hl
    unfold f_X7_measureFrom_109 at h
    refine lv_aload_n hx hb_ dX7_measureFrom_109 rfl (lv_at hl 0 rfl) ?_
    refine w_get C hP (k := 36) (by decide) 5 rfl rfl inWX7 0 (by decide) wt113 (v := .ref (ad 37)) rfl dX7_measureFrom_110 ?_
    refine lv_iload_n hx hb_ dX7_measureFrom_113 rfl (lv_at hl 1 rfl) ?_
    refine lv_iload hx hb_ dX7_measureFrom_114 (lv_at hl 2 rfl) ?_
    obtain ⟨q3, hq3, h⟩ := bnd h
    refine w_cv (w_rN (As := [.ref (ad 37), .int v2, .int v4_109]) (rest := []) C hP (c_X8_put l D aI aL ad inj _ s_109 37 1024 (by decide) rfl v2 v4_109 q3 hq3) nw21 wt191 wt1 wt192 3 hd_X8_put ⟨Nat.le_of_ble_eq_true rfl, Nat.le_of_ble_eq_true rfl⟩ rfl hl.1 rfl (Nat.le_of_ble_eq_true rfl) dX7_measureFrom_116) hP (fun H locs hP => ?_)
    refine lv_aload_n hx hb_ dX7_measureFrom_119 rfl (lv_at hl 0 rfl) ?_
    refine w_get C hP (k := 36) (by decide) 5 rfl rfl inWX7 1 (by decide) wt114 (v := .ref (ad 38)) rfl dX7_measureFrom_120 ?_
    refine lv_iload_n hx hb_ dX7_measureFrom_123 rfl (lv_at hl 1 rfl) ?_
    refine lv_iload hx hb_ dX7_measureFrom_124 (lv_at hl 3 rfl) ?_
    obtain ⟨q4, hq4, h⟩ := bnd h
    refine w_cv (w_rN (As := [.ref (ad 38), .int v2, .int v5_109]) (rest := []) C hP (c_X8_put l D aI aL ad inj _ q3 38 1024 (by decide) rfl v2 v5_109 q4 hq4) nw21 wt191 wt1 wt192 3 hd_X8_put ⟨Nat.le_of_ble_eq_true rfl, Nat.le_of_ble_eq_true rfl⟩ rfl hl.1 rfl (Nat.le_of_ble_eq_true rfl) dX7_measureFrom_126) hP (fun H locs hP => ?_)
    obtain rfl := Option.some.inj h
    have hK : q4 = r0 := hK
    exact w_vret C hlk hr hP hK dX7_measureFrom_129
  have lp_25 : ∀ (s_25 : Sg) (n_25 : Nat) (v4_25 : Int32) (v5_25 : Int32) (v6_25 : Int32) (y : Sg), itr n_25 (fun s => f_X7_measureFrom_25s v2 s.1 s.2.1 s.2.2 s_25) (v4_25, v5_25, v6_25) = some y → (fun y => y = r0) y → ∀ (H : Heap) (locs : List Loc) (ls : Array Slot), HS D aI aL 42 shX ad s_25 s H locs → lv_has ls 9 [(0, .ref (ad 36)), (1, .ref (ad 12)), (2, .int v2), (4, .int v4_25), (5, .int v5_25), (6, .int v6_25)] → W p l e (RM 3 67) s m args below meth c H locs 0 0 (MQ below (Qv D aI aL 42 shX ad r0 s.heap.size) args s 0 0 (AA ad 42 s.heap.size)) (F0 m 25 ls []) := by
    intro s_25 n_25
    induction n_25 with
    | zero =>
      intro v4_25 v5_25 v6_25 y h hK
      cases (show (none : Option Sg) = some y from h)
    | succ n_25 ih_25 =>
      have bk_103 : ∀ (v4_103 : Int32) (v5_103 : Int32) (v6_103 : Int32) (y : ((Int32 × Int32 × Int32) ⊕ Sg)), f_X7_measureFrom_103 v2 v4_103 v5_103 v6_103 s_25 = some y → (KK n_25 (fun s => f_X7_measureFrom_25s v2 s.1 s.2.1 s.2.2 s_25) (fun y => y = r0)) y → ∀ (H : Heap) (locs : List Loc) (ls : Array Slot), HS D aI aL 42 shX ad s_25 s H locs → lv_has ls 9 [(0, .ref (ad 36)), (1, .ref (ad 12)), (2, .int v2), (4, .int v4_103), (5, .int v5_103), (6, .int v6_103)] → W p l e (RM 3 67) s m args below meth c H locs 0 0 (MQ below (Qv D aI aL 42 shX ad r0 s.heap.size) args s 0 0 (AA ad 42 s.heap.size)) (F0 m 103 ls []) := by
        intro v4_103 v5_103 v6_103 y h hK H locs ls hP hl
        unfold f_X7_measureFrom_103 at h
        obtain ⟨x8, hx8, h⟩ := nm_inv h
        refine lv_iinc (v := x8) (lv' := [(6, .int x8), (0, .ref (ad 36)), (1, .ref (ad 12)), (2, .int v2), (4, .int v4_103), (5, .int v5_103)]) hx hb_ dX7_measureFrom_103 hl (k := 5) rfl (by rw [hx8]; rfl) (by decide) rfl (fun ls hl => ?_)
        refine lv_goto (tgt := 25) hx hb_ dX7_measureFrom_106 (by decide) ?_
        obtain rfl := Option.some.inj h
        obtain ⟨y2, h, hK⟩ := hK
        exact ih_25 v4_103 v5_103 x8 y2 h hK _ _ _ hP (lv_sub hl [1, 2, 3, 4, 5, 0] rfl)
      have bk_96 : ∀ (v6_96 : Int32) (v8_96 : Int32) (t0_96 : Int32) (t1_96 : Int32) (y : ((Int32 × Int32 × Int32) ⊕ Sg)), f_X7_measureFrom_96 v2 v6_96 v8_96 t0_96 t1_96 s_25 = some y → (KK n_25 (fun s => f_X7_measureFrom_25s v2 s.1 s.2.1 s.2.2 s_25) (fun y => y = r0)) y → ∀ (H : Heap) (locs : List Loc) (ls : Array Slot), HS D aI aL 42 shX ad s_25 s H locs → lv_has ls 9 [(0, .ref (ad 36)), (1, .ref (ad 12)), (2, .int v2), (6, .int v6_96), (8, .int v8_96)] → W p l e (RM 3 67) s m args below meth c H locs 0 0 (MQ below (Qv D aI aL 42 shX ad r0 s.heap.size) args s 0 0 (AA ad 42 s.heap.size)) (F0 m 96 ls [.int t1_96, .int t0_96]) := by
        intro v6_96 v8_96 t0_96 t1_96 y h hK H locs ls hP hl
        unfold f_X7_measureFrom_96 at h
        refine lv_iadd hx hb_ dX7_measureFrom_96 ?_
        obtain ⟨x10, hx10, h⟩ := nm_inv h
        refine w_ni hx10 ?_
        refine lv_istore (lv' := [(5, .int x10), (0, .ref (ad 36)), (1, .ref (ad 12)), (2, .int v2), (6, .int v6_96), (8, .int v8_96)]) hx hb_ dX7_measureFrom_97 hl (by decide) rfl (fun ls hl => ?_)
        refine lv_iload hx hb_ dX7_measureFrom_99 (lv_at hl 5 rfl) ?_
        refine lv_istore (lv' := [(4, .int v8_96), (5, .int x10), (0, .ref (ad 36)), (1, .ref (ad 12)), (2, .int v2), (6, .int v6_96), (8, .int v8_96)]) hx hb_ dX7_measureFrom_101 hl (by decide) rfl (fun ls hl => ?_)
        exact bk_103 v8_96 x10 v6_96 y h hK _ _ _ hP (lv_sub hl [2, 3, 4, 0, 1, 5] rfl)
      intro v4_25 v5_25 v6_25 y h hK H locs ls hP hl
      obtain ⟨y, h, hK⟩ := itr_inv (K := (fun y => y = r0)) h hK
      replace h : f_X7_measureFrom_25s v2 v4_25 v5_25 v6_25 s_25 = some y := h
      unfold f_X7_measureFrom_25s at h
      refine lv_iload hx hb_ dX7_measureFrom_25 (lv_at hl 5 rfl) ?_
      refine lv_aload_n hx hb_ dX7_measureFrom_27 rfl (lv_at hl 1 rfl) ?_
      obtain ⟨q2, hq2, h⟩ := bnd h
      refine w_ci (w_rV (As := []) (rest := [.int v6_25]) C hP (k := 12) (c_X1_stepCount l D aI aL ad inj _ s_25 12 fl12 q2 hq2) (gV wt546 wt341 wt342 wt4 wt343) 0 hd_X1_stepCount ⟨Nat.le_of_ble_eq_true rfl, Nat.le_of_ble_eq_true rfl⟩ (by decide) 0 rfl rfl rfl hl.1 rfl (Nat.le_of_ble_eq_true rfl) dX7_measureFrom_28) hP (fun H locs hP => ?_)
      refine lv_icmp_ge (tgt := 109) hx hb_ dX7_measureFrom_31 (by decide) (fun hc => ?_) (fun hc => ?_)
      · replace h := ift h hc
        obtain ⟨y2, h2, rfl⟩ := mapi h
        exact bk_109 v4_25 v5_25 s_25 y2 h2 hK _ _ _ hP (lv_sub hl [0, 2, 3, 4] rfl)
      · replace h := iff' h hc
        refine lv_iload hx hb_ dX7_measureFrom_34 (lv_at hl 3 rfl) ?_
        refine lv_if_le (tgt := 109) hx hb_ dX7_measureFrom_36 (by decide) (fun hc => ?_) (fun hc => ?_)
        · replace h := ift h hc
          obtain ⟨y2, h2, rfl⟩ := mapi h
          exact bk_109 v4_25 v5_25 s_25 y2 h2 hK _ _ _ hP (lv_sub hl [0, 2, 3, 4] rfl)
        · replace h := iff' h hc
          refine lv_aload_n hx hb_ dX7_measureFrom_39 rfl (lv_at hl 1 rfl) ?_
          refine lv_iload hx hb_ dX7_measureFrom_40 (lv_at hl 5 rfl) ?_
          refine lv_iload_n hx hb_ dX7_measureFrom_42 rfl (lv_at hl 2 rfl) ?_
          obtain ⟨q5, hq5, h⟩ := bnd h
          refine w_ci (w_rV (As := [.int v6_25, .int v2]) (rest := []) C hP (k := 12) (c_X1_after l D aI aL ad inj _ s_25 12 fl12 v6_25 v2 q5 hq5) (gV wt547 wt420 wt421 wt4 wt422) 2 hd_X1_after ⟨Nat.le_of_ble_eq_true rfl, Nat.le_of_ble_eq_true rfl⟩ (by decide) 0 rfl rfl rfl hl.1 rfl (Nat.le_of_ble_eq_true rfl) dX7_measureFrom_43) hP (fun H locs hP => ?_)
          refine lv_istore (lv' := [(7, .int q5), (0, .ref (ad 36)), (1, .ref (ad 12)), (2, .int v2), (4, .int v4_25), (5, .int v5_25), (6, .int v6_25)]) hx hb_ dX7_measureFrom_46 hl (by decide) rfl (fun ls hl => ?_)
          refine lv_aload_n hx hb_ dX7_measureFrom_48 rfl (lv_at hl 1 rfl) ?_
          refine w_get C hP (k := 36) (by decide) 5 rfl rfl inWX7 0 (by decide) wt113 (v := .ref (ad 37)) rfl dX7_measureFrom_49 ?_
          refine lv_iload hx hb_ dX7_measureFrom_52 (lv_at hl 0 rfl) ?_
          obtain ⟨q6, hq6, h⟩ := bnd h
          refine w_ci (w_rN (As := [.ref (ad 37), .int q5]) (rest := []) C hP (c_X8_at l D aI aL ad inj _ s_25 37 1024 (by decide) rfl q5 q6 hq6) nw20 wt225 wt1 wt226 2 hd_X8_at ⟨Nat.le_of_ble_eq_true rfl, Nat.le_of_ble_eq_true rfl⟩ rfl hl.1 rfl (Nat.le_of_ble_eq_true rfl) dX7_measureFrom_54) hP (fun H locs hP => ?_)
          refine lv_iconst (v := 1) hx hb_ dX7_measureFrom_57 (by decide) ?_
          refine lv_iadd hx hb_ dX7_measureFrom_58 ?_
          obtain ⟨x7, hx7, h⟩ := nm_inv h
          refine w_ni hx7 ?_
          refine lv_istore (lv' := [(8, .int x7), (7, .int q5), (0, .ref (ad 36)), (1, .ref (ad 12)), (2, .int v2), (4, .int v4_25), (5, .int v5_25), (6, .int v6_25)]) hx hb_ dX7_measureFrom_59 hl (by decide) rfl (fun ls hl => ?_)
          refine lv_iload hx hb_ dX7_measureFrom_61 (lv_at hl 1 rfl) ?_
          refine lv_iload_n hx hb_ dX7_measureFrom_63 rfl (lv_at hl 4 rfl) ?_
          refine lv_icmp_eq (tgt := 103) hx hb_ dX7_measureFrom_64 (by decide) (fun hc => ?_) (fun hc => ?_)
          · replace h := ift h hc
            exact bk_103 v4_25 v5_25 v6_25 y h hK _ _ _ hP (lv_sub hl [2, 3, 4, 5, 6, 7] rfl)
          · replace h := iff' h hc
            refine lv_iload hx hb_ dX7_measureFrom_67 (lv_at hl 0 rfl) ?_
            refine lv_iload hx hb_ dX7_measureFrom_69 (lv_at hl 5 rfl) ?_
            refine lv_icmp_gt (tgt := 103) hx hb_ dX7_measureFrom_71 (by decide) (fun hc => ?_) (fun hc => ?_)
            · replace h := ift h hc
              exact bk_103 v4_25 v5_25 v6_25 y h hK _ _ _ hP (lv_sub hl [2, 3, 4, 5, 6, 7] rfl)
            · replace h := iff' h hc
              refine lv_aload_n hx hb_ dX7_measureFrom_74 rfl (lv_at hl 2 rfl) ?_
              refine w_get C hP (k := 36) (by decide) 5 rfl rfl inWX7 1 (by decide) wt114 (v := .ref (ad 38)) rfl dX7_measureFrom_75 ?_
              refine lv_iload hx hb_ dX7_measureFrom_78 (lv_at hl 1 rfl) ?_
              obtain ⟨q9, hq9, h⟩ := bnd h
              refine w_ci (w_rN (As := [.ref (ad 38), .int q5]) (rest := []) C hP (c_X8_at l D aI aL ad inj _ s_25 38 1024 (by decide) rfl q5 q9 hq9) nw20 wt225 wt1 wt226 2 hd_X8_at ⟨Nat.le_of_ble_eq_true rfl, Nat.le_of_ble_eq_true rfl⟩ rfl hl.1 rfl (Nat.le_of_ble_eq_true rfl) dX7_measureFrom_80) hP (fun H locs hP => ?_)
              refine lv_iload hx hb_ dX7_measureFrom_83 (lv_at hl 0 rfl) ?_
              refine lv_iload hx hb_ dX7_measureFrom_85 (lv_at hl 5 rfl) ?_
              refine lv_icmp_ne (tgt := 95) hx hb_ dX7_measureFrom_87 (by decide) (fun hc => ?_) (fun hc => ?_)
              · replace h := iff' h hc
                refine lv_iconst (v := 0) hx hb_ dX7_measureFrom_95 (by decide) ?_
                exact bk_96 v6_25 x7 q9 0 y h hK _ _ _ hP (lv_sub hl [2, 3, 4, 7, 0] rfl)
              · replace h := ift h hc
                refine lv_iload hx hb_ dX7_measureFrom_90 (lv_at hl 6 rfl) ?_
                refine lv_goto (tgt := 96) hx hb_ dX7_measureFrom_92 (by decide) ?_
                exact bk_96 v6_25 x7 q9 v5_25 y h hK _ _ _ hP (lv_sub hl [2, 3, 4, 7, 0] rfl)
  have bk_25 : ∀ (v4_25 : Int32) (v5_25 : Int32) (v6_25 : Int32) (s_25 : Sg) (y : Sg), f_X7_measureFrom_25 v2 v4_25 v5_25 v6_25 s_25 = some y → (fun y => y = r0) y → ∀ (H : Heap) (locs : List Loc) (ls : Array Slot), HS D aI aL 42 shX ad s_25 s H locs → lv_has ls 9 [(0, .ref (ad 36)), (1, .ref (ad 12)), (2, .int v2), (4, .int v4_25), (5, .int v5_25), (6, .int v6_25)] → W p l e (RM 3 67) s m args below meth c H locs 0 0 (MQ below (Qv D aI aL 42 shX ad r0 s.heap.size) args s 0 0 (AA ad 42 s.heap.size)) (F0 m 25 ls []) := fun v4_25 v5_25 v6_25 s_25 y h hK => lp_25 s_25 3000 v4_25 v5_25 v6_25 y h hK
  have bk_22 : ∀ (v4_22 : Int32) (v5_22 : Int32) (s_22 : Sg) (y : Sg), f_X7_measureFrom_22 v2 v4_22 v5_22 s_22 = some y → (fun y => y = r0) y → ∀ (H : Heap) (locs : List Loc) (ls : Array Slot), HS D aI aL 42 shX ad s_22 s H locs → lv_has ls 9 [(0, .ref (ad 36)), (1, .ref (ad 12)), (2, .int v2), (4, .int v4_22), (5, .int v5_22)] → W p l e (RM 3 67) s m args below meth c H locs 0 0 (MQ below (Qv D aI aL 42 shX ad r0 s.heap.size) args s 0 0 (AA ad 42 s.heap.size)) (F0 m 22 ls []) := by
    intro v4_22 v5_22 s_22 y h hK H locs ls hP hl
    unfold f_X7_measureFrom_22 at h
    refine lv_iconst (v := 0) hx hb_ dX7_measureFrom_22 (by decide) ?_
    refine lv_istore (lv' := [(6, .int 0), (0, .ref (ad 36)), (1, .ref (ad 12)), (2, .int v2), (4, .int v4_22), (5, .int v5_22)]) hx hb_ dX7_measureFrom_23 hl (by decide) rfl (fun ls hl => ?_)
    exact bk_25 v4_22 v5_22 0 s_22 y h hK _ _ _ hP (lv_sub hl [1, 2, 3, 4, 5, 0] rfl)
  have bk : ∀ (y : Sg), f_X7_measureFrom v2 v3 σ = some y → y = r0 → ∀ (H : Heap) (locs : List Loc), HS D aI aL 42 shX ad σ s H locs → W p l e (RM 3 67) s m args below meth c H locs 0 0 (MQ below (Qv D aI aL 42 shX ad r0 s.heap.size) args s 0 0 (AA ad 42 s.heap.size)) (F0 m 0 ls []) := by
    intro y h hK H locs hP
    unfold f_X7_measureFrom at h
    refine lv_sipush (v := 1000) hx hb_ dX7_measureFrom_0 (by decide) ?_
    refine lv_istore (lv' := [(4, .int 1000), (0, .ref (ad 36)), (1, .ref (ad 12)), (2, .int v2), (3, .int v3)]) hx hb_ dX7_measureFrom_3 hl (by decide) rfl (fun ls hl => ?_)
    refine lv_iconst (v := 0) hx hb_ dX7_measureFrom_5 (by decide) ?_
    refine lv_istore (lv' := [(5, .int 0), (4, .int 1000), (0, .ref (ad 36)), (1, .ref (ad 12)), (2, .int v2), (3, .int v3)]) hx hb_ dX7_measureFrom_6 hl (by decide) rfl (fun ls hl => ?_)
    refine lv_iload_n hx hb_ dX7_measureFrom_8 rfl (lv_at hl 4 rfl) ?_
    refine lv_iload_n hx hb_ dX7_measureFrom_9 rfl (lv_at hl 5 rfl) ?_
    obtain ⟨q1, hq1, h⟩ := bnd h
    refine w_ci (w_rN (As := [.int v2, .int v3]) (rest := []) C hP (c_X8_has l D aI aL ad inj _ σ v2 v3 q1 hq1) nw19 wt468 wt1 wt469 2 hd_X8_has ⟨Nat.le_of_ble_eq_true rfl, Nat.le_of_ble_eq_true rfl⟩ rfl hl.1 rfl (Nat.le_of_ble_eq_true rfl) dX7_measureFrom_10) hP (fun H locs hP => ?_)
    refine lv_if_eq (tgt := 22) hx hb_ dX7_measureFrom_13 (by decide) (fun hc => ?_) (fun hc => ?_)
    · replace h := ift h hc
      exact bk_22 1000 0 σ y h hK _ _ _ hP (lv_sub hl [2, 3, 4, 1, 0] rfl)
    · replace h := iff' h hc
      refine lv_iconst (v := 0) hx hb_ dX7_measureFrom_16 (by decide) ?_
      refine lv_istore (lv' := [(4, .int 0), (5, .int 0), (0, .ref (ad 36)), (1, .ref (ad 12)), (2, .int v2), (3, .int v3)]) hx hb_ dX7_measureFrom_17 hl (by decide) rfl (fun ls hl => ?_)
      refine lv_iconst (v := 1) hx hb_ dX7_measureFrom_19 (by decide) ?_
      refine lv_istore (lv' := [(5, .int 1), (4, .int 0), (0, .ref (ad 36)), (1, .ref (ad 12)), (2, .int v2), (3, .int v3)]) hx hb_ dX7_measureFrom_20 hl (by decide) rfl (fun ls hl => ?_)
      exact bk_22 0 1 σ y h hK _ _ _ hP (lv_sub hl [2, 3, 4, 1, 0] rfl)
  exact bk r0 hf rfl _ _ hP
theorem hd_X7_measure : yX7_measure.cls = RX7 ∧ yX7_measure.cls ≠ "java/lang/invoke/MethodHandle" ∧ yX7_measure.cls ≠ "java/lang/invoke/VarHandle" ∧ (parseMethodDescriptor yX7_measure.desc).map (fun d => d.parameters.length) = some 2 := by decide +kernel
set_option maxHeartbeats 4000000 in
set_option maxRecDepth 100000 in
theorem c_X7_measure (l : Launch) (D : va_G) (aI aL : ClassId) (ad : Nat → Nat) (inj : Inj ad 42) (sz : Nat) (σ : Sg) (v2 : Int32) (r0 : Sg) (hf : f_X7_measure v2 σ = some r0) : Met l yX7_measure (wS yX7_measure cX7_measure 5 (none : Option Jvm.ClassFile.FieldType)) (RM 4 95) (Pw D aI aL 42 shX ad sz σ [.ref (ad 36), .ref (ad 12), .int v2]) (Qv D aI aL 42 shX ad r0 sz) 0 0 (AA ad 42 sz) := by
  refine Mof (Qc := Qv D aI aL 42 shX ad r0) (by decide) inj (Nat.le_of_ble_eq_true rfl) ?_
  intro p e s m args below meth c ls C hlk hr hP hl
  have hx := C.1.1
  have hb_ := C.1.2.1
  have hown := C.1.2.2.2.1
  have hts := C.1.2.2.2.2
  have hl : lv_has ls 5 [(0, .ref (ad 36)), (1, .ref (ad 12)), (2, .int v2)] := hl
  have lp_11 : ∀ (v3_11 : Int32) (n_11 : Nat) (v4_11 : Int32) (s_11 : Sg) (y : Sg), itr n_11 (fun s => f_X7_measure_11s v2 v3_11 s.1 s.2) (v4_11, s_11) = some y → (fun y => y = r0) y → ∀ (H : Heap) (locs : List Loc) (ls : Array Slot), HS D aI aL 42 shX ad s_11 s H locs → lv_has ls 5 [(0, .ref (ad 36)), (1, .ref (ad 12)), (2, .int v2), (3, .int v3_11), (4, .int v4_11)] → W p l e (RM 4 95) s m args below meth c H locs 0 0 (MQ below (Qv D aI aL 42 shX ad r0 s.heap.size) args s 0 0 (AA ad 42 s.heap.size)) (F0 m 11 ls []) := by
    intro v3_11 n_11
    induction n_11 with
    | zero =>
      intro v4_11 s_11 y h hK
      cases (show (none : Option Sg) = some y from h)
    | succ n_11 ih_11 =>
      have bk_46 : ∀ (v4_46 : Int32) (s_46 : Sg) (y : ((Int32 × Sg) ⊕ Sg)), f_X7_measure_46 v2 v3_11 v4_46 s_46 = some y → (KK n_11 (fun s => f_X7_measure_11s v2 v3_11 s.1 s.2) (fun y => y = r0)) y → ∀ (H : Heap) (locs : List Loc) (ls : Array Slot), HS D aI aL 42 shX ad s_46 s H locs → lv_has ls 5 [(0, .ref (ad 36)), (1, .ref (ad 12)), (2, .int v2), (3, .int v3_11), (4, .int v4_46)] → W p l e (RM 4 95) s m args below meth c H locs 0 0 (MQ below (Qv D aI aL 42 shX ad r0 s.heap.size) args s 0 0 (AA ad 42 s.heap.size)) (F0 m 46 ls []) := by
        intro v4_46 s_46 y h hK H locs ls hP hl
        unfold f_X7_measure_46 at h
        obtain ⟨x4, hx4, h⟩ := nm_inv h
        refine lv_iinc (v := x4) (lv' := [(4, .int x4), (0, .ref (ad 36)), (1, .ref (ad 12)), (2, .int v2), (3, .int v3_11)]) hx hb_ dX7_measure_46 hl (k := 4) rfl (by rw [hx4]; rfl) (by decide) rfl (fun ls hl => ?_)
        refine lv_goto (tgt := 11) hx hb_ dX7_measure_49 (by decide) ?_
        obtain rfl := Option.some.inj h
        obtain ⟨y2, h, hK⟩ := hK
        exact ih_11 x4 s_46 y2 h hK _ _ _ hP (lv_sub hl [1, 2, 3, 4, 0] rfl)
      intro v4_11 s_11 y h hK H locs ls hP hl
      obtain ⟨y, h, hK⟩ := itr_inv (K := (fun y => y = r0)) h hK
      replace h : f_X7_measure_11s v2 v3_11 v4_11 s_11 = some y := h
      unfold f_X7_measure_11s at h
      refine lv_iload hx hb_ dX7_measure_11 (lv_at hl 4 rfl) ?_
      refine lv_iload_n hx hb_ dX7_measure_13 rfl (lv_at hl 3 rfl) ?_
      refine lv_icmp_lt (tgt := 52) hx hb_ dX7_measure_14 (by decide) (fun hc => ?_) (fun hc => ?_)
      · replace h := ift h hc
        obtain rfl := Option.some.inj h
        have hK : s_11 = r0 := hK
        exact w_vret C hlk hr hP hK dX7_measure_52
      · replace h := iff' h hc
        refine lv_iload hx hb_ dX7_measure_17 (lv_at hl 4 rfl) ?_
        refine lv_iload_n hx hb_ dX7_measure_19 rfl (lv_at hl 3 rfl) ?_
        obtain ⟨q3, hq3, h⟩ := bnd h
        refine w_ci (w_rN (As := [.int v4_11, .int v3_11]) (rest := []) C hP (c_X8_holdsAll l D aI aL ad inj _ s_11 v4_11 v3_11 q3 hq3) nw18 wt428 wt1 wt429 2 hd_X8_holdsAll ⟨Nat.le_of_ble_eq_true rfl, Nat.le_of_ble_eq_true rfl⟩ rfl hl.1 rfl (Nat.le_of_ble_eq_true rfl) dX7_measure_20) hP (fun H locs hP => ?_)
        refine lv_if_eq (tgt := 46) hx hb_ dX7_measure_23 (by decide) (fun hc => ?_) (fun hc => ?_)
        · replace h := ift h hc
          exact bk_46 v4_11 s_11 y h hK _ _ _ hP (lv_sub hl [0, 1, 2, 3, 4] rfl)
        · replace h := iff' h hc
          refine lv_aload_n hx hb_ dX7_measure_26 rfl (lv_at hl 1 rfl) ?_
          obtain ⟨q5, hq5, h⟩ := bnd h
          refine w_ci (w_rV (As := []) (rest := []) C hP (k := 12) (c_X1_there l D aI aL ad inj _ s_11 12 fl12 q5 hq5) (gV wt539 wt373 wt374 wt4 wt375) 0 hd_X1_there ⟨Nat.le_of_ble_eq_true rfl, Nat.le_of_ble_eq_true rfl⟩ (by decide) 0 rfl rfl rfl hl.1 rfl (Nat.le_of_ble_eq_true rfl) dX7_measure_27) hP (fun H locs hP => ?_)
          refine lv_iload hx hb_ dX7_measure_30 (lv_at hl 4 rfl) ?_
          obtain ⟨q6, hq6, h⟩ := bnd h
          refine w_ci (w_rN (As := [.int q5, .int v4_11]) (rest := []) C hP (c_X8_holdsAll l D aI aL ad inj _ s_11 q5 v4_11 q6 hq6) nw18 wt428 wt1 wt429 2 hd_X8_holdsAll ⟨Nat.le_of_ble_eq_true rfl, Nat.le_of_ble_eq_true rfl⟩ rfl hl.1 rfl (Nat.le_of_ble_eq_true rfl) dX7_measure_32) hP (fun H locs hP => ?_)
          refine lv_if_eq (tgt := 46) hx hb_ dX7_measure_35 (by decide) (fun hc => ?_) (fun hc => ?_)
          · replace h := ift h hc
            exact bk_46 v4_11 s_11 y h hK _ _ _ hP (lv_sub hl [0, 1, 2, 3, 4] rfl)
          · replace h := iff' h hc
            refine lv_aload_n hx hb_ dX7_measure_38 rfl (lv_at hl 0 rfl) ?_
            refine lv_aload_n hx hb_ dX7_measure_39 rfl (lv_at hl 1 rfl) ?_
            refine lv_iload hx hb_ dX7_measure_40 (lv_at hl 4 rfl) ?_
            refine lv_iload_n hx hb_ dX7_measure_42 rfl (lv_at hl 2 rfl) ?_
            obtain ⟨q7, hq7, h⟩ := bnd h
            refine w_cv (w_rV (As := [.ref (ad 12), .int v4_11, .int v2]) (rest := []) C hP (k := 36) (c_X7_measureFrom l D aI aL ad inj _ s_11 v4_11 v2 q7 hq7) (gV wt541 wt543 wp9 wt6 wt544) 3 hd_X7_measureFrom ⟨Nat.le_of_ble_eq_true rfl, Nat.le_of_ble_eq_true rfl⟩ (by decide) 5 rfl rfl rfl hl.1 rfl (Nat.le_of_ble_eq_true rfl) dX7_measure_43) hP (fun H locs hP => ?_)
            exact bk_46 v4_11 q7 y h hK _ _ _ hP (lv_sub hl [0, 1, 2, 3, 4] rfl)
  have bk_11 : ∀ (v3_11 : Int32) (v4_11 : Int32) (s_11 : Sg) (y : Sg), f_X7_measure_11 v2 v3_11 v4_11 s_11 = some y → (fun y => y = r0) y → ∀ (H : Heap) (locs : List Loc) (ls : Array Slot), HS D aI aL 42 shX ad s_11 s H locs → lv_has ls 5 [(0, .ref (ad 36)), (1, .ref (ad 12)), (2, .int v2), (3, .int v3_11), (4, .int v4_11)] → W p l e (RM 4 95) s m args below meth c H locs 0 0 (MQ below (Qv D aI aL 42 shX ad r0 s.heap.size) args s 0 0 (AA ad 42 s.heap.size)) (F0 m 11 ls []) := fun v3_11 v4_11 s_11 y h hK => lp_11 v3_11 3000 v4_11 s_11 y h hK
  have bk : ∀ (y : Sg), f_X7_measure v2 σ = some y → y = r0 → ∀ (H : Heap) (locs : List Loc), HS D aI aL 42 shX ad σ s H locs → W p l e (RM 4 95) s m args below meth c H locs 0 0 (MQ below (Qv D aI aL 42 shX ad r0 s.heap.size) args s 0 0 (AA ad 42 s.heap.size)) (F0 m 0 ls []) := by
    intro y h hK H locs hP
    unfold f_X7_measure at h
    refine lv_aload_n hx hb_ dX7_measure_0 rfl (lv_at hl 1 rfl) ?_
    obtain ⟨q1, hq1, h⟩ := bnd h
    refine w_ci (w_rV (As := []) (rest := []) C hP (k := 12) (c_X1_stood l D aI aL ad inj _ σ 12 fl12 q1 hq1) (gV wt538 wt380 wt381 wt4 wt382) 0 hd_X1_stood ⟨Nat.le_of_ble_eq_true rfl, Nat.le_of_ble_eq_true rfl⟩ (by decide) 0 rfl rfl rfl hl.1 rfl (Nat.le_of_ble_eq_true rfl) dX7_measure_1) hP (fun H locs hP => ?_)
    refine lv_istore_n (lv' := [(3, .int q1), (0, .ref (ad 36)), (1, .ref (ad 12)), (2, .int v2)]) hx hb_ dX7_measure_4 rfl hl (by decide) rfl (fun ls hl => ?_)
    refine lv_aload_n hx hb_ dX7_measure_5 rfl (lv_at hl 2 rfl) ?_
    obtain ⟨q2, hq2, h⟩ := bnd h
    refine w_ci (w_rV (As := []) (rest := []) C hP (k := 12) (c_X1_there l D aI aL ad inj _ σ 12 fl12 q2 hq2) (gV wt539 wt373 wt374 wt4 wt375) 0 hd_X1_there ⟨Nat.le_of_ble_eq_true rfl, Nat.le_of_ble_eq_true rfl⟩ (by decide) 0 rfl rfl rfl hl.1 rfl (Nat.le_of_ble_eq_true rfl) dX7_measure_6) hP (fun H locs hP => ?_)
    refine lv_istore (lv' := [(4, .int q2), (3, .int q1), (0, .ref (ad 36)), (1, .ref (ad 12)), (2, .int v2)]) hx hb_ dX7_measure_9 hl (by decide) rfl (fun ls hl => ?_)
    exact bk_11 q1 q2 σ y h hK _ _ _ hP (lv_sub hl [2, 3, 4, 1, 0] rfl)
  exact bk r0 hf rfl _ _ hP
theorem hd_X7_fewestSteps : yX7_fewestSteps.cls = RX7 ∧ yX7_fewestSteps.cls ≠ "java/lang/invoke/MethodHandle" ∧ yX7_fewestSteps.cls ≠ "java/lang/invoke/VarHandle" ∧ (parseMethodDescriptor yX7_fewestSteps.desc).map (fun d => d.parameters.length) = some 1 := by decide +kernel
set_option maxHeartbeats 4000000 in
set_option maxRecDepth 100000 in
theorem c_X7_fewestSteps (l : Launch) (D : va_G) (aI aL : ClassId) (ad : Nat → Nat) (inj : Inj ad 42) (sz : Nat) (σ : Sg) (r0 : Int32) (hf : f_X7_fewestSteps σ = some r0) : Met l yX7_fewestSteps (wS yX7_fewestSteps cX7_fewestSteps 3 (some .int)) (RM 1 21) (Pw D aI aL 42 shX ad sz σ [.ref (ad 36), .ref (ad 12)]) (Qi D aI aL 42 shX ad r0 σ sz) 0 0 (AA ad 42 sz) := by
  refine Mof (Qc := Qi D aI aL 42 shX ad r0 σ) (by decide) inj (Nat.le_of_ble_eq_true rfl) ?_
  intro p e s m args below meth c ls C hlk hr hP hl
  have hx := C.1.1
  have hb_ := C.1.2.1
  have hown := C.1.2.2.2.1
  have hts := C.1.2.2.2.2
  have hl : lv_has ls 3 [(0, .ref (ad 36)), (1, .ref (ad 12))] := hl
  have bk_25 : ∀ (t0_25 : Int32) (y : Int32), f_X7_fewestSteps_25 t0_25 σ = some y → (fun y => y = r0) y → ∀ (H : Heap) (locs : List Loc) (ls : Array Slot), HS D aI aL 42 shX ad σ s H locs → lv_has ls 3 [] → W p l e (RM 1 21) s m args below meth c H locs 0 0 (MQ below (Qi D aI aL 42 shX ad r0 σ s.heap.size) args s 0 0 (AA ad 42 s.heap.size)) (F0 m 25 ls [.int t0_25]) := by
    intro t0_25 y h hK H locs ls hP hl
    unfold f_X7_fewestSteps_25 at h
    obtain rfl := Option.some.inj h
    have hK : (t0_25 : Int32) = r0 := hK
    exact w_iret C hlk hr hP hK rfl dX7_fewestSteps_25
  have bk : ∀ (y : Int32), f_X7_fewestSteps σ = some y → y = r0 → ∀ (H : Heap) (locs : List Loc), HS D aI aL 42 shX ad σ s H locs → W p l e (RM 1 21) s m args below meth c H locs 0 0 (MQ below (Qi D aI aL 42 shX ad r0 σ s.heap.size) args s 0 0 (AA ad 42 s.heap.size)) (F0 m 0 ls []) := by
    intro y h hK H locs hP
    unfold f_X7_fewestSteps at h
    refine lv_aload_n hx hb_ dX7_fewestSteps_0 rfl (lv_at hl 0 rfl) ?_
    refine w_get C hP (k := 36) (by decide) 5 rfl rfl inWX7 0 (by decide) wt113 (v := .ref (ad 37)) rfl dX7_fewestSteps_1 ?_
    refine lv_aload_n hx hb_ dX7_fewestSteps_4 rfl (lv_at hl 1 rfl) ?_
    obtain ⟨q1, hq1, h⟩ := bnd h
    refine w_ci (w_rV (As := []) (rest := [.ref (ad 37)]) C hP (k := 12) (c_X1_stood l D aI aL ad inj _ σ 12 fl12 q1 hq1) (gV wt538 wt380 wt381 wt4 wt382) 0 hd_X1_stood ⟨Nat.le_of_ble_eq_true rfl, Nat.le_of_ble_eq_true rfl⟩ (by decide) 0 rfl rfl rfl hl.1 rfl (Nat.le_of_ble_eq_true rfl) dX7_fewestSteps_5) hP (fun H locs hP => ?_)
    obtain ⟨q2, hq2, h⟩ := bnd h
    refine w_ci (w_rN (As := [.ref (ad 37), .int q1]) (rest := []) C hP (c_X8_at l D aI aL ad inj _ σ 37 1024 (by decide) rfl q1 q2 hq2) nw20 wt225 wt1 wt226 2 hd_X8_at ⟨Nat.le_of_ble_eq_true rfl, Nat.le_of_ble_eq_true rfl⟩ rfl hl.1 rfl (Nat.le_of_ble_eq_true rfl) dX7_fewestSteps_8) hP (fun H locs hP => ?_)
    refine lv_istore_n (lv' := [(2, .int q2), (0, .ref (ad 36)), (1, .ref (ad 12))]) hx hb_ dX7_fewestSteps_11 rfl hl (by decide) rfl (fun ls hl => ?_)
    refine lv_iload_n hx hb_ dX7_fewestSteps_12 rfl (lv_at hl 0 rfl) ?_
    refine lv_sipush (v := 1000) hx hb_ dX7_fewestSteps_13 (by decide) ?_
    refine lv_icmp_ne (tgt := 24) hx hb_ dX7_fewestSteps_16 (by decide) (fun hc => ?_) (fun hc => ?_)
    · replace h := iff' h hc
      refine lv_iload_n hx hb_ dX7_fewestSteps_24 rfl (lv_at hl 0 rfl) ?_
      exact bk_25 q2 y h hK _ _ _ hP (lv_sub hl [] rfl)
    · replace h := ift h hc
      refine lv_bipush (v := (-4)) hx hb_ dX7_fewestSteps_19 (by decide) ?_
      refine lv_goto (tgt := 25) hx hb_ dX7_fewestSteps_21 (by decide) ?_
      exact bk_25 (-4) y h hK _ _ _ hP (lv_sub hl [] rfl)
  exact bk r0 hf rfl _ _ hP
theorem hd_X7_lowestFirstStep : yX7_lowestFirstStep.cls = RX7 ∧ yX7_lowestFirstStep.cls ≠ "java/lang/invoke/MethodHandle" ∧ yX7_lowestFirstStep.cls ≠ "java/lang/invoke/VarHandle" ∧ (parseMethodDescriptor yX7_lowestFirstStep.desc).map (fun d => d.parameters.length) = some 1 := by decide +kernel
set_option maxHeartbeats 4000000 in
set_option maxRecDepth 100000 in
theorem c_X7_lowestFirstStep (l : Launch) (D : va_G) (aI aL : ClassId) (ad : Nat → Nat) (inj : Inj ad 42) (sz : Nat) (σ : Sg) (r0 : Int32) (hf : f_X7_lowestFirstStep σ = some r0) : Met l yX7_lowestFirstStep (wS yX7_lowestFirstStep cX7_lowestFirstStep 6 (some .int)) (RM 3 67) (Pw D aI aL 42 shX ad sz σ [.ref (ad 36), .ref (ad 12)]) (Qi D aI aL 42 shX ad r0 σ sz) 0 0 (AA ad 42 sz) := by
  refine Mof (Qc := Qi D aI aL 42 shX ad r0 σ) (by decide) inj (Nat.le_of_ble_eq_true rfl) ?_
  intro p e s m args below meth c ls C hlk hr hP hl
  have hx := C.1.1
  have hb_ := C.1.2.1
  have hown := C.1.2.2.2.1
  have hts := C.1.2.2.2.2
  have hl : lv_has ls 6 [(0, .ref (ad 36)), (1, .ref (ad 12))] := hl
  have bk_66 : ∀ (y : Int32), f_X7_lowestFirstStep_66 σ = some y → (fun y => y = r0) y → ∀ (H : Heap) (locs : List Loc) (ls : Array Slot), HS D aI aL 42 shX ad σ s H locs → lv_has ls 6 [] → W p l e (RM 3 67) s m args below meth c H locs 0 0 (MQ below (Qi D aI aL 42 shX ad r0 σ s.heap.size) args s 0 0 (AA ad 42 s.heap.size)) (F0 m 66 ls []) := by
    intro y h hK H locs ls hP hl
    unfold f_X7_lowestFirstStep_66 at h
    refine lv_bipush (v := (-4)) hx hb_ dX7_lowestFirstStep_66 (by decide) ?_
    obtain rfl := Option.some.inj h
    have hK : ((-4) : Int32) = r0 := hK
    exact w_iret C hlk hr hP hK rfl dX7_lowestFirstStep_68
  have lp_14 : ∀ (v2_14 : Int32) (v3_14 : Int32) (n_14 : Nat) (v4_14 : Int32) (y : Int32), itr n_14 (fun s => f_X7_lowestFirstStep_14s v2_14 v3_14 s σ) (v4_14) = some y → (fun y => y = r0) y → ∀ (H : Heap) (locs : List Loc) (ls : Array Slot), HS D aI aL 42 shX ad σ s H locs → lv_has ls 6 [(0, .ref (ad 36)), (1, .ref (ad 12)), (2, .int v2_14), (3, .int v3_14), (4, .int v4_14)] → W p l e (RM 3 67) s m args below meth c H locs 0 0 (MQ below (Qi D aI aL 42 shX ad r0 σ s.heap.size) args s 0 0 (AA ad 42 s.heap.size)) (F0 m 14 ls []) := by
    intro v2_14 v3_14 n_14
    induction n_14 with
    | zero =>
      intro v4_14 y h hK
      cases (show (none : Option Int32) = some y from h)
    | succ n_14 ih_14 =>
      have bk_60 : ∀ (v4_60 : Int32) (y : ((Int32) ⊕ Int32)), f_X7_lowestFirstStep_60 v2_14 v3_14 v4_60 σ = some y → (KK n_14 (fun s => f_X7_lowestFirstStep_14s v2_14 v3_14 s σ) (fun y => y = r0)) y → ∀ (H : Heap) (locs : List Loc) (ls : Array Slot), HS D aI aL 42 shX ad σ s H locs → lv_has ls 6 [(0, .ref (ad 36)), (1, .ref (ad 12)), (2, .int v2_14), (3, .int v3_14), (4, .int v4_60)] → W p l e (RM 3 67) s m args below meth c H locs 0 0 (MQ below (Qi D aI aL 42 shX ad r0 σ s.heap.size) args s 0 0 (AA ad 42 s.heap.size)) (F0 m 60 ls []) := by
        intro v4_60 y h hK H locs ls hP hl
        unfold f_X7_lowestFirstStep_60 at h
        obtain ⟨x5, hx5, h⟩ := nm_inv h
        refine lv_iinc (v := x5) (lv' := [(4, .int x5), (0, .ref (ad 36)), (1, .ref (ad 12)), (2, .int v2_14), (3, .int v3_14)]) hx hb_ dX7_lowestFirstStep_60 hl (k := 4) rfl (by rw [hx5]; rfl) (by decide) rfl (fun ls hl => ?_)
        refine lv_goto (tgt := 14) hx hb_ dX7_lowestFirstStep_63 (by decide) ?_
        obtain rfl := Option.some.inj h
        obtain ⟨y2, h, hK⟩ := hK
        exact ih_14 x5 y2 h hK _ _ _ hP (lv_sub hl [1, 2, 3, 4, 0] rfl)
      intro v4_14 y h hK H locs ls hP hl
      obtain ⟨y, h, hK⟩ := itr_inv (K := (fun y => y = r0)) h hK
      replace h : f_X7_lowestFirstStep_14s v2_14 v3_14 v4_14 σ = some y := h
      unfold f_X7_lowestFirstStep_14s at h
      refine lv_iload hx hb_ dX7_lowestFirstStep_14 (lv_at hl 4 rfl) ?_
      refine lv_aload_n hx hb_ dX7_lowestFirstStep_16 rfl (lv_at hl 1 rfl) ?_
      obtain ⟨q3, hq3, h⟩ := bnd h
      refine w_ci (w_rV (As := []) (rest := [.int v4_14]) C hP (k := 12) (c_X1_stepCount l D aI aL ad inj _ σ 12 fl12 q3 hq3) (gV wt546 wt341 wt342 wt4 wt343) 0 hd_X1_stepCount ⟨Nat.le_of_ble_eq_true rfl, Nat.le_of_ble_eq_true rfl⟩ (by decide) 0 rfl rfl rfl hl.1 rfl (Nat.le_of_ble_eq_true rfl) dX7_lowestFirstStep_17) hP (fun H locs hP => ?_)
      refine lv_icmp_ge (tgt := 66) hx hb_ dX7_lowestFirstStep_20 (by decide) (fun hc => ?_) (fun hc => ?_)
      · replace h := ift h hc
        obtain ⟨y2, h2, rfl⟩ := mapi h
        exact bk_66 y2 h2 hK _ _ _ hP (lv_sub hl [] rfl)
      · replace h := iff' h hc
        refine lv_iload_n hx hb_ dX7_lowestFirstStep_23 rfl (lv_at hl 3 rfl) ?_
        refine lv_if_le (tgt := 66) hx hb_ dX7_lowestFirstStep_24 (by decide) (fun hc => ?_) (fun hc => ?_)
        · replace h := ift h hc
          obtain ⟨y2, h2, rfl⟩ := mapi h
          exact bk_66 y2 h2 hK _ _ _ hP (lv_sub hl [] rfl)
        · replace h := iff' h hc
          refine lv_aload_n hx hb_ dX7_lowestFirstStep_27 rfl (lv_at hl 1 rfl) ?_
          refine lv_iload hx hb_ dX7_lowestFirstStep_28 (lv_at hl 4 rfl) ?_
          refine lv_iload_n hx hb_ dX7_lowestFirstStep_30 rfl (lv_at hl 2 rfl) ?_
          obtain ⟨q4, hq4, h⟩ := bnd h
          refine w_ci (w_rV (As := [.int v4_14, .int v2_14]) (rest := []) C hP (k := 12) (c_X1_after l D aI aL ad inj _ σ 12 fl12 v4_14 v2_14 q4 hq4) (gV wt547 wt420 wt421 wt4 wt422) 2 hd_X1_after ⟨Nat.le_of_ble_eq_true rfl, Nat.le_of_ble_eq_true rfl⟩ (by decide) 0 rfl rfl rfl hl.1 rfl (Nat.le_of_ble_eq_true rfl) dX7_lowestFirstStep_31) hP (fun H locs hP => ?_)
          refine lv_istore (lv' := [(5, .int q4), (0, .ref (ad 36)), (1, .ref (ad 12)), (2, .int v2_14), (3, .int v3_14), (4, .int v4_14)]) hx hb_ dX7_lowestFirstStep_34 hl (by decide) rfl (fun ls hl => ?_)
          refine lv_iload hx hb_ dX7_lowestFirstStep_36 (lv_at hl 0 rfl) ?_
          refine lv_iload_n hx hb_ dX7_lowestFirstStep_38 rfl (lv_at hl 3 rfl) ?_
          refine lv_icmp_eq (tgt := 60) hx hb_ dX7_lowestFirstStep_39 (by decide) (fun hc => ?_) (fun hc => ?_)
          · replace h := ift h hc
            exact bk_60 v4_14 y h hK _ _ _ hP (lv_sub hl [1, 2, 3, 4, 5] rfl)
          · replace h := iff' h hc
            refine lv_aload_n hx hb_ dX7_lowestFirstStep_42 rfl (lv_at hl 1 rfl) ?_
            refine w_get C hP (k := 36) (by decide) 5 rfl rfl inWX7 0 (by decide) wt113 (v := .ref (ad 37)) rfl dX7_lowestFirstStep_43 ?_
            refine lv_iload hx hb_ dX7_lowestFirstStep_46 (lv_at hl 0 rfl) ?_
            obtain ⟨q6, hq6, h⟩ := bnd h
            refine w_ci (w_rN (As := [.ref (ad 37), .int q4]) (rest := []) C hP (c_X8_at l D aI aL ad inj _ σ 37 1024 (by decide) rfl q4 q6 hq6) nw20 wt225 wt1 wt226 2 hd_X8_at ⟨Nat.le_of_ble_eq_true rfl, Nat.le_of_ble_eq_true rfl⟩ rfl hl.1 rfl (Nat.le_of_ble_eq_true rfl) dX7_lowestFirstStep_48) hP (fun H locs hP => ?_)
            refine lv_iload_n hx hb_ dX7_lowestFirstStep_51 rfl (lv_at hl 4 rfl) ?_
            refine lv_iconst (v := 1) hx hb_ dX7_lowestFirstStep_52 (by decide) ?_
            refine lv_isub hx hb_ dX7_lowestFirstStep_53 ?_
            refine lv_icmp_ne (tgt := 60) hx hb_ dX7_lowestFirstStep_54 (by decide) (fun hc => ?_) (fun hc => ?_)
            · replace h := iff' h hc
              exact bk_60 v4_14 y h hK _ _ _ hP (lv_sub hl [1, 2, 3, 4, 5] rfl)
            · replace h := ift h hc
              refine lv_iload hx hb_ dX7_lowestFirstStep_57 (lv_at hl 5 rfl) ?_
              obtain rfl := Option.some.inj h
              have hK : (v4_14 : Int32) = r0 := hK
              exact w_iret C hlk hr hP hK rfl dX7_lowestFirstStep_59
  have bk_14 : ∀ (v2_14 : Int32) (v3_14 : Int32) (v4_14 : Int32) (y : Int32), f_X7_lowestFirstStep_14 v2_14 v3_14 v4_14 σ = some y → (fun y => y = r0) y → ∀ (H : Heap) (locs : List Loc) (ls : Array Slot), HS D aI aL 42 shX ad σ s H locs → lv_has ls 6 [(0, .ref (ad 36)), (1, .ref (ad 12)), (2, .int v2_14), (3, .int v3_14), (4, .int v4_14)] → W p l e (RM 3 67) s m args below meth c H locs 0 0 (MQ below (Qi D aI aL 42 shX ad r0 σ s.heap.size) args s 0 0 (AA ad 42 s.heap.size)) (F0 m 14 ls []) := fun v2_14 v3_14 v4_14 y h hK => lp_14 v2_14 v3_14 3000 v4_14 y h hK
  have bk : ∀ (y : Int32), f_X7_lowestFirstStep σ = some y → y = r0 → ∀ (H : Heap) (locs : List Loc), HS D aI aL 42 shX ad σ s H locs → W p l e (RM 3 67) s m args below meth c H locs 0 0 (MQ below (Qi D aI aL 42 shX ad r0 σ s.heap.size) args s 0 0 (AA ad 42 s.heap.size)) (F0 m 0 ls []) := by
    intro y h hK H locs hP
    unfold f_X7_lowestFirstStep at h
    refine lv_aload_n hx hb_ dX7_lowestFirstStep_0 rfl (lv_at hl 1 rfl) ?_
    obtain ⟨q1, hq1, h⟩ := bnd h
    refine w_ci (w_rV (As := []) (rest := []) C hP (k := 12) (c_X1_stood l D aI aL ad inj _ σ 12 fl12 q1 hq1) (gV wt538 wt380 wt381 wt4 wt382) 0 hd_X1_stood ⟨Nat.le_of_ble_eq_true rfl, Nat.le_of_ble_eq_true rfl⟩ (by decide) 0 rfl rfl rfl hl.1 rfl (Nat.le_of_ble_eq_true rfl) dX7_lowestFirstStep_1) hP (fun H locs hP => ?_)
    refine lv_istore_n (lv' := [(2, .int q1), (0, .ref (ad 36)), (1, .ref (ad 12))]) hx hb_ dX7_lowestFirstStep_4 rfl hl (by decide) rfl (fun ls hl => ?_)
    refine lv_aload_n hx hb_ dX7_lowestFirstStep_5 rfl (lv_at hl 1 rfl) ?_
    refine lv_aload_n hx hb_ dX7_lowestFirstStep_6 rfl (lv_at hl 2 rfl) ?_
    obtain ⟨q2, hq2, h⟩ := bnd h
    refine w_ci (w_rV (As := [.ref (ad 12)]) (rest := []) C hP (k := 36) (c_X7_fewestSteps l D aI aL ad inj _ σ q2 hq2) (gV wt558 wt551 wt552 wt6 wt553) 1 hd_X7_fewestSteps ⟨Nat.le_of_ble_eq_true rfl, Nat.le_of_ble_eq_true rfl⟩ (by decide) 5 rfl rfl rfl hl.1 rfl (Nat.le_of_ble_eq_true rfl) dX7_lowestFirstStep_7) hP (fun H locs hP => ?_)
    refine lv_istore_n (lv' := [(3, .int q2), (2, .int q1), (0, .ref (ad 36)), (1, .ref (ad 12))]) hx hb_ dX7_lowestFirstStep_10 rfl hl (by decide) rfl (fun ls hl => ?_)
    refine lv_iconst (v := 0) hx hb_ dX7_lowestFirstStep_11 (by decide) ?_
    refine lv_istore (lv' := [(4, .int 0), (3, .int q2), (2, .int q1), (0, .ref (ad 36)), (1, .ref (ad 12))]) hx hb_ dX7_lowestFirstStep_12 hl (by decide) rfl (fun ls hl => ?_)
    exact bk_14 q1 q2 0 y h hK _ _ _ hP (lv_sub hl [3, 4, 2, 1, 0] rfl)
  exact bk r0 hf rfl _ _ hP
theorem hd_X7_howManyRows : yX7_howManyRows.cls = RX7 ∧ yX7_howManyRows.cls ≠ "java/lang/invoke/MethodHandle" ∧ yX7_howManyRows.cls ≠ "java/lang/invoke/VarHandle" ∧ (parseMethodDescriptor yX7_howManyRows.desc).map (fun d => d.parameters.length) = some 1 := by decide +kernel
set_option maxHeartbeats 4000000 in
set_option maxRecDepth 100000 in
theorem c_X7_howManyRows (l : Launch) (D : va_G) (aI aL : ClassId) (ad : Nat → Nat) (inj : Inj ad 42) (sz : Nat) (σ : Sg) (r0 : Int32) (hf : f_X7_howManyRows σ = some r0) : Met l yX7_howManyRows (wS yX7_howManyRows cX7_howManyRows 2 (some .int)) (RM 2 43) (Pw D aI aL 42 shX ad sz σ [.ref (ad 36), .ref (ad 12)]) (Qi D aI aL 42 shX ad r0 σ sz) 0 0 (AA ad 42 sz) := by
  refine Mof (Qc := Qi D aI aL 42 shX ad r0 σ) (by decide) inj (Nat.le_of_ble_eq_true rfl) ?_
  intro p e s m args below meth c ls C hlk hr hP hl
  have hx := C.1.1
  have hb_ := C.1.2.1
  have hown := C.1.2.2.2.1
  have hts := C.1.2.2.2.2
  have hl : lv_has ls 2 [(0, .ref (ad 36)), (1, .ref (ad 12))] := hl
  have bk_26 : ∀ (t0_26 : Int32) (y : Int32), f_X7_howManyRows_26 t0_26 σ = some y → (fun y => y = r0) y → ∀ (H : Heap) (locs : List Loc) (ls : Array Slot), HS D aI aL 42 shX ad σ s H locs → lv_has ls 2 [] → W p l e (RM 2 43) s m args below meth c H locs 0 0 (MQ below (Qi D aI aL 42 shX ad r0 σ s.heap.size) args s 0 0 (AA ad 42 s.heap.size)) (F0 m 26 ls [.int t0_26]) := by
    intro t0_26 y h hK H locs ls hP hl
    unfold f_X7_howManyRows_26 at h
    obtain rfl := Option.some.inj h
    have hK : (t0_26 : Int32) = r0 := hK
    exact w_iret C hlk hr hP hK rfl dX7_howManyRows_26
  have bk : ∀ (y : Int32), f_X7_howManyRows σ = some y → y = r0 → ∀ (H : Heap) (locs : List Loc), HS D aI aL 42 shX ad σ s H locs → W p l e (RM 2 43) s m args below meth c H locs 0 0 (MQ below (Qi D aI aL 42 shX ad r0 σ s.heap.size) args s 0 0 (AA ad 42 s.heap.size)) (F0 m 0 ls []) := by
    intro y h hK H locs hP
    unfold f_X7_howManyRows at h
    refine lv_aload_n hx hb_ dX7_howManyRows_0 rfl (lv_at hl 0 rfl) ?_
    refine lv_aload_n hx hb_ dX7_howManyRows_1 rfl (lv_at hl 1 rfl) ?_
    obtain ⟨q1, hq1, h⟩ := bnd h
    refine w_ci (w_rV (As := [.ref (ad 12)]) (rest := []) C hP (k := 36) (c_X7_fewestSteps l D aI aL ad inj _ σ q1 hq1) (gV wt558 wt551 wt552 wt6 wt553) 1 hd_X7_fewestSteps ⟨Nat.le_of_ble_eq_true rfl, Nat.le_of_ble_eq_true rfl⟩ (by decide) 5 rfl rfl rfl hl.1 rfl (Nat.le_of_ble_eq_true rfl) dX7_howManyRows_2) hP (fun H locs hP => ?_)
    refine lv_bipush (v := (-4)) hx hb_ dX7_howManyRows_5 (by decide) ?_
    refine lv_icmp_ne (tgt := 15) hx hb_ dX7_howManyRows_7 (by decide) (fun hc => ?_) (fun hc => ?_)
    · replace h := iff' h hc
      refine lv_aload_n hx hb_ dX7_howManyRows_15 rfl (lv_at hl 0 rfl) ?_
      refine w_get C hP (k := 36) (by decide) 5 rfl rfl inWX7 1 (by decide) wt114 (v := .ref (ad 38)) rfl dX7_howManyRows_16 ?_
      refine lv_aload_n hx hb_ dX7_howManyRows_19 rfl (lv_at hl 1 rfl) ?_
      obtain ⟨q2, hq2, h⟩ := bnd h
      refine w_ci (w_rV (As := []) (rest := [.ref (ad 38)]) C hP (k := 12) (c_X1_stood l D aI aL ad inj _ σ 12 fl12 q2 hq2) (gV wt538 wt380 wt381 wt4 wt382) 0 hd_X1_stood ⟨Nat.le_of_ble_eq_true rfl, Nat.le_of_ble_eq_true rfl⟩ (by decide) 0 rfl rfl rfl hl.1 rfl (Nat.le_of_ble_eq_true rfl) dX7_howManyRows_20) hP (fun H locs hP => ?_)
      obtain ⟨q3, hq3, h⟩ := bnd h
      refine w_ci (w_rN (As := [.ref (ad 38), .int q2]) (rest := []) C hP (c_X8_at l D aI aL ad inj _ σ 38 1024 (by decide) rfl q2 q3 hq3) nw20 wt225 wt1 wt226 2 hd_X8_at ⟨Nat.le_of_ble_eq_true rfl, Nat.le_of_ble_eq_true rfl⟩ rfl hl.1 rfl (Nat.le_of_ble_eq_true rfl) dX7_howManyRows_23) hP (fun H locs hP => ?_)
      exact bk_26 q3 y h hK _ _ _ hP (lv_sub hl [] rfl)
    · replace h := ift h hc
      refine lv_bipush (v := (-4)) hx hb_ dX7_howManyRows_10 (by decide) ?_
      refine lv_goto (tgt := 26) hx hb_ dX7_howManyRows_12 (by decide) ?_
      exact bk_26 (-4) y h hK _ _ _ hP (lv_sub hl [] rfl)
  exact bk r0 hf rfl _ _ hP
theorem hd_X7_afterAllAtOnce : yX7_afterAllAtOnce.cls = RX7 ∧ yX7_afterAllAtOnce.cls ≠ "java/lang/invoke/MethodHandle" ∧ yX7_afterAllAtOnce.cls ≠ "java/lang/invoke/VarHandle" ∧ (parseMethodDescriptor yX7_afterAllAtOnce.desc).map (fun d => d.parameters.length) = some 2 := by decide +kernel
set_option maxHeartbeats 4000000 in
set_option maxRecDepth 100000 in
theorem c_X7_afterAllAtOnce (l : Launch) (D : va_G) (aI aL : ClassId) (ad : Nat → Nat) (inj : Inj ad 42) (sz : Nat) (σ : Sg) (v1 : Int32) (r0 : Int32) (hf : f_X7_afterAllAtOnce v1 σ = some r0) : Met l yX7_afterAllAtOnce (wS yX7_afterAllAtOnce cX7_afterAllAtOnce 4 (some .int)) (RM 3 67) (Pw D aI aL 42 shX ad sz σ [.ref (ad 12), .int v1]) (Qi D aI aL 42 shX ad r0 σ sz) 0 0 (AA ad 42 sz) := by
  refine Mof (Qc := Qi D aI aL 42 shX ad r0 σ) (by decide) inj (Nat.le_of_ble_eq_true rfl) ?_
  intro p e s m args below meth c ls C hlk hr hP hl
  have hx := C.1.1
  have hb_ := C.1.2.1
  have hown := C.1.2.2.2.1
  have hts := C.1.2.2.2.2
  have hl : lv_has ls 4 [(0, .ref (ad 12)), (1, .int v1)] := hl
  have lp_4 : ∀ (n_4 : Nat) (v2_4 : Int32) (v3_4 : Int32) (y : Int32), itr n_4 (fun s => f_X7_afterAllAtOnce_4s v1 s.1 s.2 σ) (v2_4, v3_4) = some y → (fun y => y = r0) y → ∀ (H : Heap) (locs : List Loc) (ls : Array Slot), HS D aI aL 42 shX ad σ s H locs → lv_has ls 4 [(0, .ref (ad 12)), (1, .int v1), (2, .int v2_4), (3, .int v3_4)] → W p l e (RM 3 67) s m args below meth c H locs 0 0 (MQ below (Qi D aI aL 42 shX ad r0 σ s.heap.size) args s 0 0 (AA ad 42 s.heap.size)) (F0 m 4 ls []) := by
    intro n_4
    induction n_4 with
    | zero =>
      intro v2_4 v3_4 y h hK
      cases (show (none : Option Int32) = some y from h)
    | succ n_4 ih_4 =>
      intro v2_4 v3_4 y h hK H locs ls hP hl
      obtain ⟨y, h, hK⟩ := itr_inv (K := (fun y => y = r0)) h hK
      replace h : f_X7_afterAllAtOnce_4s v1 v2_4 v3_4 σ = some y := h
      unfold f_X7_afterAllAtOnce_4s at h
      refine lv_iload_n hx hb_ dX7_afterAllAtOnce_4 rfl (lv_at hl 3 rfl) ?_
      refine lv_aload_n hx hb_ dX7_afterAllAtOnce_5 rfl (lv_at hl 0 rfl) ?_
      obtain ⟨q1, hq1, h⟩ := bnd h
      refine w_ci (w_rV (As := []) (rest := [.int v3_4]) C hP (k := 12) (c_X1_stepCount l D aI aL ad inj _ σ 12 fl12 q1 hq1) (gV wt546 wt341 wt342 wt4 wt343) 0 hd_X1_stepCount ⟨Nat.le_of_ble_eq_true rfl, Nat.le_of_ble_eq_true rfl⟩ (by decide) 0 rfl rfl rfl hl.1 rfl (Nat.le_of_ble_eq_true rfl) dX7_afterAllAtOnce_6) hP (fun H locs hP => ?_)
      refine lv_icmp_ge (tgt := 27) hx hb_ dX7_afterAllAtOnce_9 (by decide) (fun hc => ?_) (fun hc => ?_)
      · replace h := ift h hc
        refine lv_iload_n hx hb_ dX7_afterAllAtOnce_27 rfl (lv_at hl 2 rfl) ?_
        obtain rfl := Option.some.inj h
        have hK : (v2_4 : Int32) = r0 := hK
        exact w_iret C hlk hr hP hK rfl dX7_afterAllAtOnce_28
      · replace h := iff' h hc
        refine lv_iload_n hx hb_ dX7_afterAllAtOnce_12 rfl (lv_at hl 2 rfl) ?_
        refine lv_aload_n hx hb_ dX7_afterAllAtOnce_13 rfl (lv_at hl 0 rfl) ?_
        refine lv_iload_n hx hb_ dX7_afterAllAtOnce_14 rfl (lv_at hl 3 rfl) ?_
        refine lv_iload_n hx hb_ dX7_afterAllAtOnce_15 rfl (lv_at hl 1 rfl) ?_
        obtain ⟨q2, hq2, h⟩ := bnd h
        refine w_ci (w_rV (As := [.int v3_4, .int v1]) (rest := [.int v2_4]) C hP (k := 12) (c_X1_after l D aI aL ad inj _ σ 12 fl12 v3_4 v1 q2 hq2) (gV wt547 wt420 wt421 wt4 wt422) 2 hd_X1_after ⟨Nat.le_of_ble_eq_true rfl, Nat.le_of_ble_eq_true rfl⟩ (by decide) 0 rfl rfl rfl hl.1 rfl (Nat.le_of_ble_eq_true rfl) dX7_afterAllAtOnce_16) hP (fun H locs hP => ?_)
        refine lv_ior hx hb_ dX7_afterAllAtOnce_19 ?_
        obtain ⟨x3, hx3, h⟩ := nm_inv h
        refine w_ni hx3 ?_
        refine lv_istore_n (lv' := [(2, .int x3), (0, .ref (ad 12)), (1, .int v1), (3, .int v3_4)]) hx hb_ dX7_afterAllAtOnce_20 rfl hl (by decide) rfl (fun ls hl => ?_)
        obtain ⟨x4, hx4, h⟩ := nm_inv h
        refine lv_iinc (v := x4) (lv' := [(3, .int x4), (2, .int x3), (0, .ref (ad 12)), (1, .int v1)]) hx hb_ dX7_afterAllAtOnce_21 hl (k := 3) rfl (by rw [hx4]; rfl) (by decide) rfl (fun ls hl => ?_)
        refine lv_goto (tgt := 4) hx hb_ dX7_afterAllAtOnce_24 (by decide) ?_
        obtain rfl := Option.some.inj h
        obtain ⟨y2, h, hK⟩ := hK
        exact ih_4 x3 x4 y2 h hK _ _ _ hP (lv_sub hl [2, 3, 1, 0] rfl)
  have bk_4 : ∀ (v2_4 : Int32) (v3_4 : Int32) (y : Int32), f_X7_afterAllAtOnce_4 v1 v2_4 v3_4 σ = some y → (fun y => y = r0) y → ∀ (H : Heap) (locs : List Loc) (ls : Array Slot), HS D aI aL 42 shX ad σ s H locs → lv_has ls 4 [(0, .ref (ad 12)), (1, .int v1), (2, .int v2_4), (3, .int v3_4)] → W p l e (RM 3 67) s m args below meth c H locs 0 0 (MQ below (Qi D aI aL 42 shX ad r0 σ s.heap.size) args s 0 0 (AA ad 42 s.heap.size)) (F0 m 4 ls []) := fun v2_4 v3_4 y h hK => lp_4 3000 v2_4 v3_4 y h hK
  have bk : ∀ (y : Int32), f_X7_afterAllAtOnce v1 σ = some y → y = r0 → ∀ (H : Heap) (locs : List Loc), HS D aI aL 42 shX ad σ s H locs → W p l e (RM 3 67) s m args below meth c H locs 0 0 (MQ below (Qi D aI aL 42 shX ad r0 σ s.heap.size) args s 0 0 (AA ad 42 s.heap.size)) (F0 m 0 ls []) := by
    intro y h hK H locs hP
    unfold f_X7_afterAllAtOnce at h
    refine lv_iload_n hx hb_ dX7_afterAllAtOnce_0 rfl (lv_at hl 1 rfl) ?_
    refine lv_istore_n (lv' := [(2, .int v1), (0, .ref (ad 12)), (1, .int v1)]) hx hb_ dX7_afterAllAtOnce_1 rfl hl (by decide) rfl (fun ls hl => ?_)
    refine lv_iconst (v := 0) hx hb_ dX7_afterAllAtOnce_2 (by decide) ?_
    refine lv_istore_n (lv' := [(3, .int 0), (2, .int v1), (0, .ref (ad 12)), (1, .int v1)]) hx hb_ dX7_afterAllAtOnce_3 rfl hl (by decide) rfl (fun ls hl => ?_)
    exact bk_4 v1 0 y h hK _ _ _ hP (lv_sub hl [2, 3, 1, 0] rfl)
  exact bk r0 hf rfl _ _ hP
theorem hd_X7_rounds : yX7_rounds.cls = RX7 ∧ yX7_rounds.cls ≠ "java/lang/invoke/MethodHandle" ∧ yX7_rounds.cls ≠ "java/lang/invoke/VarHandle" ∧ (parseMethodDescriptor yX7_rounds.desc).map (fun d => d.parameters.length) = some 2 := by decide +kernel
set_option maxHeartbeats 4000000 in
set_option maxRecDepth 100000 in
theorem c_X7_rounds (l : Launch) (D : va_G) (aI aL : ClassId) (ad : Nat → Nat) (inj : Inj ad 42) (sz : Nat) (σ : Sg) (v1 : Int32) (r0 : Int32) (hf : f_X7_rounds v1 σ = some r0) : Met l yX7_rounds (wS yX7_rounds cX7_rounds 4 (some .int)) (RM 4 90) (Pw D aI aL 42 shX ad sz σ [.ref (ad 12), .int v1]) (Qi D aI aL 42 shX ad r0 σ sz) 0 0 (AA ad 42 sz) := by
  refine Mof (Qc := Qi D aI aL 42 shX ad r0 σ) (by decide) inj (Nat.le_of_ble_eq_true rfl) ?_
  intro p e s m args below meth c ls C hlk hr hP hl
  have hx := C.1.1
  have hb_ := C.1.2.1
  have hown := C.1.2.2.2.1
  have hts := C.1.2.2.2.2
  have hl : lv_has ls 4 [(0, .ref (ad 12)), (1, .int v1)] := hl
  have lp_7 : ∀ (n_7 : Nat) (v2_7 : Int32) (v3_7 : Int32) (y : Int32), itr n_7 (fun s => f_X7_rounds_7s v1 s.1 s.2 σ) (v2_7, v3_7) = some y → (fun y => y = r0) y → ∀ (H : Heap) (locs : List Loc) (ls : Array Slot), HS D aI aL 42 shX ad σ s H locs → lv_has ls 4 [(0, .ref (ad 12)), (1, .int v1), (2, .int v2_7), (3, .int v3_7)] → W p l e (RM 4 90) s m args below meth c H locs 0 0 (MQ below (Qi D aI aL 42 shX ad r0 σ s.heap.size) args s 0 0 (AA ad 42 s.heap.size)) (F0 m 7 ls []) := by
    intro n_7
    induction n_7 with
    | zero =>
      intro v2_7 v3_7 y h hK
      cases (show (none : Option Int32) = some y from h)
    | succ n_7 ih_7 =>
      intro v2_7 v3_7 y h hK H locs ls hP hl
      obtain ⟨y, h, hK⟩ := itr_inv (K := (fun y => y = r0)) h hK
      replace h : f_X7_rounds_7s v1 v2_7 v3_7 σ = some y := h
      unfold f_X7_rounds_7s at h
      refine lv_iload_n hx hb_ dX7_rounds_7 rfl (lv_at hl 3 rfl) ?_
      refine lv_bipush (v := 10) hx hb_ dX7_rounds_8 (by decide) ?_
      refine lv_icmp_gt (tgt := 35) hx hb_ dX7_rounds_10 (by decide) (fun hc => ?_) (fun hc => ?_)
      · replace h := ift h hc
        refine lv_bipush (v := (-4)) hx hb_ dX7_rounds_35 (by decide) ?_
        obtain rfl := Option.some.inj h
        have hK : ((-4) : Int32) = r0 := hK
        exact w_iret C hlk hr hP hK rfl dX7_rounds_37
      · replace h := iff' h hc
        refine lv_iload_n hx hb_ dX7_rounds_13 rfl (lv_at hl 2 rfl) ?_
        refine lv_iload_n hx hb_ dX7_rounds_14 rfl (lv_at hl 1 rfl) ?_
        obtain ⟨q2, hq2, h⟩ := bnd h
        refine w_ci (w_rN (As := [.int v2_7, .int v1]) (rest := []) C hP (c_X8_has l D aI aL ad inj _ σ v2_7 v1 q2 hq2) nw19 wt468 wt1 wt469 2 hd_X8_has ⟨Nat.le_of_ble_eq_true rfl, Nat.le_of_ble_eq_true rfl⟩ rfl hl.1 rfl (Nat.le_of_ble_eq_true rfl) dX7_rounds_15) hP (fun H locs hP => ?_)
        refine lv_if_eq (tgt := 23) hx hb_ dX7_rounds_18 (by decide) (fun hc => ?_) (fun hc => ?_)
        · replace h := ift h hc
          refine lv_aload_n hx hb_ dX7_rounds_23 rfl (lv_at hl 0 rfl) ?_
          refine lv_iload_n hx hb_ dX7_rounds_24 rfl (lv_at hl 2 rfl) ?_
          obtain ⟨q3, hq3, h⟩ := bnd h
          refine w_ci (w_rS (As := [.ref (ad 12), .int v2_7]) (rest := []) C hP (c_X7_afterAllAtOnce l D aI aL ad inj _ σ v2_7 q3 hq3) wt570 wt571 wt6 wt572 2 hd_X7_afterAllAtOnce ⟨Nat.le_of_ble_eq_true rfl, Nat.le_of_ble_eq_true rfl⟩ rfl hl.1 rfl (Nat.le_of_ble_eq_true rfl) dX7_rounds_25) hP (fun H locs hP => ?_)
          refine lv_istore_n (lv' := [(2, .int q3), (0, .ref (ad 12)), (1, .int v1), (3, .int v3_7)]) hx hb_ dX7_rounds_28 rfl hl (by decide) rfl (fun ls hl => ?_)
          obtain ⟨x4, hx4, h⟩ := nm_inv h
          refine lv_iinc (v := x4) (lv' := [(3, .int x4), (2, .int q3), (0, .ref (ad 12)), (1, .int v1)]) hx hb_ dX7_rounds_29 hl (k := 3) rfl (by rw [hx4]; rfl) (by decide) rfl (fun ls hl => ?_)
          refine lv_goto (tgt := 7) hx hb_ dX7_rounds_32 (by decide) ?_
          obtain rfl := Option.some.inj h
          obtain ⟨y2, h, hK⟩ := hK
          exact ih_7 q3 x4 y2 h hK _ _ _ hP (lv_sub hl [2, 3, 1, 0] rfl)
        · replace h := iff' h hc
          refine lv_iload_n hx hb_ dX7_rounds_21 rfl (lv_at hl 3 rfl) ?_
          obtain rfl := Option.some.inj h
          have hK : (v3_7 : Int32) = r0 := hK
          exact w_iret C hlk hr hP hK rfl dX7_rounds_22
  have bk_7 : ∀ (v2_7 : Int32) (v3_7 : Int32) (y : Int32), f_X7_rounds_7 v1 v2_7 v3_7 σ = some y → (fun y => y = r0) y → ∀ (H : Heap) (locs : List Loc) (ls : Array Slot), HS D aI aL 42 shX ad σ s H locs → lv_has ls 4 [(0, .ref (ad 12)), (1, .int v1), (2, .int v2_7), (3, .int v3_7)] → W p l e (RM 4 90) s m args below meth c H locs 0 0 (MQ below (Qi D aI aL 42 shX ad r0 σ s.heap.size) args s 0 0 (AA ad 42 s.heap.size)) (F0 m 7 ls []) := fun v2_7 v3_7 y h hK => lp_7 3000 v2_7 v3_7 y h hK
  have bk : ∀ (y : Int32), f_X7_rounds v1 σ = some y → y = r0 → ∀ (H : Heap) (locs : List Loc), HS D aI aL 42 shX ad σ s H locs → W p l e (RM 4 90) s m args below meth c H locs 0 0 (MQ below (Qi D aI aL 42 shX ad r0 σ s.heap.size) args s 0 0 (AA ad 42 s.heap.size)) (F0 m 0 ls []) := by
    intro y h hK H locs hP
    unfold f_X7_rounds at h
    refine lv_aload_n hx hb_ dX7_rounds_0 rfl (lv_at hl 0 rfl) ?_
    obtain ⟨q1, hq1, h⟩ := bnd h
    refine w_ci (w_rV (As := []) (rest := []) C hP (k := 12) (c_X1_stood l D aI aL ad inj _ σ 12 fl12 q1 hq1) (gV wt538 wt380 wt381 wt4 wt382) 0 hd_X1_stood ⟨Nat.le_of_ble_eq_true rfl, Nat.le_of_ble_eq_true rfl⟩ (by decide) 0 rfl rfl rfl hl.1 rfl (Nat.le_of_ble_eq_true rfl) dX7_rounds_1) hP (fun H locs hP => ?_)
    refine lv_istore_n (lv' := [(2, .int q1), (0, .ref (ad 12)), (1, .int v1)]) hx hb_ dX7_rounds_4 rfl hl (by decide) rfl (fun ls hl => ?_)
    refine lv_iconst (v := 0) hx hb_ dX7_rounds_5 (by decide) ?_
    refine lv_istore_n (lv' := [(3, .int 0), (2, .int q1), (0, .ref (ad 12)), (1, .int v1)]) hx hb_ dX7_rounds_6 rfl hl (by decide) rfl (fun ls hl => ?_)
    exact bk_7 q1 0 y h hK _ _ _ hP (lv_sub hl [2, 3, 1, 0] rfl)
  exact bk r0 hf rfl _ _ hP
theorem hd_X8_write : yX8_write.cls = RX8 ∧ yX8_write.cls ≠ "java/lang/invoke/MethodHandle" ∧ yX8_write.cls ≠ "java/lang/invoke/VarHandle" ∧ (parseMethodDescriptor yX8_write.desc).map (fun d => d.parameters.length) = some 2 := by decide +kernel
set_option maxHeartbeats 4000000 in
set_option maxRecDepth 100000 in
theorem c_X8_write (l : Launch) (D : va_G) (aI aL : ClassId) (ad : Nat → Nat) (inj : Inj ad 42) (sz : Nat) (σ : Sg) (v1 : Int32) (v2 : Int64) (r0 : (Int32 × Sg)) (hf : f_X8_write v1 v2 σ = some r0) : Met l yX8_write (wS yX8_write cX8_write 5 (some .int)) (RM 2 43) (Pw D aI aL 42 shX ad sz σ [.ref (ad 0), .int v1, .long v2]) (Qi D aI aL 42 shX ad r0.1 r0.2 sz) 0 0 (AA ad 42 sz) := by
  refine Mof (Qc := Qi D aI aL 42 shX ad r0.1 r0.2) (by decide) inj (Nat.le_of_ble_eq_true rfl) ?_
  intro p e s m args below meth c ls C hlk hr hP hl
  have hx := C.1.1
  have hb_ := C.1.2.1
  have hown := C.1.2.2.2.1
  have hts := C.1.2.2.2.2
  have hl : lv_has ls 5 [(0, .ref (ad 0)), (1, .int v1), (2, .long v2)] := hl
  have bk_11 : ∀ (s_11 : Sg) (y : (Int32 × Sg)), f_X8_write_11 s_11 = some y → (fun y => y = r0) y → ∀ (H : Heap) (locs : List Loc) (ls : Array Slot), HS D aI aL 42 shX ad s_11 s H locs → lv_has ls 5 [] → W p l e (RM 2 43) s m args below meth c H locs 0 0 (MQ below (Qi D aI aL 42 shX ad r0.1 r0.2 s.heap.size) args s 0 0 (AA ad 42 s.heap.size)) (F0 m 11 ls []) := by
    intro s_11 y h hK H locs ls hP hl
    unfold f_X8_write_11 at h
    refine lv_iconst (v := (-1)) hx hb_ dX8_write_11 (by decide) ?_
    obtain rfl := Option.some.inj h
    have hK : ((-1), s_11) = r0 := hK
    have hK1 := congrArg Prod.fst hK
    have hK2 := congrArg Prod.snd hK
    exact w_iret C hlk hr hP hK1 hK2 dX8_write_12
  have lp_36 : ∀ (n_36 : Nat) (v4_36 : Int32) (s_36 : Sg) (y : (Int32 × Sg)), itr n_36 (fun s => f_X8_write_36s v2 s.1 s.2) (v4_36, s_36) = some y → (fun y => y = r0) y → ∀ (H : Heap) (locs : List Loc) (ls : Array Slot), HS D aI aL 42 shX ad s_36 s H locs → lv_has ls 5 [(0, .ref (ad 0)), (2, .long v2), (4, .int v4_36)] → W p l e (RM 2 43) s m args below meth c H locs 0 0 (MQ below (Qi D aI aL 42 shX ad r0.1 r0.2 s.heap.size) args s 0 0 (AA ad 42 s.heap.size)) (F0 m 36 ls []) := by
    intro n_36
    induction n_36 with
    | zero =>
      intro v4_36 s_36 y h hK
      cases (show (none : Option (Int32 × Sg)) = some y from h)
    | succ n_36 ih_36 =>
      intro v4_36 s_36 y h hK H locs ls hP hl
      obtain ⟨y, h, hK⟩ := itr_inv (K := (fun y => y = r0)) h hK
      replace h : f_X8_write_36s v2 v4_36 s_36 = some y := h
      unfold f_X8_write_36s at h
      refine lv_iload hx hb_ dX8_write_36 (lv_at hl 2 rfl) ?_
      refine lv_if_lt (tgt := 66) hx hb_ dX8_write_38 (by decide) (fun hc => ?_) (fun hc => ?_)
      · replace h := ift h hc
        refine lv_aload_n hx hb_ dX8_write_66 rfl (lv_at hl 0 rfl) ?_
        refine w_get C hP (k := 0) (by decide) 6 rfl rfl inWX8 0 (by decide) wt284 (v := .ref (ad 1)) rfl dX8_write_67 ?_
        obtain ⟨q3, hq3, h⟩ := bnd h
        refine w_ci (w_rV (As := []) (rest := []) C hP (k := 1) (c_X6_size l D aI aL ad inj _ s_36 q3 hq3) (gV wt326 wt213 wt214 wt2 wt215) 0 hd_X6_size ⟨Nat.le_of_ble_eq_true rfl, Nat.le_of_ble_eq_true rfl⟩ (by decide) 4 rfl rfl rfl hl.1 rfl (Nat.le_of_ble_eq_true rfl) dX8_write_70) hP (fun H locs hP => ?_)
        obtain rfl := Option.some.inj h
        have hK : (q3, s_36) = r0 := hK
        have hK1 := congrArg Prod.fst hK
        have hK2 := congrArg Prod.snd hK
        exact w_iret C hlk hr hP hK1 hK2 dX8_write_73
      · replace h := iff' h hc
        refine lv_aload_n hx hb_ dX8_write_41 rfl (lv_at hl 0 rfl) ?_
        refine w_get C hP (k := 0) (by decide) 6 rfl rfl inWX8 0 (by decide) wt284 (v := .ref (ad 1)) rfl dX8_write_42 ?_
        refine lv_lload_n hx hb_ dX8_write_45 rfl (lv_at hl 1 rfl) ?_
        refine lv_bipush (v := 8) hx hb_ dX8_write_46 (by decide) ?_
        refine lv_iload hx hb_ dX8_write_48 (lv_at hl 2 rfl) ?_
        refine lv_imul hx hb_ dX8_write_50 ?_
        refine lv_lshr hx hb_ dX8_write_51 rfl ?_
        refine lv_l2i hx hb_ dX8_write_52 rfl ?_
        refine lv_sipush (v := 255) hx hb_ dX8_write_53 (by decide) ?_
        refine lv_iand hx hb_ dX8_write_56 ?_
        obtain ⟨q4, hq4, h⟩ := bnd h
        refine w_cv (w_rV (As := [.int ((((v2 >>> ((((8 : Int32) * v4_36) : Int32).toInt64 &&& 63)) : Int64).toInt32) &&& (255 : Int32))]) (rest := []) C hP (k := 1) (c_X6_addByte l D aI aL ad inj _ s_36 ((((v2 >>> ((((8 : Int32) * v4_36) : Int32).toInt64 &&& 63)) : Int64).toInt32) &&& (255 : Int32)) q4 hq4) (gV wt327 wt187 wt188 wt2 wt189) 1 hd_X6_addByte ⟨Nat.le_of_ble_eq_true rfl, Nat.le_of_ble_eq_true rfl⟩ (by decide) 4 rfl rfl rfl hl.1 rfl (Nat.le_of_ble_eq_true rfl) dX8_write_57) hP (fun H locs hP => ?_)
        obtain ⟨x5, hx5, h⟩ := nm_inv h
        refine lv_iinc (v := x5) (lv' := [(4, .int x5), (0, .ref (ad 0)), (2, .long v2)]) hx hb_ dX8_write_60 hl (k := 2) rfl (by rw [hx5]; rfl) (by decide) rfl (fun ls hl => ?_)
        refine lv_goto (tgt := 36) hx hb_ dX8_write_63 (by decide) ?_
        obtain rfl := Option.some.inj h
        obtain ⟨y2, h, hK⟩ := hK
        exact ih_36 x5 q4 y2 h hK _ _ _ hP (lv_sub hl [1, 2, 0] rfl)
  have bk_36 : ∀ (v4_36 : Int32) (s_36 : Sg) (y : (Int32 × Sg)), f_X8_write_36 v2 v4_36 s_36 = some y → (fun y => y = r0) y → ∀ (H : Heap) (locs : List Loc) (ls : Array Slot), HS D aI aL 42 shX ad s_36 s H locs → lv_has ls 5 [(0, .ref (ad 0)), (2, .long v2), (4, .int v4_36)] → W p l e (RM 2 43) s m args below meth c H locs 0 0 (MQ below (Qi D aI aL 42 shX ad r0.1 r0.2 s.heap.size) args s 0 0 (AA ad 42 s.heap.size)) (F0 m 36 ls []) := fun v4_36 s_36 y h hK => lp_36 3000 v4_36 s_36 y h hK
  have bk : ∀ (y : (Int32 × Sg)), f_X8_write v1 v2 σ = some y → y = r0 → ∀ (H : Heap) (locs : List Loc), HS D aI aL 42 shX ad σ s H locs → W p l e (RM 2 43) s m args below meth c H locs 0 0 (MQ below (Qi D aI aL 42 shX ad r0.1 r0.2 s.heap.size) args s 0 0 (AA ad 42 s.heap.size)) (F0 m 0 ls []) := by
    intro y h hK H locs hP
    unfold f_X8_write at h
    refine lv_iload_n hx hb_ dX8_write_0 rfl (lv_at hl 1 rfl) ?_
    refine lv_iconst (v := 1) hx hb_ dX8_write_1 (by decide) ?_
    refine lv_icmp_lt (tgt := 11) hx hb_ dX8_write_2 (by decide) (fun hc => ?_) (fun hc => ?_)
    · replace h := ift h hc
      exact bk_11 σ y h hK _ _ _ hP (lv_sub hl [] rfl)
    · replace h := iff' h hc
      refine lv_iload_n hx hb_ dX8_write_5 rfl (lv_at hl 1 rfl) ?_
      refine lv_bipush (v := 8) hx hb_ dX8_write_6 (by decide) ?_
      refine lv_icmp_le (tgt := 13) hx hb_ dX8_write_8 (by decide) (fun hc => ?_) (fun hc => ?_)
      · replace h := ift h hc
        refine lv_aload_n hx hb_ dX8_write_13 rfl (lv_at hl 0 rfl) ?_
        refine w_get C hP (k := 0) (by decide) 6 rfl rfl inWX8 0 (by decide) wt284 (v := .ref (ad 1)) rfl dX8_write_14 ?_
        obtain ⟨q1, hq1, h⟩ := bnd h
        refine w_ci (w_rV (As := []) (rest := []) C hP (k := 1) (c_X6_size l D aI aL ad inj _ σ q1 hq1) (gV wt326 wt213 wt214 wt2 wt215) 0 hd_X6_size ⟨Nat.le_of_ble_eq_true rfl, Nat.le_of_ble_eq_true rfl⟩ (by decide) 4 rfl rfl rfl hl.1 rfl (Nat.le_of_ble_eq_true rfl) dX8_write_17) hP (fun H locs hP => ?_)
        refine lv_iload_n hx hb_ dX8_write_20 rfl (lv_at hl 1 rfl) ?_
        refine lv_iadd hx hb_ dX8_write_21 ?_
        refine lv_sipush (v := 300) hx hb_ dX8_write_22 (by decide) ?_
        refine lv_icmp_le (tgt := 31) hx hb_ dX8_write_25 (by decide) (fun hc => ?_) (fun hc => ?_)
        · replace h := ift h hc
          refine lv_iload_n hx hb_ dX8_write_31 rfl (lv_at hl 1 rfl) ?_
          refine lv_iconst (v := 1) hx hb_ dX8_write_32 (by decide) ?_
          refine lv_isub hx hb_ dX8_write_33 ?_
          obtain ⟨x2, hx2, h⟩ := nm_inv h
          refine w_ni hx2 ?_
          refine lv_istore (lv' := [(4, .int x2), (0, .ref (ad 0)), (1, .int v1), (2, .long v2)]) hx hb_ dX8_write_34 hl (by decide) rfl (fun ls hl => ?_)
          exact bk_36 x2 σ y h hK _ _ _ hP (lv_sub hl [1, 3, 0] rfl)
        · replace h := iff' h hc
          refine lv_bipush (v := (-3)) hx hb_ dX8_write_28 (by decide) ?_
          obtain rfl := Option.some.inj h
          have hK : ((-3), σ) = r0 := hK
          have hK1 := congrArg Prod.fst hK
          have hK2 := congrArg Prod.snd hK
          exact w_iret C hlk hr hP hK1 hK2 dX8_write_30
      · replace h := iff' h hc
        exact bk_11 σ y h hK _ _ _ hP (lv_sub hl [] rfl)
  exact bk r0 hf rfl _ _ hP
theorem hd_X8_wipe : yX8_wipe.cls = RX8 ∧ yX8_wipe.cls ≠ "java/lang/invoke/MethodHandle" ∧ yX8_wipe.cls ≠ "java/lang/invoke/VarHandle" ∧ (parseMethodDescriptor yX8_wipe.desc).map (fun d => d.parameters.length) = some 0 := by decide +kernel
set_option maxHeartbeats 4000000 in
set_option maxRecDepth 100000 in
theorem c_X8_wipe (l : Launch) (D : va_G) (aI aL : ClassId) (ad : Nat → Nat) (inj : Inj ad 42) (sz : Nat) (σ : Sg) (r0 : (Int32 × Sg)) (hf : f_X8_wipe σ = some r0) : Met l yX8_wipe (wS yX8_wipe cX8_wipe 2 (some .int)) (RM 1 20) (Pw D aI aL 42 shX ad sz σ [.ref (ad 0)]) (Qi D aI aL 42 shX ad r0.1 r0.2 sz) 0 0 (AA ad 42 sz) := by
  refine Mof (Qc := Qi D aI aL 42 shX ad r0.1 r0.2) (by decide) inj (Nat.le_of_ble_eq_true rfl) ?_
  intro p e s m args below meth c ls C hlk hr hP hl
  have hx := C.1.1
  have hb_ := C.1.2.1
  have hown := C.1.2.2.2.1
  have hts := C.1.2.2.2.2
  have hl : lv_has ls 2 [(0, .ref (ad 0))] := hl
  have bk : ∀ (y : (Int32 × Sg)), f_X8_wipe σ = some y → y = r0 → ∀ (H : Heap) (locs : List Loc), HS D aI aL 42 shX ad σ s H locs → W p l e (RM 1 20) s m args below meth c H locs 0 0 (MQ below (Qi D aI aL 42 shX ad r0.1 r0.2 s.heap.size) args s 0 0 (AA ad 42 s.heap.size)) (F0 m 0 ls []) := by
    intro y h hK H locs hP
    unfold f_X8_wipe at h
    refine lv_aload_n hx hb_ dX8_wipe_0 rfl (lv_at hl 0 rfl) ?_
    refine w_get C hP (k := 0) (by decide) 6 rfl rfl inWX8 0 (by decide) wt284 (v := .ref (ad 1)) rfl dX8_wipe_1 ?_
    obtain ⟨q1, hq1, h⟩ := bnd h
    refine w_ci (w_rV (As := []) (rest := []) C hP (k := 1) (c_X6_size l D aI aL ad inj _ σ q1 hq1) (gV wt326 wt213 wt214 wt2 wt215) 0 hd_X6_size ⟨Nat.le_of_ble_eq_true rfl, Nat.le_of_ble_eq_true rfl⟩ (by decide) 4 rfl rfl rfl hl.1 rfl (Nat.le_of_ble_eq_true rfl) dX8_wipe_4) hP (fun H locs hP => ?_)
    refine lv_istore_n (lv' := [(1, .int q1), (0, .ref (ad 0))]) hx hb_ dX8_wipe_7 rfl hl (by decide) rfl (fun ls hl => ?_)
    refine lv_aload_n hx hb_ dX8_wipe_8 rfl (lv_at hl 1 rfl) ?_
    refine w_get C hP (k := 0) (by decide) 6 rfl rfl inWX8 0 (by decide) wt284 (v := .ref (ad 1)) rfl dX8_wipe_9 ?_
    obtain ⟨q2, hq2, h⟩ := bnd h
    refine w_cv (w_rV (As := []) (rest := []) C hP (k := 1) (c_X6_clear l D aI aL ad inj _ σ q2 hq2) (gV wt280 wt281 wt282 wt2 wt283) 0 hd_X6_clear ⟨Nat.le_of_ble_eq_true rfl, Nat.le_of_ble_eq_true rfl⟩ (by decide) 4 rfl rfl rfl hl.1 rfl (Nat.le_of_ble_eq_true rfl) dX8_wipe_12) hP (fun H locs hP => ?_)
    refine lv_iload_n hx hb_ dX8_wipe_15 rfl (lv_at hl 0 rfl) ?_
    obtain rfl := Option.some.inj h
    have hK : (q1, q2) = r0 := hK
    have hK1 := congrArg Prod.fst hK
    have hK2 := congrArg Prod.snd hK
    exact w_iret C hlk hr hP hK1 hK2 dX8_wipe_16
  exact bk r0 hf rfl _ _ hP
theorem hd_X8_fault : yX8_fault.cls = RX8 ∧ yX8_fault.cls ≠ "java/lang/invoke/MethodHandle" ∧ yX8_fault.cls ≠ "java/lang/invoke/VarHandle" ∧ (parseMethodDescriptor yX8_fault.desc).map (fun d => d.parameters.length) = some 0 := by decide +kernel
set_option maxHeartbeats 4000000 in
set_option maxRecDepth 100000 in
theorem c_X8_fault (l : Launch) (D : va_G) (aI aL : ClassId) (ad : Nat → Nat) (inj : Inj ad 42) (sz : Nat) (σ : Sg) (r0 : (Int32 × Sg)) (hf : f_X8_fault σ = some r0) : Met l yX8_fault (wS yX8_fault cX8_fault 1 (some .int)) (RM 5 118) (Pw D aI aL 42 shX ad sz σ [.ref (ad 0)]) (Qi D aI aL 42 shX ad r0.1 r0.2 sz) 0 0 (AA ad 42 sz) := by
  refine Mof (Qc := Qi D aI aL 42 shX ad r0.1 r0.2) (by decide) inj (Nat.le_of_ble_eq_true rfl) ?_
  intro p e s m args below meth c ls C hlk hr hP hl
  have hx := C.1.1
  have hb_ := C.1.2.1
  have hown := C.1.2.2.2.1
  have hts := C.1.2.2.2.2
  have hl : lv_has ls 1 [(0, .ref (ad 0))] := hl
  have bk : ∀ (y : (Int32 × Sg)), f_X8_fault σ = some y → y = r0 → ∀ (H : Heap) (locs : List Loc), HS D aI aL 42 shX ad σ s H locs → W p l e (RM 5 118) s m args below meth c H locs 0 0 (MQ below (Qi D aI aL 42 shX ad r0.1 r0.2 s.heap.size) args s 0 0 (AA ad 42 s.heap.size)) (F0 m 0 ls []) := by
    intro y h hK H locs hP
    unfold f_X8_fault at h
    refine lv_aload_n hx hb_ dX8_fault_0 rfl (lv_at hl 0 rfl) ?_
    refine w_get C hP (k := 0) (by decide) 6 rfl rfl inWX8 1 (by decide) wt285 (v := .ref (ad 3)) rfl dX8_fault_1 ?_
    refine lv_aload_n hx hb_ dX8_fault_4 rfl (lv_at hl 0 rfl) ?_
    refine w_get C hP (k := 0) (by decide) 6 rfl rfl inWX8 2 (by decide) wt286 (v := .ref (ad 5)) rfl dX8_fault_5 ?_
    refine lv_aload_n hx hb_ dX8_fault_8 rfl (lv_at hl 0 rfl) ?_
    refine w_get C hP (k := 0) (by decide) 6 rfl rfl inWX8 0 (by decide) wt284 (v := .ref (ad 1)) rfl dX8_fault_9 ?_
    obtain ⟨q1, hq1, h⟩ := bnd h
    refine w_ci (w_rV (As := [.ref (ad 5), .ref (ad 1)]) (rest := []) C hP (k := 3) (c_X4_readOnto l D aI aL ad inj _ σ 5 fl5 q1 hq1) (gV wt193 wt194 wt195 wt3 wt196) 2 hd_X4_readOnto ⟨Nat.le_of_ble_eq_true rfl, Nat.le_of_ble_eq_true rfl⟩ (by decide) 3 rfl rfl rfl hl.1 rfl (Nat.le_of_ble_eq_true rfl) dX8_fault_12) hP (fun H locs hP => ?_)
    obtain rfl := Option.some.inj h
    have hK : (q1.1, q1.2) = r0 := hK
    have hK1 := congrArg Prod.fst hK
    have hK2 := congrArg Prod.snd hK
    exact w_iret C hlk hr hP hK1 hK2 dX8_fault_15
  exact bk r0 hf rfl _ _ hP
theorem hd_X8_forgetRowAndPast : yX8_forgetRowAndPast.cls = RX8 ∧ yX8_forgetRowAndPast.cls ≠ "java/lang/invoke/MethodHandle" ∧ yX8_forgetRowAndPast.cls ≠ "java/lang/invoke/VarHandle" ∧ (parseMethodDescriptor yX8_forgetRowAndPast.desc).map (fun d => d.parameters.length) = some 0 := by decide +kernel
set_option maxHeartbeats 4000000 in
set_option maxRecDepth 100000 in
theorem c_X8_forgetRowAndPast (l : Launch) (D : va_G) (aI aL : ClassId) (ad : Nat → Nat) (inj : Inj ad 42) (sz : Nat) (σ : Sg) (r0 : Sg) (hf : f_X8_forgetRowAndPast σ = some r0) : Met l yX8_forgetRowAndPast (wS yX8_forgetRowAndPast cX8_forgetRowAndPast 1 (none : Option Jvm.ClassFile.FieldType)) (RM 1 20) (Pw D aI aL 42 shX ad sz σ [.ref (ad 0)]) (Qv D aI aL 42 shX ad r0 sz) 0 0 (AA ad 42 sz) := by
  refine Mof (Qc := Qv D aI aL 42 shX ad r0) (by decide) inj (Nat.le_of_ble_eq_true rfl) ?_
  intro p e s m args below meth c ls C hlk hr hP hl
  have hx := C.1.1
  have hb_ := C.1.2.1
  have hown := C.1.2.2.2.1
  have hts := C.1.2.2.2.2
  have hl : lv_has ls 1 [(0, .ref (ad 0))] := hl
  have bk : ∀ (y : Sg), f_X8_forgetRowAndPast σ = some y → y = r0 → ∀ (H : Heap) (locs : List Loc), HS D aI aL 42 shX ad σ s H locs → W p l e (RM 1 20) s m args below meth c H locs 0 0 (MQ below (Qv D aI aL 42 shX ad r0 s.heap.size) args s 0 0 (AA ad 42 s.heap.size)) (F0 m 0 ls []) := by
    intro y h hK H locs hP
    unfold f_X8_forgetRowAndPast at h
    refine lv_aload_n hx hb_ dX8_forgetRowAndPast_0 rfl (lv_at hl 0 rfl) ?_
    refine lv_iconst (v := 0) hx hb_ dX8_forgetRowAndPast_1 (by decide) ?_
    obtain ⟨s1, hs1, h⟩ := bnd h
    refine w_puti C hP (k := 0) (by decide) 6 rfl rfl inWX8 tyX8 tyX8_ok nmX8 10 (by decide) wt294 rfl rfl rfl rfl hs1 dX8_forgetRowAndPast_2 (fun H locs hP => ?_)
    refine lv_aload_n hx hb_ dX8_forgetRowAndPast_5 rfl (lv_at hl 0 rfl) ?_
    refine w_get C hP (k := 0) (by decide) 6 rfl rfl inWX8 6 (by decide) wt290 (v := .ref (ad 33)) rfl dX8_forgetRowAndPast_6 ?_
    obtain ⟨q2, hq2, h⟩ := bnd h
    refine w_cv (w_rV (As := []) (rest := []) C hP (k := 33) (c_X2_clear l D aI aL ad inj _ s1 q2 hq2) (gV wt355 wt356 wt357 wt5 wt358) 0 hd_X2_clear ⟨Nat.le_of_ble_eq_true rfl, Nat.le_of_ble_eq_true rfl⟩ (by decide) 1 rfl rfl rfl hl.1 rfl (Nat.le_of_ble_eq_true rfl) dX8_forgetRowAndPast_9) hP (fun H locs hP => ?_)
    obtain rfl := Option.some.inj h
    have hK : q2 = r0 := hK
    exact w_vret C hlk hr hP hK dX8_forgetRowAndPast_12
  exact bk r0 hf rfl _ _ hP
theorem hd_X8_layFloor : yX8_layFloor.cls = RX8 ∧ yX8_layFloor.cls ≠ "java/lang/invoke/MethodHandle" ∧ yX8_layFloor.cls ≠ "java/lang/invoke/VarHandle" ∧ (parseMethodDescriptor yX8_layFloor.desc).map (fun d => d.parameters.length) = some 0 := by decide +kernel
set_option maxHeartbeats 4000000 in
set_option maxRecDepth 100000 in
theorem c_X8_layFloor (l : Launch) (D : va_G) (aI aL : ClassId) (ad : Nat → Nat) (inj : Inj ad 42) (sz : Nat) (σ : Sg) (r0 : (Int32 × Sg)) (hf : f_X8_layFloor σ = some r0) : Met l yX8_layFloor (wS yX8_layFloor cX8_layFloor 1 (some .int)) (RM 5 118) (Pw D aI aL 42 shX ad sz σ [.ref (ad 0)]) (Qi D aI aL 42 shX ad r0.1 r0.2 sz) 0 0 (AA ad 42 sz) := by
  refine Mof (Qc := Qi D aI aL 42 shX ad r0.1 r0.2) (by decide) inj (Nat.le_of_ble_eq_true rfl) ?_
  intro p e s m args below meth c ls C hlk hr hP hl
  have hx := C.1.1
  have hb_ := C.1.2.1
  have hown := C.1.2.2.2.1
  have hts := C.1.2.2.2.2
  have hl : lv_has ls 1 [(0, .ref (ad 0))] := hl
  have bk_30 : ∀ (s_30 : Sg) (y : (Int32 × Sg)), f_X8_layFloor_30 s_30 = some y → (fun y => y = r0) y → ∀ (H : Heap) (locs : List Loc) (ls : Array Slot), HS D aI aL 42 shX ad s_30 s H locs → lv_has ls 1 [] → W p l e (RM 5 118) s m args below meth c H locs 0 0 (MQ below (Qi D aI aL 42 shX ad r0.1 r0.2 s.heap.size) args s 0 0 (AA ad 42 s.heap.size)) (F0 m 30 ls []) := by
    intro s_30 y h hK H locs ls hP hl
    unfold f_X8_layFloor_30 at h
    refine lv_bipush (v := (-2)) hx hb_ dX8_layFloor_30 (by decide) ?_
    obtain rfl := Option.some.inj h
    have hK : ((-2), s_30) = r0 := hK
    have hK1 := congrArg Prod.fst hK
    have hK2 := congrArg Prod.snd hK
    exact w_iret C hlk hr hP hK1 hK2 dX8_layFloor_32
  have bk : ∀ (y : (Int32 × Sg)), f_X8_layFloor σ = some y → y = r0 → ∀ (H : Heap) (locs : List Loc), HS D aI aL 42 shX ad σ s H locs → W p l e (RM 5 118) s m args below meth c H locs 0 0 (MQ below (Qi D aI aL 42 shX ad r0.1 r0.2 s.heap.size) args s 0 0 (AA ad 42 s.heap.size)) (F0 m 0 ls []) := by
    intro y h hK H locs hP
    unfold f_X8_layFloor at h
    refine lv_aload_n hx hb_ dX8_layFloor_0 rfl (lv_at hl 0 rfl) ?_
    refine w_get C hP (k := 0) (by decide) 6 rfl rfl inWX8 1 (by decide) wt285 (v := .ref (ad 3)) rfl dX8_layFloor_1 ?_
    refine lv_aload_n hx hb_ dX8_layFloor_4 rfl (lv_at hl 0 rfl) ?_
    refine w_get C hP (k := 0) (by decide) 6 rfl rfl inWX8 2 (by decide) wt286 (v := .ref (ad 5)) rfl dX8_layFloor_5 ?_
    refine lv_aload_n hx hb_ dX8_layFloor_8 rfl (lv_at hl 0 rfl) ?_
    refine w_get C hP (k := 0) (by decide) 6 rfl rfl inWX8 0 (by decide) wt284 (v := .ref (ad 1)) rfl dX8_layFloor_9 ?_
    obtain ⟨q1, hq1, h⟩ := bnd h
    refine w_ci (w_rV (As := [.ref (ad 5), .ref (ad 1)]) (rest := []) C hP (k := 3) (c_X4_readOnto l D aI aL ad inj _ σ 5 fl5 q1 hq1) (gV wt193 wt194 wt195 wt3 wt196) 2 hd_X4_readOnto ⟨Nat.le_of_ble_eq_true rfl, Nat.le_of_ble_eq_true rfl⟩ (by decide) 3 rfl rfl rfl hl.1 rfl (Nat.le_of_ble_eq_true rfl) dX8_layFloor_12) hP (fun H locs hP => ?_)
    refine lv_bipush (v := (-4)) hx hb_ dX8_layFloor_15 (by decide) ?_
    refine lv_icmp_ne (tgt := 30) hx hb_ dX8_layFloor_17 (by decide) (fun hc => ?_) (fun hc => ?_)
    · replace h := iff' h hc
      exact bk_30 q1.2 y h hK _ _ _ hP (lv_sub hl [] rfl)
    · replace h := ift h hc
      refine lv_aload_n hx hb_ dX8_layFloor_20 rfl (lv_at hl 0 rfl) ?_
      refine w_get C hP (k := 0) (by decide) 6 rfl rfl inWX8 2 (by decide) wt286 (v := .ref (ad 5)) rfl dX8_layFloor_21 ?_
      obtain ⟨q2, hq2, h⟩ := bnd h
      refine w_ci (w_rV (As := []) (rest := []) C hP (k := 5) (c_X1_stepCount l D aI aL ad inj _ q1.2 5 fl5 q2 hq2) (gV wt340 wt341 wt342 wt4 wt343) 0 hd_X1_stepCount ⟨Nat.le_of_ble_eq_true rfl, Nat.le_of_ble_eq_true rfl⟩ (by decide) 0 rfl rfl rfl hl.1 rfl (Nat.le_of_ble_eq_true rfl) dX8_layFloor_24) hP (fun H locs hP => ?_)
      refine lv_if_ne (tgt := 33) hx hb_ dX8_layFloor_27 (by decide) (fun hc => ?_) (fun hc => ?_)
      · replace h := iff' h hc
        refine lv_aload_n hx hb_ dX8_layFloor_33 rfl (lv_at hl 0 rfl) ?_
        refine w_get C hP (k := 0) (by decide) 6 rfl rfl inWX8 3 (by decide) wt287 (v := .ref (ad 12)) rfl dX8_layFloor_34 ?_
        refine lv_aload_n hx hb_ dX8_layFloor_37 rfl (lv_at hl 0 rfl) ?_
        refine w_get C hP (k := 0) (by decide) 6 rfl rfl inWX8 2 (by decide) wt286 (v := .ref (ad 5)) rfl dX8_layFloor_38 ?_
        obtain ⟨q3, hq3, h⟩ := bnd h
        refine w_cv (w_rV (As := [.ref (ad 5)]) (rest := []) C hP (k := 12) (c_X1_copyFrom l D aI aL ad inj _ q1.2 12 fl12 5 fl5 q3 hq3) (gV wt344 wt345 wt346 wt4 wt347) 1 hd_X1_copyFrom ⟨Nat.le_of_ble_eq_true rfl, Nat.le_of_ble_eq_true rfl⟩ (by decide) 0 rfl rfl rfl hl.1 rfl (Nat.le_of_ble_eq_true rfl) dX8_layFloor_41) hP (fun H locs hP => ?_)
        refine lv_aload_n hx hb_ dX8_layFloor_44 rfl (lv_at hl 0 rfl) ?_
        refine lv_iconst (v := 0) hx hb_ dX8_layFloor_45 (by decide) ?_
        obtain ⟨s4, hs4, h⟩ := bnd h
        refine w_puti C hP (k := 0) (by decide) 6 rfl rfl inWX8 tyX8 tyX8_ok nmX8 11 (by decide) wt295 rfl rfl rfl rfl hs4 dX8_layFloor_46 (fun H locs hP => ?_)
        refine lv_aload_n hx hb_ dX8_layFloor_49 rfl (lv_at hl 0 rfl) ?_
        obtain ⟨q5, hq5, h⟩ := bnd h
        refine w_cv (w_rV (As := []) (rest := []) C hP (k := 0) (c_X8_forgetRowAndPast l D aI aL ad inj _ s4 q5 hq5) (gV wt351 wt353 wp2 wt1 wt354) 0 hd_X8_forgetRowAndPast ⟨Nat.le_of_ble_eq_true rfl, Nat.le_of_ble_eq_true rfl⟩ (by decide) 6 rfl rfl rfl hl.1 rfl (Nat.le_of_ble_eq_true rfl) dX8_layFloor_50) hP (fun H locs hP => ?_)
        refine lv_aload_n hx hb_ dX8_layFloor_53 rfl (lv_at hl 0 rfl) ?_
        refine w_get C hP (k := 0) (by decide) 6 rfl rfl inWX8 3 (by decide) wt287 (v := .ref (ad 12)) rfl dX8_layFloor_54 ?_
        obtain ⟨q6, hq6, h⟩ := bnd h
        refine w_ci (w_rV (As := []) (rest := []) C hP (k := 12) (c_X1_stoneCount l D aI aL ad inj _ q5 12 fl12 q6 hq6) (gV wt359 wt360 wt361 wt4 wt362) 0 hd_X1_stoneCount ⟨Nat.le_of_ble_eq_true rfl, Nat.le_of_ble_eq_true rfl⟩ (by decide) 0 rfl rfl rfl hl.1 rfl (Nat.le_of_ble_eq_true rfl) dX8_layFloor_57) hP (fun H locs hP => ?_)
        obtain rfl := Option.some.inj h
        have hK : (q6, q5) = r0 := hK
        have hK1 := congrArg Prod.fst hK
        have hK2 := congrArg Prod.snd hK
        exact w_iret C hlk hr hP hK1 hK2 dX8_layFloor_60
      · replace h := ift h hc
        exact bk_30 q1.2 y h hK _ _ _ hP (lv_sub hl [] rfl)
  exact bk r0 hf rfl _ _ hP
theorem hd_X8_isStone : yX8_isStone.cls = RX8 ∧ yX8_isStone.cls ≠ "java/lang/invoke/MethodHandle" ∧ yX8_isStone.cls ≠ "java/lang/invoke/VarHandle" ∧ (parseMethodDescriptor yX8_isStone.desc).map (fun d => d.parameters.length) = some 1 := by decide +kernel
set_option maxHeartbeats 4000000 in
set_option maxRecDepth 100000 in
theorem c_X8_isStone (l : Launch) (D : va_G) (aI aL : ClassId) (ad : Nat → Nat) (inj : Inj ad 42) (sz : Nat) (σ : Sg) (v1 : Int32) (r0 : Int32) (hf : f_X8_isStone v1 σ = some r0) : Met l yX8_isStone (wS yX8_isStone cX8_isStone 2 (some .boolean)) (RM 1 21) (Pw D aI aL 42 shX ad sz σ [.ref (ad 0), .int v1]) (Qi D aI aL 42 shX ad r0 σ sz) 0 0 (AA ad 42 sz) := by
  refine Mof (Qc := Qi D aI aL 42 shX ad r0 σ) (by decide) inj (Nat.le_of_ble_eq_true rfl) ?_
  intro p e s m args below meth c ls C hlk hr hP hl
  have hx := C.1.1
  have hb_ := C.1.2.1
  have hown := C.1.2.2.2.1
  have hts := C.1.2.2.2.2
  have hl : lv_has ls 2 [(0, .ref (ad 0)), (1, .int v1)] := hl
  have bk : ∀ (y : Int32), f_X8_isStone v1 σ = some y → y = r0 → ∀ (H : Heap) (locs : List Loc), HS D aI aL 42 shX ad σ s H locs → W p l e (RM 1 21) s m args below meth c H locs 0 0 (MQ below (Qi D aI aL 42 shX ad r0 σ s.heap.size) args s 0 0 (AA ad 42 s.heap.size)) (F0 m 0 ls []) := by
    intro y h hK H locs hP
    unfold f_X8_isStone at h
    refine lv_aload_n hx hb_ dX8_isStone_0 rfl (lv_at hl 0 rfl) ?_
    refine w_get C hP (k := 0) (by decide) 6 rfl rfl inWX8 3 (by decide) wt287 (v := .ref (ad 12)) rfl dX8_isStone_1 ?_
    refine lv_iload_n hx hb_ dX8_isStone_4 rfl (lv_at hl 1 rfl) ?_
    obtain ⟨q1, hq1, h⟩ := bnd h
    refine w_ci (w_rV (As := [.int v1]) (rest := []) C hP (k := 12) (c_X1_hasStone l D aI aL ad inj _ σ 12 fl12 v1 q1 hq1) (gV wt371 wt251 wt252 wt4 wt253) 1 hd_X1_hasStone ⟨Nat.le_of_ble_eq_true rfl, Nat.le_of_ble_eq_true rfl⟩ (by decide) 0 rfl rfl rfl hl.1 rfl (Nat.le_of_ble_eq_true rfl) dX8_isStone_5) hP (fun H locs hP => ?_)
    obtain ⟨x2, hx2, h⟩ := bnd h
    obtain rfl := Option.some.inj h
    have hK : (x2 : Int32) = r0 := hK
    exact w_zret C hlk hr hP hx2 hK rfl dX8_isStone_8
  exact bk r0 hf rfl _ _ hP
