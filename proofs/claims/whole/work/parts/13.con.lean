theorem hd_X9_isRead : yX9_isRead.cls = RX9 ∧ yX9_isRead.cls ≠ "java/lang/invoke/MethodHandle" ∧ yX9_isRead.cls ≠ "java/lang/invoke/VarHandle" ∧ (parseMethodDescriptor yX9_isRead.desc).map (fun d => d.parameters.length) = some 1 := by decide +kernel
set_option maxHeartbeats 4000000 in
set_option maxRecDepth 100000 in
theorem c_X9_isRead (l : Launch) (D : va_G) (aI aL : ClassId) (ad : Nat → Nat) (inj : Inj ad 8) (sz : Nat) (σ : Sg) (v1 : Int32) (r0 : Int32) (hf : f_X9_isRead v1 σ = some r0) : Met l yX9_isRead (wS yX9_isRead cX9_isRead 2 (some .boolean)) (RM 0 0) (Pw D aI aL 8 shM ad sz σ [.ref (ad 0), .int v1]) (Qi D aI aL 8 shM ad r0 σ sz) 0 0 (AA ad 8 sz) := by
  refine Mof (Qc := Qi D aI aL 8 shM ad r0 σ) (by decide) inj (Nat.le_of_ble_eq_true rfl) ?_
  intro p e s m args below meth c ls C hlk hr hP hl
  have hx := C.1.1
  have hb_ := C.1.2.1
  have hown := C.1.2.2.2.1
  have hts := C.1.2.2.2.2
  have hl : lv_has ls 2 [(0, .ref (ad 0)), (1, .int v1)] := hl
  have bk_17 : ∀ (t0_17 : Int32) (y : Int32), f_X9_isRead_17 t0_17 σ = some y → (fun y => y = r0) y → ∀ (H : Heap) (locs : List Loc) (ls : Array Slot), HS D aI aL 8 shM ad σ s H locs → lv_has ls 2 [] → W p l e (RM 0 0) s m args below meth c H locs 0 0 (MQ below (Qi D aI aL 8 shM ad r0 σ s.heap.size) args s 0 0 (AA ad 8 s.heap.size)) (F0 m 17 ls [.int t0_17]) := by
    intro t0_17 y h hK H locs ls hP hl
    unfold f_X9_isRead_17 at h
    obtain ⟨x2, hx2, h⟩ := bnd h
    obtain rfl := Option.some.inj h
    have hK : (x2 : Int32) = r0 := hK
    exact w_zret C hlk hr hP hx2 hK rfl dX9_isRead_17
  have bk : ∀ (y : Int32), f_X9_isRead v1 σ = some y → y = r0 → ∀ (H : Heap) (locs : List Loc), HS D aI aL 8 shM ad σ s H locs → W p l e (RM 0 0) s m args below meth c H locs 0 0 (MQ below (Qi D aI aL 8 shM ad r0 σ s.heap.size) args s 0 0 (AA ad 8 s.heap.size)) (F0 m 0 ls []) := by
    intro y h hK H locs hP
    unfold f_X9_isRead at h
    refine lv_iload_n hx hb_ dX9_isRead_0 rfl (lv_at hl 1 rfl) ?_
    refine lv_aload_n hx hb_ dX9_isRead_1 rfl (lv_at hl 0 rfl) ?_
    refine w_get C hP (k := 0) (by decide) 7 rfl rfl inWX9 0 (by decide) wt784 (v := .ref (ad 1)) rfl dX9_isRead_2 ?_
    refine lv_sipush (v := 605) hx hb_ dX9_isRead_5 (by decide) ?_
    obtain ⟨x1, hx1, h⟩ := bnd h
    refine w_ald C hP (k := 1) (by decide) (n := 660) rfl hx1 dX9_isRead_8 ?_
    refine lv_icmp_ge (tgt := 16) hx hb_ dX9_isRead_9 (by decide) (fun hc => ?_) (fun hc => ?_)
    · replace h := ift h hc
      refine lv_iconst (v := 0) hx hb_ dX9_isRead_16 (by decide) ?_
      exact bk_17 0 y h hK _ _ _ hP (lv_sub hl [] rfl)
    · replace h := iff' h hc
      refine lv_iconst (v := 1) hx hb_ dX9_isRead_12 (by decide) ?_
      refine lv_goto (tgt := 17) hx hb_ dX9_isRead_13 (by decide) ?_
      exact bk_17 1 y h hK _ _ _ hP (lv_sub hl [] rfl)
  exact bk r0 hf rfl _ _ hP
theorem hd_X9_readStep : yX9_readStep.cls = RX9 ∧ yX9_readStep.cls ≠ "java/lang/invoke/MethodHandle" ∧ yX9_readStep.cls ≠ "java/lang/invoke/VarHandle" ∧ (parseMethodDescriptor yX9_readStep.desc).map (fun d => d.parameters.length) = some 0 := by decide +kernel
set_option maxHeartbeats 4000000 in
set_option maxRecDepth 100000 in
theorem c_X9_readStep (l : Launch) (D : va_G) (aI aL : ClassId) (ad : Nat → Nat) (inj : Inj ad 8) (sz : Nat) (σ : Sg) (r0 : (Int32 × Sg)) (hf : f_X9_readStep σ = some r0) : Met l yX9_readStep (wS yX9_readStep cX9_readStep 2 (some .boolean)) (RM 2 49) (Pw D aI aL 8 shM ad sz σ [.ref (ad 0)]) (Qi D aI aL 8 shM ad r0.1 r0.2 sz) 0 0 (AA ad 8 sz) := by
  refine Mof (Qc := Qi D aI aL 8 shM ad r0.1 r0.2) (by decide) inj (Nat.le_of_ble_eq_true rfl) ?_
  intro p e s m args below meth c ls C hlk hr hP hl
  have hx := C.1.1
  have hb_ := C.1.2.1
  have hown := C.1.2.2.2.1
  have hts := C.1.2.2.2.2
  have hl : lv_has ls 2 [(0, .ref (ad 0))] := hl
  have bk_125 : ∀ (v1_125 : Int32) (s_125 : Sg) (y : (Int32 × Sg)), f_X9_readStep_125 v1_125 s_125 = some y → (fun y => y = r0) y → ∀ (H : Heap) (locs : List Loc) (ls : Array Slot), HS D aI aL 8 shM ad s_125 s H locs → lv_has ls 2 [(1, .int v1_125)] → W p l e (RM 2 49) s m args below meth c H locs 0 0 (MQ below (Qi D aI aL 8 shM ad r0.1 r0.2 s.heap.size) args s 0 0 (AA ad 8 s.heap.size)) (F0 m 125 ls []) := by
    intro v1_125 s_125 y h hK H locs ls hP hl
    unfold f_X9_readStep_125 at h
    refine lv_iload_n hx hb_ dX9_readStep_125 rfl (lv_at hl 0 rfl) ?_
    obtain ⟨x2, hx2, h⟩ := bnd h
    obtain rfl := Option.some.inj h
    have hK : (x2, s_125) = r0 := hK
    have hK1 := congrArg Prod.fst hK
    have hK2 := congrArg Prod.snd hK
    exact w_zret C hlk hr hP hx2 hK1 hK2 dX9_readStep_126
  have bk_95 : ∀ (t0_95 : Int32) (s_95 : Sg) (y : (Int32 × Sg)), f_X9_readStep_95 t0_95 s_95 = some y → (fun y => y = r0) y → ∀ (H : Heap) (locs : List Loc) (ls : Array Slot), HS D aI aL 8 shM ad s_95 s H locs → lv_has ls 2 [(0, .ref (ad 0))] → W p l e (RM 2 49) s m args below meth c H locs 0 0 (MQ below (Qi D aI aL 8 shM ad r0.1 r0.2 s.heap.size) args s 0 0 (AA ad 8 s.heap.size)) (F0 m 95 ls [.int t0_95]) := by
    intro t0_95 s_95 y h hK H locs ls hP hl
    unfold f_X9_readStep_95 at h
    refine lv_istore_n (lv' := [(1, .int t0_95), (0, .ref (ad 0))]) hx hb_ dX9_readStep_95 rfl hl (by decide) rfl (fun ls hl => ?_)
    refine lv_iload_n hx hb_ dX9_readStep_96 rfl (lv_at hl 0 rfl) ?_
    refine lv_if_eq (tgt := 125) hx hb_ dX9_readStep_97 (by decide) (fun hc => ?_) (fun hc => ?_)
    · replace h := ift h hc
      exact bk_125 t0_95 s_95 y h hK _ _ _ hP (lv_sub hl [0] rfl)
    · replace h := iff' h hc
      refine lv_aload_n hx hb_ dX9_readStep_100 rfl (lv_at hl 1 rfl) ?_
      refine lv_sipush (v := 605) hx hb_ dX9_readStep_101 (by decide) ?_
      refine lv_aload_n hx hb_ dX9_readStep_104 rfl (lv_at hl 1 rfl) ?_
      refine w_get C hP (k := 0) (by decide) 7 rfl rfl inWX9 8 (by decide) wt792 (v := .ref (ad 4)) rfl dX9_readStep_105 ?_
      refine lv_iconst (v := 0) hx hb_ dX9_readStep_108 (by decide) ?_
      obtain ⟨x3, hx3, h⟩ := bnd h
      refine w_ald C hP (k := 4) (by decide) (n := 3) rfl hx3 dX9_readStep_109 ?_
      refine lv_aload_n hx hb_ dX9_readStep_110 rfl (lv_at hl 1 rfl) ?_
      refine w_get C hP (k := 0) (by decide) 7 rfl rfl inWX9 8 (by decide) wt792 (v := .ref (ad 4)) rfl dX9_readStep_111 ?_
      refine lv_iconst (v := 1) hx hb_ dX9_readStep_114 (by decide) ?_
      obtain ⟨x4, hx4, h⟩ := bnd h
      refine w_ald C hP (k := 4) (by decide) (n := 3) rfl hx4 dX9_readStep_115 ?_
      refine lv_aload_n hx hb_ dX9_readStep_116 rfl (lv_at hl 1 rfl) ?_
      refine w_get C hP (k := 0) (by decide) 7 rfl rfl inWX9 8 (by decide) wt792 (v := .ref (ad 4)) rfl dX9_readStep_117 ?_
      refine lv_iconst (v := 2) hx hb_ dX9_readStep_120 (by decide) ?_
      obtain ⟨x5, hx5, h⟩ := bnd h
      refine w_ald C hP (k := 4) (by decide) (n := 3) rfl hx5 dX9_readStep_121 ?_
      obtain ⟨q6, hq6, h⟩ := bnd h
      refine w_cv (w_rV (As := [.int 605, .int x3, .int x4, .int x5]) (rest := []) C hP (k := 0) (c_X9_layStep l D aI aL ad inj _ s_95 605 x3 x4 x5 q6 hq6) (gV wt776 wt778 wp14 wt12 wt779) 4 hd_X9_layStep ⟨Nat.le_of_ble_eq_true rfl, Nat.le_of_ble_eq_true rfl⟩ (by decide) 7 rfl rfl rfl hl.1 rfl (Nat.le_of_ble_eq_true rfl) dX9_readStep_122) hP (fun H locs hP => ?_)
      exact bk_125 t0_95 q6 y h hK _ _ _ hP (lv_sub hl [0] rfl)
  have bk_94 : ∀ (s_94 : Sg) (y : (Int32 × Sg)), f_X9_readStep_94 s_94 = some y → (fun y => y = r0) y → ∀ (H : Heap) (locs : List Loc) (ls : Array Slot), HS D aI aL 8 shM ad s_94 s H locs → lv_has ls 2 [(0, .ref (ad 0))] → W p l e (RM 2 49) s m args below meth c H locs 0 0 (MQ below (Qi D aI aL 8 shM ad r0.1 r0.2 s.heap.size) args s 0 0 (AA ad 8 s.heap.size)) (F0 m 94 ls []) := by
    intro s_94 y h hK H locs ls hP hl
    unfold f_X9_readStep_94 at h
    refine lv_iconst (v := 0) hx hb_ dX9_readStep_94 (by decide) ?_
    exact bk_95 0 s_94 y h hK _ _ _ hP (lv_sub hl [0] rfl)
  have bk : ∀ (y : (Int32 × Sg)), f_X9_readStep σ = some y → y = r0 → ∀ (H : Heap) (locs : List Loc), HS D aI aL 8 shM ad σ s H locs → W p l e (RM 2 49) s m args below meth c H locs 0 0 (MQ below (Qi D aI aL 8 shM ad r0.1 r0.2 s.heap.size) args s 0 0 (AA ad 8 s.heap.size)) (F0 m 0 ls []) := by
    intro y h hK H locs hP
    unfold f_X9_readStep at h
    refine lv_aload_n hx hb_ dX9_readStep_0 rfl (lv_at hl 0 rfl) ?_
    refine lv_iconst (v := 3) hx hb_ dX9_readStep_1 (by decide) ?_
    obtain ⟨q1, hq1, h⟩ := bnd h
    refine w_ci (w_rV (As := [.int 3]) (rest := []) C hP (k := 0) (c_X9_takes l D aI aL ad inj _ σ 3 q1 hq1) (gV wt846 wt848 wp17 wt12 wt849) 1 hd_X9_takes ⟨Nat.le_of_ble_eq_true rfl, Nat.le_of_ble_eq_true rfl⟩ (by decide) 7 rfl rfl rfl hl.1 rfl (Nat.le_of_ble_eq_true rfl) dX9_readStep_2) hP (fun H locs hP => ?_)
    refine lv_if_eq (tgt := 94) hx hb_ dX9_readStep_5 (by decide) (fun hc => ?_) (fun hc => ?_)
    · replace h := ift h hc
      exact bk_94 q1.2 y h hK _ _ _ hP (lv_sub hl [0] rfl)
    · replace h := iff' h hc
      refine lv_aload_n hx hb_ dX9_readStep_8 rfl (lv_at hl 0 rfl) ?_
      refine lv_aload_n hx hb_ dX9_readStep_9 rfl (lv_at hl 0 rfl) ?_
      refine w_get C hP (k := 0) (by decide) 7 rfl rfl inWX9 8 (by decide) wt792 (v := .ref (ad 4)) rfl dX9_readStep_10 ?_
      refine lv_iconst (v := 0) hx hb_ dX9_readStep_13 (by decide) ?_
      obtain ⟨x7, hx7, h⟩ := bnd h
      refine w_ald C hP (k := 4) (by decide) (n := 3) rfl hx7 dX9_readStep_14 ?_
      obtain ⟨q8, hq8, h⟩ := bnd h
      refine w_ci (w_rV (As := [.int x7]) (rest := []) C hP (k := 0) (c_X9_isRead l D aI aL ad inj _ q1.2 x7 q8 hq8) (gV wt853 wt855 wp18 wt12 wt856) 1 hd_X9_isRead ⟨Nat.le_of_ble_eq_true rfl, Nat.le_of_ble_eq_true rfl⟩ (by decide) 7 rfl rfl rfl hl.1 rfl (Nat.le_of_ble_eq_true rfl) dX9_readStep_15) hP (fun H locs hP => ?_)
      refine lv_if_eq (tgt := 94) hx hb_ dX9_readStep_18 (by decide) (fun hc => ?_) (fun hc => ?_)
      · replace h := ift h hc
        exact bk_94 q1.2 y h hK _ _ _ hP (lv_sub hl [0] rfl)
      · replace h := iff' h hc
        refine lv_aload_n hx hb_ dX9_readStep_21 rfl (lv_at hl 0 rfl) ?_
        refine lv_aload_n hx hb_ dX9_readStep_22 rfl (lv_at hl 0 rfl) ?_
        refine w_get C hP (k := 0) (by decide) 7 rfl rfl inWX9 8 (by decide) wt792 (v := .ref (ad 4)) rfl dX9_readStep_23 ?_
        refine lv_iconst (v := 1) hx hb_ dX9_readStep_26 (by decide) ?_
        obtain ⟨x9, hx9, h⟩ := bnd h
        refine w_ald C hP (k := 4) (by decide) (n := 3) rfl hx9 dX9_readStep_27 ?_
        obtain ⟨q10, hq10, h⟩ := bnd h
        refine w_ci (w_rV (As := [.int x9]) (rest := []) C hP (k := 0) (c_X9_isRead l D aI aL ad inj _ q1.2 x9 q10 hq10) (gV wt853 wt855 wp18 wt12 wt856) 1 hd_X9_isRead ⟨Nat.le_of_ble_eq_true rfl, Nat.le_of_ble_eq_true rfl⟩ (by decide) 7 rfl rfl rfl hl.1 rfl (Nat.le_of_ble_eq_true rfl) dX9_readStep_28) hP (fun H locs hP => ?_)
        refine lv_if_eq (tgt := 94) hx hb_ dX9_readStep_31 (by decide) (fun hc => ?_) (fun hc => ?_)
        · replace h := ift h hc
          exact bk_94 q1.2 y h hK _ _ _ hP (lv_sub hl [0] rfl)
        · replace h := iff' h hc
          refine lv_aload_n hx hb_ dX9_readStep_34 rfl (lv_at hl 0 rfl) ?_
          refine lv_aload_n hx hb_ dX9_readStep_35 rfl (lv_at hl 0 rfl) ?_
          refine w_get C hP (k := 0) (by decide) 7 rfl rfl inWX9 8 (by decide) wt792 (v := .ref (ad 4)) rfl dX9_readStep_36 ?_
          refine lv_iconst (v := 2) hx hb_ dX9_readStep_39 (by decide) ?_
          obtain ⟨x11, hx11, h⟩ := bnd h
          refine w_ald C hP (k := 4) (by decide) (n := 3) rfl hx11 dX9_readStep_40 ?_
          obtain ⟨q12, hq12, h⟩ := bnd h
          refine w_ci (w_rV (As := [.int x11]) (rest := []) C hP (k := 0) (c_X9_isRead l D aI aL ad inj _ q1.2 x11 q12 hq12) (gV wt853 wt855 wp18 wt12 wt856) 1 hd_X9_isRead ⟨Nat.le_of_ble_eq_true rfl, Nat.le_of_ble_eq_true rfl⟩ (by decide) 7 rfl rfl rfl hl.1 rfl (Nat.le_of_ble_eq_true rfl) dX9_readStep_41) hP (fun H locs hP => ?_)
          refine lv_if_eq (tgt := 94) hx hb_ dX9_readStep_44 (by decide) (fun hc => ?_) (fun hc => ?_)
          · replace h := ift h hc
            exact bk_94 q1.2 y h hK _ _ _ hP (lv_sub hl [0] rfl)
          · replace h := iff' h hc
            refine lv_aload_n hx hb_ dX9_readStep_47 rfl (lv_at hl 0 rfl) ?_
            refine w_get C hP (k := 0) (by decide) 7 rfl rfl inWX9 8 (by decide) wt792 (v := .ref (ad 4)) rfl dX9_readStep_48 ?_
            refine lv_iconst (v := 2) hx hb_ dX9_readStep_51 (by decide) ?_
            obtain ⟨x13, hx13, h⟩ := bnd h
            refine w_ald C hP (k := 4) (by decide) (n := 3) rfl hx13 dX9_readStep_52 ?_
            refine lv_aload_n hx hb_ dX9_readStep_53 rfl (lv_at hl 0 rfl) ?_
            refine w_get C hP (k := 0) (by decide) 7 rfl rfl inWX9 8 (by decide) wt792 (v := .ref (ad 4)) rfl dX9_readStep_54 ?_
            refine lv_iconst (v := 0) hx hb_ dX9_readStep_57 (by decide) ?_
            obtain ⟨x14, hx14, h⟩ := bnd h
            refine w_ald C hP (k := 4) (by decide) (n := 3) rfl hx14 dX9_readStep_58 ?_
            refine lv_icmp_eq (tgt := 94) hx hb_ dX9_readStep_59 (by decide) (fun hc => ?_) (fun hc => ?_)
            · replace h := ift h hc
              exact bk_94 q1.2 y h hK _ _ _ hP (lv_sub hl [0] rfl)
            · replace h := iff' h hc
              refine lv_aload_n hx hb_ dX9_readStep_62 rfl (lv_at hl 0 rfl) ?_
              refine w_get C hP (k := 0) (by decide) 7 rfl rfl inWX9 8 (by decide) wt792 (v := .ref (ad 4)) rfl dX9_readStep_63 ?_
              refine lv_iconst (v := 2) hx hb_ dX9_readStep_66 (by decide) ?_
              obtain ⟨x15, hx15, h⟩ := bnd h
              refine w_ald C hP (k := 4) (by decide) (n := 3) rfl hx15 dX9_readStep_67 ?_
              refine lv_aload_n hx hb_ dX9_readStep_68 rfl (lv_at hl 0 rfl) ?_
              refine w_get C hP (k := 0) (by decide) 7 rfl rfl inWX9 8 (by decide) wt792 (v := .ref (ad 4)) rfl dX9_readStep_69 ?_
              refine lv_iconst (v := 1) hx hb_ dX9_readStep_72 (by decide) ?_
              obtain ⟨x16, hx16, h⟩ := bnd h
              refine w_ald C hP (k := 4) (by decide) (n := 3) rfl hx16 dX9_readStep_73 ?_
              refine lv_icmp_eq (tgt := 94) hx hb_ dX9_readStep_74 (by decide) (fun hc => ?_) (fun hc => ?_)
              · replace h := ift h hc
                exact bk_94 q1.2 y h hK _ _ _ hP (lv_sub hl [0] rfl)
              · replace h := iff' h hc
                refine lv_aload_n hx hb_ dX9_readStep_77 rfl (lv_at hl 0 rfl) ?_
                refine w_get C hP (k := 0) (by decide) 7 rfl rfl inWX9 0 (by decide) wt784 (v := .ref (ad 1)) rfl dX9_readStep_78 ?_
                refine lv_sipush (v := 609) hx hb_ dX9_readStep_81 (by decide) ?_
                obtain ⟨x17, hx17, h⟩ := bnd h
                refine w_ald C hP (k := 1) (by decide) (n := 660) rfl hx17 dX9_readStep_84 ?_
                refine lv_bipush (v := 10) hx hb_ dX9_readStep_85 (by decide) ?_
                refine lv_icmp_ge (tgt := 94) hx hb_ dX9_readStep_87 (by decide) (fun hc => ?_) (fun hc => ?_)
                · replace h := ift h hc
                  exact bk_94 q1.2 y h hK _ _ _ hP (lv_sub hl [0] rfl)
                · replace h := iff' h hc
                  refine lv_iconst (v := 1) hx hb_ dX9_readStep_90 (by decide) ?_
                  refine lv_goto (tgt := 95) hx hb_ dX9_readStep_91 (by decide) ?_
                  exact bk_95 1 q1.2 y h hK _ _ _ hP (lv_sub hl [0] rfl)
  exact bk r0 hf rfl _ _ hP
theorem hd_X9_readPair : yX9_readPair.cls = RX9 ∧ yX9_readPair.cls ≠ "java/lang/invoke/MethodHandle" ∧ yX9_readPair.cls ≠ "java/lang/invoke/VarHandle" ∧ (parseMethodDescriptor yX9_readPair.desc).map (fun d => d.parameters.length) = some 0 := by decide +kernel
set_option maxHeartbeats 4000000 in
set_option maxRecDepth 100000 in
theorem c_X9_readPair (l : Launch) (D : va_G) (aI aL : ClassId) (ad : Nat → Nat) (inj : Inj ad 8) (sz : Nat) (σ : Sg) (r0 : (Int32 × Sg)) (hf : f_X9_readPair σ = some r0) : Met l yX9_readPair (wS yX9_readPair cX9_readPair 2 (some .boolean)) (RM 2 49) (Pw D aI aL 8 shM ad sz σ [.ref (ad 0)]) (Qi D aI aL 8 shM ad r0.1 r0.2 sz) 0 0 (AA ad 8 sz) := by
  refine Mof (Qc := Qi D aI aL 8 shM ad r0.1 r0.2) (by decide) inj (Nat.le_of_ble_eq_true rfl) ?_
  intro p e s m args below meth c ls C hlk hr hP hl
  have hx := C.1.1
  have hb_ := C.1.2.1
  have hown := C.1.2.2.2.1
  have hts := C.1.2.2.2.2
  have hl : lv_has ls 2 [(0, .ref (ad 0))] := hl
  have bk_111 : ∀ (v1_111 : Int32) (s_111 : Sg) (y : (Int32 × Sg)), f_X9_readPair_111 v1_111 s_111 = some y → (fun y => y = r0) y → ∀ (H : Heap) (locs : List Loc) (ls : Array Slot), HS D aI aL 8 shM ad s_111 s H locs → lv_has ls 2 [(1, .int v1_111)] → W p l e (RM 2 49) s m args below meth c H locs 0 0 (MQ below (Qi D aI aL 8 shM ad r0.1 r0.2 s.heap.size) args s 0 0 (AA ad 8 s.heap.size)) (F0 m 111 ls []) := by
    intro v1_111 s_111 y h hK H locs ls hP hl
    unfold f_X9_readPair_111 at h
    refine lv_iload_n hx hb_ dX9_readPair_111 rfl (lv_at hl 0 rfl) ?_
    obtain ⟨x2, hx2, h⟩ := bnd h
    obtain rfl := Option.some.inj h
    have hK : (x2, s_111) = r0 := hK
    have hK1 := congrArg Prod.fst hK
    have hK2 := congrArg Prod.snd hK
    exact w_zret C hlk hr hP hx2 hK1 hK2 dX9_readPair_112
  have bk_54 : ∀ (t0_54 : Int32) (s_54 : Sg) (y : (Int32 × Sg)), f_X9_readPair_54 t0_54 s_54 = some y → (fun y => y = r0) y → ∀ (H : Heap) (locs : List Loc) (ls : Array Slot), HS D aI aL 8 shM ad s_54 s H locs → lv_has ls 2 [(0, .ref (ad 0))] → W p l e (RM 2 49) s m args below meth c H locs 0 0 (MQ below (Qi D aI aL 8 shM ad r0.1 r0.2 s.heap.size) args s 0 0 (AA ad 8 s.heap.size)) (F0 m 54 ls [.int t0_54]) := by
    intro t0_54 s_54 y h hK H locs ls hP hl
    unfold f_X9_readPair_54 at h
    refine lv_istore_n (lv' := [(1, .int t0_54), (0, .ref (ad 0))]) hx hb_ dX9_readPair_54 rfl hl (by decide) rfl (fun ls hl => ?_)
    refine lv_iload_n hx hb_ dX9_readPair_55 rfl (lv_at hl 0 rfl) ?_
    refine lv_if_eq (tgt := 111) hx hb_ dX9_readPair_56 (by decide) (fun hc => ?_) (fun hc => ?_)
    · replace h := ift h hc
      exact bk_111 t0_54 s_54 y h hK _ _ _ hP (lv_sub hl [0] rfl)
    · replace h := iff' h hc
      refine lv_aload_n hx hb_ dX9_readPair_59 rfl (lv_at hl 1 rfl) ?_
      refine w_get C hP (k := 0) (by decide) 7 rfl rfl inWX9 0 (by decide) wt784 (v := .ref (ad 1)) rfl dX9_readPair_60 ?_
      refine lv_sipush (v := 650) hx hb_ dX9_readPair_63 (by decide) ?_
      refine lv_aload_n hx hb_ dX9_readPair_66 rfl (lv_at hl 1 rfl) ?_
      refine w_get C hP (k := 0) (by decide) 7 rfl rfl inWX9 8 (by decide) wt792 (v := .ref (ad 4)) rfl dX9_readPair_67 ?_
      refine lv_iconst (v := 0) hx hb_ dX9_readPair_70 (by decide) ?_
      obtain ⟨x3, hx3, h⟩ := bnd h
      refine w_ald C hP (k := 4) (by decide) (n := 3) rfl hx3 dX9_readPair_71 ?_
      refine lv_iadd hx hb_ dX9_readPair_72 ?_
      refine lv_dup2_11 hx hb_ dX9_readPair_73 rfl rfl ?_
      obtain ⟨x4, hx4, h⟩ := bnd h
      refine w_ald C hP (k := 1) (by decide) (n := 660) rfl hx4 dX9_readPair_74 ?_
      refine lv_iconst (v := 1) hx hb_ dX9_readPair_75 (by decide) ?_
      refine lv_aload_n hx hb_ dX9_readPair_76 rfl (lv_at hl 1 rfl) ?_
      refine w_get C hP (k := 0) (by decide) 7 rfl rfl inWX9 8 (by decide) wt792 (v := .ref (ad 4)) rfl dX9_readPair_77 ?_
      refine lv_iconst (v := 1) hx hb_ dX9_readPair_80 (by decide) ?_
      obtain ⟨x5, hx5, h⟩ := bnd h
      refine w_ald C hP (k := 4) (by decide) (n := 3) rfl hx5 dX9_readPair_81 ?_
      refine lv_ishl hx hb_ dX9_readPair_82 ?_
      refine lv_ior hx hb_ dX9_readPair_83 ?_
      obtain ⟨s6, hs6, h⟩ := bnd h
      refine w_ast C hP (k := 1) (by decide) (n := 660) rfl hs6 dX9_readPair_84 (fun H locs hP => ?_)
      refine lv_aload_n hx hb_ dX9_readPair_85 rfl (lv_at hl 1 rfl) ?_
      refine w_get C hP (k := 0) (by decide) 7 rfl rfl inWX9 0 (by decide) wt784 (v := .ref (ad 1)) rfl dX9_readPair_86 ?_
      refine lv_sipush (v := 650) hx hb_ dX9_readPair_89 (by decide) ?_
      refine lv_aload_n hx hb_ dX9_readPair_92 rfl (lv_at hl 1 rfl) ?_
      refine w_get C hP (k := 0) (by decide) 7 rfl rfl inWX9 8 (by decide) wt792 (v := .ref (ad 4)) rfl dX9_readPair_93 ?_
      refine lv_iconst (v := 1) hx hb_ dX9_readPair_96 (by decide) ?_
      obtain ⟨x7, hx7, h⟩ := bnd h
      refine w_ald C hP (k := 4) (by decide) (n := 3) rfl hx7 dX9_readPair_97 ?_
      refine lv_iadd hx hb_ dX9_readPair_98 ?_
      refine lv_dup2_11 hx hb_ dX9_readPair_99 rfl rfl ?_
      obtain ⟨x8, hx8, h⟩ := bnd h
      refine w_ald C hP (k := 1) (by decide) (n := 660) rfl hx8 dX9_readPair_100 ?_
      refine lv_iconst (v := 1) hx hb_ dX9_readPair_101 (by decide) ?_
      refine lv_aload_n hx hb_ dX9_readPair_102 rfl (lv_at hl 1 rfl) ?_
      refine w_get C hP (k := 0) (by decide) 7 rfl rfl inWX9 8 (by decide) wt792 (v := .ref (ad 4)) rfl dX9_readPair_103 ?_
      refine lv_iconst (v := 0) hx hb_ dX9_readPair_106 (by decide) ?_
      obtain ⟨x9, hx9, h⟩ := bnd h
      refine w_ald C hP (k := 4) (by decide) (n := 3) rfl hx9 dX9_readPair_107 ?_
      refine lv_ishl hx hb_ dX9_readPair_108 ?_
      refine lv_ior hx hb_ dX9_readPair_109 ?_
      obtain ⟨s10, hs10, h⟩ := bnd h
      refine w_ast C hP (k := 1) (by decide) (n := 660) rfl hs10 dX9_readPair_110 (fun H locs hP => ?_)
      exact bk_111 t0_54 s10 y h hK _ _ _ hP (lv_sub hl [0] rfl)
  have bk_53 : ∀ (s_53 : Sg) (y : (Int32 × Sg)), f_X9_readPair_53 s_53 = some y → (fun y => y = r0) y → ∀ (H : Heap) (locs : List Loc) (ls : Array Slot), HS D aI aL 8 shM ad s_53 s H locs → lv_has ls 2 [(0, .ref (ad 0))] → W p l e (RM 2 49) s m args below meth c H locs 0 0 (MQ below (Qi D aI aL 8 shM ad r0.1 r0.2 s.heap.size) args s 0 0 (AA ad 8 s.heap.size)) (F0 m 53 ls []) := by
    intro s_53 y h hK H locs ls hP hl
    unfold f_X9_readPair_53 at h
    refine lv_iconst (v := 0) hx hb_ dX9_readPair_53 (by decide) ?_
    exact bk_54 0 s_53 y h hK _ _ _ hP (lv_sub hl [0] rfl)
  have bk : ∀ (y : (Int32 × Sg)), f_X9_readPair σ = some y → y = r0 → ∀ (H : Heap) (locs : List Loc), HS D aI aL 8 shM ad σ s H locs → W p l e (RM 2 49) s m args below meth c H locs 0 0 (MQ below (Qi D aI aL 8 shM ad r0.1 r0.2 s.heap.size) args s 0 0 (AA ad 8 s.heap.size)) (F0 m 0 ls []) := by
    intro y h hK H locs hP
    unfold f_X9_readPair at h
    refine lv_aload_n hx hb_ dX9_readPair_0 rfl (lv_at hl 0 rfl) ?_
    refine lv_iconst (v := 2) hx hb_ dX9_readPair_1 (by decide) ?_
    obtain ⟨q1, hq1, h⟩ := bnd h
    refine w_ci (w_rV (As := [.int 2]) (rest := []) C hP (k := 0) (c_X9_takes l D aI aL ad inj _ σ 2 q1 hq1) (gV wt846 wt848 wp17 wt12 wt849) 1 hd_X9_takes ⟨Nat.le_of_ble_eq_true rfl, Nat.le_of_ble_eq_true rfl⟩ (by decide) 7 rfl rfl rfl hl.1 rfl (Nat.le_of_ble_eq_true rfl) dX9_readPair_2) hP (fun H locs hP => ?_)
    refine lv_if_eq (tgt := 53) hx hb_ dX9_readPair_5 (by decide) (fun hc => ?_) (fun hc => ?_)
    · replace h := ift h hc
      exact bk_53 q1.2 y h hK _ _ _ hP (lv_sub hl [0] rfl)
    · replace h := iff' h hc
      refine lv_aload_n hx hb_ dX9_readPair_8 rfl (lv_at hl 0 rfl) ?_
      refine lv_aload_n hx hb_ dX9_readPair_9 rfl (lv_at hl 0 rfl) ?_
      refine w_get C hP (k := 0) (by decide) 7 rfl rfl inWX9 8 (by decide) wt792 (v := .ref (ad 4)) rfl dX9_readPair_10 ?_
      refine lv_iconst (v := 0) hx hb_ dX9_readPair_13 (by decide) ?_
      obtain ⟨x11, hx11, h⟩ := bnd h
      refine w_ald C hP (k := 4) (by decide) (n := 3) rfl hx11 dX9_readPair_14 ?_
      obtain ⟨q12, hq12, h⟩ := bnd h
      refine w_ci (w_rV (As := [.int x11]) (rest := []) C hP (k := 0) (c_X9_isRead l D aI aL ad inj _ q1.2 x11 q12 hq12) (gV wt853 wt855 wp18 wt12 wt856) 1 hd_X9_isRead ⟨Nat.le_of_ble_eq_true rfl, Nat.le_of_ble_eq_true rfl⟩ (by decide) 7 rfl rfl rfl hl.1 rfl (Nat.le_of_ble_eq_true rfl) dX9_readPair_15) hP (fun H locs hP => ?_)
      refine lv_if_eq (tgt := 53) hx hb_ dX9_readPair_18 (by decide) (fun hc => ?_) (fun hc => ?_)
      · replace h := ift h hc
        exact bk_53 q1.2 y h hK _ _ _ hP (lv_sub hl [0] rfl)
      · replace h := iff' h hc
        refine lv_aload_n hx hb_ dX9_readPair_21 rfl (lv_at hl 0 rfl) ?_
        refine lv_aload_n hx hb_ dX9_readPair_22 rfl (lv_at hl 0 rfl) ?_
        refine w_get C hP (k := 0) (by decide) 7 rfl rfl inWX9 8 (by decide) wt792 (v := .ref (ad 4)) rfl dX9_readPair_23 ?_
        refine lv_iconst (v := 1) hx hb_ dX9_readPair_26 (by decide) ?_
        obtain ⟨x13, hx13, h⟩ := bnd h
        refine w_ald C hP (k := 4) (by decide) (n := 3) rfl hx13 dX9_readPair_27 ?_
        obtain ⟨q14, hq14, h⟩ := bnd h
        refine w_ci (w_rV (As := [.int x13]) (rest := []) C hP (k := 0) (c_X9_isRead l D aI aL ad inj _ q1.2 x13 q14 hq14) (gV wt853 wt855 wp18 wt12 wt856) 1 hd_X9_isRead ⟨Nat.le_of_ble_eq_true rfl, Nat.le_of_ble_eq_true rfl⟩ (by decide) 7 rfl rfl rfl hl.1 rfl (Nat.le_of_ble_eq_true rfl) dX9_readPair_28) hP (fun H locs hP => ?_)
        refine lv_if_eq (tgt := 53) hx hb_ dX9_readPair_31 (by decide) (fun hc => ?_) (fun hc => ?_)
        · replace h := ift h hc
          exact bk_53 q1.2 y h hK _ _ _ hP (lv_sub hl [0] rfl)
        · replace h := iff' h hc
          refine lv_aload_n hx hb_ dX9_readPair_34 rfl (lv_at hl 0 rfl) ?_
          refine w_get C hP (k := 0) (by decide) 7 rfl rfl inWX9 8 (by decide) wt792 (v := .ref (ad 4)) rfl dX9_readPair_35 ?_
          refine lv_iconst (v := 0) hx hb_ dX9_readPair_38 (by decide) ?_
          obtain ⟨x15, hx15, h⟩ := bnd h
          refine w_ald C hP (k := 4) (by decide) (n := 3) rfl hx15 dX9_readPair_39 ?_
          refine lv_aload_n hx hb_ dX9_readPair_40 rfl (lv_at hl 0 rfl) ?_
          refine w_get C hP (k := 0) (by decide) 7 rfl rfl inWX9 8 (by decide) wt792 (v := .ref (ad 4)) rfl dX9_readPair_41 ?_
          refine lv_iconst (v := 1) hx hb_ dX9_readPair_44 (by decide) ?_
          obtain ⟨x16, hx16, h⟩ := bnd h
          refine w_ald C hP (k := 4) (by decide) (n := 3) rfl hx16 dX9_readPair_45 ?_
          refine lv_icmp_eq (tgt := 53) hx hb_ dX9_readPair_46 (by decide) (fun hc => ?_) (fun hc => ?_)
          · replace h := ift h hc
            exact bk_53 q1.2 y h hK _ _ _ hP (lv_sub hl [0] rfl)
          · replace h := iff' h hc
            refine lv_iconst (v := 1) hx hb_ dX9_readPair_49 (by decide) ?_
            refine lv_goto (tgt := 54) hx hb_ dX9_readPair_50 (by decide) ?_
            exact bk_54 1 q1.2 y h hK _ _ _ hP (lv_sub hl [0] rfl)
  exact bk r0 hf rfl _ _ hP
theorem hd_X9_readItem : yX9_readItem.cls = RX9 ∧ yX9_readItem.cls ≠ "java/lang/invoke/MethodHandle" ∧ yX9_readItem.cls ≠ "java/lang/invoke/VarHandle" ∧ (parseMethodDescriptor yX9_readItem.desc).map (fun d => d.parameters.length) = some 0 := by decide +kernel
set_option maxHeartbeats 4000000 in
set_option maxRecDepth 100000 in
theorem c_X9_readItem (l : Launch) (D : va_G) (aI aL : ClassId) (ad : Nat → Nat) (inj : Inj ad 8) (sz : Nat) (σ : Sg) (r0 : (Int32 × Sg)) (hf : f_X9_readItem σ = some r0) : Met l yX9_readItem (wS yX9_readItem cX9_readItem 3 (some .boolean)) (RM 3 70) (Pw D aI aL 8 shM ad sz σ [.ref (ad 0)]) (Qi D aI aL 8 shM ad r0.1 r0.2 sz) 0 0 (AA ad 8 sz) := by
  refine Mof (Qc := Qi D aI aL 8 shM ad r0.1 r0.2) (by decide) inj (Nat.le_of_ble_eq_true rfl) ?_
  intro p e s m args below meth c ls C hlk hr hP hl
  have hx := C.1.1
  have hb_ := C.1.2.1
  have hown := C.1.2.2.2.1
  have hts := C.1.2.2.2.2
  have hl : lv_has ls 3 [(0, .ref (ad 0))] := hl
  have bk_308 : ∀ (v2_308 : Int32) (t1_308 : Int32) (s_308 : Sg) (y : (Int32 × Sg)), f_X9_readItem_308 v2_308 t1_308 s_308 = some y → (fun y => y = r0) y → ∀ (H : Heap) (locs : List Loc) (ls : Array Slot), HS D aI aL 8 shM ad s_308 s H locs → lv_has ls 3 [(2, .int v2_308)] → W p l e (RM 3 70) s m args below meth c H locs 0 0 (MQ below (Qi D aI aL 8 shM ad r0.1 r0.2 s.heap.size) args s 0 0 (AA ad 8 s.heap.size)) (F0 m 308 ls [.int t1_308, .ref (ad 0)]) := by
    intro v2_308 t1_308 s_308 y h hK H locs ls hP hl
    unfold f_X9_readItem_308 at h
    obtain ⟨s6, hs6, h⟩ := bnd h
    refine w_putz C hP (k := 0) (by decide) 7 rfl rfl inWX9 tyX9 tyX9_ok nmX9 9 (by decide) wt793 rfl rfl rfl rfl hs6 dX9_readItem_308 (fun H locs hP => ?_)
    refine lv_iload_n hx hb_ dX9_readItem_311 rfl (lv_at hl 0 rfl) ?_
    obtain ⟨x7, hx7, h⟩ := bnd h
    obtain rfl := Option.some.inj h
    have hK : (x7, s6) = r0 := hK
    have hK1 := congrArg Prod.fst hK
    have hK2 := congrArg Prod.snd hK
    exact w_zret C hlk hr hP hx7 hK1 hK2 dX9_readItem_312
  have bk_303 : ∀ (v2_303 : Int32) (s_303 : Sg) (y : (Int32 × Sg)), f_X9_readItem_303 v2_303 s_303 = some y → (fun y => y = r0) y → ∀ (H : Heap) (locs : List Loc) (ls : Array Slot), HS D aI aL 8 shM ad s_303 s H locs → lv_has ls 3 [(2, .int v2_303)] → W p l e (RM 3 70) s m args below meth c H locs 0 0 (MQ below (Qi D aI aL 8 shM ad r0.1 r0.2 s.heap.size) args s 0 0 (AA ad 8 s.heap.size)) (F0 m 303 ls [.ref (ad 0)]) := by
    intro v2_303 s_303 y h hK H locs ls hP hl
    unfold f_X9_readItem_303 at h
    refine lv_iconst (v := 1) hx hb_ dX9_readItem_303 (by decide) ?_
    refine lv_goto (tgt := 308) hx hb_ dX9_readItem_304 (by decide) ?_
    exact bk_308 v2_303 1 s_303 y h hK _ _ _ hP (lv_sub hl [0] rfl)
  have bk_289 : ∀ (v1_289 : Int32) (v2_289 : Int32) (s_289 : Sg) (y : (Int32 × Sg)), f_X9_readItem_289 v1_289 v2_289 s_289 = some y → (fun y => y = r0) y → ∀ (H : Heap) (locs : List Loc) (ls : Array Slot), HS D aI aL 8 shM ad s_289 s H locs → lv_has ls 3 [(0, .ref (ad 0)), (1, .int v1_289), (2, .int v2_289)] → W p l e (RM 3 70) s m args below meth c H locs 0 0 (MQ below (Qi D aI aL 8 shM ad r0.1 r0.2 s.heap.size) args s 0 0 (AA ad 8 s.heap.size)) (F0 m 289 ls []) := by
    intro v1_289 v2_289 s_289 y h hK H locs ls hP hl
    unfold f_X9_readItem_289 at h
    refine lv_aload_n hx hb_ dX9_readItem_289 rfl (lv_at hl 0 rfl) ?_
    refine lv_aload_n hx hb_ dX9_readItem_290 rfl (lv_at hl 0 rfl) ?_
    refine w_get C hP (k := 0) (by decide) 7 rfl rfl inWX9 9 (by decide) wt793 (v := .int (s_289.1 0 9)) rfl dX9_readItem_291 ?_
    refine lv_if_ne (tgt := 303) hx hb_ dX9_readItem_294 (by decide) (fun hc => ?_) (fun hc => ?_)
    · replace h := iff' h hc
      exact bk_303 v2_289 s_289 y h hK _ _ _ hP (lv_sub hl [2] rfl)
    · replace h := ift h hc
      refine lv_iload_n hx hb_ dX9_readItem_297 rfl (lv_at hl 1 rfl) ?_
      refine lv_bipush (v := 110) hx hb_ dX9_readItem_298 (by decide) ?_
      refine lv_icmp_eq (tgt := 307) hx hb_ dX9_readItem_300 (by decide) (fun hc => ?_) (fun hc => ?_)
      · replace h := ift h hc
        refine lv_iconst (v := 0) hx hb_ dX9_readItem_307 (by decide) ?_
        exact bk_308 v2_289 0 s_289 y h hK _ _ _ hP (lv_sub hl [2] rfl)
      · replace h := iff' h hc
        exact bk_303 v2_289 s_289 y h hK _ _ _ hP (lv_sub hl [2] rfl)
  have bk_194 : ∀ (v1_194 : Int32) (v2_194 : Int32) (t1_194 : Int32) (t2_194 : Int32) (t3_194 : Int32) (s_194 : Sg) (y : (Int32 × Sg)), f_X9_readItem_194 v1_194 v2_194 t1_194 t2_194 t3_194 s_194 = some y → (fun y => y = r0) y → ∀ (H : Heap) (locs : List Loc) (ls : Array Slot), HS D aI aL 8 shM ad s_194 s H locs → lv_has ls 3 [(0, .ref (ad 0)), (1, .int v1_194), (2, .int v2_194)] → W p l e (RM 3 70) s m args below meth c H locs 0 0 (MQ below (Qi D aI aL 8 shM ad r0.1 r0.2 s.heap.size) args s 0 0 (AA ad 8 s.heap.size)) (F0 m 194 ls [.int t3_194, .int t2_194, .int t1_194, .ref (ad 1)]) := by
    intro v1_194 v2_194 t1_194 t2_194 t3_194 s_194 y h hK H locs ls hP hl
    unfold f_X9_readItem_194 at h
    refine lv_ior hx hb_ dX9_readItem_194 ?_
    obtain ⟨s5, hs5, h⟩ := bnd h
    refine w_ast C hP (k := 1) (by decide) (n := 660) rfl hs5 dX9_readItem_195 (fun H locs hP => ?_)
    refine lv_goto (tgt := 289) hx hb_ dX9_readItem_196 (by decide) ?_
    exact bk_289 v1_194 v2_194 s5 y h hK _ _ _ hP (lv_sub hl [0, 1, 2] rfl)
  have bk_168 : ∀ (v1_168 : Int32) (t0_168 : Int32) (s_168 : Sg) (y : (Int32 × Sg)), f_X9_readItem_168 v1_168 t0_168 s_168 = some y → (fun y => y = r0) y → ∀ (H : Heap) (locs : List Loc) (ls : Array Slot), HS D aI aL 8 shM ad s_168 s H locs → lv_has ls 3 [(0, .ref (ad 0)), (1, .int v1_168)] → W p l e (RM 3 70) s m args below meth c H locs 0 0 (MQ below (Qi D aI aL 8 shM ad r0.1 r0.2 s.heap.size) args s 0 0 (AA ad 8 s.heap.size)) (F0 m 168 ls [.int t0_168]) := by
    intro v1_168 t0_168 s_168 y h hK H locs ls hP hl
    unfold f_X9_readItem_168 at h
    refine lv_istore_n (lv' := [(2, .int t0_168), (0, .ref (ad 0)), (1, .int v1_168)]) hx hb_ dX9_readItem_168 rfl hl (by decide) rfl (fun ls hl => ?_)
    refine lv_aload_n hx hb_ dX9_readItem_169 rfl (lv_at hl 1 rfl) ?_
    refine w_get C hP (k := 0) (by decide) 7 rfl rfl inWX9 0 (by decide) wt784 (v := .ref (ad 1)) rfl dX9_readItem_170 ?_
    refine lv_sipush (v := 606) hx hb_ dX9_readItem_173 (by decide) ?_
    refine lv_dup2_11 hx hb_ dX9_readItem_176 rfl rfl ?_
    obtain ⟨x4, hx4, h⟩ := bnd h
    refine w_ald C hP (k := 1) (by decide) (n := 660) rfl hx4 dX9_readItem_177 ?_
    refine lv_iload_n hx hb_ dX9_readItem_178 rfl (lv_at hl 0 rfl) ?_
    refine lv_if_eq (tgt := 193) hx hb_ dX9_readItem_179 (by decide) (fun hc => ?_) (fun hc => ?_)
    · replace h := ift h hc
      refine lv_iconst (v := 0) hx hb_ dX9_readItem_193 (by decide) ?_
      exact bk_194 v1_168 t0_168 606 x4 0 s_168 y h hK _ _ _ hP (lv_sub hl [1, 2, 0] rfl)
    · replace h := iff' h hc
      refine lv_iconst (v := 1) hx hb_ dX9_readItem_182 (by decide) ?_
      refine lv_aload_n hx hb_ dX9_readItem_183 rfl (lv_at hl 1 rfl) ?_
      refine w_get C hP (k := 0) (by decide) 7 rfl rfl inWX9 8 (by decide) wt792 (v := .ref (ad 4)) rfl dX9_readItem_184 ?_
      refine lv_iconst (v := 0) hx hb_ dX9_readItem_187 (by decide) ?_
      obtain ⟨x8, hx8, h⟩ := bnd h
      refine w_ald C hP (k := 4) (by decide) (n := 3) rfl hx8 dX9_readItem_188 ?_
      refine lv_ishl hx hb_ dX9_readItem_189 ?_
      refine lv_goto (tgt := 194) hx hb_ dX9_readItem_190 (by decide) ?_
      exact bk_194 v1_168 t0_168 606 x4 ((1 : Int32) <<< (x8 &&& 31)) s_168 y h hK _ _ _ hP (lv_sub hl [1, 2, 0] rfl)
  have bk_167 : ∀ (v1_167 : Int32) (s_167 : Sg) (y : (Int32 × Sg)), f_X9_readItem_167 v1_167 s_167 = some y → (fun y => y = r0) y → ∀ (H : Heap) (locs : List Loc) (ls : Array Slot), HS D aI aL 8 shM ad s_167 s H locs → lv_has ls 3 [(0, .ref (ad 0)), (1, .int v1_167)] → W p l e (RM 3 70) s m args below meth c H locs 0 0 (MQ below (Qi D aI aL 8 shM ad r0.1 r0.2 s.heap.size) args s 0 0 (AA ad 8 s.heap.size)) (F0 m 167 ls []) := by
    intro v1_167 s_167 y h hK H locs ls hP hl
    unfold f_X9_readItem_167 at h
    refine lv_iconst (v := 0) hx hb_ dX9_readItem_167 (by decide) ?_
    exact bk_168 v1_167 0 s_167 y h hK _ _ _ hP (lv_sub hl [0, 1] rfl)
  have bk_138 : ∀ (v1_138 : Int32) (v2_138 : Int32) (t1_138 : Int32) (t2_138 : Int32) (s_138 : Sg) (y : (Int32 × Sg)), f_X9_readItem_138 v1_138 v2_138 t1_138 t2_138 s_138 = some y → (fun y => y = r0) y → ∀ (H : Heap) (locs : List Loc) (ls : Array Slot), HS D aI aL 8 shM ad s_138 s H locs → lv_has ls 3 [(0, .ref (ad 0)), (1, .int v1_138), (2, .int v2_138)] → W p l e (RM 3 70) s m args below meth c H locs 0 0 (MQ below (Qi D aI aL 8 shM ad r0.1 r0.2 s.heap.size) args s 0 0 (AA ad 8 s.heap.size)) (F0 m 138 ls [.int t2_138, .int t1_138, .ref (ad 1)]) := by
    intro v1_138 v2_138 t1_138 t2_138 s_138 y h hK H locs ls hP hl
    unfold f_X9_readItem_138 at h
    obtain ⟨s12, hs12, h⟩ := bnd h
    refine w_ast C hP (k := 1) (by decide) (n := 660) rfl hs12 dX9_readItem_138 (fun H locs hP => ?_)
    refine lv_goto (tgt := 289) hx hb_ dX9_readItem_139 (by decide) ?_
    exact bk_289 v1_138 v2_138 s12 y h hK _ _ _ hP (lv_sub hl [0, 1, 2] rfl)
  have bk_109 : ∀ (v1_109 : Int32) (t0_109 : Int32) (s_109 : Sg) (y : (Int32 × Sg)), f_X9_readItem_109 v1_109 t0_109 s_109 = some y → (fun y => y = r0) y → ∀ (H : Heap) (locs : List Loc) (ls : Array Slot), HS D aI aL 8 shM ad s_109 s H locs → lv_has ls 3 [(0, .ref (ad 0)), (1, .int v1_109)] → W p l e (RM 3 70) s m args below meth c H locs 0 0 (MQ below (Qi D aI aL 8 shM ad r0.1 r0.2 s.heap.size) args s 0 0 (AA ad 8 s.heap.size)) (F0 m 109 ls [.int t0_109]) := by
    intro v1_109 t0_109 s_109 y h hK H locs ls hP hl
    unfold f_X9_readItem_109 at h
    refine lv_istore_n (lv' := [(2, .int t0_109), (0, .ref (ad 0)), (1, .int v1_109)]) hx hb_ dX9_readItem_109 rfl hl (by decide) rfl (fun ls hl => ?_)
    refine lv_aload_n hx hb_ dX9_readItem_110 rfl (lv_at hl 1 rfl) ?_
    refine w_get C hP (k := 0) (by decide) 7 rfl rfl inWX9 0 (by decide) wt784 (v := .ref (ad 1)) rfl dX9_readItem_111 ?_
    refine lv_sipush (v := 605) hx hb_ dX9_readItem_114 (by decide) ?_
    refine lv_iload_n hx hb_ dX9_readItem_117 rfl (lv_at hl 0 rfl) ?_
    refine lv_if_eq (tgt := 130) hx hb_ dX9_readItem_118 (by decide) (fun hc => ?_) (fun hc => ?_)
    · replace h := ift h hc
      refine lv_aload_n hx hb_ dX9_readItem_130 rfl (lv_at hl 1 rfl) ?_
      refine w_get C hP (k := 0) (by decide) 7 rfl rfl inWX9 0 (by decide) wt784 (v := .ref (ad 1)) rfl dX9_readItem_131 ?_
      refine lv_sipush (v := 605) hx hb_ dX9_readItem_134 (by decide) ?_
      obtain ⟨x11, hx11, h⟩ := bnd h
      refine w_ald C hP (k := 1) (by decide) (n := 660) rfl hx11 dX9_readItem_137 ?_
      exact bk_138 v1_109 t0_109 605 x11 s_109 y h hK _ _ _ hP (lv_sub hl [1, 2, 0] rfl)
    · replace h := iff' h hc
      refine lv_aload_n hx hb_ dX9_readItem_121 rfl (lv_at hl 1 rfl) ?_
      refine w_get C hP (k := 0) (by decide) 7 rfl rfl inWX9 8 (by decide) wt792 (v := .ref (ad 4)) rfl dX9_readItem_122 ?_
      refine lv_iconst (v := 0) hx hb_ dX9_readItem_125 (by decide) ?_
      obtain ⟨x13, hx13, h⟩ := bnd h
      refine w_ald C hP (k := 4) (by decide) (n := 3) rfl hx13 dX9_readItem_126 ?_
      refine lv_goto (tgt := 138) hx hb_ dX9_readItem_127 (by decide) ?_
      exact bk_138 v1_109 t0_109 605 x13 s_109 y h hK _ _ _ hP (lv_sub hl [1, 2, 0] rfl)
  have bk_108 : ∀ (v1_108 : Int32) (s_108 : Sg) (y : (Int32 × Sg)), f_X9_readItem_108 v1_108 s_108 = some y → (fun y => y = r0) y → ∀ (H : Heap) (locs : List Loc) (ls : Array Slot), HS D aI aL 8 shM ad s_108 s H locs → lv_has ls 3 [(0, .ref (ad 0)), (1, .int v1_108)] → W p l e (RM 3 70) s m args below meth c H locs 0 0 (MQ below (Qi D aI aL 8 shM ad r0.1 r0.2 s.heap.size) args s 0 0 (AA ad 8 s.heap.size)) (F0 m 108 ls []) := by
    intro v1_108 s_108 y h hK H locs ls hP hl
    unfold f_X9_readItem_108 at h
    refine lv_iconst (v := 0) hx hb_ dX9_readItem_108 (by decide) ?_
    exact bk_109 v1_108 0 s_108 y h hK _ _ _ hP (lv_sub hl [0, 1] rfl)
  have bk_285 : ∀ (v1_285 : Int32) (v2_285 : Int32) (t1_285 : Int32) (t2_285 : Int32) (s_285 : Sg) (y : (Int32 × Sg)), f_X9_readItem_285 v1_285 v2_285 t1_285 t2_285 s_285 = some y → (fun y => y = r0) y → ∀ (H : Heap) (locs : List Loc) (ls : Array Slot), HS D aI aL 8 shM ad s_285 s H locs → lv_has ls 3 [(0, .ref (ad 0)), (1, .int v1_285), (2, .int v2_285)] → W p l e (RM 3 70) s m args below meth c H locs 0 0 (MQ below (Qi D aI aL 8 shM ad r0.1 r0.2 s.heap.size) args s 0 0 (AA ad 8 s.heap.size)) (F0 m 285 ls [.int t2_285, .int t1_285, .ref (ad 1)]) := by
    intro v1_285 v2_285 t1_285 t2_285 s_285 y h hK H locs ls hP hl
    unfold f_X9_readItem_285 at h
    obtain ⟨s20, hs20, h⟩ := bnd h
    refine w_ast C hP (k := 1) (by decide) (n := 660) rfl hs20 dX9_readItem_285 (fun H locs hP => ?_)
    refine lv_goto (tgt := 289) hx hb_ dX9_readItem_286 (by decide) ?_
    exact bk_289 v1_285 v2_285 s20 y h hK _ _ _ hP (lv_sub hl [0, 1, 2] rfl)
  have bk_263 : ∀ (v1_263 : Int32) (v2_263 : Int32) (t1_263 : Int32) (t2_263 : Int32) (s_263 : Sg) (y : (Int32 × Sg)), f_X9_readItem_263 v1_263 v2_263 t1_263 t2_263 s_263 = some y → (fun y => y = r0) y → ∀ (H : Heap) (locs : List Loc) (ls : Array Slot), HS D aI aL 8 shM ad s_263 s H locs → lv_has ls 3 [(0, .ref (ad 0)), (1, .int v1_263), (2, .int v2_263)] → W p l e (RM 3 70) s m args below meth c H locs 0 0 (MQ below (Qi D aI aL 8 shM ad r0.1 r0.2 s.heap.size) args s 0 0 (AA ad 8 s.heap.size)) (F0 m 263 ls [.int t2_263, .int t1_263, .ref (ad 1)]) := by
    intro v1_263 v2_263 t1_263 t2_263 s_263 y h hK H locs ls hP hl
    unfold f_X9_readItem_263 at h
    refine lv_iadd hx hb_ dX9_readItem_263 ?_
    refine lv_iload_n hx hb_ dX9_readItem_264 rfl (lv_at hl 2 rfl) ?_
    refine lv_if_eq (tgt := 277) hx hb_ dX9_readItem_265 (by decide) (fun hc => ?_) (fun hc => ?_)
    · replace h := ift h hc
      refine lv_aload_n hx hb_ dX9_readItem_277 rfl (lv_at hl 0 rfl) ?_
      refine w_get C hP (k := 0) (by decide) 7 rfl rfl inWX9 0 (by decide) wt784 (v := .ref (ad 1)) rfl dX9_readItem_278 ?_
      refine lv_sipush (v := 640) hx hb_ dX9_readItem_281 (by decide) ?_
      obtain ⟨x19, hx19, h⟩ := bnd h
      refine w_ald C hP (k := 1) (by decide) (n := 660) rfl hx19 dX9_readItem_284 ?_
      exact bk_285 v1_263 v2_263 (t1_263 + t2_263) x19 s_263 y h hK _ _ _ hP (lv_sub hl [0, 1, 2] rfl)
    · replace h := iff' h hc
      refine lv_aload_n hx hb_ dX9_readItem_268 rfl (lv_at hl 0 rfl) ?_
      refine w_get C hP (k := 0) (by decide) 7 rfl rfl inWX9 8 (by decide) wt792 (v := .ref (ad 4)) rfl dX9_readItem_269 ?_
      refine lv_iconst (v := 1) hx hb_ dX9_readItem_272 (by decide) ?_
      obtain ⟨x21, hx21, h⟩ := bnd h
      refine w_ald C hP (k := 4) (by decide) (n := 3) rfl hx21 dX9_readItem_273 ?_
      refine lv_goto (tgt := 285) hx hb_ dX9_readItem_274 (by decide) ?_
      exact bk_285 v1_263 v2_263 (t1_263 + t2_263) x21 s_263 y h hK _ _ _ hP (lv_sub hl [0, 1, 2] rfl)
  have bk_241 : ∀ (v1_241 : Int32) (t0_241 : Int32) (s_241 : Sg) (y : (Int32 × Sg)), f_X9_readItem_241 v1_241 t0_241 s_241 = some y → (fun y => y = r0) y → ∀ (H : Heap) (locs : List Loc) (ls : Array Slot), HS D aI aL 8 shM ad s_241 s H locs → lv_has ls 3 [(0, .ref (ad 0)), (1, .int v1_241)] → W p l e (RM 3 70) s m args below meth c H locs 0 0 (MQ below (Qi D aI aL 8 shM ad r0.1 r0.2 s.heap.size) args s 0 0 (AA ad 8 s.heap.size)) (F0 m 241 ls [.int t0_241]) := by
    intro v1_241 t0_241 s_241 y h hK H locs ls hP hl
    unfold f_X9_readItem_241 at h
    refine lv_istore_n (lv' := [(2, .int t0_241), (0, .ref (ad 0)), (1, .int v1_241)]) hx hb_ dX9_readItem_241 rfl hl (by decide) rfl (fun ls hl => ?_)
    refine lv_aload_n hx hb_ dX9_readItem_242 rfl (lv_at hl 1 rfl) ?_
    refine w_get C hP (k := 0) (by decide) 7 rfl rfl inWX9 0 (by decide) wt784 (v := .ref (ad 1)) rfl dX9_readItem_243 ?_
    refine lv_sipush (v := 640) hx hb_ dX9_readItem_246 (by decide) ?_
    refine lv_iload_n hx hb_ dX9_readItem_249 rfl (lv_at hl 0 rfl) ?_
    refine lv_if_eq (tgt := 262) hx hb_ dX9_readItem_250 (by decide) (fun hc => ?_) (fun hc => ?_)
    · replace h := ift h hc
      refine lv_iconst (v := 0) hx hb_ dX9_readItem_262 (by decide) ?_
      exact bk_263 v1_241 t0_241 640 0 s_241 y h hK _ _ _ hP (lv_sub hl [1, 2, 0] rfl)
    · replace h := iff' h hc
      refine lv_aload_n hx hb_ dX9_readItem_253 rfl (lv_at hl 1 rfl) ?_
      refine w_get C hP (k := 0) (by decide) 7 rfl rfl inWX9 8 (by decide) wt792 (v := .ref (ad 4)) rfl dX9_readItem_254 ?_
      refine lv_iconst (v := 0) hx hb_ dX9_readItem_257 (by decide) ?_
      obtain ⟨x22, hx22, h⟩ := bnd h
      refine w_ald C hP (k := 4) (by decide) (n := 3) rfl hx22 dX9_readItem_258 ?_
      refine lv_goto (tgt := 263) hx hb_ dX9_readItem_259 (by decide) ?_
      exact bk_263 v1_241 t0_241 640 x22 s_241 y h hK _ _ _ hP (lv_sub hl [1, 2, 0] rfl)
  have bk_240 : ∀ (v1_240 : Int32) (s_240 : Sg) (y : (Int32 × Sg)), f_X9_readItem_240 v1_240 s_240 = some y → (fun y => y = r0) y → ∀ (H : Heap) (locs : List Loc) (ls : Array Slot), HS D aI aL 8 shM ad s_240 s H locs → lv_has ls 3 [(0, .ref (ad 0)), (1, .int v1_240)] → W p l e (RM 3 70) s m args below meth c H locs 0 0 (MQ below (Qi D aI aL 8 shM ad r0.1 r0.2 s.heap.size) args s 0 0 (AA ad 8 s.heap.size)) (F0 m 240 ls []) := by
    intro v1_240 s_240 y h hK H locs ls hP hl
    unfold f_X9_readItem_240 at h
    refine lv_iconst (v := 0) hx hb_ dX9_readItem_240 (by decide) ?_
    exact bk_241 v1_240 0 s_240 y h hK _ _ _ hP (lv_sub hl [0, 1] rfl)
  have bk : ∀ (y : (Int32 × Sg)), f_X9_readItem σ = some y → y = r0 → ∀ (H : Heap) (locs : List Loc), HS D aI aL 8 shM ad σ s H locs → W p l e (RM 3 70) s m args below meth c H locs 0 0 (MQ below (Qi D aI aL 8 shM ad r0.1 r0.2 s.heap.size) args s 0 0 (AA ad 8 s.heap.size)) (F0 m 0 ls []) := by
    intro y h hK H locs hP
    unfold f_X9_readItem at h
    refine lv_aload_n hx hb_ dX9_readItem_0 rfl (lv_at hl 0 rfl) ?_
    refine w_get C hP (k := 0) (by decide) 7 rfl rfl inWX9 3 (by decide) wt787 (v := .ref (ad 2)) rfl dX9_readItem_1 ?_
    refine lv_aload_n hx hb_ dX9_readItem_4 rfl (lv_at hl 0 rfl) ?_
    refine w_get C hP (k := 0) (by decide) 7 rfl rfl inWX9 7 (by decide) wt791 (v := .int (σ.1 0 7)) rfl dX9_readItem_5 ?_
    obtain ⟨x1, hx1, h⟩ := bnd h
    refine w_ald C hP (k := 2) (by decide) (n := 300) rfl hx1 dX9_readItem_8 ?_
    refine lv_istore_n (lv' := [(1, .int x1), (0, .ref (ad 0))]) hx hb_ dX9_readItem_9 rfl hl (by decide) rfl (fun ls hl => ?_)
    refine lv_aload_n hx hb_ dX9_readItem_10 rfl (lv_at hl 1 rfl) ?_
    refine lv_dup hx hb_ dX9_readItem_11 rfl ?_
    refine w_get C hP (k := 0) (by decide) 7 rfl rfl inWX9 7 (by decide) wt791 (v := .int (σ.1 0 7)) rfl dX9_readItem_12 ?_
    refine lv_iconst (v := 1) hx hb_ dX9_readItem_15 (by decide) ?_
    refine lv_iadd hx hb_ dX9_readItem_16 ?_
    obtain ⟨s2, hs2, h⟩ := bnd h
    refine w_puti C hP (k := 0) (by decide) 7 rfl rfl inWX9 tyX9 tyX9_ok nmX9 7 (by decide) wt791 rfl rfl rfl rfl hs2 dX9_readItem_17 (fun H locs hP => ?_)
    refine lv_iconst (v := 0) hx hb_ dX9_readItem_20 (by decide) ?_
    refine lv_istore_n (lv' := [(2, .int 0), (1, .int x1), (0, .ref (ad 0))]) hx hb_ dX9_readItem_21 rfl hl (by decide) rfl (fun ls hl => ?_)
    refine lv_iload_n hx hb_ dX9_readItem_22 rfl (lv_at hl 1 rfl) ?_
    by_cases hc97 : x1 = 97
    · replace h := ift h hc97
      refine lv_lookup (off := 119) (tgt := 142) hx hb_ dX9_readItem_23 (by decide +kernel) (by rw [hc97]; decide +kernel) (by decide) ?_
      refine lv_aload_n hx hb_ dX9_readItem_142 rfl (lv_at hl 2 rfl) ?_
      refine lv_iconst (v := 1) hx hb_ dX9_readItem_143 (by decide) ?_
      obtain ⟨q3, hq3, h⟩ := bnd h
      refine w_ci (w_rV (As := [.int 1]) (rest := []) C hP (k := 0) (c_X9_takes l D aI aL ad inj _ s2 1 q3 hq3) (gV wt846 wt848 wp17 wt12 wt849) 1 hd_X9_takes ⟨Nat.le_of_ble_eq_true rfl, Nat.le_of_ble_eq_true rfl⟩ (by decide) 7 rfl rfl rfl hl.1 rfl (Nat.le_of_ble_eq_true rfl) dX9_readItem_144) hP (fun H locs hP => ?_)
      refine lv_if_eq (tgt := 167) hx hb_ dX9_readItem_147 (by decide) (fun hc => ?_) (fun hc => ?_)
      · replace h := ift h hc
        exact bk_167 x1 q3.2 y h hK _ _ _ hP (lv_sub hl [2, 1] rfl)
      · replace h := iff' h hc
        refine lv_aload_n hx hb_ dX9_readItem_150 rfl (lv_at hl 2 rfl) ?_
        refine lv_aload_n hx hb_ dX9_readItem_151 rfl (lv_at hl 2 rfl) ?_
        refine w_get C hP (k := 0) (by decide) 7 rfl rfl inWX9 8 (by decide) wt792 (v := .ref (ad 4)) rfl dX9_readItem_152 ?_
        refine lv_iconst (v := 0) hx hb_ dX9_readItem_155 (by decide) ?_
        obtain ⟨x9, hx9, h⟩ := bnd h
        refine w_ald C hP (k := 4) (by decide) (n := 3) rfl hx9 dX9_readItem_156 ?_
        obtain ⟨q10, hq10, h⟩ := bnd h
        refine w_ci (w_rV (As := [.int x9]) (rest := []) C hP (k := 0) (c_X9_isRead l D aI aL ad inj _ q3.2 x9 q10 hq10) (gV wt853 wt855 wp18 wt12 wt856) 1 hd_X9_isRead ⟨Nat.le_of_ble_eq_true rfl, Nat.le_of_ble_eq_true rfl⟩ (by decide) 7 rfl rfl rfl hl.1 rfl (Nat.le_of_ble_eq_true rfl) dX9_readItem_157) hP (fun H locs hP => ?_)
        refine lv_if_eq (tgt := 167) hx hb_ dX9_readItem_160 (by decide) (fun hc => ?_) (fun hc => ?_)
        · replace h := ift h hc
          exact bk_167 x1 q3.2 y h hK _ _ _ hP (lv_sub hl [2, 1] rfl)
        · replace h := iff' h hc
          refine lv_iconst (v := 1) hx hb_ dX9_readItem_163 (by decide) ?_
          refine lv_goto (tgt := 168) hx hb_ dX9_readItem_164 (by decide) ?_
          exact bk_168 x1 1 q3.2 y h hK _ _ _ hP (lv_sub hl [2, 1] rfl)
    replace h := iff' h hc97
    by_cases hc110 : x1 = 110
    · replace h := ift h hc110
      refine lv_lookup (off := 49) (tgt := 72) hx hb_ dX9_readItem_23 (by decide +kernel) (by rw [hc110]; decide +kernel) (by decide) ?_
      refine lv_aload_n hx hb_ dX9_readItem_72 rfl (lv_at hl 2 rfl) ?_
      refine w_get C hP (k := 0) (by decide) 7 rfl rfl inWX9 9 (by decide) wt793 (v := .int (s2.1 0 9)) rfl dX9_readItem_73 ?_
      refine lv_if_ne (tgt := 108) hx hb_ dX9_readItem_76 (by decide) (fun hc => ?_) (fun hc => ?_)
      · replace h := iff' h hc
        exact bk_108 x1 s2 y h hK _ _ _ hP (lv_sub hl [2, 1] rfl)
      · replace h := ift h hc
        refine lv_aload_n hx hb_ dX9_readItem_79 rfl (lv_at hl 2 rfl) ?_
        refine lv_iconst (v := 1) hx hb_ dX9_readItem_80 (by decide) ?_
        obtain ⟨q14, hq14, h⟩ := bnd h
        refine w_ci (w_rV (As := [.int 1]) (rest := []) C hP (k := 0) (c_X9_takes l D aI aL ad inj _ s2 1 q14 hq14) (gV wt846 wt848 wp17 wt12 wt849) 1 hd_X9_takes ⟨Nat.le_of_ble_eq_true rfl, Nat.le_of_ble_eq_true rfl⟩ (by decide) 7 rfl rfl rfl hl.1 rfl (Nat.le_of_ble_eq_true rfl) dX9_readItem_81) hP (fun H locs hP => ?_)
        refine lv_if_eq (tgt := 108) hx hb_ dX9_readItem_84 (by decide) (fun hc => ?_) (fun hc => ?_)
        · replace h := ift h hc
          exact bk_108 x1 q14.2 y h hK _ _ _ hP (lv_sub hl [2, 1] rfl)
        · replace h := iff' h hc
          refine lv_aload_n hx hb_ dX9_readItem_87 rfl (lv_at hl 2 rfl) ?_
          refine w_get C hP (k := 0) (by decide) 7 rfl rfl inWX9 8 (by decide) wt792 (v := .ref (ad 4)) rfl dX9_readItem_88 ?_
          refine lv_iconst (v := 0) hx hb_ dX9_readItem_91 (by decide) ?_
          obtain ⟨x15, hx15, h⟩ := bnd h
          refine w_ald C hP (k := 4) (by decide) (n := 3) rfl hx15 dX9_readItem_92 ?_
          refine lv_i2l hx hb_ dX9_readItem_93 rfl ?_
          refine lv_lconst (v := 1) hx hb_ dX9_readItem_94 (by decide) ?_
          refine lv_ldc2 hx hb_ hown (hts _ wt852) dX9_readItem_95 ?_
          obtain ⟨q16, hq16, h⟩ := bnd h
          refine w_ci (w_rS (As := [.long ((x15 : Int32).toInt64), .long 1, .long 10]) (rest := []) C hP (c_X9_in l D aI aL ad inj _ q14.2 ((x15 : Int32).toInt64) 1 10 q16 hq16) wt830 wt831 wt12 wt832 3 hd_X9_in ⟨Nat.le_of_ble_eq_true rfl, Nat.le_of_ble_eq_true rfl⟩ rfl hl.1 rfl (Nat.le_of_ble_eq_true rfl) dX9_readItem_98) hP (fun H locs hP => ?_)
          refine lv_if_eq (tgt := 108) hx hb_ dX9_readItem_101 (by decide) (fun hc => ?_) (fun hc => ?_)
          · replace h := ift h hc
            exact bk_108 x1 q14.2 y h hK _ _ _ hP (lv_sub hl [2, 1] rfl)
          · replace h := iff' h hc
            refine lv_iconst (v := 1) hx hb_ dX9_readItem_104 (by decide) ?_
            refine lv_goto (tgt := 109) hx hb_ dX9_readItem_105 (by decide) ?_
            exact bk_109 x1 1 q14.2 y h hK _ _ _ hP (lv_sub hl [2, 1] rfl)
    replace h := iff' h hc110
    by_cases hc116 : x1 = 116
    · replace h := ift h hc116
      refine lv_lookup (off := 176) (tgt := 199) hx hb_ dX9_readItem_23 (by decide +kernel) (by rw [hc116]; decide +kernel) (by decide) ?_
      refine lv_aload_n hx hb_ dX9_readItem_199 rfl (lv_at hl 2 rfl) ?_
      obtain ⟨q17, hq17, h⟩ := bnd h
      refine w_ci (w_rV (As := []) (rest := []) C hP (k := 0) (c_X9_readStep l D aI aL ad inj _ s2 q17 hq17) (gV wt857 wt859 wp19 wt12 wt860) 0 hd_X9_readStep ⟨Nat.le_of_ble_eq_true rfl, Nat.le_of_ble_eq_true rfl⟩ (by decide) 7 rfl rfl rfl hl.1 rfl (Nat.le_of_ble_eq_true rfl) dX9_readItem_200) hP (fun H locs hP => ?_)
      refine lv_istore_n (lv' := [(2, .int q17.1), (1, .int x1), (0, .ref (ad 0))]) hx hb_ dX9_readItem_203 rfl hl (by decide) rfl (fun ls hl => ?_)
      refine lv_goto (tgt := 289) hx hb_ dX9_readItem_204 (by decide) ?_
      exact bk_289 x1 q17.1 q17.2 y h hK _ _ _ hP (lv_sub hl [2, 1, 0] rfl)
    replace h := iff' h hc116
    by_cases hc119 : x1 = 119
    · replace h := ift h hc119
      refine lv_lookup (off := 192) (tgt := 215) hx hb_ dX9_readItem_23 (by decide +kernel) (by rw [hc119]; decide +kernel) (by decide) ?_
      refine lv_aload_n hx hb_ dX9_readItem_215 rfl (lv_at hl 2 rfl) ?_
      refine lv_iconst (v := 2) hx hb_ dX9_readItem_216 (by decide) ?_
      obtain ⟨q18, hq18, h⟩ := bnd h
      refine w_ci (w_rV (As := [.int 2]) (rest := []) C hP (k := 0) (c_X9_takes l D aI aL ad inj _ s2 2 q18 hq18) (gV wt846 wt848 wp17 wt12 wt849) 1 hd_X9_takes ⟨Nat.le_of_ble_eq_true rfl, Nat.le_of_ble_eq_true rfl⟩ (by decide) 7 rfl rfl rfl hl.1 rfl (Nat.le_of_ble_eq_true rfl) dX9_readItem_217) hP (fun H locs hP => ?_)
      refine lv_if_eq (tgt := 240) hx hb_ dX9_readItem_220 (by decide) (fun hc => ?_) (fun hc => ?_)
      · replace h := ift h hc
        exact bk_240 x1 q18.2 y h hK _ _ _ hP (lv_sub hl [2, 1] rfl)
      · replace h := iff' h hc
        refine lv_aload_n hx hb_ dX9_readItem_223 rfl (lv_at hl 2 rfl) ?_
        refine lv_aload_n hx hb_ dX9_readItem_224 rfl (lv_at hl 2 rfl) ?_
        refine w_get C hP (k := 0) (by decide) 7 rfl rfl inWX9 8 (by decide) wt792 (v := .ref (ad 4)) rfl dX9_readItem_225 ?_
        refine lv_iconst (v := 0) hx hb_ dX9_readItem_228 (by decide) ?_
        obtain ⟨x23, hx23, h⟩ := bnd h
        refine w_ald C hP (k := 4) (by decide) (n := 3) rfl hx23 dX9_readItem_229 ?_
        obtain ⟨q24, hq24, h⟩ := bnd h
        refine w_ci (w_rV (As := [.int x23]) (rest := []) C hP (k := 0) (c_X9_isRead l D aI aL ad inj _ q18.2 x23 q24 hq24) (gV wt853 wt855 wp18 wt12 wt856) 1 hd_X9_isRead ⟨Nat.le_of_ble_eq_true rfl, Nat.le_of_ble_eq_true rfl⟩ (by decide) 7 rfl rfl rfl hl.1 rfl (Nat.le_of_ble_eq_true rfl) dX9_readItem_230) hP (fun H locs hP => ?_)
        refine lv_if_eq (tgt := 240) hx hb_ dX9_readItem_233 (by decide) (fun hc => ?_) (fun hc => ?_)
        · replace h := ift h hc
          exact bk_240 x1 q18.2 y h hK _ _ _ hP (lv_sub hl [2, 1] rfl)
        · replace h := iff' h hc
          refine lv_iconst (v := 1) hx hb_ dX9_readItem_236 (by decide) ?_
          refine lv_goto (tgt := 241) hx hb_ dX9_readItem_237 (by decide) ?_
          exact bk_241 x1 1 q18.2 y h hK _ _ _ hP (lv_sub hl [2, 1] rfl)
    replace h := iff' h hc119
    by_cases hc120 : x1 = 120
    · replace h := ift h hc120
      refine lv_lookup (off := 184) (tgt := 207) hx hb_ dX9_readItem_23 (by decide +kernel) (by rw [hc120]; decide +kernel) (by decide) ?_
      refine lv_aload_n hx hb_ dX9_readItem_207 rfl (lv_at hl 2 rfl) ?_
      obtain ⟨q25, hq25, h⟩ := bnd h
      refine w_ci (w_rV (As := []) (rest := []) C hP (k := 0) (c_X9_readPair l D aI aL ad inj _ s2 q25 hq25) (gV wt861 wt863 wp20 wt12 wt864) 0 hd_X9_readPair ⟨Nat.le_of_ble_eq_true rfl, Nat.le_of_ble_eq_true rfl⟩ (by decide) 7 rfl rfl rfl hl.1 rfl (Nat.le_of_ble_eq_true rfl) dX9_readItem_208) hP (fun H locs hP => ?_)
      refine lv_istore_n (lv' := [(2, .int q25.1), (1, .int x1), (0, .ref (ad 0))]) hx hb_ dX9_readItem_211 rfl hl (by decide) rfl (fun ls hl => ?_)
      refine lv_goto (tgt := 289) hx hb_ dX9_readItem_212 (by decide) ?_
      exact bk_289 x1 q25.1 q25.2 y h hK _ _ _ hP (lv_sub hl [2, 1, 0] rfl)
    replace h := iff' h hc120
    refine lv_lookup (off := 266) (tgt := 289) hx hb_ dX9_readItem_23 (by decide +kernel) ((by rw [lv_osw hc97 (by decide +kernel), lv_osw hc110 (by decide +kernel), lv_osw hc116 (by decide +kernel), lv_osw hc119 (by decide +kernel), lv_osw hc120 (by decide +kernel)]; rfl)) (by decide) ?_
    exact bk_289 x1 0 s2 y h hK _ _ _ hP (lv_sub hl [2, 1, 0] rfl)
  exact bk r0 hf rfl _ _ hP
theorem hd_X9_fault : yX9_fault.cls = RX9 ∧ yX9_fault.cls ≠ "java/lang/invoke/MethodHandle" ∧ yX9_fault.cls ≠ "java/lang/invoke/VarHandle" ∧ (parseMethodDescriptor yX9_fault.desc).map (fun d => d.parameters.length) = some 0 := by decide +kernel
set_option maxHeartbeats 4000000 in
set_option maxRecDepth 100000 in
theorem c_X9_fault (l : Launch) (D : va_G) (aI aL : ClassId) (ad : Nat → Nat) (inj : Inj ad 8) (sz : Nat) (σ : Sg) (r0 : (Int32 × Sg)) (hf : f_X9_fault σ = some r0) : Met l yX9_fault (wS yX9_fault cX9_fault 2 (some .int)) (RM 4 92) (Pw D aI aL 8 shM ad sz σ [.ref (ad 0)]) (Qi D aI aL 8 shM ad r0.1 r0.2 sz) 0 0 (AA ad 8 sz) := by
  refine Mof (Qc := Qi D aI aL 8 shM ad r0.1 r0.2) (by decide) inj (Nat.le_of_ble_eq_true rfl) ?_
  intro p e s m args below meth c ls C hlk hr hP hl
  have hx := C.1.1
  have hb_ := C.1.2.1
  have hown := C.1.2.2.2.1
  have hts := C.1.2.2.2.2
  have hl : lv_has ls 2 [(0, .ref (ad 0))] := hl
  have lp_17 : ∀ (n_17 : Nat) (s_17 : Sg) (y : (Int32 × Sg)), itr n_17 (fun s => f_X9_fault_17s s) (s_17) = some y → (fun y => y = r0) y → ∀ (H : Heap) (locs : List Loc) (ls : Array Slot), HS D aI aL 8 shM ad s_17 s H locs → lv_has ls 2 [(0, .ref (ad 0))] → W p l e (RM 4 92) s m args below meth c H locs 0 0 (MQ below (Qi D aI aL 8 shM ad r0.1 r0.2 s.heap.size) args s 0 0 (AA ad 8 s.heap.size)) (F0 m 17 ls []) := by
    intro n_17
    induction n_17 with
    | zero =>
      intro s_17 y h hK
      cases (show (none : Option (Int32 × Sg)) = some y from h)
    | succ n_17 ih_17 =>
      intro s_17 y h hK H locs ls hP hl
      obtain ⟨y, h, hK⟩ := itr_inv (K := (fun y => y = r0)) h hK
      replace h : f_X9_fault_17s s_17 = some y := h
      unfold f_X9_fault_17s at h
      refine lv_aload_n hx hb_ dX9_fault_17 rfl (lv_at hl 0 rfl) ?_
      refine w_get C hP (k := 0) (by decide) 7 rfl rfl inWX9 7 (by decide) wt791 (v := .int (s_17.1 0 7)) rfl dX9_fault_18 ?_
      refine lv_aload_n hx hb_ dX9_fault_21 rfl (lv_at hl 0 rfl) ?_
      refine w_get C hP (k := 0) (by decide) 7 rfl rfl inWX9 4 (by decide) wt788 (v := .int (s_17.1 0 4)) rfl dX9_fault_22 ?_
      refine lv_icmp_ge (tgt := 45) hx hb_ dX9_fault_25 (by decide) (fun hc => ?_) (fun hc => ?_)
      · replace h := ift h hc
        refine lv_bipush (v := (-4)) hx hb_ dX9_fault_45 (by decide) ?_
        obtain rfl := Option.some.inj h
        have hK : ((-4), s_17) = r0 := hK
        have hK1 := congrArg Prod.fst hK
        have hK2 := congrArg Prod.snd hK
        exact w_iret C hlk hr hP hK1 hK2 dX9_fault_47
      · replace h := iff' h hc
        refine lv_aload_n hx hb_ dX9_fault_28 rfl (lv_at hl 0 rfl) ?_
        refine w_get C hP (k := 0) (by decide) 7 rfl rfl inWX9 7 (by decide) wt791 (v := .int (s_17.1 0 7)) rfl dX9_fault_29 ?_
        obtain ⟨x4, hx4, h⟩ := nm_inv h
        refine w_ni hx4 ?_
        refine lv_istore_n (lv' := [(1, .int x4), (0, .ref (ad 0))]) hx hb_ dX9_fault_32 rfl hl (by decide) rfl (fun ls hl => ?_)
        refine lv_aload_n hx hb_ dX9_fault_33 rfl (lv_at hl 1 rfl) ?_
        obtain ⟨q5, hq5, h⟩ := bnd h
        refine w_ci (w_rV (As := []) (rest := []) C hP (k := 0) (c_X9_readItem l D aI aL ad inj _ s_17 q5 hq5) (gV wt842 wt844 wp16 wt12 wt845) 0 hd_X9_readItem ⟨Nat.le_of_ble_eq_true rfl, Nat.le_of_ble_eq_true rfl⟩ (by decide) 7 rfl rfl rfl hl.1 rfl (Nat.le_of_ble_eq_true rfl) dX9_fault_34) hP (fun H locs hP => ?_)
        refine lv_if_ne (tgt := 42) hx hb_ dX9_fault_37 (by decide) (fun hc => ?_) (fun hc => ?_)
        · replace h := iff' h hc
          refine lv_goto (tgt := 17) hx hb_ dX9_fault_42 (by decide) ?_
          obtain rfl := Option.some.inj h
          obtain ⟨y2, h, hK⟩ := hK
          exact ih_17 q5.2 y2 h hK _ _ _ hP (lv_sub hl [1] rfl)
        · replace h := ift h hc
          refine lv_iload_n hx hb_ dX9_fault_40 rfl (lv_at hl 0 rfl) ?_
          obtain rfl := Option.some.inj h
          have hK : (x4, q5.2) = r0 := hK
          have hK1 := congrArg Prod.fst hK
          have hK2 := congrArg Prod.snd hK
          exact w_iret C hlk hr hP hK1 hK2 dX9_fault_41
  have bk_17 : ∀ (s_17 : Sg) (y : (Int32 × Sg)), f_X9_fault_17 s_17 = some y → (fun y => y = r0) y → ∀ (H : Heap) (locs : List Loc) (ls : Array Slot), HS D aI aL 8 shM ad s_17 s H locs → lv_has ls 2 [(0, .ref (ad 0))] → W p l e (RM 4 92) s m args below meth c H locs 0 0 (MQ below (Qi D aI aL 8 shM ad r0.1 r0.2 s.heap.size) args s 0 0 (AA ad 8 s.heap.size)) (F0 m 17 ls []) := fun s_17 y h hK => lp_17 3000 s_17 y h hK
  have bk : ∀ (y : (Int32 × Sg)), f_X9_fault σ = some y → y = r0 → ∀ (H : Heap) (locs : List Loc), HS D aI aL 8 shM ad σ s H locs → W p l e (RM 4 92) s m args below meth c H locs 0 0 (MQ below (Qi D aI aL 8 shM ad r0.1 r0.2 s.heap.size) args s 0 0 (AA ad 8 s.heap.size)) (F0 m 0 ls []) := by
    intro y h hK H locs hP
    unfold f_X9_fault at h
    refine lv_aload_n hx hb_ dX9_fault_0 rfl (lv_at hl 0 rfl) ?_
    refine lv_sipush (v := 605) hx hb_ dX9_fault_1 (by decide) ?_
    obtain ⟨q1, hq1, h⟩ := bnd h
    refine w_cv (w_rV (As := [.int 605]) (rest := []) C hP (k := 0) (c_X9_makeAnew l D aI aL ad inj _ σ 605 q1 hq1) (gV wt772 wt774 wp13 wt12 wt775) 1 hd_X9_makeAnew ⟨Nat.le_of_ble_eq_true rfl, Nat.le_of_ble_eq_true rfl⟩ (by decide) 7 rfl rfl rfl hl.1 rfl (Nat.le_of_ble_eq_true rfl) dX9_fault_4) hP (fun H locs hP => ?_)
    refine lv_aload_n hx hb_ dX9_fault_7 rfl (lv_at hl 0 rfl) ?_
    refine lv_iconst (v := 0) hx hb_ dX9_fault_8 (by decide) ?_
    obtain ⟨s2, hs2, h⟩ := bnd h
    refine w_putz C hP (k := 0) (by decide) 7 rfl rfl inWX9 tyX9 tyX9_ok nmX9 9 (by decide) wt793 rfl rfl rfl rfl hs2 dX9_fault_9 (fun H locs hP => ?_)
    refine lv_aload_n hx hb_ dX9_fault_12 rfl (lv_at hl 0 rfl) ?_
    refine lv_iconst (v := 0) hx hb_ dX9_fault_13 (by decide) ?_
    obtain ⟨s3, hs3, h⟩ := bnd h
    refine w_puti C hP (k := 0) (by decide) 7 rfl rfl inWX9 tyX9 tyX9_ok nmX9 7 (by decide) wt791 rfl rfl rfl rfl hs3 dX9_fault_14 (fun H locs hP => ?_)
    exact bk_17 s3 y h hK _ _ _ hP (lv_sub hl [0] rfl)
  exact bk r0 hf rfl _ _ hP
theorem hd_X9_layFloor : yX9_layFloor.cls = RX9 ∧ yX9_layFloor.cls ≠ "java/lang/invoke/MethodHandle" ∧ yX9_layFloor.cls ≠ "java/lang/invoke/VarHandle" ∧ (parseMethodDescriptor yX9_layFloor.desc).map (fun d => d.parameters.length) = some 0 := by decide +kernel
set_option maxHeartbeats 4000000 in
set_option maxRecDepth 100000 in
theorem c_X9_layFloor (l : Launch) (D : va_G) (aI aL : ClassId) (ad : Nat → Nat) (inj : Inj ad 8) (sz : Nat) (σ : Sg) (r0 : (Int32 × Sg)) (hf : f_X9_layFloor σ = some r0) : Met l yX9_layFloor (wS yX9_layFloor cX9_layFloor 1 (some .int)) (RM 5 113) (Pw D aI aL 8 shM ad sz σ [.ref (ad 0)]) (Qi D aI aL 8 shM ad r0.1 r0.2 sz) 0 0 (AA ad 8 sz) := by
  refine Mof (Qc := Qi D aI aL 8 shM ad r0.1 r0.2) (by decide) inj (Nat.le_of_ble_eq_true rfl) ?_
  intro p e s m args below meth c ls C hlk hr hP hl
  have hx := C.1.1
  have hb_ := C.1.2.1
  have hown := C.1.2.2.2.1
  have hts := C.1.2.2.2.2
  have hl : lv_has ls 1 [(0, .ref (ad 0))] := hl
  have bk_20 : ∀ (s_20 : Sg) (y : (Int32 × Sg)), f_X9_layFloor_20 s_20 = some y → (fun y => y = r0) y → ∀ (H : Heap) (locs : List Loc) (ls : Array Slot), HS D aI aL 8 shM ad s_20 s H locs → lv_has ls 1 [] → W p l e (RM 5 113) s m args below meth c H locs 0 0 (MQ below (Qi D aI aL 8 shM ad r0.1 r0.2 s.heap.size) args s 0 0 (AA ad 8 s.heap.size)) (F0 m 20 ls []) := by
    intro s_20 y h hK H locs ls hP hl
    unfold f_X9_layFloor_20 at h
    refine lv_bipush (v := (-2)) hx hb_ dX9_layFloor_20 (by decide) ?_
    obtain rfl := Option.some.inj h
    have hK : ((-2), s_20) = r0 := hK
    have hK1 := congrArg Prod.fst hK
    have hK2 := congrArg Prod.snd hK
    exact w_iret C hlk hr hP hK1 hK2 dX9_layFloor_22
  have bk : ∀ (y : (Int32 × Sg)), f_X9_layFloor σ = some y → y = r0 → ∀ (H : Heap) (locs : List Loc), HS D aI aL 8 shM ad σ s H locs → W p l e (RM 5 113) s m args below meth c H locs 0 0 (MQ below (Qi D aI aL 8 shM ad r0.1 r0.2 s.heap.size) args s 0 0 (AA ad 8 s.heap.size)) (F0 m 0 ls []) := by
    intro y h hK H locs hP
    unfold f_X9_layFloor at h
    refine lv_aload_n hx hb_ dX9_layFloor_0 rfl (lv_at hl 0 rfl) ?_
    obtain ⟨q1, hq1, h⟩ := bnd h
    refine w_ci (w_rV (As := []) (rest := []) C hP (k := 0) (c_X9_fault l D aI aL ad inj _ σ q1 hq1) (gV wt869 wt839 wt840 wt12 wt841) 0 hd_X9_fault ⟨Nat.le_of_ble_eq_true rfl, Nat.le_of_ble_eq_true rfl⟩ (by decide) 7 rfl rfl rfl hl.1 rfl (Nat.le_of_ble_eq_true rfl) dX9_layFloor_1) hP (fun H locs hP => ?_)
    refine lv_bipush (v := (-4)) hx hb_ dX9_layFloor_4 (by decide) ?_
    refine lv_icmp_ne (tgt := 20) hx hb_ dX9_layFloor_6 (by decide) (fun hc => ?_) (fun hc => ?_)
    · replace h := iff' h hc
      exact bk_20 q1.2 y h hK _ _ _ hP (lv_sub hl [] rfl)
    · replace h := ift h hc
      refine lv_aload_n hx hb_ dX9_layFloor_9 rfl (lv_at hl 0 rfl) ?_
      refine w_get C hP (k := 0) (by decide) 7 rfl rfl inWX9 0 (by decide) wt784 (v := .ref (ad 1)) rfl dX9_layFloor_10 ?_
      refine lv_sipush (v := 609) hx hb_ dX9_layFloor_13 (by decide) ?_
      obtain ⟨x2, hx2, h⟩ := bnd h
      refine w_ald C hP (k := 1) (by decide) (n := 660) rfl hx2 dX9_layFloor_16 ?_
      refine lv_if_ne (tgt := 23) hx hb_ dX9_layFloor_17 (by decide) (fun hc => ?_) (fun hc => ?_)
      · replace h := iff' h hc
        refine lv_aload_n hx hb_ dX9_layFloor_23 rfl (lv_at hl 0 rfl) ?_
        refine lv_sipush (v := 605) hx hb_ dX9_layFloor_24 (by decide) ?_
        refine lv_iconst (v := 0) hx hb_ dX9_layFloor_27 (by decide) ?_
        obtain ⟨q3, hq3, h⟩ := bnd h
        refine w_cv (w_rV (As := [.int 605, .int 0]) (rest := []) C hP (k := 0) (c_X9_copy l D aI aL ad inj _ q1.2 605 0 q3 hq3) (gV wt870 wt872 wp21 wt12 wt873) 2 hd_X9_copy ⟨Nat.le_of_ble_eq_true rfl, Nat.le_of_ble_eq_true rfl⟩ (by decide) 7 rfl rfl rfl hl.1 rfl (Nat.le_of_ble_eq_true rfl) dX9_layFloor_28) hP (fun H locs hP => ?_)
        refine lv_aload_n hx hb_ dX9_layFloor_31 rfl (lv_at hl 0 rfl) ?_
        refine lv_iconst (v := 0) hx hb_ dX9_layFloor_32 (by decide) ?_
        obtain ⟨q4, hq4, h⟩ := bnd h
        refine w_cv (w_rV (As := [.int 0]) (rest := []) C hP (k := 0) (c_X9_settle l D aI aL ad inj _ q3 0 q4 hq4) (gV wt780 wt782 wp15 wt12 wt783) 1 hd_X9_settle ⟨Nat.le_of_ble_eq_true rfl, Nat.le_of_ble_eq_true rfl⟩ (by decide) 7 rfl rfl rfl hl.1 rfl (Nat.le_of_ble_eq_true rfl) dX9_layFloor_33) hP (fun H locs hP => ?_)
        refine lv_aload_n hx hb_ dX9_layFloor_36 rfl (lv_at hl 0 rfl) ?_
        refine lv_iconst (v := 0) hx hb_ dX9_layFloor_37 (by decide) ?_
        obtain ⟨s5, hs5, h⟩ := bnd h
        refine w_puti C hP (k := 0) (by decide) 7 rfl rfl inWX9 tyX9 tyX9_ok nmX9 6 (by decide) wt790 rfl rfl rfl rfl hs5 dX9_layFloor_38 (fun H locs hP => ?_)
        refine lv_aload_n hx hb_ dX9_layFloor_41 rfl (lv_at hl 0 rfl) ?_
        refine lv_iconst (v := 0) hx hb_ dX9_layFloor_42 (by decide) ?_
        obtain ⟨s6, hs6, h⟩ := bnd h
        refine w_puti C hP (k := 0) (by decide) 7 rfl rfl inWX9 tyX9 tyX9_ok nmX9 2 (by decide) wt786 rfl rfl rfl rfl hs6 dX9_layFloor_43 (fun H locs hP => ?_)
        refine lv_aload_n hx hb_ dX9_layFloor_46 rfl (lv_at hl 0 rfl) ?_
        refine lv_iconst (v := 0) hx hb_ dX9_layFloor_47 (by decide) ?_
        obtain ⟨s7, hs7, h⟩ := bnd h
        refine w_puti C hP (k := 0) (by decide) 7 rfl rfl inWX9 tyX9 tyX9_ok nmX9 1 (by decide) wt785 rfl rfl rfl rfl hs7 dX9_layFloor_48 (fun H locs hP => ?_)
        refine lv_aload_n hx hb_ dX9_layFloor_51 rfl (lv_at hl 0 rfl) ?_
        refine w_get C hP (k := 0) (by decide) 7 rfl rfl inWX9 0 (by decide) wt784 (v := .ref (ad 1)) rfl dX9_layFloor_52 ?_
        refine lv_iconst (v := 0) hx hb_ dX9_layFloor_55 (by decide) ?_
        obtain ⟨x8, hx8, h⟩ := bnd h
        refine w_ald C hP (k := 1) (by decide) (n := 660) rfl hx8 dX9_layFloor_56 ?_
        obtain rfl := Option.some.inj h
        have hK : (x8, s7) = r0 := hK
        have hK1 := congrArg Prod.fst hK
        have hK2 := congrArg Prod.snd hK
        exact w_iret C hlk hr hP hK1 hK2 dX9_layFloor_57
      · replace h := ift h hc
        exact bk_20 q1.2 y h hK _ _ _ hP (lv_sub hl [] rfl)
  exact bk r0 hf rfl _ _ hP
theorem hd_X9_may : yX9_may.cls = RX9 ∧ yX9_may.cls ≠ "java/lang/invoke/MethodHandle" ∧ yX9_may.cls ≠ "java/lang/invoke/VarHandle" ∧ (parseMethodDescriptor yX9_may.desc).map (fun d => d.parameters.length) = some 1 := by decide +kernel
set_option maxHeartbeats 4000000 in
set_option maxRecDepth 100000 in
theorem c_X9_may (l : Launch) (D : va_G) (aI aL : ClassId) (ad : Nat → Nat) (inj : Inj ad 8) (sz : Nat) (σ : Sg) (v1 : Int32) (r0 : Int32) (hf : f_X9_may v1 σ = some r0) : Met l yX9_may (wS yX9_may cX9_may 3 (some .boolean)) (RM 1 21) (Pw D aI aL 8 shM ad sz σ [.ref (ad 0), .int v1]) (Qi D aI aL 8 shM ad r0 σ sz) 0 0 (AA ad 8 sz) := by
  refine Mof (Qc := Qi D aI aL 8 shM ad r0 σ) (by decide) inj (Nat.le_of_ble_eq_true rfl) ?_
  intro p e s m args below meth c ls C hlk hr hP hl
  have hx := C.1.1
  have hb_ := C.1.2.1
  have hown := C.1.2.2.2.1
  have hts := C.1.2.2.2.2
  have hl : lv_has ls 3 [(0, .ref (ad 0)), (1, .int v1)] := hl
  have bk_115 : ∀ (t0_115 : Int32) (y : Int32), f_X9_may_115 t0_115 σ = some y → (fun y => y = r0) y → ∀ (H : Heap) (locs : List Loc) (ls : Array Slot), HS D aI aL 8 shM ad σ s H locs → lv_has ls 3 [] → W p l e (RM 1 21) s m args below meth c H locs 0 0 (MQ below (Qi D aI aL 8 shM ad r0 σ s.heap.size) args s 0 0 (AA ad 8 s.heap.size)) (F0 m 115 ls [.int t0_115]) := by
    intro t0_115 y h hK H locs ls hP hl
    unfold f_X9_may_115 at h
    obtain ⟨x6, hx6, h⟩ := bnd h
    obtain rfl := Option.some.inj h
    have hK : (x6 : Int32) = r0 := hK
    exact w_zret C hlk hr hP hx6 hK rfl dX9_may_115
  have bk_114 : ∀ (y : Int32), f_X9_may_114 σ = some y → (fun y => y = r0) y → ∀ (H : Heap) (locs : List Loc) (ls : Array Slot), HS D aI aL 8 shM ad σ s H locs → lv_has ls 3 [] → W p l e (RM 1 21) s m args below meth c H locs 0 0 (MQ below (Qi D aI aL 8 shM ad r0 σ s.heap.size) args s 0 0 (AA ad 8 s.heap.size)) (F0 m 114 ls []) := by
    intro y h hK H locs ls hP hl
    unfold f_X9_may_114 at h
    refine lv_iconst (v := 0) hx hb_ dX9_may_114 (by decide) ?_
    exact bk_115 0 y h hK _ _ _ hP (lv_sub hl [] rfl)
  have bk : ∀ (y : Int32), f_X9_may v1 σ = some y → y = r0 → ∀ (H : Heap) (locs : List Loc), HS D aI aL 8 shM ad σ s H locs → W p l e (RM 1 21) s m args below meth c H locs 0 0 (MQ below (Qi D aI aL 8 shM ad r0 σ s.heap.size) args s 0 0 (AA ad 8 s.heap.size)) (F0 m 0 ls []) := by
    intro y h hK H locs hP
    unfold f_X9_may at h
    refine lv_iconst (v := 1) hx hb_ dX9_may_0 (by decide) ?_
    refine lv_aload_n hx hb_ dX9_may_1 rfl (lv_at hl 0 rfl) ?_
    refine w_get C hP (k := 0) (by decide) 7 rfl rfl inWX9 0 (by decide) wt784 (v := .ref (ad 1)) rfl dX9_may_2 ?_
    refine lv_iconst (v := 5) hx hb_ dX9_may_5 (by decide) ?_
    refine lv_iload_n hx hb_ dX9_may_6 rfl (lv_at hl 1 rfl) ?_
    refine lv_iadd hx hb_ dX9_may_7 ?_
    obtain ⟨x1, hx1, h⟩ := bnd h
    refine w_ald C hP (k := 1) (by decide) (n := 660) rfl hx1 dX9_may_8 ?_
    refine lv_ishl hx hb_ dX9_may_9 ?_
    refine lv_iconst (v := 1) hx hb_ dX9_may_10 (by decide) ?_
    refine lv_aload_n hx hb_ dX9_may_11 rfl (lv_at hl 0 rfl) ?_
    refine w_get C hP (k := 0) (by decide) 7 rfl rfl inWX9 0 (by decide) wt784 (v := .ref (ad 1)) rfl dX9_may_12 ?_
    refine lv_bipush (v := 15) hx hb_ dX9_may_15 (by decide) ?_
    refine lv_iload_n hx hb_ dX9_may_17 rfl (lv_at hl 1 rfl) ?_
    refine lv_iadd hx hb_ dX9_may_18 ?_
    obtain ⟨x2, hx2, h⟩ := bnd h
    refine w_ald C hP (k := 1) (by decide) (n := 660) rfl hx2 dX9_may_19 ?_
    refine lv_ishl hx hb_ dX9_may_20 ?_
    refine lv_ior hx hb_ dX9_may_21 ?_
    refine lv_iconst (v := 1) hx hb_ dX9_may_22 (by decide) ?_
    refine lv_aload_n hx hb_ dX9_may_23 rfl (lv_at hl 0 rfl) ?_
    refine w_get C hP (k := 0) (by decide) 7 rfl rfl inWX9 0 (by decide) wt784 (v := .ref (ad 1)) rfl dX9_may_24 ?_
    refine lv_bipush (v := 25) hx hb_ dX9_may_27 (by decide) ?_
    refine lv_iload_n hx hb_ dX9_may_29 rfl (lv_at hl 1 rfl) ?_
    refine lv_iadd hx hb_ dX9_may_30 ?_
    obtain ⟨x3, hx3, h⟩ := bnd h
    refine w_ald C hP (k := 1) (by decide) (n := 660) rfl hx3 dX9_may_31 ?_
    refine lv_ishl hx hb_ dX9_may_32 ?_
    refine lv_ior hx hb_ dX9_may_33 ?_
    obtain ⟨x4, hx4, h⟩ := nm_inv h
    refine w_ni hx4 ?_
    refine lv_istore_n (lv' := [(2, .int x4), (0, .ref (ad 0)), (1, .int v1)]) hx hb_ dX9_may_34 rfl hl (by decide) rfl (fun ls hl => ?_)
    refine lv_iload_n hx hb_ dX9_may_35 rfl (lv_at hl 0 rfl) ?_
    refine lv_aload_n hx hb_ dX9_may_36 rfl (lv_at hl 1 rfl) ?_
    refine w_get C hP (k := 0) (by decide) 7 rfl rfl inWX9 0 (by decide) wt784 (v := .ref (ad 1)) rfl dX9_may_37 ?_
    refine lv_iconst (v := 2) hx hb_ dX9_may_40 (by decide) ?_
    obtain ⟨x5, hx5, h⟩ := bnd h
    refine w_ald C hP (k := 1) (by decide) (n := 660) rfl hx5 dX9_may_41 ?_
    refine lv_iconst (v := (-1)) hx hb_ dX9_may_42 (by decide) ?_
    refine lv_ixor hx hb_ dX9_may_43 ?_
    refine lv_iand hx hb_ dX9_may_44 ?_
    refine lv_if_ne (tgt := 114) hx hb_ dX9_may_45 (by decide) (fun hc => ?_) (fun hc => ?_)
    · replace h := iff' h hc
      exact bk_114 y h hK _ _ _ hP (lv_sub hl [] rfl)
    · replace h := ift h hc
      refine lv_aload_n hx hb_ dX9_may_48 rfl (lv_at hl 1 rfl) ?_
      refine w_get C hP (k := 0) (by decide) 7 rfl rfl inWX9 0 (by decide) wt784 (v := .ref (ad 1)) rfl dX9_may_49 ?_
      refine lv_iconst (v := 3) hx hb_ dX9_may_52 (by decide) ?_
      obtain ⟨x7, hx7, h⟩ := bnd h
      refine w_ald C hP (k := 1) (by decide) (n := 660) rfl hx7 dX9_may_53 ?_
      refine lv_aload_n hx hb_ dX9_may_54 rfl (lv_at hl 1 rfl) ?_
      refine w_get C hP (k := 0) (by decide) 7 rfl rfl inWX9 0 (by decide) wt784 (v := .ref (ad 1)) rfl dX9_may_55 ?_
      refine lv_iconst (v := 5) hx hb_ dX9_may_58 (by decide) ?_
      refine lv_iload_n hx hb_ dX9_may_59 rfl (lv_at hl 2 rfl) ?_
      refine lv_iadd hx hb_ dX9_may_60 ?_
      obtain ⟨x8, hx8, h⟩ := bnd h
      refine w_ald C hP (k := 1) (by decide) (n := 660) rfl hx8 dX9_may_61 ?_
      obtain ⟨q9, hq9, h⟩ := bnd h
      refine w_ci (w_rS (As := [.int x7, .int x8]) (rest := []) C hP (c_X9_has l D aI aL ad inj _ σ x7 x8 q9 hq9) wt896 wt897 wt12 wt898 2 hd_X9_has ⟨Nat.le_of_ble_eq_true rfl, Nat.le_of_ble_eq_true rfl⟩ rfl hl.1 rfl (Nat.le_of_ble_eq_true rfl) dX9_may_62) hP (fun H locs hP => ?_)
      refine lv_if_eq (tgt := 114) hx hb_ dX9_may_65 (by decide) (fun hc => ?_) (fun hc => ?_)
      · replace h := ift h hc
        exact bk_114 y h hK _ _ _ hP (lv_sub hl [] rfl)
      · replace h := iff' h hc
        refine lv_aload_n hx hb_ dX9_may_68 rfl (lv_at hl 1 rfl) ?_
        refine w_get C hP (k := 0) (by decide) 7 rfl rfl inWX9 0 (by decide) wt784 (v := .ref (ad 1)) rfl dX9_may_69 ?_
        refine lv_iconst (v := 3) hx hb_ dX9_may_72 (by decide) ?_
        obtain ⟨x10, hx10, h⟩ := bnd h
        refine w_ald C hP (k := 1) (by decide) (n := 660) rfl hx10 dX9_may_73 ?_
        refine lv_aload_n hx hb_ dX9_may_74 rfl (lv_at hl 1 rfl) ?_
        refine w_get C hP (k := 0) (by decide) 7 rfl rfl inWX9 0 (by decide) wt784 (v := .ref (ad 1)) rfl dX9_may_75 ?_
        refine lv_bipush (v := 15) hx hb_ dX9_may_78 (by decide) ?_
        refine lv_iload_n hx hb_ dX9_may_80 rfl (lv_at hl 2 rfl) ?_
        refine lv_iadd hx hb_ dX9_may_81 ?_
        obtain ⟨x11, hx11, h⟩ := bnd h
        refine w_ald C hP (k := 1) (by decide) (n := 660) rfl hx11 dX9_may_82 ?_
        obtain ⟨q12, hq12, h⟩ := bnd h
        refine w_ci (w_rS (As := [.int x10, .int x11]) (rest := []) C hP (c_X9_has l D aI aL ad inj _ σ x10 x11 q12 hq12) wt896 wt897 wt12 wt898 2 hd_X9_has ⟨Nat.le_of_ble_eq_true rfl, Nat.le_of_ble_eq_true rfl⟩ rfl hl.1 rfl (Nat.le_of_ble_eq_true rfl) dX9_may_83) hP (fun H locs hP => ?_)
        refine lv_if_eq (tgt := 114) hx hb_ dX9_may_86 (by decide) (fun hc => ?_) (fun hc => ?_)
        · replace h := ift h hc
          exact bk_114 y h hK _ _ _ hP (lv_sub hl [] rfl)
        · replace h := iff' h hc
          refine lv_aload_n hx hb_ dX9_may_89 rfl (lv_at hl 1 rfl) ?_
          refine w_get C hP (k := 0) (by decide) 7 rfl rfl inWX9 0 (by decide) wt784 (v := .ref (ad 1)) rfl dX9_may_90 ?_
          refine lv_iconst (v := 3) hx hb_ dX9_may_93 (by decide) ?_
          obtain ⟨x13, hx13, h⟩ := bnd h
          refine w_ald C hP (k := 1) (by decide) (n := 660) rfl hx13 dX9_may_94 ?_
          refine lv_aload_n hx hb_ dX9_may_95 rfl (lv_at hl 1 rfl) ?_
          refine w_get C hP (k := 0) (by decide) 7 rfl rfl inWX9 0 (by decide) wt784 (v := .ref (ad 1)) rfl dX9_may_96 ?_
          refine lv_bipush (v := 25) hx hb_ dX9_may_99 (by decide) ?_
          refine lv_iload_n hx hb_ dX9_may_101 rfl (lv_at hl 2 rfl) ?_
          refine lv_iadd hx hb_ dX9_may_102 ?_
          obtain ⟨x14, hx14, h⟩ := bnd h
          refine w_ald C hP (k := 1) (by decide) (n := 660) rfl hx14 dX9_may_103 ?_
          obtain ⟨q15, hq15, h⟩ := bnd h
          refine w_ci (w_rS (As := [.int x13, .int x14]) (rest := []) C hP (c_X9_has l D aI aL ad inj _ σ x13 x14 q15 hq15) wt896 wt897 wt12 wt898 2 hd_X9_has ⟨Nat.le_of_ble_eq_true rfl, Nat.le_of_ble_eq_true rfl⟩ rfl hl.1 rfl (Nat.le_of_ble_eq_true rfl) dX9_may_104) hP (fun H locs hP => ?_)
          refine lv_if_ne (tgt := 114) hx hb_ dX9_may_107 (by decide) (fun hc => ?_) (fun hc => ?_)
          · replace h := iff' h hc
            exact bk_114 y h hK _ _ _ hP (lv_sub hl [] rfl)
          · replace h := ift h hc
            refine lv_iconst (v := 1) hx hb_ dX9_may_110 (by decide) ?_
            refine lv_goto (tgt := 115) hx hb_ dX9_may_111 (by decide) ?_
            exact bk_115 1 y h hK _ _ _ hP (lv_sub hl [] rfl)
  exact bk r0 hf rfl _ _ hP
theorem hd_X9_stone : yX9_stone.cls = RX9 ∧ yX9_stone.cls ≠ "java/lang/invoke/MethodHandle" ∧ yX9_stone.cls ≠ "java/lang/invoke/VarHandle" ∧ (parseMethodDescriptor yX9_stone.desc).map (fun d => d.parameters.length) = some 2 := by decide +kernel
set_option maxHeartbeats 4000000 in
set_option maxRecDepth 100000 in
theorem c_X9_stone (l : Launch) (D : va_G) (aI aL : ClassId) (ad : Nat → Nat) (inj : Inj ad 8) (sz : Nat) (σ : Sg) (v1 : Int32) (v2 : Int32) (r0 : Int32) (hf : f_X9_stone v1 v2 σ = some r0) : Met l yX9_stone (wS yX9_stone cX9_stone 3 (some .int)) (RM 2 46) (Pw D aI aL 8 shM ad sz σ [.ref (ad 0), .int v1, .int v2]) (Qi D aI aL 8 shM ad r0 σ sz) 0 0 (AA ad 8 sz) := by
  refine Mof (Qc := Qi D aI aL 8 shM ad r0 σ) (by decide) inj (Nat.le_of_ble_eq_true rfl) ?_
  intro p e s m args below meth c ls C hlk hr hP hl
  have hx := C.1.1
  have hb_ := C.1.2.1
  have hown := C.1.2.2.2.1
  have hts := C.1.2.2.2.2
  have hl : lv_has ls 3 [(0, .ref (ad 0)), (1, .int v1), (2, .int v2)] := hl
  have bk_20 : ∀ (y : Int32), f_X9_stone_20 σ = some y → (fun y => y = r0) y → ∀ (H : Heap) (locs : List Loc) (ls : Array Slot), HS D aI aL 8 shM ad σ s H locs → lv_has ls 3 [] → W p l e (RM 2 46) s m args below meth c H locs 0 0 (MQ below (Qi D aI aL 8 shM ad r0 σ s.heap.size) args s 0 0 (AA ad 8 s.heap.size)) (F0 m 20 ls []) := by
    intro y h hK H locs ls hP hl
    unfold f_X9_stone_20 at h
    refine lv_iconst (v := (-1)) hx hb_ dX9_stone_20 (by decide) ?_
    obtain rfl := Option.some.inj h
    have hK : ((-1) : Int32) = r0 := hK
    exact w_iret C hlk hr hP hK rfl dX9_stone_21
  have bk_101 : ∀ (t0_101 : Int32) (y : Int32), f_X9_stone_101 t0_101 σ = some y → (fun y => y = r0) y → ∀ (H : Heap) (locs : List Loc) (ls : Array Slot), HS D aI aL 8 shM ad σ s H locs → lv_has ls 3 [] → W p l e (RM 2 46) s m args below meth c H locs 0 0 (MQ below (Qi D aI aL 8 shM ad r0 σ s.heap.size) args s 0 0 (AA ad 8 s.heap.size)) (F0 m 101 ls [.int t0_101]) := by
    intro t0_101 y h hK H locs ls hP hl
    unfold f_X9_stone_101 at h
    obtain rfl := Option.some.inj h
    have hK : (t0_101 : Int32) = r0 := hK
    exact w_iret C hlk hr hP hK rfl dX9_stone_101
  have bk : ∀ (y : Int32), f_X9_stone v1 v2 σ = some y → y = r0 → ∀ (H : Heap) (locs : List Loc), HS D aI aL 8 shM ad σ s H locs → W p l e (RM 2 46) s m args below meth c H locs 0 0 (MQ below (Qi D aI aL 8 shM ad r0 σ s.heap.size) args s 0 0 (AA ad 8 s.heap.size)) (F0 m 0 ls []) := by
    intro y h hK H locs hP
    unfold f_X9_stone at h
    refine lv_aload_n hx hb_ dX9_stone_0 rfl (lv_at hl 0 rfl) ?_
    refine lv_iload_n hx hb_ dX9_stone_1 rfl (lv_at hl 1 rfl) ?_
    obtain ⟨q1, hq1, h⟩ := bnd h
    refine w_ci (w_rV (As := [.int v1]) (rest := []) C hP (k := 0) (c_X9_isStone l D aI aL ad inj _ σ v1 q1 hq1) (gV wt878 wt880 wp22 wt12 wt881) 1 hd_X9_isStone ⟨Nat.le_of_ble_eq_true rfl, Nat.le_of_ble_eq_true rfl⟩ (by decide) 7 rfl rfl rfl hl.1 rfl (Nat.le_of_ble_eq_true rfl) dX9_stone_2) hP (fun H locs hP => ?_)
    refine lv_if_eq (tgt := 20) hx hb_ dX9_stone_5 (by decide) (fun hc => ?_) (fun hc => ?_)
    · replace h := ift h hc
      exact bk_20 y h hK _ _ _ hP (lv_sub hl [] rfl)
    · replace h := iff' h hc
      refine lv_iload_n hx hb_ dX9_stone_8 rfl (lv_at hl 2 rfl) ?_
      refine lv_i2l hx hb_ dX9_stone_9 rfl ?_
      refine lv_lconst (v := 0) hx hb_ dX9_stone_10 (by decide) ?_
      refine lv_ldc2 hx hb_ hown (hts _ wt882) dX9_stone_11 ?_
      obtain ⟨q2, hq2, h⟩ := bnd h
      refine w_ci (w_rS (As := [.long ((v2 : Int32).toInt64), .long 0, .long 4]) (rest := []) C hP (c_X9_in l D aI aL ad inj _ σ ((v2 : Int32).toInt64) 0 4 q2 hq2) wt830 wt831 wt12 wt832 3 hd_X9_in ⟨Nat.le_of_ble_eq_true rfl, Nat.le_of_ble_eq_true rfl⟩ rfl hl.1 rfl (Nat.le_of_ble_eq_true rfl) dX9_stone_14) hP (fun H locs hP => ?_)
      refine lv_if_ne (tgt := 22) hx hb_ dX9_stone_17 (by decide) (fun hc => ?_) (fun hc => ?_)
      · replace h := iff' h hc
        refine lv_iload_n hx hb_ dX9_stone_22 rfl (lv_at hl 2 rfl) ?_
        refine lv_if_ne (tgt := 39) hx hb_ dX9_stone_23 (by decide) (fun hc => ?_) (fun hc => ?_)
        · replace h := iff' h hc
          refine lv_iload_n hx hb_ dX9_stone_39 rfl (lv_at hl 2 rfl) ?_
          refine lv_iconst (v := 1) hx hb_ dX9_stone_40 (by decide) ?_
          refine lv_icmp_ne (tgt := 57) hx hb_ dX9_stone_41 (by decide) (fun hc => ?_) (fun hc => ?_)
          · replace h := iff' h hc
            refine lv_iload_n hx hb_ dX9_stone_57 rfl (lv_at hl 2 rfl) ?_
            refine lv_iconst (v := 2) hx hb_ dX9_stone_58 (by decide) ?_
            refine lv_icmp_ne (tgt := 75) hx hb_ dX9_stone_59 (by decide) (fun hc => ?_) (fun hc => ?_)
            · replace h := iff' h hc
              refine lv_iload_n hx hb_ dX9_stone_75 rfl (lv_at hl 2 rfl) ?_
              refine lv_iconst (v := 3) hx hb_ dX9_stone_76 (by decide) ?_
              refine lv_icmp_ne (tgt := 92) hx hb_ dX9_stone_77 (by decide) (fun hc => ?_) (fun hc => ?_)
              · replace h := iff' h hc
                refine lv_aload_n hx hb_ dX9_stone_92 rfl (lv_at hl 0 rfl) ?_
                refine w_get C hP (k := 0) (by decide) 7 rfl rfl inWX9 0 (by decide) wt784 (v := .ref (ad 1)) rfl dX9_stone_93 ?_
                refine lv_bipush (v := 45) hx hb_ dX9_stone_96 (by decide) ?_
                refine lv_iload_n hx hb_ dX9_stone_98 rfl (lv_at hl 1 rfl) ?_
                refine lv_iadd hx hb_ dX9_stone_99 ?_
                obtain ⟨x3, hx3, h⟩ := bnd h
                refine w_ald C hP (k := 1) (by decide) (n := 660) rfl hx3 dX9_stone_100 ?_
                exact bk_101 x3 y h hK _ _ _ hP (lv_sub hl [] rfl)
              · replace h := ift h hc
                refine lv_aload_n hx hb_ dX9_stone_80 rfl (lv_at hl 0 rfl) ?_
                refine w_get C hP (k := 0) (by decide) 7 rfl rfl inWX9 0 (by decide) wt784 (v := .ref (ad 1)) rfl dX9_stone_81 ?_
                refine lv_bipush (v := 35) hx hb_ dX9_stone_84 (by decide) ?_
                refine lv_iload_n hx hb_ dX9_stone_86 rfl (lv_at hl 1 rfl) ?_
                refine lv_iadd hx hb_ dX9_stone_87 ?_
                obtain ⟨x4, hx4, h⟩ := bnd h
                refine w_ald C hP (k := 1) (by decide) (n := 660) rfl hx4 dX9_stone_88 ?_
                refine lv_goto (tgt := 101) hx hb_ dX9_stone_89 (by decide) ?_
                exact bk_101 x4 y h hK _ _ _ hP (lv_sub hl [] rfl)
            · replace h := ift h hc
              refine lv_aload_n hx hb_ dX9_stone_62 rfl (lv_at hl 0 rfl) ?_
              refine w_get C hP (k := 0) (by decide) 7 rfl rfl inWX9 0 (by decide) wt784 (v := .ref (ad 1)) rfl dX9_stone_63 ?_
              refine lv_iconst (v := 1) hx hb_ dX9_stone_66 (by decide) ?_
              obtain ⟨x5, hx5, h⟩ := bnd h
              refine w_ald C hP (k := 1) (by decide) (n := 660) rfl hx5 dX9_stone_67 ?_
              refine lv_iload_n hx hb_ dX9_stone_68 rfl (lv_at hl 1 rfl) ?_
              refine lv_ishr hx hb_ dX9_stone_69 ?_
              refine lv_iconst (v := 1) hx hb_ dX9_stone_70 (by decide) ?_
              refine lv_iand hx hb_ dX9_stone_71 ?_
              refine lv_goto (tgt := 101) hx hb_ dX9_stone_72 (by decide) ?_
              exact bk_101 ((x5 >>> (v1 &&& 31)) &&& (1 : Int32)) y h hK _ _ _ hP (lv_sub hl [] rfl)
          · replace h := ift h hc
            refine lv_aload_n hx hb_ dX9_stone_44 rfl (lv_at hl 0 rfl) ?_
            refine w_get C hP (k := 0) (by decide) 7 rfl rfl inWX9 0 (by decide) wt784 (v := .ref (ad 1)) rfl dX9_stone_45 ?_
            refine lv_iconst (v := 3) hx hb_ dX9_stone_48 (by decide) ?_
            obtain ⟨x6, hx6, h⟩ := bnd h
            refine w_ald C hP (k := 1) (by decide) (n := 660) rfl hx6 dX9_stone_49 ?_
            refine lv_iload_n hx hb_ dX9_stone_50 rfl (lv_at hl 1 rfl) ?_
            refine lv_ishr hx hb_ dX9_stone_51 ?_
            refine lv_iconst (v := 1) hx hb_ dX9_stone_52 (by decide) ?_
            refine lv_iand hx hb_ dX9_stone_53 ?_
            refine lv_goto (tgt := 101) hx hb_ dX9_stone_54 (by decide) ?_
            exact bk_101 ((x6 >>> (v1 &&& 31)) &&& (1 : Int32)) y h hK _ _ _ hP (lv_sub hl [] rfl)
        · replace h := ift h hc
          refine lv_aload_n hx hb_ dX9_stone_26 rfl (lv_at hl 0 rfl) ?_
          refine w_get C hP (k := 0) (by decide) 7 rfl rfl inWX9 0 (by decide) wt784 (v := .ref (ad 1)) rfl dX9_stone_27 ?_
          refine lv_iconst (v := 2) hx hb_ dX9_stone_30 (by decide) ?_
          obtain ⟨x7, hx7, h⟩ := bnd h
          refine w_ald C hP (k := 1) (by decide) (n := 660) rfl hx7 dX9_stone_31 ?_
          refine lv_iload_n hx hb_ dX9_stone_32 rfl (lv_at hl 1 rfl) ?_
          refine lv_ishr hx hb_ dX9_stone_33 ?_
          refine lv_iconst (v := 1) hx hb_ dX9_stone_34 (by decide) ?_
          refine lv_iand hx hb_ dX9_stone_35 ?_
          refine lv_goto (tgt := 101) hx hb_ dX9_stone_36 (by decide) ?_
          exact bk_101 ((x7 >>> (v1 &&& 31)) &&& (1 : Int32)) y h hK _ _ _ hP (lv_sub hl [] rfl)
      · replace h := ift h hc
        exact bk_20 y h hK _ _ _ hP (lv_sub hl [] rfl)
  exact bk r0 hf rfl _ _ hP
theorem hd_X9_step : yX9_step.cls = RX9 ∧ yX9_step.cls ≠ "java/lang/invoke/MethodHandle" ∧ yX9_step.cls ≠ "java/lang/invoke/VarHandle" ∧ (parseMethodDescriptor yX9_step.desc).map (fun d => d.parameters.length) = some 2 := by decide +kernel
set_option maxHeartbeats 4000000 in
set_option maxRecDepth 100000 in
theorem c_X9_step (l : Launch) (D : va_G) (aI aL : ClassId) (ad : Nat → Nat) (inj : Inj ad 8) (sz : Nat) (σ : Sg) (v1 : Int32) (v2 : Int32) (r0 : Int32) (hf : f_X9_step v1 v2 σ = some r0) : Met l yX9_step (wS yX9_step cX9_step 3 (some .int)) (RM 2 46) (Pw D aI aL 8 shM ad sz σ [.ref (ad 0), .int v1, .int v2]) (Qi D aI aL 8 shM ad r0 σ sz) 0 0 (AA ad 8 sz) := by
  refine Mof (Qc := Qi D aI aL 8 shM ad r0 σ) (by decide) inj (Nat.le_of_ble_eq_true rfl) ?_
  intro p e s m args below meth c ls C hlk hr hP hl
  have hx := C.1.1
  have hb_ := C.1.2.1
  have hown := C.1.2.2.2.1
  have hts := C.1.2.2.2.2
  have hl : lv_has ls 3 [(0, .ref (ad 0)), (1, .int v1), (2, .int v2)] := hl
  have bk_20 : ∀ (y : Int32), f_X9_step_20 σ = some y → (fun y => y = r0) y → ∀ (H : Heap) (locs : List Loc) (ls : Array Slot), HS D aI aL 8 shM ad σ s H locs → lv_has ls 3 [] → W p l e (RM 2 46) s m args below meth c H locs 0 0 (MQ below (Qi D aI aL 8 shM ad r0 σ s.heap.size) args s 0 0 (AA ad 8 s.heap.size)) (F0 m 20 ls []) := by
    intro y h hK H locs ls hP hl
    unfold f_X9_step_20 at h
    refine lv_iconst (v := (-1)) hx hb_ dX9_step_20 (by decide) ?_
    obtain rfl := Option.some.inj h
    have hK : ((-1) : Int32) = r0 := hK
    exact w_iret C hlk hr hP hK rfl dX9_step_21
  have bk_84 : ∀ (t0_84 : Int32) (y : Int32), f_X9_step_84 t0_84 σ = some y → (fun y => y = r0) y → ∀ (H : Heap) (locs : List Loc) (ls : Array Slot), HS D aI aL 8 shM ad σ s H locs → lv_has ls 3 [] → W p l e (RM 2 46) s m args below meth c H locs 0 0 (MQ below (Qi D aI aL 8 shM ad r0 σ s.heap.size) args s 0 0 (AA ad 8 s.heap.size)) (F0 m 84 ls [.int t0_84]) := by
    intro t0_84 y h hK H locs ls hP hl
    unfold f_X9_step_84 at h
    obtain rfl := Option.some.inj h
    have hK : (t0_84 : Int32) = r0 := hK
    exact w_iret C hlk hr hP hK rfl dX9_step_84
  have bk : ∀ (y : Int32), f_X9_step v1 v2 σ = some y → y = r0 → ∀ (H : Heap) (locs : List Loc), HS D aI aL 8 shM ad σ s H locs → W p l e (RM 2 46) s m args below meth c H locs 0 0 (MQ below (Qi D aI aL 8 shM ad r0 σ s.heap.size) args s 0 0 (AA ad 8 s.heap.size)) (F0 m 0 ls []) := by
    intro y h hK H locs hP
    unfold f_X9_step at h
    refine lv_aload_n hx hb_ dX9_step_0 rfl (lv_at hl 0 rfl) ?_
    refine lv_iload_n hx hb_ dX9_step_1 rfl (lv_at hl 1 rfl) ?_
    obtain ⟨q1, hq1, h⟩ := bnd h
    refine w_ci (w_rV (As := [.int v1]) (rest := []) C hP (k := 0) (c_X9_isStep l D aI aL ad inj _ σ v1 q1 hq1) (gV wt887 wt889 wp23 wt12 wt890) 1 hd_X9_isStep ⟨Nat.le_of_ble_eq_true rfl, Nat.le_of_ble_eq_true rfl⟩ (by decide) 7 rfl rfl rfl hl.1 rfl (Nat.le_of_ble_eq_true rfl) dX9_step_2) hP (fun H locs hP => ?_)
    refine lv_if_eq (tgt := 20) hx hb_ dX9_step_5 (by decide) (fun hc => ?_) (fun hc => ?_)
    · replace h := ift h hc
      exact bk_20 y h hK _ _ _ hP (lv_sub hl [] rfl)
    · replace h := iff' h hc
      refine lv_iload_n hx hb_ dX9_step_8 rfl (lv_at hl 2 rfl) ?_
      refine lv_i2l hx hb_ dX9_step_9 rfl ?_
      refine lv_lconst (v := 0) hx hb_ dX9_step_10 (by decide) ?_
      refine lv_ldc2 hx hb_ hown (hts _ wt891) dX9_step_11 ?_
      obtain ⟨q2, hq2, h⟩ := bnd h
      refine w_ci (w_rS (As := [.long ((v2 : Int32).toInt64), .long 0, .long 3]) (rest := []) C hP (c_X9_in l D aI aL ad inj _ σ ((v2 : Int32).toInt64) 0 3 q2 hq2) wt830 wt831 wt12 wt832 3 hd_X9_in ⟨Nat.le_of_ble_eq_true rfl, Nat.le_of_ble_eq_true rfl⟩ rfl hl.1 rfl (Nat.le_of_ble_eq_true rfl) dX9_step_14) hP (fun H locs hP => ?_)
      refine lv_if_ne (tgt := 22) hx hb_ dX9_step_17 (by decide) (fun hc => ?_) (fun hc => ?_)
      · replace h := iff' h hc
        refine lv_iload_n hx hb_ dX9_step_22 rfl (lv_at hl 2 rfl) ?_
        refine lv_if_ne (tgt := 37) hx hb_ dX9_step_23 (by decide) (fun hc => ?_) (fun hc => ?_)
        · replace h := iff' h hc
          refine lv_iload_n hx hb_ dX9_step_37 rfl (lv_at hl 2 rfl) ?_
          refine lv_iconst (v := 1) hx hb_ dX9_step_38 (by decide) ?_
          refine lv_icmp_ne (tgt := 54) hx hb_ dX9_step_39 (by decide) (fun hc => ?_) (fun hc => ?_)
          · replace h := iff' h hc
            refine lv_iload_n hx hb_ dX9_step_54 rfl (lv_at hl 2 rfl) ?_
            refine lv_iconst (v := 2) hx hb_ dX9_step_55 (by decide) ?_
            refine lv_icmp_ne (tgt := 71) hx hb_ dX9_step_56 (by decide) (fun hc => ?_) (fun hc => ?_)
            · replace h := iff' h hc
              refine lv_aload_n hx hb_ dX9_step_71 rfl (lv_at hl 0 rfl) ?_
              refine lv_iload_n hx hb_ dX9_step_72 rfl (lv_at hl 1 rfl) ?_
              obtain ⟨q3, hq3, h⟩ := bnd h
              refine w_ci (w_rV (As := [.int v1]) (rest := []) C hP (k := 0) (c_X9_may l D aI aL ad inj _ σ v1 q3 hq3) (gV wt892 wt894 wp24 wt12 wt895) 1 hd_X9_may ⟨Nat.le_of_ble_eq_true rfl, Nat.le_of_ble_eq_true rfl⟩ (by decide) 7 rfl rfl rfl hl.1 rfl (Nat.le_of_ble_eq_true rfl) dX9_step_73) hP (fun H locs hP => ?_)
              refine lv_if_eq (tgt := 83) hx hb_ dX9_step_76 (by decide) (fun hc => ?_) (fun hc => ?_)
              · replace h := ift h hc
                refine lv_iconst (v := 0) hx hb_ dX9_step_83 (by decide) ?_
                exact bk_84 0 y h hK _ _ _ hP (lv_sub hl [] rfl)
              · replace h := iff' h hc
                refine lv_iconst (v := 1) hx hb_ dX9_step_79 (by decide) ?_
                refine lv_goto (tgt := 84) hx hb_ dX9_step_80 (by decide) ?_
                exact bk_84 1 y h hK _ _ _ hP (lv_sub hl [] rfl)
            · replace h := ift h hc
              refine lv_aload_n hx hb_ dX9_step_59 rfl (lv_at hl 0 rfl) ?_
              refine w_get C hP (k := 0) (by decide) 7 rfl rfl inWX9 0 (by decide) wt784 (v := .ref (ad 1)) rfl dX9_step_60 ?_
              refine lv_bipush (v := 25) hx hb_ dX9_step_63 (by decide) ?_
              refine lv_iload_n hx hb_ dX9_step_65 rfl (lv_at hl 1 rfl) ?_
              refine lv_iadd hx hb_ dX9_step_66 ?_
              obtain ⟨x4, hx4, h⟩ := bnd h
              refine w_ald C hP (k := 1) (by decide) (n := 660) rfl hx4 dX9_step_67 ?_
              refine lv_goto (tgt := 84) hx hb_ dX9_step_68 (by decide) ?_
              exact bk_84 x4 y h hK _ _ _ hP (lv_sub hl [] rfl)
          · replace h := ift h hc
            refine lv_aload_n hx hb_ dX9_step_42 rfl (lv_at hl 0 rfl) ?_
            refine w_get C hP (k := 0) (by decide) 7 rfl rfl inWX9 0 (by decide) wt784 (v := .ref (ad 1)) rfl dX9_step_43 ?_
            refine lv_bipush (v := 15) hx hb_ dX9_step_46 (by decide) ?_
            refine lv_iload_n hx hb_ dX9_step_48 rfl (lv_at hl 1 rfl) ?_
            refine lv_iadd hx hb_ dX9_step_49 ?_
            obtain ⟨x5, hx5, h⟩ := bnd h
            refine w_ald C hP (k := 1) (by decide) (n := 660) rfl hx5 dX9_step_50 ?_
            refine lv_goto (tgt := 84) hx hb_ dX9_step_51 (by decide) ?_
            exact bk_84 x5 y h hK _ _ _ hP (lv_sub hl [] rfl)
        · replace h := ift h hc
          refine lv_aload_n hx hb_ dX9_step_26 rfl (lv_at hl 0 rfl) ?_
          refine w_get C hP (k := 0) (by decide) 7 rfl rfl inWX9 0 (by decide) wt784 (v := .ref (ad 1)) rfl dX9_step_27 ?_
          refine lv_iconst (v := 5) hx hb_ dX9_step_30 (by decide) ?_
          refine lv_iload_n hx hb_ dX9_step_31 rfl (lv_at hl 1 rfl) ?_
          refine lv_iadd hx hb_ dX9_step_32 ?_
          obtain ⟨x6, hx6, h⟩ := bnd h
          refine w_ald C hP (k := 1) (by decide) (n := 660) rfl hx6 dX9_step_33 ?_
          refine lv_goto (tgt := 84) hx hb_ dX9_step_34 (by decide) ?_
          exact bk_84 x6 y h hK _ _ _ hP (lv_sub hl [] rfl)
      · replace h := ift h hc
        exact bk_20 y h hK _ _ _ hP (lv_sub hl [] rfl)
  exact bk r0 hf rfl _ _ hP
theorem hd_X9_minds : yX9_minds.cls = RX9 ∧ yX9_minds.cls ≠ "java/lang/invoke/MethodHandle" ∧ yX9_minds.cls ≠ "java/lang/invoke/VarHandle" ∧ (parseMethodDescriptor yX9_minds.desc).map (fun d => d.parameters.length) = some 0 := by decide +kernel
set_option maxHeartbeats 4000000 in
set_option maxRecDepth 100000 in
theorem c_X9_minds (l : Launch) (D : va_G) (aI aL : ClassId) (ad : Nat → Nat) (inj : Inj ad 8) (sz : Nat) (σ : Sg) (r0 : Sg) (hf : f_X9_minds σ = some r0) : Met l yX9_minds (wS yX9_minds cX9_minds 2 (none : Option Jvm.ClassFile.FieldType)) (RM 1 23) (Pw D aI aL 8 shM ad sz σ [.ref (ad 0)]) (Qv D aI aL 8 shM ad r0 sz) 0 0 (AA ad 8 sz) := by
  refine Mof (Qc := Qv D aI aL 8 shM ad r0) (by decide) inj (Nat.le_of_ble_eq_true rfl) ?_
  intro p e s m args below meth c ls C hlk hr hP hl
  have hx := C.1.1
  have hb_ := C.1.2.1
  have hown := C.1.2.2.2.1
  have hts := C.1.2.2.2.2
  have hl : lv_has ls 2 [(0, .ref (ad 0))] := hl
  have bk_57 : ∀ (s_57 : Sg) (y : Sg), f_X9_minds_57 s_57 = some y → (fun y => y = r0) y → ∀ (H : Heap) (locs : List Loc) (ls : Array Slot), HS D aI aL 8 shM ad s_57 s H locs → lv_has ls 2 [(0, .ref (ad 0))] → W p l e (RM 1 23) s m args below meth c H locs 0 0 (MQ below (Qv D aI aL 8 shM ad r0 s.heap.size) args s 0 0 (AA ad 8 s.heap.size)) (F0 m 57 ls []) := by
    intro s_57 y h hK H locs ls hP hl
    unfold f_X9_minds_57 at h
    refine lv_aload_n hx hb_ dX9_minds_57 rfl (lv_at hl 0 rfl) ?_
    refine lv_iconst (v := 0) hx hb_ dX9_minds_58 (by decide) ?_
    refine lv_sipush (v := 165) hx hb_ dX9_minds_59 (by decide) ?_
    refine lv_bipush (v := 55) hx hb_ dX9_minds_62 (by decide) ?_
    refine lv_aload_n hx hb_ dX9_minds_64 rfl (lv_at hl 0 rfl) ?_
    refine w_get C hP (k := 0) (by decide) 7 rfl rfl inWX9 2 (by decide) wt786 (v := .int (s_57.1 0 2)) rfl dX9_minds_65 ?_
    refine lv_imul hx hb_ dX9_minds_68 ?_
    refine lv_iadd hx hb_ dX9_minds_69 ?_
    obtain ⟨q1, hq1, h⟩ := bnd h
    refine w_cv (w_rV (As := [.int 0, .int ((165 : Int32) + ((55 : Int32) * (s_57.1 0 2)))]) (rest := []) C hP (k := 0) (c_X9_copy l D aI aL ad inj _ s_57 0 ((165 : Int32) + ((55 : Int32) * (s_57.1 0 2))) q1 hq1) (gV wt870 wt872 wp21 wt12 wt873) 2 hd_X9_copy ⟨Nat.le_of_ble_eq_true rfl, Nat.le_of_ble_eq_true rfl⟩ (by decide) 7 rfl rfl rfl hl.1 rfl (Nat.le_of_ble_eq_true rfl) dX9_minds_70) hP (fun H locs hP => ?_)
    refine lv_aload_n hx hb_ dX9_minds_73 rfl (lv_at hl 0 rfl) ?_
    refine lv_dup hx hb_ dX9_minds_74 rfl ?_
    refine w_get C hP (k := 0) (by decide) 7 rfl rfl inWX9 2 (by decide) wt786 (v := .int (q1.1 0 2)) rfl dX9_minds_75 ?_
    refine lv_iconst (v := 1) hx hb_ dX9_minds_78 (by decide) ?_
    refine lv_iadd hx hb_ dX9_minds_79 ?_
    obtain ⟨s2, hs2, h⟩ := bnd h
    refine w_puti C hP (k := 0) (by decide) 7 rfl rfl inWX9 tyX9 tyX9_ok nmX9 2 (by decide) wt786 rfl rfl rfl rfl hs2 dX9_minds_80 (fun H locs hP => ?_)
    obtain rfl := Option.some.inj h
    have hK : s2 = r0 := hK
    exact w_vret C hlk hr hP hK dX9_minds_83
  have lp_11 : ∀ (n_11 : Nat) (v1_11 : Int32) (s_11 : Sg) (y : Sg), itr n_11 (fun s => f_X9_minds_11s s.1 s.2) (v1_11, s_11) = some y → (fun y => y = r0) y → ∀ (H : Heap) (locs : List Loc) (ls : Array Slot), HS D aI aL 8 shM ad s_11 s H locs → lv_has ls 2 [(0, .ref (ad 0)), (1, .int v1_11)] → W p l e (RM 1 23) s m args below meth c H locs 0 0 (MQ below (Qv D aI aL 8 shM ad r0 s.heap.size) args s 0 0 (AA ad 8 s.heap.size)) (F0 m 11 ls []) := by
    intro n_11
    induction n_11 with
    | zero =>
      intro v1_11 s_11 y h hK
      cases (show (none : Option Sg) = some y from h)
    | succ n_11 ih_11 =>
      intro v1_11 s_11 y h hK H locs ls hP hl
      obtain ⟨y, h, hK⟩ := itr_inv (K := (fun y => y = r0)) h hK
      replace h : f_X9_minds_11s v1_11 s_11 = some y := h
      unfold f_X9_minds_11s at h
      refine lv_iload_n hx hb_ dX9_minds_11 rfl (lv_at hl 1 rfl) ?_
      refine lv_sipush (v := 385) hx hb_ dX9_minds_12 (by decide) ?_
      refine lv_icmp_ge (tgt := 47) hx hb_ dX9_minds_15 (by decide) (fun hc => ?_) (fun hc => ?_)
      · replace h := ift h hc
        refine lv_aload_n hx hb_ dX9_minds_47 rfl (lv_at hl 0 rfl) ?_
        refine lv_dup hx hb_ dX9_minds_48 rfl ?_
        refine w_get C hP (k := 0) (by decide) 7 rfl rfl inWX9 2 (by decide) wt786 (v := .int (s_11.1 0 2)) rfl dX9_minds_49 ?_
        refine lv_iconst (v := 1) hx hb_ dX9_minds_52 (by decide) ?_
        refine lv_isub hx hb_ dX9_minds_53 ?_
        obtain ⟨s3, hs3, h⟩ := bnd h
        refine w_puti C hP (k := 0) (by decide) 7 rfl rfl inWX9 tyX9 tyX9_ok nmX9 2 (by decide) wt786 rfl rfl rfl rfl hs3 dX9_minds_54 (fun H locs hP => ?_)
        obtain ⟨y2, h2, rfl⟩ := mapi h
        exact bk_57 s3 y2 h2 hK _ _ _ hP (lv_sub hl [0] rfl)
      · replace h := iff' h hc
        refine lv_aload_n hx hb_ dX9_minds_18 rfl (lv_at hl 0 rfl) ?_
        refine w_get C hP (k := 0) (by decide) 7 rfl rfl inWX9 0 (by decide) wt784 (v := .ref (ad 1)) rfl dX9_minds_19 ?_
        refine lv_sipush (v := 165) hx hb_ dX9_minds_22 (by decide) ?_
        refine lv_iload_n hx hb_ dX9_minds_25 rfl (lv_at hl 1 rfl) ?_
        refine lv_iadd hx hb_ dX9_minds_26 ?_
        refine lv_aload_n hx hb_ dX9_minds_27 rfl (lv_at hl 0 rfl) ?_
        refine w_get C hP (k := 0) (by decide) 7 rfl rfl inWX9 0 (by decide) wt784 (v := .ref (ad 1)) rfl dX9_minds_28 ?_
        refine lv_sipush (v := 165) hx hb_ dX9_minds_31 (by decide) ?_
        refine lv_iload_n hx hb_ dX9_minds_34 rfl (lv_at hl 1 rfl) ?_
        refine lv_iadd hx hb_ dX9_minds_35 ?_
        refine lv_bipush (v := 55) hx hb_ dX9_minds_36 (by decide) ?_
        refine lv_iadd hx hb_ dX9_minds_38 ?_
        obtain ⟨x4, hx4, h⟩ := bnd h
        refine w_ald C hP (k := 1) (by decide) (n := 660) rfl hx4 dX9_minds_39 ?_
        obtain ⟨s5, hs5, h⟩ := bnd h
        refine w_ast C hP (k := 1) (by decide) (n := 660) rfl hs5 dX9_minds_40 (fun H locs hP => ?_)
        obtain ⟨x6, hx6, h⟩ := nm_inv h
        refine lv_iinc (v := x6) (lv' := [(1, .int x6), (0, .ref (ad 0))]) hx hb_ dX9_minds_41 hl (k := 1) rfl (by rw [hx6]; rfl) (by decide) rfl (fun ls hl => ?_)
        refine lv_goto (tgt := 11) hx hb_ dX9_minds_44 (by decide) ?_
        obtain rfl := Option.some.inj h
        obtain ⟨y2, h, hK⟩ := hK
        exact ih_11 x6 s5 y2 h hK _ _ _ hP (lv_sub hl [1, 0] rfl)
  have bk_11 : ∀ (v1_11 : Int32) (s_11 : Sg) (y : Sg), f_X9_minds_11 v1_11 s_11 = some y → (fun y => y = r0) y → ∀ (H : Heap) (locs : List Loc) (ls : Array Slot), HS D aI aL 8 shM ad s_11 s H locs → lv_has ls 2 [(0, .ref (ad 0)), (1, .int v1_11)] → W p l e (RM 1 23) s m args below meth c H locs 0 0 (MQ below (Qv D aI aL 8 shM ad r0 s.heap.size) args s 0 0 (AA ad 8 s.heap.size)) (F0 m 11 ls []) := fun v1_11 s_11 y h hK => lp_11 3000 v1_11 s_11 y h hK
  have bk : ∀ (y : Sg), f_X9_minds σ = some y → y = r0 → ∀ (H : Heap) (locs : List Loc), HS D aI aL 8 shM ad σ s H locs → W p l e (RM 1 23) s m args below meth c H locs 0 0 (MQ below (Qv D aI aL 8 shM ad r0 s.heap.size) args s 0 0 (AA ad 8 s.heap.size)) (F0 m 0 ls []) := by
    intro y h hK H locs hP
    unfold f_X9_minds at h
    refine lv_aload_n hx hb_ dX9_minds_0 rfl (lv_at hl 0 rfl) ?_
    refine w_get C hP (k := 0) (by decide) 7 rfl rfl inWX9 2 (by decide) wt786 (v := .int (σ.1 0 2)) rfl dX9_minds_1 ?_
    refine lv_bipush (v := 8) hx hb_ dX9_minds_4 (by decide) ?_
    refine lv_icmp_ne (tgt := 57) hx hb_ dX9_minds_6 (by decide) (fun hc => ?_) (fun hc => ?_)
    · replace h := iff' h hc
      exact bk_57 σ y h hK _ _ _ hP (lv_sub hl [0] rfl)
    · replace h := ift h hc
      refine lv_iconst (v := 0) hx hb_ dX9_minds_9 (by decide) ?_
      refine lv_istore_n (lv' := [(1, .int 0), (0, .ref (ad 0))]) hx hb_ dX9_minds_10 rfl hl (by decide) rfl (fun ls hl => ?_)
      exact bk_11 0 σ y h hK _ _ _ hP (lv_sub hl [1, 0] rfl)
  exact bk r0 hf rfl _ _ hP
theorem hd_X9_go : yX9_go.cls = RX9 ∧ yX9_go.cls ≠ "java/lang/invoke/MethodHandle" ∧ yX9_go.cls ≠ "java/lang/invoke/VarHandle" ∧ (parseMethodDescriptor yX9_go.desc).map (fun d => d.parameters.length) = some 1 := by decide +kernel
set_option maxHeartbeats 4000000 in
set_option maxRecDepth 100000 in
theorem c_X9_go (l : Launch) (D : va_G) (aI aL : ClassId) (ad : Nat → Nat) (inj : Inj ad 8) (sz : Nat) (σ : Sg) (v1 : Int32) (r0 : (Int32 × Sg)) (hf : f_X9_go v1 σ = some r0) : Met l yX9_go (wS yX9_go cX9_go 2 (some .int)) (RM 2 46) (Pw D aI aL 8 shM ad sz σ [.ref (ad 0), .int v1]) (Qi D aI aL 8 shM ad r0.1 r0.2 sz) 0 0 (AA ad 8 sz) := by
  refine Mof (Qc := Qi D aI aL 8 shM ad r0.1 r0.2) (by decide) inj (Nat.le_of_ble_eq_true rfl) ?_
  intro p e s m args below meth c ls C hlk hr hP hl
  have hx := C.1.1
  have hb_ := C.1.2.1
  have hown := C.1.2.2.2.1
  have hts := C.1.2.2.2.2
  have hl : lv_has ls 2 [(0, .ref (ad 0)), (1, .int v1)] := hl
  have bk : ∀ (y : (Int32 × Sg)), f_X9_go v1 σ = some y → y = r0 → ∀ (H : Heap) (locs : List Loc), HS D aI aL 8 shM ad σ s H locs → W p l e (RM 2 46) s m args below meth c H locs 0 0 (MQ below (Qi D aI aL 8 shM ad r0.1 r0.2 s.heap.size) args s 0 0 (AA ad 8 s.heap.size)) (F0 m 0 ls []) := by
    intro y h hK H locs hP
    unfold f_X9_go at h
    refine lv_aload_n hx hb_ dX9_go_0 rfl (lv_at hl 0 rfl) ?_
    refine lv_iload_n hx hb_ dX9_go_1 rfl (lv_at hl 1 rfl) ?_
    obtain ⟨q1, hq1, h⟩ := bnd h
    refine w_ci (w_rV (As := [.int v1]) (rest := []) C hP (k := 0) (c_X9_isStep l D aI aL ad inj _ σ v1 q1 hq1) (gV wt887 wt889 wp23 wt12 wt890) 1 hd_X9_isStep ⟨Nat.le_of_ble_eq_true rfl, Nat.le_of_ble_eq_true rfl⟩ (by decide) 7 rfl rfl rfl hl.1 rfl (Nat.le_of_ble_eq_true rfl) dX9_go_2) hP (fun H locs hP => ?_)
    refine lv_if_ne (tgt := 10) hx hb_ dX9_go_5 (by decide) (fun hc => ?_) (fun hc => ?_)
    · replace h := iff' h hc
      refine lv_aload_n hx hb_ dX9_go_10 rfl (lv_at hl 0 rfl) ?_
      refine lv_iload_n hx hb_ dX9_go_11 rfl (lv_at hl 1 rfl) ?_
      obtain ⟨q2, hq2, h⟩ := bnd h
      refine w_ci (w_rV (As := [.int v1]) (rest := []) C hP (k := 0) (c_X9_may l D aI aL ad inj _ σ v1 q2 hq2) (gV wt892 wt894 wp24 wt12 wt895) 1 hd_X9_may ⟨Nat.le_of_ble_eq_true rfl, Nat.le_of_ble_eq_true rfl⟩ (by decide) 7 rfl rfl rfl hl.1 rfl (Nat.le_of_ble_eq_true rfl) dX9_go_12) hP (fun H locs hP => ?_)
      refine lv_if_ne (tgt := 21) hx hb_ dX9_go_15 (by decide) (fun hc => ?_) (fun hc => ?_)
      · replace h := iff' h hc
        refine lv_aload_n hx hb_ dX9_go_21 rfl (lv_at hl 0 rfl) ?_
        obtain ⟨q3, hq3, h⟩ := bnd h
        refine w_cv (w_rV (As := []) (rest := []) C hP (k := 0) (c_X9_minds l D aI aL ad inj _ σ q3 hq3) (gV wt903 wt905 wp25 wt12 wt906) 0 hd_X9_minds ⟨Nat.le_of_ble_eq_true rfl, Nat.le_of_ble_eq_true rfl⟩ (by decide) 7 rfl rfl rfl hl.1 rfl (Nat.le_of_ble_eq_true rfl) dX9_go_22) hP (fun H locs hP => ?_)
        refine lv_aload_n hx hb_ dX9_go_25 rfl (lv_at hl 0 rfl) ?_
        refine w_get C hP (k := 0) (by decide) 7 rfl rfl inWX9 0 (by decide) wt784 (v := .ref (ad 1)) rfl dX9_go_26 ?_
        refine lv_iconst (v := 3) hx hb_ dX9_go_29 (by decide) ?_
        refine lv_dup2_11 hx hb_ dX9_go_30 rfl rfl ?_
        obtain ⟨x4, hx4, h⟩ := bnd h
        refine w_ald C hP (k := 1) (by decide) (n := 660) rfl hx4 dX9_go_31 ?_
        refine lv_iconst (v := 1) hx hb_ dX9_go_32 (by decide) ?_
        refine lv_aload_n hx hb_ dX9_go_33 rfl (lv_at hl 0 rfl) ?_
        refine w_get C hP (k := 0) (by decide) 7 rfl rfl inWX9 0 (by decide) wt784 (v := .ref (ad 1)) rfl dX9_go_34 ?_
        refine lv_bipush (v := 25) hx hb_ dX9_go_37 (by decide) ?_
        refine lv_iload_n hx hb_ dX9_go_39 rfl (lv_at hl 1 rfl) ?_
        refine lv_iadd hx hb_ dX9_go_40 ?_
        obtain ⟨x5, hx5, h⟩ := bnd h
        refine w_ald C hP (k := 1) (by decide) (n := 660) rfl hx5 dX9_go_41 ?_
        refine lv_ishl hx hb_ dX9_go_42 ?_
        refine lv_ior hx hb_ dX9_go_43 ?_
        obtain ⟨s6, hs6, h⟩ := bnd h
        refine w_ast C hP (k := 1) (by decide) (n := 660) rfl hs6 dX9_go_44 (fun H locs hP => ?_)
        refine lv_aload_n hx hb_ dX9_go_45 rfl (lv_at hl 0 rfl) ?_
        refine w_get C hP (k := 0) (by decide) 7 rfl rfl inWX9 0 (by decide) wt784 (v := .ref (ad 1)) rfl dX9_go_46 ?_
        refine lv_bipush (v := 35) hx hb_ dX9_go_49 (by decide) ?_
        refine lv_aload_n hx hb_ dX9_go_51 rfl (lv_at hl 0 rfl) ?_
        refine w_get C hP (k := 0) (by decide) 7 rfl rfl inWX9 0 (by decide) wt784 (v := .ref (ad 1)) rfl dX9_go_52 ?_
        refine lv_bipush (v := 25) hx hb_ dX9_go_55 (by decide) ?_
        refine lv_iload_n hx hb_ dX9_go_57 rfl (lv_at hl 1 rfl) ?_
        refine lv_iadd hx hb_ dX9_go_58 ?_
        obtain ⟨x7, hx7, h⟩ := bnd h
        refine w_ald C hP (k := 1) (by decide) (n := 660) rfl hx7 dX9_go_59 ?_
        refine lv_iadd hx hb_ dX9_go_60 ?_
        refine lv_dup2_11 hx hb_ dX9_go_61 rfl rfl ?_
        obtain ⟨x8, hx8, h⟩ := bnd h
        refine w_ald C hP (k := 1) (by decide) (n := 660) rfl hx8 dX9_go_62 ?_
        refine lv_iconst (v := 1) hx hb_ dX9_go_63 (by decide) ?_
        refine lv_iadd hx hb_ dX9_go_64 ?_
        obtain ⟨s9, hs9, h⟩ := bnd h
        refine w_ast C hP (k := 1) (by decide) (n := 660) rfl hs9 dX9_go_65 (fun H locs hP => ?_)
        refine lv_aload_n hx hb_ dX9_go_66 rfl (lv_at hl 0 rfl) ?_
        refine w_get C hP (k := 0) (by decide) 7 rfl rfl inWX9 0 (by decide) wt784 (v := .ref (ad 1)) rfl dX9_go_67 ?_
        refine lv_iconst (v := 3) hx hb_ dX9_go_70 (by decide) ?_
        obtain ⟨x10, hx10, h⟩ := bnd h
        refine w_ald C hP (k := 1) (by decide) (n := 660) rfl hx10 dX9_go_71 ?_
        obtain ⟨q11, hq11, h⟩ := bnd h
        refine w_ci (w_rS (As := [.int x10]) (rest := []) C hP (c_X9_ones l D aI aL ad inj _ s9 x10 q11 hq11) wt907 wt908 wt12 wt909 1 hd_X9_ones ⟨Nat.le_of_ble_eq_true rfl, Nat.le_of_ble_eq_true rfl⟩ rfl hl.1 rfl (Nat.le_of_ble_eq_true rfl) dX9_go_72) hP (fun H locs hP => ?_)
        obtain rfl := Option.some.inj h
        have hK : (q11, s9) = r0 := hK
        have hK1 := congrArg Prod.fst hK
        have hK2 := congrArg Prod.snd hK
        exact w_iret C hlk hr hP hK1 hK2 dX9_go_75
      · replace h := ift h hc
        refine lv_bipush (v := (-2)) hx hb_ dX9_go_18 (by decide) ?_
        obtain rfl := Option.some.inj h
        have hK : ((-2), σ) = r0 := hK
        have hK1 := congrArg Prod.fst hK
        have hK2 := congrArg Prod.snd hK
        exact w_iret C hlk hr hP hK1 hK2 dX9_go_20
    · replace h := ift h hc
      refine lv_iconst (v := (-1)) hx hb_ dX9_go_8 (by decide) ?_
      obtain rfl := Option.some.inj h
      have hK : ((-1), σ) = r0 := hK
      have hK1 := congrArg Prod.fst hK
      have hK2 := congrArg Prod.snd hK
      exact w_iret C hlk hr hP hK1 hK2 dX9_go_9
  exact bk r0 hf rfl _ _ hP
theorem hd_X9_takeOut : yX9_takeOut.cls = RX9 ∧ yX9_takeOut.cls ≠ "java/lang/invoke/MethodHandle" ∧ yX9_takeOut.cls ≠ "java/lang/invoke/VarHandle" ∧ (parseMethodDescriptor yX9_takeOut.desc).map (fun d => d.parameters.length) = some 1 := by decide +kernel
set_option maxHeartbeats 4000000 in
set_option maxRecDepth 100000 in
theorem c_X9_takeOut (l : Launch) (D : va_G) (aI aL : ClassId) (ad : Nat → Nat) (inj : Inj ad 8) (sz : Nat) (σ : Sg) (v1 : Int32) (r0 : (Int32 × Sg)) (hf : f_X9_takeOut v1 σ = some r0) : Met l yX9_takeOut (wS yX9_takeOut cX9_takeOut 2 (some .int)) (RM 2 46) (Pw D aI aL 8 shM ad sz σ [.ref (ad 0), .int v1]) (Qi D aI aL 8 shM ad r0.1 r0.2 sz) 0 0 (AA ad 8 sz) := by
  refine Mof (Qc := Qi D aI aL 8 shM ad r0.1 r0.2) (by decide) inj (Nat.le_of_ble_eq_true rfl) ?_
  intro p e s m args below meth c ls C hlk hr hP hl
  have hx := C.1.1
  have hb_ := C.1.2.1
  have hown := C.1.2.2.2.1
  have hts := C.1.2.2.2.2
  have hl : lv_has ls 2 [(0, .ref (ad 0)), (1, .int v1)] := hl
  have bk : ∀ (y : (Int32 × Sg)), f_X9_takeOut v1 σ = some y → y = r0 → ∀ (H : Heap) (locs : List Loc), HS D aI aL 8 shM ad σ s H locs → W p l e (RM 2 46) s m args below meth c H locs 0 0 (MQ below (Qi D aI aL 8 shM ad r0.1 r0.2 s.heap.size) args s 0 0 (AA ad 8 s.heap.size)) (F0 m 0 ls []) := by
    intro y h hK H locs hP
    unfold f_X9_takeOut at h
    refine lv_aload_n hx hb_ dX9_takeOut_0 rfl (lv_at hl 0 rfl) ?_
    refine lv_iload_n hx hb_ dX9_takeOut_1 rfl (lv_at hl 1 rfl) ?_
    obtain ⟨q1, hq1, h⟩ := bnd h
    refine w_ci (w_rV (As := [.int v1]) (rest := []) C hP (k := 0) (c_X9_isStone l D aI aL ad inj _ σ v1 q1 hq1) (gV wt878 wt880 wp22 wt12 wt881) 1 hd_X9_isStone ⟨Nat.le_of_ble_eq_true rfl, Nat.le_of_ble_eq_true rfl⟩ (by decide) 7 rfl rfl rfl hl.1 rfl (Nat.le_of_ble_eq_true rfl) dX9_takeOut_2) hP (fun H locs hP => ?_)
    refine lv_if_ne (tgt := 10) hx hb_ dX9_takeOut_5 (by decide) (fun hc => ?_) (fun hc => ?_)
    · replace h := iff' h hc
      refine lv_aload_n hx hb_ dX9_takeOut_10 rfl (lv_at hl 0 rfl) ?_
      refine w_get C hP (k := 0) (by decide) 7 rfl rfl inWX9 0 (by decide) wt784 (v := .ref (ad 1)) rfl dX9_takeOut_11 ?_
      refine lv_iconst (v := 2) hx hb_ dX9_takeOut_14 (by decide) ?_
      obtain ⟨x2, hx2, h⟩ := bnd h
      refine w_ald C hP (k := 1) (by decide) (n := 660) rfl hx2 dX9_takeOut_15 ?_
      refine lv_iload_n hx hb_ dX9_takeOut_16 rfl (lv_at hl 1 rfl) ?_
      obtain ⟨q3, hq3, h⟩ := bnd h
      refine w_ci (w_rS (As := [.int x2, .int v1]) (rest := []) C hP (c_X9_has l D aI aL ad inj _ σ x2 v1 q3 hq3) wt896 wt897 wt12 wt898 2 hd_X9_has ⟨Nat.le_of_ble_eq_true rfl, Nat.le_of_ble_eq_true rfl⟩ rfl hl.1 rfl (Nat.le_of_ble_eq_true rfl) dX9_takeOut_17) hP (fun H locs hP => ?_)
      refine lv_if_ne (tgt := 26) hx hb_ dX9_takeOut_20 (by decide) (fun hc => ?_) (fun hc => ?_)
      · replace h := iff' h hc
        refine lv_aload_n hx hb_ dX9_takeOut_26 rfl (lv_at hl 0 rfl) ?_
        obtain ⟨q4, hq4, h⟩ := bnd h
        refine w_cv (w_rV (As := []) (rest := []) C hP (k := 0) (c_X9_minds l D aI aL ad inj _ σ q4 hq4) (gV wt903 wt905 wp25 wt12 wt906) 0 hd_X9_minds ⟨Nat.le_of_ble_eq_true rfl, Nat.le_of_ble_eq_true rfl⟩ (by decide) 7 rfl rfl rfl hl.1 rfl (Nat.le_of_ble_eq_true rfl) dX9_takeOut_27) hP (fun H locs hP => ?_)
        refine lv_aload_n hx hb_ dX9_takeOut_30 rfl (lv_at hl 0 rfl) ?_
        refine w_get C hP (k := 0) (by decide) 7 rfl rfl inWX9 0 (by decide) wt784 (v := .ref (ad 1)) rfl dX9_takeOut_31 ?_
        refine lv_iconst (v := 2) hx hb_ dX9_takeOut_34 (by decide) ?_
        refine lv_dup2_11 hx hb_ dX9_takeOut_35 rfl rfl ?_
        obtain ⟨x5, hx5, h⟩ := bnd h
        refine w_ald C hP (k := 1) (by decide) (n := 660) rfl hx5 dX9_takeOut_36 ?_
        refine lv_iconst (v := 1) hx hb_ dX9_takeOut_37 (by decide) ?_
        refine lv_iload_n hx hb_ dX9_takeOut_38 rfl (lv_at hl 1 rfl) ?_
        refine lv_ishl hx hb_ dX9_takeOut_39 ?_
        refine lv_iconst (v := (-1)) hx hb_ dX9_takeOut_40 (by decide) ?_
        refine lv_ixor hx hb_ dX9_takeOut_41 ?_
        refine lv_iand hx hb_ dX9_takeOut_42 ?_
        obtain ⟨s6, hs6, h⟩ := bnd h
        refine w_ast C hP (k := 1) (by decide) (n := 660) rfl hs6 dX9_takeOut_43 (fun H locs hP => ?_)
        refine lv_aload_n hx hb_ dX9_takeOut_44 rfl (lv_at hl 0 rfl) ?_
        refine w_get C hP (k := 0) (by decide) 7 rfl rfl inWX9 0 (by decide) wt784 (v := .ref (ad 1)) rfl dX9_takeOut_45 ?_
        refine lv_iconst (v := 3) hx hb_ dX9_takeOut_48 (by decide) ?_
        refine lv_dup2_11 hx hb_ dX9_takeOut_49 rfl rfl ?_
        obtain ⟨x7, hx7, h⟩ := bnd h
        refine w_ald C hP (k := 1) (by decide) (n := 660) rfl hx7 dX9_takeOut_50 ?_
        refine lv_iconst (v := 1) hx hb_ dX9_takeOut_51 (by decide) ?_
        refine lv_iload_n hx hb_ dX9_takeOut_52 rfl (lv_at hl 1 rfl) ?_
        refine lv_ishl hx hb_ dX9_takeOut_53 ?_
        refine lv_iconst (v := (-1)) hx hb_ dX9_takeOut_54 (by decide) ?_
        refine lv_ixor hx hb_ dX9_takeOut_55 ?_
        refine lv_iand hx hb_ dX9_takeOut_56 ?_
        obtain ⟨s8, hs8, h⟩ := bnd h
        refine w_ast C hP (k := 1) (by decide) (n := 660) rfl hs8 dX9_takeOut_57 (fun H locs hP => ?_)
        refine lv_aload_n hx hb_ dX9_takeOut_58 rfl (lv_at hl 0 rfl) ?_
        refine w_get C hP (k := 0) (by decide) 7 rfl rfl inWX9 0 (by decide) wt784 (v := .ref (ad 1)) rfl dX9_takeOut_59 ?_
        refine lv_iconst (v := 2) hx hb_ dX9_takeOut_62 (by decide) ?_
        obtain ⟨x9, hx9, h⟩ := bnd h
        refine w_ald C hP (k := 1) (by decide) (n := 660) rfl hx9 dX9_takeOut_63 ?_
        obtain ⟨q10, hq10, h⟩ := bnd h
        refine w_ci (w_rS (As := [.int x9]) (rest := []) C hP (c_X9_ones l D aI aL ad inj _ s8 x9 q10 hq10) wt907 wt908 wt12 wt909 1 hd_X9_ones ⟨Nat.le_of_ble_eq_true rfl, Nat.le_of_ble_eq_true rfl⟩ rfl hl.1 rfl (Nat.le_of_ble_eq_true rfl) dX9_takeOut_64) hP (fun H locs hP => ?_)
        obtain rfl := Option.some.inj h
        have hK : (q10, s8) = r0 := hK
        have hK1 := congrArg Prod.fst hK
        have hK2 := congrArg Prod.snd hK
        exact w_iret C hlk hr hP hK1 hK2 dX9_takeOut_67
      · replace h := ift h hc
        refine lv_bipush (v := (-2)) hx hb_ dX9_takeOut_23 (by decide) ?_
        obtain rfl := Option.some.inj h
        have hK : ((-2), σ) = r0 := hK
        have hK1 := congrArg Prod.fst hK
        have hK2 := congrArg Prod.snd hK
        exact w_iret C hlk hr hP hK1 hK2 dX9_takeOut_25
    · replace h := ift h hc
      refine lv_iconst (v := (-1)) hx hb_ dX9_takeOut_8 (by decide) ?_
      obtain rfl := Option.some.inj h
      have hK : ((-1), σ) = r0 := hK
      have hK1 := congrArg Prod.fst hK
      have hK2 := congrArg Prod.snd hK
      exact w_iret C hlk hr hP hK1 hK2 dX9_takeOut_9
  exact bk r0 hf rfl _ _ hP
theorem hd_X9_lay : yX9_lay.cls = RX9 ∧ yX9_lay.cls ≠ "java/lang/invoke/MethodHandle" ∧ yX9_lay.cls ≠ "java/lang/invoke/VarHandle" ∧ (parseMethodDescriptor yX9_lay.desc).map (fun d => d.parameters.length) = some 3 := by decide +kernel
set_option maxHeartbeats 4000000 in
set_option maxRecDepth 100000 in
theorem c_X9_lay (l : Launch) (D : va_G) (aI aL : ClassId) (ad : Nat → Nat) (inj : Inj ad 8) (sz : Nat) (σ : Sg) (v1 : Int32) (v2 : Int32) (v3 : Int32) (r0 : (Int32 × Sg)) (hf : f_X9_lay v1 v2 v3 σ = some r0) : Met l yX9_lay (wS yX9_lay cX9_lay 4 (some .int)) (RM 2 46) (Pw D aI aL 8 shM ad sz σ [.ref (ad 0), .int v1, .int v2, .int v3]) (Qi D aI aL 8 shM ad r0.1 r0.2 sz) 0 0 (AA ad 8 sz) := by
  refine Mof (Qc := Qi D aI aL 8 shM ad r0.1 r0.2) (by decide) inj (Nat.le_of_ble_eq_true rfl) ?_
  intro p e s m args below meth c ls C hlk hr hP hl
  have hx := C.1.1
  have hb_ := C.1.2.1
  have hown := C.1.2.2.2.1
  have hts := C.1.2.2.2.2
  have hl : lv_has ls 4 [(0, .ref (ad 0)), (1, .int v1), (2, .int v2), (3, .int v3)] := hl
  have bk_34 : ∀ (s_34 : Sg) (y : (Int32 × Sg)), f_X9_lay_34 s_34 = some y → (fun y => y = r0) y → ∀ (H : Heap) (locs : List Loc) (ls : Array Slot), HS D aI aL 8 shM ad s_34 s H locs → lv_has ls 4 [] → W p l e (RM 2 46) s m args below meth c H locs 0 0 (MQ below (Qi D aI aL 8 shM ad r0.1 r0.2 s.heap.size) args s 0 0 (AA ad 8 s.heap.size)) (F0 m 34 ls []) := by
    intro s_34 y h hK H locs ls hP hl
    unfold f_X9_lay_34 at h
    refine lv_iconst (v := (-1)) hx hb_ dX9_lay_34 (by decide) ?_
    obtain rfl := Option.some.inj h
    have hK : ((-1), s_34) = r0 := hK
    have hK1 := congrArg Prod.fst hK
    have hK2 := congrArg Prod.snd hK
    exact w_iret C hlk hr hP hK1 hK2 dX9_lay_35
  have bk : ∀ (y : (Int32 × Sg)), f_X9_lay v1 v2 v3 σ = some y → y = r0 → ∀ (H : Heap) (locs : List Loc), HS D aI aL 8 shM ad σ s H locs → W p l e (RM 2 46) s m args below meth c H locs 0 0 (MQ below (Qi D aI aL 8 shM ad r0.1 r0.2 s.heap.size) args s 0 0 (AA ad 8 s.heap.size)) (F0 m 0 ls []) := by
    intro y h hK H locs hP
    unfold f_X9_lay at h
    refine lv_aload_n hx hb_ dX9_lay_0 rfl (lv_at hl 0 rfl) ?_
    refine lv_iload_n hx hb_ dX9_lay_1 rfl (lv_at hl 1 rfl) ?_
    obtain ⟨q1, hq1, h⟩ := bnd h
    refine w_ci (w_rV (As := [.int v1]) (rest := []) C hP (k := 0) (c_X9_isStone l D aI aL ad inj _ σ v1 q1 hq1) (gV wt878 wt880 wp22 wt12 wt881) 1 hd_X9_isStone ⟨Nat.le_of_ble_eq_true rfl, Nat.le_of_ble_eq_true rfl⟩ (by decide) 7 rfl rfl rfl hl.1 rfl (Nat.le_of_ble_eq_true rfl) dX9_lay_2) hP (fun H locs hP => ?_)
    refine lv_if_eq (tgt := 34) hx hb_ dX9_lay_5 (by decide) (fun hc => ?_) (fun hc => ?_)
    · replace h := ift h hc
      exact bk_34 σ y h hK _ _ _ hP (lv_sub hl [] rfl)
    · replace h := iff' h hc
      refine lv_aload_n hx hb_ dX9_lay_8 rfl (lv_at hl 0 rfl) ?_
      refine lv_iload_n hx hb_ dX9_lay_9 rfl (lv_at hl 2 rfl) ?_
      obtain ⟨q2, hq2, h⟩ := bnd h
      refine w_ci (w_rV (As := [.int v2]) (rest := []) C hP (k := 0) (c_X9_isStone l D aI aL ad inj _ σ v2 q2 hq2) (gV wt878 wt880 wp22 wt12 wt881) 1 hd_X9_isStone ⟨Nat.le_of_ble_eq_true rfl, Nat.le_of_ble_eq_true rfl⟩ (by decide) 7 rfl rfl rfl hl.1 rfl (Nat.le_of_ble_eq_true rfl) dX9_lay_10) hP (fun H locs hP => ?_)
      refine lv_if_eq (tgt := 34) hx hb_ dX9_lay_13 (by decide) (fun hc => ?_) (fun hc => ?_)
      · replace h := ift h hc
        exact bk_34 σ y h hK _ _ _ hP (lv_sub hl [] rfl)
      · replace h := iff' h hc
        refine lv_aload_n hx hb_ dX9_lay_16 rfl (lv_at hl 0 rfl) ?_
        refine lv_iload_n hx hb_ dX9_lay_17 rfl (lv_at hl 3 rfl) ?_
        obtain ⟨q3, hq3, h⟩ := bnd h
        refine w_ci (w_rV (As := [.int v3]) (rest := []) C hP (k := 0) (c_X9_isStone l D aI aL ad inj _ σ v3 q3 hq3) (gV wt878 wt880 wp22 wt12 wt881) 1 hd_X9_isStone ⟨Nat.le_of_ble_eq_true rfl, Nat.le_of_ble_eq_true rfl⟩ (by decide) 7 rfl rfl rfl hl.1 rfl (Nat.le_of_ble_eq_true rfl) dX9_lay_18) hP (fun H locs hP => ?_)
        refine lv_if_eq (tgt := 34) hx hb_ dX9_lay_21 (by decide) (fun hc => ?_) (fun hc => ?_)
        · replace h := ift h hc
          exact bk_34 σ y h hK _ _ _ hP (lv_sub hl [] rfl)
        · replace h := iff' h hc
          refine lv_iload_n hx hb_ dX9_lay_24 rfl (lv_at hl 1 rfl) ?_
          refine lv_iload_n hx hb_ dX9_lay_25 rfl (lv_at hl 3 rfl) ?_
          refine lv_icmp_eq (tgt := 34) hx hb_ dX9_lay_26 (by decide) (fun hc => ?_) (fun hc => ?_)
          · replace h := ift h hc
            exact bk_34 σ y h hK _ _ _ hP (lv_sub hl [] rfl)
          · replace h := iff' h hc
            refine lv_iload_n hx hb_ dX9_lay_29 rfl (lv_at hl 2 rfl) ?_
            refine lv_iload_n hx hb_ dX9_lay_30 rfl (lv_at hl 3 rfl) ?_
            refine lv_icmp_ne (tgt := 36) hx hb_ dX9_lay_31 (by decide) (fun hc => ?_) (fun hc => ?_)
            · replace h := iff' h hc
              refine lv_aload_n hx hb_ dX9_lay_36 rfl (lv_at hl 0 rfl) ?_
              refine w_get C hP (k := 0) (by decide) 7 rfl rfl inWX9 0 (by decide) wt784 (v := .ref (ad 1)) rfl dX9_lay_37 ?_
              refine lv_iconst (v := 4) hx hb_ dX9_lay_40 (by decide) ?_
              obtain ⟨x4, hx4, h⟩ := bnd h
              refine w_ald C hP (k := 1) (by decide) (n := 660) rfl hx4 dX9_lay_41 ?_
              refine lv_bipush (v := 10) hx hb_ dX9_lay_42 (by decide) ?_
              refine lv_icmp_ne (tgt := 50) hx hb_ dX9_lay_44 (by decide) (fun hc => ?_) (fun hc => ?_)
              · replace h := iff' h hc
                refine lv_aload_n hx hb_ dX9_lay_50 rfl (lv_at hl 0 rfl) ?_
                obtain ⟨q5, hq5, h⟩ := bnd h
                refine w_cv (w_rV (As := []) (rest := []) C hP (k := 0) (c_X9_minds l D aI aL ad inj _ σ q5 hq5) (gV wt903 wt905 wp25 wt12 wt906) 0 hd_X9_minds ⟨Nat.le_of_ble_eq_true rfl, Nat.le_of_ble_eq_true rfl⟩ (by decide) 7 rfl rfl rfl hl.1 rfl (Nat.le_of_ble_eq_true rfl) dX9_lay_51) hP (fun H locs hP => ?_)
                refine lv_aload_n hx hb_ dX9_lay_54 rfl (lv_at hl 0 rfl) ?_
                refine lv_iconst (v := 0) hx hb_ dX9_lay_55 (by decide) ?_
                refine lv_iload_n hx hb_ dX9_lay_56 rfl (lv_at hl 1 rfl) ?_
                refine lv_iload_n hx hb_ dX9_lay_57 rfl (lv_at hl 2 rfl) ?_
                refine lv_iload_n hx hb_ dX9_lay_58 rfl (lv_at hl 3 rfl) ?_
                obtain ⟨q6, hq6, h⟩ := bnd h
                refine w_cv (w_rV (As := [.int 0, .int v1, .int v2, .int v3]) (rest := []) C hP (k := 0) (c_X9_layStep l D aI aL ad inj _ q5 0 v1 v2 v3 q6 hq6) (gV wt776 wt778 wp14 wt12 wt779) 4 hd_X9_layStep ⟨Nat.le_of_ble_eq_true rfl, Nat.le_of_ble_eq_true rfl⟩ (by decide) 7 rfl rfl rfl hl.1 rfl (Nat.le_of_ble_eq_true rfl) dX9_lay_59) hP (fun H locs hP => ?_)
                refine lv_aload_n hx hb_ dX9_lay_62 rfl (lv_at hl 0 rfl) ?_
                refine w_get C hP (k := 0) (by decide) 7 rfl rfl inWX9 0 (by decide) wt784 (v := .ref (ad 1)) rfl dX9_lay_63 ?_
                refine lv_iconst (v := 4) hx hb_ dX9_lay_66 (by decide) ?_
                obtain ⟨x7, hx7, h⟩ := bnd h
                refine w_ald C hP (k := 1) (by decide) (n := 660) rfl hx7 dX9_lay_67 ?_
                refine lv_iconst (v := 1) hx hb_ dX9_lay_68 (by decide) ?_
                refine lv_isub hx hb_ dX9_lay_69 ?_
                obtain rfl := Option.some.inj h
                have hK : ((x7 - (1 : Int32)), q6) = r0 := hK
                have hK1 := congrArg Prod.fst hK
                have hK2 := congrArg Prod.snd hK
                exact w_iret C hlk hr hP hK1 hK2 dX9_lay_70
              · replace h := ift h hc
                refine lv_bipush (v := (-3)) hx hb_ dX9_lay_47 (by decide) ?_
                obtain rfl := Option.some.inj h
                have hK : ((-3), σ) = r0 := hK
                have hK1 := congrArg Prod.fst hK
                have hK2 := congrArg Prod.snd hK
                exact w_iret C hlk hr hP hK1 hK2 dX9_lay_49
            · replace h := ift h hc
              exact bk_34 σ y h hK _ _ _ hP (lv_sub hl [] rfl)
  exact bk r0 hf rfl _ _ hP
theorem hd_X9_undo : yX9_undo.cls = RX9 ∧ yX9_undo.cls ≠ "java/lang/invoke/MethodHandle" ∧ yX9_undo.cls ≠ "java/lang/invoke/VarHandle" ∧ (parseMethodDescriptor yX9_undo.desc).map (fun d => d.parameters.length) = some 0 := by decide +kernel
set_option maxHeartbeats 4000000 in
set_option maxRecDepth 100000 in
theorem c_X9_undo (l : Launch) (D : va_G) (aI aL : ClassId) (ad : Nat → Nat) (inj : Inj ad 8) (sz : Nat) (σ : Sg) (r0 : (Int32 × Sg)) (hf : f_X9_undo σ = some r0) : Met l yX9_undo (wS yX9_undo cX9_undo 1 (some .int)) (RM 1 23) (Pw D aI aL 8 shM ad sz σ [.ref (ad 0)]) (Qi D aI aL 8 shM ad r0.1 r0.2 sz) 0 0 (AA ad 8 sz) := by
  refine Mof (Qc := Qi D aI aL 8 shM ad r0.1 r0.2) (by decide) inj (Nat.le_of_ble_eq_true rfl) ?_
  intro p e s m args below meth c ls C hlk hr hP hl
  have hx := C.1.1
  have hb_ := C.1.2.1
  have hown := C.1.2.2.2.1
  have hts := C.1.2.2.2.2
  have hl : lv_has ls 1 [(0, .ref (ad 0))] := hl
  have bk : ∀ (y : (Int32 × Sg)), f_X9_undo σ = some y → y = r0 → ∀ (H : Heap) (locs : List Loc), HS D aI aL 8 shM ad σ s H locs → W p l e (RM 1 23) s m args below meth c H locs 0 0 (MQ below (Qi D aI aL 8 shM ad r0.1 r0.2 s.heap.size) args s 0 0 (AA ad 8 s.heap.size)) (F0 m 0 ls []) := by
    intro y h hK H locs hP
    unfold f_X9_undo at h
    refine lv_aload_n hx hb_ dX9_undo_0 rfl (lv_at hl 0 rfl) ?_
    refine w_get C hP (k := 0) (by decide) 7 rfl rfl inWX9 2 (by decide) wt786 (v := .int (σ.1 0 2)) rfl dX9_undo_1 ?_
    refine lv_if_ne (tgt := 10) hx hb_ dX9_undo_4 (by decide) (fun hc => ?_) (fun hc => ?_)
    · replace h := iff' h hc
      refine lv_aload_n hx hb_ dX9_undo_10 rfl (lv_at hl 0 rfl) ?_
      refine lv_dup hx hb_ dX9_undo_11 rfl ?_
      refine w_get C hP (k := 0) (by decide) 7 rfl rfl inWX9 2 (by decide) wt786 (v := .int (σ.1 0 2)) rfl dX9_undo_12 ?_
      refine lv_iconst (v := 1) hx hb_ dX9_undo_15 (by decide) ?_
      refine lv_isub hx hb_ dX9_undo_16 ?_
      obtain ⟨s1, hs1, h⟩ := bnd h
      refine w_puti C hP (k := 0) (by decide) 7 rfl rfl inWX9 tyX9 tyX9_ok nmX9 2 (by decide) wt786 rfl rfl rfl rfl hs1 dX9_undo_17 (fun H locs hP => ?_)
      refine lv_aload_n hx hb_ dX9_undo_20 rfl (lv_at hl 0 rfl) ?_
      refine lv_sipush (v := 165) hx hb_ dX9_undo_21 (by decide) ?_
      refine lv_bipush (v := 55) hx hb_ dX9_undo_24 (by decide) ?_
      refine lv_aload_n hx hb_ dX9_undo_26 rfl (lv_at hl 0 rfl) ?_
      refine w_get C hP (k := 0) (by decide) 7 rfl rfl inWX9 2 (by decide) wt786 (v := .int (s1.1 0 2)) rfl dX9_undo_27 ?_
      refine lv_imul hx hb_ dX9_undo_30 ?_
      refine lv_iadd hx hb_ dX9_undo_31 ?_
      refine lv_iconst (v := 0) hx hb_ dX9_undo_32 (by decide) ?_
      obtain ⟨q2, hq2, h⟩ := bnd h
      refine w_cv (w_rV (As := [.int ((165 : Int32) + ((55 : Int32) * (s1.1 0 2))), .int 0]) (rest := []) C hP (k := 0) (c_X9_copy l D aI aL ad inj _ s1 ((165 : Int32) + ((55 : Int32) * (s1.1 0 2))) 0 q2 hq2) (gV wt870 wt872 wp21 wt12 wt873) 2 hd_X9_copy ⟨Nat.le_of_ble_eq_true rfl, Nat.le_of_ble_eq_true rfl⟩ (by decide) 7 rfl rfl rfl hl.1 rfl (Nat.le_of_ble_eq_true rfl) dX9_undo_33) hP (fun H locs hP => ?_)
      refine lv_aload_n hx hb_ dX9_undo_36 rfl (lv_at hl 0 rfl) ?_
      refine lv_iconst (v := 0) hx hb_ dX9_undo_37 (by decide) ?_
      obtain ⟨s3, hs3, h⟩ := bnd h
      refine w_puti C hP (k := 0) (by decide) 7 rfl rfl inWX9 tyX9 tyX9_ok nmX9 6 (by decide) wt790 rfl rfl rfl rfl hs3 dX9_undo_38 (fun H locs hP => ?_)
      refine lv_aload_n hx hb_ dX9_undo_41 rfl (lv_at hl 0 rfl) ?_
      refine w_get C hP (k := 0) (by decide) 7 rfl rfl inWX9 2 (by decide) wt786 (v := .int (s3.1 0 2)) rfl dX9_undo_42 ?_
      obtain rfl := Option.some.inj h
      have hK : ((s3.1 0 2), s3) = r0 := hK
      have hK1 := congrArg Prod.fst hK
      have hK2 := congrArg Prod.snd hK
      exact w_iret C hlk hr hP hK1 hK2 dX9_undo_45
    · replace h := ift h hc
      refine lv_bipush (v := (-2)) hx hb_ dX9_undo_7 (by decide) ?_
      obtain rfl := Option.some.inj h
      have hK : ((-2), σ) = r0 := hK
      have hK1 := congrArg Prod.fst hK
      have hK2 := congrArg Prod.snd hK
      exact w_iret C hlk hr hP hK1 hK2 dX9_undo_9
  exact bk r0 hf rfl _ _ hP
theorem hd_X9_closure : yX9_closure.cls = RX9 ∧ yX9_closure.cls ≠ "java/lang/invoke/MethodHandle" ∧ yX9_closure.cls ≠ "java/lang/invoke/VarHandle" ∧ (parseMethodDescriptor yX9_closure.desc).map (fun d => d.parameters.length) = some 3 := by decide +kernel
set_option maxHeartbeats 4000000 in
set_option maxRecDepth 100000 in
theorem c_X9_closure (l : Launch) (D : va_G) (aI aL : ClassId) (ad : Nat → Nat) (inj : Inj ad 8) (sz : Nat) (σ : Sg) (v1 : Int32) (v2 : Int32) (v3 : Int32) (r0 : Int32) (hf : f_X9_closure v1 v2 v3 σ = some r0) : Met l yX9_closure (wS yX9_closure cX9_closure 8 (some .int)) (RM 1 21) (Pw D aI aL 8 shM ad sz σ [.ref (ad 0), .int v1, .int v2, .int v3]) (Qi D aI aL 8 shM ad r0 σ sz) 0 0 (AA ad 8 sz) := by
  refine Mof (Qc := Qi D aI aL 8 shM ad r0 σ) (by decide) inj (Nat.le_of_ble_eq_true rfl) ?_
  intro p e s m args below meth c ls C hlk hr hP hl
  have hx := C.1.1
  have hb_ := C.1.2.1
  have hown := C.1.2.2.2.1
  have hts := C.1.2.2.2.2
  have hl : lv_has ls 8 [(0, .ref (ad 0)), (1, .int v1), (2, .int v2), (3, .int v3)] := hl
  have lp_8 : ∀ (n_8 : Nat) (v4_8 : Int32) (v5_8 : Int32) (y : Int32), itr n_8 (fun s => f_X9_closure_8s v2 v3 s.1 s.2 σ) (v4_8, v5_8) = some y → (fun y => y = r0) y → ∀ (H : Heap) (locs : List Loc) (ls : Array Slot), HS D aI aL 8 shM ad σ s H locs → lv_has ls 8 [(0, .ref (ad 0)), (2, .int v2), (3, .int v3), (4, .int v4_8), (5, .int v5_8)] → W p l e (RM 1 21) s m args below meth c H locs 0 0 (MQ below (Qi D aI aL 8 shM ad r0 σ s.heap.size) args s 0 0 (AA ad 8 s.heap.size)) (F0 m 8 ls []) := by
    intro n_8
    induction n_8 with
    | zero =>
      intro v4_8 v5_8 y h hK
      cases (show (none : Option Int32) = some y from h)
    | succ n_8 ih_8 =>
      have lp_19 : ∀ (n_19 : Nat) (v4_19 : Int32) (v5_19 : Int32) (v6_19 : Int32) (y : ((Int32 × Int32) ⊕ Int32)), itr n_19 (fun s => f_X9_closure_19s v2 v3 s.1 s.2.1 s.2.2 σ) (v4_19, v5_19, v6_19) = some y → (KK n_8 (fun s => f_X9_closure_8s v2 v3 s.1 s.2 σ) (fun y => y = r0)) y → ∀ (H : Heap) (locs : List Loc) (ls : Array Slot), HS D aI aL 8 shM ad σ s H locs → lv_has ls 8 [(0, .ref (ad 0)), (2, .int v2), (3, .int v3), (4, .int v4_19), (5, .int v5_19), (6, .int v6_19)] → W p l e (RM 1 21) s m args below meth c H locs 0 0 (MQ below (Qi D aI aL 8 shM ad r0 σ s.heap.size) args s 0 0 (AA ad 8 s.heap.size)) (F0 m 19 ls []) := by
        intro n_19
        induction n_19 with
        | zero =>
          intro v4_19 v5_19 v6_19 y h hK
          cases (show (none : Option ((Int32 × Int32) ⊕ Int32)) = some y from h)
        | succ n_19 ih_19 =>
          have bk_157 : ∀ (v4_157 : Int32) (v6_157 : Int32) (t0_157 : Int32) (y : ((Int32 × Int32 × Int32) ⊕ ((Int32 × Int32) ⊕ Int32))), f_X9_closure_157 v2 v3 v4_157 v6_157 t0_157 σ = some y → (KK n_19 (fun s => f_X9_closure_19s v2 v3 s.1 s.2.1 s.2.2 σ) (KK n_8 (fun s => f_X9_closure_8s v2 v3 s.1 s.2 σ) (fun y => y = r0))) y → ∀ (H : Heap) (locs : List Loc) (ls : Array Slot), HS D aI aL 8 shM ad σ s H locs → lv_has ls 8 [(0, .ref (ad 0)), (2, .int v2), (3, .int v3), (4, .int v4_157), (6, .int v6_157)] → W p l e (RM 1 21) s m args below meth c H locs 0 0 (MQ below (Qi D aI aL 8 shM ad r0 σ s.heap.size) args s 0 0 (AA ad 8 s.heap.size)) (F0 m 157 ls [.int t0_157]) := by
            intro v4_157 v6_157 t0_157 y h hK H locs ls hP hl
            unfold f_X9_closure_157 at h
            refine lv_istore (lv' := [(5, .int t0_157), (0, .ref (ad 0)), (2, .int v2), (3, .int v3), (4, .int v4_157), (6, .int v6_157)]) hx hb_ dX9_closure_157 hl (by decide) rfl (fun ls hl => ?_)
            obtain ⟨x5, hx5, h⟩ := nm_inv h
            refine lv_iinc (v := x5) (lv' := [(6, .int x5), (5, .int t0_157), (0, .ref (ad 0)), (2, .int v2), (3, .int v3), (4, .int v4_157)]) hx hb_ dX9_closure_159 hl (k := 5) rfl (by rw [hx5]; rfl) (by decide) rfl (fun ls hl => ?_)
            refine lv_goto (tgt := 19) hx hb_ dX9_closure_162 (by decide) ?_
            obtain rfl := Option.some.inj h
            obtain ⟨y2, h, hK⟩ := hK
            exact ih_19 v4_157 t0_157 x5 y2 h hK _ _ _ hP (lv_sub hl [2, 3, 4, 5, 1, 0] rfl)
          have bk_152 : ∀ (v4_152 : Int32) (v6_152 : Int32) (y : ((Int32 × Int32 × Int32) ⊕ ((Int32 × Int32) ⊕ Int32))), f_X9_closure_152 v2 v3 v4_152 v6_152 σ = some y → (KK n_19 (fun s => f_X9_closure_19s v2 v3 s.1 s.2.1 s.2.2 σ) (KK n_8 (fun s => f_X9_closure_8s v2 v3 s.1 s.2 σ) (fun y => y = r0))) y → ∀ (H : Heap) (locs : List Loc) (ls : Array Slot), HS D aI aL 8 shM ad σ s H locs → lv_has ls 8 [(0, .ref (ad 0)), (2, .int v2), (3, .int v3), (4, .int v4_152), (6, .int v6_152)] → W p l e (RM 1 21) s m args below meth c H locs 0 0 (MQ below (Qi D aI aL 8 shM ad r0 σ s.heap.size) args s 0 0 (AA ad 8 s.heap.size)) (F0 m 152 ls []) := by
            intro v4_152 v6_152 y h hK H locs ls hP hl
            unfold f_X9_closure_152 at h
            refine lv_iconst (v := 1) hx hb_ dX9_closure_152 (by decide) ?_
            refine lv_goto (tgt := 157) hx hb_ dX9_closure_153 (by decide) ?_
            exact bk_157 v4_152 v6_152 1 y h hK _ _ _ hP (lv_sub hl [0, 1, 2, 3, 4] rfl)
          have bk_139 : ∀ (v5_139 : Int32) (v6_139 : Int32) (v7_139 : Int32) (t0_139 : Int32) (t1_139 : Int32) (y : ((Int32 × Int32 × Int32) ⊕ ((Int32 × Int32) ⊕ Int32))), f_X9_closure_139 v2 v3 v5_139 v6_139 v7_139 t0_139 t1_139 σ = some y → (KK n_19 (fun s => f_X9_closure_19s v2 v3 s.1 s.2.1 s.2.2 σ) (KK n_8 (fun s => f_X9_closure_8s v2 v3 s.1 s.2 σ) (fun y => y = r0))) y → ∀ (H : Heap) (locs : List Loc) (ls : Array Slot), HS D aI aL 8 shM ad σ s H locs → lv_has ls 8 [(0, .ref (ad 0)), (2, .int v2), (3, .int v3), (5, .int v5_139), (6, .int v6_139), (7, .int v7_139)] → W p l e (RM 1 21) s m args below meth c H locs 0 0 (MQ below (Qi D aI aL 8 shM ad r0 σ s.heap.size) args s 0 0 (AA ad 8 s.heap.size)) (F0 m 139 ls [.int t1_139, .int t0_139]) := by
            intro v5_139 v6_139 v7_139 t0_139 t1_139 y h hK H locs ls hP hl
            unfold f_X9_closure_139 at h
            refine lv_ior hx hb_ dX9_closure_139 ?_
            obtain ⟨x4, hx4, h⟩ := nm_inv h
            refine w_ni hx4 ?_
            refine lv_istore (lv' := [(4, .int x4), (0, .ref (ad 0)), (2, .int v2), (3, .int v3), (5, .int v5_139), (6, .int v6_139), (7, .int v7_139)]) hx hb_ dX9_closure_140 hl (by decide) rfl (fun ls hl => ?_)
            refine lv_iload hx hb_ dX9_closure_142 (lv_at hl 4 rfl) ?_
            refine lv_if_ne (tgt := 152) hx hb_ dX9_closure_144 (by decide) (fun hc => ?_) (fun hc => ?_)
            · replace h := iff' h hc
              exact bk_152 x4 v6_139 y h hK _ _ _ hP (lv_sub hl [1, 2, 3, 0, 5] rfl)
            · replace h := ift h hc
              refine lv_iload hx hb_ dX9_closure_147 (lv_at hl 6 rfl) ?_
              refine lv_if_eq (tgt := 156) hx hb_ dX9_closure_149 (by decide) (fun hc => ?_) (fun hc => ?_)
              · replace h := ift h hc
                refine lv_iconst (v := 0) hx hb_ dX9_closure_156 (by decide) ?_
                exact bk_157 x4 v6_139 0 y h hK _ _ _ hP (lv_sub hl [1, 2, 3, 0, 5] rfl)
              · replace h := iff' h hc
                exact bk_152 x4 v6_139 y h hK _ _ _ hP (lv_sub hl [1, 2, 3, 0, 5] rfl)
          have bk_114 : ∀ (v4_114 : Int32) (v5_114 : Int32) (v6_114 : Int32) (t0_114 : Int32) (y : ((Int32 × Int32 × Int32) ⊕ ((Int32 × Int32) ⊕ Int32))), f_X9_closure_114 v2 v3 v4_114 v5_114 v6_114 t0_114 σ = some y → (KK n_19 (fun s => f_X9_closure_19s v2 v3 s.1 s.2.1 s.2.2 σ) (KK n_8 (fun s => f_X9_closure_8s v2 v3 s.1 s.2 σ) (fun y => y = r0))) y → ∀ (H : Heap) (locs : List Loc) (ls : Array Slot), HS D aI aL 8 shM ad σ s H locs → lv_has ls 8 [(0, .ref (ad 0)), (2, .int v2), (3, .int v3), (4, .int v4_114), (5, .int v5_114), (6, .int v6_114)] → W p l e (RM 1 21) s m args below meth c H locs 0 0 (MQ below (Qi D aI aL 8 shM ad r0 σ s.heap.size) args s 0 0 (AA ad 8 s.heap.size)) (F0 m 114 ls [.int t0_114]) := by
            intro v4_114 v5_114 v6_114 t0_114 y h hK H locs ls hP hl
            unfold f_X9_closure_114 at h
            refine lv_istore (lv' := [(7, .int t0_114), (0, .ref (ad 0)), (2, .int v2), (3, .int v3), (4, .int v4_114), (5, .int v5_114), (6, .int v6_114)]) hx hb_ dX9_closure_114 hl (by decide) rfl (fun ls hl => ?_)
            refine lv_iload hx hb_ dX9_closure_116 (lv_at hl 4 rfl) ?_
            refine lv_iload hx hb_ dX9_closure_118 (lv_at hl 0 rfl) ?_
            refine lv_if_eq (tgt := 138) hx hb_ dX9_closure_120 (by decide) (fun hc => ?_) (fun hc => ?_)
            · replace h := ift h hc
              refine lv_iconst (v := 0) hx hb_ dX9_closure_138 (by decide) ?_
              exact bk_139 v5_114 v6_114 t0_114 v4_114 0 y h hK _ _ _ hP (lv_sub hl [1, 2, 3, 5, 6, 0] rfl)
            · replace h := iff' h hc
              refine lv_iconst (v := 1) hx hb_ dX9_closure_123 (by decide) ?_
              refine lv_aload_n hx hb_ dX9_closure_124 rfl (lv_at hl 1 rfl) ?_
              refine w_get C hP (k := 0) (by decide) 7 rfl rfl inWX9 0 (by decide) wt784 (v := .ref (ad 1)) rfl dX9_closure_125 ?_
              refine lv_bipush (v := 25) hx hb_ dX9_closure_128 (by decide) ?_
              refine lv_iload hx hb_ dX9_closure_130 (lv_at hl 6 rfl) ?_
              refine lv_iadd hx hb_ dX9_closure_132 ?_
              obtain ⟨x6, hx6, h⟩ := bnd h
              refine w_ald C hP (k := 1) (by decide) (n := 660) rfl hx6 dX9_closure_133 ?_
              refine lv_ishl hx hb_ dX9_closure_134 ?_
              refine lv_goto (tgt := 139) hx hb_ dX9_closure_135 (by decide) ?_
              exact bk_139 v5_114 v6_114 t0_114 v4_114 ((1 : Int32) <<< (x6 &&& 31)) y h hK _ _ _ hP (lv_sub hl [1, 2, 3, 5, 6, 0] rfl)
          have bk_113 : ∀ (v4_113 : Int32) (v5_113 : Int32) (v6_113 : Int32) (y : ((Int32 × Int32 × Int32) ⊕ ((Int32 × Int32) ⊕ Int32))), f_X9_closure_113 v2 v3 v4_113 v5_113 v6_113 σ = some y → (KK n_19 (fun s => f_X9_closure_19s v2 v3 s.1 s.2.1 s.2.2 σ) (KK n_8 (fun s => f_X9_closure_8s v2 v3 s.1 s.2 σ) (fun y => y = r0))) y → ∀ (H : Heap) (locs : List Loc) (ls : Array Slot), HS D aI aL 8 shM ad σ s H locs → lv_has ls 8 [(0, .ref (ad 0)), (2, .int v2), (3, .int v3), (4, .int v4_113), (5, .int v5_113), (6, .int v6_113)] → W p l e (RM 1 21) s m args below meth c H locs 0 0 (MQ below (Qi D aI aL 8 shM ad r0 σ s.heap.size) args s 0 0 (AA ad 8 s.heap.size)) (F0 m 113 ls []) := by
            intro v4_113 v5_113 v6_113 y h hK H locs ls hP hl
            unfold f_X9_closure_113 at h
            refine lv_iconst (v := 0) hx hb_ dX9_closure_113 (by decide) ?_
            exact bk_114 v4_113 v5_113 v6_113 0 y h hK _ _ _ hP (lv_sub hl [0, 1, 2, 3, 4, 5] rfl)
          intro v4_19 v5_19 v6_19 y h hK H locs ls hP hl
          obtain ⟨y, h, hK⟩ := itr_inv (K := (KK n_8 (fun s => f_X9_closure_8s v2 v3 s.1 s.2 σ) (fun y => y = r0))) h hK
          replace h : f_X9_closure_19s v2 v3 v4_19 v5_19 v6_19 σ = some y := h
          unfold f_X9_closure_19s at h
          refine lv_iload hx hb_ dX9_closure_19 (lv_at hl 5 rfl) ?_
          refine lv_aload_n hx hb_ dX9_closure_21 rfl (lv_at hl 0 rfl) ?_
          refine w_get C hP (k := 0) (by decide) 7 rfl rfl inWX9 0 (by decide) wt784 (v := .ref (ad 1)) rfl dX9_closure_22 ?_
          refine lv_iconst (v := 4) hx hb_ dX9_closure_25 (by decide) ?_
          obtain ⟨x2, hx2, h⟩ := bnd h
          refine w_ald C hP (k := 1) (by decide) (n := 660) rfl hx2 dX9_closure_26 ?_
          refine lv_icmp_ge (tgt := 165) hx hb_ dX9_closure_27 (by decide) (fun hc => ?_) (fun hc => ?_)
          · replace h := ift h hc
            refine lv_goto (tgt := 8) hx hb_ dX9_closure_165 (by decide) ?_
            obtain rfl := Option.some.inj h
            obtain ⟨y2, h, hK⟩ := hK
            exact ih_8 v4_19 v5_19 y2 h hK _ _ _ hP (lv_sub hl [0, 1, 2, 3, 4] rfl)
          · replace h := iff' h hc
            refine lv_iload_n hx hb_ dX9_closure_30 rfl (lv_at hl 1 rfl) ?_
            refine lv_iload hx hb_ dX9_closure_31 (lv_at hl 5 rfl) ?_
            obtain ⟨q3, hq3, h⟩ := bnd h
            refine w_ci (w_rS (As := [.int v2, .int v6_19]) (rest := []) C hP (c_X9_has l D aI aL ad inj _ σ v2 v6_19 q3 hq3) wt896 wt897 wt12 wt898 2 hd_X9_has ⟨Nat.le_of_ble_eq_true rfl, Nat.le_of_ble_eq_true rfl⟩ rfl hl.1 rfl (Nat.le_of_ble_eq_true rfl) dX9_closure_33) hP (fun H locs hP => ?_)
            refine lv_if_eq (tgt := 113) hx hb_ dX9_closure_36 (by decide) (fun hc => ?_) (fun hc => ?_)
            · replace h := ift h hc
              exact bk_113 v4_19 v5_19 v6_19 y h hK _ _ _ hP (lv_sub hl [0, 1, 2, 3, 4, 5] rfl)
            · replace h := iff' h hc
              refine lv_iload hx hb_ dX9_closure_39 (lv_at hl 3 rfl) ?_
              refine lv_aload_n hx hb_ dX9_closure_41 rfl (lv_at hl 0 rfl) ?_
              refine w_get C hP (k := 0) (by decide) 7 rfl rfl inWX9 0 (by decide) wt784 (v := .ref (ad 1)) rfl dX9_closure_42 ?_
              refine lv_iconst (v := 5) hx hb_ dX9_closure_45 (by decide) ?_
              refine lv_iload hx hb_ dX9_closure_46 (lv_at hl 5 rfl) ?_
              refine lv_iadd hx hb_ dX9_closure_48 ?_
              obtain ⟨x7, hx7, h⟩ := bnd h
              refine w_ald C hP (k := 1) (by decide) (n := 660) rfl hx7 dX9_closure_49 ?_
              obtain ⟨q8, hq8, h⟩ := bnd h
              refine w_ci (w_rS (As := [.int v4_19, .int x7]) (rest := []) C hP (c_X9_has l D aI aL ad inj _ σ v4_19 x7 q8 hq8) wt896 wt897 wt12 wt898 2 hd_X9_has ⟨Nat.le_of_ble_eq_true rfl, Nat.le_of_ble_eq_true rfl⟩ rfl hl.1 rfl (Nat.le_of_ble_eq_true rfl) dX9_closure_50) hP (fun H locs hP => ?_)
              refine lv_if_eq (tgt := 113) hx hb_ dX9_closure_53 (by decide) (fun hc => ?_) (fun hc => ?_)
              · replace h := ift h hc
                exact bk_113 v4_19 v5_19 v6_19 y h hK _ _ _ hP (lv_sub hl [0, 1, 2, 3, 4, 5] rfl)
              · replace h := iff' h hc
                refine lv_iload hx hb_ dX9_closure_56 (lv_at hl 3 rfl) ?_
                refine lv_aload_n hx hb_ dX9_closure_58 rfl (lv_at hl 0 rfl) ?_
                refine w_get C hP (k := 0) (by decide) 7 rfl rfl inWX9 0 (by decide) wt784 (v := .ref (ad 1)) rfl dX9_closure_59 ?_
                refine lv_bipush (v := 15) hx hb_ dX9_closure_62 (by decide) ?_
                refine lv_iload hx hb_ dX9_closure_64 (lv_at hl 5 rfl) ?_
                refine lv_iadd hx hb_ dX9_closure_66 ?_
                obtain ⟨x9, hx9, h⟩ := bnd h
                refine w_ald C hP (k := 1) (by decide) (n := 660) rfl hx9 dX9_closure_67 ?_
                obtain ⟨q10, hq10, h⟩ := bnd h
                refine w_ci (w_rS (As := [.int v4_19, .int x9]) (rest := []) C hP (c_X9_has l D aI aL ad inj _ σ v4_19 x9 q10 hq10) wt896 wt897 wt12 wt898 2 hd_X9_has ⟨Nat.le_of_ble_eq_true rfl, Nat.le_of_ble_eq_true rfl⟩ rfl hl.1 rfl (Nat.le_of_ble_eq_true rfl) dX9_closure_68) hP (fun H locs hP => ?_)
                refine lv_if_eq (tgt := 113) hx hb_ dX9_closure_71 (by decide) (fun hc => ?_) (fun hc => ?_)
                · replace h := ift h hc
                  exact bk_113 v4_19 v5_19 v6_19 y h hK _ _ _ hP (lv_sub hl [0, 1, 2, 3, 4, 5] rfl)
                · replace h := iff' h hc
                  refine lv_iload_n hx hb_ dX9_closure_74 rfl (lv_at hl 2 rfl) ?_
                  refine lv_aload_n hx hb_ dX9_closure_75 rfl (lv_at hl 0 rfl) ?_
                  refine w_get C hP (k := 0) (by decide) 7 rfl rfl inWX9 0 (by decide) wt784 (v := .ref (ad 1)) rfl dX9_closure_76 ?_
                  refine lv_bipush (v := 25) hx hb_ dX9_closure_79 (by decide) ?_
                  refine lv_iload hx hb_ dX9_closure_81 (lv_at hl 5 rfl) ?_
                  refine lv_iadd hx hb_ dX9_closure_83 ?_
                  obtain ⟨x11, hx11, h⟩ := bnd h
                  refine w_ald C hP (k := 1) (by decide) (n := 660) rfl hx11 dX9_closure_84 ?_
                  obtain ⟨q12, hq12, h⟩ := bnd h
                  refine w_ci (w_rS (As := [.int v3, .int x11]) (rest := []) C hP (c_X9_has l D aI aL ad inj _ σ v3 x11 q12 hq12) wt896 wt897 wt12 wt898 2 hd_X9_has ⟨Nat.le_of_ble_eq_true rfl, Nat.le_of_ble_eq_true rfl⟩ rfl hl.1 rfl (Nat.le_of_ble_eq_true rfl) dX9_closure_85) hP (fun H locs hP => ?_)
                  refine lv_if_eq (tgt := 113) hx hb_ dX9_closure_88 (by decide) (fun hc => ?_) (fun hc => ?_)
                  · replace h := ift h hc
                    exact bk_113 v4_19 v5_19 v6_19 y h hK _ _ _ hP (lv_sub hl [0, 1, 2, 3, 4, 5] rfl)
                  · replace h := iff' h hc
                    refine lv_iload hx hb_ dX9_closure_91 (lv_at hl 3 rfl) ?_
                    refine lv_aload_n hx hb_ dX9_closure_93 rfl (lv_at hl 0 rfl) ?_
                    refine w_get C hP (k := 0) (by decide) 7 rfl rfl inWX9 0 (by decide) wt784 (v := .ref (ad 1)) rfl dX9_closure_94 ?_
                    refine lv_bipush (v := 25) hx hb_ dX9_closure_97 (by decide) ?_
                    refine lv_iload hx hb_ dX9_closure_99 (lv_at hl 5 rfl) ?_
                    refine lv_iadd hx hb_ dX9_closure_101 ?_
                    obtain ⟨x13, hx13, h⟩ := bnd h
                    refine w_ald C hP (k := 1) (by decide) (n := 660) rfl hx13 dX9_closure_102 ?_
                    obtain ⟨q14, hq14, h⟩ := bnd h
                    refine w_ci (w_rS (As := [.int v4_19, .int x13]) (rest := []) C hP (c_X9_has l D aI aL ad inj _ σ v4_19 x13 q14 hq14) wt896 wt897 wt12 wt898 2 hd_X9_has ⟨Nat.le_of_ble_eq_true rfl, Nat.le_of_ble_eq_true rfl⟩ rfl hl.1 rfl (Nat.le_of_ble_eq_true rfl) dX9_closure_103) hP (fun H locs hP => ?_)
                    refine lv_if_ne (tgt := 113) hx hb_ dX9_closure_106 (by decide) (fun hc => ?_) (fun hc => ?_)
                    · replace h := iff' h hc
                      exact bk_113 v4_19 v5_19 v6_19 y h hK _ _ _ hP (lv_sub hl [0, 1, 2, 3, 4, 5] rfl)
                    · replace h := ift h hc
                      refine lv_iconst (v := 1) hx hb_ dX9_closure_109 (by decide) ?_
                      refine lv_goto (tgt := 114) hx hb_ dX9_closure_110 (by decide) ?_
                      exact bk_114 v4_19 v5_19 v6_19 1 y h hK _ _ _ hP (lv_sub hl [0, 1, 2, 3, 4, 5] rfl)
      have bk_19 : ∀ (v4_19 : Int32) (v5_19 : Int32) (v6_19 : Int32) (y : ((Int32 × Int32) ⊕ Int32)), f_X9_closure_19 v2 v3 v4_19 v5_19 v6_19 σ = some y → (KK n_8 (fun s => f_X9_closure_8s v2 v3 s.1 s.2 σ) (fun y => y = r0)) y → ∀ (H : Heap) (locs : List Loc) (ls : Array Slot), HS D aI aL 8 shM ad σ s H locs → lv_has ls 8 [(0, .ref (ad 0)), (2, .int v2), (3, .int v3), (4, .int v4_19), (5, .int v5_19), (6, .int v6_19)] → W p l e (RM 1 21) s m args below meth c H locs 0 0 (MQ below (Qi D aI aL 8 shM ad r0 σ s.heap.size) args s 0 0 (AA ad 8 s.heap.size)) (F0 m 19 ls []) := fun v4_19 v5_19 v6_19 y h hK => lp_19 3000 v4_19 v5_19 v6_19 y h hK
      intro v4_8 v5_8 y h hK H locs ls hP hl
      obtain ⟨y, h, hK⟩ := itr_inv (K := (fun y => y = r0)) h hK
      replace h : f_X9_closure_8s v2 v3 v4_8 v5_8 σ = some y := h
      unfold f_X9_closure_8s at h
      refine lv_iload hx hb_ dX9_closure_8 (lv_at hl 4 rfl) ?_
      refine lv_if_eq (tgt := 168) hx hb_ dX9_closure_10 (by decide) (fun hc => ?_) (fun hc => ?_)
      · replace h := ift h hc
        refine lv_iload hx hb_ dX9_closure_168 (lv_at hl 3 rfl) ?_
        obtain rfl := Option.some.inj h
        have hK : (v4_8 : Int32) = r0 := hK
        exact w_iret C hlk hr hP hK rfl dX9_closure_170
      · replace h := iff' h hc
        refine lv_iconst (v := 0) hx hb_ dX9_closure_13 (by decide) ?_
        refine lv_istore (lv' := [(5, .int 0), (0, .ref (ad 0)), (2, .int v2), (3, .int v3), (4, .int v4_8)]) hx hb_ dX9_closure_14 hl (by decide) rfl (fun ls hl => ?_)
        refine lv_iconst (v := 0) hx hb_ dX9_closure_16 (by decide) ?_
        refine lv_istore (lv' := [(6, .int 0), (5, .int 0), (0, .ref (ad 0)), (2, .int v2), (3, .int v3), (4, .int v4_8)]) hx hb_ dX9_closure_17 hl (by decide) rfl (fun ls hl => ?_)
        exact bk_19 v4_8 0 0 y h hK _ _ _ hP (lv_sub hl [2, 3, 4, 5, 1, 0] rfl)
  have bk_8 : ∀ (v4_8 : Int32) (v5_8 : Int32) (y : Int32), f_X9_closure_8 v2 v3 v4_8 v5_8 σ = some y → (fun y => y = r0) y → ∀ (H : Heap) (locs : List Loc) (ls : Array Slot), HS D aI aL 8 shM ad σ s H locs → lv_has ls 8 [(0, .ref (ad 0)), (2, .int v2), (3, .int v3), (4, .int v4_8), (5, .int v5_8)] → W p l e (RM 1 21) s m args below meth c H locs 0 0 (MQ below (Qi D aI aL 8 shM ad r0 σ s.heap.size) args s 0 0 (AA ad 8 s.heap.size)) (F0 m 8 ls []) := fun v4_8 v5_8 y h hK => lp_8 3000 v4_8 v5_8 y h hK
  have bk : ∀ (y : Int32), f_X9_closure v1 v2 v3 σ = some y → y = r0 → ∀ (H : Heap) (locs : List Loc), HS D aI aL 8 shM ad σ s H locs → W p l e (RM 1 21) s m args below meth c H locs 0 0 (MQ below (Qi D aI aL 8 shM ad r0 σ s.heap.size) args s 0 0 (AA ad 8 s.heap.size)) (F0 m 0 ls []) := by
    intro y h hK H locs hP
    unfold f_X9_closure at h
    refine lv_iload_n hx hb_ dX9_closure_0 rfl (lv_at hl 1 rfl) ?_
    refine lv_iload_n hx hb_ dX9_closure_1 rfl (lv_at hl 3 rfl) ?_
    refine lv_iand hx hb_ dX9_closure_2 ?_
    obtain ⟨x1, hx1, h⟩ := nm_inv h
    refine w_ni hx1 ?_
    refine lv_istore (lv' := [(4, .int x1), (0, .ref (ad 0)), (1, .int v1), (2, .int v2), (3, .int v3)]) hx hb_ dX9_closure_3 hl (by decide) rfl (fun ls hl => ?_)
    refine lv_iconst (v := 1) hx hb_ dX9_closure_5 (by decide) ?_
    refine lv_istore (lv' := [(5, .int 1), (4, .int x1), (0, .ref (ad 0)), (1, .int v1), (2, .int v2), (3, .int v3)]) hx hb_ dX9_closure_6 hl (by decide) rfl (fun ls hl => ?_)
    exact bk_8 x1 1 y h hK _ _ _ hP (lv_sub hl [2, 4, 5, 1, 0] rfl)
  exact bk r0 hf rfl _ _ hP
theorem hd_X9_allSteps : yX9_allSteps.cls = RX9 ∧ yX9_allSteps.cls ≠ "java/lang/invoke/MethodHandle" ∧ yX9_allSteps.cls ≠ "java/lang/invoke/VarHandle" ∧ (parseMethodDescriptor yX9_allSteps.desc).map (fun d => d.parameters.length) = some 0 := by decide +kernel
set_option maxHeartbeats 4000000 in
set_option maxRecDepth 100000 in
theorem c_X9_allSteps (l : Launch) (D : va_G) (aI aL : ClassId) (ad : Nat → Nat) (inj : Inj ad 8) (sz : Nat) (σ : Sg) (r0 : Int32) (hf : f_X9_allSteps σ = some r0) : Met l yX9_allSteps (wS yX9_allSteps cX9_allSteps 1 (some .int)) (RM 0 0) (Pw D aI aL 8 shM ad sz σ [.ref (ad 0)]) (Qi D aI aL 8 shM ad r0 σ sz) 0 0 (AA ad 8 sz) := by
  refine Mof (Qc := Qi D aI aL 8 shM ad r0 σ) (by decide) inj (Nat.le_of_ble_eq_true rfl) ?_
  intro p e s m args below meth c ls C hlk hr hP hl
  have hx := C.1.1
  have hb_ := C.1.2.1
  have hown := C.1.2.2.2.1
  have hts := C.1.2.2.2.2
  have hl : lv_has ls 1 [(0, .ref (ad 0))] := hl
  have bk : ∀ (y : Int32), f_X9_allSteps σ = some y → y = r0 → ∀ (H : Heap) (locs : List Loc), HS D aI aL 8 shM ad σ s H locs → W p l e (RM 0 0) s m args below meth c H locs 0 0 (MQ below (Qi D aI aL 8 shM ad r0 σ s.heap.size) args s 0 0 (AA ad 8 s.heap.size)) (F0 m 0 ls []) := by
    intro y h hK H locs hP
    unfold f_X9_allSteps at h
    refine lv_iconst (v := 1) hx hb_ dX9_allSteps_0 (by decide) ?_
    refine lv_aload_n hx hb_ dX9_allSteps_1 rfl (lv_at hl 0 rfl) ?_
    refine w_get C hP (k := 0) (by decide) 7 rfl rfl inWX9 0 (by decide) wt784 (v := .ref (ad 1)) rfl dX9_allSteps_2 ?_
    refine lv_iconst (v := 4) hx hb_ dX9_allSteps_5 (by decide) ?_
    obtain ⟨x1, hx1, h⟩ := bnd h
    refine w_ald C hP (k := 1) (by decide) (n := 660) rfl hx1 dX9_allSteps_6 ?_
    refine lv_ishl hx hb_ dX9_allSteps_7 ?_
    refine lv_iconst (v := 1) hx hb_ dX9_allSteps_8 (by decide) ?_
    refine lv_isub hx hb_ dX9_allSteps_9 ?_
    obtain rfl := Option.some.inj h
    have hK : ((((1 : Int32) <<< (x1 &&& 31)) - (1 : Int32)) : Int32) = r0 := hK
    exact w_iret C hlk hr hP hK rfl dX9_allSteps_10
  exact bk r0 hf rfl _ _ hP
theorem hd_X9_reachOf : yX9_reachOf.cls = RX9 ∧ yX9_reachOf.cls ≠ "java/lang/invoke/MethodHandle" ∧ yX9_reachOf.cls ≠ "java/lang/invoke/VarHandle" ∧ (parseMethodDescriptor yX9_reachOf.desc).map (fun d => d.parameters.length) = some 1 := by decide +kernel
set_option maxHeartbeats 4000000 in
set_option maxRecDepth 100000 in
theorem c_X9_reachOf (l : Launch) (D : va_G) (aI aL : ClassId) (ad : Nat → Nat) (inj : Inj ad 8) (sz : Nat) (σ : Sg) (v1 : Int32) (r0 : Int32) (hf : f_X9_reachOf v1 σ = some r0) : Met l yX9_reachOf (wS yX9_reachOf cX9_reachOf 2 (some .int)) (RM 2 48) (Pw D aI aL 8 shM ad sz σ [.ref (ad 0), .int v1]) (Qi D aI aL 8 shM ad r0 σ sz) 0 0 (AA ad 8 sz) := by
  refine Mof (Qc := Qi D aI aL 8 shM ad r0 σ) (by decide) inj (Nat.le_of_ble_eq_true rfl) ?_
  intro p e s m args below meth c ls C hlk hr hP hl
  have hx := C.1.1
  have hb_ := C.1.2.1
  have hown := C.1.2.2.2.1
  have hts := C.1.2.2.2.2
  have hl : lv_has ls 2 [(0, .ref (ad 0)), (1, .int v1)] := hl
  have bk : ∀ (y : Int32), f_X9_reachOf v1 σ = some y → y = r0 → ∀ (H : Heap) (locs : List Loc), HS D aI aL 8 shM ad σ s H locs → W p l e (RM 2 48) s m args below meth c H locs 0 0 (MQ below (Qi D aI aL 8 shM ad r0 σ s.heap.size) args s 0 0 (AA ad 8 s.heap.size)) (F0 m 0 ls []) := by
    intro y h hK H locs hP
    unfold f_X9_reachOf at h
    refine lv_aload_n hx hb_ dX9_reachOf_0 rfl (lv_at hl 0 rfl) ?_
    refine lv_iload_n hx hb_ dX9_reachOf_1 rfl (lv_at hl 1 rfl) ?_
    refine lv_aload_n hx hb_ dX9_reachOf_2 rfl (lv_at hl 0 rfl) ?_
    obtain ⟨q1, hq1, h⟩ := bnd h
    refine w_ci (w_rV (As := []) (rest := [.int v1, .ref (ad 0)]) C hP (k := 0) (c_X9_allSteps l D aI aL ad inj _ σ q1 hq1) (gV wt934 wt936 wp28 wt12 wt937) 0 hd_X9_allSteps ⟨Nat.le_of_ble_eq_true rfl, Nat.le_of_ble_eq_true rfl⟩ (by decide) 7 rfl rfl rfl hl.1 rfl (Nat.le_of_ble_eq_true rfl) dX9_reachOf_3) hP (fun H locs hP => ?_)
    refine lv_aload_n hx hb_ dX9_reachOf_6 rfl (lv_at hl 0 rfl) ?_
    refine w_get C hP (k := 0) (by decide) 7 rfl rfl inWX9 0 (by decide) wt784 (v := .ref (ad 1)) rfl dX9_reachOf_7 ?_
    refine lv_iconst (v := 2) hx hb_ dX9_reachOf_10 (by decide) ?_
    obtain ⟨x2, hx2, h⟩ := bnd h
    refine w_ald C hP (k := 1) (by decide) (n := 660) rfl hx2 dX9_reachOf_11 ?_
    obtain ⟨q3, hq3, h⟩ := bnd h
    refine w_ci (w_rV (As := [.int v1, .int q1, .int x2]) (rest := []) C hP (k := 0) (c_X9_closure l D aI aL ad inj _ σ v1 q1 x2 q3 hq3) (gV wt938 wt940 wp29 wt12 wt941) 3 hd_X9_closure ⟨Nat.le_of_ble_eq_true rfl, Nat.le_of_ble_eq_true rfl⟩ (by decide) 7 rfl rfl rfl hl.1 rfl (Nat.le_of_ble_eq_true rfl) dX9_reachOf_12) hP (fun H locs hP => ?_)
    obtain rfl := Option.some.inj h
    have hK : (q3 : Int32) = r0 := hK
    exact w_iret C hlk hr hP hK rfl dX9_reachOf_15
  exact bk r0 hf rfl _ _ hP
theorem hd_X9_beginnings : yX9_beginnings.cls = RX9 ∧ yX9_beginnings.cls ≠ "java/lang/invoke/MethodHandle" ∧ yX9_beginnings.cls ≠ "java/lang/invoke/VarHandle" ∧ (parseMethodDescriptor yX9_beginnings.desc).map (fun d => d.parameters.length) = some 0 := by decide +kernel
set_option maxHeartbeats 4000000 in
set_option maxRecDepth 100000 in
theorem c_X9_beginnings (l : Launch) (D : va_G) (aI aL : ClassId) (ad : Nat → Nat) (inj : Inj ad 8) (sz : Nat) (σ : Sg) (r0 : Int32) (hf : f_X9_beginnings σ = some r0) : Met l yX9_beginnings (wS yX9_beginnings cX9_beginnings 1 (some .int)) (RM 0 0) (Pw D aI aL 8 shM ad sz σ [.ref (ad 0)]) (Qi D aI aL 8 shM ad r0 σ sz) 0 0 (AA ad 8 sz) := by
  refine Mof (Qc := Qi D aI aL 8 shM ad r0 σ) (by decide) inj (Nat.le_of_ble_eq_true rfl) ?_
  intro p e s m args below meth c ls C hlk hr hP hl
  have hx := C.1.1
  have hb_ := C.1.2.1
  have hown := C.1.2.2.2.1
  have hts := C.1.2.2.2.2
  have hl : lv_has ls 1 [(0, .ref (ad 0))] := hl
  have bk : ∀ (y : Int32), f_X9_beginnings σ = some y → y = r0 → ∀ (H : Heap) (locs : List Loc), HS D aI aL 8 shM ad σ s H locs → W p l e (RM 0 0) s m args below meth c H locs 0 0 (MQ below (Qi D aI aL 8 shM ad r0 σ s.heap.size) args s 0 0 (AA ad 8 s.heap.size)) (F0 m 0 ls []) := by
    intro y h hK H locs hP
    unfold f_X9_beginnings at h
    refine lv_aload_n hx hb_ dX9_beginnings_0 rfl (lv_at hl 0 rfl) ?_
    refine w_get C hP (k := 0) (by decide) 7 rfl rfl inWX9 0 (by decide) wt784 (v := .ref (ad 1)) rfl dX9_beginnings_1 ?_
    refine lv_iconst (v := 1) hx hb_ dX9_beginnings_4 (by decide) ?_
    obtain ⟨x1, hx1, h⟩ := bnd h
    refine w_ald C hP (k := 1) (by decide) (n := 660) rfl hx1 dX9_beginnings_5 ?_
    refine lv_aload_n hx hb_ dX9_beginnings_6 rfl (lv_at hl 0 rfl) ?_
    refine w_get C hP (k := 0) (by decide) 7 rfl rfl inWX9 0 (by decide) wt784 (v := .ref (ad 1)) rfl dX9_beginnings_7 ?_
    refine lv_iconst (v := 2) hx hb_ dX9_beginnings_10 (by decide) ?_
    obtain ⟨x2, hx2, h⟩ := bnd h
    refine w_ald C hP (k := 1) (by decide) (n := 660) rfl hx2 dX9_beginnings_11 ?_
    refine lv_iand hx hb_ dX9_beginnings_12 ?_
    obtain rfl := Option.some.inj h
    have hK : ((x1 &&& x2) : Int32) = r0 := hK
    exact w_iret C hlk hr hP hK rfl dX9_beginnings_13
  exact bk r0 hf rfl _ _ hP
theorem hd_X9_reach : yX9_reach.cls = RX9 ∧ yX9_reach.cls ≠ "java/lang/invoke/MethodHandle" ∧ yX9_reach.cls ≠ "java/lang/invoke/VarHandle" ∧ (parseMethodDescriptor yX9_reach.desc).map (fun d => d.parameters.length) = some 1 := by decide +kernel
set_option maxHeartbeats 4000000 in
set_option maxRecDepth 100000 in
theorem c_X9_reach (l : Launch) (D : va_G) (aI aL : ClassId) (ad : Nat → Nat) (inj : Inj ad 8) (sz : Nat) (σ : Sg) (v1 : Int32) (r0 : Int32) (hf : f_X9_reach v1 σ = some r0) : Met l yX9_reach (wS yX9_reach cX9_reach 2 (some .int)) (RM 3 69) (Pw D aI aL 8 shM ad sz σ [.ref (ad 0), .int v1]) (Qi D aI aL 8 shM ad r0 σ sz) 0 0 (AA ad 8 sz) := by
  refine Mof (Qc := Qi D aI aL 8 shM ad r0 σ) (by decide) inj (Nat.le_of_ble_eq_true rfl) ?_
  intro p e s m args below meth c ls C hlk hr hP hl
  have hx := C.1.1
  have hb_ := C.1.2.1
  have hown := C.1.2.2.2.1
  have hts := C.1.2.2.2.2
  have hl : lv_has ls 2 [(0, .ref (ad 0)), (1, .int v1)] := hl
  have bk_17 : ∀ (t0_17 : Int32) (y : Int32), f_X9_reach_17 t0_17 σ = some y → (fun y => y = r0) y → ∀ (H : Heap) (locs : List Loc) (ls : Array Slot), HS D aI aL 8 shM ad σ s H locs → lv_has ls 2 [] → W p l e (RM 3 69) s m args below meth c H locs 0 0 (MQ below (Qi D aI aL 8 shM ad r0 σ s.heap.size) args s 0 0 (AA ad 8 s.heap.size)) (F0 m 17 ls [.int t0_17]) := by
    intro t0_17 y h hK H locs ls hP hl
    unfold f_X9_reach_17 at h
    obtain rfl := Option.some.inj h
    have hK : (t0_17 : Int32) = r0 := hK
    exact w_iret C hlk hr hP hK rfl dX9_reach_17
  have bk : ∀ (y : Int32), f_X9_reach v1 σ = some y → y = r0 → ∀ (H : Heap) (locs : List Loc), HS D aI aL 8 shM ad σ s H locs → W p l e (RM 3 69) s m args below meth c H locs 0 0 (MQ below (Qi D aI aL 8 shM ad r0 σ s.heap.size) args s 0 0 (AA ad 8 s.heap.size)) (F0 m 0 ls []) := by
    intro y h hK H locs hP
    unfold f_X9_reach at h
    refine lv_aload_n hx hb_ dX9_reach_0 rfl (lv_at hl 0 rfl) ?_
    refine lv_iload_n hx hb_ dX9_reach_1 rfl (lv_at hl 1 rfl) ?_
    obtain ⟨q1, hq1, h⟩ := bnd h
    refine w_ci (w_rV (As := [.int v1]) (rest := []) C hP (k := 0) (c_X9_isSet l D aI aL ad inj _ σ v1 q1 hq1) (gV wt926 wt928 wp26 wt12 wt929) 1 hd_X9_isSet ⟨Nat.le_of_ble_eq_true rfl, Nat.le_of_ble_eq_true rfl⟩ (by decide) 7 rfl rfl rfl hl.1 rfl (Nat.le_of_ble_eq_true rfl) dX9_reach_2) hP (fun H locs hP => ?_)
    refine lv_if_eq (tgt := 16) hx hb_ dX9_reach_5 (by decide) (fun hc => ?_) (fun hc => ?_)
    · replace h := ift h hc
      refine lv_iconst (v := (-1)) hx hb_ dX9_reach_16 (by decide) ?_
      exact bk_17 (-1) y h hK _ _ _ hP (lv_sub hl [] rfl)
    · replace h := iff' h hc
      refine lv_aload_n hx hb_ dX9_reach_8 rfl (lv_at hl 0 rfl) ?_
      refine lv_iload_n hx hb_ dX9_reach_9 rfl (lv_at hl 1 rfl) ?_
      obtain ⟨q2, hq2, h⟩ := bnd h
      refine w_ci (w_rV (As := [.int v1]) (rest := []) C hP (k := 0) (c_X9_reachOf l D aI aL ad inj _ σ v1 q2 hq2) (gV wt930 wt932 wp27 wt12 wt933) 1 hd_X9_reachOf ⟨Nat.le_of_ble_eq_true rfl, Nat.le_of_ble_eq_true rfl⟩ (by decide) 7 rfl rfl rfl hl.1 rfl (Nat.le_of_ble_eq_true rfl) dX9_reach_10) hP (fun H locs hP => ?_)
      refine lv_goto (tgt := 17) hx hb_ dX9_reach_13 (by decide) ?_
      exact bk_17 q2 y h hK _ _ _ hP (lv_sub hl [] rfl)
  exact bk r0 hf rfl _ _ hP
theorem hd_X9_mayFrom : yX9_mayFrom.cls = RX9 ∧ yX9_mayFrom.cls ≠ "java/lang/invoke/MethodHandle" ∧ yX9_mayFrom.cls ≠ "java/lang/invoke/VarHandle" ∧ (parseMethodDescriptor yX9_mayFrom.desc).map (fun d => d.parameters.length) = some 2 := by decide +kernel
set_option maxHeartbeats 4000000 in
set_option maxRecDepth 100000 in
theorem c_X9_mayFrom (l : Launch) (D : va_G) (aI aL : ClassId) (ad : Nat → Nat) (inj : Inj ad 8) (sz : Nat) (σ : Sg) (v1 : Int32) (v2 : Int32) (r0 : Int32) (hf : f_X9_mayFrom v1 v2 σ = some r0) : Met l yX9_mayFrom (wS yX9_mayFrom cX9_mayFrom 3 (some .boolean)) (RM 1 21) (Pw D aI aL 8 shM ad sz σ [.ref (ad 0), .int v1, .int v2]) (Qi D aI aL 8 shM ad r0 σ sz) 0 0 (AA ad 8 sz) := by
  refine Mof (Qc := Qi D aI aL 8 shM ad r0 σ) (by decide) inj (Nat.le_of_ble_eq_true rfl) ?_
  intro p e s m args below meth c ls C hlk hr hP hl
  have hx := C.1.1
  have hb_ := C.1.2.1
  have hown := C.1.2.2.2.1
  have hts := C.1.2.2.2.2
  have hl : lv_has ls 3 [(0, .ref (ad 0)), (1, .int v1), (2, .int v2)] := hl
  have bk_73 : ∀ (t0_73 : Int32) (y : Int32), f_X9_mayFrom_73 t0_73 σ = some y → (fun y => y = r0) y → ∀ (H : Heap) (locs : List Loc) (ls : Array Slot), HS D aI aL 8 shM ad σ s H locs → lv_has ls 3 [] → W p l e (RM 1 21) s m args below meth c H locs 0 0 (MQ below (Qi D aI aL 8 shM ad r0 σ s.heap.size) args s 0 0 (AA ad 8 s.heap.size)) (F0 m 73 ls [.int t0_73]) := by
    intro t0_73 y h hK H locs ls hP hl
    unfold f_X9_mayFrom_73 at h
    obtain ⟨x4, hx4, h⟩ := bnd h
    obtain rfl := Option.some.inj h
    have hK : (x4 : Int32) = r0 := hK
    exact w_zret C hlk hr hP hx4 hK rfl dX9_mayFrom_73
  have bk_72 : ∀ (y : Int32), f_X9_mayFrom_72 σ = some y → (fun y => y = r0) y → ∀ (H : Heap) (locs : List Loc) (ls : Array Slot), HS D aI aL 8 shM ad σ s H locs → lv_has ls 3 [] → W p l e (RM 1 21) s m args below meth c H locs 0 0 (MQ below (Qi D aI aL 8 shM ad r0 σ s.heap.size) args s 0 0 (AA ad 8 s.heap.size)) (F0 m 72 ls []) := by
    intro y h hK H locs ls hP hl
    unfold f_X9_mayFrom_72 at h
    refine lv_iconst (v := 0) hx hb_ dX9_mayFrom_72 (by decide) ?_
    exact bk_73 0 y h hK _ _ _ hP (lv_sub hl [] rfl)
  have bk : ∀ (y : Int32), f_X9_mayFrom v1 v2 σ = some y → y = r0 → ∀ (H : Heap) (locs : List Loc), HS D aI aL 8 shM ad σ s H locs → W p l e (RM 1 21) s m args below meth c H locs 0 0 (MQ below (Qi D aI aL 8 shM ad r0 σ s.heap.size) args s 0 0 (AA ad 8 s.heap.size)) (F0 m 0 ls []) := by
    intro y h hK H locs hP
    unfold f_X9_mayFrom at h
    refine lv_aload_n hx hb_ dX9_mayFrom_0 rfl (lv_at hl 0 rfl) ?_
    refine w_get C hP (k := 0) (by decide) 7 rfl rfl inWX9 0 (by decide) wt784 (v := .ref (ad 1)) rfl dX9_mayFrom_1 ?_
    refine lv_iconst (v := 2) hx hb_ dX9_mayFrom_4 (by decide) ?_
    obtain ⟨x1, hx1, h⟩ := bnd h
    refine w_ald C hP (k := 1) (by decide) (n := 660) rfl hx1 dX9_mayFrom_5 ?_
    refine lv_aload_n hx hb_ dX9_mayFrom_6 rfl (lv_at hl 0 rfl) ?_
    refine w_get C hP (k := 0) (by decide) 7 rfl rfl inWX9 0 (by decide) wt784 (v := .ref (ad 1)) rfl dX9_mayFrom_7 ?_
    refine lv_bipush (v := 25) hx hb_ dX9_mayFrom_10 (by decide) ?_
    refine lv_iload_n hx hb_ dX9_mayFrom_12 rfl (lv_at hl 2 rfl) ?_
    refine lv_iadd hx hb_ dX9_mayFrom_13 ?_
    obtain ⟨x2, hx2, h⟩ := bnd h
    refine w_ald C hP (k := 1) (by decide) (n := 660) rfl hx2 dX9_mayFrom_14 ?_
    obtain ⟨q3, hq3, h⟩ := bnd h
    refine w_ci (w_rS (As := [.int x1, .int x2]) (rest := []) C hP (c_X9_has l D aI aL ad inj _ σ x1 x2 q3 hq3) wt896 wt897 wt12 wt898 2 hd_X9_has ⟨Nat.le_of_ble_eq_true rfl, Nat.le_of_ble_eq_true rfl⟩ rfl hl.1 rfl (Nat.le_of_ble_eq_true rfl) dX9_mayFrom_15) hP (fun H locs hP => ?_)
    refine lv_if_eq (tgt := 72) hx hb_ dX9_mayFrom_18 (by decide) (fun hc => ?_) (fun hc => ?_)
    · replace h := ift h hc
      exact bk_72 y h hK _ _ _ hP (lv_sub hl [] rfl)
    · replace h := iff' h hc
      refine lv_iload_n hx hb_ dX9_mayFrom_21 rfl (lv_at hl 1 rfl) ?_
      refine lv_aload_n hx hb_ dX9_mayFrom_22 rfl (lv_at hl 0 rfl) ?_
      refine w_get C hP (k := 0) (by decide) 7 rfl rfl inWX9 0 (by decide) wt784 (v := .ref (ad 1)) rfl dX9_mayFrom_23 ?_
      refine lv_bipush (v := 25) hx hb_ dX9_mayFrom_26 (by decide) ?_
      refine lv_iload_n hx hb_ dX9_mayFrom_28 rfl (lv_at hl 2 rfl) ?_
      refine lv_iadd hx hb_ dX9_mayFrom_29 ?_
      obtain ⟨x5, hx5, h⟩ := bnd h
      refine w_ald C hP (k := 1) (by decide) (n := 660) rfl hx5 dX9_mayFrom_30 ?_
      obtain ⟨q6, hq6, h⟩ := bnd h
      refine w_ci (w_rS (As := [.int v1, .int x5]) (rest := []) C hP (c_X9_has l D aI aL ad inj _ σ v1 x5 q6 hq6) wt896 wt897 wt12 wt898 2 hd_X9_has ⟨Nat.le_of_ble_eq_true rfl, Nat.le_of_ble_eq_true rfl⟩ rfl hl.1 rfl (Nat.le_of_ble_eq_true rfl) dX9_mayFrom_31) hP (fun H locs hP => ?_)
      refine lv_if_ne (tgt := 72) hx hb_ dX9_mayFrom_34 (by decide) (fun hc => ?_) (fun hc => ?_)
      · replace h := iff' h hc
        exact bk_72 y h hK _ _ _ hP (lv_sub hl [] rfl)
      · replace h := ift h hc
        refine lv_iload_n hx hb_ dX9_mayFrom_37 rfl (lv_at hl 1 rfl) ?_
        refine lv_aload_n hx hb_ dX9_mayFrom_38 rfl (lv_at hl 0 rfl) ?_
        refine w_get C hP (k := 0) (by decide) 7 rfl rfl inWX9 0 (by decide) wt784 (v := .ref (ad 1)) rfl dX9_mayFrom_39 ?_
        refine lv_iconst (v := 5) hx hb_ dX9_mayFrom_42 (by decide) ?_
        refine lv_iload_n hx hb_ dX9_mayFrom_43 rfl (lv_at hl 2 rfl) ?_
        refine lv_iadd hx hb_ dX9_mayFrom_44 ?_
        obtain ⟨x7, hx7, h⟩ := bnd h
        refine w_ald C hP (k := 1) (by decide) (n := 660) rfl hx7 dX9_mayFrom_45 ?_
        obtain ⟨q8, hq8, h⟩ := bnd h
        refine w_ci (w_rS (As := [.int v1, .int x7]) (rest := []) C hP (c_X9_has l D aI aL ad inj _ σ v1 x7 q8 hq8) wt896 wt897 wt12 wt898 2 hd_X9_has ⟨Nat.le_of_ble_eq_true rfl, Nat.le_of_ble_eq_true rfl⟩ rfl hl.1 rfl (Nat.le_of_ble_eq_true rfl) dX9_mayFrom_46) hP (fun H locs hP => ?_)
        refine lv_if_eq (tgt := 72) hx hb_ dX9_mayFrom_49 (by decide) (fun hc => ?_) (fun hc => ?_)
        · replace h := ift h hc
          exact bk_72 y h hK _ _ _ hP (lv_sub hl [] rfl)
        · replace h := iff' h hc
          refine lv_iload_n hx hb_ dX9_mayFrom_52 rfl (lv_at hl 1 rfl) ?_
          refine lv_aload_n hx hb_ dX9_mayFrom_53 rfl (lv_at hl 0 rfl) ?_
          refine w_get C hP (k := 0) (by decide) 7 rfl rfl inWX9 0 (by decide) wt784 (v := .ref (ad 1)) rfl dX9_mayFrom_54 ?_
          refine lv_bipush (v := 15) hx hb_ dX9_mayFrom_57 (by decide) ?_
          refine lv_iload_n hx hb_ dX9_mayFrom_59 rfl (lv_at hl 2 rfl) ?_
          refine lv_iadd hx hb_ dX9_mayFrom_60 ?_
          obtain ⟨x9, hx9, h⟩ := bnd h
          refine w_ald C hP (k := 1) (by decide) (n := 660) rfl hx9 dX9_mayFrom_61 ?_
          obtain ⟨q10, hq10, h⟩ := bnd h
          refine w_ci (w_rS (As := [.int v1, .int x9]) (rest := []) C hP (c_X9_has l D aI aL ad inj _ σ v1 x9 q10 hq10) wt896 wt897 wt12 wt898 2 hd_X9_has ⟨Nat.le_of_ble_eq_true rfl, Nat.le_of_ble_eq_true rfl⟩ rfl hl.1 rfl (Nat.le_of_ble_eq_true rfl) dX9_mayFrom_62) hP (fun H locs hP => ?_)
          refine lv_if_eq (tgt := 72) hx hb_ dX9_mayFrom_65 (by decide) (fun hc => ?_) (fun hc => ?_)
          · replace h := ift h hc
            exact bk_72 y h hK _ _ _ hP (lv_sub hl [] rfl)
          · replace h := iff' h hc
            refine lv_iconst (v := 1) hx hb_ dX9_mayFrom_68 (by decide) ?_
            refine lv_goto (tgt := 73) hx hb_ dX9_mayFrom_69 (by decide) ?_
            exact bk_73 1 y h hK _ _ _ hP (lv_sub hl [] rfl)
  exact bk r0 hf rfl _ _ hP
theorem hd_X9_layWalks : yX9_layWalks.cls = RX9 ∧ yX9_layWalks.cls ≠ "java/lang/invoke/MethodHandle" ∧ yX9_layWalks.cls ≠ "java/lang/invoke/VarHandle" ∧ (parseMethodDescriptor yX9_layWalks.desc).map (fun d => d.parameters.length) = some 1 := by decide +kernel
set_option maxHeartbeats 4000000 in
set_option maxRecDepth 100000 in
theorem c_X9_layWalks (l : Launch) (D : va_G) (aI aL : ClassId) (ad : Nat → Nat) (inj : Inj ad 8) (sz : Nat) (σ : Sg) (v1 : Int32) (r0 : Sg) (hf : f_X9_layWalks v1 σ = some r0) : Met l yX9_layWalks (wS yX9_layWalks cX9_layWalks 5 (none : Option Jvm.ClassFile.FieldType)) (RM 2 43) (Pw D aI aL 8 shM ad sz σ [.ref (ad 0), .int v1]) (Qv D aI aL 8 shM ad r0 sz) 0 0 (AA ad 8 sz) := by
  refine Mof (Qc := Qv D aI aL 8 shM ad r0) (by decide) inj (Nat.le_of_ble_eq_true rfl) ?_
  intro p e s m args below meth c ls C hlk hr hP hl
  have hx := C.1.1
  have hb_ := C.1.2.1
  have hown := C.1.2.2.2.1
  have hts := C.1.2.2.2.2
  have hl : lv_has ls 5 [(0, .ref (ad 0)), (1, .int v1)] := hl
  have lp_11 : ∀ (n_11 : Nat) (v2_11 : Int32) (s_11 : Sg) (y : Sg), itr n_11 (fun s => f_X9_layWalks_11s v1 s.1 s.2) (v2_11, s_11) = some y → (fun y => y = r0) y → ∀ (H : Heap) (locs : List Loc) (ls : Array Slot), HS D aI aL 8 shM ad s_11 s H locs → lv_has ls 5 [(0, .ref (ad 0)), (1, .int v1), (2, .int v2_11)] → W p l e (RM 2 43) s m args below meth c H locs 0 0 (MQ below (Qv D aI aL 8 shM ad r0 s.heap.size) args s 0 0 (AA ad 8 s.heap.size)) (F0 m 11 ls []) := by
    intro n_11
    induction n_11 with
    | zero =>
      intro v2_11 s_11 y h hK
      cases (show (none : Option Sg) = some y from h)
    | succ n_11 ih_11 =>
      have bk_233 : ∀ (v2_233 : Int32) (s_233 : Sg) (y : ((Int32 × Sg) ⊕ Sg)), f_X9_layWalks_233 v1 v2_233 s_233 = some y → (KK n_11 (fun s => f_X9_layWalks_11s v1 s.1 s.2) (fun y => y = r0)) y → ∀ (H : Heap) (locs : List Loc) (ls : Array Slot), HS D aI aL 8 shM ad s_233 s H locs → lv_has ls 5 [(0, .ref (ad 0)), (1, .int v1), (2, .int v2_233)] → W p l e (RM 2 43) s m args below meth c H locs 0 0 (MQ below (Qv D aI aL 8 shM ad r0 s.heap.size) args s 0 0 (AA ad 8 s.heap.size)) (F0 m 233 ls []) := by
        intro v2_233 s_233 y h hK H locs ls hP hl
        unfold f_X9_layWalks_233 at h
        obtain ⟨x8, hx8, h⟩ := nm_inv h
        refine lv_iinc (v := x8) (lv' := [(2, .int x8), (0, .ref (ad 0)), (1, .int v1)]) hx hb_ dX9_layWalks_233 hl (k := 2) rfl (by rw [hx8]; rfl) (by decide) rfl (fun ls hl => ?_)
        refine lv_goto (tgt := 11) hx hb_ dX9_layWalks_236 (by decide) ?_
        obtain rfl := Option.some.inj h
        obtain ⟨y2, h, hK⟩ := hK
        exact ih_11 x8 s_233 y2 h hK _ _ _ hP (lv_sub hl [1, 2, 0] rfl)
      have lp_56 : ∀ (v2_56 : Int32) (n_56 : Nat) (v3_56 : Int32) (s_56 : Sg) (y : ((Int32 × Sg) ⊕ Sg)), itr n_56 (fun s => f_X9_layWalks_56s v1 v2_56 s.1 s.2) (v3_56, s_56) = some y → (KK n_11 (fun s => f_X9_layWalks_11s v1 s.1 s.2) (fun y => y = r0)) y → ∀ (H : Heap) (locs : List Loc) (ls : Array Slot), HS D aI aL 8 shM ad s_56 s H locs → lv_has ls 5 [(0, .ref (ad 0)), (1, .int v1), (2, .int v2_56), (3, .int v3_56)] → W p l e (RM 2 43) s m args below meth c H locs 0 0 (MQ below (Qv D aI aL 8 shM ad r0 s.heap.size) args s 0 0 (AA ad 8 s.heap.size)) (F0 m 56 ls []) := by
        intro v2_56 n_56
        induction n_56 with
        | zero =>
          intro v3_56 s_56 y h hK
          cases (show (none : Option ((Int32 × Sg) ⊕ Sg)) = some y from h)
        | succ n_56 ih_56 =>
          have bk_227 : ∀ (v3_227 : Int32) (s_227 : Sg) (y : ((Int32 × Sg) ⊕ ((Int32 × Sg) ⊕ Sg))), f_X9_layWalks_227 v1 v2_56 v3_227 s_227 = some y → (KK n_56 (fun s => f_X9_layWalks_56s v1 v2_56 s.1 s.2) (KK n_11 (fun s => f_X9_layWalks_11s v1 s.1 s.2) (fun y => y = r0))) y → ∀ (H : Heap) (locs : List Loc) (ls : Array Slot), HS D aI aL 8 shM ad s_227 s H locs → lv_has ls 5 [(0, .ref (ad 0)), (1, .int v1), (2, .int v2_56), (3, .int v3_227)] → W p l e (RM 2 43) s m args below meth c H locs 0 0 (MQ below (Qv D aI aL 8 shM ad r0 s.heap.size) args s 0 0 (AA ad 8 s.heap.size)) (F0 m 227 ls []) := by
            intro v3_227 s_227 y h hK H locs ls hP hl
            unfold f_X9_layWalks_227 at h
            obtain ⟨x13, hx13, h⟩ := nm_inv h
            refine lv_iinc (v := x13) (lv' := [(3, .int x13), (0, .ref (ad 0)), (1, .int v1), (2, .int v2_56)]) hx hb_ dX9_layWalks_227 hl (k := 3) rfl (by rw [hx13]; rfl) (by decide) rfl (fun ls hl => ?_)
            refine lv_goto (tgt := 56) hx hb_ dX9_layWalks_230 (by decide) ?_
            obtain rfl := Option.some.inj h
            obtain ⟨y2, h, hK⟩ := hK
            exact ih_56 x13 s_227 y2 h hK _ _ _ hP (lv_sub hl [1, 2, 3, 0] rfl)
          have bk_226 : ∀ (v3_226 : Int32) (t1_226 : Int32) (t2_226 : Int32) (s_226 : Sg) (y : ((Int32 × Sg) ⊕ ((Int32 × Sg) ⊕ Sg))), f_X9_layWalks_226 v1 v2_56 v3_226 t1_226 t2_226 s_226 = some y → (KK n_56 (fun s => f_X9_layWalks_56s v1 v2_56 s.1 s.2) (KK n_11 (fun s => f_X9_layWalks_11s v1 s.1 s.2) (fun y => y = r0))) y → ∀ (H : Heap) (locs : List Loc) (ls : Array Slot), HS D aI aL 8 shM ad s_226 s H locs → lv_has ls 5 [(0, .ref (ad 0)), (1, .int v1), (2, .int v2_56), (3, .int v3_226)] → W p l e (RM 2 43) s m args below meth c H locs 0 0 (MQ below (Qv D aI aL 8 shM ad r0 s.heap.size) args s 0 0 (AA ad 8 s.heap.size)) (F0 m 226 ls [.int t2_226, .int t1_226, .ref (ad 6)]) := by
            intro v3_226 t1_226 t2_226 s_226 y h hK H locs ls hP hl
            unfold f_X9_layWalks_226 at h
            obtain ⟨s24, hs24, h⟩ := bnd h
            refine w_ast C hP (k := 6) (by decide) (n := 1024) rfl hs24 dX9_layWalks_226 (fun H locs hP => ?_)
            exact bk_227 v3_226 s24 y h hK _ _ _ hP (lv_sub hl [0, 1, 2, 3] rfl)
          have bk_184 : ∀ (v3_184 : Int32) (v4_184 : Int32) (t1_184 : Int32) (t2_184 : Int64) (s_184 : Sg) (y : ((Int32 × Sg) ⊕ ((Int32 × Sg) ⊕ Sg))), f_X9_layWalks_184 v1 v2_56 v3_184 v4_184 t1_184 t2_184 s_184 = some y → (KK n_56 (fun s => f_X9_layWalks_56s v1 v2_56 s.1 s.2) (KK n_11 (fun s => f_X9_layWalks_11s v1 s.1 s.2) (fun y => y = r0))) y → ∀ (H : Heap) (locs : List Loc) (ls : Array Slot), HS D aI aL 8 shM ad s_184 s H locs → lv_has ls 5 [(0, .ref (ad 0)), (1, .int v1), (2, .int v2_56), (3, .int v3_184), (4, .int v4_184)] → W p l e (RM 2 43) s m args below meth c H locs 0 0 (MQ below (Qv D aI aL 8 shM ad r0 s.heap.size) args s 0 0 (AA ad 8 s.heap.size)) (F0 m 184 ls [.long t2_184, .int t1_184, .ref (ad 5)]) := by
            intro v3_184 v4_184 t1_184 t2_184 s_184 y h hK H locs ls hP hl
            unfold f_X9_layWalks_184 at h
            obtain ⟨s20, hs20, h⟩ := bnd h
            refine w_astL C hP (k := 5) (by decide) (n := 1024) rfl hs20 dX9_layWalks_184 (fun H locs hP => ?_)
            refine lv_aload_n hx hb_ dX9_layWalks_185 rfl (lv_at hl 0 rfl) ?_
            refine w_get C hP (k := 0) (by decide) 7 rfl rfl inWX9 11 (by decide) wt795 (v := .ref (ad 6)) rfl dX9_layWalks_186 ?_
            refine lv_iload_n hx hb_ dX9_layWalks_189 rfl (lv_at hl 2 rfl) ?_
            refine lv_aload_n hx hb_ dX9_layWalks_190 rfl (lv_at hl 0 rfl) ?_
            refine w_get C hP (k := 0) (by decide) 7 rfl rfl inWX9 11 (by decide) wt795 (v := .ref (ad 6)) rfl dX9_layWalks_191 ?_
            refine lv_iload hx hb_ dX9_layWalks_194 (lv_at hl 4 rfl) ?_
            obtain ⟨x21, hx21, h⟩ := bnd h
            refine w_ald C hP (k := 6) (by decide) (n := 1024) rfl hx21 dX9_layWalks_196 ?_
            refine lv_iconst (v := 1) hx hb_ dX9_layWalks_197 (by decide) ?_
            refine lv_iadd hx hb_ dX9_layWalks_198 ?_
            refine lv_aload_n hx hb_ dX9_layWalks_199 rfl (lv_at hl 0 rfl) ?_
            refine w_get C hP (k := 0) (by decide) 7 rfl rfl inWX9 11 (by decide) wt795 (v := .ref (ad 6)) rfl dX9_layWalks_200 ?_
            refine lv_iload_n hx hb_ dX9_layWalks_203 rfl (lv_at hl 2 rfl) ?_
            obtain ⟨x22, hx22, h⟩ := bnd h
            refine w_ald C hP (k := 6) (by decide) (n := 1024) rfl hx22 dX9_layWalks_204 ?_
            refine lv_icmp_ge (tgt := 220) hx hb_ dX9_layWalks_205 (by decide) (fun hc => ?_) (fun hc => ?_)
            · replace h := ift h hc
              refine lv_aload_n hx hb_ dX9_layWalks_220 rfl (lv_at hl 0 rfl) ?_
              refine w_get C hP (k := 0) (by decide) 7 rfl rfl inWX9 11 (by decide) wt795 (v := .ref (ad 6)) rfl dX9_layWalks_221 ?_
              refine lv_iload_n hx hb_ dX9_layWalks_224 rfl (lv_at hl 2 rfl) ?_
              obtain ⟨x23, hx23, h⟩ := bnd h
              refine w_ald C hP (k := 6) (by decide) (n := 1024) rfl hx23 dX9_layWalks_225 ?_
              exact bk_226 v3_184 v2_56 x23 s20 y h hK _ _ _ hP (lv_sub hl [0, 1, 2, 3] rfl)
            · replace h := iff' h hc
              refine lv_aload_n hx hb_ dX9_layWalks_208 rfl (lv_at hl 0 rfl) ?_
              refine w_get C hP (k := 0) (by decide) 7 rfl rfl inWX9 11 (by decide) wt795 (v := .ref (ad 6)) rfl dX9_layWalks_209 ?_
              refine lv_iload hx hb_ dX9_layWalks_212 (lv_at hl 4 rfl) ?_
              obtain ⟨x25, hx25, h⟩ := bnd h
              refine w_ald C hP (k := 6) (by decide) (n := 1024) rfl hx25 dX9_layWalks_214 ?_
              refine lv_iconst (v := 1) hx hb_ dX9_layWalks_215 (by decide) ?_
              refine lv_iadd hx hb_ dX9_layWalks_216 ?_
              refine lv_goto (tgt := 226) hx hb_ dX9_layWalks_217 (by decide) ?_
              exact bk_226 v3_184 v2_56 (x25 + (1 : Int32)) s20 y h hK _ _ _ hP (lv_sub hl [0, 1, 2, 3] rfl)
          intro v3_56 s_56 y h hK H locs ls hP hl
          obtain ⟨y, h, hK⟩ := itr_inv (K := (KK n_11 (fun s => f_X9_layWalks_11s v1 s.1 s.2) (fun y => y = r0))) h hK
          replace h : f_X9_layWalks_56s v1 v2_56 v3_56 s_56 = some y := h
          unfold f_X9_layWalks_56s at h
          refine lv_iload_n hx hb_ dX9_layWalks_56 rfl (lv_at hl 3 rfl) ?_
          refine lv_aload_n hx hb_ dX9_layWalks_57 rfl (lv_at hl 0 rfl) ?_
          refine w_get C hP (k := 0) (by decide) 7 rfl rfl inWX9 0 (by decide) wt784 (v := .ref (ad 1)) rfl dX9_layWalks_58 ?_
          refine lv_iconst (v := 4) hx hb_ dX9_layWalks_61 (by decide) ?_
          obtain ⟨x7, hx7, h⟩ := bnd h
          refine w_ald C hP (k := 1) (by decide) (n := 660) rfl hx7 dX9_layWalks_62 ?_
          refine lv_icmp_ge (tgt := 233) hx hb_ dX9_layWalks_63 (by decide) (fun hc => ?_) (fun hc => ?_)
          · replace h := ift h hc
            obtain ⟨y2, h2, rfl⟩ := mapi h
            exact bk_233 v2_56 s_56 y2 h2 hK _ _ _ hP (lv_sub hl [0, 1, 2] rfl)
          · replace h := iff' h hc
            refine lv_iload_n hx hb_ dX9_layWalks_66 rfl (lv_at hl 2 rfl) ?_
            refine lv_iload_n hx hb_ dX9_layWalks_67 rfl (lv_at hl 1 rfl) ?_
            obtain ⟨q9, hq9, h⟩ := bnd h
            refine w_ci (w_rS (As := [.int v2_56, .int v1]) (rest := []) C hP (c_X9_has l D aI aL ad inj _ s_56 v2_56 v1 q9 hq9) wt896 wt897 wt12 wt898 2 hd_X9_has ⟨Nat.le_of_ble_eq_true rfl, Nat.le_of_ble_eq_true rfl⟩ rfl hl.1 rfl (Nat.le_of_ble_eq_true rfl) dX9_layWalks_68) hP (fun H locs hP => ?_)
            refine lv_if_ne (tgt := 233) hx hb_ dX9_layWalks_71 (by decide) (fun hc => ?_) (fun hc => ?_)
            · replace h := iff' h hc
              obtain ⟨y2, h2, rfl⟩ := mapi h
              exact bk_233 v2_56 s_56 y2 h2 hK _ _ _ hP (lv_sub hl [0, 1, 2] rfl)
            · replace h := ift h hc
              refine lv_iload_n hx hb_ dX9_layWalks_74 rfl (lv_at hl 2 rfl) ?_
              refine lv_iconst (v := 1) hx hb_ dX9_layWalks_75 (by decide) ?_
              refine lv_aload_n hx hb_ dX9_layWalks_76 rfl (lv_at hl 0 rfl) ?_
              refine w_get C hP (k := 0) (by decide) 7 rfl rfl inWX9 0 (by decide) wt784 (v := .ref (ad 1)) rfl dX9_layWalks_77 ?_
              refine lv_bipush (v := 25) hx hb_ dX9_layWalks_80 (by decide) ?_
              refine lv_iload_n hx hb_ dX9_layWalks_82 rfl (lv_at hl 3 rfl) ?_
              refine lv_iadd hx hb_ dX9_layWalks_83 ?_
              obtain ⟨x10, hx10, h⟩ := bnd h
              refine w_ald C hP (k := 1) (by decide) (n := 660) rfl hx10 dX9_layWalks_84 ?_
              refine lv_ishl hx hb_ dX9_layWalks_85 ?_
              refine lv_ior hx hb_ dX9_layWalks_86 ?_
              obtain ⟨x11, hx11, h⟩ := nm_inv h
              refine w_ni hx11 ?_
              refine lv_istore (lv' := [(4, .int x11), (0, .ref (ad 0)), (1, .int v1), (2, .int v2_56), (3, .int v3_56)]) hx hb_ dX9_layWalks_87 hl (by decide) rfl (fun ls hl => ?_)
              refine lv_aload_n hx hb_ dX9_layWalks_89 rfl (lv_at hl 1 rfl) ?_
              refine lv_iload_n hx hb_ dX9_layWalks_90 rfl (lv_at hl 3 rfl) ?_
              refine lv_iload_n hx hb_ dX9_layWalks_91 rfl (lv_at hl 4 rfl) ?_
              obtain ⟨q12, hq12, h⟩ := bnd h
              refine w_ci (w_rV (As := [.int v2_56, .int v3_56]) (rest := []) C hP (k := 0) (c_X9_mayFrom l D aI aL ad inj _ s_56 v2_56 v3_56 q12 hq12) (gV wt952 wt954 wp31 wt12 wt955) 2 hd_X9_mayFrom ⟨Nat.le_of_ble_eq_true rfl, Nat.le_of_ble_eq_true rfl⟩ (by decide) 7 rfl rfl rfl hl.1 rfl (Nat.le_of_ble_eq_true rfl) dX9_layWalks_92) hP (fun H locs hP => ?_)
              refine lv_if_eq (tgt := 227) hx hb_ dX9_layWalks_95 (by decide) (fun hc => ?_) (fun hc => ?_)
              · replace h := ift h hc
                exact bk_227 v3_56 s_56 y h hK _ _ _ hP (lv_sub hl [1, 2, 3, 4] rfl)
              · replace h := iff' h hc
                refine lv_aload_n hx hb_ dX9_layWalks_98 rfl (lv_at hl 1 rfl) ?_
                refine w_get C hP (k := 0) (by decide) 7 rfl rfl inWX9 11 (by decide) wt795 (v := .ref (ad 6)) rfl dX9_layWalks_99 ?_
                refine lv_iload hx hb_ dX9_layWalks_102 (lv_at hl 0 rfl) ?_
                obtain ⟨x14, hx14, h⟩ := bnd h
                refine w_ald C hP (k := 6) (by decide) (n := 1024) rfl hx14 dX9_layWalks_104 ?_
                refine lv_bipush (v := 100) hx hb_ dX9_layWalks_105 (by decide) ?_
                refine lv_icmp_ge (tgt := 227) hx hb_ dX9_layWalks_107 (by decide) (fun hc => ?_) (fun hc => ?_)
                · replace h := ift h hc
                  exact bk_227 v3_56 s_56 y h hK _ _ _ hP (lv_sub hl [1, 2, 3, 4] rfl)
                · replace h := iff' h hc
                  refine lv_aload_n hx hb_ dX9_layWalks_110 rfl (lv_at hl 1 rfl) ?_
                  refine w_get C hP (k := 0) (by decide) 7 rfl rfl inWX9 10 (by decide) wt794 (v := .ref (ad 5)) rfl dX9_layWalks_111 ?_
                  refine lv_iload_n hx hb_ dX9_layWalks_114 rfl (lv_at hl 3 rfl) ?_
                  refine lv_aload_n hx hb_ dX9_layWalks_115 rfl (lv_at hl 1 rfl) ?_
                  refine w_get C hP (k := 0) (by decide) 7 rfl rfl inWX9 11 (by decide) wt795 (v := .ref (ad 6)) rfl dX9_layWalks_116 ?_
                  refine lv_iload hx hb_ dX9_layWalks_119 (lv_at hl 0 rfl) ?_
                  obtain ⟨x15, hx15, h⟩ := bnd h
                  refine w_ald C hP (k := 6) (by decide) (n := 1024) rfl hx15 dX9_layWalks_121 ?_
                  refine lv_iconst (v := 1) hx hb_ dX9_layWalks_122 (by decide) ?_
                  refine lv_iadd hx hb_ dX9_layWalks_123 ?_
                  refine lv_aload_n hx hb_ dX9_layWalks_124 rfl (lv_at hl 1 rfl) ?_
                  refine w_get C hP (k := 0) (by decide) 7 rfl rfl inWX9 11 (by decide) wt795 (v := .ref (ad 6)) rfl dX9_layWalks_125 ?_
                  refine lv_iload_n hx hb_ dX9_layWalks_128 rfl (lv_at hl 3 rfl) ?_
                  obtain ⟨x16, hx16, h⟩ := bnd h
                  refine w_ald C hP (k := 6) (by decide) (n := 1024) rfl hx16 dX9_layWalks_129 ?_
                  refine lv_icmp_ge (tgt := 143) hx hb_ dX9_layWalks_130 (by decide) (fun hc => ?_) (fun hc => ?_)
                  · replace h := ift h hc
                    refine lv_aload_n hx hb_ dX9_layWalks_143 rfl (lv_at hl 1 rfl) ?_
                    refine w_get C hP (k := 0) (by decide) 7 rfl rfl inWX9 11 (by decide) wt795 (v := .ref (ad 6)) rfl dX9_layWalks_144 ?_
                    refine lv_iload hx hb_ dX9_layWalks_147 (lv_at hl 0 rfl) ?_
                    obtain ⟨x17, hx17, h⟩ := bnd h
                    refine w_ald C hP (k := 6) (by decide) (n := 1024) rfl hx17 dX9_layWalks_149 ?_
                    refine lv_iconst (v := 1) hx hb_ dX9_layWalks_150 (by decide) ?_
                    refine lv_iadd hx hb_ dX9_layWalks_151 ?_
                    refine lv_aload_n hx hb_ dX9_layWalks_152 rfl (lv_at hl 1 rfl) ?_
                    refine w_get C hP (k := 0) (by decide) 7 rfl rfl inWX9 11 (by decide) wt795 (v := .ref (ad 6)) rfl dX9_layWalks_153 ?_
                    refine lv_iload_n hx hb_ dX9_layWalks_156 rfl (lv_at hl 3 rfl) ?_
                    obtain ⟨x18, hx18, h⟩ := bnd h
                    refine w_ald C hP (k := 6) (by decide) (n := 1024) rfl hx18 dX9_layWalks_157 ?_
                    refine lv_icmp_ne (tgt := 178) hx hb_ dX9_layWalks_158 (by decide) (fun hc => ?_) (fun hc => ?_)
                    · replace h := iff' h hc
                      refine lv_aload_n hx hb_ dX9_layWalks_178 rfl (lv_at hl 1 rfl) ?_
                      refine w_get C hP (k := 0) (by decide) 7 rfl rfl inWX9 10 (by decide) wt794 (v := .ref (ad 5)) rfl dX9_layWalks_179 ?_
                      refine lv_iload_n hx hb_ dX9_layWalks_182 rfl (lv_at hl 3 rfl) ?_
                      obtain ⟨x19, hx19, h⟩ := bnd h
                      refine w_aldL C hP (k := 5) (by decide) (n := 1024) rfl hx19 dX9_layWalks_183 ?_
                      exact bk_184 v3_56 x11 v2_56 x19 s_56 y h hK _ _ _ hP (lv_sub hl [1, 2, 3, 4, 0] rfl)
                    · replace h := ift h hc
                      refine lv_aload_n hx hb_ dX9_layWalks_161 rfl (lv_at hl 1 rfl) ?_
                      refine w_get C hP (k := 0) (by decide) 7 rfl rfl inWX9 10 (by decide) wt794 (v := .ref (ad 5)) rfl dX9_layWalks_162 ?_
                      refine lv_iload_n hx hb_ dX9_layWalks_165 rfl (lv_at hl 3 rfl) ?_
                      obtain ⟨x26, hx26, h⟩ := bnd h
                      refine w_aldL C hP (k := 5) (by decide) (n := 1024) rfl hx26 dX9_layWalks_166 ?_
                      refine lv_aload_n hx hb_ dX9_layWalks_167 rfl (lv_at hl 1 rfl) ?_
                      refine w_get C hP (k := 0) (by decide) 7 rfl rfl inWX9 10 (by decide) wt794 (v := .ref (ad 5)) rfl dX9_layWalks_168 ?_
                      refine lv_iload hx hb_ dX9_layWalks_171 (lv_at hl 0 rfl) ?_
                      obtain ⟨x27, hx27, h⟩ := bnd h
                      refine w_aldL C hP (k := 5) (by decide) (n := 1024) rfl hx27 dX9_layWalks_173 ?_
                      refine lv_ladd hx hb_ dX9_layWalks_174 ?_
                      refine lv_goto (tgt := 184) hx hb_ dX9_layWalks_175 (by decide) ?_
                      exact bk_184 v3_56 x11 v2_56 (x26 + x27) s_56 y h hK _ _ _ hP (lv_sub hl [1, 2, 3, 4, 0] rfl)
                  · replace h := iff' h hc
                    refine lv_aload_n hx hb_ dX9_layWalks_133 rfl (lv_at hl 1 rfl) ?_
                    refine w_get C hP (k := 0) (by decide) 7 rfl rfl inWX9 10 (by decide) wt794 (v := .ref (ad 5)) rfl dX9_layWalks_134 ?_
                    refine lv_iload hx hb_ dX9_layWalks_137 (lv_at hl 0 rfl) ?_
                    obtain ⟨x28, hx28, h⟩ := bnd h
                    refine w_aldL C hP (k := 5) (by decide) (n := 1024) rfl hx28 dX9_layWalks_139 ?_
                    refine lv_goto (tgt := 184) hx hb_ dX9_layWalks_140 (by decide) ?_
                    exact bk_184 v3_56 x11 v2_56 x28 s_56 y h hK _ _ _ hP (lv_sub hl [1, 2, 3, 4, 0] rfl)
      have bk_56 : ∀ (v2_56 : Int32) (v3_56 : Int32) (s_56 : Sg) (y : ((Int32 × Sg) ⊕ Sg)), f_X9_layWalks_56 v1 v2_56 v3_56 s_56 = some y → (KK n_11 (fun s => f_X9_layWalks_11s v1 s.1 s.2) (fun y => y = r0)) y → ∀ (H : Heap) (locs : List Loc) (ls : Array Slot), HS D aI aL 8 shM ad s_56 s H locs → lv_has ls 5 [(0, .ref (ad 0)), (1, .int v1), (2, .int v2_56), (3, .int v3_56)] → W p l e (RM 2 43) s m args below meth c H locs 0 0 (MQ below (Qv D aI aL 8 shM ad r0 s.heap.size) args s 0 0 (AA ad 8 s.heap.size)) (F0 m 56 ls []) := fun v2_56 v3_56 s_56 y h hK => lp_56 v2_56 3000 v3_56 s_56 y h hK
      have bk_53 : ∀ (v2_53 : Int32) (t1_53 : Int32) (t2_53 : Int64) (s_53 : Sg) (y : ((Int32 × Sg) ⊕ Sg)), f_X9_layWalks_53 v1 v2_53 t1_53 t2_53 s_53 = some y → (KK n_11 (fun s => f_X9_layWalks_11s v1 s.1 s.2) (fun y => y = r0)) y → ∀ (H : Heap) (locs : List Loc) (ls : Array Slot), HS D aI aL 8 shM ad s_53 s H locs → lv_has ls 5 [(0, .ref (ad 0)), (1, .int v1), (2, .int v2_53)] → W p l e (RM 2 43) s m args below meth c H locs 0 0 (MQ below (Qv D aI aL 8 shM ad r0 s.heap.size) args s 0 0 (AA ad 8 s.heap.size)) (F0 m 53 ls [.long t2_53, .int t1_53, .ref (ad 5)]) := by
        intro v2_53 t1_53 t2_53 s_53 y h hK H locs ls hP hl
        unfold f_X9_layWalks_53 at h
        obtain ⟨s6, hs6, h⟩ := bnd h
        refine w_astL C hP (k := 5) (by decide) (n := 1024) rfl hs6 dX9_layWalks_53 (fun H locs hP => ?_)
        refine lv_iconst (v := 0) hx hb_ dX9_layWalks_54 (by decide) ?_
        refine lv_istore_n (lv' := [(3, .int 0), (0, .ref (ad 0)), (1, .int v1), (2, .int v2_53)]) hx hb_ dX9_layWalks_55 rfl hl (by decide) rfl (fun ls hl => ?_)
        exact bk_56 v2_53 0 s6 y h hK _ _ _ hP (lv_sub hl [1, 2, 3, 0] rfl)
      have bk_34 : ∀ (v2_34 : Int32) (t1_34 : Int32) (t2_34 : Int32) (s_34 : Sg) (y : ((Int32 × Sg) ⊕ Sg)), f_X9_layWalks_34 v1 v2_34 t1_34 t2_34 s_34 = some y → (KK n_11 (fun s => f_X9_layWalks_11s v1 s.1 s.2) (fun y => y = r0)) y → ∀ (H : Heap) (locs : List Loc) (ls : Array Slot), HS D aI aL 8 shM ad s_34 s H locs → lv_has ls 5 [(0, .ref (ad 0)), (1, .int v1), (2, .int v2_34)] → W p l e (RM 2 43) s m args below meth c H locs 0 0 (MQ below (Qv D aI aL 8 shM ad r0 s.heap.size) args s 0 0 (AA ad 8 s.heap.size)) (F0 m 34 ls [.int t2_34, .int t1_34, .ref (ad 6)]) := by
        intro v2_34 t1_34 t2_34 s_34 y h hK H locs ls hP hl
        unfold f_X9_layWalks_34 at h
        obtain ⟨s4, hs4, h⟩ := bnd h
        refine w_ast C hP (k := 6) (by decide) (n := 1024) rfl hs4 dX9_layWalks_34 (fun H locs hP => ?_)
        refine lv_aload_n hx hb_ dX9_layWalks_35 rfl (lv_at hl 0 rfl) ?_
        refine w_get C hP (k := 0) (by decide) 7 rfl rfl inWX9 10 (by decide) wt794 (v := .ref (ad 5)) rfl dX9_layWalks_36 ?_
        refine lv_iload_n hx hb_ dX9_layWalks_39 rfl (lv_at hl 2 rfl) ?_
        refine lv_iload_n hx hb_ dX9_layWalks_40 rfl (lv_at hl 2 rfl) ?_
        refine lv_iload_n hx hb_ dX9_layWalks_41 rfl (lv_at hl 1 rfl) ?_
        obtain ⟨q5, hq5, h⟩ := bnd h
        refine w_ci (w_rS (As := [.int v2_34, .int v1]) (rest := [.int v2_34, .ref (ad 5)]) C hP (c_X9_has l D aI aL ad inj _ s4 v2_34 v1 q5 hq5) wt896 wt897 wt12 wt898 2 hd_X9_has ⟨Nat.le_of_ble_eq_true rfl, Nat.le_of_ble_eq_true rfl⟩ rfl hl.1 rfl (Nat.le_of_ble_eq_true rfl) dX9_layWalks_42) hP (fun H locs hP => ?_)
        refine lv_if_eq (tgt := 52) hx hb_ dX9_layWalks_45 (by decide) (fun hc => ?_) (fun hc => ?_)
        · replace h := ift h hc
          refine lv_lconst (v := 0) hx hb_ dX9_layWalks_52 (by decide) ?_
          exact bk_53 v2_34 v2_34 0 s4 y h hK _ _ _ hP (lv_sub hl [0, 1, 2] rfl)
        · replace h := iff' h hc
          refine lv_lconst (v := 1) hx hb_ dX9_layWalks_48 (by decide) ?_
          refine lv_goto (tgt := 53) hx hb_ dX9_layWalks_49 (by decide) ?_
          exact bk_53 v2_34 v2_34 1 s4 y h hK _ _ _ hP (lv_sub hl [0, 1, 2] rfl)
      intro v2_11 s_11 y h hK H locs ls hP hl
      obtain ⟨y, h, hK⟩ := itr_inv (K := (fun y => y = r0)) h hK
      replace h : f_X9_layWalks_11s v1 v2_11 s_11 = some y := h
      unfold f_X9_layWalks_11s at h
      refine lv_iload_n hx hb_ dX9_layWalks_11 rfl (lv_at hl 2 rfl) ?_
      refine lv_if_lt (tgt := 239) hx hb_ dX9_layWalks_12 (by decide) (fun hc => ?_) (fun hc => ?_)
      · replace h := ift h hc
        obtain rfl := Option.some.inj h
        have hK : s_11 = r0 := hK
        exact w_vret C hlk hr hP hK dX9_layWalks_239
      · replace h := iff' h hc
        refine lv_aload_n hx hb_ dX9_layWalks_15 rfl (lv_at hl 0 rfl) ?_
        refine w_get C hP (k := 0) (by decide) 7 rfl rfl inWX9 11 (by decide) wt795 (v := .ref (ad 6)) rfl dX9_layWalks_16 ?_
        refine lv_iload_n hx hb_ dX9_layWalks_19 rfl (lv_at hl 2 rfl) ?_
        refine lv_iload_n hx hb_ dX9_layWalks_20 rfl (lv_at hl 2 rfl) ?_
        refine lv_iload_n hx hb_ dX9_layWalks_21 rfl (lv_at hl 1 rfl) ?_
        obtain ⟨q3, hq3, h⟩ := bnd h
        refine w_ci (w_rS (As := [.int v2_11, .int v1]) (rest := [.int v2_11, .ref (ad 6)]) C hP (c_X9_has l D aI aL ad inj _ s_11 v2_11 v1 q3 hq3) wt896 wt897 wt12 wt898 2 hd_X9_has ⟨Nat.le_of_ble_eq_true rfl, Nat.le_of_ble_eq_true rfl⟩ rfl hl.1 rfl (Nat.le_of_ble_eq_true rfl) dX9_layWalks_22) hP (fun H locs hP => ?_)
        refine lv_if_eq (tgt := 32) hx hb_ dX9_layWalks_25 (by decide) (fun hc => ?_) (fun hc => ?_)
        · replace h := ift h hc
          refine lv_bipush (v := 100) hx hb_ dX9_layWalks_32 (by decide) ?_
          exact bk_34 v2_11 v2_11 100 s_11 y h hK _ _ _ hP (lv_sub hl [0, 1, 2] rfl)
        · replace h := iff' h hc
          refine lv_iconst (v := 0) hx hb_ dX9_layWalks_28 (by decide) ?_
          refine lv_goto (tgt := 34) hx hb_ dX9_layWalks_29 (by decide) ?_
          exact bk_34 v2_11 v2_11 0 s_11 y h hK _ _ _ hP (lv_sub hl [0, 1, 2] rfl)
  have bk_11 : ∀ (v2_11 : Int32) (s_11 : Sg) (y : Sg), f_X9_layWalks_11 v1 v2_11 s_11 = some y → (fun y => y = r0) y → ∀ (H : Heap) (locs : List Loc) (ls : Array Slot), HS D aI aL 8 shM ad s_11 s H locs → lv_has ls 5 [(0, .ref (ad 0)), (1, .int v1), (2, .int v2_11)] → W p l e (RM 2 43) s m args below meth c H locs 0 0 (MQ below (Qv D aI aL 8 shM ad r0 s.heap.size) args s 0 0 (AA ad 8 s.heap.size)) (F0 m 11 ls []) := fun v2_11 s_11 y h hK => lp_11 3000 v2_11 s_11 y h hK
  have bk : ∀ (y : Sg), f_X9_layWalks v1 σ = some y → y = r0 → ∀ (H : Heap) (locs : List Loc), HS D aI aL 8 shM ad σ s H locs → W p l e (RM 2 43) s m args below meth c H locs 0 0 (MQ below (Qv D aI aL 8 shM ad r0 s.heap.size) args s 0 0 (AA ad 8 s.heap.size)) (F0 m 0 ls []) := by
    intro y h hK H locs hP
    unfold f_X9_layWalks at h
    refine lv_iconst (v := 1) hx hb_ dX9_layWalks_0 (by decide) ?_
    refine lv_aload_n hx hb_ dX9_layWalks_1 rfl (lv_at hl 0 rfl) ?_
    refine w_get C hP (k := 0) (by decide) 7 rfl rfl inWX9 0 (by decide) wt784 (v := .ref (ad 1)) rfl dX9_layWalks_2 ?_
    refine lv_iconst (v := 0) hx hb_ dX9_layWalks_5 (by decide) ?_
    obtain ⟨x1, hx1, h⟩ := bnd h
    refine w_ald C hP (k := 1) (by decide) (n := 660) rfl hx1 dX9_layWalks_6 ?_
    refine lv_ishl hx hb_ dX9_layWalks_7 ?_
    refine lv_iconst (v := 1) hx hb_ dX9_layWalks_8 (by decide) ?_
    refine lv_isub hx hb_ dX9_layWalks_9 ?_
    obtain ⟨x2, hx2, h⟩ := nm_inv h
    refine w_ni hx2 ?_
    refine lv_istore_n (lv' := [(2, .int x2), (0, .ref (ad 0)), (1, .int v1)]) hx hb_ dX9_layWalks_10 rfl hl (by decide) rfl (fun ls hl => ?_)
    exact bk_11 x2 σ y h hK _ _ _ hP (lv_sub hl [1, 2, 0] rfl)
  exact bk r0 hf rfl _ _ hP
theorem hd_X9_walk : yX9_walk.cls = RX9 ∧ yX9_walk.cls ≠ "java/lang/invoke/MethodHandle" ∧ yX9_walk.cls ≠ "java/lang/invoke/VarHandle" ∧ (parseMethodDescriptor yX9_walk.desc).map (fun d => d.parameters.length) = some 2 := by decide +kernel
set_option maxHeartbeats 4000000 in
set_option maxRecDepth 100000 in
theorem c_X9_walk (l : Launch) (D : va_G) (aI aL : ClassId) (ad : Nat → Nat) (inj : Inj ad 8) (sz : Nat) (σ : Sg) (v1 : Int32) (v2 : Int32) (r0 : (Int64 × Sg)) (hf : f_X9_walk v1 v2 σ = some r0) : Met l yX9_walk (wS yX9_walk cX9_walk 7 (some .long)) (RM 3 67) (Pw D aI aL 8 shM ad sz σ [.ref (ad 0), .int v1, .int v2]) (Ql D aI aL 8 shM ad r0.1 r0.2 sz) 0 0 (AA ad 8 sz) := by
  refine Mof (Qc := Ql D aI aL 8 shM ad r0.1 r0.2) (by decide) inj (Nat.le_of_ble_eq_true rfl) ?_
  intro p e s m args below meth c ls C hlk hr hP hl
  have hx := C.1.1
  have hb_ := C.1.2.1
  have hown := C.1.2.2.2.1
  have hts := C.1.2.2.2.2
  have hl : lv_has ls 7 [(0, .ref (ad 0)), (1, .int v1), (2, .int v2)] := hl
  have bk_20 : ∀ (s_20 : Sg) (y : (Int64 × Sg)), f_X9_walk_20 s_20 = some y → (fun y => y = r0) y → ∀ (H : Heap) (locs : List Loc) (ls : Array Slot), HS D aI aL 8 shM ad s_20 s H locs → lv_has ls 7 [] → W p l e (RM 3 67) s m args below meth c H locs 0 0 (MQ below (Ql D aI aL 8 shM ad r0.1 r0.2 s.heap.size) args s 0 0 (AA ad 8 s.heap.size)) (F0 m 20 ls []) := by
    intro s_20 y h hK H locs ls hP hl
    unfold f_X9_walk_20 at h
    refine lv_ldc2 hx hb_ hown (hts _ wt947) dX9_walk_20 ?_
    obtain rfl := Option.some.inj h
    have hK : ((-1), s_20) = r0 := hK
    have hK1 := congrArg Prod.fst hK
    have hK2 := congrArg Prod.snd hK
    exact w_lret C hlk hr hP hK1 hK2 dX9_walk_23
  have bk_177 : ∀ (t0_177 : Int64) (s_177 : Sg) (y : (Int64 × Sg)), f_X9_walk_177 t0_177 s_177 = some y → (fun y => y = r0) y → ∀ (H : Heap) (locs : List Loc) (ls : Array Slot), HS D aI aL 8 shM ad s_177 s H locs → lv_has ls 7 [] → W p l e (RM 3 67) s m args below meth c H locs 0 0 (MQ below (Ql D aI aL 8 shM ad r0.1 r0.2 s.heap.size) args s 0 0 (AA ad 8 s.heap.size)) (F0 m 177 ls [.long t0_177]) := by
    intro t0_177 s_177 y h hK H locs ls hP hl
    unfold f_X9_walk_177 at h
    obtain rfl := Option.some.inj h
    have hK : (t0_177, s_177) = r0 := hK
    have hK1 := congrArg Prod.fst hK
    have hK2 := congrArg Prod.snd hK
    exact w_lret C hlk hr hP hK1 hK2 dX9_walk_177
  have lp_65 : ∀ (v3_65 : Int32) (s_65 : Sg) (n_65 : Nat) (v4_65 : Int32) (v5_65 : Int32) (y : (Int64 × Sg)), itr n_65 (fun s => f_X9_walk_65s v2 v3_65 s.1 s.2 s_65) (v4_65, v5_65) = some y → (fun y => y = r0) y → ∀ (H : Heap) (locs : List Loc) (ls : Array Slot), HS D aI aL 8 shM ad s_65 s H locs → lv_has ls 7 [(0, .ref (ad 0)), (2, .int v2), (3, .int v3_65), (4, .int v4_65), (5, .int v5_65)] → W p l e (RM 3 67) s m args below meth c H locs 0 0 (MQ below (Ql D aI aL 8 shM ad r0.1 r0.2 s.heap.size) args s 0 0 (AA ad 8 s.heap.size)) (F0 m 65 ls []) := by
    intro v3_65 s_65 n_65
    induction n_65 with
    | zero =>
      intro v4_65 v5_65 y h hK
      cases (show (none : Option (Int64 × Sg)) = some y from h)
    | succ n_65 ih_65 =>
      have bk_138 : ∀ (v5_138 : Int32) (t0_138 : Int32) (y : ((Int32 × Int32) ⊕ (Int64 × Sg))), f_X9_walk_138 v2 v3_65 v5_138 t0_138 s_65 = some y → (KK n_65 (fun s => f_X9_walk_65s v2 v3_65 s.1 s.2 s_65) (fun y => y = r0)) y → ∀ (H : Heap) (locs : List Loc) (ls : Array Slot), HS D aI aL 8 shM ad s_65 s H locs → lv_has ls 7 [(0, .ref (ad 0)), (2, .int v2), (3, .int v3_65), (5, .int v5_138)] → W p l e (RM 3 67) s m args below meth c H locs 0 0 (MQ below (Ql D aI aL 8 shM ad r0.1 r0.2 s.heap.size) args s 0 0 (AA ad 8 s.heap.size)) (F0 m 138 ls [.int t0_138]) := by
        intro v5_138 t0_138 y h hK H locs ls hP hl
        unfold f_X9_walk_138 at h
        refine lv_istore (lv' := [(4, .int t0_138), (0, .ref (ad 0)), (2, .int v2), (3, .int v3_65), (5, .int v5_138)]) hx hb_ dX9_walk_138 hl (by decide) rfl (fun ls hl => ?_)
        obtain ⟨x11, hx11, h⟩ := nm_inv h
        refine lv_iinc (v := x11) (lv' := [(5, .int x11), (4, .int t0_138), (0, .ref (ad 0)), (2, .int v2), (3, .int v3_65)]) hx hb_ dX9_walk_140 hl (k := 4) rfl (by rw [hx11]; rfl) (by decide) rfl (fun ls hl => ?_)
        refine lv_goto (tgt := 65) hx hb_ dX9_walk_143 (by decide) ?_
        obtain rfl := Option.some.inj h
        obtain ⟨y2, h, hK⟩ := hK
        exact ih_65 t0_138 x11 y2 h hK _ _ _ hP (lv_sub hl [2, 3, 4, 1, 0] rfl)
      have bk_124 : ∀ (v4_124 : Int32) (v5_124 : Int32) (t0_124 : Int32) (y : ((Int32 × Int32) ⊕ (Int64 × Sg))), f_X9_walk_124 v2 v3_65 v4_124 v5_124 t0_124 s_65 = some y → (KK n_65 (fun s => f_X9_walk_65s v2 v3_65 s.1 s.2 s_65) (fun y => y = r0)) y → ∀ (H : Heap) (locs : List Loc) (ls : Array Slot), HS D aI aL 8 shM ad s_65 s H locs → lv_has ls 7 [(0, .ref (ad 0)), (2, .int v2), (3, .int v3_65), (4, .int v4_124), (5, .int v5_124)] → W p l e (RM 3 67) s m args below meth c H locs 0 0 (MQ below (Ql D aI aL 8 shM ad r0.1 r0.2 s.heap.size) args s 0 0 (AA ad 8 s.heap.size)) (F0 m 124 ls [.int t0_124]) := by
        intro v4_124 v5_124 t0_124 y h hK H locs ls hP hl
        unfold f_X9_walk_124 at h
        refine lv_istore (lv' := [(6, .int t0_124), (0, .ref (ad 0)), (2, .int v2), (3, .int v3_65), (4, .int v4_124), (5, .int v5_124)]) hx hb_ dX9_walk_124 hl (by decide) rfl (fun ls hl => ?_)
        refine lv_iload hx hb_ dX9_walk_126 (lv_at hl 0 rfl) ?_
        refine lv_if_eq (tgt := 136) hx hb_ dX9_walk_128 (by decide) (fun hc => ?_) (fun hc => ?_)
        · replace h := ift h hc
          refine lv_iload hx hb_ dX9_walk_136 (lv_at hl 4 rfl) ?_
          exact bk_138 v5_124 v4_124 y h hK _ _ _ hP (lv_sub hl [1, 2, 3, 5] rfl)
        · replace h := iff' h hc
          refine lv_iload hx hb_ dX9_walk_131 (lv_at hl 5 rfl) ?_
          refine lv_goto (tgt := 138) hx hb_ dX9_walk_133 (by decide) ?_
          exact bk_138 v5_124 v5_124 y h hK _ _ _ hP (lv_sub hl [1, 2, 3, 5] rfl)
      have bk_123 : ∀ (v4_123 : Int32) (v5_123 : Int32) (y : ((Int32 × Int32) ⊕ (Int64 × Sg))), f_X9_walk_123 v2 v3_65 v4_123 v5_123 s_65 = some y → (KK n_65 (fun s => f_X9_walk_65s v2 v3_65 s.1 s.2 s_65) (fun y => y = r0)) y → ∀ (H : Heap) (locs : List Loc) (ls : Array Slot), HS D aI aL 8 shM ad s_65 s H locs → lv_has ls 7 [(0, .ref (ad 0)), (2, .int v2), (3, .int v3_65), (4, .int v4_123), (5, .int v5_123)] → W p l e (RM 3 67) s m args below meth c H locs 0 0 (MQ below (Ql D aI aL 8 shM ad r0.1 r0.2 s.heap.size) args s 0 0 (AA ad 8 s.heap.size)) (F0 m 123 ls []) := by
        intro v4_123 v5_123 y h hK H locs ls hP hl
        unfold f_X9_walk_123 at h
        refine lv_iconst (v := 0) hx hb_ dX9_walk_123 (by decide) ?_
        exact bk_124 v4_123 v5_123 0 y h hK _ _ _ hP (lv_sub hl [0, 1, 2, 3, 4] rfl)
      intro v4_65 v5_65 y h hK H locs ls hP hl
      obtain ⟨y, h, hK⟩ := itr_inv (K := (fun y => y = r0)) h hK
      replace h : f_X9_walk_65s v2 v3_65 v4_65 v5_65 s_65 = some y := h
      unfold f_X9_walk_65s at h
      refine lv_iload hx hb_ dX9_walk_65 (lv_at hl 4 rfl) ?_
      refine lv_if_lt (tgt := 146) hx hb_ dX9_walk_67 (by decide) (fun hc => ?_) (fun hc => ?_)
      · replace h := ift h hc
        refine lv_iload_n hx hb_ dX9_walk_146 rfl (lv_at hl 1 rfl) ?_
        refine lv_if_ne (tgt := 160) hx hb_ dX9_walk_147 (by decide) (fun hc => ?_) (fun hc => ?_)
        · replace h := iff' h hc
          refine lv_iload_n hx hb_ dX9_walk_160 rfl (lv_at hl 1 rfl) ?_
          refine lv_iconst (v := 1) hx hb_ dX9_walk_161 (by decide) ?_
          refine lv_icmp_ne (tgt := 171) hx hb_ dX9_walk_162 (by decide) (fun hc => ?_) (fun hc => ?_)
          · replace h := iff' h hc
            refine lv_aload_n hx hb_ dX9_walk_171 rfl (lv_at hl 0 rfl) ?_
            refine w_get C hP (k := 0) (by decide) 7 rfl rfl inWX9 10 (by decide) wt794 (v := .ref (ad 5)) rfl dX9_walk_172 ?_
            refine lv_iload_n hx hb_ dX9_walk_175 rfl (lv_at hl 2 rfl) ?_
            obtain ⟨x8, hx8, h⟩ := bnd h
            refine w_aldL C hP (k := 5) (by decide) (n := 1024) rfl hx8 dX9_walk_176 ?_
            obtain ⟨y2, h2, rfl⟩ := mapi h
            exact bk_177 x8 s_65 y2 h2 hK _ _ _ hP (lv_sub hl [] rfl)
          · replace h := ift h hc
            refine lv_iload hx hb_ dX9_walk_165 (lv_at hl 3 rfl) ?_
            refine lv_i2l hx hb_ dX9_walk_167 rfl ?_
            refine lv_goto (tgt := 177) hx hb_ dX9_walk_168 (by decide) ?_
            obtain ⟨y2, h2, rfl⟩ := mapi h
            exact bk_177 ((v4_65 : Int32).toInt64) s_65 y2 h2 hK _ _ _ hP (lv_sub hl [] rfl)
        · replace h := ift h hc
          refine lv_aload_n hx hb_ dX9_walk_150 rfl (lv_at hl 0 rfl) ?_
          refine w_get C hP (k := 0) (by decide) 7 rfl rfl inWX9 11 (by decide) wt795 (v := .ref (ad 6)) rfl dX9_walk_151 ?_
          refine lv_iload_n hx hb_ dX9_walk_154 rfl (lv_at hl 2 rfl) ?_
          obtain ⟨x9, hx9, h⟩ := bnd h
          refine w_ald C hP (k := 6) (by decide) (n := 1024) rfl hx9 dX9_walk_155 ?_
          refine lv_i2l hx hb_ dX9_walk_156 rfl ?_
          refine lv_goto (tgt := 177) hx hb_ dX9_walk_157 (by decide) ?_
          obtain ⟨y2, h2, rfl⟩ := mapi h
          exact bk_177 ((x9 : Int32).toInt64) s_65 y2 h2 hK _ _ _ hP (lv_sub hl [] rfl)
      · replace h := iff' h hc
        refine lv_aload_n hx hb_ dX9_walk_70 rfl (lv_at hl 0 rfl) ?_
        refine w_get C hP (k := 0) (by decide) 7 rfl rfl inWX9 11 (by decide) wt795 (v := .ref (ad 6)) rfl dX9_walk_71 ?_
        refine lv_iload_n hx hb_ dX9_walk_74 rfl (lv_at hl 2 rfl) ?_
        obtain ⟨x10, hx10, h⟩ := bnd h
        refine w_ald C hP (k := 6) (by decide) (n := 1024) rfl hx10 dX9_walk_75 ?_
        refine lv_if_le (tgt := 123) hx hb_ dX9_walk_76 (by decide) (fun hc => ?_) (fun hc => ?_)
        · replace h := ift h hc
          exact bk_123 v4_65 v5_65 y h hK _ _ _ hP (lv_sub hl [0, 1, 2, 3, 4] rfl)
        · replace h := iff' h hc
          refine lv_aload_n hx hb_ dX9_walk_79 rfl (lv_at hl 0 rfl) ?_
          refine lv_iload_n hx hb_ dX9_walk_80 rfl (lv_at hl 2 rfl) ?_
          refine lv_iload hx hb_ dX9_walk_81 (lv_at hl 4 rfl) ?_
          obtain ⟨q12, hq12, h⟩ := bnd h
          refine w_ci (w_rV (As := [.int v3_65, .int v5_65]) (rest := []) C hP (k := 0) (c_X9_mayFrom l D aI aL ad inj _ s_65 v3_65 v5_65 q12 hq12) (gV wt952 wt954 wp31 wt12 wt955) 2 hd_X9_mayFrom ⟨Nat.le_of_ble_eq_true rfl, Nat.le_of_ble_eq_true rfl⟩ (by decide) 7 rfl rfl rfl hl.1 rfl (Nat.le_of_ble_eq_true rfl) dX9_walk_83) hP (fun H locs hP => ?_)
          refine lv_if_eq (tgt := 123) hx hb_ dX9_walk_86 (by decide) (fun hc => ?_) (fun hc => ?_)
          · replace h := ift h hc
            exact bk_123 v4_65 v5_65 y h hK _ _ _ hP (lv_sub hl [0, 1, 2, 3, 4] rfl)
          · replace h := iff' h hc
            refine lv_aload_n hx hb_ dX9_walk_89 rfl (lv_at hl 0 rfl) ?_
            refine w_get C hP (k := 0) (by decide) 7 rfl rfl inWX9 11 (by decide) wt795 (v := .ref (ad 6)) rfl dX9_walk_90 ?_
            refine lv_iload_n hx hb_ dX9_walk_93 rfl (lv_at hl 2 rfl) ?_
            refine lv_iconst (v := 1) hx hb_ dX9_walk_94 (by decide) ?_
            refine lv_aload_n hx hb_ dX9_walk_95 rfl (lv_at hl 0 rfl) ?_
            refine w_get C hP (k := 0) (by decide) 7 rfl rfl inWX9 0 (by decide) wt784 (v := .ref (ad 1)) rfl dX9_walk_96 ?_
            refine lv_bipush (v := 25) hx hb_ dX9_walk_99 (by decide) ?_
            refine lv_iload hx hb_ dX9_walk_101 (lv_at hl 4 rfl) ?_
            refine lv_iadd hx hb_ dX9_walk_103 ?_
            obtain ⟨x13, hx13, h⟩ := bnd h
            refine w_ald C hP (k := 1) (by decide) (n := 660) rfl hx13 dX9_walk_104 ?_
            refine lv_ishl hx hb_ dX9_walk_105 ?_
            refine lv_ior hx hb_ dX9_walk_106 ?_
            obtain ⟨x14, hx14, h⟩ := bnd h
            refine w_ald C hP (k := 6) (by decide) (n := 1024) rfl hx14 dX9_walk_107 ?_
            refine lv_aload_n hx hb_ dX9_walk_108 rfl (lv_at hl 0 rfl) ?_
            refine w_get C hP (k := 0) (by decide) 7 rfl rfl inWX9 11 (by decide) wt795 (v := .ref (ad 6)) rfl dX9_walk_109 ?_
            refine lv_iload_n hx hb_ dX9_walk_112 rfl (lv_at hl 2 rfl) ?_
            obtain ⟨x15, hx15, h⟩ := bnd h
            refine w_ald C hP (k := 6) (by decide) (n := 1024) rfl hx15 dX9_walk_113 ?_
            refine lv_iconst (v := 1) hx hb_ dX9_walk_114 (by decide) ?_
            refine lv_isub hx hb_ dX9_walk_115 ?_
            refine lv_icmp_ne (tgt := 123) hx hb_ dX9_walk_116 (by decide) (fun hc => ?_) (fun hc => ?_)
            · replace h := iff' h hc
              exact bk_123 v4_65 v5_65 y h hK _ _ _ hP (lv_sub hl [0, 1, 2, 3, 4] rfl)
            · replace h := ift h hc
              refine lv_iconst (v := 1) hx hb_ dX9_walk_119 (by decide) ?_
              refine lv_goto (tgt := 124) hx hb_ dX9_walk_120 (by decide) ?_
              exact bk_124 v4_65 v5_65 1 y h hK _ _ _ hP (lv_sub hl [0, 1, 2, 3, 4] rfl)
  have bk_65 : ∀ (v3_65 : Int32) (v4_65 : Int32) (v5_65 : Int32) (s_65 : Sg) (y : (Int64 × Sg)), f_X9_walk_65 v2 v3_65 v4_65 v5_65 s_65 = some y → (fun y => y = r0) y → ∀ (H : Heap) (locs : List Loc) (ls : Array Slot), HS D aI aL 8 shM ad s_65 s H locs → lv_has ls 7 [(0, .ref (ad 0)), (2, .int v2), (3, .int v3_65), (4, .int v4_65), (5, .int v5_65)] → W p l e (RM 3 67) s m args below meth c H locs 0 0 (MQ below (Ql D aI aL 8 shM ad r0.1 r0.2 s.heap.size) args s 0 0 (AA ad 8 s.heap.size)) (F0 m 65 ls []) := fun v3_65 v4_65 v5_65 s_65 y h hK => lp_65 v3_65 s_65 3000 v4_65 v5_65 y h hK
  have bk : ∀ (y : (Int64 × Sg)), f_X9_walk v1 v2 σ = some y → y = r0 → ∀ (H : Heap) (locs : List Loc), HS D aI aL 8 shM ad σ s H locs → W p l e (RM 3 67) s m args below meth c H locs 0 0 (MQ below (Ql D aI aL 8 shM ad r0.1 r0.2 s.heap.size) args s 0 0 (AA ad 8 s.heap.size)) (F0 m 0 ls []) := by
    intro y h hK H locs hP
    unfold f_X9_walk at h
    refine lv_aload_n hx hb_ dX9_walk_0 rfl (lv_at hl 0 rfl) ?_
    refine lv_iload_n hx hb_ dX9_walk_1 rfl (lv_at hl 1 rfl) ?_
    obtain ⟨q1, hq1, h⟩ := bnd h
    refine w_ci (w_rV (As := [.int v1]) (rest := []) C hP (k := 0) (c_X9_isStone l D aI aL ad inj _ σ v1 q1 hq1) (gV wt878 wt880 wp22 wt12 wt881) 1 hd_X9_isStone ⟨Nat.le_of_ble_eq_true rfl, Nat.le_of_ble_eq_true rfl⟩ (by decide) 7 rfl rfl rfl hl.1 rfl (Nat.le_of_ble_eq_true rfl) dX9_walk_2) hP (fun H locs hP => ?_)
    refine lv_if_eq (tgt := 20) hx hb_ dX9_walk_5 (by decide) (fun hc => ?_) (fun hc => ?_)
    · replace h := ift h hc
      exact bk_20 σ y h hK _ _ _ hP (lv_sub hl [] rfl)
    · replace h := iff' h hc
      refine lv_iload_n hx hb_ dX9_walk_8 rfl (lv_at hl 2 rfl) ?_
      refine lv_i2l hx hb_ dX9_walk_9 rfl ?_
      refine lv_lconst (v := 0) hx hb_ dX9_walk_10 (by decide) ?_
      refine lv_ldc2 hx hb_ hown (hts _ wt946) dX9_walk_11 ?_
      obtain ⟨q2, hq2, h⟩ := bnd h
      refine w_ci (w_rS (As := [.long ((v2 : Int32).toInt64), .long 0, .long 2]) (rest := []) C hP (c_X9_in l D aI aL ad inj _ σ ((v2 : Int32).toInt64) 0 2 q2 hq2) wt830 wt831 wt12 wt832 3 hd_X9_in ⟨Nat.le_of_ble_eq_true rfl, Nat.le_of_ble_eq_true rfl⟩ rfl hl.1 rfl (Nat.le_of_ble_eq_true rfl) dX9_walk_14) hP (fun H locs hP => ?_)
      refine lv_if_ne (tgt := 24) hx hb_ dX9_walk_17 (by decide) (fun hc => ?_) (fun hc => ?_)
      · replace h := iff' h hc
        refine lv_aload_n hx hb_ dX9_walk_24 rfl (lv_at hl 0 rfl) ?_
        refine lv_iload_n hx hb_ dX9_walk_25 rfl (lv_at hl 1 rfl) ?_
        obtain ⟨q3, hq3, h⟩ := bnd h
        refine w_cv (w_rV (As := [.int v1]) (rest := []) C hP (k := 0) (c_X9_layWalks l D aI aL ad inj _ σ v1 q3 hq3) (gV wt948 wt950 wp30 wt12 wt951) 1 hd_X9_layWalks ⟨Nat.le_of_ble_eq_true rfl, Nat.le_of_ble_eq_true rfl⟩ (by decide) 7 rfl rfl rfl hl.1 rfl (Nat.le_of_ble_eq_true rfl) dX9_walk_26) hP (fun H locs hP => ?_)
        refine lv_aload_n hx hb_ dX9_walk_29 rfl (lv_at hl 0 rfl) ?_
        refine w_get C hP (k := 0) (by decide) 7 rfl rfl inWX9 0 (by decide) wt784 (v := .ref (ad 1)) rfl dX9_walk_30 ?_
        refine lv_iconst (v := 3) hx hb_ dX9_walk_33 (by decide) ?_
        obtain ⟨x4, hx4, h⟩ := bnd h
        refine w_ald C hP (k := 1) (by decide) (n := 660) rfl hx4 dX9_walk_34 ?_
        refine lv_istore_n (lv' := [(3, .int x4), (0, .ref (ad 0)), (1, .int v1), (2, .int v2)]) hx hb_ dX9_walk_35 rfl hl (by decide) rfl (fun ls hl => ?_)
        refine lv_aload_n hx hb_ dX9_walk_36 rfl (lv_at hl 1 rfl) ?_
        refine w_get C hP (k := 0) (by decide) 7 rfl rfl inWX9 11 (by decide) wt795 (v := .ref (ad 6)) rfl dX9_walk_37 ?_
        refine lv_iload_n hx hb_ dX9_walk_40 rfl (lv_at hl 0 rfl) ?_
        obtain ⟨x5, hx5, h⟩ := bnd h
        refine w_ald C hP (k := 6) (by decide) (n := 1024) rfl hx5 dX9_walk_41 ?_
        refine lv_bipush (v := 100) hx hb_ dX9_walk_42 (by decide) ?_
        refine lv_icmp_ne (tgt := 51) hx hb_ dX9_walk_44 (by decide) (fun hc => ?_) (fun hc => ?_)
        · replace h := iff' h hc
          refine lv_bipush (v := (-4)) hx hb_ dX9_walk_51 (by decide) ?_
          refine lv_istore (lv' := [(4, .int (-4)), (3, .int x4), (0, .ref (ad 0)), (1, .int v1), (2, .int v2)]) hx hb_ dX9_walk_53 hl (by decide) rfl (fun ls hl => ?_)
          refine lv_aload_n hx hb_ dX9_walk_55 rfl (lv_at hl 2 rfl) ?_
          refine w_get C hP (k := 0) (by decide) 7 rfl rfl inWX9 0 (by decide) wt784 (v := .ref (ad 1)) rfl dX9_walk_56 ?_
          refine lv_iconst (v := 4) hx hb_ dX9_walk_59 (by decide) ?_
          obtain ⟨x6, hx6, h⟩ := bnd h
          refine w_ald C hP (k := 1) (by decide) (n := 660) rfl hx6 dX9_walk_60 ?_
          refine lv_iconst (v := 1) hx hb_ dX9_walk_61 (by decide) ?_
          refine lv_isub hx hb_ dX9_walk_62 ?_
          obtain ⟨x7, hx7, h⟩ := nm_inv h
          refine w_ni hx7 ?_
          refine lv_istore (lv' := [(5, .int x7), (4, .int (-4)), (3, .int x4), (0, .ref (ad 0)), (1, .int v1), (2, .int v2)]) hx hb_ dX9_walk_63 hl (by decide) rfl (fun ls hl => ?_)
          exact bk_65 x4 (-4) x7 q3 y h hK _ _ _ hP (lv_sub hl [3, 5, 2, 1, 0] rfl)
        · replace h := ift h hc
          refine lv_ldc2 hx hb_ hown (hts _ wt956) dX9_walk_47 ?_
          obtain rfl := Option.some.inj h
          have hK : ((-4), q3) = r0 := hK
          have hK1 := congrArg Prod.fst hK
          have hK2 := congrArg Prod.snd hK
          exact w_lret C hlk hr hP hK1 hK2 dX9_walk_50
      · replace h := ift h hc
        exact bk_20 σ y h hK _ _ _ hP (lv_sub hl [] rfl)
  exact bk r0 hf rfl _ _ hP
theorem hd_X9_round : yX9_round.cls = RX9 ∧ yX9_round.cls ≠ "java/lang/invoke/MethodHandle" ∧ yX9_round.cls ≠ "java/lang/invoke/VarHandle" ∧ (parseMethodDescriptor yX9_round.desc).map (fun d => d.parameters.length) = some 1 := by decide +kernel
set_option maxHeartbeats 4000000 in
set_option maxRecDepth 100000 in
theorem c_X9_round (l : Launch) (D : va_G) (aI aL : ClassId) (ad : Nat → Nat) (inj : Inj ad 8) (sz : Nat) (σ : Sg) (v1 : Int32) (r0 : Int32) (hf : f_X9_round v1 σ = some r0) : Met l yX9_round (wS yX9_round cX9_round 6 (some .int)) (RM 2 46) (Pw D aI aL 8 shM ad sz σ [.ref (ad 0), .int v1]) (Qi D aI aL 8 shM ad r0 σ sz) 0 0 (AA ad 8 sz) := by
  refine Mof (Qc := Qi D aI aL 8 shM ad r0 σ) (by decide) inj (Nat.le_of_ble_eq_true rfl) ?_
  intro p e s m args below meth c ls C hlk hr hP hl
  have hx := C.1.1
  have hb_ := C.1.2.1
  have hown := C.1.2.2.2.1
  have hts := C.1.2.2.2.2
  have hl : lv_has ls 6 [(0, .ref (ad 0)), (1, .int v1)] := hl
  have lp_19 : ∀ (n_19 : Nat) (v2_19 : Int32) (v3_19 : Int32) (y : Int32), itr n_19 (fun s => f_X9_round_19s v1 s.1 s.2 σ) (v2_19, v3_19) = some y → (fun y => y = r0) y → ∀ (H : Heap) (locs : List Loc) (ls : Array Slot), HS D aI aL 8 shM ad σ s H locs → lv_has ls 6 [(0, .ref (ad 0)), (1, .int v1), (2, .int v2_19), (3, .int v3_19)] → W p l e (RM 2 46) s m args below meth c H locs 0 0 (MQ below (Qi D aI aL 8 shM ad r0 σ s.heap.size) args s 0 0 (AA ad 8 s.heap.size)) (F0 m 19 ls []) := by
    intro n_19
    induction n_19 with
    | zero =>
      intro v2_19 v3_19 y h hK
      cases (show (none : Option Int32) = some y from h)
    | succ n_19 ih_19 =>
      have lp_41 : ∀ (v2_41 : Int32) (v3_41 : Int32) (n_41 : Nat) (v4_41 : Int32) (v5_41 : Int32) (y : ((Int32 × Int32) ⊕ Int32)), itr n_41 (fun s => f_X9_round_41s v1 v2_41 v3_41 s.1 s.2 σ) (v4_41, v5_41) = some y → (KK n_19 (fun s => f_X9_round_19s v1 s.1 s.2 σ) (fun y => y = r0)) y → ∀ (H : Heap) (locs : List Loc) (ls : Array Slot), HS D aI aL 8 shM ad σ s H locs → lv_has ls 6 [(0, .ref (ad 0)), (1, .int v1), (2, .int v2_41), (3, .int v3_41), (4, .int v4_41), (5, .int v5_41)] → W p l e (RM 2 46) s m args below meth c H locs 0 0 (MQ below (Qi D aI aL 8 shM ad r0 σ s.heap.size) args s 0 0 (AA ad 8 s.heap.size)) (F0 m 41 ls []) := by
        intro v2_41 v3_41 n_41
        induction n_41 with
        | zero =>
          intro v4_41 v5_41 y h hK
          cases (show (none : Option ((Int32 × Int32) ⊕ Int32)) = some y from h)
        | succ n_41 ih_41 =>
          have bk_80 : ∀ (v5_80 : Int32) (t0_80 : Int32) (t1_80 : Int32) (y : ((Int32 × Int32) ⊕ ((Int32 × Int32) ⊕ Int32))), f_X9_round_80 v1 v2_41 v3_41 v5_80 t0_80 t1_80 σ = some y → (KK n_41 (fun s => f_X9_round_41s v1 v2_41 v3_41 s.1 s.2 σ) (KK n_19 (fun s => f_X9_round_19s v1 s.1 s.2 σ) (fun y => y = r0))) y → ∀ (H : Heap) (locs : List Loc) (ls : Array Slot), HS D aI aL 8 shM ad σ s H locs → lv_has ls 6 [(0, .ref (ad 0)), (1, .int v1), (2, .int v2_41), (3, .int v3_41), (5, .int v5_80)] → W p l e (RM 2 46) s m args below meth c H locs 0 0 (MQ below (Qi D aI aL 8 shM ad r0 σ s.heap.size) args s 0 0 (AA ad 8 s.heap.size)) (F0 m 80 ls [.int t1_80, .int t0_80]) := by
            intro v5_80 t0_80 t1_80 y h hK H locs ls hP hl
            unfold f_X9_round_80 at h
            refine lv_ior hx hb_ dX9_round_80 ?_
            obtain ⟨x7, hx7, h⟩ := nm_inv h
            refine w_ni hx7 ?_
            refine lv_istore (lv' := [(4, .int x7), (0, .ref (ad 0)), (1, .int v1), (2, .int v2_41), (3, .int v3_41), (5, .int v5_80)]) hx hb_ dX9_round_81 hl (by decide) rfl (fun ls hl => ?_)
            obtain ⟨x8, hx8, h⟩ := nm_inv h
            refine lv_iinc (v := x8) (lv' := [(5, .int x8), (4, .int x7), (0, .ref (ad 0)), (1, .int v1), (2, .int v2_41), (3, .int v3_41)]) hx hb_ dX9_round_83 hl (k := 5) rfl (by rw [hx8]; rfl) (by decide) rfl (fun ls hl => ?_)
            refine lv_goto (tgt := 41) hx hb_ dX9_round_86 (by decide) ?_
            obtain rfl := Option.some.inj h
            obtain ⟨y2, h, hK⟩ := hK
            exact ih_41 x7 x8 y2 h hK _ _ _ hP (lv_sub hl [2, 3, 4, 5, 1, 0] rfl)
          intro v4_41 v5_41 y h hK H locs ls hP hl
          obtain ⟨y, h, hK⟩ := itr_inv (K := (KK n_19 (fun s => f_X9_round_19s v1 s.1 s.2 σ) (fun y => y = r0))) h hK
          replace h : f_X9_round_41s v1 v2_41 v3_41 v4_41 v5_41 σ = some y := h
          unfold f_X9_round_41s at h
          refine lv_iload hx hb_ dX9_round_41 (lv_at hl 5 rfl) ?_
          refine lv_aload_n hx hb_ dX9_round_43 rfl (lv_at hl 0 rfl) ?_
          refine w_get C hP (k := 0) (by decide) 7 rfl rfl inWX9 0 (by decide) wt784 (v := .ref (ad 1)) rfl dX9_round_44 ?_
          refine lv_iconst (v := 4) hx hb_ dX9_round_47 (by decide) ?_
          obtain ⟨x4, hx4, h⟩ := bnd h
          refine w_ald C hP (k := 1) (by decide) (n := 660) rfl hx4 dX9_round_48 ?_
          refine lv_icmp_ge (tgt := 89) hx hb_ dX9_round_49 (by decide) (fun hc => ?_) (fun hc => ?_)
          · replace h := ift h hc
            refine lv_iload hx hb_ dX9_round_89 (lv_at hl 4 rfl) ?_
            refine lv_istore_n (lv' := [(2, .int v4_41), (0, .ref (ad 0)), (1, .int v1), (3, .int v3_41), (4, .int v4_41), (5, .int v5_41)]) hx hb_ dX9_round_91 rfl hl (by decide) rfl (fun ls hl => ?_)
            obtain ⟨x5, hx5, h⟩ := nm_inv h
            refine lv_iinc (v := x5) (lv' := [(3, .int x5), (2, .int v4_41), (0, .ref (ad 0)), (1, .int v1), (4, .int v4_41), (5, .int v5_41)]) hx hb_ dX9_round_92 hl (k := 3) rfl (by rw [hx5]; rfl) (by decide) rfl (fun ls hl => ?_)
            refine lv_goto (tgt := 19) hx hb_ dX9_round_95 (by decide) ?_
            obtain rfl := Option.some.inj h
            obtain ⟨y2, h, hK⟩ := hK
            exact ih_19 v4_41 x5 y2 h hK _ _ _ hP (lv_sub hl [2, 3, 1, 0] rfl)
          · replace h := iff' h hc
            refine lv_iload hx hb_ dX9_round_52 (lv_at hl 4 rfl) ?_
            refine lv_aload_n hx hb_ dX9_round_54 rfl (lv_at hl 0 rfl) ?_
            refine lv_iload_n hx hb_ dX9_round_55 rfl (lv_at hl 2 rfl) ?_
            refine lv_iload hx hb_ dX9_round_56 (lv_at hl 5 rfl) ?_
            obtain ⟨q6, hq6, h⟩ := bnd h
            refine w_ci (w_rV (As := [.int v2_41, .int v5_41]) (rest := [.int v4_41]) C hP (k := 0) (c_X9_mayFrom l D aI aL ad inj _ σ v2_41 v5_41 q6 hq6) (gV wt952 wt954 wp31 wt12 wt955) 2 hd_X9_mayFrom ⟨Nat.le_of_ble_eq_true rfl, Nat.le_of_ble_eq_true rfl⟩ (by decide) 7 rfl rfl rfl hl.1 rfl (Nat.le_of_ble_eq_true rfl) dX9_round_58) hP (fun H locs hP => ?_)
            refine lv_if_eq (tgt := 79) hx hb_ dX9_round_61 (by decide) (fun hc => ?_) (fun hc => ?_)
            · replace h := ift h hc
              refine lv_iconst (v := 0) hx hb_ dX9_round_79 (by decide) ?_
              exact bk_80 v5_41 v4_41 0 y h hK _ _ _ hP (lv_sub hl [0, 1, 2, 3, 5] rfl)
            · replace h := iff' h hc
              refine lv_iconst (v := 1) hx hb_ dX9_round_64 (by decide) ?_
              refine lv_aload_n hx hb_ dX9_round_65 rfl (lv_at hl 0 rfl) ?_
              refine w_get C hP (k := 0) (by decide) 7 rfl rfl inWX9 0 (by decide) wt784 (v := .ref (ad 1)) rfl dX9_round_66 ?_
              refine lv_bipush (v := 25) hx hb_ dX9_round_69 (by decide) ?_
              refine lv_iload hx hb_ dX9_round_71 (lv_at hl 5 rfl) ?_
              refine lv_iadd hx hb_ dX9_round_73 ?_
              obtain ⟨x9, hx9, h⟩ := bnd h
              refine w_ald C hP (k := 1) (by decide) (n := 660) rfl hx9 dX9_round_74 ?_
              refine lv_ishl hx hb_ dX9_round_75 ?_
              refine lv_goto (tgt := 80) hx hb_ dX9_round_76 (by decide) ?_
              exact bk_80 v5_41 v4_41 ((1 : Int32) <<< (x9 &&& 31)) y h hK _ _ _ hP (lv_sub hl [0, 1, 2, 3, 5] rfl)
      have bk_41 : ∀ (v2_41 : Int32) (v3_41 : Int32) (v4_41 : Int32) (v5_41 : Int32) (y : ((Int32 × Int32) ⊕ Int32)), f_X9_round_41 v1 v2_41 v3_41 v4_41 v5_41 σ = some y → (KK n_19 (fun s => f_X9_round_19s v1 s.1 s.2 σ) (fun y => y = r0)) y → ∀ (H : Heap) (locs : List Loc) (ls : Array Slot), HS D aI aL 8 shM ad σ s H locs → lv_has ls 6 [(0, .ref (ad 0)), (1, .int v1), (2, .int v2_41), (3, .int v3_41), (4, .int v4_41), (5, .int v5_41)] → W p l e (RM 2 46) s m args below meth c H locs 0 0 (MQ below (Qi D aI aL 8 shM ad r0 σ s.heap.size) args s 0 0 (AA ad 8 s.heap.size)) (F0 m 41 ls []) := fun v2_41 v3_41 v4_41 v5_41 y h hK => lp_41 v2_41 v3_41 3000 v4_41 v5_41 y h hK
      intro v2_19 v3_19 y h hK H locs ls hP hl
      obtain ⟨y, h, hK⟩ := itr_inv (K := (fun y => y = r0)) h hK
      replace h : f_X9_round_19s v1 v2_19 v3_19 σ = some y := h
      unfold f_X9_round_19s at h
      refine lv_iload_n hx hb_ dX9_round_19 rfl (lv_at hl 3 rfl) ?_
      refine lv_bipush (v := 10) hx hb_ dX9_round_20 (by decide) ?_
      refine lv_icmp_gt (tgt := 98) hx hb_ dX9_round_22 (by decide) (fun hc => ?_) (fun hc => ?_)
      · replace h := ift h hc
        refine lv_bipush (v := (-4)) hx hb_ dX9_round_98 (by decide) ?_
        obtain rfl := Option.some.inj h
        have hK : ((-4) : Int32) = r0 := hK
        exact w_iret C hlk hr hP hK rfl dX9_round_100
      · replace h := iff' h hc
        refine lv_iload_n hx hb_ dX9_round_25 rfl (lv_at hl 2 rfl) ?_
        refine lv_iload_n hx hb_ dX9_round_26 rfl (lv_at hl 1 rfl) ?_
        obtain ⟨q3, hq3, h⟩ := bnd h
        refine w_ci (w_rS (As := [.int v2_19, .int v1]) (rest := []) C hP (c_X9_has l D aI aL ad inj _ σ v2_19 v1 q3 hq3) wt896 wt897 wt12 wt898 2 hd_X9_has ⟨Nat.le_of_ble_eq_true rfl, Nat.le_of_ble_eq_true rfl⟩ rfl hl.1 rfl (Nat.le_of_ble_eq_true rfl) dX9_round_27) hP (fun H locs hP => ?_)
        refine lv_if_eq (tgt := 35) hx hb_ dX9_round_30 (by decide) (fun hc => ?_) (fun hc => ?_)
        · replace h := ift h hc
          refine lv_iload_n hx hb_ dX9_round_35 rfl (lv_at hl 2 rfl) ?_
          refine lv_istore (lv' := [(4, .int v2_19), (0, .ref (ad 0)), (1, .int v1), (2, .int v2_19), (3, .int v3_19)]) hx hb_ dX9_round_36 hl (by decide) rfl (fun ls hl => ?_)
          refine lv_iconst (v := 0) hx hb_ dX9_round_38 (by decide) ?_
          refine lv_istore (lv' := [(5, .int 0), (4, .int v2_19), (0, .ref (ad 0)), (1, .int v1), (2, .int v2_19), (3, .int v3_19)]) hx hb_ dX9_round_39 hl (by decide) rfl (fun ls hl => ?_)
          exact bk_41 v2_19 v3_19 v2_19 0 y h hK _ _ _ hP (lv_sub hl [2, 3, 4, 5, 1, 0] rfl)
        · replace h := iff' h hc
          refine lv_iload_n hx hb_ dX9_round_33 rfl (lv_at hl 3 rfl) ?_
          obtain rfl := Option.some.inj h
          have hK : (v3_19 : Int32) = r0 := hK
          exact w_iret C hlk hr hP hK rfl dX9_round_34
  have bk_19 : ∀ (v2_19 : Int32) (v3_19 : Int32) (y : Int32), f_X9_round_19 v1 v2_19 v3_19 σ = some y → (fun y => y = r0) y → ∀ (H : Heap) (locs : List Loc) (ls : Array Slot), HS D aI aL 8 shM ad σ s H locs → lv_has ls 6 [(0, .ref (ad 0)), (1, .int v1), (2, .int v2_19), (3, .int v3_19)] → W p l e (RM 2 46) s m args below meth c H locs 0 0 (MQ below (Qi D aI aL 8 shM ad r0 σ s.heap.size) args s 0 0 (AA ad 8 s.heap.size)) (F0 m 19 ls []) := fun v2_19 v3_19 y h hK => lp_19 3000 v2_19 v3_19 y h hK
  have bk : ∀ (y : Int32), f_X9_round v1 σ = some y → y = r0 → ∀ (H : Heap) (locs : List Loc), HS D aI aL 8 shM ad σ s H locs → W p l e (RM 2 46) s m args below meth c H locs 0 0 (MQ below (Qi D aI aL 8 shM ad r0 σ s.heap.size) args s 0 0 (AA ad 8 s.heap.size)) (F0 m 0 ls []) := by
    intro y h hK H locs hP
    unfold f_X9_round at h
    refine lv_aload_n hx hb_ dX9_round_0 rfl (lv_at hl 0 rfl) ?_
    refine lv_iload_n hx hb_ dX9_round_1 rfl (lv_at hl 1 rfl) ?_
    obtain ⟨q1, hq1, h⟩ := bnd h
    refine w_ci (w_rV (As := [.int v1]) (rest := []) C hP (k := 0) (c_X9_isStone l D aI aL ad inj _ σ v1 q1 hq1) (gV wt878 wt880 wp22 wt12 wt881) 1 hd_X9_isStone ⟨Nat.le_of_ble_eq_true rfl, Nat.le_of_ble_eq_true rfl⟩ (by decide) 7 rfl rfl rfl hl.1 rfl (Nat.le_of_ble_eq_true rfl) dX9_round_2) hP (fun H locs hP => ?_)
    refine lv_if_ne (tgt := 10) hx hb_ dX9_round_5 (by decide) (fun hc => ?_) (fun hc => ?_)
    · replace h := iff' h hc
      refine lv_aload_n hx hb_ dX9_round_10 rfl (lv_at hl 0 rfl) ?_
      refine w_get C hP (k := 0) (by decide) 7 rfl rfl inWX9 0 (by decide) wt784 (v := .ref (ad 1)) rfl dX9_round_11 ?_
      refine lv_iconst (v := 3) hx hb_ dX9_round_14 (by decide) ?_
      obtain ⟨x2, hx2, h⟩ := bnd h
      refine w_ald C hP (k := 1) (by decide) (n := 660) rfl hx2 dX9_round_15 ?_
      refine lv_istore_n (lv' := [(2, .int x2), (0, .ref (ad 0)), (1, .int v1)]) hx hb_ dX9_round_16 rfl hl (by decide) rfl (fun ls hl => ?_)
      refine lv_iconst (v := 0) hx hb_ dX9_round_17 (by decide) ?_
      refine lv_istore_n (lv' := [(3, .int 0), (2, .int x2), (0, .ref (ad 0)), (1, .int v1)]) hx hb_ dX9_round_18 rfl hl (by decide) rfl (fun ls hl => ?_)
      exact bk_19 x2 0 y h hK _ _ _ hP (lv_sub hl [2, 3, 1, 0] rfl)
    · replace h := ift h hc
      refine lv_iconst (v := (-1)) hx hb_ dX9_round_8 (by decide) ?_
      obtain rfl := Option.some.inj h
      have hK : ((-1) : Int32) = r0 := hK
      exact w_iret C hlk hr hP hK rfl dX9_round_9
  exact bk r0 hf rfl _ _ hP
