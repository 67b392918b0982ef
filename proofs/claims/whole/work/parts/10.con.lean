theorem hd_X8_at : yX8_at.cls = RX8 ∧ yX8_at.cls ≠ "java/lang/invoke/MethodHandle" ∧ yX8_at.cls ≠ "java/lang/invoke/VarHandle" ∧ (parseMethodDescriptor yX8_at.desc).map (fun d => d.parameters.length) = some 2 := by decide +kernel
set_option maxHeartbeats 4000000 in
set_option maxRecDepth 100000 in
theorem c_X8_at (l : Launch) (D : va_G) (aI aL : ClassId) (ad : Nat → Nat) (inj : Inj ad 42) (sz : Nat) (σ : Sg) (k1 n1 : Nat) (hk1 : k1 < 42) (gk1 : shX k1 = (0, n1, [])) (v1 : Int32) (r0 : Int32) (hf : f_X8_at k1 n1 v1 σ = some r0) : Met l yX8_at (wS yX8_at cX8_at 2 (some .int)) (RM 0 0) (Pw D aI aL 42 shX ad sz σ [.ref (ad k1), .int v1]) (Qi D aI aL 42 shX ad r0 σ sz) 0 0 (AA ad 42 sz) := by
  refine Mof (Qc := Qi D aI aL 42 shX ad r0 σ) (by decide) inj (Nat.le_of_ble_eq_true rfl) ?_
  intro p e s m args below meth c ls C hlk hr hP hl
  have hx := C.1.1
  have hb_ := C.1.2.1
  have hown := C.1.2.2.2.1
  have hts := C.1.2.2.2.2
  have hl : lv_has ls 2 [(0, .ref (ad k1)), (1, .int v1)] := hl
  have bk_17 : ∀ (t0_17 : Int32) (y : Int32), f_X8_at_17 k1 n1 t0_17 σ = some y → (fun y => y = r0) y → ∀ (H : Heap) (locs : List Loc) (ls : Array Slot), HS D aI aL 42 shX ad σ s H locs → lv_has ls 2 [] → W p l e (RM 0 0) s m args below meth c H locs 0 0 (MQ below (Qi D aI aL 42 shX ad r0 σ s.heap.size) args s 0 0 (AA ad 42 s.heap.size)) (F0 m 17 ls [.int t0_17]) := by
    intro t0_17 y h hK H locs ls hP hl
    unfold f_X8_at_17 at h
    obtain rfl := Option.some.inj h
    have hK : (t0_17 : Int32) = r0 := hK
    exact w_iret C hlk hr hP hK rfl dX8_at_17
  have bk_16 : ∀ (y : Int32), f_X8_at_16 k1 n1 σ = some y → (fun y => y = r0) y → ∀ (H : Heap) (locs : List Loc) (ls : Array Slot), HS D aI aL 42 shX ad σ s H locs → lv_has ls 2 [] → W p l e (RM 0 0) s m args below meth c H locs 0 0 (MQ below (Qi D aI aL 42 shX ad r0 σ s.heap.size) args s 0 0 (AA ad 42 s.heap.size)) (F0 m 16 ls []) := by
    intro y h hK H locs ls hP hl
    unfold f_X8_at_16 at h
    refine lv_iconst (v := 0) hx hb_ dX8_at_16 (by decide) ?_
    exact bk_17 0 y h hK _ _ _ hP (lv_sub hl [] rfl)
  have bk : ∀ (y : Int32), f_X8_at k1 n1 v1 σ = some y → y = r0 → ∀ (H : Heap) (locs : List Loc), HS D aI aL 42 shX ad σ s H locs → W p l e (RM 0 0) s m args below meth c H locs 0 0 (MQ below (Qi D aI aL 42 shX ad r0 σ s.heap.size) args s 0 0 (AA ad 42 s.heap.size)) (F0 m 0 ls []) := by
    intro y h hK H locs hP
    unfold f_X8_at at h
    refine lv_iload_n hx hb_ dX8_at_0 rfl (lv_at hl 1 rfl) ?_
    refine lv_if_lt (tgt := 16) hx hb_ dX8_at_1 (by decide) (fun hc => ?_) (fun hc => ?_)
    · replace h := ift h hc
      exact bk_16 y h hK _ _ _ hP (lv_sub hl [] rfl)
    · replace h := iff' h hc
      refine lv_iload_n hx hb_ dX8_at_4 rfl (lv_at hl 1 rfl) ?_
      refine lv_aload_n hx hb_ dX8_at_5 rfl (lv_at hl 0 rfl) ?_
      refine w_alen C hP (k := k1) hk1 (n := n1) gk1 dX8_at_6 ?_
      refine lv_icmp_ge (tgt := 16) hx hb_ dX8_at_7 (by decide) (fun hc => ?_) (fun hc => ?_)
      · replace h := ift h hc
        exact bk_16 y h hK _ _ _ hP (lv_sub hl [] rfl)
      · replace h := iff' h hc
        refine lv_aload_n hx hb_ dX8_at_10 rfl (lv_at hl 0 rfl) ?_
        refine lv_iload_n hx hb_ dX8_at_11 rfl (lv_at hl 1 rfl) ?_
        obtain ⟨x1, hx1, h⟩ := bnd h
        refine w_ald C hP (k := k1) hk1 (n := n1) gk1 hx1 dX8_at_12 ?_
        refine lv_goto (tgt := 17) hx hb_ dX8_at_13 (by decide) ?_
        exact bk_17 x1 y h hK _ _ _ hP (lv_sub hl [] rfl)
  exact bk r0 hf rfl _ _ hP
theorem hd_X1_gainsayersOf : yX1_gainsayersOf.cls = RX1 ∧ yX1_gainsayersOf.cls ≠ "java/lang/invoke/MethodHandle" ∧ yX1_gainsayersOf.cls ≠ "java/lang/invoke/VarHandle" ∧ (parseMethodDescriptor yX1_gainsayersOf.desc).map (fun d => d.parameters.length) = some 1 := by decide +kernel
set_option maxHeartbeats 4000000 in
set_option maxRecDepth 100000 in
theorem c_X1_gainsayersOf (l : Launch) (D : va_G) (aI aL : ClassId) (ad : Nat → Nat) (inj : Inj ad 42) (sz : Nat) (σ : Sg) (b : Nat) (hb : isFl b) (v1 : Int32) (r0 : Int32) (hf : f_X1_gainsayersOf b v1 σ = some r0) : Met l yX1_gainsayersOf (wS yX1_gainsayersOf cX1_gainsayersOf 2 (some .int)) (RM 1 21) (Pw D aI aL 42 shX ad sz σ [.ref (ad b), .int v1]) (Qi D aI aL 42 shX ad r0 σ sz) 0 0 (AA ad 42 sz) := by
  refine Mof (Qc := Qi D aI aL 42 shX ad r0 σ) (by decide) inj (Nat.le_of_ble_eq_true rfl) ?_
  intro p e s m args below meth c ls C hlk hr hP hl
  have hx := C.1.1
  have hb_ := C.1.2.1
  have hown := C.1.2.2.2.1
  have hts := C.1.2.2.2.2
  have hl : lv_has ls 2 [(0, .ref (ad b)), (1, .int v1)] := hl
  have bk : ∀ (y : Int32), f_X1_gainsayersOf b v1 σ = some y → y = r0 → ∀ (H : Heap) (locs : List Loc), HS D aI aL 42 shX ad σ s H locs → W p l e (RM 1 21) s m args below meth c H locs 0 0 (MQ below (Qi D aI aL 42 shX ad r0 σ s.heap.size) args s 0 0 (AA ad 42 s.heap.size)) (F0 m 0 ls []) := by
    intro y h hK H locs hP
    unfold f_X1_gainsayersOf at h
    refine lv_aload_n hx hb_ dX1_gainsayersOf_0 rfl (lv_at hl 0 rfl) ?_
    refine w_get C hP (k := b) (fl_l0 hb) 0 (fl_sh hb) rfl inWX1 4 (by decide) wt61 (v := .ref (ad (b + 5))) rfl dX1_gainsayersOf_1 ?_
    refine lv_iload_n hx hb_ dX1_gainsayersOf_4 rfl (lv_at hl 1 rfl) ?_
    obtain ⟨q1, hq1, h⟩ := bnd h
    refine w_ci (w_rN (As := [.ref (ad (b + 5)), .int v1]) (rest := []) C hP (c_X8_at l D aI aL ad inj _ σ (b + 5) 10 (fl_l5 hb) (fl_a5 hb) v1 q1 hq1) nw12 wt225 wt1 wt226 2 hd_X8_at ⟨Nat.le_of_ble_eq_true rfl, Nat.le_of_ble_eq_true rfl⟩ rfl hl.1 rfl (Nat.le_of_ble_eq_true rfl) dX1_gainsayersOf_5) hP (fun H locs hP => ?_)
    obtain rfl := Option.some.inj h
    have hK : (q1 : Int32) = r0 := hK
    exact w_iret C hlk hr hP hK rfl dX1_gainsayersOf_8
  exact bk r0 hf rfl _ _ hP
theorem hd_X8_bitOf : yX8_bitOf.cls = RX8 ∧ yX8_bitOf.cls ≠ "java/lang/invoke/MethodHandle" ∧ yX8_bitOf.cls ≠ "java/lang/invoke/VarHandle" ∧ (parseMethodDescriptor yX8_bitOf.desc).map (fun d => d.parameters.length) = some 2 := by decide +kernel
set_option maxHeartbeats 4000000 in
set_option maxRecDepth 100000 in
theorem c_X8_bitOf (l : Launch) (D : va_G) (aI aL : ClassId) (ad : Nat → Nat) (inj : Inj ad 42) (sz : Nat) (σ : Sg) (v0 : Int32) (v1 : Int32) (r0 : Int32) (hf : f_X8_bitOf v0 v1 = some r0) : Met l yX8_bitOf (wS yX8_bitOf cX8_bitOf 2 (some .int)) (RM 0 0) (Pw D aI aL 42 shX ad sz σ [.int v0, .int v1]) (Qi D aI aL 42 shX ad r0 σ sz) 0 0 (AA ad 42 sz) := by
  refine Mof (Qc := Qi D aI aL 42 shX ad r0 σ) (by decide) inj (Nat.le_of_ble_eq_true rfl) ?_
  intro p e s m args below meth c ls C hlk hr hP hl
  have hx := C.1.1
  have hb_ := C.1.2.1
  have hown := C.1.2.2.2.1
  have hts := C.1.2.2.2.2
  have hl : lv_has ls 2 [(0, .int v0), (1, .int v1)] := hl
  have bk : ∀ (y : Int32), f_X8_bitOf v0 v1 = some y → y = r0 → ∀ (H : Heap) (locs : List Loc), HS D aI aL 42 shX ad σ s H locs → W p l e (RM 0 0) s m args below meth c H locs 0 0 (MQ below (Qi D aI aL 42 shX ad r0 σ s.heap.size) args s 0 0 (AA ad 42 s.heap.size)) (F0 m 0 ls []) := by
    intro y h hK H locs hP
    unfold f_X8_bitOf at h
    refine lv_iload_n hx hb_ dX8_bitOf_0 rfl (lv_at hl 0 rfl) ?_
    refine lv_iload_n hx hb_ dX8_bitOf_1 rfl (lv_at hl 1 rfl) ?_
    refine lv_ishr hx hb_ dX8_bitOf_2 ?_
    refine lv_iconst (v := 1) hx hb_ dX8_bitOf_3 (by decide) ?_
    refine lv_iand hx hb_ dX8_bitOf_4 ?_
    obtain rfl := Option.some.inj h
    have hK : (((v0 >>> (v1 &&& 31)) &&& (1 : Int32)) : Int32) = r0 := hK
    exact w_iret C hlk hr hP hK rfl dX8_bitOf_5
  exact bk r0 hf rfl _ _ hP
theorem hd_X8_has : yX8_has.cls = RX8 ∧ yX8_has.cls ≠ "java/lang/invoke/MethodHandle" ∧ yX8_has.cls ≠ "java/lang/invoke/VarHandle" ∧ (parseMethodDescriptor yX8_has.desc).map (fun d => d.parameters.length) = some 2 := by decide +kernel
set_option maxHeartbeats 4000000 in
set_option maxRecDepth 100000 in
theorem c_X8_has (l : Launch) (D : va_G) (aI aL : ClassId) (ad : Nat → Nat) (inj : Inj ad 42) (sz : Nat) (σ : Sg) (v0 : Int32) (v1 : Int32) (r0 : Int32) (hf : f_X8_has v0 v1 = some r0) : Met l yX8_has (wS yX8_has cX8_has 2 (some .boolean)) (RM 1 21) (Pw D aI aL 42 shX ad sz σ [.int v0, .int v1]) (Qi D aI aL 42 shX ad r0 σ sz) 0 0 (AA ad 42 sz) := by
  refine Mof (Qc := Qi D aI aL 42 shX ad r0 σ) (by decide) inj (Nat.le_of_ble_eq_true rfl) ?_
  intro p e s m args below meth c ls C hlk hr hP hl
  have hx := C.1.1
  have hb_ := C.1.2.1
  have hown := C.1.2.2.2.1
  have hts := C.1.2.2.2.2
  have hl : lv_has ls 2 [(0, .int v0), (1, .int v1)] := hl
  have bk_14 : ∀ (t0_14 : Int32) (y : Int32), f_X8_has_14 t0_14 = some y → (fun y => y = r0) y → ∀ (H : Heap) (locs : List Loc) (ls : Array Slot), HS D aI aL 42 shX ad σ s H locs → lv_has ls 2 [] → W p l e (RM 1 21) s m args below meth c H locs 0 0 (MQ below (Qi D aI aL 42 shX ad r0 σ s.heap.size) args s 0 0 (AA ad 42 s.heap.size)) (F0 m 14 ls [.int t0_14]) := by
    intro t0_14 y h hK H locs ls hP hl
    unfold f_X8_has_14 at h
    obtain ⟨x2, hx2, h⟩ := bnd h
    obtain rfl := Option.some.inj h
    have hK : (x2 : Int32) = r0 := hK
    exact w_zret C hlk hr hP hx2 hK rfl dX8_has_14
  have bk : ∀ (y : Int32), f_X8_has v0 v1 = some y → y = r0 → ∀ (H : Heap) (locs : List Loc), HS D aI aL 42 shX ad σ s H locs → W p l e (RM 1 21) s m args below meth c H locs 0 0 (MQ below (Qi D aI aL 42 shX ad r0 σ s.heap.size) args s 0 0 (AA ad 42 s.heap.size)) (F0 m 0 ls []) := by
    intro y h hK H locs hP
    unfold f_X8_has at h
    refine lv_iload_n hx hb_ dX8_has_0 rfl (lv_at hl 0 rfl) ?_
    refine lv_iload_n hx hb_ dX8_has_1 rfl (lv_at hl 1 rfl) ?_
    obtain ⟨q1, hq1, h⟩ := bnd h
    refine w_ci (w_rS (As := [.int v0, .int v1]) (rest := []) C hP (c_X8_bitOf l D aI aL ad inj _ σ v0 v1 q1 hq1) wt376 wt377 wt1 wt378 2 hd_X8_bitOf ⟨Nat.le_of_ble_eq_true rfl, Nat.le_of_ble_eq_true rfl⟩ rfl hl.1 rfl (Nat.le_of_ble_eq_true rfl) dX8_has_2) hP (fun H locs hP => ?_)
    refine lv_iconst (v := 1) hx hb_ dX8_has_5 (by decide) ?_
    refine lv_icmp_ne (tgt := 13) hx hb_ dX8_has_6 (by decide) (fun hc => ?_) (fun hc => ?_)
    · replace h := iff' h hc
      refine lv_iconst (v := 0) hx hb_ dX8_has_13 (by decide) ?_
      exact bk_14 0 y h hK _ _ _ hP (lv_sub hl [] rfl)
    · replace h := ift h hc
      refine lv_iconst (v := 1) hx hb_ dX8_has_9 (by decide) ?_
      refine lv_goto (tgt := 14) hx hb_ dX8_has_10 (by decide) ?_
      exact bk_14 1 y h hK _ _ _ hP (lv_sub hl [] rfl)
  exact bk r0 hf rfl _ _ hP
theorem hd_X1_hasGainsayersIn : yX1_hasGainsayersIn.cls = RX1 ∧ yX1_hasGainsayersIn.cls ≠ "java/lang/invoke/MethodHandle" ∧ yX1_hasGainsayersIn.cls ≠ "java/lang/invoke/VarHandle" ∧ (parseMethodDescriptor yX1_hasGainsayersIn.desc).map (fun d => d.parameters.length) = some 1 := by decide +kernel
set_option maxHeartbeats 4000000 in
set_option maxRecDepth 100000 in
theorem c_X1_hasGainsayersIn (l : Launch) (D : va_G) (aI aL : ClassId) (ad : Nat → Nat) (inj : Inj ad 42) (sz : Nat) (σ : Sg) (b : Nat) (hb : isFl b) (v1 : Int32) (r0 : Int32) (hf : f_X1_hasGainsayersIn b v1 σ = some r0) : Met l yX1_hasGainsayersIn (wS yX1_hasGainsayersIn cX1_hasGainsayersIn 3 (some .boolean)) (RM 2 42) (Pw D aI aL 42 shX ad sz σ [.ref (ad b), .int v1]) (Qi D aI aL 42 shX ad r0 σ sz) 0 0 (AA ad 42 sz) := by
  refine Mof (Qc := Qi D aI aL 42 shX ad r0 σ) (by decide) inj (Nat.le_of_ble_eq_true rfl) ?_
  intro p e s m args below meth c ls C hlk hr hP hl
  have hx := C.1.1
  have hb_ := C.1.2.1
  have hown := C.1.2.2.2.1
  have hts := C.1.2.2.2.2
  have hl : lv_has ls 3 [(0, .ref (ad b)), (1, .int v1)] := hl
  have lp_2 : ∀ (n_2 : Nat) (v2_2 : Int32) (y : Int32), itr n_2 (fun s => f_X1_hasGainsayersIn_2s b v1 s σ) (v2_2) = some y → (fun y => y = r0) y → ∀ (H : Heap) (locs : List Loc) (ls : Array Slot), HS D aI aL 42 shX ad σ s H locs → lv_has ls 3 [(0, .ref (ad b)), (1, .int v1), (2, .int v2_2)] → W p l e (RM 2 42) s m args below meth c H locs 0 0 (MQ below (Qi D aI aL 42 shX ad r0 σ s.heap.size) args s 0 0 (AA ad 42 s.heap.size)) (F0 m 2 ls []) := by
    intro n_2
    induction n_2 with
    | zero =>
      intro v2_2 y h hK
      cases (show (none : Option Int32) = some y from h)
    | succ n_2 ih_2 =>
      have bk_30 : ∀ (v2_30 : Int32) (y : ((Int32) ⊕ Int32)), f_X1_hasGainsayersIn_30 b v1 v2_30 σ = some y → (KK n_2 (fun s => f_X1_hasGainsayersIn_2s b v1 s σ) (fun y => y = r0)) y → ∀ (H : Heap) (locs : List Loc) (ls : Array Slot), HS D aI aL 42 shX ad σ s H locs → lv_has ls 3 [(0, .ref (ad b)), (1, .int v1), (2, .int v2_30)] → W p l e (RM 2 42) s m args below meth c H locs 0 0 (MQ below (Qi D aI aL 42 shX ad r0 σ s.heap.size) args s 0 0 (AA ad 42 s.heap.size)) (F0 m 30 ls []) := by
        intro v2_30 y h hK H locs ls hP hl
        unfold f_X1_hasGainsayersIn_30 at h
        obtain ⟨x3, hx3, h⟩ := nm_inv h
        refine lv_iinc (v := x3) (lv' := [(2, .int x3), (0, .ref (ad b)), (1, .int v1)]) hx hb_ dX1_hasGainsayersIn_30 hl (k := 2) rfl (by rw [hx3]; rfl) (by decide) rfl (fun ls hl => ?_)
        refine lv_goto (tgt := 2) hx hb_ dX1_hasGainsayersIn_33 (by decide) ?_
        obtain rfl := Option.some.inj h
        obtain ⟨y2, h, hK⟩ := hK
        exact ih_2 x3 y2 h hK _ _ _ hP (lv_sub hl [1, 2, 0] rfl)
      intro v2_2 y h hK H locs ls hP hl
      obtain ⟨y, h, hK⟩ := itr_inv (K := (fun y => y = r0)) h hK
      replace h : f_X1_hasGainsayersIn_2s b v1 v2_2 σ = some y := h
      unfold f_X1_hasGainsayersIn_2s at h
      refine lv_iload_n hx hb_ dX1_hasGainsayersIn_2 rfl (lv_at hl 2 rfl) ?_
      refine lv_aload_n hx hb_ dX1_hasGainsayersIn_3 rfl (lv_at hl 0 rfl) ?_
      refine w_get C hP (k := b) (fl_l0 hb) 0 (fl_sh hb) rfl inWX1 6 (by decide) wt63 (v := .int (σ.1 b 6)) rfl dX1_hasGainsayersIn_4 ?_
      refine lv_icmp_ge (tgt := 36) hx hb_ dX1_hasGainsayersIn_7 (by decide) (fun hc => ?_) (fun hc => ?_)
      · replace h := ift h hc
        refine lv_iconst (v := 0) hx hb_ dX1_hasGainsayersIn_36 (by decide) ?_
        obtain ⟨x1, hx1, h⟩ := bnd h
        obtain rfl := Option.some.inj h
        have hK : (x1 : Int32) = r0 := hK
        exact w_zret C hlk hr hP hx1 hK rfl dX1_hasGainsayersIn_37
      · replace h := iff' h hc
        refine lv_iload_n hx hb_ dX1_hasGainsayersIn_10 rfl (lv_at hl 1 rfl) ?_
        refine lv_iload_n hx hb_ dX1_hasGainsayersIn_11 rfl (lv_at hl 2 rfl) ?_
        obtain ⟨q2, hq2, h⟩ := bnd h
        refine w_ci (w_rN (As := [.int v1, .int v2_2]) (rest := []) C hP (c_X8_has l D aI aL ad inj _ σ v1 v2_2 q2 hq2) nw17 wt468 wt1 wt469 2 hd_X8_has ⟨Nat.le_of_ble_eq_true rfl, Nat.le_of_ble_eq_true rfl⟩ rfl hl.1 rfl (Nat.le_of_ble_eq_true rfl) dX1_hasGainsayersIn_12) hP (fun H locs hP => ?_)
        refine lv_if_eq (tgt := 30) hx hb_ dX1_hasGainsayersIn_15 (by decide) (fun hc => ?_) (fun hc => ?_)
        · replace h := ift h hc
          exact bk_30 v2_2 y h hK _ _ _ hP (lv_sub hl [0, 1, 2] rfl)
        · replace h := iff' h hc
          refine lv_aload_n hx hb_ dX1_hasGainsayersIn_18 rfl (lv_at hl 0 rfl) ?_
          refine lv_iload_n hx hb_ dX1_hasGainsayersIn_19 rfl (lv_at hl 2 rfl) ?_
          obtain ⟨q4, hq4, h⟩ := bnd h
          refine w_ci (w_rV (As := [.int v2_2]) (rest := []) C hP (k := b) (c_X1_gainsayersOf l D aI aL ad inj _ σ b hb v2_2 q4 hq4) (gV wt590 wt392 wt393 wt4 wt394) 1 hd_X1_gainsayersOf ⟨Nat.le_of_ble_eq_true rfl, Nat.le_of_ble_eq_true rfl⟩ (fl_l0 hb) 0 (fl_sh hb) rfl rfl hl.1 rfl (Nat.le_of_ble_eq_true rfl) dX1_hasGainsayersIn_20) hP (fun H locs hP => ?_)
          refine lv_iload_n hx hb_ dX1_hasGainsayersIn_23 rfl (lv_at hl 1 rfl) ?_
          refine lv_iand hx hb_ dX1_hasGainsayersIn_24 ?_
          refine lv_if_eq (tgt := 30) hx hb_ dX1_hasGainsayersIn_25 (by decide) (fun hc => ?_) (fun hc => ?_)
          · replace h := ift h hc
            exact bk_30 v2_2 y h hK _ _ _ hP (lv_sub hl [0, 1, 2] rfl)
          · replace h := iff' h hc
            refine lv_iconst (v := 1) hx hb_ dX1_hasGainsayersIn_28 (by decide) ?_
            obtain ⟨x5, hx5, h⟩ := bnd h
            obtain rfl := Option.some.inj h
            have hK : (x5 : Int32) = r0 := hK
            exact w_zret C hlk hr hP hx5 hK rfl dX1_hasGainsayersIn_29
  have bk_2 : ∀ (v2_2 : Int32) (y : Int32), f_X1_hasGainsayersIn_2 b v1 v2_2 σ = some y → (fun y => y = r0) y → ∀ (H : Heap) (locs : List Loc) (ls : Array Slot), HS D aI aL 42 shX ad σ s H locs → lv_has ls 3 [(0, .ref (ad b)), (1, .int v1), (2, .int v2_2)] → W p l e (RM 2 42) s m args below meth c H locs 0 0 (MQ below (Qi D aI aL 42 shX ad r0 σ s.heap.size) args s 0 0 (AA ad 42 s.heap.size)) (F0 m 2 ls []) := fun v2_2 y h hK => lp_2 3000 v2_2 y h hK
  have bk : ∀ (y : Int32), f_X1_hasGainsayersIn b v1 σ = some y → y = r0 → ∀ (H : Heap) (locs : List Loc), HS D aI aL 42 shX ad σ s H locs → W p l e (RM 2 42) s m args below meth c H locs 0 0 (MQ below (Qi D aI aL 42 shX ad r0 σ s.heap.size) args s 0 0 (AA ad 42 s.heap.size)) (F0 m 0 ls []) := by
    intro y h hK H locs hP
    unfold f_X1_hasGainsayersIn at h
    refine lv_iconst (v := 0) hx hb_ dX1_hasGainsayersIn_0 (by decide) ?_
    refine lv_istore_n (lv' := [(2, .int 0), (0, .ref (ad b)), (1, .int v1)]) hx hb_ dX1_hasGainsayersIn_1 rfl hl (by decide) rfl (fun ls hl => ?_)
    exact bk_2 0 y h hK _ _ _ hP (lv_sub hl [1, 2, 0] rfl)
  exact bk r0 hf rfl _ _ hP
theorem hd_X8_holdsAll : yX8_holdsAll.cls = RX8 ∧ yX8_holdsAll.cls ≠ "java/lang/invoke/MethodHandle" ∧ yX8_holdsAll.cls ≠ "java/lang/invoke/VarHandle" ∧ (parseMethodDescriptor yX8_holdsAll.desc).map (fun d => d.parameters.length) = some 2 := by decide +kernel
set_option maxHeartbeats 4000000 in
set_option maxRecDepth 100000 in
theorem c_X8_holdsAll (l : Launch) (D : va_G) (aI aL : ClassId) (ad : Nat → Nat) (inj : Inj ad 42) (sz : Nat) (σ : Sg) (v0 : Int32) (v1 : Int32) (r0 : Int32) (hf : f_X8_holdsAll v0 v1 = some r0) : Met l yX8_holdsAll (wS yX8_holdsAll cX8_holdsAll 2 (some .boolean)) (RM 0 0) (Pw D aI aL 42 shX ad sz σ [.int v0, .int v1]) (Qi D aI aL 42 shX ad r0 σ sz) 0 0 (AA ad 42 sz) := by
  refine Mof (Qc := Qi D aI aL 42 shX ad r0 σ) (by decide) inj (Nat.le_of_ble_eq_true rfl) ?_
  intro p e s m args below meth c ls C hlk hr hP hl
  have hx := C.1.1
  have hb_ := C.1.2.1
  have hown := C.1.2.2.2.1
  have hts := C.1.2.2.2.2
  have hl : lv_has ls 2 [(0, .int v0), (1, .int v1)] := hl
  have bk_12 : ∀ (t0_12 : Int32) (y : Int32), f_X8_holdsAll_12 t0_12 = some y → (fun y => y = r0) y → ∀ (H : Heap) (locs : List Loc) (ls : Array Slot), HS D aI aL 42 shX ad σ s H locs → lv_has ls 2 [] → W p l e (RM 0 0) s m args below meth c H locs 0 0 (MQ below (Qi D aI aL 42 shX ad r0 σ s.heap.size) args s 0 0 (AA ad 42 s.heap.size)) (F0 m 12 ls [.int t0_12]) := by
    intro t0_12 y h hK H locs ls hP hl
    unfold f_X8_holdsAll_12 at h
    obtain ⟨x1, hx1, h⟩ := bnd h
    obtain rfl := Option.some.inj h
    have hK : (x1 : Int32) = r0 := hK
    exact w_zret C hlk hr hP hx1 hK rfl dX8_holdsAll_12
  have bk : ∀ (y : Int32), f_X8_holdsAll v0 v1 = some y → y = r0 → ∀ (H : Heap) (locs : List Loc), HS D aI aL 42 shX ad σ s H locs → W p l e (RM 0 0) s m args below meth c H locs 0 0 (MQ below (Qi D aI aL 42 shX ad r0 σ s.heap.size) args s 0 0 (AA ad 42 s.heap.size)) (F0 m 0 ls []) := by
    intro y h hK H locs hP
    unfold f_X8_holdsAll at h
    refine lv_iload_n hx hb_ dX8_holdsAll_0 rfl (lv_at hl 0 rfl) ?_
    refine lv_iload_n hx hb_ dX8_holdsAll_1 rfl (lv_at hl 1 rfl) ?_
    refine lv_iand hx hb_ dX8_holdsAll_2 ?_
    refine lv_iload_n hx hb_ dX8_holdsAll_3 rfl (lv_at hl 1 rfl) ?_
    refine lv_icmp_ne (tgt := 11) hx hb_ dX8_holdsAll_4 (by decide) (fun hc => ?_) (fun hc => ?_)
    · replace h := iff' h hc
      refine lv_iconst (v := 0) hx hb_ dX8_holdsAll_11 (by decide) ?_
      exact bk_12 0 y h hK _ _ _ hP (lv_sub hl [] rfl)
    · replace h := ift h hc
      refine lv_iconst (v := 1) hx hb_ dX8_holdsAll_7 (by decide) ?_
      refine lv_goto (tgt := 12) hx hb_ dX8_holdsAll_8 (by decide) ?_
      exact bk_12 1 y h hK _ _ _ hP (lv_sub hl [] rfl)
  exact bk r0 hf rfl _ _ hP
theorem hd_X1_afterAmong : yX1_afterAmong.cls = RX1 ∧ yX1_afterAmong.cls ≠ "java/lang/invoke/MethodHandle" ∧ yX1_afterAmong.cls ≠ "java/lang/invoke/VarHandle" ∧ (parseMethodDescriptor yX1_afterAmong.desc).map (fun d => d.parameters.length) = some 3 := by decide +kernel
set_option maxHeartbeats 4000000 in
set_option maxRecDepth 100000 in
theorem c_X1_afterAmong (l : Launch) (D : va_G) (aI aL : ClassId) (ad : Nat → Nat) (inj : Inj ad 42) (sz : Nat) (σ : Sg) (b : Nat) (hb : isFl b) (v1 : Int32) (v2 : Int32) (v3 : Int32) (r0 : Int32) (hf : f_X1_afterAmong b v1 v2 v3 σ = some r0) : Met l yX1_afterAmong (wS yX1_afterAmong cX1_afterAmong 5 (some .int)) (RM 1 21) (Pw D aI aL 42 shX ad sz σ [.ref (ad b), .int v1, .int v2, .int v3]) (Qi D aI aL 42 shX ad r0 σ sz) 0 0 (AA ad 42 sz) := by
  refine Mof (Qc := Qi D aI aL 42 shX ad r0 σ) (by decide) inj (Nat.le_of_ble_eq_true rfl) ?_
  intro p e s m args below meth c ls C hlk hr hP hl
  have hx := C.1.1
  have hb_ := C.1.2.1
  have hown := C.1.2.2.2.1
  have hts := C.1.2.2.2.2
  have hl : lv_has ls 5 [(0, .ref (ad b)), (1, .int v1), (2, .int v2), (3, .int v3)] := hl
  have bk_44 : ∀ (t0_44 : Int32) (y : Int32), f_X1_afterAmong_44 b t0_44 σ = some y → (fun y => y = r0) y → ∀ (H : Heap) (locs : List Loc) (ls : Array Slot), HS D aI aL 42 shX ad σ s H locs → lv_has ls 5 [] → W p l e (RM 1 21) s m args below meth c H locs 0 0 (MQ below (Qi D aI aL 42 shX ad r0 σ s.heap.size) args s 0 0 (AA ad 42 s.heap.size)) (F0 m 44 ls [.int t0_44]) := by
    intro t0_44 y h hK H locs ls hP hl
    unfold f_X1_afterAmong_44 at h
    obtain rfl := Option.some.inj h
    have hK : (t0_44 : Int32) = r0 := hK
    exact w_iret C hlk hr hP hK rfl dX1_afterAmong_44
  have bk_43 : ∀ (y : Int32), f_X1_afterAmong_43 b v2 σ = some y → (fun y => y = r0) y → ∀ (H : Heap) (locs : List Loc) (ls : Array Slot), HS D aI aL 42 shX ad σ s H locs → lv_has ls 5 [(2, .int v2)] → W p l e (RM 1 21) s m args below meth c H locs 0 0 (MQ below (Qi D aI aL 42 shX ad r0 σ s.heap.size) args s 0 0 (AA ad 42 s.heap.size)) (F0 m 43 ls []) := by
    intro y h hK H locs ls hP hl
    unfold f_X1_afterAmong_43 at h
    refine lv_iload_n hx hb_ dX1_afterAmong_43 rfl (lv_at hl 0 rfl) ?_
    exact bk_44 v2 y h hK _ _ _ hP (lv_sub hl [] rfl)
  have bk : ∀ (y : Int32), f_X1_afterAmong b v1 v2 v3 σ = some y → y = r0 → ∀ (H : Heap) (locs : List Loc), HS D aI aL 42 shX ad σ s H locs → W p l e (RM 1 21) s m args below meth c H locs 0 0 (MQ below (Qi D aI aL 42 shX ad r0 σ s.heap.size) args s 0 0 (AA ad 42 s.heap.size)) (F0 m 0 ls []) := by
    intro y h hK H locs hP
    unfold f_X1_afterAmong at h
    refine lv_iconst (v := 1) hx hb_ dX1_afterAmong_0 (by decide) ?_
    refine lv_aload_n hx hb_ dX1_afterAmong_1 rfl (lv_at hl 0 rfl) ?_
    refine w_get C hP (k := b) (fl_l0 hb) 0 (fl_sh hb) rfl inWX1 2 (by decide) wt59 (v := .ref (ad (b + 3))) rfl dX1_afterAmong_2 ?_
    refine lv_iload_n hx hb_ dX1_afterAmong_5 rfl (lv_at hl 1 rfl) ?_
    obtain ⟨q1, hq1, h⟩ := bnd h
    refine w_ci (w_rN (As := [.ref (ad (b + 3)), .int v1]) (rest := [.int 1]) C hP (c_X8_at l D aI aL ad inj _ σ (b + 3) 10 (fl_l3 hb) (fl_a3 hb) v1 q1 hq1) nw12 wt225 wt1 wt226 2 hd_X8_at ⟨Nat.le_of_ble_eq_true rfl, Nat.le_of_ble_eq_true rfl⟩ rfl hl.1 rfl (Nat.le_of_ble_eq_true rfl) dX1_afterAmong_6) hP (fun H locs hP => ?_)
    refine lv_ishl hx hb_ dX1_afterAmong_9 ?_
    obtain ⟨x2, hx2, h⟩ := nm_inv h
    refine w_ni hx2 ?_
    refine lv_istore (lv' := [(4, .int x2), (0, .ref (ad b)), (1, .int v1), (2, .int v2), (3, .int v3)]) hx hb_ dX1_afterAmong_10 hl (by decide) rfl (fun ls hl => ?_)
    refine lv_iload_n hx hb_ dX1_afterAmong_12 rfl (lv_at hl 3 rfl) ?_
    refine lv_aload_n hx hb_ dX1_afterAmong_13 rfl (lv_at hl 1 rfl) ?_
    refine w_get C hP (k := b) (fl_l0 hb) 0 (fl_sh hb) rfl inWX1 3 (by decide) wt60 (v := .ref (ad (b + 4))) rfl dX1_afterAmong_14 ?_
    refine lv_iload_n hx hb_ dX1_afterAmong_17 rfl (lv_at hl 2 rfl) ?_
    obtain ⟨q3, hq3, h⟩ := bnd h
    refine w_ci (w_rN (As := [.ref (ad (b + 4)), .int v1]) (rest := [.int v2]) C hP (c_X8_at l D aI aL ad inj _ σ (b + 4) 10 (fl_l4 hb) (fl_a4 hb) v1 q3 hq3) nw12 wt225 wt1 wt226 2 hd_X8_at ⟨Nat.le_of_ble_eq_true rfl, Nat.le_of_ble_eq_true rfl⟩ rfl hl.1 rfl (Nat.le_of_ble_eq_true rfl) dX1_afterAmong_18) hP (fun H locs hP => ?_)
    obtain ⟨q4, hq4, h⟩ := bnd h
    refine w_ci (w_rN (As := [.int v2, .int q3]) (rest := []) C hP (c_X8_holdsAll l D aI aL ad inj _ σ v2 q3 q4 hq4) nw14 wt428 wt1 wt429 2 hd_X8_holdsAll ⟨Nat.le_of_ble_eq_true rfl, Nat.le_of_ble_eq_true rfl⟩ rfl hl.1 rfl (Nat.le_of_ble_eq_true rfl) dX1_afterAmong_21) hP (fun H locs hP => ?_)
    refine lv_if_eq (tgt := 43) hx hb_ dX1_afterAmong_24 (by decide) (fun hc => ?_) (fun hc => ?_)
    · replace h := ift h hc
      exact bk_43 y h hK _ _ _ hP (lv_sub hl [3] rfl)
    · replace h := iff' h hc
      refine lv_iload_n hx hb_ dX1_afterAmong_27 rfl (lv_at hl 4 rfl) ?_
      refine lv_iload hx hb_ dX1_afterAmong_28 (lv_at hl 0 rfl) ?_
      obtain ⟨q5, hq5, h⟩ := bnd h
      refine w_ci (w_rN (As := [.int v3, .int x2]) (rest := []) C hP (c_X8_holdsAll l D aI aL ad inj _ σ v3 x2 q5 hq5) nw14 wt428 wt1 wt429 2 hd_X8_holdsAll ⟨Nat.le_of_ble_eq_true rfl, Nat.le_of_ble_eq_true rfl⟩ rfl hl.1 rfl (Nat.le_of_ble_eq_true rfl) dX1_afterAmong_30) hP (fun H locs hP => ?_)
      refine lv_if_eq (tgt := 43) hx hb_ dX1_afterAmong_33 (by decide) (fun hc => ?_) (fun hc => ?_)
      · replace h := ift h hc
        exact bk_43 y h hK _ _ _ hP (lv_sub hl [3] rfl)
      · replace h := iff' h hc
        refine lv_iload_n hx hb_ dX1_afterAmong_36 rfl (lv_at hl 3 rfl) ?_
        refine lv_iload hx hb_ dX1_afterAmong_37 (lv_at hl 0 rfl) ?_
        refine lv_ior hx hb_ dX1_afterAmong_39 ?_
        refine lv_goto (tgt := 44) hx hb_ dX1_afterAmong_40 (by decide) ?_
        exact bk_44 (v2 ||| x2) y h hK _ _ _ hP (lv_sub hl [] rfl)
  exact bk r0 hf rfl _ _ hP
theorem hd_X1_reachBy : yX1_reachBy.cls = RX1 ∧ yX1_reachBy.cls ≠ "java/lang/invoke/MethodHandle" ∧ yX1_reachBy.cls ≠ "java/lang/invoke/VarHandle" ∧ (parseMethodDescriptor yX1_reachBy.desc).map (fun d => d.parameters.length) = some 3 := by decide +kernel
set_option maxHeartbeats 4000000 in
set_option maxRecDepth 100000 in
theorem c_X1_reachBy (l : Launch) (D : va_G) (aI aL : ClassId) (ad : Nat → Nat) (inj : Inj ad 42) (sz : Nat) (σ : Sg) (b : Nat) (hb : isFl b) (v1 : Int32) (v2 : Int32) (v3 : Int32) (r0 : Int32) (hf : f_X1_reachBy b v1 v2 v3 σ = some r0) : Met l yX1_reachBy (wS yX1_reachBy cX1_reachBy 8 (some .int)) (RM 2 45) (Pw D aI aL 42 shX ad sz σ [.ref (ad b), .int v1, .int v2, .int v3]) (Qi D aI aL 42 shX ad r0 σ sz) 0 0 (AA ad 42 sz) := by
  refine Mof (Qc := Qi D aI aL 42 shX ad r0 σ) (by decide) inj (Nat.le_of_ble_eq_true rfl) ?_
  intro p e s m args below meth c ls C hlk hr hP hl
  have hx := C.1.1
  have hb_ := C.1.2.1
  have hown := C.1.2.2.2.1
  have hts := C.1.2.2.2.2
  have hl : lv_has ls 8 [(0, .ref (ad b)), (1, .int v1), (2, .int v2), (3, .int v3)] := hl
  have lp_8 : ∀ (n_8 : Nat) (v4_8 : Int32) (v5_8 : Int32) (y : Int32), itr n_8 (fun s => f_X1_reachBy_8s b v2 v3 s.1 s.2 σ) (v4_8, v5_8) = some y → (fun y => y = r0) y → ∀ (H : Heap) (locs : List Loc) (ls : Array Slot), HS D aI aL 42 shX ad σ s H locs → lv_has ls 8 [(0, .ref (ad b)), (2, .int v2), (3, .int v3), (4, .int v4_8), (5, .int v5_8)] → W p l e (RM 2 45) s m args below meth c H locs 0 0 (MQ below (Qi D aI aL 42 shX ad r0 σ s.heap.size) args s 0 0 (AA ad 42 s.heap.size)) (F0 m 8 ls []) := by
    intro n_8
    induction n_8 with
    | zero =>
      intro v4_8 v5_8 y h hK
      cases (show (none : Option Int32) = some y from h)
    | succ n_8 ih_8 =>
      have lp_22 : ∀ (v5_22 : Int32) (v6_22 : Int32) (n_22 : Nat) (v4_22 : Int32) (v7_22 : Int32) (y : ((Int32 × Int32) ⊕ Int32)), itr n_22 (fun s => f_X1_reachBy_22s b v2 v3 s.1 v5_22 v6_22 s.2 σ) (v4_22, v7_22) = some y → (KK n_8 (fun s => f_X1_reachBy_8s b v2 v3 s.1 s.2 σ) (fun y => y = r0)) y → ∀ (H : Heap) (locs : List Loc) (ls : Array Slot), HS D aI aL 42 shX ad σ s H locs → lv_has ls 8 [(0, .ref (ad b)), (2, .int v2), (3, .int v3), (4, .int v4_22), (5, .int v5_22), (6, .int v6_22), (7, .int v7_22)] → W p l e (RM 2 45) s m args below meth c H locs 0 0 (MQ below (Qi D aI aL 42 shX ad r0 σ s.heap.size) args s 0 0 (AA ad 42 s.heap.size)) (F0 m 22 ls []) := by
        intro v5_22 v6_22 n_22
        induction n_22 with
        | zero =>
          intro v4_22 v7_22 y h hK
          cases (show (none : Option ((Int32 × Int32) ⊕ Int32)) = some y from h)
        | succ n_22 ih_22 =>
          have bk_51 : ∀ (v4_51 : Int32) (v7_51 : Int32) (y : ((Int32 × Int32) ⊕ ((Int32 × Int32) ⊕ Int32))), f_X1_reachBy_51 b v2 v3 v4_51 v5_22 v6_22 v7_51 σ = some y → (KK n_22 (fun s => f_X1_reachBy_22s b v2 v3 s.1 v5_22 v6_22 s.2 σ) (KK n_8 (fun s => f_X1_reachBy_8s b v2 v3 s.1 s.2 σ) (fun y => y = r0))) y → ∀ (H : Heap) (locs : List Loc) (ls : Array Slot), HS D aI aL 42 shX ad σ s H locs → lv_has ls 8 [(0, .ref (ad b)), (2, .int v2), (3, .int v3), (4, .int v4_51), (5, .int v5_22), (6, .int v6_22), (7, .int v7_51)] → W p l e (RM 2 45) s m args below meth c H locs 0 0 (MQ below (Qi D aI aL 42 shX ad r0 σ s.heap.size) args s 0 0 (AA ad 42 s.heap.size)) (F0 m 51 ls []) := by
            intro v4_51 v7_51 y h hK H locs ls hP hl
            unfold f_X1_reachBy_51 at h
            obtain ⟨x4, hx4, h⟩ := nm_inv h
            refine lv_iinc (v := x4) (lv' := [(7, .int x4), (0, .ref (ad b)), (2, .int v2), (3, .int v3), (4, .int v4_51), (5, .int v5_22), (6, .int v6_22)]) hx hb_ dX1_reachBy_51 hl (k := 6) rfl (by rw [hx4]; rfl) (by decide) rfl (fun ls hl => ?_)
            refine lv_goto (tgt := 22) hx hb_ dX1_reachBy_54 (by decide) ?_
            obtain rfl := Option.some.inj h
            obtain ⟨y2, h, hK⟩ := hK
            exact ih_22 v4_51 x4 y2 h hK _ _ _ hP (lv_sub hl [1, 2, 3, 4, 5, 6, 0] rfl)
          intro v4_22 v7_22 y h hK H locs ls hP hl
          obtain ⟨y, h, hK⟩ := itr_inv (K := (KK n_8 (fun s => f_X1_reachBy_8s b v2 v3 s.1 s.2 σ) (fun y => y = r0))) h hK
          replace h : f_X1_reachBy_22s b v2 v3 v4_22 v5_22 v6_22 v7_22 σ = some y := h
          unfold f_X1_reachBy_22s at h
          refine lv_iload hx hb_ dX1_reachBy_22 (lv_at hl 6 rfl) ?_
          refine lv_aload_n hx hb_ dX1_reachBy_24 rfl (lv_at hl 0 rfl) ?_
          refine w_get C hP (k := b) (fl_l0 hb) 0 (fl_sh hb) rfl inWX1 7 (by decide) wt64 (v := .int (σ.1 b 7)) rfl dX1_reachBy_25 ?_
          refine lv_icmp_ge (tgt := 57) hx hb_ dX1_reachBy_28 (by decide) (fun hc => ?_) (fun hc => ?_)
          · replace h := ift h hc
            refine lv_iload hx hb_ dX1_reachBy_57 (lv_at hl 3 rfl) ?_
            refine lv_iload hx hb_ dX1_reachBy_59 (lv_at hl 5 rfl) ?_
            refine lv_icmp_ne (tgt := 67) hx hb_ dX1_reachBy_61 (by decide) (fun hc => ?_) (fun hc => ?_)
            · replace h := iff' h hc
              obtain ⟨x2, hx2, h⟩ := nm_inv h
              refine lv_iinc (v := x2) (lv' := [(5, .int x2), (0, .ref (ad b)), (2, .int v2), (3, .int v3), (4, .int v4_22), (6, .int v6_22), (7, .int v7_22)]) hx hb_ dX1_reachBy_67 hl (k := 4) rfl (by rw [hx2]; rfl) (by decide) rfl (fun ls hl => ?_)
              refine lv_goto (tgt := 8) hx hb_ dX1_reachBy_70 (by decide) ?_
              obtain rfl := Option.some.inj h
              obtain ⟨y2, h, hK⟩ := hK
              exact ih_8 v4_22 x2 y2 h hK _ _ _ hP (lv_sub hl [1, 2, 3, 4, 0] rfl)
            · replace h := ift h hc
              refine lv_iload hx hb_ dX1_reachBy_64 (lv_at hl 3 rfl) ?_
              obtain rfl := Option.some.inj h
              have hK : (v4_22 : Int32) = r0 := hK
              exact w_iret C hlk hr hP hK rfl dX1_reachBy_66
          · replace h := iff' h hc
            refine lv_iload_n hx hb_ dX1_reachBy_31 rfl (lv_at hl 1 rfl) ?_
            refine lv_iload hx hb_ dX1_reachBy_32 (lv_at hl 6 rfl) ?_
            obtain ⟨q3, hq3, h⟩ := bnd h
            refine w_ci (w_rN (As := [.int v2, .int v7_22]) (rest := []) C hP (c_X8_has l D aI aL ad inj _ σ v2 v7_22 q3 hq3) nw17 wt468 wt1 wt469 2 hd_X8_has ⟨Nat.le_of_ble_eq_true rfl, Nat.le_of_ble_eq_true rfl⟩ rfl hl.1 rfl (Nat.le_of_ble_eq_true rfl) dX1_reachBy_34) hP (fun H locs hP => ?_)
            refine lv_if_eq (tgt := 51) hx hb_ dX1_reachBy_37 (by decide) (fun hc => ?_) (fun hc => ?_)
            · replace h := ift h hc
              exact bk_51 v4_22 v7_22 y h hK _ _ _ hP (lv_sub hl [0, 1, 2, 3, 4, 5, 6] rfl)
            · replace h := iff' h hc
              refine lv_aload_n hx hb_ dX1_reachBy_40 rfl (lv_at hl 0 rfl) ?_
              refine lv_iload hx hb_ dX1_reachBy_41 (lv_at hl 6 rfl) ?_
              refine lv_iload hx hb_ dX1_reachBy_43 (lv_at hl 3 rfl) ?_
              refine lv_iload_n hx hb_ dX1_reachBy_45 rfl (lv_at hl 2 rfl) ?_
              obtain ⟨q5, hq5, h⟩ := bnd h
              refine w_ci (w_rV (As := [.int v7_22, .int v4_22, .int v3]) (rest := []) C hP (k := b) (c_X1_afterAmong l D aI aL ad inj _ σ b hb v7_22 v4_22 v3 q5 hq5) (gV wt423 wt425 wp5 wt4 wt426) 3 hd_X1_afterAmong ⟨Nat.le_of_ble_eq_true rfl, Nat.le_of_ble_eq_true rfl⟩ (fl_l0 hb) 0 (fl_sh hb) rfl rfl hl.1 rfl (Nat.le_of_ble_eq_true rfl) dX1_reachBy_46) hP (fun H locs hP => ?_)
              refine lv_istore (lv' := [(4, .int q5), (0, .ref (ad b)), (2, .int v2), (3, .int v3), (5, .int v5_22), (6, .int v6_22), (7, .int v7_22)]) hx hb_ dX1_reachBy_49 hl (by decide) rfl (fun ls hl => ?_)
              exact bk_51 q5 v7_22 y h hK _ _ _ hP (lv_sub hl [1, 2, 3, 0, 4, 5, 6] rfl)
      have bk_22 : ∀ (v4_22 : Int32) (v5_22 : Int32) (v6_22 : Int32) (v7_22 : Int32) (y : ((Int32 × Int32) ⊕ Int32)), f_X1_reachBy_22 b v2 v3 v4_22 v5_22 v6_22 v7_22 σ = some y → (KK n_8 (fun s => f_X1_reachBy_8s b v2 v3 s.1 s.2 σ) (fun y => y = r0)) y → ∀ (H : Heap) (locs : List Loc) (ls : Array Slot), HS D aI aL 42 shX ad σ s H locs → lv_has ls 8 [(0, .ref (ad b)), (2, .int v2), (3, .int v3), (4, .int v4_22), (5, .int v5_22), (6, .int v6_22), (7, .int v7_22)] → W p l e (RM 2 45) s m args below meth c H locs 0 0 (MQ below (Qi D aI aL 42 shX ad r0 σ s.heap.size) args s 0 0 (AA ad 42 s.heap.size)) (F0 m 22 ls []) := fun v4_22 v5_22 v6_22 v7_22 y h hK => lp_22 v5_22 v6_22 3000 v4_22 v7_22 y h hK
      intro v4_8 v5_8 y h hK H locs ls hP hl
      obtain ⟨y, h, hK⟩ := itr_inv (K := (fun y => y = r0)) h hK
      replace h : f_X1_reachBy_8s b v2 v3 v4_8 v5_8 σ = some y := h
      unfold f_X1_reachBy_8s at h
      refine lv_iload hx hb_ dX1_reachBy_8 (lv_at hl 4 rfl) ?_
      refine lv_bipush (v := 10) hx hb_ dX1_reachBy_10 (by decide) ?_
      refine lv_icmp_ge (tgt := 73) hx hb_ dX1_reachBy_12 (by decide) (fun hc => ?_) (fun hc => ?_)
      · replace h := ift h hc
        refine lv_iload hx hb_ dX1_reachBy_73 (lv_at hl 3 rfl) ?_
        obtain rfl := Option.some.inj h
        have hK : (v4_8 : Int32) = r0 := hK
        exact w_iret C hlk hr hP hK rfl dX1_reachBy_75
      · replace h := iff' h hc
        refine lv_iload hx hb_ dX1_reachBy_15 (lv_at hl 3 rfl) ?_
        refine lv_istore (lv' := [(6, .int v4_8), (0, .ref (ad b)), (2, .int v2), (3, .int v3), (4, .int v4_8), (5, .int v5_8)]) hx hb_ dX1_reachBy_17 hl (by decide) rfl (fun ls hl => ?_)
        refine lv_iconst (v := 0) hx hb_ dX1_reachBy_19 (by decide) ?_
        refine lv_istore (lv' := [(7, .int 0), (6, .int v4_8), (0, .ref (ad b)), (2, .int v2), (3, .int v3), (4, .int v4_8), (5, .int v5_8)]) hx hb_ dX1_reachBy_20 hl (by decide) rfl (fun ls hl => ?_)
        exact bk_22 v4_8 v5_8 v4_8 0 y h hK _ _ _ hP (lv_sub hl [2, 3, 4, 5, 6, 1, 0] rfl)
  have bk_8 : ∀ (v4_8 : Int32) (v5_8 : Int32) (y : Int32), f_X1_reachBy_8 b v2 v3 v4_8 v5_8 σ = some y → (fun y => y = r0) y → ∀ (H : Heap) (locs : List Loc) (ls : Array Slot), HS D aI aL 42 shX ad σ s H locs → lv_has ls 8 [(0, .ref (ad b)), (2, .int v2), (3, .int v3), (4, .int v4_8), (5, .int v5_8)] → W p l e (RM 2 45) s m args below meth c H locs 0 0 (MQ below (Qi D aI aL 42 shX ad r0 σ s.heap.size) args s 0 0 (AA ad 42 s.heap.size)) (F0 m 8 ls []) := fun v4_8 v5_8 y h hK => lp_8 3000 v4_8 v5_8 y h hK
  have bk : ∀ (y : Int32), f_X1_reachBy b v1 v2 v3 σ = some y → y = r0 → ∀ (H : Heap) (locs : List Loc), HS D aI aL 42 shX ad σ s H locs → W p l e (RM 2 45) s m args below meth c H locs 0 0 (MQ below (Qi D aI aL 42 shX ad r0 σ s.heap.size) args s 0 0 (AA ad 42 s.heap.size)) (F0 m 0 ls []) := by
    intro y h hK H locs hP
    unfold f_X1_reachBy at h
    refine lv_iload_n hx hb_ dX1_reachBy_0 rfl (lv_at hl 1 rfl) ?_
    refine lv_iload_n hx hb_ dX1_reachBy_1 rfl (lv_at hl 3 rfl) ?_
    refine lv_iand hx hb_ dX1_reachBy_2 ?_
    obtain ⟨x1, hx1, h⟩ := nm_inv h
    refine w_ni hx1 ?_
    refine lv_istore (lv' := [(4, .int x1), (0, .ref (ad b)), (1, .int v1), (2, .int v2), (3, .int v3)]) hx hb_ dX1_reachBy_3 hl (by decide) rfl (fun ls hl => ?_)
    refine lv_iconst (v := 0) hx hb_ dX1_reachBy_5 (by decide) ?_
    refine lv_istore (lv' := [(5, .int 0), (4, .int x1), (0, .ref (ad b)), (1, .int v1), (2, .int v2), (3, .int v3)]) hx hb_ dX1_reachBy_6 hl (by decide) rfl (fun ls hl => ?_)
    exact bk_8 x1 0 y h hK _ _ _ hP (lv_sub hl [2, 4, 5, 1, 0] rfl)
  exact bk r0 hf rfl _ _ hP
theorem hd_X1_there : yX1_there.cls = RX1 ∧ yX1_there.cls ≠ "java/lang/invoke/MethodHandle" ∧ yX1_there.cls ≠ "java/lang/invoke/VarHandle" ∧ (parseMethodDescriptor yX1_there.desc).map (fun d => d.parameters.length) = some 0 := by decide +kernel
set_option maxHeartbeats 4000000 in
set_option maxRecDepth 100000 in
theorem c_X1_there (l : Launch) (D : va_G) (aI aL : ClassId) (ad : Nat → Nat) (inj : Inj ad 42) (sz : Nat) (σ : Sg) (b : Nat) (hb : isFl b) (r0 : Int32) (hf : f_X1_there b σ = some r0) : Met l yX1_there (wS yX1_there cX1_there 1 (some .int)) (RM 0 0) (Pw D aI aL 42 shX ad sz σ [.ref (ad b)]) (Qi D aI aL 42 shX ad r0 σ sz) 0 0 (AA ad 42 sz) := by
  refine Mof (Qc := Qi D aI aL 42 shX ad r0 σ) (by decide) inj (Nat.le_of_ble_eq_true rfl) ?_
  intro p e s m args below meth c ls C hlk hr hP hl
  have hx := C.1.1
  have hb_ := C.1.2.1
  have hown := C.1.2.2.2.1
  have hts := C.1.2.2.2.2
  have hl : lv_has ls 1 [(0, .ref (ad b))] := hl
  have bk : ∀ (y : Int32), f_X1_there b σ = some y → y = r0 → ∀ (H : Heap) (locs : List Loc), HS D aI aL 42 shX ad σ s H locs → W p l e (RM 0 0) s m args below meth c H locs 0 0 (MQ below (Qi D aI aL 42 shX ad r0 σ s.heap.size) args s 0 0 (AA ad 42 s.heap.size)) (F0 m 0 ls []) := by
    intro y h hK H locs hP
    unfold f_X1_there at h
    refine lv_aload_n hx hb_ dX1_there_0 rfl (lv_at hl 0 rfl) ?_
    refine w_get C hP (k := b) (fl_l0 hb) 0 (fl_sh hb) rfl inWX1 9 (by decide) wt66 (v := .int (σ.1 b 9)) rfl dX1_there_1 ?_
    obtain rfl := Option.some.inj h
    have hK : ((σ.1 b 9) : Int32) = r0 := hK
    exact w_iret C hlk hr hP hK rfl dX1_there_4
  exact bk r0 hf rfl _ _ hP
theorem hd_X0_isMet : yX0_isMet.cls = RX0 ∧ yX0_isMet.cls ≠ "java/lang/invoke/MethodHandle" ∧ yX0_isMet.cls ≠ "java/lang/invoke/VarHandle" ∧ (parseMethodDescriptor yX0_isMet.desc).map (fun d => d.parameters.length) = some 3 := by decide +kernel
set_option maxHeartbeats 4000000 in
set_option maxRecDepth 100000 in
theorem c_X0_isMet (l : Launch) (D : va_G) (aI aL : ClassId) (ad : Nat → Nat) (inj : Inj ad 42) (sz : Nat) (σ : Sg) (v1 : Int32) (v2 : Int32) (r0 : Int32) (hf : f_X0_isMet v1 v2 σ = some r0) : Met l yX0_isMet (wS yX0_isMet cX0_isMet 4 (some .boolean)) (RM 3 72) (Pw D aI aL 42 shX ad sz σ [.ref (ad 12), .int v1, .int v2]) (Qi D aI aL 42 shX ad r0 σ sz) 0 0 (AA ad 42 sz) := by
  refine Mof (Qc := Qi D aI aL 42 shX ad r0 σ) (by decide) inj (Nat.le_of_ble_eq_true rfl) ?_
  intro p e s m args below meth c ls C hlk hr hP hl
  have hx := C.1.1
  have hb_ := C.1.2.1
  have hown := C.1.2.2.2.1
  have hts := C.1.2.2.2.2
  have hl : lv_has ls 4 [(0, .ref (ad 12)), (1, .int v1), (2, .int v2)] := hl
  have bk_43 : ∀ (t0_43 : Int32) (y : Int32), f_X0_isMet_43 t0_43 σ = some y → (fun y => y = r0) y → ∀ (H : Heap) (locs : List Loc) (ls : Array Slot), HS D aI aL 42 shX ad σ s H locs → lv_has ls 4 [] → W p l e (RM 3 72) s m args below meth c H locs 0 0 (MQ below (Qi D aI aL 42 shX ad r0 σ s.heap.size) args s 0 0 (AA ad 42 s.heap.size)) (F0 m 43 ls [.int t0_43]) := by
    intro t0_43 y h hK H locs ls hP hl
    unfold f_X0_isMet_43 at h
    obtain ⟨x6, hx6, h⟩ := bnd h
    obtain rfl := Option.some.inj h
    have hK : (x6 : Int32) = r0 := hK
    exact w_zret C hlk hr hP hx6 hK rfl dX0_isMet_43
  have bk : ∀ (y : Int32), f_X0_isMet v1 v2 σ = some y → y = r0 → ∀ (H : Heap) (locs : List Loc), HS D aI aL 42 shX ad σ s H locs → W p l e (RM 3 72) s m args below meth c H locs 0 0 (MQ below (Qi D aI aL 42 shX ad r0 σ s.heap.size) args s 0 0 (AA ad 42 s.heap.size)) (F0 m 0 ls []) := by
    intro y h hK H locs hP
    unfold f_X0_isMet at h
    refine lv_aload_n hx hb_ dX0_isMet_0 rfl (lv_at hl 0 rfl) ?_
    refine lv_iload_n hx hb_ dX0_isMet_1 rfl (lv_at hl 2 rfl) ?_
    refine lv_sipush (v := 1023) hx hb_ dX0_isMet_2 (by decide) ?_
    refine lv_aload_n hx hb_ dX0_isMet_5 rfl (lv_at hl 0 rfl) ?_
    obtain ⟨q1, hq1, h⟩ := bnd h
    refine w_ci (w_rV (As := []) (rest := [.int 1023, .int v2, .ref (ad 12)]) C hP (k := 12) (c_X1_there l D aI aL ad inj _ σ 12 fl12 q1 hq1) (gV wt584 wt373 wt374 wt4 wt375) 0 hd_X1_there ⟨Nat.le_of_ble_eq_true rfl, Nat.le_of_ble_eq_true rfl⟩ (by decide) 0 rfl rfl rfl hl.1 rfl (Nat.le_of_ble_eq_true rfl) dX0_isMet_6) hP (fun H locs hP => ?_)
    obtain ⟨q2, hq2, h⟩ := bnd h
    refine w_ci (w_rV (As := [.int v2, .int 1023, .int q1]) (rest := []) C hP (k := 12) (c_X1_reachBy l D aI aL ad inj _ σ 12 fl12 v2 1023 q1 q2 hq2) (gV wt585 wt526 wt527 wt4 wt528) 3 hd_X1_reachBy ⟨Nat.le_of_ble_eq_true rfl, Nat.le_of_ble_eq_true rfl⟩ (by decide) 0 rfl rfl rfl hl.1 rfl (Nat.le_of_ble_eq_true rfl) dX0_isMet_9) hP (fun H locs hP => ?_)
    refine lv_istore_n (lv' := [(3, .int q2), (0, .ref (ad 12)), (1, .int v1), (2, .int v2)]) hx hb_ dX0_isMet_12 rfl hl (by decide) rfl (fun ls hl => ?_)
    refine lv_iload_n hx hb_ dX0_isMet_13 rfl (lv_at hl 2 rfl) ?_
    refine lv_iconst (v := (-1)) hx hb_ dX0_isMet_14 (by decide) ?_
    refine lv_icmp_ne (tgt := 24) hx hb_ dX0_isMet_15 (by decide) (fun hc => ?_) (fun hc => ?_)
    · replace h := iff' h hc
      refine lv_iload_n hx hb_ dX0_isMet_24 rfl (lv_at hl 2 rfl) ?_
      refine lv_bipush (v := (-2)) hx hb_ dX0_isMet_25 (by decide) ?_
      refine lv_icmp_ne (tgt := 44) hx hb_ dX0_isMet_27 (by decide) (fun hc => ?_) (fun hc => ?_)
      · replace h := iff' h hc
        refine lv_iload_n hx hb_ dX0_isMet_44 rfl (lv_at hl 0 rfl) ?_
        refine lv_iload_n hx hb_ dX0_isMet_45 rfl (lv_at hl 2 rfl) ?_
        obtain ⟨q3, hq3, h⟩ := bnd h
        refine w_ci (w_rN (As := [.int q2, .int v1]) (rest := []) C hP (c_X8_has l D aI aL ad inj _ σ q2 v1 q3 hq3) nw22 wt468 wt1 wt469 2 hd_X8_has ⟨Nat.le_of_ble_eq_true rfl, Nat.le_of_ble_eq_true rfl⟩ rfl hl.1 rfl (Nat.le_of_ble_eq_true rfl) dX0_isMet_46) hP (fun H locs hP => ?_)
        obtain ⟨x4, hx4, h⟩ := bnd h
        obtain rfl := Option.some.inj h
        have hK : (x4 : Int32) = r0 := hK
        exact w_zret C hlk hr hP hx4 hK rfl dX0_isMet_49
      · replace h := ift h hc
        refine lv_aload_n hx hb_ dX0_isMet_30 rfl (lv_at hl 1 rfl) ?_
        refine lv_iload_n hx hb_ dX0_isMet_31 rfl (lv_at hl 0 rfl) ?_
        obtain ⟨q5, hq5, h⟩ := bnd h
        refine w_ci (w_rV (As := [.int q2]) (rest := []) C hP (k := 12) (c_X1_hasGainsayersIn l D aI aL ad inj _ σ 12 fl12 q2 q5 hq5) (gV wt586 wt587 wt588 wt4 wt589) 1 hd_X1_hasGainsayersIn ⟨Nat.le_of_ble_eq_true rfl, Nat.le_of_ble_eq_true rfl⟩ (by decide) 0 rfl rfl rfl hl.1 rfl (Nat.le_of_ble_eq_true rfl) dX0_isMet_32) hP (fun H locs hP => ?_)
        refine lv_if_ne (tgt := 42) hx hb_ dX0_isMet_35 (by decide) (fun hc => ?_) (fun hc => ?_)
        · replace h := iff' h hc
          refine lv_iconst (v := 0) hx hb_ dX0_isMet_42 (by decide) ?_
          exact bk_43 0 y h hK _ _ _ hP (lv_sub hl [] rfl)
        · replace h := ift h hc
          refine lv_iconst (v := 1) hx hb_ dX0_isMet_38 (by decide) ?_
          refine lv_goto (tgt := 43) hx hb_ dX0_isMet_39 (by decide) ?_
          exact bk_43 1 y h hK _ _ _ hP (lv_sub hl [] rfl)
    · replace h := ift h hc
      refine lv_aload_n hx hb_ dX0_isMet_18 rfl (lv_at hl 1 rfl) ?_
      refine lv_iload_n hx hb_ dX0_isMet_19 rfl (lv_at hl 0 rfl) ?_
      obtain ⟨q7, hq7, h⟩ := bnd h
      refine w_ci (w_rV (As := [.int q2]) (rest := []) C hP (k := 12) (c_X1_hasGainsayersIn l D aI aL ad inj _ σ 12 fl12 q2 q7 hq7) (gV wt586 wt587 wt588 wt4 wt589) 1 hd_X1_hasGainsayersIn ⟨Nat.le_of_ble_eq_true rfl, Nat.le_of_ble_eq_true rfl⟩ (by decide) 0 rfl rfl rfl hl.1 rfl (Nat.le_of_ble_eq_true rfl) dX0_isMet_20) hP (fun H locs hP => ?_)
      obtain ⟨x8, hx8, h⟩ := bnd h
      obtain rfl := Option.some.inj h
      have hK : (x8 : Int32) = r0 := hK
      exact w_zret C hlk hr hP hx8 hK rfl dX0_isMet_23
  exact bk r0 hf rfl _ _ hP
theorem hd_X1_beginnings : yX1_beginnings.cls = RX1 ∧ yX1_beginnings.cls ≠ "java/lang/invoke/MethodHandle" ∧ yX1_beginnings.cls ≠ "java/lang/invoke/VarHandle" ∧ (parseMethodDescriptor yX1_beginnings.desc).map (fun d => d.parameters.length) = some 0 := by decide +kernel
set_option maxHeartbeats 4000000 in
set_option maxRecDepth 100000 in
theorem c_X1_beginnings (l : Launch) (D : va_G) (aI aL : ClassId) (ad : Nat → Nat) (inj : Inj ad 42) (sz : Nat) (σ : Sg) (b : Nat) (hb : isFl b) (r0 : Int32) (hf : f_X1_beginnings b σ = some r0) : Met l yX1_beginnings (wS yX1_beginnings cX1_beginnings 1 (some .int)) (RM 0 0) (Pw D aI aL 42 shX ad sz σ [.ref (ad b)]) (Qi D aI aL 42 shX ad r0 σ sz) 0 0 (AA ad 42 sz) := by
  refine Mof (Qc := Qi D aI aL 42 shX ad r0 σ) (by decide) inj (Nat.le_of_ble_eq_true rfl) ?_
  intro p e s m args below meth c ls C hlk hr hP hl
  have hx := C.1.1
  have hb_ := C.1.2.1
  have hown := C.1.2.2.2.1
  have hts := C.1.2.2.2.2
  have hl : lv_has ls 1 [(0, .ref (ad b))] := hl
  have bk : ∀ (y : Int32), f_X1_beginnings b σ = some y → y = r0 → ∀ (H : Heap) (locs : List Loc), HS D aI aL 42 shX ad σ s H locs → W p l e (RM 0 0) s m args below meth c H locs 0 0 (MQ below (Qi D aI aL 42 shX ad r0 σ s.heap.size) args s 0 0 (AA ad 42 s.heap.size)) (F0 m 0 ls []) := by
    intro y h hK H locs hP
    unfold f_X1_beginnings at h
    refine lv_aload_n hx hb_ dX1_beginnings_0 rfl (lv_at hl 0 rfl) ?_
    refine w_get C hP (k := b) (fl_l0 hb) 0 (fl_sh hb) rfl inWX1 8 (by decide) wt65 (v := .int (σ.1 b 8)) rfl dX1_beginnings_1 ?_
    refine lv_aload_n hx hb_ dX1_beginnings_4 rfl (lv_at hl 0 rfl) ?_
    refine w_get C hP (k := b) (fl_l0 hb) 0 (fl_sh hb) rfl inWX1 9 (by decide) wt66 (v := .int (σ.1 b 9)) rfl dX1_beginnings_5 ?_
    refine lv_iand hx hb_ dX1_beginnings_8 ?_
    obtain rfl := Option.some.inj h
    have hK : (((σ.1 b 8) &&& (σ.1 b 9)) : Int32) = r0 := hK
    exact w_iret C hlk hr hP hK rfl dX1_beginnings_9
  exact bk r0 hf rfl _ _ hP
theorem hd_X0_leadTo : yX0_leadTo.cls = RX0 ∧ yX0_leadTo.cls ≠ "java/lang/invoke/MethodHandle" ∧ yX0_leadTo.cls ≠ "java/lang/invoke/VarHandle" ∧ (parseMethodDescriptor yX0_leadTo.desc).map (fun d => d.parameters.length) = some 2 := by decide +kernel
set_option maxHeartbeats 4000000 in
set_option maxRecDepth 100000 in
theorem c_X0_leadTo (l : Launch) (D : va_G) (aI aL : ClassId) (ad : Nat → Nat) (inj : Inj ad 42) (sz : Nat) (σ : Sg) (v1 : Int32) (r0 : Int32) (hf : f_X0_leadTo v1 σ = some r0) : Met l yX0_leadTo (wS yX0_leadTo cX0_leadTo 2 (some .boolean)) (RM 4 95) (Pw D aI aL 42 shX ad sz σ [.ref (ad 12), .int v1]) (Qi D aI aL 42 shX ad r0 σ sz) 0 0 (AA ad 42 sz) := by
  refine Mof (Qc := Qi D aI aL 42 shX ad r0 σ) (by decide) inj (Nat.le_of_ble_eq_true rfl) ?_
  intro p e s m args below meth c ls C hlk hr hP hl
  have hx := C.1.1
  have hb_ := C.1.2.1
  have hown := C.1.2.2.2.1
  have hts := C.1.2.2.2.2
  have hl : lv_has ls 2 [(0, .ref (ad 12)), (1, .int v1)] := hl
  have bk : ∀ (y : Int32), f_X0_leadTo v1 σ = some y → y = r0 → ∀ (H : Heap) (locs : List Loc), HS D aI aL 42 shX ad σ s H locs → W p l e (RM 4 95) s m args below meth c H locs 0 0 (MQ below (Qi D aI aL 42 shX ad r0 σ s.heap.size) args s 0 0 (AA ad 42 s.heap.size)) (F0 m 0 ls []) := by
    intro y h hK H locs hP
    unfold f_X0_leadTo at h
    refine lv_aload_n hx hb_ dX0_leadTo_0 rfl (lv_at hl 0 rfl) ?_
    refine lv_iload_n hx hb_ dX0_leadTo_1 rfl (lv_at hl 1 rfl) ?_
    refine lv_aload_n hx hb_ dX0_leadTo_2 rfl (lv_at hl 0 rfl) ?_
    obtain ⟨q1, hq1, h⟩ := bnd h
    refine w_ci (w_rV (As := []) (rest := [.int v1, .ref (ad 12)]) C hP (k := 12) (c_X1_beginnings l D aI aL ad inj _ σ 12 fl12 q1 hq1) (gV wt580 wt277 wt278 wt4 wt279) 0 hd_X1_beginnings ⟨Nat.le_of_ble_eq_true rfl, Nat.le_of_ble_eq_true rfl⟩ (by decide) 0 rfl rfl rfl hl.1 rfl (Nat.le_of_ble_eq_true rfl) dX0_leadTo_3) hP (fun H locs hP => ?_)
    obtain ⟨q2, hq2, h⟩ := bnd h
    refine w_ci (w_rS (As := [.ref (ad 12), .int v1, .int q1]) (rest := []) C hP (c_X0_isMet l D aI aL ad inj _ σ v1 q1 q2 hq2) wt581 wt582 wt14 wt583 3 hd_X0_isMet ⟨Nat.le_of_ble_eq_true rfl, Nat.le_of_ble_eq_true rfl⟩ rfl hl.1 rfl (Nat.le_of_ble_eq_true rfl) dX0_leadTo_6) hP (fun H locs hP => ?_)
    obtain ⟨x3, hx3, h⟩ := bnd h
    obtain rfl := Option.some.inj h
    have hK : (x3 : Int32) = r0 := hK
    exact w_zret C hlk hr hP hx3 hK rfl dX0_leadTo_9
  exact bk r0 hf rfl _ _ hP
theorem hd_X0_leadIntoHall : yX0_leadIntoHall.cls = RX0 ∧ yX0_leadIntoHall.cls ≠ "java/lang/invoke/MethodHandle" ∧ yX0_leadIntoHall.cls ≠ "java/lang/invoke/VarHandle" ∧ (parseMethodDescriptor yX0_leadIntoHall.desc).map (fun d => d.parameters.length) = some 1 := by decide +kernel
set_option maxHeartbeats 4000000 in
set_option maxRecDepth 100000 in
theorem c_X0_leadIntoHall (l : Launch) (D : va_G) (aI aL : ClassId) (ad : Nat → Nat) (inj : Inj ad 42) (sz : Nat) (σ : Sg) (r0 : Int32) (hf : f_X0_leadIntoHall σ = some r0) : Met l yX0_leadIntoHall (wS yX0_leadIntoHall cX0_leadIntoHall 1 (some .boolean)) (RM 4 95) (Pw D aI aL 42 shX ad sz σ [.ref (ad 12)]) (Qi D aI aL 42 shX ad r0 σ sz) 0 0 (AA ad 42 sz) := by
  refine Mof (Qc := Qi D aI aL 42 shX ad r0 σ) (by decide) inj (Nat.le_of_ble_eq_true rfl) ?_
  intro p e s m args below meth c ls C hlk hr hP hl
  have hx := C.1.1
  have hb_ := C.1.2.1
  have hown := C.1.2.2.2.1
  have hts := C.1.2.2.2.2
  have hl : lv_has ls 1 [(0, .ref (ad 12))] := hl
  have bk : ∀ (y : Int32), f_X0_leadIntoHall σ = some y → y = r0 → ∀ (H : Heap) (locs : List Loc), HS D aI aL 42 shX ad σ s H locs → W p l e (RM 4 95) s m args below meth c H locs 0 0 (MQ below (Qi D aI aL 42 shX ad r0 σ s.heap.size) args s 0 0 (AA ad 42 s.heap.size)) (F0 m 0 ls []) := by
    intro y h hK H locs hP
    unfold f_X0_leadIntoHall at h
    refine lv_aload_n hx hb_ dX0_leadIntoHall_0 rfl (lv_at hl 0 rfl) ?_
    refine lv_iconst (v := (-1)) hx hb_ dX0_leadIntoHall_1 (by decide) ?_
    refine lv_aload_n hx hb_ dX0_leadIntoHall_2 rfl (lv_at hl 0 rfl) ?_
    obtain ⟨q1, hq1, h⟩ := bnd h
    refine w_ci (w_rV (As := []) (rest := [.int (-1), .ref (ad 12)]) C hP (k := 12) (c_X1_beginnings l D aI aL ad inj _ σ 12 fl12 q1 hq1) (gV wt580 wt277 wt278 wt4 wt279) 0 hd_X1_beginnings ⟨Nat.le_of_ble_eq_true rfl, Nat.le_of_ble_eq_true rfl⟩ (by decide) 0 rfl rfl rfl hl.1 rfl (Nat.le_of_ble_eq_true rfl) dX0_leadIntoHall_3) hP (fun H locs hP => ?_)
    obtain ⟨q2, hq2, h⟩ := bnd h
    refine w_ci (w_rS (As := [.ref (ad 12), .int (-1), .int q1]) (rest := []) C hP (c_X0_isMet l D aI aL ad inj _ σ (-1) q1 q2 hq2) wt581 wt582 wt14 wt583 3 hd_X0_isMet ⟨Nat.le_of_ble_eq_true rfl, Nat.le_of_ble_eq_true rfl⟩ rfl hl.1 rfl (Nat.le_of_ble_eq_true rfl) dX0_leadIntoHall_6) hP (fun H locs hP => ?_)
    obtain ⟨x3, hx3, h⟩ := bnd h
    obtain rfl := Option.some.inj h
    have hK : (x3 : Int32) = r0 := hK
    exact w_zret C hlk hr hP hx3 hK rfl dX0_leadIntoHall_9
  exact bk r0 hf rfl _ _ hP
theorem hd_X1_stoneCount : yX1_stoneCount.cls = RX1 ∧ yX1_stoneCount.cls ≠ "java/lang/invoke/MethodHandle" ∧ yX1_stoneCount.cls ≠ "java/lang/invoke/VarHandle" ∧ (parseMethodDescriptor yX1_stoneCount.desc).map (fun d => d.parameters.length) = some 0 := by decide +kernel
set_option maxHeartbeats 4000000 in
set_option maxRecDepth 100000 in
theorem c_X1_stoneCount (l : Launch) (D : va_G) (aI aL : ClassId) (ad : Nat → Nat) (inj : Inj ad 42) (sz : Nat) (σ : Sg) (b : Nat) (hb : isFl b) (r0 : Int32) (hf : f_X1_stoneCount b σ = some r0) : Met l yX1_stoneCount (wS yX1_stoneCount cX1_stoneCount 1 (some .int)) (RM 0 0) (Pw D aI aL 42 shX ad sz σ [.ref (ad b)]) (Qi D aI aL 42 shX ad r0 σ sz) 0 0 (AA ad 42 sz) := by
  refine Mof (Qc := Qi D aI aL 42 shX ad r0 σ) (by decide) inj (Nat.le_of_ble_eq_true rfl) ?_
  intro p e s m args below meth c ls C hlk hr hP hl
  have hx := C.1.1
  have hb_ := C.1.2.1
  have hown := C.1.2.2.2.1
  have hts := C.1.2.2.2.2
  have hl : lv_has ls 1 [(0, .ref (ad b))] := hl
  have bk : ∀ (y : Int32), f_X1_stoneCount b σ = some y → y = r0 → ∀ (H : Heap) (locs : List Loc), HS D aI aL 42 shX ad σ s H locs → W p l e (RM 0 0) s m args below meth c H locs 0 0 (MQ below (Qi D aI aL 42 shX ad r0 σ s.heap.size) args s 0 0 (AA ad 42 s.heap.size)) (F0 m 0 ls []) := by
    intro y h hK H locs hP
    unfold f_X1_stoneCount at h
    refine lv_aload_n hx hb_ dX1_stoneCount_0 rfl (lv_at hl 0 rfl) ?_
    refine w_get C hP (k := b) (fl_l0 hb) 0 (fl_sh hb) rfl inWX1 6 (by decide) wt63 (v := .int (σ.1 b 6)) rfl dX1_stoneCount_1 ?_
    obtain rfl := Option.some.inj h
    have hK : ((σ.1 b 6) : Int32) = r0 := hK
    exact w_iret C hlk hr hP hK rfl dX1_stoneCount_4
  exact bk r0 hf rfl _ _ hP
theorem hd_X0_neededFor : yX0_neededFor.cls = RX0 ∧ yX0_neededFor.cls ≠ "java/lang/invoke/MethodHandle" ∧ yX0_neededFor.cls ≠ "java/lang/invoke/VarHandle" ∧ (parseMethodDescriptor yX0_neededFor.desc).map (fun d => d.parameters.length) = some 2 := by decide +kernel
set_option maxHeartbeats 4000000 in
set_option maxRecDepth 100000 in
theorem c_X0_neededFor (l : Launch) (D : va_G) (aI aL : ClassId) (ad : Nat → Nat) (inj : Inj ad 42) (sz : Nat) (σ : Sg) (v1 : Int32) (r0 : Int32) (hf : f_X0_neededFor v1 σ = some r0) : Met l yX0_neededFor (wS yX0_neededFor cX0_neededFor 5 (some .int)) (RM 4 95) (Pw D aI aL 42 shX ad sz σ [.ref (ad 12), .int v1]) (Qi D aI aL 42 shX ad r0 σ sz) 0 0 (AA ad 42 sz) := by
  refine Mof (Qc := Qi D aI aL 42 shX ad r0 σ) (by decide) inj (Nat.le_of_ble_eq_true rfl) ?_
  intro p e s m args below meth c ls C hlk hr hP hl
  have hx := C.1.1
  have hb_ := C.1.2.1
  have hown := C.1.2.2.2.1
  have hts := C.1.2.2.2.2
  have hl : lv_has ls 5 [(0, .ref (ad 12)), (1, .int v1)] := hl
  have lp_4 : ∀ (n_4 : Nat) (v2_4 : Int32) (v3_4 : Int32) (y : Int32), itr n_4 (fun s => f_X0_neededFor_4s v1 s.1 s.2 σ) (v2_4, v3_4) = some y → (fun y => y = r0) y → ∀ (H : Heap) (locs : List Loc) (ls : Array Slot), HS D aI aL 42 shX ad σ s H locs → lv_has ls 5 [(0, .ref (ad 12)), (1, .int v1), (2, .int v2_4), (3, .int v3_4)] → W p l e (RM 4 95) s m args below meth c H locs 0 0 (MQ below (Qi D aI aL 42 shX ad r0 σ s.heap.size) args s 0 0 (AA ad 42 s.heap.size)) (F0 m 4 ls []) := by
    intro n_4
    induction n_4 with
    | zero =>
      intro v2_4 v3_4 y h hK
      cases (show (none : Option Int32) = some y from h)
    | succ n_4 ih_4 =>
      have bk_51 : ∀ (v2_51 : Int32) (v3_51 : Int32) (y : ((Int32 × Int32) ⊕ Int32)), f_X0_neededFor_51 v1 v2_51 v3_51 σ = some y → (KK n_4 (fun s => f_X0_neededFor_4s v1 s.1 s.2 σ) (fun y => y = r0)) y → ∀ (H : Heap) (locs : List Loc) (ls : Array Slot), HS D aI aL 42 shX ad σ s H locs → lv_has ls 5 [(0, .ref (ad 12)), (1, .int v1), (2, .int v2_51), (3, .int v3_51)] → W p l e (RM 4 95) s m args below meth c H locs 0 0 (MQ below (Qi D aI aL 42 shX ad r0 σ s.heap.size) args s 0 0 (AA ad 42 s.heap.size)) (F0 m 51 ls []) := by
        intro v2_51 v3_51 y h hK H locs ls hP hl
        unfold f_X0_neededFor_51 at h
        obtain ⟨x6, hx6, h⟩ := nm_inv h
        refine lv_iinc (v := x6) (lv' := [(3, .int x6), (0, .ref (ad 12)), (1, .int v1), (2, .int v2_51)]) hx hb_ dX0_neededFor_51 hl (k := 3) rfl (by rw [hx6]; rfl) (by decide) rfl (fun ls hl => ?_)
        refine lv_goto (tgt := 4) hx hb_ dX0_neededFor_54 (by decide) ?_
        obtain rfl := Option.some.inj h
        obtain ⟨y2, h, hK⟩ := hK
        exact ih_4 v2_51 x6 y2 h hK _ _ _ hP (lv_sub hl [1, 2, 3, 0] rfl)
      intro v2_4 v3_4 y h hK H locs ls hP hl
      obtain ⟨y, h, hK⟩ := itr_inv (K := (fun y => y = r0)) h hK
      replace h : f_X0_neededFor_4s v1 v2_4 v3_4 σ = some y := h
      unfold f_X0_neededFor_4s at h
      refine lv_iload_n hx hb_ dX0_neededFor_4 rfl (lv_at hl 3 rfl) ?_
      refine lv_aload_n hx hb_ dX0_neededFor_5 rfl (lv_at hl 0 rfl) ?_
      obtain ⟨q1, hq1, h⟩ := bnd h
      refine w_ci (w_rV (As := []) (rest := [.int v3_4]) C hP (k := 12) (c_X1_stoneCount l D aI aL ad inj _ σ 12 fl12 q1 hq1) (gV wt595 wt360 wt361 wt4 wt362) 0 hd_X1_stoneCount ⟨Nat.le_of_ble_eq_true rfl, Nat.le_of_ble_eq_true rfl⟩ (by decide) 0 rfl rfl rfl hl.1 rfl (Nat.le_of_ble_eq_true rfl) dX0_neededFor_6) hP (fun H locs hP => ?_)
      refine lv_icmp_ge (tgt := 57) hx hb_ dX0_neededFor_9 (by decide) (fun hc => ?_) (fun hc => ?_)
      · replace h := ift h hc
        refine lv_iload_n hx hb_ dX0_neededFor_57 rfl (lv_at hl 2 rfl) ?_
        obtain rfl := Option.some.inj h
        have hK : (v2_4 : Int32) = r0 := hK
        exact w_iret C hlk hr hP hK rfl dX0_neededFor_58
      · replace h := iff' h hc
        refine lv_aload_n hx hb_ dX0_neededFor_12 rfl (lv_at hl 0 rfl) ?_
        obtain ⟨q2, hq2, h⟩ := bnd h
        refine w_ci (w_rV (As := []) (rest := []) C hP (k := 12) (c_X1_beginnings l D aI aL ad inj _ σ 12 fl12 q2 hq2) (gV wt580 wt277 wt278 wt4 wt279) 0 hd_X1_beginnings ⟨Nat.le_of_ble_eq_true rfl, Nat.le_of_ble_eq_true rfl⟩ (by decide) 0 rfl rfl rfl hl.1 rfl (Nat.le_of_ble_eq_true rfl) dX0_neededFor_13) hP (fun H locs hP => ?_)
        refine lv_iconst (v := 1) hx hb_ dX0_neededFor_16 (by decide) ?_
        refine lv_iload_n hx hb_ dX0_neededFor_17 rfl (lv_at hl 3 rfl) ?_
        refine lv_ishl hx hb_ dX0_neededFor_18 ?_
        refine lv_iconst (v := (-1)) hx hb_ dX0_neededFor_19 (by decide) ?_
        refine lv_ixor hx hb_ dX0_neededFor_20 ?_
        refine lv_iand hx hb_ dX0_neededFor_21 ?_
        obtain ⟨x3, hx3, h⟩ := nm_inv h
        refine w_ni hx3 ?_
        refine lv_istore (lv' := [(4, .int x3), (0, .ref (ad 12)), (1, .int v1), (2, .int v2_4), (3, .int v3_4)]) hx hb_ dX0_neededFor_22 hl (by decide) rfl (fun ls hl => ?_)
        refine lv_aload_n hx hb_ dX0_neededFor_24 rfl (lv_at hl 1 rfl) ?_
        obtain ⟨q4, hq4, h⟩ := bnd h
        refine w_ci (w_rV (As := []) (rest := []) C hP (k := 12) (c_X1_beginnings l D aI aL ad inj _ σ 12 fl12 q4 hq4) (gV wt580 wt277 wt278 wt4 wt279) 0 hd_X1_beginnings ⟨Nat.le_of_ble_eq_true rfl, Nat.le_of_ble_eq_true rfl⟩ (by decide) 0 rfl rfl rfl hl.1 rfl (Nat.le_of_ble_eq_true rfl) dX0_neededFor_25) hP (fun H locs hP => ?_)
        refine lv_iload_n hx hb_ dX0_neededFor_28 rfl (lv_at hl 4 rfl) ?_
        obtain ⟨q5, hq5, h⟩ := bnd h
        refine w_ci (w_rN (As := [.int q4, .int v3_4]) (rest := []) C hP (c_X8_has l D aI aL ad inj _ σ q4 v3_4 q5 hq5) nw22 wt468 wt1 wt469 2 hd_X8_has ⟨Nat.le_of_ble_eq_true rfl, Nat.le_of_ble_eq_true rfl⟩ rfl hl.1 rfl (Nat.le_of_ble_eq_true rfl) dX0_neededFor_29) hP (fun H locs hP => ?_)
        refine lv_if_eq (tgt := 51) hx hb_ dX0_neededFor_32 (by decide) (fun hc => ?_) (fun hc => ?_)
        · replace h := ift h hc
          exact bk_51 v2_4 v3_4 y h hK _ _ _ hP (lv_sub hl [1, 2, 3, 4] rfl)
        · replace h := iff' h hc
          refine lv_aload_n hx hb_ dX0_neededFor_35 rfl (lv_at hl 1 rfl) ?_
          refine lv_iload_n hx hb_ dX0_neededFor_36 rfl (lv_at hl 2 rfl) ?_
          refine lv_iload hx hb_ dX0_neededFor_37 (lv_at hl 0 rfl) ?_
          obtain ⟨q7, hq7, h⟩ := bnd h
          refine w_ci (w_rS (As := [.ref (ad 12), .int v1, .int x3]) (rest := []) C hP (c_X0_isMet l D aI aL ad inj _ σ v1 x3 q7 hq7) wt581 wt582 wt14 wt583 3 hd_X0_isMet ⟨Nat.le_of_ble_eq_true rfl, Nat.le_of_ble_eq_true rfl⟩ rfl hl.1 rfl (Nat.le_of_ble_eq_true rfl) dX0_neededFor_39) hP (fun H locs hP => ?_)
          refine lv_if_ne (tgt := 51) hx hb_ dX0_neededFor_42 (by decide) (fun hc => ?_) (fun hc => ?_)
          · replace h := iff' h hc
            exact bk_51 v2_4 v3_4 y h hK _ _ _ hP (lv_sub hl [1, 2, 3, 4] rfl)
          · replace h := ift h hc
            refine lv_iload_n hx hb_ dX0_neededFor_45 rfl (lv_at hl 3 rfl) ?_
            refine lv_iconst (v := 1) hx hb_ dX0_neededFor_46 (by decide) ?_
            refine lv_iload_n hx hb_ dX0_neededFor_47 rfl (lv_at hl 4 rfl) ?_
            refine lv_ishl hx hb_ dX0_neededFor_48 ?_
            refine lv_ior hx hb_ dX0_neededFor_49 ?_
            obtain ⟨x8, hx8, h⟩ := nm_inv h
            refine w_ni hx8 ?_
            refine lv_istore_n (lv' := [(2, .int x8), (4, .int x3), (0, .ref (ad 12)), (1, .int v1), (3, .int v3_4)]) hx hb_ dX0_neededFor_50 rfl hl (by decide) rfl (fun ls hl => ?_)
            exact bk_51 x8 v3_4 y h hK _ _ _ hP (lv_sub hl [2, 3, 0, 4] rfl)
  have bk_4 : ∀ (v2_4 : Int32) (v3_4 : Int32) (y : Int32), f_X0_neededFor_4 v1 v2_4 v3_4 σ = some y → (fun y => y = r0) y → ∀ (H : Heap) (locs : List Loc) (ls : Array Slot), HS D aI aL 42 shX ad σ s H locs → lv_has ls 5 [(0, .ref (ad 12)), (1, .int v1), (2, .int v2_4), (3, .int v3_4)] → W p l e (RM 4 95) s m args below meth c H locs 0 0 (MQ below (Qi D aI aL 42 shX ad r0 σ s.heap.size) args s 0 0 (AA ad 42 s.heap.size)) (F0 m 4 ls []) := fun v2_4 v3_4 y h hK => lp_4 3000 v2_4 v3_4 y h hK
  have bk : ∀ (y : Int32), f_X0_neededFor v1 σ = some y → y = r0 → ∀ (H : Heap) (locs : List Loc), HS D aI aL 42 shX ad σ s H locs → W p l e (RM 4 95) s m args below meth c H locs 0 0 (MQ below (Qi D aI aL 42 shX ad r0 σ s.heap.size) args s 0 0 (AA ad 42 s.heap.size)) (F0 m 0 ls []) := by
    intro y h hK H locs hP
    unfold f_X0_neededFor at h
    refine lv_iconst (v := 0) hx hb_ dX0_neededFor_0 (by decide) ?_
    refine lv_istore_n (lv' := [(2, .int 0), (0, .ref (ad 12)), (1, .int v1)]) hx hb_ dX0_neededFor_1 rfl hl (by decide) rfl (fun ls hl => ?_)
    refine lv_iconst (v := 0) hx hb_ dX0_neededFor_2 (by decide) ?_
    refine lv_istore_n (lv' := [(3, .int 0), (2, .int 0), (0, .ref (ad 12)), (1, .int v1)]) hx hb_ dX0_neededFor_3 rfl hl (by decide) rfl (fun ls hl => ?_)
    exact bk_4 0 0 y h hK _ _ _ hP (lv_sub hl [2, 3, 1, 0] rfl)
  exact bk r0 hf rfl _ _ hP
theorem hd_J6_bitCount_0f7a4 : yJ6_bitCount_0f7a4.cls = RJ6 ∧ yJ6_bitCount_0f7a4.cls ≠ "java/lang/invoke/MethodHandle" ∧ yJ6_bitCount_0f7a4.cls ≠ "java/lang/invoke/VarHandle" ∧ (parseMethodDescriptor yJ6_bitCount_0f7a4.desc).map (fun d => d.parameters.length) = some 1 := by decide +kernel
set_option maxHeartbeats 4000000 in
set_option maxRecDepth 100000 in
theorem c_J6_bitCount_0f7a4 (l : Launch) (D : va_G) (aI aL : ClassId) (ad : Nat → Nat) (inj : Inj ad 42) (sz : Nat) (σ : Sg) (v0 : Int32) (r0 : Int32) (hf : f_J6_bitCount_0f7a4 v0 = some r0) : Met l yJ6_bitCount_0f7a4 (wS yJ6_bitCount_0f7a4 cJ6_bitCount_0f7a4 1 (some .int)) (RM 0 0) (Pw D aI aL 42 shX ad sz σ [.int v0]) (Qi D aI aL 42 shX ad r0 σ sz) 0 0 (AA ad 42 sz) := by
  refine Mof (Qc := Qi D aI aL 42 shX ad r0 σ) (by decide) inj (Nat.le_of_ble_eq_true rfl) ?_
  intro p e s m args below meth c ls C hlk hr hP hl
  have hx := C.1.1
  have hb_ := C.1.2.1
  have hown := C.1.2.2.2.1
  have hts := C.1.2.2.2.2
  have hl : lv_has ls 1 [(0, .int v0)] := hl
  have bk : ∀ (y : Int32), f_J6_bitCount_0f7a4 v0 = some y → y = r0 → ∀ (H : Heap) (locs : List Loc), HS D aI aL 42 shX ad σ s H locs → W p l e (RM 0 0) s m args below meth c H locs 0 0 (MQ below (Qi D aI aL 42 shX ad r0 σ s.heap.size) args s 0 0 (AA ad 42 s.heap.size)) (F0 m 0 ls []) := by
    intro y h hK H locs hP
    unfold f_J6_bitCount_0f7a4 at h
    refine lv_iload_n hx hb_ dJ6_bitCount_0f7a4_0 rfl (lv_at hl 0 rfl) ?_
    refine lv_iload_n hx hb_ dJ6_bitCount_0f7a4_1 rfl (lv_at hl 0 rfl) ?_
    refine lv_iconst (v := 1) hx hb_ dJ6_bitCount_0f7a4_2 (by decide) ?_
    refine lv_iushr hx hb_ dJ6_bitCount_0f7a4_3 rfl ?_
    refine lv_ldcw hx hb_ hown (hts _ wt456) dJ6_bitCount_0f7a4_4 ?_
    refine lv_iand hx hb_ dJ6_bitCount_0f7a4_7 ?_
    refine lv_isub hx hb_ dJ6_bitCount_0f7a4_8 ?_
    obtain ⟨x1, hx1, h⟩ := nm_inv h
    refine w_ni hx1 ?_
    refine lv_istore_n (lv' := [(0, .int x1)]) hx hb_ dJ6_bitCount_0f7a4_9 rfl hl (by decide) rfl (fun ls hl => ?_)
    refine lv_iload_n hx hb_ dJ6_bitCount_0f7a4_10 rfl (lv_at hl 0 rfl) ?_
    refine lv_ldcw hx hb_ hown (hts _ wt457) dJ6_bitCount_0f7a4_11 ?_
    refine lv_iand hx hb_ dJ6_bitCount_0f7a4_14 ?_
    refine lv_iload_n hx hb_ dJ6_bitCount_0f7a4_15 rfl (lv_at hl 0 rfl) ?_
    refine lv_iconst (v := 2) hx hb_ dJ6_bitCount_0f7a4_16 (by decide) ?_
    refine lv_iushr hx hb_ dJ6_bitCount_0f7a4_17 rfl ?_
    refine lv_ldcw hx hb_ hown (hts _ wt457) dJ6_bitCount_0f7a4_18 ?_
    refine lv_iand hx hb_ dJ6_bitCount_0f7a4_21 ?_
    refine lv_iadd hx hb_ dJ6_bitCount_0f7a4_22 ?_
    obtain ⟨x2, hx2, h⟩ := nm_inv h
    refine w_ni hx2 ?_
    refine lv_istore_n (lv' := [(0, .int x2)]) hx hb_ dJ6_bitCount_0f7a4_23 rfl hl (by decide) rfl (fun ls hl => ?_)
    refine lv_iload_n hx hb_ dJ6_bitCount_0f7a4_24 rfl (lv_at hl 0 rfl) ?_
    refine lv_iload_n hx hb_ dJ6_bitCount_0f7a4_25 rfl (lv_at hl 0 rfl) ?_
    refine lv_iconst (v := 4) hx hb_ dJ6_bitCount_0f7a4_26 (by decide) ?_
    refine lv_iushr hx hb_ dJ6_bitCount_0f7a4_27 rfl ?_
    refine lv_iadd hx hb_ dJ6_bitCount_0f7a4_28 ?_
    refine lv_ldcw hx hb_ hown (hts _ wt458) dJ6_bitCount_0f7a4_29 ?_
    refine lv_iand hx hb_ dJ6_bitCount_0f7a4_32 ?_
    obtain ⟨x3, hx3, h⟩ := nm_inv h
    refine w_ni hx3 ?_
    refine lv_istore_n (lv' := [(0, .int x3)]) hx hb_ dJ6_bitCount_0f7a4_33 rfl hl (by decide) rfl (fun ls hl => ?_)
    refine lv_iload_n hx hb_ dJ6_bitCount_0f7a4_34 rfl (lv_at hl 0 rfl) ?_
    refine lv_iload_n hx hb_ dJ6_bitCount_0f7a4_35 rfl (lv_at hl 0 rfl) ?_
    refine lv_bipush (v := 8) hx hb_ dJ6_bitCount_0f7a4_36 (by decide) ?_
    refine lv_iushr hx hb_ dJ6_bitCount_0f7a4_38 rfl ?_
    refine lv_iadd hx hb_ dJ6_bitCount_0f7a4_39 ?_
    obtain ⟨x4, hx4, h⟩ := nm_inv h
    refine w_ni hx4 ?_
    refine lv_istore_n (lv' := [(0, .int x4)]) hx hb_ dJ6_bitCount_0f7a4_40 rfl hl (by decide) rfl (fun ls hl => ?_)
    refine lv_iload_n hx hb_ dJ6_bitCount_0f7a4_41 rfl (lv_at hl 0 rfl) ?_
    refine lv_iload_n hx hb_ dJ6_bitCount_0f7a4_42 rfl (lv_at hl 0 rfl) ?_
    refine lv_bipush (v := 16) hx hb_ dJ6_bitCount_0f7a4_43 (by decide) ?_
    refine lv_iushr hx hb_ dJ6_bitCount_0f7a4_45 rfl ?_
    refine lv_iadd hx hb_ dJ6_bitCount_0f7a4_46 ?_
    obtain ⟨x5, hx5, h⟩ := nm_inv h
    refine w_ni hx5 ?_
    refine lv_istore_n (lv' := [(0, .int x5)]) hx hb_ dJ6_bitCount_0f7a4_47 rfl hl (by decide) rfl (fun ls hl => ?_)
    refine lv_iload_n hx hb_ dJ6_bitCount_0f7a4_48 rfl (lv_at hl 0 rfl) ?_
    refine lv_bipush (v := 63) hx hb_ dJ6_bitCount_0f7a4_49 (by decide) ?_
    refine lv_iand hx hb_ dJ6_bitCount_0f7a4_51 ?_
    obtain rfl := Option.some.inj h
    have hK : ((x5 &&& (63 : Int32)) : Int32) = r0 := hK
    exact w_iret C hlk hr hP hK rfl dJ6_bitCount_0f7a4_52
  exact bk r0 hf rfl _ _ hP
theorem hd_X0_fewestTurned : yX0_fewestTurned.cls = RX0 ∧ yX0_fewestTurned.cls ≠ "java/lang/invoke/MethodHandle" ∧ yX0_fewestTurned.cls ≠ "java/lang/invoke/VarHandle" ∧ (parseMethodDescriptor yX0_fewestTurned.desc).map (fun d => d.parameters.length) = some 4 := by decide +kernel
set_option maxHeartbeats 4000000 in
set_option maxRecDepth 100000 in
theorem c_X0_fewestTurned (l : Launch) (D : va_G) (aI aL : ClassId) (ad : Nat → Nat) (inj : Inj ad 42) (sz : Nat) (σ : Sg) (v1 : Int32) (v2 : Int32) (v3 : Int32) (r0 : Int32) (hf : f_X0_fewestTurned v1 v2 v3 σ = some r0) : Met l yX0_fewestTurned (wS yX0_fewestTurned cX0_fewestTurned 8 (some .int)) (RM 4 95) (Pw D aI aL 42 shX ad sz σ [.ref (ad 12), .int v1, .int v2, .int v3]) (Qi D aI aL 42 shX ad r0 σ sz) 0 0 (AA ad 42 sz) := by
  refine Mof (Qc := Qi D aI aL 42 shX ad r0 σ) (by decide) inj (Nat.le_of_ble_eq_true rfl) ?_
  intro p e s m args below meth c ls C hlk hr hP hl
  have hx := C.1.1
  have hb_ := C.1.2.1
  have hown := C.1.2.2.2.1
  have hts := C.1.2.2.2.2
  have hl : lv_has ls 8 [(0, .ref (ad 12)), (1, .int v1), (2, .int v2), (3, .int v3)] := hl
  have lp_26 : ∀ (n_26 : Nat) (v4_26 : Int32) (v5_26 : Int32) (v6_26 : Int32) (y : Int32), itr n_26 (fun s => f_X0_fewestTurned_26s v1 v2 v3 s.1 s.2.1 s.2.2 σ) (v4_26, v5_26, v6_26) = some y → (fun y => y = r0) y → ∀ (H : Heap) (locs : List Loc) (ls : Array Slot), HS D aI aL 42 shX ad σ s H locs → lv_has ls 8 [(0, .ref (ad 12)), (1, .int v1), (2, .int v2), (3, .int v3), (4, .int v4_26), (5, .int v5_26), (6, .int v6_26)] → W p l e (RM 4 95) s m args below meth c H locs 0 0 (MQ below (Qi D aI aL 42 shX ad r0 σ s.heap.size) args s 0 0 (AA ad 42 s.heap.size)) (F0 m 26 ls []) := by
    intro n_26
    induction n_26 with
    | zero =>
      intro v4_26 v5_26 v6_26 y h hK
      cases (show (none : Option Int32) = some y from h)
    | succ n_26 ih_26 =>
      have bk_75 : ∀ (v4_75 : Int32) (v5_75 : Int32) (v6_75 : Int32) (y : ((Int32 × Int32 × Int32) ⊕ Int32)), f_X0_fewestTurned_75 v1 v2 v3 v4_75 v5_75 v6_75 σ = some y → (KK n_26 (fun s => f_X0_fewestTurned_26s v1 v2 v3 s.1 s.2.1 s.2.2 σ) (fun y => y = r0)) y → ∀ (H : Heap) (locs : List Loc) (ls : Array Slot), HS D aI aL 42 shX ad σ s H locs → lv_has ls 8 [(0, .ref (ad 12)), (1, .int v1), (2, .int v2), (3, .int v3), (4, .int v4_75), (5, .int v5_75), (6, .int v6_75)] → W p l e (RM 4 95) s m args below meth c H locs 0 0 (MQ below (Qi D aI aL 42 shX ad r0 σ s.heap.size) args s 0 0 (AA ad 42 s.heap.size)) (F0 m 75 ls []) := by
        intro v4_75 v5_75 v6_75 y h hK H locs ls hP hl
        unfold f_X0_fewestTurned_75 at h
        obtain ⟨x4, hx4, h⟩ := nm_inv h
        refine lv_iinc (v := x4) (lv' := [(6, .int x4), (0, .ref (ad 12)), (1, .int v1), (2, .int v2), (3, .int v3), (4, .int v4_75), (5, .int v5_75)]) hx hb_ dX0_fewestTurned_75 hl (k := 6) rfl (by rw [hx4]; rfl) (by decide) rfl (fun ls hl => ?_)
        refine lv_goto (tgt := 26) hx hb_ dX0_fewestTurned_78 (by decide) ?_
        obtain rfl := Option.some.inj h
        obtain ⟨y2, h, hK⟩ := hK
        exact ih_26 v4_75 v5_75 x4 y2 h hK _ _ _ hP (lv_sub hl [1, 2, 3, 4, 5, 6, 0] rfl)
      intro v4_26 v5_26 v6_26 y h hK H locs ls hP hl
      obtain ⟨y, h, hK⟩ := itr_inv (K := (fun y => y = r0)) h hK
      replace h : f_X0_fewestTurned_26s v1 v2 v3 v4_26 v5_26 v6_26 σ = some y := h
      unfold f_X0_fewestTurned_26s at h
      refine lv_iload hx hb_ dX0_fewestTurned_26 (lv_at hl 6 rfl) ?_
      refine lv_iload_n hx hb_ dX0_fewestTurned_28 rfl (lv_at hl 3 rfl) ?_
      refine lv_icmp_ge (tgt := 81) hx hb_ dX0_fewestTurned_29 (by decide) (fun hc => ?_) (fun hc => ?_)
      · replace h := ift h hc
        refine lv_iload hx hb_ dX0_fewestTurned_81 (lv_at hl 4 rfl) ?_
        obtain rfl := Option.some.inj h
        have hK : (v4_26 : Int32) = r0 := hK
        exact w_iret C hlk hr hP hK rfl dX0_fewestTurned_83
      · replace h := iff' h hc
        refine lv_iload hx hb_ dX0_fewestTurned_32 (lv_at hl 6 rfl) ?_
        obtain ⟨q3, hq3, h⟩ := bnd h
        refine w_ci (w_rS (As := [.int v6_26]) (rest := []) C hP (c_J6_bitCount_0f7a4 l D aI aL ad inj _ σ v6_26 q3 hq3) wt602 wt454 wt13 wt455 1 hd_J6_bitCount_0f7a4 ⟨Nat.le_of_ble_eq_true rfl, Nat.le_of_ble_eq_true rfl⟩ rfl hl.1 rfl (Nat.le_of_ble_eq_true rfl) dX0_fewestTurned_34) hP (fun H locs hP => ?_)
        refine lv_istore (lv' := [(7, .int q3), (0, .ref (ad 12)), (1, .int v1), (2, .int v2), (3, .int v3), (4, .int v4_26), (5, .int v5_26), (6, .int v6_26)]) hx hb_ dX0_fewestTurned_37 hl (by decide) rfl (fun ls hl => ?_)
        refine lv_iload hx hb_ dX0_fewestTurned_39 (lv_at hl 0 rfl) ?_
        refine lv_iload hx hb_ dX0_fewestTurned_41 (lv_at hl 6 rfl) ?_
        refine lv_icmp_ge (tgt := 75) hx hb_ dX0_fewestTurned_43 (by decide) (fun hc => ?_) (fun hc => ?_)
        · replace h := ift h hc
          exact bk_75 v4_26 v5_26 v6_26 y h hK _ _ _ hP (lv_sub hl [1, 2, 3, 4, 5, 6, 7] rfl)
        · replace h := iff' h hc
          refine lv_iload_n hx hb_ dX0_fewestTurned_46 rfl (lv_at hl 4 rfl) ?_
          refine lv_iload hx hb_ dX0_fewestTurned_47 (lv_at hl 7 rfl) ?_
          obtain ⟨q5, hq5, h⟩ := bnd h
          refine w_ci (w_rN (As := [.int v3, .int v6_26]) (rest := []) C hP (c_X8_holdsAll l D aI aL ad inj _ σ v3 v6_26 q5 hq5) nw23 wt428 wt1 wt429 2 hd_X8_holdsAll ⟨Nat.le_of_ble_eq_true rfl, Nat.le_of_ble_eq_true rfl⟩ rfl hl.1 rfl (Nat.le_of_ble_eq_true rfl) dX0_fewestTurned_49) hP (fun H locs hP => ?_)
          refine lv_if_eq (tgt := 75) hx hb_ dX0_fewestTurned_52 (by decide) (fun hc => ?_) (fun hc => ?_)
          · replace h := ift h hc
            exact bk_75 v4_26 v5_26 v6_26 y h hK _ _ _ hP (lv_sub hl [1, 2, 3, 4, 5, 6, 7] rfl)
          · replace h := iff' h hc
            refine lv_aload_n hx hb_ dX0_fewestTurned_55 rfl (lv_at hl 1 rfl) ?_
            refine lv_iload_n hx hb_ dX0_fewestTurned_56 rfl (lv_at hl 2 rfl) ?_
            refine lv_iload_n hx hb_ dX0_fewestTurned_57 rfl (lv_at hl 3 rfl) ?_
            refine lv_iload hx hb_ dX0_fewestTurned_58 (lv_at hl 7 rfl) ?_
            refine lv_ixor hx hb_ dX0_fewestTurned_60 ?_
            obtain ⟨q6, hq6, h⟩ := bnd h
            refine w_ci (w_rS (As := [.ref (ad 12), .int v1, .int (v2 ^^^ v6_26)]) (rest := []) C hP (c_X0_isMet l D aI aL ad inj _ σ v1 (v2 ^^^ v6_26) q6 hq6) wt581 wt582 wt14 wt583 3 hd_X0_isMet ⟨Nat.le_of_ble_eq_true rfl, Nat.le_of_ble_eq_true rfl⟩ rfl hl.1 rfl (Nat.le_of_ble_eq_true rfl) dX0_fewestTurned_61) hP (fun H locs hP => ?_)
            refine lv_if_eq (tgt := 75) hx hb_ dX0_fewestTurned_64 (by decide) (fun hc => ?_) (fun hc => ?_)
            · replace h := ift h hc
              exact bk_75 v4_26 v5_26 v6_26 y h hK _ _ _ hP (lv_sub hl [1, 2, 3, 4, 5, 6, 7] rfl)
            · replace h := iff' h hc
              refine lv_iload hx hb_ dX0_fewestTurned_67 (lv_at hl 7 rfl) ?_
              refine lv_istore (lv' := [(4, .int v6_26), (7, .int q3), (0, .ref (ad 12)), (1, .int v1), (2, .int v2), (3, .int v3), (5, .int v5_26), (6, .int v6_26)]) hx hb_ dX0_fewestTurned_69 hl (by decide) rfl (fun ls hl => ?_)
              refine lv_iload hx hb_ dX0_fewestTurned_71 (lv_at hl 1 rfl) ?_
              refine lv_istore (lv' := [(5, .int q3), (4, .int v6_26), (7, .int q3), (0, .ref (ad 12)), (1, .int v1), (2, .int v2), (3, .int v3), (6, .int v6_26)]) hx hb_ dX0_fewestTurned_73 hl (by decide) rfl (fun ls hl => ?_)
              exact bk_75 v6_26 q3 v6_26 y h hK _ _ _ hP (lv_sub hl [3, 4, 5, 6, 1, 0, 7] rfl)
  have bk_26 : ∀ (v4_26 : Int32) (v5_26 : Int32) (v6_26 : Int32) (y : Int32), f_X0_fewestTurned_26 v1 v2 v3 v4_26 v5_26 v6_26 σ = some y → (fun y => y = r0) y → ∀ (H : Heap) (locs : List Loc) (ls : Array Slot), HS D aI aL 42 shX ad σ s H locs → lv_has ls 8 [(0, .ref (ad 12)), (1, .int v1), (2, .int v2), (3, .int v3), (4, .int v4_26), (5, .int v5_26), (6, .int v6_26)] → W p l e (RM 4 95) s m args below meth c H locs 0 0 (MQ below (Qi D aI aL 42 shX ad r0 σ s.heap.size) args s 0 0 (AA ad 42 s.heap.size)) (F0 m 26 ls []) := fun v4_26 v5_26 v6_26 y h hK => lp_26 3000 v4_26 v5_26 v6_26 y h hK
  have bk : ∀ (y : Int32), f_X0_fewestTurned v1 v2 v3 σ = some y → y = r0 → ∀ (H : Heap) (locs : List Loc), HS D aI aL 42 shX ad σ s H locs → W p l e (RM 4 95) s m args below meth c H locs 0 0 (MQ below (Qi D aI aL 42 shX ad r0 σ s.heap.size) args s 0 0 (AA ad 42 s.heap.size)) (F0 m 0 ls []) := by
    intro y h hK H locs hP
    unfold f_X0_fewestTurned at h
    refine lv_aload_n hx hb_ dX0_fewestTurned_0 rfl (lv_at hl 0 rfl) ?_
    refine lv_iload_n hx hb_ dX0_fewestTurned_1 rfl (lv_at hl 1 rfl) ?_
    refine lv_iload_n hx hb_ dX0_fewestTurned_2 rfl (lv_at hl 2 rfl) ?_
    refine lv_iload_n hx hb_ dX0_fewestTurned_3 rfl (lv_at hl 3 rfl) ?_
    refine lv_ixor hx hb_ dX0_fewestTurned_4 ?_
    obtain ⟨q1, hq1, h⟩ := bnd h
    refine w_ci (w_rS (As := [.ref (ad 12), .int v1, .int (v2 ^^^ v3)]) (rest := []) C hP (c_X0_isMet l D aI aL ad inj _ σ v1 (v2 ^^^ v3) q1 hq1) wt581 wt582 wt14 wt583 3 hd_X0_isMet ⟨Nat.le_of_ble_eq_true rfl, Nat.le_of_ble_eq_true rfl⟩ rfl hl.1 rfl (Nat.le_of_ble_eq_true rfl) dX0_fewestTurned_5) hP (fun H locs hP => ?_)
    refine lv_if_ne (tgt := 14) hx hb_ dX0_fewestTurned_8 (by decide) (fun hc => ?_) (fun hc => ?_)
    · replace h := iff' h hc
      refine lv_iload_n hx hb_ dX0_fewestTurned_14 rfl (lv_at hl 3 rfl) ?_
      refine lv_istore (lv' := [(4, .int v3), (0, .ref (ad 12)), (1, .int v1), (2, .int v2), (3, .int v3)]) hx hb_ dX0_fewestTurned_15 hl (by decide) rfl (fun ls hl => ?_)
      refine lv_iload_n hx hb_ dX0_fewestTurned_17 rfl (lv_at hl 4 rfl) ?_
      obtain ⟨q2, hq2, h⟩ := bnd h
      refine w_ci (w_rS (As := [.int v3]) (rest := []) C hP (c_J6_bitCount_0f7a4 l D aI aL ad inj _ σ v3 q2 hq2) wt602 wt454 wt13 wt455 1 hd_J6_bitCount_0f7a4 ⟨Nat.le_of_ble_eq_true rfl, Nat.le_of_ble_eq_true rfl⟩ rfl hl.1 rfl (Nat.le_of_ble_eq_true rfl) dX0_fewestTurned_18) hP (fun H locs hP => ?_)
      refine lv_istore (lv' := [(5, .int q2), (4, .int v3), (0, .ref (ad 12)), (1, .int v1), (2, .int v2), (3, .int v3)]) hx hb_ dX0_fewestTurned_21 hl (by decide) rfl (fun ls hl => ?_)
      refine lv_iconst (v := 0) hx hb_ dX0_fewestTurned_23 (by decide) ?_
      refine lv_istore (lv' := [(6, .int 0), (5, .int q2), (4, .int v3), (0, .ref (ad 12)), (1, .int v1), (2, .int v2), (3, .int v3)]) hx hb_ dX0_fewestTurned_24 hl (by decide) rfl (fun ls hl => ?_)
      exact bk_26 v3 q2 0 y h hK _ _ _ hP (lv_sub hl [3, 4, 5, 6, 2, 1, 0] rfl)
    · replace h := ift h hc
      refine lv_bipush (v := (-4)) hx hb_ dX0_fewestTurned_11 (by decide) ?_
      obtain rfl := Option.some.inj h
      have hK : ((-4) : Int32) = r0 := hK
      exact w_iret C hlk hr hP hK rfl dX0_fewestTurned_13
  exact bk r0 hf rfl _ _ hP
theorem hd_X0_fewestFor : yX0_fewestFor.cls = RX0 ∧ yX0_fewestFor.cls ≠ "java/lang/invoke/MethodHandle" ∧ yX0_fewestFor.cls ≠ "java/lang/invoke/VarHandle" ∧ (parseMethodDescriptor yX0_fewestFor.desc).map (fun d => d.parameters.length) = some 2 := by decide +kernel
set_option maxHeartbeats 4000000 in
set_option maxRecDepth 100000 in
theorem c_X0_fewestFor (l : Launch) (D : va_G) (aI aL : ClassId) (ad : Nat → Nat) (inj : Inj ad 42) (sz : Nat) (σ : Sg) (v1 : Int32) (r0 : Int32) (hf : f_X0_fewestFor v1 σ = some r0) : Met l yX0_fewestFor (wS yX0_fewestFor cX0_fewestFor 2 (some .int)) (RM 5 122) (Pw D aI aL 42 shX ad sz σ [.ref (ad 12), .int v1]) (Qi D aI aL 42 shX ad r0 σ sz) 0 0 (AA ad 42 sz) := by
  refine Mof (Qc := Qi D aI aL 42 shX ad r0 σ) (by decide) inj (Nat.le_of_ble_eq_true rfl) ?_
  intro p e s m args below meth c ls C hlk hr hP hl
  have hx := C.1.1
  have hb_ := C.1.2.1
  have hown := C.1.2.2.2.1
  have hts := C.1.2.2.2.2
  have hl : lv_has ls 2 [(0, .ref (ad 12)), (1, .int v1)] := hl
  have bk : ∀ (y : Int32), f_X0_fewestFor v1 σ = some y → y = r0 → ∀ (H : Heap) (locs : List Loc), HS D aI aL 42 shX ad σ s H locs → W p l e (RM 5 122) s m args below meth c H locs 0 0 (MQ below (Qi D aI aL 42 shX ad r0 σ s.heap.size) args s 0 0 (AA ad 42 s.heap.size)) (F0 m 0 ls []) := by
    intro y h hK H locs hP
    unfold f_X0_fewestFor at h
    refine lv_aload_n hx hb_ dX0_fewestFor_0 rfl (lv_at hl 0 rfl) ?_
    refine lv_iload_n hx hb_ dX0_fewestFor_1 rfl (lv_at hl 1 rfl) ?_
    refine lv_iconst (v := 0) hx hb_ dX0_fewestFor_2 (by decide) ?_
    refine lv_aload_n hx hb_ dX0_fewestFor_3 rfl (lv_at hl 0 rfl) ?_
    obtain ⟨q1, hq1, h⟩ := bnd h
    refine w_ci (w_rV (As := []) (rest := [.int 0, .int v1, .ref (ad 12)]) C hP (k := 12) (c_X1_beginnings l D aI aL ad inj _ σ 12 fl12 q1 hq1) (gV wt580 wt277 wt278 wt4 wt279) 0 hd_X1_beginnings ⟨Nat.le_of_ble_eq_true rfl, Nat.le_of_ble_eq_true rfl⟩ (by decide) 0 rfl rfl rfl hl.1 rfl (Nat.le_of_ble_eq_true rfl) dX0_fewestFor_4) hP (fun H locs hP => ?_)
    obtain ⟨q2, hq2, h⟩ := bnd h
    refine w_ci (w_rS (As := [.ref (ad 12), .int v1, .int 0, .int q1]) (rest := []) C hP (c_X0_fewestTurned l D aI aL ad inj _ σ v1 0 q1 q2 hq2) wt599 wt600 wt14 wt601 4 hd_X0_fewestTurned ⟨Nat.le_of_ble_eq_true rfl, Nat.le_of_ble_eq_true rfl⟩ rfl hl.1 rfl (Nat.le_of_ble_eq_true rfl) dX0_fewestFor_7) hP (fun H locs hP => ?_)
    obtain rfl := Option.some.inj h
    have hK : (q2 : Int32) = r0 := hK
    exact w_iret C hlk hr hP hK rfl dX0_fewestFor_10
  exact bk r0 hf rfl _ _ hP
theorem hd_X1_reachOf : yX1_reachOf.cls = RX1 ∧ yX1_reachOf.cls ≠ "java/lang/invoke/MethodHandle" ∧ yX1_reachOf.cls ≠ "java/lang/invoke/VarHandle" ∧ (parseMethodDescriptor yX1_reachOf.desc).map (fun d => d.parameters.length) = some 1 := by decide +kernel
set_option maxHeartbeats 4000000 in
set_option maxRecDepth 100000 in
theorem c_X1_reachOf (l : Launch) (D : va_G) (aI aL : ClassId) (ad : Nat → Nat) (inj : Inj ad 42) (sz : Nat) (σ : Sg) (b : Nat) (hb : isFl b) (v1 : Int32) (r0 : Int32) (hf : f_X1_reachOf b v1 σ = some r0) : Met l yX1_reachOf (wS yX1_reachOf cX1_reachOf 2 (some .int)) (RM 3 72) (Pw D aI aL 42 shX ad sz σ [.ref (ad b), .int v1]) (Qi D aI aL 42 shX ad r0 σ sz) 0 0 (AA ad 42 sz) := by
  refine Mof (Qc := Qi D aI aL 42 shX ad r0 σ) (by decide) inj (Nat.le_of_ble_eq_true rfl) ?_
  intro p e s m args below meth c ls C hlk hr hP hl
  have hx := C.1.1
  have hb_ := C.1.2.1
  have hown := C.1.2.2.2.1
  have hts := C.1.2.2.2.2
  have hl : lv_has ls 2 [(0, .ref (ad b)), (1, .int v1)] := hl
  have bk : ∀ (y : Int32), f_X1_reachOf b v1 σ = some y → y = r0 → ∀ (H : Heap) (locs : List Loc), HS D aI aL 42 shX ad σ s H locs → W p l e (RM 3 72) s m args below meth c H locs 0 0 (MQ below (Qi D aI aL 42 shX ad r0 σ s.heap.size) args s 0 0 (AA ad 42 s.heap.size)) (F0 m 0 ls []) := by
    intro y h hK H locs hP
    unfold f_X1_reachOf at h
    refine lv_aload_n hx hb_ dX1_reachOf_0 rfl (lv_at hl 0 rfl) ?_
    refine lv_iload_n hx hb_ dX1_reachOf_1 rfl (lv_at hl 1 rfl) ?_
    refine lv_sipush (v := 1023) hx hb_ dX1_reachOf_2 (by decide) ?_
    refine lv_aload_n hx hb_ dX1_reachOf_5 rfl (lv_at hl 0 rfl) ?_
    refine w_get C hP (k := b) (fl_l0 hb) 0 (fl_sh hb) rfl inWX1 9 (by decide) wt66 (v := .int (σ.1 b 9)) rfl dX1_reachOf_6 ?_
    obtain ⟨q1, hq1, h⟩ := bnd h
    refine w_ci (w_rV (As := [.int v1, .int 1023, .int (σ.1 b 9)]) (rest := []) C hP (k := b) (c_X1_reachBy l D aI aL ad inj _ σ b hb v1 1023 (σ.1 b 9) q1 hq1) (gV wt525 wt526 wt527 wt4 wt528) 3 hd_X1_reachBy ⟨Nat.le_of_ble_eq_true rfl, Nat.le_of_ble_eq_true rfl⟩ (fl_l0 hb) 0 (fl_sh hb) rfl rfl hl.1 rfl (Nat.le_of_ble_eq_true rfl) dX1_reachOf_9) hP (fun H locs hP => ?_)
    obtain rfl := Option.some.inj h
    have hK : (q1 : Int32) = r0 := hK
    exact w_iret C hlk hr hP hK rfl dX1_reachOf_12
  exact bk r0 hf rfl _ _ hP
theorem hd_X0_lostBy : yX0_lostBy.cls = RX0 ∧ yX0_lostBy.cls ≠ "java/lang/invoke/MethodHandle" ∧ yX0_lostBy.cls ≠ "java/lang/invoke/VarHandle" ∧ (parseMethodDescriptor yX0_lostBy.desc).map (fun d => d.parameters.length) = some 2 := by decide +kernel
set_option maxHeartbeats 4000000 in
set_option maxRecDepth 100000 in
theorem c_X0_lostBy (l : Launch) (D : va_G) (aI aL : ClassId) (ad : Nat → Nat) (inj : Inj ad 42) (sz : Nat) (σ : Sg) (v1 : Int32) (r0 : Int32) (hf : f_X0_lostBy v1 σ = some r0) : Met l yX0_lostBy (wS yX0_lostBy cX0_lostBy 4 (some .int)) (RM 4 93) (Pw D aI aL 42 shX ad sz σ [.ref (ad 12), .int v1]) (Qi D aI aL 42 shX ad r0 σ sz) 0 0 (AA ad 42 sz) := by
  refine Mof (Qc := Qi D aI aL 42 shX ad r0 σ) (by decide) inj (Nat.le_of_ble_eq_true rfl) ?_
  intro p e s m args below meth c ls C hlk hr hP hl
  have hx := C.1.1
  have hb_ := C.1.2.1
  have hown := C.1.2.2.2.1
  have hts := C.1.2.2.2.2
  have hl : lv_has ls 4 [(0, .ref (ad 12)), (1, .int v1)] := hl
  have bk : ∀ (y : Int32), f_X0_lostBy v1 σ = some y → y = r0 → ∀ (H : Heap) (locs : List Loc), HS D aI aL 42 shX ad σ s H locs → W p l e (RM 4 93) s m args below meth c H locs 0 0 (MQ below (Qi D aI aL 42 shX ad r0 σ s.heap.size) args s 0 0 (AA ad 42 s.heap.size)) (F0 m 0 ls []) := by
    intro y h hK H locs hP
    unfold f_X0_lostBy at h
    refine lv_aload_n hx hb_ dX0_lostBy_0 rfl (lv_at hl 0 rfl) ?_
    obtain ⟨q1, hq1, h⟩ := bnd h
    refine w_ci (w_rV (As := []) (rest := []) C hP (k := 12) (c_X1_there l D aI aL ad inj _ σ 12 fl12 q1 hq1) (gV wt584 wt373 wt374 wt4 wt375) 0 hd_X1_there ⟨Nat.le_of_ble_eq_true rfl, Nat.le_of_ble_eq_true rfl⟩ (by decide) 0 rfl rfl rfl hl.1 rfl (Nat.le_of_ble_eq_true rfl) dX0_lostBy_1) hP (fun H locs hP => ?_)
    refine lv_iconst (v := 1) hx hb_ dX0_lostBy_4 (by decide) ?_
    refine lv_iload_n hx hb_ dX0_lostBy_5 rfl (lv_at hl 1 rfl) ?_
    refine lv_ishl hx hb_ dX0_lostBy_6 ?_
    refine lv_iconst (v := (-1)) hx hb_ dX0_lostBy_7 (by decide) ?_
    refine lv_ixor hx hb_ dX0_lostBy_8 ?_
    refine lv_iand hx hb_ dX0_lostBy_9 ?_
    obtain ⟨x2, hx2, h⟩ := nm_inv h
    refine w_ni hx2 ?_
    refine lv_istore_n (lv' := [(2, .int x2), (0, .ref (ad 12)), (1, .int v1)]) hx hb_ dX0_lostBy_10 rfl hl (by decide) rfl (fun ls hl => ?_)
    refine lv_aload_n hx hb_ dX0_lostBy_11 rfl (lv_at hl 1 rfl) ?_
    refine lv_aload_n hx hb_ dX0_lostBy_12 rfl (lv_at hl 1 rfl) ?_
    obtain ⟨q3, hq3, h⟩ := bnd h
    refine w_ci (w_rV (As := []) (rest := [.ref (ad 12)]) C hP (k := 12) (c_X1_beginnings l D aI aL ad inj _ σ 12 fl12 q3 hq3) (gV wt580 wt277 wt278 wt4 wt279) 0 hd_X1_beginnings ⟨Nat.le_of_ble_eq_true rfl, Nat.le_of_ble_eq_true rfl⟩ (by decide) 0 rfl rfl rfl hl.1 rfl (Nat.le_of_ble_eq_true rfl) dX0_lostBy_13) hP (fun H locs hP => ?_)
    refine lv_sipush (v := 1023) hx hb_ dX0_lostBy_16 (by decide) ?_
    refine lv_iload_n hx hb_ dX0_lostBy_19 rfl (lv_at hl 0 rfl) ?_
    obtain ⟨q4, hq4, h⟩ := bnd h
    refine w_ci (w_rV (As := [.int q3, .int 1023, .int x2]) (rest := []) C hP (k := 12) (c_X1_reachBy l D aI aL ad inj _ σ 12 fl12 q3 1023 x2 q4 hq4) (gV wt585 wt526 wt527 wt4 wt528) 3 hd_X1_reachBy ⟨Nat.le_of_ble_eq_true rfl, Nat.le_of_ble_eq_true rfl⟩ (by decide) 0 rfl rfl rfl hl.1 rfl (Nat.le_of_ble_eq_true rfl) dX0_lostBy_20) hP (fun H locs hP => ?_)
    refine lv_istore_n (lv' := [(3, .int q4), (2, .int x2), (0, .ref (ad 12)), (1, .int v1)]) hx hb_ dX0_lostBy_23 rfl hl (by decide) rfl (fun ls hl => ?_)
    refine lv_aload_n hx hb_ dX0_lostBy_24 rfl (lv_at hl 2 rfl) ?_
    refine lv_aload_n hx hb_ dX0_lostBy_25 rfl (lv_at hl 2 rfl) ?_
    obtain ⟨q5, hq5, h⟩ := bnd h
    refine w_ci (w_rV (As := []) (rest := [.ref (ad 12)]) C hP (k := 12) (c_X1_beginnings l D aI aL ad inj _ σ 12 fl12 q5 hq5) (gV wt580 wt277 wt278 wt4 wt279) 0 hd_X1_beginnings ⟨Nat.le_of_ble_eq_true rfl, Nat.le_of_ble_eq_true rfl⟩ (by decide) 0 rfl rfl rfl hl.1 rfl (Nat.le_of_ble_eq_true rfl) dX0_lostBy_26) hP (fun H locs hP => ?_)
    obtain ⟨q6, hq6, h⟩ := bnd h
    refine w_ci (w_rV (As := [.int q5]) (rest := []) C hP (k := 12) (c_X1_reachOf l D aI aL ad inj _ σ 12 fl12 q5 q6 hq6) (gV wt611 wt522 wt523 wt4 wt524) 1 hd_X1_reachOf ⟨Nat.le_of_ble_eq_true rfl, Nat.le_of_ble_eq_true rfl⟩ (by decide) 0 rfl rfl rfl hl.1 rfl (Nat.le_of_ble_eq_true rfl) dX0_lostBy_29) hP (fun H locs hP => ?_)
    refine lv_iload_n hx hb_ dX0_lostBy_32 rfl (lv_at hl 0 rfl) ?_
    refine lv_iconst (v := (-1)) hx hb_ dX0_lostBy_33 (by decide) ?_
    refine lv_ixor hx hb_ dX0_lostBy_34 ?_
    refine lv_iand hx hb_ dX0_lostBy_35 ?_
    refine lv_iload_n hx hb_ dX0_lostBy_36 rfl (lv_at hl 1 rfl) ?_
    refine lv_iand hx hb_ dX0_lostBy_37 ?_
    obtain rfl := Option.some.inj h
    have hK : (((q6 &&& (q4 ^^^ ((-1) : Int32))) &&& x2) : Int32) = r0 := hK
    exact w_iret C hlk hr hP hK rfl dX0_lostBy_38
  exact bk r0 hf rfl _ _ hP
theorem hd_X0_fewestMoreFor : yX0_fewestMoreFor.cls = RX0 ∧ yX0_fewestMoreFor.cls ≠ "java/lang/invoke/MethodHandle" ∧ yX0_fewestMoreFor.cls ≠ "java/lang/invoke/VarHandle" ∧ (parseMethodDescriptor yX0_fewestMoreFor.desc).map (fun d => d.parameters.length) = some 2 := by decide +kernel
set_option maxHeartbeats 4000000 in
set_option maxRecDepth 100000 in
theorem c_X0_fewestMoreFor (l : Launch) (D : va_G) (aI aL : ClassId) (ad : Nat → Nat) (inj : Inj ad 42) (sz : Nat) (σ : Sg) (v1 : Int32) (r0 : Int32) (hf : f_X0_fewestMoreFor v1 σ = some r0) : Met l yX0_fewestMoreFor (wS yX0_fewestMoreFor cX0_fewestMoreFor 3 (some .int)) (RM 5 122) (Pw D aI aL 42 shX ad sz σ [.ref (ad 12), .int v1]) (Qi D aI aL 42 shX ad r0 σ sz) 0 0 (AA ad 42 sz) := by
  refine Mof (Qc := Qi D aI aL 42 shX ad r0 σ) (by decide) inj (Nat.le_of_ble_eq_true rfl) ?_
  intro p e s m args below meth c ls C hlk hr hP hl
  have hx := C.1.1
  have hb_ := C.1.2.1
  have hown := C.1.2.2.2.1
  have hts := C.1.2.2.2.2
  have hl : lv_has ls 3 [(0, .ref (ad 12)), (1, .int v1)] := hl
  have bk : ∀ (y : Int32), f_X0_fewestMoreFor v1 σ = some y → y = r0 → ∀ (H : Heap) (locs : List Loc), HS D aI aL 42 shX ad σ s H locs → W p l e (RM 5 122) s m args below meth c H locs 0 0 (MQ below (Qi D aI aL 42 shX ad r0 σ s.heap.size) args s 0 0 (AA ad 42 s.heap.size)) (F0 m 0 ls []) := by
    intro y h hK H locs hP
    unfold f_X0_fewestMoreFor at h
    refine lv_aload_n hx hb_ dX0_fewestMoreFor_0 rfl (lv_at hl 0 rfl) ?_
    obtain ⟨q1, hq1, h⟩ := bnd h
    refine w_ci (w_rV (As := []) (rest := []) C hP (k := 12) (c_X1_there l D aI aL ad inj _ σ 12 fl12 q1 hq1) (gV wt584 wt373 wt374 wt4 wt375) 0 hd_X1_there ⟨Nat.le_of_ble_eq_true rfl, Nat.le_of_ble_eq_true rfl⟩ (by decide) 0 rfl rfl rfl hl.1 rfl (Nat.le_of_ble_eq_true rfl) dX0_fewestMoreFor_1) hP (fun H locs hP => ?_)
    refine lv_iconst (v := 1) hx hb_ dX0_fewestMoreFor_4 (by decide) ?_
    refine lv_iload_n hx hb_ dX0_fewestMoreFor_5 rfl (lv_at hl 1 rfl) ?_
    refine lv_ishl hx hb_ dX0_fewestMoreFor_6 ?_
    refine lv_iconst (v := (-1)) hx hb_ dX0_fewestMoreFor_7 (by decide) ?_
    refine lv_ixor hx hb_ dX0_fewestMoreFor_8 ?_
    refine lv_iand hx hb_ dX0_fewestMoreFor_9 ?_
    refine lv_aload_n hx hb_ dX0_fewestMoreFor_10 rfl (lv_at hl 0 rfl) ?_
    obtain ⟨q2, hq2, h⟩ := bnd h
    refine w_ci (w_rV (As := []) (rest := [.int (q1 &&& (((1 : Int32) <<< (v1 &&& 31)) ^^^ ((-1) : Int32)))]) C hP (k := 12) (c_X1_beginnings l D aI aL ad inj _ σ 12 fl12 q2 hq2) (gV wt580 wt277 wt278 wt4 wt279) 0 hd_X1_beginnings ⟨Nat.le_of_ble_eq_true rfl, Nat.le_of_ble_eq_true rfl⟩ (by decide) 0 rfl rfl rfl hl.1 rfl (Nat.le_of_ble_eq_true rfl) dX0_fewestMoreFor_11) hP (fun H locs hP => ?_)
    refine lv_iconst (v := (-1)) hx hb_ dX0_fewestMoreFor_14 (by decide) ?_
    refine lv_ixor hx hb_ dX0_fewestMoreFor_15 ?_
    refine lv_iand hx hb_ dX0_fewestMoreFor_16 ?_
    obtain ⟨x3, hx3, h⟩ := nm_inv h
    refine w_ni hx3 ?_
    refine lv_istore_n (lv' := [(2, .int x3), (0, .ref (ad 12)), (1, .int v1)]) hx hb_ dX0_fewestMoreFor_17 rfl hl (by decide) rfl (fun ls hl => ?_)
    refine lv_aload_n hx hb_ dX0_fewestMoreFor_18 rfl (lv_at hl 1 rfl) ?_
    refine lv_iload_n hx hb_ dX0_fewestMoreFor_19 rfl (lv_at hl 2 rfl) ?_
    refine lv_aload_n hx hb_ dX0_fewestMoreFor_20 rfl (lv_at hl 1 rfl) ?_
    obtain ⟨q4, hq4, h⟩ := bnd h
    refine w_ci (w_rV (As := []) (rest := [.int v1, .ref (ad 12)]) C hP (k := 12) (c_X1_beginnings l D aI aL ad inj _ σ 12 fl12 q4 hq4) (gV wt580 wt277 wt278 wt4 wt279) 0 hd_X1_beginnings ⟨Nat.le_of_ble_eq_true rfl, Nat.le_of_ble_eq_true rfl⟩ (by decide) 0 rfl rfl rfl hl.1 rfl (Nat.le_of_ble_eq_true rfl) dX0_fewestMoreFor_21) hP (fun H locs hP => ?_)
    refine lv_iload_n hx hb_ dX0_fewestMoreFor_24 rfl (lv_at hl 0 rfl) ?_
    obtain ⟨q5, hq5, h⟩ := bnd h
    refine w_ci (w_rS (As := [.ref (ad 12), .int v1, .int q4, .int x3]) (rest := []) C hP (c_X0_fewestTurned l D aI aL ad inj _ σ v1 q4 x3 q5 hq5) wt599 wt600 wt14 wt601 4 hd_X0_fewestTurned ⟨Nat.le_of_ble_eq_true rfl, Nat.le_of_ble_eq_true rfl⟩ rfl hl.1 rfl (Nat.le_of_ble_eq_true rfl) dX0_fewestMoreFor_25) hP (fun H locs hP => ?_)
    obtain rfl := Option.some.inj h
    have hK : (q5 : Int32) = r0 := hK
    exact w_iret C hlk hr hP hK rfl dX0_fewestMoreFor_28
  exact bk r0 hf rfl _ _ hP
theorem hd_X0_fewestIntoHall : yX0_fewestIntoHall.cls = RX0 ∧ yX0_fewestIntoHall.cls ≠ "java/lang/invoke/MethodHandle" ∧ yX0_fewestIntoHall.cls ≠ "java/lang/invoke/VarHandle" ∧ (parseMethodDescriptor yX0_fewestIntoHall.desc).map (fun d => d.parameters.length) = some 1 := by decide +kernel
set_option maxHeartbeats 4000000 in
set_option maxRecDepth 100000 in
theorem c_X0_fewestIntoHall (l : Launch) (D : va_G) (aI aL : ClassId) (ad : Nat → Nat) (inj : Inj ad 42) (sz : Nat) (σ : Sg) (r0 : Int32) (hf : f_X0_fewestIntoHall σ = some r0) : Met l yX0_fewestIntoHall (wS yX0_fewestIntoHall cX0_fewestIntoHall 1 (some .int)) (RM 5 122) (Pw D aI aL 42 shX ad sz σ [.ref (ad 12)]) (Qi D aI aL 42 shX ad r0 σ sz) 0 0 (AA ad 42 sz) := by
  refine Mof (Qc := Qi D aI aL 42 shX ad r0 σ) (by decide) inj (Nat.le_of_ble_eq_true rfl) ?_
  intro p e s m args below meth c ls C hlk hr hP hl
  have hx := C.1.1
  have hb_ := C.1.2.1
  have hown := C.1.2.2.2.1
  have hts := C.1.2.2.2.2
  have hl : lv_has ls 1 [(0, .ref (ad 12))] := hl
  have bk : ∀ (y : Int32), f_X0_fewestIntoHall σ = some y → y = r0 → ∀ (H : Heap) (locs : List Loc), HS D aI aL 42 shX ad σ s H locs → W p l e (RM 5 122) s m args below meth c H locs 0 0 (MQ below (Qi D aI aL 42 shX ad r0 σ s.heap.size) args s 0 0 (AA ad 42 s.heap.size)) (F0 m 0 ls []) := by
    intro y h hK H locs hP
    unfold f_X0_fewestIntoHall at h
    refine lv_aload_n hx hb_ dX0_fewestIntoHall_0 rfl (lv_at hl 0 rfl) ?_
    refine lv_iconst (v := (-1)) hx hb_ dX0_fewestIntoHall_1 (by decide) ?_
    refine lv_iconst (v := 0) hx hb_ dX0_fewestIntoHall_2 (by decide) ?_
    refine lv_aload_n hx hb_ dX0_fewestIntoHall_3 rfl (lv_at hl 0 rfl) ?_
    obtain ⟨q1, hq1, h⟩ := bnd h
    refine w_ci (w_rV (As := []) (rest := [.int 0, .int (-1), .ref (ad 12)]) C hP (k := 12) (c_X1_beginnings l D aI aL ad inj _ σ 12 fl12 q1 hq1) (gV wt580 wt277 wt278 wt4 wt279) 0 hd_X1_beginnings ⟨Nat.le_of_ble_eq_true rfl, Nat.le_of_ble_eq_true rfl⟩ (by decide) 0 rfl rfl rfl hl.1 rfl (Nat.le_of_ble_eq_true rfl) dX0_fewestIntoHall_4) hP (fun H locs hP => ?_)
    obtain ⟨q2, hq2, h⟩ := bnd h
    refine w_ci (w_rS (As := [.ref (ad 12), .int (-1), .int 0, .int q1]) (rest := []) C hP (c_X0_fewestTurned l D aI aL ad inj _ σ (-1) 0 q1 q2 hq2) wt599 wt600 wt14 wt601 4 hd_X0_fewestTurned ⟨Nat.le_of_ble_eq_true rfl, Nat.le_of_ble_eq_true rfl⟩ rfl hl.1 rfl (Nat.le_of_ble_eq_true rfl) dX0_fewestIntoHall_7) hP (fun H locs hP => ?_)
    obtain rfl := Option.some.inj h
    have hK : (q2 : Int32) = r0 := hK
    exact w_iret C hlk hr hP hK rfl dX0_fewestIntoHall_10
  exact bk r0 hf rfl _ _ hP
theorem hd_X0_fewestToRopeOff : yX0_fewestToRopeOff.cls = RX0 ∧ yX0_fewestToRopeOff.cls ≠ "java/lang/invoke/MethodHandle" ∧ yX0_fewestToRopeOff.cls ≠ "java/lang/invoke/VarHandle" ∧ (parseMethodDescriptor yX0_fewestToRopeOff.desc).map (fun d => d.parameters.length) = some 1 := by decide +kernel
set_option maxHeartbeats 4000000 in
set_option maxRecDepth 100000 in
theorem c_X0_fewestToRopeOff (l : Launch) (D : va_G) (aI aL : ClassId) (ad : Nat → Nat) (inj : Inj ad 42) (sz : Nat) (σ : Sg) (r0 : Int32) (hf : f_X0_fewestToRopeOff σ = some r0) : Met l yX0_fewestToRopeOff (wS yX0_fewestToRopeOff cX0_fewestToRopeOff 1 (some .int)) (RM 5 122) (Pw D aI aL 42 shX ad sz σ [.ref (ad 12)]) (Qi D aI aL 42 shX ad r0 σ sz) 0 0 (AA ad 42 sz) := by
  refine Mof (Qc := Qi D aI aL 42 shX ad r0 σ) (by decide) inj (Nat.le_of_ble_eq_true rfl) ?_
  intro p e s m args below meth c ls C hlk hr hP hl
  have hx := C.1.1
  have hb_ := C.1.2.1
  have hown := C.1.2.2.2.1
  have hts := C.1.2.2.2.2
  have hl : lv_has ls 1 [(0, .ref (ad 12))] := hl
  have bk : ∀ (y : Int32), f_X0_fewestToRopeOff σ = some y → y = r0 → ∀ (H : Heap) (locs : List Loc), HS D aI aL 42 shX ad σ s H locs → W p l e (RM 5 122) s m args below meth c H locs 0 0 (MQ below (Qi D aI aL 42 shX ad r0 σ s.heap.size) args s 0 0 (AA ad 42 s.heap.size)) (F0 m 0 ls []) := by
    intro y h hK H locs hP
    unfold f_X0_fewestToRopeOff at h
    refine lv_aload_n hx hb_ dX0_fewestToRopeOff_0 rfl (lv_at hl 0 rfl) ?_
    refine lv_bipush (v := (-2)) hx hb_ dX0_fewestToRopeOff_1 (by decide) ?_
    refine lv_aload_n hx hb_ dX0_fewestToRopeOff_3 rfl (lv_at hl 0 rfl) ?_
    obtain ⟨q1, hq1, h⟩ := bnd h
    refine w_ci (w_rV (As := []) (rest := [.int (-2), .ref (ad 12)]) C hP (k := 12) (c_X1_beginnings l D aI aL ad inj _ σ 12 fl12 q1 hq1) (gV wt580 wt277 wt278 wt4 wt279) 0 hd_X1_beginnings ⟨Nat.le_of_ble_eq_true rfl, Nat.le_of_ble_eq_true rfl⟩ (by decide) 0 rfl rfl rfl hl.1 rfl (Nat.le_of_ble_eq_true rfl) dX0_fewestToRopeOff_4) hP (fun H locs hP => ?_)
    refine lv_aload_n hx hb_ dX0_fewestToRopeOff_7 rfl (lv_at hl 0 rfl) ?_
    obtain ⟨q2, hq2, h⟩ := bnd h
    refine w_ci (w_rV (As := []) (rest := [.int q1, .int (-2), .ref (ad 12)]) C hP (k := 12) (c_X1_beginnings l D aI aL ad inj _ σ 12 fl12 q2 hq2) (gV wt580 wt277 wt278 wt4 wt279) 0 hd_X1_beginnings ⟨Nat.le_of_ble_eq_true rfl, Nat.le_of_ble_eq_true rfl⟩ (by decide) 0 rfl rfl rfl hl.1 rfl (Nat.le_of_ble_eq_true rfl) dX0_fewestToRopeOff_8) hP (fun H locs hP => ?_)
    obtain ⟨q3, hq3, h⟩ := bnd h
    refine w_ci (w_rS (As := [.ref (ad 12), .int (-2), .int q1, .int q2]) (rest := []) C hP (c_X0_fewestTurned l D aI aL ad inj _ σ (-2) q1 q2 q3 hq3) wt599 wt600 wt14 wt601 4 hd_X0_fewestTurned ⟨Nat.le_of_ble_eq_true rfl, Nat.le_of_ble_eq_true rfl⟩ rfl hl.1 rfl (Nat.le_of_ble_eq_true rfl) dX0_fewestToRopeOff_11) hP (fun H locs hP => ?_)
    obtain rfl := Option.some.inj h
    have hK : (q3 : Int32) = r0 := hK
    exact w_iret C hlk hr hP hK rfl dX0_fewestToRopeOff_14
  exact bk r0 hf rfl _ _ hP
theorem hd_X1_allStones : yX1_allStones.cls = RX1 ∧ yX1_allStones.cls ≠ "java/lang/invoke/MethodHandle" ∧ yX1_allStones.cls ≠ "java/lang/invoke/VarHandle" ∧ (parseMethodDescriptor yX1_allStones.desc).map (fun d => d.parameters.length) = some 0 := by decide +kernel
set_option maxHeartbeats 4000000 in
set_option maxRecDepth 100000 in
theorem c_X1_allStones (l : Launch) (D : va_G) (aI aL : ClassId) (ad : Nat → Nat) (inj : Inj ad 42) (sz : Nat) (σ : Sg) (b : Nat) (hb : isFl b) (r0 : Int32) (hf : f_X1_allStones b σ = some r0) : Met l yX1_allStones (wS yX1_allStones cX1_allStones 1 (some .int)) (RM 0 0) (Pw D aI aL 42 shX ad sz σ [.ref (ad b)]) (Qi D aI aL 42 shX ad r0 σ sz) 0 0 (AA ad 42 sz) := by
  refine Mof (Qc := Qi D aI aL 42 shX ad r0 σ) (by decide) inj (Nat.le_of_ble_eq_true rfl) ?_
  intro p e s m args below meth c ls C hlk hr hP hl
  have hx := C.1.1
  have hb_ := C.1.2.1
  have hown := C.1.2.2.2.1
  have hts := C.1.2.2.2.2
  have hl : lv_has ls 1 [(0, .ref (ad b))] := hl
  have bk : ∀ (y : Int32), f_X1_allStones b σ = some y → y = r0 → ∀ (H : Heap) (locs : List Loc), HS D aI aL 42 shX ad σ s H locs → W p l e (RM 0 0) s m args below meth c H locs 0 0 (MQ below (Qi D aI aL 42 shX ad r0 σ s.heap.size) args s 0 0 (AA ad 42 s.heap.size)) (F0 m 0 ls []) := by
    intro y h hK H locs hP
    unfold f_X1_allStones at h
    refine lv_iconst (v := 1) hx hb_ dX1_allStones_0 (by decide) ?_
    refine lv_aload_n hx hb_ dX1_allStones_1 rfl (lv_at hl 0 rfl) ?_
    refine w_get C hP (k := b) (fl_l0 hb) 0 (fl_sh hb) rfl inWX1 6 (by decide) wt63 (v := .int (σ.1 b 6)) rfl dX1_allStones_2 ?_
    refine lv_ishl hx hb_ dX1_allStones_5 ?_
    refine lv_iconst (v := 1) hx hb_ dX1_allStones_6 (by decide) ?_
    refine lv_isub hx hb_ dX1_allStones_7 ?_
    obtain rfl := Option.some.inj h
    have hK : ((((1 : Int32) <<< ((σ.1 b 6) &&& 31)) - (1 : Int32)) : Int32) = r0 := hK
    exact w_iret C hlk hr hP hK rfl dX1_allStones_8
  exact bk r0 hf rfl _ _ hP
theorem hd_X1_setStones : yX1_setStones.cls = RX1 ∧ yX1_setStones.cls ≠ "java/lang/invoke/MethodHandle" ∧ yX1_setStones.cls ≠ "java/lang/invoke/VarHandle" ∧ (parseMethodDescriptor yX1_setStones.desc).map (fun d => d.parameters.length) = some 1 := by decide +kernel
set_option maxHeartbeats 4000000 in
set_option maxRecDepth 100000 in
theorem c_X1_setStones (l : Launch) (D : va_G) (aI aL : ClassId) (ad : Nat → Nat) (inj : Inj ad 42) (sz : Nat) (σ : Sg) (b : Nat) (hb : isFl b) (v1 : Int32) (r0 : (Int32 × Sg)) (hf : f_X1_setStones b v1 σ = some r0) : Met l yX1_setStones (wS yX1_setStones cX1_setStones 2 (some .boolean)) (RM 1 20) (Pw D aI aL 42 shX ad sz σ [.ref (ad b), .int v1]) (Qi D aI aL 42 shX ad r0.1 r0.2 sz) 0 0 (AA ad 42 sz) := by
  refine Mof (Qc := Qi D aI aL 42 shX ad r0.1 r0.2) (by decide) inj (Nat.le_of_ble_eq_true rfl) ?_
  intro p e s m args below meth c ls C hlk hr hP hl
  have hx := C.1.1
  have hb_ := C.1.2.1
  have hown := C.1.2.2.2.1
  have hts := C.1.2.2.2.2
  have hl : lv_has ls 2 [(0, .ref (ad b)), (1, .int v1)] := hl
  have bk_11 : ∀ (s_11 : Sg) (y : (Int32 × Sg)), f_X1_setStones_11 b s_11 = some y → (fun y => y = r0) y → ∀ (H : Heap) (locs : List Loc) (ls : Array Slot), HS D aI aL 42 shX ad s_11 s H locs → lv_has ls 2 [] → W p l e (RM 1 20) s m args below meth c H locs 0 0 (MQ below (Qi D aI aL 42 shX ad r0.1 r0.2 s.heap.size) args s 0 0 (AA ad 42 s.heap.size)) (F0 m 11 ls []) := by
    intro s_11 y h hK H locs ls hP hl
    unfold f_X1_setStones_11 at h
    refine lv_iconst (v := 0) hx hb_ dX1_setStones_11 (by decide) ?_
    obtain ⟨x1, hx1, h⟩ := bnd h
    obtain rfl := Option.some.inj h
    have hK : (x1, s_11) = r0 := hK
    have hK1 := congrArg Prod.fst hK
    have hK2 := congrArg Prod.snd hK
    exact w_zret C hlk hr hP hx1 hK1 hK2 dX1_setStones_12
  have bk : ∀ (y : (Int32 × Sg)), f_X1_setStones b v1 σ = some y → y = r0 → ∀ (H : Heap) (locs : List Loc), HS D aI aL 42 shX ad σ s H locs → W p l e (RM 1 20) s m args below meth c H locs 0 0 (MQ below (Qi D aI aL 42 shX ad r0.1 r0.2 s.heap.size) args s 0 0 (AA ad 42 s.heap.size)) (F0 m 0 ls []) := by
    intro y h hK H locs hP
    unfold f_X1_setStones at h
    refine lv_iload_n hx hb_ dX1_setStones_0 rfl (lv_at hl 1 rfl) ?_
    refine lv_iconst (v := 1) hx hb_ dX1_setStones_1 (by decide) ?_
    refine lv_icmp_lt (tgt := 11) hx hb_ dX1_setStones_2 (by decide) (fun hc => ?_) (fun hc => ?_)
    · replace h := ift h hc
      exact bk_11 σ y h hK _ _ _ hP (lv_sub hl [] rfl)
    · replace h := iff' h hc
      refine lv_iload_n hx hb_ dX1_setStones_5 rfl (lv_at hl 1 rfl) ?_
      refine lv_bipush (v := 10) hx hb_ dX1_setStones_6 (by decide) ?_
      refine lv_icmp_le (tgt := 13) hx hb_ dX1_setStones_8 (by decide) (fun hc => ?_) (fun hc => ?_)
      · replace h := ift h hc
        refine lv_aload_n hx hb_ dX1_setStones_13 rfl (lv_at hl 0 rfl) ?_
        refine lv_iload_n hx hb_ dX1_setStones_14 rfl (lv_at hl 1 rfl) ?_
        obtain ⟨s2, hs2, h⟩ := bnd h
        refine w_puti C hP (k := b) (fl_l0 hb) 0 (fl_sh hb) rfl inWX1 tyX1 tyX1_ok nmX1 6 (by decide) wt63 rfl rfl rfl rfl hs2 dX1_setStones_15 (fun H locs hP => ?_)
        refine lv_aload_n hx hb_ dX1_setStones_18 rfl (lv_at hl 0 rfl) ?_
        refine lv_aload_n hx hb_ dX1_setStones_19 rfl (lv_at hl 0 rfl) ?_
        obtain ⟨q3, hq3, h⟩ := bnd h
        refine w_ci (w_rV (As := []) (rest := [.ref (ad b)]) C hP (k := b) (c_X1_allStones l D aI aL ad inj _ s2 b hb q3 hq3) (gV wt208 wt209 wt210 wt4 wt211) 0 hd_X1_allStones ⟨Nat.le_of_ble_eq_true rfl, Nat.le_of_ble_eq_true rfl⟩ (fl_l0 hb) 0 (fl_sh hb) rfl rfl hl.1 rfl (Nat.le_of_ble_eq_true rfl) dX1_setStones_20) hP (fun H locs hP => ?_)
        obtain ⟨s4, hs4, h⟩ := bnd h
        refine w_puti C hP (k := b) (fl_l0 hb) 0 (fl_sh hb) rfl inWX1 tyX1 tyX1_ok nmX1 9 (by decide) wt66 rfl rfl rfl rfl hs4 dX1_setStones_23 (fun H locs hP => ?_)
        refine lv_iconst (v := 1) hx hb_ dX1_setStones_26 (by decide) ?_
        obtain ⟨x5, hx5, h⟩ := bnd h
        obtain rfl := Option.some.inj h
        have hK : (x5, s4) = r0 := hK
        have hK1 := congrArg Prod.fst hK
        have hK2 := congrArg Prod.snd hK
        exact w_zret C hlk hr hP hx5 hK1 hK2 dX1_setStones_27
      · replace h := iff' h hc
        exact bk_11 σ y h hK _ _ _ hP (lv_sub hl [] rfl)
  exact bk r0 hf rfl _ _ hP
theorem hd_X8_clearRow : yX8_clearRow.cls = RX8 ∧ yX8_clearRow.cls ≠ "java/lang/invoke/MethodHandle" ∧ yX8_clearRow.cls ≠ "java/lang/invoke/VarHandle" ∧ (parseMethodDescriptor yX8_clearRow.desc).map (fun d => d.parameters.length) = some 1 := by decide +kernel
set_option maxHeartbeats 4000000 in
set_option maxRecDepth 100000 in
theorem c_X8_clearRow (l : Launch) (D : va_G) (aI aL : ClassId) (ad : Nat → Nat) (inj : Inj ad 42) (sz : Nat) (σ : Sg) (k1 n1 : Nat) (hk1 : k1 < 42) (gk1 : shX k1 = (0, n1, [])) (r0 : Sg) (hf : f_X8_clearRow k1 n1 σ = some r0) : Met l yX8_clearRow (wS yX8_clearRow cX8_clearRow 2 (none : Option Jvm.ClassFile.FieldType)) (RM 0 0) (Pw D aI aL 42 shX ad sz σ [.ref (ad k1)]) (Qv D aI aL 42 shX ad r0 sz) 0 0 (AA ad 42 sz) := by
  refine Mof (Qc := Qv D aI aL 42 shX ad r0) (by decide) inj (Nat.le_of_ble_eq_true rfl) ?_
  intro p e s m args below meth c ls C hlk hr hP hl
  have hx := C.1.1
  have hb_ := C.1.2.1
  have hown := C.1.2.2.2.1
  have hts := C.1.2.2.2.2
  have hl : lv_has ls 2 [(0, .ref (ad k1))] := hl
  have lp_2 : ∀ (n_2 : Nat) (v1_2 : Int32) (s_2 : Sg) (y : Sg), itr n_2 (fun s => f_X8_clearRow_2s k1 n1 s.1 s.2) (v1_2, s_2) = some y → (fun y => y = r0) y → ∀ (H : Heap) (locs : List Loc) (ls : Array Slot), HS D aI aL 42 shX ad s_2 s H locs → lv_has ls 2 [(0, .ref (ad k1)), (1, .int v1_2)] → W p l e (RM 0 0) s m args below meth c H locs 0 0 (MQ below (Qv D aI aL 42 shX ad r0 s.heap.size) args s 0 0 (AA ad 42 s.heap.size)) (F0 m 2 ls []) := by
    intro n_2
    induction n_2 with
    | zero =>
      intro v1_2 s_2 y h hK
      cases (show (none : Option Sg) = some y from h)
    | succ n_2 ih_2 =>
      intro v1_2 s_2 y h hK H locs ls hP hl
      obtain ⟨y, h, hK⟩ := itr_inv (K := (fun y => y = r0)) h hK
      replace h : f_X8_clearRow_2s k1 n1 v1_2 s_2 = some y := h
      unfold f_X8_clearRow_2s at h
      refine lv_iload_n hx hb_ dX8_clearRow_2 rfl (lv_at hl 1 rfl) ?_
      refine lv_aload_n hx hb_ dX8_clearRow_3 rfl (lv_at hl 0 rfl) ?_
      refine w_alen C hP (k := k1) hk1 (n := n1) gk1 dX8_clearRow_4 ?_
      refine lv_icmp_ge (tgt := 18) hx hb_ dX8_clearRow_5 (by decide) (fun hc => ?_) (fun hc => ?_)
      · replace h := ift h hc
        obtain rfl := Option.some.inj h
        have hK : s_2 = r0 := hK
        exact w_vret C hlk hr hP hK dX8_clearRow_18
      · replace h := iff' h hc
        refine lv_aload_n hx hb_ dX8_clearRow_8 rfl (lv_at hl 0 rfl) ?_
        refine lv_iload_n hx hb_ dX8_clearRow_9 rfl (lv_at hl 1 rfl) ?_
        refine lv_iconst (v := 0) hx hb_ dX8_clearRow_10 (by decide) ?_
        obtain ⟨s1, hs1, h⟩ := bnd h
        refine w_ast C hP (k := k1) hk1 (n := n1) gk1 hs1 dX8_clearRow_11 (fun H locs hP => ?_)
        obtain ⟨x2, hx2, h⟩ := nm_inv h
        refine lv_iinc (v := x2) (lv' := [(1, .int x2), (0, .ref (ad k1))]) hx hb_ dX8_clearRow_12 hl (k := 1) rfl (by rw [hx2]; rfl) (by decide) rfl (fun ls hl => ?_)
        refine lv_goto (tgt := 2) hx hb_ dX8_clearRow_15 (by decide) ?_
        obtain rfl := Option.some.inj h
        obtain ⟨y2, h, hK⟩ := hK
        exact ih_2 x2 s1 y2 h hK _ _ _ hP (lv_sub hl [1, 0] rfl)
  have bk_2 : ∀ (v1_2 : Int32) (s_2 : Sg) (y : Sg), f_X8_clearRow_2 k1 n1 v1_2 s_2 = some y → (fun y => y = r0) y → ∀ (H : Heap) (locs : List Loc) (ls : Array Slot), HS D aI aL 42 shX ad s_2 s H locs → lv_has ls 2 [(0, .ref (ad k1)), (1, .int v1_2)] → W p l e (RM 0 0) s m args below meth c H locs 0 0 (MQ below (Qv D aI aL 42 shX ad r0 s.heap.size) args s 0 0 (AA ad 42 s.heap.size)) (F0 m 2 ls []) := fun v1_2 s_2 y h hK => lp_2 3000 v1_2 s_2 y h hK
  have bk : ∀ (y : Sg), f_X8_clearRow k1 n1 σ = some y → y = r0 → ∀ (H : Heap) (locs : List Loc), HS D aI aL 42 shX ad σ s H locs → W p l e (RM 0 0) s m args below meth c H locs 0 0 (MQ below (Qv D aI aL 42 shX ad r0 s.heap.size) args s 0 0 (AA ad 42 s.heap.size)) (F0 m 0 ls []) := by
    intro y h hK H locs hP
    unfold f_X8_clearRow at h
    refine lv_iconst (v := 0) hx hb_ dX8_clearRow_0 (by decide) ?_
    refine lv_istore_n (lv' := [(1, .int 0), (0, .ref (ad k1))]) hx hb_ dX8_clearRow_1 rfl hl (by decide) rfl (fun ls hl => ?_)
    exact bk_2 0 σ y h hK _ _ _ hP (lv_sub hl [1, 0] rfl)
  exact bk r0 hf rfl _ _ hP
theorem hd_X1_empty : yX1_empty.cls = RX1 ∧ yX1_empty.cls ≠ "java/lang/invoke/MethodHandle" ∧ yX1_empty.cls ≠ "java/lang/invoke/VarHandle" ∧ (parseMethodDescriptor yX1_empty.desc).map (fun d => d.parameters.length) = some 0 := by decide +kernel
set_option maxHeartbeats 4000000 in
set_option maxRecDepth 100000 in
theorem c_X1_empty (l : Launch) (D : va_G) (aI aL : ClassId) (ad : Nat → Nat) (inj : Inj ad 42) (sz : Nat) (σ : Sg) (b : Nat) (hb : isFl b) (r0 : Sg) (hf : f_X1_empty b σ = some r0) : Met l yX1_empty (wS yX1_empty cX1_empty 1 (none : Option Jvm.ClassFile.FieldType)) (RM 2 41) (Pw D aI aL 42 shX ad sz σ [.ref (ad b)]) (Qv D aI aL 42 shX ad r0 sz) 0 0 (AA ad 42 sz) := by
  refine Mof (Qc := Qv D aI aL 42 shX ad r0) (by decide) inj (Nat.le_of_ble_eq_true rfl) ?_
  intro p e s m args below meth c ls C hlk hr hP hl
  have hx := C.1.1
  have hb_ := C.1.2.1
  have hown := C.1.2.2.2.1
  have hts := C.1.2.2.2.2
  have hl : lv_has ls 1 [(0, .ref (ad b))] := hl
  have bk : ∀ (y : Sg), f_X1_empty b σ = some y → y = r0 → ∀ (H : Heap) (locs : List Loc), HS D aI aL 42 shX ad σ s H locs → W p l e (RM 2 41) s m args below meth c H locs 0 0 (MQ below (Qv D aI aL 42 shX ad r0 s.heap.size) args s 0 0 (AA ad 42 s.heap.size)) (F0 m 0 ls []) := by
    intro y h hK H locs hP
    unfold f_X1_empty at h
    refine lv_aload_n hx hb_ dX1_empty_0 rfl (lv_at hl 0 rfl) ?_
    refine w_get C hP (k := b) (fl_l0 hb) 0 (fl_sh hb) rfl inWX1 4 (by decide) wt61 (v := .ref (ad (b + 5))) rfl dX1_empty_1 ?_
    obtain ⟨q1, hq1, h⟩ := bnd h
    refine w_cv (w_rN (As := [.ref (ad (b + 5))]) (rest := []) C hP (c_X8_clearRow l D aI aL ad inj _ σ (b + 5) 10 (fl_l5 hb) (fl_a5 hb) q1 hq1) nw7 wt202 wt1 wt203 1 hd_X8_clearRow ⟨Nat.le_of_ble_eq_true rfl, Nat.le_of_ble_eq_true rfl⟩ rfl hl.1 rfl (Nat.le_of_ble_eq_true rfl) dX1_empty_4) hP (fun H locs hP => ?_)
    refine lv_aload_n hx hb_ dX1_empty_7 rfl (lv_at hl 0 rfl) ?_
    refine w_get C hP (k := b) (fl_l0 hb) 0 (fl_sh hb) rfl inWX1 5 (by decide) wt62 (v := .ref (ad (b + 6))) rfl dX1_empty_8 ?_
    obtain ⟨q2, hq2, h⟩ := bnd h
    refine w_cv (w_rN (As := [.ref (ad (b + 6))]) (rest := []) C hP (c_X8_clearRow l D aI aL ad inj _ q1 (b + 6) 10 (fl_l6 hb) (fl_a6 hb) q2 hq2) nw7 wt202 wt1 wt203 1 hd_X8_clearRow ⟨Nat.le_of_ble_eq_true rfl, Nat.le_of_ble_eq_true rfl⟩ rfl hl.1 rfl (Nat.le_of_ble_eq_true rfl) dX1_empty_11) hP (fun H locs hP => ?_)
    refine lv_aload_n hx hb_ dX1_empty_14 rfl (lv_at hl 0 rfl) ?_
    refine lv_iconst (v := 0) hx hb_ dX1_empty_15 (by decide) ?_
    obtain ⟨s3, hs3, h⟩ := bnd h
    refine w_puti C hP (k := b) (fl_l0 hb) 0 (fl_sh hb) rfl inWX1 tyX1 tyX1_ok nmX1 7 (by decide) wt64 rfl rfl rfl rfl hs3 dX1_empty_16 (fun H locs hP => ?_)
    refine lv_aload_n hx hb_ dX1_empty_19 rfl (lv_at hl 0 rfl) ?_
    refine lv_iconst (v := 0) hx hb_ dX1_empty_20 (by decide) ?_
    obtain ⟨s4, hs4, h⟩ := bnd h
    refine w_puti C hP (k := b) (fl_l0 hb) 0 (fl_sh hb) rfl inWX1 tyX1 tyX1_ok nmX1 8 (by decide) wt65 rfl rfl rfl rfl hs4 dX1_empty_21 (fun H locs hP => ?_)
    refine lv_aload_n hx hb_ dX1_empty_24 rfl (lv_at hl 0 rfl) ?_
    refine lv_iconst (v := 0) hx hb_ dX1_empty_25 (by decide) ?_
    obtain ⟨s5, hs5, h⟩ := bnd h
    refine w_puti C hP (k := b) (fl_l0 hb) 0 (fl_sh hb) rfl inWX1 tyX1 tyX1_ok nmX1 10 (by decide) wt67 rfl rfl rfl rfl hs5 dX1_empty_26 (fun H locs hP => ?_)
    refine lv_aload_n hx hb_ dX1_empty_29 rfl (lv_at hl 0 rfl) ?_
    refine lv_iconst (v := 4) hx hb_ dX1_empty_30 (by decide) ?_
    obtain ⟨q6, hq6, h⟩ := bnd h
    refine w_ci (w_rV (As := [.int 4]) (rest := []) C hP (k := b) (c_X1_setStones l D aI aL ad inj _ s5 b hb 4 q6 hq6) (gV wt204 wt205 wt206 wt4 wt207) 1 hd_X1_setStones ⟨Nat.le_of_ble_eq_true rfl, Nat.le_of_ble_eq_true rfl⟩ (fl_l0 hb) 0 (fl_sh hb) rfl rfl hl.1 rfl (Nat.le_of_ble_eq_true rfl) dX1_empty_31) hP (fun H locs hP => ?_)
    refine lv_pop hx hb_ dX1_empty_34 rfl ?_
    obtain rfl := Option.some.inj h
    have hK : q6.2 = r0 := hK
    exact w_vret C hlk hr hP hK dX1_empty_35
  exact bk r0 hf rfl _ _ hP
theorem hd_X8_copy : yX8_copy.cls = RX8 ∧ yX8_copy.cls ≠ "java/lang/invoke/MethodHandle" ∧ yX8_copy.cls ≠ "java/lang/invoke/VarHandle" ∧ (parseMethodDescriptor yX8_copy.desc).map (fun d => d.parameters.length) = some 2 := by decide +kernel
set_option maxHeartbeats 4000000 in
set_option maxRecDepth 100000 in
theorem c_X8_copy (l : Launch) (D : va_G) (aI aL : ClassId) (ad : Nat → Nat) (inj : Inj ad 42) (sz : Nat) (σ : Sg) (k1 n1 : Nat) (hk1 : k1 < 42) (gk1 : shX k1 = (0, n1, [])) (k2 n2 : Nat) (hk2 : k2 < 42) (gk2 : shX k2 = (0, n2, [])) (r0 : Sg) (hf : f_X8_copy k1 n1 k2 n2 σ = some r0) : Met l yX8_copy (wS yX8_copy cX8_copy 3 (none : Option Jvm.ClassFile.FieldType)) (RM 0 0) (Pw D aI aL 42 shX ad sz σ [.ref (ad k1), .ref (ad k2)]) (Qv D aI aL 42 shX ad r0 sz) 0 0 (AA ad 42 sz) := by
  refine Mof (Qc := Qv D aI aL 42 shX ad r0) (by decide) inj (Nat.le_of_ble_eq_true rfl) ?_
  intro p e s m args below meth c ls C hlk hr hP hl
  have hx := C.1.1
  have hb_ := C.1.2.1
  have hown := C.1.2.2.2.1
  have hts := C.1.2.2.2.2
  have hl : lv_has ls 3 [(0, .ref (ad k1)), (1, .ref (ad k2))] := hl
  have bk_26 : ∀ (s_26 : Sg) (y : Sg), f_X8_copy_26 k1 n1 k2 n2 s_26 = some y → (fun y => y = r0) y → ∀ (H : Heap) (locs : List Loc) (ls : Array Slot), HS D aI aL 42 shX ad s_26 s H locs → lv_has ls 3 [] → W p l e (RM 0 0) s m args below meth c H locs 0 0 (MQ below (Qv D aI aL 42 shX ad r0 s.heap.size) args s 0 0 (AA ad 42 s.heap.size)) (F0 m 26 ls []) := by
    intro s_26 y h hK H locs ls hP hl
    unfold f_X8_copy_26 at h
    obtain rfl := Option.some.inj h
    have hK : s_26 = r0 := hK
    exact w_vret C hlk hr hP hK dX8_copy_26
  have lp_2 : ∀ (n_2 : Nat) (v2_2 : Int32) (s_2 : Sg) (y : Sg), itr n_2 (fun s => f_X8_copy_2s k1 n1 k2 n2 s.1 s.2) (v2_2, s_2) = some y → (fun y => y = r0) y → ∀ (H : Heap) (locs : List Loc) (ls : Array Slot), HS D aI aL 42 shX ad s_2 s H locs → lv_has ls 3 [(0, .ref (ad k1)), (1, .ref (ad k2)), (2, .int v2_2)] → W p l e (RM 0 0) s m args below meth c H locs 0 0 (MQ below (Qv D aI aL 42 shX ad r0 s.heap.size) args s 0 0 (AA ad 42 s.heap.size)) (F0 m 2 ls []) := by
    intro n_2
    induction n_2 with
    | zero =>
      intro v2_2 s_2 y h hK
      cases (show (none : Option Sg) = some y from h)
    | succ n_2 ih_2 =>
      intro v2_2 s_2 y h hK H locs ls hP hl
      obtain ⟨y, h, hK⟩ := itr_inv (K := (fun y => y = r0)) h hK
      replace h : f_X8_copy_2s k1 n1 k2 n2 v2_2 s_2 = some y := h
      unfold f_X8_copy_2s at h
      refine lv_iload_n hx hb_ dX8_copy_2 rfl (lv_at hl 2 rfl) ?_
      refine lv_aload_n hx hb_ dX8_copy_3 rfl (lv_at hl 0 rfl) ?_
      refine w_alen C hP (k := k1) hk1 (n := n1) gk1 dX8_copy_4 ?_
      refine lv_icmp_ge (tgt := 26) hx hb_ dX8_copy_5 (by decide) (fun hc => ?_) (fun hc => ?_)
      · replace h := ift h hc
        obtain ⟨y2, h2, rfl⟩ := mapi h
        exact bk_26 s_2 y2 h2 hK _ _ _ hP (lv_sub hl [] rfl)
      · replace h := iff' h hc
        refine lv_iload_n hx hb_ dX8_copy_8 rfl (lv_at hl 2 rfl) ?_
        refine lv_aload_n hx hb_ dX8_copy_9 rfl (lv_at hl 1 rfl) ?_
        refine w_alen C hP (k := k2) hk2 (n := n2) gk2 dX8_copy_10 ?_
        refine lv_icmp_ge (tgt := 26) hx hb_ dX8_copy_11 (by decide) (fun hc => ?_) (fun hc => ?_)
        · replace h := ift h hc
          obtain ⟨y2, h2, rfl⟩ := mapi h
          exact bk_26 s_2 y2 h2 hK _ _ _ hP (lv_sub hl [] rfl)
        · replace h := iff' h hc
          refine lv_aload_n hx hb_ dX8_copy_14 rfl (lv_at hl 1 rfl) ?_
          refine lv_iload_n hx hb_ dX8_copy_15 rfl (lv_at hl 2 rfl) ?_
          refine lv_aload_n hx hb_ dX8_copy_16 rfl (lv_at hl 0 rfl) ?_
          refine lv_iload_n hx hb_ dX8_copy_17 rfl (lv_at hl 2 rfl) ?_
          obtain ⟨x1, hx1, h⟩ := bnd h
          refine w_ald C hP (k := k1) hk1 (n := n1) gk1 hx1 dX8_copy_18 ?_
          obtain ⟨s2, hs2, h⟩ := bnd h
          refine w_ast C hP (k := k2) hk2 (n := n2) gk2 hs2 dX8_copy_19 (fun H locs hP => ?_)
          obtain ⟨x3, hx3, h⟩ := nm_inv h
          refine lv_iinc (v := x3) (lv' := [(2, .int x3), (0, .ref (ad k1)), (1, .ref (ad k2))]) hx hb_ dX8_copy_20 hl (k := 2) rfl (by rw [hx3]; rfl) (by decide) rfl (fun ls hl => ?_)
          refine lv_goto (tgt := 2) hx hb_ dX8_copy_23 (by decide) ?_
          obtain rfl := Option.some.inj h
          obtain ⟨y2, h, hK⟩ := hK
          exact ih_2 x3 s2 y2 h hK _ _ _ hP (lv_sub hl [1, 2, 0] rfl)
  have bk_2 : ∀ (v2_2 : Int32) (s_2 : Sg) (y : Sg), f_X8_copy_2 k1 n1 k2 n2 v2_2 s_2 = some y → (fun y => y = r0) y → ∀ (H : Heap) (locs : List Loc) (ls : Array Slot), HS D aI aL 42 shX ad s_2 s H locs → lv_has ls 3 [(0, .ref (ad k1)), (1, .ref (ad k2)), (2, .int v2_2)] → W p l e (RM 0 0) s m args below meth c H locs 0 0 (MQ below (Qv D aI aL 42 shX ad r0 s.heap.size) args s 0 0 (AA ad 42 s.heap.size)) (F0 m 2 ls []) := fun v2_2 s_2 y h hK => lp_2 3000 v2_2 s_2 y h hK
  have bk : ∀ (y : Sg), f_X8_copy k1 n1 k2 n2 σ = some y → y = r0 → ∀ (H : Heap) (locs : List Loc), HS D aI aL 42 shX ad σ s H locs → W p l e (RM 0 0) s m args below meth c H locs 0 0 (MQ below (Qv D aI aL 42 shX ad r0 s.heap.size) args s 0 0 (AA ad 42 s.heap.size)) (F0 m 0 ls []) := by
    intro y h hK H locs hP
    unfold f_X8_copy at h
    refine lv_iconst (v := 0) hx hb_ dX8_copy_0 (by decide) ?_
    refine lv_istore_n (lv' := [(2, .int 0), (0, .ref (ad k1)), (1, .ref (ad k2))]) hx hb_ dX8_copy_1 rfl hl (by decide) rfl (fun ls hl => ?_)
    exact bk_2 0 σ y h hK _ _ _ hP (lv_sub hl [1, 2, 0] rfl)
  exact bk r0 hf rfl _ _ hP
theorem hd_X1_copyFrom : yX1_copyFrom.cls = RX1 ∧ yX1_copyFrom.cls ≠ "java/lang/invoke/MethodHandle" ∧ yX1_copyFrom.cls ≠ "java/lang/invoke/VarHandle" ∧ (parseMethodDescriptor yX1_copyFrom.desc).map (fun d => d.parameters.length) = some 1 := by decide +kernel
set_option maxHeartbeats 4000000 in
set_option maxRecDepth 100000 in
theorem c_X1_copyFrom (l : Launch) (D : va_G) (aI aL : ClassId) (ad : Nat → Nat) (inj : Inj ad 42) (sz : Nat) (σ : Sg) (b : Nat) (hb : isFl b) (b2 : Nat) (hb2 : isFl b2) (r0 : Sg) (hf : f_X1_copyFrom b b2 σ = some r0) : Met l yX1_copyFrom (wS yX1_copyFrom cX1_copyFrom 2 (none : Option Jvm.ClassFile.FieldType)) (RM 1 22) (Pw D aI aL 42 shX ad sz σ [.ref (ad b), .ref (ad b2)]) (Qv D aI aL 42 shX ad r0 sz) 0 0 (AA ad 42 sz) := by
  refine Mof (Qc := Qv D aI aL 42 shX ad r0) (by decide) inj (Nat.le_of_ble_eq_true rfl) ?_
  intro p e s m args below meth c ls C hlk hr hP hl
  have hx := C.1.1
  have hb_ := C.1.2.1
  have hown := C.1.2.2.2.1
  have hts := C.1.2.2.2.2
  have hl : lv_has ls 2 [(0, .ref (ad b)), (1, .ref (ad b2))] := hl
  have bk : ∀ (y : Sg), f_X1_copyFrom b b2 σ = some y → y = r0 → ∀ (H : Heap) (locs : List Loc), HS D aI aL 42 shX ad σ s H locs → W p l e (RM 1 22) s m args below meth c H locs 0 0 (MQ below (Qv D aI aL 42 shX ad r0 s.heap.size) args s 0 0 (AA ad 42 s.heap.size)) (F0 m 0 ls []) := by
    intro y h hK H locs hP
    unfold f_X1_copyFrom at h
    refine lv_aload_n hx hb_ dX1_copyFrom_0 rfl (lv_at hl 1 rfl) ?_
    refine w_get C hP (k := b2) (fl_l0 hb2) 0 (fl_sh hb2) rfl inWX1 0 (by decide) wt57 (v := .ref (ad (b2 + 1))) rfl dX1_copyFrom_1 ?_
    refine lv_aload_n hx hb_ dX1_copyFrom_4 rfl (lv_at hl 0 rfl) ?_
    refine w_get C hP (k := b) (fl_l0 hb) 0 (fl_sh hb) rfl inWX1 0 (by decide) wt57 (v := .ref (ad (b + 1))) rfl dX1_copyFrom_5 ?_
    obtain ⟨q1, hq1, h⟩ := bnd h
    refine w_cv (w_rN (As := [.ref (ad (b2 + 1)), .ref (ad (b + 1))]) (rest := []) C hP (c_X8_copy l D aI aL ad inj _ σ (b2 + 1) 10 (fl_l1 hb2) (fl_a1 hb2) (b + 1) 10 (fl_l1 hb) (fl_a1 hb) q1 hq1) nw13 wt349 wt1 wt350 2 hd_X8_copy ⟨Nat.le_of_ble_eq_true rfl, Nat.le_of_ble_eq_true rfl⟩ rfl hl.1 rfl (Nat.le_of_ble_eq_true rfl) dX1_copyFrom_8) hP (fun H locs hP => ?_)
    refine lv_aload_n hx hb_ dX1_copyFrom_11 rfl (lv_at hl 1 rfl) ?_
    refine w_get C hP (k := b2) (fl_l0 hb2) 0 (fl_sh hb2) rfl inWX1 1 (by decide) wt58 (v := .ref (ad (b2 + 2))) rfl dX1_copyFrom_12 ?_
    refine lv_aload_n hx hb_ dX1_copyFrom_15 rfl (lv_at hl 0 rfl) ?_
    refine w_get C hP (k := b) (fl_l0 hb) 0 (fl_sh hb) rfl inWX1 1 (by decide) wt58 (v := .ref (ad (b + 2))) rfl dX1_copyFrom_16 ?_
    obtain ⟨q2, hq2, h⟩ := bnd h
    refine w_cv (w_rN (As := [.ref (ad (b2 + 2)), .ref (ad (b + 2))]) (rest := []) C hP (c_X8_copy l D aI aL ad inj _ q1 (b2 + 2) 10 (fl_l2 hb2) (fl_a2 hb2) (b + 2) 10 (fl_l2 hb) (fl_a2 hb) q2 hq2) nw13 wt349 wt1 wt350 2 hd_X8_copy ⟨Nat.le_of_ble_eq_true rfl, Nat.le_of_ble_eq_true rfl⟩ rfl hl.1 rfl (Nat.le_of_ble_eq_true rfl) dX1_copyFrom_19) hP (fun H locs hP => ?_)
    refine lv_aload_n hx hb_ dX1_copyFrom_22 rfl (lv_at hl 1 rfl) ?_
    refine w_get C hP (k := b2) (fl_l0 hb2) 0 (fl_sh hb2) rfl inWX1 2 (by decide) wt59 (v := .ref (ad (b2 + 3))) rfl dX1_copyFrom_23 ?_
    refine lv_aload_n hx hb_ dX1_copyFrom_26 rfl (lv_at hl 0 rfl) ?_
    refine w_get C hP (k := b) (fl_l0 hb) 0 (fl_sh hb) rfl inWX1 2 (by decide) wt59 (v := .ref (ad (b + 3))) rfl dX1_copyFrom_27 ?_
    obtain ⟨q3, hq3, h⟩ := bnd h
    refine w_cv (w_rN (As := [.ref (ad (b2 + 3)), .ref (ad (b + 3))]) (rest := []) C hP (c_X8_copy l D aI aL ad inj _ q2 (b2 + 3) 10 (fl_l3 hb2) (fl_a3 hb2) (b + 3) 10 (fl_l3 hb) (fl_a3 hb) q3 hq3) nw13 wt349 wt1 wt350 2 hd_X8_copy ⟨Nat.le_of_ble_eq_true rfl, Nat.le_of_ble_eq_true rfl⟩ rfl hl.1 rfl (Nat.le_of_ble_eq_true rfl) dX1_copyFrom_30) hP (fun H locs hP => ?_)
    refine lv_aload_n hx hb_ dX1_copyFrom_33 rfl (lv_at hl 1 rfl) ?_
    refine w_get C hP (k := b2) (fl_l0 hb2) 0 (fl_sh hb2) rfl inWX1 3 (by decide) wt60 (v := .ref (ad (b2 + 4))) rfl dX1_copyFrom_34 ?_
    refine lv_aload_n hx hb_ dX1_copyFrom_37 rfl (lv_at hl 0 rfl) ?_
    refine w_get C hP (k := b) (fl_l0 hb) 0 (fl_sh hb) rfl inWX1 3 (by decide) wt60 (v := .ref (ad (b + 4))) rfl dX1_copyFrom_38 ?_
    obtain ⟨q4, hq4, h⟩ := bnd h
    refine w_cv (w_rN (As := [.ref (ad (b2 + 4)), .ref (ad (b + 4))]) (rest := []) C hP (c_X8_copy l D aI aL ad inj _ q3 (b2 + 4) 10 (fl_l4 hb2) (fl_a4 hb2) (b + 4) 10 (fl_l4 hb) (fl_a4 hb) q4 hq4) nw13 wt349 wt1 wt350 2 hd_X8_copy ⟨Nat.le_of_ble_eq_true rfl, Nat.le_of_ble_eq_true rfl⟩ rfl hl.1 rfl (Nat.le_of_ble_eq_true rfl) dX1_copyFrom_41) hP (fun H locs hP => ?_)
    refine lv_aload_n hx hb_ dX1_copyFrom_44 rfl (lv_at hl 1 rfl) ?_
    refine w_get C hP (k := b2) (fl_l0 hb2) 0 (fl_sh hb2) rfl inWX1 4 (by decide) wt61 (v := .ref (ad (b2 + 5))) rfl dX1_copyFrom_45 ?_
    refine lv_aload_n hx hb_ dX1_copyFrom_48 rfl (lv_at hl 0 rfl) ?_
    refine w_get C hP (k := b) (fl_l0 hb) 0 (fl_sh hb) rfl inWX1 4 (by decide) wt61 (v := .ref (ad (b + 5))) rfl dX1_copyFrom_49 ?_
    obtain ⟨q5, hq5, h⟩ := bnd h
    refine w_cv (w_rN (As := [.ref (ad (b2 + 5)), .ref (ad (b + 5))]) (rest := []) C hP (c_X8_copy l D aI aL ad inj _ q4 (b2 + 5) 10 (fl_l5 hb2) (fl_a5 hb2) (b + 5) 10 (fl_l5 hb) (fl_a5 hb) q5 hq5) nw13 wt349 wt1 wt350 2 hd_X8_copy ⟨Nat.le_of_ble_eq_true rfl, Nat.le_of_ble_eq_true rfl⟩ rfl hl.1 rfl (Nat.le_of_ble_eq_true rfl) dX1_copyFrom_52) hP (fun H locs hP => ?_)
    refine lv_aload_n hx hb_ dX1_copyFrom_55 rfl (lv_at hl 1 rfl) ?_
    refine w_get C hP (k := b2) (fl_l0 hb2) 0 (fl_sh hb2) rfl inWX1 5 (by decide) wt62 (v := .ref (ad (b2 + 6))) rfl dX1_copyFrom_56 ?_
    refine lv_aload_n hx hb_ dX1_copyFrom_59 rfl (lv_at hl 0 rfl) ?_
    refine w_get C hP (k := b) (fl_l0 hb) 0 (fl_sh hb) rfl inWX1 5 (by decide) wt62 (v := .ref (ad (b + 6))) rfl dX1_copyFrom_60 ?_
    obtain ⟨q6, hq6, h⟩ := bnd h
    refine w_cv (w_rN (As := [.ref (ad (b2 + 6)), .ref (ad (b + 6))]) (rest := []) C hP (c_X8_copy l D aI aL ad inj _ q5 (b2 + 6) 10 (fl_l6 hb2) (fl_a6 hb2) (b + 6) 10 (fl_l6 hb) (fl_a6 hb) q6 hq6) nw13 wt349 wt1 wt350 2 hd_X8_copy ⟨Nat.le_of_ble_eq_true rfl, Nat.le_of_ble_eq_true rfl⟩ rfl hl.1 rfl (Nat.le_of_ble_eq_true rfl) dX1_copyFrom_63) hP (fun H locs hP => ?_)
    refine lv_aload_n hx hb_ dX1_copyFrom_66 rfl (lv_at hl 0 rfl) ?_
    refine lv_aload_n hx hb_ dX1_copyFrom_67 rfl (lv_at hl 1 rfl) ?_
    refine w_get C hP (k := b2) (fl_l0 hb2) 0 (fl_sh hb2) rfl inWX1 6 (by decide) wt63 (v := .int (q6.1 b2 6)) rfl dX1_copyFrom_68 ?_
    obtain ⟨s7, hs7, h⟩ := bnd h
    refine w_puti C hP (k := b) (fl_l0 hb) 0 (fl_sh hb) rfl inWX1 tyX1 tyX1_ok nmX1 6 (by decide) wt63 rfl rfl rfl rfl hs7 dX1_copyFrom_71 (fun H locs hP => ?_)
    refine lv_aload_n hx hb_ dX1_copyFrom_74 rfl (lv_at hl 0 rfl) ?_
    refine lv_aload_n hx hb_ dX1_copyFrom_75 rfl (lv_at hl 1 rfl) ?_
    refine w_get C hP (k := b2) (fl_l0 hb2) 0 (fl_sh hb2) rfl inWX1 7 (by decide) wt64 (v := .int (s7.1 b2 7)) rfl dX1_copyFrom_76 ?_
    obtain ⟨s8, hs8, h⟩ := bnd h
    refine w_puti C hP (k := b) (fl_l0 hb) 0 (fl_sh hb) rfl inWX1 tyX1 tyX1_ok nmX1 7 (by decide) wt64 rfl rfl rfl rfl hs8 dX1_copyFrom_79 (fun H locs hP => ?_)
    refine lv_aload_n hx hb_ dX1_copyFrom_82 rfl (lv_at hl 0 rfl) ?_
    refine lv_aload_n hx hb_ dX1_copyFrom_83 rfl (lv_at hl 1 rfl) ?_
    refine w_get C hP (k := b2) (fl_l0 hb2) 0 (fl_sh hb2) rfl inWX1 8 (by decide) wt65 (v := .int (s8.1 b2 8)) rfl dX1_copyFrom_84 ?_
    obtain ⟨s9, hs9, h⟩ := bnd h
    refine w_puti C hP (k := b) (fl_l0 hb) 0 (fl_sh hb) rfl inWX1 tyX1 tyX1_ok nmX1 8 (by decide) wt65 rfl rfl rfl rfl hs9 dX1_copyFrom_87 (fun H locs hP => ?_)
    refine lv_aload_n hx hb_ dX1_copyFrom_90 rfl (lv_at hl 0 rfl) ?_
    refine lv_aload_n hx hb_ dX1_copyFrom_91 rfl (lv_at hl 1 rfl) ?_
    refine w_get C hP (k := b2) (fl_l0 hb2) 0 (fl_sh hb2) rfl inWX1 9 (by decide) wt66 (v := .int (s9.1 b2 9)) rfl dX1_copyFrom_92 ?_
    obtain ⟨s10, hs10, h⟩ := bnd h
    refine w_puti C hP (k := b) (fl_l0 hb) 0 (fl_sh hb) rfl inWX1 tyX1 tyX1_ok nmX1 9 (by decide) wt66 rfl rfl rfl rfl hs10 dX1_copyFrom_95 (fun H locs hP => ?_)
    refine lv_aload_n hx hb_ dX1_copyFrom_98 rfl (lv_at hl 0 rfl) ?_
    refine lv_aload_n hx hb_ dX1_copyFrom_99 rfl (lv_at hl 1 rfl) ?_
    refine w_get C hP (k := b2) (fl_l0 hb2) 0 (fl_sh hb2) rfl inWX1 10 (by decide) wt67 (v := .int (s10.1 b2 10)) rfl dX1_copyFrom_100 ?_
    obtain ⟨s11, hs11, h⟩ := bnd h
    refine w_puti C hP (k := b) (fl_l0 hb) 0 (fl_sh hb) rfl inWX1 tyX1 tyX1_ok nmX1 10 (by decide) wt67 rfl rfl rfl rfl hs11 dX1_copyFrom_103 (fun H locs hP => ?_)
    obtain rfl := Option.some.inj h
    have hK : s11 = r0 := hK
    exact w_vret C hlk hr hP hK dX1_copyFrom_106
  exact bk r0 hf rfl _ _ hP
theorem hd_X1_hasStone : yX1_hasStone.cls = RX1 ∧ yX1_hasStone.cls ≠ "java/lang/invoke/MethodHandle" ∧ yX1_hasStone.cls ≠ "java/lang/invoke/VarHandle" ∧ (parseMethodDescriptor yX1_hasStone.desc).map (fun d => d.parameters.length) = some 1 := by decide +kernel
set_option maxHeartbeats 4000000 in
set_option maxRecDepth 100000 in
theorem c_X1_hasStone (l : Launch) (D : va_G) (aI aL : ClassId) (ad : Nat → Nat) (inj : Inj ad 42) (sz : Nat) (σ : Sg) (b : Nat) (hb : isFl b) (v1 : Int32) (r0 : Int32) (hf : f_X1_hasStone b v1 σ = some r0) : Met l yX1_hasStone (wS yX1_hasStone cX1_hasStone 2 (some .boolean)) (RM 0 0) (Pw D aI aL 42 shX ad sz σ [.ref (ad b), .int v1]) (Qi D aI aL 42 shX ad r0 σ sz) 0 0 (AA ad 42 sz) := by
  refine Mof (Qc := Qi D aI aL 42 shX ad r0 σ) (by decide) inj (Nat.le_of_ble_eq_true rfl) ?_
  intro p e s m args below meth c ls C hlk hr hP hl
  have hx := C.1.1
  have hb_ := C.1.2.1
  have hown := C.1.2.2.2.1
  have hts := C.1.2.2.2.2
  have hl : lv_has ls 2 [(0, .ref (ad b)), (1, .int v1)] := hl
  have bk_17 : ∀ (t0_17 : Int32) (y : Int32), f_X1_hasStone_17 b t0_17 σ = some y → (fun y => y = r0) y → ∀ (H : Heap) (locs : List Loc) (ls : Array Slot), HS D aI aL 42 shX ad σ s H locs → lv_has ls 2 [] → W p l e (RM 0 0) s m args below meth c H locs 0 0 (MQ below (Qi D aI aL 42 shX ad r0 σ s.heap.size) args s 0 0 (AA ad 42 s.heap.size)) (F0 m 17 ls [.int t0_17]) := by
    intro t0_17 y h hK H locs ls hP hl
    unfold f_X1_hasStone_17 at h
    obtain ⟨x1, hx1, h⟩ := bnd h
    obtain rfl := Option.some.inj h
    have hK : (x1 : Int32) = r0 := hK
    exact w_zret C hlk hr hP hx1 hK rfl dX1_hasStone_17
  have bk_16 : ∀ (y : Int32), f_X1_hasStone_16 b σ = some y → (fun y => y = r0) y → ∀ (H : Heap) (locs : List Loc) (ls : Array Slot), HS D aI aL 42 shX ad σ s H locs → lv_has ls 2 [] → W p l e (RM 0 0) s m args below meth c H locs 0 0 (MQ below (Qi D aI aL 42 shX ad r0 σ s.heap.size) args s 0 0 (AA ad 42 s.heap.size)) (F0 m 16 ls []) := by
    intro y h hK H locs ls hP hl
    unfold f_X1_hasStone_16 at h
    refine lv_iconst (v := 0) hx hb_ dX1_hasStone_16 (by decide) ?_
    exact bk_17 0 y h hK _ _ _ hP (lv_sub hl [] rfl)
  have bk : ∀ (y : Int32), f_X1_hasStone b v1 σ = some y → y = r0 → ∀ (H : Heap) (locs : List Loc), HS D aI aL 42 shX ad σ s H locs → W p l e (RM 0 0) s m args below meth c H locs 0 0 (MQ below (Qi D aI aL 42 shX ad r0 σ s.heap.size) args s 0 0 (AA ad 42 s.heap.size)) (F0 m 0 ls []) := by
    intro y h hK H locs hP
    unfold f_X1_hasStone at h
    refine lv_iload_n hx hb_ dX1_hasStone_0 rfl (lv_at hl 1 rfl) ?_
    refine lv_if_lt (tgt := 16) hx hb_ dX1_hasStone_1 (by decide) (fun hc => ?_) (fun hc => ?_)
    · replace h := ift h hc
      exact bk_16 y h hK _ _ _ hP (lv_sub hl [] rfl)
    · replace h := iff' h hc
      refine lv_iload_n hx hb_ dX1_hasStone_4 rfl (lv_at hl 1 rfl) ?_
      refine lv_aload_n hx hb_ dX1_hasStone_5 rfl (lv_at hl 0 rfl) ?_
      refine w_get C hP (k := b) (fl_l0 hb) 0 (fl_sh hb) rfl inWX1 6 (by decide) wt63 (v := .int (σ.1 b 6)) rfl dX1_hasStone_6 ?_
      refine lv_icmp_ge (tgt := 16) hx hb_ dX1_hasStone_9 (by decide) (fun hc => ?_) (fun hc => ?_)
      · replace h := ift h hc
        exact bk_16 y h hK _ _ _ hP (lv_sub hl [] rfl)
      · replace h := iff' h hc
        refine lv_iconst (v := 1) hx hb_ dX1_hasStone_12 (by decide) ?_
        refine lv_goto (tgt := 17) hx hb_ dX1_hasStone_13 (by decide) ?_
        exact bk_17 1 y h hK _ _ _ hP (lv_sub hl [] rfl)
  exact bk r0 hf rfl _ _ hP
theorem hd_X1_beginOn : yX1_beginOn.cls = RX1 ∧ yX1_beginOn.cls ≠ "java/lang/invoke/MethodHandle" ∧ yX1_beginOn.cls ≠ "java/lang/invoke/VarHandle" ∧ (parseMethodDescriptor yX1_beginOn.desc).map (fun d => d.parameters.length) = some 1 := by decide +kernel
set_option maxHeartbeats 4000000 in
set_option maxRecDepth 100000 in
theorem c_X1_beginOn (l : Launch) (D : va_G) (aI aL : ClassId) (ad : Nat → Nat) (inj : Inj ad 42) (sz : Nat) (σ : Sg) (b : Nat) (hb : isFl b) (v1 : Int32) (r0 : (Int32 × Sg)) (hf : f_X1_beginOn b v1 σ = some r0) : Met l yX1_beginOn (wS yX1_beginOn cX1_beginOn 2 (some .boolean)) (RM 1 21) (Pw D aI aL 42 shX ad sz σ [.ref (ad b), .int v1]) (Qi D aI aL 42 shX ad r0.1 r0.2 sz) 0 0 (AA ad 42 sz) := by
  refine Mof (Qc := Qi D aI aL 42 shX ad r0.1 r0.2) (by decide) inj (Nat.le_of_ble_eq_true rfl) ?_
  intro p e s m args below meth c ls C hlk hr hP hl
  have hx := C.1.1
  have hb_ := C.1.2.1
  have hown := C.1.2.2.2.1
  have hts := C.1.2.2.2.2
  have hl : lv_has ls 2 [(0, .ref (ad b)), (1, .int v1)] := hl
  have bk : ∀ (y : (Int32 × Sg)), f_X1_beginOn b v1 σ = some y → y = r0 → ∀ (H : Heap) (locs : List Loc), HS D aI aL 42 shX ad σ s H locs → W p l e (RM 1 21) s m args below meth c H locs 0 0 (MQ below (Qi D aI aL 42 shX ad r0.1 r0.2 s.heap.size) args s 0 0 (AA ad 42 s.heap.size)) (F0 m 0 ls []) := by
    intro y h hK H locs hP
    unfold f_X1_beginOn at h
    refine lv_aload_n hx hb_ dX1_beginOn_0 rfl (lv_at hl 0 rfl) ?_
    refine lv_iload_n hx hb_ dX1_beginOn_1 rfl (lv_at hl 1 rfl) ?_
    obtain ⟨q1, hq1, h⟩ := bnd h
    refine w_ci (w_rV (As := [.int v1]) (rest := []) C hP (k := b) (c_X1_hasStone l D aI aL ad inj _ σ b hb v1 q1 hq1) (gV wt250 wt251 wt252 wt4 wt253) 1 hd_X1_hasStone ⟨Nat.le_of_ble_eq_true rfl, Nat.le_of_ble_eq_true rfl⟩ (fl_l0 hb) 0 (fl_sh hb) rfl rfl hl.1 rfl (Nat.le_of_ble_eq_true rfl) dX1_beginOn_2) hP (fun H locs hP => ?_)
    refine lv_if_ne (tgt := 10) hx hb_ dX1_beginOn_5 (by decide) (fun hc => ?_) (fun hc => ?_)
    · replace h := iff' h hc
      refine lv_aload_n hx hb_ dX1_beginOn_10 rfl (lv_at hl 0 rfl) ?_
      refine lv_dup hx hb_ dX1_beginOn_11 rfl ?_
      refine w_get C hP (k := b) (fl_l0 hb) 0 (fl_sh hb) rfl inWX1 8 (by decide) wt65 (v := .int (σ.1 b 8)) rfl dX1_beginOn_12 ?_
      refine lv_iconst (v := 1) hx hb_ dX1_beginOn_15 (by decide) ?_
      refine lv_iload_n hx hb_ dX1_beginOn_16 rfl (lv_at hl 1 rfl) ?_
      refine lv_ishl hx hb_ dX1_beginOn_17 ?_
      refine lv_ior hx hb_ dX1_beginOn_18 ?_
      obtain ⟨s2, hs2, h⟩ := bnd h
      refine w_puti C hP (k := b) (fl_l0 hb) 0 (fl_sh hb) rfl inWX1 tyX1 tyX1_ok nmX1 8 (by decide) wt65 rfl rfl rfl rfl hs2 dX1_beginOn_19 (fun H locs hP => ?_)
      refine lv_iconst (v := 1) hx hb_ dX1_beginOn_22 (by decide) ?_
      obtain ⟨x3, hx3, h⟩ := bnd h
      obtain rfl := Option.some.inj h
      have hK : (x3, s2) = r0 := hK
      have hK1 := congrArg Prod.fst hK
      have hK2 := congrArg Prod.snd hK
      exact w_zret C hlk hr hP hx3 hK1 hK2 dX1_beginOn_23
    · replace h := ift h hc
      refine lv_iconst (v := 0) hx hb_ dX1_beginOn_8 (by decide) ?_
      obtain ⟨x4, hx4, h⟩ := bnd h
      obtain rfl := Option.some.inj h
      have hK : (x4, σ) = r0 := hK
      have hK1 := congrArg Prod.fst hK
      have hK2 := congrArg Prod.snd hK
      exact w_zret C hlk hr hP hx4 hK1 hK2 dX1_beginOn_9
  exact bk r0 hf rfl _ _ hP
theorem hd_X1_standOnBeginnings : yX1_standOnBeginnings.cls = RX1 ∧ yX1_standOnBeginnings.cls ≠ "java/lang/invoke/MethodHandle" ∧ yX1_standOnBeginnings.cls ≠ "java/lang/invoke/VarHandle" ∧ (parseMethodDescriptor yX1_standOnBeginnings.desc).map (fun d => d.parameters.length) = some 0 := by decide +kernel
set_option maxHeartbeats 4000000 in
set_option maxRecDepth 100000 in
theorem c_X1_standOnBeginnings (l : Launch) (D : va_G) (aI aL : ClassId) (ad : Nat → Nat) (inj : Inj ad 42) (sz : Nat) (σ : Sg) (b : Nat) (hb : isFl b) (r0 : Sg) (hf : f_X1_standOnBeginnings b σ = some r0) : Met l yX1_standOnBeginnings (wS yX1_standOnBeginnings cX1_standOnBeginnings 1 (none : Option Jvm.ClassFile.FieldType)) (RM 1 20) (Pw D aI aL 42 shX ad sz σ [.ref (ad b)]) (Qv D aI aL 42 shX ad r0 sz) 0 0 (AA ad 42 sz) := by
  refine Mof (Qc := Qv D aI aL 42 shX ad r0) (by decide) inj (Nat.le_of_ble_eq_true rfl) ?_
  intro p e s m args below meth c ls C hlk hr hP hl
  have hx := C.1.1
  have hb_ := C.1.2.1
  have hown := C.1.2.2.2.1
  have hts := C.1.2.2.2.2
  have hl : lv_has ls 1 [(0, .ref (ad b))] := hl
  have bk : ∀ (y : Sg), f_X1_standOnBeginnings b σ = some y → y = r0 → ∀ (H : Heap) (locs : List Loc), HS D aI aL 42 shX ad σ s H locs → W p l e (RM 1 20) s m args below meth c H locs 0 0 (MQ below (Qv D aI aL 42 shX ad r0 s.heap.size) args s 0 0 (AA ad 42 s.heap.size)) (F0 m 0 ls []) := by
    intro y h hK H locs hP
    unfold f_X1_standOnBeginnings at h
    refine lv_aload_n hx hb_ dX1_standOnBeginnings_0 rfl (lv_at hl 0 rfl) ?_
    refine lv_aload_n hx hb_ dX1_standOnBeginnings_1 rfl (lv_at hl 0 rfl) ?_
    obtain ⟨q1, hq1, h⟩ := bnd h
    refine w_ci (w_rV (As := []) (rest := [.ref (ad b)]) C hP (k := b) (c_X1_beginnings l D aI aL ad inj _ σ b hb q1 hq1) (gV wt276 wt277 wt278 wt4 wt279) 0 hd_X1_beginnings ⟨Nat.le_of_ble_eq_true rfl, Nat.le_of_ble_eq_true rfl⟩ (fl_l0 hb) 0 (fl_sh hb) rfl rfl hl.1 rfl (Nat.le_of_ble_eq_true rfl) dX1_standOnBeginnings_2) hP (fun H locs hP => ?_)
    obtain ⟨s2, hs2, h⟩ := bnd h
    refine w_puti C hP (k := b) (fl_l0 hb) 0 (fl_sh hb) rfl inWX1 tyX1 tyX1_ok nmX1 10 (by decide) wt67 rfl rfl rfl rfl hs2 dX1_standOnBeginnings_5 (fun H locs hP => ?_)
    obtain rfl := Option.some.inj h
    have hK : s2 = r0 := hK
    exact w_vret C hlk hr hP hK dX1_standOnBeginnings_8
  exact bk r0 hf rfl _ _ hP
theorem hd_X1_couldBeStep : yX1_couldBeStep.cls = RX1 ∧ yX1_couldBeStep.cls ≠ "java/lang/invoke/MethodHandle" ∧ yX1_couldBeStep.cls ≠ "java/lang/invoke/VarHandle" ∧ (parseMethodDescriptor yX1_couldBeStep.desc).map (fun d => d.parameters.length) = some 3 := by decide +kernel
set_option maxHeartbeats 4000000 in
set_option maxRecDepth 100000 in
theorem c_X1_couldBeStep (l : Launch) (D : va_G) (aI aL : ClassId) (ad : Nat → Nat) (inj : Inj ad 42) (sz : Nat) (σ : Sg) (b : Nat) (hb : isFl b) (v1 : Int32) (v2 : Int32) (v3 : Int32) (r0 : Int32) (hf : f_X1_couldBeStep b v1 v2 v3 σ = some r0) : Met l yX1_couldBeStep (wS yX1_couldBeStep cX1_couldBeStep 4 (some .boolean)) (RM 1 21) (Pw D aI aL 42 shX ad sz σ [.ref (ad b), .int v1, .int v2, .int v3]) (Qi D aI aL 42 shX ad r0 σ sz) 0 0 (AA ad 42 sz) := by
  refine Mof (Qc := Qi D aI aL 42 shX ad r0 σ) (by decide) inj (Nat.le_of_ble_eq_true rfl) ?_
  intro p e s m args below meth c ls C hlk hr hP hl
  have hx := C.1.1
  have hb_ := C.1.2.1
  have hown := C.1.2.2.2.1
  have hts := C.1.2.2.2.2
  have hl : lv_has ls 4 [(0, .ref (ad b)), (1, .int v1), (2, .int v2), (3, .int v3)] := hl
  have bk_39 : ∀ (t0_39 : Int32) (y : Int32), f_X1_couldBeStep_39 b t0_39 σ = some y → (fun y => y = r0) y → ∀ (H : Heap) (locs : List Loc) (ls : Array Slot), HS D aI aL 42 shX ad σ s H locs → lv_has ls 4 [] → W p l e (RM 1 21) s m args below meth c H locs 0 0 (MQ below (Qi D aI aL 42 shX ad r0 σ s.heap.size) args s 0 0 (AA ad 42 s.heap.size)) (F0 m 39 ls [.int t0_39]) := by
    intro t0_39 y h hK H locs ls hP hl
    unfold f_X1_couldBeStep_39 at h
    obtain ⟨x2, hx2, h⟩ := bnd h
    obtain rfl := Option.some.inj h
    have hK : (x2 : Int32) = r0 := hK
    exact w_zret C hlk hr hP hx2 hK rfl dX1_couldBeStep_39
  have bk_38 : ∀ (y : Int32), f_X1_couldBeStep_38 b σ = some y → (fun y => y = r0) y → ∀ (H : Heap) (locs : List Loc) (ls : Array Slot), HS D aI aL 42 shX ad σ s H locs → lv_has ls 4 [] → W p l e (RM 1 21) s m args below meth c H locs 0 0 (MQ below (Qi D aI aL 42 shX ad r0 σ s.heap.size) args s 0 0 (AA ad 42 s.heap.size)) (F0 m 38 ls []) := by
    intro y h hK H locs ls hP hl
    unfold f_X1_couldBeStep_38 at h
    refine lv_iconst (v := 0) hx hb_ dX1_couldBeStep_38 (by decide) ?_
    exact bk_39 0 y h hK _ _ _ hP (lv_sub hl [] rfl)
  have bk : ∀ (y : Int32), f_X1_couldBeStep b v1 v2 v3 σ = some y → y = r0 → ∀ (H : Heap) (locs : List Loc), HS D aI aL 42 shX ad σ s H locs → W p l e (RM 1 21) s m args below meth c H locs 0 0 (MQ below (Qi D aI aL 42 shX ad r0 σ s.heap.size) args s 0 0 (AA ad 42 s.heap.size)) (F0 m 0 ls []) := by
    intro y h hK H locs hP
    unfold f_X1_couldBeStep at h
    refine lv_aload_n hx hb_ dX1_couldBeStep_0 rfl (lv_at hl 0 rfl) ?_
    refine lv_iload_n hx hb_ dX1_couldBeStep_1 rfl (lv_at hl 1 rfl) ?_
    obtain ⟨q1, hq1, h⟩ := bnd h
    refine w_ci (w_rV (As := [.int v1]) (rest := []) C hP (k := b) (c_X1_hasStone l D aI aL ad inj _ σ b hb v1 q1 hq1) (gV wt250 wt251 wt252 wt4 wt253) 1 hd_X1_hasStone ⟨Nat.le_of_ble_eq_true rfl, Nat.le_of_ble_eq_true rfl⟩ (fl_l0 hb) 0 (fl_sh hb) rfl rfl hl.1 rfl (Nat.le_of_ble_eq_true rfl) dX1_couldBeStep_2) hP (fun H locs hP => ?_)
    refine lv_if_eq (tgt := 38) hx hb_ dX1_couldBeStep_5 (by decide) (fun hc => ?_) (fun hc => ?_)
    · replace h := ift h hc
      exact bk_38 y h hK _ _ _ hP (lv_sub hl [] rfl)
    · replace h := iff' h hc
      refine lv_aload_n hx hb_ dX1_couldBeStep_8 rfl (lv_at hl 0 rfl) ?_
      refine lv_iload_n hx hb_ dX1_couldBeStep_9 rfl (lv_at hl 2 rfl) ?_
      obtain ⟨q3, hq3, h⟩ := bnd h
      refine w_ci (w_rV (As := [.int v2]) (rest := []) C hP (k := b) (c_X1_hasStone l D aI aL ad inj _ σ b hb v2 q3 hq3) (gV wt250 wt251 wt252 wt4 wt253) 1 hd_X1_hasStone ⟨Nat.le_of_ble_eq_true rfl, Nat.le_of_ble_eq_true rfl⟩ (fl_l0 hb) 0 (fl_sh hb) rfl rfl hl.1 rfl (Nat.le_of_ble_eq_true rfl) dX1_couldBeStep_10) hP (fun H locs hP => ?_)
      refine lv_if_eq (tgt := 38) hx hb_ dX1_couldBeStep_13 (by decide) (fun hc => ?_) (fun hc => ?_)
      · replace h := ift h hc
        exact bk_38 y h hK _ _ _ hP (lv_sub hl [] rfl)
      · replace h := iff' h hc
        refine lv_aload_n hx hb_ dX1_couldBeStep_16 rfl (lv_at hl 0 rfl) ?_
        refine lv_iload_n hx hb_ dX1_couldBeStep_17 rfl (lv_at hl 3 rfl) ?_
        obtain ⟨q4, hq4, h⟩ := bnd h
        refine w_ci (w_rV (As := [.int v3]) (rest := []) C hP (k := b) (c_X1_hasStone l D aI aL ad inj _ σ b hb v3 q4 hq4) (gV wt250 wt251 wt252 wt4 wt253) 1 hd_X1_hasStone ⟨Nat.le_of_ble_eq_true rfl, Nat.le_of_ble_eq_true rfl⟩ (fl_l0 hb) 0 (fl_sh hb) rfl rfl hl.1 rfl (Nat.le_of_ble_eq_true rfl) dX1_couldBeStep_18) hP (fun H locs hP => ?_)
        refine lv_if_eq (tgt := 38) hx hb_ dX1_couldBeStep_21 (by decide) (fun hc => ?_) (fun hc => ?_)
        · replace h := ift h hc
          exact bk_38 y h hK _ _ _ hP (lv_sub hl [] rfl)
        · replace h := iff' h hc
          refine lv_iload_n hx hb_ dX1_couldBeStep_24 rfl (lv_at hl 3 rfl) ?_
          refine lv_iload_n hx hb_ dX1_couldBeStep_25 rfl (lv_at hl 1 rfl) ?_
          refine lv_icmp_eq (tgt := 38) hx hb_ dX1_couldBeStep_26 (by decide) (fun hc => ?_) (fun hc => ?_)
          · replace h := ift h hc
            exact bk_38 y h hK _ _ _ hP (lv_sub hl [] rfl)
          · replace h := iff' h hc
            refine lv_iload_n hx hb_ dX1_couldBeStep_29 rfl (lv_at hl 3 rfl) ?_
            refine lv_iload_n hx hb_ dX1_couldBeStep_30 rfl (lv_at hl 2 rfl) ?_
            refine lv_icmp_eq (tgt := 38) hx hb_ dX1_couldBeStep_31 (by decide) (fun hc => ?_) (fun hc => ?_)
            · replace h := ift h hc
              exact bk_38 y h hK _ _ _ hP (lv_sub hl [] rfl)
            · replace h := iff' h hc
              refine lv_iconst (v := 1) hx hb_ dX1_couldBeStep_34 (by decide) ?_
              refine lv_goto (tgt := 39) hx hb_ dX1_couldBeStep_35 (by decide) ?_
              exact bk_39 1 y h hK _ _ _ hP (lv_sub hl [] rfl)
  exact bk r0 hf rfl _ _ hP
theorem hd_X8_put : yX8_put.cls = RX8 ∧ yX8_put.cls ≠ "java/lang/invoke/MethodHandle" ∧ yX8_put.cls ≠ "java/lang/invoke/VarHandle" ∧ (parseMethodDescriptor yX8_put.desc).map (fun d => d.parameters.length) = some 3 := by decide +kernel
set_option maxHeartbeats 4000000 in
set_option maxRecDepth 100000 in
theorem c_X8_put (l : Launch) (D : va_G) (aI aL : ClassId) (ad : Nat → Nat) (inj : Inj ad 42) (sz : Nat) (σ : Sg) (k1 n1 : Nat) (hk1 : k1 < 42) (gk1 : shX k1 = (0, n1, [])) (v1 : Int32) (v2 : Int32) (r0 : Sg) (hf : f_X8_put k1 n1 v1 v2 σ = some r0) : Met l yX8_put (wS yX8_put cX8_put 3 (none : Option Jvm.ClassFile.FieldType)) (RM 0 0) (Pw D aI aL 42 shX ad sz σ [.ref (ad k1), .int v1, .int v2]) (Qv D aI aL 42 shX ad r0 sz) 0 0 (AA ad 42 sz) := by
  refine Mof (Qc := Qv D aI aL 42 shX ad r0) (by decide) inj (Nat.le_of_ble_eq_true rfl) ?_
  intro p e s m args below meth c ls C hlk hr hP hl
  have hx := C.1.1
  have hb_ := C.1.2.1
  have hown := C.1.2.2.2.1
  have hts := C.1.2.2.2.2
  have hl : lv_has ls 3 [(0, .ref (ad k1)), (1, .int v1), (2, .int v2)] := hl
  have bk_14 : ∀ (s_14 : Sg) (y : Sg), f_X8_put_14 k1 n1 s_14 = some y → (fun y => y = r0) y → ∀ (H : Heap) (locs : List Loc) (ls : Array Slot), HS D aI aL 42 shX ad s_14 s H locs → lv_has ls 3 [] → W p l e (RM 0 0) s m args below meth c H locs 0 0 (MQ below (Qv D aI aL 42 shX ad r0 s.heap.size) args s 0 0 (AA ad 42 s.heap.size)) (F0 m 14 ls []) := by
    intro s_14 y h hK H locs ls hP hl
    unfold f_X8_put_14 at h
    obtain rfl := Option.some.inj h
    have hK : s_14 = r0 := hK
    exact w_vret C hlk hr hP hK dX8_put_14
  have bk : ∀ (y : Sg), f_X8_put k1 n1 v1 v2 σ = some y → y = r0 → ∀ (H : Heap) (locs : List Loc), HS D aI aL 42 shX ad σ s H locs → W p l e (RM 0 0) s m args below meth c H locs 0 0 (MQ below (Qv D aI aL 42 shX ad r0 s.heap.size) args s 0 0 (AA ad 42 s.heap.size)) (F0 m 0 ls []) := by
    intro y h hK H locs hP
    unfold f_X8_put at h
    refine lv_iload_n hx hb_ dX8_put_0 rfl (lv_at hl 1 rfl) ?_
    refine lv_if_lt (tgt := 14) hx hb_ dX8_put_1 (by decide) (fun hc => ?_) (fun hc => ?_)
    · replace h := ift h hc
      exact bk_14 σ y h hK _ _ _ hP (lv_sub hl [] rfl)
    · replace h := iff' h hc
      refine lv_iload_n hx hb_ dX8_put_4 rfl (lv_at hl 1 rfl) ?_
      refine lv_aload_n hx hb_ dX8_put_5 rfl (lv_at hl 0 rfl) ?_
      refine w_alen C hP (k := k1) hk1 (n := n1) gk1 dX8_put_6 ?_
      refine lv_icmp_ge (tgt := 14) hx hb_ dX8_put_7 (by decide) (fun hc => ?_) (fun hc => ?_)
      · replace h := ift h hc
        exact bk_14 σ y h hK _ _ _ hP (lv_sub hl [] rfl)
      · replace h := iff' h hc
        refine lv_aload_n hx hb_ dX8_put_10 rfl (lv_at hl 0 rfl) ?_
        refine lv_iload_n hx hb_ dX8_put_11 rfl (lv_at hl 1 rfl) ?_
        refine lv_iload_n hx hb_ dX8_put_12 rfl (lv_at hl 2 rfl) ?_
        obtain ⟨s1, hs1, h⟩ := bnd h
        refine w_ast C hP (k := k1) hk1 (n := n1) gk1 hs1 dX8_put_13 (fun H locs hP => ?_)
        exact bk_14 s1 y h hK _ _ _ hP (lv_sub hl [] rfl)
  exact bk r0 hf rfl _ _ hP
theorem hd_X1_addStep : yX1_addStep.cls = RX1 ∧ yX1_addStep.cls ≠ "java/lang/invoke/MethodHandle" ∧ yX1_addStep.cls ≠ "java/lang/invoke/VarHandle" ∧ (parseMethodDescriptor yX1_addStep.desc).map (fun d => d.parameters.length) = some 3 := by decide +kernel
set_option maxHeartbeats 4000000 in
set_option maxRecDepth 100000 in
theorem c_X1_addStep (l : Launch) (D : va_G) (aI aL : ClassId) (ad : Nat → Nat) (inj : Inj ad 42) (sz : Nat) (σ : Sg) (b : Nat) (hb : isFl b) (v1 : Int32) (v2 : Int32) (v3 : Int32) (r0 : (Int32 × Sg)) (hf : f_X1_addStep b v1 v2 v3 σ = some r0) : Met l yX1_addStep (wS yX1_addStep cX1_addStep 4 (some .boolean)) (RM 2 44) (Pw D aI aL 42 shX ad sz σ [.ref (ad b), .int v1, .int v2, .int v3]) (Qi D aI aL 42 shX ad r0.1 r0.2 sz) 0 0 (AA ad 42 sz) := by
  refine Mof (Qc := Qi D aI aL 42 shX ad r0.1 r0.2) (by decide) inj (Nat.le_of_ble_eq_true rfl) ?_
  intro p e s m args below meth c ls C hlk hr hP hl
  have hx := C.1.1
  have hb_ := C.1.2.1
  have hown := C.1.2.2.2.1
  have hts := C.1.2.2.2.2
  have hl : lv_has ls 4 [(0, .ref (ad b)), (1, .int v1), (2, .int v2), (3, .int v3)] := hl
  have bk_19 : ∀ (s_19 : Sg) (y : (Int32 × Sg)), f_X1_addStep_19 b s_19 = some y → (fun y => y = r0) y → ∀ (H : Heap) (locs : List Loc) (ls : Array Slot), HS D aI aL 42 shX ad s_19 s H locs → lv_has ls 4 [] → W p l e (RM 2 44) s m args below meth c H locs 0 0 (MQ below (Qi D aI aL 42 shX ad r0.1 r0.2 s.heap.size) args s 0 0 (AA ad 42 s.heap.size)) (F0 m 19 ls []) := by
    intro s_19 y h hK H locs ls hP hl
    unfold f_X1_addStep_19 at h
    refine lv_iconst (v := 0) hx hb_ dX1_addStep_19 (by decide) ?_
    obtain ⟨x2, hx2, h⟩ := bnd h
    obtain rfl := Option.some.inj h
    have hK : (x2, s_19) = r0 := hK
    have hK1 := congrArg Prod.fst hK
    have hK2 := congrArg Prod.snd hK
    exact w_zret C hlk hr hP hx2 hK1 hK2 dX1_addStep_20
  have bk : ∀ (y : (Int32 × Sg)), f_X1_addStep b v1 v2 v3 σ = some y → y = r0 → ∀ (H : Heap) (locs : List Loc), HS D aI aL 42 shX ad σ s H locs → W p l e (RM 2 44) s m args below meth c H locs 0 0 (MQ below (Qi D aI aL 42 shX ad r0.1 r0.2 s.heap.size) args s 0 0 (AA ad 42 s.heap.size)) (F0 m 0 ls []) := by
    intro y h hK H locs hP
    unfold f_X1_addStep at h
    refine lv_aload_n hx hb_ dX1_addStep_0 rfl (lv_at hl 0 rfl) ?_
    refine lv_iload_n hx hb_ dX1_addStep_1 rfl (lv_at hl 1 rfl) ?_
    refine lv_iload_n hx hb_ dX1_addStep_2 rfl (lv_at hl 2 rfl) ?_
    refine lv_iload_n hx hb_ dX1_addStep_3 rfl (lv_at hl 3 rfl) ?_
    obtain ⟨q1, hq1, h⟩ := bnd h
    refine w_ci (w_rV (As := [.int v1, .int v2, .int v3]) (rest := []) C hP (k := b) (c_X1_couldBeStep l D aI aL ad inj _ σ b hb v1 v2 v3 q1 hq1) (gV wt258 wt259 wt260 wt4 wt261) 3 hd_X1_couldBeStep ⟨Nat.le_of_ble_eq_true rfl, Nat.le_of_ble_eq_true rfl⟩ (fl_l0 hb) 0 (fl_sh hb) rfl rfl hl.1 rfl (Nat.le_of_ble_eq_true rfl) dX1_addStep_4) hP (fun H locs hP => ?_)
    refine lv_if_eq (tgt := 19) hx hb_ dX1_addStep_7 (by decide) (fun hc => ?_) (fun hc => ?_)
    · replace h := ift h hc
      exact bk_19 σ y h hK _ _ _ hP (lv_sub hl [] rfl)
    · replace h := iff' h hc
      refine lv_aload_n hx hb_ dX1_addStep_10 rfl (lv_at hl 0 rfl) ?_
      refine w_get C hP (k := b) (fl_l0 hb) 0 (fl_sh hb) rfl inWX1 7 (by decide) wt64 (v := .int (σ.1 b 7)) rfl dX1_addStep_11 ?_
      refine lv_bipush (v := 10) hx hb_ dX1_addStep_14 (by decide) ?_
      refine lv_icmp_lt (tgt := 21) hx hb_ dX1_addStep_16 (by decide) (fun hc => ?_) (fun hc => ?_)
      · replace h := ift h hc
        refine lv_aload_n hx hb_ dX1_addStep_21 rfl (lv_at hl 0 rfl) ?_
        refine w_get C hP (k := b) (fl_l0 hb) 0 (fl_sh hb) rfl inWX1 0 (by decide) wt57 (v := .ref (ad (b + 1))) rfl dX1_addStep_22 ?_
        refine lv_aload_n hx hb_ dX1_addStep_25 rfl (lv_at hl 0 rfl) ?_
        refine w_get C hP (k := b) (fl_l0 hb) 0 (fl_sh hb) rfl inWX1 7 (by decide) wt64 (v := .int (σ.1 b 7)) rfl dX1_addStep_26 ?_
        refine lv_iload_n hx hb_ dX1_addStep_29 rfl (lv_at hl 1 rfl) ?_
        obtain ⟨q3, hq3, h⟩ := bnd h
        refine w_cv (w_rN (As := [.ref (ad (b + 1)), .int (σ.1 b 7), .int v1]) (rest := []) C hP (c_X8_put l D aI aL ad inj _ σ (b + 1) 10 (fl_l1 hb) (fl_a1 hb) (σ.1 b 7) v1 q3 hq3) nw11 wt191 wt1 wt192 3 hd_X8_put ⟨Nat.le_of_ble_eq_true rfl, Nat.le_of_ble_eq_true rfl⟩ rfl hl.1 rfl (Nat.le_of_ble_eq_true rfl) dX1_addStep_30) hP (fun H locs hP => ?_)
        refine lv_aload_n hx hb_ dX1_addStep_33 rfl (lv_at hl 0 rfl) ?_
        refine w_get C hP (k := b) (fl_l0 hb) 0 (fl_sh hb) rfl inWX1 1 (by decide) wt58 (v := .ref (ad (b + 2))) rfl dX1_addStep_34 ?_
        refine lv_aload_n hx hb_ dX1_addStep_37 rfl (lv_at hl 0 rfl) ?_
        refine w_get C hP (k := b) (fl_l0 hb) 0 (fl_sh hb) rfl inWX1 7 (by decide) wt64 (v := .int (q3.1 b 7)) rfl dX1_addStep_38 ?_
        refine lv_iload_n hx hb_ dX1_addStep_41 rfl (lv_at hl 2 rfl) ?_
        obtain ⟨q4, hq4, h⟩ := bnd h
        refine w_cv (w_rN (As := [.ref (ad (b + 2)), .int (q3.1 b 7), .int v2]) (rest := []) C hP (c_X8_put l D aI aL ad inj _ q3 (b + 2) 10 (fl_l2 hb) (fl_a2 hb) (q3.1 b 7) v2 q4 hq4) nw11 wt191 wt1 wt192 3 hd_X8_put ⟨Nat.le_of_ble_eq_true rfl, Nat.le_of_ble_eq_true rfl⟩ rfl hl.1 rfl (Nat.le_of_ble_eq_true rfl) dX1_addStep_42) hP (fun H locs hP => ?_)
        refine lv_aload_n hx hb_ dX1_addStep_45 rfl (lv_at hl 0 rfl) ?_
        refine w_get C hP (k := b) (fl_l0 hb) 0 (fl_sh hb) rfl inWX1 2 (by decide) wt59 (v := .ref (ad (b + 3))) rfl dX1_addStep_46 ?_
        refine lv_aload_n hx hb_ dX1_addStep_49 rfl (lv_at hl 0 rfl) ?_
        refine w_get C hP (k := b) (fl_l0 hb) 0 (fl_sh hb) rfl inWX1 7 (by decide) wt64 (v := .int (q4.1 b 7)) rfl dX1_addStep_50 ?_
        refine lv_iload_n hx hb_ dX1_addStep_53 rfl (lv_at hl 3 rfl) ?_
        obtain ⟨q5, hq5, h⟩ := bnd h
        refine w_cv (w_rN (As := [.ref (ad (b + 3)), .int (q4.1 b 7), .int v3]) (rest := []) C hP (c_X8_put l D aI aL ad inj _ q4 (b + 3) 10 (fl_l3 hb) (fl_a3 hb) (q4.1 b 7) v3 q5 hq5) nw11 wt191 wt1 wt192 3 hd_X8_put ⟨Nat.le_of_ble_eq_true rfl, Nat.le_of_ble_eq_true rfl⟩ rfl hl.1 rfl (Nat.le_of_ble_eq_true rfl) dX1_addStep_54) hP (fun H locs hP => ?_)
        refine lv_aload_n hx hb_ dX1_addStep_57 rfl (lv_at hl 0 rfl) ?_
        refine w_get C hP (k := b) (fl_l0 hb) 0 (fl_sh hb) rfl inWX1 3 (by decide) wt60 (v := .ref (ad (b + 4))) rfl dX1_addStep_58 ?_
        refine lv_aload_n hx hb_ dX1_addStep_61 rfl (lv_at hl 0 rfl) ?_
        refine w_get C hP (k := b) (fl_l0 hb) 0 (fl_sh hb) rfl inWX1 7 (by decide) wt64 (v := .int (q5.1 b 7)) rfl dX1_addStep_62 ?_
        refine lv_iconst (v := 1) hx hb_ dX1_addStep_65 (by decide) ?_
        refine lv_iload_n hx hb_ dX1_addStep_66 rfl (lv_at hl 1 rfl) ?_
        refine lv_ishl hx hb_ dX1_addStep_67 ?_
        refine lv_iconst (v := 1) hx hb_ dX1_addStep_68 (by decide) ?_
        refine lv_iload_n hx hb_ dX1_addStep_69 rfl (lv_at hl 2 rfl) ?_
        refine lv_ishl hx hb_ dX1_addStep_70 ?_
        refine lv_ior hx hb_ dX1_addStep_71 ?_
        obtain ⟨q6, hq6, h⟩ := bnd h
        refine w_cv (w_rN (As := [.ref (ad (b + 4)), .int (q5.1 b 7), .int (((1 : Int32) <<< (v1 &&& 31)) ||| ((1 : Int32) <<< (v2 &&& 31)))]) (rest := []) C hP (c_X8_put l D aI aL ad inj _ q5 (b + 4) 10 (fl_l4 hb) (fl_a4 hb) (q5.1 b 7) (((1 : Int32) <<< (v1 &&& 31)) ||| ((1 : Int32) <<< (v2 &&& 31))) q6 hq6) nw11 wt191 wt1 wt192 3 hd_X8_put ⟨Nat.le_of_ble_eq_true rfl, Nat.le_of_ble_eq_true rfl⟩ rfl hl.1 rfl (Nat.le_of_ble_eq_true rfl) dX1_addStep_72) hP (fun H locs hP => ?_)
        refine lv_aload_n hx hb_ dX1_addStep_75 rfl (lv_at hl 0 rfl) ?_
        refine lv_dup hx hb_ dX1_addStep_76 rfl ?_
        refine w_get C hP (k := b) (fl_l0 hb) 0 (fl_sh hb) rfl inWX1 7 (by decide) wt64 (v := .int (q6.1 b 7)) rfl dX1_addStep_77 ?_
        refine lv_iconst (v := 1) hx hb_ dX1_addStep_80 (by decide) ?_
        refine lv_iadd hx hb_ dX1_addStep_81 ?_
        obtain ⟨s7, hs7, h⟩ := bnd h
        refine w_puti C hP (k := b) (fl_l0 hb) 0 (fl_sh hb) rfl inWX1 tyX1 tyX1_ok nmX1 7 (by decide) wt64 rfl rfl rfl rfl hs7 dX1_addStep_82 (fun H locs hP => ?_)
        refine lv_iconst (v := 1) hx hb_ dX1_addStep_85 (by decide) ?_
        obtain ⟨x8, hx8, h⟩ := bnd h
        obtain rfl := Option.some.inj h
        have hK : (x8, s7) = r0 := hK
        have hK1 := congrArg Prod.fst hK
        have hK2 := congrArg Prod.snd hK
        exact w_zret C hlk hr hP hx8 hK1 hK2 dX1_addStep_86
      · replace h := iff' h hc
        exact bk_19 σ y h hK _ _ _ hP (lv_sub hl [] rfl)
  exact bk r0 hf rfl _ _ hP
theorem hd_X1_setGainsay : yX1_setGainsay.cls = RX1 ∧ yX1_setGainsay.cls ≠ "java/lang/invoke/MethodHandle" ∧ yX1_setGainsay.cls ≠ "java/lang/invoke/VarHandle" ∧ (parseMethodDescriptor yX1_setGainsay.desc).map (fun d => d.parameters.length) = some 2 := by decide +kernel
set_option maxHeartbeats 4000000 in
set_option maxRecDepth 100000 in
theorem c_X1_setGainsay (l : Launch) (D : va_G) (aI aL : ClassId) (ad : Nat → Nat) (inj : Inj ad 42) (sz : Nat) (σ : Sg) (b : Nat) (hb : isFl b) (v1 : Int32) (v2 : Int32) (r0 : (Int32 × Sg)) (hf : f_X1_setGainsay b v1 v2 σ = some r0) : Met l yX1_setGainsay (wS yX1_setGainsay cX1_setGainsay 3 (some .boolean)) (RM 1 22) (Pw D aI aL 42 shX ad sz σ [.ref (ad b), .int v1, .int v2]) (Qi D aI aL 42 shX ad r0.1 r0.2 sz) 0 0 (AA ad 42 sz) := by
  refine Mof (Qc := Qi D aI aL 42 shX ad r0.1 r0.2) (by decide) inj (Nat.le_of_ble_eq_true rfl) ?_
  intro p e s m args below meth c ls C hlk hr hP hl
  have hx := C.1.1
  have hb_ := C.1.2.1
  have hown := C.1.2.2.2.1
  have hts := C.1.2.2.2.2
  have hl : lv_has ls 3 [(0, .ref (ad b)), (1, .int v1), (2, .int v2)] := hl
  have bk_21 : ∀ (s_21 : Sg) (y : (Int32 × Sg)), f_X1_setGainsay_21 b s_21 = some y → (fun y => y = r0) y → ∀ (H : Heap) (locs : List Loc) (ls : Array Slot), HS D aI aL 42 shX ad s_21 s H locs → lv_has ls 3 [] → W p l e (RM 1 22) s m args below meth c H locs 0 0 (MQ below (Qi D aI aL 42 shX ad r0.1 r0.2 s.heap.size) args s 0 0 (AA ad 42 s.heap.size)) (F0 m 21 ls []) := by
    intro s_21 y h hK H locs ls hP hl
    unfold f_X1_setGainsay_21 at h
    refine lv_iconst (v := 0) hx hb_ dX1_setGainsay_21 (by decide) ?_
    obtain ⟨x2, hx2, h⟩ := bnd h
    obtain rfl := Option.some.inj h
    have hK : (x2, s_21) = r0 := hK
    have hK1 := congrArg Prod.fst hK
    have hK2 := congrArg Prod.snd hK
    exact w_zret C hlk hr hP hx2 hK1 hK2 dX1_setGainsay_22
  have bk : ∀ (y : (Int32 × Sg)), f_X1_setGainsay b v1 v2 σ = some y → y = r0 → ∀ (H : Heap) (locs : List Loc), HS D aI aL 42 shX ad σ s H locs → W p l e (RM 1 22) s m args below meth c H locs 0 0 (MQ below (Qi D aI aL 42 shX ad r0.1 r0.2 s.heap.size) args s 0 0 (AA ad 42 s.heap.size)) (F0 m 0 ls []) := by
    intro y h hK H locs hP
    unfold f_X1_setGainsay at h
    refine lv_aload_n hx hb_ dX1_setGainsay_0 rfl (lv_at hl 0 rfl) ?_
    refine lv_iload_n hx hb_ dX1_setGainsay_1 rfl (lv_at hl 1 rfl) ?_
    obtain ⟨q1, hq1, h⟩ := bnd h
    refine w_ci (w_rV (As := [.int v1]) (rest := []) C hP (k := b) (c_X1_hasStone l D aI aL ad inj _ σ b hb v1 q1 hq1) (gV wt250 wt251 wt252 wt4 wt253) 1 hd_X1_hasStone ⟨Nat.le_of_ble_eq_true rfl, Nat.le_of_ble_eq_true rfl⟩ (fl_l0 hb) 0 (fl_sh hb) rfl rfl hl.1 rfl (Nat.le_of_ble_eq_true rfl) dX1_setGainsay_2) hP (fun H locs hP => ?_)
    refine lv_if_eq (tgt := 21) hx hb_ dX1_setGainsay_5 (by decide) (fun hc => ?_) (fun hc => ?_)
    · replace h := ift h hc
      exact bk_21 σ y h hK _ _ _ hP (lv_sub hl [] rfl)
    · replace h := iff' h hc
      refine lv_aload_n hx hb_ dX1_setGainsay_8 rfl (lv_at hl 0 rfl) ?_
      refine lv_iload_n hx hb_ dX1_setGainsay_9 rfl (lv_at hl 2 rfl) ?_
      obtain ⟨q3, hq3, h⟩ := bnd h
      refine w_ci (w_rV (As := [.int v2]) (rest := []) C hP (k := b) (c_X1_hasStone l D aI aL ad inj _ σ b hb v2 q3 hq3) (gV wt250 wt251 wt252 wt4 wt253) 1 hd_X1_hasStone ⟨Nat.le_of_ble_eq_true rfl, Nat.le_of_ble_eq_true rfl⟩ (fl_l0 hb) 0 (fl_sh hb) rfl rfl hl.1 rfl (Nat.le_of_ble_eq_true rfl) dX1_setGainsay_10) hP (fun H locs hP => ?_)
      refine lv_if_eq (tgt := 21) hx hb_ dX1_setGainsay_13 (by decide) (fun hc => ?_) (fun hc => ?_)
      · replace h := ift h hc
        exact bk_21 σ y h hK _ _ _ hP (lv_sub hl [] rfl)
      · replace h := iff' h hc
        refine lv_iload_n hx hb_ dX1_setGainsay_16 rfl (lv_at hl 1 rfl) ?_
        refine lv_iload_n hx hb_ dX1_setGainsay_17 rfl (lv_at hl 2 rfl) ?_
        refine lv_icmp_ne (tgt := 23) hx hb_ dX1_setGainsay_18 (by decide) (fun hc => ?_) (fun hc => ?_)
        · replace h := iff' h hc
          refine lv_aload_n hx hb_ dX1_setGainsay_23 rfl (lv_at hl 0 rfl) ?_
          refine w_get C hP (k := b) (fl_l0 hb) 0 (fl_sh hb) rfl inWX1 4 (by decide) wt61 (v := .ref (ad (b + 5))) rfl dX1_setGainsay_24 ?_
          refine lv_iload_n hx hb_ dX1_setGainsay_27 rfl (lv_at hl 1 rfl) ?_
          refine lv_aload_n hx hb_ dX1_setGainsay_28 rfl (lv_at hl 0 rfl) ?_
          refine w_get C hP (k := b) (fl_l0 hb) 0 (fl_sh hb) rfl inWX1 4 (by decide) wt61 (v := .ref (ad (b + 5))) rfl dX1_setGainsay_29 ?_
          refine lv_iload_n hx hb_ dX1_setGainsay_32 rfl (lv_at hl 1 rfl) ?_
          obtain ⟨q4, hq4, h⟩ := bnd h
          refine w_ci (w_rN (As := [.ref (ad (b + 5)), .int v1]) (rest := [.int v1, .ref (ad (b + 5))]) C hP (c_X8_at l D aI aL ad inj _ σ (b + 5) 10 (fl_l5 hb) (fl_a5 hb) v1 q4 hq4) nw12 wt225 wt1 wt226 2 hd_X8_at ⟨Nat.le_of_ble_eq_true rfl, Nat.le_of_ble_eq_true rfl⟩ rfl hl.1 rfl (Nat.le_of_ble_eq_true rfl) dX1_setGainsay_33) hP (fun H locs hP => ?_)
          refine lv_iconst (v := 1) hx hb_ dX1_setGainsay_36 (by decide) ?_
          refine lv_iload_n hx hb_ dX1_setGainsay_37 rfl (lv_at hl 2 rfl) ?_
          refine lv_ishl hx hb_ dX1_setGainsay_38 ?_
          refine lv_ior hx hb_ dX1_setGainsay_39 ?_
          obtain ⟨q5, hq5, h⟩ := bnd h
          refine w_cv (w_rN (As := [.ref (ad (b + 5)), .int v1, .int (q4 ||| ((1 : Int32) <<< (v2 &&& 31)))]) (rest := []) C hP (c_X8_put l D aI aL ad inj _ σ (b + 5) 10 (fl_l5 hb) (fl_a5 hb) v1 (q4 ||| ((1 : Int32) <<< (v2 &&& 31))) q5 hq5) nw11 wt191 wt1 wt192 3 hd_X8_put ⟨Nat.le_of_ble_eq_true rfl, Nat.le_of_ble_eq_true rfl⟩ rfl hl.1 rfl (Nat.le_of_ble_eq_true rfl) dX1_setGainsay_40) hP (fun H locs hP => ?_)
          refine lv_aload_n hx hb_ dX1_setGainsay_43 rfl (lv_at hl 0 rfl) ?_
          refine w_get C hP (k := b) (fl_l0 hb) 0 (fl_sh hb) rfl inWX1 4 (by decide) wt61 (v := .ref (ad (b + 5))) rfl dX1_setGainsay_44 ?_
          refine lv_iload_n hx hb_ dX1_setGainsay_47 rfl (lv_at hl 2 rfl) ?_
          refine lv_aload_n hx hb_ dX1_setGainsay_48 rfl (lv_at hl 0 rfl) ?_
          refine w_get C hP (k := b) (fl_l0 hb) 0 (fl_sh hb) rfl inWX1 4 (by decide) wt61 (v := .ref (ad (b + 5))) rfl dX1_setGainsay_49 ?_
          refine lv_iload_n hx hb_ dX1_setGainsay_52 rfl (lv_at hl 2 rfl) ?_
          obtain ⟨q6, hq6, h⟩ := bnd h
          refine w_ci (w_rN (As := [.ref (ad (b + 5)), .int v2]) (rest := [.int v2, .ref (ad (b + 5))]) C hP (c_X8_at l D aI aL ad inj _ q5 (b + 5) 10 (fl_l5 hb) (fl_a5 hb) v2 q6 hq6) nw12 wt225 wt1 wt226 2 hd_X8_at ⟨Nat.le_of_ble_eq_true rfl, Nat.le_of_ble_eq_true rfl⟩ rfl hl.1 rfl (Nat.le_of_ble_eq_true rfl) dX1_setGainsay_53) hP (fun H locs hP => ?_)
          refine lv_iconst (v := 1) hx hb_ dX1_setGainsay_56 (by decide) ?_
          refine lv_iload_n hx hb_ dX1_setGainsay_57 rfl (lv_at hl 1 rfl) ?_
          refine lv_ishl hx hb_ dX1_setGainsay_58 ?_
          refine lv_ior hx hb_ dX1_setGainsay_59 ?_
          obtain ⟨q7, hq7, h⟩ := bnd h
          refine w_cv (w_rN (As := [.ref (ad (b + 5)), .int v2, .int (q6 ||| ((1 : Int32) <<< (v1 &&& 31)))]) (rest := []) C hP (c_X8_put l D aI aL ad inj _ q5 (b + 5) 10 (fl_l5 hb) (fl_a5 hb) v2 (q6 ||| ((1 : Int32) <<< (v1 &&& 31))) q7 hq7) nw11 wt191 wt1 wt192 3 hd_X8_put ⟨Nat.le_of_ble_eq_true rfl, Nat.le_of_ble_eq_true rfl⟩ rfl hl.1 rfl (Nat.le_of_ble_eq_true rfl) dX1_setGainsay_60) hP (fun H locs hP => ?_)
          refine lv_iconst (v := 1) hx hb_ dX1_setGainsay_63 (by decide) ?_
          obtain ⟨x8, hx8, h⟩ := bnd h
          obtain rfl := Option.some.inj h
          have hK : (x8, q7) = r0 := hK
          have hK1 := congrArg Prod.fst hK
          have hK2 := congrArg Prod.snd hK
          exact w_zret C hlk hr hP hx8 hK1 hK2 dX1_setGainsay_64
        · replace h := ift h hc
          exact bk_21 σ y h hK _ _ _ hP (lv_sub hl [] rfl)
  exact bk r0 hf rfl _ _ hP
theorem hd_X1_setWear : yX1_setWear.cls = RX1 ∧ yX1_setWear.cls ≠ "java/lang/invoke/MethodHandle" ∧ yX1_setWear.cls ≠ "java/lang/invoke/VarHandle" ∧ (parseMethodDescriptor yX1_setWear.desc).map (fun d => d.parameters.length) = some 2 := by decide +kernel
set_option maxHeartbeats 4000000 in
set_option maxRecDepth 100000 in
theorem c_X1_setWear (l : Launch) (D : va_G) (aI aL : ClassId) (ad : Nat → Nat) (inj : Inj ad 42) (sz : Nat) (σ : Sg) (b : Nat) (hb : isFl b) (v1 : Int32) (v2 : Int32) (r0 : (Int32 × Sg)) (hf : f_X1_setWear b v1 v2 σ = some r0) : Met l yX1_setWear (wS yX1_setWear cX1_setWear 3 (some .boolean)) (RM 1 22) (Pw D aI aL 42 shX ad sz σ [.ref (ad b), .int v1, .int v2]) (Qi D aI aL 42 shX ad r0.1 r0.2 sz) 0 0 (AA ad 42 sz) := by
  refine Mof (Qc := Qi D aI aL 42 shX ad r0.1 r0.2) (by decide) inj (Nat.le_of_ble_eq_true rfl) ?_
  intro p e s m args below meth c ls C hlk hr hP hl
  have hx := C.1.1
  have hb_ := C.1.2.1
  have hown := C.1.2.2.2.1
  have hts := C.1.2.2.2.2
  have hl : lv_has ls 3 [(0, .ref (ad b)), (1, .int v1), (2, .int v2)] := hl
  have bk : ∀ (y : (Int32 × Sg)), f_X1_setWear b v1 v2 σ = some y → y = r0 → ∀ (H : Heap) (locs : List Loc), HS D aI aL 42 shX ad σ s H locs → W p l e (RM 1 22) s m args below meth c H locs 0 0 (MQ below (Qi D aI aL 42 shX ad r0.1 r0.2 s.heap.size) args s 0 0 (AA ad 42 s.heap.size)) (F0 m 0 ls []) := by
    intro y h hK H locs hP
    unfold f_X1_setWear at h
    refine lv_aload_n hx hb_ dX1_setWear_0 rfl (lv_at hl 0 rfl) ?_
    refine lv_iload_n hx hb_ dX1_setWear_1 rfl (lv_at hl 1 rfl) ?_
    obtain ⟨q1, hq1, h⟩ := bnd h
    refine w_ci (w_rV (As := [.int v1]) (rest := []) C hP (k := b) (c_X1_hasStone l D aI aL ad inj _ σ b hb v1 q1 hq1) (gV wt250 wt251 wt252 wt4 wt253) 1 hd_X1_hasStone ⟨Nat.le_of_ble_eq_true rfl, Nat.le_of_ble_eq_true rfl⟩ (fl_l0 hb) 0 (fl_sh hb) rfl rfl hl.1 rfl (Nat.le_of_ble_eq_true rfl) dX1_setWear_2) hP (fun H locs hP => ?_)
    refine lv_if_ne (tgt := 10) hx hb_ dX1_setWear_5 (by decide) (fun hc => ?_) (fun hc => ?_)
    · replace h := iff' h hc
      refine lv_aload_n hx hb_ dX1_setWear_10 rfl (lv_at hl 0 rfl) ?_
      refine w_get C hP (k := b) (fl_l0 hb) 0 (fl_sh hb) rfl inWX1 5 (by decide) wt62 (v := .ref (ad (b + 6))) rfl dX1_setWear_11 ?_
      refine lv_iload_n hx hb_ dX1_setWear_14 rfl (lv_at hl 1 rfl) ?_
      refine lv_iload_n hx hb_ dX1_setWear_15 rfl (lv_at hl 2 rfl) ?_
      obtain ⟨q2, hq2, h⟩ := bnd h
      refine w_cv (w_rN (As := [.ref (ad (b + 6)), .int v1, .int v2]) (rest := []) C hP (c_X8_put l D aI aL ad inj _ σ (b + 6) 10 (fl_l6 hb) (fl_a6 hb) v1 v2 q2 hq2) nw11 wt191 wt1 wt192 3 hd_X8_put ⟨Nat.le_of_ble_eq_true rfl, Nat.le_of_ble_eq_true rfl⟩ rfl hl.1 rfl (Nat.le_of_ble_eq_true rfl) dX1_setWear_16) hP (fun H locs hP => ?_)
      refine lv_iconst (v := 1) hx hb_ dX1_setWear_19 (by decide) ?_
      obtain ⟨x3, hx3, h⟩ := bnd h
      obtain rfl := Option.some.inj h
      have hK : (x3, q2) = r0 := hK
      have hK1 := congrArg Prod.fst hK
      have hK2 := congrArg Prod.snd hK
      exact w_zret C hlk hr hP hx3 hK1 hK2 dX1_setWear_20
    · replace h := ift h hc
      refine lv_iconst (v := 0) hx hb_ dX1_setWear_8 (by decide) ?_
      obtain ⟨x4, hx4, h⟩ := bnd h
      obtain rfl := Option.some.inj h
      have hK : (x4, σ) = r0 := hK
      have hK1 := congrArg Prod.fst hK
      have hK2 := congrArg Prod.snd hK
      exact w_zret C hlk hr hP hx4 hK1 hK2 dX1_setWear_9
  exact bk r0 hf rfl _ _ hP
theorem hd_X1_stepCount : yX1_stepCount.cls = RX1 ∧ yX1_stepCount.cls ≠ "java/lang/invoke/MethodHandle" ∧ yX1_stepCount.cls ≠ "java/lang/invoke/VarHandle" ∧ (parseMethodDescriptor yX1_stepCount.desc).map (fun d => d.parameters.length) = some 0 := by decide +kernel
set_option maxHeartbeats 4000000 in
set_option maxRecDepth 100000 in
theorem c_X1_stepCount (l : Launch) (D : va_G) (aI aL : ClassId) (ad : Nat → Nat) (inj : Inj ad 42) (sz : Nat) (σ : Sg) (b : Nat) (hb : isFl b) (r0 : Int32) (hf : f_X1_stepCount b σ = some r0) : Met l yX1_stepCount (wS yX1_stepCount cX1_stepCount 1 (some .int)) (RM 0 0) (Pw D aI aL 42 shX ad sz σ [.ref (ad b)]) (Qi D aI aL 42 shX ad r0 σ sz) 0 0 (AA ad 42 sz) := by
  refine Mof (Qc := Qi D aI aL 42 shX ad r0 σ) (by decide) inj (Nat.le_of_ble_eq_true rfl) ?_
  intro p e s m args below meth c ls C hlk hr hP hl
  have hx := C.1.1
  have hb_ := C.1.2.1
  have hown := C.1.2.2.2.1
  have hts := C.1.2.2.2.2
  have hl : lv_has ls 1 [(0, .ref (ad b))] := hl
  have bk : ∀ (y : Int32), f_X1_stepCount b σ = some y → y = r0 → ∀ (H : Heap) (locs : List Loc), HS D aI aL 42 shX ad σ s H locs → W p l e (RM 0 0) s m args below meth c H locs 0 0 (MQ below (Qi D aI aL 42 shX ad r0 σ s.heap.size) args s 0 0 (AA ad 42 s.heap.size)) (F0 m 0 ls []) := by
    intro y h hK H locs hP
    unfold f_X1_stepCount at h
    refine lv_aload_n hx hb_ dX1_stepCount_0 rfl (lv_at hl 0 rfl) ?_
    refine w_get C hP (k := b) (fl_l0 hb) 0 (fl_sh hb) rfl inWX1 7 (by decide) wt64 (v := .int (σ.1 b 7)) rfl dX1_stepCount_1 ?_
    obtain rfl := Option.some.inj h
    have hK : ((σ.1 b 7) : Int32) = r0 := hK
    exact w_iret C hlk hr hP hK rfl dX1_stepCount_4
  exact bk r0 hf rfl _ _ hP
theorem hd_X1_begins : yX1_begins.cls = RX1 ∧ yX1_begins.cls ≠ "java/lang/invoke/MethodHandle" ∧ yX1_begins.cls ≠ "java/lang/invoke/VarHandle" ∧ (parseMethodDescriptor yX1_begins.desc).map (fun d => d.parameters.length) = some 0 := by decide +kernel
set_option maxHeartbeats 4000000 in
set_option maxRecDepth 100000 in
theorem c_X1_begins (l : Launch) (D : va_G) (aI aL : ClassId) (ad : Nat → Nat) (inj : Inj ad 42) (sz : Nat) (σ : Sg) (b : Nat) (hb : isFl b) (r0 : Int32) (hf : f_X1_begins b σ = some r0) : Met l yX1_begins (wS yX1_begins cX1_begins 1 (some .int)) (RM 0 0) (Pw D aI aL 42 shX ad sz σ [.ref (ad b)]) (Qi D aI aL 42 shX ad r0 σ sz) 0 0 (AA ad 42 sz) := by
  refine Mof (Qc := Qi D aI aL 42 shX ad r0 σ) (by decide) inj (Nat.le_of_ble_eq_true rfl) ?_
  intro p e s m args below meth c ls C hlk hr hP hl
  have hx := C.1.1
  have hb_ := C.1.2.1
  have hown := C.1.2.2.2.1
  have hts := C.1.2.2.2.2
  have hl : lv_has ls 1 [(0, .ref (ad b))] := hl
  have bk : ∀ (y : Int32), f_X1_begins b σ = some y → y = r0 → ∀ (H : Heap) (locs : List Loc), HS D aI aL 42 shX ad σ s H locs → W p l e (RM 0 0) s m args below meth c H locs 0 0 (MQ below (Qi D aI aL 42 shX ad r0 σ s.heap.size) args s 0 0 (AA ad 42 s.heap.size)) (F0 m 0 ls []) := by
    intro y h hK H locs hP
    unfold f_X1_begins at h
    refine lv_aload_n hx hb_ dX1_begins_0 rfl (lv_at hl 0 rfl) ?_
    refine w_get C hP (k := b) (fl_l0 hb) 0 (fl_sh hb) rfl inWX1 8 (by decide) wt65 (v := .int (σ.1 b 8)) rfl dX1_begins_1 ?_
    obtain rfl := Option.some.inj h
    have hK : ((σ.1 b 8) : Int32) = r0 := hK
    exact w_iret C hlk hr hP hK rfl dX1_begins_4
  exact bk r0 hf rfl _ _ hP
theorem hd_X1_stood : yX1_stood.cls = RX1 ∧ yX1_stood.cls ≠ "java/lang/invoke/MethodHandle" ∧ yX1_stood.cls ≠ "java/lang/invoke/VarHandle" ∧ (parseMethodDescriptor yX1_stood.desc).map (fun d => d.parameters.length) = some 0 := by decide +kernel
set_option maxHeartbeats 4000000 in
set_option maxRecDepth 100000 in
theorem c_X1_stood (l : Launch) (D : va_G) (aI aL : ClassId) (ad : Nat → Nat) (inj : Inj ad 42) (sz : Nat) (σ : Sg) (b : Nat) (hb : isFl b) (r0 : Int32) (hf : f_X1_stood b σ = some r0) : Met l yX1_stood (wS yX1_stood cX1_stood 1 (some .int)) (RM 0 0) (Pw D aI aL 42 shX ad sz σ [.ref (ad b)]) (Qi D aI aL 42 shX ad r0 σ sz) 0 0 (AA ad 42 sz) := by
  refine Mof (Qc := Qi D aI aL 42 shX ad r0 σ) (by decide) inj (Nat.le_of_ble_eq_true rfl) ?_
  intro p e s m args below meth c ls C hlk hr hP hl
  have hx := C.1.1
  have hb_ := C.1.2.1
  have hown := C.1.2.2.2.1
  have hts := C.1.2.2.2.2
  have hl : lv_has ls 1 [(0, .ref (ad b))] := hl
  have bk : ∀ (y : Int32), f_X1_stood b σ = some y → y = r0 → ∀ (H : Heap) (locs : List Loc), HS D aI aL 42 shX ad σ s H locs → W p l e (RM 0 0) s m args below meth c H locs 0 0 (MQ below (Qi D aI aL 42 shX ad r0 σ s.heap.size) args s 0 0 (AA ad 42 s.heap.size)) (F0 m 0 ls []) := by
    intro y h hK H locs hP
    unfold f_X1_stood at h
    refine lv_aload_n hx hb_ dX1_stood_0 rfl (lv_at hl 0 rfl) ?_
    refine w_get C hP (k := b) (fl_l0 hb) 0 (fl_sh hb) rfl inWX1 10 (by decide) wt67 (v := .int (σ.1 b 10)) rfl dX1_stood_1 ?_
    obtain rfl := Option.some.inj h
    have hK : ((σ.1 b 10) : Int32) = r0 := hK
    exact w_iret C hlk hr hP hK rfl dX1_stood_4
  exact bk r0 hf rfl _ _ hP
theorem hd_X1_isThere : yX1_isThere.cls = RX1 ∧ yX1_isThere.cls ≠ "java/lang/invoke/MethodHandle" ∧ yX1_isThere.cls ≠ "java/lang/invoke/VarHandle" ∧ (parseMethodDescriptor yX1_isThere.desc).map (fun d => d.parameters.length) = some 1 := by decide +kernel
set_option maxHeartbeats 4000000 in
set_option maxRecDepth 100000 in
theorem c_X1_isThere (l : Launch) (D : va_G) (aI aL : ClassId) (ad : Nat → Nat) (inj : Inj ad 42) (sz : Nat) (σ : Sg) (b : Nat) (hb : isFl b) (v1 : Int32) (r0 : Int32) (hf : f_X1_isThere b v1 σ = some r0) : Met l yX1_isThere (wS yX1_isThere cX1_isThere 2 (some .boolean)) (RM 2 42) (Pw D aI aL 42 shX ad sz σ [.ref (ad b), .int v1]) (Qi D aI aL 42 shX ad r0 σ sz) 0 0 (AA ad 42 sz) := by
  refine Mof (Qc := Qi D aI aL 42 shX ad r0 σ) (by decide) inj (Nat.le_of_ble_eq_true rfl) ?_
  intro p e s m args below meth c ls C hlk hr hP hl
  have hx := C.1.1
  have hb_ := C.1.2.1
  have hown := C.1.2.2.2.1
  have hts := C.1.2.2.2.2
  have hl : lv_has ls 2 [(0, .ref (ad b)), (1, .int v1)] := hl
  have bk : ∀ (y : Int32), f_X1_isThere b v1 σ = some y → y = r0 → ∀ (H : Heap) (locs : List Loc), HS D aI aL 42 shX ad σ s H locs → W p l e (RM 2 42) s m args below meth c H locs 0 0 (MQ below (Qi D aI aL 42 shX ad r0 σ s.heap.size) args s 0 0 (AA ad 42 s.heap.size)) (F0 m 0 ls []) := by
    intro y h hK H locs hP
    unfold f_X1_isThere at h
    refine lv_aload_n hx hb_ dX1_isThere_0 rfl (lv_at hl 0 rfl) ?_
    refine w_get C hP (k := b) (fl_l0 hb) 0 (fl_sh hb) rfl inWX1 9 (by decide) wt66 (v := .int (σ.1 b 9)) rfl dX1_isThere_1 ?_
    refine lv_iload_n hx hb_ dX1_isThere_4 rfl (lv_at hl 1 rfl) ?_
    obtain ⟨q1, hq1, h⟩ := bnd h
    refine w_ci (w_rN (As := [.int (σ.1 b 9), .int v1]) (rest := []) C hP (c_X8_has l D aI aL ad inj _ σ (σ.1 b 9) v1 q1 hq1) nw17 wt468 wt1 wt469 2 hd_X8_has ⟨Nat.le_of_ble_eq_true rfl, Nat.le_of_ble_eq_true rfl⟩ rfl hl.1 rfl (Nat.le_of_ble_eq_true rfl) dX1_isThere_5) hP (fun H locs hP => ?_)
    obtain ⟨x2, hx2, h⟩ := bnd h
    obtain rfl := Option.some.inj h
    have hK : (x2 : Int32) = r0 := hK
    exact w_zret C hlk hr hP hx2 hK rfl dX1_isThere_8
  exact bk r0 hf rfl _ _ hP
theorem hd_X1_wearOf : yX1_wearOf.cls = RX1 ∧ yX1_wearOf.cls ≠ "java/lang/invoke/MethodHandle" ∧ yX1_wearOf.cls ≠ "java/lang/invoke/VarHandle" ∧ (parseMethodDescriptor yX1_wearOf.desc).map (fun d => d.parameters.length) = some 1 := by decide +kernel
set_option maxHeartbeats 4000000 in
set_option maxRecDepth 100000 in
theorem c_X1_wearOf (l : Launch) (D : va_G) (aI aL : ClassId) (ad : Nat → Nat) (inj : Inj ad 42) (sz : Nat) (σ : Sg) (b : Nat) (hb : isFl b) (v1 : Int32) (r0 : Int32) (hf : f_X1_wearOf b v1 σ = some r0) : Met l yX1_wearOf (wS yX1_wearOf cX1_wearOf 2 (some .int)) (RM 1 21) (Pw D aI aL 42 shX ad sz σ [.ref (ad b), .int v1]) (Qi D aI aL 42 shX ad r0 σ sz) 0 0 (AA ad 42 sz) := by
  refine Mof (Qc := Qi D aI aL 42 shX ad r0 σ) (by decide) inj (Nat.le_of_ble_eq_true rfl) ?_
  intro p e s m args below meth c ls C hlk hr hP hl
  have hx := C.1.1
  have hb_ := C.1.2.1
  have hown := C.1.2.2.2.1
  have hts := C.1.2.2.2.2
  have hl : lv_has ls 2 [(0, .ref (ad b)), (1, .int v1)] := hl
  have bk : ∀ (y : Int32), f_X1_wearOf b v1 σ = some y → y = r0 → ∀ (H : Heap) (locs : List Loc), HS D aI aL 42 shX ad σ s H locs → W p l e (RM 1 21) s m args below meth c H locs 0 0 (MQ below (Qi D aI aL 42 shX ad r0 σ s.heap.size) args s 0 0 (AA ad 42 s.heap.size)) (F0 m 0 ls []) := by
    intro y h hK H locs hP
    unfold f_X1_wearOf at h
    refine lv_aload_n hx hb_ dX1_wearOf_0 rfl (lv_at hl 0 rfl) ?_
    refine w_get C hP (k := b) (fl_l0 hb) 0 (fl_sh hb) rfl inWX1 5 (by decide) wt62 (v := .ref (ad (b + 6))) rfl dX1_wearOf_1 ?_
    refine lv_iload_n hx hb_ dX1_wearOf_4 rfl (lv_at hl 1 rfl) ?_
    obtain ⟨q1, hq1, h⟩ := bnd h
    refine w_ci (w_rN (As := [.ref (ad (b + 6)), .int v1]) (rest := []) C hP (c_X8_at l D aI aL ad inj _ σ (b + 6) 10 (fl_l6 hb) (fl_a6 hb) v1 q1 hq1) nw12 wt225 wt1 wt226 2 hd_X8_at ⟨Nat.le_of_ble_eq_true rfl, Nat.le_of_ble_eq_true rfl⟩ rfl hl.1 rfl (Nat.le_of_ble_eq_true rfl) dX1_wearOf_5) hP (fun H locs hP => ?_)
    obtain rfl := Option.some.inj h
    have hK : (q1 : Int32) = r0 := hK
    exact w_iret C hlk hr hP hK rfl dX1_wearOf_8
  exact bk r0 hf rfl _ _ hP
theorem hd_X1_firstOf : yX1_firstOf.cls = RX1 ∧ yX1_firstOf.cls ≠ "java/lang/invoke/MethodHandle" ∧ yX1_firstOf.cls ≠ "java/lang/invoke/VarHandle" ∧ (parseMethodDescriptor yX1_firstOf.desc).map (fun d => d.parameters.length) = some 1 := by decide +kernel
set_option maxHeartbeats 4000000 in
set_option maxRecDepth 100000 in
theorem c_X1_firstOf (l : Launch) (D : va_G) (aI aL : ClassId) (ad : Nat → Nat) (inj : Inj ad 42) (sz : Nat) (σ : Sg) (b : Nat) (hb : isFl b) (v1 : Int32) (r0 : Int32) (hf : f_X1_firstOf b v1 σ = some r0) : Met l yX1_firstOf (wS yX1_firstOf cX1_firstOf 2 (some .int)) (RM 1 21) (Pw D aI aL 42 shX ad sz σ [.ref (ad b), .int v1]) (Qi D aI aL 42 shX ad r0 σ sz) 0 0 (AA ad 42 sz) := by
  refine Mof (Qc := Qi D aI aL 42 shX ad r0 σ) (by decide) inj (Nat.le_of_ble_eq_true rfl) ?_
  intro p e s m args below meth c ls C hlk hr hP hl
  have hx := C.1.1
  have hb_ := C.1.2.1
  have hown := C.1.2.2.2.1
  have hts := C.1.2.2.2.2
  have hl : lv_has ls 2 [(0, .ref (ad b)), (1, .int v1)] := hl
  have bk : ∀ (y : Int32), f_X1_firstOf b v1 σ = some y → y = r0 → ∀ (H : Heap) (locs : List Loc), HS D aI aL 42 shX ad σ s H locs → W p l e (RM 1 21) s m args below meth c H locs 0 0 (MQ below (Qi D aI aL 42 shX ad r0 σ s.heap.size) args s 0 0 (AA ad 42 s.heap.size)) (F0 m 0 ls []) := by
    intro y h hK H locs hP
    unfold f_X1_firstOf at h
    refine lv_aload_n hx hb_ dX1_firstOf_0 rfl (lv_at hl 0 rfl) ?_
    refine w_get C hP (k := b) (fl_l0 hb) 0 (fl_sh hb) rfl inWX1 0 (by decide) wt57 (v := .ref (ad (b + 1))) rfl dX1_firstOf_1 ?_
    refine lv_iload_n hx hb_ dX1_firstOf_4 rfl (lv_at hl 1 rfl) ?_
    obtain ⟨q1, hq1, h⟩ := bnd h
    refine w_ci (w_rN (As := [.ref (ad (b + 1)), .int v1]) (rest := []) C hP (c_X8_at l D aI aL ad inj _ σ (b + 1) 10 (fl_l1 hb) (fl_a1 hb) v1 q1 hq1) nw12 wt225 wt1 wt226 2 hd_X8_at ⟨Nat.le_of_ble_eq_true rfl, Nat.le_of_ble_eq_true rfl⟩ rfl hl.1 rfl (Nat.le_of_ble_eq_true rfl) dX1_firstOf_5) hP (fun H locs hP => ?_)
    obtain rfl := Option.some.inj h
    have hK : (q1 : Int32) = r0 := hK
    exact w_iret C hlk hr hP hK rfl dX1_firstOf_8
  exact bk r0 hf rfl _ _ hP
theorem hd_X1_secondOf : yX1_secondOf.cls = RX1 ∧ yX1_secondOf.cls ≠ "java/lang/invoke/MethodHandle" ∧ yX1_secondOf.cls ≠ "java/lang/invoke/VarHandle" ∧ (parseMethodDescriptor yX1_secondOf.desc).map (fun d => d.parameters.length) = some 1 := by decide +kernel
set_option maxHeartbeats 4000000 in
set_option maxRecDepth 100000 in
theorem c_X1_secondOf (l : Launch) (D : va_G) (aI aL : ClassId) (ad : Nat → Nat) (inj : Inj ad 42) (sz : Nat) (σ : Sg) (b : Nat) (hb : isFl b) (v1 : Int32) (r0 : Int32) (hf : f_X1_secondOf b v1 σ = some r0) : Met l yX1_secondOf (wS yX1_secondOf cX1_secondOf 2 (some .int)) (RM 1 21) (Pw D aI aL 42 shX ad sz σ [.ref (ad b), .int v1]) (Qi D aI aL 42 shX ad r0 σ sz) 0 0 (AA ad 42 sz) := by
  refine Mof (Qc := Qi D aI aL 42 shX ad r0 σ) (by decide) inj (Nat.le_of_ble_eq_true rfl) ?_
  intro p e s m args below meth c ls C hlk hr hP hl
  have hx := C.1.1
  have hb_ := C.1.2.1
  have hown := C.1.2.2.2.1
  have hts := C.1.2.2.2.2
  have hl : lv_has ls 2 [(0, .ref (ad b)), (1, .int v1)] := hl
  have bk : ∀ (y : Int32), f_X1_secondOf b v1 σ = some y → y = r0 → ∀ (H : Heap) (locs : List Loc), HS D aI aL 42 shX ad σ s H locs → W p l e (RM 1 21) s m args below meth c H locs 0 0 (MQ below (Qi D aI aL 42 shX ad r0 σ s.heap.size) args s 0 0 (AA ad 42 s.heap.size)) (F0 m 0 ls []) := by
    intro y h hK H locs hP
    unfold f_X1_secondOf at h
    refine lv_aload_n hx hb_ dX1_secondOf_0 rfl (lv_at hl 0 rfl) ?_
    refine w_get C hP (k := b) (fl_l0 hb) 0 (fl_sh hb) rfl inWX1 1 (by decide) wt58 (v := .ref (ad (b + 2))) rfl dX1_secondOf_1 ?_
    refine lv_iload_n hx hb_ dX1_secondOf_4 rfl (lv_at hl 1 rfl) ?_
    obtain ⟨q1, hq1, h⟩ := bnd h
    refine w_ci (w_rN (As := [.ref (ad (b + 2)), .int v1]) (rest := []) C hP (c_X8_at l D aI aL ad inj _ σ (b + 2) 10 (fl_l2 hb) (fl_a2 hb) v1 q1 hq1) nw12 wt225 wt1 wt226 2 hd_X8_at ⟨Nat.le_of_ble_eq_true rfl, Nat.le_of_ble_eq_true rfl⟩ rfl hl.1 rfl (Nat.le_of_ble_eq_true rfl) dX1_secondOf_5) hP (fun H locs hP => ?_)
    obtain rfl := Option.some.inj h
    have hK : (q1 : Int32) = r0 := hK
    exact w_iret C hlk hr hP hK rfl dX1_secondOf_8
  exact bk r0 hf rfl _ _ hP
theorem hd_X1_endOf : yX1_endOf.cls = RX1 ∧ yX1_endOf.cls ≠ "java/lang/invoke/MethodHandle" ∧ yX1_endOf.cls ≠ "java/lang/invoke/VarHandle" ∧ (parseMethodDescriptor yX1_endOf.desc).map (fun d => d.parameters.length) = some 1 := by decide +kernel
set_option maxHeartbeats 4000000 in
set_option maxRecDepth 100000 in
theorem c_X1_endOf (l : Launch) (D : va_G) (aI aL : ClassId) (ad : Nat → Nat) (inj : Inj ad 42) (sz : Nat) (σ : Sg) (b : Nat) (hb : isFl b) (v1 : Int32) (r0 : Int32) (hf : f_X1_endOf b v1 σ = some r0) : Met l yX1_endOf (wS yX1_endOf cX1_endOf 2 (some .int)) (RM 1 21) (Pw D aI aL 42 shX ad sz σ [.ref (ad b), .int v1]) (Qi D aI aL 42 shX ad r0 σ sz) 0 0 (AA ad 42 sz) := by
  refine Mof (Qc := Qi D aI aL 42 shX ad r0 σ) (by decide) inj (Nat.le_of_ble_eq_true rfl) ?_
  intro p e s m args below meth c ls C hlk hr hP hl
  have hx := C.1.1
  have hb_ := C.1.2.1
  have hown := C.1.2.2.2.1
  have hts := C.1.2.2.2.2
  have hl : lv_has ls 2 [(0, .ref (ad b)), (1, .int v1)] := hl
  have bk : ∀ (y : Int32), f_X1_endOf b v1 σ = some y → y = r0 → ∀ (H : Heap) (locs : List Loc), HS D aI aL 42 shX ad σ s H locs → W p l e (RM 1 21) s m args below meth c H locs 0 0 (MQ below (Qi D aI aL 42 shX ad r0 σ s.heap.size) args s 0 0 (AA ad 42 s.heap.size)) (F0 m 0 ls []) := by
    intro y h hK H locs hP
    unfold f_X1_endOf at h
    refine lv_aload_n hx hb_ dX1_endOf_0 rfl (lv_at hl 0 rfl) ?_
    refine w_get C hP (k := b) (fl_l0 hb) 0 (fl_sh hb) rfl inWX1 2 (by decide) wt59 (v := .ref (ad (b + 3))) rfl dX1_endOf_1 ?_
    refine lv_iload_n hx hb_ dX1_endOf_4 rfl (lv_at hl 1 rfl) ?_
    obtain ⟨q1, hq1, h⟩ := bnd h
    refine w_ci (w_rN (As := [.ref (ad (b + 3)), .int v1]) (rest := []) C hP (c_X8_at l D aI aL ad inj _ σ (b + 3) 10 (fl_l3 hb) (fl_a3 hb) v1 q1 hq1) nw12 wt225 wt1 wt226 2 hd_X8_at ⟨Nat.le_of_ble_eq_true rfl, Nat.le_of_ble_eq_true rfl⟩ rfl hl.1 rfl (Nat.le_of_ble_eq_true rfl) dX1_endOf_5) hP (fun H locs hP => ?_)
    obtain rfl := Option.some.inj h
    have hK : (q1 : Int32) = r0 := hK
    exact w_iret C hlk hr hP hK rfl dX1_endOf_8
  exact bk r0 hf rfl _ _ hP
theorem hd_X1_originsOf : yX1_originsOf.cls = RX1 ∧ yX1_originsOf.cls ≠ "java/lang/invoke/MethodHandle" ∧ yX1_originsOf.cls ≠ "java/lang/invoke/VarHandle" ∧ (parseMethodDescriptor yX1_originsOf.desc).map (fun d => d.parameters.length) = some 1 := by decide +kernel
set_option maxHeartbeats 4000000 in
set_option maxRecDepth 100000 in
theorem c_X1_originsOf (l : Launch) (D : va_G) (aI aL : ClassId) (ad : Nat → Nat) (inj : Inj ad 42) (sz : Nat) (σ : Sg) (b : Nat) (hb : isFl b) (v1 : Int32) (r0 : Int32) (hf : f_X1_originsOf b v1 σ = some r0) : Met l yX1_originsOf (wS yX1_originsOf cX1_originsOf 2 (some .int)) (RM 1 21) (Pw D aI aL 42 shX ad sz σ [.ref (ad b), .int v1]) (Qi D aI aL 42 shX ad r0 σ sz) 0 0 (AA ad 42 sz) := by
  refine Mof (Qc := Qi D aI aL 42 shX ad r0 σ) (by decide) inj (Nat.le_of_ble_eq_true rfl) ?_
  intro p e s m args below meth c ls C hlk hr hP hl
  have hx := C.1.1
  have hb_ := C.1.2.1
  have hown := C.1.2.2.2.1
  have hts := C.1.2.2.2.2
  have hl : lv_has ls 2 [(0, .ref (ad b)), (1, .int v1)] := hl
  have bk : ∀ (y : Int32), f_X1_originsOf b v1 σ = some y → y = r0 → ∀ (H : Heap) (locs : List Loc), HS D aI aL 42 shX ad σ s H locs → W p l e (RM 1 21) s m args below meth c H locs 0 0 (MQ below (Qi D aI aL 42 shX ad r0 σ s.heap.size) args s 0 0 (AA ad 42 s.heap.size)) (F0 m 0 ls []) := by
    intro y h hK H locs hP
    unfold f_X1_originsOf at h
    refine lv_aload_n hx hb_ dX1_originsOf_0 rfl (lv_at hl 0 rfl) ?_
    refine w_get C hP (k := b) (fl_l0 hb) 0 (fl_sh hb) rfl inWX1 3 (by decide) wt60 (v := .ref (ad (b + 4))) rfl dX1_originsOf_1 ?_
    refine lv_iload_n hx hb_ dX1_originsOf_4 rfl (lv_at hl 1 rfl) ?_
    obtain ⟨q1, hq1, h⟩ := bnd h
    refine w_ci (w_rN (As := [.ref (ad (b + 4)), .int v1]) (rest := []) C hP (c_X8_at l D aI aL ad inj _ σ (b + 4) 10 (fl_l4 hb) (fl_a4 hb) v1 q1 hq1) nw12 wt225 wt1 wt226 2 hd_X8_at ⟨Nat.le_of_ble_eq_true rfl, Nat.le_of_ble_eq_true rfl⟩ rfl hl.1 rfl (Nat.le_of_ble_eq_true rfl) dX1_originsOf_5) hP (fun H locs hP => ?_)
    obtain rfl := Option.some.inj h
    have hK : (q1 : Int32) = r0 := hK
    exact w_iret C hlk hr hP hK rfl dX1_originsOf_8
  exact bk r0 hf rfl _ _ hP
theorem hd_X1_after : yX1_after.cls = RX1 ∧ yX1_after.cls ≠ "java/lang/invoke/MethodHandle" ∧ yX1_after.cls ≠ "java/lang/invoke/VarHandle" ∧ (parseMethodDescriptor yX1_after.desc).map (fun d => d.parameters.length) = some 2 := by decide +kernel
set_option maxHeartbeats 4000000 in
set_option maxRecDepth 100000 in
theorem c_X1_after (l : Launch) (D : va_G) (aI aL : ClassId) (ad : Nat → Nat) (inj : Inj ad 42) (sz : Nat) (σ : Sg) (b : Nat) (hb : isFl b) (v1 : Int32) (v2 : Int32) (r0 : Int32) (hf : f_X1_after b v1 v2 σ = some r0) : Met l yX1_after (wS yX1_after cX1_after 3 (some .int)) (RM 2 45) (Pw D aI aL 42 shX ad sz σ [.ref (ad b), .int v1, .int v2]) (Qi D aI aL 42 shX ad r0 σ sz) 0 0 (AA ad 42 sz) := by
  refine Mof (Qc := Qi D aI aL 42 shX ad r0 σ) (by decide) inj (Nat.le_of_ble_eq_true rfl) ?_
  intro p e s m args below meth c ls C hlk hr hP hl
  have hx := C.1.1
  have hb_ := C.1.2.1
  have hown := C.1.2.2.2.1
  have hts := C.1.2.2.2.2
  have hl : lv_has ls 3 [(0, .ref (ad b)), (1, .int v1), (2, .int v2)] := hl
  have bk : ∀ (y : Int32), f_X1_after b v1 v2 σ = some y → y = r0 → ∀ (H : Heap) (locs : List Loc), HS D aI aL 42 shX ad σ s H locs → W p l e (RM 2 45) s m args below meth c H locs 0 0 (MQ below (Qi D aI aL 42 shX ad r0 σ s.heap.size) args s 0 0 (AA ad 42 s.heap.size)) (F0 m 0 ls []) := by
    intro y h hK H locs hP
    unfold f_X1_after at h
    refine lv_aload_n hx hb_ dX1_after_0 rfl (lv_at hl 0 rfl) ?_
    refine lv_iload_n hx hb_ dX1_after_1 rfl (lv_at hl 1 rfl) ?_
    refine lv_iload_n hx hb_ dX1_after_2 rfl (lv_at hl 2 rfl) ?_
    refine lv_aload_n hx hb_ dX1_after_3 rfl (lv_at hl 0 rfl) ?_
    refine w_get C hP (k := b) (fl_l0 hb) 0 (fl_sh hb) rfl inWX1 9 (by decide) wt66 (v := .int (σ.1 b 9)) rfl dX1_after_4 ?_
    obtain ⟨q1, hq1, h⟩ := bnd h
    refine w_ci (w_rV (As := [.int v1, .int v2, .int (σ.1 b 9)]) (rest := []) C hP (k := b) (c_X1_afterAmong l D aI aL ad inj _ σ b hb v1 v2 (σ.1 b 9) q1 hq1) (gV wt423 wt425 wp5 wt4 wt426) 3 hd_X1_afterAmong ⟨Nat.le_of_ble_eq_true rfl, Nat.le_of_ble_eq_true rfl⟩ (fl_l0 hb) 0 (fl_sh hb) rfl rfl hl.1 rfl (Nat.le_of_ble_eq_true rfl) dX1_after_7) hP (fun H locs hP => ?_)
    obtain rfl := Option.some.inj h
    have hK : (q1 : Int32) = r0 := hK
    exact w_iret C hlk hr hP hK rfl dX1_after_10
  exact bk r0 hf rfl _ _ hP
theorem hd_X1_mayBeGone : yX1_mayBeGone.cls = RX1 ∧ yX1_mayBeGone.cls ≠ "java/lang/invoke/MethodHandle" ∧ yX1_mayBeGone.cls ≠ "java/lang/invoke/VarHandle" ∧ (parseMethodDescriptor yX1_mayBeGone.desc).map (fun d => d.parameters.length) = some 1 := by decide +kernel
set_option maxHeartbeats 4000000 in
set_option maxRecDepth 100000 in
theorem c_X1_mayBeGone (l : Launch) (D : va_G) (aI aL : ClassId) (ad : Nat → Nat) (inj : Inj ad 42) (sz : Nat) (σ : Sg) (b : Nat) (hb : isFl b) (v1 : Int32) (r0 : Int32) (hf : f_X1_mayBeGone b v1 σ = some r0) : Met l yX1_mayBeGone (wS yX1_mayBeGone cX1_mayBeGone 2 (some .boolean)) (RM 3 67) (Pw D aI aL 42 shX ad sz σ [.ref (ad b), .int v1]) (Qi D aI aL 42 shX ad r0 σ sz) 0 0 (AA ad 42 sz) := by
  refine Mof (Qc := Qi D aI aL 42 shX ad r0 σ) (by decide) inj (Nat.le_of_ble_eq_true rfl) ?_
  intro p e s m args below meth c ls C hlk hr hP hl
  have hx := C.1.1
  have hb_ := C.1.2.1
  have hown := C.1.2.2.2.1
  have hts := C.1.2.2.2.2
  have hl : lv_has ls 2 [(0, .ref (ad b)), (1, .int v1)] := hl
  have bk_21 : ∀ (t0_21 : Int32) (y : Int32), f_X1_mayBeGone_21 b t0_21 σ = some y → (fun y => y = r0) y → ∀ (H : Heap) (locs : List Loc) (ls : Array Slot), HS D aI aL 42 shX ad σ s H locs → lv_has ls 2 [] → W p l e (RM 3 67) s m args below meth c H locs 0 0 (MQ below (Qi D aI aL 42 shX ad r0 σ s.heap.size) args s 0 0 (AA ad 42 s.heap.size)) (F0 m 21 ls [.int t0_21]) := by
    intro t0_21 y h hK H locs ls hP hl
    unfold f_X1_mayBeGone_21 at h
    obtain ⟨x2, hx2, h⟩ := bnd h
    obtain rfl := Option.some.inj h
    have hK : (x2 : Int32) = r0 := hK
    exact w_zret C hlk hr hP hx2 hK rfl dX1_mayBeGone_21
  have bk : ∀ (y : Int32), f_X1_mayBeGone b v1 σ = some y → y = r0 → ∀ (H : Heap) (locs : List Loc), HS D aI aL 42 shX ad σ s H locs → W p l e (RM 3 67) s m args below meth c H locs 0 0 (MQ below (Qi D aI aL 42 shX ad r0 σ s.heap.size) args s 0 0 (AA ad 42 s.heap.size)) (F0 m 0 ls []) := by
    intro y h hK H locs hP
    unfold f_X1_mayBeGone at h
    refine lv_aload_n hx hb_ dX1_mayBeGone_0 rfl (lv_at hl 0 rfl) ?_
    refine lv_iload_n hx hb_ dX1_mayBeGone_1 rfl (lv_at hl 1 rfl) ?_
    refine lv_aload_n hx hb_ dX1_mayBeGone_2 rfl (lv_at hl 0 rfl) ?_
    refine w_get C hP (k := b) (fl_l0 hb) 0 (fl_sh hb) rfl inWX1 10 (by decide) wt67 (v := .int (σ.1 b 10)) rfl dX1_mayBeGone_3 ?_
    obtain ⟨q1, hq1, h⟩ := bnd h
    refine w_ci (w_rV (As := [.int v1, .int (σ.1 b 10)]) (rest := []) C hP (k := b) (c_X1_after l D aI aL ad inj _ σ b hb v1 (σ.1 b 10) q1 hq1) (gV wt419 wt420 wt421 wt4 wt422) 2 hd_X1_after ⟨Nat.le_of_ble_eq_true rfl, Nat.le_of_ble_eq_true rfl⟩ (fl_l0 hb) 0 (fl_sh hb) rfl rfl hl.1 rfl (Nat.le_of_ble_eq_true rfl) dX1_mayBeGone_6) hP (fun H locs hP => ?_)
    refine lv_aload_n hx hb_ dX1_mayBeGone_9 rfl (lv_at hl 0 rfl) ?_
    refine w_get C hP (k := b) (fl_l0 hb) 0 (fl_sh hb) rfl inWX1 10 (by decide) wt67 (v := .int (σ.1 b 10)) rfl dX1_mayBeGone_10 ?_
    refine lv_icmp_eq (tgt := 20) hx hb_ dX1_mayBeGone_13 (by decide) (fun hc => ?_) (fun hc => ?_)
    · replace h := ift h hc
      refine lv_iconst (v := 0) hx hb_ dX1_mayBeGone_20 (by decide) ?_
      exact bk_21 0 y h hK _ _ _ hP (lv_sub hl [] rfl)
    · replace h := iff' h hc
      refine lv_iconst (v := 1) hx hb_ dX1_mayBeGone_16 (by decide) ?_
      refine lv_goto (tgt := 21) hx hb_ dX1_mayBeGone_17 (by decide) ?_
      exact bk_21 1 y h hK _ _ _ hP (lv_sub hl [] rfl)
  exact bk r0 hf rfl _ _ hP
theorem hd_X1_tread : yX1_tread.cls = RX1 ∧ yX1_tread.cls ≠ "java/lang/invoke/MethodHandle" ∧ yX1_tread.cls ≠ "java/lang/invoke/VarHandle" ∧ (parseMethodDescriptor yX1_tread.desc).map (fun d => d.parameters.length) = some 1 := by decide +kernel
set_option maxHeartbeats 4000000 in
set_option maxRecDepth 100000 in
theorem c_X1_tread (l : Launch) (D : va_G) (aI aL : ClassId) (ad : Nat → Nat) (inj : Inj ad 42) (sz : Nat) (σ : Sg) (b : Nat) (hb : isFl b) (v1 : Int32) (r0 : Sg) (hf : f_X1_tread b v1 σ = some r0) : Met l yX1_tread (wS yX1_tread cX1_tread 3 (none : Option Jvm.ClassFile.FieldType)) (RM 3 67) (Pw D aI aL 42 shX ad sz σ [.ref (ad b), .int v1]) (Qv D aI aL 42 shX ad r0 sz) 0 0 (AA ad 42 sz) := by
  refine Mof (Qc := Qv D aI aL 42 shX ad r0) (by decide) inj (Nat.le_of_ble_eq_true rfl) ?_
  intro p e s m args below meth c ls C hlk hr hP hl
  have hx := C.1.1
  have hb_ := C.1.2.1
  have hown := C.1.2.2.2.1
  have hts := C.1.2.2.2.2
  have hl : lv_has ls 3 [(0, .ref (ad b)), (1, .int v1)] := hl
  have bk : ∀ (y : Sg), f_X1_tread b v1 σ = some y → y = r0 → ∀ (H : Heap) (locs : List Loc), HS D aI aL 42 shX ad σ s H locs → W p l e (RM 3 67) s m args below meth c H locs 0 0 (MQ below (Qv D aI aL 42 shX ad r0 s.heap.size) args s 0 0 (AA ad 42 s.heap.size)) (F0 m 0 ls []) := by
    intro y h hK H locs hP
    unfold f_X1_tread at h
    refine lv_aload_n hx hb_ dX1_tread_0 rfl (lv_at hl 0 rfl) ?_
    refine lv_iload_n hx hb_ dX1_tread_1 rfl (lv_at hl 1 rfl) ?_
    obtain ⟨q1, hq1, h⟩ := bnd h
    refine w_ci (w_rV (As := [.int v1]) (rest := []) C hP (k := b) (c_X1_endOf l D aI aL ad inj _ σ b hb v1 q1 hq1) (gV wt438 wt412 wt413 wt4 wt414) 1 hd_X1_endOf ⟨Nat.le_of_ble_eq_true rfl, Nat.le_of_ble_eq_true rfl⟩ (fl_l0 hb) 0 (fl_sh hb) rfl rfl hl.1 rfl (Nat.le_of_ble_eq_true rfl) dX1_tread_2) hP (fun H locs hP => ?_)
    refine lv_istore_n (lv' := [(2, .int q1), (0, .ref (ad b)), (1, .int v1)]) hx hb_ dX1_tread_5 rfl hl (by decide) rfl (fun ls hl => ?_)
    refine lv_aload_n hx hb_ dX1_tread_6 rfl (lv_at hl 1 rfl) ?_
    refine lv_aload_n hx hb_ dX1_tread_7 rfl (lv_at hl 1 rfl) ?_
    refine lv_iload_n hx hb_ dX1_tread_8 rfl (lv_at hl 2 rfl) ?_
    refine lv_aload_n hx hb_ dX1_tread_9 rfl (lv_at hl 1 rfl) ?_
    refine w_get C hP (k := b) (fl_l0 hb) 0 (fl_sh hb) rfl inWX1 10 (by decide) wt67 (v := .int (σ.1 b 10)) rfl dX1_tread_10 ?_
    obtain ⟨q2, hq2, h⟩ := bnd h
    refine w_ci (w_rV (As := [.int v1, .int (σ.1 b 10)]) (rest := [.ref (ad b)]) C hP (k := b) (c_X1_after l D aI aL ad inj _ σ b hb v1 (σ.1 b 10) q2 hq2) (gV wt419 wt420 wt421 wt4 wt422) 2 hd_X1_after ⟨Nat.le_of_ble_eq_true rfl, Nat.le_of_ble_eq_true rfl⟩ (fl_l0 hb) 0 (fl_sh hb) rfl rfl hl.1 rfl (Nat.le_of_ble_eq_true rfl) dX1_tread_13) hP (fun H locs hP => ?_)
    obtain ⟨s3, hs3, h⟩ := bnd h
    refine w_puti C hP (k := b) (fl_l0 hb) 0 (fl_sh hb) rfl inWX1 tyX1 tyX1_ok nmX1 10 (by decide) wt67 rfl rfl rfl rfl hs3 dX1_tread_16 (fun H locs hP => ?_)
    refine lv_aload_n hx hb_ dX1_tread_19 rfl (lv_at hl 1 rfl) ?_
    refine w_get C hP (k := b) (fl_l0 hb) 0 (fl_sh hb) rfl inWX1 5 (by decide) wt62 (v := .ref (ad (b + 6))) rfl dX1_tread_20 ?_
    refine lv_iload_n hx hb_ dX1_tread_23 rfl (lv_at hl 0 rfl) ?_
    refine lv_aload_n hx hb_ dX1_tread_24 rfl (lv_at hl 1 rfl) ?_
    refine w_get C hP (k := b) (fl_l0 hb) 0 (fl_sh hb) rfl inWX1 5 (by decide) wt62 (v := .ref (ad (b + 6))) rfl dX1_tread_25 ?_
    refine lv_iload_n hx hb_ dX1_tread_28 rfl (lv_at hl 0 rfl) ?_
    obtain ⟨q4, hq4, h⟩ := bnd h
    refine w_ci (w_rN (As := [.ref (ad (b + 6)), .int q1]) (rest := [.int q1, .ref (ad (b + 6))]) C hP (c_X8_at l D aI aL ad inj _ s3 (b + 6) 10 (fl_l6 hb) (fl_a6 hb) q1 q4 hq4) nw12 wt225 wt1 wt226 2 hd_X8_at ⟨Nat.le_of_ble_eq_true rfl, Nat.le_of_ble_eq_true rfl⟩ rfl hl.1 rfl (Nat.le_of_ble_eq_true rfl) dX1_tread_29) hP (fun H locs hP => ?_)
    refine lv_iconst (v := 1) hx hb_ dX1_tread_32 (by decide) ?_
    refine lv_iadd hx hb_ dX1_tread_33 ?_
    obtain ⟨q5, hq5, h⟩ := bnd h
    refine w_cv (w_rN (As := [.ref (ad (b + 6)), .int q1, .int (q4 + (1 : Int32))]) (rest := []) C hP (c_X8_put l D aI aL ad inj _ s3 (b + 6) 10 (fl_l6 hb) (fl_a6 hb) q1 (q4 + (1 : Int32)) q5 hq5) nw11 wt191 wt1 wt192 3 hd_X8_put ⟨Nat.le_of_ble_eq_true rfl, Nat.le_of_ble_eq_true rfl⟩ rfl hl.1 rfl (Nat.le_of_ble_eq_true rfl) dX1_tread_34) hP (fun H locs hP => ?_)
    obtain rfl := Option.some.inj h
    have hK : q5 = r0 := hK
    exact w_vret C hlk hr hP hK dX1_tread_37
  exact bk r0 hf rfl _ _ hP
theorem hd_X1_untread : yX1_untread.cls = RX1 ∧ yX1_untread.cls ≠ "java/lang/invoke/MethodHandle" ∧ yX1_untread.cls ≠ "java/lang/invoke/VarHandle" ∧ (parseMethodDescriptor yX1_untread.desc).map (fun d => d.parameters.length) = some 1 := by decide +kernel
set_option maxHeartbeats 4000000 in
set_option maxRecDepth 100000 in
theorem c_X1_untread (l : Launch) (D : va_G) (aI aL : ClassId) (ad : Nat → Nat) (inj : Inj ad 42) (sz : Nat) (σ : Sg) (b : Nat) (hb : isFl b) (v1 : Int32) (r0 : Sg) (hf : f_X1_untread b v1 σ = some r0) : Met l yX1_untread (wS yX1_untread cX1_untread 2 (none : Option Jvm.ClassFile.FieldType)) (RM 1 22) (Pw D aI aL 42 shX ad sz σ [.ref (ad b), .int v1]) (Qv D aI aL 42 shX ad r0 sz) 0 0 (AA ad 42 sz) := by
  refine Mof (Qc := Qv D aI aL 42 shX ad r0) (by decide) inj (Nat.le_of_ble_eq_true rfl) ?_
  intro p e s m args below meth c ls C hlk hr hP hl
  have hx := C.1.1
  have hb_ := C.1.2.1
  have hown := C.1.2.2.2.1
  have hts := C.1.2.2.2.2
  have hl : lv_has ls 2 [(0, .ref (ad b)), (1, .int v1)] := hl
  have bk : ∀ (y : Sg), f_X1_untread b v1 σ = some y → y = r0 → ∀ (H : Heap) (locs : List Loc), HS D aI aL 42 shX ad σ s H locs → W p l e (RM 1 22) s m args below meth c H locs 0 0 (MQ below (Qv D aI aL 42 shX ad r0 s.heap.size) args s 0 0 (AA ad 42 s.heap.size)) (F0 m 0 ls []) := by
    intro y h hK H locs hP
    unfold f_X1_untread at h
    refine lv_aload_n hx hb_ dX1_untread_0 rfl (lv_at hl 0 rfl) ?_
    refine lv_dup hx hb_ dX1_untread_1 rfl ?_
    refine w_get C hP (k := b) (fl_l0 hb) 0 (fl_sh hb) rfl inWX1 10 (by decide) wt67 (v := .int (σ.1 b 10)) rfl dX1_untread_2 ?_
    refine lv_iconst (v := 1) hx hb_ dX1_untread_5 (by decide) ?_
    refine lv_iload_n hx hb_ dX1_untread_6 rfl (lv_at hl 1 rfl) ?_
    refine lv_ishl hx hb_ dX1_untread_7 ?_
    refine lv_iconst (v := (-1)) hx hb_ dX1_untread_8 (by decide) ?_
    refine lv_ixor hx hb_ dX1_untread_9 ?_
    refine lv_iand hx hb_ dX1_untread_10 ?_
    obtain ⟨s1, hs1, h⟩ := bnd h
    refine w_puti C hP (k := b) (fl_l0 hb) 0 (fl_sh hb) rfl inWX1 tyX1 tyX1_ok nmX1 10 (by decide) wt67 rfl rfl rfl rfl hs1 dX1_untread_11 (fun H locs hP => ?_)
    refine lv_aload_n hx hb_ dX1_untread_14 rfl (lv_at hl 0 rfl) ?_
    refine w_get C hP (k := b) (fl_l0 hb) 0 (fl_sh hb) rfl inWX1 5 (by decide) wt62 (v := .ref (ad (b + 6))) rfl dX1_untread_15 ?_
    refine lv_iload_n hx hb_ dX1_untread_18 rfl (lv_at hl 1 rfl) ?_
    refine lv_aload_n hx hb_ dX1_untread_19 rfl (lv_at hl 0 rfl) ?_
    refine w_get C hP (k := b) (fl_l0 hb) 0 (fl_sh hb) rfl inWX1 5 (by decide) wt62 (v := .ref (ad (b + 6))) rfl dX1_untread_20 ?_
    refine lv_iload_n hx hb_ dX1_untread_23 rfl (lv_at hl 1 rfl) ?_
    obtain ⟨q2, hq2, h⟩ := bnd h
    refine w_ci (w_rN (As := [.ref (ad (b + 6)), .int v1]) (rest := [.int v1, .ref (ad (b + 6))]) C hP (c_X8_at l D aI aL ad inj _ s1 (b + 6) 10 (fl_l6 hb) (fl_a6 hb) v1 q2 hq2) nw12 wt225 wt1 wt226 2 hd_X8_at ⟨Nat.le_of_ble_eq_true rfl, Nat.le_of_ble_eq_true rfl⟩ rfl hl.1 rfl (Nat.le_of_ble_eq_true rfl) dX1_untread_24) hP (fun H locs hP => ?_)
    refine lv_iconst (v := 1) hx hb_ dX1_untread_27 (by decide) ?_
    refine lv_isub hx hb_ dX1_untread_28 ?_
    obtain ⟨q3, hq3, h⟩ := bnd h
    refine w_cv (w_rN (As := [.ref (ad (b + 6)), .int v1, .int (q2 - (1 : Int32))]) (rest := []) C hP (c_X8_put l D aI aL ad inj _ s1 (b + 6) 10 (fl_l6 hb) (fl_a6 hb) v1 (q2 - (1 : Int32)) q3 hq3) nw11 wt191 wt1 wt192 3 hd_X8_put ⟨Nat.le_of_ble_eq_true rfl, Nat.le_of_ble_eq_true rfl⟩ rfl hl.1 rfl (Nat.le_of_ble_eq_true rfl) dX1_untread_29) hP (fun H locs hP => ?_)
    obtain rfl := Option.some.inj h
    have hK : q3 = r0 := hK
    exact w_vret C hlk hr hP hK dX1_untread_32
  exact bk r0 hf rfl _ _ hP
theorem hd_X1_removeSlab : yX1_removeSlab.cls = RX1 ∧ yX1_removeSlab.cls ≠ "java/lang/invoke/MethodHandle" ∧ yX1_removeSlab.cls ≠ "java/lang/invoke/VarHandle" ∧ (parseMethodDescriptor yX1_removeSlab.desc).map (fun d => d.parameters.length) = some 1 := by decide +kernel
set_option maxHeartbeats 4000000 in
set_option maxRecDepth 100000 in
theorem c_X1_removeSlab (l : Launch) (D : va_G) (aI aL : ClassId) (ad : Nat → Nat) (inj : Inj ad 42) (sz : Nat) (σ : Sg) (b : Nat) (hb : isFl b) (v1 : Int32) (r0 : Sg) (hf : f_X1_removeSlab b v1 σ = some r0) : Met l yX1_removeSlab (wS yX1_removeSlab cX1_removeSlab 2 (none : Option Jvm.ClassFile.FieldType)) (RM 0 0) (Pw D aI aL 42 shX ad sz σ [.ref (ad b), .int v1]) (Qv D aI aL 42 shX ad r0 sz) 0 0 (AA ad 42 sz) := by
  refine Mof (Qc := Qv D aI aL 42 shX ad r0) (by decide) inj (Nat.le_of_ble_eq_true rfl) ?_
  intro p e s m args below meth c ls C hlk hr hP hl
  have hx := C.1.1
  have hb_ := C.1.2.1
  have hown := C.1.2.2.2.1
  have hts := C.1.2.2.2.2
  have hl : lv_has ls 2 [(0, .ref (ad b)), (1, .int v1)] := hl
  have bk : ∀ (y : Sg), f_X1_removeSlab b v1 σ = some y → y = r0 → ∀ (H : Heap) (locs : List Loc), HS D aI aL 42 shX ad σ s H locs → W p l e (RM 0 0) s m args below meth c H locs 0 0 (MQ below (Qv D aI aL 42 shX ad r0 s.heap.size) args s 0 0 (AA ad 42 s.heap.size)) (F0 m 0 ls []) := by
    intro y h hK H locs hP
    unfold f_X1_removeSlab at h
    refine lv_aload_n hx hb_ dX1_removeSlab_0 rfl (lv_at hl 0 rfl) ?_
    refine lv_dup hx hb_ dX1_removeSlab_1 rfl ?_
    refine w_get C hP (k := b) (fl_l0 hb) 0 (fl_sh hb) rfl inWX1 9 (by decide) wt66 (v := .int (σ.1 b 9)) rfl dX1_removeSlab_2 ?_
    refine lv_iconst (v := 1) hx hb_ dX1_removeSlab_5 (by decide) ?_
    refine lv_iload_n hx hb_ dX1_removeSlab_6 rfl (lv_at hl 1 rfl) ?_
    refine lv_ishl hx hb_ dX1_removeSlab_7 ?_
    refine lv_iconst (v := (-1)) hx hb_ dX1_removeSlab_8 (by decide) ?_
    refine lv_ixor hx hb_ dX1_removeSlab_9 ?_
    refine lv_iand hx hb_ dX1_removeSlab_10 ?_
    obtain ⟨s1, hs1, h⟩ := bnd h
    refine w_puti C hP (k := b) (fl_l0 hb) 0 (fl_sh hb) rfl inWX1 tyX1 tyX1_ok nmX1 9 (by decide) wt66 rfl rfl rfl rfl hs1 dX1_removeSlab_11 (fun H locs hP => ?_)
    refine lv_aload_n hx hb_ dX1_removeSlab_14 rfl (lv_at hl 0 rfl) ?_
    refine lv_dup hx hb_ dX1_removeSlab_15 rfl ?_
    refine w_get C hP (k := b) (fl_l0 hb) 0 (fl_sh hb) rfl inWX1 10 (by decide) wt67 (v := .int (s1.1 b 10)) rfl dX1_removeSlab_16 ?_
    refine lv_iconst (v := 1) hx hb_ dX1_removeSlab_19 (by decide) ?_
    refine lv_iload_n hx hb_ dX1_removeSlab_20 rfl (lv_at hl 1 rfl) ?_
    refine lv_ishl hx hb_ dX1_removeSlab_21 ?_
    refine lv_iconst (v := (-1)) hx hb_ dX1_removeSlab_22 (by decide) ?_
    refine lv_ixor hx hb_ dX1_removeSlab_23 ?_
    refine lv_iand hx hb_ dX1_removeSlab_24 ?_
    obtain ⟨s2, hs2, h⟩ := bnd h
    refine w_puti C hP (k := b) (fl_l0 hb) 0 (fl_sh hb) rfl inWX1 tyX1 tyX1_ok nmX1 10 (by decide) wt67 rfl rfl rfl rfl hs2 dX1_removeSlab_25 (fun H locs hP => ?_)
    obtain rfl := Option.some.inj h
    have hK : s2 = r0 := hK
    exact w_vret C hlk hr hP hK dX1_removeSlab_28
  exact bk r0 hf rfl _ _ hP
theorem hd_X1_putSlabBack : yX1_putSlabBack.cls = RX1 ∧ yX1_putSlabBack.cls ≠ "java/lang/invoke/MethodHandle" ∧ yX1_putSlabBack.cls ≠ "java/lang/invoke/VarHandle" ∧ (parseMethodDescriptor yX1_putSlabBack.desc).map (fun d => d.parameters.length) = some 2 := by decide +kernel
set_option maxHeartbeats 4000000 in
set_option maxRecDepth 100000 in
theorem c_X1_putSlabBack (l : Launch) (D : va_G) (aI aL : ClassId) (ad : Nat → Nat) (inj : Inj ad 42) (sz : Nat) (σ : Sg) (b : Nat) (hb : isFl b) (v1 : Int32) (v2 : Int32) (r0 : Sg) (hf : f_X1_putSlabBack b v1 v2 σ = some r0) : Met l yX1_putSlabBack (wS yX1_putSlabBack cX1_putSlabBack 3 (none : Option Jvm.ClassFile.FieldType)) (RM 0 0) (Pw D aI aL 42 shX ad sz σ [.ref (ad b), .int v1, .int v2]) (Qv D aI aL 42 shX ad r0 sz) 0 0 (AA ad 42 sz) := by
  refine Mof (Qc := Qv D aI aL 42 shX ad r0) (by decide) inj (Nat.le_of_ble_eq_true rfl) ?_
  intro p e s m args below meth c ls C hlk hr hP hl
  have hx := C.1.1
  have hb_ := C.1.2.1
  have hown := C.1.2.2.2.1
  have hts := C.1.2.2.2.2
  have hl : lv_has ls 3 [(0, .ref (ad b)), (1, .int v1), (2, .int v2)] := hl
  have bk_28 : ∀ (s_28 : Sg) (y : Sg), f_X1_putSlabBack_28 b s_28 = some y → (fun y => y = r0) y → ∀ (H : Heap) (locs : List Loc) (ls : Array Slot), HS D aI aL 42 shX ad s_28 s H locs → lv_has ls 3 [] → W p l e (RM 0 0) s m args below meth c H locs 0 0 (MQ below (Qv D aI aL 42 shX ad r0 s.heap.size) args s 0 0 (AA ad 42 s.heap.size)) (F0 m 28 ls []) := by
    intro s_28 y h hK H locs ls hP hl
    unfold f_X1_putSlabBack_28 at h
    obtain rfl := Option.some.inj h
    have hK : s_28 = r0 := hK
    exact w_vret C hlk hr hP hK dX1_putSlabBack_28
  have bk : ∀ (y : Sg), f_X1_putSlabBack b v1 v2 σ = some y → y = r0 → ∀ (H : Heap) (locs : List Loc), HS D aI aL 42 shX ad σ s H locs → W p l e (RM 0 0) s m args below meth c H locs 0 0 (MQ below (Qv D aI aL 42 shX ad r0 s.heap.size) args s 0 0 (AA ad 42 s.heap.size)) (F0 m 0 ls []) := by
    intro y h hK H locs hP
    unfold f_X1_putSlabBack at h
    refine lv_aload_n hx hb_ dX1_putSlabBack_0 rfl (lv_at hl 0 rfl) ?_
    refine lv_dup hx hb_ dX1_putSlabBack_1 rfl ?_
    refine w_get C hP (k := b) (fl_l0 hb) 0 (fl_sh hb) rfl inWX1 9 (by decide) wt66 (v := .int (σ.1 b 9)) rfl dX1_putSlabBack_2 ?_
    refine lv_iconst (v := 1) hx hb_ dX1_putSlabBack_5 (by decide) ?_
    refine lv_iload_n hx hb_ dX1_putSlabBack_6 rfl (lv_at hl 1 rfl) ?_
    refine lv_ishl hx hb_ dX1_putSlabBack_7 ?_
    refine lv_ior hx hb_ dX1_putSlabBack_8 ?_
    obtain ⟨s1, hs1, h⟩ := bnd h
    refine w_puti C hP (k := b) (fl_l0 hb) 0 (fl_sh hb) rfl inWX1 tyX1 tyX1_ok nmX1 9 (by decide) wt66 rfl rfl rfl rfl hs1 dX1_putSlabBack_9 (fun H locs hP => ?_)
    refine lv_iload_n hx hb_ dX1_putSlabBack_12 rfl (lv_at hl 2 rfl) ?_
    refine lv_if_eq (tgt := 28) hx hb_ dX1_putSlabBack_13 (by decide) (fun hc => ?_) (fun hc => ?_)
    · replace h := ift h hc
      exact bk_28 s1 y h hK _ _ _ hP (lv_sub hl [] rfl)
    · replace h := iff' h hc
      refine lv_aload_n hx hb_ dX1_putSlabBack_16 rfl (lv_at hl 0 rfl) ?_
      refine lv_dup hx hb_ dX1_putSlabBack_17 rfl ?_
      refine w_get C hP (k := b) (fl_l0 hb) 0 (fl_sh hb) rfl inWX1 10 (by decide) wt67 (v := .int (s1.1 b 10)) rfl dX1_putSlabBack_18 ?_
      refine lv_iconst (v := 1) hx hb_ dX1_putSlabBack_21 (by decide) ?_
      refine lv_iload_n hx hb_ dX1_putSlabBack_22 rfl (lv_at hl 1 rfl) ?_
      refine lv_ishl hx hb_ dX1_putSlabBack_23 ?_
      refine lv_ior hx hb_ dX1_putSlabBack_24 ?_
      obtain ⟨s2, hs2, h⟩ := bnd h
      refine w_puti C hP (k := b) (fl_l0 hb) 0 (fl_sh hb) rfl inWX1 tyX1 tyX1_ok nmX1 10 (by decide) wt67 rfl rfl rfl rfl hs2 dX1_putSlabBack_25 (fun H locs hP => ?_)
      exact bk_28 s2 y h hK _ _ _ hP (lv_sub hl [] rfl)
  exact bk r0 hf rfl _ _ hP
theorem hd_X1_removeLatestStep : yX1_removeLatestStep.cls = RX1 ∧ yX1_removeLatestStep.cls ≠ "java/lang/invoke/MethodHandle" ∧ yX1_removeLatestStep.cls ≠ "java/lang/invoke/VarHandle" ∧ (parseMethodDescriptor yX1_removeLatestStep.desc).map (fun d => d.parameters.length) = some 0 := by decide +kernel
set_option maxHeartbeats 4000000 in
set_option maxRecDepth 100000 in
theorem c_X1_removeLatestStep (l : Launch) (D : va_G) (aI aL : ClassId) (ad : Nat → Nat) (inj : Inj ad 42) (sz : Nat) (σ : Sg) (b : Nat) (hb : isFl b) (r0 : Sg) (hf : f_X1_removeLatestStep b σ = some r0) : Met l yX1_removeLatestStep (wS yX1_removeLatestStep cX1_removeLatestStep 1 (none : Option Jvm.ClassFile.FieldType)) (RM 0 0) (Pw D aI aL 42 shX ad sz σ [.ref (ad b)]) (Qv D aI aL 42 shX ad r0 sz) 0 0 (AA ad 42 sz) := by
  refine Mof (Qc := Qv D aI aL 42 shX ad r0) (by decide) inj (Nat.le_of_ble_eq_true rfl) ?_
  intro p e s m args below meth c ls C hlk hr hP hl
  have hx := C.1.1
  have hb_ := C.1.2.1
  have hown := C.1.2.2.2.1
  have hts := C.1.2.2.2.2
  have hl : lv_has ls 1 [(0, .ref (ad b))] := hl
  have bk_17 : ∀ (s_17 : Sg) (y : Sg), f_X1_removeLatestStep_17 b s_17 = some y → (fun y => y = r0) y → ∀ (H : Heap) (locs : List Loc) (ls : Array Slot), HS D aI aL 42 shX ad s_17 s H locs → lv_has ls 1 [] → W p l e (RM 0 0) s m args below meth c H locs 0 0 (MQ below (Qv D aI aL 42 shX ad r0 s.heap.size) args s 0 0 (AA ad 42 s.heap.size)) (F0 m 17 ls []) := by
    intro s_17 y h hK H locs ls hP hl
    unfold f_X1_removeLatestStep_17 at h
    obtain rfl := Option.some.inj h
    have hK : s_17 = r0 := hK
    exact w_vret C hlk hr hP hK dX1_removeLatestStep_17
  have bk : ∀ (y : Sg), f_X1_removeLatestStep b σ = some y → y = r0 → ∀ (H : Heap) (locs : List Loc), HS D aI aL 42 shX ad σ s H locs → W p l e (RM 0 0) s m args below meth c H locs 0 0 (MQ below (Qv D aI aL 42 shX ad r0 s.heap.size) args s 0 0 (AA ad 42 s.heap.size)) (F0 m 0 ls []) := by
    intro y h hK H locs hP
    unfold f_X1_removeLatestStep at h
    refine lv_aload_n hx hb_ dX1_removeLatestStep_0 rfl (lv_at hl 0 rfl) ?_
    refine w_get C hP (k := b) (fl_l0 hb) 0 (fl_sh hb) rfl inWX1 7 (by decide) wt64 (v := .int (σ.1 b 7)) rfl dX1_removeLatestStep_1 ?_
    refine lv_if_le (tgt := 17) hx hb_ dX1_removeLatestStep_4 (by decide) (fun hc => ?_) (fun hc => ?_)
    · replace h := ift h hc
      exact bk_17 σ y h hK _ _ _ hP (lv_sub hl [] rfl)
    · replace h := iff' h hc
      refine lv_aload_n hx hb_ dX1_removeLatestStep_7 rfl (lv_at hl 0 rfl) ?_
      refine lv_dup hx hb_ dX1_removeLatestStep_8 rfl ?_
      refine w_get C hP (k := b) (fl_l0 hb) 0 (fl_sh hb) rfl inWX1 7 (by decide) wt64 (v := .int (σ.1 b 7)) rfl dX1_removeLatestStep_9 ?_
      refine lv_iconst (v := 1) hx hb_ dX1_removeLatestStep_12 (by decide) ?_
      refine lv_isub hx hb_ dX1_removeLatestStep_13 ?_
      obtain ⟨s1, hs1, h⟩ := bnd h
      refine w_puti C hP (k := b) (fl_l0 hb) 0 (fl_sh hb) rfl inWX1 tyX1 tyX1_ok nmX1 7 (by decide) wt64 rfl rfl rfl rfl hs1 dX1_removeLatestStep_14 (fun H locs hP => ?_)
      exact bk_17 s1 y h hK _ _ _ hP (lv_sub hl [] rfl)
  exact bk r0 hf rfl _ _ hP
theorem hd_X1_directlyBehind : yX1_directlyBehind.cls = RX1 ∧ yX1_directlyBehind.cls ≠ "java/lang/invoke/MethodHandle" ∧ yX1_directlyBehind.cls ≠ "java/lang/invoke/VarHandle" ∧ (parseMethodDescriptor yX1_directlyBehind.desc).map (fun d => d.parameters.length) = some 1 := by decide +kernel
set_option maxHeartbeats 4000000 in
set_option maxRecDepth 100000 in
theorem c_X1_directlyBehind (l : Launch) (D : va_G) (aI aL : ClassId) (ad : Nat → Nat) (inj : Inj ad 42) (sz : Nat) (σ : Sg) (b : Nat) (hb : isFl b) (v1 : Int32) (r0 : Int32) (hf : f_X1_directlyBehind b v1 σ = some r0) : Met l yX1_directlyBehind (wS yX1_directlyBehind cX1_directlyBehind 4 (some .int)) (RM 2 42) (Pw D aI aL 42 shX ad sz σ [.ref (ad b), .int v1]) (Qi D aI aL 42 shX ad r0 σ sz) 0 0 (AA ad 42 sz) := by
  refine Mof (Qc := Qi D aI aL 42 shX ad r0 σ) (by decide) inj (Nat.le_of_ble_eq_true rfl) ?_
  intro p e s m args below meth c ls C hlk hr hP hl
  have hx := C.1.1
  have hb_ := C.1.2.1
  have hown := C.1.2.2.2.1
  have hts := C.1.2.2.2.2
  have hl : lv_has ls 4 [(0, .ref (ad b)), (1, .int v1)] := hl
  have lp_4 : ∀ (n_4 : Nat) (v2_4 : Int32) (v3_4 : Int32) (y : Int32), itr n_4 (fun s => f_X1_directlyBehind_4s b v1 s.1 s.2 σ) (v2_4, v3_4) = some y → (fun y => y = r0) y → ∀ (H : Heap) (locs : List Loc) (ls : Array Slot), HS D aI aL 42 shX ad σ s H locs → lv_has ls 4 [(0, .ref (ad b)), (1, .int v1), (2, .int v2_4), (3, .int v3_4)] → W p l e (RM 2 42) s m args below meth c H locs 0 0 (MQ below (Qi D aI aL 42 shX ad r0 σ s.heap.size) args s 0 0 (AA ad 42 s.heap.size)) (F0 m 4 ls []) := by
    intro n_4
    induction n_4 with
    | zero =>
      intro v2_4 v3_4 y h hK
      cases (show (none : Option Int32) = some y from h)
    | succ n_4 ih_4 =>
      have bk_32 : ∀ (v2_32 : Int32) (v3_32 : Int32) (y : ((Int32 × Int32) ⊕ Int32)), f_X1_directlyBehind_32 b v1 v2_32 v3_32 σ = some y → (KK n_4 (fun s => f_X1_directlyBehind_4s b v1 s.1 s.2 σ) (fun y => y = r0)) y → ∀ (H : Heap) (locs : List Loc) (ls : Array Slot), HS D aI aL 42 shX ad σ s H locs → lv_has ls 4 [(0, .ref (ad b)), (1, .int v1), (2, .int v2_32), (3, .int v3_32)] → W p l e (RM 2 42) s m args below meth c H locs 0 0 (MQ below (Qi D aI aL 42 shX ad r0 σ s.heap.size) args s 0 0 (AA ad 42 s.heap.size)) (F0 m 32 ls []) := by
        intro v2_32 v3_32 y h hK H locs ls hP hl
        unfold f_X1_directlyBehind_32 at h
        obtain ⟨x2, hx2, h⟩ := nm_inv h
        refine lv_iinc (v := x2) (lv' := [(3, .int x2), (0, .ref (ad b)), (1, .int v1), (2, .int v2_32)]) hx hb_ dX1_directlyBehind_32 hl (k := 3) rfl (by rw [hx2]; rfl) (by decide) rfl (fun ls hl => ?_)
        refine lv_goto (tgt := 4) hx hb_ dX1_directlyBehind_35 (by decide) ?_
        obtain rfl := Option.some.inj h
        obtain ⟨y2, h, hK⟩ := hK
        exact ih_4 v2_32 x2 y2 h hK _ _ _ hP (lv_sub hl [1, 2, 3, 0] rfl)
      intro v2_4 v3_4 y h hK H locs ls hP hl
      obtain ⟨y, h, hK⟩ := itr_inv (K := (fun y => y = r0)) h hK
      replace h : f_X1_directlyBehind_4s b v1 v2_4 v3_4 σ = some y := h
      unfold f_X1_directlyBehind_4s at h
      refine lv_iload_n hx hb_ dX1_directlyBehind_4 rfl (lv_at hl 3 rfl) ?_
      refine lv_aload_n hx hb_ dX1_directlyBehind_5 rfl (lv_at hl 0 rfl) ?_
      refine w_get C hP (k := b) (fl_l0 hb) 0 (fl_sh hb) rfl inWX1 7 (by decide) wt64 (v := .int (σ.1 b 7)) rfl dX1_directlyBehind_6 ?_
      refine lv_icmp_ge (tgt := 38) hx hb_ dX1_directlyBehind_9 (by decide) (fun hc => ?_) (fun hc => ?_)
      · replace h := ift h hc
        refine lv_iload_n hx hb_ dX1_directlyBehind_38 rfl (lv_at hl 2 rfl) ?_
        obtain rfl := Option.some.inj h
        have hK : (v2_4 : Int32) = r0 := hK
        exact w_iret C hlk hr hP hK rfl dX1_directlyBehind_39
      · replace h := iff' h hc
        refine lv_aload_n hx hb_ dX1_directlyBehind_12 rfl (lv_at hl 0 rfl) ?_
        refine lv_iload_n hx hb_ dX1_directlyBehind_13 rfl (lv_at hl 3 rfl) ?_
        obtain ⟨q1, hq1, h⟩ := bnd h
        refine w_ci (w_rV (As := [.int v3_4]) (rest := []) C hP (k := b) (c_X1_originsOf l D aI aL ad inj _ σ b hb v3_4 q1 hq1) (gV wt667 wt645 wt646 wt4 wt647) 1 hd_X1_originsOf ⟨Nat.le_of_ble_eq_true rfl, Nat.le_of_ble_eq_true rfl⟩ (fl_l0 hb) 0 (fl_sh hb) rfl rfl hl.1 rfl (Nat.le_of_ble_eq_true rfl) dX1_directlyBehind_14) hP (fun H locs hP => ?_)
        refine lv_iload_n hx hb_ dX1_directlyBehind_17 rfl (lv_at hl 1 rfl) ?_
        refine lv_iand hx hb_ dX1_directlyBehind_18 ?_
        refine lv_if_eq (tgt := 32) hx hb_ dX1_directlyBehind_19 (by decide) (fun hc => ?_) (fun hc => ?_)
        · replace h := ift h hc
          exact bk_32 v2_4 v3_4 y h hK _ _ _ hP (lv_sub hl [0, 1, 2, 3] rfl)
        · replace h := iff' h hc
          refine lv_iload_n hx hb_ dX1_directlyBehind_22 rfl (lv_at hl 2 rfl) ?_
          refine lv_iconst (v := 1) hx hb_ dX1_directlyBehind_23 (by decide) ?_
          refine lv_aload_n hx hb_ dX1_directlyBehind_24 rfl (lv_at hl 0 rfl) ?_
          refine lv_iload_n hx hb_ dX1_directlyBehind_25 rfl (lv_at hl 3 rfl) ?_
          obtain ⟨q3, hq3, h⟩ := bnd h
          refine w_ci (w_rV (As := [.int v3_4]) (rest := [.int 1, .int v2_4]) C hP (k := b) (c_X1_endOf l D aI aL ad inj _ σ b hb v3_4 q3 hq3) (gV wt438 wt412 wt413 wt4 wt414) 1 hd_X1_endOf ⟨Nat.le_of_ble_eq_true rfl, Nat.le_of_ble_eq_true rfl⟩ (fl_l0 hb) 0 (fl_sh hb) rfl rfl hl.1 rfl (Nat.le_of_ble_eq_true rfl) dX1_directlyBehind_26) hP (fun H locs hP => ?_)
          refine lv_ishl hx hb_ dX1_directlyBehind_29 ?_
          refine lv_ior hx hb_ dX1_directlyBehind_30 ?_
          obtain ⟨x4, hx4, h⟩ := nm_inv h
          refine w_ni hx4 ?_
          refine lv_istore_n (lv' := [(2, .int x4), (0, .ref (ad b)), (1, .int v1), (3, .int v3_4)]) hx hb_ dX1_directlyBehind_31 rfl hl (by decide) rfl (fun ls hl => ?_)
          exact bk_32 x4 v3_4 y h hK _ _ _ hP (lv_sub hl [1, 2, 0, 3] rfl)
  have bk_4 : ∀ (v2_4 : Int32) (v3_4 : Int32) (y : Int32), f_X1_directlyBehind_4 b v1 v2_4 v3_4 σ = some y → (fun y => y = r0) y → ∀ (H : Heap) (locs : List Loc) (ls : Array Slot), HS D aI aL 42 shX ad σ s H locs → lv_has ls 4 [(0, .ref (ad b)), (1, .int v1), (2, .int v2_4), (3, .int v3_4)] → W p l e (RM 2 42) s m args below meth c H locs 0 0 (MQ below (Qi D aI aL 42 shX ad r0 σ s.heap.size) args s 0 0 (AA ad 42 s.heap.size)) (F0 m 4 ls []) := fun v2_4 v3_4 y h hK => lp_4 3000 v2_4 v3_4 y h hK
  have bk : ∀ (y : Int32), f_X1_directlyBehind b v1 σ = some y → y = r0 → ∀ (H : Heap) (locs : List Loc), HS D aI aL 42 shX ad σ s H locs → W p l e (RM 2 42) s m args below meth c H locs 0 0 (MQ below (Qi D aI aL 42 shX ad r0 σ s.heap.size) args s 0 0 (AA ad 42 s.heap.size)) (F0 m 0 ls []) := by
    intro y h hK H locs hP
    unfold f_X1_directlyBehind at h
    refine lv_iconst (v := 0) hx hb_ dX1_directlyBehind_0 (by decide) ?_
    refine lv_istore_n (lv' := [(2, .int 0), (0, .ref (ad b)), (1, .int v1)]) hx hb_ dX1_directlyBehind_1 rfl hl (by decide) rfl (fun ls hl => ?_)
    refine lv_iconst (v := 0) hx hb_ dX1_directlyBehind_2 (by decide) ?_
    refine lv_istore_n (lv' := [(3, .int 0), (2, .int 0), (0, .ref (ad b)), (1, .int v1)]) hx hb_ dX1_directlyBehind_3 rfl hl (by decide) rfl (fun ls hl => ?_)
    exact bk_4 0 0 y h hK _ _ _ hP (lv_sub hl [2, 3, 1, 0] rfl)
  exact bk r0 hf rfl _ _ hP
theorem hd_X2_size : yX2_size.cls = RX2 ∧ yX2_size.cls ≠ "java/lang/invoke/MethodHandle" ∧ yX2_size.cls ≠ "java/lang/invoke/VarHandle" ∧ (parseMethodDescriptor yX2_size.desc).map (fun d => d.parameters.length) = some 0 := by decide +kernel
set_option maxHeartbeats 4000000 in
set_option maxRecDepth 100000 in
theorem c_X2_size (l : Launch) (D : va_G) (aI aL : ClassId) (ad : Nat → Nat) (inj : Inj ad 42) (sz : Nat) (σ : Sg) (r0 : Int32) (hf : f_X2_size σ = some r0) : Met l yX2_size (wS yX2_size cX2_size 1 (some .int)) (RM 0 0) (Pw D aI aL 42 shX ad sz σ [.ref (ad 33)]) (Qi D aI aL 42 shX ad r0 σ sz) 0 0 (AA ad 42 sz) := by
  refine Mof (Qc := Qi D aI aL 42 shX ad r0 σ) (by decide) inj (Nat.le_of_ble_eq_true rfl) ?_
  intro p e s m args below meth c ls C hlk hr hP hl
  have hx := C.1.1
  have hb_ := C.1.2.1
  have hown := C.1.2.2.2.1
  have hts := C.1.2.2.2.2
  have hl : lv_has ls 1 [(0, .ref (ad 33))] := hl
  have bk : ∀ (y : Int32), f_X2_size σ = some y → y = r0 → ∀ (H : Heap) (locs : List Loc), HS D aI aL 42 shX ad σ s H locs → W p l e (RM 0 0) s m args below meth c H locs 0 0 (MQ below (Qi D aI aL 42 shX ad r0 σ s.heap.size) args s 0 0 (AA ad 42 s.heap.size)) (F0 m 0 ls []) := by
    intro y h hK H locs hP
    unfold f_X2_size at h
    refine lv_aload_n hx hb_ dX2_size_0 rfl (lv_at hl 0 rfl) ?_
    refine w_get C hP (k := 33) (by decide) 1 rfl rfl inWX2 2 (by decide) wt99 (v := .int (σ.1 33 2)) rfl dX2_size_1 ?_
    obtain rfl := Option.some.inj h
    have hK : ((σ.1 33 2) : Int32) = r0 := hK
    exact w_iret C hlk hr hP hK rfl dX2_size_4
  exact bk r0 hf rfl _ _ hP
theorem hd_X2_clear : yX2_clear.cls = RX2 ∧ yX2_clear.cls ≠ "java/lang/invoke/MethodHandle" ∧ yX2_clear.cls ≠ "java/lang/invoke/VarHandle" ∧ (parseMethodDescriptor yX2_clear.desc).map (fun d => d.parameters.length) = some 0 := by decide +kernel
set_option maxHeartbeats 4000000 in
set_option maxRecDepth 100000 in
theorem c_X2_clear (l : Launch) (D : va_G) (aI aL : ClassId) (ad : Nat → Nat) (inj : Inj ad 42) (sz : Nat) (σ : Sg) (r0 : Sg) (hf : f_X2_clear σ = some r0) : Met l yX2_clear (wS yX2_clear cX2_clear 1 (none : Option Jvm.ClassFile.FieldType)) (RM 0 0) (Pw D aI aL 42 shX ad sz σ [.ref (ad 33)]) (Qv D aI aL 42 shX ad r0 sz) 0 0 (AA ad 42 sz) := by
  refine Mof (Qc := Qv D aI aL 42 shX ad r0) (by decide) inj (Nat.le_of_ble_eq_true rfl) ?_
  intro p e s m args below meth c ls C hlk hr hP hl
  have hx := C.1.1
  have hb_ := C.1.2.1
  have hown := C.1.2.2.2.1
  have hts := C.1.2.2.2.2
  have hl : lv_has ls 1 [(0, .ref (ad 33))] := hl
  have bk : ∀ (y : Sg), f_X2_clear σ = some y → y = r0 → ∀ (H : Heap) (locs : List Loc), HS D aI aL 42 shX ad σ s H locs → W p l e (RM 0 0) s m args below meth c H locs 0 0 (MQ below (Qv D aI aL 42 shX ad r0 s.heap.size) args s 0 0 (AA ad 42 s.heap.size)) (F0 m 0 ls []) := by
    intro y h hK H locs hP
    unfold f_X2_clear at h
    refine lv_aload_n hx hb_ dX2_clear_0 rfl (lv_at hl 0 rfl) ?_
    refine lv_iconst (v := 0) hx hb_ dX2_clear_1 (by decide) ?_
    obtain ⟨s1, hs1, h⟩ := bnd h
    refine w_puti C hP (k := 33) (by decide) 1 rfl rfl inWX2 tyX2 tyX2_ok nmX2 2 (by decide) wt99 rfl rfl rfl rfl hs1 dX2_clear_2 (fun H locs hP => ?_)
    obtain rfl := Option.some.inj h
    have hK : s1 = r0 := hK
    exact w_vret C hlk hr hP hK dX2_clear_5
  exact bk r0 hf rfl _ _ hP
theorem hd_X2_forgetOldest : yX2_forgetOldest.cls = RX2 ∧ yX2_forgetOldest.cls ≠ "java/lang/invoke/MethodHandle" ∧ yX2_forgetOldest.cls ≠ "java/lang/invoke/VarHandle" ∧ (parseMethodDescriptor yX2_forgetOldest.desc).map (fun d => d.parameters.length) = some 0 := by decide +kernel
set_option maxHeartbeats 4000000 in
set_option maxRecDepth 100000 in
theorem c_X2_forgetOldest (l : Launch) (D : va_G) (aI aL : ClassId) (ad : Nat → Nat) (inj : Inj ad 42) (sz : Nat) (σ : Sg) (r0 : Sg) (hf : f_X2_forgetOldest σ = some r0) : Met l yX2_forgetOldest (wS yX2_forgetOldest cX2_forgetOldest 2 (none : Option Jvm.ClassFile.FieldType)) (RM 1 22) (Pw D aI aL 42 shX ad sz σ [.ref (ad 33)]) (Qv D aI aL 42 shX ad r0 sz) 0 0 (AA ad 42 sz) := by
  refine Mof (Qc := Qv D aI aL 42 shX ad r0) (by decide) inj (Nat.le_of_ble_eq_true rfl) ?_
  intro p e s m args below meth c ls C hlk hr hP hl
  have hx := C.1.1
  have hb_ := C.1.2.1
  have hown := C.1.2.2.2.1
  have hts := C.1.2.2.2.2
  have hl : lv_has ls 2 [(0, .ref (ad 33))] := hl
  have lp_2 : ∀ (n_2 : Nat) (v1_2 : Int32) (s_2 : Sg) (y : Sg), itr n_2 (fun s => f_X2_forgetOldest_2s s.1 s.2) (v1_2, s_2) = some y → (fun y => y = r0) y → ∀ (H : Heap) (locs : List Loc) (ls : Array Slot), HS D aI aL 42 shX ad s_2 s H locs → lv_has ls 2 [(0, .ref (ad 33)), (1, .int v1_2)] → W p l e (RM 1 22) s m args below meth c H locs 0 0 (MQ below (Qv D aI aL 42 shX ad r0 s.heap.size) args s 0 0 (AA ad 42 s.heap.size)) (F0 m 2 ls []) := by
    intro n_2
    induction n_2 with
    | zero =>
      intro v1_2 s_2 y h hK
      cases (show (none : Option Sg) = some y from h)
    | succ n_2 ih_2 =>
      intro v1_2 s_2 y h hK H locs ls hP hl
      obtain ⟨y, h, hK⟩ := itr_inv (K := (fun y => y = r0)) h hK
      replace h : f_X2_forgetOldest_2s v1_2 s_2 = some y := h
      unfold f_X2_forgetOldest_2s at h
      refine lv_iload_n hx hb_ dX2_forgetOldest_2 rfl (lv_at hl 1 rfl) ?_
      refine lv_aload_n hx hb_ dX2_forgetOldest_3 rfl (lv_at hl 0 rfl) ?_
      refine w_get C hP (k := 33) (by decide) 1 rfl rfl inWX2 2 (by decide) wt99 (v := .int (s_2.1 33 2)) rfl dX2_forgetOldest_4 ?_
      refine lv_icmp_ge (tgt := 52) hx hb_ dX2_forgetOldest_7 (by decide) (fun hc => ?_) (fun hc => ?_)
      · replace h := ift h hc
        refine lv_aload_n hx hb_ dX2_forgetOldest_52 rfl (lv_at hl 0 rfl) ?_
        refine lv_dup hx hb_ dX2_forgetOldest_53 rfl ?_
        refine w_get C hP (k := 33) (by decide) 1 rfl rfl inWX2 2 (by decide) wt99 (v := .int (s_2.1 33 2)) rfl dX2_forgetOldest_54 ?_
        refine lv_iconst (v := 1) hx hb_ dX2_forgetOldest_57 (by decide) ?_
        refine lv_isub hx hb_ dX2_forgetOldest_58 ?_
        obtain ⟨s1, hs1, h⟩ := bnd h
        refine w_puti C hP (k := 33) (by decide) 1 rfl rfl inWX2 tyX2 tyX2_ok nmX2 2 (by decide) wt99 rfl rfl rfl rfl hs1 dX2_forgetOldest_59 (fun H locs hP => ?_)
        obtain rfl := Option.some.inj h
        have hK : s1 = r0 := hK
        exact w_vret C hlk hr hP hK dX2_forgetOldest_62
      · replace h := iff' h hc
        refine lv_aload_n hx hb_ dX2_forgetOldest_10 rfl (lv_at hl 0 rfl) ?_
        refine w_get C hP (k := 33) (by decide) 1 rfl rfl inWX2 0 (by decide) wt97 (v := .ref (ad 34)) rfl dX2_forgetOldest_11 ?_
        refine lv_iload_n hx hb_ dX2_forgetOldest_14 rfl (lv_at hl 1 rfl) ?_
        refine lv_iconst (v := 1) hx hb_ dX2_forgetOldest_15 (by decide) ?_
        refine lv_isub hx hb_ dX2_forgetOldest_16 ?_
        refine lv_aload_n hx hb_ dX2_forgetOldest_17 rfl (lv_at hl 0 rfl) ?_
        refine w_get C hP (k := 33) (by decide) 1 rfl rfl inWX2 0 (by decide) wt97 (v := .ref (ad 34)) rfl dX2_forgetOldest_18 ?_
        refine lv_iload_n hx hb_ dX2_forgetOldest_21 rfl (lv_at hl 1 rfl) ?_
        obtain ⟨q2, hq2, h⟩ := bnd h
        refine w_ci (w_rN (As := [.ref (ad 34), .int v1_2]) (rest := [.int (v1_2 - (1 : Int32)), .ref (ad 34)]) C hP (c_X8_at l D aI aL ad inj _ s_2 34 8 (by decide) rfl v1_2 q2 hq2) nw15 wt225 wt1 wt226 2 hd_X8_at ⟨Nat.le_of_ble_eq_true rfl, Nat.le_of_ble_eq_true rfl⟩ rfl hl.1 rfl (Nat.le_of_ble_eq_true rfl) dX2_forgetOldest_22) hP (fun H locs hP => ?_)
        obtain ⟨q3, hq3, h⟩ := bnd h
        refine w_cv (w_rN (As := [.ref (ad 34), .int (v1_2 - (1 : Int32)), .int q2]) (rest := []) C hP (c_X8_put l D aI aL ad inj _ s_2 34 8 (by decide) rfl (v1_2 - (1 : Int32)) q2 q3 hq3) nw16 wt191 wt1 wt192 3 hd_X8_put ⟨Nat.le_of_ble_eq_true rfl, Nat.le_of_ble_eq_true rfl⟩ rfl hl.1 rfl (Nat.le_of_ble_eq_true rfl) dX2_forgetOldest_25) hP (fun H locs hP => ?_)
        refine lv_aload_n hx hb_ dX2_forgetOldest_28 rfl (lv_at hl 0 rfl) ?_
        refine w_get C hP (k := 33) (by decide) 1 rfl rfl inWX2 1 (by decide) wt98 (v := .ref (ad 35)) rfl dX2_forgetOldest_29 ?_
        refine lv_iload_n hx hb_ dX2_forgetOldest_32 rfl (lv_at hl 1 rfl) ?_
        refine lv_iconst (v := 1) hx hb_ dX2_forgetOldest_33 (by decide) ?_
        refine lv_isub hx hb_ dX2_forgetOldest_34 ?_
        refine lv_aload_n hx hb_ dX2_forgetOldest_35 rfl (lv_at hl 0 rfl) ?_
        refine w_get C hP (k := 33) (by decide) 1 rfl rfl inWX2 1 (by decide) wt98 (v := .ref (ad 35)) rfl dX2_forgetOldest_36 ?_
        refine lv_iload_n hx hb_ dX2_forgetOldest_39 rfl (lv_at hl 1 rfl) ?_
        obtain ⟨q4, hq4, h⟩ := bnd h
        refine w_ci (w_rN (As := [.ref (ad 35), .int v1_2]) (rest := [.int (v1_2 - (1 : Int32)), .ref (ad 35)]) C hP (c_X8_at l D aI aL ad inj _ q3 35 8 (by decide) rfl v1_2 q4 hq4) nw15 wt225 wt1 wt226 2 hd_X8_at ⟨Nat.le_of_ble_eq_true rfl, Nat.le_of_ble_eq_true rfl⟩ rfl hl.1 rfl (Nat.le_of_ble_eq_true rfl) dX2_forgetOldest_40) hP (fun H locs hP => ?_)
        obtain ⟨q5, hq5, h⟩ := bnd h
        refine w_cv (w_rN (As := [.ref (ad 35), .int (v1_2 - (1 : Int32)), .int q4]) (rest := []) C hP (c_X8_put l D aI aL ad inj _ q3 35 8 (by decide) rfl (v1_2 - (1 : Int32)) q4 q5 hq5) nw16 wt191 wt1 wt192 3 hd_X8_put ⟨Nat.le_of_ble_eq_true rfl, Nat.le_of_ble_eq_true rfl⟩ rfl hl.1 rfl (Nat.le_of_ble_eq_true rfl) dX2_forgetOldest_43) hP (fun H locs hP => ?_)
        obtain ⟨x6, hx6, h⟩ := nm_inv h
        refine lv_iinc (v := x6) (lv' := [(1, .int x6), (0, .ref (ad 33))]) hx hb_ dX2_forgetOldest_46 hl (k := 1) rfl (by rw [hx6]; rfl) (by decide) rfl (fun ls hl => ?_)
        refine lv_goto (tgt := 2) hx hb_ dX2_forgetOldest_49 (by decide) ?_
        obtain rfl := Option.some.inj h
        obtain ⟨y2, h, hK⟩ := hK
        exact ih_2 x6 q5 y2 h hK _ _ _ hP (lv_sub hl [1, 0] rfl)
  have bk_2 : ∀ (v1_2 : Int32) (s_2 : Sg) (y : Sg), f_X2_forgetOldest_2 v1_2 s_2 = some y → (fun y => y = r0) y → ∀ (H : Heap) (locs : List Loc) (ls : Array Slot), HS D aI aL 42 shX ad s_2 s H locs → lv_has ls 2 [(0, .ref (ad 33)), (1, .int v1_2)] → W p l e (RM 1 22) s m args below meth c H locs 0 0 (MQ below (Qv D aI aL 42 shX ad r0 s.heap.size) args s 0 0 (AA ad 42 s.heap.size)) (F0 m 2 ls []) := fun v1_2 s_2 y h hK => lp_2 3000 v1_2 s_2 y h hK
  have bk : ∀ (y : Sg), f_X2_forgetOldest σ = some y → y = r0 → ∀ (H : Heap) (locs : List Loc), HS D aI aL 42 shX ad σ s H locs → W p l e (RM 1 22) s m args below meth c H locs 0 0 (MQ below (Qv D aI aL 42 shX ad r0 s.heap.size) args s 0 0 (AA ad 42 s.heap.size)) (F0 m 0 ls []) := by
    intro y h hK H locs hP
    unfold f_X2_forgetOldest at h
    refine lv_iconst (v := 1) hx hb_ dX2_forgetOldest_0 (by decide) ?_
    refine lv_istore_n (lv' := [(1, .int 1), (0, .ref (ad 33))]) hx hb_ dX2_forgetOldest_1 rfl hl (by decide) rfl (fun ls hl => ?_)
    exact bk_2 1 σ y h hK _ _ _ hP (lv_sub hl [1, 0] rfl)
  exact bk r0 hf rfl _ _ hP
theorem hd_X2_note : yX2_note.cls = RX2 ∧ yX2_note.cls ≠ "java/lang/invoke/MethodHandle" ∧ yX2_note.cls ≠ "java/lang/invoke/VarHandle" ∧ (parseMethodDescriptor yX2_note.desc).map (fun d => d.parameters.length) = some 2 := by decide +kernel
set_option maxHeartbeats 4000000 in
set_option maxRecDepth 100000 in
theorem c_X2_note (l : Launch) (D : va_G) (aI aL : ClassId) (ad : Nat → Nat) (inj : Inj ad 42) (sz : Nat) (σ : Sg) (v1 : Int32) (v2 : Int32) (r0 : Sg) (hf : f_X2_note v1 v2 σ = some r0) : Met l yX2_note (wS yX2_note cX2_note 3 (none : Option Jvm.ClassFile.FieldType)) (RM 2 43) (Pw D aI aL 42 shX ad sz σ [.ref (ad 33), .int v1, .int v2]) (Qv D aI aL 42 shX ad r0 sz) 0 0 (AA ad 42 sz) := by
  refine Mof (Qc := Qv D aI aL 42 shX ad r0) (by decide) inj (Nat.le_of_ble_eq_true rfl) ?_
  intro p e s m args below meth c ls C hlk hr hP hl
  have hx := C.1.1
  have hb_ := C.1.2.1
  have hown := C.1.2.2.2.1
  have hts := C.1.2.2.2.2
  have hl : lv_has ls 3 [(0, .ref (ad 33)), (1, .int v1), (2, .int v2)] := hl
  have bk_13 : ∀ (s_13 : Sg) (y : Sg), f_X2_note_13 v1 v2 s_13 = some y → (fun y => y = r0) y → ∀ (H : Heap) (locs : List Loc) (ls : Array Slot), HS D aI aL 42 shX ad s_13 s H locs → lv_has ls 3 [(0, .ref (ad 33)), (1, .int v1), (2, .int v2)] → W p l e (RM 2 43) s m args below meth c H locs 0 0 (MQ below (Qv D aI aL 42 shX ad r0 s.heap.size) args s 0 0 (AA ad 42 s.heap.size)) (F0 m 13 ls []) := by
    intro s_13 y h hK H locs ls hP hl
    unfold f_X2_note_13 at h
    refine lv_aload_n hx hb_ dX2_note_13 rfl (lv_at hl 0 rfl) ?_
    refine w_get C hP (k := 33) (by decide) 1 rfl rfl inWX2 0 (by decide) wt97 (v := .ref (ad 34)) rfl dX2_note_14 ?_
    refine lv_aload_n hx hb_ dX2_note_17 rfl (lv_at hl 0 rfl) ?_
    refine w_get C hP (k := 33) (by decide) 1 rfl rfl inWX2 2 (by decide) wt99 (v := .int (s_13.1 33 2)) rfl dX2_note_18 ?_
    refine lv_iload_n hx hb_ dX2_note_21 rfl (lv_at hl 1 rfl) ?_
    obtain ⟨q1, hq1, h⟩ := bnd h
    refine w_cv (w_rN (As := [.ref (ad 34), .int (s_13.1 33 2), .int v1]) (rest := []) C hP (c_X8_put l D aI aL ad inj _ s_13 34 8 (by decide) rfl (s_13.1 33 2) v1 q1 hq1) nw16 wt191 wt1 wt192 3 hd_X8_put ⟨Nat.le_of_ble_eq_true rfl, Nat.le_of_ble_eq_true rfl⟩ rfl hl.1 rfl (Nat.le_of_ble_eq_true rfl) dX2_note_22) hP (fun H locs hP => ?_)
    refine lv_aload_n hx hb_ dX2_note_25 rfl (lv_at hl 0 rfl) ?_
    refine w_get C hP (k := 33) (by decide) 1 rfl rfl inWX2 1 (by decide) wt98 (v := .ref (ad 35)) rfl dX2_note_26 ?_
    refine lv_aload_n hx hb_ dX2_note_29 rfl (lv_at hl 0 rfl) ?_
    refine w_get C hP (k := 33) (by decide) 1 rfl rfl inWX2 2 (by decide) wt99 (v := .int (q1.1 33 2)) rfl dX2_note_30 ?_
    refine lv_iload_n hx hb_ dX2_note_33 rfl (lv_at hl 2 rfl) ?_
    obtain ⟨q2, hq2, h⟩ := bnd h
    refine w_cv (w_rN (As := [.ref (ad 35), .int (q1.1 33 2), .int v2]) (rest := []) C hP (c_X8_put l D aI aL ad inj _ q1 35 8 (by decide) rfl (q1.1 33 2) v2 q2 hq2) nw16 wt191 wt1 wt192 3 hd_X8_put ⟨Nat.le_of_ble_eq_true rfl, Nat.le_of_ble_eq_true rfl⟩ rfl hl.1 rfl (Nat.le_of_ble_eq_true rfl) dX2_note_34) hP (fun H locs hP => ?_)
    refine lv_aload_n hx hb_ dX2_note_37 rfl (lv_at hl 0 rfl) ?_
    refine lv_dup hx hb_ dX2_note_38 rfl ?_
    refine w_get C hP (k := 33) (by decide) 1 rfl rfl inWX2 2 (by decide) wt99 (v := .int (q2.1 33 2)) rfl dX2_note_39 ?_
    refine lv_iconst (v := 1) hx hb_ dX2_note_42 (by decide) ?_
    refine lv_iadd hx hb_ dX2_note_43 ?_
    obtain ⟨s3, hs3, h⟩ := bnd h
    refine w_puti C hP (k := 33) (by decide) 1 rfl rfl inWX2 tyX2 tyX2_ok nmX2 2 (by decide) wt99 rfl rfl rfl rfl hs3 dX2_note_44 (fun H locs hP => ?_)
    obtain rfl := Option.some.inj h
    have hK : s3 = r0 := hK
    exact w_vret C hlk hr hP hK dX2_note_47
  have bk : ∀ (y : Sg), f_X2_note v1 v2 σ = some y → y = r0 → ∀ (H : Heap) (locs : List Loc), HS D aI aL 42 shX ad σ s H locs → W p l e (RM 2 43) s m args below meth c H locs 0 0 (MQ below (Qv D aI aL 42 shX ad r0 s.heap.size) args s 0 0 (AA ad 42 s.heap.size)) (F0 m 0 ls []) := by
    intro y h hK H locs hP
    unfold f_X2_note at h
    refine lv_aload_n hx hb_ dX2_note_0 rfl (lv_at hl 0 rfl) ?_
    refine w_get C hP (k := 33) (by decide) 1 rfl rfl inWX2 2 (by decide) wt99 (v := .int (σ.1 33 2)) rfl dX2_note_1 ?_
    refine lv_bipush (v := 8) hx hb_ dX2_note_4 (by decide) ?_
    refine lv_icmp_lt (tgt := 13) hx hb_ dX2_note_6 (by decide) (fun hc => ?_) (fun hc => ?_)
    · replace h := ift h hc
      exact bk_13 σ y h hK _ _ _ hP (lv_sub hl [0, 1, 2] rfl)
    · replace h := iff' h hc
      refine lv_aload_n hx hb_ dX2_note_9 rfl (lv_at hl 0 rfl) ?_
      obtain ⟨q4, hq4, h⟩ := bnd h
      refine w_cv (w_rV (As := []) (rest := []) C hP (k := 33) (c_X2_forgetOldest l D aI aL ad inj _ σ q4 hq4) (gV wt447 wt449 wp7 wt5 wt450) 0 hd_X2_forgetOldest ⟨Nat.le_of_ble_eq_true rfl, Nat.le_of_ble_eq_true rfl⟩ (by decide) 1 rfl rfl rfl hl.1 rfl (Nat.le_of_ble_eq_true rfl) dX2_note_10) hP (fun H locs hP => ?_)
      exact bk_13 q4 y h hK _ _ _ hP (lv_sub hl [0, 1, 2] rfl)
  exact bk r0 hf rfl _ _ hP
theorem hd_X2_noteGone : yX2_noteGone.cls = RX2 ∧ yX2_noteGone.cls ≠ "java/lang/invoke/MethodHandle" ∧ yX2_noteGone.cls ≠ "java/lang/invoke/VarHandle" ∧ (parseMethodDescriptor yX2_noteGone.desc).map (fun d => d.parameters.length) = some 1 := by decide +kernel
set_option maxHeartbeats 4000000 in
set_option maxRecDepth 100000 in
theorem c_X2_noteGone (l : Launch) (D : va_G) (aI aL : ClassId) (ad : Nat → Nat) (inj : Inj ad 42) (sz : Nat) (σ : Sg) (v1 : Int32) (r0 : Sg) (hf : f_X2_noteGone v1 σ = some r0) : Met l yX2_noteGone (wS yX2_noteGone cX2_noteGone 2 (none : Option Jvm.ClassFile.FieldType)) (RM 3 65) (Pw D aI aL 42 shX ad sz σ [.ref (ad 33), .int v1]) (Qv D aI aL 42 shX ad r0 sz) 0 0 (AA ad 42 sz) := by
  refine Mof (Qc := Qv D aI aL 42 shX ad r0) (by decide) inj (Nat.le_of_ble_eq_true rfl) ?_
  intro p e s m args below meth c ls C hlk hr hP hl
  have hx := C.1.1
  have hb_ := C.1.2.1
  have hown := C.1.2.2.2.1
  have hts := C.1.2.2.2.2
  have hl : lv_has ls 2 [(0, .ref (ad 33)), (1, .int v1)] := hl
  have bk : ∀ (y : Sg), f_X2_noteGone v1 σ = some y → y = r0 → ∀ (H : Heap) (locs : List Loc), HS D aI aL 42 shX ad σ s H locs → W p l e (RM 3 65) s m args below meth c H locs 0 0 (MQ below (Qv D aI aL 42 shX ad r0 s.heap.size) args s 0 0 (AA ad 42 s.heap.size)) (F0 m 0 ls []) := by
    intro y h hK H locs hP
    unfold f_X2_noteGone at h
    refine lv_aload_n hx hb_ dX2_noteGone_0 rfl (lv_at hl 0 rfl) ?_
    refine lv_iconst (v := 0) hx hb_ dX2_noteGone_1 (by decide) ?_
    refine lv_iload_n hx hb_ dX2_noteGone_2 rfl (lv_at hl 1 rfl) ?_
    obtain ⟨q1, hq1, h⟩ := bnd h
    refine w_cv (w_rV (As := [.int 0, .int v1]) (rest := []) C hP (k := 33) (c_X2_note l D aI aL ad inj _ σ 0 v1 q1 hq1) (gV wt443 wt445 wp6 wt5 wt446) 2 hd_X2_note ⟨Nat.le_of_ble_eq_true rfl, Nat.le_of_ble_eq_true rfl⟩ (by decide) 1 rfl rfl rfl hl.1 rfl (Nat.le_of_ble_eq_true rfl) dX2_noteGone_3) hP (fun H locs hP => ?_)
    obtain rfl := Option.some.inj h
    have hK : q1 = r0 := hK
    exact w_vret C hlk hr hP hK dX2_noteGone_6
  exact bk r0 hf rfl _ _ hP
theorem hd_X2_noteOut : yX2_noteOut.cls = RX2 ∧ yX2_noteOut.cls ≠ "java/lang/invoke/MethodHandle" ∧ yX2_noteOut.cls ≠ "java/lang/invoke/VarHandle" ∧ (parseMethodDescriptor yX2_noteOut.desc).map (fun d => d.parameters.length) = some 2 := by decide +kernel
set_option maxHeartbeats 4000000 in
set_option maxRecDepth 100000 in
theorem c_X2_noteOut (l : Launch) (D : va_G) (aI aL : ClassId) (ad : Nat → Nat) (inj : Inj ad 42) (sz : Nat) (σ : Sg) (v1 : Int32) (v2 : Int32) (r0 : Sg) (hf : f_X2_noteOut v1 v2 σ = some r0) : Met l yX2_noteOut (wS yX2_noteOut cX2_noteOut 3 (none : Option Jvm.ClassFile.FieldType)) (RM 3 65) (Pw D aI aL 42 shX ad sz σ [.ref (ad 33), .int v1, .int v2]) (Qv D aI aL 42 shX ad r0 sz) 0 0 (AA ad 42 sz) := by
  refine Mof (Qc := Qv D aI aL 42 shX ad r0) (by decide) inj (Nat.le_of_ble_eq_true rfl) ?_
  intro p e s m args below meth c ls C hlk hr hP hl
  have hx := C.1.1
  have hb_ := C.1.2.1
  have hown := C.1.2.2.2.1
  have hts := C.1.2.2.2.2
  have hl : lv_has ls 3 [(0, .ref (ad 33)), (1, .int v1), (2, .int v2)] := hl
  have bk_10 : ∀ (t1_10 : Int32) (s_10 : Sg) (y : Sg), f_X2_noteOut_10 v1 t1_10 s_10 = some y → (fun y => y = r0) y → ∀ (H : Heap) (locs : List Loc) (ls : Array Slot), HS D aI aL 42 shX ad s_10 s H locs → lv_has ls 3 [(1, .int v1)] → W p l e (RM 3 65) s m args below meth c H locs 0 0 (MQ below (Qv D aI aL 42 shX ad r0 s.heap.size) args s 0 0 (AA ad 42 s.heap.size)) (F0 m 10 ls [.int t1_10, .ref (ad 33)]) := by
    intro t1_10 s_10 y h hK H locs ls hP hl
    unfold f_X2_noteOut_10 at h
    refine lv_iload_n hx hb_ dX2_noteOut_10 rfl (lv_at hl 0 rfl) ?_
    obtain ⟨q1, hq1, h⟩ := bnd h
    refine w_cv (w_rV (As := [.int t1_10, .int v1]) (rest := []) C hP (k := 33) (c_X2_note l D aI aL ad inj _ s_10 t1_10 v1 q1 hq1) (gV wt443 wt445 wp6 wt5 wt446) 2 hd_X2_note ⟨Nat.le_of_ble_eq_true rfl, Nat.le_of_ble_eq_true rfl⟩ (by decide) 1 rfl rfl rfl hl.1 rfl (Nat.le_of_ble_eq_true rfl) dX2_noteOut_11) hP (fun H locs hP => ?_)
    obtain rfl := Option.some.inj h
    have hK : q1 = r0 := hK
    exact w_vret C hlk hr hP hK dX2_noteOut_14
  have bk : ∀ (y : Sg), f_X2_noteOut v1 v2 σ = some y → y = r0 → ∀ (H : Heap) (locs : List Loc), HS D aI aL 42 shX ad σ s H locs → W p l e (RM 3 65) s m args below meth c H locs 0 0 (MQ below (Qv D aI aL 42 shX ad r0 s.heap.size) args s 0 0 (AA ad 42 s.heap.size)) (F0 m 0 ls []) := by
    intro y h hK H locs hP
    unfold f_X2_noteOut at h
    refine lv_aload_n hx hb_ dX2_noteOut_0 rfl (lv_at hl 0 rfl) ?_
    refine lv_iload_n hx hb_ dX2_noteOut_1 rfl (lv_at hl 2 rfl) ?_
    refine lv_if_eq (tgt := 9) hx hb_ dX2_noteOut_2 (by decide) (fun hc => ?_) (fun hc => ?_)
    · replace h := ift h hc
      refine lv_iconst (v := 1) hx hb_ dX2_noteOut_9 (by decide) ?_
      exact bk_10 1 σ y h hK _ _ _ hP (lv_sub hl [1] rfl)
    · replace h := iff' h hc
      refine lv_iconst (v := 2) hx hb_ dX2_noteOut_5 (by decide) ?_
      refine lv_goto (tgt := 10) hx hb_ dX2_noteOut_6 (by decide) ?_
      exact bk_10 2 σ y h hK _ _ _ hP (lv_sub hl [1] rfl)
  exact bk r0 hf rfl _ _ hP
theorem hd_X2_noteLaid : yX2_noteLaid.cls = RX2 ∧ yX2_noteLaid.cls ≠ "java/lang/invoke/MethodHandle" ∧ yX2_noteLaid.cls ≠ "java/lang/invoke/VarHandle" ∧ (parseMethodDescriptor yX2_noteLaid.desc).map (fun d => d.parameters.length) = some 0 := by decide +kernel
set_option maxHeartbeats 4000000 in
set_option maxRecDepth 100000 in
theorem c_X2_noteLaid (l : Launch) (D : va_G) (aI aL : ClassId) (ad : Nat → Nat) (inj : Inj ad 42) (sz : Nat) (σ : Sg) (r0 : Sg) (hf : f_X2_noteLaid σ = some r0) : Met l yX2_noteLaid (wS yX2_noteLaid cX2_noteLaid 1 (none : Option Jvm.ClassFile.FieldType)) (RM 3 65) (Pw D aI aL 42 shX ad sz σ [.ref (ad 33)]) (Qv D aI aL 42 shX ad r0 sz) 0 0 (AA ad 42 sz) := by
  refine Mof (Qc := Qv D aI aL 42 shX ad r0) (by decide) inj (Nat.le_of_ble_eq_true rfl) ?_
  intro p e s m args below meth c ls C hlk hr hP hl
  have hx := C.1.1
  have hb_ := C.1.2.1
  have hown := C.1.2.2.2.1
  have hts := C.1.2.2.2.2
  have hl : lv_has ls 1 [(0, .ref (ad 33))] := hl
  have bk : ∀ (y : Sg), f_X2_noteLaid σ = some y → y = r0 → ∀ (H : Heap) (locs : List Loc), HS D aI aL 42 shX ad σ s H locs → W p l e (RM 3 65) s m args below meth c H locs 0 0 (MQ below (Qv D aI aL 42 shX ad r0 s.heap.size) args s 0 0 (AA ad 42 s.heap.size)) (F0 m 0 ls []) := by
    intro y h hK H locs hP
    unfold f_X2_noteLaid at h
    refine lv_aload_n hx hb_ dX2_noteLaid_0 rfl (lv_at hl 0 rfl) ?_
    refine lv_iconst (v := 3) hx hb_ dX2_noteLaid_1 (by decide) ?_
    refine lv_iconst (v := 0) hx hb_ dX2_noteLaid_2 (by decide) ?_
    obtain ⟨q1, hq1, h⟩ := bnd h
    refine w_cv (w_rV (As := [.int 3, .int 0]) (rest := []) C hP (k := 33) (c_X2_note l D aI aL ad inj _ σ 3 0 q1 hq1) (gV wt443 wt445 wp6 wt5 wt446) 2 hd_X2_note ⟨Nat.le_of_ble_eq_true rfl, Nat.le_of_ble_eq_true rfl⟩ (by decide) 1 rfl rfl rfl hl.1 rfl (Nat.le_of_ble_eq_true rfl) dX2_noteLaid_3) hP (fun H locs hP => ?_)
    obtain rfl := Option.some.inj h
    have hK : q1 = r0 := hK
    exact w_vret C hlk hr hP hK dX2_noteLaid_6
  exact bk r0 hf rfl _ _ hP
