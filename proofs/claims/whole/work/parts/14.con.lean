theorem hd_X9_needs : yX9_needs.cls = RX9 ∧ yX9_needs.cls ≠ "java/lang/invoke/MethodHandle" ∧ yX9_needs.cls ≠ "java/lang/invoke/VarHandle" ∧ (parseMethodDescriptor yX9_needs.desc).map (fun d => d.parameters.length) = some 2 := by decide +kernel
set_option maxHeartbeats 4000000 in
set_option maxRecDepth 100000 in
theorem c_X9_needs (l : Launch) (D : va_G) (aI aL : ClassId) (ad : Nat → Nat) (inj : Inj ad 8) (sz : Nat) (σ : Sg) (v1 : Int32) (v2 : Int32) (r0 : Int32) (hf : f_X9_needs v1 v2 σ = some r0) : Met l yX9_needs (wS yX9_needs cX9_needs 8 (some .int)) (RM 3 69) (Pw D aI aL 8 shM ad sz σ [.ref (ad 0), .int v1, .int v2]) (Qi D aI aL 8 shM ad r0 σ sz) 0 0 (AA ad 8 sz) := by
  refine Mof (Qc := Qi D aI aL 8 shM ad r0 σ) (by decide) inj (Nat.le_of_ble_eq_true rfl) ?_
  intro p e s m args below meth c ls C hlk hr hP hl
  have hx := C.1.1
  have hb_ := C.1.2.1
  have hown := C.1.2.2.2.1
  have hts := C.1.2.2.2.2
  have hl : lv_has ls 8 [(0, .ref (ad 0)), (1, .int v1), (2, .int v2)] := hl
  have bk_18 : ∀ (y : Int32), f_X9_needs_18 σ = some y → (fun y => y = r0) y → ∀ (H : Heap) (locs : List Loc) (ls : Array Slot), HS D aI aL 8 shM ad σ s H locs → lv_has ls 8 [] → W p l e (RM 3 69) s m args below meth c H locs 0 0 (MQ below (Qi D aI aL 8 shM ad r0 σ s.heap.size) args s 0 0 (AA ad 8 s.heap.size)) (F0 m 18 ls []) := by
    intro y h hK H locs ls hP hl
    unfold f_X9_needs_18 at h
    refine lv_iconst (v := (-1)) hx hb_ dX9_needs_18 (by decide) ?_
    obtain rfl := Option.some.inj h
    have hK : ((-1) : Int32) = r0 := hK
    exact w_iret C hlk hr hP hK rfl dX9_needs_19
  have bk_188 : ∀ (t0_188 : Int32) (y : Int32), f_X9_needs_188 t0_188 σ = some y → (fun y => y = r0) y → ∀ (H : Heap) (locs : List Loc) (ls : Array Slot), HS D aI aL 8 shM ad σ s H locs → lv_has ls 8 [] → W p l e (RM 3 69) s m args below meth c H locs 0 0 (MQ below (Qi D aI aL 8 shM ad r0 σ s.heap.size) args s 0 0 (AA ad 8 s.heap.size)) (F0 m 188 ls [.int t0_188]) := by
    intro t0_188 y h hK H locs ls hP hl
    unfold f_X9_needs_188 at h
    obtain rfl := Option.some.inj h
    have hK : (t0_188 : Int32) = r0 := hK
    exact w_iret C hlk hr hP hK rfl dX9_needs_188
  have lp_119 : ∀ (v3_119 : Int32) (v5_119 : Int32) (n_119 : Nat) (v4_119 : Int32) (v6_119 : Int32) (y : Int32), itr n_119 (fun s => f_X9_needs_119s v1 v2 v3_119 s.1 v5_119 s.2 σ) (v4_119, v6_119) = some y → (fun y => y = r0) y → ∀ (H : Heap) (locs : List Loc) (ls : Array Slot), HS D aI aL 8 shM ad σ s H locs → lv_has ls 8 [(0, .ref (ad 0)), (1, .int v1), (2, .int v2), (3, .int v3_119), (4, .int v4_119), (5, .int v5_119), (6, .int v6_119)] → W p l e (RM 3 69) s m args below meth c H locs 0 0 (MQ below (Qi D aI aL 8 shM ad r0 σ s.heap.size) args s 0 0 (AA ad 8 s.heap.size)) (F0 m 119 ls []) := by
    intro v3_119 v5_119 n_119
    induction n_119 with
    | zero =>
      intro v4_119 v6_119 y h hK
      cases (show (none : Option Int32) = some y from h)
    | succ n_119 ih_119 =>
      have bk_168 : ∀ (v6_168 : Int32) (t0_168 : Int32) (t1_168 : Int32) (y : ((Int32 × Int32) ⊕ Int32)), f_X9_needs_168 v1 v2 v3_119 v5_119 v6_168 t0_168 t1_168 σ = some y → (KK n_119 (fun s => f_X9_needs_119s v1 v2 v3_119 s.1 v5_119 s.2 σ) (fun y => y = r0)) y → ∀ (H : Heap) (locs : List Loc) (ls : Array Slot), HS D aI aL 8 shM ad σ s H locs → lv_has ls 8 [(0, .ref (ad 0)), (1, .int v1), (2, .int v2), (3, .int v3_119), (5, .int v5_119), (6, .int v6_168)] → W p l e (RM 3 69) s m args below meth c H locs 0 0 (MQ below (Qi D aI aL 8 shM ad r0 σ s.heap.size) args s 0 0 (AA ad 8 s.heap.size)) (F0 m 168 ls [.int t1_168, .int t0_168]) := by
        intro v6_168 t0_168 t1_168 y h hK H locs ls hP hl
        unfold f_X9_needs_168 at h
        refine lv_ior hx hb_ dX9_needs_168 ?_
        obtain ⟨x8, hx8, h⟩ := nm_inv h
        refine w_ni hx8 ?_
        refine lv_istore (lv' := [(4, .int x8), (0, .ref (ad 0)), (1, .int v1), (2, .int v2), (3, .int v3_119), (5, .int v5_119), (6, .int v6_168)]) hx hb_ dX9_needs_169 hl (by decide) rfl (fun ls hl => ?_)
        obtain ⟨x9, hx9, h⟩ := nm_inv h
        refine lv_iinc (v := x9) (lv' := [(6, .int x9), (4, .int x8), (0, .ref (ad 0)), (1, .int v1), (2, .int v2), (3, .int v3_119), (5, .int v5_119)]) hx hb_ dX9_needs_171 hl (k := 6) rfl (by rw [hx9]; rfl) (by decide) rfl (fun ls hl => ?_)
        refine lv_goto (tgt := 119) hx hb_ dX9_needs_174 (by decide) ?_
        obtain rfl := Option.some.inj h
        obtain ⟨y2, h, hK⟩ := hK
        exact ih_119 x8 x9 y2 h hK _ _ _ hP (lv_sub hl [2, 3, 4, 5, 1, 6, 0] rfl)
      have bk_167 : ∀ (v6_167 : Int32) (t0_167 : Int32) (y : ((Int32 × Int32) ⊕ Int32)), f_X9_needs_167 v1 v2 v3_119 v5_119 v6_167 t0_167 σ = some y → (KK n_119 (fun s => f_X9_needs_119s v1 v2 v3_119 s.1 v5_119 s.2 σ) (fun y => y = r0)) y → ∀ (H : Heap) (locs : List Loc) (ls : Array Slot), HS D aI aL 8 shM ad σ s H locs → lv_has ls 8 [(0, .ref (ad 0)), (1, .int v1), (2, .int v2), (3, .int v3_119), (5, .int v5_119), (6, .int v6_167)] → W p l e (RM 3 69) s m args below meth c H locs 0 0 (MQ below (Qi D aI aL 8 shM ad r0 σ s.heap.size) args s 0 0 (AA ad 8 s.heap.size)) (F0 m 167 ls [.int t0_167]) := by
        intro v6_167 t0_167 y h hK H locs ls hP hl
        unfold f_X9_needs_167 at h
        refine lv_iconst (v := 0) hx hb_ dX9_needs_167 (by decide) ?_
        exact bk_168 v6_167 t0_167 0 y h hK _ _ _ hP (lv_sub hl [0, 1, 2, 3, 4, 5] rfl)
      intro v4_119 v6_119 y h hK H locs ls hP hl
      obtain ⟨y, h, hK⟩ := itr_inv (K := (fun y => y = r0)) h hK
      replace h : f_X9_needs_119s v1 v2 v3_119 v4_119 v5_119 v6_119 σ = some y := h
      unfold f_X9_needs_119s at h
      refine lv_iload hx hb_ dX9_needs_119 (lv_at hl 6 rfl) ?_
      refine lv_aload_n hx hb_ dX9_needs_121 rfl (lv_at hl 0 rfl) ?_
      refine w_get C hP (k := 0) (by decide) 7 rfl rfl inWX9 0 (by decide) wt784 (v := .ref (ad 1)) rfl dX9_needs_122 ?_
      refine lv_iconst (v := 0) hx hb_ dX9_needs_125 (by decide) ?_
      obtain ⟨x6, hx6, h⟩ := bnd h
      refine w_ald C hP (k := 1) (by decide) (n := 660) rfl hx6 dX9_needs_126 ?_
      refine lv_icmp_ge (tgt := 177) hx hb_ dX9_needs_127 (by decide) (fun hc => ?_) (fun hc => ?_)
      · replace h := ift h hc
        refine lv_iload_n hx hb_ dX9_needs_177 rfl (lv_at hl 2 rfl) ?_
        refine lv_if_ne (tgt := 186) hx hb_ dX9_needs_178 (by decide) (fun hc => ?_) (fun hc => ?_)
        · replace h := iff' h hc
          refine lv_iload hx hb_ dX9_needs_186 (lv_at hl 5 rfl) ?_
          obtain ⟨y2, h2, rfl⟩ := mapi h
          exact bk_188 v5_119 y2 h2 hK _ _ _ hP (lv_sub hl [] rfl)
        · replace h := ift h hc
          refine lv_iload hx hb_ dX9_needs_181 (lv_at hl 4 rfl) ?_
          refine lv_goto (tgt := 188) hx hb_ dX9_needs_183 (by decide) ?_
          obtain ⟨y2, h2, rfl⟩ := mapi h
          exact bk_188 v4_119 y2 h2 hK _ _ _ hP (lv_sub hl [] rfl)
      · replace h := iff' h hc
        refine lv_iload hx hb_ dX9_needs_130 (lv_at hl 4 rfl) ?_
        refine lv_iload_n hx hb_ dX9_needs_132 rfl (lv_at hl 3 rfl) ?_
        refine lv_iload hx hb_ dX9_needs_133 (lv_at hl 6 rfl) ?_
        obtain ⟨q7, hq7, h⟩ := bnd h
        refine w_ci (w_rS (As := [.int v3_119, .int v6_119]) (rest := [.int v4_119]) C hP (c_X9_has l D aI aL ad inj _ σ v3_119 v6_119 q7 hq7) wt896 wt897 wt12 wt898 2 hd_X9_has ⟨Nat.le_of_ble_eq_true rfl, Nat.le_of_ble_eq_true rfl⟩ rfl hl.1 rfl (Nat.le_of_ble_eq_true rfl) dX9_needs_135) hP (fun H locs hP => ?_)
        refine lv_if_eq (tgt := 167) hx hb_ dX9_needs_138 (by decide) (fun hc => ?_) (fun hc => ?_)
        · replace h := ift h hc
          exact bk_167 v6_119 v4_119 y h hK _ _ _ hP (lv_sub hl [0, 1, 2, 3, 5, 6] rfl)
        · replace h := iff' h hc
          refine lv_aload_n hx hb_ dX9_needs_141 rfl (lv_at hl 0 rfl) ?_
          refine lv_iload_n hx hb_ dX9_needs_142 rfl (lv_at hl 3 rfl) ?_
          refine lv_iconst (v := 1) hx hb_ dX9_needs_143 (by decide) ?_
          refine lv_iload hx hb_ dX9_needs_144 (lv_at hl 6 rfl) ?_
          refine lv_ishl hx hb_ dX9_needs_146 ?_
          refine lv_iconst (v := (-1)) hx hb_ dX9_needs_147 (by decide) ?_
          refine lv_ixor hx hb_ dX9_needs_148 ?_
          refine lv_iand hx hb_ dX9_needs_149 ?_
          obtain ⟨q10, hq10, h⟩ := bnd h
          refine w_ci (w_rV (As := [.int (v3_119 &&& (((1 : Int32) <<< (v6_119 &&& 31)) ^^^ ((-1) : Int32)))]) (rest := [.int v4_119]) C hP (k := 0) (c_X9_reachOf l D aI aL ad inj _ σ (v3_119 &&& (((1 : Int32) <<< (v6_119 &&& 31)) ^^^ ((-1) : Int32))) q10 hq10) (gV wt930 wt932 wp27 wt12 wt933) 1 hd_X9_reachOf ⟨Nat.le_of_ble_eq_true rfl, Nat.le_of_ble_eq_true rfl⟩ (by decide) 7 rfl rfl rfl hl.1 rfl (Nat.le_of_ble_eq_true rfl) dX9_needs_150) hP (fun H locs hP => ?_)
          refine lv_iload_n hx hb_ dX9_needs_153 rfl (lv_at hl 1 rfl) ?_
          obtain ⟨q11, hq11, h⟩ := bnd h
          refine w_ci (w_rS (As := [.int q10, .int v1]) (rest := [.int v4_119]) C hP (c_X9_has l D aI aL ad inj _ σ q10 v1 q11 hq11) wt896 wt897 wt12 wt898 2 hd_X9_has ⟨Nat.le_of_ble_eq_true rfl, Nat.le_of_ble_eq_true rfl⟩ rfl hl.1 rfl (Nat.le_of_ble_eq_true rfl) dX9_needs_154) hP (fun H locs hP => ?_)
          refine lv_if_ne (tgt := 167) hx hb_ dX9_needs_157 (by decide) (fun hc => ?_) (fun hc => ?_)
          · replace h := iff' h hc
            exact bk_167 v6_119 v4_119 y h hK _ _ _ hP (lv_sub hl [0, 1, 2, 3, 5, 6] rfl)
          · replace h := ift h hc
            refine lv_iconst (v := 1) hx hb_ dX9_needs_160 (by decide) ?_
            refine lv_iload hx hb_ dX9_needs_161 (lv_at hl 6 rfl) ?_
            refine lv_ishl hx hb_ dX9_needs_163 ?_
            refine lv_goto (tgt := 168) hx hb_ dX9_needs_164 (by decide) ?_
            exact bk_168 v6_119 v4_119 ((1 : Int32) <<< (v6_119 &&& 31)) y h hK _ _ _ hP (lv_sub hl [0, 1, 2, 3, 5, 6] rfl)
  have bk_119 : ∀ (v3_119 : Int32) (v4_119 : Int32) (v5_119 : Int32) (v6_119 : Int32) (y : Int32), f_X9_needs_119 v1 v2 v3_119 v4_119 v5_119 v6_119 σ = some y → (fun y => y = r0) y → ∀ (H : Heap) (locs : List Loc) (ls : Array Slot), HS D aI aL 8 shM ad σ s H locs → lv_has ls 8 [(0, .ref (ad 0)), (1, .int v1), (2, .int v2), (3, .int v3_119), (4, .int v4_119), (5, .int v5_119), (6, .int v6_119)] → W p l e (RM 3 69) s m args below meth c H locs 0 0 (MQ below (Qi D aI aL 8 shM ad r0 σ s.heap.size) args s 0 0 (AA ad 8 s.heap.size)) (F0 m 119 ls []) := fun v3_119 v4_119 v5_119 v6_119 y h hK => lp_119 v3_119 v5_119 3000 v4_119 v6_119 y h hK
  have lp_49 : ∀ (v3_49 : Int32) (v4_49 : Int32) (n_49 : Nat) (v5_49 : Int32) (v6_49 : Int32) (y : Int32), itr n_49 (fun s => f_X9_needs_49s v1 v2 v3_49 v4_49 s.1 s.2 σ) (v5_49, v6_49) = some y → (fun y => y = r0) y → ∀ (H : Heap) (locs : List Loc) (ls : Array Slot), HS D aI aL 8 shM ad σ s H locs → lv_has ls 8 [(0, .ref (ad 0)), (1, .int v1), (2, .int v2), (3, .int v3_49), (4, .int v4_49), (5, .int v5_49), (6, .int v6_49)] → W p l e (RM 3 69) s m args below meth c H locs 0 0 (MQ below (Qi D aI aL 8 shM ad r0 σ s.heap.size) args s 0 0 (AA ad 8 s.heap.size)) (F0 m 49 ls []) := by
    intro v3_49 v4_49 n_49
    induction n_49 with
    | zero =>
      intro v5_49 v6_49 y h hK
      cases (show (none : Option Int32) = some y from h)
    | succ n_49 ih_49 =>
      have bk_108 : ∀ (v6_108 : Int32) (t0_108 : Int32) (y : ((Int32 × Int32) ⊕ Int32)), f_X9_needs_108 v1 v2 v3_49 v4_49 v6_108 t0_108 σ = some y → (KK n_49 (fun s => f_X9_needs_49s v1 v2 v3_49 v4_49 s.1 s.2 σ) (fun y => y = r0)) y → ∀ (H : Heap) (locs : List Loc) (ls : Array Slot), HS D aI aL 8 shM ad σ s H locs → lv_has ls 8 [(0, .ref (ad 0)), (1, .int v1), (2, .int v2), (3, .int v3_49), (4, .int v4_49), (6, .int v6_108)] → W p l e (RM 3 69) s m args below meth c H locs 0 0 (MQ below (Qi D aI aL 8 shM ad r0 σ s.heap.size) args s 0 0 (AA ad 8 s.heap.size)) (F0 m 108 ls [.int t0_108]) := by
        intro v6_108 t0_108 y h hK H locs ls hP hl
        unfold f_X9_needs_108 at h
        refine lv_istore (lv' := [(5, .int t0_108), (0, .ref (ad 0)), (1, .int v1), (2, .int v2), (3, .int v3_49), (4, .int v4_49), (6, .int v6_108)]) hx hb_ dX9_needs_108 hl (by decide) rfl (fun ls hl => ?_)
        obtain ⟨x12, hx12, h⟩ := nm_inv h
        refine lv_iinc (v := x12) (lv' := [(6, .int x12), (5, .int t0_108), (0, .ref (ad 0)), (1, .int v1), (2, .int v2), (3, .int v3_49), (4, .int v4_49)]) hx hb_ dX9_needs_110 hl (k := 6) rfl (by rw [hx12]; rfl) (by decide) rfl (fun ls hl => ?_)
        refine lv_goto (tgt := 49) hx hb_ dX9_needs_113 (by decide) ?_
        obtain rfl := Option.some.inj h
        obtain ⟨y2, h, hK⟩ := hK
        exact ih_49 t0_108 x12 y2 h hK _ _ _ hP (lv_sub hl [2, 3, 4, 5, 6, 1, 0] rfl)
      have bk_106 : ∀ (v5_106 : Int32) (v6_106 : Int32) (y : ((Int32 × Int32) ⊕ Int32)), f_X9_needs_106 v1 v2 v3_49 v4_49 v5_106 v6_106 σ = some y → (KK n_49 (fun s => f_X9_needs_49s v1 v2 v3_49 v4_49 s.1 s.2 σ) (fun y => y = r0)) y → ∀ (H : Heap) (locs : List Loc) (ls : Array Slot), HS D aI aL 8 shM ad σ s H locs → lv_has ls 8 [(0, .ref (ad 0)), (1, .int v1), (2, .int v2), (3, .int v3_49), (4, .int v4_49), (5, .int v5_106), (6, .int v6_106)] → W p l e (RM 3 69) s m args below meth c H locs 0 0 (MQ below (Qi D aI aL 8 shM ad r0 σ s.heap.size) args s 0 0 (AA ad 8 s.heap.size)) (F0 m 106 ls []) := by
        intro v5_106 v6_106 y h hK H locs ls hP hl
        unfold f_X9_needs_106 at h
        refine lv_iload hx hb_ dX9_needs_106 (lv_at hl 5 rfl) ?_
        exact bk_108 v6_106 v5_106 y h hK _ _ _ hP (lv_sub hl [0, 1, 2, 3, 4, 6] rfl)
      have bk_81 : ∀ (v5_81 : Int32) (v6_81 : Int32) (t0_81 : Int32) (y : ((Int32 × Int32) ⊕ Int32)), f_X9_needs_81 v1 v2 v3_49 v4_49 v5_81 v6_81 t0_81 σ = some y → (KK n_49 (fun s => f_X9_needs_49s v1 v2 v3_49 v4_49 s.1 s.2 σ) (fun y => y = r0)) y → ∀ (H : Heap) (locs : List Loc) (ls : Array Slot), HS D aI aL 8 shM ad σ s H locs → lv_has ls 8 [(0, .ref (ad 0)), (1, .int v1), (2, .int v2), (3, .int v3_49), (4, .int v4_49), (5, .int v5_81), (6, .int v6_81)] → W p l e (RM 3 69) s m args below meth c H locs 0 0 (MQ below (Qi D aI aL 8 shM ad r0 σ s.heap.size) args s 0 0 (AA ad 8 s.heap.size)) (F0 m 81 ls [.int t0_81]) := by
        intro v5_81 v6_81 t0_81 y h hK H locs ls hP hl
        unfold f_X9_needs_81 at h
        refine lv_istore (lv' := [(7, .int t0_81), (0, .ref (ad 0)), (1, .int v1), (2, .int v2), (3, .int v3_49), (4, .int v4_49), (5, .int v5_81), (6, .int v6_81)]) hx hb_ dX9_needs_81 hl (by decide) rfl (fun ls hl => ?_)
        refine lv_iload hx hb_ dX9_needs_83 (lv_at hl 0 rfl) ?_
        refine lv_if_eq (tgt := 106) hx hb_ dX9_needs_85 (by decide) (fun hc => ?_) (fun hc => ?_)
        · replace h := ift h hc
          exact bk_106 v5_81 v6_81 y h hK _ _ _ hP (lv_sub hl [1, 2, 3, 4, 5, 6, 7] rfl)
        · replace h := iff' h hc
          refine lv_iload hx hb_ dX9_needs_88 (lv_at hl 7 rfl) ?_
          obtain ⟨q13, hq13, h⟩ := bnd h
          refine w_ci (w_rS (As := [.int v6_81]) (rest := []) C hP (c_X9_ones l D aI aL ad inj _ σ v6_81 q13 hq13) wt907 wt908 wt12 wt909 1 hd_X9_ones ⟨Nat.le_of_ble_eq_true rfl, Nat.le_of_ble_eq_true rfl⟩ rfl hl.1 rfl (Nat.le_of_ble_eq_true rfl) dX9_needs_90) hP (fun H locs hP => ?_)
          refine lv_iload hx hb_ dX9_needs_93 (lv_at hl 6 rfl) ?_
          obtain ⟨q14, hq14, h⟩ := bnd h
          refine w_ci (w_rS (As := [.int v5_81]) (rest := [.int q13]) C hP (c_X9_ones l D aI aL ad inj _ σ v5_81 q14 hq14) wt907 wt908 wt12 wt909 1 hd_X9_ones ⟨Nat.le_of_ble_eq_true rfl, Nat.le_of_ble_eq_true rfl⟩ rfl hl.1 rfl (Nat.le_of_ble_eq_true rfl) dX9_needs_95) hP (fun H locs hP => ?_)
          refine lv_icmp_gt (tgt := 106) hx hb_ dX9_needs_98 (by decide) (fun hc => ?_) (fun hc => ?_)
          · replace h := ift h hc
            exact bk_106 v5_81 v6_81 y h hK _ _ _ hP (lv_sub hl [1, 2, 3, 4, 5, 6, 7] rfl)
          · replace h := iff' h hc
            refine lv_iload hx hb_ dX9_needs_101 (lv_at hl 7 rfl) ?_
            refine lv_goto (tgt := 108) hx hb_ dX9_needs_103 (by decide) ?_
            exact bk_108 v6_81 v6_81 y h hK _ _ _ hP (lv_sub hl [1, 2, 3, 4, 5, 7] rfl)
      have bk_80 : ∀ (v5_80 : Int32) (v6_80 : Int32) (y : ((Int32 × Int32) ⊕ Int32)), f_X9_needs_80 v1 v2 v3_49 v4_49 v5_80 v6_80 σ = some y → (KK n_49 (fun s => f_X9_needs_49s v1 v2 v3_49 v4_49 s.1 s.2 σ) (fun y => y = r0)) y → ∀ (H : Heap) (locs : List Loc) (ls : Array Slot), HS D aI aL 8 shM ad σ s H locs → lv_has ls 8 [(0, .ref (ad 0)), (1, .int v1), (2, .int v2), (3, .int v3_49), (4, .int v4_49), (5, .int v5_80), (6, .int v6_80)] → W p l e (RM 3 69) s m args below meth c H locs 0 0 (MQ below (Qi D aI aL 8 shM ad r0 σ s.heap.size) args s 0 0 (AA ad 8 s.heap.size)) (F0 m 80 ls []) := by
        intro v5_80 v6_80 y h hK H locs ls hP hl
        unfold f_X9_needs_80 at h
        refine lv_iconst (v := 0) hx hb_ dX9_needs_80 (by decide) ?_
        exact bk_81 v5_80 v6_80 0 y h hK _ _ _ hP (lv_sub hl [0, 1, 2, 3, 4, 5, 6] rfl)
      intro v5_49 v6_49 y h hK H locs ls hP hl
      obtain ⟨y, h, hK⟩ := itr_inv (K := (fun y => y = r0)) h hK
      replace h : f_X9_needs_49s v1 v2 v3_49 v4_49 v5_49 v6_49 σ = some y := h
      unfold f_X9_needs_49s at h
      refine lv_iload hx hb_ dX9_needs_49 (lv_at hl 6 rfl) ?_
      refine lv_if_lt (tgt := 116) hx hb_ dX9_needs_51 (by decide) (fun hc => ?_) (fun hc => ?_)
      · replace h := ift h hc
        refine lv_iconst (v := 0) hx hb_ dX9_needs_116 (by decide) ?_
        refine lv_istore (lv' := [(6, .int 0), (0, .ref (ad 0)), (1, .int v1), (2, .int v2), (3, .int v3_49), (4, .int v4_49), (5, .int v5_49)]) hx hb_ dX9_needs_117 hl (by decide) rfl (fun ls hl => ?_)
        obtain ⟨y2, h2, rfl⟩ := mapi h
        exact bk_119 v3_49 v4_49 v5_49 0 y2 h2 hK _ _ _ hP (lv_sub hl [1, 2, 3, 4, 5, 6, 0] rfl)
      · replace h := iff' h hc
        refine lv_iload hx hb_ dX9_needs_54 (lv_at hl 6 rfl) ?_
        refine lv_iload_n hx hb_ dX9_needs_56 rfl (lv_at hl 3 rfl) ?_
        refine lv_iconst (v := (-1)) hx hb_ dX9_needs_57 (by decide) ?_
        refine lv_ixor hx hb_ dX9_needs_58 ?_
        refine lv_iand hx hb_ dX9_needs_59 ?_
        refine lv_if_ne (tgt := 80) hx hb_ dX9_needs_60 (by decide) (fun hc => ?_) (fun hc => ?_)
        · replace h := iff' h hc
          exact bk_80 v5_49 v6_49 y h hK _ _ _ hP (lv_sub hl [0, 1, 2, 3, 4, 5, 6] rfl)
        · replace h := ift h hc
          refine lv_aload_n hx hb_ dX9_needs_63 rfl (lv_at hl 0 rfl) ?_
          refine lv_iload hx hb_ dX9_needs_64 (lv_at hl 6 rfl) ?_
          obtain ⟨q15, hq15, h⟩ := bnd h
          refine w_ci (w_rV (As := [.int v6_49]) (rest := []) C hP (k := 0) (c_X9_reachOf l D aI aL ad inj _ σ v6_49 q15 hq15) (gV wt930 wt932 wp27 wt12 wt933) 1 hd_X9_reachOf ⟨Nat.le_of_ble_eq_true rfl, Nat.le_of_ble_eq_true rfl⟩ (by decide) 7 rfl rfl rfl hl.1 rfl (Nat.le_of_ble_eq_true rfl) dX9_needs_66) hP (fun H locs hP => ?_)
          refine lv_iload_n hx hb_ dX9_needs_69 rfl (lv_at hl 1 rfl) ?_
          obtain ⟨q16, hq16, h⟩ := bnd h
          refine w_ci (w_rS (As := [.int q15, .int v1]) (rest := []) C hP (c_X9_has l D aI aL ad inj _ σ q15 v1 q16 hq16) wt896 wt897 wt12 wt898 2 hd_X9_has ⟨Nat.le_of_ble_eq_true rfl, Nat.le_of_ble_eq_true rfl⟩ rfl hl.1 rfl (Nat.le_of_ble_eq_true rfl) dX9_needs_70) hP (fun H locs hP => ?_)
          refine lv_if_eq (tgt := 80) hx hb_ dX9_needs_73 (by decide) (fun hc => ?_) (fun hc => ?_)
          · replace h := ift h hc
            exact bk_80 v5_49 v6_49 y h hK _ _ _ hP (lv_sub hl [0, 1, 2, 3, 4, 5, 6] rfl)
          · replace h := iff' h hc
            refine lv_iconst (v := 1) hx hb_ dX9_needs_76 (by decide) ?_
            refine lv_goto (tgt := 81) hx hb_ dX9_needs_77 (by decide) ?_
            exact bk_81 v5_49 v6_49 1 y h hK _ _ _ hP (lv_sub hl [0, 1, 2, 3, 4, 5, 6] rfl)
  have bk_49 : ∀ (v3_49 : Int32) (v4_49 : Int32) (v5_49 : Int32) (v6_49 : Int32) (y : Int32), f_X9_needs_49 v1 v2 v3_49 v4_49 v5_49 v6_49 σ = some y → (fun y => y = r0) y → ∀ (H : Heap) (locs : List Loc) (ls : Array Slot), HS D aI aL 8 shM ad σ s H locs → lv_has ls 8 [(0, .ref (ad 0)), (1, .int v1), (2, .int v2), (3, .int v3_49), (4, .int v4_49), (5, .int v5_49), (6, .int v6_49)] → W p l e (RM 3 69) s m args below meth c H locs 0 0 (MQ below (Qi D aI aL 8 shM ad r0 σ s.heap.size) args s 0 0 (AA ad 8 s.heap.size)) (F0 m 49 ls []) := fun v3_49 v4_49 v5_49 v6_49 y h hK => lp_49 v3_49 v4_49 3000 v5_49 v6_49 y h hK
  have bk : ∀ (y : Int32), f_X9_needs v1 v2 σ = some y → y = r0 → ∀ (H : Heap) (locs : List Loc), HS D aI aL 8 shM ad σ s H locs → W p l e (RM 3 69) s m args below meth c H locs 0 0 (MQ below (Qi D aI aL 8 shM ad r0 σ s.heap.size) args s 0 0 (AA ad 8 s.heap.size)) (F0 m 0 ls []) := by
    intro y h hK H locs hP
    unfold f_X9_needs at h
    refine lv_aload_n hx hb_ dX9_needs_0 rfl (lv_at hl 0 rfl) ?_
    refine lv_iload_n hx hb_ dX9_needs_1 rfl (lv_at hl 1 rfl) ?_
    obtain ⟨q1, hq1, h⟩ := bnd h
    refine w_ci (w_rV (As := [.int v1]) (rest := []) C hP (k := 0) (c_X9_isStone l D aI aL ad inj _ σ v1 q1 hq1) (gV wt878 wt880 wp22 wt12 wt881) 1 hd_X9_isStone ⟨Nat.le_of_ble_eq_true rfl, Nat.le_of_ble_eq_true rfl⟩ (by decide) 7 rfl rfl rfl hl.1 rfl (Nat.le_of_ble_eq_true rfl) dX9_needs_2) hP (fun H locs hP => ?_)
    refine lv_if_eq (tgt := 18) hx hb_ dX9_needs_5 (by decide) (fun hc => ?_) (fun hc => ?_)
    · replace h := ift h hc
      exact bk_18 y h hK _ _ _ hP (lv_sub hl [] rfl)
    · replace h := iff' h hc
      refine lv_iload_n hx hb_ dX9_needs_8 rfl (lv_at hl 2 rfl) ?_
      refine lv_i2l hx hb_ dX9_needs_9 rfl ?_
      refine lv_lconst (v := 0) hx hb_ dX9_needs_10 (by decide) ?_
      refine lv_lconst (v := 1) hx hb_ dX9_needs_11 (by decide) ?_
      obtain ⟨q2, hq2, h⟩ := bnd h
      refine w_ci (w_rS (As := [.long ((v2 : Int32).toInt64), .long 0, .long 1]) (rest := []) C hP (c_X9_in l D aI aL ad inj _ σ ((v2 : Int32).toInt64) 0 1 q2 hq2) wt830 wt831 wt12 wt832 3 hd_X9_in ⟨Nat.le_of_ble_eq_true rfl, Nat.le_of_ble_eq_true rfl⟩ rfl hl.1 rfl (Nat.le_of_ble_eq_true rfl) dX9_needs_12) hP (fun H locs hP => ?_)
      refine lv_if_ne (tgt := 20) hx hb_ dX9_needs_15 (by decide) (fun hc => ?_) (fun hc => ?_)
      · replace h := iff' h hc
        refine lv_aload_n hx hb_ dX9_needs_20 rfl (lv_at hl 0 rfl) ?_
        obtain ⟨q3, hq3, h⟩ := bnd h
        refine w_ci (w_rV (As := []) (rest := []) C hP (k := 0) (c_X9_beginnings l D aI aL ad inj _ σ q3 hq3) (gV wt965 wt967 wp32 wt12 wt968) 0 hd_X9_beginnings ⟨Nat.le_of_ble_eq_true rfl, Nat.le_of_ble_eq_true rfl⟩ (by decide) 7 rfl rfl rfl hl.1 rfl (Nat.le_of_ble_eq_true rfl) dX9_needs_21) hP (fun H locs hP => ?_)
        refine lv_istore_n (lv' := [(3, .int q3), (0, .ref (ad 0)), (1, .int v1), (2, .int v2)]) hx hb_ dX9_needs_24 rfl hl (by decide) rfl (fun ls hl => ?_)
        refine lv_aload_n hx hb_ dX9_needs_25 rfl (lv_at hl 1 rfl) ?_
        refine lv_iload_n hx hb_ dX9_needs_26 rfl (lv_at hl 0 rfl) ?_
        obtain ⟨q4, hq4, h⟩ := bnd h
        refine w_ci (w_rV (As := [.int q3]) (rest := []) C hP (k := 0) (c_X9_reachOf l D aI aL ad inj _ σ q3 q4 hq4) (gV wt930 wt932 wp27 wt12 wt933) 1 hd_X9_reachOf ⟨Nat.le_of_ble_eq_true rfl, Nat.le_of_ble_eq_true rfl⟩ (by decide) 7 rfl rfl rfl hl.1 rfl (Nat.le_of_ble_eq_true rfl) dX9_needs_27) hP (fun H locs hP => ?_)
        refine lv_iload_n hx hb_ dX9_needs_30 rfl (lv_at hl 2 rfl) ?_
        obtain ⟨q5, hq5, h⟩ := bnd h
        refine w_ci (w_rS (As := [.int q4, .int v1]) (rest := []) C hP (c_X9_has l D aI aL ad inj _ σ q4 v1 q5 hq5) wt896 wt897 wt12 wt898 2 hd_X9_has ⟨Nat.le_of_ble_eq_true rfl, Nat.le_of_ble_eq_true rfl⟩ rfl hl.1 rfl (Nat.le_of_ble_eq_true rfl) dX9_needs_31) hP (fun H locs hP => ?_)
        refine lv_if_ne (tgt := 40) hx hb_ dX9_needs_34 (by decide) (fun hc => ?_) (fun hc => ?_)
        · replace h := iff' h hc
          refine lv_iconst (v := 0) hx hb_ dX9_needs_40 (by decide) ?_
          refine lv_istore (lv' := [(4, .int 0), (3, .int q3), (0, .ref (ad 0)), (1, .int v1), (2, .int v2)]) hx hb_ dX9_needs_41 hl (by decide) rfl (fun ls hl => ?_)
          refine lv_iload_n hx hb_ dX9_needs_43 rfl (lv_at hl 1 rfl) ?_
          refine lv_istore (lv' := [(5, .int q3), (4, .int 0), (3, .int q3), (0, .ref (ad 0)), (1, .int v1), (2, .int v2)]) hx hb_ dX9_needs_44 hl (by decide) rfl (fun ls hl => ?_)
          refine lv_iload_n hx hb_ dX9_needs_46 rfl (lv_at hl 2 rfl) ?_
          refine lv_istore (lv' := [(6, .int q3), (5, .int q3), (4, .int 0), (3, .int q3), (0, .ref (ad 0)), (1, .int v1), (2, .int v2)]) hx hb_ dX9_needs_47 hl (by decide) rfl (fun ls hl => ?_)
          exact bk_49 q3 0 q3 q3 y h hK _ _ _ hP (lv_sub hl [4, 5, 6, 3, 2, 1, 0] rfl)
        · replace h := ift h hc
          refine lv_bipush (v := (-4)) hx hb_ dX9_needs_37 (by decide) ?_
          obtain rfl := Option.some.inj h
          have hK : ((-4) : Int32) = r0 := hK
          exact w_iret C hlk hr hP hK rfl dX9_needs_39
      · replace h := ift h hc
        exact bk_18 y h hK _ _ _ hP (lv_sub hl [] rfl)
  exact bk r0 hf rfl _ _ hP
theorem hd_X9_lost : yX9_lost.cls = RX9 ∧ yX9_lost.cls ≠ "java/lang/invoke/MethodHandle" ∧ yX9_lost.cls ≠ "java/lang/invoke/VarHandle" ∧ (parseMethodDescriptor yX9_lost.desc).map (fun d => d.parameters.length) = some 1 := by decide +kernel
set_option maxHeartbeats 4000000 in
set_option maxRecDepth 100000 in
theorem c_X9_lost (l : Launch) (D : va_G) (aI aL : ClassId) (ad : Nat → Nat) (inj : Inj ad 8) (sz : Nat) (σ : Sg) (v1 : Int32) (r0 : Int32) (hf : f_X9_lost v1 σ = some r0) : Met l yX9_lost (wS yX9_lost cX9_lost 4 (some .int)) (RM 3 69) (Pw D aI aL 8 shM ad sz σ [.ref (ad 0), .int v1]) (Qi D aI aL 8 shM ad r0 σ sz) 0 0 (AA ad 8 sz) := by
  refine Mof (Qc := Qi D aI aL 8 shM ad r0 σ) (by decide) inj (Nat.le_of_ble_eq_true rfl) ?_
  intro p e s m args below meth c ls C hlk hr hP hl
  have hx := C.1.1
  have hb_ := C.1.2.1
  have hown := C.1.2.2.2.1
  have hts := C.1.2.2.2.2
  have hl : lv_has ls 4 [(0, .ref (ad 0)), (1, .int v1)] := hl
  have bk : ∀ (y : Int32), f_X9_lost v1 σ = some y → y = r0 → ∀ (H : Heap) (locs : List Loc), HS D aI aL 8 shM ad σ s H locs → W p l e (RM 3 69) s m args below meth c H locs 0 0 (MQ below (Qi D aI aL 8 shM ad r0 σ s.heap.size) args s 0 0 (AA ad 8 s.heap.size)) (F0 m 0 ls []) := by
    intro y h hK H locs hP
    unfold f_X9_lost at h
    refine lv_aload_n hx hb_ dX9_lost_0 rfl (lv_at hl 0 rfl) ?_
    refine lv_iload_n hx hb_ dX9_lost_1 rfl (lv_at hl 1 rfl) ?_
    obtain ⟨q1, hq1, h⟩ := bnd h
    refine w_ci (w_rV (As := [.int v1]) (rest := []) C hP (k := 0) (c_X9_isStone l D aI aL ad inj _ σ v1 q1 hq1) (gV wt878 wt880 wp22 wt12 wt881) 1 hd_X9_isStone ⟨Nat.le_of_ble_eq_true rfl, Nat.le_of_ble_eq_true rfl⟩ (by decide) 7 rfl rfl rfl hl.1 rfl (Nat.le_of_ble_eq_true rfl) dX9_lost_2) hP (fun H locs hP => ?_)
    refine lv_if_ne (tgt := 10) hx hb_ dX9_lost_5 (by decide) (fun hc => ?_) (fun hc => ?_)
    · replace h := iff' h hc
      refine lv_aload_n hx hb_ dX9_lost_10 rfl (lv_at hl 0 rfl) ?_
      refine w_get C hP (k := 0) (by decide) 7 rfl rfl inWX9 0 (by decide) wt784 (v := .ref (ad 1)) rfl dX9_lost_11 ?_
      refine lv_iconst (v := 2) hx hb_ dX9_lost_14 (by decide) ?_
      obtain ⟨x2, hx2, h⟩ := bnd h
      refine w_ald C hP (k := 1) (by decide) (n := 660) rfl hx2 dX9_lost_15 ?_
      refine lv_iload_n hx hb_ dX9_lost_16 rfl (lv_at hl 1 rfl) ?_
      obtain ⟨q3, hq3, h⟩ := bnd h
      refine w_ci (w_rS (As := [.int x2, .int v1]) (rest := []) C hP (c_X9_has l D aI aL ad inj _ σ x2 v1 q3 hq3) wt896 wt897 wt12 wt898 2 hd_X9_has ⟨Nat.le_of_ble_eq_true rfl, Nat.le_of_ble_eq_true rfl⟩ rfl hl.1 rfl (Nat.le_of_ble_eq_true rfl) dX9_lost_17) hP (fun H locs hP => ?_)
      refine lv_if_ne (tgt := 26) hx hb_ dX9_lost_20 (by decide) (fun hc => ?_) (fun hc => ?_)
      · replace h := iff' h hc
        refine lv_aload_n hx hb_ dX9_lost_26 rfl (lv_at hl 0 rfl) ?_
        refine lv_aload_n hx hb_ dX9_lost_27 rfl (lv_at hl 0 rfl) ?_
        obtain ⟨q4, hq4, h⟩ := bnd h
        refine w_ci (w_rV (As := []) (rest := [.ref (ad 0)]) C hP (k := 0) (c_X9_beginnings l D aI aL ad inj _ σ q4 hq4) (gV wt965 wt967 wp32 wt12 wt968) 0 hd_X9_beginnings ⟨Nat.le_of_ble_eq_true rfl, Nat.le_of_ble_eq_true rfl⟩ (by decide) 7 rfl rfl rfl hl.1 rfl (Nat.le_of_ble_eq_true rfl) dX9_lost_28) hP (fun H locs hP => ?_)
        obtain ⟨q5, hq5, h⟩ := bnd h
        refine w_ci (w_rV (As := [.int q4]) (rest := []) C hP (k := 0) (c_X9_reachOf l D aI aL ad inj _ σ q4 q5 hq5) (gV wt930 wt932 wp27 wt12 wt933) 1 hd_X9_reachOf ⟨Nat.le_of_ble_eq_true rfl, Nat.le_of_ble_eq_true rfl⟩ (by decide) 7 rfl rfl rfl hl.1 rfl (Nat.le_of_ble_eq_true rfl) dX9_lost_31) hP (fun H locs hP => ?_)
        refine lv_istore_n (lv' := [(2, .int q5), (0, .ref (ad 0)), (1, .int v1)]) hx hb_ dX9_lost_34 rfl hl (by decide) rfl (fun ls hl => ?_)
        refine lv_aload_n hx hb_ dX9_lost_35 rfl (lv_at hl 1 rfl) ?_
        refine lv_aload_n hx hb_ dX9_lost_36 rfl (lv_at hl 1 rfl) ?_
        obtain ⟨q6, hq6, h⟩ := bnd h
        refine w_ci (w_rV (As := []) (rest := [.ref (ad 0)]) C hP (k := 0) (c_X9_beginnings l D aI aL ad inj _ σ q6 hq6) (gV wt965 wt967 wp32 wt12 wt968) 0 hd_X9_beginnings ⟨Nat.le_of_ble_eq_true rfl, Nat.le_of_ble_eq_true rfl⟩ (by decide) 7 rfl rfl rfl hl.1 rfl (Nat.le_of_ble_eq_true rfl) dX9_lost_37) hP (fun H locs hP => ?_)
        refine lv_iconst (v := 1) hx hb_ dX9_lost_40 (by decide) ?_
        refine lv_iload_n hx hb_ dX9_lost_41 rfl (lv_at hl 2 rfl) ?_
        refine lv_ishl hx hb_ dX9_lost_42 ?_
        refine lv_iconst (v := (-1)) hx hb_ dX9_lost_43 (by decide) ?_
        refine lv_ixor hx hb_ dX9_lost_44 ?_
        refine lv_iand hx hb_ dX9_lost_45 ?_
        refine lv_aload_n hx hb_ dX9_lost_46 rfl (lv_at hl 1 rfl) ?_
        obtain ⟨q7, hq7, h⟩ := bnd h
        refine w_ci (w_rV (As := []) (rest := [.int (q6 &&& (((1 : Int32) <<< (v1 &&& 31)) ^^^ ((-1) : Int32))), .ref (ad 0)]) C hP (k := 0) (c_X9_allSteps l D aI aL ad inj _ σ q7 hq7) (gV wt934 wt936 wp28 wt12 wt937) 0 hd_X9_allSteps ⟨Nat.le_of_ble_eq_true rfl, Nat.le_of_ble_eq_true rfl⟩ (by decide) 7 rfl rfl rfl hl.1 rfl (Nat.le_of_ble_eq_true rfl) dX9_lost_47) hP (fun H locs hP => ?_)
        refine lv_aload_n hx hb_ dX9_lost_50 rfl (lv_at hl 1 rfl) ?_
        refine w_get C hP (k := 0) (by decide) 7 rfl rfl inWX9 0 (by decide) wt784 (v := .ref (ad 1)) rfl dX9_lost_51 ?_
        refine lv_iconst (v := 2) hx hb_ dX9_lost_54 (by decide) ?_
        obtain ⟨x8, hx8, h⟩ := bnd h
        refine w_ald C hP (k := 1) (by decide) (n := 660) rfl hx8 dX9_lost_55 ?_
        refine lv_iconst (v := 1) hx hb_ dX9_lost_56 (by decide) ?_
        refine lv_iload_n hx hb_ dX9_lost_57 rfl (lv_at hl 2 rfl) ?_
        refine lv_ishl hx hb_ dX9_lost_58 ?_
        refine lv_iconst (v := (-1)) hx hb_ dX9_lost_59 (by decide) ?_
        refine lv_ixor hx hb_ dX9_lost_60 ?_
        refine lv_iand hx hb_ dX9_lost_61 ?_
        obtain ⟨q9, hq9, h⟩ := bnd h
        refine w_ci (w_rV (As := [.int (q6 &&& (((1 : Int32) <<< (v1 &&& 31)) ^^^ ((-1) : Int32))), .int q7, .int (x8 &&& (((1 : Int32) <<< (v1 &&& 31)) ^^^ ((-1) : Int32)))]) (rest := []) C hP (k := 0) (c_X9_closure l D aI aL ad inj _ σ (q6 &&& (((1 : Int32) <<< (v1 &&& 31)) ^^^ ((-1) : Int32))) q7 (x8 &&& (((1 : Int32) <<< (v1 &&& 31)) ^^^ ((-1) : Int32))) q9 hq9) (gV wt938 wt940 wp29 wt12 wt941) 3 hd_X9_closure ⟨Nat.le_of_ble_eq_true rfl, Nat.le_of_ble_eq_true rfl⟩ (by decide) 7 rfl rfl rfl hl.1 rfl (Nat.le_of_ble_eq_true rfl) dX9_lost_62) hP (fun H locs hP => ?_)
        refine lv_istore_n (lv' := [(3, .int q9), (2, .int q5), (0, .ref (ad 0)), (1, .int v1)]) hx hb_ dX9_lost_65 rfl hl (by decide) rfl (fun ls hl => ?_)
        refine lv_iload_n hx hb_ dX9_lost_66 rfl (lv_at hl 1 rfl) ?_
        refine lv_iload_n hx hb_ dX9_lost_67 rfl (lv_at hl 0 rfl) ?_
        refine lv_iconst (v := (-1)) hx hb_ dX9_lost_68 (by decide) ?_
        refine lv_ixor hx hb_ dX9_lost_69 ?_
        refine lv_iand hx hb_ dX9_lost_70 ?_
        refine lv_iconst (v := 1) hx hb_ dX9_lost_71 (by decide) ?_
        refine lv_iload_n hx hb_ dX9_lost_72 rfl (lv_at hl 3 rfl) ?_
        refine lv_ishl hx hb_ dX9_lost_73 ?_
        refine lv_iconst (v := (-1)) hx hb_ dX9_lost_74 (by decide) ?_
        refine lv_ixor hx hb_ dX9_lost_75 ?_
        refine lv_iand hx hb_ dX9_lost_76 ?_
        obtain rfl := Option.some.inj h
        have hK : (((q5 &&& (q9 ^^^ ((-1) : Int32))) &&& (((1 : Int32) <<< (v1 &&& 31)) ^^^ ((-1) : Int32))) : Int32) = r0 := hK
        exact w_iret C hlk hr hP hK rfl dX9_lost_77
      · replace h := ift h hc
        refine lv_bipush (v := (-2)) hx hb_ dX9_lost_23 (by decide) ?_
        obtain rfl := Option.some.inj h
        have hK : ((-2) : Int32) = r0 := hK
        exact w_iret C hlk hr hP hK rfl dX9_lost_25
    · replace h := ift h hc
      refine lv_iconst (v := (-1)) hx hb_ dX9_lost_8 (by decide) ?_
      obtain rfl := Option.some.inj h
      have hK : ((-1) : Int32) = r0 := hK
      exact w_iret C hlk hr hP hK rfl dX9_lost_9
  exact bk r0 hf rfl _ _ hP
theorem hd_X9_begins : yX9_begins.cls = RX9 ∧ yX9_begins.cls ≠ "java/lang/invoke/MethodHandle" ∧ yX9_begins.cls ≠ "java/lang/invoke/VarHandle" ∧ (parseMethodDescriptor yX9_begins.desc).map (fun d => d.parameters.length) = some 1 := by decide +kernel
set_option maxHeartbeats 4000000 in
set_option maxRecDepth 100000 in
theorem c_X9_begins (l : Launch) (D : va_G) (aI aL : ClassId) (ad : Nat → Nat) (inj : Inj ad 8) (sz : Nat) (σ : Sg) (v1 : Int32) (r0 : Int32) (hf : f_X9_begins v1 σ = some r0) : Met l yX9_begins (wS yX9_begins cX9_begins 5 (some .int)) (RM 3 69) (Pw D aI aL 8 shM ad sz σ [.ref (ad 0), .int v1]) (Qi D aI aL 8 shM ad r0 σ sz) 0 0 (AA ad 8 sz) := by
  refine Mof (Qc := Qi D aI aL 8 shM ad r0 σ) (by decide) inj (Nat.le_of_ble_eq_true rfl) ?_
  intro p e s m args below meth c ls C hlk hr hP hl
  have hx := C.1.1
  have hb_ := C.1.2.1
  have hown := C.1.2.2.2.1
  have hts := C.1.2.2.2.2
  have hl : lv_has ls 5 [(0, .ref (ad 0)), (1, .int v1)] := hl
  have lp_5 : ∀ (n_5 : Nat) (v2_5 : Int32) (v3_5 : Int32) (y : Int32), itr n_5 (fun s => f_X9_begins_5s v1 s.1 s.2 σ) (v2_5, v3_5) = some y → (fun y => y = r0) y → ∀ (H : Heap) (locs : List Loc) (ls : Array Slot), HS D aI aL 8 shM ad σ s H locs → lv_has ls 5 [(0, .ref (ad 0)), (1, .int v1), (2, .int v2_5), (3, .int v3_5)] → W p l e (RM 3 69) s m args below meth c H locs 0 0 (MQ below (Qi D aI aL 8 shM ad r0 σ s.heap.size) args s 0 0 (AA ad 8 s.heap.size)) (F0 m 5 ls []) := by
    intro n_5
    induction n_5 with
    | zero =>
      intro v2_5 v3_5 y h hK
      cases (show (none : Option Int32) = some y from h)
    | succ n_5 ih_5 =>
      have bk_89 : ∀ (v3_89 : Int32) (t0_89 : Int32) (y : ((Int32 × Int32) ⊕ Int32)), f_X9_begins_89 v1 v3_89 t0_89 σ = some y → (KK n_5 (fun s => f_X9_begins_5s v1 s.1 s.2 σ) (fun y => y = r0)) y → ∀ (H : Heap) (locs : List Loc) (ls : Array Slot), HS D aI aL 8 shM ad σ s H locs → lv_has ls 5 [(0, .ref (ad 0)), (1, .int v1), (3, .int v3_89)] → W p l e (RM 3 69) s m args below meth c H locs 0 0 (MQ below (Qi D aI aL 8 shM ad r0 σ s.heap.size) args s 0 0 (AA ad 8 s.heap.size)) (F0 m 89 ls [.int t0_89]) := by
        intro v3_89 t0_89 y h hK H locs ls hP hl
        unfold f_X9_begins_89 at h
        refine lv_istore_n (lv' := [(2, .int t0_89), (0, .ref (ad 0)), (1, .int v1), (3, .int v3_89)]) hx hb_ dX9_begins_89 rfl hl (by decide) rfl (fun ls hl => ?_)
        obtain ⟨x3, hx3, h⟩ := nm_inv h
        refine lv_iinc (v := x3) (lv' := [(3, .int x3), (2, .int t0_89), (0, .ref (ad 0)), (1, .int v1)]) hx hb_ dX9_begins_90 hl (k := 3) rfl (by rw [hx3]; rfl) (by decide) rfl (fun ls hl => ?_)
        refine lv_goto (tgt := 5) hx hb_ dX9_begins_93 (by decide) ?_
        obtain rfl := Option.some.inj h
        obtain ⟨y2, h, hK⟩ := hK
        exact ih_5 t0_89 x3 y2 h hK _ _ _ hP (lv_sub hl [2, 3, 1, 0] rfl)
      have bk_88 : ∀ (v2_88 : Int32) (v3_88 : Int32) (y : ((Int32 × Int32) ⊕ Int32)), f_X9_begins_88 v1 v2_88 v3_88 σ = some y → (KK n_5 (fun s => f_X9_begins_5s v1 s.1 s.2 σ) (fun y => y = r0)) y → ∀ (H : Heap) (locs : List Loc) (ls : Array Slot), HS D aI aL 8 shM ad σ s H locs → lv_has ls 5 [(0, .ref (ad 0)), (1, .int v1), (2, .int v2_88), (3, .int v3_88)] → W p l e (RM 3 69) s m args below meth c H locs 0 0 (MQ below (Qi D aI aL 8 shM ad r0 σ s.heap.size) args s 0 0 (AA ad 8 s.heap.size)) (F0 m 88 ls []) := by
        intro v2_88 v3_88 y h hK H locs ls hP hl
        unfold f_X9_begins_88 at h
        refine lv_iload_n hx hb_ dX9_begins_88 rfl (lv_at hl 2 rfl) ?_
        exact bk_89 v3_88 v2_88 y h hK _ _ _ hP (lv_sub hl [0, 1, 3] rfl)
      have bk_60 : ∀ (v2_60 : Int32) (v3_60 : Int32) (t0_60 : Int32) (y : ((Int32 × Int32) ⊕ Int32)), f_X9_begins_60 v1 v2_60 v3_60 t0_60 σ = some y → (KK n_5 (fun s => f_X9_begins_5s v1 s.1 s.2 σ) (fun y => y = r0)) y → ∀ (H : Heap) (locs : List Loc) (ls : Array Slot), HS D aI aL 8 shM ad σ s H locs → lv_has ls 5 [(0, .ref (ad 0)), (1, .int v1), (2, .int v2_60), (3, .int v3_60)] → W p l e (RM 3 69) s m args below meth c H locs 0 0 (MQ below (Qi D aI aL 8 shM ad r0 σ s.heap.size) args s 0 0 (AA ad 8 s.heap.size)) (F0 m 60 ls [.int t0_60]) := by
        intro v2_60 v3_60 t0_60 y h hK H locs ls hP hl
        unfold f_X9_begins_60 at h
        refine lv_istore (lv' := [(4, .int t0_60), (0, .ref (ad 0)), (1, .int v1), (2, .int v2_60), (3, .int v3_60)]) hx hb_ dX9_begins_60 hl (by decide) rfl (fun ls hl => ?_)
        refine lv_iload hx hb_ dX9_begins_62 (lv_at hl 0 rfl) ?_
        refine lv_if_eq (tgt := 88) hx hb_ dX9_begins_64 (by decide) (fun hc => ?_) (fun hc => ?_)
        · replace h := ift h hc
          exact bk_88 v2_60 v3_60 y h hK _ _ _ hP (lv_sub hl [1, 2, 3, 4] rfl)
        · replace h := iff' h hc
          refine lv_aload_n hx hb_ dX9_begins_67 rfl (lv_at hl 1 rfl) ?_
          refine lv_aload_n hx hb_ dX9_begins_68 rfl (lv_at hl 1 rfl) ?_
          obtain ⟨q4, hq4, h⟩ := bnd h
          refine w_ci (w_rV (As := []) (rest := [.ref (ad 0)]) C hP (k := 0) (c_X9_beginnings l D aI aL ad inj _ σ q4 hq4) (gV wt965 wt967 wp32 wt12 wt968) 0 hd_X9_beginnings ⟨Nat.le_of_ble_eq_true rfl, Nat.le_of_ble_eq_true rfl⟩ (by decide) 7 rfl rfl rfl hl.1 rfl (Nat.le_of_ble_eq_true rfl) dX9_begins_69) hP (fun H locs hP => ?_)
          refine lv_iload_n hx hb_ dX9_begins_72 rfl (lv_at hl 4 rfl) ?_
          refine lv_ior hx hb_ dX9_begins_73 ?_
          obtain ⟨q5, hq5, h⟩ := bnd h
          refine w_ci (w_rV (As := [.int (q4 ||| v3_60)]) (rest := []) C hP (k := 0) (c_X9_reachOf l D aI aL ad inj _ σ (q4 ||| v3_60) q5 hq5) (gV wt930 wt932 wp27 wt12 wt933) 1 hd_X9_reachOf ⟨Nat.le_of_ble_eq_true rfl, Nat.le_of_ble_eq_true rfl⟩ (by decide) 7 rfl rfl rfl hl.1 rfl (Nat.le_of_ble_eq_true rfl) dX9_begins_74) hP (fun H locs hP => ?_)
          refine lv_iload_n hx hb_ dX9_begins_77 rfl (lv_at hl 2 rfl) ?_
          obtain ⟨q6, hq6, h⟩ := bnd h
          refine w_ci (w_rS (As := [.int q5, .int v1]) (rest := []) C hP (c_X9_has l D aI aL ad inj _ σ q5 v1 q6 hq6) wt896 wt897 wt12 wt898 2 hd_X9_has ⟨Nat.le_of_ble_eq_true rfl, Nat.le_of_ble_eq_true rfl⟩ rfl hl.1 rfl (Nat.le_of_ble_eq_true rfl) dX9_begins_78) hP (fun H locs hP => ?_)
          refine lv_if_eq (tgt := 88) hx hb_ dX9_begins_81 (by decide) (fun hc => ?_) (fun hc => ?_)
          · replace h := ift h hc
            exact bk_88 v2_60 v3_60 y h hK _ _ _ hP (lv_sub hl [1, 2, 3, 4] rfl)
          · replace h := iff' h hc
            refine lv_iload_n hx hb_ dX9_begins_84 rfl (lv_at hl 4 rfl) ?_
            refine lv_goto (tgt := 89) hx hb_ dX9_begins_85 (by decide) ?_
            exact bk_89 v3_60 v3_60 y h hK _ _ _ hP (lv_sub hl [1, 2, 4] rfl)
      have bk_59 : ∀ (v2_59 : Int32) (v3_59 : Int32) (y : ((Int32 × Int32) ⊕ Int32)), f_X9_begins_59 v1 v2_59 v3_59 σ = some y → (KK n_5 (fun s => f_X9_begins_5s v1 s.1 s.2 σ) (fun y => y = r0)) y → ∀ (H : Heap) (locs : List Loc) (ls : Array Slot), HS D aI aL 8 shM ad σ s H locs → lv_has ls 5 [(0, .ref (ad 0)), (1, .int v1), (2, .int v2_59), (3, .int v3_59)] → W p l e (RM 3 69) s m args below meth c H locs 0 0 (MQ below (Qi D aI aL 8 shM ad r0 σ s.heap.size) args s 0 0 (AA ad 8 s.heap.size)) (F0 m 59 ls []) := by
        intro v2_59 v3_59 y h hK H locs ls hP hl
        unfold f_X9_begins_59 at h
        refine lv_iconst (v := 0) hx hb_ dX9_begins_59 (by decide) ?_
        exact bk_60 v2_59 v3_59 0 y h hK _ _ _ hP (lv_sub hl [0, 1, 2, 3] rfl)
      have bk_55 : ∀ (v2_55 : Int32) (v3_55 : Int32) (y : ((Int32 × Int32) ⊕ Int32)), f_X9_begins_55 v1 v2_55 v3_55 σ = some y → (KK n_5 (fun s => f_X9_begins_5s v1 s.1 s.2 σ) (fun y => y = r0)) y → ∀ (H : Heap) (locs : List Loc) (ls : Array Slot), HS D aI aL 8 shM ad σ s H locs → lv_has ls 5 [(0, .ref (ad 0)), (1, .int v1), (2, .int v2_55), (3, .int v3_55)] → W p l e (RM 3 69) s m args below meth c H locs 0 0 (MQ below (Qi D aI aL 8 shM ad r0 σ s.heap.size) args s 0 0 (AA ad 8 s.heap.size)) (F0 m 55 ls []) := by
        intro v2_55 v3_55 y h hK H locs ls hP hl
        unfold f_X9_begins_55 at h
        refine lv_iconst (v := 1) hx hb_ dX9_begins_55 (by decide) ?_
        refine lv_goto (tgt := 60) hx hb_ dX9_begins_56 (by decide) ?_
        exact bk_60 v2_55 v3_55 1 y h hK _ _ _ hP (lv_sub hl [0, 1, 2, 3] rfl)
      intro v2_5 v3_5 y h hK H locs ls hP hl
      obtain ⟨y, h, hK⟩ := itr_inv (K := (fun y => y = r0)) h hK
      replace h : f_X9_begins_5s v1 v2_5 v3_5 σ = some y := h
      unfold f_X9_begins_5s at h
      refine lv_iload_n hx hb_ dX9_begins_5 rfl (lv_at hl 3 rfl) ?_
      refine lv_iconst (v := 1) hx hb_ dX9_begins_6 (by decide) ?_
      refine lv_aload_n hx hb_ dX9_begins_7 rfl (lv_at hl 0 rfl) ?_
      refine w_get C hP (k := 0) (by decide) 7 rfl rfl inWX9 0 (by decide) wt784 (v := .ref (ad 1)) rfl dX9_begins_8 ?_
      refine lv_iconst (v := 0) hx hb_ dX9_begins_11 (by decide) ?_
      obtain ⟨x1, hx1, h⟩ := bnd h
      refine w_ald C hP (k := 1) (by decide) (n := 660) rfl hx1 dX9_begins_12 ?_
      refine lv_ishl hx hb_ dX9_begins_13 ?_
      refine lv_icmp_ge (tgt := 96) hx hb_ dX9_begins_14 (by decide) (fun hc => ?_) (fun hc => ?_)
      · replace h := ift h hc
        refine lv_iload_n hx hb_ dX9_begins_96 rfl (lv_at hl 2 rfl) ?_
        obtain rfl := Option.some.inj h
        have hK : (v2_5 : Int32) = r0 := hK
        exact w_iret C hlk hr hP hK rfl dX9_begins_97
      · replace h := iff' h hc
        refine lv_iload_n hx hb_ dX9_begins_17 rfl (lv_at hl 3 rfl) ?_
        refine lv_aload_n hx hb_ dX9_begins_18 rfl (lv_at hl 0 rfl) ?_
        refine w_get C hP (k := 0) (by decide) 7 rfl rfl inWX9 0 (by decide) wt784 (v := .ref (ad 1)) rfl dX9_begins_19 ?_
        refine lv_iconst (v := 2) hx hb_ dX9_begins_22 (by decide) ?_
        obtain ⟨x2, hx2, h⟩ := bnd h
        refine w_ald C hP (k := 1) (by decide) (n := 660) rfl hx2 dX9_begins_23 ?_
        refine lv_iconst (v := (-1)) hx hb_ dX9_begins_24 (by decide) ?_
        refine lv_ixor hx hb_ dX9_begins_25 ?_
        refine lv_iand hx hb_ dX9_begins_26 ?_
        refine lv_if_ne (tgt := 59) hx hb_ dX9_begins_27 (by decide) (fun hc => ?_) (fun hc => ?_)
        · replace h := iff' h hc
          exact bk_59 v2_5 v3_5 y h hK _ _ _ hP (lv_sub hl [0, 1, 2, 3] rfl)
        · replace h := ift h hc
          refine lv_iload_n hx hb_ dX9_begins_30 rfl (lv_at hl 3 rfl) ?_
          refine lv_iload_n hx hb_ dX9_begins_31 rfl (lv_at hl 1 rfl) ?_
          obtain ⟨q7, hq7, h⟩ := bnd h
          refine w_ci (w_rS (As := [.int v3_5, .int v1]) (rest := []) C hP (c_X9_has l D aI aL ad inj _ σ v3_5 v1 q7 hq7) wt896 wt897 wt12 wt898 2 hd_X9_has ⟨Nat.le_of_ble_eq_true rfl, Nat.le_of_ble_eq_true rfl⟩ rfl hl.1 rfl (Nat.le_of_ble_eq_true rfl) dX9_begins_32) hP (fun H locs hP => ?_)
          refine lv_if_ne (tgt := 59) hx hb_ dX9_begins_35 (by decide) (fun hc => ?_) (fun hc => ?_)
          · replace h := iff' h hc
            exact bk_59 v2_5 v3_5 y h hK _ _ _ hP (lv_sub hl [0, 1, 2, 3] rfl)
          · replace h := ift h hc
            refine lv_iload_n hx hb_ dX9_begins_38 rfl (lv_at hl 2 rfl) ?_
            refine lv_bipush (v := (-4)) hx hb_ dX9_begins_39 (by decide) ?_
            refine lv_icmp_eq (tgt := 55) hx hb_ dX9_begins_41 (by decide) (fun hc => ?_) (fun hc => ?_)
            · replace h := ift h hc
              exact bk_55 v2_5 v3_5 y h hK _ _ _ hP (lv_sub hl [0, 1, 2, 3] rfl)
            · replace h := iff' h hc
              refine lv_iload_n hx hb_ dX9_begins_44 rfl (lv_at hl 3 rfl) ?_
              obtain ⟨q8, hq8, h⟩ := bnd h
              refine w_ci (w_rS (As := [.int v3_5]) (rest := []) C hP (c_X9_ones l D aI aL ad inj _ σ v3_5 q8 hq8) wt907 wt908 wt12 wt909 1 hd_X9_ones ⟨Nat.le_of_ble_eq_true rfl, Nat.le_of_ble_eq_true rfl⟩ rfl hl.1 rfl (Nat.le_of_ble_eq_true rfl) dX9_begins_45) hP (fun H locs hP => ?_)
              refine lv_iload_n hx hb_ dX9_begins_48 rfl (lv_at hl 2 rfl) ?_
              obtain ⟨q9, hq9, h⟩ := bnd h
              refine w_ci (w_rS (As := [.int v2_5]) (rest := [.int q8]) C hP (c_X9_ones l D aI aL ad inj _ σ v2_5 q9 hq9) wt907 wt908 wt12 wt909 1 hd_X9_ones ⟨Nat.le_of_ble_eq_true rfl, Nat.le_of_ble_eq_true rfl⟩ rfl hl.1 rfl (Nat.le_of_ble_eq_true rfl) dX9_begins_49) hP (fun H locs hP => ?_)
              refine lv_icmp_ge (tgt := 59) hx hb_ dX9_begins_52 (by decide) (fun hc => ?_) (fun hc => ?_)
              · replace h := ift h hc
                exact bk_59 v2_5 v3_5 y h hK _ _ _ hP (lv_sub hl [0, 1, 2, 3] rfl)
              · replace h := iff' h hc
                exact bk_55 v2_5 v3_5 y h hK _ _ _ hP (lv_sub hl [0, 1, 2, 3] rfl)
  have bk_5 : ∀ (v2_5 : Int32) (v3_5 : Int32) (y : Int32), f_X9_begins_5 v1 v2_5 v3_5 σ = some y → (fun y => y = r0) y → ∀ (H : Heap) (locs : List Loc) (ls : Array Slot), HS D aI aL 8 shM ad σ s H locs → lv_has ls 5 [(0, .ref (ad 0)), (1, .int v1), (2, .int v2_5), (3, .int v3_5)] → W p l e (RM 3 69) s m args below meth c H locs 0 0 (MQ below (Qi D aI aL 8 shM ad r0 σ s.heap.size) args s 0 0 (AA ad 8 s.heap.size)) (F0 m 5 ls []) := fun v2_5 v3_5 y h hK => lp_5 3000 v2_5 v3_5 y h hK
  have bk : ∀ (y : Int32), f_X9_begins v1 σ = some y → y = r0 → ∀ (H : Heap) (locs : List Loc), HS D aI aL 8 shM ad σ s H locs → W p l e (RM 3 69) s m args below meth c H locs 0 0 (MQ below (Qi D aI aL 8 shM ad r0 σ s.heap.size) args s 0 0 (AA ad 8 s.heap.size)) (F0 m 0 ls []) := by
    intro y h hK H locs hP
    unfold f_X9_begins at h
    refine lv_bipush (v := (-4)) hx hb_ dX9_begins_0 (by decide) ?_
    refine lv_istore_n (lv' := [(2, .int (-4)), (0, .ref (ad 0)), (1, .int v1)]) hx hb_ dX9_begins_2 rfl hl (by decide) rfl (fun ls hl => ?_)
    refine lv_iconst (v := 0) hx hb_ dX9_begins_3 (by decide) ?_
    refine lv_istore_n (lv' := [(3, .int 0), (2, .int (-4)), (0, .ref (ad 0)), (1, .int v1)]) hx hb_ dX9_begins_4 rfl hl (by decide) rfl (fun ls hl => ?_)
    exact bk_5 (-4) 0 y h hK _ _ _ hP (lv_sub hl [2, 3, 1, 0] rfl)
  exact bk r0 hf rfl _ _ hP
theorem hd_X9_begin : yX9_begin.cls = RX9 ∧ yX9_begin.cls ≠ "java/lang/invoke/MethodHandle" ∧ yX9_begin.cls ≠ "java/lang/invoke/VarHandle" ∧ (parseMethodDescriptor yX9_begin.desc).map (fun d => d.parameters.length) = some 1 := by decide +kernel
set_option maxHeartbeats 4000000 in
set_option maxRecDepth 100000 in
theorem c_X9_begin (l : Launch) (D : va_G) (aI aL : ClassId) (ad : Nat → Nat) (inj : Inj ad 8) (sz : Nat) (σ : Sg) (v1 : Int32) (r0 : Int32) (hf : f_X9_begin v1 σ = some r0) : Met l yX9_begin (wS yX9_begin cX9_begin 2 (some .int)) (RM 4 93) (Pw D aI aL 8 shM ad sz σ [.ref (ad 0), .int v1]) (Qi D aI aL 8 shM ad r0 σ sz) 0 0 (AA ad 8 sz) := by
  refine Mof (Qc := Qi D aI aL 8 shM ad r0 σ) (by decide) inj (Nat.le_of_ble_eq_true rfl) ?_
  intro p e s m args below meth c ls C hlk hr hP hl
  have hx := C.1.1
  have hb_ := C.1.2.1
  have hown := C.1.2.2.2.1
  have hts := C.1.2.2.2.2
  have hl : lv_has ls 2 [(0, .ref (ad 0)), (1, .int v1)] := hl
  have bk_33 : ∀ (t0_33 : Int32) (y : Int32), f_X9_begin_33 t0_33 σ = some y → (fun y => y = r0) y → ∀ (H : Heap) (locs : List Loc) (ls : Array Slot), HS D aI aL 8 shM ad σ s H locs → lv_has ls 2 [] → W p l e (RM 4 93) s m args below meth c H locs 0 0 (MQ below (Qi D aI aL 8 shM ad r0 σ s.heap.size) args s 0 0 (AA ad 8 s.heap.size)) (F0 m 33 ls [.int t0_33]) := by
    intro t0_33 y h hK H locs ls hP hl
    unfold f_X9_begin_33 at h
    obtain rfl := Option.some.inj h
    have hK : (t0_33 : Int32) = r0 := hK
    exact w_iret C hlk hr hP hK rfl dX9_begin_33
  have bk : ∀ (y : Int32), f_X9_begin v1 σ = some y → y = r0 → ∀ (H : Heap) (locs : List Loc), HS D aI aL 8 shM ad σ s H locs → W p l e (RM 4 93) s m args below meth c H locs 0 0 (MQ below (Qi D aI aL 8 shM ad r0 σ s.heap.size) args s 0 0 (AA ad 8 s.heap.size)) (F0 m 0 ls []) := by
    intro y h hK H locs hP
    unfold f_X9_begin at h
    refine lv_aload_n hx hb_ dX9_begin_0 rfl (lv_at hl 0 rfl) ?_
    refine lv_iload_n hx hb_ dX9_begin_1 rfl (lv_at hl 1 rfl) ?_
    obtain ⟨q1, hq1, h⟩ := bnd h
    refine w_ci (w_rV (As := [.int v1]) (rest := []) C hP (k := 0) (c_X9_isStone l D aI aL ad inj _ σ v1 q1 hq1) (gV wt878 wt880 wp22 wt12 wt881) 1 hd_X9_isStone ⟨Nat.le_of_ble_eq_true rfl, Nat.le_of_ble_eq_true rfl⟩ (by decide) 7 rfl rfl rfl hl.1 rfl (Nat.le_of_ble_eq_true rfl) dX9_begin_2) hP (fun H locs hP => ?_)
    refine lv_if_ne (tgt := 10) hx hb_ dX9_begin_5 (by decide) (fun hc => ?_) (fun hc => ?_)
    · replace h := iff' h hc
      refine lv_aload_n hx hb_ dX9_begin_10 rfl (lv_at hl 0 rfl) ?_
      refine w_get C hP (k := 0) (by decide) 7 rfl rfl inWX9 0 (by decide) wt784 (v := .ref (ad 1)) rfl dX9_begin_11 ?_
      refine lv_iconst (v := 2) hx hb_ dX9_begin_14 (by decide) ?_
      obtain ⟨x2, hx2, h⟩ := bnd h
      refine w_ald C hP (k := 1) (by decide) (n := 660) rfl hx2 dX9_begin_15 ?_
      refine lv_iload_n hx hb_ dX9_begin_16 rfl (lv_at hl 1 rfl) ?_
      obtain ⟨q3, hq3, h⟩ := bnd h
      refine w_ci (w_rS (As := [.int x2, .int v1]) (rest := []) C hP (c_X9_has l D aI aL ad inj _ σ x2 v1 q3 hq3) wt896 wt897 wt12 wt898 2 hd_X9_has ⟨Nat.le_of_ble_eq_true rfl, Nat.le_of_ble_eq_true rfl⟩ rfl hl.1 rfl (Nat.le_of_ble_eq_true rfl) dX9_begin_17) hP (fun H locs hP => ?_)
      refine lv_if_eq (tgt := 31) hx hb_ dX9_begin_20 (by decide) (fun hc => ?_) (fun hc => ?_)
      · replace h := ift h hc
        refine lv_bipush (v := (-2)) hx hb_ dX9_begin_31 (by decide) ?_
        exact bk_33 (-2) y h hK _ _ _ hP (lv_sub hl [] rfl)
      · replace h := iff' h hc
        refine lv_aload_n hx hb_ dX9_begin_23 rfl (lv_at hl 0 rfl) ?_
        refine lv_iload_n hx hb_ dX9_begin_24 rfl (lv_at hl 1 rfl) ?_
        obtain ⟨q4, hq4, h⟩ := bnd h
        refine w_ci (w_rV (As := [.int v1]) (rest := []) C hP (k := 0) (c_X9_begins l D aI aL ad inj _ σ v1 q4 hq4) (gV wt977 wt979 wp33 wt12 wt980) 1 hd_X9_begins ⟨Nat.le_of_ble_eq_true rfl, Nat.le_of_ble_eq_true rfl⟩ (by decide) 7 rfl rfl rfl hl.1 rfl (Nat.le_of_ble_eq_true rfl) dX9_begin_25) hP (fun H locs hP => ?_)
        refine lv_goto (tgt := 33) hx hb_ dX9_begin_28 (by decide) ?_
        exact bk_33 q4 y h hK _ _ _ hP (lv_sub hl [] rfl)
    · replace h := ift h hc
      refine lv_iconst (v := (-1)) hx hb_ dX9_begin_8 (by decide) ?_
      obtain rfl := Option.some.inj h
      have hK : ((-1) : Int32) = r0 := hK
      exact w_iret C hlk hr hP hK rfl dX9_begin_9
  exact bk r0 hf rfl _ _ hP
theorem hd_X9_isHall : yX9_isHall.cls = RX9 ∧ yX9_isHall.cls ≠ "java/lang/invoke/MethodHandle" ∧ yX9_isHall.cls ≠ "java/lang/invoke/VarHandle" ∧ (parseMethodDescriptor yX9_isHall.desc).map (fun d => d.parameters.length) = some 1 := by decide +kernel
set_option maxHeartbeats 4000000 in
set_option maxRecDepth 100000 in
theorem c_X9_isHall (l : Launch) (D : va_G) (aI aL : ClassId) (ad : Nat → Nat) (inj : Inj ad 8) (sz : Nat) (σ : Sg) (v1 : Int32) (r0 : Int32) (hf : f_X9_isHall v1 σ = some r0) : Met l yX9_isHall (wS yX9_isHall cX9_isHall 5 (some .boolean)) (RM 3 69) (Pw D aI aL 8 shM ad sz σ [.ref (ad 0), .int v1]) (Qi D aI aL 8 shM ad r0 σ sz) 0 0 (AA ad 8 sz) := by
  refine Mof (Qc := Qi D aI aL 8 shM ad r0 σ) (by decide) inj (Nat.le_of_ble_eq_true rfl) ?_
  intro p e s m args below meth c ls C hlk hr hP hl
  have hx := C.1.1
  have hb_ := C.1.2.1
  have hown := C.1.2.2.2.1
  have hts := C.1.2.2.2.2
  have hl : lv_has ls 5 [(0, .ref (ad 0)), (1, .int v1)] := hl
  have lp_11 : ∀ (v2_11 : Int32) (n_11 : Nat) (v3_11 : Int32) (v4_11 : Int32) (y : Int32), itr n_11 (fun s => f_X9_isHall_11s v2_11 s.1 s.2 σ) (v3_11, v4_11) = some y → (fun y => y = r0) y → ∀ (H : Heap) (locs : List Loc) (ls : Array Slot), HS D aI aL 8 shM ad σ s H locs → lv_has ls 5 [(0, .ref (ad 0)), (2, .int v2_11), (3, .int v3_11), (4, .int v4_11)] → W p l e (RM 3 69) s m args below meth c H locs 0 0 (MQ below (Qi D aI aL 8 shM ad r0 σ s.heap.size) args s 0 0 (AA ad 8 s.heap.size)) (F0 m 11 ls []) := by
    intro v2_11 n_11
    induction n_11 with
    | zero =>
      intro v3_11 v4_11 y h hK
      cases (show (none : Option Int32) = some y from h)
    | succ n_11 ih_11 =>
      have bk_55 : ∀ (v4_55 : Int32) (t0_55 : Int32) (y : ((Int32 × Int32) ⊕ Int32)), f_X9_isHall_55 v2_11 v4_55 t0_55 σ = some y → (KK n_11 (fun s => f_X9_isHall_11s v2_11 s.1 s.2 σ) (fun y => y = r0)) y → ∀ (H : Heap) (locs : List Loc) (ls : Array Slot), HS D aI aL 8 shM ad σ s H locs → lv_has ls 5 [(0, .ref (ad 0)), (2, .int v2_11), (4, .int v4_55)] → W p l e (RM 3 69) s m args below meth c H locs 0 0 (MQ below (Qi D aI aL 8 shM ad r0 σ s.heap.size) args s 0 0 (AA ad 8 s.heap.size)) (F0 m 55 ls [.int t0_55]) := by
        intro v4_55 t0_55 y h hK H locs ls hP hl
        unfold f_X9_isHall_55 at h
        refine lv_istore_n (lv' := [(3, .int t0_55), (0, .ref (ad 0)), (2, .int v2_11), (4, .int v4_55)]) hx hb_ dX9_isHall_55 rfl hl (by decide) rfl (fun ls hl => ?_)
        obtain ⟨x4, hx4, h⟩ := nm_inv h
        refine lv_iinc (v := x4) (lv' := [(4, .int x4), (3, .int t0_55), (0, .ref (ad 0)), (2, .int v2_11)]) hx hb_ dX9_isHall_56 hl (k := 3) rfl (by rw [hx4]; rfl) (by decide) rfl (fun ls hl => ?_)
        refine lv_goto (tgt := 11) hx hb_ dX9_isHall_59 (by decide) ?_
        obtain rfl := Option.some.inj h
        obtain ⟨y2, h, hK⟩ := hK
        exact ih_11 t0_55 x4 y2 h hK _ _ _ hP (lv_sub hl [2, 3, 1, 0] rfl)
      have bk_50 : ∀ (v4_50 : Int32) (y : ((Int32 × Int32) ⊕ Int32)), f_X9_isHall_50 v2_11 v4_50 σ = some y → (KK n_11 (fun s => f_X9_isHall_11s v2_11 s.1 s.2 σ) (fun y => y = r0)) y → ∀ (H : Heap) (locs : List Loc) (ls : Array Slot), HS D aI aL 8 shM ad σ s H locs → lv_has ls 5 [(0, .ref (ad 0)), (2, .int v2_11), (4, .int v4_50)] → W p l e (RM 3 69) s m args below meth c H locs 0 0 (MQ below (Qi D aI aL 8 shM ad r0 σ s.heap.size) args s 0 0 (AA ad 8 s.heap.size)) (F0 m 50 ls []) := by
        intro v4_50 y h hK H locs ls hP hl
        unfold f_X9_isHall_50 at h
        refine lv_iconst (v := 1) hx hb_ dX9_isHall_50 (by decide) ?_
        refine lv_goto (tgt := 55) hx hb_ dX9_isHall_51 (by decide) ?_
        exact bk_55 v4_50 1 y h hK _ _ _ hP (lv_sub hl [0, 1, 2] rfl)
      have bk_54 : ∀ (v4_54 : Int32) (y : ((Int32 × Int32) ⊕ Int32)), f_X9_isHall_54 v2_11 v4_54 σ = some y → (KK n_11 (fun s => f_X9_isHall_11s v2_11 s.1 s.2 σ) (fun y => y = r0)) y → ∀ (H : Heap) (locs : List Loc) (ls : Array Slot), HS D aI aL 8 shM ad σ s H locs → lv_has ls 5 [(0, .ref (ad 0)), (2, .int v2_11), (4, .int v4_54)] → W p l e (RM 3 69) s m args below meth c H locs 0 0 (MQ below (Qi D aI aL 8 shM ad r0 σ s.heap.size) args s 0 0 (AA ad 8 s.heap.size)) (F0 m 54 ls []) := by
        intro v4_54 y h hK H locs ls hP hl
        unfold f_X9_isHall_54 at h
        refine lv_iconst (v := 0) hx hb_ dX9_isHall_54 (by decide) ?_
        exact bk_55 v4_54 0 y h hK _ _ _ hP (lv_sub hl [0, 1, 2] rfl)
      intro v3_11 v4_11 y h hK H locs ls hP hl
      obtain ⟨y, h, hK⟩ := itr_inv (K := (fun y => y = r0)) h hK
      replace h : f_X9_isHall_11s v2_11 v3_11 v4_11 σ = some y := h
      unfold f_X9_isHall_11s at h
      refine lv_iload hx hb_ dX9_isHall_11 (lv_at hl 3 rfl) ?_
      refine lv_aload_n hx hb_ dX9_isHall_13 rfl (lv_at hl 0 rfl) ?_
      refine w_get C hP (k := 0) (by decide) 7 rfl rfl inWX9 0 (by decide) wt784 (v := .ref (ad 1)) rfl dX9_isHall_14 ?_
      refine lv_iconst (v := 0) hx hb_ dX9_isHall_17 (by decide) ?_
      obtain ⟨x2, hx2, h⟩ := bnd h
      refine w_ald C hP (k := 1) (by decide) (n := 660) rfl hx2 dX9_isHall_18 ?_
      refine lv_icmp_ge (tgt := 62) hx hb_ dX9_isHall_19 (by decide) (fun hc => ?_) (fun hc => ?_)
      · replace h := ift h hc
        refine lv_iload_n hx hb_ dX9_isHall_62 rfl (lv_at hl 2 rfl) ?_
        obtain ⟨x3, hx3, h⟩ := bnd h
        obtain rfl := Option.some.inj h
        have hK : (x3 : Int32) = r0 := hK
        exact w_zret C hlk hr hP hx3 hK rfl dX9_isHall_63
      · replace h := iff' h hc
        refine lv_iload_n hx hb_ dX9_isHall_22 rfl (lv_at hl 2 rfl) ?_
        refine lv_if_ne (tgt := 50) hx hb_ dX9_isHall_23 (by decide) (fun hc => ?_) (fun hc => ?_)
        · replace h := iff' h hc
          exact bk_50 v4_11 y h hK _ _ _ hP (lv_sub hl [0, 1, 3] rfl)
        · replace h := ift h hc
          refine lv_iload_n hx hb_ dX9_isHall_26 rfl (lv_at hl 1 rfl) ?_
          refine lv_iload hx hb_ dX9_isHall_27 (lv_at hl 3 rfl) ?_
          obtain ⟨q5, hq5, h⟩ := bnd h
          refine w_ci (w_rS (As := [.int v2_11, .int v4_11]) (rest := []) C hP (c_X9_has l D aI aL ad inj _ σ v2_11 v4_11 q5 hq5) wt896 wt897 wt12 wt898 2 hd_X9_has ⟨Nat.le_of_ble_eq_true rfl, Nat.le_of_ble_eq_true rfl⟩ rfl hl.1 rfl (Nat.le_of_ble_eq_true rfl) dX9_isHall_29) hP (fun H locs hP => ?_)
          refine lv_if_eq (tgt := 54) hx hb_ dX9_isHall_32 (by decide) (fun hc => ?_) (fun hc => ?_)
          · replace h := ift h hc
            exact bk_54 v4_11 y h hK _ _ _ hP (lv_sub hl [0, 1, 3] rfl)
          · replace h := iff' h hc
            refine lv_aload_n hx hb_ dX9_isHall_35 rfl (lv_at hl 0 rfl) ?_
            refine w_get C hP (k := 0) (by decide) 7 rfl rfl inWX9 0 (by decide) wt784 (v := .ref (ad 1)) rfl dX9_isHall_36 ?_
            refine lv_bipush (v := 45) hx hb_ dX9_isHall_39 (by decide) ?_
            refine lv_iload hx hb_ dX9_isHall_41 (lv_at hl 3 rfl) ?_
            refine lv_iadd hx hb_ dX9_isHall_43 ?_
            obtain ⟨x6, hx6, h⟩ := bnd h
            refine w_ald C hP (k := 1) (by decide) (n := 660) rfl hx6 dX9_isHall_44 ?_
            refine lv_iload_n hx hb_ dX9_isHall_45 rfl (lv_at hl 1 rfl) ?_
            refine lv_iand hx hb_ dX9_isHall_46 ?_
            refine lv_if_eq (tgt := 54) hx hb_ dX9_isHall_47 (by decide) (fun hc => ?_) (fun hc => ?_)
            · replace h := ift h hc
              exact bk_54 v4_11 y h hK _ _ _ hP (lv_sub hl [0, 1, 3] rfl)
            · replace h := iff' h hc
              exact bk_50 v4_11 y h hK _ _ _ hP (lv_sub hl [0, 1, 3] rfl)
  have bk_11 : ∀ (v2_11 : Int32) (v3_11 : Int32) (v4_11 : Int32) (y : Int32), f_X9_isHall_11 v2_11 v3_11 v4_11 σ = some y → (fun y => y = r0) y → ∀ (H : Heap) (locs : List Loc) (ls : Array Slot), HS D aI aL 8 shM ad σ s H locs → lv_has ls 5 [(0, .ref (ad 0)), (2, .int v2_11), (3, .int v3_11), (4, .int v4_11)] → W p l e (RM 3 69) s m args below meth c H locs 0 0 (MQ below (Qi D aI aL 8 shM ad r0 σ s.heap.size) args s 0 0 (AA ad 8 s.heap.size)) (F0 m 11 ls []) := fun v2_11 v3_11 v4_11 y h hK => lp_11 v2_11 3000 v3_11 v4_11 y h hK
  have bk : ∀ (y : Int32), f_X9_isHall v1 σ = some y → y = r0 → ∀ (H : Heap) (locs : List Loc), HS D aI aL 8 shM ad σ s H locs → W p l e (RM 3 69) s m args below meth c H locs 0 0 (MQ below (Qi D aI aL 8 shM ad r0 σ s.heap.size) args s 0 0 (AA ad 8 s.heap.size)) (F0 m 0 ls []) := by
    intro y h hK H locs hP
    unfold f_X9_isHall at h
    refine lv_aload_n hx hb_ dX9_isHall_0 rfl (lv_at hl 0 rfl) ?_
    refine lv_iload_n hx hb_ dX9_isHall_1 rfl (lv_at hl 1 rfl) ?_
    obtain ⟨q1, hq1, h⟩ := bnd h
    refine w_ci (w_rV (As := [.int v1]) (rest := []) C hP (k := 0) (c_X9_reachOf l D aI aL ad inj _ σ v1 q1 hq1) (gV wt930 wt932 wp27 wt12 wt933) 1 hd_X9_reachOf ⟨Nat.le_of_ble_eq_true rfl, Nat.le_of_ble_eq_true rfl⟩ (by decide) 7 rfl rfl rfl hl.1 rfl (Nat.le_of_ble_eq_true rfl) dX9_isHall_2) hP (fun H locs hP => ?_)
    refine lv_istore_n (lv' := [(2, .int q1), (0, .ref (ad 0)), (1, .int v1)]) hx hb_ dX9_isHall_5 rfl hl (by decide) rfl (fun ls hl => ?_)
    refine lv_iconst (v := 0) hx hb_ dX9_isHall_6 (by decide) ?_
    refine lv_istore_n (lv' := [(3, .int 0), (2, .int q1), (0, .ref (ad 0)), (1, .int v1)]) hx hb_ dX9_isHall_7 rfl hl (by decide) rfl (fun ls hl => ?_)
    refine lv_iconst (v := 0) hx hb_ dX9_isHall_8 (by decide) ?_
    refine lv_istore (lv' := [(4, .int 0), (3, .int 0), (2, .int q1), (0, .ref (ad 0)), (1, .int v1)]) hx hb_ dX9_isHall_9 hl (by decide) rfl (fun ls hl => ?_)
    exact bk_11 q1 0 0 y h hK _ _ _ hP (lv_sub hl [3, 2, 1, 0] rfl)
  exact bk r0 hf rfl _ _ hP
theorem hd_X9_hall : yX9_hall.cls = RX9 ∧ yX9_hall.cls ≠ "java/lang/invoke/MethodHandle" ∧ yX9_hall.cls ≠ "java/lang/invoke/VarHandle" ∧ (parseMethodDescriptor yX9_hall.desc).map (fun d => d.parameters.length) = some 1 := by decide +kernel
set_option maxHeartbeats 4000000 in
set_option maxRecDepth 100000 in
theorem c_X9_hall (l : Launch) (D : va_G) (aI aL : ClassId) (ad : Nat → Nat) (inj : Inj ad 8) (sz : Nat) (σ : Sg) (v1 : Int32) (r0 : Int32) (hf : f_X9_hall v1 σ = some r0) : Met l yX9_hall (wS yX9_hall cX9_hall 5 (some .int)) (RM 4 93) (Pw D aI aL 8 shM ad sz σ [.ref (ad 0), .int v1]) (Qi D aI aL 8 shM ad r0 σ sz) 0 0 (AA ad 8 sz) := by
  refine Mof (Qc := Qi D aI aL 8 shM ad r0 σ) (by decide) inj (Nat.le_of_ble_eq_true rfl) ?_
  intro p e s m args below meth c ls C hlk hr hP hl
  have hx := C.1.1
  have hb_ := C.1.2.1
  have hown := C.1.2.2.2.1
  have hts := C.1.2.2.2.2
  have hl : lv_has ls 5 [(0, .ref (ad 0)), (1, .int v1)] := hl
  have bk_119 : ∀ (t0_119 : Int32) (y : Int32), f_X9_hall_119 t0_119 σ = some y → (fun y => y = r0) y → ∀ (H : Heap) (locs : List Loc) (ls : Array Slot), HS D aI aL 8 shM ad σ s H locs → lv_has ls 5 [] → W p l e (RM 4 93) s m args below meth c H locs 0 0 (MQ below (Qi D aI aL 8 shM ad r0 σ s.heap.size) args s 0 0 (AA ad 8 s.heap.size)) (F0 m 119 ls [.int t0_119]) := by
    intro t0_119 y h hK H locs ls hP hl
    unfold f_X9_hall_119 at h
    obtain rfl := Option.some.inj h
    have hK : (t0_119 : Int32) = r0 := hK
    exact w_iret C hlk hr hP hK rfl dX9_hall_119
  have bk_94 : ∀ (v2_94 : Int32) (y : Int32), f_X9_hall_94 v1 v2_94 σ = some y → (fun y => y = r0) y → ∀ (H : Heap) (locs : List Loc) (ls : Array Slot), HS D aI aL 8 shM ad σ s H locs → lv_has ls 5 [(0, .ref (ad 0)), (1, .int v1), (2, .int v2_94)] → W p l e (RM 4 93) s m args below meth c H locs 0 0 (MQ below (Qi D aI aL 8 shM ad r0 σ s.heap.size) args s 0 0 (AA ad 8 s.heap.size)) (F0 m 94 ls []) := by
    intro v2_94 y h hK H locs ls hP hl
    unfold f_X9_hall_94 at h
    refine lv_iload_n hx hb_ dX9_hall_94 rfl (lv_at hl 1 rfl) ?_
    refine lv_iconst (v := 1) hx hb_ dX9_hall_95 (by decide) ?_
    refine lv_icmp_ne (tgt := 103) hx hb_ dX9_hall_96 (by decide) (fun hc => ?_) (fun hc => ?_)
    · replace h := iff' h hc
      refine lv_aload_n hx hb_ dX9_hall_103 rfl (lv_at hl 0 rfl) ?_
      refine lv_aload_n hx hb_ dX9_hall_104 rfl (lv_at hl 0 rfl) ?_
      obtain ⟨q3, hq3, h⟩ := bnd h
      refine w_ci (w_rV (As := []) (rest := [.ref (ad 0)]) C hP (k := 0) (c_X9_beginnings l D aI aL ad inj _ σ q3 hq3) (gV wt965 wt967 wp32 wt12 wt968) 0 hd_X9_beginnings ⟨Nat.le_of_ble_eq_true rfl, Nat.le_of_ble_eq_true rfl⟩ (by decide) 7 rfl rfl rfl hl.1 rfl (Nat.le_of_ble_eq_true rfl) dX9_hall_105) hP (fun H locs hP => ?_)
      obtain ⟨q4, hq4, h⟩ := bnd h
      refine w_ci (w_rV (As := [.int q3]) (rest := []) C hP (k := 0) (c_X9_isHall l D aI aL ad inj _ σ q3 q4 hq4) (gV wt985 wt987 wp34 wt12 wt988) 1 hd_X9_isHall ⟨Nat.le_of_ble_eq_true rfl, Nat.le_of_ble_eq_true rfl⟩ (by decide) 7 rfl rfl rfl hl.1 rfl (Nat.le_of_ble_eq_true rfl) dX9_hall_108) hP (fun H locs hP => ?_)
      refine lv_if_eq (tgt := 118) hx hb_ dX9_hall_111 (by decide) (fun hc => ?_) (fun hc => ?_)
      · replace h := ift h hc
        refine lv_iconst (v := 0) hx hb_ dX9_hall_118 (by decide) ?_
        exact bk_119 0 y h hK _ _ _ hP (lv_sub hl [] rfl)
      · replace h := iff' h hc
        refine lv_iconst (v := 1) hx hb_ dX9_hall_114 (by decide) ?_
        refine lv_goto (tgt := 119) hx hb_ dX9_hall_115 (by decide) ?_
        exact bk_119 1 y h hK _ _ _ hP (lv_sub hl [] rfl)
    · replace h := ift h hc
      refine lv_iload_n hx hb_ dX9_hall_99 rfl (lv_at hl 2 rfl) ?_
      refine lv_goto (tgt := 119) hx hb_ dX9_hall_100 (by decide) ?_
      exact bk_119 v2_94 y h hK _ _ _ hP (lv_sub hl [] rfl)
  have lp_17 : ∀ (n_17 : Nat) (v2_17 : Int32) (v3_17 : Int32) (y : Int32), itr n_17 (fun s => f_X9_hall_17s v1 s.1 s.2 σ) (v2_17, v3_17) = some y → (fun y => y = r0) y → ∀ (H : Heap) (locs : List Loc) (ls : Array Slot), HS D aI aL 8 shM ad σ s H locs → lv_has ls 5 [(0, .ref (ad 0)), (1, .int v1), (2, .int v2_17), (3, .int v3_17)] → W p l e (RM 4 93) s m args below meth c H locs 0 0 (MQ below (Qi D aI aL 8 shM ad r0 σ s.heap.size) args s 0 0 (AA ad 8 s.heap.size)) (F0 m 17 ls []) := by
    intro n_17
    induction n_17 with
    | zero =>
      intro v2_17 v3_17 y h hK
      cases (show (none : Option Int32) = some y from h)
    | succ n_17 ih_17 =>
      have bk_87 : ∀ (v3_87 : Int32) (t0_87 : Int32) (y : ((Int32 × Int32) ⊕ Int32)), f_X9_hall_87 v1 v3_87 t0_87 σ = some y → (KK n_17 (fun s => f_X9_hall_17s v1 s.1 s.2 σ) (fun y => y = r0)) y → ∀ (H : Heap) (locs : List Loc) (ls : Array Slot), HS D aI aL 8 shM ad σ s H locs → lv_has ls 5 [(0, .ref (ad 0)), (1, .int v1), (3, .int v3_87)] → W p l e (RM 4 93) s m args below meth c H locs 0 0 (MQ below (Qi D aI aL 8 shM ad r0 σ s.heap.size) args s 0 0 (AA ad 8 s.heap.size)) (F0 m 87 ls [.int t0_87]) := by
        intro v3_87 t0_87 y h hK H locs ls hP hl
        unfold f_X9_hall_87 at h
        refine lv_istore_n (lv' := [(2, .int t0_87), (0, .ref (ad 0)), (1, .int v1), (3, .int v3_87)]) hx hb_ dX9_hall_87 rfl hl (by decide) rfl (fun ls hl => ?_)
        obtain ⟨x6, hx6, h⟩ := nm_inv h
        refine lv_iinc (v := x6) (lv' := [(3, .int x6), (2, .int t0_87), (0, .ref (ad 0)), (1, .int v1)]) hx hb_ dX9_hall_88 hl (k := 3) rfl (by rw [hx6]; rfl) (by decide) rfl (fun ls hl => ?_)
        refine lv_goto (tgt := 17) hx hb_ dX9_hall_91 (by decide) ?_
        obtain rfl := Option.some.inj h
        obtain ⟨y2, h, hK⟩ := hK
        exact ih_17 t0_87 x6 y2 h hK _ _ _ hP (lv_sub hl [2, 3, 1, 0] rfl)
      have bk_86 : ∀ (v2_86 : Int32) (v3_86 : Int32) (y : ((Int32 × Int32) ⊕ Int32)), f_X9_hall_86 v1 v2_86 v3_86 σ = some y → (KK n_17 (fun s => f_X9_hall_17s v1 s.1 s.2 σ) (fun y => y = r0)) y → ∀ (H : Heap) (locs : List Loc) (ls : Array Slot), HS D aI aL 8 shM ad σ s H locs → lv_has ls 5 [(0, .ref (ad 0)), (1, .int v1), (2, .int v2_86), (3, .int v3_86)] → W p l e (RM 4 93) s m args below meth c H locs 0 0 (MQ below (Qi D aI aL 8 shM ad r0 σ s.heap.size) args s 0 0 (AA ad 8 s.heap.size)) (F0 m 86 ls []) := by
        intro v2_86 v3_86 y h hK H locs ls hP hl
        unfold f_X9_hall_86 at h
        refine lv_iload_n hx hb_ dX9_hall_86 rfl (lv_at hl 2 rfl) ?_
        exact bk_87 v3_86 v2_86 y h hK _ _ _ hP (lv_sub hl [0, 1, 3] rfl)
      have bk_67 : ∀ (v2_67 : Int32) (v3_67 : Int32) (t0_67 : Int32) (y : ((Int32 × Int32) ⊕ Int32)), f_X9_hall_67 v1 v2_67 v3_67 t0_67 σ = some y → (KK n_17 (fun s => f_X9_hall_17s v1 s.1 s.2 σ) (fun y => y = r0)) y → ∀ (H : Heap) (locs : List Loc) (ls : Array Slot), HS D aI aL 8 shM ad σ s H locs → lv_has ls 5 [(0, .ref (ad 0)), (1, .int v1), (2, .int v2_67), (3, .int v3_67)] → W p l e (RM 4 93) s m args below meth c H locs 0 0 (MQ below (Qi D aI aL 8 shM ad r0 σ s.heap.size) args s 0 0 (AA ad 8 s.heap.size)) (F0 m 67 ls [.int t0_67]) := by
        intro v2_67 v3_67 t0_67 y h hK H locs ls hP hl
        unfold f_X9_hall_67 at h
        refine lv_istore (lv' := [(4, .int t0_67), (0, .ref (ad 0)), (1, .int v1), (2, .int v2_67), (3, .int v3_67)]) hx hb_ dX9_hall_67 hl (by decide) rfl (fun ls hl => ?_)
        refine lv_iload hx hb_ dX9_hall_69 (lv_at hl 0 rfl) ?_
        refine lv_if_eq (tgt := 86) hx hb_ dX9_hall_71 (by decide) (fun hc => ?_) (fun hc => ?_)
        · replace h := ift h hc
          exact bk_86 v2_67 v3_67 y h hK _ _ _ hP (lv_sub hl [1, 2, 3, 4] rfl)
        · replace h := iff' h hc
          refine lv_aload_n hx hb_ dX9_hall_74 rfl (lv_at hl 1 rfl) ?_
          refine lv_iload_n hx hb_ dX9_hall_75 rfl (lv_at hl 4 rfl) ?_
          obtain ⟨q7, hq7, h⟩ := bnd h
          refine w_ci (w_rV (As := [.int v3_67]) (rest := []) C hP (k := 0) (c_X9_isHall l D aI aL ad inj _ σ v3_67 q7 hq7) (gV wt985 wt987 wp34 wt12 wt988) 1 hd_X9_isHall ⟨Nat.le_of_ble_eq_true rfl, Nat.le_of_ble_eq_true rfl⟩ (by decide) 7 rfl rfl rfl hl.1 rfl (Nat.le_of_ble_eq_true rfl) dX9_hall_76) hP (fun H locs hP => ?_)
          refine lv_if_eq (tgt := 86) hx hb_ dX9_hall_79 (by decide) (fun hc => ?_) (fun hc => ?_)
          · replace h := ift h hc
            exact bk_86 v2_67 v3_67 y h hK _ _ _ hP (lv_sub hl [1, 2, 3, 4] rfl)
          · replace h := iff' h hc
            refine lv_iload_n hx hb_ dX9_hall_82 rfl (lv_at hl 4 rfl) ?_
            refine lv_goto (tgt := 87) hx hb_ dX9_hall_83 (by decide) ?_
            exact bk_87 v3_67 v3_67 y h hK _ _ _ hP (lv_sub hl [1, 2, 4] rfl)
      have bk_66 : ∀ (v2_66 : Int32) (v3_66 : Int32) (y : ((Int32 × Int32) ⊕ Int32)), f_X9_hall_66 v1 v2_66 v3_66 σ = some y → (KK n_17 (fun s => f_X9_hall_17s v1 s.1 s.2 σ) (fun y => y = r0)) y → ∀ (H : Heap) (locs : List Loc) (ls : Array Slot), HS D aI aL 8 shM ad σ s H locs → lv_has ls 5 [(0, .ref (ad 0)), (1, .int v1), (2, .int v2_66), (3, .int v3_66)] → W p l e (RM 4 93) s m args below meth c H locs 0 0 (MQ below (Qi D aI aL 8 shM ad r0 σ s.heap.size) args s 0 0 (AA ad 8 s.heap.size)) (F0 m 66 ls []) := by
        intro v2_66 v3_66 y h hK H locs ls hP hl
        unfold f_X9_hall_66 at h
        refine lv_iconst (v := 0) hx hb_ dX9_hall_66 (by decide) ?_
        exact bk_67 v2_66 v3_66 0 y h hK _ _ _ hP (lv_sub hl [0, 1, 2, 3] rfl)
      have bk_62 : ∀ (v2_62 : Int32) (v3_62 : Int32) (y : ((Int32 × Int32) ⊕ Int32)), f_X9_hall_62 v1 v2_62 v3_62 σ = some y → (KK n_17 (fun s => f_X9_hall_17s v1 s.1 s.2 σ) (fun y => y = r0)) y → ∀ (H : Heap) (locs : List Loc) (ls : Array Slot), HS D aI aL 8 shM ad σ s H locs → lv_has ls 5 [(0, .ref (ad 0)), (1, .int v1), (2, .int v2_62), (3, .int v3_62)] → W p l e (RM 4 93) s m args below meth c H locs 0 0 (MQ below (Qi D aI aL 8 shM ad r0 σ s.heap.size) args s 0 0 (AA ad 8 s.heap.size)) (F0 m 62 ls []) := by
        intro v2_62 v3_62 y h hK H locs ls hP hl
        unfold f_X9_hall_62 at h
        refine lv_iconst (v := 1) hx hb_ dX9_hall_62 (by decide) ?_
        refine lv_goto (tgt := 67) hx hb_ dX9_hall_63 (by decide) ?_
        exact bk_67 v2_62 v3_62 1 y h hK _ _ _ hP (lv_sub hl [0, 1, 2, 3] rfl)
      intro v2_17 v3_17 y h hK H locs ls hP hl
      obtain ⟨y, h, hK⟩ := itr_inv (K := (fun y => y = r0)) h hK
      replace h : f_X9_hall_17s v1 v2_17 v3_17 σ = some y := h
      unfold f_X9_hall_17s at h
      refine lv_iload_n hx hb_ dX9_hall_17 rfl (lv_at hl 3 rfl) ?_
      refine lv_iconst (v := 1) hx hb_ dX9_hall_18 (by decide) ?_
      refine lv_aload_n hx hb_ dX9_hall_19 rfl (lv_at hl 0 rfl) ?_
      refine w_get C hP (k := 0) (by decide) 7 rfl rfl inWX9 0 (by decide) wt784 (v := .ref (ad 1)) rfl dX9_hall_20 ?_
      refine lv_iconst (v := 0) hx hb_ dX9_hall_23 (by decide) ?_
      obtain ⟨x2, hx2, h⟩ := bnd h
      refine w_ald C hP (k := 1) (by decide) (n := 660) rfl hx2 dX9_hall_24 ?_
      refine lv_ishl hx hb_ dX9_hall_25 ?_
      refine lv_icmp_ge (tgt := 94) hx hb_ dX9_hall_26 (by decide) (fun hc => ?_) (fun hc => ?_)
      · replace h := ift h hc
        obtain ⟨y2, h2, rfl⟩ := mapi h
        exact bk_94 v2_17 y2 h2 hK _ _ _ hP (lv_sub hl [0, 1, 2] rfl)
      · replace h := iff' h hc
        refine lv_iload_n hx hb_ dX9_hall_29 rfl (lv_at hl 1 rfl) ?_
        refine lv_iconst (v := 1) hx hb_ dX9_hall_30 (by decide) ?_
        refine lv_icmp_ne (tgt := 94) hx hb_ dX9_hall_31 (by decide) (fun hc => ?_) (fun hc => ?_)
        · replace h := iff' h hc
          obtain ⟨y2, h2, rfl⟩ := mapi h
          exact bk_94 v2_17 y2 h2 hK _ _ _ hP (lv_sub hl [0, 1, 2] rfl)
        · replace h := ift h hc
          refine lv_iload_n hx hb_ dX9_hall_34 rfl (lv_at hl 3 rfl) ?_
          refine lv_aload_n hx hb_ dX9_hall_35 rfl (lv_at hl 0 rfl) ?_
          obtain ⟨q5, hq5, h⟩ := bnd h
          refine w_ci (w_rV (As := []) (rest := [.int v3_17]) C hP (k := 0) (c_X9_beginnings l D aI aL ad inj _ σ q5 hq5) (gV wt965 wt967 wp32 wt12 wt968) 0 hd_X9_beginnings ⟨Nat.le_of_ble_eq_true rfl, Nat.le_of_ble_eq_true rfl⟩ (by decide) 7 rfl rfl rfl hl.1 rfl (Nat.le_of_ble_eq_true rfl) dX9_hall_36) hP (fun H locs hP => ?_)
          refine lv_iconst (v := (-1)) hx hb_ dX9_hall_39 (by decide) ?_
          refine lv_ixor hx hb_ dX9_hall_40 ?_
          refine lv_iand hx hb_ dX9_hall_41 ?_
          refine lv_if_ne (tgt := 66) hx hb_ dX9_hall_42 (by decide) (fun hc => ?_) (fun hc => ?_)
          · replace h := iff' h hc
            exact bk_66 v2_17 v3_17 y h hK _ _ _ hP (lv_sub hl [0, 1, 2, 3] rfl)
          · replace h := ift h hc
            refine lv_iload_n hx hb_ dX9_hall_45 rfl (lv_at hl 2 rfl) ?_
            refine lv_bipush (v := (-4)) hx hb_ dX9_hall_46 (by decide) ?_
            refine lv_icmp_eq (tgt := 62) hx hb_ dX9_hall_48 (by decide) (fun hc => ?_) (fun hc => ?_)
            · replace h := ift h hc
              exact bk_62 v2_17 v3_17 y h hK _ _ _ hP (lv_sub hl [0, 1, 2, 3] rfl)
            · replace h := iff' h hc
              refine lv_iload_n hx hb_ dX9_hall_51 rfl (lv_at hl 3 rfl) ?_
              obtain ⟨q8, hq8, h⟩ := bnd h
              refine w_ci (w_rS (As := [.int v3_17]) (rest := []) C hP (c_X9_ones l D aI aL ad inj _ σ v3_17 q8 hq8) wt907 wt908 wt12 wt909 1 hd_X9_ones ⟨Nat.le_of_ble_eq_true rfl, Nat.le_of_ble_eq_true rfl⟩ rfl hl.1 rfl (Nat.le_of_ble_eq_true rfl) dX9_hall_52) hP (fun H locs hP => ?_)
              refine lv_iload_n hx hb_ dX9_hall_55 rfl (lv_at hl 2 rfl) ?_
              obtain ⟨q9, hq9, h⟩ := bnd h
              refine w_ci (w_rS (As := [.int v2_17]) (rest := [.int q8]) C hP (c_X9_ones l D aI aL ad inj _ σ v2_17 q9 hq9) wt907 wt908 wt12 wt909 1 hd_X9_ones ⟨Nat.le_of_ble_eq_true rfl, Nat.le_of_ble_eq_true rfl⟩ rfl hl.1 rfl (Nat.le_of_ble_eq_true rfl) dX9_hall_56) hP (fun H locs hP => ?_)
              refine lv_icmp_ge (tgt := 66) hx hb_ dX9_hall_59 (by decide) (fun hc => ?_) (fun hc => ?_)
              · replace h := ift h hc
                exact bk_66 v2_17 v3_17 y h hK _ _ _ hP (lv_sub hl [0, 1, 2, 3] rfl)
              · replace h := iff' h hc
                exact bk_62 v2_17 v3_17 y h hK _ _ _ hP (lv_sub hl [0, 1, 2, 3] rfl)
  have bk_17 : ∀ (v2_17 : Int32) (v3_17 : Int32) (y : Int32), f_X9_hall_17 v1 v2_17 v3_17 σ = some y → (fun y => y = r0) y → ∀ (H : Heap) (locs : List Loc) (ls : Array Slot), HS D aI aL 8 shM ad σ s H locs → lv_has ls 5 [(0, .ref (ad 0)), (1, .int v1), (2, .int v2_17), (3, .int v3_17)] → W p l e (RM 4 93) s m args below meth c H locs 0 0 (MQ below (Qi D aI aL 8 shM ad r0 σ s.heap.size) args s 0 0 (AA ad 8 s.heap.size)) (F0 m 17 ls []) := fun v2_17 v3_17 y h hK => lp_17 3000 v2_17 v3_17 y h hK
  have bk : ∀ (y : Int32), f_X9_hall v1 σ = some y → y = r0 → ∀ (H : Heap) (locs : List Loc), HS D aI aL 8 shM ad σ s H locs → W p l e (RM 4 93) s m args below meth c H locs 0 0 (MQ below (Qi D aI aL 8 shM ad r0 σ s.heap.size) args s 0 0 (AA ad 8 s.heap.size)) (F0 m 0 ls []) := by
    intro y h hK H locs hP
    unfold f_X9_hall at h
    refine lv_iload_n hx hb_ dX9_hall_0 rfl (lv_at hl 1 rfl) ?_
    refine lv_i2l hx hb_ dX9_hall_1 rfl ?_
    refine lv_lconst (v := 0) hx hb_ dX9_hall_2 (by decide) ?_
    refine lv_lconst (v := 1) hx hb_ dX9_hall_3 (by decide) ?_
    obtain ⟨q1, hq1, h⟩ := bnd h
    refine w_ci (w_rS (As := [.long ((v1 : Int32).toInt64), .long 0, .long 1]) (rest := []) C hP (c_X9_in l D aI aL ad inj _ σ ((v1 : Int32).toInt64) 0 1 q1 hq1) wt830 wt831 wt12 wt832 3 hd_X9_in ⟨Nat.le_of_ble_eq_true rfl, Nat.le_of_ble_eq_true rfl⟩ rfl hl.1 rfl (Nat.le_of_ble_eq_true rfl) dX9_hall_4) hP (fun H locs hP => ?_)
    refine lv_if_ne (tgt := 12) hx hb_ dX9_hall_7 (by decide) (fun hc => ?_) (fun hc => ?_)
    · replace h := iff' h hc
      refine lv_bipush (v := (-4)) hx hb_ dX9_hall_12 (by decide) ?_
      refine lv_istore_n (lv' := [(2, .int (-4)), (0, .ref (ad 0)), (1, .int v1)]) hx hb_ dX9_hall_14 rfl hl (by decide) rfl (fun ls hl => ?_)
      refine lv_iconst (v := 0) hx hb_ dX9_hall_15 (by decide) ?_
      refine lv_istore_n (lv' := [(3, .int 0), (2, .int (-4)), (0, .ref (ad 0)), (1, .int v1)]) hx hb_ dX9_hall_16 rfl hl (by decide) rfl (fun ls hl => ?_)
      exact bk_17 (-4) 0 y h hK _ _ _ hP (lv_sub hl [2, 3, 1, 0] rfl)
    · replace h := ift h hc
      refine lv_iconst (v := (-1)) hx hb_ dX9_hall_10 (by decide) ?_
      obtain rfl := Option.some.inj h
      have hK : ((-1) : Int32) = r0 := hK
      exact w_iret C hlk hr hP hK rfl dX9_hall_11
  exact bk r0 hf rfl _ _ hP
theorem hd_X9_rope : yX9_rope.cls = RX9 ∧ yX9_rope.cls ≠ "java/lang/invoke/MethodHandle" ∧ yX9_rope.cls ≠ "java/lang/invoke/VarHandle" ∧ (parseMethodDescriptor yX9_rope.desc).map (fun d => d.parameters.length) = some 0 := by decide +kernel
set_option maxHeartbeats 4000000 in
set_option maxRecDepth 100000 in
theorem c_X9_rope (l : Launch) (D : va_G) (aI aL : ClassId) (ad : Nat → Nat) (inj : Inj ad 8) (sz : Nat) (σ : Sg) (r0 : Int32) (hf : f_X9_rope σ = some r0) : Met l yX9_rope (wS yX9_rope cX9_rope 4 (some .int)) (RM 4 93) (Pw D aI aL 8 shM ad sz σ [.ref (ad 0)]) (Qi D aI aL 8 shM ad r0 σ sz) 0 0 (AA ad 8 sz) := by
  refine Mof (Qc := Qi D aI aL 8 shM ad r0 σ) (by decide) inj (Nat.le_of_ble_eq_true rfl) ?_
  intro p e s m args below meth c ls C hlk hr hP hl
  have hx := C.1.1
  have hb_ := C.1.2.1
  have hown := C.1.2.2.2.1
  have hts := C.1.2.2.2.2
  have hl : lv_has ls 4 [(0, .ref (ad 0))] := hl
  have lp_10 : ∀ (n_10 : Nat) (v1_10 : Int32) (v2_10 : Int32) (y : Int32), itr n_10 (fun s => f_X9_rope_10s s.1 s.2 σ) (v1_10, v2_10) = some y → (fun y => y = r0) y → ∀ (H : Heap) (locs : List Loc) (ls : Array Slot), HS D aI aL 8 shM ad σ s H locs → lv_has ls 4 [(0, .ref (ad 0)), (1, .int v1_10), (2, .int v2_10)] → W p l e (RM 4 93) s m args below meth c H locs 0 0 (MQ below (Qi D aI aL 8 shM ad r0 σ s.heap.size) args s 0 0 (AA ad 8 s.heap.size)) (F0 m 10 ls []) := by
    intro n_10
    induction n_10 with
    | zero =>
      intro v1_10 v2_10 y h hK
      cases (show (none : Option Int32) = some y from h)
    | succ n_10 ih_10 =>
      have bk_66 : ∀ (v2_66 : Int32) (t0_66 : Int32) (y : ((Int32 × Int32) ⊕ Int32)), f_X9_rope_66 v2_66 t0_66 σ = some y → (KK n_10 (fun s => f_X9_rope_10s s.1 s.2 σ) (fun y => y = r0)) y → ∀ (H : Heap) (locs : List Loc) (ls : Array Slot), HS D aI aL 8 shM ad σ s H locs → lv_has ls 4 [(0, .ref (ad 0)), (2, .int v2_66)] → W p l e (RM 4 93) s m args below meth c H locs 0 0 (MQ below (Qi D aI aL 8 shM ad r0 σ s.heap.size) args s 0 0 (AA ad 8 s.heap.size)) (F0 m 66 ls [.int t0_66]) := by
        intro v2_66 t0_66 y h hK H locs ls hP hl
        unfold f_X9_rope_66 at h
        refine lv_istore_n (lv' := [(1, .int t0_66), (0, .ref (ad 0)), (2, .int v2_66)]) hx hb_ dX9_rope_66 rfl hl (by decide) rfl (fun ls hl => ?_)
        obtain ⟨x4, hx4, h⟩ := nm_inv h
        refine lv_iinc (v := x4) (lv' := [(2, .int x4), (1, .int t0_66), (0, .ref (ad 0))]) hx hb_ dX9_rope_67 hl (k := 2) rfl (by rw [hx4]; rfl) (by decide) rfl (fun ls hl => ?_)
        refine lv_goto (tgt := 10) hx hb_ dX9_rope_70 (by decide) ?_
        obtain rfl := Option.some.inj h
        obtain ⟨y2, h, hK⟩ := hK
        exact ih_10 t0_66 x4 y2 h hK _ _ _ hP (lv_sub hl [2, 1, 0] rfl)
      have bk_65 : ∀ (v1_65 : Int32) (v2_65 : Int32) (y : ((Int32 × Int32) ⊕ Int32)), f_X9_rope_65 v1_65 v2_65 σ = some y → (KK n_10 (fun s => f_X9_rope_10s s.1 s.2 σ) (fun y => y = r0)) y → ∀ (H : Heap) (locs : List Loc) (ls : Array Slot), HS D aI aL 8 shM ad σ s H locs → lv_has ls 4 [(0, .ref (ad 0)), (1, .int v1_65), (2, .int v2_65)] → W p l e (RM 4 93) s m args below meth c H locs 0 0 (MQ below (Qi D aI aL 8 shM ad r0 σ s.heap.size) args s 0 0 (AA ad 8 s.heap.size)) (F0 m 65 ls []) := by
        intro v1_65 v2_65 y h hK H locs ls hP hl
        unfold f_X9_rope_65 at h
        refine lv_iload_n hx hb_ dX9_rope_65 rfl (lv_at hl 1 rfl) ?_
        exact bk_66 v2_65 v1_65 y h hK _ _ _ hP (lv_sub hl [0, 2] rfl)
      have bk_41 : ∀ (v1_41 : Int32) (v2_41 : Int32) (t0_41 : Int32) (y : ((Int32 × Int32) ⊕ Int32)), f_X9_rope_41 v1_41 v2_41 t0_41 σ = some y → (KK n_10 (fun s => f_X9_rope_10s s.1 s.2 σ) (fun y => y = r0)) y → ∀ (H : Heap) (locs : List Loc) (ls : Array Slot), HS D aI aL 8 shM ad σ s H locs → lv_has ls 4 [(0, .ref (ad 0)), (1, .int v1_41), (2, .int v2_41)] → W p l e (RM 4 93) s m args below meth c H locs 0 0 (MQ below (Qi D aI aL 8 shM ad r0 σ s.heap.size) args s 0 0 (AA ad 8 s.heap.size)) (F0 m 41 ls [.int t0_41]) := by
        intro v1_41 v2_41 t0_41 y h hK H locs ls hP hl
        unfold f_X9_rope_41 at h
        refine lv_istore_n (lv' := [(3, .int t0_41), (0, .ref (ad 0)), (1, .int v1_41), (2, .int v2_41)]) hx hb_ dX9_rope_41 rfl hl (by decide) rfl (fun ls hl => ?_)
        refine lv_iload_n hx hb_ dX9_rope_42 rfl (lv_at hl 0 rfl) ?_
        refine lv_if_eq (tgt := 65) hx hb_ dX9_rope_43 (by decide) (fun hc => ?_) (fun hc => ?_)
        · replace h := ift h hc
          exact bk_65 v1_41 v2_41 y h hK _ _ _ hP (lv_sub hl [1, 2, 3] rfl)
        · replace h := iff' h hc
          refine lv_aload_n hx hb_ dX9_rope_46 rfl (lv_at hl 1 rfl) ?_
          refine lv_aload_n hx hb_ dX9_rope_47 rfl (lv_at hl 1 rfl) ?_
          obtain ⟨q5, hq5, h⟩ := bnd h
          refine w_ci (w_rV (As := []) (rest := [.ref (ad 0)]) C hP (k := 0) (c_X9_beginnings l D aI aL ad inj _ σ q5 hq5) (gV wt965 wt967 wp32 wt12 wt968) 0 hd_X9_beginnings ⟨Nat.le_of_ble_eq_true rfl, Nat.le_of_ble_eq_true rfl⟩ (by decide) 7 rfl rfl rfl hl.1 rfl (Nat.le_of_ble_eq_true rfl) dX9_rope_48) hP (fun H locs hP => ?_)
          refine lv_iload_n hx hb_ dX9_rope_51 rfl (lv_at hl 3 rfl) ?_
          refine lv_iconst (v := (-1)) hx hb_ dX9_rope_52 (by decide) ?_
          refine lv_ixor hx hb_ dX9_rope_53 ?_
          refine lv_iand hx hb_ dX9_rope_54 ?_
          obtain ⟨q6, hq6, h⟩ := bnd h
          refine w_ci (w_rV (As := [.int (q5 &&& (v2_41 ^^^ ((-1) : Int32)))]) (rest := []) C hP (k := 0) (c_X9_isHall l D aI aL ad inj _ σ (q5 &&& (v2_41 ^^^ ((-1) : Int32))) q6 hq6) (gV wt985 wt987 wp34 wt12 wt988) 1 hd_X9_isHall ⟨Nat.le_of_ble_eq_true rfl, Nat.le_of_ble_eq_true rfl⟩ (by decide) 7 rfl rfl rfl hl.1 rfl (Nat.le_of_ble_eq_true rfl) dX9_rope_55) hP (fun H locs hP => ?_)
          refine lv_if_ne (tgt := 65) hx hb_ dX9_rope_58 (by decide) (fun hc => ?_) (fun hc => ?_)
          · replace h := iff' h hc
            exact bk_65 v1_41 v2_41 y h hK _ _ _ hP (lv_sub hl [1, 2, 3] rfl)
          · replace h := ift h hc
            refine lv_iload_n hx hb_ dX9_rope_61 rfl (lv_at hl 3 rfl) ?_
            refine lv_goto (tgt := 66) hx hb_ dX9_rope_62 (by decide) ?_
            exact bk_66 v2_41 v2_41 y h hK _ _ _ hP (lv_sub hl [1, 3] rfl)
      have bk_40 : ∀ (v1_40 : Int32) (v2_40 : Int32) (y : ((Int32 × Int32) ⊕ Int32)), f_X9_rope_40 v1_40 v2_40 σ = some y → (KK n_10 (fun s => f_X9_rope_10s s.1 s.2 σ) (fun y => y = r0)) y → ∀ (H : Heap) (locs : List Loc) (ls : Array Slot), HS D aI aL 8 shM ad σ s H locs → lv_has ls 4 [(0, .ref (ad 0)), (1, .int v1_40), (2, .int v2_40)] → W p l e (RM 4 93) s m args below meth c H locs 0 0 (MQ below (Qi D aI aL 8 shM ad r0 σ s.heap.size) args s 0 0 (AA ad 8 s.heap.size)) (F0 m 40 ls []) := by
        intro v1_40 v2_40 y h hK H locs ls hP hl
        unfold f_X9_rope_40 at h
        refine lv_iconst (v := 0) hx hb_ dX9_rope_40 (by decide) ?_
        exact bk_41 v1_40 v2_40 0 y h hK _ _ _ hP (lv_sub hl [0, 1, 2] rfl)
      intro v1_10 v2_10 y h hK H locs ls hP hl
      obtain ⟨y, h, hK⟩ := itr_inv (K := (fun y => y = r0)) h hK
      replace h : f_X9_rope_10s v1_10 v2_10 σ = some y := h
      unfold f_X9_rope_10s at h
      refine lv_iload_n hx hb_ dX9_rope_10 rfl (lv_at hl 2 rfl) ?_
      refine lv_if_lt (tgt := 73) hx hb_ dX9_rope_11 (by decide) (fun hc => ?_) (fun hc => ?_)
      · replace h := ift h hc
        refine lv_iload_n hx hb_ dX9_rope_73 rfl (lv_at hl 1 rfl) ?_
        obtain rfl := Option.some.inj h
        have hK : (v1_10 : Int32) = r0 := hK
        exact w_iret C hlk hr hP hK rfl dX9_rope_74
      · replace h := iff' h hc
        refine lv_iload_n hx hb_ dX9_rope_14 rfl (lv_at hl 2 rfl) ?_
        refine lv_aload_n hx hb_ dX9_rope_15 rfl (lv_at hl 0 rfl) ?_
        obtain ⟨q3, hq3, h⟩ := bnd h
        refine w_ci (w_rV (As := []) (rest := [.int v2_10]) C hP (k := 0) (c_X9_beginnings l D aI aL ad inj _ σ q3 hq3) (gV wt965 wt967 wp32 wt12 wt968) 0 hd_X9_beginnings ⟨Nat.le_of_ble_eq_true rfl, Nat.le_of_ble_eq_true rfl⟩ (by decide) 7 rfl rfl rfl hl.1 rfl (Nat.le_of_ble_eq_true rfl) dX9_rope_16) hP (fun H locs hP => ?_)
        refine lv_iconst (v := (-1)) hx hb_ dX9_rope_19 (by decide) ?_
        refine lv_ixor hx hb_ dX9_rope_20 ?_
        refine lv_iand hx hb_ dX9_rope_21 ?_
        refine lv_if_ne (tgt := 40) hx hb_ dX9_rope_22 (by decide) (fun hc => ?_) (fun hc => ?_)
        · replace h := iff' h hc
          exact bk_40 v1_10 v2_10 y h hK _ _ _ hP (lv_sub hl [0, 1, 2] rfl)
        · replace h := ift h hc
          refine lv_iload_n hx hb_ dX9_rope_25 rfl (lv_at hl 2 rfl) ?_
          obtain ⟨q7, hq7, h⟩ := bnd h
          refine w_ci (w_rS (As := [.int v2_10]) (rest := []) C hP (c_X9_ones l D aI aL ad inj _ σ v2_10 q7 hq7) wt907 wt908 wt12 wt909 1 hd_X9_ones ⟨Nat.le_of_ble_eq_true rfl, Nat.le_of_ble_eq_true rfl⟩ rfl hl.1 rfl (Nat.le_of_ble_eq_true rfl) dX9_rope_26) hP (fun H locs hP => ?_)
          refine lv_iload_n hx hb_ dX9_rope_29 rfl (lv_at hl 1 rfl) ?_
          obtain ⟨q8, hq8, h⟩ := bnd h
          refine w_ci (w_rS (As := [.int v1_10]) (rest := [.int q7]) C hP (c_X9_ones l D aI aL ad inj _ σ v1_10 q8 hq8) wt907 wt908 wt12 wt909 1 hd_X9_ones ⟨Nat.le_of_ble_eq_true rfl, Nat.le_of_ble_eq_true rfl⟩ rfl hl.1 rfl (Nat.le_of_ble_eq_true rfl) dX9_rope_30) hP (fun H locs hP => ?_)
          refine lv_icmp_gt (tgt := 40) hx hb_ dX9_rope_33 (by decide) (fun hc => ?_) (fun hc => ?_)
          · replace h := ift h hc
            exact bk_40 v1_10 v2_10 y h hK _ _ _ hP (lv_sub hl [0, 1, 2] rfl)
          · replace h := iff' h hc
            refine lv_iconst (v := 1) hx hb_ dX9_rope_36 (by decide) ?_
            refine lv_goto (tgt := 41) hx hb_ dX9_rope_37 (by decide) ?_
            exact bk_41 v1_10 v2_10 1 y h hK _ _ _ hP (lv_sub hl [0, 1, 2] rfl)
  have bk_10 : ∀ (v1_10 : Int32) (v2_10 : Int32) (y : Int32), f_X9_rope_10 v1_10 v2_10 σ = some y → (fun y => y = r0) y → ∀ (H : Heap) (locs : List Loc) (ls : Array Slot), HS D aI aL 8 shM ad σ s H locs → lv_has ls 4 [(0, .ref (ad 0)), (1, .int v1_10), (2, .int v2_10)] → W p l e (RM 4 93) s m args below meth c H locs 0 0 (MQ below (Qi D aI aL 8 shM ad r0 σ s.heap.size) args s 0 0 (AA ad 8 s.heap.size)) (F0 m 10 ls []) := fun v1_10 v2_10 y h hK => lp_10 3000 v1_10 v2_10 y h hK
  have bk : ∀ (y : Int32), f_X9_rope σ = some y → y = r0 → ∀ (H : Heap) (locs : List Loc), HS D aI aL 8 shM ad σ s H locs → W p l e (RM 4 93) s m args below meth c H locs 0 0 (MQ below (Qi D aI aL 8 shM ad r0 σ s.heap.size) args s 0 0 (AA ad 8 s.heap.size)) (F0 m 0 ls []) := by
    intro y h hK H locs hP
    unfold f_X9_rope at h
    refine lv_aload_n hx hb_ dX9_rope_0 rfl (lv_at hl 0 rfl) ?_
    obtain ⟨q1, hq1, h⟩ := bnd h
    refine w_ci (w_rV (As := []) (rest := []) C hP (k := 0) (c_X9_beginnings l D aI aL ad inj _ σ q1 hq1) (gV wt965 wt967 wp32 wt12 wt968) 0 hd_X9_beginnings ⟨Nat.le_of_ble_eq_true rfl, Nat.le_of_ble_eq_true rfl⟩ (by decide) 7 rfl rfl rfl hl.1 rfl (Nat.le_of_ble_eq_true rfl) dX9_rope_1) hP (fun H locs hP => ?_)
    refine lv_istore_n (lv' := [(1, .int q1), (0, .ref (ad 0))]) hx hb_ dX9_rope_4 rfl hl (by decide) rfl (fun ls hl => ?_)
    refine lv_aload_n hx hb_ dX9_rope_5 rfl (lv_at hl 1 rfl) ?_
    obtain ⟨q2, hq2, h⟩ := bnd h
    refine w_ci (w_rV (As := []) (rest := []) C hP (k := 0) (c_X9_beginnings l D aI aL ad inj _ σ q2 hq2) (gV wt965 wt967 wp32 wt12 wt968) 0 hd_X9_beginnings ⟨Nat.le_of_ble_eq_true rfl, Nat.le_of_ble_eq_true rfl⟩ (by decide) 7 rfl rfl rfl hl.1 rfl (Nat.le_of_ble_eq_true rfl) dX9_rope_6) hP (fun H locs hP => ?_)
    refine lv_istore_n (lv' := [(2, .int q2), (1, .int q1), (0, .ref (ad 0))]) hx hb_ dX9_rope_9 rfl hl (by decide) rfl (fun ls hl => ?_)
    exact bk_10 q1 q2 y h hK _ _ _ hP (lv_sub hl [2, 1, 0] rfl)
  exact bk r0 hf rfl _ _ hP
theorem hd_X9_idle : yX9_idle.cls = RX9 ∧ yX9_idle.cls ≠ "java/lang/invoke/MethodHandle" ∧ yX9_idle.cls ≠ "java/lang/invoke/VarHandle" ∧ (parseMethodDescriptor yX9_idle.desc).map (fun d => d.parameters.length) = some 0 := by decide +kernel
set_option maxHeartbeats 4000000 in
set_option maxRecDepth 100000 in
theorem c_X9_idle (l : Launch) (D : va_G) (aI aL : ClassId) (ad : Nat → Nat) (inj : Inj ad 8) (sz : Nat) (σ : Sg) (r0 : Int32) (hf : f_X9_idle σ = some r0) : Met l yX9_idle (wS yX9_idle cX9_idle 4 (some .int)) (RM 2 48) (Pw D aI aL 8 shM ad sz σ [.ref (ad 0)]) (Qi D aI aL 8 shM ad r0 σ sz) 0 0 (AA ad 8 sz) := by
  refine Mof (Qc := Qi D aI aL 8 shM ad r0 σ) (by decide) inj (Nat.le_of_ble_eq_true rfl) ?_
  intro p e s m args below meth c ls C hlk hr hP hl
  have hx := C.1.1
  have hb_ := C.1.2.1
  have hown := C.1.2.2.2.1
  have hts := C.1.2.2.2.2
  have hl : lv_has ls 4 [(0, .ref (ad 0))] := hl
  have lp_4 : ∀ (n_4 : Nat) (v1_4 : Int32) (v2_4 : Int32) (y : Int32), itr n_4 (fun s => f_X9_idle_4s s.1 s.2 σ) (v1_4, v2_4) = some y → (fun y => y = r0) y → ∀ (H : Heap) (locs : List Loc) (ls : Array Slot), HS D aI aL 8 shM ad σ s H locs → lv_has ls 4 [(0, .ref (ad 0)), (1, .int v1_4), (2, .int v2_4)] → W p l e (RM 2 48) s m args below meth c H locs 0 0 (MQ below (Qi D aI aL 8 shM ad r0 σ s.heap.size) args s 0 0 (AA ad 8 s.heap.size)) (F0 m 4 ls []) := by
    intro n_4
    induction n_4 with
    | zero =>
      intro v1_4 v2_4 y h hK
      cases (show (none : Option Int32) = some y from h)
    | succ n_4 ih_4 =>
      have bk_85 : ∀ (v2_85 : Int32) (t0_85 : Int32) (t1_85 : Int32) (y : ((Int32 × Int32) ⊕ Int32)), f_X9_idle_85 v2_85 t0_85 t1_85 σ = some y → (KK n_4 (fun s => f_X9_idle_4s s.1 s.2 σ) (fun y => y = r0)) y → ∀ (H : Heap) (locs : List Loc) (ls : Array Slot), HS D aI aL 8 shM ad σ s H locs → lv_has ls 4 [(0, .ref (ad 0)), (2, .int v2_85)] → W p l e (RM 2 48) s m args below meth c H locs 0 0 (MQ below (Qi D aI aL 8 shM ad r0 σ s.heap.size) args s 0 0 (AA ad 8 s.heap.size)) (F0 m 85 ls [.int t1_85, .int t0_85]) := by
        intro v2_85 t0_85 t1_85 y h hK H locs ls hP hl
        unfold f_X9_idle_85 at h
        refine lv_ior hx hb_ dX9_idle_85 ?_
        obtain ⟨x9, hx9, h⟩ := nm_inv h
        refine w_ni hx9 ?_
        refine lv_istore_n (lv' := [(1, .int x9), (0, .ref (ad 0)), (2, .int v2_85)]) hx hb_ dX9_idle_86 rfl hl (by decide) rfl (fun ls hl => ?_)
        obtain ⟨x10, hx10, h⟩ := nm_inv h
        refine lv_iinc (v := x10) (lv' := [(2, .int x10), (1, .int x9), (0, .ref (ad 0))]) hx hb_ dX9_idle_87 hl (k := 2) rfl (by rw [hx10]; rfl) (by decide) rfl (fun ls hl => ?_)
        refine lv_goto (tgt := 4) hx hb_ dX9_idle_90 (by decide) ?_
        obtain rfl := Option.some.inj h
        obtain ⟨y2, h, hK⟩ := hK
        exact ih_4 x9 x10 y2 h hK _ _ _ hP (lv_sub hl [2, 1, 0] rfl)
      intro v1_4 v2_4 y h hK H locs ls hP hl
      obtain ⟨y, h, hK⟩ := itr_inv (K := (fun y => y = r0)) h hK
      replace h : f_X9_idle_4s v1_4 v2_4 σ = some y := h
      unfold f_X9_idle_4s at h
      refine lv_iload_n hx hb_ dX9_idle_4 rfl (lv_at hl 2 rfl) ?_
      refine lv_aload_n hx hb_ dX9_idle_5 rfl (lv_at hl 0 rfl) ?_
      refine w_get C hP (k := 0) (by decide) 7 rfl rfl inWX9 0 (by decide) wt784 (v := .ref (ad 1)) rfl dX9_idle_6 ?_
      refine lv_iconst (v := 4) hx hb_ dX9_idle_9 (by decide) ?_
      obtain ⟨x1, hx1, h⟩ := bnd h
      refine w_ald C hP (k := 1) (by decide) (n := 660) rfl hx1 dX9_idle_10 ?_
      refine lv_icmp_ge (tgt := 93) hx hb_ dX9_idle_11 (by decide) (fun hc => ?_) (fun hc => ?_)
      · replace h := ift h hc
        refine lv_iload_n hx hb_ dX9_idle_93 rfl (lv_at hl 1 rfl) ?_
        obtain rfl := Option.some.inj h
        have hK : (v1_4 : Int32) = r0 := hK
        exact w_iret C hlk hr hP hK rfl dX9_idle_94
      · replace h := iff' h hc
        refine lv_aload_n hx hb_ dX9_idle_14 rfl (lv_at hl 0 rfl) ?_
        refine lv_iconst (v := 1) hx hb_ dX9_idle_15 (by decide) ?_
        refine lv_aload_n hx hb_ dX9_idle_16 rfl (lv_at hl 0 rfl) ?_
        refine w_get C hP (k := 0) (by decide) 7 rfl rfl inWX9 0 (by decide) wt784 (v := .ref (ad 1)) rfl dX9_idle_17 ?_
        refine lv_iconst (v := 5) hx hb_ dX9_idle_20 (by decide) ?_
        refine lv_iload_n hx hb_ dX9_idle_21 rfl (lv_at hl 2 rfl) ?_
        refine lv_iadd hx hb_ dX9_idle_22 ?_
        obtain ⟨x2, hx2, h⟩ := bnd h
        refine w_ald C hP (k := 1) (by decide) (n := 660) rfl hx2 dX9_idle_23 ?_
        refine lv_ishl hx hb_ dX9_idle_24 ?_
        refine lv_iconst (v := 1) hx hb_ dX9_idle_25 (by decide) ?_
        refine lv_aload_n hx hb_ dX9_idle_26 rfl (lv_at hl 0 rfl) ?_
        refine w_get C hP (k := 0) (by decide) 7 rfl rfl inWX9 0 (by decide) wt784 (v := .ref (ad 1)) rfl dX9_idle_27 ?_
        refine lv_bipush (v := 15) hx hb_ dX9_idle_30 (by decide) ?_
        refine lv_iload_n hx hb_ dX9_idle_32 rfl (lv_at hl 2 rfl) ?_
        refine lv_iadd hx hb_ dX9_idle_33 ?_
        obtain ⟨x3, hx3, h⟩ := bnd h
        refine w_ald C hP (k := 1) (by decide) (n := 660) rfl hx3 dX9_idle_34 ?_
        refine lv_ishl hx hb_ dX9_idle_35 ?_
        refine lv_ior hx hb_ dX9_idle_36 ?_
        refine lv_aload_n hx hb_ dX9_idle_37 rfl (lv_at hl 0 rfl) ?_
        obtain ⟨q4, hq4, h⟩ := bnd h
        refine w_ci (w_rV (As := []) (rest := [.int (((1 : Int32) <<< (x2 &&& 31)) ||| ((1 : Int32) <<< (x3 &&& 31))), .ref (ad 0)]) C hP (k := 0) (c_X9_allSteps l D aI aL ad inj _ σ q4 hq4) (gV wt934 wt936 wp28 wt12 wt937) 0 hd_X9_allSteps ⟨Nat.le_of_ble_eq_true rfl, Nat.le_of_ble_eq_true rfl⟩ (by decide) 7 rfl rfl rfl hl.1 rfl (Nat.le_of_ble_eq_true rfl) dX9_idle_38) hP (fun H locs hP => ?_)
        refine lv_iconst (v := 1) hx hb_ dX9_idle_41 (by decide) ?_
        refine lv_iload_n hx hb_ dX9_idle_42 rfl (lv_at hl 2 rfl) ?_
        refine lv_ishl hx hb_ dX9_idle_43 ?_
        refine lv_iconst (v := (-1)) hx hb_ dX9_idle_44 (by decide) ?_
        refine lv_ixor hx hb_ dX9_idle_45 ?_
        refine lv_iand hx hb_ dX9_idle_46 ?_
        refine lv_iconst (v := 1) hx hb_ dX9_idle_47 (by decide) ?_
        refine lv_aload_n hx hb_ dX9_idle_48 rfl (lv_at hl 0 rfl) ?_
        refine w_get C hP (k := 0) (by decide) 7 rfl rfl inWX9 0 (by decide) wt784 (v := .ref (ad 1)) rfl dX9_idle_49 ?_
        refine lv_iconst (v := 0) hx hb_ dX9_idle_52 (by decide) ?_
        obtain ⟨x5, hx5, h⟩ := bnd h
        refine w_ald C hP (k := 1) (by decide) (n := 660) rfl hx5 dX9_idle_53 ?_
        refine lv_ishl hx hb_ dX9_idle_54 ?_
        refine lv_iconst (v := 1) hx hb_ dX9_idle_55 (by decide) ?_
        refine lv_isub hx hb_ dX9_idle_56 ?_
        obtain ⟨q6, hq6, h⟩ := bnd h
        refine w_ci (w_rV (As := [.int (((1 : Int32) <<< (x2 &&& 31)) ||| ((1 : Int32) <<< (x3 &&& 31))), .int (q4 &&& (((1 : Int32) <<< (v2_4 &&& 31)) ^^^ ((-1) : Int32))), .int (((1 : Int32) <<< (x5 &&& 31)) - (1 : Int32))]) (rest := []) C hP (k := 0) (c_X9_closure l D aI aL ad inj _ σ (((1 : Int32) <<< (x2 &&& 31)) ||| ((1 : Int32) <<< (x3 &&& 31))) (q4 &&& (((1 : Int32) <<< (v2_4 &&& 31)) ^^^ ((-1) : Int32))) (((1 : Int32) <<< (x5 &&& 31)) - (1 : Int32)) q6 hq6) (gV wt938 wt940 wp29 wt12 wt941) 3 hd_X9_closure ⟨Nat.le_of_ble_eq_true rfl, Nat.le_of_ble_eq_true rfl⟩ (by decide) 7 rfl rfl rfl hl.1 rfl (Nat.le_of_ble_eq_true rfl) dX9_idle_57) hP (fun H locs hP => ?_)
        refine lv_istore_n (lv' := [(3, .int q6), (0, .ref (ad 0)), (1, .int v1_4), (2, .int v2_4)]) hx hb_ dX9_idle_60 rfl hl (by decide) rfl (fun ls hl => ?_)
        refine lv_iload_n hx hb_ dX9_idle_61 rfl (lv_at hl 2 rfl) ?_
        refine lv_iload_n hx hb_ dX9_idle_62 rfl (lv_at hl 0 rfl) ?_
        refine lv_aload_n hx hb_ dX9_idle_63 rfl (lv_at hl 1 rfl) ?_
        refine w_get C hP (k := 0) (by decide) 7 rfl rfl inWX9 0 (by decide) wt784 (v := .ref (ad 1)) rfl dX9_idle_64 ?_
        refine lv_bipush (v := 25) hx hb_ dX9_idle_67 (by decide) ?_
        refine lv_iload_n hx hb_ dX9_idle_69 rfl (lv_at hl 3 rfl) ?_
        refine lv_iadd hx hb_ dX9_idle_70 ?_
        obtain ⟨x7, hx7, h⟩ := bnd h
        refine w_ald C hP (k := 1) (by decide) (n := 660) rfl hx7 dX9_idle_71 ?_
        obtain ⟨q8, hq8, h⟩ := bnd h
        refine w_ci (w_rS (As := [.int q6, .int x7]) (rest := [.int v1_4]) C hP (c_X9_has l D aI aL ad inj _ σ q6 x7 q8 hq8) wt896 wt897 wt12 wt898 2 hd_X9_has ⟨Nat.le_of_ble_eq_true rfl, Nat.le_of_ble_eq_true rfl⟩ rfl hl.1 rfl (Nat.le_of_ble_eq_true rfl) dX9_idle_72) hP (fun H locs hP => ?_)
        refine lv_if_eq (tgt := 84) hx hb_ dX9_idle_75 (by decide) (fun hc => ?_) (fun hc => ?_)
        · replace h := ift h hc
          refine lv_iconst (v := 0) hx hb_ dX9_idle_84 (by decide) ?_
          exact bk_85 v2_4 v1_4 0 y h hK _ _ _ hP (lv_sub hl [1, 3] rfl)
        · replace h := iff' h hc
          refine lv_iconst (v := 1) hx hb_ dX9_idle_78 (by decide) ?_
          refine lv_iload_n hx hb_ dX9_idle_79 rfl (lv_at hl 3 rfl) ?_
          refine lv_ishl hx hb_ dX9_idle_80 ?_
          refine lv_goto (tgt := 85) hx hb_ dX9_idle_81 (by decide) ?_
          exact bk_85 v2_4 v1_4 ((1 : Int32) <<< (v2_4 &&& 31)) y h hK _ _ _ hP (lv_sub hl [1, 3] rfl)
  have bk_4 : ∀ (v1_4 : Int32) (v2_4 : Int32) (y : Int32), f_X9_idle_4 v1_4 v2_4 σ = some y → (fun y => y = r0) y → ∀ (H : Heap) (locs : List Loc) (ls : Array Slot), HS D aI aL 8 shM ad σ s H locs → lv_has ls 4 [(0, .ref (ad 0)), (1, .int v1_4), (2, .int v2_4)] → W p l e (RM 2 48) s m args below meth c H locs 0 0 (MQ below (Qi D aI aL 8 shM ad r0 σ s.heap.size) args s 0 0 (AA ad 8 s.heap.size)) (F0 m 4 ls []) := fun v1_4 v2_4 y h hK => lp_4 3000 v1_4 v2_4 y h hK
  have bk : ∀ (y : Int32), f_X9_idle σ = some y → y = r0 → ∀ (H : Heap) (locs : List Loc), HS D aI aL 8 shM ad σ s H locs → W p l e (RM 2 48) s m args below meth c H locs 0 0 (MQ below (Qi D aI aL 8 shM ad r0 σ s.heap.size) args s 0 0 (AA ad 8 s.heap.size)) (F0 m 0 ls []) := by
    intro y h hK H locs hP
    unfold f_X9_idle at h
    refine lv_iconst (v := 0) hx hb_ dX9_idle_0 (by decide) ?_
    refine lv_istore_n (lv' := [(1, .int 0), (0, .ref (ad 0))]) hx hb_ dX9_idle_1 rfl hl (by decide) rfl (fun ls hl => ?_)
    refine lv_iconst (v := 0) hx hb_ dX9_idle_2 (by decide) ?_
    refine lv_istore_n (lv' := [(2, .int 0), (1, .int 0), (0, .ref (ad 0))]) hx hb_ dX9_idle_3 rfl hl (by decide) rfl (fun ls hl => ?_)
    exact bk_4 0 0 y h hK _ _ _ hP (lv_sub hl [2, 1, 0] rfl)
  exact bk r0 hf rfl _ _ hP
theorem hd_X9_leads : yX9_leads.cls = RX9 ∧ yX9_leads.cls ≠ "java/lang/invoke/MethodHandle" ∧ yX9_leads.cls ≠ "java/lang/invoke/VarHandle" ∧ (parseMethodDescriptor yX9_leads.desc).map (fun d => d.parameters.length) = some 1 := by decide +kernel
set_option maxHeartbeats 4000000 in
set_option maxRecDepth 100000 in
theorem c_X9_leads (l : Launch) (D : va_G) (aI aL : ClassId) (ad : Nat → Nat) (inj : Inj ad 8) (sz : Nat) (σ : Sg) (v1 : Int32) (r0 : Int32) (hf : f_X9_leads v1 σ = some r0) : Met l yX9_leads (wS yX9_leads cX9_leads 6 (some .int)) (RM 1 21) (Pw D aI aL 8 shM ad sz σ [.ref (ad 0), .int v1]) (Qi D aI aL 8 shM ad r0 σ sz) 0 0 (AA ad 8 sz) := by
  refine Mof (Qc := Qi D aI aL 8 shM ad r0 σ) (by decide) inj (Nat.le_of_ble_eq_true rfl) ?_
  intro p e s m args below meth c ls C hlk hr hP hl
  have hx := C.1.1
  have hb_ := C.1.2.1
  have hown := C.1.2.2.2.1
  have hts := C.1.2.2.2.2
  have hl : lv_has ls 6 [(0, .ref (ad 0)), (1, .int v1)] := hl
  have lp_4 : ∀ (n_4 : Nat) (v2_4 : Int32) (v3_4 : Int32) (y : Int32), itr n_4 (fun s => f_X9_leads_4s v1 s.1 s.2 σ) (v2_4, v3_4) = some y → (fun y => y = r0) y → ∀ (H : Heap) (locs : List Loc) (ls : Array Slot), HS D aI aL 8 shM ad σ s H locs → lv_has ls 6 [(0, .ref (ad 0)), (1, .int v1), (2, .int v2_4), (3, .int v3_4)] → W p l e (RM 1 21) s m args below meth c H locs 0 0 (MQ below (Qi D aI aL 8 shM ad r0 σ s.heap.size) args s 0 0 (AA ad 8 s.heap.size)) (F0 m 4 ls []) := by
    intro n_4
    induction n_4 with
    | zero =>
      intro v2_4 v3_4 y h hK
      cases (show (none : Option Int32) = some y from h)
    | succ n_4 ih_4 =>
      have lp_13 : ∀ (v3_13 : Int32) (n_13 : Nat) (v2_13 : Int32) (v4_13 : Int32) (y : ((Int32 × Int32) ⊕ Int32)), itr n_13 (fun s => f_X9_leads_13s v1 s.1 v3_13 s.2 σ) (v2_13, v4_13) = some y → (KK n_4 (fun s => f_X9_leads_4s v1 s.1 s.2 σ) (fun y => y = r0)) y → ∀ (H : Heap) (locs : List Loc) (ls : Array Slot), HS D aI aL 8 shM ad σ s H locs → lv_has ls 6 [(0, .ref (ad 0)), (1, .int v1), (2, .int v2_13), (3, .int v3_13), (4, .int v4_13)] → W p l e (RM 1 21) s m args below meth c H locs 0 0 (MQ below (Qi D aI aL 8 shM ad r0 σ s.heap.size) args s 0 0 (AA ad 8 s.heap.size)) (F0 m 13 ls []) := by
        intro v3_13 n_13
        induction n_13 with
        | zero =>
          intro v2_13 v4_13 y h hK
          cases (show (none : Option ((Int32 × Int32) ⊕ Int32)) = some y from h)
        | succ n_13 ih_13 =>
          have bk_113 : ∀ (v4_113 : Int32) (t0_113 : Int32) (t1_113 : Int32) (y : ((Int32 × Int32) ⊕ ((Int32 × Int32) ⊕ Int32))), f_X9_leads_113 v1 v3_13 v4_113 t0_113 t1_113 σ = some y → (KK n_13 (fun s => f_X9_leads_13s v1 s.1 v3_13 s.2 σ) (KK n_4 (fun s => f_X9_leads_4s v1 s.1 s.2 σ) (fun y => y = r0))) y → ∀ (H : Heap) (locs : List Loc) (ls : Array Slot), HS D aI aL 8 shM ad σ s H locs → lv_has ls 6 [(0, .ref (ad 0)), (1, .int v1), (3, .int v3_13), (4, .int v4_113)] → W p l e (RM 1 21) s m args below meth c H locs 0 0 (MQ below (Qi D aI aL 8 shM ad r0 σ s.heap.size) args s 0 0 (AA ad 8 s.heap.size)) (F0 m 113 ls [.int t1_113, .int t0_113]) := by
            intro v4_113 t0_113 t1_113 y h hK H locs ls hP hl
            unfold f_X9_leads_113 at h
            refine lv_ior hx hb_ dX9_leads_113 ?_
            obtain ⟨x4, hx4, h⟩ := nm_inv h
            refine w_ni hx4 ?_
            refine lv_istore_n (lv' := [(2, .int x4), (0, .ref (ad 0)), (1, .int v1), (3, .int v3_13), (4, .int v4_113)]) hx hb_ dX9_leads_114 rfl hl (by decide) rfl (fun ls hl => ?_)
            obtain ⟨x5, hx5, h⟩ := nm_inv h
            refine lv_iinc (v := x5) (lv' := [(4, .int x5), (2, .int x4), (0, .ref (ad 0)), (1, .int v1), (3, .int v3_13)]) hx hb_ dX9_leads_115 hl (k := 4) rfl (by rw [hx5]; rfl) (by decide) rfl (fun ls hl => ?_)
            refine lv_goto (tgt := 13) hx hb_ dX9_leads_118 (by decide) ?_
            obtain rfl := Option.some.inj h
            obtain ⟨y2, h, hK⟩ := hK
            exact ih_13 x4 x5 y2 h hK _ _ _ hP (lv_sub hl [2, 3, 1, 4, 0] rfl)
          have bk_89 : ∀ (v2_89 : Int32) (v4_89 : Int32) (t0_89 : Int32) (y : ((Int32 × Int32) ⊕ ((Int32 × Int32) ⊕ Int32))), f_X9_leads_89 v1 v2_89 v3_13 v4_89 t0_89 σ = some y → (KK n_13 (fun s => f_X9_leads_13s v1 s.1 v3_13 s.2 σ) (KK n_4 (fun s => f_X9_leads_4s v1 s.1 s.2 σ) (fun y => y = r0))) y → ∀ (H : Heap) (locs : List Loc) (ls : Array Slot), HS D aI aL 8 shM ad σ s H locs → lv_has ls 6 [(0, .ref (ad 0)), (1, .int v1), (2, .int v2_89), (3, .int v3_13), (4, .int v4_89)] → W p l e (RM 1 21) s m args below meth c H locs 0 0 (MQ below (Qi D aI aL 8 shM ad r0 σ s.heap.size) args s 0 0 (AA ad 8 s.heap.size)) (F0 m 89 ls [.int t0_89]) := by
            intro v2_89 v4_89 t0_89 y h hK H locs ls hP hl
            unfold f_X9_leads_89 at h
            refine lv_istore (lv' := [(5, .int t0_89), (0, .ref (ad 0)), (1, .int v1), (2, .int v2_89), (3, .int v3_13), (4, .int v4_89)]) hx hb_ dX9_leads_89 hl (by decide) rfl (fun ls hl => ?_)
            refine lv_iload_n hx hb_ dX9_leads_91 rfl (lv_at hl 3 rfl) ?_
            refine lv_iload hx hb_ dX9_leads_92 (lv_at hl 0 rfl) ?_
            refine lv_if_eq (tgt := 112) hx hb_ dX9_leads_94 (by decide) (fun hc => ?_) (fun hc => ?_)
            · replace h := ift h hc
              refine lv_iconst (v := 0) hx hb_ dX9_leads_112 (by decide) ?_
              exact bk_113 v4_89 v2_89 0 y h hK _ _ _ hP (lv_sub hl [1, 2, 4, 5] rfl)
            · replace h := iff' h hc
              refine lv_iconst (v := 1) hx hb_ dX9_leads_97 (by decide) ?_
              refine lv_aload_n hx hb_ dX9_leads_98 rfl (lv_at hl 1 rfl) ?_
              refine w_get C hP (k := 0) (by decide) 7 rfl rfl inWX9 0 (by decide) wt784 (v := .ref (ad 1)) rfl dX9_leads_99 ?_
              refine lv_bipush (v := 25) hx hb_ dX9_leads_102 (by decide) ?_
              refine lv_iload hx hb_ dX9_leads_104 (lv_at hl 5 rfl) ?_
              refine lv_iadd hx hb_ dX9_leads_106 ?_
              obtain ⟨x6, hx6, h⟩ := bnd h
              refine w_ald C hP (k := 1) (by decide) (n := 660) rfl hx6 dX9_leads_107 ?_
              refine lv_ishl hx hb_ dX9_leads_108 ?_
              refine lv_goto (tgt := 113) hx hb_ dX9_leads_109 (by decide) ?_
              exact bk_113 v4_89 v2_89 ((1 : Int32) <<< (x6 &&& 31)) y h hK _ _ _ hP (lv_sub hl [1, 2, 4, 5] rfl)
          have bk_84 : ∀ (v2_84 : Int32) (v4_84 : Int32) (y : ((Int32 × Int32) ⊕ ((Int32 × Int32) ⊕ Int32))), f_X9_leads_84 v1 v2_84 v3_13 v4_84 σ = some y → (KK n_13 (fun s => f_X9_leads_13s v1 s.1 v3_13 s.2 σ) (KK n_4 (fun s => f_X9_leads_4s v1 s.1 s.2 σ) (fun y => y = r0))) y → ∀ (H : Heap) (locs : List Loc) (ls : Array Slot), HS D aI aL 8 shM ad σ s H locs → lv_has ls 6 [(0, .ref (ad 0)), (1, .int v1), (2, .int v2_84), (3, .int v3_13), (4, .int v4_84)] → W p l e (RM 1 21) s m args below meth c H locs 0 0 (MQ below (Qi D aI aL 8 shM ad r0 σ s.heap.size) args s 0 0 (AA ad 8 s.heap.size)) (F0 m 84 ls []) := by
            intro v2_84 v4_84 y h hK H locs ls hP hl
            unfold f_X9_leads_84 at h
            refine lv_iconst (v := 1) hx hb_ dX9_leads_84 (by decide) ?_
            refine lv_goto (tgt := 89) hx hb_ dX9_leads_85 (by decide) ?_
            exact bk_89 v2_84 v4_84 1 y h hK _ _ _ hP (lv_sub hl [0, 1, 2, 3, 4] rfl)
          intro v2_13 v4_13 y h hK H locs ls hP hl
          obtain ⟨y, h, hK⟩ := itr_inv (K := (KK n_4 (fun s => f_X9_leads_4s v1 s.1 s.2 σ) (fun y => y = r0))) h hK
          replace h : f_X9_leads_13s v1 v2_13 v3_13 v4_13 σ = some y := h
          unfold f_X9_leads_13s at h
          refine lv_iload hx hb_ dX9_leads_13 (lv_at hl 4 rfl) ?_
          refine lv_aload_n hx hb_ dX9_leads_15 rfl (lv_at hl 0 rfl) ?_
          refine w_get C hP (k := 0) (by decide) 7 rfl rfl inWX9 0 (by decide) wt784 (v := .ref (ad 1)) rfl dX9_leads_16 ?_
          refine lv_iconst (v := 4) hx hb_ dX9_leads_19 (by decide) ?_
          obtain ⟨x1, hx1, h⟩ := bnd h
          refine w_ald C hP (k := 1) (by decide) (n := 660) rfl hx1 dX9_leads_20 ?_
          refine lv_icmp_ge (tgt := 121) hx hb_ dX9_leads_21 (by decide) (fun hc => ?_) (fun hc => ?_)
          · replace h := ift h hc
            obtain ⟨x2, hx2, h⟩ := nm_inv h
            refine lv_iinc (v := x2) (lv' := [(3, .int x2), (0, .ref (ad 0)), (1, .int v1), (2, .int v2_13), (4, .int v4_13)]) hx hb_ dX9_leads_121 hl (k := 3) rfl (by rw [hx2]; rfl) (by decide) rfl (fun ls hl => ?_)
            refine lv_goto (tgt := 4) hx hb_ dX9_leads_124 (by decide) ?_
            obtain rfl := Option.some.inj h
            obtain ⟨y2, h, hK⟩ := hK
            exact ih_4 v2_13 x2 y2 h hK _ _ _ hP (lv_sub hl [1, 2, 3, 0] rfl)
          · replace h := iff' h hc
            refine lv_aload_n hx hb_ dX9_leads_24 rfl (lv_at hl 0 rfl) ?_
            refine w_get C hP (k := 0) (by decide) 7 rfl rfl inWX9 0 (by decide) wt784 (v := .ref (ad 1)) rfl dX9_leads_25 ?_
            refine lv_iconst (v := 5) hx hb_ dX9_leads_28 (by decide) ?_
            refine lv_iload hx hb_ dX9_leads_29 (lv_at hl 4 rfl) ?_
            refine lv_iadd hx hb_ dX9_leads_31 ?_
            obtain ⟨x3, hx3, h⟩ := bnd h
            refine w_ald C hP (k := 1) (by decide) (n := 660) rfl hx3 dX9_leads_32 ?_
            refine lv_iload_n hx hb_ dX9_leads_33 rfl (lv_at hl 1 rfl) ?_
            refine lv_icmp_eq (tgt := 84) hx hb_ dX9_leads_34 (by decide) (fun hc => ?_) (fun hc => ?_)
            · replace h := ift h hc
              exact bk_84 v2_13 v4_13 y h hK _ _ _ hP (lv_sub hl [0, 1, 2, 3, 4] rfl)
            · replace h := iff' h hc
              refine lv_aload_n hx hb_ dX9_leads_37 rfl (lv_at hl 0 rfl) ?_
              refine w_get C hP (k := 0) (by decide) 7 rfl rfl inWX9 0 (by decide) wt784 (v := .ref (ad 1)) rfl dX9_leads_38 ?_
              refine lv_bipush (v := 15) hx hb_ dX9_leads_41 (by decide) ?_
              refine lv_iload hx hb_ dX9_leads_43 (lv_at hl 4 rfl) ?_
              refine lv_iadd hx hb_ dX9_leads_45 ?_
              obtain ⟨x7, hx7, h⟩ := bnd h
              refine w_ald C hP (k := 1) (by decide) (n := 660) rfl hx7 dX9_leads_46 ?_
              refine lv_iload_n hx hb_ dX9_leads_47 rfl (lv_at hl 1 rfl) ?_
              refine lv_icmp_eq (tgt := 84) hx hb_ dX9_leads_48 (by decide) (fun hc => ?_) (fun hc => ?_)
              · replace h := ift h hc
                exact bk_84 v2_13 v4_13 y h hK _ _ _ hP (lv_sub hl [0, 1, 2, 3, 4] rfl)
              · replace h := iff' h hc
                refine lv_iload_n hx hb_ dX9_leads_51 rfl (lv_at hl 2 rfl) ?_
                refine lv_aload_n hx hb_ dX9_leads_52 rfl (lv_at hl 0 rfl) ?_
                refine w_get C hP (k := 0) (by decide) 7 rfl rfl inWX9 0 (by decide) wt784 (v := .ref (ad 1)) rfl dX9_leads_53 ?_
                refine lv_iconst (v := 5) hx hb_ dX9_leads_56 (by decide) ?_
                refine lv_iload hx hb_ dX9_leads_57 (lv_at hl 4 rfl) ?_
                refine lv_iadd hx hb_ dX9_leads_59 ?_
                obtain ⟨x8, hx8, h⟩ := bnd h
                refine w_ald C hP (k := 1) (by decide) (n := 660) rfl hx8 dX9_leads_60 ?_
                obtain ⟨q9, hq9, h⟩ := bnd h
                refine w_ci (w_rS (As := [.int v2_13, .int x8]) (rest := []) C hP (c_X9_has l D aI aL ad inj _ σ v2_13 x8 q9 hq9) wt896 wt897 wt12 wt898 2 hd_X9_has ⟨Nat.le_of_ble_eq_true rfl, Nat.le_of_ble_eq_true rfl⟩ rfl hl.1 rfl (Nat.le_of_ble_eq_true rfl) dX9_leads_61) hP (fun H locs hP => ?_)
                refine lv_if_ne (tgt := 84) hx hb_ dX9_leads_64 (by decide) (fun hc => ?_) (fun hc => ?_)
                · replace h := iff' h hc
                  exact bk_84 v2_13 v4_13 y h hK _ _ _ hP (lv_sub hl [0, 1, 2, 3, 4] rfl)
                · replace h := ift h hc
                  refine lv_iload_n hx hb_ dX9_leads_67 rfl (lv_at hl 2 rfl) ?_
                  refine lv_aload_n hx hb_ dX9_leads_68 rfl (lv_at hl 0 rfl) ?_
                  refine w_get C hP (k := 0) (by decide) 7 rfl rfl inWX9 0 (by decide) wt784 (v := .ref (ad 1)) rfl dX9_leads_69 ?_
                  refine lv_bipush (v := 15) hx hb_ dX9_leads_72 (by decide) ?_
                  refine lv_iload hx hb_ dX9_leads_74 (lv_at hl 4 rfl) ?_
                  refine lv_iadd hx hb_ dX9_leads_76 ?_
                  obtain ⟨x10, hx10, h⟩ := bnd h
                  refine w_ald C hP (k := 1) (by decide) (n := 660) rfl hx10 dX9_leads_77 ?_
                  obtain ⟨q11, hq11, h⟩ := bnd h
                  refine w_ci (w_rS (As := [.int v2_13, .int x10]) (rest := []) C hP (c_X9_has l D aI aL ad inj _ σ v2_13 x10 q11 hq11) wt896 wt897 wt12 wt898 2 hd_X9_has ⟨Nat.le_of_ble_eq_true rfl, Nat.le_of_ble_eq_true rfl⟩ rfl hl.1 rfl (Nat.le_of_ble_eq_true rfl) dX9_leads_78) hP (fun H locs hP => ?_)
                  refine lv_if_eq (tgt := 88) hx hb_ dX9_leads_81 (by decide) (fun hc => ?_) (fun hc => ?_)
                  · replace h := ift h hc
                    refine lv_iconst (v := 0) hx hb_ dX9_leads_88 (by decide) ?_
                    exact bk_89 v2_13 v4_13 0 y h hK _ _ _ hP (lv_sub hl [0, 1, 2, 3, 4] rfl)
                  · replace h := iff' h hc
                    exact bk_84 v2_13 v4_13 y h hK _ _ _ hP (lv_sub hl [0, 1, 2, 3, 4] rfl)
      have bk_13 : ∀ (v2_13 : Int32) (v3_13 : Int32) (v4_13 : Int32) (y : ((Int32 × Int32) ⊕ Int32)), f_X9_leads_13 v1 v2_13 v3_13 v4_13 σ = some y → (KK n_4 (fun s => f_X9_leads_4s v1 s.1 s.2 σ) (fun y => y = r0)) y → ∀ (H : Heap) (locs : List Loc) (ls : Array Slot), HS D aI aL 8 shM ad σ s H locs → lv_has ls 6 [(0, .ref (ad 0)), (1, .int v1), (2, .int v2_13), (3, .int v3_13), (4, .int v4_13)] → W p l e (RM 1 21) s m args below meth c H locs 0 0 (MQ below (Qi D aI aL 8 shM ad r0 σ s.heap.size) args s 0 0 (AA ad 8 s.heap.size)) (F0 m 13 ls []) := fun v2_13 v3_13 v4_13 y h hK => lp_13 v3_13 3000 v2_13 v4_13 y h hK
      intro v2_4 v3_4 y h hK H locs ls hP hl
      obtain ⟨y, h, hK⟩ := itr_inv (K := (fun y => y = r0)) h hK
      replace h : f_X9_leads_4s v1 v2_4 v3_4 σ = some y := h
      unfold f_X9_leads_4s at h
      refine lv_iload_n hx hb_ dX9_leads_4 rfl (lv_at hl 3 rfl) ?_
      refine lv_bipush (v := 10) hx hb_ dX9_leads_5 (by decide) ?_
      refine lv_icmp_ge (tgt := 127) hx hb_ dX9_leads_7 (by decide) (fun hc => ?_) (fun hc => ?_)
      · replace h := ift h hc
        refine lv_iload_n hx hb_ dX9_leads_127 rfl (lv_at hl 2 rfl) ?_
        obtain rfl := Option.some.inj h
        have hK : (v2_4 : Int32) = r0 := hK
        exact w_iret C hlk hr hP hK rfl dX9_leads_128
      · replace h := iff' h hc
        refine lv_iconst (v := 0) hx hb_ dX9_leads_10 (by decide) ?_
        refine lv_istore (lv' := [(4, .int 0), (0, .ref (ad 0)), (1, .int v1), (2, .int v2_4), (3, .int v3_4)]) hx hb_ dX9_leads_11 hl (by decide) rfl (fun ls hl => ?_)
        exact bk_13 v2_4 v3_4 0 y h hK _ _ _ hP (lv_sub hl [1, 2, 3, 4, 0] rfl)
  have bk_4 : ∀ (v2_4 : Int32) (v3_4 : Int32) (y : Int32), f_X9_leads_4 v1 v2_4 v3_4 σ = some y → (fun y => y = r0) y → ∀ (H : Heap) (locs : List Loc) (ls : Array Slot), HS D aI aL 8 shM ad σ s H locs → lv_has ls 6 [(0, .ref (ad 0)), (1, .int v1), (2, .int v2_4), (3, .int v3_4)] → W p l e (RM 1 21) s m args below meth c H locs 0 0 (MQ below (Qi D aI aL 8 shM ad r0 σ s.heap.size) args s 0 0 (AA ad 8 s.heap.size)) (F0 m 4 ls []) := fun v2_4 v3_4 y h hK => lp_4 3000 v2_4 v3_4 y h hK
  have bk : ∀ (y : Int32), f_X9_leads v1 σ = some y → y = r0 → ∀ (H : Heap) (locs : List Loc), HS D aI aL 8 shM ad σ s H locs → W p l e (RM 1 21) s m args below meth c H locs 0 0 (MQ below (Qi D aI aL 8 shM ad r0 σ s.heap.size) args s 0 0 (AA ad 8 s.heap.size)) (F0 m 0 ls []) := by
    intro y h hK H locs hP
    unfold f_X9_leads at h
    refine lv_iconst (v := 0) hx hb_ dX9_leads_0 (by decide) ?_
    refine lv_istore_n (lv' := [(2, .int 0), (0, .ref (ad 0)), (1, .int v1)]) hx hb_ dX9_leads_1 rfl hl (by decide) rfl (fun ls hl => ?_)
    refine lv_iconst (v := 0) hx hb_ dX9_leads_2 (by decide) ?_
    refine lv_istore_n (lv' := [(3, .int 0), (2, .int 0), (0, .ref (ad 0)), (1, .int v1)]) hx hb_ dX9_leads_3 rfl hl (by decide) rfl (fun ls hl => ?_)
    exact bk_4 0 0 y h hK _ _ _ hP (lv_sub hl [2, 3, 1, 0] rfl)
  exact bk r0 hf rfl _ _ hP
theorem hd_X9_circle : yX9_circle.cls = RX9 ∧ yX9_circle.cls ≠ "java/lang/invoke/MethodHandle" ∧ yX9_circle.cls ≠ "java/lang/invoke/VarHandle" ∧ (parseMethodDescriptor yX9_circle.desc).map (fun d => d.parameters.length) = some 0 := by decide +kernel
set_option maxHeartbeats 4000000 in
set_option maxRecDepth 100000 in
theorem c_X9_circle (l : Launch) (D : va_G) (aI aL : ClassId) (ad : Nat → Nat) (inj : Inj ad 8) (sz : Nat) (σ : Sg) (r0 : Int32) (hf : f_X9_circle σ = some r0) : Met l yX9_circle (wS yX9_circle cX9_circle 3 (some .int)) (RM 2 46) (Pw D aI aL 8 shM ad sz σ [.ref (ad 0)]) (Qi D aI aL 8 shM ad r0 σ sz) 0 0 (AA ad 8 sz) := by
  refine Mof (Qc := Qi D aI aL 8 shM ad r0 σ) (by decide) inj (Nat.le_of_ble_eq_true rfl) ?_
  intro p e s m args below meth c ls C hlk hr hP hl
  have hx := C.1.1
  have hb_ := C.1.2.1
  have hown := C.1.2.2.2.1
  have hts := C.1.2.2.2.2
  have hl : lv_has ls 3 [(0, .ref (ad 0))] := hl
  have lp_12 : ∀ (n_12 : Nat) (v1_12 : Int32) (v2_12 : Int32) (y : Int32), itr n_12 (fun s => f_X9_circle_12s s.1 s.2 σ) (v1_12, v2_12) = some y → (fun y => y = r0) y → ∀ (H : Heap) (locs : List Loc) (ls : Array Slot), HS D aI aL 8 shM ad σ s H locs → lv_has ls 3 [(0, .ref (ad 0)), (1, .int v1_12), (2, .int v2_12)] → W p l e (RM 2 46) s m args below meth c H locs 0 0 (MQ below (Qi D aI aL 8 shM ad r0 σ s.heap.size) args s 0 0 (AA ad 8 s.heap.size)) (F0 m 12 ls []) := by
    intro n_12
    induction n_12 with
    | zero =>
      intro v1_12 v2_12 y h hK
      cases (show (none : Option Int32) = some y from h)
    | succ n_12 ih_12 =>
      have bk_33 : ∀ (v2_33 : Int32) (t0_33 : Int32) (y : ((Int32 × Int32) ⊕ Int32)), f_X9_circle_33 v2_33 t0_33 σ = some y → (KK n_12 (fun s => f_X9_circle_12s s.1 s.2 σ) (fun y => y = r0)) y → ∀ (H : Heap) (locs : List Loc) (ls : Array Slot), HS D aI aL 8 shM ad σ s H locs → lv_has ls 3 [(0, .ref (ad 0)), (2, .int v2_33)] → W p l e (RM 2 46) s m args below meth c H locs 0 0 (MQ below (Qi D aI aL 8 shM ad r0 σ s.heap.size) args s 0 0 (AA ad 8 s.heap.size)) (F0 m 33 ls [.int t0_33]) := by
        intro v2_33 t0_33 y h hK H locs ls hP hl
        unfold f_X9_circle_33 at h
        refine lv_istore_n (lv' := [(1, .int t0_33), (0, .ref (ad 0)), (2, .int v2_33)]) hx hb_ dX9_circle_33 rfl hl (by decide) rfl (fun ls hl => ?_)
        obtain ⟨x5, hx5, h⟩ := nm_inv h
        refine lv_iinc (v := x5) (lv' := [(2, .int x5), (1, .int t0_33), (0, .ref (ad 0))]) hx hb_ dX9_circle_34 hl (k := 2) rfl (by rw [hx5]; rfl) (by decide) rfl (fun ls hl => ?_)
        refine lv_goto (tgt := 12) hx hb_ dX9_circle_37 (by decide) ?_
        obtain rfl := Option.some.inj h
        obtain ⟨y2, h, hK⟩ := hK
        exact ih_12 t0_33 x5 y2 h hK _ _ _ hP (lv_sub hl [2, 1, 0] rfl)
      intro v1_12 v2_12 y h hK H locs ls hP hl
      obtain ⟨y, h, hK⟩ := itr_inv (K := (fun y => y = r0)) h hK
      replace h : f_X9_circle_12s v1_12 v2_12 σ = some y := h
      unfold f_X9_circle_12s at h
      refine lv_iload_n hx hb_ dX9_circle_12 rfl (lv_at hl 2 rfl) ?_
      refine lv_if_lt (tgt := 40) hx hb_ dX9_circle_13 (by decide) (fun hc => ?_) (fun hc => ?_)
      · replace h := ift h hc
        refine lv_iload_n hx hb_ dX9_circle_40 rfl (lv_at hl 1 rfl) ?_
        obtain rfl := Option.some.inj h
        have hK : (v1_12 : Int32) = r0 := hK
        exact w_iret C hlk hr hP hK rfl dX9_circle_41
      · replace h := iff' h hc
        refine lv_aload_n hx hb_ dX9_circle_16 rfl (lv_at hl 0 rfl) ?_
        refine lv_iload_n hx hb_ dX9_circle_17 rfl (lv_at hl 2 rfl) ?_
        obtain ⟨q3, hq3, h⟩ := bnd h
        refine w_ci (w_rV (As := [.int v2_12]) (rest := []) C hP (k := 0) (c_X9_leads l D aI aL ad inj _ σ v2_12 q3 hq3) (gV wt1001 wt1003 wp35 wt12 wt1004) 1 hd_X9_leads ⟨Nat.le_of_ble_eq_true rfl, Nat.le_of_ble_eq_true rfl⟩ (by decide) 7 rfl rfl rfl hl.1 rfl (Nat.le_of_ble_eq_true rfl) dX9_circle_18) hP (fun H locs hP => ?_)
        refine lv_iload_n hx hb_ dX9_circle_21 rfl (lv_at hl 2 rfl) ?_
        obtain ⟨q4, hq4, h⟩ := bnd h
        refine w_ci (w_rS (As := [.int q3, .int v2_12]) (rest := []) C hP (c_X9_has l D aI aL ad inj _ σ q3 v2_12 q4 hq4) wt896 wt897 wt12 wt898 2 hd_X9_has ⟨Nat.le_of_ble_eq_true rfl, Nat.le_of_ble_eq_true rfl⟩ rfl hl.1 rfl (Nat.le_of_ble_eq_true rfl) dX9_circle_22) hP (fun H locs hP => ?_)
        refine lv_if_eq (tgt := 32) hx hb_ dX9_circle_25 (by decide) (fun hc => ?_) (fun hc => ?_)
        · replace h := ift h hc
          refine lv_iload_n hx hb_ dX9_circle_32 rfl (lv_at hl 1 rfl) ?_
          exact bk_33 v2_12 v1_12 y h hK _ _ _ hP (lv_sub hl [0, 2] rfl)
        · replace h := iff' h hc
          refine lv_iload_n hx hb_ dX9_circle_28 rfl (lv_at hl 2 rfl) ?_
          refine lv_goto (tgt := 33) hx hb_ dX9_circle_29 (by decide) ?_
          exact bk_33 v2_12 v2_12 y h hK _ _ _ hP (lv_sub hl [0, 2] rfl)
  have bk_12 : ∀ (v1_12 : Int32) (v2_12 : Int32) (y : Int32), f_X9_circle_12 v1_12 v2_12 σ = some y → (fun y => y = r0) y → ∀ (H : Heap) (locs : List Loc) (ls : Array Slot), HS D aI aL 8 shM ad σ s H locs → lv_has ls 3 [(0, .ref (ad 0)), (1, .int v1_12), (2, .int v2_12)] → W p l e (RM 2 46) s m args below meth c H locs 0 0 (MQ below (Qi D aI aL 8 shM ad r0 σ s.heap.size) args s 0 0 (AA ad 8 s.heap.size)) (F0 m 12 ls []) := fun v1_12 v2_12 y h hK => lp_12 3000 v1_12 v2_12 y h hK
  have bk : ∀ (y : Int32), f_X9_circle σ = some y → y = r0 → ∀ (H : Heap) (locs : List Loc), HS D aI aL 8 shM ad σ s H locs → W p l e (RM 2 46) s m args below meth c H locs 0 0 (MQ below (Qi D aI aL 8 shM ad r0 σ s.heap.size) args s 0 0 (AA ad 8 s.heap.size)) (F0 m 0 ls []) := by
    intro y h hK H locs hP
    unfold f_X9_circle at h
    refine lv_bipush (v := (-4)) hx hb_ dX9_circle_0 (by decide) ?_
    refine lv_istore_n (lv' := [(1, .int (-4)), (0, .ref (ad 0))]) hx hb_ dX9_circle_2 rfl hl (by decide) rfl (fun ls hl => ?_)
    refine lv_aload_n hx hb_ dX9_circle_3 rfl (lv_at hl 1 rfl) ?_
    refine w_get C hP (k := 0) (by decide) 7 rfl rfl inWX9 0 (by decide) wt784 (v := .ref (ad 1)) rfl dX9_circle_4 ?_
    refine lv_iconst (v := 0) hx hb_ dX9_circle_7 (by decide) ?_
    obtain ⟨x1, hx1, h⟩ := bnd h
    refine w_ald C hP (k := 1) (by decide) (n := 660) rfl hx1 dX9_circle_8 ?_
    refine lv_iconst (v := 1) hx hb_ dX9_circle_9 (by decide) ?_
    refine lv_isub hx hb_ dX9_circle_10 ?_
    obtain ⟨x2, hx2, h⟩ := nm_inv h
    refine w_ni hx2 ?_
    refine lv_istore_n (lv' := [(2, .int x2), (1, .int (-4)), (0, .ref (ad 0))]) hx hb_ dX9_circle_11 rfl hl (by decide) rfl (fun ls hl => ?_)
    exact bk_12 (-4) x2 y h hK _ _ _ hP (lv_sub hl [2, 1, 0] rfl)
  exact bk r0 hf rfl _ _ hP
theorem hd_X9_deep : yX9_deep.cls = RX9 ∧ yX9_deep.cls ≠ "java/lang/invoke/MethodHandle" ∧ yX9_deep.cls ≠ "java/lang/invoke/VarHandle" ∧ (parseMethodDescriptor yX9_deep.desc).map (fun d => d.parameters.length) = some 0 := by decide +kernel
set_option maxHeartbeats 4000000 in
set_option maxRecDepth 100000 in
theorem c_X9_deep (l : Launch) (D : va_G) (aI aL : ClassId) (ad : Nat → Nat) (inj : Inj ad 8) (sz : Nat) (σ : Sg) (r0 : (Int32 × Sg)) (hf : f_X9_deep σ = some r0) : Met l yX9_deep (wS yX9_deep cX9_deep 5 (some .int)) (RM 3 68) (Pw D aI aL 8 shM ad sz σ [.ref (ad 0)]) (Qi D aI aL 8 shM ad r0.1 r0.2 sz) 0 0 (AA ad 8 sz) := by
  refine Mof (Qc := Qi D aI aL 8 shM ad r0.1 r0.2) (by decide) inj (Nat.le_of_ble_eq_true rfl) ?_
  intro p e s m args below meth c ls C hlk hr hP hl
  have hx := C.1.1
  have hb_ := C.1.2.1
  have hown := C.1.2.2.2.1
  have hts := C.1.2.2.2.2
  have hl : lv_has ls 5 [(0, .ref (ad 0))] := hl
  have lp_37 : ∀ (n_37 : Nat) (v1_37 : Int32) (v2_37 : Int32) (s_37 : Sg) (y : (Int32 × Sg)), itr n_37 (fun s => f_X9_deep_37s s.1 s.2.1 s.2.2) (v1_37, v2_37, s_37) = some y → (fun y => y = r0) y → ∀ (H : Heap) (locs : List Loc) (ls : Array Slot), HS D aI aL 8 shM ad s_37 s H locs → lv_has ls 5 [(0, .ref (ad 0)), (1, .int v1_37), (2, .int v2_37)] → W p l e (RM 3 68) s m args below meth c H locs 0 0 (MQ below (Qi D aI aL 8 shM ad r0.1 r0.2 s.heap.size) args s 0 0 (AA ad 8 s.heap.size)) (F0 m 37 ls []) := by
    intro n_37
    induction n_37 with
    | zero =>
      intro v1_37 v2_37 s_37 y h hK
      cases (show (none : Option (Int32 × Sg)) = some y from h)
    | succ n_37 ih_37 =>
      have lp_45 : ∀ (v2_45 : Int32) (n_45 : Nat) (v1_45 : Int32) (v3_45 : Int32) (s_45 : Sg) (y : ((Int32 × Int32 × Sg) ⊕ (Int32 × Sg))), itr n_45 (fun s => f_X9_deep_45s s.1 v2_45 s.2.1 s.2.2) (v1_45, v3_45, s_45) = some y → (KK n_37 (fun s => f_X9_deep_37s s.1 s.2.1 s.2.2) (fun y => y = r0)) y → ∀ (H : Heap) (locs : List Loc) (ls : Array Slot), HS D aI aL 8 shM ad s_45 s H locs → lv_has ls 5 [(0, .ref (ad 0)), (1, .int v1_45), (2, .int v2_45), (3, .int v3_45)] → W p l e (RM 3 68) s m args below meth c H locs 0 0 (MQ below (Qi D aI aL 8 shM ad r0.1 r0.2 s.heap.size) args s 0 0 (AA ad 8 s.heap.size)) (F0 m 45 ls []) := by
        intro v2_45 n_45
        induction n_45 with
        | zero =>
          intro v1_45 v3_45 s_45 y h hK
          cases (show (none : Option ((Int32 × Int32 × Sg) ⊕ (Int32 × Sg))) = some y from h)
        | succ n_45 ih_45 =>
          have bk_189 : ∀ (v3_189 : Int32) (t0_189 : Int32) (s_189 : Sg) (y : ((Int32 × Int32 × Sg) ⊕ ((Int32 × Int32 × Sg) ⊕ (Int32 × Sg)))), f_X9_deep_189 v2_45 v3_189 t0_189 s_189 = some y → (KK n_45 (fun s => f_X9_deep_45s s.1 v2_45 s.2.1 s.2.2) (KK n_37 (fun s => f_X9_deep_37s s.1 s.2.1 s.2.2) (fun y => y = r0))) y → ∀ (H : Heap) (locs : List Loc) (ls : Array Slot), HS D aI aL 8 shM ad s_189 s H locs → lv_has ls 5 [(0, .ref (ad 0)), (2, .int v2_45), (3, .int v3_189)] → W p l e (RM 3 68) s m args below meth c H locs 0 0 (MQ below (Qi D aI aL 8 shM ad r0.1 r0.2 s.heap.size) args s 0 0 (AA ad 8 s.heap.size)) (F0 m 189 ls [.int t0_189]) := by
            intro v3_189 t0_189 s_189 y h hK H locs ls hP hl
            unfold f_X9_deep_189 at h
            refine lv_istore_n (lv' := [(1, .int t0_189), (0, .ref (ad 0)), (2, .int v2_45), (3, .int v3_189)]) hx hb_ dX9_deep_189 rfl hl (by decide) rfl (fun ls hl => ?_)
            obtain ⟨x16, hx16, h⟩ := nm_inv h
            refine lv_iinc (v := x16) (lv' := [(3, .int x16), (1, .int t0_189), (0, .ref (ad 0)), (2, .int v2_45)]) hx hb_ dX9_deep_190 hl (k := 3) rfl (by rw [hx16]; rfl) (by decide) rfl (fun ls hl => ?_)
            refine lv_goto (tgt := 45) hx hb_ dX9_deep_193 (by decide) ?_
            obtain rfl := Option.some.inj h
            obtain ⟨y2, h, hK⟩ := hK
            exact ih_45 t0_189 x16 s_189 y2 h hK _ _ _ hP (lv_sub hl [2, 1, 3, 0] rfl)
          have bk_172 : ∀ (v1_172 : Int32) (v3_172 : Int32) (v4_172 : Int32) (t1_172 : Int32) (t2_172 : Int32) (s_172 : Sg) (y : ((Int32 × Int32 × Sg) ⊕ ((Int32 × Int32 × Sg) ⊕ (Int32 × Sg)))), f_X9_deep_172 v1_172 v2_45 v3_172 v4_172 t1_172 t2_172 s_172 = some y → (KK n_45 (fun s => f_X9_deep_45s s.1 v2_45 s.2.1 s.2.2) (KK n_37 (fun s => f_X9_deep_37s s.1 s.2.1 s.2.2) (fun y => y = r0))) y → ∀ (H : Heap) (locs : List Loc) (ls : Array Slot), HS D aI aL 8 shM ad s_172 s H locs → lv_has ls 5 [(0, .ref (ad 0)), (1, .int v1_172), (2, .int v2_45), (3, .int v3_172), (4, .int v4_172)] → W p l e (RM 3 68) s m args below meth c H locs 0 0 (MQ below (Qi D aI aL 8 shM ad r0.1 r0.2 s.heap.size) args s 0 0 (AA ad 8 s.heap.size)) (F0 m 172 ls [.int t2_172, .int t1_172, .ref (ad 7)]) := by
            intro v1_172 v3_172 v4_172 t1_172 t2_172 s_172 y h hK H locs ls hP hl
            unfold f_X9_deep_172 at h
            obtain ⟨s15, hs15, h⟩ := bnd h
            refine w_ast C hP (k := 7) (by decide) (n := 10) rfl hs15 dX9_deep_172 (fun H locs hP => ?_)
            refine lv_iload hx hb_ dX9_deep_173 (lv_at hl 4 rfl) ?_
            refine lv_iconst (v := 1) hx hb_ dX9_deep_175 (by decide) ?_
            refine lv_iadd hx hb_ dX9_deep_176 ?_
            refine lv_iload_n hx hb_ dX9_deep_177 rfl (lv_at hl 1 rfl) ?_
            refine lv_icmp_le (tgt := 188) hx hb_ dX9_deep_178 (by decide) (fun hc => ?_) (fun hc => ?_)
            · replace h := ift h hc
              refine lv_iload_n hx hb_ dX9_deep_188 rfl (lv_at hl 1 rfl) ?_
              exact bk_189 v3_172 v1_172 s15 y h hK _ _ _ hP (lv_sub hl [0, 2, 3] rfl)
            · replace h := iff' h hc
              refine lv_iload hx hb_ dX9_deep_181 (lv_at hl 4 rfl) ?_
              refine lv_iconst (v := 1) hx hb_ dX9_deep_183 (by decide) ?_
              refine lv_iadd hx hb_ dX9_deep_184 ?_
              refine lv_goto (tgt := 189) hx hb_ dX9_deep_185 (by decide) ?_
              exact bk_189 v3_172 (v4_172 + (1 : Int32)) s15 y h hK _ _ _ hP (lv_sub hl [0, 2, 3] rfl)
          have bk_115 : ∀ (v1_115 : Int32) (v3_115 : Int32) (t0_115 : Int32) (s_115 : Sg) (y : ((Int32 × Int32 × Sg) ⊕ ((Int32 × Int32 × Sg) ⊕ (Int32 × Sg)))), f_X9_deep_115 v1_115 v2_45 v3_115 t0_115 s_115 = some y → (KK n_45 (fun s => f_X9_deep_45s s.1 v2_45 s.2.1 s.2.2) (KK n_37 (fun s => f_X9_deep_37s s.1 s.2.1 s.2.2) (fun y => y = r0))) y → ∀ (H : Heap) (locs : List Loc) (ls : Array Slot), HS D aI aL 8 shM ad s_115 s H locs → lv_has ls 5 [(0, .ref (ad 0)), (1, .int v1_115), (2, .int v2_45), (3, .int v3_115)] → W p l e (RM 3 68) s m args below meth c H locs 0 0 (MQ below (Qi D aI aL 8 shM ad r0.1 r0.2 s.heap.size) args s 0 0 (AA ad 8 s.heap.size)) (F0 m 115 ls [.int t0_115]) := by
            intro v1_115 v3_115 t0_115 s_115 y h hK H locs ls hP hl
            unfold f_X9_deep_115 at h
            refine lv_istore (lv' := [(4, .int t0_115), (0, .ref (ad 0)), (1, .int v1_115), (2, .int v2_45), (3, .int v3_115)]) hx hb_ dX9_deep_115 hl (by decide) rfl (fun ls hl => ?_)
            refine lv_aload_n hx hb_ dX9_deep_117 rfl (lv_at hl 1 rfl) ?_
            refine w_get C hP (k := 0) (by decide) 7 rfl rfl inWX9 12 (by decide) wt796 (v := .ref (ad 7)) rfl dX9_deep_118 ?_
            refine lv_aload_n hx hb_ dX9_deep_121 rfl (lv_at hl 1 rfl) ?_
            refine w_get C hP (k := 0) (by decide) 7 rfl rfl inWX9 0 (by decide) wt784 (v := .ref (ad 1)) rfl dX9_deep_122 ?_
            refine lv_bipush (v := 25) hx hb_ dX9_deep_125 (by decide) ?_
            refine lv_iload_n hx hb_ dX9_deep_127 rfl (lv_at hl 4 rfl) ?_
            refine lv_iadd hx hb_ dX9_deep_128 ?_
            obtain ⟨x10, hx10, h⟩ := bnd h
            refine w_ald C hP (k := 1) (by decide) (n := 660) rfl hx10 dX9_deep_129 ?_
            refine lv_iload hx hb_ dX9_deep_130 (lv_at hl 0 rfl) ?_
            refine lv_iconst (v := 1) hx hb_ dX9_deep_132 (by decide) ?_
            refine lv_iadd hx hb_ dX9_deep_133 ?_
            refine lv_aload_n hx hb_ dX9_deep_134 rfl (lv_at hl 1 rfl) ?_
            refine w_get C hP (k := 0) (by decide) 7 rfl rfl inWX9 12 (by decide) wt796 (v := .ref (ad 7)) rfl dX9_deep_135 ?_
            refine lv_aload_n hx hb_ dX9_deep_138 rfl (lv_at hl 1 rfl) ?_
            refine w_get C hP (k := 0) (by decide) 7 rfl rfl inWX9 0 (by decide) wt784 (v := .ref (ad 1)) rfl dX9_deep_139 ?_
            refine lv_bipush (v := 25) hx hb_ dX9_deep_142 (by decide) ?_
            refine lv_iload_n hx hb_ dX9_deep_144 rfl (lv_at hl 4 rfl) ?_
            refine lv_iadd hx hb_ dX9_deep_145 ?_
            obtain ⟨x11, hx11, h⟩ := bnd h
            refine w_ald C hP (k := 1) (by decide) (n := 660) rfl hx11 dX9_deep_146 ?_
            obtain ⟨x12, hx12, h⟩ := bnd h
            refine w_ald C hP (k := 7) (by decide) (n := 10) rfl hx12 dX9_deep_147 ?_
            refine lv_icmp_le (tgt := 158) hx hb_ dX9_deep_148 (by decide) (fun hc => ?_) (fun hc => ?_)
            · replace h := ift h hc
              refine lv_aload_n hx hb_ dX9_deep_158 rfl (lv_at hl 1 rfl) ?_
              refine w_get C hP (k := 0) (by decide) 7 rfl rfl inWX9 12 (by decide) wt796 (v := .ref (ad 7)) rfl dX9_deep_159 ?_
              refine lv_aload_n hx hb_ dX9_deep_162 rfl (lv_at hl 1 rfl) ?_
              refine w_get C hP (k := 0) (by decide) 7 rfl rfl inWX9 0 (by decide) wt784 (v := .ref (ad 1)) rfl dX9_deep_163 ?_
              refine lv_bipush (v := 25) hx hb_ dX9_deep_166 (by decide) ?_
              refine lv_iload_n hx hb_ dX9_deep_168 rfl (lv_at hl 4 rfl) ?_
              refine lv_iadd hx hb_ dX9_deep_169 ?_
              obtain ⟨x13, hx13, h⟩ := bnd h
              refine w_ald C hP (k := 1) (by decide) (n := 660) rfl hx13 dX9_deep_170 ?_
              obtain ⟨x14, hx14, h⟩ := bnd h
              refine w_ald C hP (k := 7) (by decide) (n := 10) rfl hx14 dX9_deep_171 ?_
              exact bk_172 v1_115 v3_115 t0_115 x10 x14 s_115 y h hK _ _ _ hP (lv_sub hl [1, 2, 3, 4, 0] rfl)
            · replace h := iff' h hc
              refine lv_iload hx hb_ dX9_deep_151 (lv_at hl 0 rfl) ?_
              refine lv_iconst (v := 1) hx hb_ dX9_deep_153 (by decide) ?_
              refine lv_iadd hx hb_ dX9_deep_154 ?_
              refine lv_goto (tgt := 172) hx hb_ dX9_deep_155 (by decide) ?_
              exact bk_172 v1_115 v3_115 t0_115 x10 (t0_115 + (1 : Int32)) s_115 y h hK _ _ _ hP (lv_sub hl [1, 2, 3, 4, 0] rfl)
          intro v1_45 v3_45 s_45 y h hK H locs ls hP hl
          obtain ⟨y, h, hK⟩ := itr_inv (K := (KK n_37 (fun s => f_X9_deep_37s s.1 s.2.1 s.2.2) (fun y => y = r0))) h hK
          replace h : f_X9_deep_45s v1_45 v2_45 v3_45 s_45 = some y := h
          unfold f_X9_deep_45s at h
          refine lv_iload_n hx hb_ dX9_deep_45 rfl (lv_at hl 3 rfl) ?_
          refine lv_aload_n hx hb_ dX9_deep_46 rfl (lv_at hl 0 rfl) ?_
          refine w_get C hP (k := 0) (by decide) 7 rfl rfl inWX9 0 (by decide) wt784 (v := .ref (ad 1)) rfl dX9_deep_47 ?_
          refine lv_iconst (v := 4) hx hb_ dX9_deep_50 (by decide) ?_
          obtain ⟨x2, hx2, h⟩ := bnd h
          refine w_ald C hP (k := 1) (by decide) (n := 660) rfl hx2 dX9_deep_51 ?_
          refine lv_icmp_ge (tgt := 196) hx hb_ dX9_deep_52 (by decide) (fun hc => ?_) (fun hc => ?_)
          · replace h := ift h hc
            obtain ⟨x3, hx3, h⟩ := nm_inv h
            refine lv_iinc (v := x3) (lv' := [(2, .int x3), (0, .ref (ad 0)), (1, .int v1_45), (3, .int v3_45)]) hx hb_ dX9_deep_196 hl (k := 2) rfl (by rw [hx3]; rfl) (by decide) rfl (fun ls hl => ?_)
            refine lv_goto (tgt := 37) hx hb_ dX9_deep_199 (by decide) ?_
            obtain rfl := Option.some.inj h
            obtain ⟨y2, h, hK⟩ := hK
            exact ih_37 v1_45 x3 s_45 y2 h hK _ _ _ hP (lv_sub hl [1, 2, 0] rfl)
          · replace h := iff' h hc
            refine lv_aload_n hx hb_ dX9_deep_55 rfl (lv_at hl 0 rfl) ?_
            refine w_get C hP (k := 0) (by decide) 7 rfl rfl inWX9 12 (by decide) wt796 (v := .ref (ad 7)) rfl dX9_deep_56 ?_
            refine lv_aload_n hx hb_ dX9_deep_59 rfl (lv_at hl 0 rfl) ?_
            refine w_get C hP (k := 0) (by decide) 7 rfl rfl inWX9 0 (by decide) wt784 (v := .ref (ad 1)) rfl dX9_deep_60 ?_
            refine lv_iconst (v := 5) hx hb_ dX9_deep_63 (by decide) ?_
            refine lv_iload_n hx hb_ dX9_deep_64 rfl (lv_at hl 3 rfl) ?_
            refine lv_iadd hx hb_ dX9_deep_65 ?_
            obtain ⟨x4, hx4, h⟩ := bnd h
            refine w_ald C hP (k := 1) (by decide) (n := 660) rfl hx4 dX9_deep_66 ?_
            obtain ⟨x5, hx5, h⟩ := bnd h
            refine w_ald C hP (k := 7) (by decide) (n := 10) rfl hx5 dX9_deep_67 ?_
            refine lv_aload_n hx hb_ dX9_deep_68 rfl (lv_at hl 0 rfl) ?_
            refine w_get C hP (k := 0) (by decide) 7 rfl rfl inWX9 12 (by decide) wt796 (v := .ref (ad 7)) rfl dX9_deep_69 ?_
            refine lv_aload_n hx hb_ dX9_deep_72 rfl (lv_at hl 0 rfl) ?_
            refine w_get C hP (k := 0) (by decide) 7 rfl rfl inWX9 0 (by decide) wt784 (v := .ref (ad 1)) rfl dX9_deep_73 ?_
            refine lv_bipush (v := 15) hx hb_ dX9_deep_76 (by decide) ?_
            refine lv_iload_n hx hb_ dX9_deep_78 rfl (lv_at hl 3 rfl) ?_
            refine lv_iadd hx hb_ dX9_deep_79 ?_
            obtain ⟨x6, hx6, h⟩ := bnd h
            refine w_ald C hP (k := 1) (by decide) (n := 660) rfl hx6 dX9_deep_80 ?_
            obtain ⟨x7, hx7, h⟩ := bnd h
            refine w_ald C hP (k := 7) (by decide) (n := 10) rfl hx7 dX9_deep_81 ?_
            refine lv_icmp_le (tgt := 101) hx hb_ dX9_deep_82 (by decide) (fun hc => ?_) (fun hc => ?_)
            · replace h := ift h hc
              refine lv_aload_n hx hb_ dX9_deep_101 rfl (lv_at hl 0 rfl) ?_
              refine w_get C hP (k := 0) (by decide) 7 rfl rfl inWX9 12 (by decide) wt796 (v := .ref (ad 7)) rfl dX9_deep_102 ?_
              refine lv_aload_n hx hb_ dX9_deep_105 rfl (lv_at hl 0 rfl) ?_
              refine w_get C hP (k := 0) (by decide) 7 rfl rfl inWX9 0 (by decide) wt784 (v := .ref (ad 1)) rfl dX9_deep_106 ?_
              refine lv_bipush (v := 15) hx hb_ dX9_deep_109 (by decide) ?_
              refine lv_iload_n hx hb_ dX9_deep_111 rfl (lv_at hl 3 rfl) ?_
              refine lv_iadd hx hb_ dX9_deep_112 ?_
              obtain ⟨x8, hx8, h⟩ := bnd h
              refine w_ald C hP (k := 1) (by decide) (n := 660) rfl hx8 dX9_deep_113 ?_
              obtain ⟨x9, hx9, h⟩ := bnd h
              refine w_ald C hP (k := 7) (by decide) (n := 10) rfl hx9 dX9_deep_114 ?_
              exact bk_115 v1_45 v3_45 x9 s_45 y h hK _ _ _ hP (lv_sub hl [0, 1, 2, 3] rfl)
            · replace h := iff' h hc
              refine lv_aload_n hx hb_ dX9_deep_85 rfl (lv_at hl 0 rfl) ?_
              refine w_get C hP (k := 0) (by decide) 7 rfl rfl inWX9 12 (by decide) wt796 (v := .ref (ad 7)) rfl dX9_deep_86 ?_
              refine lv_aload_n hx hb_ dX9_deep_89 rfl (lv_at hl 0 rfl) ?_
              refine w_get C hP (k := 0) (by decide) 7 rfl rfl inWX9 0 (by decide) wt784 (v := .ref (ad 1)) rfl dX9_deep_90 ?_
              refine lv_iconst (v := 5) hx hb_ dX9_deep_93 (by decide) ?_
              refine lv_iload_n hx hb_ dX9_deep_94 rfl (lv_at hl 3 rfl) ?_
              refine lv_iadd hx hb_ dX9_deep_95 ?_
              obtain ⟨x17, hx17, h⟩ := bnd h
              refine w_ald C hP (k := 1) (by decide) (n := 660) rfl hx17 dX9_deep_96 ?_
              obtain ⟨x18, hx18, h⟩ := bnd h
              refine w_ald C hP (k := 7) (by decide) (n := 10) rfl hx18 dX9_deep_97 ?_
              refine lv_goto (tgt := 115) hx hb_ dX9_deep_98 (by decide) ?_
              exact bk_115 v1_45 v3_45 x18 s_45 y h hK _ _ _ hP (lv_sub hl [0, 1, 2, 3] rfl)
      have bk_45 : ∀ (v1_45 : Int32) (v2_45 : Int32) (v3_45 : Int32) (s_45 : Sg) (y : ((Int32 × Int32 × Sg) ⊕ (Int32 × Sg))), f_X9_deep_45 v1_45 v2_45 v3_45 s_45 = some y → (KK n_37 (fun s => f_X9_deep_37s s.1 s.2.1 s.2.2) (fun y => y = r0)) y → ∀ (H : Heap) (locs : List Loc) (ls : Array Slot), HS D aI aL 8 shM ad s_45 s H locs → lv_has ls 5 [(0, .ref (ad 0)), (1, .int v1_45), (2, .int v2_45), (3, .int v3_45)] → W p l e (RM 3 68) s m args below meth c H locs 0 0 (MQ below (Qi D aI aL 8 shM ad r0.1 r0.2 s.heap.size) args s 0 0 (AA ad 8 s.heap.size)) (F0 m 45 ls []) := fun v1_45 v2_45 v3_45 s_45 y h hK => lp_45 v2_45 3000 v1_45 v3_45 s_45 y h hK
      intro v1_37 v2_37 s_37 y h hK H locs ls hP hl
      obtain ⟨y, h, hK⟩ := itr_inv (K := (fun y => y = r0)) h hK
      replace h : f_X9_deep_37s v1_37 v2_37 s_37 = some y := h
      unfold f_X9_deep_37s at h
      refine lv_iload_n hx hb_ dX9_deep_37 rfl (lv_at hl 2 rfl) ?_
      refine lv_bipush (v := 10) hx hb_ dX9_deep_38 (by decide) ?_
      refine lv_icmp_ge (tgt := 202) hx hb_ dX9_deep_40 (by decide) (fun hc => ?_) (fun hc => ?_)
      · replace h := ift h hc
        refine lv_iload_n hx hb_ dX9_deep_202 rfl (lv_at hl 1 rfl) ?_
        obtain rfl := Option.some.inj h
        have hK : (v1_37, s_37) = r0 := hK
        have hK1 := congrArg Prod.fst hK
        have hK2 := congrArg Prod.snd hK
        exact w_iret C hlk hr hP hK1 hK2 dX9_deep_203
      · replace h := iff' h hc
        refine lv_iconst (v := 0) hx hb_ dX9_deep_43 (by decide) ?_
        refine lv_istore_n (lv' := [(3, .int 0), (0, .ref (ad 0)), (1, .int v1_37), (2, .int v2_37)]) hx hb_ dX9_deep_44 rfl hl (by decide) rfl (fun ls hl => ?_)
        exact bk_45 v1_37 v2_37 0 s_37 y h hK _ _ _ hP (lv_sub hl [1, 2, 3, 0] rfl)
  have bk_37 : ∀ (v1_37 : Int32) (v2_37 : Int32) (s_37 : Sg) (y : (Int32 × Sg)), f_X9_deep_37 v1_37 v2_37 s_37 = some y → (fun y => y = r0) y → ∀ (H : Heap) (locs : List Loc) (ls : Array Slot), HS D aI aL 8 shM ad s_37 s H locs → lv_has ls 5 [(0, .ref (ad 0)), (1, .int v1_37), (2, .int v2_37)] → W p l e (RM 3 68) s m args below meth c H locs 0 0 (MQ below (Qi D aI aL 8 shM ad r0.1 r0.2 s.heap.size) args s 0 0 (AA ad 8 s.heap.size)) (F0 m 37 ls []) := fun v1_37 v2_37 s_37 y h hK => lp_37 3000 v1_37 v2_37 s_37 y h hK
  have lp_14 : ∀ (n_14 : Nat) (v1_14 : Int32) (s_14 : Sg) (y : (Int32 × Sg)), itr n_14 (fun s => f_X9_deep_14s s.1 s.2) (v1_14, s_14) = some y → (fun y => y = r0) y → ∀ (H : Heap) (locs : List Loc) (ls : Array Slot), HS D aI aL 8 shM ad s_14 s H locs → lv_has ls 5 [(0, .ref (ad 0)), (1, .int v1_14)] → W p l e (RM 3 68) s m args below meth c H locs 0 0 (MQ below (Qi D aI aL 8 shM ad r0.1 r0.2 s.heap.size) args s 0 0 (AA ad 8 s.heap.size)) (F0 m 14 ls []) := by
    intro n_14
    induction n_14 with
    | zero =>
      intro v1_14 s_14 y h hK
      cases (show (none : Option (Int32 × Sg)) = some y from h)
    | succ n_14 ih_14 =>
      intro v1_14 s_14 y h hK H locs ls hP hl
      obtain ⟨y, h, hK⟩ := itr_inv (K := (fun y => y = r0)) h hK
      replace h : f_X9_deep_14s v1_14 s_14 = some y := h
      unfold f_X9_deep_14s at h
      refine lv_iload_n hx hb_ dX9_deep_14 rfl (lv_at hl 1 rfl) ?_
      refine lv_bipush (v := 10) hx hb_ dX9_deep_15 (by decide) ?_
      refine lv_icmp_ge (tgt := 33) hx hb_ dX9_deep_17 (by decide) (fun hc => ?_) (fun hc => ?_)
      · replace h := ift h hc
        refine lv_iconst (v := 0) hx hb_ dX9_deep_33 (by decide) ?_
        refine lv_istore_n (lv' := [(1, .int 0), (0, .ref (ad 0))]) hx hb_ dX9_deep_34 rfl hl (by decide) rfl (fun ls hl => ?_)
        refine lv_iconst (v := 0) hx hb_ dX9_deep_35 (by decide) ?_
        refine lv_istore_n (lv' := [(2, .int 0), (1, .int 0), (0, .ref (ad 0))]) hx hb_ dX9_deep_36 rfl hl (by decide) rfl (fun ls hl => ?_)
        obtain ⟨y2, h2, rfl⟩ := mapi h
        exact bk_37 0 0 s_14 y2 h2 hK _ _ _ hP (lv_sub hl [2, 1, 0] rfl)
      · replace h := iff' h hc
        refine lv_aload_n hx hb_ dX9_deep_20 rfl (lv_at hl 0 rfl) ?_
        refine w_get C hP (k := 0) (by decide) 7 rfl rfl inWX9 12 (by decide) wt796 (v := .ref (ad 7)) rfl dX9_deep_21 ?_
        refine lv_iload_n hx hb_ dX9_deep_24 rfl (lv_at hl 1 rfl) ?_
        refine lv_iconst (v := 0) hx hb_ dX9_deep_25 (by decide) ?_
        obtain ⟨s19, hs19, h⟩ := bnd h
        refine w_ast C hP (k := 7) (by decide) (n := 10) rfl hs19 dX9_deep_26 (fun H locs hP => ?_)
        obtain ⟨x20, hx20, h⟩ := nm_inv h
        refine lv_iinc (v := x20) (lv' := [(1, .int x20), (0, .ref (ad 0))]) hx hb_ dX9_deep_27 hl (k := 1) rfl (by rw [hx20]; rfl) (by decide) rfl (fun ls hl => ?_)
        refine lv_goto (tgt := 14) hx hb_ dX9_deep_30 (by decide) ?_
        obtain rfl := Option.some.inj h
        obtain ⟨y2, h, hK⟩ := hK
        exact ih_14 x20 s19 y2 h hK _ _ _ hP (lv_sub hl [1, 0] rfl)
  have bk_14 : ∀ (v1_14 : Int32) (s_14 : Sg) (y : (Int32 × Sg)), f_X9_deep_14 v1_14 s_14 = some y → (fun y => y = r0) y → ∀ (H : Heap) (locs : List Loc) (ls : Array Slot), HS D aI aL 8 shM ad s_14 s H locs → lv_has ls 5 [(0, .ref (ad 0)), (1, .int v1_14)] → W p l e (RM 3 68) s m args below meth c H locs 0 0 (MQ below (Qi D aI aL 8 shM ad r0.1 r0.2 s.heap.size) args s 0 0 (AA ad 8 s.heap.size)) (F0 m 14 ls []) := fun v1_14 s_14 y h hK => lp_14 3000 v1_14 s_14 y h hK
  have bk : ∀ (y : (Int32 × Sg)), f_X9_deep σ = some y → y = r0 → ∀ (H : Heap) (locs : List Loc), HS D aI aL 8 shM ad σ s H locs → W p l e (RM 3 68) s m args below meth c H locs 0 0 (MQ below (Qi D aI aL 8 shM ad r0.1 r0.2 s.heap.size) args s 0 0 (AA ad 8 s.heap.size)) (F0 m 0 ls []) := by
    intro y h hK H locs hP
    unfold f_X9_deep at h
    refine lv_aload_n hx hb_ dX9_deep_0 rfl (lv_at hl 0 rfl) ?_
    obtain ⟨q1, hq1, h⟩ := bnd h
    refine w_ci (w_rV (As := []) (rest := []) C hP (k := 0) (c_X9_circle l D aI aL ad inj _ σ q1 hq1) (gV wt1009 wt998 wt999 wt12 wt1000) 0 hd_X9_circle ⟨Nat.le_of_ble_eq_true rfl, Nat.le_of_ble_eq_true rfl⟩ (by decide) 7 rfl rfl rfl hl.1 rfl (Nat.le_of_ble_eq_true rfl) dX9_deep_1) hP (fun H locs hP => ?_)
    refine lv_bipush (v := (-4)) hx hb_ dX9_deep_4 (by decide) ?_
    refine lv_icmp_eq (tgt := 12) hx hb_ dX9_deep_6 (by decide) (fun hc => ?_) (fun hc => ?_)
    · replace h := ift h hc
      refine lv_iconst (v := 0) hx hb_ dX9_deep_12 (by decide) ?_
      refine lv_istore_n (lv' := [(1, .int 0), (0, .ref (ad 0))]) hx hb_ dX9_deep_13 rfl hl (by decide) rfl (fun ls hl => ?_)
      exact bk_14 0 σ y h hK _ _ _ hP (lv_sub hl [1, 0] rfl)
    · replace h := iff' h hc
      refine lv_bipush (v := (-4)) hx hb_ dX9_deep_9 (by decide) ?_
      obtain rfl := Option.some.inj h
      have hK : ((-4), σ) = r0 := hK
      have hK1 := congrArg Prod.fst hK
      have hK2 := congrArg Prod.snd hK
      exact w_iret C hlk hr hP hK1 hK2 dX9_deep_11
  exact bk r0 hf rfl _ _ hP
theorem hd_X9_proves : yX9_proves.cls = RX9 ∧ yX9_proves.cls ≠ "java/lang/invoke/MethodHandle" ∧ yX9_proves.cls ≠ "java/lang/invoke/VarHandle" ∧ (parseMethodDescriptor yX9_proves.desc).map (fun d => d.parameters.length) = some 2 := by decide +kernel
set_option maxHeartbeats 4000000 in
set_option maxRecDepth 100000 in
theorem c_X9_proves (l : Launch) (D : va_G) (aI aL : ClassId) (ad : Nat → Nat) (inj : Inj ad 8) (sz : Nat) (σ : Sg) (v1 : Int32) (v2 : Int32) (r0 : Int32) (hf : f_X9_proves v1 v2 σ = some r0) : Met l yX9_proves (wS yX9_proves cX9_proves 3 (some .boolean)) (RM 2 48) (Pw D aI aL 8 shM ad sz σ [.ref (ad 0), .int v1, .int v2]) (Qi D aI aL 8 shM ad r0 σ sz) 0 0 (AA ad 8 sz) := by
  refine Mof (Qc := Qi D aI aL 8 shM ad r0 σ) (by decide) inj (Nat.le_of_ble_eq_true rfl) ?_
  intro p e s m args below meth c ls C hlk hr hP hl
  have hx := C.1.1
  have hb_ := C.1.2.1
  have hown := C.1.2.2.2.1
  have hts := C.1.2.2.2.2
  have hl : lv_has ls 3 [(0, .ref (ad 0)), (1, .int v1), (2, .int v2)] := hl
  have bk : ∀ (y : Int32), f_X9_proves v1 v2 σ = some y → y = r0 → ∀ (H : Heap) (locs : List Loc), HS D aI aL 8 shM ad σ s H locs → W p l e (RM 2 48) s m args below meth c H locs 0 0 (MQ below (Qi D aI aL 8 shM ad r0 σ s.heap.size) args s 0 0 (AA ad 8 s.heap.size)) (F0 m 0 ls []) := by
    intro y h hK H locs hP
    unfold f_X9_proves at h
    refine lv_aload_n hx hb_ dX9_proves_0 rfl (lv_at hl 0 rfl) ?_
    refine lv_aload_n hx hb_ dX9_proves_1 rfl (lv_at hl 0 rfl) ?_
    obtain ⟨q1, hq1, h⟩ := bnd h
    refine w_ci (w_rV (As := []) (rest := [.ref (ad 0)]) C hP (k := 0) (c_X9_beginnings l D aI aL ad inj _ σ q1 hq1) (gV wt965 wt967 wp32 wt12 wt968) 0 hd_X9_beginnings ⟨Nat.le_of_ble_eq_true rfl, Nat.le_of_ble_eq_true rfl⟩ (by decide) 7 rfl rfl rfl hl.1 rfl (Nat.le_of_ble_eq_true rfl) dX9_proves_2) hP (fun H locs hP => ?_)
    refine lv_iload_n hx hb_ dX9_proves_5 rfl (lv_at hl 1 rfl) ?_
    refine lv_aload_n hx hb_ dX9_proves_6 rfl (lv_at hl 0 rfl) ?_
    refine w_get C hP (k := 0) (by decide) 7 rfl rfl inWX9 0 (by decide) wt784 (v := .ref (ad 1)) rfl dX9_proves_7 ?_
    refine lv_iconst (v := 2) hx hb_ dX9_proves_10 (by decide) ?_
    obtain ⟨x2, hx2, h⟩ := bnd h
    refine w_ald C hP (k := 1) (by decide) (n := 660) rfl hx2 dX9_proves_11 ?_
    obtain ⟨q3, hq3, h⟩ := bnd h
    refine w_ci (w_rV (As := [.int q1, .int v1, .int x2]) (rest := []) C hP (k := 0) (c_X9_closure l D aI aL ad inj _ σ q1 v1 x2 q3 hq3) (gV wt938 wt940 wp29 wt12 wt941) 3 hd_X9_closure ⟨Nat.le_of_ble_eq_true rfl, Nat.le_of_ble_eq_true rfl⟩ (by decide) 7 rfl rfl rfl hl.1 rfl (Nat.le_of_ble_eq_true rfl) dX9_proves_12) hP (fun H locs hP => ?_)
    refine lv_iload_n hx hb_ dX9_proves_15 rfl (lv_at hl 2 rfl) ?_
    obtain ⟨q4, hq4, h⟩ := bnd h
    refine w_ci (w_rS (As := [.int q3, .int v2]) (rest := []) C hP (c_X9_has l D aI aL ad inj _ σ q3 v2 q4 hq4) wt896 wt897 wt12 wt898 2 hd_X9_has ⟨Nat.le_of_ble_eq_true rfl, Nat.le_of_ble_eq_true rfl⟩ rfl hl.1 rfl (Nat.le_of_ble_eq_true rfl) dX9_proves_16) hP (fun H locs hP => ?_)
    obtain ⟨x5, hx5, h⟩ := bnd h
    obtain rfl := Option.some.inj h
    have hK : (x5 : Int32) = r0 := hK
    exact w_zret C hlk hr hP hx5 hK rfl dX9_proves_19
  exact bk r0 hf rfl _ _ hP
theorem hd_X9_isProof : yX9_isProof.cls = RX9 ∧ yX9_isProof.cls ≠ "java/lang/invoke/MethodHandle" ∧ yX9_isProof.cls ≠ "java/lang/invoke/VarHandle" ∧ (parseMethodDescriptor yX9_isProof.desc).map (fun d => d.parameters.length) = some 2 := by decide +kernel
set_option maxHeartbeats 4000000 in
set_option maxRecDepth 100000 in
theorem c_X9_isProof (l : Launch) (D : va_G) (aI aL : ClassId) (ad : Nat → Nat) (inj : Inj ad 8) (sz : Nat) (σ : Sg) (v1 : Int32) (v2 : Int32) (r0 : Int32) (hf : f_X9_isProof v1 v2 σ = some r0) : Met l yX9_isProof (wS yX9_isProof cX9_isProof 5 (some .boolean)) (RM 3 70) (Pw D aI aL 8 shM ad sz σ [.ref (ad 0), .int v1, .int v2]) (Qi D aI aL 8 shM ad r0 σ sz) 0 0 (AA ad 8 sz) := by
  refine Mof (Qc := Qi D aI aL 8 shM ad r0 σ) (by decide) inj (Nat.le_of_ble_eq_true rfl) ?_
  intro p e s m args below meth c ls C hlk hr hP hl
  have hx := C.1.1
  have hb_ := C.1.2.1
  have hown := C.1.2.2.2.1
  have hts := C.1.2.2.2.2
  have hl : lv_has ls 5 [(0, .ref (ad 0)), (1, .int v1), (2, .int v2)] := hl
  have bk_62 : ∀ (v3_62 : Int32) (y : Int32), f_X9_isProof_62 v3_62 σ = some y → (fun y => y = r0) y → ∀ (H : Heap) (locs : List Loc) (ls : Array Slot), HS D aI aL 8 shM ad σ s H locs → lv_has ls 5 [(3, .int v3_62)] → W p l e (RM 3 70) s m args below meth c H locs 0 0 (MQ below (Qi D aI aL 8 shM ad r0 σ s.heap.size) args s 0 0 (AA ad 8 s.heap.size)) (F0 m 62 ls []) := by
    intro v3_62 y h hK H locs ls hP hl
    unfold f_X9_isProof_62 at h
    refine lv_iload_n hx hb_ dX9_isProof_62 rfl (lv_at hl 0 rfl) ?_
    obtain ⟨x3, hx3, h⟩ := bnd h
    obtain rfl := Option.some.inj h
    have hK : (x3 : Int32) = r0 := hK
    exact w_zret C hlk hr hP hx3 hK rfl dX9_isProof_63
  have lp_10 : ∀ (n_10 : Nat) (v3_10 : Int32) (v4_10 : Int32) (y : Int32), itr n_10 (fun s => f_X9_isProof_10s v1 v2 s.1 s.2 σ) (v3_10, v4_10) = some y → (fun y => y = r0) y → ∀ (H : Heap) (locs : List Loc) (ls : Array Slot), HS D aI aL 8 shM ad σ s H locs → lv_has ls 5 [(0, .ref (ad 0)), (1, .int v1), (2, .int v2), (3, .int v3_10), (4, .int v4_10)] → W p l e (RM 3 70) s m args below meth c H locs 0 0 (MQ below (Qi D aI aL 8 shM ad r0 σ s.heap.size) args s 0 0 (AA ad 8 s.heap.size)) (F0 m 10 ls []) := by
    intro n_10
    induction n_10 with
    | zero =>
      intro v3_10 v4_10 y h hK
      cases (show (none : Option Int32) = some y from h)
    | succ n_10 ih_10 =>
      have bk_55 : ∀ (v4_55 : Int32) (t0_55 : Int32) (y : ((Int32 × Int32) ⊕ Int32)), f_X9_isProof_55 v1 v2 v4_55 t0_55 σ = some y → (KK n_10 (fun s => f_X9_isProof_10s v1 v2 s.1 s.2 σ) (fun y => y = r0)) y → ∀ (H : Heap) (locs : List Loc) (ls : Array Slot), HS D aI aL 8 shM ad σ s H locs → lv_has ls 5 [(0, .ref (ad 0)), (1, .int v1), (2, .int v2), (4, .int v4_55)] → W p l e (RM 3 70) s m args below meth c H locs 0 0 (MQ below (Qi D aI aL 8 shM ad r0 σ s.heap.size) args s 0 0 (AA ad 8 s.heap.size)) (F0 m 55 ls [.int t0_55]) := by
        intro v4_55 t0_55 y h hK H locs ls hP hl
        unfold f_X9_isProof_55 at h
        refine lv_istore_n (lv' := [(3, .int t0_55), (0, .ref (ad 0)), (1, .int v1), (2, .int v2), (4, .int v4_55)]) hx hb_ dX9_isProof_55 rfl hl (by decide) rfl (fun ls hl => ?_)
        obtain ⟨x5, hx5, h⟩ := nm_inv h
        refine lv_iinc (v := x5) (lv' := [(4, .int x5), (3, .int t0_55), (0, .ref (ad 0)), (1, .int v1), (2, .int v2)]) hx hb_ dX9_isProof_56 hl (k := 4) rfl (by rw [hx5]; rfl) (by decide) rfl (fun ls hl => ?_)
        refine lv_goto (tgt := 10) hx hb_ dX9_isProof_59 (by decide) ?_
        obtain rfl := Option.some.inj h
        obtain ⟨y2, h, hK⟩ := hK
        exact ih_10 t0_55 x5 y2 h hK _ _ _ hP (lv_sub hl [2, 3, 4, 1, 0] rfl)
      have bk_50 : ∀ (v4_50 : Int32) (y : ((Int32 × Int32) ⊕ Int32)), f_X9_isProof_50 v1 v2 v4_50 σ = some y → (KK n_10 (fun s => f_X9_isProof_10s v1 v2 s.1 s.2 σ) (fun y => y = r0)) y → ∀ (H : Heap) (locs : List Loc) (ls : Array Slot), HS D aI aL 8 shM ad σ s H locs → lv_has ls 5 [(0, .ref (ad 0)), (1, .int v1), (2, .int v2), (4, .int v4_50)] → W p l e (RM 3 70) s m args below meth c H locs 0 0 (MQ below (Qi D aI aL 8 shM ad r0 σ s.heap.size) args s 0 0 (AA ad 8 s.heap.size)) (F0 m 50 ls []) := by
        intro v4_50 y h hK H locs ls hP hl
        unfold f_X9_isProof_50 at h
        refine lv_iconst (v := 1) hx hb_ dX9_isProof_50 (by decide) ?_
        refine lv_goto (tgt := 55) hx hb_ dX9_isProof_51 (by decide) ?_
        exact bk_55 v4_50 1 y h hK _ _ _ hP (lv_sub hl [0, 1, 2, 3] rfl)
      intro v3_10 v4_10 y h hK H locs ls hP hl
      obtain ⟨y, h, hK⟩ := itr_inv (K := (fun y => y = r0)) h hK
      replace h : f_X9_isProof_10s v1 v2 v3_10 v4_10 σ = some y := h
      unfold f_X9_isProof_10s at h
      refine lv_iload hx hb_ dX9_isProof_10 (lv_at hl 4 rfl) ?_
      refine lv_aload_n hx hb_ dX9_isProof_12 rfl (lv_at hl 0 rfl) ?_
      refine w_get C hP (k := 0) (by decide) 7 rfl rfl inWX9 0 (by decide) wt784 (v := .ref (ad 1)) rfl dX9_isProof_13 ?_
      refine lv_iconst (v := 4) hx hb_ dX9_isProof_16 (by decide) ?_
      obtain ⟨x2, hx2, h⟩ := bnd h
      refine w_ald C hP (k := 1) (by decide) (n := 660) rfl hx2 dX9_isProof_17 ?_
      refine lv_icmp_ge (tgt := 62) hx hb_ dX9_isProof_18 (by decide) (fun hc => ?_) (fun hc => ?_)
      · replace h := ift h hc
        obtain ⟨y2, h2, rfl⟩ := mapi h
        exact bk_62 v3_10 y2 h2 hK _ _ _ hP (lv_sub hl [3] rfl)
      · replace h := iff' h hc
        refine lv_iload_n hx hb_ dX9_isProof_21 rfl (lv_at hl 3 rfl) ?_
        refine lv_if_eq (tgt := 62) hx hb_ dX9_isProof_22 (by decide) (fun hc => ?_) (fun hc => ?_)
        · replace h := ift h hc
          obtain ⟨y2, h2, rfl⟩ := mapi h
          exact bk_62 v3_10 y2 h2 hK _ _ _ hP (lv_sub hl [3] rfl)
        · replace h := iff' h hc
          refine lv_iload_n hx hb_ dX9_isProof_25 rfl (lv_at hl 1 rfl) ?_
          refine lv_iload hx hb_ dX9_isProof_26 (lv_at hl 4 rfl) ?_
          obtain ⟨q4, hq4, h⟩ := bnd h
          refine w_ci (w_rS (As := [.int v1, .int v4_10]) (rest := []) C hP (c_X9_has l D aI aL ad inj _ σ v1 v4_10 q4 hq4) wt896 wt897 wt12 wt898 2 hd_X9_has ⟨Nat.le_of_ble_eq_true rfl, Nat.le_of_ble_eq_true rfl⟩ rfl hl.1 rfl (Nat.le_of_ble_eq_true rfl) dX9_isProof_28) hP (fun H locs hP => ?_)
          refine lv_if_eq (tgt := 50) hx hb_ dX9_isProof_31 (by decide) (fun hc => ?_) (fun hc => ?_)
          · replace h := ift h hc
            exact bk_50 v4_10 y h hK _ _ _ hP (lv_sub hl [0, 1, 2, 4] rfl)
          · replace h := iff' h hc
            refine lv_aload_n hx hb_ dX9_isProof_34 rfl (lv_at hl 0 rfl) ?_
            refine lv_iload_n hx hb_ dX9_isProof_35 rfl (lv_at hl 1 rfl) ?_
            refine lv_iconst (v := 1) hx hb_ dX9_isProof_36 (by decide) ?_
            refine lv_iload hx hb_ dX9_isProof_37 (lv_at hl 4 rfl) ?_
            refine lv_ishl hx hb_ dX9_isProof_39 ?_
            refine lv_iconst (v := (-1)) hx hb_ dX9_isProof_40 (by decide) ?_
            refine lv_ixor hx hb_ dX9_isProof_41 ?_
            refine lv_iand hx hb_ dX9_isProof_42 ?_
            refine lv_iload_n hx hb_ dX9_isProof_43 rfl (lv_at hl 2 rfl) ?_
            obtain ⟨q6, hq6, h⟩ := bnd h
            refine w_ci (w_rV (As := [.int (v1 &&& (((1 : Int32) <<< (v4_10 &&& 31)) ^^^ ((-1) : Int32))), .int v2]) (rest := []) C hP (k := 0) (c_X9_proves l D aI aL ad inj _ σ (v1 &&& (((1 : Int32) <<< (v4_10 &&& 31)) ^^^ ((-1) : Int32))) v2 q6 hq6) (gV wt1018 wt1020 wp37 wt12 wt1021) 2 hd_X9_proves ⟨Nat.le_of_ble_eq_true rfl, Nat.le_of_ble_eq_true rfl⟩ (by decide) 7 rfl rfl rfl hl.1 rfl (Nat.le_of_ble_eq_true rfl) dX9_isProof_44) hP (fun H locs hP => ?_)
            refine lv_if_ne (tgt := 54) hx hb_ dX9_isProof_47 (by decide) (fun hc => ?_) (fun hc => ?_)
            · replace h := iff' h hc
              refine lv_iconst (v := 0) hx hb_ dX9_isProof_54 (by decide) ?_
              exact bk_55 v4_10 0 y h hK _ _ _ hP (lv_sub hl [0, 1, 2, 4] rfl)
            · replace h := ift h hc
              exact bk_50 v4_10 y h hK _ _ _ hP (lv_sub hl [0, 1, 2, 4] rfl)
  have bk_10 : ∀ (v3_10 : Int32) (v4_10 : Int32) (y : Int32), f_X9_isProof_10 v1 v2 v3_10 v4_10 σ = some y → (fun y => y = r0) y → ∀ (H : Heap) (locs : List Loc) (ls : Array Slot), HS D aI aL 8 shM ad σ s H locs → lv_has ls 5 [(0, .ref (ad 0)), (1, .int v1), (2, .int v2), (3, .int v3_10), (4, .int v4_10)] → W p l e (RM 3 70) s m args below meth c H locs 0 0 (MQ below (Qi D aI aL 8 shM ad r0 σ s.heap.size) args s 0 0 (AA ad 8 s.heap.size)) (F0 m 10 ls []) := fun v3_10 v4_10 y h hK => lp_10 3000 v3_10 v4_10 y h hK
  have bk : ∀ (y : Int32), f_X9_isProof v1 v2 σ = some y → y = r0 → ∀ (H : Heap) (locs : List Loc), HS D aI aL 8 shM ad σ s H locs → W p l e (RM 3 70) s m args below meth c H locs 0 0 (MQ below (Qi D aI aL 8 shM ad r0 σ s.heap.size) args s 0 0 (AA ad 8 s.heap.size)) (F0 m 0 ls []) := by
    intro y h hK H locs hP
    unfold f_X9_isProof at h
    refine lv_aload_n hx hb_ dX9_isProof_0 rfl (lv_at hl 0 rfl) ?_
    refine lv_iload_n hx hb_ dX9_isProof_1 rfl (lv_at hl 1 rfl) ?_
    refine lv_iload_n hx hb_ dX9_isProof_2 rfl (lv_at hl 2 rfl) ?_
    obtain ⟨q1, hq1, h⟩ := bnd h
    refine w_ci (w_rV (As := [.int v1, .int v2]) (rest := []) C hP (k := 0) (c_X9_proves l D aI aL ad inj _ σ v1 v2 q1 hq1) (gV wt1018 wt1020 wp37 wt12 wt1021) 2 hd_X9_proves ⟨Nat.le_of_ble_eq_true rfl, Nat.le_of_ble_eq_true rfl⟩ (by decide) 7 rfl rfl rfl hl.1 rfl (Nat.le_of_ble_eq_true rfl) dX9_isProof_3) hP (fun H locs hP => ?_)
    refine lv_istore_n (lv' := [(3, .int q1), (0, .ref (ad 0)), (1, .int v1), (2, .int v2)]) hx hb_ dX9_isProof_6 rfl hl (by decide) rfl (fun ls hl => ?_)
    refine lv_iconst (v := 0) hx hb_ dX9_isProof_7 (by decide) ?_
    refine lv_istore (lv' := [(4, .int 0), (3, .int q1), (0, .ref (ad 0)), (1, .int v1), (2, .int v2)]) hx hb_ dX9_isProof_8 hl (by decide) rfl (fun ls hl => ?_)
    exact bk_10 q1 0 y h hK _ _ _ hP (lv_sub hl [2, 3, 4, 1, 0] rfl)
  exact bk r0 hf rfl _ _ hP
theorem hd_X9_proofs : yX9_proofs.cls = RX9 ∧ yX9_proofs.cls ≠ "java/lang/invoke/MethodHandle" ∧ yX9_proofs.cls ≠ "java/lang/invoke/VarHandle" ∧ (parseMethodDescriptor yX9_proofs.desc).map (fun d => d.parameters.length) = some 2 := by decide +kernel
set_option maxHeartbeats 4000000 in
set_option maxRecDepth 100000 in
theorem c_X9_proofs (l : Launch) (D : va_G) (aI aL : ClassId) (ad : Nat → Nat) (inj : Inj ad 8) (sz : Nat) (σ : Sg) (v1 : Int32) (v2 : Int32) (r0 : Int32) (hf : f_X9_proofs v1 v2 σ = some r0) : Met l yX9_proofs (wS yX9_proofs cX9_proofs 7 (some .int)) (RM 4 94) (Pw D aI aL 8 shM ad sz σ [.ref (ad 0), .int v1, .int v2]) (Qi D aI aL 8 shM ad r0 σ sz) 0 0 (AA ad 8 sz) := by
  refine Mof (Qc := Qi D aI aL 8 shM ad r0 σ) (by decide) inj (Nat.le_of_ble_eq_true rfl) ?_
  intro p e s m args below meth c ls C hlk hr hP hl
  have hx := C.1.1
  have hb_ := C.1.2.1
  have hown := C.1.2.2.2.1
  have hts := C.1.2.2.2.2
  have hl : lv_has ls 7 [(0, .ref (ad 0)), (1, .int v1), (2, .int v2)] := hl
  have bk_20 : ∀ (y : Int32), f_X9_proofs_20 σ = some y → (fun y => y = r0) y → ∀ (H : Heap) (locs : List Loc) (ls : Array Slot), HS D aI aL 8 shM ad σ s H locs → lv_has ls 7 [] → W p l e (RM 4 94) s m args below meth c H locs 0 0 (MQ below (Qi D aI aL 8 shM ad r0 σ s.heap.size) args s 0 0 (AA ad 8 s.heap.size)) (F0 m 20 ls []) := by
    intro y h hK H locs ls hP hl
    unfold f_X9_proofs_20 at h
    refine lv_iconst (v := (-1)) hx hb_ dX9_proofs_20 (by decide) ?_
    obtain rfl := Option.some.inj h
    have hK : ((-1) : Int32) = r0 := hK
    exact w_iret C hlk hr hP hK rfl dX9_proofs_21
  have bk_129 : ∀ (t0_129 : Int32) (y : Int32), f_X9_proofs_129 t0_129 σ = some y → (fun y => y = r0) y → ∀ (H : Heap) (locs : List Loc) (ls : Array Slot), HS D aI aL 8 shM ad σ s H locs → lv_has ls 7 [] → W p l e (RM 4 94) s m args below meth c H locs 0 0 (MQ below (Qi D aI aL 8 shM ad r0 σ s.heap.size) args s 0 0 (AA ad 8 s.heap.size)) (F0 m 129 ls [.int t0_129]) := by
    intro t0_129 y h hK H locs ls hP hl
    unfold f_X9_proofs_129 at h
    obtain rfl := Option.some.inj h
    have hK : (t0_129 : Int32) = r0 := hK
    exact w_iret C hlk hr hP hK rfl dX9_proofs_129
  have lp_37 : ∀ (n_37 : Nat) (v3_37 : Int32) (v4_37 : Int32) (v5_37 : Int32) (v6_37 : Int32) (y : Int32), itr n_37 (fun s => f_X9_proofs_37s v1 v2 s.1 s.2.1 s.2.2.1 s.2.2.2 σ) (v3_37, v4_37, v5_37, v6_37) = some y → (fun y => y = r0) y → ∀ (H : Heap) (locs : List Loc) (ls : Array Slot), HS D aI aL 8 shM ad σ s H locs → lv_has ls 7 [(0, .ref (ad 0)), (1, .int v1), (2, .int v2), (3, .int v3_37), (4, .int v4_37), (5, .int v5_37), (6, .int v6_37)] → W p l e (RM 4 94) s m args below meth c H locs 0 0 (MQ below (Qi D aI aL 8 shM ad r0 σ s.heap.size) args s 0 0 (AA ad 8 s.heap.size)) (F0 m 37 ls []) := by
    intro n_37
    induction n_37 with
    | zero =>
      intro v3_37 v4_37 v5_37 v6_37 y h hK
      cases (show (none : Option Int32) = some y from h)
    | succ n_37 ih_37 =>
      have bk_95 : ∀ (v3_95 : Int32) (v4_95 : Int32) (v5_95 : Int32) (v6_95 : Int32) (y : ((Int32 × Int32 × Int32 × Int32) ⊕ Int32)), f_X9_proofs_95 v1 v2 v3_95 v4_95 v5_95 v6_95 σ = some y → (KK n_37 (fun s => f_X9_proofs_37s v1 v2 s.1 s.2.1 s.2.2.1 s.2.2.2 σ) (fun y => y = r0)) y → ∀ (H : Heap) (locs : List Loc) (ls : Array Slot), HS D aI aL 8 shM ad σ s H locs → lv_has ls 7 [(0, .ref (ad 0)), (1, .int v1), (2, .int v2), (3, .int v3_95), (4, .int v4_95), (5, .int v5_95), (6, .int v6_95)] → W p l e (RM 4 94) s m args below meth c H locs 0 0 (MQ below (Qi D aI aL 8 shM ad r0 σ s.heap.size) args s 0 0 (AA ad 8 s.heap.size)) (F0 m 95 ls []) := by
        intro v3_95 v4_95 v5_95 v6_95 y h hK H locs ls hP hl
        unfold f_X9_proofs_95 at h
        obtain ⟨x6, hx6, h⟩ := nm_inv h
        refine lv_iinc (v := x6) (lv' := [(6, .int x6), (0, .ref (ad 0)), (1, .int v1), (2, .int v2), (3, .int v3_95), (4, .int v4_95), (5, .int v5_95)]) hx hb_ dX9_proofs_95 hl (k := 6) rfl (by rw [hx6]; rfl) (by decide) rfl (fun ls hl => ?_)
        refine lv_goto (tgt := 37) hx hb_ dX9_proofs_98 (by decide) ?_
        obtain rfl := Option.some.inj h
        obtain ⟨y2, h, hK⟩ := hK
        exact ih_37 v3_95 v4_95 v5_95 x6 y2 h hK _ _ _ hP (lv_sub hl [1, 2, 3, 4, 5, 6, 0] rfl)
      have bk_83 : ∀ (v3_83 : Int32) (v5_83 : Int32) (v6_83 : Int32) (t0_83 : Int32) (y : ((Int32 × Int32 × Int32 × Int32) ⊕ Int32)), f_X9_proofs_83 v1 v2 v3_83 v5_83 v6_83 t0_83 σ = some y → (KK n_37 (fun s => f_X9_proofs_37s v1 v2 s.1 s.2.1 s.2.2.1 s.2.2.2 σ) (fun y => y = r0)) y → ∀ (H : Heap) (locs : List Loc) (ls : Array Slot), HS D aI aL 8 shM ad σ s H locs → lv_has ls 7 [(0, .ref (ad 0)), (1, .int v1), (2, .int v2), (3, .int v3_83), (5, .int v5_83), (6, .int v6_83)] → W p l e (RM 4 94) s m args below meth c H locs 0 0 (MQ below (Qi D aI aL 8 shM ad r0 σ s.heap.size) args s 0 0 (AA ad 8 s.heap.size)) (F0 m 83 ls [.int t0_83]) := by
        intro v3_83 v5_83 v6_83 t0_83 y h hK H locs ls hP hl
        unfold f_X9_proofs_83 at h
        refine lv_istore (lv' := [(4, .int t0_83), (0, .ref (ad 0)), (1, .int v1), (2, .int v2), (3, .int v3_83), (5, .int v5_83), (6, .int v6_83)]) hx hb_ dX9_proofs_83 hl (by decide) rfl (fun ls hl => ?_)
        refine lv_iload hx hb_ dX9_proofs_85 (lv_at hl 5 rfl) ?_
        refine lv_iload hx hb_ dX9_proofs_87 (lv_at hl 6 rfl) ?_
        refine lv_iand hx hb_ dX9_proofs_89 ?_
        obtain ⟨x7, hx7, h⟩ := nm_inv h
        refine w_ni hx7 ?_
        refine lv_istore (lv' := [(5, .int x7), (4, .int t0_83), (0, .ref (ad 0)), (1, .int v1), (2, .int v2), (3, .int v3_83), (6, .int v6_83)]) hx hb_ dX9_proofs_90 hl (by decide) rfl (fun ls hl => ?_)
        obtain ⟨x8, hx8, h⟩ := nm_inv h
        refine lv_iinc (v := x8) (lv' := [(3, .int x8), (5, .int x7), (4, .int t0_83), (0, .ref (ad 0)), (1, .int v1), (2, .int v2), (6, .int v6_83)]) hx hb_ dX9_proofs_92 hl (k := 5) rfl (by rw [hx8]; rfl) (by decide) rfl (fun ls hl => ?_)
        exact bk_95 x8 t0_83 x7 v6_83 y h hK _ _ _ hP (lv_sub hl [3, 4, 5, 0, 2, 1, 6] rfl)
      have bk_76 : ∀ (v3_76 : Int32) (v5_76 : Int32) (v6_76 : Int32) (y : ((Int32 × Int32 × Int32 × Int32) ⊕ Int32)), f_X9_proofs_76 v1 v2 v3_76 v5_76 v6_76 σ = some y → (KK n_37 (fun s => f_X9_proofs_37s v1 v2 s.1 s.2.1 s.2.2.1 s.2.2.2 σ) (fun y => y = r0)) y → ∀ (H : Heap) (locs : List Loc) (ls : Array Slot), HS D aI aL 8 shM ad σ s H locs → lv_has ls 7 [(0, .ref (ad 0)), (1, .int v1), (2, .int v2), (3, .int v3_76), (5, .int v5_76), (6, .int v6_76)] → W p l e (RM 4 94) s m args below meth c H locs 0 0 (MQ below (Qi D aI aL 8 shM ad r0 σ s.heap.size) args s 0 0 (AA ad 8 s.heap.size)) (F0 m 76 ls []) := by
        intro v3_76 v5_76 v6_76 y h hK H locs ls hP hl
        unfold f_X9_proofs_76 at h
        refine lv_iload hx hb_ dX9_proofs_76 (lv_at hl 5 rfl) ?_
        refine lv_goto (tgt := 83) hx hb_ dX9_proofs_78 (by decide) ?_
        exact bk_83 v3_76 v5_76 v6_76 v6_76 y h hK _ _ _ hP (lv_sub hl [0, 1, 2, 3, 4, 5] rfl)
      intro v3_37 v4_37 v5_37 v6_37 y h hK H locs ls hP hl
      obtain ⟨y, h, hK⟩ := itr_inv (K := (fun y => y = r0)) h hK
      replace h : f_X9_proofs_37s v1 v2 v3_37 v4_37 v5_37 v6_37 σ = some y := h
      unfold f_X9_proofs_37s at h
      refine lv_iload hx hb_ dX9_proofs_37 (lv_at hl 6 rfl) ?_
      refine lv_aload_n hx hb_ dX9_proofs_39 rfl (lv_at hl 0 rfl) ?_
      obtain ⟨q4, hq4, h⟩ := bnd h
      refine w_ci (w_rV (As := []) (rest := [.int v6_37]) C hP (k := 0) (c_X9_allSteps l D aI aL ad inj _ σ q4 hq4) (gV wt934 wt936 wp28 wt12 wt937) 0 hd_X9_allSteps ⟨Nat.le_of_ble_eq_true rfl, Nat.le_of_ble_eq_true rfl⟩ (by decide) 7 rfl rfl rfl hl.1 rfl (Nat.le_of_ble_eq_true rfl) dX9_proofs_40) hP (fun H locs hP => ?_)
      refine lv_icmp_gt (tgt := 101) hx hb_ dX9_proofs_43 (by decide) (fun hc => ?_) (fun hc => ?_)
      · replace h := ift h hc
        refine lv_iload_n hx hb_ dX9_proofs_101 rfl (lv_at hl 2 rfl) ?_
        refine lv_if_ne (tgt := 109) hx hb_ dX9_proofs_102 (by decide) (fun hc => ?_) (fun hc => ?_)
        · replace h := iff' h hc
          refine lv_iload_n hx hb_ dX9_proofs_109 rfl (lv_at hl 2 rfl) ?_
          refine lv_iconst (v := 1) hx hb_ dX9_proofs_110 (by decide) ?_
          refine lv_icmp_ne (tgt := 119) hx hb_ dX9_proofs_111 (by decide) (fun hc => ?_) (fun hc => ?_)
          · replace h := iff' h hc
            refine lv_iload_n hx hb_ dX9_proofs_119 rfl (lv_at hl 3 rfl) ?_
            refine lv_if_ne (tgt := 127) hx hb_ dX9_proofs_120 (by decide) (fun hc => ?_) (fun hc => ?_)
            · replace h := iff' h hc
              refine lv_iload hx hb_ dX9_proofs_127 (lv_at hl 5 rfl) ?_
              obtain ⟨y2, h2, rfl⟩ := mapi h
              exact bk_129 v5_37 y2 h2 hK _ _ _ hP (lv_sub hl [] rfl)
            · replace h := ift h hc
              refine lv_iconst (v := 0) hx hb_ dX9_proofs_123 (by decide) ?_
              refine lv_goto (tgt := 129) hx hb_ dX9_proofs_124 (by decide) ?_
              obtain ⟨y2, h2, rfl⟩ := mapi h
              exact bk_129 0 y2 h2 hK _ _ _ hP (lv_sub hl [] rfl)
          · replace h := ift h hc
            refine lv_iload hx hb_ dX9_proofs_114 (lv_at hl 4 rfl) ?_
            refine lv_goto (tgt := 129) hx hb_ dX9_proofs_116 (by decide) ?_
            obtain ⟨y2, h2, rfl⟩ := mapi h
            exact bk_129 v4_37 y2 h2 hK _ _ _ hP (lv_sub hl [] rfl)
        · replace h := ift h hc
          refine lv_iload_n hx hb_ dX9_proofs_105 rfl (lv_at hl 3 rfl) ?_
          refine lv_goto (tgt := 129) hx hb_ dX9_proofs_106 (by decide) ?_
          obtain ⟨y2, h2, rfl⟩ := mapi h
          exact bk_129 v3_37 y2 h2 hK _ _ _ hP (lv_sub hl [] rfl)
      · replace h := iff' h hc
        refine lv_aload_n hx hb_ dX9_proofs_46 rfl (lv_at hl 0 rfl) ?_
        refine lv_iload hx hb_ dX9_proofs_47 (lv_at hl 6 rfl) ?_
        refine lv_iload_n hx hb_ dX9_proofs_49 rfl (lv_at hl 1 rfl) ?_
        obtain ⟨q5, hq5, h⟩ := bnd h
        refine w_ci (w_rV (As := [.int v6_37, .int v1]) (rest := []) C hP (k := 0) (c_X9_isProof l D aI aL ad inj _ σ v6_37 v1 q5 hq5) (gV wt1014 wt1016 wp36 wt12 wt1017) 2 hd_X9_isProof ⟨Nat.le_of_ble_eq_true rfl, Nat.le_of_ble_eq_true rfl⟩ (by decide) 7 rfl rfl rfl hl.1 rfl (Nat.le_of_ble_eq_true rfl) dX9_proofs_50) hP (fun H locs hP => ?_)
        refine lv_if_eq (tgt := 95) hx hb_ dX9_proofs_53 (by decide) (fun hc => ?_) (fun hc => ?_)
        · replace h := ift h hc
          exact bk_95 v3_37 v4_37 v5_37 v6_37 y h hK _ _ _ hP (lv_sub hl [0, 1, 2, 3, 4, 5, 6] rfl)
        · replace h := iff' h hc
          refine lv_iload hx hb_ dX9_proofs_56 (lv_at hl 4 rfl) ?_
          refine lv_bipush (v := (-4)) hx hb_ dX9_proofs_58 (by decide) ?_
          refine lv_icmp_eq (tgt := 76) hx hb_ dX9_proofs_60 (by decide) (fun hc => ?_) (fun hc => ?_)
          · replace h := ift h hc
            exact bk_76 v3_37 v5_37 v6_37 y h hK _ _ _ hP (lv_sub hl [0, 1, 2, 3, 5, 6] rfl)
          · replace h := iff' h hc
            refine lv_iload hx hb_ dX9_proofs_63 (lv_at hl 6 rfl) ?_
            obtain ⟨q9, hq9, h⟩ := bnd h
            refine w_ci (w_rS (As := [.int v6_37]) (rest := []) C hP (c_X9_ones l D aI aL ad inj _ σ v6_37 q9 hq9) wt907 wt908 wt12 wt909 1 hd_X9_ones ⟨Nat.le_of_ble_eq_true rfl, Nat.le_of_ble_eq_true rfl⟩ rfl hl.1 rfl (Nat.le_of_ble_eq_true rfl) dX9_proofs_65) hP (fun H locs hP => ?_)
            refine lv_iload hx hb_ dX9_proofs_68 (lv_at hl 4 rfl) ?_
            obtain ⟨q10, hq10, h⟩ := bnd h
            refine w_ci (w_rS (As := [.int v4_37]) (rest := [.int q9]) C hP (c_X9_ones l D aI aL ad inj _ σ v4_37 q10 hq10) wt907 wt908 wt12 wt909 1 hd_X9_ones ⟨Nat.le_of_ble_eq_true rfl, Nat.le_of_ble_eq_true rfl⟩ rfl hl.1 rfl (Nat.le_of_ble_eq_true rfl) dX9_proofs_70) hP (fun H locs hP => ?_)
            refine lv_icmp_ge (tgt := 81) hx hb_ dX9_proofs_73 (by decide) (fun hc => ?_) (fun hc => ?_)
            · replace h := ift h hc
              refine lv_iload hx hb_ dX9_proofs_81 (lv_at hl 4 rfl) ?_
              exact bk_83 v3_37 v5_37 v6_37 v4_37 y h hK _ _ _ hP (lv_sub hl [0, 1, 2, 3, 5, 6] rfl)
            · replace h := iff' h hc
              exact bk_76 v3_37 v5_37 v6_37 y h hK _ _ _ hP (lv_sub hl [0, 1, 2, 3, 5, 6] rfl)
  have bk_37 : ∀ (v3_37 : Int32) (v4_37 : Int32) (v5_37 : Int32) (v6_37 : Int32) (y : Int32), f_X9_proofs_37 v1 v2 v3_37 v4_37 v5_37 v6_37 σ = some y → (fun y => y = r0) y → ∀ (H : Heap) (locs : List Loc) (ls : Array Slot), HS D aI aL 8 shM ad σ s H locs → lv_has ls 7 [(0, .ref (ad 0)), (1, .int v1), (2, .int v2), (3, .int v3_37), (4, .int v4_37), (5, .int v5_37), (6, .int v6_37)] → W p l e (RM 4 94) s m args below meth c H locs 0 0 (MQ below (Qi D aI aL 8 shM ad r0 σ s.heap.size) args s 0 0 (AA ad 8 s.heap.size)) (F0 m 37 ls []) := fun v3_37 v4_37 v5_37 v6_37 y h hK => lp_37 3000 v3_37 v4_37 v5_37 v6_37 y h hK
  have bk : ∀ (y : Int32), f_X9_proofs v1 v2 σ = some y → y = r0 → ∀ (H : Heap) (locs : List Loc), HS D aI aL 8 shM ad σ s H locs → W p l e (RM 4 94) s m args below meth c H locs 0 0 (MQ below (Qi D aI aL 8 shM ad r0 σ s.heap.size) args s 0 0 (AA ad 8 s.heap.size)) (F0 m 0 ls []) := by
    intro y h hK H locs hP
    unfold f_X9_proofs at h
    refine lv_aload_n hx hb_ dX9_proofs_0 rfl (lv_at hl 0 rfl) ?_
    refine lv_iload_n hx hb_ dX9_proofs_1 rfl (lv_at hl 1 rfl) ?_
    obtain ⟨q1, hq1, h⟩ := bnd h
    refine w_ci (w_rV (As := [.int v1]) (rest := []) C hP (k := 0) (c_X9_isStone l D aI aL ad inj _ σ v1 q1 hq1) (gV wt878 wt880 wp22 wt12 wt881) 1 hd_X9_isStone ⟨Nat.le_of_ble_eq_true rfl, Nat.le_of_ble_eq_true rfl⟩ (by decide) 7 rfl rfl rfl hl.1 rfl (Nat.le_of_ble_eq_true rfl) dX9_proofs_2) hP (fun H locs hP => ?_)
    refine lv_if_eq (tgt := 20) hx hb_ dX9_proofs_5 (by decide) (fun hc => ?_) (fun hc => ?_)
    · replace h := ift h hc
      exact bk_20 y h hK _ _ _ hP (lv_sub hl [] rfl)
    · replace h := iff' h hc
      refine lv_iload_n hx hb_ dX9_proofs_8 rfl (lv_at hl 2 rfl) ?_
      refine lv_i2l hx hb_ dX9_proofs_9 rfl ?_
      refine lv_lconst (v := 0) hx hb_ dX9_proofs_10 (by decide) ?_
      refine lv_ldc2 hx hb_ hown (hts _ wt946) dX9_proofs_11 ?_
      obtain ⟨q2, hq2, h⟩ := bnd h
      refine w_ci (w_rS (As := [.long ((v2 : Int32).toInt64), .long 0, .long 2]) (rest := []) C hP (c_X9_in l D aI aL ad inj _ σ ((v2 : Int32).toInt64) 0 2 q2 hq2) wt830 wt831 wt12 wt832 3 hd_X9_in ⟨Nat.le_of_ble_eq_true rfl, Nat.le_of_ble_eq_true rfl⟩ rfl hl.1 rfl (Nat.le_of_ble_eq_true rfl) dX9_proofs_14) hP (fun H locs hP => ?_)
      refine lv_if_ne (tgt := 22) hx hb_ dX9_proofs_17 (by decide) (fun hc => ?_) (fun hc => ?_)
      · replace h := iff' h hc
        refine lv_iconst (v := 0) hx hb_ dX9_proofs_22 (by decide) ?_
        refine lv_istore_n (lv' := [(3, .int 0), (0, .ref (ad 0)), (1, .int v1), (2, .int v2)]) hx hb_ dX9_proofs_23 rfl hl (by decide) rfl (fun ls hl => ?_)
        refine lv_bipush (v := (-4)) hx hb_ dX9_proofs_24 (by decide) ?_
        refine lv_istore (lv' := [(4, .int (-4)), (3, .int 0), (0, .ref (ad 0)), (1, .int v1), (2, .int v2)]) hx hb_ dX9_proofs_26 hl (by decide) rfl (fun ls hl => ?_)
        refine lv_aload_n hx hb_ dX9_proofs_28 rfl (lv_at hl 2 rfl) ?_
        obtain ⟨q3, hq3, h⟩ := bnd h
        refine w_ci (w_rV (As := []) (rest := []) C hP (k := 0) (c_X9_allSteps l D aI aL ad inj _ σ q3 hq3) (gV wt934 wt936 wp28 wt12 wt937) 0 hd_X9_allSteps ⟨Nat.le_of_ble_eq_true rfl, Nat.le_of_ble_eq_true rfl⟩ (by decide) 7 rfl rfl rfl hl.1 rfl (Nat.le_of_ble_eq_true rfl) dX9_proofs_29) hP (fun H locs hP => ?_)
        refine lv_istore (lv' := [(5, .int q3), (4, .int (-4)), (3, .int 0), (0, .ref (ad 0)), (1, .int v1), (2, .int v2)]) hx hb_ dX9_proofs_32 hl (by decide) rfl (fun ls hl => ?_)
        refine lv_iconst (v := 0) hx hb_ dX9_proofs_34 (by decide) ?_
        refine lv_istore (lv' := [(6, .int 0), (5, .int q3), (4, .int (-4)), (3, .int 0), (0, .ref (ad 0)), (1, .int v1), (2, .int v2)]) hx hb_ dX9_proofs_35 hl (by decide) rfl (fun ls hl => ?_)
        exact bk_37 0 (-4) q3 0 y h hK _ _ _ hP (lv_sub hl [4, 5, 6, 3, 2, 1, 0] rfl)
      · replace h := ift h hc
        exact bk_20 y h hK _ _ _ hP (lv_sub hl [] rfl)
  exact bk r0 hf rfl _ _ hP
theorem hd_X9_worn : yX9_worn.cls = RX9 ∧ yX9_worn.cls ≠ "java/lang/invoke/MethodHandle" ∧ yX9_worn.cls ≠ "java/lang/invoke/VarHandle" ∧ (parseMethodDescriptor yX9_worn.desc).map (fun d => d.parameters.length) = some 2 := by decide +kernel
set_option maxHeartbeats 4000000 in
set_option maxRecDepth 100000 in
theorem c_X9_worn (l : Launch) (D : va_G) (aI aL : ClassId) (ad : Nat → Nat) (inj : Inj ad 8) (sz : Nat) (σ : Sg) (v1 : Int32) (v2 : Int32) (r0 : Int32) (hf : f_X9_worn v1 v2 σ = some r0) : Met l yX9_worn (wS yX9_worn cX9_worn 7 (some .int)) (RM 4 94) (Pw D aI aL 8 shM ad sz σ [.ref (ad 0), .int v1, .int v2]) (Qi D aI aL 8 shM ad r0 σ sz) 0 0 (AA ad 8 sz) := by
  refine Mof (Qc := Qi D aI aL 8 shM ad r0 σ) (by decide) inj (Nat.le_of_ble_eq_true rfl) ?_
  intro p e s m args below meth c ls C hlk hr hP hl
  have hx := C.1.1
  have hb_ := C.1.2.1
  have hown := C.1.2.2.2.1
  have hts := C.1.2.2.2.2
  have hl : lv_has ls 7 [(0, .ref (ad 0)), (1, .int v1), (2, .int v2)] := hl
  have bk_16 : ∀ (y : Int32), f_X9_worn_16 σ = some y → (fun y => y = r0) y → ∀ (H : Heap) (locs : List Loc) (ls : Array Slot), HS D aI aL 8 shM ad σ s H locs → lv_has ls 7 [] → W p l e (RM 4 94) s m args below meth c H locs 0 0 (MQ below (Qi D aI aL 8 shM ad r0 σ s.heap.size) args s 0 0 (AA ad 8 s.heap.size)) (F0 m 16 ls []) := by
    intro y h hK H locs ls hP hl
    unfold f_X9_worn_16 at h
    refine lv_iconst (v := (-1)) hx hb_ dX9_worn_16 (by decide) ?_
    obtain rfl := Option.some.inj h
    have hK : ((-1) : Int32) = r0 := hK
    exact w_iret C hlk hr hP hK rfl dX9_worn_17
  have lp_23 : ∀ (n_23 : Nat) (v3_23 : Int32) (v4_23 : Int32) (y : Int32), itr n_23 (fun s => f_X9_worn_23s v1 v2 s.1 s.2 σ) (v3_23, v4_23) = some y → (fun y => y = r0) y → ∀ (H : Heap) (locs : List Loc) (ls : Array Slot), HS D aI aL 8 shM ad σ s H locs → lv_has ls 7 [(0, .ref (ad 0)), (1, .int v1), (2, .int v2), (3, .int v3_23), (4, .int v4_23)] → W p l e (RM 4 94) s m args below meth c H locs 0 0 (MQ below (Qi D aI aL 8 shM ad r0 σ s.heap.size) args s 0 0 (AA ad 8 s.heap.size)) (F0 m 23 ls []) := by
    intro n_23
    induction n_23 with
    | zero =>
      intro v3_23 v4_23 y h hK
      cases (show (none : Option Int32) = some y from h)
    | succ n_23 ih_23 =>
      have bk_108 : ∀ (v4_108 : Int32) (t0_108 : Int32) (t1_108 : Int32) (y : ((Int32 × Int32) ⊕ Int32)), f_X9_worn_108 v1 v2 v4_108 t0_108 t1_108 σ = some y → (KK n_23 (fun s => f_X9_worn_23s v1 v2 s.1 s.2 σ) (fun y => y = r0)) y → ∀ (H : Heap) (locs : List Loc) (ls : Array Slot), HS D aI aL 8 shM ad σ s H locs → lv_has ls 7 [(0, .ref (ad 0)), (1, .int v1), (2, .int v2), (4, .int v4_108)] → W p l e (RM 4 94) s m args below meth c H locs 0 0 (MQ below (Qi D aI aL 8 shM ad r0 σ s.heap.size) args s 0 0 (AA ad 8 s.heap.size)) (F0 m 108 ls [.int t1_108, .int t0_108]) := by
        intro v4_108 t0_108 t1_108 y h hK H locs ls hP hl
        unfold f_X9_worn_108 at h
        refine lv_iadd hx hb_ dX9_worn_108 ?_
        obtain ⟨x5, hx5, h⟩ := nm_inv h
        refine w_ni hx5 ?_
        refine lv_istore_n (lv' := [(3, .int x5), (0, .ref (ad 0)), (1, .int v1), (2, .int v2), (4, .int v4_108)]) hx hb_ dX9_worn_109 rfl hl (by decide) rfl (fun ls hl => ?_)
        obtain ⟨x6, hx6, h⟩ := nm_inv h
        refine lv_iinc (v := x6) (lv' := [(4, .int x6), (3, .int x5), (0, .ref (ad 0)), (1, .int v1), (2, .int v2)]) hx hb_ dX9_worn_110 hl (k := 4) rfl (by rw [hx6]; rfl) (by decide) rfl (fun ls hl => ?_)
        refine lv_goto (tgt := 23) hx hb_ dX9_worn_113 (by decide) ?_
        obtain rfl := Option.some.inj h
        obtain ⟨y2, h, hK⟩ := hK
        exact ih_23 x5 x6 y2 h hK _ _ _ hP (lv_sub hl [2, 3, 4, 1, 0] rfl)
      have bk_107 : ∀ (v4_107 : Int32) (t0_107 : Int32) (y : ((Int32 × Int32) ⊕ Int32)), f_X9_worn_107 v1 v2 v4_107 t0_107 σ = some y → (KK n_23 (fun s => f_X9_worn_23s v1 v2 s.1 s.2 σ) (fun y => y = r0)) y → ∀ (H : Heap) (locs : List Loc) (ls : Array Slot), HS D aI aL 8 shM ad σ s H locs → lv_has ls 7 [(0, .ref (ad 0)), (1, .int v1), (2, .int v2), (4, .int v4_107)] → W p l e (RM 4 94) s m args below meth c H locs 0 0 (MQ below (Qi D aI aL 8 shM ad r0 σ s.heap.size) args s 0 0 (AA ad 8 s.heap.size)) (F0 m 107 ls [.int t0_107]) := by
        intro v4_107 t0_107 y h hK H locs ls hP hl
        unfold f_X9_worn_107 at h
        refine lv_iconst (v := 0) hx hb_ dX9_worn_107 (by decide) ?_
        exact bk_108 v4_107 t0_107 0 y h hK _ _ _ hP (lv_sub hl [0, 1, 2, 3] rfl)
      have lp_38 : ∀ (v3_38 : Int32) (v4_38 : Int32) (n_38 : Nat) (v5_38 : Int32) (v6_38 : Int32) (y : ((Int32 × Int32) ⊕ Int32)), itr n_38 (fun s => f_X9_worn_38s v1 v2 v3_38 v4_38 s.1 s.2 σ) (v5_38, v6_38) = some y → (KK n_23 (fun s => f_X9_worn_23s v1 v2 s.1 s.2 σ) (fun y => y = r0)) y → ∀ (H : Heap) (locs : List Loc) (ls : Array Slot), HS D aI aL 8 shM ad σ s H locs → lv_has ls 7 [(0, .ref (ad 0)), (1, .int v1), (2, .int v2), (3, .int v3_38), (4, .int v4_38), (5, .int v5_38), (6, .int v6_38)] → W p l e (RM 4 94) s m args below meth c H locs 0 0 (MQ below (Qi D aI aL 8 shM ad r0 σ s.heap.size) args s 0 0 (AA ad 8 s.heap.size)) (F0 m 38 ls []) := by
        intro v3_38 v4_38 n_38
        induction n_38 with
        | zero =>
          intro v5_38 v6_38 y h hK
          cases (show (none : Option ((Int32 × Int32) ⊕ Int32)) = some y from h)
        | succ n_38 ih_38 =>
          have bk_77 : ∀ (v6_77 : Int32) (t0_77 : Int32) (t1_77 : Int32) (y : ((Int32 × Int32) ⊕ ((Int32 × Int32) ⊕ Int32))), f_X9_worn_77 v1 v2 v3_38 v4_38 v6_77 t0_77 t1_77 σ = some y → (KK n_38 (fun s => f_X9_worn_38s v1 v2 v3_38 v4_38 s.1 s.2 σ) (KK n_23 (fun s => f_X9_worn_23s v1 v2 s.1 s.2 σ) (fun y => y = r0))) y → ∀ (H : Heap) (locs : List Loc) (ls : Array Slot), HS D aI aL 8 shM ad σ s H locs → lv_has ls 7 [(0, .ref (ad 0)), (1, .int v1), (2, .int v2), (3, .int v3_38), (4, .int v4_38), (6, .int v6_77)] → W p l e (RM 4 94) s m args below meth c H locs 0 0 (MQ below (Qi D aI aL 8 shM ad r0 σ s.heap.size) args s 0 0 (AA ad 8 s.heap.size)) (F0 m 77 ls [.int t1_77, .int t0_77]) := by
            intro v6_77 t0_77 t1_77 y h hK H locs ls hP hl
            unfold f_X9_worn_77 at h
            refine lv_ior hx hb_ dX9_worn_77 ?_
            obtain ⟨x9, hx9, h⟩ := nm_inv h
            refine w_ni hx9 ?_
            refine lv_istore (lv' := [(5, .int x9), (0, .ref (ad 0)), (1, .int v1), (2, .int v2), (3, .int v3_38), (4, .int v4_38), (6, .int v6_77)]) hx hb_ dX9_worn_78 hl (by decide) rfl (fun ls hl => ?_)
            obtain ⟨x10, hx10, h⟩ := nm_inv h
            refine lv_iinc (v := x10) (lv' := [(6, .int x10), (5, .int x9), (0, .ref (ad 0)), (1, .int v1), (2, .int v2), (3, .int v3_38), (4, .int v4_38)]) hx hb_ dX9_worn_80 hl (k := 6) rfl (by rw [hx10]; rfl) (by decide) rfl (fun ls hl => ?_)
            refine lv_goto (tgt := 38) hx hb_ dX9_worn_83 (by decide) ?_
            obtain rfl := Option.some.inj h
            obtain ⟨y2, h, hK⟩ := hK
            exact ih_38 x9 x10 y2 h hK _ _ _ hP (lv_sub hl [2, 3, 4, 5, 6, 1, 0] rfl)
          intro v5_38 v6_38 y h hK H locs ls hP hl
          obtain ⟨y, h, hK⟩ := itr_inv (K := (KK n_23 (fun s => f_X9_worn_23s v1 v2 s.1 s.2 σ) (fun y => y = r0))) h hK
          replace h : f_X9_worn_38s v1 v2 v3_38 v4_38 v5_38 v6_38 σ = some y := h
          unfold f_X9_worn_38s at h
          refine lv_iload hx hb_ dX9_worn_38 (lv_at hl 6 rfl) ?_
          refine lv_aload_n hx hb_ dX9_worn_40 rfl (lv_at hl 0 rfl) ?_
          refine w_get C hP (k := 0) (by decide) 7 rfl rfl inWX9 0 (by decide) wt784 (v := .ref (ad 1)) rfl dX9_worn_41 ?_
          refine lv_iconst (v := 4) hx hb_ dX9_worn_44 (by decide) ?_
          obtain ⟨x4, hx4, h⟩ := bnd h
          refine w_ald C hP (k := 1) (by decide) (n := 660) rfl hx4 dX9_worn_45 ?_
          refine lv_icmp_ge (tgt := 86) hx hb_ dX9_worn_46 (by decide) (fun hc => ?_) (fun hc => ?_)
          · replace h := ift h hc
            refine lv_iload_n hx hb_ dX9_worn_86 rfl (lv_at hl 3 rfl) ?_
            refine lv_iload hx hb_ dX9_worn_87 (lv_at hl 5 rfl) ?_
            refine lv_iload_n hx hb_ dX9_worn_89 rfl (lv_at hl 2 rfl) ?_
            refine lv_icmp_ne (tgt := 107) hx hb_ dX9_worn_90 (by decide) (fun hc => ?_) (fun hc => ?_)
            · replace h := iff' h hc
              obtain ⟨y2, h2, rfl⟩ := mapi h
              exact bk_107 v4_38 v3_38 y2 h2 hK _ _ _ hP (lv_sub hl [0, 1, 2, 4] rfl)
            · replace h := ift h hc
              refine lv_aload_n hx hb_ dX9_worn_93 rfl (lv_at hl 0 rfl) ?_
              refine lv_iload hx hb_ dX9_worn_94 (lv_at hl 4 rfl) ?_
              refine lv_iload_n hx hb_ dX9_worn_96 rfl (lv_at hl 1 rfl) ?_
              obtain ⟨q7, hq7, h⟩ := bnd h
              refine w_ci (w_rV (As := [.int v4_38, .int v1]) (rest := [.int v3_38]) C hP (k := 0) (c_X9_isProof l D aI aL ad inj _ σ v4_38 v1 q7 hq7) (gV wt1014 wt1016 wp36 wt12 wt1017) 2 hd_X9_isProof ⟨Nat.le_of_ble_eq_true rfl, Nat.le_of_ble_eq_true rfl⟩ (by decide) 7 rfl rfl rfl hl.1 rfl (Nat.le_of_ble_eq_true rfl) dX9_worn_97) hP (fun H locs hP => ?_)
              refine lv_if_eq (tgt := 107) hx hb_ dX9_worn_100 (by decide) (fun hc => ?_) (fun hc => ?_)
              · replace h := ift h hc
                obtain ⟨y2, h2, rfl⟩ := mapi h
                exact bk_107 v4_38 v3_38 y2 h2 hK _ _ _ hP (lv_sub hl [0, 1, 2, 4] rfl)
              · replace h := iff' h hc
                refine lv_iconst (v := 1) hx hb_ dX9_worn_103 (by decide) ?_
                refine lv_goto (tgt := 108) hx hb_ dX9_worn_104 (by decide) ?_
                obtain ⟨y2, h2, rfl⟩ := mapi h
                exact bk_108 v4_38 v3_38 1 y2 h2 hK _ _ _ hP (lv_sub hl [0, 1, 2, 4] rfl)
          · replace h := iff' h hc
            refine lv_iload hx hb_ dX9_worn_49 (lv_at hl 5 rfl) ?_
            refine lv_iload hx hb_ dX9_worn_51 (lv_at hl 4 rfl) ?_
            refine lv_iload hx hb_ dX9_worn_53 (lv_at hl 6 rfl) ?_
            obtain ⟨q8, hq8, h⟩ := bnd h
            refine w_ci (w_rS (As := [.int v4_38, .int v6_38]) (rest := [.int v5_38]) C hP (c_X9_has l D aI aL ad inj _ σ v4_38 v6_38 q8 hq8) wt896 wt897 wt12 wt898 2 hd_X9_has ⟨Nat.le_of_ble_eq_true rfl, Nat.le_of_ble_eq_true rfl⟩ rfl hl.1 rfl (Nat.le_of_ble_eq_true rfl) dX9_worn_55) hP (fun H locs hP => ?_)
            refine lv_if_eq (tgt := 76) hx hb_ dX9_worn_58 (by decide) (fun hc => ?_) (fun hc => ?_)
            · replace h := ift h hc
              refine lv_iconst (v := 0) hx hb_ dX9_worn_76 (by decide) ?_
              exact bk_77 v6_38 v5_38 0 y h hK _ _ _ hP (lv_sub hl [0, 1, 2, 3, 4, 6] rfl)
            · replace h := iff' h hc
              refine lv_iconst (v := 1) hx hb_ dX9_worn_61 (by decide) ?_
              refine lv_aload_n hx hb_ dX9_worn_62 rfl (lv_at hl 0 rfl) ?_
              refine w_get C hP (k := 0) (by decide) 7 rfl rfl inWX9 0 (by decide) wt784 (v := .ref (ad 1)) rfl dX9_worn_63 ?_
              refine lv_bipush (v := 25) hx hb_ dX9_worn_66 (by decide) ?_
              refine lv_iload hx hb_ dX9_worn_68 (lv_at hl 6 rfl) ?_
              refine lv_iadd hx hb_ dX9_worn_70 ?_
              obtain ⟨x11, hx11, h⟩ := bnd h
              refine w_ald C hP (k := 1) (by decide) (n := 660) rfl hx11 dX9_worn_71 ?_
              refine lv_ishl hx hb_ dX9_worn_72 ?_
              refine lv_goto (tgt := 77) hx hb_ dX9_worn_73 (by decide) ?_
              exact bk_77 v6_38 v5_38 ((1 : Int32) <<< (x11 &&& 31)) y h hK _ _ _ hP (lv_sub hl [0, 1, 2, 3, 4, 6] rfl)
      have bk_38 : ∀ (v3_38 : Int32) (v4_38 : Int32) (v5_38 : Int32) (v6_38 : Int32) (y : ((Int32 × Int32) ⊕ Int32)), f_X9_worn_38 v1 v2 v3_38 v4_38 v5_38 v6_38 σ = some y → (KK n_23 (fun s => f_X9_worn_23s v1 v2 s.1 s.2 σ) (fun y => y = r0)) y → ∀ (H : Heap) (locs : List Loc) (ls : Array Slot), HS D aI aL 8 shM ad σ s H locs → lv_has ls 7 [(0, .ref (ad 0)), (1, .int v1), (2, .int v2), (3, .int v3_38), (4, .int v4_38), (5, .int v5_38), (6, .int v6_38)] → W p l e (RM 4 94) s m args below meth c H locs 0 0 (MQ below (Qi D aI aL 8 shM ad r0 σ s.heap.size) args s 0 0 (AA ad 8 s.heap.size)) (F0 m 38 ls []) := fun v3_38 v4_38 v5_38 v6_38 y h hK => lp_38 v3_38 v4_38 3000 v5_38 v6_38 y h hK
      intro v3_23 v4_23 y h hK H locs ls hP hl
      obtain ⟨y, h, hK⟩ := itr_inv (K := (fun y => y = r0)) h hK
      replace h : f_X9_worn_23s v1 v2 v3_23 v4_23 σ = some y := h
      unfold f_X9_worn_23s at h
      refine lv_iload hx hb_ dX9_worn_23 (lv_at hl 4 rfl) ?_
      refine lv_aload_n hx hb_ dX9_worn_25 rfl (lv_at hl 0 rfl) ?_
      obtain ⟨q3, hq3, h⟩ := bnd h
      refine w_ci (w_rV (As := []) (rest := [.int v4_23]) C hP (k := 0) (c_X9_allSteps l D aI aL ad inj _ σ q3 hq3) (gV wt934 wt936 wp28 wt12 wt937) 0 hd_X9_allSteps ⟨Nat.le_of_ble_eq_true rfl, Nat.le_of_ble_eq_true rfl⟩ (by decide) 7 rfl rfl rfl hl.1 rfl (Nat.le_of_ble_eq_true rfl) dX9_worn_26) hP (fun H locs hP => ?_)
      refine lv_icmp_gt (tgt := 116) hx hb_ dX9_worn_29 (by decide) (fun hc => ?_) (fun hc => ?_)
      · replace h := ift h hc
        refine lv_iload_n hx hb_ dX9_worn_116 rfl (lv_at hl 3 rfl) ?_
        obtain rfl := Option.some.inj h
        have hK : (v3_23 : Int32) = r0 := hK
        exact w_iret C hlk hr hP hK rfl dX9_worn_117
      · replace h := iff' h hc
        refine lv_iconst (v := 0) hx hb_ dX9_worn_32 (by decide) ?_
        refine lv_istore (lv' := [(5, .int 0), (0, .ref (ad 0)), (1, .int v1), (2, .int v2), (3, .int v3_23), (4, .int v4_23)]) hx hb_ dX9_worn_33 hl (by decide) rfl (fun ls hl => ?_)
        refine lv_iconst (v := 0) hx hb_ dX9_worn_35 (by decide) ?_
        refine lv_istore (lv' := [(6, .int 0), (5, .int 0), (0, .ref (ad 0)), (1, .int v1), (2, .int v2), (3, .int v3_23), (4, .int v4_23)]) hx hb_ dX9_worn_36 hl (by decide) rfl (fun ls hl => ?_)
        exact bk_38 v3_23 v4_23 0 0 y h hK _ _ _ hP (lv_sub hl [2, 3, 4, 5, 6, 1, 0] rfl)
  have bk_23 : ∀ (v3_23 : Int32) (v4_23 : Int32) (y : Int32), f_X9_worn_23 v1 v2 v3_23 v4_23 σ = some y → (fun y => y = r0) y → ∀ (H : Heap) (locs : List Loc) (ls : Array Slot), HS D aI aL 8 shM ad σ s H locs → lv_has ls 7 [(0, .ref (ad 0)), (1, .int v1), (2, .int v2), (3, .int v3_23), (4, .int v4_23)] → W p l e (RM 4 94) s m args below meth c H locs 0 0 (MQ below (Qi D aI aL 8 shM ad r0 σ s.heap.size) args s 0 0 (AA ad 8 s.heap.size)) (F0 m 23 ls []) := fun v3_23 v4_23 y h hK => lp_23 3000 v3_23 v4_23 y h hK
  have bk : ∀ (y : Int32), f_X9_worn v1 v2 σ = some y → y = r0 → ∀ (H : Heap) (locs : List Loc), HS D aI aL 8 shM ad σ s H locs → W p l e (RM 4 94) s m args below meth c H locs 0 0 (MQ below (Qi D aI aL 8 shM ad r0 σ s.heap.size) args s 0 0 (AA ad 8 s.heap.size)) (F0 m 0 ls []) := by
    intro y h hK H locs hP
    unfold f_X9_worn at h
    refine lv_aload_n hx hb_ dX9_worn_0 rfl (lv_at hl 0 rfl) ?_
    refine lv_iload_n hx hb_ dX9_worn_1 rfl (lv_at hl 1 rfl) ?_
    obtain ⟨q1, hq1, h⟩ := bnd h
    refine w_ci (w_rV (As := [.int v1]) (rest := []) C hP (k := 0) (c_X9_isStone l D aI aL ad inj _ σ v1 q1 hq1) (gV wt878 wt880 wp22 wt12 wt881) 1 hd_X9_isStone ⟨Nat.le_of_ble_eq_true rfl, Nat.le_of_ble_eq_true rfl⟩ (by decide) 7 rfl rfl rfl hl.1 rfl (Nat.le_of_ble_eq_true rfl) dX9_worn_2) hP (fun H locs hP => ?_)
    refine lv_if_eq (tgt := 16) hx hb_ dX9_worn_5 (by decide) (fun hc => ?_) (fun hc => ?_)
    · replace h := ift h hc
      exact bk_16 y h hK _ _ _ hP (lv_sub hl [] rfl)
    · replace h := iff' h hc
      refine lv_aload_n hx hb_ dX9_worn_8 rfl (lv_at hl 0 rfl) ?_
      refine lv_iload_n hx hb_ dX9_worn_9 rfl (lv_at hl 2 rfl) ?_
      obtain ⟨q2, hq2, h⟩ := bnd h
      refine w_ci (w_rV (As := [.int v2]) (rest := []) C hP (k := 0) (c_X9_isSet l D aI aL ad inj _ σ v2 q2 hq2) (gV wt926 wt928 wp26 wt12 wt929) 1 hd_X9_isSet ⟨Nat.le_of_ble_eq_true rfl, Nat.le_of_ble_eq_true rfl⟩ (by decide) 7 rfl rfl rfl hl.1 rfl (Nat.le_of_ble_eq_true rfl) dX9_worn_10) hP (fun H locs hP => ?_)
      refine lv_if_ne (tgt := 18) hx hb_ dX9_worn_13 (by decide) (fun hc => ?_) (fun hc => ?_)
      · replace h := iff' h hc
        refine lv_iconst (v := 0) hx hb_ dX9_worn_18 (by decide) ?_
        refine lv_istore_n (lv' := [(3, .int 0), (0, .ref (ad 0)), (1, .int v1), (2, .int v2)]) hx hb_ dX9_worn_19 rfl hl (by decide) rfl (fun ls hl => ?_)
        refine lv_iconst (v := 0) hx hb_ dX9_worn_20 (by decide) ?_
        refine lv_istore (lv' := [(4, .int 0), (3, .int 0), (0, .ref (ad 0)), (1, .int v1), (2, .int v2)]) hx hb_ dX9_worn_21 hl (by decide) rfl (fun ls hl => ?_)
        exact bk_23 0 0 y h hK _ _ _ hP (lv_sub hl [2, 3, 4, 1, 0] rfl)
      · replace h := ift h hc
        exact bk_16 y h hK _ _ _ hP (lv_sub hl [] rfl)
  exact bk r0 hf rfl _ _ hP
theorem hd_X9_tell : yX9_tell.cls = RX9 ∧ yX9_tell.cls ≠ "java/lang/invoke/MethodHandle" ∧ yX9_tell.cls ≠ "java/lang/invoke/VarHandle" ∧ (parseMethodDescriptor yX9_tell.desc).map (fun d => d.parameters.length) = some 1 := by decide +kernel
set_option maxHeartbeats 4000000 in
set_option maxRecDepth 100000 in
theorem c_X9_tell (l : Launch) (D : va_G) (aI aL : ClassId) (ad : Nat → Nat) (inj : Inj ad 8) (sz : Nat) (σ : Sg) (v1 : Int32) (r0 : (Int32 × Sg)) (hf : f_X9_tell v1 σ = some r0) : Met l yX9_tell (wS yX9_tell cX9_tell 2 (some .int)) (RM 2 46) (Pw D aI aL 8 shM ad sz σ [.ref (ad 0), .int v1]) (Qi D aI aL 8 shM ad r0.1 r0.2 sz) 0 0 (AA ad 8 sz) := by
  refine Mof (Qc := Qi D aI aL 8 shM ad r0.1 r0.2) (by decide) inj (Nat.le_of_ble_eq_true rfl) ?_
  intro p e s m args below meth c ls C hlk hr hP hl
  have hx := C.1.1
  have hb_ := C.1.2.1
  have hown := C.1.2.2.2.1
  have hts := C.1.2.2.2.2
  have hl : lv_has ls 2 [(0, .ref (ad 0)), (1, .int v1)] := hl
  have bk : ∀ (y : (Int32 × Sg)), f_X9_tell v1 σ = some y → y = r0 → ∀ (H : Heap) (locs : List Loc), HS D aI aL 8 shM ad σ s H locs → W p l e (RM 2 46) s m args below meth c H locs 0 0 (MQ below (Qi D aI aL 8 shM ad r0.1 r0.2 s.heap.size) args s 0 0 (AA ad 8 s.heap.size)) (F0 m 0 ls []) := by
    intro y h hK H locs hP
    unfold f_X9_tell at h
    refine lv_aload_n hx hb_ dX9_tell_0 rfl (lv_at hl 0 rfl) ?_
    refine lv_iload_n hx hb_ dX9_tell_1 rfl (lv_at hl 1 rfl) ?_
    obtain ⟨q1, hq1, h⟩ := bnd h
    refine w_ci (w_rV (As := [.int v1]) (rest := []) C hP (k := 0) (c_X9_isStep l D aI aL ad inj _ σ v1 q1 hq1) (gV wt887 wt889 wp23 wt12 wt890) 1 hd_X9_isStep ⟨Nat.le_of_ble_eq_true rfl, Nat.le_of_ble_eq_true rfl⟩ (by decide) 7 rfl rfl rfl hl.1 rfl (Nat.le_of_ble_eq_true rfl) dX9_tell_2) hP (fun H locs hP => ?_)
    refine lv_if_ne (tgt := 10) hx hb_ dX9_tell_5 (by decide) (fun hc => ?_) (fun hc => ?_)
    · replace h := iff' h hc
      refine lv_aload_n hx hb_ dX9_tell_10 rfl (lv_at hl 0 rfl) ?_
      refine w_get C hP (k := 0) (by decide) 7 rfl rfl inWX9 6 (by decide) wt790 (v := .int (σ.1 0 6)) rfl dX9_tell_11 ?_
      refine lv_bipush (v := 12) hx hb_ dX9_tell_14 (by decide) ?_
      refine lv_icmp_ne (tgt := 22) hx hb_ dX9_tell_16 (by decide) (fun hc => ?_) (fun hc => ?_)
      · replace h := iff' h hc
        refine lv_aload_n hx hb_ dX9_tell_22 rfl (lv_at hl 0 rfl) ?_
        refine w_get C hP (k := 0) (by decide) 7 rfl rfl inWX9 5 (by decide) wt789 (v := .ref (ad 3)) rfl dX9_tell_23 ?_
        refine lv_aload_n hx hb_ dX9_tell_26 rfl (lv_at hl 0 rfl) ?_
        refine w_get C hP (k := 0) (by decide) 7 rfl rfl inWX9 6 (by decide) wt790 (v := .int (σ.1 0 6)) rfl dX9_tell_27 ?_
        refine lv_iload_n hx hb_ dX9_tell_30 rfl (lv_at hl 1 rfl) ?_
        obtain ⟨s2, hs2, h⟩ := bnd h
        refine w_ast C hP (k := 3) (by decide) (n := 12) rfl hs2 dX9_tell_31 (fun H locs hP => ?_)
        refine lv_aload_n hx hb_ dX9_tell_32 rfl (lv_at hl 0 rfl) ?_
        refine lv_dup hx hb_ dX9_tell_33 rfl ?_
        refine w_get C hP (k := 0) (by decide) 7 rfl rfl inWX9 6 (by decide) wt790 (v := .int (s2.1 0 6)) rfl dX9_tell_34 ?_
        refine lv_iconst (v := 1) hx hb_ dX9_tell_37 (by decide) ?_
        refine lv_iadd hx hb_ dX9_tell_38 ?_
        obtain ⟨s3, hs3, h⟩ := bnd h
        refine w_puti C hP (k := 0) (by decide) 7 rfl rfl inWX9 tyX9 tyX9_ok nmX9 6 (by decide) wt790 rfl rfl rfl rfl hs3 dX9_tell_39 (fun H locs hP => ?_)
        refine lv_aload_n hx hb_ dX9_tell_42 rfl (lv_at hl 0 rfl) ?_
        refine w_get C hP (k := 0) (by decide) 7 rfl rfl inWX9 6 (by decide) wt790 (v := .int (s3.1 0 6)) rfl dX9_tell_43 ?_
        obtain rfl := Option.some.inj h
        have hK : ((s3.1 0 6), s3) = r0 := hK
        have hK1 := congrArg Prod.fst hK
        have hK2 := congrArg Prod.snd hK
        exact w_iret C hlk hr hP hK1 hK2 dX9_tell_46
      · replace h := ift h hc
        refine lv_bipush (v := (-3)) hx hb_ dX9_tell_19 (by decide) ?_
        obtain rfl := Option.some.inj h
        have hK : ((-3), σ) = r0 := hK
        have hK1 := congrArg Prod.fst hK
        have hK2 := congrArg Prod.snd hK
        exact w_iret C hlk hr hP hK1 hK2 dX9_tell_21
    · replace h := ift h hc
      refine lv_iconst (v := (-1)) hx hb_ dX9_tell_8 (by decide) ?_
      obtain rfl := Option.some.inj h
      have hK : ((-1), σ) = r0 := hK
      have hK1 := congrArg Prod.fst hK
      have hK2 := congrArg Prod.snd hK
      exact w_iret C hlk hr hP hK1 hK2 dX9_tell_9
  exact bk r0 hf rfl _ _ hP
theorem hd_X9_noRow : yX9_noRow.cls = RX9 ∧ yX9_noRow.cls ≠ "java/lang/invoke/MethodHandle" ∧ yX9_noRow.cls ≠ "java/lang/invoke/VarHandle" ∧ (parseMethodDescriptor yX9_noRow.desc).map (fun d => d.parameters.length) = some 0 := by decide +kernel
set_option maxHeartbeats 4000000 in
set_option maxRecDepth 100000 in
theorem c_X9_noRow (l : Launch) (D : va_G) (aI aL : ClassId) (ad : Nat → Nat) (inj : Inj ad 8) (sz : Nat) (σ : Sg) (r0 : (Int32 × Sg)) (hf : f_X9_noRow σ = some r0) : Met l yX9_noRow (wS yX9_noRow cX9_noRow 2 (some .int)) (RM 0 0) (Pw D aI aL 8 shM ad sz σ [.ref (ad 0)]) (Qi D aI aL 8 shM ad r0.1 r0.2 sz) 0 0 (AA ad 8 sz) := by
  refine Mof (Qc := Qi D aI aL 8 shM ad r0.1 r0.2) (by decide) inj (Nat.le_of_ble_eq_true rfl) ?_
  intro p e s m args below meth c ls C hlk hr hP hl
  have hx := C.1.1
  have hb_ := C.1.2.1
  have hown := C.1.2.2.2.1
  have hts := C.1.2.2.2.2
  have hl : lv_has ls 2 [(0, .ref (ad 0))] := hl
  have bk : ∀ (y : (Int32 × Sg)), f_X9_noRow σ = some y → y = r0 → ∀ (H : Heap) (locs : List Loc), HS D aI aL 8 shM ad σ s H locs → W p l e (RM 0 0) s m args below meth c H locs 0 0 (MQ below (Qi D aI aL 8 shM ad r0.1 r0.2 s.heap.size) args s 0 0 (AA ad 8 s.heap.size)) (F0 m 0 ls []) := by
    intro y h hK H locs hP
    unfold f_X9_noRow at h
    refine lv_aload_n hx hb_ dX9_noRow_0 rfl (lv_at hl 0 rfl) ?_
    refine w_get C hP (k := 0) (by decide) 7 rfl rfl inWX9 6 (by decide) wt790 (v := .int (σ.1 0 6)) rfl dX9_noRow_1 ?_
    obtain ⟨x1, hx1, h⟩ := nm_inv h
    refine w_ni hx1 ?_
    refine lv_istore_n (lv' := [(1, .int x1), (0, .ref (ad 0))]) hx hb_ dX9_noRow_4 rfl hl (by decide) rfl (fun ls hl => ?_)
    refine lv_aload_n hx hb_ dX9_noRow_5 rfl (lv_at hl 1 rfl) ?_
    refine lv_iconst (v := 0) hx hb_ dX9_noRow_6 (by decide) ?_
    obtain ⟨s2, hs2, h⟩ := bnd h
    refine w_puti C hP (k := 0) (by decide) 7 rfl rfl inWX9 tyX9 tyX9_ok nmX9 6 (by decide) wt790 rfl rfl rfl rfl hs2 dX9_noRow_7 (fun H locs hP => ?_)
    refine lv_iload_n hx hb_ dX9_noRow_10 rfl (lv_at hl 0 rfl) ?_
    obtain rfl := Option.some.inj h
    have hK : (x1, s2) = r0 := hK
    have hK1 := congrArg Prod.fst hK
    have hK2 := congrArg Prod.snd hK
    exact w_iret C hlk hr hP hK1 hK2 dX9_noRow_11
  exact bk r0 hf rfl _ _ hP
theorem hd_X9_judge : yX9_judge.cls = RX9 ∧ yX9_judge.cls ≠ "java/lang/invoke/MethodHandle" ∧ yX9_judge.cls ≠ "java/lang/invoke/VarHandle" ∧ (parseMethodDescriptor yX9_judge.desc).map (fun d => d.parameters.length) = some 0 := by decide +kernel
set_option maxHeartbeats 4000000 in
set_option maxRecDepth 100000 in
theorem c_X9_judge (l : Launch) (D : va_G) (aI aL : ClassId) (ad : Nat → Nat) (inj : Inj ad 8) (sz : Nat) (σ : Sg) (r0 : Int32) (hf : f_X9_judge σ = some r0) : Met l yX9_judge (wS yX9_judge cX9_judge 3 (some .int)) (RM 2 43) (Pw D aI aL 8 shM ad sz σ [.ref (ad 0)]) (Qi D aI aL 8 shM ad r0 σ sz) 0 0 (AA ad 8 sz) := by
  refine Mof (Qc := Qi D aI aL 8 shM ad r0 σ) (by decide) inj (Nat.le_of_ble_eq_true rfl) ?_
  intro p e s m args below meth c ls C hlk hr hP hl
  have hx := C.1.1
  have hb_ := C.1.2.1
  have hown := C.1.2.2.2.1
  have hts := C.1.2.2.2.2
  have hl : lv_has ls 3 [(0, .ref (ad 0))] := hl
  have lp_9 : ∀ (n_9 : Nat) (v1_9 : Int32) (v2_9 : Int32) (y : Int32), itr n_9 (fun s => f_X9_judge_9s s.1 s.2 σ) (v1_9, v2_9) = some y → (fun y => y = r0) y → ∀ (H : Heap) (locs : List Loc) (ls : Array Slot), HS D aI aL 8 shM ad σ s H locs → lv_has ls 3 [(0, .ref (ad 0)), (1, .int v1_9), (2, .int v2_9)] → W p l e (RM 2 43) s m args below meth c H locs 0 0 (MQ below (Qi D aI aL 8 shM ad r0 σ s.heap.size) args s 0 0 (AA ad 8 s.heap.size)) (F0 m 9 ls []) := by
    intro n_9
    induction n_9 with
    | zero =>
      intro v1_9 v2_9 y h hK
      cases (show (none : Option Int32) = some y from h)
    | succ n_9 ih_9 =>
      intro v1_9 v2_9 y h hK H locs ls hP hl
      obtain ⟨y, h, hK⟩ := itr_inv (K := (fun y => y = r0)) h hK
      replace h : f_X9_judge_9s v1_9 v2_9 σ = some y := h
      unfold f_X9_judge_9s at h
      refine lv_iload_n hx hb_ dX9_judge_9 rfl (lv_at hl 2 rfl) ?_
      refine lv_aload_n hx hb_ dX9_judge_10 rfl (lv_at hl 0 rfl) ?_
      refine w_get C hP (k := 0) (by decide) 7 rfl rfl inWX9 6 (by decide) wt790 (v := .int (σ.1 0 6)) rfl dX9_judge_11 ?_
      refine lv_icmp_ge (tgt := 58) hx hb_ dX9_judge_14 (by decide) (fun hc => ?_) (fun hc => ?_)
      · replace h := ift h hc
        refine lv_bipush (v := (-4)) hx hb_ dX9_judge_58 (by decide) ?_
        obtain rfl := Option.some.inj h
        have hK : ((-4) : Int32) = r0 := hK
        exact w_iret C hlk hr hP hK rfl dX9_judge_60
      · replace h := iff' h hc
        refine lv_aload_n hx hb_ dX9_judge_17 rfl (lv_at hl 0 rfl) ?_
        refine lv_iload_n hx hb_ dX9_judge_18 rfl (lv_at hl 1 rfl) ?_
        refine lv_aload_n hx hb_ dX9_judge_19 rfl (lv_at hl 0 rfl) ?_
        refine w_get C hP (k := 0) (by decide) 7 rfl rfl inWX9 5 (by decide) wt789 (v := .ref (ad 3)) rfl dX9_judge_20 ?_
        refine lv_iload_n hx hb_ dX9_judge_23 rfl (lv_at hl 2 rfl) ?_
        obtain ⟨x2, hx2, h⟩ := bnd h
        refine w_ald C hP (k := 3) (by decide) (n := 12) rfl hx2 dX9_judge_24 ?_
        obtain ⟨q3, hq3, h⟩ := bnd h
        refine w_ci (w_rV (As := [.int v1_9, .int x2]) (rest := []) C hP (k := 0) (c_X9_mayFrom l D aI aL ad inj _ σ v1_9 x2 q3 hq3) (gV wt952 wt954 wp31 wt12 wt955) 2 hd_X9_mayFrom ⟨Nat.le_of_ble_eq_true rfl, Nat.le_of_ble_eq_true rfl⟩ (by decide) 7 rfl rfl rfl hl.1 rfl (Nat.le_of_ble_eq_true rfl) dX9_judge_25) hP (fun H locs hP => ?_)
        refine lv_if_ne (tgt := 33) hx hb_ dX9_judge_28 (by decide) (fun hc => ?_) (fun hc => ?_)
        · replace h := iff' h hc
          refine lv_iload_n hx hb_ dX9_judge_33 rfl (lv_at hl 1 rfl) ?_
          refine lv_iconst (v := 1) hx hb_ dX9_judge_34 (by decide) ?_
          refine lv_aload_n hx hb_ dX9_judge_35 rfl (lv_at hl 0 rfl) ?_
          refine w_get C hP (k := 0) (by decide) 7 rfl rfl inWX9 0 (by decide) wt784 (v := .ref (ad 1)) rfl dX9_judge_36 ?_
          refine lv_bipush (v := 25) hx hb_ dX9_judge_39 (by decide) ?_
          refine lv_aload_n hx hb_ dX9_judge_41 rfl (lv_at hl 0 rfl) ?_
          refine w_get C hP (k := 0) (by decide) 7 rfl rfl inWX9 5 (by decide) wt789 (v := .ref (ad 3)) rfl dX9_judge_42 ?_
          refine lv_iload_n hx hb_ dX9_judge_45 rfl (lv_at hl 2 rfl) ?_
          obtain ⟨x4, hx4, h⟩ := bnd h
          refine w_ald C hP (k := 3) (by decide) (n := 12) rfl hx4 dX9_judge_46 ?_
          refine lv_iadd hx hb_ dX9_judge_47 ?_
          obtain ⟨x5, hx5, h⟩ := bnd h
          refine w_ald C hP (k := 1) (by decide) (n := 660) rfl hx5 dX9_judge_48 ?_
          refine lv_ishl hx hb_ dX9_judge_49 ?_
          refine lv_ior hx hb_ dX9_judge_50 ?_
          obtain ⟨x6, hx6, h⟩ := nm_inv h
          refine w_ni hx6 ?_
          refine lv_istore_n (lv' := [(1, .int x6), (0, .ref (ad 0)), (2, .int v2_9)]) hx hb_ dX9_judge_51 rfl hl (by decide) rfl (fun ls hl => ?_)
          obtain ⟨x7, hx7, h⟩ := nm_inv h
          refine lv_iinc (v := x7) (lv' := [(2, .int x7), (1, .int x6), (0, .ref (ad 0))]) hx hb_ dX9_judge_52 hl (k := 2) rfl (by rw [hx7]; rfl) (by decide) rfl (fun ls hl => ?_)
          refine lv_goto (tgt := 9) hx hb_ dX9_judge_55 (by decide) ?_
          obtain rfl := Option.some.inj h
          obtain ⟨y2, h, hK⟩ := hK
          exact ih_9 x6 x7 y2 h hK _ _ _ hP (lv_sub hl [2, 1, 0] rfl)
        · replace h := ift h hc
          refine lv_iload_n hx hb_ dX9_judge_31 rfl (lv_at hl 2 rfl) ?_
          obtain rfl := Option.some.inj h
          have hK : (v2_9 : Int32) = r0 := hK
          exact w_iret C hlk hr hP hK rfl dX9_judge_32
  have bk_9 : ∀ (v1_9 : Int32) (v2_9 : Int32) (y : Int32), f_X9_judge_9 v1_9 v2_9 σ = some y → (fun y => y = r0) y → ∀ (H : Heap) (locs : List Loc) (ls : Array Slot), HS D aI aL 8 shM ad σ s H locs → lv_has ls 3 [(0, .ref (ad 0)), (1, .int v1_9), (2, .int v2_9)] → W p l e (RM 2 43) s m args below meth c H locs 0 0 (MQ below (Qi D aI aL 8 shM ad r0 σ s.heap.size) args s 0 0 (AA ad 8 s.heap.size)) (F0 m 9 ls []) := fun v1_9 v2_9 y h hK => lp_9 3000 v1_9 v2_9 y h hK
  have bk : ∀ (y : Int32), f_X9_judge σ = some y → y = r0 → ∀ (H : Heap) (locs : List Loc), HS D aI aL 8 shM ad σ s H locs → W p l e (RM 2 43) s m args below meth c H locs 0 0 (MQ below (Qi D aI aL 8 shM ad r0 σ s.heap.size) args s 0 0 (AA ad 8 s.heap.size)) (F0 m 0 ls []) := by
    intro y h hK H locs hP
    unfold f_X9_judge at h
    refine lv_aload_n hx hb_ dX9_judge_0 rfl (lv_at hl 0 rfl) ?_
    refine w_get C hP (k := 0) (by decide) 7 rfl rfl inWX9 0 (by decide) wt784 (v := .ref (ad 1)) rfl dX9_judge_1 ?_
    refine lv_iconst (v := 3) hx hb_ dX9_judge_4 (by decide) ?_
    obtain ⟨x1, hx1, h⟩ := bnd h
    refine w_ald C hP (k := 1) (by decide) (n := 660) rfl hx1 dX9_judge_5 ?_
    refine lv_istore_n (lv' := [(1, .int x1), (0, .ref (ad 0))]) hx hb_ dX9_judge_6 rfl hl (by decide) rfl (fun ls hl => ?_)
    refine lv_iconst (v := 0) hx hb_ dX9_judge_7 (by decide) ?_
    refine lv_istore_n (lv' := [(2, .int 0), (1, .int x1), (0, .ref (ad 0))]) hx hb_ dX9_judge_8 rfl hl (by decide) rfl (fun ls hl => ?_)
    exact bk_9 x1 0 y h hK _ _ _ hP (lv_sub hl [2, 1, 0] rfl)
  exact bk r0 hf rfl _ _ hP
theorem hd_X9_year : yX9_year.cls = RX9 ∧ yX9_year.cls ≠ "java/lang/invoke/MethodHandle" ∧ yX9_year.cls ≠ "java/lang/invoke/VarHandle" ∧ (parseMethodDescriptor yX9_year.desc).map (fun d => d.parameters.length) = some 3 := by decide +kernel
set_option maxHeartbeats 4000000 in
set_option maxRecDepth 100000 in
theorem c_X9_year (l : Launch) (D : va_G) (aI aL : ClassId) (ad : Nat → Nat) (inj : Inj ad 8) (sz : Nat) (σ : Sg) (v1 : Int32) (v2 : Int32) (v3 : Int32) (r0 : Int32) (hf : f_X9_year v1 v2 v3 σ = some r0) : Met l yX9_year (wS yX9_year cX9_year 10 (some .int)) (RM 2 43) (Pw D aI aL 8 shM ad sz σ [.ref (ad 0), .int v1, .int v2, .int v3]) (Qi D aI aL 8 shM ad r0 σ sz) 0 0 (AA ad 8 sz) := by
  refine Mof (Qc := Qi D aI aL 8 shM ad r0 σ) (by decide) inj (Nat.le_of_ble_eq_true rfl) ?_
  intro p e s m args below meth c ls C hlk hr hP hl
  have hx := C.1.1
  have hb_ := C.1.2.1
  have hown := C.1.2.2.2.1
  have hts := C.1.2.2.2.2
  have hl : lv_has ls 10 [(0, .ref (ad 0)), (1, .int v1), (2, .int v2), (3, .int v3)] := hl
  have bk_34 : ∀ (y : Int32), f_X9_year_34 σ = some y → (fun y => y = r0) y → ∀ (H : Heap) (locs : List Loc) (ls : Array Slot), HS D aI aL 8 shM ad σ s H locs → lv_has ls 10 [] → W p l e (RM 2 43) s m args below meth c H locs 0 0 (MQ below (Qi D aI aL 8 shM ad r0 σ s.heap.size) args s 0 0 (AA ad 8 s.heap.size)) (F0 m 34 ls []) := by
    intro y h hK H locs ls hP hl
    unfold f_X9_year_34 at h
    refine lv_iconst (v := (-1)) hx hb_ dX9_year_34 (by decide) ?_
    obtain rfl := Option.some.inj h
    have hK : ((-1) : Int32) = r0 := hK
    exact w_iret C hlk hr hP hK rfl dX9_year_35
  have bk_142 : ∀ (t0_142 : Int32) (y : Int32), f_X9_year_142 t0_142 σ = some y → (fun y => y = r0) y → ∀ (H : Heap) (locs : List Loc) (ls : Array Slot), HS D aI aL 8 shM ad σ s H locs → lv_has ls 10 [] → W p l e (RM 2 43) s m args below meth c H locs 0 0 (MQ below (Qi D aI aL 8 shM ad r0 σ s.heap.size) args s 0 0 (AA ad 8 s.heap.size)) (F0 m 142 ls [.int t0_142]) := by
    intro t0_142 y h hK H locs ls hP hl
    unfold f_X9_year_142 at h
    obtain rfl := Option.some.inj h
    have hK : (t0_142 : Int32) = r0 := hK
    exact w_iret C hlk hr hP hK rfl dX9_year_142
  have lp_50 : ∀ (n_50 : Nat) (v4_50 : Int32) (v5_50 : Int32) (v6_50 : Int32) (y : Int32), itr n_50 (fun s => f_X9_year_50s v1 v2 v3 s.1 s.2.1 s.2.2 σ) (v4_50, v5_50, v6_50) = some y → (fun y => y = r0) y → ∀ (H : Heap) (locs : List Loc) (ls : Array Slot), HS D aI aL 8 shM ad σ s H locs → lv_has ls 10 [(0, .ref (ad 0)), (1, .int v1), (2, .int v2), (3, .int v3), (4, .int v4_50), (5, .int v5_50), (6, .int v6_50)] → W p l e (RM 2 43) s m args below meth c H locs 0 0 (MQ below (Qi D aI aL 8 shM ad r0 σ s.heap.size) args s 0 0 (AA ad 8 s.heap.size)) (F0 m 50 ls []) := by
    intro n_50
    induction n_50 with
    | zero =>
      intro v4_50 v5_50 v6_50 y h hK
      cases (show (none : Option Int32) = some y from h)
    | succ n_50 ih_50 =>
      have bk_125 : ∀ (v4_125 : Int32) (v5_125 : Int32) (v6_125 : Int32) (y : ((Int32 × Int32 × Int32) ⊕ Int32)), f_X9_year_125 v1 v2 v3 v4_125 v5_125 v6_125 σ = some y → (KK n_50 (fun s => f_X9_year_50s v1 v2 v3 s.1 s.2.1 s.2.2 σ) (fun y => y = r0)) y → ∀ (H : Heap) (locs : List Loc) (ls : Array Slot), HS D aI aL 8 shM ad σ s H locs → lv_has ls 10 [(0, .ref (ad 0)), (1, .int v1), (2, .int v2), (3, .int v3), (4, .int v4_125), (5, .int v5_125), (6, .int v6_125)] → W p l e (RM 2 43) s m args below meth c H locs 0 0 (MQ below (Qi D aI aL 8 shM ad r0 σ s.heap.size) args s 0 0 (AA ad 8 s.heap.size)) (F0 m 125 ls []) := by
        intro v4_125 v5_125 v6_125 y h hK H locs ls hP hl
        unfold f_X9_year_125 at h
        obtain ⟨x11, hx11, h⟩ := nm_inv h
        refine lv_iinc (v := x11) (lv' := [(6, .int x11), (0, .ref (ad 0)), (1, .int v1), (2, .int v2), (3, .int v3), (4, .int v4_125), (5, .int v5_125)]) hx hb_ dX9_year_125 hl (k := 6) rfl (by rw [hx11]; rfl) (by decide) rfl (fun ls hl => ?_)
        refine lv_goto (tgt := 50) hx hb_ dX9_year_128 (by decide) ?_
        obtain rfl := Option.some.inj h
        obtain ⟨y2, h, hK⟩ := hK
        exact ih_50 v4_125 v5_125 x11 y2 h hK _ _ _ hP (lv_sub hl [1, 2, 3, 4, 5, 6, 0] rfl)
      intro v4_50 v5_50 v6_50 y h hK H locs ls hP hl
      obtain ⟨y, h, hK⟩ := itr_inv (K := (fun y => y = r0)) h hK
      replace h : f_X9_year_50s v1 v2 v3 v4_50 v5_50 v6_50 σ = some y := h
      unfold f_X9_year_50s at h
      refine lv_iload hx hb_ dX9_year_50 (lv_at hl 6 rfl) ?_
      refine lv_iload_n hx hb_ dX9_year_52 rfl (lv_at hl 2 rfl) ?_
      refine lv_icmp_ge (tgt := 131) hx hb_ dX9_year_53 (by decide) (fun hc => ?_) (fun hc => ?_)
      · replace h := ift h hc
        refine lv_iload_n hx hb_ dX9_year_131 rfl (lv_at hl 3 rfl) ?_
        refine lv_if_ne (tgt := 140) hx hb_ dX9_year_132 (by decide) (fun hc => ?_) (fun hc => ?_)
        · replace h := iff' h hc
          refine lv_iload hx hb_ dX9_year_140 (lv_at hl 4 rfl) ?_
          obtain ⟨y2, h2, rfl⟩ := mapi h
          exact bk_142 v4_50 y2 h2 hK _ _ _ hP (lv_sub hl [] rfl)
        · replace h := ift h hc
          refine lv_iload hx hb_ dX9_year_135 (lv_at hl 5 rfl) ?_
          refine lv_goto (tgt := 142) hx hb_ dX9_year_137 (by decide) ?_
          obtain ⟨y2, h2, rfl⟩ := mapi h
          exact bk_142 v5_50 y2 h2 hK _ _ _ hP (lv_sub hl [] rfl)
      · replace h := iff' h hc
        refine lv_ldc2 hx hb_ hown (hts _ wt1044) dX9_year_56 ?_
        refine lv_iload_n hx hb_ dX9_year_59 rfl (lv_at hl 1 rfl) ?_
        refine lv_i2l hx hb_ dX9_year_60 rfl ?_
        refine lv_lmul hx hb_ dX9_year_61 ?_
        refine lv_ldc2 hx hb_ hown (hts _ wt1045) dX9_year_62 ?_
        refine lv_iload hx hb_ dX9_year_65 (lv_at hl 6 rfl) ?_
        refine lv_i2l hx hb_ dX9_year_67 rfl ?_
        refine lv_lmul hx hb_ dX9_year_68 ?_
        refine lv_ladd hx hb_ dX9_year_69 ?_
        refine lv_lconst (v := 1) hx hb_ dX9_year_70 (by decide) ?_
        refine lv_ladd hx hb_ dX9_year_71 ?_
        obtain ⟨x5, hx5, h⟩ := nm_inv h
        refine w_nl hx5 ?_
        refine lv_lstore (lv' := [(7, .long x5), (0, .ref (ad 0)), (1, .int v1), (2, .int v2), (3, .int v3), (4, .int v4_50), (5, .int v5_50), (6, .int v6_50)]) hx hb_ dX9_year_72 hl (by decide) rfl (fun ls hl => ?_)
        refine lv_lload hx hb_ dX9_year_74 (lv_at hl 0 rfl) ?_
        refine lv_lload hx hb_ dX9_year_76 (lv_at hl 0 rfl) ?_
        refine lv_lmul hx hb_ dX9_year_78 ?_
        refine lv_ldc2 hx hb_ hown (hts _ wt1046) dX9_year_79 ?_
        obtain ⟨x6, hx6, h⟩ := bnd h
        refine w_lrm C hx6 dX9_year_82 ?_
        refine lv_aload_n hx hb_ dX9_year_83 rfl (lv_at hl 1 rfl) ?_
        refine w_get C hP (k := 0) (by decide) 7 rfl rfl inWX9 0 (by decide) wt784 (v := .ref (ad 1)) rfl dX9_year_84 ?_
        refine lv_iconst (v := 4) hx hb_ dX9_year_87 (by decide) ?_
        obtain ⟨x7, hx7, h⟩ := bnd h
        refine w_ald C hP (k := 1) (by decide) (n := 660) rfl hx7 dX9_year_88 ?_
        refine lv_i2l hx hb_ dX9_year_89 rfl ?_
        obtain ⟨x8, hx8, h⟩ := bnd h
        refine w_lrm C hx8 dX9_year_90 ?_
        refine lv_l2i hx hb_ dX9_year_91 rfl ?_
        obtain ⟨x9, hx9, h⟩ := nm_inv h
        refine w_ni hx9 ?_
        refine lv_istore (lv' := [(9, .int x9), (7, .long x5), (0, .ref (ad 0)), (1, .int v1), (2, .int v2), (3, .int v3), (4, .int v4_50), (5, .int v5_50), (6, .int v6_50)]) hx hb_ dX9_year_92 hl (by decide) rfl (fun ls hl => ?_)
        refine lv_aload_n hx hb_ dX9_year_94 rfl (lv_at hl 2 rfl) ?_
        refine lv_iload hx hb_ dX9_year_95 (lv_at hl 6 rfl) ?_
        refine lv_iload hx hb_ dX9_year_97 (lv_at hl 0 rfl) ?_
        obtain ⟨q10, hq10, h⟩ := bnd h
        refine w_ci (w_rV (As := [.int v4_50, .int x9]) (rest := []) C hP (k := 0) (c_X9_mayFrom l D aI aL ad inj _ σ v4_50 x9 q10 hq10) (gV wt952 wt954 wp31 wt12 wt955) 2 hd_X9_mayFrom ⟨Nat.le_of_ble_eq_true rfl, Nat.le_of_ble_eq_true rfl⟩ (by decide) 7 rfl rfl rfl hl.1 rfl (Nat.le_of_ble_eq_true rfl) dX9_year_99) hP (fun H locs hP => ?_)
        refine lv_if_eq (tgt := 125) hx hb_ dX9_year_102 (by decide) (fun hc => ?_) (fun hc => ?_)
        · replace h := ift h hc
          exact bk_125 v4_50 v5_50 v6_50 y h hK _ _ _ hP (lv_sub hl [2, 3, 4, 5, 6, 7, 8] rfl)
        · replace h := iff' h hc
          refine lv_iload hx hb_ dX9_year_105 (lv_at hl 6 rfl) ?_
          refine lv_iconst (v := 1) hx hb_ dX9_year_107 (by decide) ?_
          refine lv_aload_n hx hb_ dX9_year_108 rfl (lv_at hl 2 rfl) ?_
          refine w_get C hP (k := 0) (by decide) 7 rfl rfl inWX9 0 (by decide) wt784 (v := .ref (ad 1)) rfl dX9_year_109 ?_
          refine lv_bipush (v := 25) hx hb_ dX9_year_112 (by decide) ?_
          refine lv_iload hx hb_ dX9_year_114 (lv_at hl 0 rfl) ?_
          refine lv_iadd hx hb_ dX9_year_116 ?_
          obtain ⟨x12, hx12, h⟩ := bnd h
          refine w_ald C hP (k := 1) (by decide) (n := 660) rfl hx12 dX9_year_117 ?_
          refine lv_ishl hx hb_ dX9_year_118 ?_
          refine lv_ior hx hb_ dX9_year_119 ?_
          obtain ⟨x13, hx13, h⟩ := nm_inv h
          refine w_ni hx13 ?_
          refine lv_istore (lv' := [(4, .int x13), (9, .int x9), (7, .long x5), (0, .ref (ad 0)), (1, .int v1), (2, .int v2), (3, .int v3), (5, .int v5_50), (6, .int v6_50)]) hx hb_ dX9_year_120 hl (by decide) rfl (fun ls hl => ?_)
          obtain ⟨x14, hx14, h⟩ := nm_inv h
          refine lv_iinc (v := x14) (lv' := [(5, .int x14), (4, .int x13), (9, .int x9), (7, .long x5), (0, .ref (ad 0)), (1, .int v1), (2, .int v2), (3, .int v3), (6, .int v6_50)]) hx hb_ dX9_year_122 hl (k := 7) rfl (by rw [hx14]; rfl) (by decide) rfl (fun ls hl => ?_)
          exact bk_125 x13 x14 v6_50 y h hK _ _ _ hP (lv_sub hl [4, 5, 6, 7, 1, 0, 8] rfl)
  have bk_50 : ∀ (v4_50 : Int32) (v5_50 : Int32) (v6_50 : Int32) (y : Int32), f_X9_year_50 v1 v2 v3 v4_50 v5_50 v6_50 σ = some y → (fun y => y = r0) y → ∀ (H : Heap) (locs : List Loc) (ls : Array Slot), HS D aI aL 8 shM ad σ s H locs → lv_has ls 10 [(0, .ref (ad 0)), (1, .int v1), (2, .int v2), (3, .int v3), (4, .int v4_50), (5, .int v5_50), (6, .int v6_50)] → W p l e (RM 2 43) s m args below meth c H locs 0 0 (MQ below (Qi D aI aL 8 shM ad r0 σ s.heap.size) args s 0 0 (AA ad 8 s.heap.size)) (F0 m 50 ls []) := fun v4_50 v5_50 v6_50 y h hK => lp_50 3000 v4_50 v5_50 v6_50 y h hK
  have bk : ∀ (y : Int32), f_X9_year v1 v2 v3 σ = some y → y = r0 → ∀ (H : Heap) (locs : List Loc), HS D aI aL 8 shM ad σ s H locs → W p l e (RM 2 43) s m args below meth c H locs 0 0 (MQ below (Qi D aI aL 8 shM ad r0 σ s.heap.size) args s 0 0 (AA ad 8 s.heap.size)) (F0 m 0 ls []) := by
    intro y h hK H locs hP
    unfold f_X9_year at h
    refine lv_iload_n hx hb_ dX9_year_0 rfl (lv_at hl 1 rfl) ?_
    refine lv_i2l hx hb_ dX9_year_1 rfl ?_
    refine lv_lconst (v := 0) hx hb_ dX9_year_2 (by decide) ?_
    refine lv_ldc2 hx hb_ hown (hts _ wt1042) dX9_year_3 ?_
    obtain ⟨q1, hq1, h⟩ := bnd h
    refine w_ci (w_rS (As := [.long ((v1 : Int32).toInt64), .long 0, .long 9999]) (rest := []) C hP (c_X9_in l D aI aL ad inj _ σ ((v1 : Int32).toInt64) 0 9999 q1 hq1) wt830 wt831 wt12 wt832 3 hd_X9_in ⟨Nat.le_of_ble_eq_true rfl, Nat.le_of_ble_eq_true rfl⟩ rfl hl.1 rfl (Nat.le_of_ble_eq_true rfl) dX9_year_6) hP (fun H locs hP => ?_)
    refine lv_if_eq (tgt := 34) hx hb_ dX9_year_9 (by decide) (fun hc => ?_) (fun hc => ?_)
    · replace h := ift h hc
      exact bk_34 y h hK _ _ _ hP (lv_sub hl [] rfl)
    · replace h := iff' h hc
      refine lv_iload_n hx hb_ dX9_year_12 rfl (lv_at hl 2 rfl) ?_
      refine lv_i2l hx hb_ dX9_year_13 rfl ?_
      refine lv_lconst (v := 1) hx hb_ dX9_year_14 (by decide) ?_
      refine lv_ldc2 hx hb_ hown (hts _ wt1043) dX9_year_15 ?_
      obtain ⟨q2, hq2, h⟩ := bnd h
      refine w_ci (w_rS (As := [.long ((v2 : Int32).toInt64), .long 1, .long 99]) (rest := []) C hP (c_X9_in l D aI aL ad inj _ σ ((v2 : Int32).toInt64) 1 99 q2 hq2) wt830 wt831 wt12 wt832 3 hd_X9_in ⟨Nat.le_of_ble_eq_true rfl, Nat.le_of_ble_eq_true rfl⟩ rfl hl.1 rfl (Nat.le_of_ble_eq_true rfl) dX9_year_18) hP (fun H locs hP => ?_)
      refine lv_if_eq (tgt := 34) hx hb_ dX9_year_21 (by decide) (fun hc => ?_) (fun hc => ?_)
      · replace h := ift h hc
        exact bk_34 y h hK _ _ _ hP (lv_sub hl [] rfl)
      · replace h := iff' h hc
        refine lv_iload_n hx hb_ dX9_year_24 rfl (lv_at hl 3 rfl) ?_
        refine lv_i2l hx hb_ dX9_year_25 rfl ?_
        refine lv_lconst (v := 0) hx hb_ dX9_year_26 (by decide) ?_
        refine lv_lconst (v := 1) hx hb_ dX9_year_27 (by decide) ?_
        obtain ⟨q3, hq3, h⟩ := bnd h
        refine w_ci (w_rS (As := [.long ((v3 : Int32).toInt64), .long 0, .long 1]) (rest := []) C hP (c_X9_in l D aI aL ad inj _ σ ((v3 : Int32).toInt64) 0 1 q3 hq3) wt830 wt831 wt12 wt832 3 hd_X9_in ⟨Nat.le_of_ble_eq_true rfl, Nat.le_of_ble_eq_true rfl⟩ rfl hl.1 rfl (Nat.le_of_ble_eq_true rfl) dX9_year_28) hP (fun H locs hP => ?_)
        refine lv_if_ne (tgt := 36) hx hb_ dX9_year_31 (by decide) (fun hc => ?_) (fun hc => ?_)
        · replace h := iff' h hc
          refine lv_aload_n hx hb_ dX9_year_36 rfl (lv_at hl 0 rfl) ?_
          refine w_get C hP (k := 0) (by decide) 7 rfl rfl inWX9 0 (by decide) wt784 (v := .ref (ad 1)) rfl dX9_year_37 ?_
          refine lv_iconst (v := 3) hx hb_ dX9_year_40 (by decide) ?_
          obtain ⟨x4, hx4, h⟩ := bnd h
          refine w_ald C hP (k := 1) (by decide) (n := 660) rfl hx4 dX9_year_41 ?_
          refine lv_istore (lv' := [(4, .int x4), (0, .ref (ad 0)), (1, .int v1), (2, .int v2), (3, .int v3)]) hx hb_ dX9_year_42 hl (by decide) rfl (fun ls hl => ?_)
          refine lv_iconst (v := 0) hx hb_ dX9_year_44 (by decide) ?_
          refine lv_istore (lv' := [(5, .int 0), (4, .int x4), (0, .ref (ad 0)), (1, .int v1), (2, .int v2), (3, .int v3)]) hx hb_ dX9_year_45 hl (by decide) rfl (fun ls hl => ?_)
          refine lv_iconst (v := 0) hx hb_ dX9_year_47 (by decide) ?_
          refine lv_istore (lv' := [(6, .int 0), (5, .int 0), (4, .int x4), (0, .ref (ad 0)), (1, .int v1), (2, .int v2), (3, .int v3)]) hx hb_ dX9_year_48 hl (by decide) rfl (fun ls hl => ?_)
          exact bk_50 x4 0 0 y h hK _ _ _ hP (lv_sub hl [3, 4, 5, 6, 2, 1, 0] rfl)
        · replace h := ift h hc
          exact bk_34 y h hK _ _ _ hP (lv_sub hl [] rfl)
  exact bk r0 hf rfl _ _ hP
theorem hd_X9_keep : yX9_keep.cls = RX9 ∧ yX9_keep.cls ≠ "java/lang/invoke/MethodHandle" ∧ yX9_keep.cls ≠ "java/lang/invoke/VarHandle" ∧ (parseMethodDescriptor yX9_keep.desc).map (fun d => d.parameters.length) = some 0 := by decide +kernel
set_option maxHeartbeats 4000000 in
set_option maxRecDepth 100000 in
theorem c_X9_keep (l : Launch) (D : va_G) (aI aL : ClassId) (ad : Nat → Nat) (inj : Inj ad 8) (sz : Nat) (σ : Sg) (r0 : (Int32 × Sg)) (hf : f_X9_keep σ = some r0) : Met l yX9_keep (wS yX9_keep cX9_keep 1 (some .int)) (RM 1 23) (Pw D aI aL 8 shM ad sz σ [.ref (ad 0)]) (Qi D aI aL 8 shM ad r0.1 r0.2 sz) 0 0 (AA ad 8 sz) := by
  refine Mof (Qc := Qi D aI aL 8 shM ad r0.1 r0.2) (by decide) inj (Nat.le_of_ble_eq_true rfl) ?_
  intro p e s m args below meth c ls C hlk hr hP hl
  have hx := C.1.1
  have hb_ := C.1.2.1
  have hown := C.1.2.2.2.1
  have hts := C.1.2.2.2.2
  have hl : lv_has ls 1 [(0, .ref (ad 0))] := hl
  have bk : ∀ (y : (Int32 × Sg)), f_X9_keep σ = some y → y = r0 → ∀ (H : Heap) (locs : List Loc), HS D aI aL 8 shM ad σ s H locs → W p l e (RM 1 23) s m args below meth c H locs 0 0 (MQ below (Qi D aI aL 8 shM ad r0.1 r0.2 s.heap.size) args s 0 0 (AA ad 8 s.heap.size)) (F0 m 0 ls []) := by
    intro y h hK H locs hP
    unfold f_X9_keep at h
    refine lv_aload_n hx hb_ dX9_keep_0 rfl (lv_at hl 0 rfl) ?_
    refine w_get C hP (k := 0) (by decide) 7 rfl rfl inWX9 1 (by decide) wt785 (v := .int (σ.1 0 1)) rfl dX9_keep_1 ?_
    refine lv_iconst (v := 2) hx hb_ dX9_keep_4 (by decide) ?_
    refine lv_icmp_ne (tgt := 11) hx hb_ dX9_keep_5 (by decide) (fun hc => ?_) (fun hc => ?_)
    · replace h := iff' h hc
      refine lv_aload_n hx hb_ dX9_keep_11 rfl (lv_at hl 0 rfl) ?_
      refine lv_iconst (v := 0) hx hb_ dX9_keep_12 (by decide) ?_
      refine lv_bipush (v := 55) hx hb_ dX9_keep_13 (by decide) ?_
      refine lv_bipush (v := 55) hx hb_ dX9_keep_15 (by decide) ?_
      refine lv_aload_n hx hb_ dX9_keep_17 rfl (lv_at hl 0 rfl) ?_
      refine w_get C hP (k := 0) (by decide) 7 rfl rfl inWX9 1 (by decide) wt785 (v := .int (σ.1 0 1)) rfl dX9_keep_18 ?_
      refine lv_imul hx hb_ dX9_keep_21 ?_
      refine lv_iadd hx hb_ dX9_keep_22 ?_
      obtain ⟨q1, hq1, h⟩ := bnd h
      refine w_cv (w_rV (As := [.int 0, .int ((55 : Int32) + ((55 : Int32) * (σ.1 0 1)))]) (rest := []) C hP (k := 0) (c_X9_copy l D aI aL ad inj _ σ 0 ((55 : Int32) + ((55 : Int32) * (σ.1 0 1))) q1 hq1) (gV wt870 wt872 wp21 wt12 wt873) 2 hd_X9_copy ⟨Nat.le_of_ble_eq_true rfl, Nat.le_of_ble_eq_true rfl⟩ (by decide) 7 rfl rfl rfl hl.1 rfl (Nat.le_of_ble_eq_true rfl) dX9_keep_23) hP (fun H locs hP => ?_)
      refine lv_aload_n hx hb_ dX9_keep_26 rfl (lv_at hl 0 rfl) ?_
      refine lv_dup hx hb_ dX9_keep_27 rfl ?_
      refine w_get C hP (k := 0) (by decide) 7 rfl rfl inWX9 1 (by decide) wt785 (v := .int (q1.1 0 1)) rfl dX9_keep_28 ?_
      refine lv_iconst (v := 1) hx hb_ dX9_keep_31 (by decide) ?_
      refine lv_iadd hx hb_ dX9_keep_32 ?_
      obtain ⟨s2, hs2, h⟩ := bnd h
      refine w_puti C hP (k := 0) (by decide) 7 rfl rfl inWX9 tyX9 tyX9_ok nmX9 1 (by decide) wt785 rfl rfl rfl rfl hs2 dX9_keep_33 (fun H locs hP => ?_)
      refine lv_aload_n hx hb_ dX9_keep_36 rfl (lv_at hl 0 rfl) ?_
      refine w_get C hP (k := 0) (by decide) 7 rfl rfl inWX9 1 (by decide) wt785 (v := .int (s2.1 0 1)) rfl dX9_keep_37 ?_
      obtain rfl := Option.some.inj h
      have hK : ((s2.1 0 1), s2) = r0 := hK
      have hK1 := congrArg Prod.fst hK
      have hK2 := congrArg Prod.snd hK
      exact w_iret C hlk hr hP hK1 hK2 dX9_keep_40
    · replace h := ift h hc
      refine lv_bipush (v := (-3)) hx hb_ dX9_keep_8 (by decide) ?_
      obtain rfl := Option.some.inj h
      have hK : ((-3), σ) = r0 := hK
      have hK1 := congrArg Prod.fst hK
      have hK2 := congrArg Prod.snd hK
      exact w_iret C hlk hr hP hK1 hK2 dX9_keep_10
  exact bk r0 hf rfl _ _ hP
theorem hd_X9_back : yX9_back.cls = RX9 ∧ yX9_back.cls ≠ "java/lang/invoke/MethodHandle" ∧ yX9_back.cls ≠ "java/lang/invoke/VarHandle" ∧ (parseMethodDescriptor yX9_back.desc).map (fun d => d.parameters.length) = some 0 := by decide +kernel
set_option maxHeartbeats 4000000 in
set_option maxRecDepth 100000 in
theorem c_X9_back (l : Launch) (D : va_G) (aI aL : ClassId) (ad : Nat → Nat) (inj : Inj ad 8) (sz : Nat) (σ : Sg) (r0 : (Int32 × Sg)) (hf : f_X9_back σ = some r0) : Met l yX9_back (wS yX9_back cX9_back 1 (some .int)) (RM 1 23) (Pw D aI aL 8 shM ad sz σ [.ref (ad 0)]) (Qi D aI aL 8 shM ad r0.1 r0.2 sz) 0 0 (AA ad 8 sz) := by
  refine Mof (Qc := Qi D aI aL 8 shM ad r0.1 r0.2) (by decide) inj (Nat.le_of_ble_eq_true rfl) ?_
  intro p e s m args below meth c ls C hlk hr hP hl
  have hx := C.1.1
  have hb_ := C.1.2.1
  have hown := C.1.2.2.2.1
  have hts := C.1.2.2.2.2
  have hl : lv_has ls 1 [(0, .ref (ad 0))] := hl
  have bk : ∀ (y : (Int32 × Sg)), f_X9_back σ = some y → y = r0 → ∀ (H : Heap) (locs : List Loc), HS D aI aL 8 shM ad σ s H locs → W p l e (RM 1 23) s m args below meth c H locs 0 0 (MQ below (Qi D aI aL 8 shM ad r0.1 r0.2 s.heap.size) args s 0 0 (AA ad 8 s.heap.size)) (F0 m 0 ls []) := by
    intro y h hK H locs hP
    unfold f_X9_back at h
    refine lv_aload_n hx hb_ dX9_back_0 rfl (lv_at hl 0 rfl) ?_
    refine w_get C hP (k := 0) (by decide) 7 rfl rfl inWX9 1 (by decide) wt785 (v := .int (σ.1 0 1)) rfl dX9_back_1 ?_
    refine lv_if_ne (tgt := 10) hx hb_ dX9_back_4 (by decide) (fun hc => ?_) (fun hc => ?_)
    · replace h := iff' h hc
      refine lv_aload_n hx hb_ dX9_back_10 rfl (lv_at hl 0 rfl) ?_
      refine lv_dup hx hb_ dX9_back_11 rfl ?_
      refine w_get C hP (k := 0) (by decide) 7 rfl rfl inWX9 1 (by decide) wt785 (v := .int (σ.1 0 1)) rfl dX9_back_12 ?_
      refine lv_iconst (v := 1) hx hb_ dX9_back_15 (by decide) ?_
      refine lv_isub hx hb_ dX9_back_16 ?_
      obtain ⟨s1, hs1, h⟩ := bnd h
      refine w_puti C hP (k := 0) (by decide) 7 rfl rfl inWX9 tyX9 tyX9_ok nmX9 1 (by decide) wt785 rfl rfl rfl rfl hs1 dX9_back_17 (fun H locs hP => ?_)
      refine lv_aload_n hx hb_ dX9_back_20 rfl (lv_at hl 0 rfl) ?_
      refine lv_bipush (v := 55) hx hb_ dX9_back_21 (by decide) ?_
      refine lv_bipush (v := 55) hx hb_ dX9_back_23 (by decide) ?_
      refine lv_aload_n hx hb_ dX9_back_25 rfl (lv_at hl 0 rfl) ?_
      refine w_get C hP (k := 0) (by decide) 7 rfl rfl inWX9 1 (by decide) wt785 (v := .int (s1.1 0 1)) rfl dX9_back_26 ?_
      refine lv_imul hx hb_ dX9_back_29 ?_
      refine lv_iadd hx hb_ dX9_back_30 ?_
      refine lv_iconst (v := 0) hx hb_ dX9_back_31 (by decide) ?_
      obtain ⟨q2, hq2, h⟩ := bnd h
      refine w_cv (w_rV (As := [.int ((55 : Int32) + ((55 : Int32) * (s1.1 0 1))), .int 0]) (rest := []) C hP (k := 0) (c_X9_copy l D aI aL ad inj _ s1 ((55 : Int32) + ((55 : Int32) * (s1.1 0 1))) 0 q2 hq2) (gV wt870 wt872 wp21 wt12 wt873) 2 hd_X9_copy ⟨Nat.le_of_ble_eq_true rfl, Nat.le_of_ble_eq_true rfl⟩ (by decide) 7 rfl rfl rfl hl.1 rfl (Nat.le_of_ble_eq_true rfl) dX9_back_32) hP (fun H locs hP => ?_)
      refine lv_aload_n hx hb_ dX9_back_35 rfl (lv_at hl 0 rfl) ?_
      refine lv_iconst (v := 0) hx hb_ dX9_back_36 (by decide) ?_
      obtain ⟨s3, hs3, h⟩ := bnd h
      refine w_puti C hP (k := 0) (by decide) 7 rfl rfl inWX9 tyX9 tyX9_ok nmX9 6 (by decide) wt790 rfl rfl rfl rfl hs3 dX9_back_37 (fun H locs hP => ?_)
      refine lv_aload_n hx hb_ dX9_back_40 rfl (lv_at hl 0 rfl) ?_
      refine lv_iconst (v := 0) hx hb_ dX9_back_41 (by decide) ?_
      obtain ⟨s4, hs4, h⟩ := bnd h
      refine w_puti C hP (k := 0) (by decide) 7 rfl rfl inWX9 tyX9 tyX9_ok nmX9 2 (by decide) wt786 rfl rfl rfl rfl hs4 dX9_back_42 (fun H locs hP => ?_)
      refine lv_aload_n hx hb_ dX9_back_45 rfl (lv_at hl 0 rfl) ?_
      refine w_get C hP (k := 0) (by decide) 7 rfl rfl inWX9 1 (by decide) wt785 (v := .int (s4.1 0 1)) rfl dX9_back_46 ?_
      obtain rfl := Option.some.inj h
      have hK : ((s4.1 0 1), s4) = r0 := hK
      have hK1 := congrArg Prod.fst hK
      have hK2 := congrArg Prod.snd hK
      exact w_iret C hlk hr hP hK1 hK2 dX9_back_49
    · replace h := ift h hc
      refine lv_bipush (v := (-2)) hx hb_ dX9_back_7 (by decide) ?_
      obtain rfl := Option.some.inj h
      have hK : ((-2), σ) = r0 := hK
      have hK1 := congrArg Prod.fst hK
      have hK2 := congrArg Prod.snd hK
      exact w_iret C hlk hr hP hK1 hK2 dX9_back_9
  exact bk r0 hf rfl _ _ hP
theorem hd_X9_count : yX9_count.cls = RX9 ∧ yX9_count.cls ≠ "java/lang/invoke/MethodHandle" ∧ yX9_count.cls ≠ "java/lang/invoke/VarHandle" ∧ (parseMethodDescriptor yX9_count.desc).map (fun d => d.parameters.length) = some 1 := by decide +kernel
set_option maxHeartbeats 4000000 in
set_option maxRecDepth 100000 in
theorem c_X9_count (l : Launch) (D : va_G) (aI aL : ClassId) (ad : Nat → Nat) (inj : Inj ad 8) (sz : Nat) (σ : Sg) (v1 : Int32) (r0 : Int32) (hf : f_X9_count v1 σ = some r0) : Met l yX9_count (wS yX9_count cX9_count 2 (some .int)) (RM 1 22) (Pw D aI aL 8 shM ad sz σ [.ref (ad 0), .int v1]) (Qi D aI aL 8 shM ad r0 σ sz) 0 0 (AA ad 8 sz) := by
  refine Mof (Qc := Qi D aI aL 8 shM ad r0 σ) (by decide) inj (Nat.le_of_ble_eq_true rfl) ?_
  intro p e s m args below meth c ls C hlk hr hP hl
  have hx := C.1.1
  have hb_ := C.1.2.1
  have hown := C.1.2.2.2.1
  have hts := C.1.2.2.2.2
  have hl : lv_has ls 2 [(0, .ref (ad 0)), (1, .int v1)] := hl
  have bk : ∀ (y : Int32), f_X9_count v1 σ = some y → y = r0 → ∀ (H : Heap) (locs : List Loc), HS D aI aL 8 shM ad σ s H locs → W p l e (RM 1 22) s m args below meth c H locs 0 0 (MQ below (Qi D aI aL 8 shM ad r0 σ s.heap.size) args s 0 0 (AA ad 8 s.heap.size)) (F0 m 0 ls []) := by
    intro y h hK H locs hP
    unfold f_X9_count at h
    refine lv_iload_n hx hb_ dX9_count_0 rfl (lv_at hl 1 rfl) ?_
    by_cases hc0 : v1 = 0
    · replace h := ift h hc0
      refine lv_tableIn (off := 47) (tgt := 48) hx hb_ dX9_count_1 (by rw [hc0]; decide +kernel) (by rw [hc0]; decide +kernel) (by rw [hc0]; decide +kernel) (by decide) ?_
      refine lv_aload_n hx hb_ dX9_count_48 rfl (lv_at hl 0 rfl) ?_
      refine w_get C hP (k := 0) (by decide) 7 rfl rfl inWX9 0 (by decide) wt784 (v := .ref (ad 1)) rfl dX9_count_49 ?_
      refine lv_iconst (v := 0) hx hb_ dX9_count_52 (by decide) ?_
      obtain ⟨x1, hx1, h⟩ := bnd h
      refine w_ald C hP (k := 1) (by decide) (n := 660) rfl hx1 dX9_count_53 ?_
      obtain rfl := Option.some.inj h
      have hK : (x1 : Int32) = r0 := hK
      exact w_iret C hlk hr hP hK rfl dX9_count_54
    replace h := iff' h hc0
    by_cases hc1 : v1 = 1
    · replace h := ift h hc1
      refine lv_tableIn (off := 54) (tgt := 55) hx hb_ dX9_count_1 (by rw [hc1]; decide +kernel) (by rw [hc1]; decide +kernel) (by rw [hc1]; decide +kernel) (by decide) ?_
      refine lv_aload_n hx hb_ dX9_count_55 rfl (lv_at hl 0 rfl) ?_
      refine w_get C hP (k := 0) (by decide) 7 rfl rfl inWX9 0 (by decide) wt784 (v := .ref (ad 1)) rfl dX9_count_56 ?_
      refine lv_iconst (v := 4) hx hb_ dX9_count_59 (by decide) ?_
      obtain ⟨x2, hx2, h⟩ := bnd h
      refine w_ald C hP (k := 1) (by decide) (n := 660) rfl hx2 dX9_count_60 ?_
      obtain rfl := Option.some.inj h
      have hK : (x2 : Int32) = r0 := hK
      exact w_iret C hlk hr hP hK rfl dX9_count_61
    replace h := iff' h hc1
    by_cases hc2 : v1 = 2
    · replace h := ift h hc2
      refine lv_tableIn (off := 61) (tgt := 62) hx hb_ dX9_count_1 (by rw [hc2]; decide +kernel) (by rw [hc2]; decide +kernel) (by rw [hc2]; decide +kernel) (by decide) ?_
      refine lv_aload_n hx hb_ dX9_count_62 rfl (lv_at hl 0 rfl) ?_
      refine w_get C hP (k := 0) (by decide) 7 rfl rfl inWX9 0 (by decide) wt784 (v := .ref (ad 1)) rfl dX9_count_63 ?_
      refine lv_iconst (v := 2) hx hb_ dX9_count_66 (by decide) ?_
      obtain ⟨x3, hx3, h⟩ := bnd h
      refine w_ald C hP (k := 1) (by decide) (n := 660) rfl hx3 dX9_count_67 ?_
      obtain ⟨q4, hq4, h⟩ := bnd h
      refine w_ci (w_rS (As := [.int x3]) (rest := []) C hP (c_X9_ones l D aI aL ad inj _ σ x3 q4 hq4) wt907 wt908 wt12 wt909 1 hd_X9_ones ⟨Nat.le_of_ble_eq_true rfl, Nat.le_of_ble_eq_true rfl⟩ rfl hl.1 rfl (Nat.le_of_ble_eq_true rfl) dX9_count_68) hP (fun H locs hP => ?_)
      obtain rfl := Option.some.inj h
      have hK : (q4 : Int32) = r0 := hK
      exact w_iret C hlk hr hP hK rfl dX9_count_71
    replace h := iff' h hc2
    by_cases hc3 : v1 = 3
    · replace h := ift h hc3
      refine lv_tableIn (off := 71) (tgt := 72) hx hb_ dX9_count_1 (by rw [hc3]; decide +kernel) (by rw [hc3]; decide +kernel) (by rw [hc3]; decide +kernel) (by decide) ?_
      refine lv_aload_n hx hb_ dX9_count_72 rfl (lv_at hl 0 rfl) ?_
      refine w_get C hP (k := 0) (by decide) 7 rfl rfl inWX9 0 (by decide) wt784 (v := .ref (ad 1)) rfl dX9_count_73 ?_
      refine lv_iconst (v := 3) hx hb_ dX9_count_76 (by decide) ?_
      obtain ⟨x5, hx5, h⟩ := bnd h
      refine w_ald C hP (k := 1) (by decide) (n := 660) rfl hx5 dX9_count_77 ?_
      obtain ⟨q6, hq6, h⟩ := bnd h
      refine w_ci (w_rS (As := [.int x5]) (rest := []) C hP (c_X9_ones l D aI aL ad inj _ σ x5 q6 hq6) wt907 wt908 wt12 wt909 1 hd_X9_ones ⟨Nat.le_of_ble_eq_true rfl, Nat.le_of_ble_eq_true rfl⟩ rfl hl.1 rfl (Nat.le_of_ble_eq_true rfl) dX9_count_78) hP (fun H locs hP => ?_)
      obtain rfl := Option.some.inj h
      have hK : (q6 : Int32) = r0 := hK
      exact w_iret C hlk hr hP hK rfl dX9_count_81
    replace h := iff' h hc3
    by_cases hc4 : v1 = 4
    · replace h := ift h hc4
      refine lv_tableIn (off := 81) (tgt := 82) hx hb_ dX9_count_1 (by rw [hc4]; decide +kernel) (by rw [hc4]; decide +kernel) (by rw [hc4]; decide +kernel) (by decide) ?_
      refine lv_aload_n hx hb_ dX9_count_82 rfl (lv_at hl 0 rfl) ?_
      refine w_get C hP (k := 0) (by decide) 7 rfl rfl inWX9 6 (by decide) wt790 (v := .int (σ.1 0 6)) rfl dX9_count_83 ?_
      obtain rfl := Option.some.inj h
      have hK : ((σ.1 0 6) : Int32) = r0 := hK
      exact w_iret C hlk hr hP hK rfl dX9_count_86
    replace h := iff' h hc4
    by_cases hc5 : v1 = 5
    · replace h := ift h hc5
      refine lv_tableIn (off := 86) (tgt := 87) hx hb_ dX9_count_1 (by rw [hc5]; decide +kernel) (by rw [hc5]; decide +kernel) (by rw [hc5]; decide +kernel) (by decide) ?_
      refine lv_aload_n hx hb_ dX9_count_87 rfl (lv_at hl 0 rfl) ?_
      refine w_get C hP (k := 0) (by decide) 7 rfl rfl inWX9 2 (by decide) wt786 (v := .int (σ.1 0 2)) rfl dX9_count_88 ?_
      obtain rfl := Option.some.inj h
      have hK : ((σ.1 0 2) : Int32) = r0 := hK
      exact w_iret C hlk hr hP hK rfl dX9_count_91
    replace h := iff' h hc5
    by_cases hc6 : v1 = 6
    · replace h := ift h hc6
      refine lv_tableIn (off := 91) (tgt := 92) hx hb_ dX9_count_1 (by rw [hc6]; decide +kernel) (by rw [hc6]; decide +kernel) (by rw [hc6]; decide +kernel) (by decide) ?_
      refine lv_aload_n hx hb_ dX9_count_92 rfl (lv_at hl 0 rfl) ?_
      refine w_get C hP (k := 0) (by decide) 7 rfl rfl inWX9 1 (by decide) wt785 (v := .int (σ.1 0 1)) rfl dX9_count_93 ?_
      obtain rfl := Option.some.inj h
      have hK : ((σ.1 0 1) : Int32) = r0 := hK
      exact w_iret C hlk hr hP hK rfl dX9_count_96
    replace h := iff' h hc6
    by_cases hc7 : v1 = 7
    · replace h := ift h hc7
      refine lv_tableIn (off := 96) (tgt := 97) hx hb_ dX9_count_1 (by rw [hc7]; decide +kernel) (by rw [hc7]; decide +kernel) (by rw [hc7]; decide +kernel) (by decide) ?_
      refine lv_aload_n hx hb_ dX9_count_97 rfl (lv_at hl 0 rfl) ?_
      refine w_get C hP (k := 0) (by decide) 7 rfl rfl inWX9 4 (by decide) wt788 (v := .int (σ.1 0 4)) rfl dX9_count_98 ?_
      obtain rfl := Option.some.inj h
      have hK : ((σ.1 0 4) : Int32) = r0 := hK
      exact w_iret C hlk hr hP hK rfl dX9_count_101
    replace h := iff' h hc7
    refine lv_tableOut (tgt := 102) hx hb_ dX9_count_1 (tb_out (n := 8) (by decide) (fun j hj => match j, hj with | 0, _ => hc0 | 1, _ => hc1 | 2, _ => hc2 | 3, _ => hc3 | 4, _ => hc4 | 5, _ => hc5 | 6, _ => hc6 | 7, _ => hc7 | j + 8, hj => absurd hj (by omega))) (by decide) ?_
    refine lv_iconst (v := (-1)) hx hb_ dX9_count_102 (by decide) ?_
    obtain rfl := Option.some.inj h
    have hK : ((-1) : Int32) = r0 := hK
    exact w_iret C hlk hr hP hK rfl dX9_count_103
  exact bk r0 hf rfl _ _ hP
