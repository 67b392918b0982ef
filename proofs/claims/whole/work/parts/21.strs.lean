-- the text's signs
def sgL : List Int32 := [110, 52, 59, 97, 48, 59, 97, 49, 59, 116, 48, 44, 49, 44, 50, 59, 116, 50, 44, 50, 44, 51, 59]
def sgB (j : Nat) : Int32 := sgL.getD j 0
theorem sg_c : ∀ j, j < 23 → ((sgB j &&& 255).toUInt32 % 65536).toInt32 = sgB j := by decide +kernel
theorem sg_n : ∀ j, j < 23 → narrow .char (.int (sgB j)) = .int (sgB j) := by decide +kernel
def SEv (aK aV : Nat) (A : Nat → Prop) (U : State) (H : Heap) : Prop :=
  va_Z "java/lang/String" "COMPACT_STRINGS" "Z" (.int 1) A U H ∧ va_Zq "jdk/internal/util/Preconditions" "SIOOBE_FORMATTER" "Ljava/util/function/BiFunction;" A U H ∧ va_O "java/lang/String" aK A U H ∧
  va_OF "java/lang/String" "coder" "B" (.int 0) aK A U H ∧ va_OF "java/lang/String" "value" "[B" (.ref aV) aK A U H ∧ va_T .byte aV 23 (fun j => .int (sgB j)) A U H
theorem SEv.moved {aK aV : Nat} {A : Nat → Prop} {u U : State} {H : Heap} (hv : u.vm.Alike U.vm) (h : SEv aK aV A u H) : SEv aK aV A U H :=
  ⟨h.1.moved hv, h.2.1.moved hv, h.2.2.1.moved hv, h.2.2.2.1.moved hv, h.2.2.2.2.1.moved hv, h.2.2.2.2.2.moved hv⟩
theorem SEv.kept {aK aV : Nat} {A : Nat → Prop} {U : State} {H H1 : Heap} (h : SEv aK aV A U H) (hq : ∀ a : Nat, a < H.size → ¬ A a → H1[a]? = H[a]?) : SEv aK aV A U H1 :=
  ⟨h.1.kept hq, h.2.1.kept hq, h.2.2.1.kept hq, h.2.2.2.1.kept hq, h.2.2.2.2.1.kept hq, h.2.2.2.2.2.kept hq⟩
theorem SEv.narrow {aK aV : Nat} {A B : Nat → Prop} {U : State} {H : Heap} (h : SEv aK aV A U H) (hAB : ∀ q, B q → A q) : SEv aK aV B U H :=
  ⟨h.1.narrow hAB, h.2.1.narrow hAB, h.2.2.1.narrow hAB, h.2.2.2.1.narrow hAB, h.2.2.2.2.1.narrow hAB, h.2.2.2.2.2.narrow hAB⟩
def NoA : Nat → Prop := fun _ => False
def Qj (r0 : Int32) : Array Value → State → Outcome → State → Prop := va_Qi (fun (r : Int32) (_ : Unit) => r = r0) (fun _ _ => True) NoA
def Qjv : Array Value → State → Outcome → State → Prop := va_Qv (fun (_ : Unit) => True) (fun _ _ => True) NoA
def Pj (aK aV : Nat) (av : List Value) : Array Value → State → Prop := va_Pc av (fun U => SEv aK aV NoA U U.heap)
theorem Pj_blind {aK aV : Nat} {av : List Value} : FrameBlind (Pj aK aV av) := fun a U g mk q => ⟨q.1, SEv.moved (u := U) (U := U.calling g mk a) (Vm.Alike.refl U.vm) q.2⟩
theorem MofJ {l : Launch} {y : MethodName} {cc : ByteArray} {mx fr lo : Nat} {ret : Option FieldType} {av : List Value} {B : State → Prop} {Qc : Array Value → State → Outcome → State → Prop} (hy : plainName y.cls = true) (hlen : (lg_sl av).length ≤ mx)
    (body : ∀ (p : Program) (e : Env) (s : State) (m : MethodId) (args : Array Value) (below : List Frame) (meth : Method) (c : Code) (ls : Array Slot), CallFix p m c cc mx s args WA y.cls → meth.locks = false → meth.sig.returnType = ret → B s → lv_has ls mx (lv_args 0 av) →
      W p l e (RM fr lo) s m args below meth c s.heap [] 0 0 (MQ below Qc args s 0 0 NoA) (F0 m 0 ls [])) :
    Met l y (wS y cc mx ret) (RM fr lo) (va_Pc av B) Qc 0 0 NoA := by
  refine Met.ofW (cc := cc) (maxL := mx) (ret := ret) hy rfl ?_
  intro p e s m args below meth c s₁ Bd hml hv
  obtain ⟨rfl, hB⟩ := hv
  have hts := atoms_spec (ws := wS y cc mx ret) Bd.pre
  have hown : s.vm.findClass y.cls = some m.cls := findClass_of_methodNamed Bd.named
  have hl := lv_entry av (n := mx) hlen
  rw [lg_entry_eq]
  generalize (lg_sl av ++ List.replicate (mx - (lg_sl av).length) Slot.unset).toArray = ls at hl ⊢
  exact body p e s m av.toArray below meth c ls ⟨Bd.exec, Bd.bytes, hml, hown, tA hts⟩ Bd.notSynchronized Bd.returns hB hl
section JW
variable {p : Program} {l : Launch} {e : Env} {R : Room} {s : State} {m : MethodId} {args : Array Value} {below : List Frame} {meth : Method} {c : Code} {H : Heap} {locs : List Loc} {Q : State → Prop}
variable {cc : ByteArray} {nL : Nat} {own : String} {D : va_G} {aI aL : ClassId} {N : Nat} {sh : Sh} {ad : Nat → Nat} {σ : Sg} {pc : Nat} {ls : Array Slot} {rest : List Value} {cells slots : Nat} {A : Nat → Prop}
theorem Pj_at {aK aV : Nat} (h : SEv aK aV A s s.heap) (hS : va_S A s.heap H locs) (av : List Value) : ∀ U : State, U.heap = H → s.WarmedH U.vm → Pj aK aV av av.toArray U := by
  intro U hU hW
  refine ⟨rfl, ?_⟩
  show SEv aK aV NoA U U.heap
  rw [hU]
  exact SEv.moved hW.alike ((h.kept hS.2.1).narrow (fun _ q => q.elim))
theorem l_cj {r0 : Int32} {a : Array Value} {st0 : List Value} (hr : va_Run p l e R s m args below meth c H locs cells slots 0 0 (F0 m pc ls st0) rest (Qj r0 a) NoA) (hS : va_S NoA s.heap H locs)
    (kk : ∀ (H1 : Heap) (locs1 : List Loc), va_S NoA s.heap H1 locs1 → W p l e R s m args below meth c H1 locs1 cells slots Q (F0 m (pc + 3) ls (.int r0 :: rest))) : W p l e R s m args below meth c H locs cells slots Q (F0 m pc ls st0) := by
  refine va_calli (A0 := NoA) hr hS (fun q _ h => h) (fun q h => h) (fun r u t H1 locs1 ht hvm hp hB hz hk hS1 => ?_)
  obtain rfl := hp
  exact kk H1 locs1 hS1
theorem l_cjv {a : Array Value} {st0 : List Value} (hr : va_Run p l e R s m args below meth c H locs cells slots 0 0 (F0 m pc ls st0) rest (Qjv a) NoA) (hS : va_S NoA s.heap H locs)
    (kk : ∀ (H1 : Heap) (locs1 : List Loc), va_S NoA s.heap H1 locs1 → W p l e R s m args below meth c H1 locs1 cells slots Q (F0 m (pc + 3) ls rest)) : W p l e R s m args below meth c H locs cells slots Q (F0 m pc ls st0) := by
  refine va_callv (A0 := NoA) hr hS (fun q _ h => h) (fun q h => h) (fun u t H1 locs1 ht hvm hp hB hz hk hS1 => ?_)
  exact kk H1 locs1 hS1
theorem w_cj {r0 : Int32} {a : Array Value} {st0 : List Value} (hr : va_Run p l e R s m args below meth c H locs cells slots 0 0 (F0 m pc ls st0) rest (Qj r0 a) NoA) (hP : HS D aI aL N sh ad σ s H locs)
    (kk : ∀ (H1 : Heap) (locs1 : List Loc), HS D aI aL N sh ad σ s H1 locs1 → W p l e R s m args below meth c H1 locs1 cells slots Q (F0 m (pc + 3) ls (.int r0 :: rest))) : W p l e R s m args below meth c H locs cells slots Q (F0 m pc ls st0) := by
  obtain ⟨hW, hS, hinj⟩ := hP
  refine va_calli (A0 := AA ad N s.heap.size) hr hS (fun q _ h => h.elim) (fun q h => h.elim) (fun r u t H1 locs1 ht hvm hp hB hz hk hS1 => ?_)
  obtain rfl := hp
  exact kk H1 locs1 ⟨va_P.kept hW (fun k q hq => hk q.1 (hW k q hq).lt (fun z => z)), hS1, hinj⟩
end JW
theorem hd_J3_checkIndex_8e157 : yJ3_checkIndex_8e157.cls = RJ3 ∧ yJ3_checkIndex_8e157.cls ≠ "java/lang/invoke/MethodHandle" ∧ yJ3_checkIndex_8e157.cls ≠ "java/lang/invoke/VarHandle" ∧ (parseMethodDescriptor yJ3_checkIndex_8e157.desc).map (fun d => d.parameters.length) = some 3 := by decide +kernel
set_option maxHeartbeats 4000000 in
set_option maxRecDepth 100000 in
theorem c_J3_checkIndex_8e157_n (l : Launch) (i n : Int32) (h0 : ¬ i < 0) (h1 : i < n) : Met l yJ3_checkIndex_8e157 (wS yJ3_checkIndex_8e157 cJ3_checkIndex_8e157 3 (some .int)) (RM 0 0) (va_Pc [.int i, .int n, .null] (fun U => True)) (Qj i) 0 0 NoA := by
  refine MofJ (Qc := (Qj i)) (by decide) (Nat.le_of_ble_eq_true rfl) ?_
  intro p e s m args below meth c ls C hlk hr hB hl
  have hx := C.1
  have hb_ := C.2.1
  have hown := C.2.2.2.1
  have hts := C.2.2.2.2
  have hS : va_S NoA s.heap s.heap [] := va_S.rf
  have hl : lv_has ls 3 [(0, .int i), (1, .int n), (2, .null)] := hl
  refine lv_iload_n hx hb_ dJ3_checkIndex_8e157_0 rfl (lv_at hl 0 rfl) ?_
  refine lv_if_lt (tgt := 9) hx hb_ dJ3_checkIndex_8e157_1 (by decide) (fun hc => absurd hc h0) (fun hc => ?_)
  refine lv_iload_n hx hb_ dJ3_checkIndex_8e157_4 rfl (lv_at hl 0 rfl) ?_
  refine lv_iload_n hx hb_ dJ3_checkIndex_8e157_5 rfl (lv_at hl 1 rfl) ?_
  refine lv_icmp_lt (tgt := 16) hx hb_ dJ3_checkIndex_8e157_6 (by decide) (fun hc => ?_) (fun hc => absurd h1 hc)
  refine lv_iload_n hx hb_ dJ3_checkIndex_8e157_16 rfl (lv_at hl 0 rfl) ?_
  exact W.iret hx hb_ hr (fun t ht hW => ⟨⟨i, (), rfl, rfl, trivial⟩, hS.F ht⟩) hS.2.2 dJ3_checkIndex_8e157_17 hlk
set_option maxHeartbeats 4000000 in
set_option maxRecDepth 100000 in
theorem c_J3_checkIndex_8e157_r (l : Launch) (i n : Int32) (t : Nat) (h0 : ¬ i < 0) (h1 : i < n) : Met l yJ3_checkIndex_8e157 (wS yJ3_checkIndex_8e157 cJ3_checkIndex_8e157 3 (some .int)) (RM 0 0) (va_Pc [.int i, .int n, .ref t] (fun U => True)) (Qj i) 0 0 NoA := by
  refine MofJ (Qc := (Qj i)) (by decide) (Nat.le_of_ble_eq_true rfl) ?_
  intro p e s m args below meth c ls C hlk hr hB hl
  have hx := C.1
  have hb_ := C.2.1
  have hown := C.2.2.2.1
  have hts := C.2.2.2.2
  have hS : va_S NoA s.heap s.heap [] := va_S.rf
  have hl : lv_has ls 3 [(0, .int i), (1, .int n), (2, .ref t)] := hl
  refine lv_iload_n hx hb_ dJ3_checkIndex_8e157_0 rfl (lv_at hl 0 rfl) ?_
  refine lv_if_lt (tgt := 9) hx hb_ dJ3_checkIndex_8e157_1 (by decide) (fun hc => absurd hc h0) (fun hc => ?_)
  refine lv_iload_n hx hb_ dJ3_checkIndex_8e157_4 rfl (lv_at hl 0 rfl) ?_
  refine lv_iload_n hx hb_ dJ3_checkIndex_8e157_5 rfl (lv_at hl 1 rfl) ?_
  refine lv_icmp_lt (tgt := 16) hx hb_ dJ3_checkIndex_8e157_6 (by decide) (fun hc => ?_) (fun hc => absurd h1 hc)
  refine lv_iload_n hx hb_ dJ3_checkIndex_8e157_16 rfl (lv_at hl 0 rfl) ?_
  exact W.iret hx hb_ hr (fun t ht hW => ⟨⟨i, (), rfl, rfl, trivial⟩, hS.F ht⟩) hS.2.2 dJ3_checkIndex_8e157_17 hlk
theorem hd_J0_checkIndex_df160 : yJ0_checkIndex_df160.cls = RJ0 ∧ yJ0_checkIndex_df160.cls ≠ "java/lang/invoke/MethodHandle" ∧ yJ0_checkIndex_df160.cls ≠ "java/lang/invoke/VarHandle" ∧ (parseMethodDescriptor yJ0_checkIndex_df160.desc).map (fun d => d.parameters.length) = some 2 := by decide +kernel
set_option maxHeartbeats 4000000 in
set_option maxRecDepth 100000 in
theorem c_J0_checkIndex_df160 (l : Launch) (aK aV : Nat) (i n : Int32) (h0 : ¬ i < 0) (h1 : i < n) : Met l yJ0_checkIndex_df160 (wS yJ0_checkIndex_df160 cJ0_checkIndex_df160 2 (none : Option Jvm.ClassFile.FieldType)) (RM 1 22) (va_Pc [.int i, .int n] (fun U => SEv aK aV NoA U U.heap)) Qjv 0 0 NoA := by
  refine MofJ (Qc := Qjv) (by decide) (Nat.le_of_ble_eq_true rfl) ?_
  intro p e s m args below meth c ls C hlk hr hB hl
  have hx := C.1
  have hb_ := C.2.1
  have hown := C.2.2.2.1
  have hts := C.2.2.2.2
  have hS : va_S NoA s.heap s.heap [] := va_S.rf
  have hl : lv_has ls 2 [(0, .int i), (1, .int n)] := hl
  refine lv_iload_n hx hb_ dJ0_checkIndex_df160_0 rfl (lv_at hl 0 rfl) ?_
  refine lv_iload_n hx hb_ dJ0_checkIndex_df160_1 rfl (lv_at hl 1 rfl) ?_
  rcases hB.2.1 with hZ | ⟨t, hZ⟩
  · refine va_gets hx hb_ hZ hS hown (hts _ wt162) (fun _ h => h) dJ0_checkIndex_df160_2 ?_
    refine l_cj (va_runS (As := [.int i, .int n, .null]) (rest := []) C (c_J3_checkIndex_8e157_n l i n h0 h1) ⟨callB_of 3 hts (goodWA wt166) rfl rfl rfl (hts _ wt10) (hts _ wt164) hd_J3_checkIndex_8e157.2 ⟨Nat.le_of_ble_eq_true rfl, Nat.le_of_ble_eq_true rfl⟩, hts _ wt165⟩ ⟨(fun _ _ _ _ q => q), (fun _ _ _ => ⟨rfl, trivial⟩)⟩ rfl rfl hl.1 rfl (lv_room (Nat.le_of_ble_eq_true rfl)) dJ0_checkIndex_df160_5 ⟨Nat.zero_le _, Nat.zero_le _⟩) hS (fun H locs hS => ?_)
    refine lv_pop hx hb_ dJ0_checkIndex_df160_8 rfl ?_
    exact W.vret hx hb_ hr (fun t ht hW => ⟨⟨(), rfl, trivial, trivial⟩, hS.F ht⟩) hS.2.2 dJ0_checkIndex_df160_9 hlk
  · refine va_gets hx hb_ hZ hS hown (hts _ wt162) (fun _ h => h) dJ0_checkIndex_df160_2 ?_
    refine l_cj (va_runS (As := [.int i, .int n, .ref t]) (rest := []) C (c_J3_checkIndex_8e157_r l i n t h0 h1) ⟨callB_of 3 hts (goodWA wt166) rfl rfl rfl (hts _ wt10) (hts _ wt164) hd_J3_checkIndex_8e157.2 ⟨Nat.le_of_ble_eq_true rfl, Nat.le_of_ble_eq_true rfl⟩, hts _ wt165⟩ ⟨(fun _ _ _ _ q => q), (fun _ _ _ => ⟨rfl, trivial⟩)⟩ rfl rfl hl.1 rfl (lv_room (Nat.le_of_ble_eq_true rfl)) dJ0_checkIndex_df160_5 ⟨Nat.zero_le _, Nat.zero_le _⟩) hS (fun H locs hS => ?_)
    refine lv_pop hx hb_ dJ0_checkIndex_df160_8 rfl ?_
    exact W.vret hx hb_ hr (fun t ht hW => ⟨⟨(), rfl, trivial, trivial⟩, hS.F ht⟩) hS.2.2 dJ0_checkIndex_df160_9 hlk
theorem hd_J1_charAt_3b067 : yJ1_charAt_3b067.cls = RJ1 ∧ yJ1_charAt_3b067.cls ≠ "java/lang/invoke/MethodHandle" ∧ yJ1_charAt_3b067.cls ≠ "java/lang/invoke/VarHandle" ∧ (parseMethodDescriptor yJ1_charAt_3b067.desc).map (fun d => d.parameters.length) = some 2 := by decide +kernel
set_option maxHeartbeats 4000000 in
set_option maxRecDepth 100000 in
theorem c_J1_charAt_3b067 (l : Launch) (aK aV j : Nat) (hj : j < 23) : Met l yJ1_charAt_3b067 (wS yJ1_charAt_3b067 cJ1_charAt_3b067 2 (some .char)) (RM 2 43) (va_Pc [.ref aV, .int (nI j)] (fun U => SEv aK aV NoA U U.heap)) (Qj (sgB j)) 0 0 NoA := by
  refine MofJ (Qc := (Qj (sgB j))) (by decide) (Nat.le_of_ble_eq_true rfl) ?_
  intro p e s m args below meth c ls C hlk hr hB hl
  have hx := C.1
  have hb_ := C.2.1
  have hown := C.2.2.2.1
  have hts := C.2.2.2.2
  have hS : va_S NoA s.heap s.heap [] := va_S.rf
  have hl : lv_has ls 2 [(0, .ref aV), (1, .int (nI j))] := hl
  refine lv_iload_n hx hb_ dJ1_charAt_3b067_0 rfl (lv_at hl 1 rfl) ?_
  refine lv_aload_n hx hb_ dJ1_charAt_3b067_1 rfl (lv_at hl 0 rfl) ?_
  refine va_tlen hx hb_ hB.2.2.2.2.2 hS (v := nI 23) rfl dJ1_charAt_3b067_2 ?_
  refine l_cjv (va_runS (As := [.int (nI j), .int (nI 23)]) (rest := []) C (c_J0_checkIndex_df160 l aK aV (nI j) (nI 23) (nI_pos (by omega)) (nI_lt hj (by omega))) ⟨callB_of 2 hts (goodWA wt161) rfl rfl rfl (hts _ wt8) (hts _ wt159) hd_J0_checkIndex_df160.2 ⟨Nat.le_of_ble_eq_true rfl, Nat.le_of_ble_eq_true rfl⟩, hts _ wt160⟩ ⟨Pj_blind, (Pj_at hB hS _)⟩ rfl rfl hl.1 rfl (lv_room (Nat.le_of_ble_eq_true rfl)) dJ1_charAt_3b067_3 ⟨Nat.zero_le _, Nat.zero_le _⟩) hS (fun H locs hS => ?_)
  refine lv_aload_n hx hb_ dJ1_charAt_3b067_6 rfl (lv_at hl 0 rfl) ?_
  refine lv_iload_n hx hb_ dJ1_charAt_3b067_7 rfl (lv_at hl 1 rfl) ?_
  refine va_tb hx hb_ hB.2.2.2.2.2 hS (vp_in_nI hj (by omega)) (v := .int (sgB j)) (by rw [nI_clamp (by omega)]) dJ1_charAt_3b067_8 ?_
  refine lv_sipush (v := 255) hx hb_ dJ1_charAt_3b067_9 (by decide) ?_
  refine lv_iand hx hb_ dJ1_charAt_3b067_12 ?_
  refine lv_i2c hx hb_ dJ1_charAt_3b067_13 (sg_c j hj) ?_
  exact W.zret hx hb_ hr (sg_n j hj) (fun t ht hW => ⟨⟨sgB j, (), rfl, rfl, trivial⟩, hS.F ht⟩) hS.2.2 dJ1_charAt_3b067_14 hlk
theorem hd_J0_coder_7d493 : yJ0_coder_7d493.cls = RJ0 ∧ yJ0_coder_7d493.cls ≠ "java/lang/invoke/MethodHandle" ∧ yJ0_coder_7d493.cls ≠ "java/lang/invoke/VarHandle" ∧ (parseMethodDescriptor yJ0_coder_7d493.desc).map (fun d => d.parameters.length) = some 0 := by decide +kernel
set_option maxHeartbeats 4000000 in
set_option maxRecDepth 100000 in
theorem c_J0_coder_7d493 (l : Launch) (aK aV : Nat) : Met l yJ0_coder_7d493 (wS yJ0_coder_7d493 cJ0_coder_7d493 1 (some .byte)) (RM 0 0) (va_Pc [.ref aK] (fun U => SEv aK aV NoA U U.heap)) (Qj 0) 0 0 NoA := by
  refine MofJ (Qc := (Qj 0)) (by decide) (Nat.le_of_ble_eq_true rfl) ?_
  intro p e s m args below meth c ls C hlk hr hB hl
  have hx := C.1
  have hb_ := C.2.1
  have hown := C.2.2.2.1
  have hts := C.2.2.2.2
  have hS : va_S NoA s.heap s.heap [] := va_S.rf
  have hl : lv_has ls 1 [(0, .ref aK)] := hl
  refine va_gets hx hb_ hB.1 hS hown (hts _ wt146) (fun _ h => h) dJ0_coder_7d493_0 ?_
  refine lv_if_eq (tgt := 13) hx hb_ dJ0_coder_7d493_3 (by decide) (fun hc => absurd hc (by decide)) (fun hc => ?_)
  refine lv_aload_n hx hb_ dJ0_coder_7d493_6 rfl (lv_at hl 0 rfl) ?_
  refine vk_getf hx hb_ hB.2.2.2.1 hS hown (hts _ wt1061) (fun _ h => h) dJ0_coder_7d493_7 ?_
  refine lv_goto (tgt := 14) hx hb_ dJ0_coder_7d493_10 (by decide) ?_
  exact W.zret hx hb_ hr (by decide +kernel) (fun t ht hW => ⟨⟨0, (), rfl, rfl, trivial⟩, hS.F ht⟩) hS.2.2 dJ0_coder_7d493_14 hlk
theorem hd_J0_isLatin1_aae02 : yJ0_isLatin1_aae02.cls = RJ0 ∧ yJ0_isLatin1_aae02.cls ≠ "java/lang/invoke/MethodHandle" ∧ yJ0_isLatin1_aae02.cls ≠ "java/lang/invoke/VarHandle" ∧ (parseMethodDescriptor yJ0_isLatin1_aae02.desc).map (fun d => d.parameters.length) = some 0 := by decide +kernel
set_option maxHeartbeats 4000000 in
set_option maxRecDepth 100000 in
theorem c_J0_isLatin1_aae02 (l : Launch) (aK aV : Nat) : Met l yJ0_isLatin1_aae02 (wS yJ0_isLatin1_aae02 cJ0_isLatin1_aae02 1 (some .boolean)) (RM 0 0) (va_Pc [.ref aK] (fun U => SEv aK aV NoA U U.heap)) (Qj 1) 0 0 NoA := by
  refine MofJ (Qc := (Qj 1)) (by decide) (Nat.le_of_ble_eq_true rfl) ?_
  intro p e s m args below meth c ls C hlk hr hB hl
  have hx := C.1
  have hb_ := C.2.1
  have hown := C.2.2.2.1
  have hts := C.2.2.2.2
  have hS : va_S NoA s.heap s.heap [] := va_S.rf
  have hl : lv_has ls 1 [(0, .ref aK)] := hl
  refine va_gets hx hb_ hB.1 hS hown (hts _ wt146) (fun _ h => h) dJ0_isLatin1_aae02_0 ?_
  refine lv_if_eq (tgt := 17) hx hb_ dJ0_isLatin1_aae02_3 (by decide) (fun hc => absurd hc (by decide)) (fun hc => ?_)
  refine lv_aload_n hx hb_ dJ0_isLatin1_aae02_6 rfl (lv_at hl 0 rfl) ?_
  refine vk_getf hx hb_ hB.2.2.2.1 hS hown (hts _ wt1061) (fun _ h => h) dJ0_isLatin1_aae02_7 ?_
  refine lv_if_ne (tgt := 17) hx hb_ dJ0_isLatin1_aae02_10 (by decide) (fun hc => absurd rfl hc) (fun hc => ?_)
  refine lv_iconst (v := 1) hx hb_ dJ0_isLatin1_aae02_13 (by decide) ?_
  refine lv_goto (tgt := 18) hx hb_ dJ0_isLatin1_aae02_14 (by decide) ?_
  exact W.zret hx hb_ hr (by decide +kernel) (fun t ht hW => ⟨⟨1, (), rfl, rfl, trivial⟩, hS.F ht⟩) hS.2.2 dJ0_isLatin1_aae02_18 hlk
theorem strRecv {aK aV : Nat} {A : Nat → Prop} {s : State} {H : Heap} {locs : List Loc} (h : SEv aK aV A s s.heap) (hS : va_S A s.heap H locs) : ∃ cell : Cell, H[aK]? = some cell ∧ cell.vm.isStatics = false ∧ s.vm.findClass RJ0 = some cell.cls := by
  obtain ⟨cell, h1, h2, h3, -⟩ := (h.kept hS.2.1).2.2.1
  exact ⟨cell, h1, h2, h3⟩
theorem hd_J0_length_8abf5 : yJ0_length_8abf5.cls = RJ0 ∧ yJ0_length_8abf5.cls ≠ "java/lang/invoke/MethodHandle" ∧ yJ0_length_8abf5.cls ≠ "java/lang/invoke/VarHandle" ∧ (parseMethodDescriptor yJ0_length_8abf5.desc).map (fun d => d.parameters.length) = some 0 := by decide +kernel
set_option maxHeartbeats 4000000 in
set_option maxRecDepth 100000 in
theorem c_J0_length_8abf5 (l : Launch) (aK aV : Nat) : Met l yJ0_length_8abf5 (wS yJ0_length_8abf5 cJ0_length_8abf5 1 (some .int)) (RM 1 20) (va_Pc [.ref aK] (fun U => SEv aK aV NoA U U.heap)) (Qj (nI 23)) 0 0 NoA := by
  refine MofJ (Qc := (Qj (nI 23))) (by decide) (Nat.le_of_ble_eq_true rfl) ?_
  intro p e s m args below meth c ls C hlk hr hB hl
  have hx := C.1
  have hb_ := C.2.1
  have hown := C.2.2.2.1
  have hts := C.2.2.2.2
  have hS : va_S NoA s.heap s.heap [] := va_S.rf
  have hl : lv_has ls 1 [(0, .ref aK)] := hl
  refine lv_aload_n hx hb_ dJ0_length_8abf5_0 rfl (lv_at hl 0 rfl) ?_
  refine vk_getf hx hb_ hB.2.2.2.2.1 hS hown (hts _ wt1060) (fun _ h => h) dJ0_length_8abf5_1 ?_
  refine va_tlen hx hb_ hB.2.2.2.2.2 hS (v := nI 23) rfl dJ0_length_8abf5_4 ?_
  refine lv_aload_n hx hb_ dJ0_length_8abf5_5 rfl (lv_at hl 0 rfl) ?_
  refine l_cj (va_runV (As := []) (rest := [.int (nI 23)]) C (c_J0_coder_7d493 l aK aV) (cwV 0 hts (gV wt142 wt143 wt144 wt8 wt145) rfl rfl rfl hd_J0_coder_7d493 ⟨Nat.le_of_ble_eq_true rfl, Nat.le_of_ble_eq_true rfl⟩) ⟨Pj_blind, strRecv hB hS, Pj_at hB hS _⟩ rfl rfl hl.1 rfl (lv_room (Nat.le_of_ble_eq_true rfl)) dJ0_length_8abf5_6 ⟨Nat.zero_le _, Nat.zero_le _⟩) hS (fun H locs hS => ?_)
  refine lv_ishr hx hb_ dJ0_length_8abf5_9 ?_
  exact W.iret hx hb_ hr (fun t ht hW => ⟨⟨_, (), rfl, by decide +kernel, trivial⟩, hS.F ht⟩) hS.2.2 dJ0_length_8abf5_10 hlk
theorem hd_J0_charAt_5068e : yJ0_charAt_5068e.cls = RJ0 ∧ yJ0_charAt_5068e.cls ≠ "java/lang/invoke/MethodHandle" ∧ yJ0_charAt_5068e.cls ≠ "java/lang/invoke/VarHandle" ∧ (parseMethodDescriptor yJ0_charAt_5068e.desc).map (fun d => d.parameters.length) = some 1 := by decide +kernel
set_option maxHeartbeats 4000000 in
set_option maxRecDepth 100000 in
theorem c_J0_charAt_5068e (l : Launch) (aK aV j : Nat) (hj : j < 23) : Met l yJ0_charAt_5068e (wS yJ0_charAt_5068e cJ0_charAt_5068e 2 (some .char)) (RM 3 64) (va_Pc [.ref aK, .int (nI j)] (fun U => SEv aK aV NoA U U.heap)) (Qj (sgB j)) 0 0 NoA := by
  refine MofJ (Qc := (Qj (sgB j))) (by decide) (Nat.le_of_ble_eq_true rfl) ?_
  intro p e s m args below meth c ls C hlk hr hB hl
  have hx := C.1
  have hb_ := C.2.1
  have hown := C.2.2.2.1
  have hts := C.2.2.2.2
  have hS : va_S NoA s.heap s.heap [] := va_S.rf
  have hl : lv_has ls 2 [(0, .ref aK), (1, .int (nI j))] := hl
  refine lv_aload_n hx hb_ dJ0_charAt_5068e_0 rfl (lv_at hl 0 rfl) ?_
  refine l_cj (va_runV (As := []) (rest := []) C (c_J0_isLatin1_aae02 l aK aV) (cwV 0 hts (gV wt152 wt153 wt154 wt8 wt155) rfl rfl rfl hd_J0_isLatin1_aae02 ⟨Nat.le_of_ble_eq_true rfl, Nat.le_of_ble_eq_true rfl⟩) ⟨Pj_blind, strRecv hB hS, Pj_at hB hS _⟩ rfl rfl hl.1 rfl (lv_room (Nat.le_of_ble_eq_true rfl)) dJ0_charAt_5068e_1 ⟨Nat.zero_le _, Nat.zero_le _⟩) hS (fun H locs hS => ?_)
  refine lv_if_eq (tgt := 16) hx hb_ dJ0_charAt_5068e_4 (by decide) (fun hc => absurd hc (by decide)) (fun hc => ?_)
  refine lv_aload_n hx hb_ dJ0_charAt_5068e_7 rfl (lv_at hl 0 rfl) ?_
  refine vk_getf hx hb_ hB.2.2.2.2.1 hS hown (hts _ wt1060) (fun _ h => h) dJ0_charAt_5068e_8 ?_
  refine lv_iload_n hx hb_ dJ0_charAt_5068e_11 rfl (lv_at hl 1 rfl) ?_
  refine l_cj (va_runS (As := [.ref aV, .int (nI j)]) (rest := []) C (c_J1_charAt_3b067 l aK aV j hj) ⟨callB_of 2 hts (goodWA wt158) rfl rfl rfl (hts _ wt9) (hts _ wt156) hd_J1_charAt_3b067.2 ⟨Nat.le_of_ble_eq_true rfl, Nat.le_of_ble_eq_true rfl⟩, hts _ wt157⟩ ⟨Pj_blind, (Pj_at hB hS _)⟩ rfl rfl hl.1 rfl (lv_room (Nat.le_of_ble_eq_true rfl)) dJ0_charAt_5068e_12 ⟨Nat.zero_le _, Nat.zero_le _⟩) hS (fun H locs hS => ?_)
  exact W.zret hx hb_ hr (sg_n j hj) (fun t ht hW => ⟨⟨sgB j, (), rfl, rfl, trivial⟩, hS.F ht⟩) hS.2.2 dJ0_charAt_5068e_15 hlk
theorem hd_X6_addSigns : yX6_addSigns.cls = RX6 ∧ yX6_addSigns.cls ≠ "java/lang/invoke/MethodHandle" ∧ yX6_addSigns.cls ≠ "java/lang/invoke/VarHandle" ∧ (parseMethodDescriptor yX6_addSigns.desc).map (fun d => d.parameters.length) = some 1 := by decide +kernel
def f_X6_addSigns_2s (v2 : Int32) (s2 : Sg) : Option ((Int32 × Sg) ⊕ Sg) :=
  if nI 23 ≤ v2 then some (.inr s2) else
  (f_X6_addByte (sgB v2.toNatClampNeg) s2).bind fun q =>
  nm (v2 + 1) fun x => some (.inl (x, q))
def f_X6_addSigns (σ : Sg) : Option Sg := itr 3000 (fun s => f_X6_addSigns_2s s.1 s.2) (0, σ)
def Pws (D : va_G) (aI aL : ClassId) (ad : Nat → Nat) (sz : Nat) (σ : Sg) (aK aV : Nat) (av : List Value) : Array Value → State → Prop :=
  va_Pc av (fun U => U.heap.size = sz ∧ Wd D aI aL 42 shX ad σ U.heap ∧ va_K D vwCl (tysIL aI aL) U ∧ NW U ∧ SEv aK aV (AA ad 42 sz) U U.heap)
theorem Pws_blind {D : va_G} {aI aL : ClassId} {ad : Nat → Nat} {sz : Nat} {σ : Sg} {aK aV : Nat} {av : List Value} : FrameBlind (Pws D aI aL ad sz σ aK aV av) := fun a U g mk q => by
  obtain ⟨q0, q1, qP, qK, qN, qS⟩ := q
  exact ⟨q0, q1, qP, va_K.moved (u := U) (U := U.calling g mk a) (Vm.Alike.refl U.vm) qK, NW_call qN g mk a, SEv.moved (u := U) (U := U.calling g mk a) (Vm.Alike.refl U.vm) qS⟩
set_option maxHeartbeats 4000000 in
set_option maxRecDepth 100000 in
theorem c_X6_addSigns (l : Launch) (D : va_G) (aI aL : ClassId) (ad : Nat → Nat) (inj : Inj ad 42) (sz : Nat) (σ : Sg) (aK aV : Nat) (r0 : Sg) (hf : f_X6_addSigns σ = some r0) : Met l yX6_addSigns (wS yX6_addSigns cX6_addSigns 3 none) (RM 4 85) (Pws D aI aL ad sz σ aK aV [.ref (ad 1), .ref aK]) (Qv D aI aL 42 shX ad r0 sz) 0 0 (AA ad 42 sz) := by
  refine Met.ofW (cc := cX6_addSigns) (maxL := 3) (ret := none) (by decide) rfl ?_
  intro p e s m args below meth c s₁ B hml hv
  obtain ⟨rfl, hsz, hP0, hK, hN, hSE⟩ := hv
  have hts0 := atoms_spec (ws := wS yX6_addSigns cX6_addSigns 3 none) B.pre
  have hown : s.vm.findClass yX6_addSigns.cls = some m.cls := findClass_of_methodNamed B.named
  subst hsz
  have hl := lv_entry [.ref (ad 1), .ref aK] (n := 3) (Nat.le_of_ble_eq_true rfl)
  rw [lg_entry_eq]
  generalize (lg_sl [.ref (ad 1), .ref aK] ++ List.replicate (3 - (lg_sl [.ref (ad 1), .ref aK]).length) Slot.unset).toArray = ls at hl ⊢
  have hl : lv_has ls 3 [(0, .ref (ad 1)), (1, .ref aK)] := hl
  have hP : HS D aI aL 42 shX ad σ s s.heap [] := ⟨hP0, va_S.rf, inj⟩
  have hlk := B.notSynchronized
  have hr := B.returns
  have hF : CallFix p m c cX6_addSigns 3 s [Value.ref (ad 1), Value.ref aK].toArray WA yX6_addSigns.cls := ⟨B.exec, B.bytes, hml, hown, tA hts0⟩
  have C : CT p m c cX6_addSigns 3 s [Value.ref (ad 1), Value.ref aK].toArray yX6_addSigns.cls D aI aL := ⟨hF, hK, hN⟩
  clear B hts0
  generalize [Value.ref (ad 1), Value.ref aK].toArray = args at hF C ⊢
  have hx := C.1.1
  have hb_ := C.1.2.1
  have hts := C.1.2.2.2.2
  have lp : ∀ (n : Nat) (v2 : Int32) (s2 : Sg), itr n (fun s => f_X6_addSigns_2s s.1 s.2) (v2, s2) = some r0 → ∀ j : Nat, j ≤ 23 → v2 = nI j → ∀ (H : Heap) (locs : List Loc) (ls : Array Slot), HS D aI aL 42 shX ad s2 s H locs → lv_has ls 3 [(0, .ref (ad 1)), (1, .ref aK), (2, .int v2)] → W p l e (RM 4 85) s m args below meth c H locs 0 0 (MQ below (Qv D aI aL 42 shX ad r0 s.heap.size) args s 0 0 (AA ad 42 s.heap.size)) (F0 m 2 ls []) := by
    intro n
    induction n with
    | zero =>
      intro v2 s2 h
      cases (show (none : Option Sg) = some r0 from h)
    | succ n ih =>
      intro v2 s2 h j hj ej H locs ls hP hl
      obtain ⟨y, h, hK⟩ := itr_inv (K := fun y => y = r0) h rfl
      replace h : f_X6_addSigns_2s v2 s2 = some y := h
      unfold f_X6_addSigns_2s at h
      refine lv_iload_n hx hb_ dX6_addSigns_2 rfl (lv_at hl 2 rfl) ?_
      refine lv_aload_n hx hb_ dX6_addSigns_3 rfl (lv_at hl 1 rfl) ?_
      refine w_cj (va_runV (As := []) (rest := [.int v2]) hF (c_J0_length_8abf5 l aK aV) (cwV 0 hts (gV wt138 wt139 wt140 wt8 wt141) rfl rfl rfl hd_J0_length_8abf5 ⟨Nat.le_of_ble_eq_true rfl, Nat.le_of_ble_eq_true rfl⟩) ⟨Pj_blind, strRecv hSE hP.2.1, Pj_at hSE hP.2.1 _⟩ rfl rfl hl.1 rfl (lv_room (Nat.le_of_ble_eq_true rfl)) dX6_addSigns_4 ⟨Nat.zero_le _, Nat.zero_le _⟩) hP (fun H locs hP => ?_)
      refine lv_icmp_ge (tgt := 25) hx hb_ dX6_addSigns_7 (by decide) (fun hc => ?_) (fun hc => ?_)
      · replace h := ift h hc
        obtain rfl := Option.some.inj h
        have hK : s2 = r0 := hK
        exact w_vret C hlk hr hP hK dX6_addSigns_25
      · replace h := iff' h hc
        have hj2 : j < 23 := by
          rcases Nat.lt_or_ge j 23 with q | q
          · exact q
          · exact absurd (by rw [ej]; exact nI_le q (by omega)) hc
        obtain ⟨q, hq, h⟩ := bnd h
        obtain ⟨x, hx1, h⟩ := nm_inv h
        refine lv_aload_n hx hb_ dX6_addSigns_10 rfl (lv_at hl 0 rfl) ?_
        refine lv_aload_n hx hb_ dX6_addSigns_11 rfl (lv_at hl 1 rfl) ?_
        refine lv_iload_n hx hb_ dX6_addSigns_12 rfl (lv_at hl 2 rfl) ?_
        rw [ej] at hq ⊢
        rw [nI_clamp (by omega)] at hq
        refine w_cj (va_runV (As := [.int (nI j)]) (rest := [.ref (ad 1)]) hF (c_J0_charAt_5068e l aK aV j hj2) (cwV 1 hts (gV wt148 wt149 wt150 wt8 wt151) rfl rfl rfl hd_J0_charAt_5068e ⟨Nat.le_of_ble_eq_true rfl, Nat.le_of_ble_eq_true rfl⟩) ⟨Pj_blind, strRecv hSE hP.2.1, Pj_at hSE hP.2.1 _⟩ rfl rfl hl.1 rfl (lv_room (Nat.le_of_ble_eq_true rfl)) dX6_addSigns_13 ⟨Nat.zero_le _, Nat.zero_le _⟩) hP (fun H locs hP => ?_)
        refine w_cv (w_rV (As := [.int (sgB j)]) (rest := []) C hP (k := 1) (c_X6_addByte l D aI aL ad inj _ s2 (sgB j) q hq) (gV wt186 wt187 wt188 wt2 wt189) 1 hd_X6_addByte ⟨Nat.le_of_ble_eq_true rfl, Nat.le_of_ble_eq_true rfl⟩ (by decide) 4 rfl rfl rfl hl.1 rfl (Nat.le_of_ble_eq_true rfl) dX6_addSigns_16) hP (fun H locs hP => ?_)
        refine lv_iinc (v := x) (lv' := [(2, .int x), (0, .ref (ad 1)), (1, .ref aK)]) hx hb_ dX6_addSigns_19 hl (k := 2) rfl (by rw [hx1]; rfl) (by decide) rfl (fun ls hl => ?_)
        refine lv_goto (tgt := 2) hx hb_ dX6_addSigns_22 (by decide) ?_
        obtain rfl := Option.some.inj h
        obtain ⟨y2, h2, hK2⟩ := hK
        have hK2 : y2 = r0 := hK2
        rw [hK2] at h2
        exact ih x q h2 (j + 1) hj2 (by rw [hx1, ej, nI_1]) _ _ _ hP (lv_sub hl [1, 2, 0] rfl)
  refine lv_iconst (v := 0) hx hb_ dX6_addSigns_0 (by decide) ?_
  refine lv_istore_n (lv' := [(2, .int 0), (0, .ref (ad 1)), (1, .ref aK)]) hx hb_ dX6_addSigns_1 rfl hl (by decide) rfl (fun ls hl => ?_)
  exact lp 3000 0 σ hf 0 (by omega) nI_0.symm _ _ _ hP (lv_sub hl [1, 2, 0] rfl)
