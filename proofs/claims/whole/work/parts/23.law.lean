/-! THE CLAIM OUT OF ONE WALK OF THE LAW'S BODY. Your part is whole_start (and what it stands on); all else here is the same for every law, but numbers. -/
def R_law : String := "FloorOfProofsLaw"
def lw_P (b : Addr) (xs : List Int32) (args : Array Value) (s : State) : Prop := args = #[.ref b] ∧ s.IntsAt b xs ∧ xs.length ≤ 2048 ∧ (Jvm.Cond.and given_1 narrow_1).before args s = true
def lw_Q (_ : Array Value) (s : State) (o : Outcome) (t : State) : Prop := o = .returned (some (.int 1)) ∧ Framed s o t [] 50 6756
def lw_Z (below : List Frame) (a : Array Value) (s : State) : State → Prop := fun t => ∃ o, t.status = .running ∧ Ended t below o ∧ lw_Q a s o t
/-- the law's own end, with 1 on the stack, nothing written that was there before, its room as the claim has it -/
theorem lw_ret {p : Program} {l : Launch} {e : Env} {s : State} {m : MethodId} {below : List Frame} {meth : Method} {c : Code} {b : Nat} (hx : p.tables.exec = Jvm.exec) (hb : c.code = code) (hr : meth.sig.returnType = ret) (hlocks : meth.locks = false) {pc : Nat} {H : Heap} {ls : Array Slot} (hdg : decode code pc = .ok (.ireturn, 1)) : W p l e room_1 s m #[Value.ref b] below meth c H [] 50 6756 (lw_Z below #[Value.ref b] s) (F0 m pc ls [.int 1]) := by
  intro T hT X
  obtain ⟨fs, hret, hrun, hended, hW, hframe⟩ := X.leave (v := some (.int 1)) (hlocks := hlocks) (fun h => by rw [hr] at h; cases h)
  have hmeth' : T.vm.method? m = some meth := X.method'
  refine ⟨T.setFrames fs, ?_, .returned (some (.int 1)), hrun, hended, rfl, ⟨_, rfl⟩, hW, hframe⟩
  jvm_step X.here [X.here.top, hx, hb, hdg, hmeth', hr, ret, narrow_b1]
  (try refine ⟨rfl, ?_⟩); (try refine ⟨rfl, ?_⟩)
  first | (intro acts; rw [hret _ acts rfl rfl rfl]) | rw [hret _ _ rfl rfl rfl]
  exact Steps.refl _
/-- what holds at the law's entry: the machine, the code, the tables' words (any of lw_tbl by 'hts w (by decide +kernel)'), the script of L ints xs at the cell b, what the Statement gives of the start (any of its parts by flat_of_before) -/
def lw_At (p : Program) (s : State) (m : MethodId) (meth : Method) (c : Code) (b L : Nat) (xs : Nat → Int32) : Prop :=
  p.tables.exec = Jvm.exec ∧ c.code = code ∧ meth.sig.returnType = ret ∧ c.maxLocals = 4 ∧ s.vm.findClass R_law = some m.cls ∧ (∀ w ∈ lw_tbl, w.before #[Value.ref b] s = true) ∧ va_X b L xs s s.heap ∧ b < s.heap.size ∧ meth.locks = false ∧ (Jvm.Cond.and given_1 narrow_1).before #[Value.ref b] s = true

def lwA (s : State) : Nat → Prop := fun q => s.heap.size ≤ q
abbrev LWd (D : va_G) (aI aL : ClassId) (aX aM : Nat → Nat) (σX σM : Sg) (s : State) (H : Heap) (locs : List Loc) : Prop :=
  Wd D aI aL 42 shX aX σX H ∧ Wd D aI aL 8 shM aM σM H ∧ va_S (lwA s) s.heap H locs ∧ Inj aX 42 ∧ Inj aM 8 ∧ (∀ i, i < 42 → s.heap.size ≤ aX i) ∧ (∀ j, j < 8 → s.heap.size ≤ aM j) ∧ ∀ i j, i < 42 → j < 8 → aX i ≠ aM j
section LLW
variable {p : Program} {l : Launch} {e : Env} {R : Room} {s : State} {m : MethodId} {args : Array Value} {below : List Frame} {meth : Method} {c : Code} {H : Heap} {locs : List Loc} {Q : State → Prop}
variable {cc : ByteArray} {nL : Nat} {own : String} {D : va_G} {aI aL : ClassId} {N : Nat} {sh : Sh} {ad aX aM : Nat → Nat} {σ σX σM : Sg} {pc : Nat} {ls : Array Slot} {rest : List Value} {cells slots : Nat}
variable {y : MethodName} {b : ByteArray} {mx fr lo index : Nat} {ret : Option FieldType} {Qc : Array Value → State → Outcome → State → Prop}
theorem Wd_kept {H1 : Heap} (h : Wd D aI aL N sh ad σ H) (hk : ∀ k, k < N → H1[ad k]? = H[ad k]?) : Wd D aI aL N sh ad σ H1 := by
  refine va_P.kept h (fun k q hq => ?_)
  obtain ⟨h1, rfl⟩ := wl_in hq
  exact hk k h1
theorem Wd_lt (h : Wd D aI aL N sh ad σ H) {k : Nat} (hk : k < N) : ad k < H.size := (h k _ (wl_get hk)).lt
theorem y_rV (hF : CallFix p m c cc nL s args WA own) (hK : va_K D vwCl (tysIL aI aL) s) (hN : NW s) (hW : Wd D aI aL N sh ad σ H) {k : Nat} {As st0 : List Value} (hM : Met l y (wS y b mx ret) (RM fr lo) (Pw D aI aL N sh ad H.size σ (.ref (ad k) :: As)) Qc 0 0 (AA ad N H.size)) {Cn : String} (hG : GoodIn WA (wsV own index Cn y (wS y b mx ret))) (n : Nat) (hd : y.cls = Cn ∧ y.cls ≠ "java/lang/invoke/MethodHandle" ∧ y.cls ≠ "java/lang/invoke/VarHandle" ∧ (parseMethodDescriptor y.desc).map (fun d => d.parameters.length) = some n) (hR : fr + 1 ≤ R.frames ∧ 8 + (mx + 11) + lo ≤ R.locals) (hk : k < N) (ci : Nat) {Nf : Nat} {fl : List (Nat ⊕ Nat)} (hsh : sh k = (ci + 2, Nf, fl)) {T : u_T} (hc : vwCl[ci]? = some (Cn, T, Nf)) (hn : As.length = n) (hls : ls.size = nL) (hcs : cells ≤ R.cells ∧ slots ≤ R.slots) (hst : st0 = As.reverse ++ .ref (ad k) :: rest) (hWr : (rest.map fun v => v.category).sum ≤ 8) (d : decode cc pc = .ok (.invokevirtual index, 3)) :
    va_Run p l e R s m args below meth c H locs cells slots 0 0 (F0 m pc ls st0) rest (Qc (Value.ref (ad k) :: As).toArray) (AA ad N H.size) := by
  have hblind := Pw_blind (D := D) (aI := aI) (aL := aL) (N := N) (sh := sh) (ad := ad) (σ := σ) (sz := H.size) (av := .ref (ad k) :: As)
  exact va_runV (As := As) (rest := rest) hF hM (cwV n hF.2.2.2.2 hG rfl rfl rfl hd hR) ⟨hblind, va_recv hK hW (q0 := k) hc (by rw [wl_get hk, hsh]; rfl), fun U hU hWm => ⟨rfl, by rw [hU], by rw [hU]; exact hW, va_K.moved hWm.alike hK, NW_warm hWm hN⟩⟩ rfl hn hls hst (lv_room hWr) d hcs
theorem lwX {H1 : Heap} {locs1 : List Loc} {σ0 : Sg} (hP : LWd D aI aL aX aM σX σM s H locs) (h1 : Wd D aI aL 42 shX aX σ0 H1) (hk : ∀ q : Nat, q < H.size → ¬ AA aX 42 H.size q → H1[q]? = H[q]?) (hS1 : va_S (lwA s) s.heap H1 locs1) : LWd D aI aL aX aM σ0 σM s H1 locs1 := by
  obtain ⟨hX, hM, hS, iX, iM, gX, gM, dis⟩ := hP
  refine ⟨h1, Wd_kept hM (fun j hj => hk _ (Wd_lt hM hj) ?_), hS1, iX, iM, gX, gM, dis⟩
  rintro (⟨i, hi, e⟩ | h)
  · exact dis i j hi hj e.symm
  · exact absurd (Wd_lt hM hj) (by omega)
theorem lwM {H1 : Heap} {locs1 : List Loc} {σ0 : Sg} (hP : LWd D aI aL aX aM σX σM s H locs) (h1 : Wd D aI aL 8 shM aM σ0 H1) (hk : ∀ q : Nat, q < H.size → ¬ AA aM 8 H.size q → H1[q]? = H[q]?) (hS1 : va_S (lwA s) s.heap H1 locs1) : LWd D aI aL aX aM σX σ0 s H1 locs1 := by
  obtain ⟨hX, hM, hS, iX, iM, gX, gM, dis⟩ := hP
  refine ⟨Wd_kept hX (fun i hi => hk _ (Wd_lt hX hi) ?_), h1, hS1, iX, iM, gX, gM, dis⟩
  rintro (⟨j, hj, e⟩ | h)
  · exact dis i j hi hj e
  · exact absurd (Wd_lt hX hi) (by omega)
theorem gX_A (hP : LWd D aI aL aX aM σX σM s H locs) : ∀ q, AA aX 42 H.size q → lwA s q := by
  rintro q (⟨i, hi, rfl⟩ | h)
  · exact hP.2.2.2.2.2.1 i hi
  · exact Nat.le_trans hP.2.2.1.1 h
theorem gM_A (hP : LWd D aI aL aX aM σX σM s H locs) : ∀ q, AA aM 8 H.size q → lwA s q := by
  rintro q (⟨i, hi, rfl⟩ | h)
  · exact hP.2.2.2.2.2.2.1 i hi
  · exact Nat.le_trans hP.2.2.1.1 h
theorem y_ciX {r0 : Int32} {σ0 : Sg} {a : Array Value} {st0 : List Value} (hr : va_Run p l e R s m args below meth c H locs cells slots 0 0 (F0 m pc ls st0) rest (Qi D aI aL 42 shX aX r0 σ0 H.size a) (AA aX 42 H.size)) (hP : LWd D aI aL aX aM σX σM s H locs)
    (kk : ∀ (H1 : Heap) (locs1 : List Loc), LWd D aI aL aX aM σ0 σM s H1 locs1 → W p l e R s m args below meth c H1 locs1 cells slots Q (F0 m (pc + 3) ls (.int r0 :: rest))) : W p l e R s m args below meth c H locs cells slots Q (F0 m pc ls st0) := by
  refine va_calli (A0 := lwA s) hr hP.2.2.1 (fun q _ h => gX_A hP q h) (fun q h => gX_A hP q h) (fun r u t H1 locs1 ht hvm hp hB hz hk hS1 => ?_)
  obtain ⟨rfl, rfl⟩ := hp
  exact kk H1 locs1 (lwX hP (by rw [← ht]; exact hB) hk hS1)
theorem y_clX {r0 : Int64} {σ0 : Sg} {a : Array Value} {st0 : List Value} (hr : va_Run p l e R s m args below meth c H locs cells slots 0 0 (F0 m pc ls st0) rest (Ql D aI aL 42 shX aX r0 σ0 H.size a) (AA aX 42 H.size)) (hP : LWd D aI aL aX aM σX σM s H locs)
    (kk : ∀ (H1 : Heap) (locs1 : List Loc), LWd D aI aL aX aM σ0 σM s H1 locs1 → W p l e R s m args below meth c H1 locs1 cells slots Q (F0 m (pc + 3) ls (.long r0 :: rest))) : W p l e R s m args below meth c H locs cells slots Q (F0 m pc ls st0) := by
  refine va_calll (A0 := lwA s) hr hP.2.2.1 (fun q _ h => gX_A hP q h) (fun q h => gX_A hP q h) (fun r u t H1 locs1 ht hvm hp hB hz hk hS1 => ?_)
  obtain ⟨rfl, rfl⟩ := hp
  exact kk H1 locs1 (lwX hP (by rw [← ht]; exact hB) hk hS1)
theorem y_ciM {r0 : Int32} {σ0 : Sg} {a : Array Value} {st0 : List Value} (hr : va_Run p l e R s m args below meth c H locs cells slots 0 0 (F0 m pc ls st0) rest (Qi D aI aL 8 shM aM r0 σ0 H.size a) (AA aM 8 H.size)) (hP : LWd D aI aL aX aM σX σM s H locs)
    (kk : ∀ (H1 : Heap) (locs1 : List Loc), LWd D aI aL aX aM σX σ0 s H1 locs1 → W p l e R s m args below meth c H1 locs1 cells slots Q (F0 m (pc + 3) ls (.int r0 :: rest))) : W p l e R s m args below meth c H locs cells slots Q (F0 m pc ls st0) := by
  refine va_calli (A0 := lwA s) hr hP.2.2.1 (fun q _ h => gM_A hP q h) (fun q h => gM_A hP q h) (fun r u t H1 locs1 ht hvm hp hB hz hk hS1 => ?_)
  obtain ⟨rfl, rfl⟩ := hp
  exact kk H1 locs1 (lwM hP (by rw [← ht]; exact hB) hk hS1)
theorem y_clM {r0 : Int64} {σ0 : Sg} {a : Array Value} {st0 : List Value} (hr : va_Run p l e R s m args below meth c H locs cells slots 0 0 (F0 m pc ls st0) rest (Ql D aI aL 8 shM aM r0 σ0 H.size a) (AA aM 8 H.size)) (hP : LWd D aI aL aX aM σX σM s H locs)
    (kk : ∀ (H1 : Heap) (locs1 : List Loc), LWd D aI aL aX aM σX σ0 s H1 locs1 → W p l e R s m args below meth c H1 locs1 cells slots Q (F0 m (pc + 3) ls (.long r0 :: rest))) : W p l e R s m args below meth c H locs cells slots Q (F0 m pc ls st0) := by
  refine va_calll (A0 := lwA s) hr hP.2.2.1 (fun q _ h => gM_A hP q h) (fun q h => gM_A hP q h) (fun r u t H1 locs1 ht hvm hp hB hz hk hS1 => ?_)
  obtain ⟨rfl, rfl⟩ := hp
  exact kk H1 locs1 (lwM hP (by rw [← ht]; exact hB) hk hS1)
end LLW
def simC0 (Sim : Sg → Sg → Prop) : Prop := ∀ σX σM : Sg, Sim σX σM → ∀ (v1 : Int32) (v2 : Int64), ∃ (r : Int32) (σX2 : Sg) (σM2 : Sg), f_X8_write v1 v2 σX = some (r, σX2) ∧ f_X9_write v1 v2 σM = some (r, σM2) ∧ Sim σX2 σM2
def simC1 (Sim : Sg → Sg → Prop) : Prop := ∀ σX σM : Sg, Sim σX σM → ∃ (r : Int32) (σX2 : Sg) (σM2 : Sg), f_X8_wipe σX = some (r, σX2) ∧ f_X9_wipe σM = some (r, σM2) ∧ Sim σX2 σM2
def simC2 (Sim : Sg → Sg → Prop) : Prop := ∀ σX σM : Sg, Sim σX σM → ∃ (r : Int32) (σX2 : Sg) (σM2 : Sg), f_X8_fault σX = some (r, σX2) ∧ f_X9_fault σM = some (r, σM2) ∧ Sim σX2 σM2
def simC3 (Sim : Sg → Sg → Prop) : Prop := ∀ σX σM : Sg, Sim σX σM → ∃ (r : Int32) (σX2 : Sg) (σM2 : Sg), f_X8_layFloor σX = some (r, σX2) ∧ f_X9_layFloor σM = some (r, σM2) ∧ Sim σX2 σM2
def simC4 (Sim : Sg → Sg → Prop) : Prop := ∀ σX σM : Sg, Sim σX σM → ∀ (v1 : Int32) (v2 : Int32), ∃ (r : Int32), f_X8_stone v1 v2 σX = some r ∧ f_X9_stone v1 v2 σM = some r ∧ Sim σX σM
def simC5 (Sim : Sg → Sg → Prop) : Prop := ∀ σX σM : Sg, Sim σX σM → ∀ (v1 : Int32) (v2 : Int32), ∃ (r : Int32), f_X8_step v1 v2 σX = some r ∧ f_X9_step v1 v2 σM = some r ∧ Sim σX σM
def simC6 (Sim : Sg → Sg → Prop) : Prop := ∀ σX σM : Sg, Sim σX σM → ∀ (v1 : Int32), ∃ (r : Int32) (σX2 : Sg) (σM2 : Sg), f_X8_go v1 σX = some (r, σX2) ∧ f_X9_go v1 σM = some (r, σM2) ∧ Sim σX2 σM2
def simC7 (Sim : Sg → Sg → Prop) : Prop := ∀ σX σM : Sg, Sim σX σM → ∀ (v1 : Int32), ∃ (r : Int32) (σX2 : Sg) (σM2 : Sg), f_X8_takeOut v1 σX = some (r, σX2) ∧ f_X9_takeOut v1 σM = some (r, σM2) ∧ Sim σX2 σM2
def simC8 (Sim : Sg → Sg → Prop) : Prop := ∀ σX σM : Sg, Sim σX σM → ∀ (v1 : Int32) (v2 : Int32) (v3 : Int32), ∃ (r : Int32) (σX2 : Sg) (σM2 : Sg), f_X8_lay v1 v2 v3 σX = some (r, σX2) ∧ f_X9_lay v1 v2 v3 σM = some (r, σM2) ∧ Sim σX2 σM2
def simC9 (Sim : Sg → Sg → Prop) : Prop := ∀ σX σM : Sg, Sim σX σM → ∃ (r : Int32) (σX2 : Sg) (σM2 : Sg), f_X8_undo σX = some (r, σX2) ∧ f_X9_undo σM = some (r, σM2) ∧ Sim σX2 σM2
def simC10 (Sim : Sg → Sg → Prop) : Prop := ∀ σX σM : Sg, Sim σX σM → ∀ (v1 : Int32), ∃ (r : Int32), f_X8_reach v1 σX = some r ∧ f_X9_reach v1 σM = some r ∧ Sim σX σM
def simC11 (Sim : Sg → Sg → Prop) : Prop := ∀ σX σM : Sg, Sim σX σM → ∀ (v1 : Int32) (v2 : Int32), ∃ (r : Int64) (σX2 : Sg) (σM2 : Sg), f_X8_walk v1 v2 σX = some (r, σX2) ∧ f_X9_walk v1 v2 σM = some (r, σM2) ∧ Sim σX2 σM2
def simC12 (Sim : Sg → Sg → Prop) : Prop := ∀ σX σM : Sg, Sim σX σM → ∀ (v1 : Int32), ∃ (r : Int32), f_X8_round v1 σX = some r ∧ f_X9_round v1 σM = some r ∧ Sim σX σM
def simC13 (Sim : Sg → Sg → Prop) : Prop := ∀ σX σM : Sg, Sim σX σM → ∀ (v1 : Int32) (v2 : Int32), ∃ (r : Int32), f_X8_needs v1 v2 σX = some r ∧ f_X9_needs v1 v2 σM = some r ∧ Sim σX σM
def simC14 (Sim : Sg → Sg → Prop) : Prop := ∀ σX σM : Sg, Sim σX σM → ∀ (v1 : Int32), ∃ (r : Int32), f_X8_lost v1 σX = some r ∧ f_X9_lost v1 σM = some r ∧ Sim σX σM
def simC15 (Sim : Sg → Sg → Prop) : Prop := ∀ σX σM : Sg, Sim σX σM → ∀ (v1 : Int32), ∃ (r : Int32), f_X8_begin v1 σX = some r ∧ f_X9_begin v1 σM = some r ∧ Sim σX σM
def simC16 (Sim : Sg → Sg → Prop) : Prop := ∀ σX σM : Sg, Sim σX σM → ∀ (v1 : Int32), ∃ (r : Int32), f_X8_hall v1 σX = some r ∧ f_X9_hall v1 σM = some r ∧ Sim σX σM
def simC17 (Sim : Sg → Sg → Prop) : Prop := ∀ σX σM : Sg, Sim σX σM → ∃ (r : Int32), f_X8_rope σX = some r ∧ f_X9_rope σM = some r ∧ Sim σX σM
def simC18 (Sim : Sg → Sg → Prop) : Prop := ∀ σX σM : Sg, Sim σX σM → ∃ (r : Int32), f_X8_idle σX = some r ∧ f_X9_idle σM = some r ∧ Sim σX σM
def simC19 (Sim : Sg → Sg → Prop) : Prop := ∀ σX σM : Sg, Sim σX σM → ∃ (r : Int32), f_X8_circle σX = some r ∧ f_X9_circle σM = some r ∧ Sim σX σM
def simC20 (Sim : Sg → Sg → Prop) : Prop := ∀ σX σM : Sg, Sim σX σM → ∃ (r : Int32) (σM2 : Sg), f_X8_deep σX = some r ∧ f_X9_deep σM = some (r, σM2) ∧ Sim σX σM2
def simC21 (Sim : Sg → Sg → Prop) : Prop := ∀ σX σM : Sg, Sim σX σM → ∀ (v1 : Int32) (v2 : Int32), ∃ (r : Int32) (σX2 : Sg), f_X8_proofs v1 v2 σX = some (r, σX2) ∧ f_X9_proofs v1 v2 σM = some r ∧ Sim σX2 σM
def simC22 (Sim : Sg → Sg → Prop) : Prop := ∀ σX σM : Sg, Sim σX σM → ∀ (v1 : Int32) (v2 : Int32), ∃ (r : Int32) (σX2 : Sg), f_X8_worn v1 v2 σX = some (r, σX2) ∧ f_X9_worn v1 v2 σM = some r ∧ Sim σX2 σM
def simC23 (Sim : Sg → Sg → Prop) : Prop := ∀ σX σM : Sg, Sim σX σM → ∀ (v1 : Int32), ∃ (r : Int32) (σX2 : Sg) (σM2 : Sg), f_X8_tell v1 σX = some (r, σX2) ∧ f_X9_tell v1 σM = some (r, σM2) ∧ Sim σX2 σM2
def simC24 (Sim : Sg → Sg → Prop) : Prop := ∀ σX σM : Sg, Sim σX σM → ∃ (r : Int32) (σX2 : Sg) (σM2 : Sg), f_X8_noRow σX = some (r, σX2) ∧ f_X9_noRow σM = some (r, σM2) ∧ Sim σX2 σM2
def simC25 (Sim : Sg → Sg → Prop) : Prop := ∀ σX σM : Sg, Sim σX σM → ∃ (r : Int32), f_X8_judge σX = some r ∧ f_X9_judge σM = some r ∧ Sim σX σM
def simC26 (Sim : Sg → Sg → Prop) : Prop := ∀ σX σM : Sg, Sim σX σM → ∀ (v1 : Int32) (v2 : Int32) (v3 : Int32), ∃ (r : Int32), f_X8_year v1 v2 v3 σX = some r ∧ f_X9_year v1 v2 v3 σM = some r ∧ Sim σX σM
def simC27 (Sim : Sg → Sg → Prop) : Prop := ∀ σX σM : Sg, Sim σX σM → ∃ (r : Int32) (σX2 : Sg) (σM2 : Sg), f_X8_keep σX = some (r, σX2) ∧ f_X9_keep σM = some (r, σM2) ∧ Sim σX2 σM2
def simC28 (Sim : Sg → Sg → Prop) : Prop := ∀ σX σM : Sg, Sim σX σM → ∃ (r : Int32) (σX2 : Sg) (σM2 : Sg), f_X8_back σX = some (r, σX2) ∧ f_X9_back σM = some (r, σM2) ∧ Sim σX2 σM2
def simC29 (Sim : Sg → Sg → Prop) : Prop := ∀ σX σM : Sg, Sim σX σM → ∀ (v1 : Int32), ∃ (r : Int32), f_X8_count v1 σX = some r ∧ f_X9_count v1 σM = some r ∧ Sim σX σM
abbrev simAll (Sim : Sg → Sg → Prop) : Prop := simC0 Sim ∧ simC1 Sim ∧ simC2 Sim ∧ simC3 Sim ∧ simC4 Sim ∧ simC5 Sim ∧ simC6 Sim ∧ simC7 Sim ∧ simC8 Sim ∧ simC9 Sim ∧ simC10 Sim ∧ simC11 Sim ∧ simC12 Sim ∧ simC13 Sim ∧ simC14 Sim ∧ simC15 Sim ∧ simC16 Sim ∧ simC17 Sim ∧ simC18 Sim ∧ simC19 Sim ∧ simC20 Sim ∧ simC21 Sim ∧ simC22 Sim ∧ simC23 Sim ∧ simC24 Sim ∧ simC25 Sim ∧ simC26 Sim ∧ simC27 Sim ∧ simC28 Sim ∧ simC29 Sim
set_option maxHeartbeats 16000000 in
set_option maxRecDepth 100000 in
theorem law_loop {p : Program} {l : Launch} {e : Env} {s : State} {m : MethodId} {below : List Frame} {meth : Method} {c : Code} {D : va_G} {aI aL : ClassId} {b L : Nat} {xs : Nat → Int32} {Sim : Sg → Sg → Prop} (hsim : simAll Sim) (hL : L ≤ 2048) (C0 : lw_At p s m meth c b L xs) (hK : va_K D vwCl (tysIL aI aL) s) (hN : NW s) (aX aM : Nat → Nat) :
    ∀ (t n : Nat), L + 5 ≤ n + t → n ≤ L + 4 → ∀ (σX σM : Sg), Sim σX σM → ∀ (H : Heap) (locs : List Loc), LWd D aI aL aX aM σX σM s H locs → ∀ (ls : Array Slot), lv_has ls 4 [(0, .ref b), (1, .ref (aX 0)), (2, .ref (aM 0)), (3, .int (nI n))] → W p l e room_1 s m #[Value.ref b] below meth c H locs 50 6756 (lw_Z below #[Value.ref b] s) (F0 m 18 ls []) := by
  obtain ⟨hx, hb, hr, hml, hown, hts, hX, hbl, hlocks, hgv⟩ := C0
  have hF : CallFix p m c code 4 s #[Value.ref b] WA R_law := ⟨hx, hb, hml, hown, fun w h => hts w (wa_tbl w h)⟩
  have hbA : ¬ lwA s b := Nat.not_le.mpr hbl
  have htw := hF.2.2.2.2
  intro t
  induction t with
  | zero =>
    intro n h1 h2
    exact absurd h1 (by omega)
  | succ t ih =>
    intro n h1 h2 σX σM hs H locs hP ls hl
    have hlen : (nI L - (4 : Int32)).toInt = (L : Int) - 4 := pk_sub_toInt (a := L) (b := 4) (by omega) (by omega)
    have hni : (nI n).toInt = (n : Int) := nI_toInt (by omega)
    refine lv_iload_n hx hb dL_law_18 rfl (lv_at hl 3 rfl) ?_
    refine lv_aload_n hx hb dL_law_19 rfl (lv_at hl 0 rfl) ?_
    refine va_slen hx hb hX hbl hbA hP.2.2.1 dL_law_20 ?_
    refine lv_iconst (v := 4) hx hb dL_law_21 (by decide) ?_
    refine lv_isub hx hb dL_law_22 ?_
    refine lv_icmp_gt (tgt := 885) hx hb dL_law_23 (by decide) (fun hc => ?_) (fun hc => ?_)
    · refine lv_iconst (v := 1) hx hb dL_law_885 (by decide) ?_
      refine va_forget (fun q hq => hP.2.2.1.2.2 q hq) ?_
      exact lw_ret hx hb hr hlocks dL_law_886
    · have hn4 : n + 4 ≤ L := by
        rcases Nat.lt_or_ge L (n + 4) with q | q
        · exact absurd (Int32.lt_iff_toInt_lt.mpr (by rw [show (Int32.ofNat L) = nI L from rfl, hlen, hni]; omega)) hc
        · exact q
      have ix1 : nI n + 1 = nI (n + 1) := nI_1 n
      have ix2 : nI n + 2 = nI (n + 2) := nI_add n 2
      have ix3 : nI n + 3 = nI (n + 3) := nI_add n 3
      have c0 : (nI n).toNatClampNeg = n := nI_clamp (by omega)
      have c1 : (nI n + 1).toNatClampNeg = n + 1 := by rw [ix1]; exact nI_clamp (by omega)
      have c2 : (nI n + 2).toNatClampNeg = n + 2 := by rw [ix2]; exact nI_clamp (by omega)
      have c3 : (nI n + 3).toNatClampNeg = n + 3 := by rw [ix3]; exact nI_clamp (by omega)
      have in0 : vp_in (nI n) L := vp_in_nI (by omega) (by omega)
      have in1 : vp_in (nI n + 1) L := by rw [ix1]; exact vp_in_nI (by omega) (by omega)
      have in2 : vp_in (nI n + 2) L := by rw [ix2]; exact vp_in_nI (by omega) (by omega)
      have in3 : vp_in (nI n + 3) L := by rw [ix3]; exact vp_in_nI (by omega) (by omega)
      have hgo : ∀ (σX σM : Sg), Sim σX σM → ∀ (H : Heap) (locs : List Loc), LWd D aI aL aX aM σX σM s H locs → W p l e room_1 s m #[Value.ref b] below meth c H locs 50 6756 (lw_Z below #[Value.ref b] s) (F0 m 879 ls []) := by
        intro σX σM hs H locs hP
        refine lv_iinc (v := nI (n + 4)) (lv' := [(3, .int (nI (n + 4))), (0, .ref b), (1, .ref (aX 0)), (2, .ref (aM 0))]) hx hb dL_law_879 hl (k := 3) rfl (nI_add n 4) (by decide) rfl (fun ls hl => ?_)
        refine lv_goto (tgt := 18) hx hb dL_law_882 (by decide) ?_
        exact ih (n + 4) (by omega) (by omega) σX σM hs H locs hP ls (lv_sub hl [1, 2, 3, 0] rfl)
      refine lv_aload_n hx hb dL_law_26 rfl (lv_at hl 0 rfl) ?_
      refine lv_iload_n hx hb dL_law_27 rfl (lv_at hl 3 rfl) ?_
      refine va_sld hx hb hX hbl hbA hP.2.2.1 in0 dL_law_28 ?_
      refine lv_bipush (v := 31) hx hb dL_law_29 (by decide) ?_
      refine lv_iand hx hb dL_law_31 ?_
      refine lv_topi (fun x ex => ?_)
      by_cases hc0 : x = 0
      · refine lv_tableIn (off := 136) (tgt := 168) hx hb dL_law_32 (by rw [hc0]; decide +kernel) (by rw [hc0]; decide +kernel) (by rw [hc0]; decide +kernel) (by decide) ?_
        obtain ⟨r, σX2, σM2, e1, e2, hs2⟩ := hsim.1 σX σM hs (xs (n + 1)) (((xs (n + 2)).toInt64 <<< ((32 : Int32).toInt64 &&& 63)) ||| ((xs (n + 3)).toInt64 &&& 4294967295))
        refine lv_aload_n hx hb dL_law_168 rfl (lv_at hl 1 rfl) ?_
        refine lv_aload_n hx hb dL_law_169 rfl (lv_at hl 0 rfl) ?_
        refine lv_iload_n hx hb dL_law_170 rfl (lv_at hl 3 rfl) ?_
        refine lv_iconst (v := 1) hx hb dL_law_171 (by decide) ?_
        refine lv_iadd hx hb dL_law_172 ?_
        refine va_sld hx hb hX hbl hbA hP.2.2.1 in1 dL_law_173 ?_
        refine w_ni (v := xs (n + 1)) (by rw [c1]) ?_
        refine lv_aload_n hx hb dL_law_174 rfl (lv_at hl 0 rfl) ?_
        refine lv_iload_n hx hb dL_law_175 rfl (lv_at hl 3 rfl) ?_
        refine lv_iconst (v := 2) hx hb dL_law_176 (by decide) ?_
        refine lv_iadd hx hb dL_law_177 ?_
        refine va_sld hx hb hX hbl hbA hP.2.2.1 in2 dL_law_178 ?_
        refine w_ni (v := xs (n + 2)) (by rw [c2]) ?_
        refine lv_i2l hx hb dL_law_179 rfl ?_
        refine lv_bipush (v := 32) hx hb dL_law_180 (by decide) ?_
        refine lv_lshl hx hb dL_law_182 rfl ?_
        refine lv_aload_n hx hb dL_law_183 rfl (lv_at hl 0 rfl) ?_
        refine lv_iload_n hx hb dL_law_184 rfl (lv_at hl 3 rfl) ?_
        refine lv_iconst (v := 3) hx hb dL_law_185 (by decide) ?_
        refine lv_iadd hx hb dL_law_186 ?_
        refine va_sld hx hb hX hbl hbA hP.2.2.1 in3 dL_law_187 ?_
        refine w_ni (v := xs (n + 3)) (by rw [c3]) ?_
        refine lv_i2l hx hb dL_law_188 rfl ?_
        refine lv_ldc2 hx hb hown (htw _ wt1059) dL_law_189 ?_
        refine lv_land hx hb dL_law_192 ?_
        refine lv_lor hx hb dL_law_193 ?_
        refine y_ciX (y_rV (As := [.int (xs (n + 1)), .long ((((xs (n + 2)).toInt64) <<< ((32 : Int32).toInt64 &&& 63)) ||| (((xs (n + 3)).toInt64) &&& 4294967295))]) (rest := []) (k := 0) hF hK hN hP.1 (c_X8_write l D aI aL aX hP.2.2.2.1 H.size σX (xs (n + 1)) (((xs (n + 2)).toInt64 <<< ((32 : Int32).toInt64 &&& 63)) ||| ((xs (n + 3)).toInt64 &&& 4294967295)) (r, σX2) e1) (gV wt322 wt323 wt324 wt1 wt325) 2 hd_X8_write ⟨Nat.le_of_ble_eq_true rfl, Nat.le_of_ble_eq_true rfl⟩ (by decide) 6 rfl rfl rfl hl.1 ⟨Nat.le_of_ble_eq_true rfl, Nat.le_of_ble_eq_true rfl⟩ rfl (Nat.le_of_ble_eq_true rfl) dL_law_194) hP (fun H locs hP => ?_)
        refine lv_aload_n hx hb dL_law_197 rfl (lv_at hl 2 rfl) ?_
        refine lv_aload_n hx hb dL_law_198 rfl (lv_at hl 0 rfl) ?_
        refine lv_iload_n hx hb dL_law_199 rfl (lv_at hl 3 rfl) ?_
        refine lv_iconst (v := 1) hx hb dL_law_200 (by decide) ?_
        refine lv_iadd hx hb dL_law_201 ?_
        refine va_sld hx hb hX hbl hbA hP.2.2.1 in1 dL_law_202 ?_
        refine w_ni (v := xs (n + 1)) (by rw [c1]) ?_
        refine lv_aload_n hx hb dL_law_203 rfl (lv_at hl 0 rfl) ?_
        refine lv_iload_n hx hb dL_law_204 rfl (lv_at hl 3 rfl) ?_
        refine lv_iconst (v := 2) hx hb dL_law_205 (by decide) ?_
        refine lv_iadd hx hb dL_law_206 ?_
        refine va_sld hx hb hX hbl hbA hP.2.2.1 in2 dL_law_207 ?_
        refine w_ni (v := xs (n + 2)) (by rw [c2]) ?_
        refine lv_i2l hx hb dL_law_208 rfl ?_
        refine lv_bipush (v := 32) hx hb dL_law_209 (by decide) ?_
        refine lv_lshl hx hb dL_law_211 rfl ?_
        refine lv_aload_n hx hb dL_law_212 rfl (lv_at hl 0 rfl) ?_
        refine lv_iload_n hx hb dL_law_213 rfl (lv_at hl 3 rfl) ?_
        refine lv_iconst (v := 3) hx hb dL_law_214 (by decide) ?_
        refine lv_iadd hx hb dL_law_215 ?_
        refine va_sld hx hb hX hbl hbA hP.2.2.1 in3 dL_law_216 ?_
        refine w_ni (v := xs (n + 3)) (by rw [c3]) ?_
        refine lv_i2l hx hb dL_law_217 rfl ?_
        refine lv_ldc2 hx hb hown (htw _ wt1059) dL_law_218 ?_
        refine lv_land hx hb dL_law_221 ?_
        refine lv_lor hx hb dL_law_222 ?_
        refine y_ciM (y_rV (As := [.int (xs (n + 1)), .long ((((xs (n + 2)).toInt64) <<< ((32 : Int32).toInt64 &&& 63)) ||| (((xs (n + 3)).toInt64) &&& 4294967295))]) (rest := [.int r]) (k := 0) hF hK hN hP.2.1 (c_X9_write l D aI aL aM hP.2.2.2.2.1 H.size σM (xs (n + 1)) (((xs (n + 2)).toInt64 <<< ((32 : Int32).toInt64 &&& 63)) ||| ((xs (n + 3)).toInt64 &&& 4294967295)) (r, σM2) e2) (gV wt825 wt826 wt827 wt12 wt828) 2 hd_X9_write ⟨Nat.le_of_ble_eq_true rfl, Nat.le_of_ble_eq_true rfl⟩ (by decide) 7 rfl rfl rfl hl.1 ⟨Nat.le_of_ble_eq_true rfl, Nat.le_of_ble_eq_true rfl⟩ rfl (Nat.le_of_ble_eq_true rfl) dL_law_223) hP (fun H locs hP => ?_)
        refine lv_icmp_eq (tgt := 879) hx hb dL_law_226 (by decide) (fun _ => ?_) (fun hc => absurd rfl hc)
        exact hgo _ _ hs2 _ _ hP
      by_cases hc1 : x = 1
      · refine lv_tableIn (off := 199) (tgt := 231) hx hb dL_law_32 (by rw [hc1]; decide +kernel) (by rw [hc1]; decide +kernel) (by rw [hc1]; decide +kernel) (by decide) ?_
        obtain ⟨r, σX2, σM2, e1, e2, hs2⟩ := hsim.2.1 σX σM hs
        refine lv_aload_n hx hb dL_law_231 rfl (lv_at hl 1 rfl) ?_
        refine y_ciX (y_rV (As := []) (rest := []) (k := 0) hF hK hN hP.1 (c_X8_wipe l D aI aL aX hP.2.2.2.1 H.size σX (r, σX2) e1) (gV wt328 wt329 wt330 wt1 wt331) 0 hd_X8_wipe ⟨Nat.le_of_ble_eq_true rfl, Nat.le_of_ble_eq_true rfl⟩ (by decide) 6 rfl rfl rfl hl.1 ⟨Nat.le_of_ble_eq_true rfl, Nat.le_of_ble_eq_true rfl⟩ rfl (Nat.le_of_ble_eq_true rfl) dL_law_232) hP (fun H locs hP => ?_)
        refine lv_aload_n hx hb dL_law_235 rfl (lv_at hl 2 rfl) ?_
        refine y_ciM (y_rV (As := []) (rest := [.int r]) (k := 0) hF hK hN hP.2.1 (c_X9_wipe l D aI aL aM hP.2.2.2.2.1 H.size σM (r, σM2) e2) (gV wt834 wt835 wt836 wt12 wt837) 0 hd_X9_wipe ⟨Nat.le_of_ble_eq_true rfl, Nat.le_of_ble_eq_true rfl⟩ (by decide) 7 rfl rfl rfl hl.1 ⟨Nat.le_of_ble_eq_true rfl, Nat.le_of_ble_eq_true rfl⟩ rfl (Nat.le_of_ble_eq_true rfl) dL_law_236) hP (fun H locs hP => ?_)
        refine lv_icmp_eq (tgt := 879) hx hb dL_law_239 (by decide) (fun _ => ?_) (fun hc => absurd rfl hc)
        exact hgo _ _ hs2 _ _ hP
      by_cases hc2 : x = 2
      · refine lv_tableIn (off := 212) (tgt := 244) hx hb dL_law_32 (by rw [hc2]; decide +kernel) (by rw [hc2]; decide +kernel) (by rw [hc2]; decide +kernel) (by decide) ?_
        obtain ⟨r, σX2, σM2, e1, e2, hs2⟩ := hsim.2.2.1 σX σM hs
        refine lv_aload_n hx hb dL_law_244 rfl (lv_at hl 1 rfl) ?_
        refine y_ciX (y_rV (As := []) (rest := []) (k := 0) hF hK hN hP.1 (c_X8_fault l D aI aL aX hP.2.2.2.1 H.size σX (r, σX2) e1) (gV wt332 wt333 wt334 wt1 wt335) 0 hd_X8_fault ⟨Nat.le_of_ble_eq_true rfl, Nat.le_of_ble_eq_true rfl⟩ (by decide) 6 rfl rfl rfl hl.1 ⟨Nat.le_of_ble_eq_true rfl, Nat.le_of_ble_eq_true rfl⟩ rfl (Nat.le_of_ble_eq_true rfl) dL_law_245) hP (fun H locs hP => ?_)
        refine lv_aload_n hx hb dL_law_248 rfl (lv_at hl 2 rfl) ?_
        refine y_ciM (y_rV (As := []) (rest := [.int r]) (k := 0) hF hK hN hP.2.1 (c_X9_fault l D aI aL aM hP.2.2.2.2.1 H.size σM (r, σM2) e2) (gV wt838 wt839 wt840 wt12 wt841) 0 hd_X9_fault ⟨Nat.le_of_ble_eq_true rfl, Nat.le_of_ble_eq_true rfl⟩ (by decide) 7 rfl rfl rfl hl.1 ⟨Nat.le_of_ble_eq_true rfl, Nat.le_of_ble_eq_true rfl⟩ rfl (Nat.le_of_ble_eq_true rfl) dL_law_249) hP (fun H locs hP => ?_)
        refine lv_icmp_eq (tgt := 879) hx hb dL_law_252 (by decide) (fun _ => ?_) (fun hc => absurd rfl hc)
        exact hgo _ _ hs2 _ _ hP
      by_cases hc3 : x = 3
      · refine lv_tableIn (off := 225) (tgt := 257) hx hb dL_law_32 (by rw [hc3]; decide +kernel) (by rw [hc3]; decide +kernel) (by rw [hc3]; decide +kernel) (by decide) ?_
        obtain ⟨r, σX2, σM2, e1, e2, hs2⟩ := hsim.2.2.2.1 σX σM hs
        refine lv_aload_n hx hb dL_law_257 rfl (lv_at hl 1 rfl) ?_
        refine y_ciX (y_rV (As := []) (rest := []) (k := 0) hF hK hN hP.1 (c_X8_layFloor l D aI aL aX hP.2.2.2.1 H.size σX (r, σX2) e1) (gV wt336 wt337 wt338 wt1 wt339) 0 hd_X8_layFloor ⟨Nat.le_of_ble_eq_true rfl, Nat.le_of_ble_eq_true rfl⟩ (by decide) 6 rfl rfl rfl hl.1 ⟨Nat.le_of_ble_eq_true rfl, Nat.le_of_ble_eq_true rfl⟩ rfl (Nat.le_of_ble_eq_true rfl) dL_law_258) hP (fun H locs hP => ?_)
        refine lv_aload_n hx hb dL_law_261 rfl (lv_at hl 2 rfl) ?_
        refine y_ciM (y_rV (As := []) (rest := [.int r]) (k := 0) hF hK hN hP.2.1 (c_X9_layFloor l D aI aL aM hP.2.2.2.2.1 H.size σM (r, σM2) e2) (gV wt865 wt866 wt867 wt12 wt868) 0 hd_X9_layFloor ⟨Nat.le_of_ble_eq_true rfl, Nat.le_of_ble_eq_true rfl⟩ (by decide) 7 rfl rfl rfl hl.1 ⟨Nat.le_of_ble_eq_true rfl, Nat.le_of_ble_eq_true rfl⟩ rfl (Nat.le_of_ble_eq_true rfl) dL_law_262) hP (fun H locs hP => ?_)
        refine lv_icmp_eq (tgt := 879) hx hb dL_law_265 (by decide) (fun _ => ?_) (fun hc => absurd rfl hc)
        exact hgo _ _ hs2 _ _ hP
      by_cases hc4 : x = 4
      · refine lv_tableIn (off := 238) (tgt := 270) hx hb dL_law_32 (by rw [hc4]; decide +kernel) (by rw [hc4]; decide +kernel) (by rw [hc4]; decide +kernel) (by decide) ?_
        obtain ⟨r, e1, e2, hs2⟩ := hsim.2.2.2.2.1 σX σM hs (xs (n + 1)) (xs (n + 2))
        refine lv_aload_n hx hb dL_law_270 rfl (lv_at hl 1 rfl) ?_
        refine lv_aload_n hx hb dL_law_271 rfl (lv_at hl 0 rfl) ?_
        refine lv_iload_n hx hb dL_law_272 rfl (lv_at hl 3 rfl) ?_
        refine lv_iconst (v := 1) hx hb dL_law_273 (by decide) ?_
        refine lv_iadd hx hb dL_law_274 ?_
        refine va_sld hx hb hX hbl hbA hP.2.2.1 in1 dL_law_275 ?_
        refine w_ni (v := xs (n + 1)) (by rw [c1]) ?_
        refine lv_aload_n hx hb dL_law_276 rfl (lv_at hl 0 rfl) ?_
        refine lv_iload_n hx hb dL_law_277 rfl (lv_at hl 3 rfl) ?_
        refine lv_iconst (v := 2) hx hb dL_law_278 (by decide) ?_
        refine lv_iadd hx hb dL_law_279 ?_
        refine va_sld hx hb hX hbl hbA hP.2.2.1 in2 dL_law_280 ?_
        refine w_ni (v := xs (n + 2)) (by rw [c2]) ?_
        refine y_ciX (y_rV (As := [.int (xs (n + 1)), .int (xs (n + 2))]) (rest := []) (k := 0) hF hK hN hP.1 (c_X8_stone l D aI aL aX hP.2.2.2.1 H.size σX (xs (n + 1)) (xs (n + 2)) r e1) (gV wt363 wt364 wt365 wt1 wt366) 2 hd_X8_stone ⟨Nat.le_of_ble_eq_true rfl, Nat.le_of_ble_eq_true rfl⟩ (by decide) 6 rfl rfl rfl hl.1 ⟨Nat.le_of_ble_eq_true rfl, Nat.le_of_ble_eq_true rfl⟩ rfl (Nat.le_of_ble_eq_true rfl) dL_law_281) hP (fun H locs hP => ?_)
        refine lv_aload_n hx hb dL_law_284 rfl (lv_at hl 2 rfl) ?_
        refine lv_aload_n hx hb dL_law_285 rfl (lv_at hl 0 rfl) ?_
        refine lv_iload_n hx hb dL_law_286 rfl (lv_at hl 3 rfl) ?_
        refine lv_iconst (v := 1) hx hb dL_law_287 (by decide) ?_
        refine lv_iadd hx hb dL_law_288 ?_
        refine va_sld hx hb hX hbl hbA hP.2.2.1 in1 dL_law_289 ?_
        refine w_ni (v := xs (n + 1)) (by rw [c1]) ?_
        refine lv_aload_n hx hb dL_law_290 rfl (lv_at hl 0 rfl) ?_
        refine lv_iload_n hx hb dL_law_291 rfl (lv_at hl 3 rfl) ?_
        refine lv_iconst (v := 2) hx hb dL_law_292 (by decide) ?_
        refine lv_iadd hx hb dL_law_293 ?_
        refine va_sld hx hb hX hbl hbA hP.2.2.1 in2 dL_law_294 ?_
        refine w_ni (v := xs (n + 2)) (by rw [c2]) ?_
        refine y_ciM (y_rV (As := [.int (xs (n + 1)), .int (xs (n + 2))]) (rest := [.int r]) (k := 0) hF hK hN hP.2.1 (c_X9_stone l D aI aL aM hP.2.2.2.2.1 H.size σM (xs (n + 1)) (xs (n + 2)) r e2) (gV wt874 wt875 wt876 wt12 wt877) 2 hd_X9_stone ⟨Nat.le_of_ble_eq_true rfl, Nat.le_of_ble_eq_true rfl⟩ (by decide) 7 rfl rfl rfl hl.1 ⟨Nat.le_of_ble_eq_true rfl, Nat.le_of_ble_eq_true rfl⟩ rfl (Nat.le_of_ble_eq_true rfl) dL_law_295) hP (fun H locs hP => ?_)
        refine lv_icmp_eq (tgt := 879) hx hb dL_law_298 (by decide) (fun _ => ?_) (fun hc => absurd rfl hc)
        exact hgo _ _ hs2 _ _ hP
      by_cases hc5 : x = 5
      · refine lv_tableIn (off := 271) (tgt := 303) hx hb dL_law_32 (by rw [hc5]; decide +kernel) (by rw [hc5]; decide +kernel) (by rw [hc5]; decide +kernel) (by decide) ?_
        obtain ⟨r, e1, e2, hs2⟩ := hsim.2.2.2.2.2.1 σX σM hs (xs (n + 1)) (xs (n + 2))
        refine lv_aload_n hx hb dL_law_303 rfl (lv_at hl 1 rfl) ?_
        refine lv_aload_n hx hb dL_law_304 rfl (lv_at hl 0 rfl) ?_
        refine lv_iload_n hx hb dL_law_305 rfl (lv_at hl 3 rfl) ?_
        refine lv_iconst (v := 1) hx hb dL_law_306 (by decide) ?_
        refine lv_iadd hx hb dL_law_307 ?_
        refine va_sld hx hb hX hbl hbA hP.2.2.1 in1 dL_law_308 ?_
        refine w_ni (v := xs (n + 1)) (by rw [c1]) ?_
        refine lv_aload_n hx hb dL_law_309 rfl (lv_at hl 0 rfl) ?_
        refine lv_iload_n hx hb dL_law_310 rfl (lv_at hl 3 rfl) ?_
        refine lv_iconst (v := 2) hx hb dL_law_311 (by decide) ?_
        refine lv_iadd hx hb dL_law_312 ?_
        refine va_sld hx hb hX hbl hbA hP.2.2.1 in2 dL_law_313 ?_
        refine w_ni (v := xs (n + 2)) (by rw [c2]) ?_
        refine y_ciX (y_rV (As := [.int (xs (n + 1)), .int (xs (n + 2))]) (rest := []) (k := 0) hF hK hN hP.1 (c_X8_step l D aI aL aX hP.2.2.2.1 H.size σX (xs (n + 1)) (xs (n + 2)) r e1) (gV wt395 wt396 wt397 wt1 wt398) 2 hd_X8_step ⟨Nat.le_of_ble_eq_true rfl, Nat.le_of_ble_eq_true rfl⟩ (by decide) 6 rfl rfl rfl hl.1 ⟨Nat.le_of_ble_eq_true rfl, Nat.le_of_ble_eq_true rfl⟩ rfl (Nat.le_of_ble_eq_true rfl) dL_law_314) hP (fun H locs hP => ?_)
        refine lv_aload_n hx hb dL_law_317 rfl (lv_at hl 2 rfl) ?_
        refine lv_aload_n hx hb dL_law_318 rfl (lv_at hl 0 rfl) ?_
        refine lv_iload_n hx hb dL_law_319 rfl (lv_at hl 3 rfl) ?_
        refine lv_iconst (v := 1) hx hb dL_law_320 (by decide) ?_
        refine lv_iadd hx hb dL_law_321 ?_
        refine va_sld hx hb hX hbl hbA hP.2.2.1 in1 dL_law_322 ?_
        refine w_ni (v := xs (n + 1)) (by rw [c1]) ?_
        refine lv_aload_n hx hb dL_law_323 rfl (lv_at hl 0 rfl) ?_
        refine lv_iload_n hx hb dL_law_324 rfl (lv_at hl 3 rfl) ?_
        refine lv_iconst (v := 2) hx hb dL_law_325 (by decide) ?_
        refine lv_iadd hx hb dL_law_326 ?_
        refine va_sld hx hb hX hbl hbA hP.2.2.1 in2 dL_law_327 ?_
        refine w_ni (v := xs (n + 2)) (by rw [c2]) ?_
        refine y_ciM (y_rV (As := [.int (xs (n + 1)), .int (xs (n + 2))]) (rest := [.int r]) (k := 0) hF hK hN hP.2.1 (c_X9_step l D aI aL aM hP.2.2.2.2.1 H.size σM (xs (n + 1)) (xs (n + 2)) r e2) (gV wt883 wt884 wt885 wt12 wt886) 2 hd_X9_step ⟨Nat.le_of_ble_eq_true rfl, Nat.le_of_ble_eq_true rfl⟩ (by decide) 7 rfl rfl rfl hl.1 ⟨Nat.le_of_ble_eq_true rfl, Nat.le_of_ble_eq_true rfl⟩ rfl (Nat.le_of_ble_eq_true rfl) dL_law_328) hP (fun H locs hP => ?_)
        refine lv_icmp_eq (tgt := 879) hx hb dL_law_331 (by decide) (fun _ => ?_) (fun hc => absurd rfl hc)
        exact hgo _ _ hs2 _ _ hP
      by_cases hc6 : x = 6
      · refine lv_tableIn (off := 304) (tgt := 336) hx hb dL_law_32 (by rw [hc6]; decide +kernel) (by rw [hc6]; decide +kernel) (by rw [hc6]; decide +kernel) (by decide) ?_
        obtain ⟨r, σX2, σM2, e1, e2, hs2⟩ := hsim.2.2.2.2.2.2.1 σX σM hs (xs (n + 1))
        refine lv_aload_n hx hb dL_law_336 rfl (lv_at hl 1 rfl) ?_
        refine lv_aload_n hx hb dL_law_337 rfl (lv_at hl 0 rfl) ?_
        refine lv_iload_n hx hb dL_law_338 rfl (lv_at hl 3 rfl) ?_
        refine lv_iconst (v := 1) hx hb dL_law_339 (by decide) ?_
        refine lv_iadd hx hb dL_law_340 ?_
        refine va_sld hx hb hX hbl hbA hP.2.2.1 in1 dL_law_341 ?_
        refine w_ni (v := xs (n + 1)) (by rw [c1]) ?_
        refine y_ciX (y_rV (As := [.int (xs (n + 1))]) (rest := []) (k := 0) hF hK hN hP.1 (c_X8_go l D aI aL aX hP.2.2.2.1 H.size σX (xs (n + 1)) (r, σX2) e1) (gV wt430 wt431 wt432 wt1 wt433) 1 hd_X8_go ⟨Nat.le_of_ble_eq_true rfl, Nat.le_of_ble_eq_true rfl⟩ (by decide) 6 rfl rfl rfl hl.1 ⟨Nat.le_of_ble_eq_true rfl, Nat.le_of_ble_eq_true rfl⟩ rfl (Nat.le_of_ble_eq_true rfl) dL_law_342) hP (fun H locs hP => ?_)
        refine lv_aload_n hx hb dL_law_345 rfl (lv_at hl 2 rfl) ?_
        refine lv_aload_n hx hb dL_law_346 rfl (lv_at hl 0 rfl) ?_
        refine lv_iload_n hx hb dL_law_347 rfl (lv_at hl 3 rfl) ?_
        refine lv_iconst (v := 1) hx hb dL_law_348 (by decide) ?_
        refine lv_iadd hx hb dL_law_349 ?_
        refine va_sld hx hb hX hbl hbA hP.2.2.1 in1 dL_law_350 ?_
        refine w_ni (v := xs (n + 1)) (by rw [c1]) ?_
        refine y_ciM (y_rV (As := [.int (xs (n + 1))]) (rest := [.int r]) (k := 0) hF hK hN hP.2.1 (c_X9_go l D aI aL aM hP.2.2.2.2.1 H.size σM (xs (n + 1)) (r, σM2) e2) (gV wt899 wt900 wt901 wt12 wt902) 1 hd_X9_go ⟨Nat.le_of_ble_eq_true rfl, Nat.le_of_ble_eq_true rfl⟩ (by decide) 7 rfl rfl rfl hl.1 ⟨Nat.le_of_ble_eq_true rfl, Nat.le_of_ble_eq_true rfl⟩ rfl (Nat.le_of_ble_eq_true rfl) dL_law_351) hP (fun H locs hP => ?_)
        refine lv_icmp_eq (tgt := 879) hx hb dL_law_354 (by decide) (fun _ => ?_) (fun hc => absurd rfl hc)
        exact hgo _ _ hs2 _ _ hP
      by_cases hc7 : x = 7
      · refine lv_tableIn (off := 327) (tgt := 359) hx hb dL_law_32 (by rw [hc7]; decide +kernel) (by rw [hc7]; decide +kernel) (by rw [hc7]; decide +kernel) (by decide) ?_
        obtain ⟨r, σX2, σM2, e1, e2, hs2⟩ := hsim.2.2.2.2.2.2.2.1 σX σM hs (xs (n + 1))
        refine lv_aload_n hx hb dL_law_359 rfl (lv_at hl 1 rfl) ?_
        refine lv_aload_n hx hb dL_law_360 rfl (lv_at hl 0 rfl) ?_
        refine lv_iload_n hx hb dL_law_361 rfl (lv_at hl 3 rfl) ?_
        refine lv_iconst (v := 1) hx hb dL_law_362 (by decide) ?_
        refine lv_iadd hx hb dL_law_363 ?_
        refine va_sld hx hb hX hbl hbA hP.2.2.1 in1 dL_law_364 ?_
        refine w_ni (v := xs (n + 1)) (by rw [c1]) ?_
        refine y_ciX (y_rV (As := [.int (xs (n + 1))]) (rest := []) (k := 0) hF hK hN hP.1 (c_X8_takeOut l D aI aL aX hP.2.2.2.1 H.size σX (xs (n + 1)) (r, σX2) e1) (gV wt459 wt460 wt461 wt1 wt462) 1 hd_X8_takeOut ⟨Nat.le_of_ble_eq_true rfl, Nat.le_of_ble_eq_true rfl⟩ (by decide) 6 rfl rfl rfl hl.1 ⟨Nat.le_of_ble_eq_true rfl, Nat.le_of_ble_eq_true rfl⟩ rfl (Nat.le_of_ble_eq_true rfl) dL_law_365) hP (fun H locs hP => ?_)
        refine lv_aload_n hx hb dL_law_368 rfl (lv_at hl 2 rfl) ?_
        refine lv_aload_n hx hb dL_law_369 rfl (lv_at hl 0 rfl) ?_
        refine lv_iload_n hx hb dL_law_370 rfl (lv_at hl 3 rfl) ?_
        refine lv_iconst (v := 1) hx hb dL_law_371 (by decide) ?_
        refine lv_iadd hx hb dL_law_372 ?_
        refine va_sld hx hb hX hbl hbA hP.2.2.1 in1 dL_law_373 ?_
        refine w_ni (v := xs (n + 1)) (by rw [c1]) ?_
        refine y_ciM (y_rV (As := [.int (xs (n + 1))]) (rest := [.int r]) (k := 0) hF hK hN hP.2.1 (c_X9_takeOut l D aI aL aM hP.2.2.2.2.1 H.size σM (xs (n + 1)) (r, σM2) e2) (gV wt910 wt911 wt912 wt12 wt913) 1 hd_X9_takeOut ⟨Nat.le_of_ble_eq_true rfl, Nat.le_of_ble_eq_true rfl⟩ (by decide) 7 rfl rfl rfl hl.1 ⟨Nat.le_of_ble_eq_true rfl, Nat.le_of_ble_eq_true rfl⟩ rfl (Nat.le_of_ble_eq_true rfl) dL_law_374) hP (fun H locs hP => ?_)
        refine lv_icmp_eq (tgt := 879) hx hb dL_law_377 (by decide) (fun _ => ?_) (fun hc => absurd rfl hc)
        exact hgo _ _ hs2 _ _ hP
      by_cases hc8 : x = 8
      · refine lv_tableIn (off := 350) (tgt := 382) hx hb dL_law_32 (by rw [hc8]; decide +kernel) (by rw [hc8]; decide +kernel) (by rw [hc8]; decide +kernel) (by decide) ?_
        obtain ⟨r, σX2, σM2, e1, e2, hs2⟩ := hsim.2.2.2.2.2.2.2.2.1 σX σM hs (xs (n + 1)) (xs (n + 2)) (xs (n + 3))
        refine lv_aload_n hx hb dL_law_382 rfl (lv_at hl 1 rfl) ?_
        refine lv_aload_n hx hb dL_law_383 rfl (lv_at hl 0 rfl) ?_
        refine lv_iload_n hx hb dL_law_384 rfl (lv_at hl 3 rfl) ?_
        refine lv_iconst (v := 1) hx hb dL_law_385 (by decide) ?_
        refine lv_iadd hx hb dL_law_386 ?_
        refine va_sld hx hb hX hbl hbA hP.2.2.1 in1 dL_law_387 ?_
        refine w_ni (v := xs (n + 1)) (by rw [c1]) ?_
        refine lv_aload_n hx hb dL_law_388 rfl (lv_at hl 0 rfl) ?_
        refine lv_iload_n hx hb dL_law_389 rfl (lv_at hl 3 rfl) ?_
        refine lv_iconst (v := 2) hx hb dL_law_390 (by decide) ?_
        refine lv_iadd hx hb dL_law_391 ?_
        refine va_sld hx hb hX hbl hbA hP.2.2.1 in2 dL_law_392 ?_
        refine w_ni (v := xs (n + 2)) (by rw [c2]) ?_
        refine lv_aload_n hx hb dL_law_393 rfl (lv_at hl 0 rfl) ?_
        refine lv_iload_n hx hb dL_law_394 rfl (lv_at hl 3 rfl) ?_
        refine lv_iconst (v := 3) hx hb dL_law_395 (by decide) ?_
        refine lv_iadd hx hb dL_law_396 ?_
        refine va_sld hx hb hX hbl hbA hP.2.2.1 in3 dL_law_397 ?_
        refine w_ni (v := xs (n + 3)) (by rw [c3]) ?_
        refine y_ciX (y_rV (As := [.int (xs (n + 1)), .int (xs (n + 2)), .int (xs (n + 3))]) (rest := []) (k := 0) hF hK hN hP.1 (c_X8_lay l D aI aL aX hP.2.2.2.1 H.size σX (xs (n + 1)) (xs (n + 2)) (xs (n + 3)) (r, σX2) e1) (gV wt478 wt479 wt480 wt1 wt481) 3 hd_X8_lay ⟨Nat.le_of_ble_eq_true rfl, Nat.le_of_ble_eq_true rfl⟩ (by decide) 6 rfl rfl rfl hl.1 ⟨Nat.le_of_ble_eq_true rfl, Nat.le_of_ble_eq_true rfl⟩ rfl (Nat.le_of_ble_eq_true rfl) dL_law_398) hP (fun H locs hP => ?_)
        refine lv_aload_n hx hb dL_law_401 rfl (lv_at hl 2 rfl) ?_
        refine lv_aload_n hx hb dL_law_402 rfl (lv_at hl 0 rfl) ?_
        refine lv_iload_n hx hb dL_law_403 rfl (lv_at hl 3 rfl) ?_
        refine lv_iconst (v := 1) hx hb dL_law_404 (by decide) ?_
        refine lv_iadd hx hb dL_law_405 ?_
        refine va_sld hx hb hX hbl hbA hP.2.2.1 in1 dL_law_406 ?_
        refine w_ni (v := xs (n + 1)) (by rw [c1]) ?_
        refine lv_aload_n hx hb dL_law_407 rfl (lv_at hl 0 rfl) ?_
        refine lv_iload_n hx hb dL_law_408 rfl (lv_at hl 3 rfl) ?_
        refine lv_iconst (v := 2) hx hb dL_law_409 (by decide) ?_
        refine lv_iadd hx hb dL_law_410 ?_
        refine va_sld hx hb hX hbl hbA hP.2.2.1 in2 dL_law_411 ?_
        refine w_ni (v := xs (n + 2)) (by rw [c2]) ?_
        refine lv_aload_n hx hb dL_law_412 rfl (lv_at hl 0 rfl) ?_
        refine lv_iload_n hx hb dL_law_413 rfl (lv_at hl 3 rfl) ?_
        refine lv_iconst (v := 3) hx hb dL_law_414 (by decide) ?_
        refine lv_iadd hx hb dL_law_415 ?_
        refine va_sld hx hb hX hbl hbA hP.2.2.1 in3 dL_law_416 ?_
        refine w_ni (v := xs (n + 3)) (by rw [c3]) ?_
        refine y_ciM (y_rV (As := [.int (xs (n + 1)), .int (xs (n + 2)), .int (xs (n + 3))]) (rest := [.int r]) (k := 0) hF hK hN hP.2.1 (c_X9_lay l D aI aL aM hP.2.2.2.2.1 H.size σM (xs (n + 1)) (xs (n + 2)) (xs (n + 3)) (r, σM2) e2) (gV wt914 wt915 wt916 wt12 wt917) 3 hd_X9_lay ⟨Nat.le_of_ble_eq_true rfl, Nat.le_of_ble_eq_true rfl⟩ (by decide) 7 rfl rfl rfl hl.1 ⟨Nat.le_of_ble_eq_true rfl, Nat.le_of_ble_eq_true rfl⟩ rfl (Nat.le_of_ble_eq_true rfl) dL_law_417) hP (fun H locs hP => ?_)
        refine lv_icmp_eq (tgt := 879) hx hb dL_law_420 (by decide) (fun _ => ?_) (fun hc => absurd rfl hc)
        exact hgo _ _ hs2 _ _ hP
      by_cases hc9 : x = 9
      · refine lv_tableIn (off := 393) (tgt := 425) hx hb dL_law_32 (by rw [hc9]; decide +kernel) (by rw [hc9]; decide +kernel) (by rw [hc9]; decide +kernel) (by decide) ?_
        obtain ⟨r, σX2, σM2, e1, e2, hs2⟩ := hsim.2.2.2.2.2.2.2.2.2.1 σX σM hs
        refine lv_aload_n hx hb dL_law_425 rfl (lv_at hl 1 rfl) ?_
        refine y_ciX (y_rV (As := []) (rest := []) (k := 0) hF hK hN hP.1 (c_X8_undo l D aI aL aX hP.2.2.2.1 H.size σX (r, σX2) e1) (gV wt488 wt489 wt490 wt1 wt491) 0 hd_X8_undo ⟨Nat.le_of_ble_eq_true rfl, Nat.le_of_ble_eq_true rfl⟩ (by decide) 6 rfl rfl rfl hl.1 ⟨Nat.le_of_ble_eq_true rfl, Nat.le_of_ble_eq_true rfl⟩ rfl (Nat.le_of_ble_eq_true rfl) dL_law_426) hP (fun H locs hP => ?_)
        refine lv_aload_n hx hb dL_law_429 rfl (lv_at hl 2 rfl) ?_
        refine y_ciM (y_rV (As := []) (rest := [.int r]) (k := 0) hF hK hN hP.2.1 (c_X9_undo l D aI aL aM hP.2.2.2.2.1 H.size σM (r, σM2) e2) (gV wt918 wt919 wt920 wt12 wt921) 0 hd_X9_undo ⟨Nat.le_of_ble_eq_true rfl, Nat.le_of_ble_eq_true rfl⟩ (by decide) 7 rfl rfl rfl hl.1 ⟨Nat.le_of_ble_eq_true rfl, Nat.le_of_ble_eq_true rfl⟩ rfl (Nat.le_of_ble_eq_true rfl) dL_law_430) hP (fun H locs hP => ?_)
        refine lv_icmp_eq (tgt := 879) hx hb dL_law_433 (by decide) (fun _ => ?_) (fun hc => absurd rfl hc)
        exact hgo _ _ hs2 _ _ hP
      by_cases hc10 : x = 10
      · refine lv_tableIn (off := 406) (tgt := 438) hx hb dL_law_32 (by rw [hc10]; decide +kernel) (by rw [hc10]; decide +kernel) (by rw [hc10]; decide +kernel) (by decide) ?_
        obtain ⟨r, e1, e2, hs2⟩ := hsim.2.2.2.2.2.2.2.2.2.2.1 σX σM hs (xs (n + 1))
        refine lv_aload_n hx hb dL_law_438 rfl (lv_at hl 1 rfl) ?_
        refine lv_aload_n hx hb dL_law_439 rfl (lv_at hl 0 rfl) ?_
        refine lv_iload_n hx hb dL_law_440 rfl (lv_at hl 3 rfl) ?_
        refine lv_iconst (v := 1) hx hb dL_law_441 (by decide) ?_
        refine lv_iadd hx hb dL_law_442 ?_
        refine va_sld hx hb hX hbl hbA hP.2.2.1 in1 dL_law_443 ?_
        refine w_ni (v := xs (n + 1)) (by rw [c1]) ?_
        refine y_ciX (y_rV (As := [.int (xs (n + 1))]) (rest := []) (k := 0) hF hK hN hP.1 (c_X8_reach l D aI aL aX hP.2.2.2.1 H.size σX (xs (n + 1)) r e1) (gV wt512 wt513 wt514 wt1 wt515) 1 hd_X8_reach ⟨Nat.le_of_ble_eq_true rfl, Nat.le_of_ble_eq_true rfl⟩ (by decide) 6 rfl rfl rfl hl.1 ⟨Nat.le_of_ble_eq_true rfl, Nat.le_of_ble_eq_true rfl⟩ rfl (Nat.le_of_ble_eq_true rfl) dL_law_444) hP (fun H locs hP => ?_)
        refine lv_aload_n hx hb dL_law_447 rfl (lv_at hl 2 rfl) ?_
        refine lv_aload_n hx hb dL_law_448 rfl (lv_at hl 0 rfl) ?_
        refine lv_iload_n hx hb dL_law_449 rfl (lv_at hl 3 rfl) ?_
        refine lv_iconst (v := 1) hx hb dL_law_450 (by decide) ?_
        refine lv_iadd hx hb dL_law_451 ?_
        refine va_sld hx hb hX hbl hbA hP.2.2.1 in1 dL_law_452 ?_
        refine w_ni (v := xs (n + 1)) (by rw [c1]) ?_
        refine y_ciM (y_rV (As := [.int (xs (n + 1))]) (rest := [.int r]) (k := 0) hF hK hN hP.2.1 (c_X9_reach l D aI aL aM hP.2.2.2.2.1 H.size σM (xs (n + 1)) r e2) (gV wt922 wt923 wt924 wt12 wt925) 1 hd_X9_reach ⟨Nat.le_of_ble_eq_true rfl, Nat.le_of_ble_eq_true rfl⟩ (by decide) 7 rfl rfl rfl hl.1 ⟨Nat.le_of_ble_eq_true rfl, Nat.le_of_ble_eq_true rfl⟩ rfl (Nat.le_of_ble_eq_true rfl) dL_law_453) hP (fun H locs hP => ?_)
        refine lv_icmp_eq (tgt := 879) hx hb dL_law_456 (by decide) (fun _ => ?_) (fun hc => absurd rfl hc)
        exact hgo _ _ hs2 _ _ hP
      by_cases hc11 : x = 11
      · refine lv_tableIn (off := 429) (tgt := 461) hx hb dL_law_32 (by rw [hc11]; decide +kernel) (by rw [hc11]; decide +kernel) (by rw [hc11]; decide +kernel) (by decide) ?_
        obtain ⟨r, σX2, σM2, e1, e2, hs2⟩ := hsim.2.2.2.2.2.2.2.2.2.2.2.1 σX σM hs (xs (n + 1)) (xs (n + 2))
        refine lv_aload_n hx hb dL_law_461 rfl (lv_at hl 1 rfl) ?_
        refine lv_aload_n hx hb dL_law_462 rfl (lv_at hl 0 rfl) ?_
        refine lv_iload_n hx hb dL_law_463 rfl (lv_at hl 3 rfl) ?_
        refine lv_iconst (v := 1) hx hb dL_law_464 (by decide) ?_
        refine lv_iadd hx hb dL_law_465 ?_
        refine va_sld hx hb hX hbl hbA hP.2.2.1 in1 dL_law_466 ?_
        refine w_ni (v := xs (n + 1)) (by rw [c1]) ?_
        refine lv_aload_n hx hb dL_law_467 rfl (lv_at hl 0 rfl) ?_
        refine lv_iload_n hx hb dL_law_468 rfl (lv_at hl 3 rfl) ?_
        refine lv_iconst (v := 2) hx hb dL_law_469 (by decide) ?_
        refine lv_iadd hx hb dL_law_470 ?_
        refine va_sld hx hb hX hbl hbA hP.2.2.1 in2 dL_law_471 ?_
        refine w_ni (v := xs (n + 2)) (by rw [c2]) ?_
        refine y_clX (y_rV (As := [.int (xs (n + 1)), .int (xs (n + 2))]) (rest := []) (k := 0) hF hK hN hP.1 (c_X8_walk l D aI aL aX hP.2.2.2.1 H.size σX (xs (n + 1)) (xs (n + 2)) (r, σX2) e1) (gV wt529 wt530 wt531 wt1 wt532) 2 hd_X8_walk ⟨Nat.le_of_ble_eq_true rfl, Nat.le_of_ble_eq_true rfl⟩ (by decide) 6 rfl rfl rfl hl.1 ⟨Nat.le_of_ble_eq_true rfl, Nat.le_of_ble_eq_true rfl⟩ rfl (Nat.le_of_ble_eq_true rfl) dL_law_472) hP (fun H locs hP => ?_)
        refine lv_aload_n hx hb dL_law_475 rfl (lv_at hl 2 rfl) ?_
        refine lv_aload_n hx hb dL_law_476 rfl (lv_at hl 0 rfl) ?_
        refine lv_iload_n hx hb dL_law_477 rfl (lv_at hl 3 rfl) ?_
        refine lv_iconst (v := 1) hx hb dL_law_478 (by decide) ?_
        refine lv_iadd hx hb dL_law_479 ?_
        refine va_sld hx hb hX hbl hbA hP.2.2.1 in1 dL_law_480 ?_
        refine w_ni (v := xs (n + 1)) (by rw [c1]) ?_
        refine lv_aload_n hx hb dL_law_481 rfl (lv_at hl 0 rfl) ?_
        refine lv_iload_n hx hb dL_law_482 rfl (lv_at hl 3 rfl) ?_
        refine lv_iconst (v := 2) hx hb dL_law_483 (by decide) ?_
        refine lv_iadd hx hb dL_law_484 ?_
        refine va_sld hx hb hX hbl hbA hP.2.2.1 in2 dL_law_485 ?_
        refine w_ni (v := xs (n + 2)) (by rw [c2]) ?_
        refine y_clM (y_rV (As := [.int (xs (n + 1)), .int (xs (n + 2))]) (rest := [.long r]) (k := 0) hF hK hN hP.2.1 (c_X9_walk l D aI aL aM hP.2.2.2.2.1 H.size σM (xs (n + 1)) (xs (n + 2)) (r, σM2) e2) (gV wt942 wt943 wt944 wt12 wt945) 2 hd_X9_walk ⟨Nat.le_of_ble_eq_true rfl, Nat.le_of_ble_eq_true rfl⟩ (by decide) 7 rfl rfl rfl hl.1 ⟨Nat.le_of_ble_eq_true rfl, Nat.le_of_ble_eq_true rfl⟩ rfl (Nat.le_of_ble_eq_true rfl) dL_law_486) hP (fun H locs hP => ?_)
        refine W.lcmp hx hb dL_law_489 ?_
        refine lv_if_eq (tgt := 879) hx hb dL_law_490 (by decide) (fun _ => ?_) (fun hc => absurd (by simp [lg_cmp]) hc)
        exact hgo _ _ hs2 _ _ hP
      by_cases hc12 : x = 12
      · refine lv_tableIn (off := 463) (tgt := 495) hx hb dL_law_32 (by rw [hc12]; decide +kernel) (by rw [hc12]; decide +kernel) (by rw [hc12]; decide +kernel) (by decide) ?_
        obtain ⟨r, e1, e2, hs2⟩ := hsim.2.2.2.2.2.2.2.2.2.2.2.2.1 σX σM hs (xs (n + 1))
        refine lv_aload_n hx hb dL_law_495 rfl (lv_at hl 1 rfl) ?_
        refine lv_aload_n hx hb dL_law_496 rfl (lv_at hl 0 rfl) ?_
        refine lv_iload_n hx hb dL_law_497 rfl (lv_at hl 3 rfl) ?_
        refine lv_iconst (v := 1) hx hb dL_law_498 (by decide) ?_
        refine lv_iadd hx hb dL_law_499 ?_
        refine va_sld hx hb hX hbl hbA hP.2.2.1 in1 dL_law_500 ?_
        refine w_ni (v := xs (n + 1)) (by rw [c1]) ?_
        refine y_ciX (y_rV (As := [.int (xs (n + 1))]) (rest := []) (k := 0) hF hK hN hP.1 (c_X8_round l D aI aL aX hP.2.2.2.1 H.size σX (xs (n + 1)) r e1) (gV wt563 wt564 wt565 wt1 wt566) 1 hd_X8_round ⟨Nat.le_of_ble_eq_true rfl, Nat.le_of_ble_eq_true rfl⟩ (by decide) 6 rfl rfl rfl hl.1 ⟨Nat.le_of_ble_eq_true rfl, Nat.le_of_ble_eq_true rfl⟩ rfl (Nat.le_of_ble_eq_true rfl) dL_law_501) hP (fun H locs hP => ?_)
        refine lv_aload_n hx hb dL_law_504 rfl (lv_at hl 2 rfl) ?_
        refine lv_aload_n hx hb dL_law_505 rfl (lv_at hl 0 rfl) ?_
        refine lv_iload_n hx hb dL_law_506 rfl (lv_at hl 3 rfl) ?_
        refine lv_iconst (v := 1) hx hb dL_law_507 (by decide) ?_
        refine lv_iadd hx hb dL_law_508 ?_
        refine va_sld hx hb hX hbl hbA hP.2.2.1 in1 dL_law_509 ?_
        refine w_ni (v := xs (n + 1)) (by rw [c1]) ?_
        refine y_ciM (y_rV (As := [.int (xs (n + 1))]) (rest := [.int r]) (k := 0) hF hK hN hP.2.1 (c_X9_round l D aI aL aM hP.2.2.2.2.1 H.size σM (xs (n + 1)) r e2) (gV wt957 wt958 wt959 wt12 wt960) 1 hd_X9_round ⟨Nat.le_of_ble_eq_true rfl, Nat.le_of_ble_eq_true rfl⟩ (by decide) 7 rfl rfl rfl hl.1 ⟨Nat.le_of_ble_eq_true rfl, Nat.le_of_ble_eq_true rfl⟩ rfl (Nat.le_of_ble_eq_true rfl) dL_law_510) hP (fun H locs hP => ?_)
        refine lv_icmp_eq (tgt := 879) hx hb dL_law_513 (by decide) (fun _ => ?_) (fun hc => absurd rfl hc)
        exact hgo _ _ hs2 _ _ hP
      by_cases hc13 : x = 13
      · refine lv_tableIn (off := 486) (tgt := 518) hx hb dL_law_32 (by rw [hc13]; decide +kernel) (by rw [hc13]; decide +kernel) (by rw [hc13]; decide +kernel) (by decide) ?_
        obtain ⟨r, e1, e2, hs2⟩ := hsim.2.2.2.2.2.2.2.2.2.2.2.2.2.1 σX σM hs (xs (n + 1)) (xs (n + 2))
        refine lv_aload_n hx hb dL_law_518 rfl (lv_at hl 1 rfl) ?_
        refine lv_aload_n hx hb dL_law_519 rfl (lv_at hl 0 rfl) ?_
        refine lv_iload_n hx hb dL_law_520 rfl (lv_at hl 3 rfl) ?_
        refine lv_iconst (v := 1) hx hb dL_law_521 (by decide) ?_
        refine lv_iadd hx hb dL_law_522 ?_
        refine va_sld hx hb hX hbl hbA hP.2.2.1 in1 dL_law_523 ?_
        refine w_ni (v := xs (n + 1)) (by rw [c1]) ?_
        refine lv_aload_n hx hb dL_law_524 rfl (lv_at hl 0 rfl) ?_
        refine lv_iload_n hx hb dL_law_525 rfl (lv_at hl 3 rfl) ?_
        refine lv_iconst (v := 2) hx hb dL_law_526 (by decide) ?_
        refine lv_iadd hx hb dL_law_527 ?_
        refine va_sld hx hb hX hbl hbA hP.2.2.1 in2 dL_law_528 ?_
        refine w_ni (v := xs (n + 2)) (by rw [c2]) ?_
        refine y_ciX (y_rV (As := [.int (xs (n + 1)), .int (xs (n + 2))]) (rest := []) (k := 0) hF hK hN hP.1 (c_X8_needs l D aI aL aX hP.2.2.2.1 H.size σX (xs (n + 1)) (xs (n + 2)) r e1) (gV wt573 wt574 wt575 wt1 wt576) 2 hd_X8_needs ⟨Nat.le_of_ble_eq_true rfl, Nat.le_of_ble_eq_true rfl⟩ (by decide) 6 rfl rfl rfl hl.1 ⟨Nat.le_of_ble_eq_true rfl, Nat.le_of_ble_eq_true rfl⟩ rfl (Nat.le_of_ble_eq_true rfl) dL_law_529) hP (fun H locs hP => ?_)
        refine lv_aload_n hx hb dL_law_532 rfl (lv_at hl 2 rfl) ?_
        refine lv_aload_n hx hb dL_law_533 rfl (lv_at hl 0 rfl) ?_
        refine lv_iload_n hx hb dL_law_534 rfl (lv_at hl 3 rfl) ?_
        refine lv_iconst (v := 1) hx hb dL_law_535 (by decide) ?_
        refine lv_iadd hx hb dL_law_536 ?_
        refine va_sld hx hb hX hbl hbA hP.2.2.1 in1 dL_law_537 ?_
        refine w_ni (v := xs (n + 1)) (by rw [c1]) ?_
        refine lv_aload_n hx hb dL_law_538 rfl (lv_at hl 0 rfl) ?_
        refine lv_iload_n hx hb dL_law_539 rfl (lv_at hl 3 rfl) ?_
        refine lv_iconst (v := 2) hx hb dL_law_540 (by decide) ?_
        refine lv_iadd hx hb dL_law_541 ?_
        refine va_sld hx hb hX hbl hbA hP.2.2.1 in2 dL_law_542 ?_
        refine w_ni (v := xs (n + 2)) (by rw [c2]) ?_
        refine y_ciM (y_rV (As := [.int (xs (n + 1)), .int (xs (n + 2))]) (rest := [.int r]) (k := 0) hF hK hN hP.2.1 (c_X9_needs l D aI aL aM hP.2.2.2.2.1 H.size σM (xs (n + 1)) (xs (n + 2)) r e2) (gV wt961 wt962 wt963 wt12 wt964) 2 hd_X9_needs ⟨Nat.le_of_ble_eq_true rfl, Nat.le_of_ble_eq_true rfl⟩ (by decide) 7 rfl rfl rfl hl.1 ⟨Nat.le_of_ble_eq_true rfl, Nat.le_of_ble_eq_true rfl⟩ rfl (Nat.le_of_ble_eq_true rfl) dL_law_543) hP (fun H locs hP => ?_)
        refine lv_icmp_eq (tgt := 879) hx hb dL_law_546 (by decide) (fun _ => ?_) (fun hc => absurd rfl hc)
        exact hgo _ _ hs2 _ _ hP
      by_cases hc14 : x = 14
      · refine lv_tableIn (off := 519) (tgt := 551) hx hb dL_law_32 (by rw [hc14]; decide +kernel) (by rw [hc14]; decide +kernel) (by rw [hc14]; decide +kernel) (by decide) ?_
        obtain ⟨r, e1, e2, hs2⟩ := hsim.2.2.2.2.2.2.2.2.2.2.2.2.2.2.1 σX σM hs (xs (n + 1))
        refine lv_aload_n hx hb dL_law_551 rfl (lv_at hl 1 rfl) ?_
        refine lv_aload_n hx hb dL_law_552 rfl (lv_at hl 0 rfl) ?_
        refine lv_iload_n hx hb dL_law_553 rfl (lv_at hl 3 rfl) ?_
        refine lv_iconst (v := 1) hx hb dL_law_554 (by decide) ?_
        refine lv_iadd hx hb dL_law_555 ?_
        refine va_sld hx hb hX hbl hbA hP.2.2.1 in1 dL_law_556 ?_
        refine w_ni (v := xs (n + 1)) (by rw [c1]) ?_
        refine y_ciX (y_rV (As := [.int (xs (n + 1))]) (rest := []) (k := 0) hF hK hN hP.1 (c_X8_lost l D aI aL aX hP.2.2.2.1 H.size σX (xs (n + 1)) r e1) (gV wt604 wt605 wt606 wt1 wt607) 1 hd_X8_lost ⟨Nat.le_of_ble_eq_true rfl, Nat.le_of_ble_eq_true rfl⟩ (by decide) 6 rfl rfl rfl hl.1 ⟨Nat.le_of_ble_eq_true rfl, Nat.le_of_ble_eq_true rfl⟩ rfl (Nat.le_of_ble_eq_true rfl) dL_law_557) hP (fun H locs hP => ?_)
        refine lv_aload_n hx hb dL_law_560 rfl (lv_at hl 2 rfl) ?_
        refine lv_aload_n hx hb dL_law_561 rfl (lv_at hl 0 rfl) ?_
        refine lv_iload_n hx hb dL_law_562 rfl (lv_at hl 3 rfl) ?_
        refine lv_iconst (v := 1) hx hb dL_law_563 (by decide) ?_
        refine lv_iadd hx hb dL_law_564 ?_
        refine va_sld hx hb hX hbl hbA hP.2.2.1 in1 dL_law_565 ?_
        refine w_ni (v := xs (n + 1)) (by rw [c1]) ?_
        refine y_ciM (y_rV (As := [.int (xs (n + 1))]) (rest := [.int r]) (k := 0) hF hK hN hP.2.1 (c_X9_lost l D aI aL aM hP.2.2.2.2.1 H.size σM (xs (n + 1)) r e2) (gV wt969 wt970 wt971 wt12 wt972) 1 hd_X9_lost ⟨Nat.le_of_ble_eq_true rfl, Nat.le_of_ble_eq_true rfl⟩ (by decide) 7 rfl rfl rfl hl.1 ⟨Nat.le_of_ble_eq_true rfl, Nat.le_of_ble_eq_true rfl⟩ rfl (Nat.le_of_ble_eq_true rfl) dL_law_566) hP (fun H locs hP => ?_)
        refine lv_icmp_eq (tgt := 879) hx hb dL_law_569 (by decide) (fun _ => ?_) (fun hc => absurd rfl hc)
        exact hgo _ _ hs2 _ _ hP
      by_cases hc15 : x = 15
      · refine lv_tableIn (off := 542) (tgt := 574) hx hb dL_law_32 (by rw [hc15]; decide +kernel) (by rw [hc15]; decide +kernel) (by rw [hc15]; decide +kernel) (by decide) ?_
        obtain ⟨r, e1, e2, hs2⟩ := hsim.2.2.2.2.2.2.2.2.2.2.2.2.2.2.2.1 σX σM hs (xs (n + 1))
        refine lv_aload_n hx hb dL_law_574 rfl (lv_at hl 1 rfl) ?_
        refine lv_aload_n hx hb dL_law_575 rfl (lv_at hl 0 rfl) ?_
        refine lv_iload_n hx hb dL_law_576 rfl (lv_at hl 3 rfl) ?_
        refine lv_iconst (v := 1) hx hb dL_law_577 (by decide) ?_
        refine lv_iadd hx hb dL_law_578 ?_
        refine va_sld hx hb hX hbl hbA hP.2.2.1 in1 dL_law_579 ?_
        refine w_ni (v := xs (n + 1)) (by rw [c1]) ?_
        refine y_ciX (y_rV (As := [.int (xs (n + 1))]) (rest := []) (k := 0) hF hK hN hP.1 (c_X8_begin l D aI aL aX hP.2.2.2.1 H.size σX (xs (n + 1)) r e1) (gV wt612 wt613 wt614 wt1 wt615) 1 hd_X8_begin ⟨Nat.le_of_ble_eq_true rfl, Nat.le_of_ble_eq_true rfl⟩ (by decide) 6 rfl rfl rfl hl.1 ⟨Nat.le_of_ble_eq_true rfl, Nat.le_of_ble_eq_true rfl⟩ rfl (Nat.le_of_ble_eq_true rfl) dL_law_580) hP (fun H locs hP => ?_)
        refine lv_aload_n hx hb dL_law_583 rfl (lv_at hl 2 rfl) ?_
        refine lv_aload_n hx hb dL_law_584 rfl (lv_at hl 0 rfl) ?_
        refine lv_iload_n hx hb dL_law_585 rfl (lv_at hl 3 rfl) ?_
        refine lv_iconst (v := 1) hx hb dL_law_586 (by decide) ?_
        refine lv_iadd hx hb dL_law_587 ?_
        refine va_sld hx hb hX hbl hbA hP.2.2.1 in1 dL_law_588 ?_
        refine w_ni (v := xs (n + 1)) (by rw [c1]) ?_
        refine y_ciM (y_rV (As := [.int (xs (n + 1))]) (rest := [.int r]) (k := 0) hF hK hN hP.2.1 (c_X9_begin l D aI aL aM hP.2.2.2.2.1 H.size σM (xs (n + 1)) r e2) (gV wt973 wt974 wt975 wt12 wt976) 1 hd_X9_begin ⟨Nat.le_of_ble_eq_true rfl, Nat.le_of_ble_eq_true rfl⟩ (by decide) 7 rfl rfl rfl hl.1 ⟨Nat.le_of_ble_eq_true rfl, Nat.le_of_ble_eq_true rfl⟩ rfl (Nat.le_of_ble_eq_true rfl) dL_law_589) hP (fun H locs hP => ?_)
        refine lv_icmp_eq (tgt := 879) hx hb dL_law_592 (by decide) (fun _ => ?_) (fun hc => absurd rfl hc)
        exact hgo _ _ hs2 _ _ hP
      by_cases hc16 : x = 16
      · refine lv_tableIn (off := 565) (tgt := 597) hx hb dL_law_32 (by rw [hc16]; decide +kernel) (by rw [hc16]; decide +kernel) (by rw [hc16]; decide +kernel) (by decide) ?_
        obtain ⟨r, e1, e2, hs2⟩ := hsim.2.2.2.2.2.2.2.2.2.2.2.2.2.2.2.2.1 σX σM hs (xs (n + 1))
        refine lv_aload_n hx hb dL_law_597 rfl (lv_at hl 1 rfl) ?_
        refine lv_aload_n hx hb dL_law_598 rfl (lv_at hl 0 rfl) ?_
        refine lv_iload_n hx hb dL_law_599 rfl (lv_at hl 3 rfl) ?_
        refine lv_iconst (v := 1) hx hb dL_law_600 (by decide) ?_
        refine lv_iadd hx hb dL_law_601 ?_
        refine va_sld hx hb hX hbl hbA hP.2.2.1 in1 dL_law_602 ?_
        refine w_ni (v := xs (n + 1)) (by rw [c1]) ?_
        refine y_ciX (y_rV (As := [.int (xs (n + 1))]) (rest := []) (k := 0) hF hK hN hP.1 (c_X8_hall l D aI aL aX hP.2.2.2.1 H.size σX (xs (n + 1)) r e1) (gV wt619 wt620 wt621 wt1 wt622) 1 hd_X8_hall ⟨Nat.le_of_ble_eq_true rfl, Nat.le_of_ble_eq_true rfl⟩ (by decide) 6 rfl rfl rfl hl.1 ⟨Nat.le_of_ble_eq_true rfl, Nat.le_of_ble_eq_true rfl⟩ rfl (Nat.le_of_ble_eq_true rfl) dL_law_603) hP (fun H locs hP => ?_)
        refine lv_aload_n hx hb dL_law_606 rfl (lv_at hl 2 rfl) ?_
        refine lv_aload_n hx hb dL_law_607 rfl (lv_at hl 0 rfl) ?_
        refine lv_iload_n hx hb dL_law_608 rfl (lv_at hl 3 rfl) ?_
        refine lv_iconst (v := 1) hx hb dL_law_609 (by decide) ?_
        refine lv_iadd hx hb dL_law_610 ?_
        refine va_sld hx hb hX hbl hbA hP.2.2.1 in1 dL_law_611 ?_
        refine w_ni (v := xs (n + 1)) (by rw [c1]) ?_
        refine y_ciM (y_rV (As := [.int (xs (n + 1))]) (rest := [.int r]) (k := 0) hF hK hN hP.2.1 (c_X9_hall l D aI aL aM hP.2.2.2.2.1 H.size σM (xs (n + 1)) r e2) (gV wt981 wt982 wt983 wt12 wt984) 1 hd_X9_hall ⟨Nat.le_of_ble_eq_true rfl, Nat.le_of_ble_eq_true rfl⟩ (by decide) 7 rfl rfl rfl hl.1 ⟨Nat.le_of_ble_eq_true rfl, Nat.le_of_ble_eq_true rfl⟩ rfl (Nat.le_of_ble_eq_true rfl) dL_law_612) hP (fun H locs hP => ?_)
        refine lv_icmp_eq (tgt := 879) hx hb dL_law_615 (by decide) (fun _ => ?_) (fun hc => absurd rfl hc)
        exact hgo _ _ hs2 _ _ hP
      by_cases hc17 : x = 17
      · refine lv_tableIn (off := 588) (tgt := 620) hx hb dL_law_32 (by rw [hc17]; decide +kernel) (by rw [hc17]; decide +kernel) (by rw [hc17]; decide +kernel) (by decide) ?_
        obtain ⟨r, e1, e2, hs2⟩ := hsim.2.2.2.2.2.2.2.2.2.2.2.2.2.2.2.2.2.1 σX σM hs
        refine lv_aload_n hx hb dL_law_620 rfl (lv_at hl 1 rfl) ?_
        refine y_ciX (y_rV (As := []) (rest := []) (k := 0) hF hK hN hP.1 (c_X8_rope l D aI aL aX hP.2.2.2.1 H.size σX r e1) (gV wt629 wt630 wt631 wt1 wt632) 0 hd_X8_rope ⟨Nat.le_of_ble_eq_true rfl, Nat.le_of_ble_eq_true rfl⟩ (by decide) 6 rfl rfl rfl hl.1 ⟨Nat.le_of_ble_eq_true rfl, Nat.le_of_ble_eq_true rfl⟩ rfl (Nat.le_of_ble_eq_true rfl) dL_law_621) hP (fun H locs hP => ?_)
        refine lv_aload_n hx hb dL_law_624 rfl (lv_at hl 2 rfl) ?_
        refine y_ciM (y_rV (As := []) (rest := [.int r]) (k := 0) hF hK hN hP.2.1 (c_X9_rope l D aI aL aM hP.2.2.2.2.1 H.size σM r e2) (gV wt989 wt990 wt991 wt12 wt992) 0 hd_X9_rope ⟨Nat.le_of_ble_eq_true rfl, Nat.le_of_ble_eq_true rfl⟩ (by decide) 7 rfl rfl rfl hl.1 ⟨Nat.le_of_ble_eq_true rfl, Nat.le_of_ble_eq_true rfl⟩ rfl (Nat.le_of_ble_eq_true rfl) dL_law_625) hP (fun H locs hP => ?_)
        refine lv_icmp_eq (tgt := 879) hx hb dL_law_628 (by decide) (fun _ => ?_) (fun hc => absurd rfl hc)
        exact hgo _ _ hs2 _ _ hP
      by_cases hc18 : x = 18
      · refine lv_tableIn (off := 601) (tgt := 633) hx hb dL_law_32 (by rw [hc18]; decide +kernel) (by rw [hc18]; decide +kernel) (by rw [hc18]; decide +kernel) (by decide) ?_
        obtain ⟨r, e1, e2, hs2⟩ := hsim.2.2.2.2.2.2.2.2.2.2.2.2.2.2.2.2.2.2.1 σX σM hs
        refine lv_aload_n hx hb dL_law_633 rfl (lv_at hl 1 rfl) ?_
        refine y_ciX (y_rV (As := []) (rest := []) (k := 0) hF hK hN hP.1 (c_X8_idle l D aI aL aX hP.2.2.2.1 H.size σX r e1) (gV wt636 wt637 wt638 wt1 wt639) 0 hd_X8_idle ⟨Nat.le_of_ble_eq_true rfl, Nat.le_of_ble_eq_true rfl⟩ (by decide) 6 rfl rfl rfl hl.1 ⟨Nat.le_of_ble_eq_true rfl, Nat.le_of_ble_eq_true rfl⟩ rfl (Nat.le_of_ble_eq_true rfl) dL_law_634) hP (fun H locs hP => ?_)
        refine lv_aload_n hx hb dL_law_637 rfl (lv_at hl 2 rfl) ?_
        refine y_ciM (y_rV (As := []) (rest := [.int r]) (k := 0) hF hK hN hP.2.1 (c_X9_idle l D aI aL aM hP.2.2.2.2.1 H.size σM r e2) (gV wt993 wt994 wt995 wt12 wt996) 0 hd_X9_idle ⟨Nat.le_of_ble_eq_true rfl, Nat.le_of_ble_eq_true rfl⟩ (by decide) 7 rfl rfl rfl hl.1 ⟨Nat.le_of_ble_eq_true rfl, Nat.le_of_ble_eq_true rfl⟩ rfl (Nat.le_of_ble_eq_true rfl) dL_law_638) hP (fun H locs hP => ?_)
        refine lv_icmp_eq (tgt := 879) hx hb dL_law_641 (by decide) (fun _ => ?_) (fun hc => absurd rfl hc)
        exact hgo _ _ hs2 _ _ hP
      by_cases hc19 : x = 19
      · refine lv_tableIn (off := 614) (tgt := 646) hx hb dL_law_32 (by rw [hc19]; decide +kernel) (by rw [hc19]; decide +kernel) (by rw [hc19]; decide +kernel) (by decide) ?_
        obtain ⟨r, e1, e2, hs2⟩ := hsim.2.2.2.2.2.2.2.2.2.2.2.2.2.2.2.2.2.2.2.1 σX σM hs
        refine lv_aload_n hx hb dL_law_646 rfl (lv_at hl 1 rfl) ?_
        refine y_ciX (y_rV (As := []) (rest := []) (k := 0) hF hK hN hP.1 (c_X8_circle l D aI aL aX hP.2.2.2.1 H.size σX r e1) (gV wt652 wt653 wt654 wt1 wt655) 0 hd_X8_circle ⟨Nat.le_of_ble_eq_true rfl, Nat.le_of_ble_eq_true rfl⟩ (by decide) 6 rfl rfl rfl hl.1 ⟨Nat.le_of_ble_eq_true rfl, Nat.le_of_ble_eq_true rfl⟩ rfl (Nat.le_of_ble_eq_true rfl) dL_law_647) hP (fun H locs hP => ?_)
        refine lv_aload_n hx hb dL_law_650 rfl (lv_at hl 2 rfl) ?_
        refine y_ciM (y_rV (As := []) (rest := [.int r]) (k := 0) hF hK hN hP.2.1 (c_X9_circle l D aI aL aM hP.2.2.2.2.1 H.size σM r e2) (gV wt997 wt998 wt999 wt12 wt1000) 0 hd_X9_circle ⟨Nat.le_of_ble_eq_true rfl, Nat.le_of_ble_eq_true rfl⟩ (by decide) 7 rfl rfl rfl hl.1 ⟨Nat.le_of_ble_eq_true rfl, Nat.le_of_ble_eq_true rfl⟩ rfl (Nat.le_of_ble_eq_true rfl) dL_law_651) hP (fun H locs hP => ?_)
        refine lv_icmp_eq (tgt := 879) hx hb dL_law_654 (by decide) (fun _ => ?_) (fun hc => absurd rfl hc)
        exact hgo _ _ hs2 _ _ hP
      by_cases hc20 : x = 20
      · refine lv_tableIn (off := 627) (tgt := 659) hx hb dL_law_32 (by rw [hc20]; decide +kernel) (by rw [hc20]; decide +kernel) (by rw [hc20]; decide +kernel) (by decide) ?_
        obtain ⟨r, σM2, e1, e2, hs2⟩ := hsim.2.2.2.2.2.2.2.2.2.2.2.2.2.2.2.2.2.2.2.2.1 σX σM hs
        refine lv_aload_n hx hb dL_law_659 rfl (lv_at hl 1 rfl) ?_
        refine y_ciX (y_rV (As := []) (rest := []) (k := 0) hF hK hN hP.1 (c_X8_deep l D aI aL aX hP.2.2.2.1 H.size σX r e1) (gV wt668 wt669 wt670 wt1 wt671) 0 hd_X8_deep ⟨Nat.le_of_ble_eq_true rfl, Nat.le_of_ble_eq_true rfl⟩ (by decide) 6 rfl rfl rfl hl.1 ⟨Nat.le_of_ble_eq_true rfl, Nat.le_of_ble_eq_true rfl⟩ rfl (Nat.le_of_ble_eq_true rfl) dL_law_660) hP (fun H locs hP => ?_)
        refine lv_aload_n hx hb dL_law_663 rfl (lv_at hl 2 rfl) ?_
        refine y_ciM (y_rV (As := []) (rest := [.int r]) (k := 0) hF hK hN hP.2.1 (c_X9_deep l D aI aL aM hP.2.2.2.2.1 H.size σM (r, σM2) e2) (gV wt1005 wt1006 wt1007 wt12 wt1008) 0 hd_X9_deep ⟨Nat.le_of_ble_eq_true rfl, Nat.le_of_ble_eq_true rfl⟩ (by decide) 7 rfl rfl rfl hl.1 ⟨Nat.le_of_ble_eq_true rfl, Nat.le_of_ble_eq_true rfl⟩ rfl (Nat.le_of_ble_eq_true rfl) dL_law_664) hP (fun H locs hP => ?_)
        refine lv_icmp_eq (tgt := 879) hx hb dL_law_667 (by decide) (fun _ => ?_) (fun hc => absurd rfl hc)
        exact hgo _ _ hs2 _ _ hP
      by_cases hc21 : x = 21
      · refine lv_tableIn (off := 640) (tgt := 672) hx hb dL_law_32 (by rw [hc21]; decide +kernel) (by rw [hc21]; decide +kernel) (by rw [hc21]; decide +kernel) (by decide) ?_
        obtain ⟨r, σX2, e1, e2, hs2⟩ := hsim.2.2.2.2.2.2.2.2.2.2.2.2.2.2.2.2.2.2.2.2.2.1 σX σM hs (xs (n + 1)) (xs (n + 2))
        refine lv_aload_n hx hb dL_law_672 rfl (lv_at hl 1 rfl) ?_
        refine lv_aload_n hx hb dL_law_673 rfl (lv_at hl 0 rfl) ?_
        refine lv_iload_n hx hb dL_law_674 rfl (lv_at hl 3 rfl) ?_
        refine lv_iconst (v := 1) hx hb dL_law_675 (by decide) ?_
        refine lv_iadd hx hb dL_law_676 ?_
        refine va_sld hx hb hX hbl hbA hP.2.2.1 in1 dL_law_677 ?_
        refine w_ni (v := xs (n + 1)) (by rw [c1]) ?_
        refine lv_aload_n hx hb dL_law_678 rfl (lv_at hl 0 rfl) ?_
        refine lv_iload_n hx hb dL_law_679 rfl (lv_at hl 3 rfl) ?_
        refine lv_iconst (v := 2) hx hb dL_law_680 (by decide) ?_
        refine lv_iadd hx hb dL_law_681 ?_
        refine va_sld hx hb hX hbl hbA hP.2.2.1 in2 dL_law_682 ?_
        refine w_ni (v := xs (n + 2)) (by rw [c2]) ?_
        refine y_ciX (y_rV (As := [.int (xs (n + 1)), .int (xs (n + 2))]) (rest := []) (k := 0) hF hK hN hP.1 (c_X8_proofs l D aI aL aX hP.2.2.2.1 H.size σX (xs (n + 1)) (xs (n + 2)) (r, σX2) e1) (gV wt675 wt676 wt677 wt1 wt678) 2 hd_X8_proofs ⟨Nat.le_of_ble_eq_true rfl, Nat.le_of_ble_eq_true rfl⟩ (by decide) 6 rfl rfl rfl hl.1 ⟨Nat.le_of_ble_eq_true rfl, Nat.le_of_ble_eq_true rfl⟩ rfl (Nat.le_of_ble_eq_true rfl) dL_law_683) hP (fun H locs hP => ?_)
        refine lv_aload_n hx hb dL_law_686 rfl (lv_at hl 2 rfl) ?_
        refine lv_aload_n hx hb dL_law_687 rfl (lv_at hl 0 rfl) ?_
        refine lv_iload_n hx hb dL_law_688 rfl (lv_at hl 3 rfl) ?_
        refine lv_iconst (v := 1) hx hb dL_law_689 (by decide) ?_
        refine lv_iadd hx hb dL_law_690 ?_
        refine va_sld hx hb hX hbl hbA hP.2.2.1 in1 dL_law_691 ?_
        refine w_ni (v := xs (n + 1)) (by rw [c1]) ?_
        refine lv_aload_n hx hb dL_law_692 rfl (lv_at hl 0 rfl) ?_
        refine lv_iload_n hx hb dL_law_693 rfl (lv_at hl 3 rfl) ?_
        refine lv_iconst (v := 2) hx hb dL_law_694 (by decide) ?_
        refine lv_iadd hx hb dL_law_695 ?_
        refine va_sld hx hb hX hbl hbA hP.2.2.1 in2 dL_law_696 ?_
        refine w_ni (v := xs (n + 2)) (by rw [c2]) ?_
        refine y_ciM (y_rV (As := [.int (xs (n + 1)), .int (xs (n + 2))]) (rest := [.int r]) (k := 0) hF hK hN hP.2.1 (c_X9_proofs l D aI aL aM hP.2.2.2.2.1 H.size σM (xs (n + 1)) (xs (n + 2)) r e2) (gV wt1010 wt1011 wt1012 wt12 wt1013) 2 hd_X9_proofs ⟨Nat.le_of_ble_eq_true rfl, Nat.le_of_ble_eq_true rfl⟩ (by decide) 7 rfl rfl rfl hl.1 ⟨Nat.le_of_ble_eq_true rfl, Nat.le_of_ble_eq_true rfl⟩ rfl (Nat.le_of_ble_eq_true rfl) dL_law_697) hP (fun H locs hP => ?_)
        refine lv_icmp_eq (tgt := 879) hx hb dL_law_700 (by decide) (fun _ => ?_) (fun hc => absurd rfl hc)
        exact hgo _ _ hs2 _ _ hP
      by_cases hc22 : x = 22
      · refine lv_tableIn (off := 673) (tgt := 705) hx hb dL_law_32 (by rw [hc22]; decide +kernel) (by rw [hc22]; decide +kernel) (by rw [hc22]; decide +kernel) (by decide) ?_
        obtain ⟨r, σX2, e1, e2, hs2⟩ := hsim.2.2.2.2.2.2.2.2.2.2.2.2.2.2.2.2.2.2.2.2.2.2.1 σX σM hs (xs (n + 1)) (xs (n + 2))
        refine lv_aload_n hx hb dL_law_705 rfl (lv_at hl 1 rfl) ?_
        refine lv_aload_n hx hb dL_law_706 rfl (lv_at hl 0 rfl) ?_
        refine lv_iload_n hx hb dL_law_707 rfl (lv_at hl 3 rfl) ?_
        refine lv_iconst (v := 1) hx hb dL_law_708 (by decide) ?_
        refine lv_iadd hx hb dL_law_709 ?_
        refine va_sld hx hb hX hbl hbA hP.2.2.1 in1 dL_law_710 ?_
        refine w_ni (v := xs (n + 1)) (by rw [c1]) ?_
        refine lv_aload_n hx hb dL_law_711 rfl (lv_at hl 0 rfl) ?_
        refine lv_iload_n hx hb dL_law_712 rfl (lv_at hl 3 rfl) ?_
        refine lv_iconst (v := 2) hx hb dL_law_713 (by decide) ?_
        refine lv_iadd hx hb dL_law_714 ?_
        refine va_sld hx hb hX hbl hbA hP.2.2.1 in2 dL_law_715 ?_
        refine w_ni (v := xs (n + 2)) (by rw [c2]) ?_
        refine y_ciX (y_rV (As := [.int (xs (n + 1)), .int (xs (n + 2))]) (rest := []) (k := 0) hF hK hN hP.1 (c_X8_worn l D aI aL aX hP.2.2.2.1 H.size σX (xs (n + 1)) (xs (n + 2)) (r, σX2) e1) (gV wt712 wt713 wt714 wt1 wt715) 2 hd_X8_worn ⟨Nat.le_of_ble_eq_true rfl, Nat.le_of_ble_eq_true rfl⟩ (by decide) 6 rfl rfl rfl hl.1 ⟨Nat.le_of_ble_eq_true rfl, Nat.le_of_ble_eq_true rfl⟩ rfl (Nat.le_of_ble_eq_true rfl) dL_law_716) hP (fun H locs hP => ?_)
        refine lv_aload_n hx hb dL_law_719 rfl (lv_at hl 2 rfl) ?_
        refine lv_aload_n hx hb dL_law_720 rfl (lv_at hl 0 rfl) ?_
        refine lv_iload_n hx hb dL_law_721 rfl (lv_at hl 3 rfl) ?_
        refine lv_iconst (v := 1) hx hb dL_law_722 (by decide) ?_
        refine lv_iadd hx hb dL_law_723 ?_
        refine va_sld hx hb hX hbl hbA hP.2.2.1 in1 dL_law_724 ?_
        refine w_ni (v := xs (n + 1)) (by rw [c1]) ?_
        refine lv_aload_n hx hb dL_law_725 rfl (lv_at hl 0 rfl) ?_
        refine lv_iload_n hx hb dL_law_726 rfl (lv_at hl 3 rfl) ?_
        refine lv_iconst (v := 2) hx hb dL_law_727 (by decide) ?_
        refine lv_iadd hx hb dL_law_728 ?_
        refine va_sld hx hb hX hbl hbA hP.2.2.1 in2 dL_law_729 ?_
        refine w_ni (v := xs (n + 2)) (by rw [c2]) ?_
        refine y_ciM (y_rV (As := [.int (xs (n + 1)), .int (xs (n + 2))]) (rest := [.int r]) (k := 0) hF hK hN hP.2.1 (c_X9_worn l D aI aL aM hP.2.2.2.2.1 H.size σM (xs (n + 1)) (xs (n + 2)) r e2) (gV wt1022 wt1023 wt1024 wt12 wt1025) 2 hd_X9_worn ⟨Nat.le_of_ble_eq_true rfl, Nat.le_of_ble_eq_true rfl⟩ (by decide) 7 rfl rfl rfl hl.1 ⟨Nat.le_of_ble_eq_true rfl, Nat.le_of_ble_eq_true rfl⟩ rfl (Nat.le_of_ble_eq_true rfl) dL_law_730) hP (fun H locs hP => ?_)
        refine lv_icmp_eq (tgt := 879) hx hb dL_law_733 (by decide) (fun _ => ?_) (fun hc => absurd rfl hc)
        exact hgo _ _ hs2 _ _ hP
      by_cases hc23 : x = 23
      · refine lv_tableIn (off := 706) (tgt := 738) hx hb dL_law_32 (by rw [hc23]; decide +kernel) (by rw [hc23]; decide +kernel) (by rw [hc23]; decide +kernel) (by decide) ?_
        obtain ⟨r, σX2, σM2, e1, e2, hs2⟩ := hsim.2.2.2.2.2.2.2.2.2.2.2.2.2.2.2.2.2.2.2.2.2.2.2.1 σX σM hs (xs (n + 1))
        refine lv_aload_n hx hb dL_law_738 rfl (lv_at hl 1 rfl) ?_
        refine lv_aload_n hx hb dL_law_739 rfl (lv_at hl 0 rfl) ?_
        refine lv_iload_n hx hb dL_law_740 rfl (lv_at hl 3 rfl) ?_
        refine lv_iconst (v := 1) hx hb dL_law_741 (by decide) ?_
        refine lv_iadd hx hb dL_law_742 ?_
        refine va_sld hx hb hX hbl hbA hP.2.2.1 in1 dL_law_743 ?_
        refine w_ni (v := xs (n + 1)) (by rw [c1]) ?_
        refine y_ciX (y_rV (As := [.int (xs (n + 1))]) (rest := []) (k := 0) hF hK hN hP.1 (c_X8_tell l D aI aL aX hP.2.2.2.1 H.size σX (xs (n + 1)) (r, σX2) e1) (gV wt724 wt725 wt726 wt1 wt727) 1 hd_X8_tell ⟨Nat.le_of_ble_eq_true rfl, Nat.le_of_ble_eq_true rfl⟩ (by decide) 6 rfl rfl rfl hl.1 ⟨Nat.le_of_ble_eq_true rfl, Nat.le_of_ble_eq_true rfl⟩ rfl (Nat.le_of_ble_eq_true rfl) dL_law_744) hP (fun H locs hP => ?_)
        refine lv_aload_n hx hb dL_law_747 rfl (lv_at hl 2 rfl) ?_
        refine lv_aload_n hx hb dL_law_748 rfl (lv_at hl 0 rfl) ?_
        refine lv_iload_n hx hb dL_law_749 rfl (lv_at hl 3 rfl) ?_
        refine lv_iconst (v := 1) hx hb dL_law_750 (by decide) ?_
        refine lv_iadd hx hb dL_law_751 ?_
        refine va_sld hx hb hX hbl hbA hP.2.2.1 in1 dL_law_752 ?_
        refine w_ni (v := xs (n + 1)) (by rw [c1]) ?_
        refine y_ciM (y_rV (As := [.int (xs (n + 1))]) (rest := [.int r]) (k := 0) hF hK hN hP.2.1 (c_X9_tell l D aI aL aM hP.2.2.2.2.1 H.size σM (xs (n + 1)) (r, σM2) e2) (gV wt1026 wt1027 wt1028 wt12 wt1029) 1 hd_X9_tell ⟨Nat.le_of_ble_eq_true rfl, Nat.le_of_ble_eq_true rfl⟩ (by decide) 7 rfl rfl rfl hl.1 ⟨Nat.le_of_ble_eq_true rfl, Nat.le_of_ble_eq_true rfl⟩ rfl (Nat.le_of_ble_eq_true rfl) dL_law_753) hP (fun H locs hP => ?_)
        refine lv_icmp_eq (tgt := 879) hx hb dL_law_756 (by decide) (fun _ => ?_) (fun hc => absurd rfl hc)
        exact hgo _ _ hs2 _ _ hP
      by_cases hc24 : x = 24
      · refine lv_tableIn (off := 729) (tgt := 761) hx hb dL_law_32 (by rw [hc24]; decide +kernel) (by rw [hc24]; decide +kernel) (by rw [hc24]; decide +kernel) (by decide) ?_
        obtain ⟨r, σX2, σM2, e1, e2, hs2⟩ := hsim.2.2.2.2.2.2.2.2.2.2.2.2.2.2.2.2.2.2.2.2.2.2.2.2.1 σX σM hs
        refine lv_aload_n hx hb dL_law_761 rfl (lv_at hl 1 rfl) ?_
        refine y_ciX (y_rV (As := []) (rest := []) (k := 0) hF hK hN hP.1 (c_X8_noRow l D aI aL aX hP.2.2.2.1 H.size σX (r, σX2) e1) (gV wt729 wt730 wt731 wt1 wt732) 0 hd_X8_noRow ⟨Nat.le_of_ble_eq_true rfl, Nat.le_of_ble_eq_true rfl⟩ (by decide) 6 rfl rfl rfl hl.1 ⟨Nat.le_of_ble_eq_true rfl, Nat.le_of_ble_eq_true rfl⟩ rfl (Nat.le_of_ble_eq_true rfl) dL_law_762) hP (fun H locs hP => ?_)
        refine lv_aload_n hx hb dL_law_765 rfl (lv_at hl 2 rfl) ?_
        refine y_ciM (y_rV (As := []) (rest := [.int r]) (k := 0) hF hK hN hP.2.1 (c_X9_noRow l D aI aL aM hP.2.2.2.2.1 H.size σM (r, σM2) e2) (gV wt1030 wt1031 wt1032 wt12 wt1033) 0 hd_X9_noRow ⟨Nat.le_of_ble_eq_true rfl, Nat.le_of_ble_eq_true rfl⟩ (by decide) 7 rfl rfl rfl hl.1 ⟨Nat.le_of_ble_eq_true rfl, Nat.le_of_ble_eq_true rfl⟩ rfl (Nat.le_of_ble_eq_true rfl) dL_law_766) hP (fun H locs hP => ?_)
        refine lv_icmp_eq (tgt := 879) hx hb dL_law_769 (by decide) (fun _ => ?_) (fun hc => absurd rfl hc)
        exact hgo _ _ hs2 _ _ hP
      by_cases hc25 : x = 25
      · refine lv_tableIn (off := 742) (tgt := 774) hx hb dL_law_32 (by rw [hc25]; decide +kernel) (by rw [hc25]; decide +kernel) (by rw [hc25]; decide +kernel) (by decide) ?_
        obtain ⟨r, e1, e2, hs2⟩ := hsim.2.2.2.2.2.2.2.2.2.2.2.2.2.2.2.2.2.2.2.2.2.2.2.2.2.1 σX σM hs
        refine lv_aload_n hx hb dL_law_774 rfl (lv_at hl 1 rfl) ?_
        refine y_ciX (y_rV (As := []) (rest := []) (k := 0) hF hK hN hP.1 (c_X8_judge l D aI aL aX hP.2.2.2.1 H.size σX r e1) (gV wt733 wt734 wt735 wt1 wt736) 0 hd_X8_judge ⟨Nat.le_of_ble_eq_true rfl, Nat.le_of_ble_eq_true rfl⟩ (by decide) 6 rfl rfl rfl hl.1 ⟨Nat.le_of_ble_eq_true rfl, Nat.le_of_ble_eq_true rfl⟩ rfl (Nat.le_of_ble_eq_true rfl) dL_law_775) hP (fun H locs hP => ?_)
        refine lv_aload_n hx hb dL_law_778 rfl (lv_at hl 2 rfl) ?_
        refine y_ciM (y_rV (As := []) (rest := [.int r]) (k := 0) hF hK hN hP.2.1 (c_X9_judge l D aI aL aM hP.2.2.2.2.1 H.size σM r e2) (gV wt1034 wt1035 wt1036 wt12 wt1037) 0 hd_X9_judge ⟨Nat.le_of_ble_eq_true rfl, Nat.le_of_ble_eq_true rfl⟩ (by decide) 7 rfl rfl rfl hl.1 ⟨Nat.le_of_ble_eq_true rfl, Nat.le_of_ble_eq_true rfl⟩ rfl (Nat.le_of_ble_eq_true rfl) dL_law_779) hP (fun H locs hP => ?_)
        refine lv_icmp_eq (tgt := 879) hx hb dL_law_782 (by decide) (fun _ => ?_) (fun hc => absurd rfl hc)
        exact hgo _ _ hs2 _ _ hP
      by_cases hc26 : x = 26
      · refine lv_tableIn (off := 755) (tgt := 787) hx hb dL_law_32 (by rw [hc26]; decide +kernel) (by rw [hc26]; decide +kernel) (by rw [hc26]; decide +kernel) (by decide) ?_
        obtain ⟨r, e1, e2, hs2⟩ := hsim.2.2.2.2.2.2.2.2.2.2.2.2.2.2.2.2.2.2.2.2.2.2.2.2.2.2.1 σX σM hs (xs (n + 1)) (xs (n + 2)) (xs (n + 3))
        refine lv_aload_n hx hb dL_law_787 rfl (lv_at hl 1 rfl) ?_
        refine lv_aload_n hx hb dL_law_788 rfl (lv_at hl 0 rfl) ?_
        refine lv_iload_n hx hb dL_law_789 rfl (lv_at hl 3 rfl) ?_
        refine lv_iconst (v := 1) hx hb dL_law_790 (by decide) ?_
        refine lv_iadd hx hb dL_law_791 ?_
        refine va_sld hx hb hX hbl hbA hP.2.2.1 in1 dL_law_792 ?_
        refine w_ni (v := xs (n + 1)) (by rw [c1]) ?_
        refine lv_aload_n hx hb dL_law_793 rfl (lv_at hl 0 rfl) ?_
        refine lv_iload_n hx hb dL_law_794 rfl (lv_at hl 3 rfl) ?_
        refine lv_iconst (v := 2) hx hb dL_law_795 (by decide) ?_
        refine lv_iadd hx hb dL_law_796 ?_
        refine va_sld hx hb hX hbl hbA hP.2.2.1 in2 dL_law_797 ?_
        refine w_ni (v := xs (n + 2)) (by rw [c2]) ?_
        refine lv_aload_n hx hb dL_law_798 rfl (lv_at hl 0 rfl) ?_
        refine lv_iload_n hx hb dL_law_799 rfl (lv_at hl 3 rfl) ?_
        refine lv_iconst (v := 3) hx hb dL_law_800 (by decide) ?_
        refine lv_iadd hx hb dL_law_801 ?_
        refine va_sld hx hb hX hbl hbA hP.2.2.1 in3 dL_law_802 ?_
        refine w_ni (v := xs (n + 3)) (by rw [c3]) ?_
        refine y_ciX (y_rV (As := [.int (xs (n + 1)), .int (xs (n + 2)), .int (xs (n + 3))]) (rest := []) (k := 0) hF hK hN hP.1 (c_X8_year l D aI aL aX hP.2.2.2.1 H.size σX (xs (n + 1)) (xs (n + 2)) (xs (n + 3)) r e1) (gV wt739 wt740 wt741 wt1 wt742) 3 hd_X8_year ⟨Nat.le_of_ble_eq_true rfl, Nat.le_of_ble_eq_true rfl⟩ (by decide) 6 rfl rfl rfl hl.1 ⟨Nat.le_of_ble_eq_true rfl, Nat.le_of_ble_eq_true rfl⟩ rfl (Nat.le_of_ble_eq_true rfl) dL_law_803) hP (fun H locs hP => ?_)
        refine lv_aload_n hx hb dL_law_806 rfl (lv_at hl 2 rfl) ?_
        refine lv_aload_n hx hb dL_law_807 rfl (lv_at hl 0 rfl) ?_
        refine lv_iload_n hx hb dL_law_808 rfl (lv_at hl 3 rfl) ?_
        refine lv_iconst (v := 1) hx hb dL_law_809 (by decide) ?_
        refine lv_iadd hx hb dL_law_810 ?_
        refine va_sld hx hb hX hbl hbA hP.2.2.1 in1 dL_law_811 ?_
        refine w_ni (v := xs (n + 1)) (by rw [c1]) ?_
        refine lv_aload_n hx hb dL_law_812 rfl (lv_at hl 0 rfl) ?_
        refine lv_iload_n hx hb dL_law_813 rfl (lv_at hl 3 rfl) ?_
        refine lv_iconst (v := 2) hx hb dL_law_814 (by decide) ?_
        refine lv_iadd hx hb dL_law_815 ?_
        refine va_sld hx hb hX hbl hbA hP.2.2.1 in2 dL_law_816 ?_
        refine w_ni (v := xs (n + 2)) (by rw [c2]) ?_
        refine lv_aload_n hx hb dL_law_817 rfl (lv_at hl 0 rfl) ?_
        refine lv_iload_n hx hb dL_law_818 rfl (lv_at hl 3 rfl) ?_
        refine lv_iconst (v := 3) hx hb dL_law_819 (by decide) ?_
        refine lv_iadd hx hb dL_law_820 ?_
        refine va_sld hx hb hX hbl hbA hP.2.2.1 in3 dL_law_821 ?_
        refine w_ni (v := xs (n + 3)) (by rw [c3]) ?_
        refine y_ciM (y_rV (As := [.int (xs (n + 1)), .int (xs (n + 2)), .int (xs (n + 3))]) (rest := [.int r]) (k := 0) hF hK hN hP.2.1 (c_X9_year l D aI aL aM hP.2.2.2.2.1 H.size σM (xs (n + 1)) (xs (n + 2)) (xs (n + 3)) r e2) (gV wt1038 wt1039 wt1040 wt12 wt1041) 3 hd_X9_year ⟨Nat.le_of_ble_eq_true rfl, Nat.le_of_ble_eq_true rfl⟩ (by decide) 7 rfl rfl rfl hl.1 ⟨Nat.le_of_ble_eq_true rfl, Nat.le_of_ble_eq_true rfl⟩ rfl (Nat.le_of_ble_eq_true rfl) dL_law_822) hP (fun H locs hP => ?_)
        refine lv_icmp_eq (tgt := 879) hx hb dL_law_825 (by decide) (fun _ => ?_) (fun hc => absurd rfl hc)
        exact hgo _ _ hs2 _ _ hP
      by_cases hc27 : x = 27
      · refine lv_tableIn (off := 798) (tgt := 830) hx hb dL_law_32 (by rw [hc27]; decide +kernel) (by rw [hc27]; decide +kernel) (by rw [hc27]; decide +kernel) (by decide) ?_
        obtain ⟨r, σX2, σM2, e1, e2, hs2⟩ := hsim.2.2.2.2.2.2.2.2.2.2.2.2.2.2.2.2.2.2.2.2.2.2.2.2.2.2.2.1 σX σM hs
        refine lv_aload_n hx hb dL_law_830 rfl (lv_at hl 1 rfl) ?_
        refine y_ciX (y_rV (As := []) (rest := []) (k := 0) hF hK hN hP.1 (c_X8_keep l D aI aL aX hP.2.2.2.1 H.size σX (r, σX2) e1) (gV wt750 wt751 wt752 wt1 wt753) 0 hd_X8_keep ⟨Nat.le_of_ble_eq_true rfl, Nat.le_of_ble_eq_true rfl⟩ (by decide) 6 rfl rfl rfl hl.1 ⟨Nat.le_of_ble_eq_true rfl, Nat.le_of_ble_eq_true rfl⟩ rfl (Nat.le_of_ble_eq_true rfl) dL_law_831) hP (fun H locs hP => ?_)
        refine lv_aload_n hx hb dL_law_834 rfl (lv_at hl 2 rfl) ?_
        refine y_ciM (y_rV (As := []) (rest := [.int r]) (k := 0) hF hK hN hP.2.1 (c_X9_keep l D aI aL aM hP.2.2.2.2.1 H.size σM (r, σM2) e2) (gV wt1047 wt1048 wt1049 wt12 wt1050) 0 hd_X9_keep ⟨Nat.le_of_ble_eq_true rfl, Nat.le_of_ble_eq_true rfl⟩ (by decide) 7 rfl rfl rfl hl.1 ⟨Nat.le_of_ble_eq_true rfl, Nat.le_of_ble_eq_true rfl⟩ rfl (Nat.le_of_ble_eq_true rfl) dL_law_835) hP (fun H locs hP => ?_)
        refine lv_icmp_eq (tgt := 879) hx hb dL_law_838 (by decide) (fun _ => ?_) (fun hc => absurd rfl hc)
        exact hgo _ _ hs2 _ _ hP
      by_cases hc28 : x = 28
      · refine lv_tableIn (off := 811) (tgt := 843) hx hb dL_law_32 (by rw [hc28]; decide +kernel) (by rw [hc28]; decide +kernel) (by rw [hc28]; decide +kernel) (by decide) ?_
        obtain ⟨r, σX2, σM2, e1, e2, hs2⟩ := hsim.2.2.2.2.2.2.2.2.2.2.2.2.2.2.2.2.2.2.2.2.2.2.2.2.2.2.2.2.1 σX σM hs
        refine lv_aload_n hx hb dL_law_843 rfl (lv_at hl 1 rfl) ?_
        refine y_ciX (y_rV (As := []) (rest := []) (k := 0) hF hK hN hP.1 (c_X8_back l D aI aL aX hP.2.2.2.1 H.size σX (r, σX2) e1) (gV wt758 wt759 wt760 wt1 wt761) 0 hd_X8_back ⟨Nat.le_of_ble_eq_true rfl, Nat.le_of_ble_eq_true rfl⟩ (by decide) 6 rfl rfl rfl hl.1 ⟨Nat.le_of_ble_eq_true rfl, Nat.le_of_ble_eq_true rfl⟩ rfl (Nat.le_of_ble_eq_true rfl) dL_law_844) hP (fun H locs hP => ?_)
        refine lv_aload_n hx hb dL_law_847 rfl (lv_at hl 2 rfl) ?_
        refine y_ciM (y_rV (As := []) (rest := [.int r]) (k := 0) hF hK hN hP.2.1 (c_X9_back l D aI aL aM hP.2.2.2.2.1 H.size σM (r, σM2) e2) (gV wt1051 wt1052 wt1053 wt12 wt1054) 0 hd_X9_back ⟨Nat.le_of_ble_eq_true rfl, Nat.le_of_ble_eq_true rfl⟩ (by decide) 7 rfl rfl rfl hl.1 ⟨Nat.le_of_ble_eq_true rfl, Nat.le_of_ble_eq_true rfl⟩ rfl (Nat.le_of_ble_eq_true rfl) dL_law_848) hP (fun H locs hP => ?_)
        refine lv_icmp_eq (tgt := 879) hx hb dL_law_851 (by decide) (fun _ => ?_) (fun hc => absurd rfl hc)
        exact hgo _ _ hs2 _ _ hP
      by_cases hc29 : x = 29
      · refine lv_tableIn (off := 824) (tgt := 856) hx hb dL_law_32 (by rw [hc29]; decide +kernel) (by rw [hc29]; decide +kernel) (by rw [hc29]; decide +kernel) (by decide) ?_
        obtain ⟨r, e1, e2, hs2⟩ := hsim.2.2.2.2.2.2.2.2.2.2.2.2.2.2.2.2.2.2.2.2.2.2.2.2.2.2.2.2.2 σX σM hs (xs (n + 1))
        refine lv_aload_n hx hb dL_law_856 rfl (lv_at hl 1 rfl) ?_
        refine lv_aload_n hx hb dL_law_857 rfl (lv_at hl 0 rfl) ?_
        refine lv_iload_n hx hb dL_law_858 rfl (lv_at hl 3 rfl) ?_
        refine lv_iconst (v := 1) hx hb dL_law_859 (by decide) ?_
        refine lv_iadd hx hb dL_law_860 ?_
        refine va_sld hx hb hX hbl hbA hP.2.2.1 in1 dL_law_861 ?_
        refine w_ni (v := xs (n + 1)) (by rw [c1]) ?_
        refine y_ciX (y_rV (As := [.int (xs (n + 1))]) (rest := []) (k := 0) hF hK hN hP.1 (c_X8_count l D aI aL aX hP.2.2.2.1 H.size σX (xs (n + 1)) r e1) (gV wt762 wt763 wt764 wt1 wt765) 1 hd_X8_count ⟨Nat.le_of_ble_eq_true rfl, Nat.le_of_ble_eq_true rfl⟩ (by decide) 6 rfl rfl rfl hl.1 ⟨Nat.le_of_ble_eq_true rfl, Nat.le_of_ble_eq_true rfl⟩ rfl (Nat.le_of_ble_eq_true rfl) dL_law_862) hP (fun H locs hP => ?_)
        refine lv_aload_n hx hb dL_law_865 rfl (lv_at hl 2 rfl) ?_
        refine lv_aload_n hx hb dL_law_866 rfl (lv_at hl 0 rfl) ?_
        refine lv_iload_n hx hb dL_law_867 rfl (lv_at hl 3 rfl) ?_
        refine lv_iconst (v := 1) hx hb dL_law_868 (by decide) ?_
        refine lv_iadd hx hb dL_law_869 ?_
        refine va_sld hx hb hX hbl hbA hP.2.2.1 in1 dL_law_870 ?_
        refine w_ni (v := xs (n + 1)) (by rw [c1]) ?_
        refine y_ciM (y_rV (As := [.int (xs (n + 1))]) (rest := [.int r]) (k := 0) hF hK hN hP.2.1 (c_X9_count l D aI aL aM hP.2.2.2.2.1 H.size σM (xs (n + 1)) r e2) (gV wt1055 wt1056 wt1057 wt12 wt1058) 1 hd_X9_count ⟨Nat.le_of_ble_eq_true rfl, Nat.le_of_ble_eq_true rfl⟩ (by decide) 7 rfl rfl rfl hl.1 ⟨Nat.le_of_ble_eq_true rfl, Nat.le_of_ble_eq_true rfl⟩ rfl (Nat.le_of_ble_eq_true rfl) dL_law_871) hP (fun H locs hP => ?_)
        refine lv_icmp_eq (tgt := 879) hx hb dL_law_874 (by decide) (fun _ => ?_) (fun hc => absurd rfl hc)
        exact hgo _ _ hs2 _ _ hP
      refine lv_tableOut (tgt := 879) hx hb dL_law_32 (tb_out (n := 30) (by decide) (fun j hj => match j, hj with | 0, _ => hc0 | 1, _ => hc1 | 2, _ => hc2 | 3, _ => hc3 | 4, _ => hc4 | 5, _ => hc5 | 6, _ => hc6 | 7, _ => hc7 | 8, _ => hc8 | 9, _ => hc9 | 10, _ => hc10 | 11, _ => hc11 | 12, _ => hc12 | 13, _ => hc13 | 14, _ => hc14 | 15, _ => hc15 | 16, _ => hc16 | 17, _ => hc17 | 18, _ => hc18 | 19, _ => hc19 | 20, _ => hc20 | 21, _ => hc21 | 22, _ => hc22 | 23, _ => hc23 | 24, _ => hc24 | 25, _ => hc25 | 26, _ => hc26 | 27, _ => hc27 | 28, _ => hc28 | 29, _ => hc29 | j + 30, hj => absurd hj (by omega))) (by decide) ?_
      exact hgo _ _ hs _ _ hP
