-- ===== PART A: goes FIRST, ahead of the names: the tables' words, and 'selects' of the private methods out of them =====
/-- a private method of a class that the tables say can be made, by its rows of tables_1 -/
def lw_okq (q : MethodName × Nat) : Prop := (q.1.cls ≠ "java/lang/invoke/MethodHandle" ∧ q.1.cls ≠ "java/lang/invoke/VarHandle") ∧ Cond.instantiable q.1.cls q.2 ∈ tables_1 ∧ Cond.privateMethod q.1 ∈ tables_1 ∧ Cond.instanceMethod q.1 ∈ tables_1
theorem lw_p0 : lw_okq (⟨"FloorOfProofs$Reader", "itemsEnd", "(LFloorOfProofs$Text;I)I"⟩, 2) := ⟨⟨by decide +kernel, by decide +kernel⟩, List.mem_of_getElem? (i := 39) (by decide +kernel), List.mem_of_getElem? (i := 217) (by decide +kernel), List.mem_of_getElem? (i := 218) (by decide +kernel)⟩
theorem lw_p1 : lw_okq (⟨"FloorOfProofs$Reader", "takeItem", "(LFloorOfProofs$Floor;I)Z"⟩, 2) := ⟨⟨by decide +kernel, by decide +kernel⟩, List.mem_of_getElem? (i := 39) (by decide +kernel), List.mem_of_getElem? (i := 241) (by decide +kernel), List.mem_of_getElem? (i := 242) (by decide +kernel)⟩
theorem lw_p2 : lw_okq (⟨"FloorOfProofs", "forgetRowAndPast", "()V"⟩, 12) := ⟨⟨by decide +kernel, by decide +kernel⟩, List.mem_of_getElem? (i := 17) (by decide +kernel), List.mem_of_getElem? (i := 352) (by decide +kernel), List.mem_of_getElem? (i := 353) (by decide +kernel)⟩
theorem lw_p3 : lw_okq (⟨"FloorOfProofs", "isStone", "(I)Z"⟩, 12) := ⟨⟨by decide +kernel, by decide +kernel⟩, List.mem_of_getElem? (i := 17) (by decide +kernel), List.mem_of_getElem? (i := 368) (by decide +kernel), List.mem_of_getElem? (i := 369) (by decide +kernel)⟩
theorem lw_p4 : lw_okq (⟨"FloorOfProofs", "isStep", "(I)Z"⟩, 12) := ⟨⟨by decide +kernel, by decide +kernel⟩, List.mem_of_getElem? (i := 17) (by decide +kernel), List.mem_of_getElem? (i := 400) (by decide +kernel), List.mem_of_getElem? (i := 401) (by decide +kernel)⟩
theorem lw_p5 : lw_okq (⟨"FloorOfProofs$Floor", "afterAmong", "(III)I"⟩, 11) := ⟨⟨by decide +kernel, by decide +kernel⟩, List.mem_of_getElem? (i := 52) (by decide +kernel), List.mem_of_getElem? (i := 424) (by decide +kernel), List.mem_of_getElem? (i := 425) (by decide +kernel)⟩
theorem lw_p6 : lw_okq (⟨"FloorOfProofs$Past", "note", "(II)V"⟩, 3) := ⟨⟨by decide +kernel, by decide +kernel⟩, List.mem_of_getElem? (i := 92) (by decide +kernel), List.mem_of_getElem? (i := 444) (by decide +kernel), List.mem_of_getElem? (i := 445) (by decide +kernel)⟩
theorem lw_p7 : lw_okq (⟨"FloorOfProofs$Past", "forgetOldest", "()V"⟩, 3) := ⟨⟨by decide +kernel, by decide +kernel⟩, List.mem_of_getElem? (i := 92) (by decide +kernel), List.mem_of_getElem? (i := 448) (by decide +kernel), List.mem_of_getElem? (i := 449) (by decide +kernel)⟩
theorem lw_p8 : lw_okq (⟨"FloorOfProofs", "isSetOfStones", "(I)Z"⟩, 12) := ⟨⟨by decide +kernel, by decide +kernel⟩, List.mem_of_getElem? (i := 17) (by decide +kernel), List.mem_of_getElem? (i := 517) (by decide +kernel), List.mem_of_getElem? (i := 518) (by decide +kernel)⟩
theorem lw_p9 : lw_okq (⟨"FloorOfProofs$Walks", "measureFrom", "(LFloorOfProofs$Floor;II)V"⟩, 2) := ⟨⟨by decide +kernel, by decide +kernel⟩, List.mem_of_getElem? (i := 108) (by decide +kernel), List.mem_of_getElem? (i := 542) (by decide +kernel), List.mem_of_getElem? (i := 543) (by decide +kernel)⟩
theorem lw_p10 : lw_okq (⟨"FloorOfProofs$ProofRows", "isProof", "(II)Z"⟩, 2) := ⟨⟨by decide +kernel, by decide +kernel⟩, List.mem_of_getElem? (i := 121) (by decide +kernel), List.mem_of_getElem? (i := 699) (by decide +kernel), List.mem_of_getElem? (i := 700) (by decide +kernel)⟩
theorem lw_p11 : lw_okq (⟨"FloorOfProofs", "drawnStep", "(II)I"⟩, 12) := ⟨⟨by decide +kernel, by decide +kernel⟩, List.mem_of_getElem? (i := 17) (by decide +kernel), List.mem_of_getElem? (i := 744) (by decide +kernel), List.mem_of_getElem? (i := 745) (by decide +kernel)⟩
theorem lw_p12 : lw_okq (⟨"FloorOfProofs", "keeperOf", "(I)LFloorOfProofs$Floor;"⟩, 12) := ⟨⟨by decide +kernel, by decide +kernel⟩, List.mem_of_getElem? (i := 17) (by decide +kernel), List.mem_of_getElem? (i := 755) (by decide +kernel), List.mem_of_getElem? (i := 756) (by decide +kernel)⟩
theorem lw_p13 : lw_okq (⟨"FloorOfProofsModel", "makeAnew", "(I)V"⟩, 13) := ⟨⟨by decide +kernel, by decide +kernel⟩, List.mem_of_getElem? (i := 767) (by decide +kernel), List.mem_of_getElem? (i := 773) (by decide +kernel), List.mem_of_getElem? (i := 774) (by decide +kernel)⟩
theorem lw_p14 : lw_okq (⟨"FloorOfProofsModel", "layStep", "(IIII)V"⟩, 13) := ⟨⟨by decide +kernel, by decide +kernel⟩, List.mem_of_getElem? (i := 767) (by decide +kernel), List.mem_of_getElem? (i := 777) (by decide +kernel), List.mem_of_getElem? (i := 778) (by decide +kernel)⟩
theorem lw_p15 : lw_okq (⟨"FloorOfProofsModel", "settle", "(I)V"⟩, 13) := ⟨⟨by decide +kernel, by decide +kernel⟩, List.mem_of_getElem? (i := 767) (by decide +kernel), List.mem_of_getElem? (i := 781) (by decide +kernel), List.mem_of_getElem? (i := 782) (by decide +kernel)⟩
def lw_privs_1 : List (MethodName × Nat) := [(⟨"FloorOfProofs$Reader", "itemsEnd", "(LFloorOfProofs$Text;I)I"⟩, 2), (⟨"FloorOfProofs$Reader", "takeItem", "(LFloorOfProofs$Floor;I)Z"⟩, 2), (⟨"FloorOfProofs", "forgetRowAndPast", "()V"⟩, 12), (⟨"FloorOfProofs", "isStone", "(I)Z"⟩, 12), (⟨"FloorOfProofs", "isStep", "(I)Z"⟩, 12), (⟨"FloorOfProofs$Floor", "afterAmong", "(III)I"⟩, 11), (⟨"FloorOfProofs$Past", "note", "(II)V"⟩, 3), (⟨"FloorOfProofs$Past", "forgetOldest", "()V"⟩, 3), (⟨"FloorOfProofs", "isSetOfStones", "(I)Z"⟩, 12), (⟨"FloorOfProofs$Walks", "measureFrom", "(LFloorOfProofs$Floor;II)V"⟩, 2), (⟨"FloorOfProofs$ProofRows", "isProof", "(II)Z"⟩, 2), (⟨"FloorOfProofs", "drawnStep", "(II)I"⟩, 12), (⟨"FloorOfProofs", "keeperOf", "(I)LFloorOfProofs$Floor;"⟩, 12), (⟨"FloorOfProofsModel", "makeAnew", "(I)V"⟩, 13), (⟨"FloorOfProofsModel", "layStep", "(IIII)V"⟩, 13), (⟨"FloorOfProofsModel", "settle", "(I)V"⟩, 13)]
theorem lw_r1 : ∀ q ∈ lw_privs_1, lw_okq q := List.forall_mem_cons.mpr ⟨lw_p0, List.forall_mem_cons.mpr ⟨lw_p1, List.forall_mem_cons.mpr ⟨lw_p2, List.forall_mem_cons.mpr ⟨lw_p3, List.forall_mem_cons.mpr ⟨lw_p4, List.forall_mem_cons.mpr ⟨lw_p5, List.forall_mem_cons.mpr ⟨lw_p6, List.forall_mem_cons.mpr ⟨lw_p7, List.forall_mem_cons.mpr ⟨lw_p8, List.forall_mem_cons.mpr ⟨lw_p9, List.forall_mem_cons.mpr ⟨lw_p10, List.forall_mem_cons.mpr ⟨lw_p11, List.forall_mem_cons.mpr ⟨lw_p12, List.forall_mem_cons.mpr ⟨lw_p13, List.forall_mem_cons.mpr ⟨lw_p14, List.forall_mem_cons.mpr ⟨lw_p15, fun _ h => absurd h List.not_mem_nil⟩⟩⟩⟩⟩⟩⟩⟩⟩⟩⟩⟩⟩⟩⟩⟩
theorem lw_p16 : lw_okq (⟨"FloorOfProofsModel", "readItem", "()Z"⟩, 13) := ⟨⟨by decide +kernel, by decide +kernel⟩, List.mem_of_getElem? (i := 767) (by decide +kernel), List.mem_of_getElem? (i := 843) (by decide +kernel), List.mem_of_getElem? (i := 844) (by decide +kernel)⟩
theorem lw_p17 : lw_okq (⟨"FloorOfProofsModel", "takes", "(I)Z"⟩, 13) := ⟨⟨by decide +kernel, by decide +kernel⟩, List.mem_of_getElem? (i := 767) (by decide +kernel), List.mem_of_getElem? (i := 847) (by decide +kernel), List.mem_of_getElem? (i := 848) (by decide +kernel)⟩
theorem lw_p18 : lw_okq (⟨"FloorOfProofsModel", "isRead", "(I)Z"⟩, 13) := ⟨⟨by decide +kernel, by decide +kernel⟩, List.mem_of_getElem? (i := 767) (by decide +kernel), List.mem_of_getElem? (i := 854) (by decide +kernel), List.mem_of_getElem? (i := 855) (by decide +kernel)⟩
theorem lw_p19 : lw_okq (⟨"FloorOfProofsModel", "readStep", "()Z"⟩, 13) := ⟨⟨by decide +kernel, by decide +kernel⟩, List.mem_of_getElem? (i := 767) (by decide +kernel), List.mem_of_getElem? (i := 858) (by decide +kernel), List.mem_of_getElem? (i := 859) (by decide +kernel)⟩
theorem lw_p20 : lw_okq (⟨"FloorOfProofsModel", "readPair", "()Z"⟩, 13) := ⟨⟨by decide +kernel, by decide +kernel⟩, List.mem_of_getElem? (i := 767) (by decide +kernel), List.mem_of_getElem? (i := 862) (by decide +kernel), List.mem_of_getElem? (i := 863) (by decide +kernel)⟩
theorem lw_p21 : lw_okq (⟨"FloorOfProofsModel", "copy", "(II)V"⟩, 13) := ⟨⟨by decide +kernel, by decide +kernel⟩, List.mem_of_getElem? (i := 767) (by decide +kernel), List.mem_of_getElem? (i := 871) (by decide +kernel), List.mem_of_getElem? (i := 872) (by decide +kernel)⟩
theorem lw_p22 : lw_okq (⟨"FloorOfProofsModel", "isStone", "(I)Z"⟩, 13) := ⟨⟨by decide +kernel, by decide +kernel⟩, List.mem_of_getElem? (i := 767) (by decide +kernel), List.mem_of_getElem? (i := 879) (by decide +kernel), List.mem_of_getElem? (i := 880) (by decide +kernel)⟩
theorem lw_p23 : lw_okq (⟨"FloorOfProofsModel", "isStep", "(I)Z"⟩, 13) := ⟨⟨by decide +kernel, by decide +kernel⟩, List.mem_of_getElem? (i := 767) (by decide +kernel), List.mem_of_getElem? (i := 888) (by decide +kernel), List.mem_of_getElem? (i := 889) (by decide +kernel)⟩
theorem lw_p24 : lw_okq (⟨"FloorOfProofsModel", "may", "(I)Z"⟩, 13) := ⟨⟨by decide +kernel, by decide +kernel⟩, List.mem_of_getElem? (i := 767) (by decide +kernel), List.mem_of_getElem? (i := 893) (by decide +kernel), List.mem_of_getElem? (i := 894) (by decide +kernel)⟩
theorem lw_p25 : lw_okq (⟨"FloorOfProofsModel", "minds", "()V"⟩, 13) := ⟨⟨by decide +kernel, by decide +kernel⟩, List.mem_of_getElem? (i := 767) (by decide +kernel), List.mem_of_getElem? (i := 904) (by decide +kernel), List.mem_of_getElem? (i := 905) (by decide +kernel)⟩
theorem lw_p26 : lw_okq (⟨"FloorOfProofsModel", "isSet", "(I)Z"⟩, 13) := ⟨⟨by decide +kernel, by decide +kernel⟩, List.mem_of_getElem? (i := 767) (by decide +kernel), List.mem_of_getElem? (i := 927) (by decide +kernel), List.mem_of_getElem? (i := 928) (by decide +kernel)⟩
theorem lw_p27 : lw_okq (⟨"FloorOfProofsModel", "reachOf", "(I)I"⟩, 13) := ⟨⟨by decide +kernel, by decide +kernel⟩, List.mem_of_getElem? (i := 767) (by decide +kernel), List.mem_of_getElem? (i := 931) (by decide +kernel), List.mem_of_getElem? (i := 932) (by decide +kernel)⟩
theorem lw_p28 : lw_okq (⟨"FloorOfProofsModel", "allSteps", "()I"⟩, 13) := ⟨⟨by decide +kernel, by decide +kernel⟩, List.mem_of_getElem? (i := 767) (by decide +kernel), List.mem_of_getElem? (i := 935) (by decide +kernel), List.mem_of_getElem? (i := 936) (by decide +kernel)⟩
theorem lw_p29 : lw_okq (⟨"FloorOfProofsModel", "closure", "(III)I"⟩, 13) := ⟨⟨by decide +kernel, by decide +kernel⟩, List.mem_of_getElem? (i := 767) (by decide +kernel), List.mem_of_getElem? (i := 939) (by decide +kernel), List.mem_of_getElem? (i := 940) (by decide +kernel)⟩
theorem lw_p30 : lw_okq (⟨"FloorOfProofsModel", "layWalks", "(I)V"⟩, 13) := ⟨⟨by decide +kernel, by decide +kernel⟩, List.mem_of_getElem? (i := 767) (by decide +kernel), List.mem_of_getElem? (i := 949) (by decide +kernel), List.mem_of_getElem? (i := 950) (by decide +kernel)⟩
theorem lw_p31 : lw_okq (⟨"FloorOfProofsModel", "mayFrom", "(II)Z"⟩, 13) := ⟨⟨by decide +kernel, by decide +kernel⟩, List.mem_of_getElem? (i := 767) (by decide +kernel), List.mem_of_getElem? (i := 953) (by decide +kernel), List.mem_of_getElem? (i := 954) (by decide +kernel)⟩
def lw_privs_2 : List (MethodName × Nat) := [(⟨"FloorOfProofsModel", "readItem", "()Z"⟩, 13), (⟨"FloorOfProofsModel", "takes", "(I)Z"⟩, 13), (⟨"FloorOfProofsModel", "isRead", "(I)Z"⟩, 13), (⟨"FloorOfProofsModel", "readStep", "()Z"⟩, 13), (⟨"FloorOfProofsModel", "readPair", "()Z"⟩, 13), (⟨"FloorOfProofsModel", "copy", "(II)V"⟩, 13), (⟨"FloorOfProofsModel", "isStone", "(I)Z"⟩, 13), (⟨"FloorOfProofsModel", "isStep", "(I)Z"⟩, 13), (⟨"FloorOfProofsModel", "may", "(I)Z"⟩, 13), (⟨"FloorOfProofsModel", "minds", "()V"⟩, 13), (⟨"FloorOfProofsModel", "isSet", "(I)Z"⟩, 13), (⟨"FloorOfProofsModel", "reachOf", "(I)I"⟩, 13), (⟨"FloorOfProofsModel", "allSteps", "()I"⟩, 13), (⟨"FloorOfProofsModel", "closure", "(III)I"⟩, 13), (⟨"FloorOfProofsModel", "layWalks", "(I)V"⟩, 13), (⟨"FloorOfProofsModel", "mayFrom", "(II)Z"⟩, 13)]
theorem lw_r2 : ∀ q ∈ lw_privs_2, lw_okq q := List.forall_mem_cons.mpr ⟨lw_p16, List.forall_mem_cons.mpr ⟨lw_p17, List.forall_mem_cons.mpr ⟨lw_p18, List.forall_mem_cons.mpr ⟨lw_p19, List.forall_mem_cons.mpr ⟨lw_p20, List.forall_mem_cons.mpr ⟨lw_p21, List.forall_mem_cons.mpr ⟨lw_p22, List.forall_mem_cons.mpr ⟨lw_p23, List.forall_mem_cons.mpr ⟨lw_p24, List.forall_mem_cons.mpr ⟨lw_p25, List.forall_mem_cons.mpr ⟨lw_p26, List.forall_mem_cons.mpr ⟨lw_p27, List.forall_mem_cons.mpr ⟨lw_p28, List.forall_mem_cons.mpr ⟨lw_p29, List.forall_mem_cons.mpr ⟨lw_p30, List.forall_mem_cons.mpr ⟨lw_p31, fun _ h => absurd h List.not_mem_nil⟩⟩⟩⟩⟩⟩⟩⟩⟩⟩⟩⟩⟩⟩⟩⟩
theorem lw_p32 : lw_okq (⟨"FloorOfProofsModel", "beginnings", "()I"⟩, 13) := ⟨⟨by decide +kernel, by decide +kernel⟩, List.mem_of_getElem? (i := 767) (by decide +kernel), List.mem_of_getElem? (i := 966) (by decide +kernel), List.mem_of_getElem? (i := 967) (by decide +kernel)⟩
theorem lw_p33 : lw_okq (⟨"FloorOfProofsModel", "begins", "(I)I"⟩, 13) := ⟨⟨by decide +kernel, by decide +kernel⟩, List.mem_of_getElem? (i := 767) (by decide +kernel), List.mem_of_getElem? (i := 978) (by decide +kernel), List.mem_of_getElem? (i := 979) (by decide +kernel)⟩
theorem lw_p34 : lw_okq (⟨"FloorOfProofsModel", "isHall", "(I)Z"⟩, 13) := ⟨⟨by decide +kernel, by decide +kernel⟩, List.mem_of_getElem? (i := 767) (by decide +kernel), List.mem_of_getElem? (i := 986) (by decide +kernel), List.mem_of_getElem? (i := 987) (by decide +kernel)⟩
theorem lw_p35 : lw_okq (⟨"FloorOfProofsModel", "leads", "(I)I"⟩, 13) := ⟨⟨by decide +kernel, by decide +kernel⟩, List.mem_of_getElem? (i := 767) (by decide +kernel), List.mem_of_getElem? (i := 1002) (by decide +kernel), List.mem_of_getElem? (i := 1003) (by decide +kernel)⟩
theorem lw_p36 : lw_okq (⟨"FloorOfProofsModel", "isProof", "(II)Z"⟩, 13) := ⟨⟨by decide +kernel, by decide +kernel⟩, List.mem_of_getElem? (i := 767) (by decide +kernel), List.mem_of_getElem? (i := 1015) (by decide +kernel), List.mem_of_getElem? (i := 1016) (by decide +kernel)⟩
theorem lw_p37 : lw_okq (⟨"FloorOfProofsModel", "proves", "(II)Z"⟩, 13) := ⟨⟨by decide +kernel, by decide +kernel⟩, List.mem_of_getElem? (i := 767) (by decide +kernel), List.mem_of_getElem? (i := 1019) (by decide +kernel), List.mem_of_getElem? (i := 1020) (by decide +kernel)⟩
def lw_privs_3 : List (MethodName × Nat) := [(⟨"FloorOfProofsModel", "beginnings", "()I"⟩, 13), (⟨"FloorOfProofsModel", "begins", "(I)I"⟩, 13), (⟨"FloorOfProofsModel", "isHall", "(I)Z"⟩, 13), (⟨"FloorOfProofsModel", "leads", "(I)I"⟩, 13), (⟨"FloorOfProofsModel", "isProof", "(II)Z"⟩, 13), (⟨"FloorOfProofsModel", "proves", "(II)Z"⟩, 13)]
theorem lw_r3 : ∀ q ∈ lw_privs_3, lw_okq q := List.forall_mem_cons.mpr ⟨lw_p32, List.forall_mem_cons.mpr ⟨lw_p33, List.forall_mem_cons.mpr ⟨lw_p34, List.forall_mem_cons.mpr ⟨lw_p35, List.forall_mem_cons.mpr ⟨lw_p36, List.forall_mem_cons.mpr ⟨lw_p37, fun _ h => absurd h List.not_mem_nil⟩⟩⟩⟩⟩⟩
def lw_privs : List (MethodName × Nat) := lw_privs_1 ++ (lw_privs_2 ++ (lw_privs_3))
def lw_tbl : List Cond := k2_sels lw_privs ++ tables_1
theorem lw_privs_ok : ∀ q ∈ lw_privs, lw_okq q := by
  show ∀ q ∈ lw_privs_1 ++ (lw_privs_2 ++ (lw_privs_3)), lw_okq q
  exact List.forall_mem_append.mpr ⟨lw_r1, List.forall_mem_append.mpr ⟨lw_r2, lw_r3⟩⟩

def RX0 : String := "FloorOfProofs$Beginnings"
def TX0 : u_T := fun k => match k with
  | _ => ("", "", "", false)
def tyX0 : Nat → FieldType := fun k => match k with
  | _ => .int
abbrev wsX00 : List Cond := u_ws RX0 TX0 0
theorem nmX0 : ∀ a, a < 0 → ∀ b, b < 0 → a ≠ b → (TX0 a).2.1 ≠ (TX0 b).2.1 := by decide +kernel
theorem tyX0_ok : ∀ k, k < 0 → parseFieldDescriptor (TX0 k).2.2.1 = some (tyX0 k) := by decide +kernel
abbrev cX0_leadTo : ByteArray := prog_2_method_2_code
def yX0_leadTo : MethodName := ⟨RX0, "leadTo", "(LFloorOfProofs$Floor;I)Z"⟩
abbrev cX0_leadIntoHall : ByteArray := prog_2_method_3_code
def yX0_leadIntoHall : MethodName := ⟨RX0, "leadIntoHall", "(LFloorOfProofs$Floor;)Z"⟩
abbrev cX0_neededFor : ByteArray := prog_2_method_4_code
def yX0_neededFor : MethodName := ⟨RX0, "neededFor", "(LFloorOfProofs$Floor;I)I"⟩
abbrev cX0_fewestFor : ByteArray := prog_2_method_5_code
def yX0_fewestFor : MethodName := ⟨RX0, "fewestFor", "(LFloorOfProofs$Floor;I)I"⟩
abbrev cX0_lostBy : ByteArray := prog_2_method_6_code
def yX0_lostBy : MethodName := ⟨RX0, "lostBy", "(LFloorOfProofs$Floor;I)I"⟩
abbrev cX0_fewestMoreFor : ByteArray := prog_2_method_7_code
def yX0_fewestMoreFor : MethodName := ⟨RX0, "fewestMoreFor", "(LFloorOfProofs$Floor;I)I"⟩
abbrev cX0_fewestIntoHall : ByteArray := prog_2_method_8_code
def yX0_fewestIntoHall : MethodName := ⟨RX0, "fewestIntoHall", "(LFloorOfProofs$Floor;)I"⟩
abbrev cX0_fewestToRopeOff : ByteArray := prog_2_method_9_code
def yX0_fewestToRopeOff : MethodName := ⟨RX0, "fewestToRopeOff", "(LFloorOfProofs$Floor;)I"⟩
abbrev cX0_fewestTurned : ByteArray := prog_2_method_10_code
def yX0_fewestTurned : MethodName := ⟨RX0, "fewestTurned", "(LFloorOfProofs$Floor;III)I"⟩
abbrev cX0_isMet : ByteArray := prog_2_method_11_code
def yX0_isMet : MethodName := ⟨RX0, "isMet", "(LFloorOfProofs$Floor;II)Z"⟩
def RX1 : String := "FloorOfProofs$Floor"
def TX1 : u_T := fun k => match k with
  | 0 => ("FloorOfProofs$Floor", "firsts", "[I", true)
  | 1 => ("FloorOfProofs$Floor", "seconds", "[I", true)
  | 2 => ("FloorOfProofs$Floor", "ends", "[I", true)
  | 3 => ("FloorOfProofs$Floor", "origins", "[I", true)
  | 4 => ("FloorOfProofs$Floor", "gainsayers", "[I", true)
  | 5 => ("FloorOfProofs$Floor", "wear", "[I", true)
  | 6 => ("FloorOfProofs$Floor", "stoneCount", "I", false)
  | 7 => ("FloorOfProofs$Floor", "stepCount", "I", false)
  | 8 => ("FloorOfProofs$Floor", "begins", "I", false)
  | 9 => ("FloorOfProofs$Floor", "there", "I", false)
  | _ => ("FloorOfProofs$Floor", "stood", "I", false)
def tyX1 : Nat → FieldType := fun k => match k with
  | 0 => .array .int
  | 1 => .array .int
  | 2 => .array .int
  | 3 => .array .int
  | 4 => .array .int
  | 5 => .array .int
  | 6 => .int
  | 7 => .int
  | 8 => .int
  | 9 => .int
  | _ => .int
abbrev wsX10 : List Cond := u_ws RX1 TX1 11
theorem nmX1 : ∀ a, a < 11 → ∀ b, b < 11 → a ≠ b → (TX1 a).2.1 ≠ (TX1 b).2.1 := by decide +kernel
theorem tyX1_ok : ∀ k, k < 11 → parseFieldDescriptor (TX1 k).2.2.1 = some (tyX1 k) := by decide +kernel
abbrev cX1_init : ByteArray := prog_3_method_1_code
def yX1_init : MethodName := ⟨RX1, "<init>", "()V"⟩
abbrev cX1_empty : ByteArray := prog_3_method_2_code
def yX1_empty : MethodName := ⟨RX1, "empty", "()V"⟩
abbrev cX1_copyFrom : ByteArray := prog_3_method_3_code
def yX1_copyFrom : MethodName := ⟨RX1, "copyFrom", "(LFloorOfProofs$Floor;)V"⟩
abbrev cX1_setStones : ByteArray := prog_3_method_4_code
def yX1_setStones : MethodName := ⟨RX1, "setStones", "(I)Z"⟩
abbrev cX1_beginOn : ByteArray := prog_3_method_5_code
def yX1_beginOn : MethodName := ⟨RX1, "beginOn", "(I)Z"⟩
abbrev cX1_standOnBeginnings : ByteArray := prog_3_method_6_code
def yX1_standOnBeginnings : MethodName := ⟨RX1, "standOnBeginnings", "()V"⟩
abbrev cX1_couldBeStep : ByteArray := prog_3_method_7_code
def yX1_couldBeStep : MethodName := ⟨RX1, "couldBeStep", "(III)Z"⟩
abbrev cX1_addStep : ByteArray := prog_3_method_8_code
def yX1_addStep : MethodName := ⟨RX1, "addStep", "(III)Z"⟩
abbrev cX1_setGainsay : ByteArray := prog_3_method_9_code
def yX1_setGainsay : MethodName := ⟨RX1, "setGainsay", "(II)Z"⟩
abbrev cX1_setWear : ByteArray := prog_3_method_10_code
def yX1_setWear : MethodName := ⟨RX1, "setWear", "(II)Z"⟩
abbrev cX1_stoneCount : ByteArray := prog_3_method_11_code
def yX1_stoneCount : MethodName := ⟨RX1, "stoneCount", "()I"⟩
abbrev cX1_stepCount : ByteArray := prog_3_method_12_code
def yX1_stepCount : MethodName := ⟨RX1, "stepCount", "()I"⟩
abbrev cX1_begins : ByteArray := prog_3_method_13_code
def yX1_begins : MethodName := ⟨RX1, "begins", "()I"⟩
abbrev cX1_beginnings : ByteArray := prog_3_method_14_code
def yX1_beginnings : MethodName := ⟨RX1, "beginnings", "()I"⟩
abbrev cX1_there : ByteArray := prog_3_method_15_code
def yX1_there : MethodName := ⟨RX1, "there", "()I"⟩
abbrev cX1_stood : ByteArray := prog_3_method_16_code
def yX1_stood : MethodName := ⟨RX1, "stood", "()I"⟩
abbrev cX1_allStones : ByteArray := prog_3_method_17_code
def yX1_allStones : MethodName := ⟨RX1, "allStones", "()I"⟩
abbrev cX1_hasStone : ByteArray := prog_3_method_18_code
def yX1_hasStone : MethodName := ⟨RX1, "hasStone", "(I)Z"⟩
abbrev cX1_isThere : ByteArray := prog_3_method_19_code
def yX1_isThere : MethodName := ⟨RX1, "isThere", "(I)Z"⟩
abbrev cX1_wearOf : ByteArray := prog_3_method_20_code
def yX1_wearOf : MethodName := ⟨RX1, "wearOf", "(I)I"⟩
abbrev cX1_gainsayersOf : ByteArray := prog_3_method_21_code
def yX1_gainsayersOf : MethodName := ⟨RX1, "gainsayersOf", "(I)I"⟩
abbrev cX1_firstOf : ByteArray := prog_3_method_22_code
def yX1_firstOf : MethodName := ⟨RX1, "firstOf", "(I)I"⟩
abbrev cX1_secondOf : ByteArray := prog_3_method_23_code
def yX1_secondOf : MethodName := ⟨RX1, "secondOf", "(I)I"⟩
abbrev cX1_endOf : ByteArray := prog_3_method_24_code
def yX1_endOf : MethodName := ⟨RX1, "endOf", "(I)I"⟩
abbrev cX1_originsOf : ByteArray := prog_3_method_25_code
def yX1_originsOf : MethodName := ⟨RX1, "originsOf", "(I)I"⟩
abbrev cX1_mayBeGone : ByteArray := prog_3_method_26_code
def yX1_mayBeGone : MethodName := ⟨RX1, "mayBeGone", "(I)Z"⟩
abbrev cX1_after : ByteArray := prog_3_method_27_code
def yX1_after : MethodName := ⟨RX1, "after", "(II)I"⟩
abbrev cX1_afterAmong : ByteArray := prog_3_method_28_code
def yX1_afterAmong : MethodName := ⟨RX1, "afterAmong", "(III)I"⟩
abbrev cX1_tread : ByteArray := prog_3_method_29_code
def yX1_tread : MethodName := ⟨RX1, "tread", "(I)V"⟩
abbrev cX1_untread : ByteArray := prog_3_method_30_code
def yX1_untread : MethodName := ⟨RX1, "untread", "(I)V"⟩
abbrev cX1_removeSlab : ByteArray := prog_3_method_31_code
def yX1_removeSlab : MethodName := ⟨RX1, "removeSlab", "(I)V"⟩
abbrev cX1_putSlabBack : ByteArray := prog_3_method_32_code
def yX1_putSlabBack : MethodName := ⟨RX1, "putSlabBack", "(IZ)V"⟩
abbrev cX1_removeLatestStep : ByteArray := prog_3_method_33_code
def yX1_removeLatestStep : MethodName := ⟨RX1, "removeLatestStep", "()V"⟩
abbrev cX1_reachOf : ByteArray := prog_3_method_34_code
def yX1_reachOf : MethodName := ⟨RX1, "reachOf", "(I)I"⟩
abbrev cX1_reachBy : ByteArray := prog_3_method_35_code
def yX1_reachBy : MethodName := ⟨RX1, "reachBy", "(III)I"⟩
abbrev cX1_hasGainsayersIn : ByteArray := prog_3_method_36_code
def yX1_hasGainsayersIn : MethodName := ⟨RX1, "hasGainsayersIn", "(I)Z"⟩
abbrev cX1_directlyBehind : ByteArray := prog_3_method_37_code
def yX1_directlyBehind : MethodName := ⟨RX1, "directlyBehind", "(I)I"⟩
def RX2 : String := "FloorOfProofs$Past"
def TX2 : u_T := fun k => match k with
  | 0 => ("FloorOfProofs$Past", "kinds", "[I", true)
  | 1 => ("FloorOfProofs$Past", "stones", "[I", true)
  | _ => ("FloorOfProofs$Past", "size", "I", false)
def tyX2 : Nat → FieldType := fun k => match k with
  | 0 => .array .int
  | 1 => .array .int
  | _ => .int
abbrev wsX20 : List Cond := u_ws RX2 TX2 3
theorem nmX2 : ∀ a, a < 3 → ∀ b, b < 3 → a ≠ b → (TX2 a).2.1 ≠ (TX2 b).2.1 := by decide +kernel
theorem tyX2_ok : ∀ k, k < 3 → parseFieldDescriptor (TX2 k).2.2.1 = some (tyX2 k) := by decide +kernel
abbrev cX2_init : ByteArray := prog_4_method_1_code
def yX2_init : MethodName := ⟨RX2, "<init>", "()V"⟩
abbrev cX2_size : ByteArray := prog_4_method_2_code
def yX2_size : MethodName := ⟨RX2, "size", "()I"⟩
abbrev cX2_clear : ByteArray := prog_4_method_3_code
def yX2_clear : MethodName := ⟨RX2, "clear", "()V"⟩
abbrev cX2_noteGone : ByteArray := prog_4_method_4_code
def yX2_noteGone : MethodName := ⟨RX2, "noteGone", "(I)V"⟩
abbrev cX2_noteOut : ByteArray := prog_4_method_5_code
def yX2_noteOut : MethodName := ⟨RX2, "noteOut", "(IZ)V"⟩
abbrev cX2_noteLaid : ByteArray := prog_4_method_6_code
def yX2_noteLaid : MethodName := ⟨RX2, "noteLaid", "()V"⟩
abbrev cX2_note : ByteArray := prog_4_method_7_code
def yX2_note : MethodName := ⟨RX2, "note", "(II)V"⟩
abbrev cX2_forgetOldest : ByteArray := prog_4_method_8_code
def yX2_forgetOldest : MethodName := ⟨RX2, "forgetOldest", "()V"⟩
abbrev cX2_takeBackLatest : ByteArray := prog_4_method_9_code
def yX2_takeBackLatest : MethodName := ⟨RX2, "takeBackLatest", "(LFloorOfProofs$Floor;)V"⟩
def RX3 : String := "FloorOfProofs$ProofRows"
def TX3 : u_T := fun k => match k with
  | 0 => ("FloorOfProofs$ProofRows", "reaches", "[I", true)
  | _ => ("FloorOfProofs$ProofRows", "sets", "I", false)
def tyX3 : Nat → FieldType := fun k => match k with
  | 0 => .array .int
  | _ => .int
abbrev wsX30 : List Cond := u_ws RX3 TX3 2
theorem nmX3 : ∀ a, a < 2 → ∀ b, b < 2 → a ≠ b → (TX3 a).2.1 ≠ (TX3 b).2.1 := by decide +kernel
theorem tyX3_ok : ∀ k, k < 2 → parseFieldDescriptor (TX3 k).2.2.1 = some (tyX3 k) := by decide +kernel
abbrev cX3_init : ByteArray := prog_5_method_1_code
def yX3_init : MethodName := ⟨RX3, "<init>", "()V"⟩
abbrev cX3_reckon : ByteArray := prog_5_method_2_code
def yX3_reckon : MethodName := ⟨RX3, "reckon", "(LFloorOfProofs$Floor;)V"⟩
abbrev cX3_isProof : ByteArray := prog_5_method_3_code
def yX3_isProof : MethodName := ⟨RX3, "isProof", "(II)Z"⟩
abbrev cX3_howMany : ByteArray := prog_5_method_4_code
def yX3_howMany : MethodName := ⟨RX3, "howMany", "(I)I"⟩
abbrev cX3_shortest : ByteArray := prog_5_method_5_code
def yX3_shortest : MethodName := ⟨RX3, "shortest", "(I)I"⟩
abbrev cX3_inAll : ByteArray := prog_5_method_6_code
def yX3_inAll : MethodName := ⟨RX3, "inAll", "(I)I"⟩
abbrev cX3_howManyWear : ByteArray := prog_5_method_7_code
def yX3_howManyWear : MethodName := ⟨RX3, "howManyWear", "(LFloorOfProofs$Floor;II)I"⟩
abbrev cX3_endsOf : ByteArray := prog_5_method_8_code
def yX3_endsOf : MethodName := ⟨RX3, "endsOf", "(LFloorOfProofs$Floor;I)I"⟩
def RX4 : String := "FloorOfProofs$Reader"
def TX4 : u_T := fun k => match k with
  | 0 => ("FloorOfProofs$Reader", "numbers", "[I", true)
  | _ => ("FloorOfProofs$Reader", "onlyStonesTold", "Z", false)
def tyX4 : Nat → FieldType := fun k => match k with
  | 0 => .array .int
  | _ => .boolean
abbrev wsX40 : List Cond := u_ws RX4 TX4 2
theorem nmX4 : ∀ a, a < 2 → ∀ b, b < 2 → a ≠ b → (TX4 a).2.1 ≠ (TX4 b).2.1 := by decide +kernel
theorem tyX4_ok : ∀ k, k < 2 → parseFieldDescriptor (TX4 k).2.2.1 = some (tyX4 k) := by decide +kernel
abbrev cX4_init : ByteArray := prog_6_method_1_code
def yX4_init : MethodName := ⟨RX4, "<init>", "()V"⟩
abbrev cX4_readOnto : ByteArray := prog_6_method_2_code
def yX4_readOnto : MethodName := ⟨RX4, "readOnto", "(LFloorOfProofs$Floor;LFloorOfProofs$Text;)I"⟩
abbrev cX4_numbersOf : ByteArray := prog_6_method_3_code
def yX4_numbersOf : MethodName := ⟨RX4, "numbersOf", "(I)I"⟩
abbrev cX4_itemsEnd : ByteArray := prog_6_method_4_code
def yX4_itemsEnd : MethodName := ⟨RX4, "itemsEnd", "(LFloorOfProofs$Text;I)I"⟩
abbrev cX4_isFigure : ByteArray := prog_6_method_5_code
def yX4_isFigure : MethodName := ⟨RX4, "isFigure", "(I)Z"⟩
abbrev cX4_figuresAt : ByteArray := prog_6_method_6_code
def yX4_figuresAt : MethodName := ⟨RX4, "figuresAt", "(LFloorOfProofs$Text;I)I"⟩
abbrev cX4_numberAt : ByteArray := prog_6_method_7_code
def yX4_numberAt : MethodName := ⟨RX4, "numberAt", "(LFloorOfProofs$Text;II)I"⟩
abbrev cX4_takeItem : ByteArray := prog_6_method_8_code
def yX4_takeItem : MethodName := ⟨RX4, "takeItem", "(LFloorOfProofs$Floor;I)Z"⟩
def RX5 : String := "FloorOfProofs$Shape"
def TX5 : u_T := fun k => match k with
  | _ => ("", "", "", false)
def tyX5 : Nat → FieldType := fun k => match k with
  | _ => .int
abbrev wsX50 : List Cond := u_ws RX5 TX5 0
theorem nmX5 : ∀ a, a < 0 → ∀ b, b < 0 → a ≠ b → (TX5 a).2.1 ≠ (TX5 b).2.1 := by decide +kernel
theorem tyX5_ok : ∀ k, k < 0 → parseFieldDescriptor (TX5 k).2.2.1 = some (tyX5 k) := by decide +kernel
abbrev cX5_idleSteps : ByteArray := prog_7_method_2_code
def yX5_idleSteps : MethodName := ⟨RX5, "idleSteps", "(LFloorOfProofs$Floor;)I"⟩
abbrev cX5_lowestInCircle : ByteArray := prog_7_method_3_code
def yX5_lowestInCircle : MethodName := ⟨RX5, "lowestInCircle", "(LFloorOfProofs$Floor;)I"⟩
abbrev cX5_everBehind : ByteArray := prog_7_method_4_code
def yX5_everBehind : MethodName := ⟨RX5, "everBehind", "(LFloorOfProofs$Floor;I)I"⟩
abbrev cX5_depth : ByteArray := prog_7_method_5_code
def yX5_depth : MethodName := ⟨RX5, "depth", "(LFloorOfProofs$Floor;)I"⟩
def RX6 : String := "FloorOfProofs$Text"
def TX6 : u_T := fun k => match k with
  | 0 => ("FloorOfProofs$Text", "bytes", "[I", true)
  | _ => ("FloorOfProofs$Text", "size", "I", false)
def tyX6 : Nat → FieldType := fun k => match k with
  | 0 => .array .int
  | _ => .int
abbrev wsX60 : List Cond := u_ws RX6 TX6 2
theorem nmX6 : ∀ a, a < 2 → ∀ b, b < 2 → a ≠ b → (TX6 a).2.1 ≠ (TX6 b).2.1 := by decide +kernel
theorem tyX6_ok : ∀ k, k < 2 → parseFieldDescriptor (TX6 k).2.2.1 = some (tyX6 k) := by decide +kernel
abbrev cX6_init : ByteArray := prog_8_method_1_code
def yX6_init : MethodName := ⟨RX6, "<init>", "()V"⟩
abbrev cX6_size : ByteArray := prog_8_method_2_code
def yX6_size : MethodName := ⟨RX6, "size", "()I"⟩
abbrev cX6_clear : ByteArray := prog_8_method_3_code
def yX6_clear : MethodName := ⟨RX6, "clear", "()V"⟩
abbrev cX6_addByte : ByteArray := prog_8_method_4_code
def yX6_addByte : MethodName := ⟨RX6, "addByte", "(I)V"⟩
abbrev cX6_addSigns : ByteArray := prog_8_method_5_code
def yX6_addSigns : MethodName := ⟨RX6, "addSigns", "(Ljava/lang/String;)V"⟩
abbrev cX6_byteAt : ByteArray := prog_8_method_6_code
def yX6_byteAt : MethodName := ⟨RX6, "byteAt", "(I)I"⟩
def RX7 : String := "FloorOfProofs$Walks"
def TX7 : u_T := fun k => match k with
  | 0 => ("FloorOfProofs$Walks", "fewest", "[I", true)
  | _ => ("FloorOfProofs$Walks", "rows", "[I", true)
def tyX7 : Nat → FieldType := fun k => match k with
  | 0 => .array .int
  | _ => .array .int
abbrev wsX70 : List Cond := u_ws RX7 TX7 2
theorem nmX7 : ∀ a, a < 2 → ∀ b, b < 2 → a ≠ b → (TX7 a).2.1 ≠ (TX7 b).2.1 := by decide +kernel
theorem tyX7_ok : ∀ k, k < 2 → parseFieldDescriptor (TX7 k).2.2.1 = some (tyX7 k) := by decide +kernel
abbrev cX7_init : ByteArray := prog_9_method_1_code
def yX7_init : MethodName := ⟨RX7, "<init>", "()V"⟩
abbrev cX7_measure : ByteArray := prog_9_method_2_code
def yX7_measure : MethodName := ⟨RX7, "measure", "(LFloorOfProofs$Floor;I)V"⟩
abbrev cX7_measureFrom : ByteArray := prog_9_method_3_code
def yX7_measureFrom : MethodName := ⟨RX7, "measureFrom", "(LFloorOfProofs$Floor;II)V"⟩
abbrev cX7_fewestSteps : ByteArray := prog_9_method_4_code
def yX7_fewestSteps : MethodName := ⟨RX7, "fewestSteps", "(LFloorOfProofs$Floor;)I"⟩
abbrev cX7_lowestFirstStep : ByteArray := prog_9_method_5_code
def yX7_lowestFirstStep : MethodName := ⟨RX7, "lowestFirstStep", "(LFloorOfProofs$Floor;)I"⟩
abbrev cX7_howManyRows : ByteArray := prog_9_method_6_code
def yX7_howManyRows : MethodName := ⟨RX7, "howManyRows", "(LFloorOfProofs$Floor;)I"⟩
abbrev cX7_rounds : ByteArray := prog_9_method_7_code
def yX7_rounds : MethodName := ⟨RX7, "rounds", "(LFloorOfProofs$Floor;I)I"⟩
abbrev cX7_afterAllAtOnce : ByteArray := prog_9_method_8_code
def yX7_afterAllAtOnce : MethodName := ⟨RX7, "afterAllAtOnce", "(LFloorOfProofs$Floor;I)I"⟩
def RX8 : String := "FloorOfProofs"
def TX8 : u_T := fun k => match k with
  | 0 => ("FloorOfProofs", "text", "LFloorOfProofs$Text;", true)
  | 1 => ("FloorOfProofs", "reader", "LFloorOfProofs$Reader;", true)
  | 2 => ("FloorOfProofs", "draft", "LFloorOfProofs$Floor;", true)
  | 3 => ("FloorOfProofs", "floor", "LFloorOfProofs$Floor;", true)
  | 4 => ("FloorOfProofs", "keptFirst", "LFloorOfProofs$Floor;", true)
  | 5 => ("FloorOfProofs", "keptSecond", "LFloorOfProofs$Floor;", true)
  | 6 => ("FloorOfProofs", "past", "LFloorOfProofs$Past;", true)
  | 7 => ("FloorOfProofs", "walks", "LFloorOfProofs$Walks;", true)
  | 8 => ("FloorOfProofs", "proofRows", "LFloorOfProofs$ProofRows;", true)
  | 9 => ("FloorOfProofs", "told", "[I", true)
  | 10 => ("FloorOfProofs", "toldCount", "I", false)
  | _ => ("FloorOfProofs", "keptCount", "I", false)
def tyX8 : Nat → FieldType := fun k => match k with
  | 0 => .object "FloorOfProofs$Text"
  | 1 => .object "FloorOfProofs$Reader"
  | 2 => .object "FloorOfProofs$Floor"
  | 3 => .object "FloorOfProofs$Floor"
  | 4 => .object "FloorOfProofs$Floor"
  | 5 => .object "FloorOfProofs$Floor"
  | 6 => .object "FloorOfProofs$Past"
  | 7 => .object "FloorOfProofs$Walks"
  | 8 => .object "FloorOfProofs$ProofRows"
  | 9 => .array .int
  | 10 => .int
  | _ => .int
abbrev wsX80 : List Cond := u_ws RX8 TX8 12
theorem nmX8 : ∀ a, a < 12 → ∀ b, b < 12 → a ≠ b → (TX8 a).2.1 ≠ (TX8 b).2.1 := by decide +kernel
theorem tyX8_ok : ∀ k, k < 12 → parseFieldDescriptor (TX8 k).2.2.1 = some (tyX8 k) := by decide +kernel
abbrev cX8_init : ByteArray := prog_1_method_1_code
def yX8_init : MethodName := ⟨RX8, "<init>", "()V"⟩
abbrev cX8_write : ByteArray := prog_1_method_2_code
def yX8_write : MethodName := ⟨RX8, "write", "(IJ)I"⟩
abbrev cX8_wipe : ByteArray := prog_1_method_3_code
def yX8_wipe : MethodName := ⟨RX8, "wipe", "()I"⟩
abbrev cX8_fault : ByteArray := prog_1_method_4_code
def yX8_fault : MethodName := ⟨RX8, "fault", "()I"⟩
abbrev cX8_layFloor : ByteArray := prog_1_method_5_code
def yX8_layFloor : MethodName := ⟨RX8, "layFloor", "()I"⟩
abbrev cX8_stone : ByteArray := prog_1_method_6_code
def yX8_stone : MethodName := ⟨RX8, "stone", "(II)I"⟩
abbrev cX8_step : ByteArray := prog_1_method_7_code
def yX8_step : MethodName := ⟨RX8, "step", "(II)I"⟩
abbrev cX8_go : ByteArray := prog_1_method_8_code
def yX8_go : MethodName := ⟨RX8, "go", "(I)I"⟩
abbrev cX8_takeOut : ByteArray := prog_1_method_9_code
def yX8_takeOut : MethodName := ⟨RX8, "takeOut", "(I)I"⟩
abbrev cX8_lay : ByteArray := prog_1_method_10_code
def yX8_lay : MethodName := ⟨RX8, "lay", "(III)I"⟩
abbrev cX8_undo : ByteArray := prog_1_method_11_code
def yX8_undo : MethodName := ⟨RX8, "undo", "()I"⟩
abbrev cX8_reach : ByteArray := prog_1_method_12_code
def yX8_reach : MethodName := ⟨RX8, "reach", "(I)I"⟩
abbrev cX8_walk : ByteArray := prog_1_method_13_code
def yX8_walk : MethodName := ⟨RX8, "walk", "(II)J"⟩
abbrev cX8_round : ByteArray := prog_1_method_14_code
def yX8_round : MethodName := ⟨RX8, "round", "(I)I"⟩
abbrev cX8_needs : ByteArray := prog_1_method_15_code
def yX8_needs : MethodName := ⟨RX8, "needs", "(II)I"⟩
abbrev cX8_lost : ByteArray := prog_1_method_16_code
def yX8_lost : MethodName := ⟨RX8, "lost", "(I)I"⟩
abbrev cX8_begin : ByteArray := prog_1_method_17_code
def yX8_begin : MethodName := ⟨RX8, "begin", "(I)I"⟩
abbrev cX8_hall : ByteArray := prog_1_method_18_code
def yX8_hall : MethodName := ⟨RX8, "hall", "(I)I"⟩
abbrev cX8_rope : ByteArray := prog_1_method_19_code
def yX8_rope : MethodName := ⟨RX8, "rope", "()I"⟩
abbrev cX8_idle : ByteArray := prog_1_method_20_code
def yX8_idle : MethodName := ⟨RX8, "idle", "()I"⟩
abbrev cX8_circle : ByteArray := prog_1_method_21_code
def yX8_circle : MethodName := ⟨RX8, "circle", "()I"⟩
abbrev cX8_deep : ByteArray := prog_1_method_22_code
def yX8_deep : MethodName := ⟨RX8, "deep", "()I"⟩
abbrev cX8_proofs : ByteArray := prog_1_method_23_code
def yX8_proofs : MethodName := ⟨RX8, "proofs", "(II)I"⟩
abbrev cX8_worn : ByteArray := prog_1_method_24_code
def yX8_worn : MethodName := ⟨RX8, "worn", "(II)I"⟩
abbrev cX8_tell : ByteArray := prog_1_method_25_code
def yX8_tell : MethodName := ⟨RX8, "tell", "(I)I"⟩
abbrev cX8_noRow : ByteArray := prog_1_method_26_code
def yX8_noRow : MethodName := ⟨RX8, "noRow", "()I"⟩
abbrev cX8_judge : ByteArray := prog_1_method_27_code
def yX8_judge : MethodName := ⟨RX8, "judge", "()I"⟩
abbrev cX8_year : ByteArray := prog_1_method_28_code
def yX8_year : MethodName := ⟨RX8, "year", "(III)I"⟩
abbrev cX8_keep : ByteArray := prog_1_method_29_code
def yX8_keep : MethodName := ⟨RX8, "keep", "()I"⟩
abbrev cX8_back : ByteArray := prog_1_method_30_code
def yX8_back : MethodName := ⟨RX8, "back", "()I"⟩
abbrev cX8_count : ByteArray := prog_1_method_31_code
def yX8_count : MethodName := ⟨RX8, "count", "(I)I"⟩
abbrev cX8_isStone : ByteArray := prog_1_method_32_code
def yX8_isStone : MethodName := ⟨RX8, "isStone", "(I)Z"⟩
abbrev cX8_isStep : ByteArray := prog_1_method_33_code
def yX8_isStep : MethodName := ⟨RX8, "isStep", "(I)Z"⟩
abbrev cX8_isSetOfStones : ByteArray := prog_1_method_34_code
def yX8_isSetOfStones : MethodName := ⟨RX8, "isSetOfStones", "(I)Z"⟩
abbrev cX8_forgetRowAndPast : ByteArray := prog_1_method_35_code
def yX8_forgetRowAndPast : MethodName := ⟨RX8, "forgetRowAndPast", "()V"⟩
abbrev cX8_keeperOf : ByteArray := prog_1_method_36_code
def yX8_keeperOf : MethodName := ⟨RX8, "keeperOf", "(I)LFloorOfProofs$Floor;"⟩
abbrev cX8_drawnStep : ByteArray := prog_1_method_37_code
def yX8_drawnStep : MethodName := ⟨RX8, "drawnStep", "(II)I"⟩
abbrev cX8_bitOf : ByteArray := prog_1_method_38_code
def yX8_bitOf : MethodName := ⟨RX8, "bitOf", "(II)I"⟩
abbrev cX8_has : ByteArray := prog_1_method_39_code
def yX8_has : MethodName := ⟨RX8, "has", "(II)Z"⟩
abbrev cX8_holdsAll : ByteArray := prog_1_method_40_code
def yX8_holdsAll : MethodName := ⟨RX8, "holdsAll", "(II)Z"⟩
abbrev cX8_at : ByteArray := prog_1_method_41_code
def yX8_at : MethodName := ⟨RX8, "at", "([II)I"⟩
abbrev cX8_put : ByteArray := prog_1_method_42_code
def yX8_put : MethodName := ⟨RX8, "put", "([III)V"⟩
abbrev cX8_copy : ByteArray := prog_1_method_43_code
def yX8_copy : MethodName := ⟨RX8, "copy", "([I[I)V"⟩
abbrev cX8_clearRow : ByteArray := prog_1_method_44_code
def yX8_clearRow : MethodName := ⟨RX8, "clearRow", "([I)V"⟩
def RX9 : String := "FloorOfProofsModel"
def TX9 : u_T := fun k => match k with
  | 0 => ("FloorOfProofsModel", "w", "[I", true)
  | 1 => ("FloorOfProofsModel", "kept", "I", false)
  | 2 => ("FloorOfProofsModel", "undoes", "I", false)
  | 3 => ("FloorOfProofsModel", "text", "[I", true)
  | 4 => ("FloorOfProofsModel", "texted", "I", false)
  | 5 => ("FloorOfProofsModel", "told", "[I", true)
  | 6 => ("FloorOfProofsModel", "toldMany", "I", false)
  | 7 => ("FloorOfProofsModel", "at", "I", false)
  | 8 => ("FloorOfProofsModel", "numbers", "[I", true)
  | 9 => ("FloorOfProofsModel", "others", "Z", false)
  | 10 => ("FloorOfProofsModel", "rows", "[J", true)
  | 11 => ("FloorOfProofsModel", "fewest", "[I", true)
  | _ => ("FloorOfProofsModel", "deeps", "[I", true)
def tyX9 : Nat → FieldType := fun k => match k with
  | 0 => .array .int
  | 1 => .int
  | 2 => .int
  | 3 => .array .int
  | 4 => .int
  | 5 => .array .int
  | 6 => .int
  | 7 => .int
  | 8 => .array .int
  | 9 => .boolean
  | 10 => .array .long
  | 11 => .array .int
  | _ => .array .int
abbrev wsX90 : List Cond := u_ws RX9 TX9 13
theorem nmX9 : ∀ a, a < 13 → ∀ b, b < 13 → a ≠ b → (TX9 a).2.1 ≠ (TX9 b).2.1 := by decide +kernel
theorem tyX9_ok : ∀ k, k < 13 → parseFieldDescriptor (TX9 k).2.2.1 = some (tyX9 k) := by decide +kernel
abbrev cX9_init : ByteArray := prog_11_method_1_code
def yX9_init : MethodName := ⟨RX9, "<init>", "()V"⟩
abbrev cX9_in : ByteArray := prog_11_method_3_code
def yX9_in : MethodName := ⟨RX9, "in", "(JJJ)Z"⟩
abbrev cX9_has : ByteArray := prog_11_method_4_code
def yX9_has : MethodName := ⟨RX9, "has", "(II)Z"⟩
abbrev cX9_ones : ByteArray := prog_11_method_5_code
def yX9_ones : MethodName := ⟨RX9, "ones", "(I)I"⟩
abbrev cX9_copy : ByteArray := prog_11_method_6_code
def yX9_copy : MethodName := ⟨RX9, "copy", "(II)V"⟩
abbrev cX9_makeAnew : ByteArray := prog_11_method_7_code
def yX9_makeAnew : MethodName := ⟨RX9, "makeAnew", "(I)V"⟩
abbrev cX9_layStep : ByteArray := prog_11_method_8_code
def yX9_layStep : MethodName := ⟨RX9, "layStep", "(IIII)V"⟩
abbrev cX9_settle : ByteArray := prog_11_method_9_code
def yX9_settle : MethodName := ⟨RX9, "settle", "(I)V"⟩
abbrev cX9_isStone : ByteArray := prog_11_method_10_code
def yX9_isStone : MethodName := ⟨RX9, "isStone", "(I)Z"⟩
abbrev cX9_isSet : ByteArray := prog_11_method_11_code
def yX9_isSet : MethodName := ⟨RX9, "isSet", "(I)Z"⟩
abbrev cX9_isStep : ByteArray := prog_11_method_12_code
def yX9_isStep : MethodName := ⟨RX9, "isStep", "(I)Z"⟩
abbrev cX9_write : ByteArray := prog_11_method_13_code
def yX9_write : MethodName := ⟨RX9, "write", "(IJ)I"⟩
abbrev cX9_wipe : ByteArray := prog_11_method_14_code
def yX9_wipe : MethodName := ⟨RX9, "wipe", "()I"⟩
abbrev cX9_takes : ByteArray := prog_11_method_15_code
def yX9_takes : MethodName := ⟨RX9, "takes", "(I)Z"⟩
abbrev cX9_isRead : ByteArray := prog_11_method_16_code
def yX9_isRead : MethodName := ⟨RX9, "isRead", "(I)Z"⟩
abbrev cX9_readStep : ByteArray := prog_11_method_17_code
def yX9_readStep : MethodName := ⟨RX9, "readStep", "()Z"⟩
abbrev cX9_readPair : ByteArray := prog_11_method_18_code
def yX9_readPair : MethodName := ⟨RX9, "readPair", "()Z"⟩
abbrev cX9_readItem : ByteArray := prog_11_method_19_code
def yX9_readItem : MethodName := ⟨RX9, "readItem", "()Z"⟩
abbrev cX9_fault : ByteArray := prog_11_method_20_code
def yX9_fault : MethodName := ⟨RX9, "fault", "()I"⟩
abbrev cX9_layFloor : ByteArray := prog_11_method_21_code
def yX9_layFloor : MethodName := ⟨RX9, "layFloor", "()I"⟩
abbrev cX9_may : ByteArray := prog_11_method_22_code
def yX9_may : MethodName := ⟨RX9, "may", "(I)Z"⟩
abbrev cX9_stone : ByteArray := prog_11_method_23_code
def yX9_stone : MethodName := ⟨RX9, "stone", "(II)I"⟩
abbrev cX9_step : ByteArray := prog_11_method_24_code
def yX9_step : MethodName := ⟨RX9, "step", "(II)I"⟩
abbrev cX9_minds : ByteArray := prog_11_method_25_code
def yX9_minds : MethodName := ⟨RX9, "minds", "()V"⟩
abbrev cX9_go : ByteArray := prog_11_method_26_code
def yX9_go : MethodName := ⟨RX9, "go", "(I)I"⟩
abbrev cX9_takeOut : ByteArray := prog_11_method_27_code
def yX9_takeOut : MethodName := ⟨RX9, "takeOut", "(I)I"⟩
abbrev cX9_lay : ByteArray := prog_11_method_28_code
def yX9_lay : MethodName := ⟨RX9, "lay", "(III)I"⟩
abbrev cX9_undo : ByteArray := prog_11_method_29_code
def yX9_undo : MethodName := ⟨RX9, "undo", "()I"⟩
abbrev cX9_closure : ByteArray := prog_11_method_30_code
def yX9_closure : MethodName := ⟨RX9, "closure", "(III)I"⟩
abbrev cX9_allSteps : ByteArray := prog_11_method_31_code
def yX9_allSteps : MethodName := ⟨RX9, "allSteps", "()I"⟩
abbrev cX9_reachOf : ByteArray := prog_11_method_32_code
def yX9_reachOf : MethodName := ⟨RX9, "reachOf", "(I)I"⟩
abbrev cX9_beginnings : ByteArray := prog_11_method_33_code
def yX9_beginnings : MethodName := ⟨RX9, "beginnings", "()I"⟩
abbrev cX9_reach : ByteArray := prog_11_method_34_code
def yX9_reach : MethodName := ⟨RX9, "reach", "(I)I"⟩
abbrev cX9_mayFrom : ByteArray := prog_11_method_35_code
def yX9_mayFrom : MethodName := ⟨RX9, "mayFrom", "(II)Z"⟩
abbrev cX9_layWalks : ByteArray := prog_11_method_36_code
def yX9_layWalks : MethodName := ⟨RX9, "layWalks", "(I)V"⟩
abbrev cX9_walk : ByteArray := prog_11_method_37_code
def yX9_walk : MethodName := ⟨RX9, "walk", "(II)J"⟩
abbrev cX9_round : ByteArray := prog_11_method_38_code
def yX9_round : MethodName := ⟨RX9, "round", "(I)I"⟩
abbrev cX9_needs : ByteArray := prog_11_method_39_code
def yX9_needs : MethodName := ⟨RX9, "needs", "(II)I"⟩
abbrev cX9_lost : ByteArray := prog_11_method_40_code
def yX9_lost : MethodName := ⟨RX9, "lost", "(I)I"⟩
abbrev cX9_begins : ByteArray := prog_11_method_41_code
def yX9_begins : MethodName := ⟨RX9, "begins", "(I)I"⟩
abbrev cX9_begin : ByteArray := prog_11_method_42_code
def yX9_begin : MethodName := ⟨RX9, "begin", "(I)I"⟩
abbrev cX9_isHall : ByteArray := prog_11_method_43_code
def yX9_isHall : MethodName := ⟨RX9, "isHall", "(I)Z"⟩
abbrev cX9_hall : ByteArray := prog_11_method_44_code
def yX9_hall : MethodName := ⟨RX9, "hall", "(I)I"⟩
abbrev cX9_rope : ByteArray := prog_11_method_45_code
def yX9_rope : MethodName := ⟨RX9, "rope", "()I"⟩
abbrev cX9_idle : ByteArray := prog_11_method_46_code
def yX9_idle : MethodName := ⟨RX9, "idle", "()I"⟩
abbrev cX9_leads : ByteArray := prog_11_method_47_code
def yX9_leads : MethodName := ⟨RX9, "leads", "(I)I"⟩
abbrev cX9_circle : ByteArray := prog_11_method_48_code
def yX9_circle : MethodName := ⟨RX9, "circle", "()I"⟩
abbrev cX9_deep : ByteArray := prog_11_method_49_code
def yX9_deep : MethodName := ⟨RX9, "deep", "()I"⟩
abbrev cX9_proves : ByteArray := prog_11_method_50_code
def yX9_proves : MethodName := ⟨RX9, "proves", "(II)Z"⟩
abbrev cX9_isProof : ByteArray := prog_11_method_51_code
def yX9_isProof : MethodName := ⟨RX9, "isProof", "(II)Z"⟩
abbrev cX9_proofs : ByteArray := prog_11_method_52_code
def yX9_proofs : MethodName := ⟨RX9, "proofs", "(II)I"⟩
abbrev cX9_worn : ByteArray := prog_11_method_53_code
def yX9_worn : MethodName := ⟨RX9, "worn", "(II)I"⟩
abbrev cX9_tell : ByteArray := prog_11_method_54_code
def yX9_tell : MethodName := ⟨RX9, "tell", "(I)I"⟩
abbrev cX9_noRow : ByteArray := prog_11_method_55_code
def yX9_noRow : MethodName := ⟨RX9, "noRow", "()I"⟩
abbrev cX9_judge : ByteArray := prog_11_method_56_code
def yX9_judge : MethodName := ⟨RX9, "judge", "()I"⟩
abbrev cX9_year : ByteArray := prog_11_method_57_code
def yX9_year : MethodName := ⟨RX9, "year", "(III)I"⟩
abbrev cX9_keep : ByteArray := prog_11_method_58_code
def yX9_keep : MethodName := ⟨RX9, "keep", "()I"⟩
abbrev cX9_back : ByteArray := prog_11_method_59_code
def yX9_back : MethodName := ⟨RX9, "back", "()I"⟩
abbrev cX9_count : ByteArray := prog_11_method_60_code
def yX9_count : MethodName := ⟨RX9, "count", "(I)I"⟩
def RJ6 : String := "java/lang/Integer"
def TJ6 : u_T := fun k => match k with
  | _ => ("", "", "", false)
def tyJ6 : Nat → FieldType := fun k => match k with
  | _ => .int
abbrev wsJ60 : List Cond := u_ws RJ6 TJ6 0
theorem nmJ6 : ∀ a, a < 0 → ∀ b, b < 0 → a ≠ b → (TJ6 a).2.1 ≠ (TJ6 b).2.1 := by decide +kernel
theorem tyJ6_ok : ∀ k, k < 0 → parseFieldDescriptor (TJ6 k).2.2.1 = some (tyJ6 k) := by decide +kernel
abbrev cJ6_numberOfTrailingZeros_0f7a4 : ByteArray := prog_12_method_48_code
def yJ6_numberOfTrailingZeros_0f7a4 : MethodName := ⟨RJ6, "numberOfTrailingZeros", "(I)I"⟩
abbrev cJ6_bitCount_0f7a4 : ByteArray := prog_12_method_49_code
def yJ6_bitCount_0f7a4 : MethodName := ⟨RJ6, "bitCount", "(I)I"⟩
def RJ0 : String := "java/lang/String"
def TJ0 : u_T := fun k => match k with
  | _ => ("", "", "", false)
def tyJ0 : Nat → FieldType := fun k => match k with
  | _ => .int
abbrev wsJ00 : List Cond := u_ws RJ0 TJ0 0
theorem nmJ0 : ∀ a, a < 0 → ∀ b, b < 0 → a ≠ b → (TJ0 a).2.1 ≠ (TJ0 b).2.1 := by decide +kernel
theorem tyJ0_ok : ∀ k, k < 0 → parseFieldDescriptor (TJ0 k).2.2.1 = some (tyJ0 k) := by decide +kernel
abbrev cJ0_length_8abf5 : ByteArray := prog_13_method_54_code
def yJ0_length_8abf5 : MethodName := ⟨RJ0, "length", "()I"⟩
abbrev cJ0_charAt_5068e : ByteArray := prog_13_method_56_code
def yJ0_charAt_5068e : MethodName := ⟨RJ0, "charAt", "(I)C"⟩
abbrev cJ0_coder_7d493 : ByteArray := prog_13_method_152_code
def yJ0_coder_7d493 : MethodName := ⟨RJ0, "coder", "()B"⟩
abbrev cJ0_isLatin1_aae02 : ByteArray := prog_13_method_154_code
def yJ0_isLatin1_aae02 : MethodName := ⟨RJ0, "isLatin1", "()Z"⟩
abbrev cJ0_checkIndex_df160 : ByteArray := prog_13_method_155_code
def yJ0_checkIndex_df160 : MethodName := ⟨RJ0, "checkIndex", "(II)V"⟩
def RJ1 : String := "java/lang/StringLatin1"
def TJ1 : u_T := fun k => match k with
  | _ => ("", "", "", false)
def tyJ1 : Nat → FieldType := fun k => match k with
  | _ => .int
abbrev wsJ10 : List Cond := u_ws RJ1 TJ1 0
theorem nmJ1 : ∀ a, a < 0 → ∀ b, b < 0 → a ≠ b → (TJ1 a).2.1 ≠ (TJ1 b).2.1 := by decide +kernel
theorem tyJ1_ok : ∀ k, k < 0 → parseFieldDescriptor (TJ1 k).2.2.1 = some (tyJ1 k) := by decide +kernel
abbrev cJ1_charAt_3b067 : ByteArray := prog_14_method_2_code
def yJ1_charAt_3b067 : MethodName := ⟨RJ1, "charAt", "([BI)C"⟩
def RJ2 : String := "java/lang/StringUTF16"
def TJ2 : u_T := fun k => match k with
  | _ => ("", "", "", false)
def tyJ2 : Nat → FieldType := fun k => match k with
  | _ => .int
abbrev wsJ20 : List Cond := u_ws RJ2 TJ2 0
theorem nmJ2 : ∀ a, a < 0 → ∀ b, b < 0 → a ≠ b → (TJ2 a).2.1 ≠ (TJ2 b).2.1 := by decide +kernel
theorem tyJ2_ok : ∀ k, k < 0 → parseFieldDescriptor (TJ2 k).2.2.1 = some (tyJ2 k) := by decide +kernel
abbrev cJ2_getChar_3b067 : ByteArray := prog_15_method_5_code
def yJ2_getChar_3b067 : MethodName := ⟨RJ2, "getChar", "([BI)C"⟩
abbrev cJ2_length_9d52b : ByteArray := prog_15_method_6_code
def yJ2_length_9d52b : MethodName := ⟨RJ2, "length", "([B)I"⟩
abbrev cJ2_charAt_3b067 : ByteArray := prog_15_method_83_code
def yJ2_charAt_3b067 : MethodName := ⟨RJ2, "charAt", "([BI)C"⟩
abbrev cJ2_checkIndex_2214a : ByteArray := prog_15_method_91_code
def yJ2_checkIndex_2214a : MethodName := ⟨RJ2, "checkIndex", "(I[B)V"⟩
def RJ3 : String := "jdk/internal/util/Preconditions"
def TJ3 : u_T := fun k => match k with
  | _ => ("", "", "", false)
def tyJ3 : Nat → FieldType := fun k => match k with
  | _ => .int
abbrev wsJ30 : List Cond := u_ws RJ3 TJ3 0
theorem nmJ3 : ∀ a, a < 0 → ∀ b, b < 0 → a ≠ b → (TJ3 a).2.1 ≠ (TJ3 b).2.1 := by decide +kernel
theorem tyJ3_ok : ∀ k, k < 0 → parseFieldDescriptor (TJ3 k).2.2.1 = some (tyJ3 k) := by decide +kernel
abbrev cJ3_checkIndex_8e157 : ByteArray := prog_16_method_11_code
def yJ3_checkIndex_8e157 : MethodName := ⟨RJ3, "checkIndex", "(IILjava/util/function/BiFunction;)I"⟩
def RL : String := "FloorOfProofsLaw"
abbrev cL_law : ByteArray := code
def yL_law : MethodName := ⟨RL, "law", "([I)Z"⟩
abbrev vwCl : List vw_C := [(RX1, TX1, 11), (RX2, TX2, 3), (RX3, TX3, 2), (RX4, TX4, 2), (RX6, TX6, 2), (RX7, TX7, 2), (RX8, TX8, 12), (RX9, TX9, 13)]

/-- the words that may be handed on: all of the tables' but those of nest mates and texts -/
def WA : List Cond := lw_tbl.filter goodWord
theorem wa_in {w : Cond} (h : w ∈ lw_tbl) (g : goodWord w = true) : w ∈ WA := List.mem_filter.mpr ⟨h, g⟩
theorem wa_t {i : Nat} {w : Cond} (h : tables_1[i]? = some w) (g : goodWord w = true) : w ∈ WA := wa_in (List.mem_append_right _ (List.mem_of_getElem? h)) g
theorem wa_s {i : Nat} {w : Cond} (h : (k2_sels lw_privs)[i]? = some w) (g : goodWord w = true) : w ∈ WA := wa_in (List.mem_append_left _ (List.mem_of_getElem? h)) g
theorem wa_tbl : ∀ w ∈ WA, w ∈ lw_tbl := fun _ h => (List.mem_filter.mp h).1
theorem wa_good : ∀ w ∈ WA, goodWord w = true := fun _ h => (List.mem_filter.mp h).2
