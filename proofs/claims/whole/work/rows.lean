section
-- ===== PART A: goes FIRST, ahead of the names: the tables' words, and 'selects' of the private methods out of them =====
/-- a private method of a class that the tables say can be made, by its rows of tables_1 -/
def lw_okq (q : MethodName × Nat) : Prop := (q.1.cls ≠ "java/lang/invoke/MethodHandle" ∧ q.1.cls ≠ "java/lang/invoke/VarHandle") ∧ Cond.instantiable q.1.cls q.2 ∈ tables_1 ∧ Cond.privateMethod q.1 ∈ tables_1 ∧ Cond.instanceMethod q.1 ∈ tables_1
theorem lw_p0 : lw_okq (⟨"FloorOfProofs$Reader", "itemsEnd", "(LFloorOfProofs$Text;I)I"⟩, 2) := ⟨⟨by decide +kernel, by decide +kernel⟩, List.mem_of_getElem? (i := 39) (by decide +kernel), List.mem_of_getElem? (i := 217) (by decide +kernel), List.mem_of_getElem? (i := 218) (by decide +kernel)⟩
theorem lw_p1 : lw_okq (⟨"FloorOfProofs$Reader", "takeItem", "(LFloorOfProofs$Floor;I)Z"⟩, 2) := ⟨⟨by decide +kernel, by decide +kernel⟩, List.mem_of_getElem? (i := 39) (by decide +kernel), List.mem_of_getElem? (i := 241) (by decide +kernel), List.mem_of_getElem? (i := 242) (by decide +kernel)⟩
theorem lw_p2 : lw_okq (⟨"FloorOfProofs", "forgetRowAndPast", "()V"⟩, 12) := ⟨⟨by decide +kernel, by decide +kernel⟩, List.mem_of_getElem? (i := 17) (by decide +kernel), List.mem_of_getElem? (i := 352) (by decide +kernel), List.mem_of_getElem? (i := 353) (by decide +kernel)⟩
theorem lw_p3 : lw_okq (⟨"FloorOfProofs", "isStone", "(I)Z"⟩, 12) := ⟨⟨by decide +kernel, by decide +kernel⟩, List.mem_of_getElem? (i := 17) (by decide +kernel), List.mem_of_getElem? (i := 368) (by decide +kernel), List.mem_of_getElem? (i := 369) (by decide +kernel)⟩
theorem lw_p4 : lw_okq (⟨"FloorOfProofs", "isStep", "(I)Z"⟩, 12) := ⟨⟨by decide +kernel, by decide +kernel⟩, List.mem_of_getElem? (i := 17) (by decide +kernel), List.mem_of_getElem? (i := 400) (by decide +kernel), List.mem_of_getElem? (i := 401) (by decide +kernel)⟩
theorem lw_p5 : lw_okq (⟨"FloorOfProofs$Floor", "afterAmong", "(III)I"⟩, 11) := ⟨⟨by decide +kernel, by decide +kernel⟩, List.mem_of_getElem? (i := 52) (by decide +kernel), List.mem_of_getElem? (i := 424) (by decide +kernel), List.mem_of_getElem? (i := 425) (by decide +kernel)⟩
theorem lw_p6 : lw_okq (⟨"FloorOfProofs$Past", "note", "(II)V"⟩, 3) := ⟨⟨by decide +kernel, by decide +kernel⟩, List.mem_of_getElem? (i := 92) (by decide +kernel), List.mem_of_getElem? (i := 444) (by decide +kernel), List.mem_of_getElem? (i := 445) (by decide +kernel)⟩
theorem lw_p7 : lw_okq (⟨"FloorOfProofs$Past", "forgetOldest", "()V"⟩, 3) := ⟨⟨by decide +kernel, by decide +kernel⟩, List.mem_of_getElem? (i := 92) (by decide +kernel), List.mem_of_getElem? (i := 448) (by decide +kernel), List.mem_of_getElem? (i := 449) (by decide +kernel)⟩
theorem lw_p8 : lw_okq (⟨"FloorOfProofs", "isSetOfStones", "(I)Z"⟩, 12) := ⟨⟨by decide +kernel, by decide +kernel⟩, List.mem_of_getElem? (i := 17) (by decide +kernel), List.mem_of_getElem? (i := 517) (by decide +kernel), List.mem_of_getElem? (i := 518) (by decide +kernel)⟩
theorem lw_p9 : lw_okq (⟨"FloorOfProofs$Walks", "measureFrom", "(LFloorOfProofs$Floor;II)V"⟩, 2) := ⟨⟨by decide +kernel, by decide +kernel⟩, List.mem_of_getElem? (i := 108) (by decide +kernel), List.mem_of_getElem? (i := 542) (by decide +kernel), List.mem_of_getElem? (i := 543) (by decide +kernel)⟩
theorem lw_p10 : lw_okq (⟨"FloorOfProofs$ProofRows", "isProof", "(II)Z"⟩, 2) := ⟨⟨by decide +kernel, by decide +kernel⟩, List.mem_of_getElem? (i := 121) (by decide +kernel), List.mem_of_getElem? (i := 699) (by decide +kernel), List.mem_of_getElem? (i := 700) (by decide +kernel)⟩
theorem lw_p11 : lw_okq (⟨"FloorOfProofs", "drawnStep", "(II)I"⟩, 12) := ⟨⟨by decide +kernel, by decide +kernel⟩, List.mem_of_getElem? (i := 17) (by decide +kernel), List.mem_of_getElem? (i := 744) (by decide +kernel), List.mem_of_getElem? (i := 745) (by decide +kernel)⟩
theorem lw_p12 : lw_okq (⟨"FloorOfProofs", "keeperOf", "(I)LFloorOfProofs$Floor;"⟩, 12) := ⟨⟨by decide +kernel, by decide +kernel⟩, List.mem_of_getElem? (i := 17) (by decide +kernel), List.mem_of_getElem? (i := 755) (by decide +kernel), List.mem_of_getElem? (i := 756) (by decide +kernel)⟩
theorem lw_p13 : lw_okq (⟨"FloorOfProofsModel", "makeAnew", "(I)V"⟩, 13) := ⟨⟨by decide +kernel, by decide +kernel⟩, List.mem_of_getElem? (i := 767) (by decide +kernel), List.mem_of_getElem? (i := 773) (by decide +kernel), List.mem_of_getElem? (i := 774) (by decide +kernel)⟩
theorem lw_p14 : lw_okq (⟨"FloorOfProofsModel", "layStep", "(IIII)V"⟩, 13) := ⟨⟨by decide +kernel, by decide +kernel⟩, List.mem_of_getElem? (i := 767) (by decide +kernel), List.mem_of_getElem? (i := 777) (by decide +kernel), List.mem_of_getElem? (i := 778) (by decide +kernel)⟩
theorem lw_p15 : lw_okq (⟨"FloorOfProofsModel", "settle", "(I)V"⟩, 13) := ⟨⟨by decide +kernel, by decide +kernel⟩, List.mem_of_getElem? (i := 767) (by decide +kernel), List.mem_of_getElem? (i := 781) (by decide +kernel), List.mem_of_getElem? (i := 782) (by decide +kernel)⟩
def lw_privs_1 : List (MethodName × Nat) := [(⟨"FloorOfProofs$Reader", "itemsEnd", "(LFloorOfProofs$Text;I)I"⟩, 2), (⟨"FloorOfProofs$Reader", "takeItem", "(LFloorOfProofs$Floor;I)Z"⟩, 2), (⟨"FloorOfProofs", "forgetRowAndPast", "()V"⟩, 12), (⟨"FloorOfProofs", "isStone", "(I)Z"⟩, 12), (⟨"FloorOfProofs", "isStep", "(I)Z"⟩, 12), (⟨"FloorOfProofs$Floor", "afterAmong", "(III)I"⟩, 11), (⟨"FloorOfProofs$Past", "note", "(II)V"⟩, 3), (⟨"FloorOfProofs$Past", "forgetOldest", "()V"⟩, 3), (⟨"FloorOfProofs", "isSetOfStones", "(I)Z"⟩, 12), (⟨"FloorOfProofs$Walks", "measureFrom", "(LFloorOfProofs$Floor;II)V"⟩, 2), (⟨"FloorOfProofs$ProofRows", "isProof", "(II)Z"⟩, 2), (⟨"FloorOfProofs", "drawnStep", "(II)I"⟩, 12), (⟨"FloorOfProofs", "keeperOf", "(I)LFloorOfProofs$Floor;"⟩, 12), (⟨"FloorOfProofsModel", "makeAnew", "(I)V"⟩, 13), (⟨"FloorOfProofsModel", "layStep", "(IIII)V"⟩, 13), (⟨"FloorOfProofsModel", "settle", "(I)V"⟩, 13)]
theorem lw_r1 : ∀ q ∈ lw_privs_1, lw_okq q := List.forall_mem_cons.mpr ⟨lw_p0, List.forall_mem_cons.mpr ⟨lw_p1, List.forall_mem_cons.mpr ⟨lw_p2, List.forall_mem_cons.mpr ⟨lw_p3, List.forall_mem_cons.mpr ⟨lw_p4, List.forall_mem_cons.mpr ⟨lw_p5, List.forall_mem_cons.mpr ⟨lw_p6, List.forall_mem_cons.mpr ⟨lw_p7, List.forall_mem_cons.mpr ⟨lw_p8, List.forall_mem_cons.mpr ⟨lw_p9, List.forall_mem_cons.mpr ⟨lw_p10, List.forall_mem_cons.mpr ⟨lw_p11, List.forall_mem_cons.mpr ⟨lw_p12, List.forall_mem_cons.mpr ⟨lw_p13, List.forall_mem_cons.mpr ⟨lw_p14, List.forall_mem_cons.mpr ⟨lw_p15, fun _ h => absurd h List.not_mem_nil⟩⟩⟩⟩⟩⟩⟩⟩⟩⟩⟩⟩⟩⟩⟩⟩
theorem lw_p16 : lw_okq (⟨"FloorOfProofsModel", "readItem", "()Z"⟩, 13) := ⟨⟨by decide +kernel, by decide +kernel⟩, List.mem_of_getElem? (i := 767) (by decide +kernel), List.mem_of_getElem? (i := 843) (by decide +kernel), List.mem_of_getElem? (i := 844) (by decide +kernel)⟩
theorem lw_p17 : lw_okq (⟨"FloorOfProofsModel", "takes", "(I)Z"⟩, 13) := ⟨⟨by decide +kernel, by decide +kernel⟩, List.mem_of_getElem? (i := 767) (by decide +kernel), List.mem_of_getElem? (i := 847) (by decide +kernel), List.mem_of_getElem? (i := 848) (by decide +kernel)⟩
theorem lw_p18 : lw_okq (⟨"FloorOfProofsModel", "isRead", "(I)Z"⟩, 13) := ⟨⟨by decide +kernel, by decide +kernel⟩, List.mem_of_getElem? (i := 767) (by decide +kernel), List.mem_of_getElem? (i := 854) (by decide +kernel), List.mem_of_getElem? (i := 855) (by decide +kernel)⟩
theorem lw_p19 : lw_okq (⟨"FloorOfProofsModel", "readStep", "()Z"⟩, 13) := ⟨⟨by decide +kernel, by decide +kernel⟩, List.mem_of_getElem? (i := 767) (by decide +kernel), List.mem_of_getElem? (i := 858) (by decide +kernel), List.mem_of_getElem? (i := 859) (by decide +kernel)⟩
theorem lw_p20 : lw_okq (⟨"FloorOfProofsModel", "readPair", "()Z"⟩, 13) := ⟨⟨by decide +kernel, by decide +kernel⟩, List.mem_of_getElem? (i := 767) (by decide +kernel), List.mem_of_getElem? (i := 862) (by decide +kernel), List.mem_of_getElem? (i := 863) (by decide +kernel)⟩
theorem lw_p21 : lw_okq (⟨"FloorOfProofsModel", "copy", "(II)V"⟩, 13) := ⟨⟨by decide +kernel, by decide +kernel⟩, List.mem_of_getElem? (i := 767) (by decide +kernel), List.mem_of_getElem? (i := 871) (by decide +kernel), List.mem_of_getElem? (i := 872) (by decide +kernel)⟩
theorem lw_p22 : lw_okq (⟨"FloorOfProofsModel", "isStone", "(I)Z"⟩, 13) := ⟨⟨by decide +kernel, by decide +kernel⟩, List.mem_of_getElem? (i := 767) (by decide +kernel), List.mem_of_getElem? (i := 879) (by decide +kernel), List.mem_of_getElem? (i := 880) (by decide +kernel)⟩
theorem lw_p23 : lw_okq (⟨"FloorOfProofsModel", "isStep", "(I)Z"⟩, 13) := ⟨⟨by decide +kernel, by decide +kernel⟩, List.mem_of_getElem? (i := 767) (by decide +kernel), List.mem_of_getElem? (i := 888) (by decide +kernel), List.mem_of_getElem? (i := 889) (by decide +kernel)⟩
theorem lw_p24 : lw_okq (⟨"FloorOfProofsModel", "may", "(I)Z"⟩, 13) := ⟨⟨by decide +kernel, by decide +kernel⟩, List.mem_of_getElem? (i := 767) (by decide +kernel), List.mem_of_getElem? (i := 893) (by decide +kernel), List.mem_of_getElem? (i := 894) (by decide +kernel)⟩
theorem lw_p25 : lw_okq (⟨"FloorOfProofsModel", "minds", "()V"⟩, 13) := ⟨⟨by decide +kernel, by decide +kernel⟩, List.mem_of_getElem? (i := 767) (by decide +kernel), List.mem_of_getElem? (i := 904) (by decide +kernel), List.mem_of_getElem? (i := 905) (by decide +kernel)⟩
theorem lw_p26 : lw_okq (⟨"FloorOfProofsModel", "isSet", "(I)Z"⟩, 13) := ⟨⟨by decide +kernel, by decide +kernel⟩, List.mem_of_getElem? (i := 767) (by decide +kernel), List.mem_of_getElem? (i := 927) (by decide +kernel), List.mem_of_getElem? (i := 928) (by decide +kernel)⟩
theorem lw_p27 : lw_okq (⟨"FloorOfProofsModel", "reachOf", "(I)I"⟩, 13) := ⟨⟨by decide +kernel, by decide +kernel⟩, List.mem_of_getElem? (i := 767) (by decide +kernel), List.mem_of_getElem? (i := 931) (by decide +kernel), List.mem_of_getElem? (i := 932) (by decide +kernel)⟩
theorem lw_p28 : lw_okq (⟨"FloorOfProofsModel", "allSteps", "()I"⟩, 13) := ⟨⟨by decide +kernel, by decide +kernel⟩, List.mem_of_getElem? (i := 767) (by decide +kernel), List.mem_of_getElem? (i := 935) (by decide +kernel), List.mem_of_getElem? (i := 936) (by decide +kernel)⟩
theorem lw_p29 : lw_okq (⟨"FloorOfProofsModel", "closure", "(III)I"⟩, 13) := ⟨⟨by decide +kernel, by decide +kernel⟩, List.mem_of_getElem? (i := 767) (by decide +kernel), List.mem_of_getElem? (i := 939) (by decide +kernel), List.mem_of_getElem? (i := 940) (by decide +kernel)⟩
theorem lw_p30 : lw_okq (⟨"FloorOfProofsModel", "layWalks", "(I)V"⟩, 13) := ⟨⟨by decide +kernel, by decide +kernel⟩, List.mem_of_getElem? (i := 767) (by decide +kernel), List.mem_of_getElem? (i := 949) (by decide +kernel), List.mem_of_getElem? (i := 950) (by decide +kernel)⟩
theorem lw_p31 : lw_okq (⟨"FloorOfProofsModel", "mayFrom", "(II)Z"⟩, 13) := ⟨⟨by decide +kernel, by decide +kernel⟩, List.mem_of_getElem? (i := 767) (by decide +kernel), List.mem_of_getElem? (i := 953) (by decide +kernel), List.mem_of_getElem? (i := 954) (by decide +kernel)⟩
def lw_privs_2 : List (MethodName × Nat) := [(⟨"FloorOfProofsModel", "readItem", "()Z"⟩, 13), (⟨"FloorOfProofsModel", "takes", "(I)Z"⟩, 13), (⟨"FloorOfProofsModel", "isRead", "(I)Z"⟩, 13), (⟨"FloorOfProofsModel", "readStep", "()Z"⟩, 13), (⟨"FloorOfProofsModel", "readPair", "()Z"⟩, 13), (⟨"FloorOfProofsModel", "copy", "(II)V"⟩, 13), (⟨"FloorOfProofsModel", "isStone", "(I)Z"⟩, 13), (⟨"FloorOfProofsModel", "isStep", "(I)Z"⟩, 13), (⟨"FloorOfProofsModel", "may", "(I)Z"⟩, 13), (⟨"FloorOfProofsModel", "minds", "()V"⟩, 13), (⟨"FloorOfProofsModel", "isSet", "(I)Z"⟩, 13), (⟨"FloorOfProofsModel", "reachOf", "(I)I"⟩, 13), (⟨"FloorOfProofsModel", "allSteps", "()I"⟩, 13), (⟨"FloorOfProofsModel", "closure", "(III)I"⟩, 13), (⟨"FloorOfProofsModel", "layWalks", "(I)V"⟩, 13), (⟨"FloorOfProofsModel", "mayFrom", "(II)Z"⟩, 13)]
theorem lw_r2 : ∀ q ∈ lw_privs_2, lw_okq q := List.forall_mem_cons.mpr ⟨lw_p16, List.forall_mem_cons.mpr ⟨lw_p17, List.forall_mem_cons.mpr ⟨lw_p18, List.forall_mem_cons.mpr ⟨lw_p19, List.forall_mem_cons.mpr ⟨lw_p20, List.forall_mem_cons.mpr ⟨lw_p21, List.forall_mem_cons.mpr ⟨lw_p22, List.forall_mem_cons.mpr ⟨lw_p23, List.forall_mem_cons.mpr ⟨lw_p24, List.forall_mem_cons.mpr ⟨lw_p25, List.forall_mem_cons.mpr ⟨lw_p26, List.forall_mem_cons.mpr ⟨lw_p27, List.forall_mem_cons.mpr ⟨lw_p28, List.forall_mem_cons.mpr ⟨lw_p29, List.forall_mem_cons.mpr ⟨lw_p30, List.forall_mem_cons.mpr ⟨lw_p31, fun _ h => absurd h List.not_mem_nil⟩⟩⟩⟩⟩⟩⟩⟩⟩⟩⟩⟩⟩⟩⟩⟩
theorem lw_p32 : lw_okq (⟨"FloorOfProofsModel", "beginnings", "()I"⟩, 13) := ⟨⟨by decide +kernel, by decide +kernel⟩, List.mem_of_getElem? (i := 767) (by decide +kernel), List.mem_of_getElem? (i := 966) (by decide +kernel), List.mem_of_getElem? (i := 967) (by decide +kernel)⟩
theorem lw_p33 : lw_okq (⟨"FloorOfProofsModel", "begins", "(I)I"⟩, 13) := ⟨⟨by decide +kernel, by decide +kernel⟩, List.mem_of_getElem? (i := 767) (by decide +kernel), List.mem_of_getElem? (i := 978) (by decide +kernel), List.mem_of_getElem? (i := 979) (by decide +kernel)⟩
theorem lw_p34 : lw_okq (⟨"FloorOfProofsModel", "isHall", "(I)Z"⟩, 13) := ⟨⟨by decide +kernel, by decide +kernel⟩, List.mem_of_getElem? (i := 767) (by decide +kernel), List.mem_of_getElem? (i := 986) (by decide +kernel), List.mem_of_getElem? (i := 987) (by decide +kernel)⟩
theorem lw_p35 : lw_okq (⟨"FloorOfProofsModel", "leads", "(I)I"⟩, 13) := ⟨⟨by decide +kernel, by decide +kernel⟩, List.mem_of_getElem? (i := 767) (by decide +kernel), List.mem_of_getElem? (i := 1002) (by decide +kernel), List.mem_of_getElem? (i := 1003) (by decide +kernel)⟩
theorem lw_p36 : lw_okq (⟨"FloorOfProofsModel", "isProof", "(II)Z"⟩, 13) := ⟨⟨by decide +kernel, by decide +kernel⟩, List.mem_of_getElem? (i := 767) (by decide +kernel), List.mem_of_getElem? (i := 1015) (by decide +kernel), List.mem_of_getElem? (i := 1016) (by decide +kernel)⟩
theorem lw_p37 : lw_okq (⟨"FloorOfProofsModel", "proves", "(II)Z"⟩, 13) := ⟨⟨by decide +kernel, by decide +kernel⟩, List.mem_of_getElem? (i := 767) (by decide +kernel), List.mem_of_getElem? (i := 1019) (by decide +kernel), List.mem_of_getElem? (i := 1020) (by decide +kernel)⟩
def lw_privs_3 : List (MethodName × Nat) := [(⟨"FloorOfProofsModel", "beginnings", "()I"⟩, 13), (⟨"FloorOfProofsModel", "begins", "(I)I"⟩, 13), (⟨"FloorOfProofsModel", "isHall", "(I)Z"⟩, 13), (⟨"FloorOfProofsModel", "leads", "(I)I"⟩, 13), (⟨"FloorOfProofsModel", "isProof", "(II)Z"⟩, 13), (⟨"FloorOfProofsModel", "proves", "(II)Z"⟩, 13)]
theorem lw_r3 : ∀ q ∈ lw_privs_3, lw_okq q := List.forall_mem_cons.mpr ⟨lw_p32, List.forall_mem_cons.mpr ⟨lw_p33, List.forall_mem_cons.mpr ⟨lw_p34, List.forall_mem_cons.mpr ⟨lw_p35, List.forall_mem_cons.mpr ⟨lw_p36, List.forall_mem_cons.mpr ⟨lw_p37, fun _ h => absurd h List.not_mem_nil⟩⟩⟩⟩⟩⟩
def lw_privs : List (MethodName × Nat) := lw_privs_1 ++ (lw_privs_2 ++ (lw_privs_3))
def lw_tbl : List Cond := k2_sels lw_privs ++ tables_1
theorem lw_privs_ok : ∀ q ∈ lw_privs, lw_okq q := by
  show ∀ q ∈ lw_privs_1 ++ (lw_privs_2 ++ (lw_privs_3)), lw_okq q
  exact List.forall_mem_append.mpr ⟨lw_r1, List.forall_mem_append.mpr ⟨lw_r2, lw_r3⟩⟩

def RX0 : String := "FloorOfProofs$Beginnings"
def TX0 : u_T := fun k => match k with
  | _ => ("", "", "", false)
def tyX0 : Nat → FieldType := fun k => match k with
  | _ => .int
abbrev wsX00 : List Cond := u_ws RX0 TX0 0
theorem nmX0 : ∀ a, a < 0 → ∀ b, b < 0 → a ≠ b → (TX0 a).2.1 ≠ (TX0 b).2.1 := by decide +kernel
theorem tyX0_ok : ∀ k, k < 0 → parseFieldDescriptor (TX0 k).2.2.1 = some (tyX0 k) := by decide +kernel
abbrev cX0_leadTo : ByteArray := prog_2_method_2_code
def yX0_leadTo : MethodName := ⟨RX0, "leadTo", "(LFloorOfProofs$Floor;I)Z"⟩
abbrev cX0_leadIntoHall : ByteArray := prog_2_method_3_code
def yX0_leadIntoHall : MethodName := ⟨RX0, "leadIntoHall", "(LFloorOfProofs$Floor;)Z"⟩
abbrev cX0_neededFor : ByteArray := prog_2_method_4_code
def yX0_neededFor : MethodName := ⟨RX0, "neededFor", "(LFloorOfProofs$Floor;I)I"⟩
abbrev cX0_fewestFor : ByteArray := prog_2_method_5_code
def yX0_fewestFor : MethodName := ⟨RX0, "fewestFor", "(LFloorOfProofs$Floor;I)I"⟩
abbrev cX0_lostBy : ByteArray := prog_2_method_6_code
def yX0_lostBy : MethodName := ⟨RX0, "lostBy", "(LFloorOfProofs$Floor;I)I"⟩
abbrev cX0_fewestMoreFor : ByteArray := prog_2_method_7_code
def yX0_fewestMoreFor : MethodName := ⟨RX0, "fewestMoreFor", "(LFloorOfProofs$Floor;I)I"⟩
abbrev cX0_fewestIntoHall : ByteArray := prog_2_method_8_code
def yX0_fewestIntoHall : MethodName := ⟨RX0, "fewestIntoHall", "(LFloorOfProofs$Floor;)I"⟩
abbrev cX0_fewestToRopeOff : ByteArray := prog_2_method_9_code
def yX0_fewestToRopeOff : MethodName := ⟨RX0, "fewestToRopeOff", "(LFloorOfProofs$Floor;)I"⟩
abbrev cX0_fewestTurned : ByteArray := prog_2_method_10_code
def yX0_fewestTurned : MethodName := ⟨RX0, "fewestTurned", "(LFloorOfProofs$Floor;III)I"⟩
abbrev cX0_isMet : ByteArray := prog_2_method_11_code
def yX0_isMet : MethodName := ⟨RX0, "isMet", "(LFloorOfProofs$Floor;II)Z"⟩
def RX1 : String := "FloorOfProofs$Floor"
def TX1 : u_T := fun k => match k with
  | 0 => ("FloorOfProofs$Floor", "firsts", "[I", true)
  | 1 => ("FloorOfProofs$Floor", "seconds", "[I", true)
  | 2 => ("FloorOfProofs$Floor", "ends", "[I", true)
  | 3 => ("FloorOfProofs$Floor", "origins", "[I", true)
  | 4 => ("FloorOfProofs$Floor", "gainsayers", "[I", true)
  | 5 => ("FloorOfProofs$Floor", "wear", "[I", true)
  | 6 => ("FloorOfProofs$Floor", "stoneCount", "I", false)
  | 7 => ("FloorOfProofs$Floor", "stepCount", "I", false)
  | 8 => ("FloorOfProofs$Floor", "begins", "I", false)
  | 9 => ("FloorOfProofs$Floor", "there", "I", false)
  | _ => ("FloorOfProofs$Floor", "stood", "I", false)
def tyX1 : Nat → FieldType := fun k => match k with
  | 0 => .array .int
  | 1 => .array .int
  | 2 => .array .int
  | 3 => .array .int
  | 4 => .array .int
  | 5 => .array .int
  | 6 => .int
  | 7 => .int
  | 8 => .int
  | 9 => .int
  | _ => .int
abbrev wsX10 : List Cond := u_ws RX1 TX1 11
theorem nmX1 : ∀ a, a < 11 → ∀ b, b < 11 → a ≠ b → (TX1 a).2.1 ≠ (TX1 b).2.1 := by decide +kernel
theorem tyX1_ok : ∀ k, k < 11 → parseFieldDescriptor (TX1 k).2.2.1 = some (tyX1 k) := by decide +kernel
abbrev cX1_init : ByteArray := prog_3_method_1_code
def yX1_init : MethodName := ⟨RX1, "<init>", "()V"⟩
abbrev cX1_empty : ByteArray := prog_3_method_2_code
def yX1_empty : MethodName := ⟨RX1, "empty", "()V"⟩
abbrev cX1_copyFrom : ByteArray := prog_3_method_3_code
def yX1_copyFrom : MethodName := ⟨RX1, "copyFrom", "(LFloorOfProofs$Floor;)V"⟩
abbrev cX1_setStones : ByteArray := prog_3_method_4_code
def yX1_setStones : MethodName := ⟨RX1, "setStones", "(I)Z"⟩
abbrev cX1_beginOn : ByteArray := prog_3_method_5_code
def yX1_beginOn : MethodName := ⟨RX1, "beginOn", "(I)Z"⟩
abbrev cX1_standOnBeginnings : ByteArray := prog_3_method_6_code
def yX1_standOnBeginnings : MethodName := ⟨RX1, "standOnBeginnings", "()V"⟩
abbrev cX1_couldBeStep : ByteArray := prog_3_method_7_code
def yX1_couldBeStep : MethodName := ⟨RX1, "couldBeStep", "(III)Z"⟩
abbrev cX1_addStep : ByteArray := prog_3_method_8_code
def yX1_addStep : MethodName := ⟨RX1, "addStep", "(III)Z"⟩
abbrev cX1_setGainsay : ByteArray := prog_3_method_9_code
def yX1_setGainsay : MethodName := ⟨RX1, "setGainsay", "(II)Z"⟩
abbrev cX1_setWear : ByteArray := prog_3_method_10_code
def yX1_setWear : MethodName := ⟨RX1, "setWear", "(II)Z"⟩
abbrev cX1_stoneCount : ByteArray := prog_3_method_11_code
def yX1_stoneCount : MethodName := ⟨RX1, "stoneCount", "()I"⟩
abbrev cX1_stepCount : ByteArray := prog_3_method_12_code
def yX1_stepCount : MethodName := ⟨RX1, "stepCount", "()I"⟩
abbrev cX1_begins : ByteArray := prog_3_method_13_code
def yX1_begins : MethodName := ⟨RX1, "begins", "()I"⟩
abbrev cX1_beginnings : ByteArray := prog_3_method_14_code
def yX1_beginnings : MethodName := ⟨RX1, "beginnings", "()I"⟩
abbrev cX1_there : ByteArray := prog_3_method_15_code
def yX1_there : MethodName := ⟨RX1, "there", "()I"⟩
abbrev cX1_stood : ByteArray := prog_3_method_16_code
def yX1_stood : MethodName := ⟨RX1, "stood", "()I"⟩
abbrev cX1_allStones : ByteArray := prog_3_method_17_code
def yX1_allStones : MethodName := ⟨RX1, "allStones", "()I"⟩
abbrev cX1_hasStone : ByteArray := prog_3_method_18_code
def yX1_hasStone : MethodName := ⟨RX1, "hasStone", "(I)Z"⟩
abbrev cX1_isThere : ByteArray := prog_3_method_19_code
def yX1_isThere : MethodName := ⟨RX1, "isThere", "(I)Z"⟩
abbrev cX1_wearOf : ByteArray := prog_3_method_20_code
def yX1_wearOf : MethodName := ⟨RX1, "wearOf", "(I)I"⟩
abbrev cX1_gainsayersOf : ByteArray := prog_3_method_21_code
def yX1_gainsayersOf : MethodName := ⟨RX1, "gainsayersOf", "(I)I"⟩
abbrev cX1_firstOf : ByteArray := prog_3_method_22_code
def yX1_firstOf : MethodName := ⟨RX1, "firstOf", "(I)I"⟩
abbrev cX1_secondOf : ByteArray := prog_3_method_23_code
def yX1_secondOf : MethodName := ⟨RX1, "secondOf", "(I)I"⟩
abbrev cX1_endOf : ByteArray := prog_3_method_24_code
def yX1_endOf : MethodName := ⟨RX1, "endOf", "(I)I"⟩
abbrev cX1_originsOf : ByteArray := prog_3_method_25_code
def yX1_originsOf : MethodName := ⟨RX1, "originsOf", "(I)I"⟩
abbrev cX1_mayBeGone : ByteArray := prog_3_method_26_code
def yX1_mayBeGone : MethodName := ⟨RX1, "mayBeGone", "(I)Z"⟩
abbrev cX1_after : ByteArray := prog_3_method_27_code
def yX1_after : MethodName := ⟨RX1, "after", "(II)I"⟩
abbrev cX1_afterAmong : ByteArray := prog_3_method_28_code
def yX1_afterAmong : MethodName := ⟨RX1, "afterAmong", "(III)I"⟩
abbrev cX1_tread : ByteArray := prog_3_method_29_code
def yX1_tread : MethodName := ⟨RX1, "tread", "(I)V"⟩
abbrev cX1_untread : ByteArray := prog_3_method_30_code
def yX1_untread : MethodName := ⟨RX1, "untread", "(I)V"⟩
abbrev cX1_removeSlab : ByteArray := prog_3_method_31_code
def yX1_removeSlab : MethodName := ⟨RX1, "removeSlab", "(I)V"⟩
abbrev cX1_putSlabBack : ByteArray := prog_3_method_32_code
def yX1_putSlabBack : MethodName := ⟨RX1, "putSlabBack", "(IZ)V"⟩
abbrev cX1_removeLatestStep : ByteArray := prog_3_method_33_code
def yX1_removeLatestStep : MethodName := ⟨RX1, "removeLatestStep", "()V"⟩
abbrev cX1_reachOf : ByteArray := prog_3_method_34_code
def yX1_reachOf : MethodName := ⟨RX1, "reachOf", "(I)I"⟩
abbrev cX1_reachBy : ByteArray := prog_3_method_35_code
def yX1_reachBy : MethodName := ⟨RX1, "reachBy", "(III)I"⟩
abbrev cX1_hasGainsayersIn : ByteArray := prog_3_method_36_code
def yX1_hasGainsayersIn : MethodName := ⟨RX1, "hasGainsayersIn", "(I)Z"⟩
abbrev cX1_directlyBehind : ByteArray := prog_3_method_37_code
def yX1_directlyBehind : MethodName := ⟨RX1, "directlyBehind", "(I)I"⟩
def RX2 : String := "FloorOfProofs$Past"
def TX2 : u_T := fun k => match k with
  | 0 => ("FloorOfProofs$Past", "kinds", "[I", true)
  | 1 => ("FloorOfProofs$Past", "stones", "[I", true)
  | _ => ("FloorOfProofs$Past", "size", "I", false)
def tyX2 : Nat → FieldType := fun k => match k with
  | 0 => .array .int
  | 1 => .array .int
  | _ => .int
abbrev wsX20 : List Cond := u_ws RX2 TX2 3
theorem nmX2 : ∀ a, a < 3 → ∀ b, b < 3 → a ≠ b → (TX2 a).2.1 ≠ (TX2 b).2.1 := by decide +kernel
theorem tyX2_ok : ∀ k, k < 3 → parseFieldDescriptor (TX2 k).2.2.1 = some (tyX2 k) := by decide +kernel
abbrev cX2_init : ByteArray := prog_4_method_1_code
def yX2_init : MethodName := ⟨RX2, "<init>", "()V"⟩
abbrev cX2_size : ByteArray := prog_4_method_2_code
def yX2_size : MethodName := ⟨RX2, "size", "()I"⟩
abbrev cX2_clear : ByteArray := prog_4_method_3_code
def yX2_clear : MethodName := ⟨RX2, "clear", "()V"⟩
abbrev cX2_noteGone : ByteArray := prog_4_method_4_code
def yX2_noteGone : MethodName := ⟨RX2, "noteGone", "(I)V"⟩
abbrev cX2_noteOut : ByteArray := prog_4_method_5_code
def yX2_noteOut : MethodName := ⟨RX2, "noteOut", "(IZ)V"⟩
abbrev cX2_noteLaid : ByteArray := prog_4_method_6_code
def yX2_noteLaid : MethodName := ⟨RX2, "noteLaid", "()V"⟩
abbrev cX2_note : ByteArray := prog_4_method_7_code
def yX2_note : MethodName := ⟨RX2, "note", "(II)V"⟩
abbrev cX2_forgetOldest : ByteArray := prog_4_method_8_code
def yX2_forgetOldest : MethodName := ⟨RX2, "forgetOldest", "()V"⟩
abbrev cX2_takeBackLatest : ByteArray := prog_4_method_9_code
def yX2_takeBackLatest : MethodName := ⟨RX2, "takeBackLatest", "(LFloorOfProofs$Floor;)V"⟩
def RX3 : String := "FloorOfProofs$ProofRows"
def TX3 : u_T := fun k => match k with
  | 0 => ("FloorOfProofs$ProofRows", "reaches", "[I", true)
  | _ => ("FloorOfProofs$ProofRows", "sets", "I", false)
def tyX3 : Nat → FieldType := fun k => match k with
  | 0 => .array .int
  | _ => .int
abbrev wsX30 : List Cond := u_ws RX3 TX3 2
theorem nmX3 : ∀ a, a < 2 → ∀ b, b < 2 → a ≠ b → (TX3 a).2.1 ≠ (TX3 b).2.1 := by decide +kernel
theorem tyX3_ok : ∀ k, k < 2 → parseFieldDescriptor (TX3 k).2.2.1 = some (tyX3 k) := by decide +kernel
abbrev cX3_init : ByteArray := prog_5_method_1_code
def yX3_init : MethodName := ⟨RX3, "<init>", "()V"⟩
abbrev cX3_reckon : ByteArray := prog_5_method_2_code
def yX3_reckon : MethodName := ⟨RX3, "reckon", "(LFloorOfProofs$Floor;)V"⟩
abbrev cX3_isProof : ByteArray := prog_5_method_3_code
def yX3_isProof : MethodName := ⟨RX3, "isProof", "(II)Z"⟩
abbrev cX3_howMany : ByteArray := prog_5_method_4_code
def yX3_howMany : MethodName := ⟨RX3, "howMany", "(I)I"⟩
abbrev cX3_shortest : ByteArray := prog_5_method_5_code
def yX3_shortest : MethodName := ⟨RX3, "shortest", "(I)I"⟩
abbrev cX3_inAll : ByteArray := prog_5_method_6_code
def yX3_inAll : MethodName := ⟨RX3, "inAll", "(I)I"⟩
abbrev cX3_howManyWear : ByteArray := prog_5_method_7_code
def yX3_howManyWear : MethodName := ⟨RX3, "howManyWear", "(LFloorOfProofs$Floor;II)I"⟩
abbrev cX3_endsOf : ByteArray := prog_5_method_8_code
def yX3_endsOf : MethodName := ⟨RX3, "endsOf", "(LFloorOfProofs$Floor;I)I"⟩
def RX4 : String := "FloorOfProofs$Reader"
def TX4 : u_T := fun k => match k with
  | 0 => ("FloorOfProofs$Reader", "numbers", "[I", true)
  | _ => ("FloorOfProofs$Reader", "onlyStonesTold", "Z", false)
def tyX4 : Nat → FieldType := fun k => match k with
  | 0 => .array .int
  | _ => .boolean
abbrev wsX40 : List Cond := u_ws RX4 TX4 2
theorem nmX4 : ∀ a, a < 2 → ∀ b, b < 2 → a ≠ b → (TX4 a).2.1 ≠ (TX4 b).2.1 := by decide +kernel
theorem tyX4_ok : ∀ k, k < 2 → parseFieldDescriptor (TX4 k).2.2.1 = some (tyX4 k) := by decide +kernel
abbrev cX4_init : ByteArray := prog_6_method_1_code
def yX4_init : MethodName := ⟨RX4, "<init>", "()V"⟩
abbrev cX4_readOnto : ByteArray := prog_6_method_2_code
def yX4_readOnto : MethodName := ⟨RX4, "readOnto", "(LFloorOfProofs$Floor;LFloorOfProofs$Text;)I"⟩
abbrev cX4_numbersOf : ByteArray := prog_6_method_3_code
def yX4_numbersOf : MethodName := ⟨RX4, "numbersOf", "(I)I"⟩
abbrev cX4_itemsEnd : ByteArray := prog_6_method_4_code
def yX4_itemsEnd : MethodName := ⟨RX4, "itemsEnd", "(LFloorOfProofs$Text;I)I"⟩
abbrev cX4_isFigure : ByteArray := prog_6_method_5_code
def yX4_isFigure : MethodName := ⟨RX4, "isFigure", "(I)Z"⟩
abbrev cX4_figuresAt : ByteArray := prog_6_method_6_code
def yX4_figuresAt : MethodName := ⟨RX4, "figuresAt", "(LFloorOfProofs$Text;I)I"⟩
abbrev cX4_numberAt : ByteArray := prog_6_method_7_code
def yX4_numberAt : MethodName := ⟨RX4, "numberAt", "(LFloorOfProofs$Text;II)I"⟩
abbrev cX4_takeItem : ByteArray := prog_6_method_8_code
def yX4_takeItem : MethodName := ⟨RX4, "takeItem", "(LFloorOfProofs$Floor;I)Z"⟩
def RX5 : String := "FloorOfProofs$Shape"
def TX5 : u_T := fun k => match k with
  | _ => ("", "", "", false)
def tyX5 : Nat → FieldType := fun k => match k with
  | _ => .int
abbrev wsX50 : List Cond := u_ws RX5 TX5 0
theorem nmX5 : ∀ a, a < 0 → ∀ b, b < 0 → a ≠ b → (TX5 a).2.1 ≠ (TX5 b).2.1 := by decide +kernel
theorem tyX5_ok : ∀ k, k < 0 → parseFieldDescriptor (TX5 k).2.2.1 = some (tyX5 k) := by decide +kernel
abbrev cX5_idleSteps : ByteArray := prog_7_method_2_code
def yX5_idleSteps : MethodName := ⟨RX5, "idleSteps", "(LFloorOfProofs$Floor;)I"⟩
abbrev cX5_lowestInCircle : ByteArray := prog_7_method_3_code
def yX5_lowestInCircle : MethodName := ⟨RX5, "lowestInCircle", "(LFloorOfProofs$Floor;)I"⟩
abbrev cX5_everBehind : ByteArray := prog_7_method_4_code
def yX5_everBehind : MethodName := ⟨RX5, "everBehind", "(LFloorOfProofs$Floor;I)I"⟩
abbrev cX5_depth : ByteArray := prog_7_method_5_code
def yX5_depth : MethodName := ⟨RX5, "depth", "(LFloorOfProofs$Floor;)I"⟩
def RX6 : String := "FloorOfProofs$Text"
def TX6 : u_T := fun k => match k with
  | 0 => ("FloorOfProofs$Text", "bytes", "[I", true)
  | _ => ("FloorOfProofs$Text", "size", "I", false)
def tyX6 : Nat → FieldType := fun k => match k with
  | 0 => .array .int
  | _ => .int
abbrev wsX60 : List Cond := u_ws RX6 TX6 2
theorem nmX6 : ∀ a, a < 2 → ∀ b, b < 2 → a ≠ b → (TX6 a).2.1 ≠ (TX6 b).2.1 := by decide +kernel
theorem tyX6_ok : ∀ k, k < 2 → parseFieldDescriptor (TX6 k).2.2.1 = some (tyX6 k) := by decide +kernel
abbrev cX6_init : ByteArray := prog_8_method_1_code
def yX6_init : MethodName := ⟨RX6, "<init>", "()V"⟩
abbrev cX6_size : ByteArray := prog_8_method_2_code
def yX6_size : MethodName := ⟨RX6, "size", "()I"⟩
abbrev cX6_clear : ByteArray := prog_8_method_3_code
def yX6_clear : MethodName := ⟨RX6, "clear", "()V"⟩
abbrev cX6_addByte : ByteArray := prog_8_method_4_code
def yX6_addByte : MethodName := ⟨RX6, "addByte", "(I)V"⟩
abbrev cX6_addSigns : ByteArray := prog_8_method_5_code
def yX6_addSigns : MethodName := ⟨RX6, "addSigns", "(Ljava/lang/String;)V"⟩
abbrev cX6_byteAt : ByteArray := prog_8_method_6_code
def yX6_byteAt : MethodName := ⟨RX6, "byteAt", "(I)I"⟩
def RX7 : String := "FloorOfProofs$Walks"
def TX7 : u_T := fun k => match k with
  | 0 => ("FloorOfProofs$Walks", "fewest", "[I", true)
  | _ => ("FloorOfProofs$Walks", "rows", "[I", true)
def tyX7 : Nat → FieldType := fun k => match k with
  | 0 => .array .int
  | _ => .array .int
abbrev wsX70 : List Cond := u_ws RX7 TX7 2
theorem nmX7 : ∀ a, a < 2 → ∀ b, b < 2 → a ≠ b → (TX7 a).2.1 ≠ (TX7 b).2.1 := by decide +kernel
theorem tyX7_ok : ∀ k, k < 2 → parseFieldDescriptor (TX7 k).2.2.1 = some (tyX7 k) := by decide +kernel
abbrev cX7_init : ByteArray := prog_9_method_1_code
def yX7_init : MethodName := ⟨RX7, "<init>", "()V"⟩
abbrev cX7_measure : ByteArray := prog_9_method_2_code
def yX7_measure : MethodName := ⟨RX7, "measure", "(LFloorOfProofs$Floor;I)V"⟩
abbrev cX7_measureFrom : ByteArray := prog_9_method_3_code
def yX7_measureFrom : MethodName := ⟨RX7, "measureFrom", "(LFloorOfProofs$Floor;II)V"⟩
abbrev cX7_fewestSteps : ByteArray := prog_9_method_4_code
def yX7_fewestSteps : MethodName := ⟨RX7, "fewestSteps", "(LFloorOfProofs$Floor;)I"⟩
abbrev cX7_lowestFirstStep : ByteArray := prog_9_method_5_code
def yX7_lowestFirstStep : MethodName := ⟨RX7, "lowestFirstStep", "(LFloorOfProofs$Floor;)I"⟩
abbrev cX7_howManyRows : ByteArray := prog_9_method_6_code
def yX7_howManyRows : MethodName := ⟨RX7, "howManyRows", "(LFloorOfProofs$Floor;)I"⟩
abbrev cX7_rounds : ByteArray := prog_9_method_7_code
def yX7_rounds : MethodName := ⟨RX7, "rounds", "(LFloorOfProofs$Floor;I)I"⟩
abbrev cX7_afterAllAtOnce : ByteArray := prog_9_method_8_code
def yX7_afterAllAtOnce : MethodName := ⟨RX7, "afterAllAtOnce", "(LFloorOfProofs$Floor;I)I"⟩
def RX8 : String := "FloorOfProofs"
def TX8 : u_T := fun k => match k with
  | 0 => ("FloorOfProofs", "text", "LFloorOfProofs$Text;", true)
  | 1 => ("FloorOfProofs", "reader", "LFloorOfProofs$Reader;", true)
  | 2 => ("FloorOfProofs", "draft", "LFloorOfProofs$Floor;", true)
  | 3 => ("FloorOfProofs", "floor", "LFloorOfProofs$Floor;", true)
  | 4 => ("FloorOfProofs", "keptFirst", "LFloorOfProofs$Floor;", true)
  | 5 => ("FloorOfProofs", "keptSecond", "LFloorOfProofs$Floor;", true)
  | 6 => ("FloorOfProofs", "past", "LFloorOfProofs$Past;", true)
  | 7 => ("FloorOfProofs", "walks", "LFloorOfProofs$Walks;", true)
  | 8 => ("FloorOfProofs", "proofRows", "LFloorOfProofs$ProofRows;", true)
  | 9 => ("FloorOfProofs", "told", "[I", true)
  | 10 => ("FloorOfProofs", "toldCount", "I", false)
  | _ => ("FloorOfProofs", "keptCount", "I", false)
def tyX8 : Nat → FieldType := fun k => match k with
  | 0 => .object "FloorOfProofs$Text"
  | 1 => .object "FloorOfProofs$Reader"
  | 2 => .object "FloorOfProofs$Floor"
  | 3 => .object "FloorOfProofs$Floor"
  | 4 => .object "FloorOfProofs$Floor"
  | 5 => .object "FloorOfProofs$Floor"
  | 6 => .object "FloorOfProofs$Past"
  | 7 => .object "FloorOfProofs$Walks"
  | 8 => .object "FloorOfProofs$ProofRows"
  | 9 => .array .int
  | 10 => .int
  | _ => .int
abbrev wsX80 : List Cond := u_ws RX8 TX8 12
theorem nmX8 : ∀ a, a < 12 → ∀ b, b < 12 → a ≠ b → (TX8 a).2.1 ≠ (TX8 b).2.1 := by decide +kernel
theorem tyX8_ok : ∀ k, k < 12 → parseFieldDescriptor (TX8 k).2.2.1 = some (tyX8 k) := by decide +kernel
abbrev cX8_init : ByteArray := prog_1_method_1_code
def yX8_init : MethodName := ⟨RX8, "<init>", "()V"⟩
abbrev cX8_write : ByteArray := prog_1_method_2_code
def yX8_write : MethodName := ⟨RX8, "write", "(IJ)I"⟩
abbrev cX8_wipe : ByteArray := prog_1_method_3_code
def yX8_wipe : MethodName := ⟨RX8, "wipe", "()I"⟩
abbrev cX8_fault : ByteArray := prog_1_method_4_code
def yX8_fault : MethodName := ⟨RX8, "fault", "()I"⟩
abbrev cX8_layFloor : ByteArray := prog_1_method_5_code
def yX8_layFloor : MethodName := ⟨RX8, "layFloor", "()I"⟩
abbrev cX8_stone : ByteArray := prog_1_method_6_code
def yX8_stone : MethodName := ⟨RX8, "stone", "(II)I"⟩
abbrev cX8_step : ByteArray := prog_1_method_7_code
def yX8_step : MethodName := ⟨RX8, "step", "(II)I"⟩
abbrev cX8_go : ByteArray := prog_1_method_8_code
def yX8_go : MethodName := ⟨RX8, "go", "(I)I"⟩
abbrev cX8_takeOut : ByteArray := prog_1_method_9_code
def yX8_takeOut : MethodName := ⟨RX8, "takeOut", "(I)I"⟩
abbrev cX8_lay : ByteArray := prog_1_method_10_code
def yX8_lay : MethodName := ⟨RX8, "lay", "(III)I"⟩
abbrev cX8_undo : ByteArray := prog_1_method_11_code
def yX8_undo : MethodName := ⟨RX8, "undo", "()I"⟩
abbrev cX8_reach : ByteArray := prog_1_method_12_code
def yX8_reach : MethodName := ⟨RX8, "reach", "(I)I"⟩
abbrev cX8_walk : ByteArray := prog_1_method_13_code
def yX8_walk : MethodName := ⟨RX8, "walk", "(II)J"⟩
abbrev cX8_round : ByteArray := prog_1_method_14_code
def yX8_round : MethodName := ⟨RX8, "round", "(I)I"⟩
abbrev cX8_needs : ByteArray := prog_1_method_15_code
def yX8_needs : MethodName := ⟨RX8, "needs", "(II)I"⟩
abbrev cX8_lost : ByteArray := prog_1_method_16_code
def yX8_lost : MethodName := ⟨RX8, "lost", "(I)I"⟩
abbrev cX8_begin : ByteArray := prog_1_method_17_code
def yX8_begin : MethodName := ⟨RX8, "begin", "(I)I"⟩
abbrev cX8_hall : ByteArray := prog_1_method_18_code
def yX8_hall : MethodName := ⟨RX8, "hall", "(I)I"⟩
abbrev cX8_rope : ByteArray := prog_1_method_19_code
def yX8_rope : MethodName := ⟨RX8, "rope", "()I"⟩
abbrev cX8_idle : ByteArray := prog_1_method_20_code
def yX8_idle : MethodName := ⟨RX8, "idle", "()I"⟩
abbrev cX8_circle : ByteArray := prog_1_method_21_code
def yX8_circle : MethodName := ⟨RX8, "circle", "()I"⟩
abbrev cX8_deep : ByteArray := prog_1_method_22_code
def yX8_deep : MethodName := ⟨RX8, "deep", "()I"⟩
abbrev cX8_proofs : ByteArray := prog_1_method_23_code
def yX8_proofs : MethodName := ⟨RX8, "proofs", "(II)I"⟩
abbrev cX8_worn : ByteArray := prog_1_method_24_code
def yX8_worn : MethodName := ⟨RX8, "worn", "(II)I"⟩
abbrev cX8_tell : ByteArray := prog_1_method_25_code
def yX8_tell : MethodName := ⟨RX8, "tell", "(I)I"⟩
abbrev cX8_noRow : ByteArray := prog_1_method_26_code
def yX8_noRow : MethodName := ⟨RX8, "noRow", "()I"⟩
abbrev cX8_judge : ByteArray := prog_1_method_27_code
def yX8_judge : MethodName := ⟨RX8, "judge", "()I"⟩
abbrev cX8_year : ByteArray := prog_1_method_28_code
def yX8_year : MethodName := ⟨RX8, "year", "(III)I"⟩
abbrev cX8_keep : ByteArray := prog_1_method_29_code
def yX8_keep : MethodName := ⟨RX8, "keep", "()I"⟩
abbrev cX8_back : ByteArray := prog_1_method_30_code
def yX8_back : MethodName := ⟨RX8, "back", "()I"⟩
abbrev cX8_count : ByteArray := prog_1_method_31_code
def yX8_count : MethodName := ⟨RX8, "count", "(I)I"⟩
abbrev cX8_isStone : ByteArray := prog_1_method_32_code
def yX8_isStone : MethodName := ⟨RX8, "isStone", "(I)Z"⟩
abbrev cX8_isStep : ByteArray := prog_1_method_33_code
def yX8_isStep : MethodName := ⟨RX8, "isStep", "(I)Z"⟩
abbrev cX8_isSetOfStones : ByteArray := prog_1_method_34_code
def yX8_isSetOfStones : MethodName := ⟨RX8, "isSetOfStones", "(I)Z"⟩
abbrev cX8_forgetRowAndPast : ByteArray := prog_1_method_35_code
def yX8_forgetRowAndPast : MethodName := ⟨RX8, "forgetRowAndPast", "()V"⟩
abbrev cX8_keeperOf : ByteArray := prog_1_method_36_code
def yX8_keeperOf : MethodName := ⟨RX8, "keeperOf", "(I)LFloorOfProofs$Floor;"⟩
abbrev cX8_drawnStep : ByteArray := prog_1_method_37_code
def yX8_drawnStep : MethodName := ⟨RX8, "drawnStep", "(II)I"⟩
abbrev cX8_bitOf : ByteArray := prog_1_method_38_code
def yX8_bitOf : MethodName := ⟨RX8, "bitOf", "(II)I"⟩
abbrev cX8_has : ByteArray := prog_1_method_39_code
def yX8_has : MethodName := ⟨RX8, "has", "(II)Z"⟩
abbrev cX8_holdsAll : ByteArray := prog_1_method_40_code
def yX8_holdsAll : MethodName := ⟨RX8, "holdsAll", "(II)Z"⟩
abbrev cX8_at : ByteArray := prog_1_method_41_code
def yX8_at : MethodName := ⟨RX8, "at", "([II)I"⟩
abbrev cX8_put : ByteArray := prog_1_method_42_code
def yX8_put : MethodName := ⟨RX8, "put", "([III)V"⟩
abbrev cX8_copy : ByteArray := prog_1_method_43_code
def yX8_copy : MethodName := ⟨RX8, "copy", "([I[I)V"⟩
abbrev cX8_clearRow : ByteArray := prog_1_method_44_code
def yX8_clearRow : MethodName := ⟨RX8, "clearRow", "([I)V"⟩
def RX9 : String := "FloorOfProofsModel"
def TX9 : u_T := fun k => match k with
  | 0 => ("FloorOfProofsModel", "w", "[I", true)
  | 1 => ("FloorOfProofsModel", "kept", "I", false)
  | 2 => ("FloorOfProofsModel", "undoes", "I", false)
  | 3 => ("FloorOfProofsModel", "text", "[I", true)
  | 4 => ("FloorOfProofsModel", "texted", "I", false)
  | 5 => ("FloorOfProofsModel", "told", "[I", true)
  | 6 => ("FloorOfProofsModel", "toldMany", "I", false)
  | 7 => ("FloorOfProofsModel", "at", "I", false)
  | 8 => ("FloorOfProofsModel", "numbers", "[I", true)
  | 9 => ("FloorOfProofsModel", "others", "Z", false)
  | 10 => ("FloorOfProofsModel", "rows", "[J", true)
  | 11 => ("FloorOfProofsModel", "fewest", "[I", true)
  | _ => ("FloorOfProofsModel", "deeps", "[I", true)
def tyX9 : Nat → FieldType := fun k => match k with
  | 0 => .array .int
  | 1 => .int
  | 2 => .int
  | 3 => .array .int
  | 4 => .int
  | 5 => .array .int
  | 6 => .int
  | 7 => .int
  | 8 => .array .int
  | 9 => .boolean
  | 10 => .array .long
  | 11 => .array .int
  | _ => .array .int
abbrev wsX90 : List Cond := u_ws RX9 TX9 13
theorem nmX9 : ∀ a, a < 13 → ∀ b, b < 13 → a ≠ b → (TX9 a).2.1 ≠ (TX9 b).2.1 := by decide +kernel
theorem tyX9_ok : ∀ k, k < 13 → parseFieldDescriptor (TX9 k).2.2.1 = some (tyX9 k) := by decide +kernel
abbrev cX9_init : ByteArray := prog_11_method_1_code
def yX9_init : MethodName := ⟨RX9, "<init>", "()V"⟩
abbrev cX9_in : ByteArray := prog_11_method_3_code
def yX9_in : MethodName := ⟨RX9, "in", "(JJJ)Z"⟩
abbrev cX9_has : ByteArray := prog_11_method_4_code
def yX9_has : MethodName := ⟨RX9, "has", "(II)Z"⟩
abbrev cX9_ones : ByteArray := prog_11_method_5_code
def yX9_ones : MethodName := ⟨RX9, "ones", "(I)I"⟩
abbrev cX9_copy : ByteArray := prog_11_method_6_code
def yX9_copy : MethodName := ⟨RX9, "copy", "(II)V"⟩
abbrev cX9_makeAnew : ByteArray := prog_11_method_7_code
def yX9_makeAnew : MethodName := ⟨RX9, "makeAnew", "(I)V"⟩
abbrev cX9_layStep : ByteArray := prog_11_method_8_code
def yX9_layStep : MethodName := ⟨RX9, "layStep", "(IIII)V"⟩
abbrev cX9_settle : ByteArray := prog_11_method_9_code
def yX9_settle : MethodName := ⟨RX9, "settle", "(I)V"⟩
abbrev cX9_isStone : ByteArray := prog_11_method_10_code
def yX9_isStone : MethodName := ⟨RX9, "isStone", "(I)Z"⟩
abbrev cX9_isSet : ByteArray := prog_11_method_11_code
def yX9_isSet : MethodName := ⟨RX9, "isSet", "(I)Z"⟩
abbrev cX9_isStep : ByteArray := prog_11_method_12_code
def yX9_isStep : MethodName := ⟨RX9, "isStep", "(I)Z"⟩
abbrev cX9_write : ByteArray := prog_11_method_13_code
def yX9_write : MethodName := ⟨RX9, "write", "(IJ)I"⟩
abbrev cX9_wipe : ByteArray := prog_11_method_14_code
def yX9_wipe : MethodName := ⟨RX9, "wipe", "()I"⟩
abbrev cX9_takes : ByteArray := prog_11_method_15_code
def yX9_takes : MethodName := ⟨RX9, "takes", "(I)Z"⟩
abbrev cX9_isRead : ByteArray := prog_11_method_16_code
def yX9_isRead : MethodName := ⟨RX9, "isRead", "(I)Z"⟩
abbrev cX9_readStep : ByteArray := prog_11_method_17_code
def yX9_readStep : MethodName := ⟨RX9, "readStep", "()Z"⟩
abbrev cX9_readPair : ByteArray := prog_11_method_18_code
def yX9_readPair : MethodName := ⟨RX9, "readPair", "()Z"⟩
abbrev cX9_readItem : ByteArray := prog_11_method_19_code
def yX9_readItem : MethodName := ⟨RX9, "readItem", "()Z"⟩
abbrev cX9_fault : ByteArray := prog_11_method_20_code
def yX9_fault : MethodName := ⟨RX9, "fault", "()I"⟩
abbrev cX9_layFloor : ByteArray := prog_11_method_21_code
def yX9_layFloor : MethodName := ⟨RX9, "layFloor", "()I"⟩
abbrev cX9_may : ByteArray := prog_11_method_22_code
def yX9_may : MethodName := ⟨RX9, "may", "(I)Z"⟩
abbrev cX9_stone : ByteArray := prog_11_method_23_code
def yX9_stone : MethodName := ⟨RX9, "stone", "(II)I"⟩
abbrev cX9_step : ByteArray := prog_11_method_24_code
def yX9_step : MethodName := ⟨RX9, "step", "(II)I"⟩
abbrev cX9_minds : ByteArray := prog_11_method_25_code
def yX9_minds : MethodName := ⟨RX9, "minds", "()V"⟩
abbrev cX9_go : ByteArray := prog_11_method_26_code
def yX9_go : MethodName := ⟨RX9, "go", "(I)I"⟩
abbrev cX9_takeOut : ByteArray := prog_11_method_27_code
def yX9_takeOut : MethodName := ⟨RX9, "takeOut", "(I)I"⟩
abbrev cX9_lay : ByteArray := prog_11_method_28_code
def yX9_lay : MethodName := ⟨RX9, "lay", "(III)I"⟩
abbrev cX9_undo : ByteArray := prog_11_method_29_code
def yX9_undo : MethodName := ⟨RX9, "undo", "()I"⟩
abbrev cX9_closure : ByteArray := prog_11_method_30_code
def yX9_closure : MethodName := ⟨RX9, "closure", "(III)I"⟩
abbrev cX9_allSteps : ByteArray := prog_11_method_31_code
def yX9_allSteps : MethodName := ⟨RX9, "allSteps", "()I"⟩
abbrev cX9_reachOf : ByteArray := prog_11_method_32_code
def yX9_reachOf : MethodName := ⟨RX9, "reachOf", "(I)I"⟩
abbrev cX9_beginnings : ByteArray := prog_11_method_33_code
def yX9_beginnings : MethodName := ⟨RX9, "beginnings", "()I"⟩
abbrev cX9_reach : ByteArray := prog_11_method_34_code
def yX9_reach : MethodName := ⟨RX9, "reach", "(I)I"⟩
abbrev cX9_mayFrom : ByteArray := prog_11_method_35_code
def yX9_mayFrom : MethodName := ⟨RX9, "mayFrom", "(II)Z"⟩
abbrev cX9_layWalks : ByteArray := prog_11_method_36_code
def yX9_layWalks : MethodName := ⟨RX9, "layWalks", "(I)V"⟩
abbrev cX9_walk : ByteArray := prog_11_method_37_code
def yX9_walk : MethodName := ⟨RX9, "walk", "(II)J"⟩
abbrev cX9_round : ByteArray := prog_11_method_38_code
def yX9_round : MethodName := ⟨RX9, "round", "(I)I"⟩
abbrev cX9_needs : ByteArray := prog_11_method_39_code
def yX9_needs : MethodName := ⟨RX9, "needs", "(II)I"⟩
abbrev cX9_lost : ByteArray := prog_11_method_40_code
def yX9_lost : MethodName := ⟨RX9, "lost", "(I)I"⟩
abbrev cX9_begins : ByteArray := prog_11_method_41_code
def yX9_begins : MethodName := ⟨RX9, "begins", "(I)I"⟩
abbrev cX9_begin : ByteArray := prog_11_method_42_code
def yX9_begin : MethodName := ⟨RX9, "begin", "(I)I"⟩
abbrev cX9_isHall : ByteArray := prog_11_method_43_code
def yX9_isHall : MethodName := ⟨RX9, "isHall", "(I)Z"⟩
abbrev cX9_hall : ByteArray := prog_11_method_44_code
def yX9_hall : MethodName := ⟨RX9, "hall", "(I)I"⟩
abbrev cX9_rope : ByteArray := prog_11_method_45_code
def yX9_rope : MethodName := ⟨RX9, "rope", "()I"⟩
abbrev cX9_idle : ByteArray := prog_11_method_46_code
def yX9_idle : MethodName := ⟨RX9, "idle", "()I"⟩
abbrev cX9_leads : ByteArray := prog_11_method_47_code
def yX9_leads : MethodName := ⟨RX9, "leads", "(I)I"⟩
abbrev cX9_circle : ByteArray := prog_11_method_48_code
def yX9_circle : MethodName := ⟨RX9, "circle", "()I"⟩
abbrev cX9_deep : ByteArray := prog_11_method_49_code
def yX9_deep : MethodName := ⟨RX9, "deep", "()I"⟩
abbrev cX9_proves : ByteArray := prog_11_method_50_code
def yX9_proves : MethodName := ⟨RX9, "proves", "(II)Z"⟩
abbrev cX9_isProof : ByteArray := prog_11_method_51_code
def yX9_isProof : MethodName := ⟨RX9, "isProof", "(II)Z"⟩
abbrev cX9_proofs : ByteArray := prog_11_method_52_code
def yX9_proofs : MethodName := ⟨RX9, "proofs", "(II)I"⟩
abbrev cX9_worn : ByteArray := prog_11_method_53_code
def yX9_worn : MethodName := ⟨RX9, "worn", "(II)I"⟩
abbrev cX9_tell : ByteArray := prog_11_method_54_code
def yX9_tell : MethodName := ⟨RX9, "tell", "(I)I"⟩
abbrev cX9_noRow : ByteArray := prog_11_method_55_code
def yX9_noRow : MethodName := ⟨RX9, "noRow", "()I"⟩
abbrev cX9_judge : ByteArray := prog_11_method_56_code
def yX9_judge : MethodName := ⟨RX9, "judge", "()I"⟩
abbrev cX9_year : ByteArray := prog_11_method_57_code
def yX9_year : MethodName := ⟨RX9, "year", "(III)I"⟩
abbrev cX9_keep : ByteArray := prog_11_method_58_code
def yX9_keep : MethodName := ⟨RX9, "keep", "()I"⟩
abbrev cX9_back : ByteArray := prog_11_method_59_code
def yX9_back : MethodName := ⟨RX9, "back", "()I"⟩
abbrev cX9_count : ByteArray := prog_11_method_60_code
def yX9_count : MethodName := ⟨RX9, "count", "(I)I"⟩
def RJ6 : String := "java/lang/Integer"
def TJ6 : u_T := fun k => match k with
  | _ => ("", "", "", false)
def tyJ6 : Nat → FieldType := fun k => match k with
  | _ => .int
abbrev wsJ60 : List Cond := u_ws RJ6 TJ6 0
theorem nmJ6 : ∀ a, a < 0 → ∀ b, b < 0 → a ≠ b → (TJ6 a).2.1 ≠ (TJ6 b).2.1 := by decide +kernel
theorem tyJ6_ok : ∀ k, k < 0 → parseFieldDescriptor (TJ6 k).2.2.1 = some (tyJ6 k) := by decide +kernel
abbrev cJ6_numberOfTrailingZeros_0f7a4 : ByteArray := prog_12_method_48_code
def yJ6_numberOfTrailingZeros_0f7a4 : MethodName := ⟨RJ6, "numberOfTrailingZeros", "(I)I"⟩
abbrev cJ6_bitCount_0f7a4 : ByteArray := prog_12_method_49_code
def yJ6_bitCount_0f7a4 : MethodName := ⟨RJ6, "bitCount", "(I)I"⟩
def RJ0 : String := "java/lang/String"
def TJ0 : u_T := fun k => match k with
  | _ => ("", "", "", false)
def tyJ0 : Nat → FieldType := fun k => match k with
  | _ => .int
abbrev wsJ00 : List Cond := u_ws RJ0 TJ0 0
theorem nmJ0 : ∀ a, a < 0 → ∀ b, b < 0 → a ≠ b → (TJ0 a).2.1 ≠ (TJ0 b).2.1 := by decide +kernel
theorem tyJ0_ok : ∀ k, k < 0 → parseFieldDescriptor (TJ0 k).2.2.1 = some (tyJ0 k) := by decide +kernel
abbrev cJ0_length_8abf5 : ByteArray := prog_13_method_54_code
def yJ0_length_8abf5 : MethodName := ⟨RJ0, "length", "()I"⟩
abbrev cJ0_charAt_5068e : ByteArray := prog_13_method_56_code
def yJ0_charAt_5068e : MethodName := ⟨RJ0, "charAt", "(I)C"⟩
abbrev cJ0_coder_7d493 : ByteArray := prog_13_method_152_code
def yJ0_coder_7d493 : MethodName := ⟨RJ0, "coder", "()B"⟩
abbrev cJ0_isLatin1_aae02 : ByteArray := prog_13_method_154_code
def yJ0_isLatin1_aae02 : MethodName := ⟨RJ0, "isLatin1", "()Z"⟩
abbrev cJ0_checkIndex_df160 : ByteArray := prog_13_method_155_code
def yJ0_checkIndex_df160 : MethodName := ⟨RJ0, "checkIndex", "(II)V"⟩
def RJ1 : String := "java/lang/StringLatin1"
def TJ1 : u_T := fun k => match k with
  | _ => ("", "", "", false)
def tyJ1 : Nat → FieldType := fun k => match k with
  | _ => .int
abbrev wsJ10 : List Cond := u_ws RJ1 TJ1 0
theorem nmJ1 : ∀ a, a < 0 → ∀ b, b < 0 → a ≠ b → (TJ1 a).2.1 ≠ (TJ1 b).2.1 := by decide +kernel
theorem tyJ1_ok : ∀ k, k < 0 → parseFieldDescriptor (TJ1 k).2.2.1 = some (tyJ1 k) := by decide +kernel
abbrev cJ1_charAt_3b067 : ByteArray := prog_14_method_2_code
def yJ1_charAt_3b067 : MethodName := ⟨RJ1, "charAt", "([BI)C"⟩
def RJ2 : String := "java/lang/StringUTF16"
def TJ2 : u_T := fun k => match k with
  | _ => ("", "", "", false)
def tyJ2 : Nat → FieldType := fun k => match k with
  | _ => .int
abbrev wsJ20 : List Cond := u_ws RJ2 TJ2 0
theorem nmJ2 : ∀ a, a < 0 → ∀ b, b < 0 → a ≠ b → (TJ2 a).2.1 ≠ (TJ2 b).2.1 := by decide +kernel
theorem tyJ2_ok : ∀ k, k < 0 → parseFieldDescriptor (TJ2 k).2.2.1 = some (tyJ2 k) := by decide +kernel
abbrev cJ2_getChar_3b067 : ByteArray := prog_15_method_5_code
def yJ2_getChar_3b067 : MethodName := ⟨RJ2, "getChar", "([BI)C"⟩
abbrev cJ2_length_9d52b : ByteArray := prog_15_method_6_code
def yJ2_length_9d52b : MethodName := ⟨RJ2, "length", "([B)I"⟩
abbrev cJ2_charAt_3b067 : ByteArray := prog_15_method_83_code
def yJ2_charAt_3b067 : MethodName := ⟨RJ2, "charAt", "([BI)C"⟩
abbrev cJ2_checkIndex_2214a : ByteArray := prog_15_method_91_code
def yJ2_checkIndex_2214a : MethodName := ⟨RJ2, "checkIndex", "(I[B)V"⟩
def RJ3 : String := "jdk/internal/util/Preconditions"
def TJ3 : u_T := fun k => match k with
  | _ => ("", "", "", false)
def tyJ3 : Nat → FieldType := fun k => match k with
  | _ => .int
abbrev wsJ30 : List Cond := u_ws RJ3 TJ3 0
theorem nmJ3 : ∀ a, a < 0 → ∀ b, b < 0 → a ≠ b → (TJ3 a).2.1 ≠ (TJ3 b).2.1 := by decide +kernel
theorem tyJ3_ok : ∀ k, k < 0 → parseFieldDescriptor (TJ3 k).2.2.1 = some (tyJ3 k) := by decide +kernel
abbrev cJ3_checkIndex_8e157 : ByteArray := prog_16_method_11_code
def yJ3_checkIndex_8e157 : MethodName := ⟨RJ3, "checkIndex", "(IILjava/util/function/BiFunction;)I"⟩
def RL : String := "FloorOfProofsLaw"
abbrev cL_law : ByteArray := code
def yL_law : MethodName := ⟨RL, "law", "([I)Z"⟩
abbrev vwCl : List vw_C := [(RX1, TX1, 11), (RX2, TX2, 3), (RX3, TX3, 2), (RX4, TX4, 2), (RX6, TX6, 2), (RX7, TX7, 2), (RX8, TX8, 12), (RX9, TX9, 13)]

/-- the words that may be handed on: all of the tables' but those of nest mates and texts -/
def WA : List Cond := lw_tbl.filter goodWord
theorem wa_in {w : Cond} (h : w ∈ lw_tbl) (g : goodWord w = true) : w ∈ WA := List.mem_filter.mpr ⟨h, g⟩
theorem wa_t {i : Nat} {w : Cond} (h : tables_1[i]? = some w) (g : goodWord w = true) : w ∈ WA := wa_in (List.mem_append_right _ (List.mem_of_getElem? h)) g
theorem wa_s {i : Nat} {w : Cond} (h : (k2_sels lw_privs)[i]? = some w) (g : goodWord w = true) : w ∈ WA := wa_in (List.mem_append_left _ (List.mem_of_getElem? h)) g
theorem wa_tbl : ∀ w ∈ WA, w ∈ lw_tbl := fun _ h => (List.mem_filter.mp h).1
theorem wa_good : ∀ w ∈ WA, goodWord w = true := fun _ h => (List.mem_filter.mp h).2
end
section
theorem wt0 : Cond.initialized RL ∈ WA := wa_t (i := 0) (by decide +kernel) rfl
theorem wt1 : Cond.initialized RX8 ∈ WA := wa_t (i := 1) (by decide +kernel) rfl
theorem wt2 : Cond.initialized RX6 ∈ WA := wa_t (i := 2) (by decide +kernel) rfl
theorem wt3 : Cond.initialized RX4 ∈ WA := wa_t (i := 3) (by decide +kernel) rfl
theorem wt4 : Cond.initialized RX1 ∈ WA := wa_t (i := 4) (by decide +kernel) rfl
theorem wt5 : Cond.initialized RX2 ∈ WA := wa_t (i := 5) (by decide +kernel) rfl
theorem wt6 : Cond.initialized RX7 ∈ WA := wa_t (i := 6) (by decide +kernel) rfl
theorem wt7 : Cond.initialized RX3 ∈ WA := wa_t (i := 7) (by decide +kernel) rfl
theorem wt8 : Cond.initialized RJ0 ∈ WA := wa_t (i := 8) (by decide +kernel) rfl
theorem wt9 : Cond.initialized RJ1 ∈ WA := wa_t (i := 9) (by decide +kernel) rfl
theorem wt10 : Cond.initialized RJ3 ∈ WA := wa_t (i := 10) (by decide +kernel) rfl
theorem wt11 : Cond.initialized RJ2 ∈ WA := wa_t (i := 11) (by decide +kernel) rfl
theorem wt12 : Cond.initialized RX9 ∈ WA := wa_t (i := 12) (by decide +kernel) rfl
theorem wt13 : Cond.initialized RJ6 ∈ WA := wa_t (i := 13) (by decide +kernel) rfl
theorem wt14 : Cond.initialized RX0 ∈ WA := wa_t (i := 14) (by decide +kernel) rfl
theorem wt15 : Cond.initialized RX5 ∈ WA := wa_t (i := 15) (by decide +kernel) rfl
theorem wt16 : Cond.classLink RL 7 RX8 ∈ WA := wa_t (i := 16) (by decide +kernel) rfl
theorem wt17 : Cond.instantiable RX8 12 ∈ WA := wa_t (i := 17) (by decide +kernel) rfl
theorem wt18 : Cond.methodLink RL 9 yX8_init ∈ WA := wa_t (i := 18) (by decide +kernel) rfl
theorem wt19 : Cond.instanceMethod yX8_init ∈ WA := wa_t (i := 19) (by decide +kernel) rfl
theorem wt20 : Cond.code yX8_init prog_1_method_1_code 1 (none : Option Jvm.ClassFile.FieldType) ∈ WA := wa_t (i := 20) (by decide +kernel) rfl
theorem wt21 : Cond.methodLink RX8 3 Jvm.Lib.objectInit ∈ WA := wa_t (i := 21) (by decide +kernel) rfl
theorem wt22 : Cond.instanceMethod Jvm.Lib.objectInit ∈ WA := wa_t (i := 22) (by decide +kernel) rfl
theorem wt23 : Cond.code Jvm.Lib.objectInit object_method_1_code 1 (none : Option Jvm.ClassFile.FieldType) ∈ WA := wa_t (i := 23) (by decide +kernel) rfl
theorem wt24 : Cond.classLink RX8 9 RX6 ∈ WA := wa_t (i := 24) (by decide +kernel) rfl
theorem wt25 : Cond.instantiable RX6 2 ∈ WA := wa_t (i := 25) (by decide +kernel) rfl
theorem wt27 : Cond.instanceMethod yX6_init ∈ WA := wa_t (i := 27) (by decide +kernel) rfl
theorem wt28 : Cond.code yX6_init prog_8_method_1_code 1 (none : Option Jvm.ClassFile.FieldType) ∈ WA := wa_t (i := 28) (by decide +kernel) rfl
theorem wt29 : Cond.methodLink RX6 3 Jvm.Lib.objectInit ∈ WA := wa_t (i := 29) (by decide +kernel) rfl
theorem wt30 : Cond.fieldLink "FloorOfProofs$Text" 9 "FloorOfProofs$Text" "bytes" "[I" ∈ WA := wa_t (i := 30) (by decide +kernel) rfl
theorem wt31 : Cond.fieldLink "FloorOfProofs$Text" 15 "FloorOfProofs$Text" "size" "I" ∈ WA := wa_t (i := 31) (by decide +kernel) rfl
theorem wt37 : Cond.arrayClass .int ∈ WA := wa_t (i := 37) (by decide +kernel) rfl
theorem wt38 : Cond.classLink RX8 16 RX4 ∈ WA := wa_t (i := 38) (by decide +kernel) rfl
theorem wt39 : Cond.instantiable RX4 2 ∈ WA := wa_t (i := 39) (by decide +kernel) rfl
theorem wt41 : Cond.instanceMethod yX4_init ∈ WA := wa_t (i := 41) (by decide +kernel) rfl
theorem wt42 : Cond.code yX4_init prog_6_method_1_code 1 (none : Option Jvm.ClassFile.FieldType) ∈ WA := wa_t (i := 42) (by decide +kernel) rfl
theorem wt43 : Cond.methodLink RX4 3 Jvm.Lib.objectInit ∈ WA := wa_t (i := 43) (by decide +kernel) rfl
theorem wt44 : Cond.fieldLink "FloorOfProofs$Reader" 11 "FloorOfProofs$Reader" "numbers" "[I" ∈ WA := wa_t (i := 44) (by decide +kernel) rfl
theorem wt45 : Cond.fieldLink "FloorOfProofs$Reader" 20 "FloorOfProofs$Reader" "onlyStonesTold" "Z" ∈ WA := wa_t (i := 45) (by decide +kernel) rfl
theorem wt51 : Cond.classLink RX8 23 RX1 ∈ WA := wa_t (i := 51) (by decide +kernel) rfl
theorem wt52 : Cond.instantiable RX1 11 ∈ WA := wa_t (i := 52) (by decide +kernel) rfl
theorem wt54 : Cond.instanceMethod yX1_init ∈ WA := wa_t (i := 54) (by decide +kernel) rfl
theorem wt55 : Cond.code yX1_init prog_3_method_1_code 1 (none : Option Jvm.ClassFile.FieldType) ∈ WA := wa_t (i := 55) (by decide +kernel) rfl
theorem wt56 : Cond.methodLink RX1 3 Jvm.Lib.objectInit ∈ WA := wa_t (i := 56) (by decide +kernel) rfl
theorem wt57 : Cond.fieldLink "FloorOfProofs$Floor" 9 "FloorOfProofs$Floor" "firsts" "[I" ∈ WA := wa_t (i := 57) (by decide +kernel) rfl
theorem wt58 : Cond.fieldLink "FloorOfProofs$Floor" 15 "FloorOfProofs$Floor" "seconds" "[I" ∈ WA := wa_t (i := 58) (by decide +kernel) rfl
theorem wt59 : Cond.fieldLink "FloorOfProofs$Floor" 18 "FloorOfProofs$Floor" "ends" "[I" ∈ WA := wa_t (i := 59) (by decide +kernel) rfl
theorem wt60 : Cond.fieldLink "FloorOfProofs$Floor" 21 "FloorOfProofs$Floor" "origins" "[I" ∈ WA := wa_t (i := 60) (by decide +kernel) rfl
theorem wt61 : Cond.fieldLink "FloorOfProofs$Floor" 24 "FloorOfProofs$Floor" "gainsayers" "[I" ∈ WA := wa_t (i := 61) (by decide +kernel) rfl
theorem wt62 : Cond.fieldLink "FloorOfProofs$Floor" 27 "FloorOfProofs$Floor" "wear" "[I" ∈ WA := wa_t (i := 62) (by decide +kernel) rfl
theorem wt63 : Cond.fieldLink "FloorOfProofs$Floor" 52 "FloorOfProofs$Floor" "stoneCount" "I" ∈ WA := wa_t (i := 63) (by decide +kernel) rfl
theorem wt64 : Cond.fieldLink "FloorOfProofs$Floor" 34 "FloorOfProofs$Floor" "stepCount" "I" ∈ WA := wa_t (i := 64) (by decide +kernel) rfl
theorem wt65 : Cond.fieldLink "FloorOfProofs$Floor" 38 "FloorOfProofs$Floor" "begins" "I" ∈ WA := wa_t (i := 65) (by decide +kernel) rfl
theorem wt66 : Cond.fieldLink "FloorOfProofs$Floor" 55 "FloorOfProofs$Floor" "there" "I" ∈ WA := wa_t (i := 66) (by decide +kernel) rfl
theorem wt67 : Cond.fieldLink "FloorOfProofs$Floor" 41 "FloorOfProofs$Floor" "stood" "I" ∈ WA := wa_t (i := 67) (by decide +kernel) rfl
theorem wt91 : Cond.classLink RX8 39 RX2 ∈ WA := wa_t (i := 91) (by decide +kernel) rfl
theorem wt92 : Cond.instantiable RX2 3 ∈ WA := wa_t (i := 92) (by decide +kernel) rfl
theorem wt94 : Cond.instanceMethod yX2_init ∈ WA := wa_t (i := 94) (by decide +kernel) rfl
theorem wt95 : Cond.code yX2_init prog_4_method_1_code 1 (none : Option Jvm.ClassFile.FieldType) ∈ WA := wa_t (i := 95) (by decide +kernel) rfl
theorem wt96 : Cond.methodLink RX2 3 Jvm.Lib.objectInit ∈ WA := wa_t (i := 96) (by decide +kernel) rfl
theorem wt97 : Cond.fieldLink "FloorOfProofs$Past" 9 "FloorOfProofs$Past" "kinds" "[I" ∈ WA := wa_t (i := 97) (by decide +kernel) rfl
theorem wt98 : Cond.fieldLink "FloorOfProofs$Past" 15 "FloorOfProofs$Past" "stones" "[I" ∈ WA := wa_t (i := 98) (by decide +kernel) rfl
theorem wt99 : Cond.fieldLink "FloorOfProofs$Past" 18 "FloorOfProofs$Past" "size" "I" ∈ WA := wa_t (i := 99) (by decide +kernel) rfl
theorem wt107 : Cond.classLink RX8 46 RX7 ∈ WA := wa_t (i := 107) (by decide +kernel) rfl
theorem wt108 : Cond.instantiable RX7 2 ∈ WA := wa_t (i := 108) (by decide +kernel) rfl
theorem wt110 : Cond.instanceMethod yX7_init ∈ WA := wa_t (i := 110) (by decide +kernel) rfl
theorem wt111 : Cond.code yX7_init prog_9_method_1_code 1 (none : Option Jvm.ClassFile.FieldType) ∈ WA := wa_t (i := 111) (by decide +kernel) rfl
theorem wt112 : Cond.methodLink RX7 3 Jvm.Lib.objectInit ∈ WA := wa_t (i := 112) (by decide +kernel) rfl
theorem wt113 : Cond.fieldLink "FloorOfProofs$Walks" 9 "FloorOfProofs$Walks" "fewest" "[I" ∈ WA := wa_t (i := 113) (by decide +kernel) rfl
theorem wt114 : Cond.fieldLink "FloorOfProofs$Walks" 15 "FloorOfProofs$Walks" "rows" "[I" ∈ WA := wa_t (i := 114) (by decide +kernel) rfl
theorem wt120 : Cond.classLink RX8 53 RX3 ∈ WA := wa_t (i := 120) (by decide +kernel) rfl
theorem wt121 : Cond.instantiable RX3 2 ∈ WA := wa_t (i := 121) (by decide +kernel) rfl
theorem wt123 : Cond.instanceMethod yX3_init ∈ WA := wa_t (i := 123) (by decide +kernel) rfl
theorem wt124 : Cond.code yX3_init prog_5_method_1_code 1 (none : Option Jvm.ClassFile.FieldType) ∈ WA := wa_t (i := 124) (by decide +kernel) rfl
theorem wt125 : Cond.methodLink RX3 3 Jvm.Lib.objectInit ∈ WA := wa_t (i := 125) (by decide +kernel) rfl
theorem wt126 : Cond.fieldLink "FloorOfProofs$ProofRows" 9 "FloorOfProofs$ProofRows" "reaches" "[I" ∈ WA := wa_t (i := 126) (by decide +kernel) rfl
theorem wt127 : Cond.fieldLink "FloorOfProofs$ProofRows" 21 "FloorOfProofs$ProofRows" "sets" "I" ∈ WA := wa_t (i := 127) (by decide +kernel) rfl
theorem wt134 : Cond.methodLink RX8 66 yX6_addSigns ∈ WA := wa_t (i := 134) (by decide +kernel) rfl
theorem wt135 : Cond.instanceMethod yX6_addSigns ∈ WA := wa_t (i := 135) (by decide +kernel) rfl
theorem wt136 : Cond.selects RX6 yX6_addSigns yX6_addSigns ∈ WA := wa_t (i := 136) (by decide +kernel) rfl
theorem wt137 : Cond.code yX6_addSigns prog_8_method_5_code 3 (none : Option Jvm.ClassFile.FieldType) ∈ WA := wa_t (i := 137) (by decide +kernel) rfl
theorem wt138 : Cond.methodLink RX6 23 yJ0_length_8abf5 ∈ WA := wa_t (i := 138) (by decide +kernel) rfl
theorem wt139 : Cond.instanceMethod yJ0_length_8abf5 ∈ WA := wa_t (i := 139) (by decide +kernel) rfl
theorem wt140 : Cond.selects RJ0 yJ0_length_8abf5 yJ0_length_8abf5 ∈ WA := wa_t (i := 140) (by decide +kernel) rfl
theorem wt141 : Cond.code yJ0_length_8abf5 prog_13_method_54_code 1 (some .int) ∈ WA := wa_t (i := 141) (by decide +kernel) rfl
theorem wt142 : Cond.methodLink RJ0 335 yJ0_coder_7d493 ∈ WA := wa_t (i := 142) (by decide +kernel) rfl
theorem wt143 : Cond.instanceMethod yJ0_coder_7d493 ∈ WA := wa_t (i := 143) (by decide +kernel) rfl
theorem wt144 : Cond.selects RJ0 yJ0_coder_7d493 yJ0_coder_7d493 ∈ WA := wa_t (i := 144) (by decide +kernel) rfl
theorem wt145 : Cond.code yJ0_coder_7d493 prog_13_method_152_code 1 (some .byte) ∈ WA := wa_t (i := 145) (by decide +kernel) rfl
theorem wt146 : Cond.fieldLink "java/lang/String" 38 "java/lang/String" "COMPACT_STRINGS" "Z" ∈ WA := wa_t (i := 146) (by decide +kernel) rfl
theorem wt148 : Cond.methodLink RX6 29 yJ0_charAt_5068e ∈ WA := wa_t (i := 148) (by decide +kernel) rfl
theorem wt149 : Cond.instanceMethod yJ0_charAt_5068e ∈ WA := wa_t (i := 149) (by decide +kernel) rfl
theorem wt150 : Cond.selects RJ0 yJ0_charAt_5068e yJ0_charAt_5068e ∈ WA := wa_t (i := 150) (by decide +kernel) rfl
theorem wt151 : Cond.code yJ0_charAt_5068e prog_13_method_56_code 2 (some .char) ∈ WA := wa_t (i := 151) (by decide +kernel) rfl
theorem wt152 : Cond.methodLink RJ0 492 yJ0_isLatin1_aae02 ∈ WA := wa_t (i := 152) (by decide +kernel) rfl
theorem wt153 : Cond.instanceMethod yJ0_isLatin1_aae02 ∈ WA := wa_t (i := 153) (by decide +kernel) rfl
theorem wt154 : Cond.selects RJ0 yJ0_isLatin1_aae02 yJ0_isLatin1_aae02 ∈ WA := wa_t (i := 154) (by decide +kernel) rfl
theorem wt155 : Cond.code yJ0_isLatin1_aae02 prog_13_method_154_code 1 (some .boolean) ∈ WA := wa_t (i := 155) (by decide +kernel) rfl
theorem wt156 : Cond.methodLink RJ0 495 yJ1_charAt_3b067 ∈ WA := wa_t (i := 156) (by decide +kernel) rfl
theorem wt157 : Cond.static yJ1_charAt_3b067 ∈ WA := wa_t (i := 157) (by decide +kernel) rfl
theorem wt158 : Cond.code yJ1_charAt_3b067 prog_14_method_2_code 2 (some .char) ∈ WA := wa_t (i := 158) (by decide +kernel) rfl
theorem wt159 : Cond.methodLink RJ1 9 yJ0_checkIndex_df160 ∈ WA := wa_t (i := 159) (by decide +kernel) rfl
theorem wt160 : Cond.static yJ0_checkIndex_df160 ∈ WA := wa_t (i := 160) (by decide +kernel) rfl
theorem wt161 : Cond.code yJ0_checkIndex_df160 prog_13_method_155_code 2 (none : Option Jvm.ClassFile.FieldType) ∈ WA := wa_t (i := 161) (by decide +kernel) rfl
theorem wt162 : Cond.fieldLink "java/lang/String" 1053 "jdk/internal/util/Preconditions" "SIOOBE_FORMATTER" "Ljava/util/function/BiFunction;" ∈ WA := wa_t (i := 162) (by decide +kernel) rfl
theorem wt164 : Cond.methodLink RJ0 1059 yJ3_checkIndex_8e157 ∈ WA := wa_t (i := 164) (by decide +kernel) rfl
theorem wt165 : Cond.static yJ3_checkIndex_8e157 ∈ WA := wa_t (i := 165) (by decide +kernel) rfl
theorem wt166 : Cond.code yJ3_checkIndex_8e157 prog_16_method_11_code 3 (some .int) ∈ WA := wa_t (i := 166) (by decide +kernel) rfl
theorem wt167 : Cond.methodLink RJ0 498 yJ2_charAt_3b067 ∈ WA := wa_t (i := 167) (by decide +kernel) rfl
theorem wt168 : Cond.static yJ2_charAt_3b067 ∈ WA := wa_t (i := 168) (by decide +kernel) rfl
theorem wt169 : Cond.code yJ2_charAt_3b067 prog_15_method_83_code 2 (some .char) ∈ WA := wa_t (i := 169) (by decide +kernel) rfl
theorem wt170 : Cond.methodLink RJ2 67 yJ2_checkIndex_2214a ∈ WA := wa_t (i := 170) (by decide +kernel) rfl
theorem wt171 : Cond.static yJ2_checkIndex_2214a ∈ WA := wa_t (i := 171) (by decide +kernel) rfl
theorem wt172 : Cond.code yJ2_checkIndex_2214a prog_15_method_91_code 2 (none : Option Jvm.ClassFile.FieldType) ∈ WA := wa_t (i := 172) (by decide +kernel) rfl
theorem wt173 : Cond.methodLink RJ2 48 yJ2_length_9d52b ∈ WA := wa_t (i := 173) (by decide +kernel) rfl
theorem wt174 : Cond.static yJ2_length_9d52b ∈ WA := wa_t (i := 174) (by decide +kernel) rfl
theorem wt175 : Cond.code yJ2_length_9d52b prog_15_method_6_code 1 (some .int) ∈ WA := wa_t (i := 175) (by decide +kernel) rfl
theorem wt176 : Cond.methodLink RJ2 414 yJ0_checkIndex_df160 ∈ WA := wa_t (i := 176) (by decide +kernel) rfl
theorem wt177 : Cond.methodLink RJ2 71 yJ2_getChar_3b067 ∈ WA := wa_t (i := 177) (by decide +kernel) rfl
theorem wt178 : Cond.static yJ2_getChar_3b067 ∈ WA := wa_t (i := 178) (by decide +kernel) rfl
theorem wt179 : Cond.code yJ2_getChar_3b067 prog_15_method_5_code 2 (some .char) ∈ WA := wa_t (i := 179) (by decide +kernel) rfl
theorem wt180 : Cond.fieldLink "java/lang/StringUTF16" 44 "java/lang/StringUTF16" "$assertionsDisabled" "Z" ∈ WA := wa_t (i := 180) (by decide +kernel) rfl
theorem wt182 : Cond.fieldLink "java/lang/StringUTF16" 59 "java/lang/StringUTF16" "HI_BYTE_SHIFT" "I" ∈ WA := wa_t (i := 182) (by decide +kernel) rfl
theorem wt184 : Cond.fieldLink "java/lang/StringUTF16" 63 "java/lang/StringUTF16" "LO_BYTE_SHIFT" "I" ∈ WA := wa_t (i := 184) (by decide +kernel) rfl
theorem wt186 : Cond.methodLink RX6 33 yX6_addByte ∈ WA := wa_t (i := 186) (by decide +kernel) rfl
theorem wt187 : Cond.instanceMethod yX6_addByte ∈ WA := wa_t (i := 187) (by decide +kernel) rfl
theorem wt188 : Cond.selects RX6 yX6_addByte yX6_addByte ∈ WA := wa_t (i := 188) (by decide +kernel) rfl
theorem wt189 : Cond.code yX6_addByte prog_8_method_4_code 2 (none : Option Jvm.ClassFile.FieldType) ∈ WA := wa_t (i := 189) (by decide +kernel) rfl
theorem wt191 : Cond.static yX8_put ∈ WA := wa_t (i := 191) (by decide +kernel) rfl
theorem wt192 : Cond.code yX8_put prog_1_method_42_code 3 (none : Option Jvm.ClassFile.FieldType) ∈ WA := wa_t (i := 192) (by decide +kernel) rfl
theorem wt193 : Cond.methodLink RX8 70 yX4_readOnto ∈ WA := wa_t (i := 193) (by decide +kernel) rfl
theorem wt194 : Cond.instanceMethod yX4_readOnto ∈ WA := wa_t (i := 194) (by decide +kernel) rfl
theorem wt195 : Cond.selects RX4 yX4_readOnto yX4_readOnto ∈ WA := wa_t (i := 195) (by decide +kernel) rfl
theorem wt196 : Cond.code yX4_readOnto prog_6_method_2_code 6 (some .int) ∈ WA := wa_t (i := 196) (by decide +kernel) rfl
theorem wt197 : Cond.methodLink RX4 15 yX1_empty ∈ WA := wa_t (i := 197) (by decide +kernel) rfl
theorem wt198 : Cond.instanceMethod yX1_empty ∈ WA := wa_t (i := 198) (by decide +kernel) rfl
theorem wt199 : Cond.selects RX1 yX1_empty yX1_empty ∈ WA := wa_t (i := 199) (by decide +kernel) rfl
theorem wt200 : Cond.code yX1_empty prog_3_method_2_code 1 (none : Option Jvm.ClassFile.FieldType) ∈ WA := wa_t (i := 200) (by decide +kernel) rfl
theorem wt202 : Cond.static yX8_clearRow ∈ WA := wa_t (i := 202) (by decide +kernel) rfl
theorem wt203 : Cond.code yX8_clearRow prog_1_method_44_code 2 (none : Option Jvm.ClassFile.FieldType) ∈ WA := wa_t (i := 203) (by decide +kernel) rfl
theorem wt204 : Cond.methodLink RX1 44 yX1_setStones ∈ WA := wa_t (i := 204) (by decide +kernel) rfl
theorem wt205 : Cond.instanceMethod yX1_setStones ∈ WA := wa_t (i := 205) (by decide +kernel) rfl
theorem wt206 : Cond.selects RX1 yX1_setStones yX1_setStones ∈ WA := wa_t (i := 206) (by decide +kernel) rfl
theorem wt207 : Cond.code yX1_setStones prog_3_method_4_code 2 (some .boolean) ∈ WA := wa_t (i := 207) (by decide +kernel) rfl
theorem wt208 : Cond.methodLink RX1 58 yX1_allStones ∈ WA := wa_t (i := 208) (by decide +kernel) rfl
theorem wt209 : Cond.instanceMethod yX1_allStones ∈ WA := wa_t (i := 209) (by decide +kernel) rfl
theorem wt210 : Cond.selects RX1 yX1_allStones yX1_allStones ∈ WA := wa_t (i := 210) (by decide +kernel) rfl
theorem wt211 : Cond.code yX1_allStones prog_3_method_17_code 1 (some .int) ∈ WA := wa_t (i := 211) (by decide +kernel) rfl
theorem wt212 : Cond.methodLink RX4 24 yX6_size ∈ WA := wa_t (i := 212) (by decide +kernel) rfl
theorem wt213 : Cond.instanceMethod yX6_size ∈ WA := wa_t (i := 213) (by decide +kernel) rfl
theorem wt214 : Cond.selects RX6 yX6_size yX6_size ∈ WA := wa_t (i := 214) (by decide +kernel) rfl
theorem wt215 : Cond.code yX6_size prog_8_method_2_code 1 (some .int) ∈ WA := wa_t (i := 215) (by decide +kernel) rfl
theorem wt216 : Cond.methodLink RX4 30 yX4_itemsEnd ∈ WA := wa_t (i := 216) (by decide +kernel) rfl
theorem wt218 : Cond.instanceMethod yX4_itemsEnd ∈ WA := wa_t (i := 218) (by decide +kernel) rfl
theorem wt219 : Cond.code yX4_itemsEnd prog_6_method_4_code 8 (some .int) ∈ WA := wa_t (i := 219) (by decide +kernel) rfl
theorem wt220 : Cond.methodLink RX4 34 yX6_byteAt ∈ WA := wa_t (i := 220) (by decide +kernel) rfl
theorem wt221 : Cond.instanceMethod yX6_byteAt ∈ WA := wa_t (i := 221) (by decide +kernel) rfl
theorem wt222 : Cond.selects RX6 yX6_byteAt yX6_byteAt ∈ WA := wa_t (i := 222) (by decide +kernel) rfl
theorem wt223 : Cond.code yX6_byteAt prog_8_method_6_code 2 (some .int) ∈ WA := wa_t (i := 223) (by decide +kernel) rfl
theorem wt225 : Cond.static yX8_at ∈ WA := wa_t (i := 225) (by decide +kernel) rfl
theorem wt226 : Cond.code yX8_at prog_1_method_41_code 2 (some .int) ∈ WA := wa_t (i := 226) (by decide +kernel) rfl
theorem wt227 : Cond.methodLink RX4 45 yX4_numbersOf ∈ WA := wa_t (i := 227) (by decide +kernel) rfl
theorem wt228 : Cond.static yX4_numbersOf ∈ WA := wa_t (i := 228) (by decide +kernel) rfl
theorem wt229 : Cond.code yX4_numbersOf prog_6_method_3_code 1 (some .int) ∈ WA := wa_t (i := 229) (by decide +kernel) rfl
theorem wt230 : Cond.methodLink RX4 48 yX4_figuresAt ∈ WA := wa_t (i := 230) (by decide +kernel) rfl
theorem wt231 : Cond.static yX4_figuresAt ∈ WA := wa_t (i := 231) (by decide +kernel) rfl
theorem wt232 : Cond.code yX4_figuresAt prog_6_method_6_code 2 (some .int) ∈ WA := wa_t (i := 232) (by decide +kernel) rfl
theorem wt233 : Cond.methodLink RX4 59 yX4_isFigure ∈ WA := wa_t (i := 233) (by decide +kernel) rfl
theorem wt234 : Cond.static yX4_isFigure ∈ WA := wa_t (i := 234) (by decide +kernel) rfl
theorem wt235 : Cond.code yX4_isFigure prog_6_method_5_code 1 (some .boolean) ∈ WA := wa_t (i := 235) (by decide +kernel) rfl
theorem wt236 : Cond.methodLink RX4 51 yX4_numberAt ∈ WA := wa_t (i := 236) (by decide +kernel) rfl
theorem wt237 : Cond.static yX4_numberAt ∈ WA := wa_t (i := 237) (by decide +kernel) rfl
theorem wt238 : Cond.code yX4_numberAt prog_6_method_7_code 5 (some .int) ∈ WA := wa_t (i := 238) (by decide +kernel) rfl
theorem wt240 : Cond.methodLink RX4 38 yX4_takeItem ∈ WA := wa_t (i := 240) (by decide +kernel) rfl
theorem wt242 : Cond.instanceMethod yX4_takeItem ∈ WA := wa_t (i := 242) (by decide +kernel) rfl
theorem wt243 : Cond.code yX4_takeItem prog_6_method_8_code 5 (some .boolean) ∈ WA := wa_t (i := 243) (by decide +kernel) rfl
theorem wt245 : Cond.methodLink RX4 67 yX1_setStones ∈ WA := wa_t (i := 245) (by decide +kernel) rfl
theorem wt246 : Cond.methodLink RX4 70 yX1_beginOn ∈ WA := wa_t (i := 246) (by decide +kernel) rfl
theorem wt247 : Cond.instanceMethod yX1_beginOn ∈ WA := wa_t (i := 247) (by decide +kernel) rfl
theorem wt248 : Cond.selects RX1 yX1_beginOn yX1_beginOn ∈ WA := wa_t (i := 248) (by decide +kernel) rfl
theorem wt249 : Cond.code yX1_beginOn prog_3_method_5_code 2 (some .boolean) ∈ WA := wa_t (i := 249) (by decide +kernel) rfl
theorem wt250 : Cond.methodLink RX1 62 yX1_hasStone ∈ WA := wa_t (i := 250) (by decide +kernel) rfl
theorem wt251 : Cond.instanceMethod yX1_hasStone ∈ WA := wa_t (i := 251) (by decide +kernel) rfl
theorem wt252 : Cond.selects RX1 yX1_hasStone yX1_hasStone ∈ WA := wa_t (i := 252) (by decide +kernel) rfl
theorem wt253 : Cond.code yX1_hasStone prog_3_method_18_code 2 (some .boolean) ∈ WA := wa_t (i := 253) (by decide +kernel) rfl
theorem wt254 : Cond.methodLink RX4 73 yX1_addStep ∈ WA := wa_t (i := 254) (by decide +kernel) rfl
theorem wt255 : Cond.instanceMethod yX1_addStep ∈ WA := wa_t (i := 255) (by decide +kernel) rfl
theorem wt256 : Cond.selects RX1 yX1_addStep yX1_addStep ∈ WA := wa_t (i := 256) (by decide +kernel) rfl
theorem wt257 : Cond.code yX1_addStep prog_3_method_8_code 4 (some .boolean) ∈ WA := wa_t (i := 257) (by decide +kernel) rfl
theorem wt258 : Cond.methodLink RX1 68 yX1_couldBeStep ∈ WA := wa_t (i := 258) (by decide +kernel) rfl
theorem wt259 : Cond.instanceMethod yX1_couldBeStep ∈ WA := wa_t (i := 259) (by decide +kernel) rfl
theorem wt260 : Cond.selects RX1 yX1_couldBeStep yX1_couldBeStep ∈ WA := wa_t (i := 260) (by decide +kernel) rfl
theorem wt261 : Cond.code yX1_couldBeStep prog_3_method_7_code 4 (some .boolean) ∈ WA := wa_t (i := 261) (by decide +kernel) rfl
theorem wt263 : Cond.methodLink RX4 77 yX1_setGainsay ∈ WA := wa_t (i := 263) (by decide +kernel) rfl
theorem wt264 : Cond.instanceMethod yX1_setGainsay ∈ WA := wa_t (i := 264) (by decide +kernel) rfl
theorem wt265 : Cond.selects RX1 yX1_setGainsay yX1_setGainsay ∈ WA := wa_t (i := 265) (by decide +kernel) rfl
theorem wt266 : Cond.code yX1_setGainsay prog_3_method_9_code 3 (some .boolean) ∈ WA := wa_t (i := 266) (by decide +kernel) rfl
theorem wt268 : Cond.methodLink RX4 81 yX1_setWear ∈ WA := wa_t (i := 268) (by decide +kernel) rfl
theorem wt269 : Cond.instanceMethod yX1_setWear ∈ WA := wa_t (i := 269) (by decide +kernel) rfl
theorem wt270 : Cond.selects RX1 yX1_setWear yX1_setWear ∈ WA := wa_t (i := 270) (by decide +kernel) rfl
theorem wt271 : Cond.code yX1_setWear prog_3_method_10_code 3 (some .boolean) ∈ WA := wa_t (i := 271) (by decide +kernel) rfl
theorem wt272 : Cond.methodLink RX4 42 yX1_standOnBeginnings ∈ WA := wa_t (i := 272) (by decide +kernel) rfl
theorem wt273 : Cond.instanceMethod yX1_standOnBeginnings ∈ WA := wa_t (i := 273) (by decide +kernel) rfl
theorem wt274 : Cond.selects RX1 yX1_standOnBeginnings yX1_standOnBeginnings ∈ WA := wa_t (i := 274) (by decide +kernel) rfl
theorem wt275 : Cond.code yX1_standOnBeginnings prog_3_method_6_code 1 (none : Option Jvm.ClassFile.FieldType) ∈ WA := wa_t (i := 275) (by decide +kernel) rfl
theorem wt276 : Cond.methodLink RX1 65 yX1_beginnings ∈ WA := wa_t (i := 276) (by decide +kernel) rfl
theorem wt277 : Cond.instanceMethod yX1_beginnings ∈ WA := wa_t (i := 277) (by decide +kernel) rfl
theorem wt278 : Cond.selects RX1 yX1_beginnings yX1_beginnings ∈ WA := wa_t (i := 278) (by decide +kernel) rfl
theorem wt279 : Cond.code yX1_beginnings prog_3_method_14_code 1 (some .int) ∈ WA := wa_t (i := 279) (by decide +kernel) rfl
theorem wt280 : Cond.methodLink RX8 74 yX6_clear ∈ WA := wa_t (i := 280) (by decide +kernel) rfl
theorem wt281 : Cond.instanceMethod yX6_clear ∈ WA := wa_t (i := 281) (by decide +kernel) rfl
theorem wt282 : Cond.selects RX6 yX6_clear yX6_clear ∈ WA := wa_t (i := 282) (by decide +kernel) rfl
theorem wt283 : Cond.code yX6_clear prog_8_method_3_code 1 (none : Option Jvm.ClassFile.FieldType) ∈ WA := wa_t (i := 283) (by decide +kernel) rfl
theorem wt284 : Cond.fieldLink "FloorOfProofs" 12 "FloorOfProofs" "text" "LFloorOfProofs$Text;" ∈ WA := wa_t (i := 284) (by decide +kernel) rfl
theorem wt285 : Cond.fieldLink "FloorOfProofs" 19 "FloorOfProofs" "reader" "LFloorOfProofs$Reader;" ∈ WA := wa_t (i := 285) (by decide +kernel) rfl
theorem wt286 : Cond.fieldLink "FloorOfProofs" 26 "FloorOfProofs" "draft" "LFloorOfProofs$Floor;" ∈ WA := wa_t (i := 286) (by decide +kernel) rfl
theorem wt287 : Cond.fieldLink "FloorOfProofs" 30 "FloorOfProofs" "floor" "LFloorOfProofs$Floor;" ∈ WA := wa_t (i := 287) (by decide +kernel) rfl
theorem wt288 : Cond.fieldLink "FloorOfProofs" 33 "FloorOfProofs" "keptFirst" "LFloorOfProofs$Floor;" ∈ WA := wa_t (i := 288) (by decide +kernel) rfl
theorem wt289 : Cond.fieldLink "FloorOfProofs" 36 "FloorOfProofs" "keptSecond" "LFloorOfProofs$Floor;" ∈ WA := wa_t (i := 289) (by decide +kernel) rfl
theorem wt290 : Cond.fieldLink "FloorOfProofs" 42 "FloorOfProofs" "past" "LFloorOfProofs$Past;" ∈ WA := wa_t (i := 290) (by decide +kernel) rfl
theorem wt291 : Cond.fieldLink "FloorOfProofs" 49 "FloorOfProofs" "walks" "LFloorOfProofs$Walks;" ∈ WA := wa_t (i := 291) (by decide +kernel) rfl
theorem wt292 : Cond.fieldLink "FloorOfProofs" 56 "FloorOfProofs" "proofRows" "LFloorOfProofs$ProofRows;" ∈ WA := wa_t (i := 292) (by decide +kernel) rfl
theorem wt293 : Cond.fieldLink "FloorOfProofs" 60 "FloorOfProofs" "told" "[I" ∈ WA := wa_t (i := 293) (by decide +kernel) rfl
theorem wt294 : Cond.fieldLink "FloorOfProofs" 176 "FloorOfProofs" "toldCount" "I" ∈ WA := wa_t (i := 294) (by decide +kernel) rfl
theorem wt295 : Cond.fieldLink "FloorOfProofs" 92 "FloorOfProofs" "keptCount" "I" ∈ WA := wa_t (i := 295) (by decide +kernel) rfl
theorem wt321 : Cond.arrayClass .byte ∈ WA := wa_t (i := 321) (by decide +kernel) rfl
theorem wt322 : Cond.methodLink RL 15 yX8_write ∈ WA := wa_t (i := 322) (by decide +kernel) rfl
theorem wt323 : Cond.instanceMethod yX8_write ∈ WA := wa_t (i := 323) (by decide +kernel) rfl
theorem wt324 : Cond.selects RX8 yX8_write yX8_write ∈ WA := wa_t (i := 324) (by decide +kernel) rfl
theorem wt325 : Cond.code yX8_write prog_1_method_2_code 5 (some .int) ∈ WA := wa_t (i := 325) (by decide +kernel) rfl
theorem wt326 : Cond.methodLink RX8 77 yX6_size ∈ WA := wa_t (i := 326) (by decide +kernel) rfl
theorem wt327 : Cond.methodLink RX8 81 yX6_addByte ∈ WA := wa_t (i := 327) (by decide +kernel) rfl
theorem wt328 : Cond.methodLink RL 20 yX8_wipe ∈ WA := wa_t (i := 328) (by decide +kernel) rfl
theorem wt329 : Cond.instanceMethod yX8_wipe ∈ WA := wa_t (i := 329) (by decide +kernel) rfl
theorem wt330 : Cond.selects RX8 yX8_wipe yX8_wipe ∈ WA := wa_t (i := 330) (by decide +kernel) rfl
theorem wt331 : Cond.code yX8_wipe prog_1_method_3_code 2 (some .int) ∈ WA := wa_t (i := 331) (by decide +kernel) rfl
theorem wt332 : Cond.methodLink RL 25 yX8_fault ∈ WA := wa_t (i := 332) (by decide +kernel) rfl
theorem wt333 : Cond.instanceMethod yX8_fault ∈ WA := wa_t (i := 333) (by decide +kernel) rfl
theorem wt334 : Cond.selects RX8 yX8_fault yX8_fault ∈ WA := wa_t (i := 334) (by decide +kernel) rfl
theorem wt335 : Cond.code yX8_fault prog_1_method_4_code 1 (some .int) ∈ WA := wa_t (i := 335) (by decide +kernel) rfl
theorem wt336 : Cond.methodLink RL 29 yX8_layFloor ∈ WA := wa_t (i := 336) (by decide +kernel) rfl
theorem wt337 : Cond.instanceMethod yX8_layFloor ∈ WA := wa_t (i := 337) (by decide +kernel) rfl
theorem wt338 : Cond.selects RX8 yX8_layFloor yX8_layFloor ∈ WA := wa_t (i := 338) (by decide +kernel) rfl
theorem wt339 : Cond.code yX8_layFloor prog_1_method_5_code 1 (some .int) ∈ WA := wa_t (i := 339) (by decide +kernel) rfl
theorem wt340 : Cond.methodLink RX8 85 yX1_stepCount ∈ WA := wa_t (i := 340) (by decide +kernel) rfl
theorem wt341 : Cond.instanceMethod yX1_stepCount ∈ WA := wa_t (i := 341) (by decide +kernel) rfl
theorem wt342 : Cond.selects RX1 yX1_stepCount yX1_stepCount ∈ WA := wa_t (i := 342) (by decide +kernel) rfl
theorem wt343 : Cond.code yX1_stepCount prog_3_method_12_code 1 (some .int) ∈ WA := wa_t (i := 343) (by decide +kernel) rfl
theorem wt344 : Cond.methodLink RX8 88 yX1_copyFrom ∈ WA := wa_t (i := 344) (by decide +kernel) rfl
theorem wt345 : Cond.instanceMethod yX1_copyFrom ∈ WA := wa_t (i := 345) (by decide +kernel) rfl
theorem wt346 : Cond.selects RX1 yX1_copyFrom yX1_copyFrom ∈ WA := wa_t (i := 346) (by decide +kernel) rfl
theorem wt347 : Cond.code yX1_copyFrom prog_3_method_3_code 2 (none : Option Jvm.ClassFile.FieldType) ∈ WA := wa_t (i := 347) (by decide +kernel) rfl
theorem wt349 : Cond.static yX8_copy ∈ WA := wa_t (i := 349) (by decide +kernel) rfl
theorem wt350 : Cond.code yX8_copy prog_1_method_43_code 3 (none : Option Jvm.ClassFile.FieldType) ∈ WA := wa_t (i := 350) (by decide +kernel) rfl
theorem wt351 : Cond.methodLink RX8 96 yX8_forgetRowAndPast ∈ WA := wa_t (i := 351) (by decide +kernel) rfl
theorem wt353 : Cond.instanceMethod yX8_forgetRowAndPast ∈ WA := wa_t (i := 353) (by decide +kernel) rfl
theorem wt354 : Cond.code yX8_forgetRowAndPast prog_1_method_35_code 1 (none : Option Jvm.ClassFile.FieldType) ∈ WA := wa_t (i := 354) (by decide +kernel) rfl
theorem wt355 : Cond.methodLink RX8 284 yX2_clear ∈ WA := wa_t (i := 355) (by decide +kernel) rfl
theorem wt356 : Cond.instanceMethod yX2_clear ∈ WA := wa_t (i := 356) (by decide +kernel) rfl
theorem wt357 : Cond.selects RX2 yX2_clear yX2_clear ∈ WA := wa_t (i := 357) (by decide +kernel) rfl
theorem wt358 : Cond.code yX2_clear prog_4_method_3_code 1 (none : Option Jvm.ClassFile.FieldType) ∈ WA := wa_t (i := 358) (by decide +kernel) rfl
theorem wt359 : Cond.methodLink RX8 99 yX1_stoneCount ∈ WA := wa_t (i := 359) (by decide +kernel) rfl
theorem wt360 : Cond.instanceMethod yX1_stoneCount ∈ WA := wa_t (i := 360) (by decide +kernel) rfl
theorem wt361 : Cond.selects RX1 yX1_stoneCount yX1_stoneCount ∈ WA := wa_t (i := 361) (by decide +kernel) rfl
theorem wt362 : Cond.code yX1_stoneCount prog_3_method_11_code 1 (some .int) ∈ WA := wa_t (i := 362) (by decide +kernel) rfl
theorem wt363 : Cond.methodLink RL 33 yX8_stone ∈ WA := wa_t (i := 363) (by decide +kernel) rfl
theorem wt364 : Cond.instanceMethod yX8_stone ∈ WA := wa_t (i := 364) (by decide +kernel) rfl
theorem wt365 : Cond.selects RX8 yX8_stone yX8_stone ∈ WA := wa_t (i := 365) (by decide +kernel) rfl
theorem wt366 : Cond.code yX8_stone prog_1_method_6_code 3 (some .int) ∈ WA := wa_t (i := 366) (by decide +kernel) rfl
theorem wt367 : Cond.methodLink RX8 102 yX8_isStone ∈ WA := wa_t (i := 367) (by decide +kernel) rfl
theorem wt369 : Cond.instanceMethod yX8_isStone ∈ WA := wa_t (i := 369) (by decide +kernel) rfl
theorem wt370 : Cond.code yX8_isStone prog_1_method_32_code 2 (some .boolean) ∈ WA := wa_t (i := 370) (by decide +kernel) rfl
theorem wt371 : Cond.methodLink RX8 278 yX1_hasStone ∈ WA := wa_t (i := 371) (by decide +kernel) rfl
theorem wt372 : Cond.methodLink RX8 106 yX1_there ∈ WA := wa_t (i := 372) (by decide +kernel) rfl
theorem wt373 : Cond.instanceMethod yX1_there ∈ WA := wa_t (i := 373) (by decide +kernel) rfl
theorem wt374 : Cond.selects RX1 yX1_there yX1_there ∈ WA := wa_t (i := 374) (by decide +kernel) rfl
theorem wt375 : Cond.code yX1_there prog_3_method_15_code 1 (some .int) ∈ WA := wa_t (i := 375) (by decide +kernel) rfl
theorem wt376 : Cond.methodLink RX8 109 yX8_bitOf ∈ WA := wa_t (i := 376) (by decide +kernel) rfl
theorem wt377 : Cond.static yX8_bitOf ∈ WA := wa_t (i := 377) (by decide +kernel) rfl
theorem wt378 : Cond.code yX8_bitOf prog_1_method_38_code 2 (some .int) ∈ WA := wa_t (i := 378) (by decide +kernel) rfl
theorem wt379 : Cond.methodLink RX8 113 yX1_stood ∈ WA := wa_t (i := 379) (by decide +kernel) rfl
theorem wt380 : Cond.instanceMethod yX1_stood ∈ WA := wa_t (i := 380) (by decide +kernel) rfl
theorem wt381 : Cond.selects RX1 yX1_stood yX1_stood ∈ WA := wa_t (i := 381) (by decide +kernel) rfl
theorem wt382 : Cond.code yX1_stood prog_3_method_16_code 1 (some .int) ∈ WA := wa_t (i := 382) (by decide +kernel) rfl
theorem wt383 : Cond.methodLink RX8 116 yX1_begins ∈ WA := wa_t (i := 383) (by decide +kernel) rfl
theorem wt384 : Cond.instanceMethod yX1_begins ∈ WA := wa_t (i := 384) (by decide +kernel) rfl
theorem wt385 : Cond.selects RX1 yX1_begins yX1_begins ∈ WA := wa_t (i := 385) (by decide +kernel) rfl
theorem wt386 : Cond.code yX1_begins prog_3_method_13_code 1 (some .int) ∈ WA := wa_t (i := 386) (by decide +kernel) rfl
theorem wt387 : Cond.methodLink RX8 119 yX1_wearOf ∈ WA := wa_t (i := 387) (by decide +kernel) rfl
theorem wt388 : Cond.instanceMethod yX1_wearOf ∈ WA := wa_t (i := 388) (by decide +kernel) rfl
theorem wt389 : Cond.selects RX1 yX1_wearOf yX1_wearOf ∈ WA := wa_t (i := 389) (by decide +kernel) rfl
theorem wt390 : Cond.code yX1_wearOf prog_3_method_20_code 2 (some .int) ∈ WA := wa_t (i := 390) (by decide +kernel) rfl
theorem wt391 : Cond.methodLink RX8 123 yX1_gainsayersOf ∈ WA := wa_t (i := 391) (by decide +kernel) rfl
theorem wt392 : Cond.instanceMethod yX1_gainsayersOf ∈ WA := wa_t (i := 392) (by decide +kernel) rfl
theorem wt393 : Cond.selects RX1 yX1_gainsayersOf yX1_gainsayersOf ∈ WA := wa_t (i := 393) (by decide +kernel) rfl
theorem wt394 : Cond.code yX1_gainsayersOf prog_3_method_21_code 2 (some .int) ∈ WA := wa_t (i := 394) (by decide +kernel) rfl
theorem wt395 : Cond.methodLink RL 38 yX8_step ∈ WA := wa_t (i := 395) (by decide +kernel) rfl
theorem wt396 : Cond.instanceMethod yX8_step ∈ WA := wa_t (i := 396) (by decide +kernel) rfl
theorem wt397 : Cond.selects RX8 yX8_step yX8_step ∈ WA := wa_t (i := 397) (by decide +kernel) rfl
theorem wt398 : Cond.code yX8_step prog_1_method_7_code 3 (some .int) ∈ WA := wa_t (i := 398) (by decide +kernel) rfl
theorem wt399 : Cond.methodLink RX8 126 yX8_isStep ∈ WA := wa_t (i := 399) (by decide +kernel) rfl
theorem wt401 : Cond.instanceMethod yX8_isStep ∈ WA := wa_t (i := 401) (by decide +kernel) rfl
theorem wt402 : Cond.code yX8_isStep prog_1_method_33_code 2 (some .boolean) ∈ WA := wa_t (i := 402) (by decide +kernel) rfl
theorem wt403 : Cond.methodLink RX8 129 yX1_firstOf ∈ WA := wa_t (i := 403) (by decide +kernel) rfl
theorem wt404 : Cond.instanceMethod yX1_firstOf ∈ WA := wa_t (i := 404) (by decide +kernel) rfl
theorem wt405 : Cond.selects RX1 yX1_firstOf yX1_firstOf ∈ WA := wa_t (i := 405) (by decide +kernel) rfl
theorem wt406 : Cond.code yX1_firstOf prog_3_method_22_code 2 (some .int) ∈ WA := wa_t (i := 406) (by decide +kernel) rfl
theorem wt407 : Cond.methodLink RX8 132 yX1_secondOf ∈ WA := wa_t (i := 407) (by decide +kernel) rfl
theorem wt408 : Cond.instanceMethod yX1_secondOf ∈ WA := wa_t (i := 408) (by decide +kernel) rfl
theorem wt409 : Cond.selects RX1 yX1_secondOf yX1_secondOf ∈ WA := wa_t (i := 409) (by decide +kernel) rfl
theorem wt410 : Cond.code yX1_secondOf prog_3_method_23_code 2 (some .int) ∈ WA := wa_t (i := 410) (by decide +kernel) rfl
theorem wt411 : Cond.methodLink RX8 135 yX1_endOf ∈ WA := wa_t (i := 411) (by decide +kernel) rfl
theorem wt412 : Cond.instanceMethod yX1_endOf ∈ WA := wa_t (i := 412) (by decide +kernel) rfl
theorem wt413 : Cond.selects RX1 yX1_endOf yX1_endOf ∈ WA := wa_t (i := 413) (by decide +kernel) rfl
theorem wt414 : Cond.code yX1_endOf prog_3_method_24_code 2 (some .int) ∈ WA := wa_t (i := 414) (by decide +kernel) rfl
theorem wt415 : Cond.methodLink RX8 138 yX1_mayBeGone ∈ WA := wa_t (i := 415) (by decide +kernel) rfl
theorem wt416 : Cond.instanceMethod yX1_mayBeGone ∈ WA := wa_t (i := 416) (by decide +kernel) rfl
theorem wt417 : Cond.selects RX1 yX1_mayBeGone yX1_mayBeGone ∈ WA := wa_t (i := 417) (by decide +kernel) rfl
theorem wt418 : Cond.code yX1_mayBeGone prog_3_method_26_code 2 (some .boolean) ∈ WA := wa_t (i := 418) (by decide +kernel) rfl
theorem wt419 : Cond.methodLink RX1 84 yX1_after ∈ WA := wa_t (i := 419) (by decide +kernel) rfl
theorem wt420 : Cond.instanceMethod yX1_after ∈ WA := wa_t (i := 420) (by decide +kernel) rfl
theorem wt421 : Cond.selects RX1 yX1_after yX1_after ∈ WA := wa_t (i := 421) (by decide +kernel) rfl
theorem wt422 : Cond.code yX1_after prog_3_method_27_code 3 (some .int) ∈ WA := wa_t (i := 422) (by decide +kernel) rfl
theorem wt423 : Cond.methodLink RX1 88 yX1_afterAmong ∈ WA := wa_t (i := 423) (by decide +kernel) rfl
theorem wt425 : Cond.instanceMethod yX1_afterAmong ∈ WA := wa_t (i := 425) (by decide +kernel) rfl
theorem wt426 : Cond.code yX1_afterAmong prog_3_method_28_code 5 (some .int) ∈ WA := wa_t (i := 426) (by decide +kernel) rfl
theorem wt428 : Cond.static yX8_holdsAll ∈ WA := wa_t (i := 428) (by decide +kernel) rfl
theorem wt429 : Cond.code yX8_holdsAll prog_1_method_40_code 2 (some .boolean) ∈ WA := wa_t (i := 429) (by decide +kernel) rfl
theorem wt430 : Cond.methodLink RL 42 yX8_go ∈ WA := wa_t (i := 430) (by decide +kernel) rfl
theorem wt431 : Cond.instanceMethod yX8_go ∈ WA := wa_t (i := 431) (by decide +kernel) rfl
theorem wt432 : Cond.selects RX8 yX8_go yX8_go ∈ WA := wa_t (i := 432) (by decide +kernel) rfl
theorem wt433 : Cond.code yX8_go prog_1_method_8_code 2 (some .int) ∈ WA := wa_t (i := 433) (by decide +kernel) rfl
theorem wt434 : Cond.methodLink RX8 141 yX1_tread ∈ WA := wa_t (i := 434) (by decide +kernel) rfl
theorem wt435 : Cond.instanceMethod yX1_tread ∈ WA := wa_t (i := 435) (by decide +kernel) rfl
theorem wt436 : Cond.selects RX1 yX1_tread yX1_tread ∈ WA := wa_t (i := 436) (by decide +kernel) rfl
theorem wt437 : Cond.code yX1_tread prog_3_method_29_code 3 (none : Option Jvm.ClassFile.FieldType) ∈ WA := wa_t (i := 437) (by decide +kernel) rfl
theorem wt438 : Cond.methodLink RX1 95 yX1_endOf ∈ WA := wa_t (i := 438) (by decide +kernel) rfl
theorem wt439 : Cond.methodLink RX8 144 yX2_noteGone ∈ WA := wa_t (i := 439) (by decide +kernel) rfl
theorem wt440 : Cond.instanceMethod yX2_noteGone ∈ WA := wa_t (i := 440) (by decide +kernel) rfl
theorem wt441 : Cond.selects RX2 yX2_noteGone yX2_noteGone ∈ WA := wa_t (i := 441) (by decide +kernel) rfl
theorem wt442 : Cond.code yX2_noteGone prog_4_method_4_code 2 (none : Option Jvm.ClassFile.FieldType) ∈ WA := wa_t (i := 442) (by decide +kernel) rfl
theorem wt443 : Cond.methodLink RX2 22 yX2_note ∈ WA := wa_t (i := 443) (by decide +kernel) rfl
theorem wt445 : Cond.instanceMethod yX2_note ∈ WA := wa_t (i := 445) (by decide +kernel) rfl
theorem wt446 : Cond.code yX2_note prog_4_method_7_code 3 (none : Option Jvm.ClassFile.FieldType) ∈ WA := wa_t (i := 446) (by decide +kernel) rfl
theorem wt447 : Cond.methodLink RX2 26 yX2_forgetOldest ∈ WA := wa_t (i := 447) (by decide +kernel) rfl
theorem wt449 : Cond.instanceMethod yX2_forgetOldest ∈ WA := wa_t (i := 449) (by decide +kernel) rfl
theorem wt450 : Cond.code yX2_forgetOldest prog_4_method_8_code 2 (none : Option Jvm.ClassFile.FieldType) ∈ WA := wa_t (i := 450) (by decide +kernel) rfl
theorem wt453 : Cond.methodLink RX8 147 yJ6_bitCount_0f7a4 ∈ WA := wa_t (i := 453) (by decide +kernel) rfl
theorem wt454 : Cond.static yJ6_bitCount_0f7a4 ∈ WA := wa_t (i := 454) (by decide +kernel) rfl
theorem wt455 : Cond.code yJ6_bitCount_0f7a4 prog_12_method_49_code 1 (some .int) ∈ WA := wa_t (i := 455) (by decide +kernel) rfl
theorem wt456 : Cond.constant RJ6 265 (1431655765) ∈ WA := wa_t (i := 456) (by decide +kernel) rfl
theorem wt457 : Cond.constant RJ6 266 (858993459) ∈ WA := wa_t (i := 457) (by decide +kernel) rfl
theorem wt458 : Cond.constant RJ6 267 (252645135) ∈ WA := wa_t (i := 458) (by decide +kernel) rfl
theorem wt459 : Cond.methodLink RL 47 yX8_takeOut ∈ WA := wa_t (i := 459) (by decide +kernel) rfl
theorem wt460 : Cond.instanceMethod yX8_takeOut ∈ WA := wa_t (i := 460) (by decide +kernel) rfl
theorem wt461 : Cond.selects RX8 yX8_takeOut yX8_takeOut ∈ WA := wa_t (i := 461) (by decide +kernel) rfl
theorem wt462 : Cond.code yX8_takeOut prog_1_method_9_code 2 (some .int) ∈ WA := wa_t (i := 462) (by decide +kernel) rfl
theorem wt463 : Cond.methodLink RX8 152 yX1_isThere ∈ WA := wa_t (i := 463) (by decide +kernel) rfl
theorem wt464 : Cond.instanceMethod yX1_isThere ∈ WA := wa_t (i := 464) (by decide +kernel) rfl
theorem wt465 : Cond.selects RX1 yX1_isThere yX1_isThere ∈ WA := wa_t (i := 465) (by decide +kernel) rfl
theorem wt466 : Cond.code yX1_isThere prog_3_method_19_code 2 (some .boolean) ∈ WA := wa_t (i := 466) (by decide +kernel) rfl
theorem wt468 : Cond.static yX8_has ∈ WA := wa_t (i := 468) (by decide +kernel) rfl
theorem wt469 : Cond.code yX8_has prog_1_method_39_code 2 (some .boolean) ∈ WA := wa_t (i := 469) (by decide +kernel) rfl
theorem wt470 : Cond.methodLink RX8 155 yX2_noteOut ∈ WA := wa_t (i := 470) (by decide +kernel) rfl
theorem wt471 : Cond.instanceMethod yX2_noteOut ∈ WA := wa_t (i := 471) (by decide +kernel) rfl
theorem wt472 : Cond.selects RX2 yX2_noteOut yX2_noteOut ∈ WA := wa_t (i := 472) (by decide +kernel) rfl
theorem wt473 : Cond.code yX2_noteOut prog_4_method_5_code 3 (none : Option Jvm.ClassFile.FieldType) ∈ WA := wa_t (i := 473) (by decide +kernel) rfl
theorem wt474 : Cond.methodLink RX8 159 yX1_removeSlab ∈ WA := wa_t (i := 474) (by decide +kernel) rfl
theorem wt475 : Cond.instanceMethod yX1_removeSlab ∈ WA := wa_t (i := 475) (by decide +kernel) rfl
theorem wt476 : Cond.selects RX1 yX1_removeSlab yX1_removeSlab ∈ WA := wa_t (i := 476) (by decide +kernel) rfl
theorem wt477 : Cond.code yX1_removeSlab prog_3_method_31_code 2 (none : Option Jvm.ClassFile.FieldType) ∈ WA := wa_t (i := 477) (by decide +kernel) rfl
theorem wt478 : Cond.methodLink RL 51 yX8_lay ∈ WA := wa_t (i := 478) (by decide +kernel) rfl
theorem wt479 : Cond.instanceMethod yX8_lay ∈ WA := wa_t (i := 479) (by decide +kernel) rfl
theorem wt480 : Cond.selects RX8 yX8_lay yX8_lay ∈ WA := wa_t (i := 480) (by decide +kernel) rfl
theorem wt481 : Cond.code yX8_lay prog_1_method_10_code 4 (some .int) ∈ WA := wa_t (i := 481) (by decide +kernel) rfl
theorem wt482 : Cond.methodLink RX8 162 yX1_couldBeStep ∈ WA := wa_t (i := 482) (by decide +kernel) rfl
theorem wt483 : Cond.methodLink RX8 166 yX1_addStep ∈ WA := wa_t (i := 483) (by decide +kernel) rfl
theorem wt484 : Cond.methodLink RX8 169 yX2_noteLaid ∈ WA := wa_t (i := 484) (by decide +kernel) rfl
theorem wt485 : Cond.instanceMethod yX2_noteLaid ∈ WA := wa_t (i := 485) (by decide +kernel) rfl
theorem wt486 : Cond.selects RX2 yX2_noteLaid yX2_noteLaid ∈ WA := wa_t (i := 486) (by decide +kernel) rfl
theorem wt487 : Cond.code yX2_noteLaid prog_4_method_6_code 1 (none : Option Jvm.ClassFile.FieldType) ∈ WA := wa_t (i := 487) (by decide +kernel) rfl
theorem wt488 : Cond.methodLink RL 56 yX8_undo ∈ WA := wa_t (i := 488) (by decide +kernel) rfl
theorem wt489 : Cond.instanceMethod yX8_undo ∈ WA := wa_t (i := 489) (by decide +kernel) rfl
theorem wt490 : Cond.selects RX8 yX8_undo yX8_undo ∈ WA := wa_t (i := 490) (by decide +kernel) rfl
theorem wt491 : Cond.code yX8_undo prog_1_method_11_code 1 (some .int) ∈ WA := wa_t (i := 491) (by decide +kernel) rfl
theorem wt492 : Cond.methodLink RX8 172 yX2_size ∈ WA := wa_t (i := 492) (by decide +kernel) rfl
theorem wt493 : Cond.instanceMethod yX2_size ∈ WA := wa_t (i := 493) (by decide +kernel) rfl
theorem wt494 : Cond.selects RX2 yX2_size yX2_size ∈ WA := wa_t (i := 494) (by decide +kernel) rfl
theorem wt495 : Cond.code yX2_size prog_4_method_2_code 1 (some .int) ∈ WA := wa_t (i := 495) (by decide +kernel) rfl
theorem wt496 : Cond.methodLink RX8 173 yX2_takeBackLatest ∈ WA := wa_t (i := 496) (by decide +kernel) rfl
theorem wt497 : Cond.instanceMethod yX2_takeBackLatest ∈ WA := wa_t (i := 497) (by decide +kernel) rfl
theorem wt498 : Cond.selects RX2 yX2_takeBackLatest yX2_takeBackLatest ∈ WA := wa_t (i := 498) (by decide +kernel) rfl
theorem wt499 : Cond.code yX2_takeBackLatest prog_4_method_9_code 4 (none : Option Jvm.ClassFile.FieldType) ∈ WA := wa_t (i := 499) (by decide +kernel) rfl
theorem wt500 : Cond.methodLink RX2 37 yX1_untread ∈ WA := wa_t (i := 500) (by decide +kernel) rfl
theorem wt501 : Cond.instanceMethod yX1_untread ∈ WA := wa_t (i := 501) (by decide +kernel) rfl
theorem wt502 : Cond.selects RX1 yX1_untread yX1_untread ∈ WA := wa_t (i := 502) (by decide +kernel) rfl
theorem wt503 : Cond.code yX1_untread prog_3_method_30_code 2 (none : Option Jvm.ClassFile.FieldType) ∈ WA := wa_t (i := 503) (by decide +kernel) rfl
theorem wt504 : Cond.methodLink RX2 43 yX1_removeLatestStep ∈ WA := wa_t (i := 504) (by decide +kernel) rfl
theorem wt505 : Cond.instanceMethod yX1_removeLatestStep ∈ WA := wa_t (i := 505) (by decide +kernel) rfl
theorem wt506 : Cond.selects RX1 yX1_removeLatestStep yX1_removeLatestStep ∈ WA := wa_t (i := 506) (by decide +kernel) rfl
theorem wt507 : Cond.code yX1_removeLatestStep prog_3_method_33_code 1 (none : Option Jvm.ClassFile.FieldType) ∈ WA := wa_t (i := 507) (by decide +kernel) rfl
theorem wt508 : Cond.methodLink RX2 46 yX1_putSlabBack ∈ WA := wa_t (i := 508) (by decide +kernel) rfl
theorem wt509 : Cond.instanceMethod yX1_putSlabBack ∈ WA := wa_t (i := 509) (by decide +kernel) rfl
theorem wt510 : Cond.selects RX1 yX1_putSlabBack yX1_putSlabBack ∈ WA := wa_t (i := 510) (by decide +kernel) rfl
theorem wt511 : Cond.code yX1_putSlabBack prog_3_method_32_code 3 (none : Option Jvm.ClassFile.FieldType) ∈ WA := wa_t (i := 511) (by decide +kernel) rfl
theorem wt512 : Cond.methodLink RL 60 yX8_reach ∈ WA := wa_t (i := 512) (by decide +kernel) rfl
theorem wt513 : Cond.instanceMethod yX8_reach ∈ WA := wa_t (i := 513) (by decide +kernel) rfl
theorem wt514 : Cond.selects RX8 yX8_reach yX8_reach ∈ WA := wa_t (i := 514) (by decide +kernel) rfl
theorem wt515 : Cond.code yX8_reach prog_1_method_12_code 2 (some .int) ∈ WA := wa_t (i := 515) (by decide +kernel) rfl
theorem wt516 : Cond.methodLink RX8 179 yX8_isSetOfStones ∈ WA := wa_t (i := 516) (by decide +kernel) rfl
theorem wt518 : Cond.instanceMethod yX8_isSetOfStones ∈ WA := wa_t (i := 518) (by decide +kernel) rfl
theorem wt519 : Cond.code yX8_isSetOfStones prog_1_method_34_code 2 (some .boolean) ∈ WA := wa_t (i := 519) (by decide +kernel) rfl
theorem wt520 : Cond.methodLink RX8 281 yX1_allStones ∈ WA := wa_t (i := 520) (by decide +kernel) rfl
theorem wt521 : Cond.methodLink RX8 182 yX1_reachOf ∈ WA := wa_t (i := 521) (by decide +kernel) rfl
theorem wt522 : Cond.instanceMethod yX1_reachOf ∈ WA := wa_t (i := 522) (by decide +kernel) rfl
theorem wt523 : Cond.selects RX1 yX1_reachOf yX1_reachOf ∈ WA := wa_t (i := 523) (by decide +kernel) rfl
theorem wt524 : Cond.code yX1_reachOf prog_3_method_34_code 2 (some .int) ∈ WA := wa_t (i := 524) (by decide +kernel) rfl
theorem wt525 : Cond.methodLink RX1 99 yX1_reachBy ∈ WA := wa_t (i := 525) (by decide +kernel) rfl
theorem wt526 : Cond.instanceMethod yX1_reachBy ∈ WA := wa_t (i := 526) (by decide +kernel) rfl
theorem wt527 : Cond.selects RX1 yX1_reachBy yX1_reachBy ∈ WA := wa_t (i := 527) (by decide +kernel) rfl
theorem wt528 : Cond.code yX1_reachBy prog_3_method_35_code 8 (some .int) ∈ WA := wa_t (i := 528) (by decide +kernel) rfl
theorem wt529 : Cond.methodLink RL 64 yX8_walk ∈ WA := wa_t (i := 529) (by decide +kernel) rfl
theorem wt530 : Cond.instanceMethod yX8_walk ∈ WA := wa_t (i := 530) (by decide +kernel) rfl
theorem wt531 : Cond.selects RX8 yX8_walk yX8_walk ∈ WA := wa_t (i := 531) (by decide +kernel) rfl
theorem wt532 : Cond.code yX8_walk prog_1_method_13_code 3 (some .long) ∈ WA := wa_t (i := 532) (by decide +kernel) rfl
theorem wt533 : Cond.constantLong RX8 185 (-1) ∈ WA := wa_t (i := 533) (by decide +kernel) rfl
theorem wt534 : Cond.methodLink RX8 187 yX7_measure ∈ WA := wa_t (i := 534) (by decide +kernel) rfl
theorem wt535 : Cond.instanceMethod yX7_measure ∈ WA := wa_t (i := 535) (by decide +kernel) rfl
theorem wt536 : Cond.selects RX7 yX7_measure yX7_measure ∈ WA := wa_t (i := 536) (by decide +kernel) rfl
theorem wt537 : Cond.code yX7_measure prog_9_method_2_code 5 (none : Option Jvm.ClassFile.FieldType) ∈ WA := wa_t (i := 537) (by decide +kernel) rfl
theorem wt538 : Cond.methodLink RX7 18 yX1_stood ∈ WA := wa_t (i := 538) (by decide +kernel) rfl
theorem wt539 : Cond.methodLink RX7 24 yX1_there ∈ WA := wa_t (i := 539) (by decide +kernel) rfl
theorem wt541 : Cond.methodLink RX7 31 yX7_measureFrom ∈ WA := wa_t (i := 541) (by decide +kernel) rfl
theorem wt543 : Cond.instanceMethod yX7_measureFrom ∈ WA := wa_t (i := 543) (by decide +kernel) rfl
theorem wt544 : Cond.code yX7_measureFrom prog_9_method_3_code 9 (none : Option Jvm.ClassFile.FieldType) ∈ WA := wa_t (i := 544) (by decide +kernel) rfl
theorem wt546 : Cond.methodLink RX7 38 yX1_stepCount ∈ WA := wa_t (i := 546) (by decide +kernel) rfl
theorem wt547 : Cond.methodLink RX7 41 yX1_after ∈ WA := wa_t (i := 547) (by decide +kernel) rfl
theorem wt550 : Cond.methodLink RX8 191 yX7_fewestSteps ∈ WA := wa_t (i := 550) (by decide +kernel) rfl
theorem wt551 : Cond.instanceMethod yX7_fewestSteps ∈ WA := wa_t (i := 551) (by decide +kernel) rfl
theorem wt552 : Cond.selects RX7 yX7_fewestSteps yX7_fewestSteps ∈ WA := wa_t (i := 552) (by decide +kernel) rfl
theorem wt553 : Cond.code yX7_fewestSteps prog_9_method_4_code 3 (some .int) ∈ WA := wa_t (i := 553) (by decide +kernel) rfl
theorem wt554 : Cond.methodLink RX8 195 yX7_lowestFirstStep ∈ WA := wa_t (i := 554) (by decide +kernel) rfl
theorem wt555 : Cond.instanceMethod yX7_lowestFirstStep ∈ WA := wa_t (i := 555) (by decide +kernel) rfl
theorem wt556 : Cond.selects RX7 yX7_lowestFirstStep yX7_lowestFirstStep ∈ WA := wa_t (i := 556) (by decide +kernel) rfl
theorem wt557 : Cond.code yX7_lowestFirstStep prog_9_method_5_code 6 (some .int) ∈ WA := wa_t (i := 557) (by decide +kernel) rfl
theorem wt558 : Cond.methodLink RX7 53 yX7_fewestSteps ∈ WA := wa_t (i := 558) (by decide +kernel) rfl
theorem wt559 : Cond.methodLink RX8 198 yX7_howManyRows ∈ WA := wa_t (i := 559) (by decide +kernel) rfl
theorem wt560 : Cond.instanceMethod yX7_howManyRows ∈ WA := wa_t (i := 560) (by decide +kernel) rfl
theorem wt561 : Cond.selects RX7 yX7_howManyRows yX7_howManyRows ∈ WA := wa_t (i := 561) (by decide +kernel) rfl
theorem wt562 : Cond.code yX7_howManyRows prog_9_method_6_code 2 (some .int) ∈ WA := wa_t (i := 562) (by decide +kernel) rfl
theorem wt563 : Cond.methodLink RL 69 yX8_round ∈ WA := wa_t (i := 563) (by decide +kernel) rfl
theorem wt564 : Cond.instanceMethod yX8_round ∈ WA := wa_t (i := 564) (by decide +kernel) rfl
theorem wt565 : Cond.selects RX8 yX8_round yX8_round ∈ WA := wa_t (i := 565) (by decide +kernel) rfl
theorem wt566 : Cond.code yX8_round prog_1_method_14_code 2 (some .int) ∈ WA := wa_t (i := 566) (by decide +kernel) rfl
theorem wt567 : Cond.methodLink RX8 201 yX7_rounds ∈ WA := wa_t (i := 567) (by decide +kernel) rfl
theorem wt568 : Cond.static yX7_rounds ∈ WA := wa_t (i := 568) (by decide +kernel) rfl
theorem wt569 : Cond.code yX7_rounds prog_9_method_7_code 4 (some .int) ∈ WA := wa_t (i := 569) (by decide +kernel) rfl
theorem wt570 : Cond.methodLink RX7 57 yX7_afterAllAtOnce ∈ WA := wa_t (i := 570) (by decide +kernel) rfl
theorem wt571 : Cond.static yX7_afterAllAtOnce ∈ WA := wa_t (i := 571) (by decide +kernel) rfl
theorem wt572 : Cond.code yX7_afterAllAtOnce prog_9_method_8_code 4 (some .int) ∈ WA := wa_t (i := 572) (by decide +kernel) rfl
theorem wt573 : Cond.methodLink RL 73 yX8_needs ∈ WA := wa_t (i := 573) (by decide +kernel) rfl
theorem wt574 : Cond.instanceMethod yX8_needs ∈ WA := wa_t (i := 574) (by decide +kernel) rfl
theorem wt575 : Cond.selects RX8 yX8_needs yX8_needs ∈ WA := wa_t (i := 575) (by decide +kernel) rfl
theorem wt576 : Cond.code yX8_needs prog_1_method_15_code 3 (some .int) ∈ WA := wa_t (i := 576) (by decide +kernel) rfl
theorem wt577 : Cond.methodLink RX8 205 yX0_leadTo ∈ WA := wa_t (i := 577) (by decide +kernel) rfl
theorem wt578 : Cond.static yX0_leadTo ∈ WA := wa_t (i := 578) (by decide +kernel) rfl
theorem wt579 : Cond.code yX0_leadTo prog_2_method_2_code 2 (some .boolean) ∈ WA := wa_t (i := 579) (by decide +kernel) rfl
theorem wt580 : Cond.methodLink RX0 9 yX1_beginnings ∈ WA := wa_t (i := 580) (by decide +kernel) rfl
theorem wt581 : Cond.methodLink RX0 15 yX0_isMet ∈ WA := wa_t (i := 581) (by decide +kernel) rfl
theorem wt582 : Cond.static yX0_isMet ∈ WA := wa_t (i := 582) (by decide +kernel) rfl
theorem wt583 : Cond.code yX0_isMet prog_2_method_11_code 4 (some .boolean) ∈ WA := wa_t (i := 583) (by decide +kernel) rfl
theorem wt584 : Cond.methodLink RX0 32 yX1_there ∈ WA := wa_t (i := 584) (by decide +kernel) rfl
theorem wt585 : Cond.methodLink RX0 35 yX1_reachBy ∈ WA := wa_t (i := 585) (by decide +kernel) rfl
theorem wt586 : Cond.methodLink RX0 51 yX1_hasGainsayersIn ∈ WA := wa_t (i := 586) (by decide +kernel) rfl
theorem wt587 : Cond.instanceMethod yX1_hasGainsayersIn ∈ WA := wa_t (i := 587) (by decide +kernel) rfl
theorem wt588 : Cond.selects RX1 yX1_hasGainsayersIn yX1_hasGainsayersIn ∈ WA := wa_t (i := 588) (by decide +kernel) rfl
theorem wt589 : Cond.code yX1_hasGainsayersIn prog_3_method_36_code 3 (some .boolean) ∈ WA := wa_t (i := 589) (by decide +kernel) rfl
theorem wt590 : Cond.methodLink RX1 102 yX1_gainsayersOf ∈ WA := wa_t (i := 590) (by decide +kernel) rfl
theorem wt592 : Cond.methodLink RX8 211 yX0_neededFor ∈ WA := wa_t (i := 592) (by decide +kernel) rfl
theorem wt593 : Cond.static yX0_neededFor ∈ WA := wa_t (i := 593) (by decide +kernel) rfl
theorem wt594 : Cond.code yX0_neededFor prog_2_method_4_code 5 (some .int) ∈ WA := wa_t (i := 594) (by decide +kernel) rfl
theorem wt595 : Cond.methodLink RX0 21 yX1_stoneCount ∈ WA := wa_t (i := 595) (by decide +kernel) rfl
theorem wt596 : Cond.methodLink RX8 214 yX0_fewestFor ∈ WA := wa_t (i := 596) (by decide +kernel) rfl
theorem wt597 : Cond.static yX0_fewestFor ∈ WA := wa_t (i := 597) (by decide +kernel) rfl
theorem wt598 : Cond.code yX0_fewestFor prog_2_method_5_code 2 (some .int) ∈ WA := wa_t (i := 598) (by decide +kernel) rfl
theorem wt599 : Cond.methodLink RX0 28 yX0_fewestTurned ∈ WA := wa_t (i := 599) (by decide +kernel) rfl
theorem wt600 : Cond.static yX0_fewestTurned ∈ WA := wa_t (i := 600) (by decide +kernel) rfl
theorem wt601 : Cond.code yX0_fewestTurned prog_2_method_10_code 8 (some .int) ∈ WA := wa_t (i := 601) (by decide +kernel) rfl
theorem wt602 : Cond.methodLink RX0 43 yJ6_bitCount_0f7a4 ∈ WA := wa_t (i := 602) (by decide +kernel) rfl
theorem wt604 : Cond.methodLink RL 77 yX8_lost ∈ WA := wa_t (i := 604) (by decide +kernel) rfl
theorem wt605 : Cond.instanceMethod yX8_lost ∈ WA := wa_t (i := 605) (by decide +kernel) rfl
theorem wt606 : Cond.selects RX8 yX8_lost yX8_lost ∈ WA := wa_t (i := 606) (by decide +kernel) rfl
theorem wt607 : Cond.code yX8_lost prog_1_method_16_code 2 (some .int) ∈ WA := wa_t (i := 607) (by decide +kernel) rfl
theorem wt608 : Cond.methodLink RX8 217 yX0_lostBy ∈ WA := wa_t (i := 608) (by decide +kernel) rfl
theorem wt609 : Cond.static yX0_lostBy ∈ WA := wa_t (i := 609) (by decide +kernel) rfl
theorem wt610 : Cond.code yX0_lostBy prog_2_method_6_code 4 (some .int) ∈ WA := wa_t (i := 610) (by decide +kernel) rfl
theorem wt611 : Cond.methodLink RX0 39 yX1_reachOf ∈ WA := wa_t (i := 611) (by decide +kernel) rfl
theorem wt612 : Cond.methodLink RL 81 yX8_begin ∈ WA := wa_t (i := 612) (by decide +kernel) rfl
theorem wt613 : Cond.instanceMethod yX8_begin ∈ WA := wa_t (i := 613) (by decide +kernel) rfl
theorem wt614 : Cond.selects RX8 yX8_begin yX8_begin ∈ WA := wa_t (i := 614) (by decide +kernel) rfl
theorem wt615 : Cond.code yX8_begin prog_1_method_17_code 2 (some .int) ∈ WA := wa_t (i := 615) (by decide +kernel) rfl
theorem wt616 : Cond.methodLink RX8 220 yX0_fewestMoreFor ∈ WA := wa_t (i := 616) (by decide +kernel) rfl
theorem wt617 : Cond.static yX0_fewestMoreFor ∈ WA := wa_t (i := 617) (by decide +kernel) rfl
theorem wt618 : Cond.code yX0_fewestMoreFor prog_2_method_7_code 3 (some .int) ∈ WA := wa_t (i := 618) (by decide +kernel) rfl
theorem wt619 : Cond.methodLink RL 85 yX8_hall ∈ WA := wa_t (i := 619) (by decide +kernel) rfl
theorem wt620 : Cond.instanceMethod yX8_hall ∈ WA := wa_t (i := 620) (by decide +kernel) rfl
theorem wt621 : Cond.selects RX8 yX8_hall yX8_hall ∈ WA := wa_t (i := 621) (by decide +kernel) rfl
theorem wt622 : Cond.code yX8_hall prog_1_method_18_code 2 (some .int) ∈ WA := wa_t (i := 622) (by decide +kernel) rfl
theorem wt623 : Cond.methodLink RX8 223 yX0_leadIntoHall ∈ WA := wa_t (i := 623) (by decide +kernel) rfl
theorem wt624 : Cond.static yX0_leadIntoHall ∈ WA := wa_t (i := 624) (by decide +kernel) rfl
theorem wt625 : Cond.code yX0_leadIntoHall prog_2_method_3_code 1 (some .boolean) ∈ WA := wa_t (i := 625) (by decide +kernel) rfl
theorem wt626 : Cond.methodLink RX8 227 yX0_fewestIntoHall ∈ WA := wa_t (i := 626) (by decide +kernel) rfl
theorem wt627 : Cond.static yX0_fewestIntoHall ∈ WA := wa_t (i := 627) (by decide +kernel) rfl
theorem wt628 : Cond.code yX0_fewestIntoHall prog_2_method_8_code 1 (some .int) ∈ WA := wa_t (i := 628) (by decide +kernel) rfl
theorem wt629 : Cond.methodLink RL 89 yX8_rope ∈ WA := wa_t (i := 629) (by decide +kernel) rfl
theorem wt630 : Cond.instanceMethod yX8_rope ∈ WA := wa_t (i := 630) (by decide +kernel) rfl
theorem wt631 : Cond.selects RX8 yX8_rope yX8_rope ∈ WA := wa_t (i := 631) (by decide +kernel) rfl
theorem wt632 : Cond.code yX8_rope prog_1_method_19_code 1 (some .int) ∈ WA := wa_t (i := 632) (by decide +kernel) rfl
theorem wt633 : Cond.methodLink RX8 230 yX0_fewestToRopeOff ∈ WA := wa_t (i := 633) (by decide +kernel) rfl
theorem wt634 : Cond.static yX0_fewestToRopeOff ∈ WA := wa_t (i := 634) (by decide +kernel) rfl
theorem wt635 : Cond.code yX0_fewestToRopeOff prog_2_method_9_code 1 (some .int) ∈ WA := wa_t (i := 635) (by decide +kernel) rfl
theorem wt636 : Cond.methodLink RL 93 yX8_idle ∈ WA := wa_t (i := 636) (by decide +kernel) rfl
theorem wt637 : Cond.instanceMethod yX8_idle ∈ WA := wa_t (i := 637) (by decide +kernel) rfl
theorem wt638 : Cond.selects RX8 yX8_idle yX8_idle ∈ WA := wa_t (i := 638) (by decide +kernel) rfl
theorem wt639 : Cond.code yX8_idle prog_1_method_20_code 1 (some .int) ∈ WA := wa_t (i := 639) (by decide +kernel) rfl
theorem wt640 : Cond.methodLink RX8 233 yX5_idleSteps ∈ WA := wa_t (i := 640) (by decide +kernel) rfl
theorem wt641 : Cond.static yX5_idleSteps ∈ WA := wa_t (i := 641) (by decide +kernel) rfl
theorem wt642 : Cond.code yX5_idleSteps prog_7_method_2_code 5 (some .int) ∈ WA := wa_t (i := 642) (by decide +kernel) rfl
theorem wt643 : Cond.methodLink RX5 9 yX1_stepCount ∈ WA := wa_t (i := 643) (by decide +kernel) rfl
theorem wt644 : Cond.methodLink RX5 15 yX1_originsOf ∈ WA := wa_t (i := 644) (by decide +kernel) rfl
theorem wt645 : Cond.instanceMethod yX1_originsOf ∈ WA := wa_t (i := 645) (by decide +kernel) rfl
theorem wt646 : Cond.selects RX1 yX1_originsOf yX1_originsOf ∈ WA := wa_t (i := 646) (by decide +kernel) rfl
theorem wt647 : Cond.code yX1_originsOf prog_3_method_25_code 2 (some .int) ∈ WA := wa_t (i := 647) (by decide +kernel) rfl
theorem wt648 : Cond.methodLink RX5 19 yX1_allStones ∈ WA := wa_t (i := 648) (by decide +kernel) rfl
theorem wt649 : Cond.methodLink RX5 22 yX1_reachBy ∈ WA := wa_t (i := 649) (by decide +kernel) rfl
theorem wt650 : Cond.methodLink RX5 26 yX1_endOf ∈ WA := wa_t (i := 650) (by decide +kernel) rfl
theorem wt652 : Cond.methodLink RL 97 yX8_circle ∈ WA := wa_t (i := 652) (by decide +kernel) rfl
theorem wt653 : Cond.instanceMethod yX8_circle ∈ WA := wa_t (i := 653) (by decide +kernel) rfl
theorem wt654 : Cond.selects RX8 yX8_circle yX8_circle ∈ WA := wa_t (i := 654) (by decide +kernel) rfl
theorem wt655 : Cond.code yX8_circle prog_1_method_21_code 1 (some .int) ∈ WA := wa_t (i := 655) (by decide +kernel) rfl
theorem wt656 : Cond.methodLink RX8 238 yX5_lowestInCircle ∈ WA := wa_t (i := 656) (by decide +kernel) rfl
theorem wt657 : Cond.static yX5_lowestInCircle ∈ WA := wa_t (i := 657) (by decide +kernel) rfl
theorem wt658 : Cond.code yX5_lowestInCircle prog_7_method_3_code 2 (some .int) ∈ WA := wa_t (i := 658) (by decide +kernel) rfl
theorem wt659 : Cond.methodLink RX5 33 yX1_stoneCount ∈ WA := wa_t (i := 659) (by decide +kernel) rfl
theorem wt660 : Cond.methodLink RX5 36 yX5_everBehind ∈ WA := wa_t (i := 660) (by decide +kernel) rfl
theorem wt661 : Cond.static yX5_everBehind ∈ WA := wa_t (i := 661) (by decide +kernel) rfl
theorem wt662 : Cond.code yX5_everBehind prog_7_method_4_code 4 (some .int) ∈ WA := wa_t (i := 662) (by decide +kernel) rfl
theorem wt663 : Cond.methodLink RX5 42 yX1_directlyBehind ∈ WA := wa_t (i := 663) (by decide +kernel) rfl
theorem wt664 : Cond.instanceMethod yX1_directlyBehind ∈ WA := wa_t (i := 664) (by decide +kernel) rfl
theorem wt665 : Cond.selects RX1 yX1_directlyBehind yX1_directlyBehind ∈ WA := wa_t (i := 665) (by decide +kernel) rfl
theorem wt666 : Cond.code yX1_directlyBehind prog_3_method_37_code 4 (some .int) ∈ WA := wa_t (i := 666) (by decide +kernel) rfl
theorem wt667 : Cond.methodLink RX1 105 yX1_originsOf ∈ WA := wa_t (i := 667) (by decide +kernel) rfl
theorem wt668 : Cond.methodLink RL 101 yX8_deep ∈ WA := wa_t (i := 668) (by decide +kernel) rfl
theorem wt669 : Cond.instanceMethod yX8_deep ∈ WA := wa_t (i := 669) (by decide +kernel) rfl
theorem wt670 : Cond.selects RX8 yX8_deep yX8_deep ∈ WA := wa_t (i := 670) (by decide +kernel) rfl
theorem wt671 : Cond.code yX8_deep prog_1_method_22_code 1 (some .int) ∈ WA := wa_t (i := 671) (by decide +kernel) rfl
theorem wt672 : Cond.methodLink RX8 241 yX5_depth ∈ WA := wa_t (i := 672) (by decide +kernel) rfl
theorem wt673 : Cond.static yX5_depth ∈ WA := wa_t (i := 673) (by decide +kernel) rfl
theorem wt674 : Cond.code yX5_depth prog_7_method_5_code 3 (some .int) ∈ WA := wa_t (i := 674) (by decide +kernel) rfl
theorem wt675 : Cond.methodLink RL 105 yX8_proofs ∈ WA := wa_t (i := 675) (by decide +kernel) rfl
theorem wt676 : Cond.instanceMethod yX8_proofs ∈ WA := wa_t (i := 676) (by decide +kernel) rfl
theorem wt677 : Cond.selects RX8 yX8_proofs yX8_proofs ∈ WA := wa_t (i := 677) (by decide +kernel) rfl
theorem wt678 : Cond.code yX8_proofs prog_1_method_23_code 3 (some .int) ∈ WA := wa_t (i := 678) (by decide +kernel) rfl
theorem wt679 : Cond.methodLink RX8 244 yX3_reckon ∈ WA := wa_t (i := 679) (by decide +kernel) rfl
theorem wt680 : Cond.instanceMethod yX3_reckon ∈ WA := wa_t (i := 680) (by decide +kernel) rfl
theorem wt681 : Cond.selects RX3 yX3_reckon yX3_reckon ∈ WA := wa_t (i := 681) (by decide +kernel) rfl
theorem wt682 : Cond.code yX3_reckon prog_5_method_2_code 6 (none : Option Jvm.ClassFile.FieldType) ∈ WA := wa_t (i := 682) (by decide +kernel) rfl
theorem wt683 : Cond.methodLink RX3 15 yX1_stepCount ∈ WA := wa_t (i := 683) (by decide +kernel) rfl
theorem wt684 : Cond.methodLink RX3 25 yX1_beginnings ∈ WA := wa_t (i := 684) (by decide +kernel) rfl
theorem wt687 : Cond.methodLink RX3 36 yJ6_numberOfTrailingZeros_0f7a4 ∈ WA := wa_t (i := 687) (by decide +kernel) rfl
theorem wt688 : Cond.static yJ6_numberOfTrailingZeros_0f7a4 ∈ WA := wa_t (i := 688) (by decide +kernel) rfl
theorem wt689 : Cond.code yJ6_numberOfTrailingZeros_0f7a4 prog_12_method_48_code 2 (some .int) ∈ WA := wa_t (i := 689) (by decide +kernel) rfl
theorem wt690 : Cond.constant RJ6 264 (65536) ∈ WA := wa_t (i := 690) (by decide +kernel) rfl
theorem wt691 : Cond.methodLink RX3 42 yX1_after ∈ WA := wa_t (i := 691) (by decide +kernel) rfl
theorem wt692 : Cond.methodLink RX3 46 yX1_there ∈ WA := wa_t (i := 692) (by decide +kernel) rfl
theorem wt693 : Cond.methodLink RX3 49 yX1_reachBy ∈ WA := wa_t (i := 693) (by decide +kernel) rfl
theorem wt694 : Cond.methodLink RX8 247 yX3_howMany ∈ WA := wa_t (i := 694) (by decide +kernel) rfl
theorem wt695 : Cond.instanceMethod yX3_howMany ∈ WA := wa_t (i := 695) (by decide +kernel) rfl
theorem wt696 : Cond.selects RX3 yX3_howMany yX3_howMany ∈ WA := wa_t (i := 696) (by decide +kernel) rfl
theorem wt697 : Cond.code yX3_howMany prog_5_method_4_code 4 (some .int) ∈ WA := wa_t (i := 697) (by decide +kernel) rfl
theorem wt698 : Cond.methodLink RX3 57 yX3_isProof ∈ WA := wa_t (i := 698) (by decide +kernel) rfl
theorem wt700 : Cond.instanceMethod yX3_isProof ∈ WA := wa_t (i := 700) (by decide +kernel) rfl
theorem wt701 : Cond.code yX3_isProof prog_5_method_3_code 4 (some .boolean) ∈ WA := wa_t (i := 701) (by decide +kernel) rfl
theorem wt703 : Cond.methodLink RX8 250 yX3_shortest ∈ WA := wa_t (i := 703) (by decide +kernel) rfl
theorem wt704 : Cond.instanceMethod yX3_shortest ∈ WA := wa_t (i := 704) (by decide +kernel) rfl
theorem wt705 : Cond.selects RX3 yX3_shortest yX3_shortest ∈ WA := wa_t (i := 705) (by decide +kernel) rfl
theorem wt706 : Cond.code yX3_shortest prog_5_method_5_code 5 (some .int) ∈ WA := wa_t (i := 706) (by decide +kernel) rfl
theorem wt707 : Cond.methodLink RX3 60 yJ6_bitCount_0f7a4 ∈ WA := wa_t (i := 707) (by decide +kernel) rfl
theorem wt708 : Cond.methodLink RX8 253 yX3_inAll ∈ WA := wa_t (i := 708) (by decide +kernel) rfl
theorem wt709 : Cond.instanceMethod yX3_inAll ∈ WA := wa_t (i := 709) (by decide +kernel) rfl
theorem wt710 : Cond.selects RX3 yX3_inAll yX3_inAll ∈ WA := wa_t (i := 710) (by decide +kernel) rfl
theorem wt711 : Cond.code yX3_inAll prog_5_method_6_code 5 (some .int) ∈ WA := wa_t (i := 711) (by decide +kernel) rfl
theorem wt712 : Cond.methodLink RL 109 yX8_worn ∈ WA := wa_t (i := 712) (by decide +kernel) rfl
theorem wt713 : Cond.instanceMethod yX8_worn ∈ WA := wa_t (i := 713) (by decide +kernel) rfl
theorem wt714 : Cond.selects RX8 yX8_worn yX8_worn ∈ WA := wa_t (i := 714) (by decide +kernel) rfl
theorem wt715 : Cond.code yX8_worn prog_1_method_24_code 3 (some .int) ∈ WA := wa_t (i := 715) (by decide +kernel) rfl
theorem wt716 : Cond.methodLink RX8 256 yX3_howManyWear ∈ WA := wa_t (i := 716) (by decide +kernel) rfl
theorem wt717 : Cond.instanceMethod yX3_howManyWear ∈ WA := wa_t (i := 717) (by decide +kernel) rfl
theorem wt718 : Cond.selects RX3 yX3_howManyWear yX3_howManyWear ∈ WA := wa_t (i := 718) (by decide +kernel) rfl
theorem wt719 : Cond.code yX3_howManyWear prog_5_method_7_code 6 (some .int) ∈ WA := wa_t (i := 719) (by decide +kernel) rfl
theorem wt720 : Cond.methodLink RX3 63 yX3_endsOf ∈ WA := wa_t (i := 720) (by decide +kernel) rfl
theorem wt721 : Cond.static yX3_endsOf ∈ WA := wa_t (i := 721) (by decide +kernel) rfl
theorem wt722 : Cond.code yX3_endsOf prog_5_method_8_code 4 (some .int) ∈ WA := wa_t (i := 722) (by decide +kernel) rfl
theorem wt723 : Cond.methodLink RX3 67 yX1_endOf ∈ WA := wa_t (i := 723) (by decide +kernel) rfl
theorem wt724 : Cond.methodLink RL 113 yX8_tell ∈ WA := wa_t (i := 724) (by decide +kernel) rfl
theorem wt725 : Cond.instanceMethod yX8_tell ∈ WA := wa_t (i := 725) (by decide +kernel) rfl
theorem wt726 : Cond.selects RX8 yX8_tell yX8_tell ∈ WA := wa_t (i := 726) (by decide +kernel) rfl
theorem wt727 : Cond.code yX8_tell prog_1_method_25_code 2 (some .int) ∈ WA := wa_t (i := 727) (by decide +kernel) rfl
theorem wt728 : Cond.methodLink RX8 260 yX8_put ∈ WA := wa_t (i := 728) (by decide +kernel) rfl
theorem wt729 : Cond.methodLink RL 117 yX8_noRow ∈ WA := wa_t (i := 729) (by decide +kernel) rfl
theorem wt730 : Cond.instanceMethod yX8_noRow ∈ WA := wa_t (i := 730) (by decide +kernel) rfl
theorem wt731 : Cond.selects RX8 yX8_noRow yX8_noRow ∈ WA := wa_t (i := 731) (by decide +kernel) rfl
theorem wt732 : Cond.code yX8_noRow prog_1_method_26_code 2 (some .int) ∈ WA := wa_t (i := 732) (by decide +kernel) rfl
theorem wt733 : Cond.methodLink RL 121 yX8_judge ∈ WA := wa_t (i := 733) (by decide +kernel) rfl
theorem wt734 : Cond.instanceMethod yX8_judge ∈ WA := wa_t (i := 734) (by decide +kernel) rfl
theorem wt735 : Cond.selects RX8 yX8_judge yX8_judge ∈ WA := wa_t (i := 735) (by decide +kernel) rfl
theorem wt736 : Cond.code yX8_judge prog_1_method_27_code 4 (some .int) ∈ WA := wa_t (i := 736) (by decide +kernel) rfl
theorem wt737 : Cond.methodLink RX8 264 yX8_at ∈ WA := wa_t (i := 737) (by decide +kernel) rfl
theorem wt738 : Cond.methodLink RX8 268 yX1_after ∈ WA := wa_t (i := 738) (by decide +kernel) rfl
theorem wt739 : Cond.methodLink RL 125 yX8_year ∈ WA := wa_t (i := 739) (by decide +kernel) rfl
theorem wt740 : Cond.instanceMethod yX8_year ∈ WA := wa_t (i := 740) (by decide +kernel) rfl
theorem wt741 : Cond.selects RX8 yX8_year yX8_year ∈ WA := wa_t (i := 741) (by decide +kernel) rfl
theorem wt742 : Cond.code yX8_year prog_1_method_28_code 6 (some .int) ∈ WA := wa_t (i := 742) (by decide +kernel) rfl
theorem wt743 : Cond.methodLink RX8 271 yX8_drawnStep ∈ WA := wa_t (i := 743) (by decide +kernel) rfl
theorem wt745 : Cond.instanceMethod yX8_drawnStep ∈ WA := wa_t (i := 745) (by decide +kernel) rfl
theorem wt746 : Cond.code yX8_drawnStep prog_1_method_37_code 6 (some .int) ∈ WA := wa_t (i := 746) (by decide +kernel) rfl
theorem wt747 : Cond.constantLong RX8 285 (7919) ∈ WA := wa_t (i := 747) (by decide +kernel) rfl
theorem wt748 : Cond.constantLong RX8 287 (6151) ∈ WA := wa_t (i := 748) (by decide +kernel) rfl
theorem wt749 : Cond.constantLong RX8 289 (65521) ∈ WA := wa_t (i := 749) (by decide +kernel) rfl
theorem wt750 : Cond.methodLink RL 129 yX8_keep ∈ WA := wa_t (i := 750) (by decide +kernel) rfl
theorem wt751 : Cond.instanceMethod yX8_keep ∈ WA := wa_t (i := 751) (by decide +kernel) rfl
theorem wt752 : Cond.selects RX8 yX8_keep yX8_keep ∈ WA := wa_t (i := 752) (by decide +kernel) rfl
theorem wt753 : Cond.code yX8_keep prog_1_method_29_code 1 (some .int) ∈ WA := wa_t (i := 753) (by decide +kernel) rfl
theorem wt754 : Cond.methodLink RX8 274 yX8_keeperOf ∈ WA := wa_t (i := 754) (by decide +kernel) rfl
theorem wt756 : Cond.instanceMethod yX8_keeperOf ∈ WA := wa_t (i := 756) (by decide +kernel) rfl
theorem wt757 : Cond.code yX8_keeperOf prog_1_method_36_code 2 (some (.object "FloorOfProofs$Floor")) ∈ WA := wa_t (i := 757) (by decide +kernel) rfl
theorem wt758 : Cond.methodLink RL 133 yX8_back ∈ WA := wa_t (i := 758) (by decide +kernel) rfl
theorem wt759 : Cond.instanceMethod yX8_back ∈ WA := wa_t (i := 759) (by decide +kernel) rfl
theorem wt760 : Cond.selects RX8 yX8_back yX8_back ∈ WA := wa_t (i := 760) (by decide +kernel) rfl
theorem wt761 : Cond.code yX8_back prog_1_method_30_code 1 (some .int) ∈ WA := wa_t (i := 761) (by decide +kernel) rfl
theorem wt762 : Cond.methodLink RL 137 yX8_count ∈ WA := wa_t (i := 762) (by decide +kernel) rfl
theorem wt763 : Cond.instanceMethod yX8_count ∈ WA := wa_t (i := 763) (by decide +kernel) rfl
theorem wt764 : Cond.selects RX8 yX8_count yX8_count ∈ WA := wa_t (i := 764) (by decide +kernel) rfl
theorem wt765 : Cond.code yX8_count prog_1_method_31_code 2 (some .int) ∈ WA := wa_t (i := 765) (by decide +kernel) rfl
theorem wt766 : Cond.classLink RL 10 RX9 ∈ WA := wa_t (i := 766) (by decide +kernel) rfl
theorem wt767 : Cond.instantiable RX9 13 ∈ WA := wa_t (i := 767) (by decide +kernel) rfl
theorem wt768 : Cond.methodLink RL 12 yX9_init ∈ WA := wa_t (i := 768) (by decide +kernel) rfl
theorem wt769 : Cond.instanceMethod yX9_init ∈ WA := wa_t (i := 769) (by decide +kernel) rfl
theorem wt770 : Cond.code yX9_init prog_11_method_1_code 1 (none : Option Jvm.ClassFile.FieldType) ∈ WA := wa_t (i := 770) (by decide +kernel) rfl
theorem wt771 : Cond.methodLink RX9 1 Jvm.Lib.objectInit ∈ WA := wa_t (i := 771) (by decide +kernel) rfl
theorem wt772 : Cond.methodLink RX9 32 yX9_makeAnew ∈ WA := wa_t (i := 772) (by decide +kernel) rfl
theorem wt774 : Cond.instanceMethod yX9_makeAnew ∈ WA := wa_t (i := 774) (by decide +kernel) rfl
theorem wt775 : Cond.code yX9_makeAnew prog_11_method_7_code 3 (none : Option Jvm.ClassFile.FieldType) ∈ WA := wa_t (i := 775) (by decide +kernel) rfl
theorem wt776 : Cond.methodLink RX9 36 yX9_layStep ∈ WA := wa_t (i := 776) (by decide +kernel) rfl
theorem wt778 : Cond.instanceMethod yX9_layStep ∈ WA := wa_t (i := 778) (by decide +kernel) rfl
theorem wt779 : Cond.code yX9_layStep prog_11_method_8_code 6 (none : Option Jvm.ClassFile.FieldType) ∈ WA := wa_t (i := 779) (by decide +kernel) rfl
theorem wt780 : Cond.methodLink RX9 40 yX9_settle ∈ WA := wa_t (i := 780) (by decide +kernel) rfl
theorem wt782 : Cond.instanceMethod yX9_settle ∈ WA := wa_t (i := 782) (by decide +kernel) rfl
theorem wt783 : Cond.code yX9_settle prog_11_method_9_code 2 (none : Option Jvm.ClassFile.FieldType) ∈ WA := wa_t (i := 783) (by decide +kernel) rfl
theorem wt784 : Cond.fieldLink "FloorOfProofsModel" 7 "FloorOfProofsModel" "w" "[I" ∈ WA := wa_t (i := 784) (by decide +kernel) rfl
theorem wt785 : Cond.fieldLink "FloorOfProofsModel" 99 "FloorOfProofsModel" "kept" "I" ∈ WA := wa_t (i := 785) (by decide +kernel) rfl
theorem wt786 : Cond.fieldLink "FloorOfProofsModel" 96 "FloorOfProofsModel" "undoes" "I" ∈ WA := wa_t (i := 786) (by decide +kernel) rfl
theorem wt787 : Cond.fieldLink "FloorOfProofsModel" 13 "FloorOfProofsModel" "text" "[I" ∈ WA := wa_t (i := 787) (by decide +kernel) rfl
theorem wt788 : Cond.fieldLink "FloorOfProofsModel" 49 "FloorOfProofsModel" "texted" "I" ∈ WA := wa_t (i := 788) (by decide +kernel) rfl
theorem wt789 : Cond.fieldLink "FloorOfProofsModel" 16 "FloorOfProofsModel" "told" "[I" ∈ WA := wa_t (i := 789) (by decide +kernel) rfl
theorem wt790 : Cond.fieldLink "FloorOfProofsModel" 93 "FloorOfProofsModel" "toldMany" "I" ∈ WA := wa_t (i := 790) (by decide +kernel) rfl
theorem wt791 : Cond.fieldLink "FloorOfProofsModel" 55 "FloorOfProofsModel" "at" "I" ∈ WA := wa_t (i := 791) (by decide +kernel) rfl
theorem wt792 : Cond.fieldLink "FloorOfProofsModel" 19 "FloorOfProofsModel" "numbers" "[I" ∈ WA := wa_t (i := 792) (by decide +kernel) rfl
theorem wt793 : Cond.fieldLink "FloorOfProofsModel" 69 "FloorOfProofsModel" "others" "Z" ∈ WA := wa_t (i := 793) (by decide +kernel) rfl
theorem wt794 : Cond.fieldLink "FloorOfProofsModel" 22 "FloorOfProofsModel" "rows" "[J" ∈ WA := wa_t (i := 794) (by decide +kernel) rfl
theorem wt795 : Cond.fieldLink "FloorOfProofsModel" 26 "FloorOfProofsModel" "fewest" "[I" ∈ WA := wa_t (i := 795) (by decide +kernel) rfl
theorem wt796 : Cond.fieldLink "FloorOfProofsModel" 29 "FloorOfProofsModel" "deeps" "[I" ∈ WA := wa_t (i := 796) (by decide +kernel) rfl
theorem wt824 : Cond.arrayClass .long ∈ WA := wa_t (i := 824) (by decide +kernel) rfl
theorem wt825 : Cond.methodLink RL 19 yX9_write ∈ WA := wa_t (i := 825) (by decide +kernel) rfl
theorem wt826 : Cond.instanceMethod yX9_write ∈ WA := wa_t (i := 826) (by decide +kernel) rfl
theorem wt827 : Cond.selects RX9 yX9_write yX9_write ∈ WA := wa_t (i := 827) (by decide +kernel) rfl
theorem wt828 : Cond.code yX9_write prog_11_method_13_code 5 (some .int) ∈ WA := wa_t (i := 828) (by decide +kernel) rfl
theorem wt829 : Cond.constantLong RX9 47 (8) ∈ WA := wa_t (i := 829) (by decide +kernel) rfl
theorem wt830 : Cond.methodLink RX9 43 yX9_in ∈ WA := wa_t (i := 830) (by decide +kernel) rfl
theorem wt831 : Cond.static yX9_in ∈ WA := wa_t (i := 831) (by decide +kernel) rfl
theorem wt832 : Cond.code yX9_in prog_11_method_3_code 6 (some .boolean) ∈ WA := wa_t (i := 832) (by decide +kernel) rfl
theorem wt833 : Cond.constantLong RX9 53 (255) ∈ WA := wa_t (i := 833) (by decide +kernel) rfl
theorem wt834 : Cond.methodLink RL 24 yX9_wipe ∈ WA := wa_t (i := 834) (by decide +kernel) rfl
theorem wt835 : Cond.instanceMethod yX9_wipe ∈ WA := wa_t (i := 835) (by decide +kernel) rfl
theorem wt836 : Cond.selects RX9 yX9_wipe yX9_wipe ∈ WA := wa_t (i := 836) (by decide +kernel) rfl
theorem wt837 : Cond.code yX9_wipe prog_11_method_14_code 2 (some .int) ∈ WA := wa_t (i := 837) (by decide +kernel) rfl
theorem wt838 : Cond.methodLink RL 28 yX9_fault ∈ WA := wa_t (i := 838) (by decide +kernel) rfl
theorem wt839 : Cond.instanceMethod yX9_fault ∈ WA := wa_t (i := 839) (by decide +kernel) rfl
theorem wt840 : Cond.selects RX9 yX9_fault yX9_fault ∈ WA := wa_t (i := 840) (by decide +kernel) rfl
theorem wt841 : Cond.code yX9_fault prog_11_method_20_code 2 (some .int) ∈ WA := wa_t (i := 841) (by decide +kernel) rfl
theorem wt842 : Cond.methodLink RX9 82 yX9_readItem ∈ WA := wa_t (i := 842) (by decide +kernel) rfl
theorem wt844 : Cond.instanceMethod yX9_readItem ∈ WA := wa_t (i := 844) (by decide +kernel) rfl
theorem wt845 : Cond.code yX9_readItem prog_11_method_19_code 3 (some .boolean) ∈ WA := wa_t (i := 845) (by decide +kernel) rfl
theorem wt846 : Cond.methodLink RX9 62 yX9_takes ∈ WA := wa_t (i := 846) (by decide +kernel) rfl
theorem wt848 : Cond.instanceMethod yX9_takes ∈ WA := wa_t (i := 848) (by decide +kernel) rfl
theorem wt849 : Cond.code yX9_takes prog_11_method_15_code 5 (some .boolean) ∈ WA := wa_t (i := 849) (by decide +kernel) rfl
theorem wt850 : Cond.constantLong RX9 58 (48) ∈ WA := wa_t (i := 850) (by decide +kernel) rfl
theorem wt851 : Cond.constantLong RX9 60 (57) ∈ WA := wa_t (i := 851) (by decide +kernel) rfl
theorem wt852 : Cond.constantLong RX9 73 (10) ∈ WA := wa_t (i := 852) (by decide +kernel) rfl
theorem wt853 : Cond.methodLink RX9 66 yX9_isRead ∈ WA := wa_t (i := 853) (by decide +kernel) rfl
theorem wt855 : Cond.instanceMethod yX9_isRead ∈ WA := wa_t (i := 855) (by decide +kernel) rfl
theorem wt856 : Cond.code yX9_isRead prog_11_method_16_code 2 (some .boolean) ∈ WA := wa_t (i := 856) (by decide +kernel) rfl
theorem wt857 : Cond.methodLink RX9 75 yX9_readStep ∈ WA := wa_t (i := 857) (by decide +kernel) rfl
theorem wt859 : Cond.instanceMethod yX9_readStep ∈ WA := wa_t (i := 859) (by decide +kernel) rfl
theorem wt860 : Cond.code yX9_readStep prog_11_method_17_code 2 (some .boolean) ∈ WA := wa_t (i := 860) (by decide +kernel) rfl
theorem wt861 : Cond.methodLink RX9 79 yX9_readPair ∈ WA := wa_t (i := 861) (by decide +kernel) rfl
theorem wt863 : Cond.instanceMethod yX9_readPair ∈ WA := wa_t (i := 863) (by decide +kernel) rfl
theorem wt864 : Cond.code yX9_readPair prog_11_method_18_code 2 (some .boolean) ∈ WA := wa_t (i := 864) (by decide +kernel) rfl
theorem wt865 : Cond.methodLink RL 32 yX9_layFloor ∈ WA := wa_t (i := 865) (by decide +kernel) rfl
theorem wt866 : Cond.instanceMethod yX9_layFloor ∈ WA := wa_t (i := 866) (by decide +kernel) rfl
theorem wt867 : Cond.selects RX9 yX9_layFloor yX9_layFloor ∈ WA := wa_t (i := 867) (by decide +kernel) rfl
theorem wt868 : Cond.code yX9_layFloor prog_11_method_21_code 1 (some .int) ∈ WA := wa_t (i := 868) (by decide +kernel) rfl
theorem wt869 : Cond.methodLink RX9 85 yX9_fault ∈ WA := wa_t (i := 869) (by decide +kernel) rfl
theorem wt870 : Cond.methodLink RX9 89 yX9_copy ∈ WA := wa_t (i := 870) (by decide +kernel) rfl
theorem wt872 : Cond.instanceMethod yX9_copy ∈ WA := wa_t (i := 872) (by decide +kernel) rfl
theorem wt873 : Cond.code yX9_copy prog_11_method_6_code 4 (none : Option Jvm.ClassFile.FieldType) ∈ WA := wa_t (i := 873) (by decide +kernel) rfl
theorem wt874 : Cond.methodLink RL 37 yX9_stone ∈ WA := wa_t (i := 874) (by decide +kernel) rfl
theorem wt875 : Cond.instanceMethod yX9_stone ∈ WA := wa_t (i := 875) (by decide +kernel) rfl
theorem wt876 : Cond.selects RX9 yX9_stone yX9_stone ∈ WA := wa_t (i := 876) (by decide +kernel) rfl
theorem wt877 : Cond.code yX9_stone prog_11_method_23_code 3 (some .int) ∈ WA := wa_t (i := 877) (by decide +kernel) rfl
theorem wt878 : Cond.methodLink RX9 106 yX9_isStone ∈ WA := wa_t (i := 878) (by decide +kernel) rfl
theorem wt880 : Cond.instanceMethod yX9_isStone ∈ WA := wa_t (i := 880) (by decide +kernel) rfl
theorem wt881 : Cond.code yX9_isStone prog_11_method_10_code 2 (some .boolean) ∈ WA := wa_t (i := 881) (by decide +kernel) rfl
theorem wt882 : Cond.constantLong RX9 109 (4) ∈ WA := wa_t (i := 882) (by decide +kernel) rfl
theorem wt883 : Cond.methodLink RL 41 yX9_step ∈ WA := wa_t (i := 883) (by decide +kernel) rfl
theorem wt884 : Cond.instanceMethod yX9_step ∈ WA := wa_t (i := 884) (by decide +kernel) rfl
theorem wt885 : Cond.selects RX9 yX9_step yX9_step ∈ WA := wa_t (i := 885) (by decide +kernel) rfl
theorem wt886 : Cond.code yX9_step prog_11_method_24_code 3 (some .int) ∈ WA := wa_t (i := 886) (by decide +kernel) rfl
theorem wt887 : Cond.methodLink RX9 111 yX9_isStep ∈ WA := wa_t (i := 887) (by decide +kernel) rfl
theorem wt889 : Cond.instanceMethod yX9_isStep ∈ WA := wa_t (i := 889) (by decide +kernel) rfl
theorem wt890 : Cond.code yX9_isStep prog_11_method_12_code 2 (some .boolean) ∈ WA := wa_t (i := 890) (by decide +kernel) rfl
theorem wt891 : Cond.constantLong RX9 114 (3) ∈ WA := wa_t (i := 891) (by decide +kernel) rfl
theorem wt892 : Cond.methodLink RX9 116 yX9_may ∈ WA := wa_t (i := 892) (by decide +kernel) rfl
theorem wt894 : Cond.instanceMethod yX9_may ∈ WA := wa_t (i := 894) (by decide +kernel) rfl
theorem wt895 : Cond.code yX9_may prog_11_method_22_code 3 (some .boolean) ∈ WA := wa_t (i := 895) (by decide +kernel) rfl
theorem wt896 : Cond.methodLink RX9 102 yX9_has ∈ WA := wa_t (i := 896) (by decide +kernel) rfl
theorem wt897 : Cond.static yX9_has ∈ WA := wa_t (i := 897) (by decide +kernel) rfl
theorem wt898 : Cond.code yX9_has prog_11_method_4_code 2 (some .boolean) ∈ WA := wa_t (i := 898) (by decide +kernel) rfl
theorem wt899 : Cond.methodLink RL 46 yX9_go ∈ WA := wa_t (i := 899) (by decide +kernel) rfl
theorem wt900 : Cond.instanceMethod yX9_go ∈ WA := wa_t (i := 900) (by decide +kernel) rfl
theorem wt901 : Cond.selects RX9 yX9_go yX9_go ∈ WA := wa_t (i := 901) (by decide +kernel) rfl
theorem wt902 : Cond.code yX9_go prog_11_method_26_code 2 (some .int) ∈ WA := wa_t (i := 902) (by decide +kernel) rfl
theorem wt903 : Cond.methodLink RX9 119 yX9_minds ∈ WA := wa_t (i := 903) (by decide +kernel) rfl
theorem wt905 : Cond.instanceMethod yX9_minds ∈ WA := wa_t (i := 905) (by decide +kernel) rfl
theorem wt906 : Cond.code yX9_minds prog_11_method_25_code 2 (none : Option Jvm.ClassFile.FieldType) ∈ WA := wa_t (i := 906) (by decide +kernel) rfl
theorem wt907 : Cond.methodLink RX9 122 yX9_ones ∈ WA := wa_t (i := 907) (by decide +kernel) rfl
theorem wt908 : Cond.static yX9_ones ∈ WA := wa_t (i := 908) (by decide +kernel) rfl
theorem wt909 : Cond.code yX9_ones prog_11_method_5_code 3 (some .int) ∈ WA := wa_t (i := 909) (by decide +kernel) rfl
theorem wt910 : Cond.methodLink RL 50 yX9_takeOut ∈ WA := wa_t (i := 910) (by decide +kernel) rfl
theorem wt911 : Cond.instanceMethod yX9_takeOut ∈ WA := wa_t (i := 911) (by decide +kernel) rfl
theorem wt912 : Cond.selects RX9 yX9_takeOut yX9_takeOut ∈ WA := wa_t (i := 912) (by decide +kernel) rfl
theorem wt913 : Cond.code yX9_takeOut prog_11_method_27_code 2 (some .int) ∈ WA := wa_t (i := 913) (by decide +kernel) rfl
theorem wt914 : Cond.methodLink RL 55 yX9_lay ∈ WA := wa_t (i := 914) (by decide +kernel) rfl
theorem wt915 : Cond.instanceMethod yX9_lay ∈ WA := wa_t (i := 915) (by decide +kernel) rfl
theorem wt916 : Cond.selects RX9 yX9_lay yX9_lay ∈ WA := wa_t (i := 916) (by decide +kernel) rfl
theorem wt917 : Cond.code yX9_lay prog_11_method_28_code 4 (some .int) ∈ WA := wa_t (i := 917) (by decide +kernel) rfl
theorem wt918 : Cond.methodLink RL 59 yX9_undo ∈ WA := wa_t (i := 918) (by decide +kernel) rfl
theorem wt919 : Cond.instanceMethod yX9_undo ∈ WA := wa_t (i := 919) (by decide +kernel) rfl
theorem wt920 : Cond.selects RX9 yX9_undo yX9_undo ∈ WA := wa_t (i := 920) (by decide +kernel) rfl
theorem wt921 : Cond.code yX9_undo prog_11_method_29_code 1 (some .int) ∈ WA := wa_t (i := 921) (by decide +kernel) rfl
theorem wt922 : Cond.methodLink RL 63 yX9_reach ∈ WA := wa_t (i := 922) (by decide +kernel) rfl
theorem wt923 : Cond.instanceMethod yX9_reach ∈ WA := wa_t (i := 923) (by decide +kernel) rfl
theorem wt924 : Cond.selects RX9 yX9_reach yX9_reach ∈ WA := wa_t (i := 924) (by decide +kernel) rfl
theorem wt925 : Cond.code yX9_reach prog_11_method_34_code 2 (some .int) ∈ WA := wa_t (i := 925) (by decide +kernel) rfl
theorem wt926 : Cond.methodLink RX9 133 yX9_isSet ∈ WA := wa_t (i := 926) (by decide +kernel) rfl
theorem wt928 : Cond.instanceMethod yX9_isSet ∈ WA := wa_t (i := 928) (by decide +kernel) rfl
theorem wt929 : Cond.code yX9_isSet prog_11_method_11_code 2 (some .boolean) ∈ WA := wa_t (i := 929) (by decide +kernel) rfl
theorem wt930 : Cond.methodLink RX9 136 yX9_reachOf ∈ WA := wa_t (i := 930) (by decide +kernel) rfl
theorem wt932 : Cond.instanceMethod yX9_reachOf ∈ WA := wa_t (i := 932) (by decide +kernel) rfl
theorem wt933 : Cond.code yX9_reachOf prog_11_method_32_code 2 (some .int) ∈ WA := wa_t (i := 933) (by decide +kernel) rfl
theorem wt934 : Cond.methodLink RX9 126 yX9_allSteps ∈ WA := wa_t (i := 934) (by decide +kernel) rfl
theorem wt936 : Cond.instanceMethod yX9_allSteps ∈ WA := wa_t (i := 936) (by decide +kernel) rfl
theorem wt937 : Cond.code yX9_allSteps prog_11_method_31_code 1 (some .int) ∈ WA := wa_t (i := 937) (by decide +kernel) rfl
theorem wt938 : Cond.methodLink RX9 129 yX9_closure ∈ WA := wa_t (i := 938) (by decide +kernel) rfl
theorem wt940 : Cond.instanceMethod yX9_closure ∈ WA := wa_t (i := 940) (by decide +kernel) rfl
theorem wt941 : Cond.code yX9_closure prog_11_method_30_code 8 (some .int) ∈ WA := wa_t (i := 941) (by decide +kernel) rfl
theorem wt942 : Cond.methodLink RL 68 yX9_walk ∈ WA := wa_t (i := 942) (by decide +kernel) rfl
theorem wt943 : Cond.instanceMethod yX9_walk ∈ WA := wa_t (i := 943) (by decide +kernel) rfl
theorem wt944 : Cond.selects RX9 yX9_walk yX9_walk ∈ WA := wa_t (i := 944) (by decide +kernel) rfl
theorem wt945 : Cond.code yX9_walk prog_11_method_37_code 7 (some .long) ∈ WA := wa_t (i := 945) (by decide +kernel) rfl
theorem wt946 : Cond.constantLong RX9 142 (2) ∈ WA := wa_t (i := 946) (by decide +kernel) rfl
theorem wt947 : Cond.constantLong RX9 144 (-1) ∈ WA := wa_t (i := 947) (by decide +kernel) rfl
theorem wt948 : Cond.methodLink RX9 146 yX9_layWalks ∈ WA := wa_t (i := 948) (by decide +kernel) rfl
theorem wt950 : Cond.instanceMethod yX9_layWalks ∈ WA := wa_t (i := 950) (by decide +kernel) rfl
theorem wt951 : Cond.code yX9_layWalks prog_11_method_36_code 5 (none : Option Jvm.ClassFile.FieldType) ∈ WA := wa_t (i := 951) (by decide +kernel) rfl
theorem wt952 : Cond.methodLink RX9 139 yX9_mayFrom ∈ WA := wa_t (i := 952) (by decide +kernel) rfl
theorem wt954 : Cond.instanceMethod yX9_mayFrom ∈ WA := wa_t (i := 954) (by decide +kernel) rfl
theorem wt955 : Cond.code yX9_mayFrom prog_11_method_35_code 3 (some .boolean) ∈ WA := wa_t (i := 955) (by decide +kernel) rfl
theorem wt956 : Cond.constantLong RX9 149 (-4) ∈ WA := wa_t (i := 956) (by decide +kernel) rfl
theorem wt957 : Cond.methodLink RL 72 yX9_round ∈ WA := wa_t (i := 957) (by decide +kernel) rfl
theorem wt958 : Cond.instanceMethod yX9_round ∈ WA := wa_t (i := 958) (by decide +kernel) rfl
theorem wt959 : Cond.selects RX9 yX9_round yX9_round ∈ WA := wa_t (i := 959) (by decide +kernel) rfl
theorem wt960 : Cond.code yX9_round prog_11_method_38_code 6 (some .int) ∈ WA := wa_t (i := 960) (by decide +kernel) rfl
theorem wt961 : Cond.methodLink RL 76 yX9_needs ∈ WA := wa_t (i := 961) (by decide +kernel) rfl
theorem wt962 : Cond.instanceMethod yX9_needs ∈ WA := wa_t (i := 962) (by decide +kernel) rfl
theorem wt963 : Cond.selects RX9 yX9_needs yX9_needs ∈ WA := wa_t (i := 963) (by decide +kernel) rfl
theorem wt964 : Cond.code yX9_needs prog_11_method_39_code 8 (some .int) ∈ WA := wa_t (i := 964) (by decide +kernel) rfl
theorem wt965 : Cond.methodLink RX9 151 yX9_beginnings ∈ WA := wa_t (i := 965) (by decide +kernel) rfl
theorem wt967 : Cond.instanceMethod yX9_beginnings ∈ WA := wa_t (i := 967) (by decide +kernel) rfl
theorem wt968 : Cond.code yX9_beginnings prog_11_method_33_code 1 (some .int) ∈ WA := wa_t (i := 968) (by decide +kernel) rfl
theorem wt969 : Cond.methodLink RL 80 yX9_lost ∈ WA := wa_t (i := 969) (by decide +kernel) rfl
theorem wt970 : Cond.instanceMethod yX9_lost ∈ WA := wa_t (i := 970) (by decide +kernel) rfl
theorem wt971 : Cond.selects RX9 yX9_lost yX9_lost ∈ WA := wa_t (i := 971) (by decide +kernel) rfl
theorem wt972 : Cond.code yX9_lost prog_11_method_40_code 4 (some .int) ∈ WA := wa_t (i := 972) (by decide +kernel) rfl
theorem wt973 : Cond.methodLink RL 84 yX9_begin ∈ WA := wa_t (i := 973) (by decide +kernel) rfl
theorem wt974 : Cond.instanceMethod yX9_begin ∈ WA := wa_t (i := 974) (by decide +kernel) rfl
theorem wt975 : Cond.selects RX9 yX9_begin yX9_begin ∈ WA := wa_t (i := 975) (by decide +kernel) rfl
theorem wt976 : Cond.code yX9_begin prog_11_method_42_code 2 (some .int) ∈ WA := wa_t (i := 976) (by decide +kernel) rfl
theorem wt977 : Cond.methodLink RX9 154 yX9_begins ∈ WA := wa_t (i := 977) (by decide +kernel) rfl
theorem wt979 : Cond.instanceMethod yX9_begins ∈ WA := wa_t (i := 979) (by decide +kernel) rfl
theorem wt980 : Cond.code yX9_begins prog_11_method_41_code 5 (some .int) ∈ WA := wa_t (i := 980) (by decide +kernel) rfl
theorem wt981 : Cond.methodLink RL 88 yX9_hall ∈ WA := wa_t (i := 981) (by decide +kernel) rfl
theorem wt982 : Cond.instanceMethod yX9_hall ∈ WA := wa_t (i := 982) (by decide +kernel) rfl
theorem wt983 : Cond.selects RX9 yX9_hall yX9_hall ∈ WA := wa_t (i := 983) (by decide +kernel) rfl
theorem wt984 : Cond.code yX9_hall prog_11_method_44_code 5 (some .int) ∈ WA := wa_t (i := 984) (by decide +kernel) rfl
theorem wt985 : Cond.methodLink RX9 157 yX9_isHall ∈ WA := wa_t (i := 985) (by decide +kernel) rfl
theorem wt987 : Cond.instanceMethod yX9_isHall ∈ WA := wa_t (i := 987) (by decide +kernel) rfl
theorem wt988 : Cond.code yX9_isHall prog_11_method_43_code 5 (some .boolean) ∈ WA := wa_t (i := 988) (by decide +kernel) rfl
theorem wt989 : Cond.methodLink RL 92 yX9_rope ∈ WA := wa_t (i := 989) (by decide +kernel) rfl
theorem wt990 : Cond.instanceMethod yX9_rope ∈ WA := wa_t (i := 990) (by decide +kernel) rfl
theorem wt991 : Cond.selects RX9 yX9_rope yX9_rope ∈ WA := wa_t (i := 991) (by decide +kernel) rfl
theorem wt992 : Cond.code yX9_rope prog_11_method_45_code 4 (some .int) ∈ WA := wa_t (i := 992) (by decide +kernel) rfl
theorem wt993 : Cond.methodLink RL 96 yX9_idle ∈ WA := wa_t (i := 993) (by decide +kernel) rfl
theorem wt994 : Cond.instanceMethod yX9_idle ∈ WA := wa_t (i := 994) (by decide +kernel) rfl
theorem wt995 : Cond.selects RX9 yX9_idle yX9_idle ∈ WA := wa_t (i := 995) (by decide +kernel) rfl
theorem wt996 : Cond.code yX9_idle prog_11_method_46_code 4 (some .int) ∈ WA := wa_t (i := 996) (by decide +kernel) rfl
theorem wt997 : Cond.methodLink RL 100 yX9_circle ∈ WA := wa_t (i := 997) (by decide +kernel) rfl
theorem wt998 : Cond.instanceMethod yX9_circle ∈ WA := wa_t (i := 998) (by decide +kernel) rfl
theorem wt999 : Cond.selects RX9 yX9_circle yX9_circle ∈ WA := wa_t (i := 999) (by decide +kernel) rfl
theorem wt1000 : Cond.code yX9_circle prog_11_method_48_code 3 (some .int) ∈ WA := wa_t (i := 1000) (by decide +kernel) rfl
theorem wt1001 : Cond.methodLink RX9 160 yX9_leads ∈ WA := wa_t (i := 1001) (by decide +kernel) rfl
theorem wt1003 : Cond.instanceMethod yX9_leads ∈ WA := wa_t (i := 1003) (by decide +kernel) rfl
theorem wt1004 : Cond.code yX9_leads prog_11_method_47_code 6 (some .int) ∈ WA := wa_t (i := 1004) (by decide +kernel) rfl
theorem wt1005 : Cond.methodLink RL 104 yX9_deep ∈ WA := wa_t (i := 1005) (by decide +kernel) rfl
theorem wt1006 : Cond.instanceMethod yX9_deep ∈ WA := wa_t (i := 1006) (by decide +kernel) rfl
theorem wt1007 : Cond.selects RX9 yX9_deep yX9_deep ∈ WA := wa_t (i := 1007) (by decide +kernel) rfl
theorem wt1008 : Cond.code yX9_deep prog_11_method_49_code 5 (some .int) ∈ WA := wa_t (i := 1008) (by decide +kernel) rfl
theorem wt1009 : Cond.methodLink RX9 163 yX9_circle ∈ WA := wa_t (i := 1009) (by decide +kernel) rfl
theorem wt1010 : Cond.methodLink RL 108 yX9_proofs ∈ WA := wa_t (i := 1010) (by decide +kernel) rfl
theorem wt1011 : Cond.instanceMethod yX9_proofs ∈ WA := wa_t (i := 1011) (by decide +kernel) rfl
theorem wt1012 : Cond.selects RX9 yX9_proofs yX9_proofs ∈ WA := wa_t (i := 1012) (by decide +kernel) rfl
theorem wt1013 : Cond.code yX9_proofs prog_11_method_52_code 7 (some .int) ∈ WA := wa_t (i := 1013) (by decide +kernel) rfl
theorem wt1014 : Cond.methodLink RX9 169 yX9_isProof ∈ WA := wa_t (i := 1014) (by decide +kernel) rfl
theorem wt1016 : Cond.instanceMethod yX9_isProof ∈ WA := wa_t (i := 1016) (by decide +kernel) rfl
theorem wt1017 : Cond.code yX9_isProof prog_11_method_51_code 5 (some .boolean) ∈ WA := wa_t (i := 1017) (by decide +kernel) rfl
theorem wt1018 : Cond.methodLink RX9 166 yX9_proves ∈ WA := wa_t (i := 1018) (by decide +kernel) rfl
theorem wt1020 : Cond.instanceMethod yX9_proves ∈ WA := wa_t (i := 1020) (by decide +kernel) rfl
theorem wt1021 : Cond.code yX9_proves prog_11_method_50_code 3 (some .boolean) ∈ WA := wa_t (i := 1021) (by decide +kernel) rfl
theorem wt1022 : Cond.methodLink RL 112 yX9_worn ∈ WA := wa_t (i := 1022) (by decide +kernel) rfl
theorem wt1023 : Cond.instanceMethod yX9_worn ∈ WA := wa_t (i := 1023) (by decide +kernel) rfl
theorem wt1024 : Cond.selects RX9 yX9_worn yX9_worn ∈ WA := wa_t (i := 1024) (by decide +kernel) rfl
theorem wt1025 : Cond.code yX9_worn prog_11_method_53_code 7 (some .int) ∈ WA := wa_t (i := 1025) (by decide +kernel) rfl
theorem wt1026 : Cond.methodLink RL 116 yX9_tell ∈ WA := wa_t (i := 1026) (by decide +kernel) rfl
theorem wt1027 : Cond.instanceMethod yX9_tell ∈ WA := wa_t (i := 1027) (by decide +kernel) rfl
theorem wt1028 : Cond.selects RX9 yX9_tell yX9_tell ∈ WA := wa_t (i := 1028) (by decide +kernel) rfl
theorem wt1029 : Cond.code yX9_tell prog_11_method_54_code 2 (some .int) ∈ WA := wa_t (i := 1029) (by decide +kernel) rfl
theorem wt1030 : Cond.methodLink RL 120 yX9_noRow ∈ WA := wa_t (i := 1030) (by decide +kernel) rfl
theorem wt1031 : Cond.instanceMethod yX9_noRow ∈ WA := wa_t (i := 1031) (by decide +kernel) rfl
theorem wt1032 : Cond.selects RX9 yX9_noRow yX9_noRow ∈ WA := wa_t (i := 1032) (by decide +kernel) rfl
theorem wt1033 : Cond.code yX9_noRow prog_11_method_55_code 2 (some .int) ∈ WA := wa_t (i := 1033) (by decide +kernel) rfl
theorem wt1034 : Cond.methodLink RL 124 yX9_judge ∈ WA := wa_t (i := 1034) (by decide +kernel) rfl
theorem wt1035 : Cond.instanceMethod yX9_judge ∈ WA := wa_t (i := 1035) (by decide +kernel) rfl
theorem wt1036 : Cond.selects RX9 yX9_judge yX9_judge ∈ WA := wa_t (i := 1036) (by decide +kernel) rfl
theorem wt1037 : Cond.code yX9_judge prog_11_method_56_code 3 (some .int) ∈ WA := wa_t (i := 1037) (by decide +kernel) rfl
theorem wt1038 : Cond.methodLink RL 128 yX9_year ∈ WA := wa_t (i := 1038) (by decide +kernel) rfl
theorem wt1039 : Cond.instanceMethod yX9_year ∈ WA := wa_t (i := 1039) (by decide +kernel) rfl
theorem wt1040 : Cond.selects RX9 yX9_year yX9_year ∈ WA := wa_t (i := 1040) (by decide +kernel) rfl
theorem wt1041 : Cond.code yX9_year prog_11_method_57_code 10 (some .int) ∈ WA := wa_t (i := 1041) (by decide +kernel) rfl
theorem wt1042 : Cond.constantLong RX9 172 (9999) ∈ WA := wa_t (i := 1042) (by decide +kernel) rfl
theorem wt1043 : Cond.constantLong RX9 174 (99) ∈ WA := wa_t (i := 1043) (by decide +kernel) rfl
theorem wt1044 : Cond.constantLong RX9 176 (7919) ∈ WA := wa_t (i := 1044) (by decide +kernel) rfl
theorem wt1045 : Cond.constantLong RX9 178 (6151) ∈ WA := wa_t (i := 1045) (by decide +kernel) rfl
theorem wt1046 : Cond.constantLong RX9 180 (65521) ∈ WA := wa_t (i := 1046) (by decide +kernel) rfl
theorem wt1047 : Cond.methodLink RL 132 yX9_keep ∈ WA := wa_t (i := 1047) (by decide +kernel) rfl
theorem wt1048 : Cond.instanceMethod yX9_keep ∈ WA := wa_t (i := 1048) (by decide +kernel) rfl
theorem wt1049 : Cond.selects RX9 yX9_keep yX9_keep ∈ WA := wa_t (i := 1049) (by decide +kernel) rfl
theorem wt1050 : Cond.code yX9_keep prog_11_method_58_code 1 (some .int) ∈ WA := wa_t (i := 1050) (by decide +kernel) rfl
theorem wt1051 : Cond.methodLink RL 136 yX9_back ∈ WA := wa_t (i := 1051) (by decide +kernel) rfl
theorem wt1052 : Cond.instanceMethod yX9_back ∈ WA := wa_t (i := 1052) (by decide +kernel) rfl
theorem wt1053 : Cond.selects RX9 yX9_back yX9_back ∈ WA := wa_t (i := 1053) (by decide +kernel) rfl
theorem wt1054 : Cond.code yX9_back prog_11_method_59_code 1 (some .int) ∈ WA := wa_t (i := 1054) (by decide +kernel) rfl
theorem wt1055 : Cond.methodLink RL 140 yX9_count ∈ WA := wa_t (i := 1055) (by decide +kernel) rfl
theorem wt1056 : Cond.instanceMethod yX9_count ∈ WA := wa_t (i := 1056) (by decide +kernel) rfl
theorem wt1057 : Cond.selects RX9 yX9_count yX9_count ∈ WA := wa_t (i := 1057) (by decide +kernel) rfl
theorem wt1058 : Cond.code yX9_count prog_11_method_60_code 2 (some .int) ∈ WA := wa_t (i := 1058) (by decide +kernel) rfl
theorem wt1059 : Cond.constantLong RL 13 (4294967295) ∈ WA := wa_t (i := 1059) (by decide +kernel) rfl
theorem wt1060 : Cond.fieldLink "java/lang/String" 9 "java/lang/String" "value" "[B" ∈ WA := wa_t (i := 1060) (by decide +kernel) rfl
theorem wt1061 : Cond.fieldLink "java/lang/String" 15 "java/lang/String" "coder" "B" ∈ WA := wa_t (i := 1061) (by decide +kernel) rfl
theorem wp0 : Cond.selects RX4 yX4_itemsEnd yX4_itemsEnd ∈ WA := wa_s (i := 0) (by decide +kernel) rfl
theorem wp1 : Cond.selects RX4 yX4_takeItem yX4_takeItem ∈ WA := wa_s (i := 1) (by decide +kernel) rfl
theorem wp2 : Cond.selects RX8 yX8_forgetRowAndPast yX8_forgetRowAndPast ∈ WA := wa_s (i := 2) (by decide +kernel) rfl
theorem wp3 : Cond.selects RX8 yX8_isStone yX8_isStone ∈ WA := wa_s (i := 3) (by decide +kernel) rfl
theorem wp4 : Cond.selects RX8 yX8_isStep yX8_isStep ∈ WA := wa_s (i := 4) (by decide +kernel) rfl
theorem wp5 : Cond.selects RX1 yX1_afterAmong yX1_afterAmong ∈ WA := wa_s (i := 5) (by decide +kernel) rfl
theorem wp6 : Cond.selects RX2 yX2_note yX2_note ∈ WA := wa_s (i := 6) (by decide +kernel) rfl
theorem wp7 : Cond.selects RX2 yX2_forgetOldest yX2_forgetOldest ∈ WA := wa_s (i := 7) (by decide +kernel) rfl
theorem wp8 : Cond.selects RX8 yX8_isSetOfStones yX8_isSetOfStones ∈ WA := wa_s (i := 8) (by decide +kernel) rfl
theorem wp9 : Cond.selects RX7 yX7_measureFrom yX7_measureFrom ∈ WA := wa_s (i := 9) (by decide +kernel) rfl
theorem wp10 : Cond.selects RX3 yX3_isProof yX3_isProof ∈ WA := wa_s (i := 10) (by decide +kernel) rfl
theorem wp11 : Cond.selects RX8 yX8_drawnStep yX8_drawnStep ∈ WA := wa_s (i := 11) (by decide +kernel) rfl
theorem wp12 : Cond.selects RX8 yX8_keeperOf yX8_keeperOf ∈ WA := wa_s (i := 12) (by decide +kernel) rfl
theorem wp13 : Cond.selects RX9 yX9_makeAnew yX9_makeAnew ∈ WA := wa_s (i := 13) (by decide +kernel) rfl
theorem wp14 : Cond.selects RX9 yX9_layStep yX9_layStep ∈ WA := wa_s (i := 14) (by decide +kernel) rfl
theorem wp15 : Cond.selects RX9 yX9_settle yX9_settle ∈ WA := wa_s (i := 15) (by decide +kernel) rfl
theorem wp16 : Cond.selects RX9 yX9_readItem yX9_readItem ∈ WA := wa_s (i := 16) (by decide +kernel) rfl
theorem wp17 : Cond.selects RX9 yX9_takes yX9_takes ∈ WA := wa_s (i := 17) (by decide +kernel) rfl
theorem wp18 : Cond.selects RX9 yX9_isRead yX9_isRead ∈ WA := wa_s (i := 18) (by decide +kernel) rfl
theorem wp19 : Cond.selects RX9 yX9_readStep yX9_readStep ∈ WA := wa_s (i := 19) (by decide +kernel) rfl
theorem wp20 : Cond.selects RX9 yX9_readPair yX9_readPair ∈ WA := wa_s (i := 20) (by decide +kernel) rfl
theorem wp21 : Cond.selects RX9 yX9_copy yX9_copy ∈ WA := wa_s (i := 21) (by decide +kernel) rfl
theorem wp22 : Cond.selects RX9 yX9_isStone yX9_isStone ∈ WA := wa_s (i := 22) (by decide +kernel) rfl
theorem wp23 : Cond.selects RX9 yX9_isStep yX9_isStep ∈ WA := wa_s (i := 23) (by decide +kernel) rfl
theorem wp24 : Cond.selects RX9 yX9_may yX9_may ∈ WA := wa_s (i := 24) (by decide +kernel) rfl
theorem wp25 : Cond.selects RX9 yX9_minds yX9_minds ∈ WA := wa_s (i := 25) (by decide +kernel) rfl
theorem wp26 : Cond.selects RX9 yX9_isSet yX9_isSet ∈ WA := wa_s (i := 26) (by decide +kernel) rfl
theorem wp27 : Cond.selects RX9 yX9_reachOf yX9_reachOf ∈ WA := wa_s (i := 27) (by decide +kernel) rfl
theorem wp28 : Cond.selects RX9 yX9_allSteps yX9_allSteps ∈ WA := wa_s (i := 28) (by decide +kernel) rfl
theorem wp29 : Cond.selects RX9 yX9_closure yX9_closure ∈ WA := wa_s (i := 29) (by decide +kernel) rfl
theorem wp30 : Cond.selects RX9 yX9_layWalks yX9_layWalks ∈ WA := wa_s (i := 30) (by decide +kernel) rfl
theorem wp31 : Cond.selects RX9 yX9_mayFrom yX9_mayFrom ∈ WA := wa_s (i := 31) (by decide +kernel) rfl
theorem wp32 : Cond.selects RX9 yX9_beginnings yX9_beginnings ∈ WA := wa_s (i := 32) (by decide +kernel) rfl
theorem wp33 : Cond.selects RX9 yX9_begins yX9_begins ∈ WA := wa_s (i := 33) (by decide +kernel) rfl
theorem wp34 : Cond.selects RX9 yX9_isHall yX9_isHall ∈ WA := wa_s (i := 34) (by decide +kernel) rfl
theorem wp35 : Cond.selects RX9 yX9_leads yX9_leads ∈ WA := wa_s (i := 35) (by decide +kernel) rfl
theorem wp36 : Cond.selects RX9 yX9_isProof yX9_isProof ∈ WA := wa_s (i := 36) (by decide +kernel) rfl
theorem wp37 : Cond.selects RX9 yX9_proves yX9_proves ∈ WA := wa_s (i := 37) (by decide +kernel) rfl
theorem inWX1 : ∀ w ∈ wsX10, w ∈ WA := fun w h => wa_in (by revert w; decide +kernel) (by revert w; decide +kernel)
theorem inWX2 : ∀ w ∈ wsX20, w ∈ WA := fun w h => wa_in (by revert w; decide +kernel) (by revert w; decide +kernel)
theorem inWX3 : ∀ w ∈ wsX30, w ∈ WA := fun w h => wa_in (by revert w; decide +kernel) (by revert w; decide +kernel)
theorem inWX4 : ∀ w ∈ wsX40, w ∈ WA := fun w h => wa_in (by revert w; decide +kernel) (by revert w; decide +kernel)
theorem inWX6 : ∀ w ∈ wsX60, w ∈ WA := fun w h => wa_in (by revert w; decide +kernel) (by revert w; decide +kernel)
theorem inWX7 : ∀ w ∈ wsX70, w ∈ WA := fun w h => wa_in (by revert w; decide +kernel) (by revert w; decide +kernel)
theorem inWX8 : ∀ w ∈ wsX80, w ∈ WA := fun w h => wa_in (by revert w; decide +kernel) (by revert w; decide +kernel)
theorem inWX9 : ∀ w ∈ wsX90, w ∈ WA := fun w h => wa_in (by revert w; decide +kernel) (by revert w; decide +kernel)
end
section
theorem dX0_leadTo_0 : decode cX0_leadTo 0 = .ok (.aload_n 0, 1) := by decide +kernel
theorem dX0_leadTo_1 : decode cX0_leadTo 1 = .ok (.iload_n 1, 1) := by decide +kernel
theorem dX0_leadTo_2 : decode cX0_leadTo 2 = .ok (.aload_n 0, 1) := by decide +kernel
theorem dX0_leadTo_3 : decode cX0_leadTo 3 = .ok (.invokevirtual 9, 3) := by decide +kernel
theorem dX0_leadTo_6 : decode cX0_leadTo 6 = .ok (.invokestatic 15, 3) := by decide +kernel
theorem dX0_leadTo_9 : decode cX0_leadTo 9 = .ok (.ireturn, 1) := by decide +kernel
theorem dX0_leadIntoHall_0 : decode cX0_leadIntoHall 0 = .ok (.aload_n 0, 1) := by decide +kernel
theorem dX0_leadIntoHall_1 : decode cX0_leadIntoHall 1 = .ok (.iconst (-1), 1) := by decide +kernel
theorem dX0_leadIntoHall_2 : decode cX0_leadIntoHall 2 = .ok (.aload_n 0, 1) := by decide +kernel
theorem dX0_leadIntoHall_3 : decode cX0_leadIntoHall 3 = .ok (.invokevirtual 9, 3) := by decide +kernel
theorem dX0_leadIntoHall_6 : decode cX0_leadIntoHall 6 = .ok (.invokestatic 15, 3) := by decide +kernel
theorem dX0_leadIntoHall_9 : decode cX0_leadIntoHall 9 = .ok (.ireturn, 1) := by decide +kernel
theorem dX0_neededFor_0 : decode cX0_neededFor 0 = .ok (.iconst 0, 1) := by decide +kernel
theorem dX0_neededFor_1 : decode cX0_neededFor 1 = .ok (.istore_n 2, 1) := by decide +kernel
theorem dX0_neededFor_2 : decode cX0_neededFor 2 = .ok (.iconst 0, 1) := by decide +kernel
theorem dX0_neededFor_3 : decode cX0_neededFor 3 = .ok (.istore_n 3, 1) := by decide +kernel
theorem dX0_neededFor_4 : decode cX0_neededFor 4 = .ok (.iload_n 3, 1) := by decide +kernel
theorem dX0_neededFor_5 : decode cX0_neededFor 5 = .ok (.aload_n 0, 1) := by decide +kernel
theorem dX0_neededFor_6 : decode cX0_neededFor 6 = .ok (.invokevirtual 21, 3) := by decide +kernel
theorem dX0_neededFor_9 : decode cX0_neededFor 9 = .ok (.if_icmp .ge 48, 3) := by decide +kernel
theorem dX0_neededFor_12 : decode cX0_neededFor 12 = .ok (.aload_n 0, 1) := by decide +kernel
theorem dX0_neededFor_13 : decode cX0_neededFor 13 = .ok (.invokevirtual 9, 3) := by decide +kernel
theorem dX0_neededFor_16 : decode cX0_neededFor 16 = .ok (.iconst 1, 1) := by decide +kernel
theorem dX0_neededFor_17 : decode cX0_neededFor 17 = .ok (.iload_n 3, 1) := by decide +kernel
theorem dX0_neededFor_18 : decode cX0_neededFor 18 = .ok (.ishl, 1) := by decide +kernel
theorem dX0_neededFor_19 : decode cX0_neededFor 19 = .ok (.iconst (-1), 1) := by decide +kernel
theorem dX0_neededFor_20 : decode cX0_neededFor 20 = .ok (.ixor, 1) := by decide +kernel
theorem dX0_neededFor_21 : decode cX0_neededFor 21 = .ok (.iand, 1) := by decide +kernel
theorem dX0_neededFor_22 : decode cX0_neededFor 22 = .ok (.istore 4, 2) := by decide +kernel
theorem dX0_neededFor_24 : decode cX0_neededFor 24 = .ok (.aload_n 0, 1) := by decide +kernel
theorem dX0_neededFor_25 : decode cX0_neededFor 25 = .ok (.invokevirtual 9, 3) := by decide +kernel
theorem dX0_neededFor_28 : decode cX0_neededFor 28 = .ok (.iload_n 3, 1) := by decide +kernel
theorem dX0_neededFor_29 : decode cX0_neededFor 29 = .ok (.invokestatic 24, 3) := by decide +kernel
theorem dX0_neededFor_32 : decode cX0_neededFor 32 = .ok (.ifCond .eq 19, 3) := by decide +kernel
theorem dX0_neededFor_35 : decode cX0_neededFor 35 = .ok (.aload_n 0, 1) := by decide +kernel
theorem dX0_neededFor_36 : decode cX0_neededFor 36 = .ok (.iload_n 1, 1) := by decide +kernel
theorem dX0_neededFor_37 : decode cX0_neededFor 37 = .ok (.iload 4, 2) := by decide +kernel
theorem dX0_neededFor_39 : decode cX0_neededFor 39 = .ok (.invokestatic 15, 3) := by decide +kernel
theorem dX0_neededFor_42 : decode cX0_neededFor 42 = .ok (.ifCond .ne 9, 3) := by decide +kernel
theorem dX0_neededFor_45 : decode cX0_neededFor 45 = .ok (.iload_n 2, 1) := by decide +kernel
theorem dX0_neededFor_46 : decode cX0_neededFor 46 = .ok (.iconst 1, 1) := by decide +kernel
theorem dX0_neededFor_47 : decode cX0_neededFor 47 = .ok (.iload_n 3, 1) := by decide +kernel
theorem dX0_neededFor_48 : decode cX0_neededFor 48 = .ok (.ishl, 1) := by decide +kernel
theorem dX0_neededFor_49 : decode cX0_neededFor 49 = .ok (.ior, 1) := by decide +kernel
theorem dX0_neededFor_50 : decode cX0_neededFor 50 = .ok (.istore_n 2, 1) := by decide +kernel
theorem dX0_neededFor_51 : decode cX0_neededFor 51 = .ok (.iinc 3 1, 3) := by decide +kernel
theorem dX0_neededFor_54 : decode cX0_neededFor 54 = .ok (.goto (-50), 3) := by decide +kernel
theorem dX0_neededFor_57 : decode cX0_neededFor 57 = .ok (.iload_n 2, 1) := by decide +kernel
theorem dX0_neededFor_58 : decode cX0_neededFor 58 = .ok (.ireturn, 1) := by decide +kernel
theorem dX0_fewestFor_0 : decode cX0_fewestFor 0 = .ok (.aload_n 0, 1) := by decide +kernel
theorem dX0_fewestFor_1 : decode cX0_fewestFor 1 = .ok (.iload_n 1, 1) := by decide +kernel
theorem dX0_fewestFor_2 : decode cX0_fewestFor 2 = .ok (.iconst 0, 1) := by decide +kernel
theorem dX0_fewestFor_3 : decode cX0_fewestFor 3 = .ok (.aload_n 0, 1) := by decide +kernel
theorem dX0_fewestFor_4 : decode cX0_fewestFor 4 = .ok (.invokevirtual 9, 3) := by decide +kernel
theorem dX0_fewestFor_7 : decode cX0_fewestFor 7 = .ok (.invokestatic 28, 3) := by decide +kernel
theorem dX0_fewestFor_10 : decode cX0_fewestFor 10 = .ok (.ireturn, 1) := by decide +kernel
theorem dX0_lostBy_0 : decode cX0_lostBy 0 = .ok (.aload_n 0, 1) := by decide +kernel
theorem dX0_lostBy_1 : decode cX0_lostBy 1 = .ok (.invokevirtual 32, 3) := by decide +kernel
theorem dX0_lostBy_4 : decode cX0_lostBy 4 = .ok (.iconst 1, 1) := by decide +kernel
theorem dX0_lostBy_5 : decode cX0_lostBy 5 = .ok (.iload_n 1, 1) := by decide +kernel
theorem dX0_lostBy_6 : decode cX0_lostBy 6 = .ok (.ishl, 1) := by decide +kernel
theorem dX0_lostBy_7 : decode cX0_lostBy 7 = .ok (.iconst (-1), 1) := by decide +kernel
theorem dX0_lostBy_8 : decode cX0_lostBy 8 = .ok (.ixor, 1) := by decide +kernel
theorem dX0_lostBy_9 : decode cX0_lostBy 9 = .ok (.iand, 1) := by decide +kernel
theorem dX0_lostBy_10 : decode cX0_lostBy 10 = .ok (.istore_n 2, 1) := by decide +kernel
theorem dX0_lostBy_11 : decode cX0_lostBy 11 = .ok (.aload_n 0, 1) := by decide +kernel
theorem dX0_lostBy_12 : decode cX0_lostBy 12 = .ok (.aload_n 0, 1) := by decide +kernel
theorem dX0_lostBy_13 : decode cX0_lostBy 13 = .ok (.invokevirtual 9, 3) := by decide +kernel
theorem dX0_lostBy_16 : decode cX0_lostBy 16 = .ok (.sipush 1023, 3) := by decide +kernel
theorem dX0_lostBy_19 : decode cX0_lostBy 19 = .ok (.iload_n 2, 1) := by decide +kernel
theorem dX0_lostBy_20 : decode cX0_lostBy 20 = .ok (.invokevirtual 35, 3) := by decide +kernel
theorem dX0_lostBy_23 : decode cX0_lostBy 23 = .ok (.istore_n 3, 1) := by decide +kernel
theorem dX0_lostBy_24 : decode cX0_lostBy 24 = .ok (.aload_n 0, 1) := by decide +kernel
theorem dX0_lostBy_25 : decode cX0_lostBy 25 = .ok (.aload_n 0, 1) := by decide +kernel
theorem dX0_lostBy_26 : decode cX0_lostBy 26 = .ok (.invokevirtual 9, 3) := by decide +kernel
theorem dX0_lostBy_29 : decode cX0_lostBy 29 = .ok (.invokevirtual 39, 3) := by decide +kernel
theorem dX0_lostBy_32 : decode cX0_lostBy 32 = .ok (.iload_n 3, 1) := by decide +kernel
theorem dX0_lostBy_33 : decode cX0_lostBy 33 = .ok (.iconst (-1), 1) := by decide +kernel
theorem dX0_lostBy_34 : decode cX0_lostBy 34 = .ok (.ixor, 1) := by decide +kernel
theorem dX0_lostBy_35 : decode cX0_lostBy 35 = .ok (.iand, 1) := by decide +kernel
theorem dX0_lostBy_36 : decode cX0_lostBy 36 = .ok (.iload_n 2, 1) := by decide +kernel
theorem dX0_lostBy_37 : decode cX0_lostBy 37 = .ok (.iand, 1) := by decide +kernel
theorem dX0_lostBy_38 : decode cX0_lostBy 38 = .ok (.ireturn, 1) := by decide +kernel
theorem dX0_fewestMoreFor_0 : decode cX0_fewestMoreFor 0 = .ok (.aload_n 0, 1) := by decide +kernel
theorem dX0_fewestMoreFor_1 : decode cX0_fewestMoreFor 1 = .ok (.invokevirtual 32, 3) := by decide +kernel
theorem dX0_fewestMoreFor_4 : decode cX0_fewestMoreFor 4 = .ok (.iconst 1, 1) := by decide +kernel
theorem dX0_fewestMoreFor_5 : decode cX0_fewestMoreFor 5 = .ok (.iload_n 1, 1) := by decide +kernel
theorem dX0_fewestMoreFor_6 : decode cX0_fewestMoreFor 6 = .ok (.ishl, 1) := by decide +kernel
theorem dX0_fewestMoreFor_7 : decode cX0_fewestMoreFor 7 = .ok (.iconst (-1), 1) := by decide +kernel
theorem dX0_fewestMoreFor_8 : decode cX0_fewestMoreFor 8 = .ok (.ixor, 1) := by decide +kernel
theorem dX0_fewestMoreFor_9 : decode cX0_fewestMoreFor 9 = .ok (.iand, 1) := by decide +kernel
theorem dX0_fewestMoreFor_10 : decode cX0_fewestMoreFor 10 = .ok (.aload_n 0, 1) := by decide +kernel
theorem dX0_fewestMoreFor_11 : decode cX0_fewestMoreFor 11 = .ok (.invokevirtual 9, 3) := by decide +kernel
theorem dX0_fewestMoreFor_14 : decode cX0_fewestMoreFor 14 = .ok (.iconst (-1), 1) := by decide +kernel
theorem dX0_fewestMoreFor_15 : decode cX0_fewestMoreFor 15 = .ok (.ixor, 1) := by decide +kernel
theorem dX0_fewestMoreFor_16 : decode cX0_fewestMoreFor 16 = .ok (.iand, 1) := by decide +kernel
theorem dX0_fewestMoreFor_17 : decode cX0_fewestMoreFor 17 = .ok (.istore_n 2, 1) := by decide +kernel
theorem dX0_fewestMoreFor_18 : decode cX0_fewestMoreFor 18 = .ok (.aload_n 0, 1) := by decide +kernel
theorem dX0_fewestMoreFor_19 : decode cX0_fewestMoreFor 19 = .ok (.iload_n 1, 1) := by decide +kernel
theorem dX0_fewestMoreFor_20 : decode cX0_fewestMoreFor 20 = .ok (.aload_n 0, 1) := by decide +kernel
theorem dX0_fewestMoreFor_21 : decode cX0_fewestMoreFor 21 = .ok (.invokevirtual 9, 3) := by decide +kernel
theorem dX0_fewestMoreFor_24 : decode cX0_fewestMoreFor 24 = .ok (.iload_n 2, 1) := by decide +kernel
theorem dX0_fewestMoreFor_25 : decode cX0_fewestMoreFor 25 = .ok (.invokestatic 28, 3) := by decide +kernel
theorem dX0_fewestMoreFor_28 : decode cX0_fewestMoreFor 28 = .ok (.ireturn, 1) := by decide +kernel
theorem dX0_fewestIntoHall_0 : decode cX0_fewestIntoHall 0 = .ok (.aload_n 0, 1) := by decide +kernel
theorem dX0_fewestIntoHall_1 : decode cX0_fewestIntoHall 1 = .ok (.iconst (-1), 1) := by decide +kernel
theorem dX0_fewestIntoHall_2 : decode cX0_fewestIntoHall 2 = .ok (.iconst 0, 1) := by decide +kernel
theorem dX0_fewestIntoHall_3 : decode cX0_fewestIntoHall 3 = .ok (.aload_n 0, 1) := by decide +kernel
theorem dX0_fewestIntoHall_4 : decode cX0_fewestIntoHall 4 = .ok (.invokevirtual 9, 3) := by decide +kernel
theorem dX0_fewestIntoHall_7 : decode cX0_fewestIntoHall 7 = .ok (.invokestatic 28, 3) := by decide +kernel
theorem dX0_fewestIntoHall_10 : decode cX0_fewestIntoHall 10 = .ok (.ireturn, 1) := by decide +kernel
theorem dX0_fewestToRopeOff_0 : decode cX0_fewestToRopeOff 0 = .ok (.aload_n 0, 1) := by decide +kernel
theorem dX0_fewestToRopeOff_1 : decode cX0_fewestToRopeOff 1 = .ok (.bipush (-2), 2) := by decide +kernel
theorem dX0_fewestToRopeOff_3 : decode cX0_fewestToRopeOff 3 = .ok (.aload_n 0, 1) := by decide +kernel
theorem dX0_fewestToRopeOff_4 : decode cX0_fewestToRopeOff 4 = .ok (.invokevirtual 9, 3) := by decide +kernel
theorem dX0_fewestToRopeOff_7 : decode cX0_fewestToRopeOff 7 = .ok (.aload_n 0, 1) := by decide +kernel
theorem dX0_fewestToRopeOff_8 : decode cX0_fewestToRopeOff 8 = .ok (.invokevirtual 9, 3) := by decide +kernel
theorem dX0_fewestToRopeOff_11 : decode cX0_fewestToRopeOff 11 = .ok (.invokestatic 28, 3) := by decide +kernel
theorem dX0_fewestToRopeOff_14 : decode cX0_fewestToRopeOff 14 = .ok (.ireturn, 1) := by decide +kernel
theorem dX0_fewestTurned_0 : decode cX0_fewestTurned 0 = .ok (.aload_n 0, 1) := by decide +kernel
theorem dX0_fewestTurned_1 : decode cX0_fewestTurned 1 = .ok (.iload_n 1, 1) := by decide +kernel
theorem dX0_fewestTurned_2 : decode cX0_fewestTurned 2 = .ok (.iload_n 2, 1) := by decide +kernel
theorem dX0_fewestTurned_3 : decode cX0_fewestTurned 3 = .ok (.iload_n 3, 1) := by decide +kernel
theorem dX0_fewestTurned_4 : decode cX0_fewestTurned 4 = .ok (.ixor, 1) := by decide +kernel
theorem dX0_fewestTurned_5 : decode cX0_fewestTurned 5 = .ok (.invokestatic 15, 3) := by decide +kernel
theorem dX0_fewestTurned_8 : decode cX0_fewestTurned 8 = .ok (.ifCond .ne 6, 3) := by decide +kernel
theorem dX0_fewestTurned_11 : decode cX0_fewestTurned 11 = .ok (.bipush (-4), 2) := by decide +kernel
theorem dX0_fewestTurned_13 : decode cX0_fewestTurned 13 = .ok (.ireturn, 1) := by decide +kernel
theorem dX0_fewestTurned_14 : decode cX0_fewestTurned 14 = .ok (.iload_n 3, 1) := by decide +kernel
theorem dX0_fewestTurned_15 : decode cX0_fewestTurned 15 = .ok (.istore 4, 2) := by decide +kernel
theorem dX0_fewestTurned_17 : decode cX0_fewestTurned 17 = .ok (.iload_n 3, 1) := by decide +kernel
theorem dX0_fewestTurned_18 : decode cX0_fewestTurned 18 = .ok (.invokestatic 43, 3) := by decide +kernel
theorem dX0_fewestTurned_21 : decode cX0_fewestTurned 21 = .ok (.istore 5, 2) := by decide +kernel
theorem dX0_fewestTurned_23 : decode cX0_fewestTurned 23 = .ok (.iconst 0, 1) := by decide +kernel
theorem dX0_fewestTurned_24 : decode cX0_fewestTurned 24 = .ok (.istore 6, 2) := by decide +kernel
theorem dX0_fewestTurned_26 : decode cX0_fewestTurned 26 = .ok (.iload 6, 2) := by decide +kernel
theorem dX0_fewestTurned_28 : decode cX0_fewestTurned 28 = .ok (.iload_n 3, 1) := by decide +kernel
theorem dX0_fewestTurned_29 : decode cX0_fewestTurned 29 = .ok (.if_icmp .ge 52, 3) := by decide +kernel
theorem dX0_fewestTurned_32 : decode cX0_fewestTurned 32 = .ok (.iload 6, 2) := by decide +kernel
theorem dX0_fewestTurned_34 : decode cX0_fewestTurned 34 = .ok (.invokestatic 43, 3) := by decide +kernel
theorem dX0_fewestTurned_37 : decode cX0_fewestTurned 37 = .ok (.istore 7, 2) := by decide +kernel
theorem dX0_fewestTurned_39 : decode cX0_fewestTurned 39 = .ok (.iload 7, 2) := by decide +kernel
theorem dX0_fewestTurned_41 : decode cX0_fewestTurned 41 = .ok (.iload 5, 2) := by decide +kernel
theorem dX0_fewestTurned_43 : decode cX0_fewestTurned 43 = .ok (.if_icmp .ge 32, 3) := by decide +kernel
theorem dX0_fewestTurned_46 : decode cX0_fewestTurned 46 = .ok (.iload_n 3, 1) := by decide +kernel
theorem dX0_fewestTurned_47 : decode cX0_fewestTurned 47 = .ok (.iload 6, 2) := by decide +kernel
theorem dX0_fewestTurned_49 : decode cX0_fewestTurned 49 = .ok (.invokestatic 48, 3) := by decide +kernel
theorem dX0_fewestTurned_52 : decode cX0_fewestTurned 52 = .ok (.ifCond .eq 23, 3) := by decide +kernel
theorem dX0_fewestTurned_55 : decode cX0_fewestTurned 55 = .ok (.aload_n 0, 1) := by decide +kernel
theorem dX0_fewestTurned_56 : decode cX0_fewestTurned 56 = .ok (.iload_n 1, 1) := by decide +kernel
theorem dX0_fewestTurned_57 : decode cX0_fewestTurned 57 = .ok (.iload_n 2, 1) := by decide +kernel
theorem dX0_fewestTurned_58 : decode cX0_fewestTurned 58 = .ok (.iload 6, 2) := by decide +kernel
theorem dX0_fewestTurned_60 : decode cX0_fewestTurned 60 = .ok (.ixor, 1) := by decide +kernel
theorem dX0_fewestTurned_61 : decode cX0_fewestTurned 61 = .ok (.invokestatic 15, 3) := by decide +kernel
theorem dX0_fewestTurned_64 : decode cX0_fewestTurned 64 = .ok (.ifCond .eq 11, 3) := by decide +kernel
theorem dX0_fewestTurned_67 : decode cX0_fewestTurned 67 = .ok (.iload 6, 2) := by decide +kernel
theorem dX0_fewestTurned_69 : decode cX0_fewestTurned 69 = .ok (.istore 4, 2) := by decide +kernel
theorem dX0_fewestTurned_71 : decode cX0_fewestTurned 71 = .ok (.iload 7, 2) := by decide +kernel
theorem dX0_fewestTurned_73 : decode cX0_fewestTurned 73 = .ok (.istore 5, 2) := by decide +kernel
theorem dX0_fewestTurned_75 : decode cX0_fewestTurned 75 = .ok (.iinc 6 1, 3) := by decide +kernel
theorem dX0_fewestTurned_78 : decode cX0_fewestTurned 78 = .ok (.goto (-52), 3) := by decide +kernel
theorem dX0_fewestTurned_81 : decode cX0_fewestTurned 81 = .ok (.iload 4, 2) := by decide +kernel
theorem dX0_fewestTurned_83 : decode cX0_fewestTurned 83 = .ok (.ireturn, 1) := by decide +kernel
theorem dX0_isMet_0 : decode cX0_isMet 0 = .ok (.aload_n 0, 1) := by decide +kernel
theorem dX0_isMet_1 : decode cX0_isMet 1 = .ok (.iload_n 2, 1) := by decide +kernel
theorem dX0_isMet_2 : decode cX0_isMet 2 = .ok (.sipush 1023, 3) := by decide +kernel
theorem dX0_isMet_5 : decode cX0_isMet 5 = .ok (.aload_n 0, 1) := by decide +kernel
theorem dX0_isMet_6 : decode cX0_isMet 6 = .ok (.invokevirtual 32, 3) := by decide +kernel
theorem dX0_isMet_9 : decode cX0_isMet 9 = .ok (.invokevirtual 35, 3) := by decide +kernel
theorem dX0_isMet_12 : decode cX0_isMet 12 = .ok (.istore_n 3, 1) := by decide +kernel
theorem dX0_isMet_13 : decode cX0_isMet 13 = .ok (.iload_n 1, 1) := by decide +kernel
theorem dX0_isMet_14 : decode cX0_isMet 14 = .ok (.iconst (-1), 1) := by decide +kernel
theorem dX0_isMet_15 : decode cX0_isMet 15 = .ok (.if_icmp .ne 9, 3) := by decide +kernel
theorem dX0_isMet_18 : decode cX0_isMet 18 = .ok (.aload_n 0, 1) := by decide +kernel
theorem dX0_isMet_19 : decode cX0_isMet 19 = .ok (.iload_n 3, 1) := by decide +kernel
theorem dX0_isMet_20 : decode cX0_isMet 20 = .ok (.invokevirtual 51, 3) := by decide +kernel
theorem dX0_isMet_23 : decode cX0_isMet 23 = .ok (.ireturn, 1) := by decide +kernel
theorem dX0_isMet_24 : decode cX0_isMet 24 = .ok (.iload_n 1, 1) := by decide +kernel
theorem dX0_isMet_25 : decode cX0_isMet 25 = .ok (.bipush (-2), 2) := by decide +kernel
theorem dX0_isMet_27 : decode cX0_isMet 27 = .ok (.if_icmp .ne 17, 3) := by decide +kernel
theorem dX0_isMet_30 : decode cX0_isMet 30 = .ok (.aload_n 0, 1) := by decide +kernel
theorem dX0_isMet_31 : decode cX0_isMet 31 = .ok (.iload_n 3, 1) := by decide +kernel
theorem dX0_isMet_32 : decode cX0_isMet 32 = .ok (.invokevirtual 51, 3) := by decide +kernel
theorem dX0_isMet_35 : decode cX0_isMet 35 = .ok (.ifCond .ne 7, 3) := by decide +kernel
theorem dX0_isMet_38 : decode cX0_isMet 38 = .ok (.iconst 1, 1) := by decide +kernel
theorem dX0_isMet_39 : decode cX0_isMet 39 = .ok (.goto 4, 3) := by decide +kernel
theorem dX0_isMet_42 : decode cX0_isMet 42 = .ok (.iconst 0, 1) := by decide +kernel
theorem dX0_isMet_43 : decode cX0_isMet 43 = .ok (.ireturn, 1) := by decide +kernel
theorem dX0_isMet_44 : decode cX0_isMet 44 = .ok (.iload_n 3, 1) := by decide +kernel
theorem dX0_isMet_45 : decode cX0_isMet 45 = .ok (.iload_n 1, 1) := by decide +kernel
theorem dX0_isMet_46 : decode cX0_isMet 46 = .ok (.invokestatic 24, 3) := by decide +kernel
theorem dX0_isMet_49 : decode cX0_isMet 49 = .ok (.ireturn, 1) := by decide +kernel
theorem dX1_init_0 : decode cX1_init 0 = .ok (.aload_n 0, 1) := by decide +kernel
theorem dX1_init_1 : decode cX1_init 1 = .ok (.invokespecial 3, 3) := by decide +kernel
theorem dX1_init_4 : decode cX1_init 4 = .ok (.aload_n 0, 1) := by decide +kernel
theorem dX1_init_5 : decode cX1_init 5 = .ok (.bipush 10, 2) := by decide +kernel
theorem dX1_init_7 : decode cX1_init 7 = .ok (.newarray .int, 2) := by decide +kernel
theorem dX1_init_9 : decode cX1_init 9 = .ok (.putfield 9, 3) := by decide +kernel
theorem dX1_init_12 : decode cX1_init 12 = .ok (.aload_n 0, 1) := by decide +kernel
theorem dX1_init_13 : decode cX1_init 13 = .ok (.bipush 10, 2) := by decide +kernel
theorem dX1_init_15 : decode cX1_init 15 = .ok (.newarray .int, 2) := by decide +kernel
theorem dX1_init_17 : decode cX1_init 17 = .ok (.putfield 15, 3) := by decide +kernel
theorem dX1_init_20 : decode cX1_init 20 = .ok (.aload_n 0, 1) := by decide +kernel
theorem dX1_init_21 : decode cX1_init 21 = .ok (.bipush 10, 2) := by decide +kernel
theorem dX1_init_23 : decode cX1_init 23 = .ok (.newarray .int, 2) := by decide +kernel
theorem dX1_init_25 : decode cX1_init 25 = .ok (.putfield 18, 3) := by decide +kernel
theorem dX1_init_28 : decode cX1_init 28 = .ok (.aload_n 0, 1) := by decide +kernel
theorem dX1_init_29 : decode cX1_init 29 = .ok (.bipush 10, 2) := by decide +kernel
theorem dX1_init_31 : decode cX1_init 31 = .ok (.newarray .int, 2) := by decide +kernel
theorem dX1_init_33 : decode cX1_init 33 = .ok (.putfield 21, 3) := by decide +kernel
theorem dX1_init_36 : decode cX1_init 36 = .ok (.aload_n 0, 1) := by decide +kernel
theorem dX1_init_37 : decode cX1_init 37 = .ok (.bipush 10, 2) := by decide +kernel
theorem dX1_init_39 : decode cX1_init 39 = .ok (.newarray .int, 2) := by decide +kernel
theorem dX1_init_41 : decode cX1_init 41 = .ok (.putfield 24, 3) := by decide +kernel
theorem dX1_init_44 : decode cX1_init 44 = .ok (.aload_n 0, 1) := by decide +kernel
theorem dX1_init_45 : decode cX1_init 45 = .ok (.bipush 10, 2) := by decide +kernel
theorem dX1_init_47 : decode cX1_init 47 = .ok (.newarray .int, 2) := by decide +kernel
theorem dX1_init_49 : decode cX1_init 49 = .ok (.putfield 27, 3) := by decide +kernel
theorem dX1_init_52 : decode cX1_init 52 = .ok (.return_, 1) := by decide +kernel
theorem dX1_empty_0 : decode cX1_empty 0 = .ok (.aload_n 0, 1) := by decide +kernel
theorem dX1_empty_1 : decode cX1_empty 1 = .ok (.getfield 24, 3) := by decide +kernel
theorem dX1_empty_4 : decode cX1_empty 4 = .ok (.invokestatic 30, 3) := by decide +kernel
theorem dX1_empty_7 : decode cX1_empty 7 = .ok (.aload_n 0, 1) := by decide +kernel
theorem dX1_empty_8 : decode cX1_empty 8 = .ok (.getfield 27, 3) := by decide +kernel
theorem dX1_empty_11 : decode cX1_empty 11 = .ok (.invokestatic 30, 3) := by decide +kernel
theorem dX1_empty_14 : decode cX1_empty 14 = .ok (.aload_n 0, 1) := by decide +kernel
theorem dX1_empty_15 : decode cX1_empty 15 = .ok (.iconst 0, 1) := by decide +kernel
theorem dX1_empty_16 : decode cX1_empty 16 = .ok (.putfield 34, 3) := by decide +kernel
theorem dX1_empty_19 : decode cX1_empty 19 = .ok (.aload_n 0, 1) := by decide +kernel
theorem dX1_empty_20 : decode cX1_empty 20 = .ok (.iconst 0, 1) := by decide +kernel
theorem dX1_empty_21 : decode cX1_empty 21 = .ok (.putfield 38, 3) := by decide +kernel
theorem dX1_empty_24 : decode cX1_empty 24 = .ok (.aload_n 0, 1) := by decide +kernel
theorem dX1_empty_25 : decode cX1_empty 25 = .ok (.iconst 0, 1) := by decide +kernel
theorem dX1_empty_26 : decode cX1_empty 26 = .ok (.putfield 41, 3) := by decide +kernel
theorem dX1_empty_29 : decode cX1_empty 29 = .ok (.aload_n 0, 1) := by decide +kernel
theorem dX1_empty_30 : decode cX1_empty 30 = .ok (.iconst 4, 1) := by decide +kernel
theorem dX1_empty_31 : decode cX1_empty 31 = .ok (.invokevirtual 44, 3) := by decide +kernel
theorem dX1_empty_34 : decode cX1_empty 34 = .ok (.pop, 1) := by decide +kernel
theorem dX1_empty_35 : decode cX1_empty 35 = .ok (.return_, 1) := by decide +kernel
theorem dX1_copyFrom_0 : decode cX1_copyFrom 0 = .ok (.aload_n 1, 1) := by decide +kernel
theorem dX1_copyFrom_1 : decode cX1_copyFrom 1 = .ok (.getfield 9, 3) := by decide +kernel
theorem dX1_copyFrom_4 : decode cX1_copyFrom 4 = .ok (.aload_n 0, 1) := by decide +kernel
theorem dX1_copyFrom_5 : decode cX1_copyFrom 5 = .ok (.getfield 9, 3) := by decide +kernel
theorem dX1_copyFrom_8 : decode cX1_copyFrom 8 = .ok (.invokestatic 48, 3) := by decide +kernel
theorem dX1_copyFrom_11 : decode cX1_copyFrom 11 = .ok (.aload_n 1, 1) := by decide +kernel
theorem dX1_copyFrom_12 : decode cX1_copyFrom 12 = .ok (.getfield 15, 3) := by decide +kernel
theorem dX1_copyFrom_15 : decode cX1_copyFrom 15 = .ok (.aload_n 0, 1) := by decide +kernel
theorem dX1_copyFrom_16 : decode cX1_copyFrom 16 = .ok (.getfield 15, 3) := by decide +kernel
theorem dX1_copyFrom_19 : decode cX1_copyFrom 19 = .ok (.invokestatic 48, 3) := by decide +kernel
theorem dX1_copyFrom_22 : decode cX1_copyFrom 22 = .ok (.aload_n 1, 1) := by decide +kernel
theorem dX1_copyFrom_23 : decode cX1_copyFrom 23 = .ok (.getfield 18, 3) := by decide +kernel
theorem dX1_copyFrom_26 : decode cX1_copyFrom 26 = .ok (.aload_n 0, 1) := by decide +kernel
theorem dX1_copyFrom_27 : decode cX1_copyFrom 27 = .ok (.getfield 18, 3) := by decide +kernel
theorem dX1_copyFrom_30 : decode cX1_copyFrom 30 = .ok (.invokestatic 48, 3) := by decide +kernel
theorem dX1_copyFrom_33 : decode cX1_copyFrom 33 = .ok (.aload_n 1, 1) := by decide +kernel
theorem dX1_copyFrom_34 : decode cX1_copyFrom 34 = .ok (.getfield 21, 3) := by decide +kernel
theorem dX1_copyFrom_37 : decode cX1_copyFrom 37 = .ok (.aload_n 0, 1) := by decide +kernel
theorem dX1_copyFrom_38 : decode cX1_copyFrom 38 = .ok (.getfield 21, 3) := by decide +kernel
theorem dX1_copyFrom_41 : decode cX1_copyFrom 41 = .ok (.invokestatic 48, 3) := by decide +kernel
theorem dX1_copyFrom_44 : decode cX1_copyFrom 44 = .ok (.aload_n 1, 1) := by decide +kernel
theorem dX1_copyFrom_45 : decode cX1_copyFrom 45 = .ok (.getfield 24, 3) := by decide +kernel
theorem dX1_copyFrom_48 : decode cX1_copyFrom 48 = .ok (.aload_n 0, 1) := by decide +kernel
theorem dX1_copyFrom_49 : decode cX1_copyFrom 49 = .ok (.getfield 24, 3) := by decide +kernel
theorem dX1_copyFrom_52 : decode cX1_copyFrom 52 = .ok (.invokestatic 48, 3) := by decide +kernel
theorem dX1_copyFrom_55 : decode cX1_copyFrom 55 = .ok (.aload_n 1, 1) := by decide +kernel
theorem dX1_copyFrom_56 : decode cX1_copyFrom 56 = .ok (.getfield 27, 3) := by decide +kernel
theorem dX1_copyFrom_59 : decode cX1_copyFrom 59 = .ok (.aload_n 0, 1) := by decide +kernel
theorem dX1_copyFrom_60 : decode cX1_copyFrom 60 = .ok (.getfield 27, 3) := by decide +kernel
theorem dX1_copyFrom_63 : decode cX1_copyFrom 63 = .ok (.invokestatic 48, 3) := by decide +kernel
theorem dX1_copyFrom_66 : decode cX1_copyFrom 66 = .ok (.aload_n 0, 1) := by decide +kernel
theorem dX1_copyFrom_67 : decode cX1_copyFrom 67 = .ok (.aload_n 1, 1) := by decide +kernel
theorem dX1_copyFrom_68 : decode cX1_copyFrom 68 = .ok (.getfield 52, 3) := by decide +kernel
theorem dX1_copyFrom_71 : decode cX1_copyFrom 71 = .ok (.putfield 52, 3) := by decide +kernel
theorem dX1_copyFrom_74 : decode cX1_copyFrom 74 = .ok (.aload_n 0, 1) := by decide +kernel
theorem dX1_copyFrom_75 : decode cX1_copyFrom 75 = .ok (.aload_n 1, 1) := by decide +kernel
theorem dX1_copyFrom_76 : decode cX1_copyFrom 76 = .ok (.getfield 34, 3) := by decide +kernel
theorem dX1_copyFrom_79 : decode cX1_copyFrom 79 = .ok (.putfield 34, 3) := by decide +kernel
theorem dX1_copyFrom_82 : decode cX1_copyFrom 82 = .ok (.aload_n 0, 1) := by decide +kernel
theorem dX1_copyFrom_83 : decode cX1_copyFrom 83 = .ok (.aload_n 1, 1) := by decide +kernel
theorem dX1_copyFrom_84 : decode cX1_copyFrom 84 = .ok (.getfield 38, 3) := by decide +kernel
theorem dX1_copyFrom_87 : decode cX1_copyFrom 87 = .ok (.putfield 38, 3) := by decide +kernel
theorem dX1_copyFrom_90 : decode cX1_copyFrom 90 = .ok (.aload_n 0, 1) := by decide +kernel
theorem dX1_copyFrom_91 : decode cX1_copyFrom 91 = .ok (.aload_n 1, 1) := by decide +kernel
theorem dX1_copyFrom_92 : decode cX1_copyFrom 92 = .ok (.getfield 55, 3) := by decide +kernel
theorem dX1_copyFrom_95 : decode cX1_copyFrom 95 = .ok (.putfield 55, 3) := by decide +kernel
theorem dX1_copyFrom_98 : decode cX1_copyFrom 98 = .ok (.aload_n 0, 1) := by decide +kernel
theorem dX1_copyFrom_99 : decode cX1_copyFrom 99 = .ok (.aload_n 1, 1) := by decide +kernel
theorem dX1_copyFrom_100 : decode cX1_copyFrom 100 = .ok (.getfield 41, 3) := by decide +kernel
theorem dX1_copyFrom_103 : decode cX1_copyFrom 103 = .ok (.putfield 41, 3) := by decide +kernel
theorem dX1_copyFrom_106 : decode cX1_copyFrom 106 = .ok (.return_, 1) := by decide +kernel
theorem dX1_setStones_0 : decode cX1_setStones 0 = .ok (.iload_n 1, 1) := by decide +kernel
theorem dX1_setStones_1 : decode cX1_setStones 1 = .ok (.iconst 1, 1) := by decide +kernel
theorem dX1_setStones_2 : decode cX1_setStones 2 = .ok (.if_icmp .lt 9, 3) := by decide +kernel
theorem dX1_setStones_5 : decode cX1_setStones 5 = .ok (.iload_n 1, 1) := by decide +kernel
theorem dX1_setStones_6 : decode cX1_setStones 6 = .ok (.bipush 10, 2) := by decide +kernel
theorem dX1_setStones_8 : decode cX1_setStones 8 = .ok (.if_icmp .le 5, 3) := by decide +kernel
theorem dX1_setStones_11 : decode cX1_setStones 11 = .ok (.iconst 0, 1) := by decide +kernel
theorem dX1_setStones_12 : decode cX1_setStones 12 = .ok (.ireturn, 1) := by decide +kernel
theorem dX1_setStones_13 : decode cX1_setStones 13 = .ok (.aload_n 0, 1) := by decide +kernel
theorem dX1_setStones_14 : decode cX1_setStones 14 = .ok (.iload_n 1, 1) := by decide +kernel
theorem dX1_setStones_15 : decode cX1_setStones 15 = .ok (.putfield 52, 3) := by decide +kernel
theorem dX1_setStones_18 : decode cX1_setStones 18 = .ok (.aload_n 0, 1) := by decide +kernel
theorem dX1_setStones_19 : decode cX1_setStones 19 = .ok (.aload_n 0, 1) := by decide +kernel
theorem dX1_setStones_20 : decode cX1_setStones 20 = .ok (.invokevirtual 58, 3) := by decide +kernel
theorem dX1_setStones_23 : decode cX1_setStones 23 = .ok (.putfield 55, 3) := by decide +kernel
theorem dX1_setStones_26 : decode cX1_setStones 26 = .ok (.iconst 1, 1) := by decide +kernel
theorem dX1_setStones_27 : decode cX1_setStones 27 = .ok (.ireturn, 1) := by decide +kernel
theorem dX1_beginOn_0 : decode cX1_beginOn 0 = .ok (.aload_n 0, 1) := by decide +kernel
theorem dX1_beginOn_1 : decode cX1_beginOn 1 = .ok (.iload_n 1, 1) := by decide +kernel
theorem dX1_beginOn_2 : decode cX1_beginOn 2 = .ok (.invokevirtual 62, 3) := by decide +kernel
theorem dX1_beginOn_5 : decode cX1_beginOn 5 = .ok (.ifCond .ne 5, 3) := by decide +kernel
theorem dX1_beginOn_8 : decode cX1_beginOn 8 = .ok (.iconst 0, 1) := by decide +kernel
theorem dX1_beginOn_9 : decode cX1_beginOn 9 = .ok (.ireturn, 1) := by decide +kernel
theorem dX1_beginOn_10 : decode cX1_beginOn 10 = .ok (.aload_n 0, 1) := by decide +kernel
theorem dX1_beginOn_11 : decode cX1_beginOn 11 = .ok (.dup, 1) := by decide +kernel
theorem dX1_beginOn_12 : decode cX1_beginOn 12 = .ok (.getfield 38, 3) := by decide +kernel
theorem dX1_beginOn_15 : decode cX1_beginOn 15 = .ok (.iconst 1, 1) := by decide +kernel
theorem dX1_beginOn_16 : decode cX1_beginOn 16 = .ok (.iload_n 1, 1) := by decide +kernel
theorem dX1_beginOn_17 : decode cX1_beginOn 17 = .ok (.ishl, 1) := by decide +kernel
theorem dX1_beginOn_18 : decode cX1_beginOn 18 = .ok (.ior, 1) := by decide +kernel
theorem dX1_beginOn_19 : decode cX1_beginOn 19 = .ok (.putfield 38, 3) := by decide +kernel
theorem dX1_beginOn_22 : decode cX1_beginOn 22 = .ok (.iconst 1, 1) := by decide +kernel
theorem dX1_beginOn_23 : decode cX1_beginOn 23 = .ok (.ireturn, 1) := by decide +kernel
theorem dX1_standOnBeginnings_0 : decode cX1_standOnBeginnings 0 = .ok (.aload_n 0, 1) := by decide +kernel
theorem dX1_standOnBeginnings_1 : decode cX1_standOnBeginnings 1 = .ok (.aload_n 0, 1) := by decide +kernel
theorem dX1_standOnBeginnings_2 : decode cX1_standOnBeginnings 2 = .ok (.invokevirtual 65, 3) := by decide +kernel
theorem dX1_standOnBeginnings_5 : decode cX1_standOnBeginnings 5 = .ok (.putfield 41, 3) := by decide +kernel
theorem dX1_standOnBeginnings_8 : decode cX1_standOnBeginnings 8 = .ok (.return_, 1) := by decide +kernel
theorem dX1_couldBeStep_0 : decode cX1_couldBeStep 0 = .ok (.aload_n 0, 1) := by decide +kernel
theorem dX1_couldBeStep_1 : decode cX1_couldBeStep 1 = .ok (.iload_n 1, 1) := by decide +kernel
theorem dX1_couldBeStep_2 : decode cX1_couldBeStep 2 = .ok (.invokevirtual 62, 3) := by decide +kernel
theorem dX1_couldBeStep_5 : decode cX1_couldBeStep 5 = .ok (.ifCond .eq 33, 3) := by decide +kernel
theorem dX1_couldBeStep_8 : decode cX1_couldBeStep 8 = .ok (.aload_n 0, 1) := by decide +kernel
theorem dX1_couldBeStep_9 : decode cX1_couldBeStep 9 = .ok (.iload_n 2, 1) := by decide +kernel
theorem dX1_couldBeStep_10 : decode cX1_couldBeStep 10 = .ok (.invokevirtual 62, 3) := by decide +kernel
theorem dX1_couldBeStep_13 : decode cX1_couldBeStep 13 = .ok (.ifCond .eq 25, 3) := by decide +kernel
theorem dX1_couldBeStep_16 : decode cX1_couldBeStep 16 = .ok (.aload_n 0, 1) := by decide +kernel
theorem dX1_couldBeStep_17 : decode cX1_couldBeStep 17 = .ok (.iload_n 3, 1) := by decide +kernel
theorem dX1_couldBeStep_18 : decode cX1_couldBeStep 18 = .ok (.invokevirtual 62, 3) := by decide +kernel
theorem dX1_couldBeStep_21 : decode cX1_couldBeStep 21 = .ok (.ifCond .eq 17, 3) := by decide +kernel
theorem dX1_couldBeStep_24 : decode cX1_couldBeStep 24 = .ok (.iload_n 3, 1) := by decide +kernel
theorem dX1_couldBeStep_25 : decode cX1_couldBeStep 25 = .ok (.iload_n 1, 1) := by decide +kernel
theorem dX1_couldBeStep_26 : decode cX1_couldBeStep 26 = .ok (.if_icmp .eq 12, 3) := by decide +kernel
theorem dX1_couldBeStep_29 : decode cX1_couldBeStep 29 = .ok (.iload_n 3, 1) := by decide +kernel
theorem dX1_couldBeStep_30 : decode cX1_couldBeStep 30 = .ok (.iload_n 2, 1) := by decide +kernel
theorem dX1_couldBeStep_31 : decode cX1_couldBeStep 31 = .ok (.if_icmp .eq 7, 3) := by decide +kernel
theorem dX1_couldBeStep_34 : decode cX1_couldBeStep 34 = .ok (.iconst 1, 1) := by decide +kernel
theorem dX1_couldBeStep_35 : decode cX1_couldBeStep 35 = .ok (.goto 4, 3) := by decide +kernel
theorem dX1_couldBeStep_38 : decode cX1_couldBeStep 38 = .ok (.iconst 0, 1) := by decide +kernel
theorem dX1_couldBeStep_39 : decode cX1_couldBeStep 39 = .ok (.ireturn, 1) := by decide +kernel
theorem dX1_addStep_0 : decode cX1_addStep 0 = .ok (.aload_n 0, 1) := by decide +kernel
theorem dX1_addStep_1 : decode cX1_addStep 1 = .ok (.iload_n 1, 1) := by decide +kernel
theorem dX1_addStep_2 : decode cX1_addStep 2 = .ok (.iload_n 2, 1) := by decide +kernel
theorem dX1_addStep_3 : decode cX1_addStep 3 = .ok (.iload_n 3, 1) := by decide +kernel
theorem dX1_addStep_4 : decode cX1_addStep 4 = .ok (.invokevirtual 68, 3) := by decide +kernel
theorem dX1_addStep_7 : decode cX1_addStep 7 = .ok (.ifCond .eq 12, 3) := by decide +kernel
theorem dX1_addStep_10 : decode cX1_addStep 10 = .ok (.aload_n 0, 1) := by decide +kernel
theorem dX1_addStep_11 : decode cX1_addStep 11 = .ok (.getfield 34, 3) := by decide +kernel
theorem dX1_addStep_14 : decode cX1_addStep 14 = .ok (.bipush 10, 2) := by decide +kernel
theorem dX1_addStep_16 : decode cX1_addStep 16 = .ok (.if_icmp .lt 5, 3) := by decide +kernel
theorem dX1_addStep_19 : decode cX1_addStep 19 = .ok (.iconst 0, 1) := by decide +kernel
theorem dX1_addStep_20 : decode cX1_addStep 20 = .ok (.ireturn, 1) := by decide +kernel
theorem dX1_addStep_21 : decode cX1_addStep 21 = .ok (.aload_n 0, 1) := by decide +kernel
theorem dX1_addStep_22 : decode cX1_addStep 22 = .ok (.getfield 9, 3) := by decide +kernel
theorem dX1_addStep_25 : decode cX1_addStep 25 = .ok (.aload_n 0, 1) := by decide +kernel
theorem dX1_addStep_26 : decode cX1_addStep 26 = .ok (.getfield 34, 3) := by decide +kernel
theorem dX1_addStep_29 : decode cX1_addStep 29 = .ok (.iload_n 1, 1) := by decide +kernel
theorem dX1_addStep_30 : decode cX1_addStep 30 = .ok (.invokestatic 72, 3) := by decide +kernel
theorem dX1_addStep_33 : decode cX1_addStep 33 = .ok (.aload_n 0, 1) := by decide +kernel
theorem dX1_addStep_34 : decode cX1_addStep 34 = .ok (.getfield 15, 3) := by decide +kernel
theorem dX1_addStep_37 : decode cX1_addStep 37 = .ok (.aload_n 0, 1) := by decide +kernel
theorem dX1_addStep_38 : decode cX1_addStep 38 = .ok (.getfield 34, 3) := by decide +kernel
theorem dX1_addStep_41 : decode cX1_addStep 41 = .ok (.iload_n 2, 1) := by decide +kernel
theorem dX1_addStep_42 : decode cX1_addStep 42 = .ok (.invokestatic 72, 3) := by decide +kernel
theorem dX1_addStep_45 : decode cX1_addStep 45 = .ok (.aload_n 0, 1) := by decide +kernel
theorem dX1_addStep_46 : decode cX1_addStep 46 = .ok (.getfield 18, 3) := by decide +kernel
theorem dX1_addStep_49 : decode cX1_addStep 49 = .ok (.aload_n 0, 1) := by decide +kernel
theorem dX1_addStep_50 : decode cX1_addStep 50 = .ok (.getfield 34, 3) := by decide +kernel
theorem dX1_addStep_53 : decode cX1_addStep 53 = .ok (.iload_n 3, 1) := by decide +kernel
theorem dX1_addStep_54 : decode cX1_addStep 54 = .ok (.invokestatic 72, 3) := by decide +kernel
theorem dX1_addStep_57 : decode cX1_addStep 57 = .ok (.aload_n 0, 1) := by decide +kernel
theorem dX1_addStep_58 : decode cX1_addStep 58 = .ok (.getfield 21, 3) := by decide +kernel
theorem dX1_addStep_61 : decode cX1_addStep 61 = .ok (.aload_n 0, 1) := by decide +kernel
theorem dX1_addStep_62 : decode cX1_addStep 62 = .ok (.getfield 34, 3) := by decide +kernel
theorem dX1_addStep_65 : decode cX1_addStep 65 = .ok (.iconst 1, 1) := by decide +kernel
theorem dX1_addStep_66 : decode cX1_addStep 66 = .ok (.iload_n 1, 1) := by decide +kernel
theorem dX1_addStep_67 : decode cX1_addStep 67 = .ok (.ishl, 1) := by decide +kernel
theorem dX1_addStep_68 : decode cX1_addStep 68 = .ok (.iconst 1, 1) := by decide +kernel
theorem dX1_addStep_69 : decode cX1_addStep 69 = .ok (.iload_n 2, 1) := by decide +kernel
theorem dX1_addStep_70 : decode cX1_addStep 70 = .ok (.ishl, 1) := by decide +kernel
theorem dX1_addStep_71 : decode cX1_addStep 71 = .ok (.ior, 1) := by decide +kernel
theorem dX1_addStep_72 : decode cX1_addStep 72 = .ok (.invokestatic 72, 3) := by decide +kernel
theorem dX1_addStep_75 : decode cX1_addStep 75 = .ok (.aload_n 0, 1) := by decide +kernel
theorem dX1_addStep_76 : decode cX1_addStep 76 = .ok (.dup, 1) := by decide +kernel
theorem dX1_addStep_77 : decode cX1_addStep 77 = .ok (.getfield 34, 3) := by decide +kernel
theorem dX1_addStep_80 : decode cX1_addStep 80 = .ok (.iconst 1, 1) := by decide +kernel
theorem dX1_addStep_81 : decode cX1_addStep 81 = .ok (.iadd, 1) := by decide +kernel
theorem dX1_addStep_82 : decode cX1_addStep 82 = .ok (.putfield 34, 3) := by decide +kernel
theorem dX1_addStep_85 : decode cX1_addStep 85 = .ok (.iconst 1, 1) := by decide +kernel
theorem dX1_addStep_86 : decode cX1_addStep 86 = .ok (.ireturn, 1) := by decide +kernel
theorem dX1_setGainsay_0 : decode cX1_setGainsay 0 = .ok (.aload_n 0, 1) := by decide +kernel
theorem dX1_setGainsay_1 : decode cX1_setGainsay 1 = .ok (.iload_n 1, 1) := by decide +kernel
theorem dX1_setGainsay_2 : decode cX1_setGainsay 2 = .ok (.invokevirtual 62, 3) := by decide +kernel
theorem dX1_setGainsay_5 : decode cX1_setGainsay 5 = .ok (.ifCond .eq 16, 3) := by decide +kernel
theorem dX1_setGainsay_8 : decode cX1_setGainsay 8 = .ok (.aload_n 0, 1) := by decide +kernel
theorem dX1_setGainsay_9 : decode cX1_setGainsay 9 = .ok (.iload_n 2, 1) := by decide +kernel
theorem dX1_setGainsay_10 : decode cX1_setGainsay 10 = .ok (.invokevirtual 62, 3) := by decide +kernel
theorem dX1_setGainsay_13 : decode cX1_setGainsay 13 = .ok (.ifCond .eq 8, 3) := by decide +kernel
theorem dX1_setGainsay_16 : decode cX1_setGainsay 16 = .ok (.iload_n 1, 1) := by decide +kernel
theorem dX1_setGainsay_17 : decode cX1_setGainsay 17 = .ok (.iload_n 2, 1) := by decide +kernel
theorem dX1_setGainsay_18 : decode cX1_setGainsay 18 = .ok (.if_icmp .ne 5, 3) := by decide +kernel
theorem dX1_setGainsay_21 : decode cX1_setGainsay 21 = .ok (.iconst 0, 1) := by decide +kernel
theorem dX1_setGainsay_22 : decode cX1_setGainsay 22 = .ok (.ireturn, 1) := by decide +kernel
theorem dX1_setGainsay_23 : decode cX1_setGainsay 23 = .ok (.aload_n 0, 1) := by decide +kernel
theorem dX1_setGainsay_24 : decode cX1_setGainsay 24 = .ok (.getfield 24, 3) := by decide +kernel
theorem dX1_setGainsay_27 : decode cX1_setGainsay 27 = .ok (.iload_n 1, 1) := by decide +kernel
theorem dX1_setGainsay_28 : decode cX1_setGainsay 28 = .ok (.aload_n 0, 1) := by decide +kernel
theorem dX1_setGainsay_29 : decode cX1_setGainsay 29 = .ok (.getfield 24, 3) := by decide +kernel
theorem dX1_setGainsay_32 : decode cX1_setGainsay 32 = .ok (.iload_n 1, 1) := by decide +kernel
theorem dX1_setGainsay_33 : decode cX1_setGainsay 33 = .ok (.invokestatic 76, 3) := by decide +kernel
theorem dX1_setGainsay_36 : decode cX1_setGainsay 36 = .ok (.iconst 1, 1) := by decide +kernel
theorem dX1_setGainsay_37 : decode cX1_setGainsay 37 = .ok (.iload_n 2, 1) := by decide +kernel
theorem dX1_setGainsay_38 : decode cX1_setGainsay 38 = .ok (.ishl, 1) := by decide +kernel
theorem dX1_setGainsay_39 : decode cX1_setGainsay 39 = .ok (.ior, 1) := by decide +kernel
theorem dX1_setGainsay_40 : decode cX1_setGainsay 40 = .ok (.invokestatic 72, 3) := by decide +kernel
theorem dX1_setGainsay_43 : decode cX1_setGainsay 43 = .ok (.aload_n 0, 1) := by decide +kernel
theorem dX1_setGainsay_44 : decode cX1_setGainsay 44 = .ok (.getfield 24, 3) := by decide +kernel
theorem dX1_setGainsay_47 : decode cX1_setGainsay 47 = .ok (.iload_n 2, 1) := by decide +kernel
theorem dX1_setGainsay_48 : decode cX1_setGainsay 48 = .ok (.aload_n 0, 1) := by decide +kernel
theorem dX1_setGainsay_49 : decode cX1_setGainsay 49 = .ok (.getfield 24, 3) := by decide +kernel
theorem dX1_setGainsay_52 : decode cX1_setGainsay 52 = .ok (.iload_n 2, 1) := by decide +kernel
theorem dX1_setGainsay_53 : decode cX1_setGainsay 53 = .ok (.invokestatic 76, 3) := by decide +kernel
theorem dX1_setGainsay_56 : decode cX1_setGainsay 56 = .ok (.iconst 1, 1) := by decide +kernel
theorem dX1_setGainsay_57 : decode cX1_setGainsay 57 = .ok (.iload_n 1, 1) := by decide +kernel
theorem dX1_setGainsay_58 : decode cX1_setGainsay 58 = .ok (.ishl, 1) := by decide +kernel
theorem dX1_setGainsay_59 : decode cX1_setGainsay 59 = .ok (.ior, 1) := by decide +kernel
theorem dX1_setGainsay_60 : decode cX1_setGainsay 60 = .ok (.invokestatic 72, 3) := by decide +kernel
theorem dX1_setGainsay_63 : decode cX1_setGainsay 63 = .ok (.iconst 1, 1) := by decide +kernel
theorem dX1_setGainsay_64 : decode cX1_setGainsay 64 = .ok (.ireturn, 1) := by decide +kernel
theorem dX1_setWear_0 : decode cX1_setWear 0 = .ok (.aload_n 0, 1) := by decide +kernel
theorem dX1_setWear_1 : decode cX1_setWear 1 = .ok (.iload_n 1, 1) := by decide +kernel
theorem dX1_setWear_2 : decode cX1_setWear 2 = .ok (.invokevirtual 62, 3) := by decide +kernel
theorem dX1_setWear_5 : decode cX1_setWear 5 = .ok (.ifCond .ne 5, 3) := by decide +kernel
theorem dX1_setWear_8 : decode cX1_setWear 8 = .ok (.iconst 0, 1) := by decide +kernel
theorem dX1_setWear_9 : decode cX1_setWear 9 = .ok (.ireturn, 1) := by decide +kernel
theorem dX1_setWear_10 : decode cX1_setWear 10 = .ok (.aload_n 0, 1) := by decide +kernel
theorem dX1_setWear_11 : decode cX1_setWear 11 = .ok (.getfield 27, 3) := by decide +kernel
theorem dX1_setWear_14 : decode cX1_setWear 14 = .ok (.iload_n 1, 1) := by decide +kernel
theorem dX1_setWear_15 : decode cX1_setWear 15 = .ok (.iload_n 2, 1) := by decide +kernel
theorem dX1_setWear_16 : decode cX1_setWear 16 = .ok (.invokestatic 72, 3) := by decide +kernel
theorem dX1_setWear_19 : decode cX1_setWear 19 = .ok (.iconst 1, 1) := by decide +kernel
theorem dX1_setWear_20 : decode cX1_setWear 20 = .ok (.ireturn, 1) := by decide +kernel
theorem dX1_stoneCount_0 : decode cX1_stoneCount 0 = .ok (.aload_n 0, 1) := by decide +kernel
theorem dX1_stoneCount_1 : decode cX1_stoneCount 1 = .ok (.getfield 52, 3) := by decide +kernel
theorem dX1_stoneCount_4 : decode cX1_stoneCount 4 = .ok (.ireturn, 1) := by decide +kernel
theorem dX1_stepCount_0 : decode cX1_stepCount 0 = .ok (.aload_n 0, 1) := by decide +kernel
theorem dX1_stepCount_1 : decode cX1_stepCount 1 = .ok (.getfield 34, 3) := by decide +kernel
theorem dX1_stepCount_4 : decode cX1_stepCount 4 = .ok (.ireturn, 1) := by decide +kernel
theorem dX1_begins_0 : decode cX1_begins 0 = .ok (.aload_n 0, 1) := by decide +kernel
theorem dX1_begins_1 : decode cX1_begins 1 = .ok (.getfield 38, 3) := by decide +kernel
theorem dX1_begins_4 : decode cX1_begins 4 = .ok (.ireturn, 1) := by decide +kernel
theorem dX1_beginnings_0 : decode cX1_beginnings 0 = .ok (.aload_n 0, 1) := by decide +kernel
theorem dX1_beginnings_1 : decode cX1_beginnings 1 = .ok (.getfield 38, 3) := by decide +kernel
theorem dX1_beginnings_4 : decode cX1_beginnings 4 = .ok (.aload_n 0, 1) := by decide +kernel
theorem dX1_beginnings_5 : decode cX1_beginnings 5 = .ok (.getfield 55, 3) := by decide +kernel
theorem dX1_beginnings_8 : decode cX1_beginnings 8 = .ok (.iand, 1) := by decide +kernel
theorem dX1_beginnings_9 : decode cX1_beginnings 9 = .ok (.ireturn, 1) := by decide +kernel
theorem dX1_there_0 : decode cX1_there 0 = .ok (.aload_n 0, 1) := by decide +kernel
theorem dX1_there_1 : decode cX1_there 1 = .ok (.getfield 55, 3) := by decide +kernel
theorem dX1_there_4 : decode cX1_there 4 = .ok (.ireturn, 1) := by decide +kernel
theorem dX1_stood_0 : decode cX1_stood 0 = .ok (.aload_n 0, 1) := by decide +kernel
theorem dX1_stood_1 : decode cX1_stood 1 = .ok (.getfield 41, 3) := by decide +kernel
theorem dX1_stood_4 : decode cX1_stood 4 = .ok (.ireturn, 1) := by decide +kernel
theorem dX1_allStones_0 : decode cX1_allStones 0 = .ok (.iconst 1, 1) := by decide +kernel
theorem dX1_allStones_1 : decode cX1_allStones 1 = .ok (.aload_n 0, 1) := by decide +kernel
theorem dX1_allStones_2 : decode cX1_allStones 2 = .ok (.getfield 52, 3) := by decide +kernel
theorem dX1_allStones_5 : decode cX1_allStones 5 = .ok (.ishl, 1) := by decide +kernel
theorem dX1_allStones_6 : decode cX1_allStones 6 = .ok (.iconst 1, 1) := by decide +kernel
theorem dX1_allStones_7 : decode cX1_allStones 7 = .ok (.isub, 1) := by decide +kernel
theorem dX1_allStones_8 : decode cX1_allStones 8 = .ok (.ireturn, 1) := by decide +kernel
theorem dX1_hasStone_0 : decode cX1_hasStone 0 = .ok (.iload_n 1, 1) := by decide +kernel
theorem dX1_hasStone_1 : decode cX1_hasStone 1 = .ok (.ifCond .lt 15, 3) := by decide +kernel
theorem dX1_hasStone_4 : decode cX1_hasStone 4 = .ok (.iload_n 1, 1) := by decide +kernel
theorem dX1_hasStone_5 : decode cX1_hasStone 5 = .ok (.aload_n 0, 1) := by decide +kernel
theorem dX1_hasStone_6 : decode cX1_hasStone 6 = .ok (.getfield 52, 3) := by decide +kernel
theorem dX1_hasStone_9 : decode cX1_hasStone 9 = .ok (.if_icmp .ge 7, 3) := by decide +kernel
theorem dX1_hasStone_12 : decode cX1_hasStone 12 = .ok (.iconst 1, 1) := by decide +kernel
theorem dX1_hasStone_13 : decode cX1_hasStone 13 = .ok (.goto 4, 3) := by decide +kernel
theorem dX1_hasStone_16 : decode cX1_hasStone 16 = .ok (.iconst 0, 1) := by decide +kernel
theorem dX1_hasStone_17 : decode cX1_hasStone 17 = .ok (.ireturn, 1) := by decide +kernel
theorem dX1_isThere_0 : decode cX1_isThere 0 = .ok (.aload_n 0, 1) := by decide +kernel
theorem dX1_isThere_1 : decode cX1_isThere 1 = .ok (.getfield 55, 3) := by decide +kernel
theorem dX1_isThere_4 : decode cX1_isThere 4 = .ok (.iload_n 1, 1) := by decide +kernel
theorem dX1_isThere_5 : decode cX1_isThere 5 = .ok (.invokestatic 80, 3) := by decide +kernel
theorem dX1_isThere_8 : decode cX1_isThere 8 = .ok (.ireturn, 1) := by decide +kernel
theorem dX1_wearOf_0 : decode cX1_wearOf 0 = .ok (.aload_n 0, 1) := by decide +kernel
theorem dX1_wearOf_1 : decode cX1_wearOf 1 = .ok (.getfield 27, 3) := by decide +kernel
theorem dX1_wearOf_4 : decode cX1_wearOf 4 = .ok (.iload_n 1, 1) := by decide +kernel
theorem dX1_wearOf_5 : decode cX1_wearOf 5 = .ok (.invokestatic 76, 3) := by decide +kernel
theorem dX1_wearOf_8 : decode cX1_wearOf 8 = .ok (.ireturn, 1) := by decide +kernel
theorem dX1_gainsayersOf_0 : decode cX1_gainsayersOf 0 = .ok (.aload_n 0, 1) := by decide +kernel
theorem dX1_gainsayersOf_1 : decode cX1_gainsayersOf 1 = .ok (.getfield 24, 3) := by decide +kernel
theorem dX1_gainsayersOf_4 : decode cX1_gainsayersOf 4 = .ok (.iload_n 1, 1) := by decide +kernel
theorem dX1_gainsayersOf_5 : decode cX1_gainsayersOf 5 = .ok (.invokestatic 76, 3) := by decide +kernel
theorem dX1_gainsayersOf_8 : decode cX1_gainsayersOf 8 = .ok (.ireturn, 1) := by decide +kernel
theorem dX1_firstOf_0 : decode cX1_firstOf 0 = .ok (.aload_n 0, 1) := by decide +kernel
theorem dX1_firstOf_1 : decode cX1_firstOf 1 = .ok (.getfield 9, 3) := by decide +kernel
theorem dX1_firstOf_4 : decode cX1_firstOf 4 = .ok (.iload_n 1, 1) := by decide +kernel
theorem dX1_firstOf_5 : decode cX1_firstOf 5 = .ok (.invokestatic 76, 3) := by decide +kernel
theorem dX1_firstOf_8 : decode cX1_firstOf 8 = .ok (.ireturn, 1) := by decide +kernel
theorem dX1_secondOf_0 : decode cX1_secondOf 0 = .ok (.aload_n 0, 1) := by decide +kernel
theorem dX1_secondOf_1 : decode cX1_secondOf 1 = .ok (.getfield 15, 3) := by decide +kernel
theorem dX1_secondOf_4 : decode cX1_secondOf 4 = .ok (.iload_n 1, 1) := by decide +kernel
theorem dX1_secondOf_5 : decode cX1_secondOf 5 = .ok (.invokestatic 76, 3) := by decide +kernel
theorem dX1_secondOf_8 : decode cX1_secondOf 8 = .ok (.ireturn, 1) := by decide +kernel
theorem dX1_endOf_0 : decode cX1_endOf 0 = .ok (.aload_n 0, 1) := by decide +kernel
theorem dX1_endOf_1 : decode cX1_endOf 1 = .ok (.getfield 18, 3) := by decide +kernel
theorem dX1_endOf_4 : decode cX1_endOf 4 = .ok (.iload_n 1, 1) := by decide +kernel
theorem dX1_endOf_5 : decode cX1_endOf 5 = .ok (.invokestatic 76, 3) := by decide +kernel
theorem dX1_endOf_8 : decode cX1_endOf 8 = .ok (.ireturn, 1) := by decide +kernel
theorem dX1_originsOf_0 : decode cX1_originsOf 0 = .ok (.aload_n 0, 1) := by decide +kernel
theorem dX1_originsOf_1 : decode cX1_originsOf 1 = .ok (.getfield 21, 3) := by decide +kernel
theorem dX1_originsOf_4 : decode cX1_originsOf 4 = .ok (.iload_n 1, 1) := by decide +kernel
theorem dX1_originsOf_5 : decode cX1_originsOf 5 = .ok (.invokestatic 76, 3) := by decide +kernel
theorem dX1_originsOf_8 : decode cX1_originsOf 8 = .ok (.ireturn, 1) := by decide +kernel
theorem dX1_mayBeGone_0 : decode cX1_mayBeGone 0 = .ok (.aload_n 0, 1) := by decide +kernel
theorem dX1_mayBeGone_1 : decode cX1_mayBeGone 1 = .ok (.iload_n 1, 1) := by decide +kernel
theorem dX1_mayBeGone_2 : decode cX1_mayBeGone 2 = .ok (.aload_n 0, 1) := by decide +kernel
theorem dX1_mayBeGone_3 : decode cX1_mayBeGone 3 = .ok (.getfield 41, 3) := by decide +kernel
theorem dX1_mayBeGone_6 : decode cX1_mayBeGone 6 = .ok (.invokevirtual 84, 3) := by decide +kernel
theorem dX1_mayBeGone_9 : decode cX1_mayBeGone 9 = .ok (.aload_n 0, 1) := by decide +kernel
theorem dX1_mayBeGone_10 : decode cX1_mayBeGone 10 = .ok (.getfield 41, 3) := by decide +kernel
theorem dX1_mayBeGone_13 : decode cX1_mayBeGone 13 = .ok (.if_icmp .eq 7, 3) := by decide +kernel
theorem dX1_mayBeGone_16 : decode cX1_mayBeGone 16 = .ok (.iconst 1, 1) := by decide +kernel
theorem dX1_mayBeGone_17 : decode cX1_mayBeGone 17 = .ok (.goto 4, 3) := by decide +kernel
theorem dX1_mayBeGone_20 : decode cX1_mayBeGone 20 = .ok (.iconst 0, 1) := by decide +kernel
theorem dX1_mayBeGone_21 : decode cX1_mayBeGone 21 = .ok (.ireturn, 1) := by decide +kernel
theorem dX1_after_0 : decode cX1_after 0 = .ok (.aload_n 0, 1) := by decide +kernel
theorem dX1_after_1 : decode cX1_after 1 = .ok (.iload_n 1, 1) := by decide +kernel
theorem dX1_after_2 : decode cX1_after 2 = .ok (.iload_n 2, 1) := by decide +kernel
theorem dX1_after_3 : decode cX1_after 3 = .ok (.aload_n 0, 1) := by decide +kernel
theorem dX1_after_4 : decode cX1_after 4 = .ok (.getfield 55, 3) := by decide +kernel
theorem dX1_after_7 : decode cX1_after 7 = .ok (.invokevirtual 88, 3) := by decide +kernel
theorem dX1_after_10 : decode cX1_after 10 = .ok (.ireturn, 1) := by decide +kernel
theorem dX1_afterAmong_0 : decode cX1_afterAmong 0 = .ok (.iconst 1, 1) := by decide +kernel
theorem dX1_afterAmong_1 : decode cX1_afterAmong 1 = .ok (.aload_n 0, 1) := by decide +kernel
theorem dX1_afterAmong_2 : decode cX1_afterAmong 2 = .ok (.getfield 18, 3) := by decide +kernel
theorem dX1_afterAmong_5 : decode cX1_afterAmong 5 = .ok (.iload_n 1, 1) := by decide +kernel
theorem dX1_afterAmong_6 : decode cX1_afterAmong 6 = .ok (.invokestatic 76, 3) := by decide +kernel
theorem dX1_afterAmong_9 : decode cX1_afterAmong 9 = .ok (.ishl, 1) := by decide +kernel
theorem dX1_afterAmong_10 : decode cX1_afterAmong 10 = .ok (.istore 4, 2) := by decide +kernel
theorem dX1_afterAmong_12 : decode cX1_afterAmong 12 = .ok (.iload_n 2, 1) := by decide +kernel
theorem dX1_afterAmong_13 : decode cX1_afterAmong 13 = .ok (.aload_n 0, 1) := by decide +kernel
theorem dX1_afterAmong_14 : decode cX1_afterAmong 14 = .ok (.getfield 21, 3) := by decide +kernel
theorem dX1_afterAmong_17 : decode cX1_afterAmong 17 = .ok (.iload_n 1, 1) := by decide +kernel
theorem dX1_afterAmong_18 : decode cX1_afterAmong 18 = .ok (.invokestatic 76, 3) := by decide +kernel
theorem dX1_afterAmong_21 : decode cX1_afterAmong 21 = .ok (.invokestatic 92, 3) := by decide +kernel
theorem dX1_afterAmong_24 : decode cX1_afterAmong 24 = .ok (.ifCond .eq 19, 3) := by decide +kernel
theorem dX1_afterAmong_27 : decode cX1_afterAmong 27 = .ok (.iload_n 3, 1) := by decide +kernel
theorem dX1_afterAmong_28 : decode cX1_afterAmong 28 = .ok (.iload 4, 2) := by decide +kernel
theorem dX1_afterAmong_30 : decode cX1_afterAmong 30 = .ok (.invokestatic 92, 3) := by decide +kernel
theorem dX1_afterAmong_33 : decode cX1_afterAmong 33 = .ok (.ifCond .eq 10, 3) := by decide +kernel
theorem dX1_afterAmong_36 : decode cX1_afterAmong 36 = .ok (.iload_n 2, 1) := by decide +kernel
theorem dX1_afterAmong_37 : decode cX1_afterAmong 37 = .ok (.iload 4, 2) := by decide +kernel
theorem dX1_afterAmong_39 : decode cX1_afterAmong 39 = .ok (.ior, 1) := by decide +kernel
theorem dX1_afterAmong_40 : decode cX1_afterAmong 40 = .ok (.goto 4, 3) := by decide +kernel
theorem dX1_afterAmong_43 : decode cX1_afterAmong 43 = .ok (.iload_n 2, 1) := by decide +kernel
theorem dX1_afterAmong_44 : decode cX1_afterAmong 44 = .ok (.ireturn, 1) := by decide +kernel
theorem dX1_tread_0 : decode cX1_tread 0 = .ok (.aload_n 0, 1) := by decide +kernel
theorem dX1_tread_1 : decode cX1_tread 1 = .ok (.iload_n 1, 1) := by decide +kernel
theorem dX1_tread_2 : decode cX1_tread 2 = .ok (.invokevirtual 95, 3) := by decide +kernel
theorem dX1_tread_5 : decode cX1_tread 5 = .ok (.istore_n 2, 1) := by decide +kernel
theorem dX1_tread_6 : decode cX1_tread 6 = .ok (.aload_n 0, 1) := by decide +kernel
theorem dX1_tread_7 : decode cX1_tread 7 = .ok (.aload_n 0, 1) := by decide +kernel
theorem dX1_tread_8 : decode cX1_tread 8 = .ok (.iload_n 1, 1) := by decide +kernel
theorem dX1_tread_9 : decode cX1_tread 9 = .ok (.aload_n 0, 1) := by decide +kernel
theorem dX1_tread_10 : decode cX1_tread 10 = .ok (.getfield 41, 3) := by decide +kernel
theorem dX1_tread_13 : decode cX1_tread 13 = .ok (.invokevirtual 84, 3) := by decide +kernel
theorem dX1_tread_16 : decode cX1_tread 16 = .ok (.putfield 41, 3) := by decide +kernel
theorem dX1_tread_19 : decode cX1_tread 19 = .ok (.aload_n 0, 1) := by decide +kernel
theorem dX1_tread_20 : decode cX1_tread 20 = .ok (.getfield 27, 3) := by decide +kernel
theorem dX1_tread_23 : decode cX1_tread 23 = .ok (.iload_n 2, 1) := by decide +kernel
theorem dX1_tread_24 : decode cX1_tread 24 = .ok (.aload_n 0, 1) := by decide +kernel
theorem dX1_tread_25 : decode cX1_tread 25 = .ok (.getfield 27, 3) := by decide +kernel
theorem dX1_tread_28 : decode cX1_tread 28 = .ok (.iload_n 2, 1) := by decide +kernel
theorem dX1_tread_29 : decode cX1_tread 29 = .ok (.invokestatic 76, 3) := by decide +kernel
theorem dX1_tread_32 : decode cX1_tread 32 = .ok (.iconst 1, 1) := by decide +kernel
theorem dX1_tread_33 : decode cX1_tread 33 = .ok (.iadd, 1) := by decide +kernel
theorem dX1_tread_34 : decode cX1_tread 34 = .ok (.invokestatic 72, 3) := by decide +kernel
theorem dX1_tread_37 : decode cX1_tread 37 = .ok (.return_, 1) := by decide +kernel
theorem dX1_untread_0 : decode cX1_untread 0 = .ok (.aload_n 0, 1) := by decide +kernel
theorem dX1_untread_1 : decode cX1_untread 1 = .ok (.dup, 1) := by decide +kernel
theorem dX1_untread_2 : decode cX1_untread 2 = .ok (.getfield 41, 3) := by decide +kernel
theorem dX1_untread_5 : decode cX1_untread 5 = .ok (.iconst 1, 1) := by decide +kernel
theorem dX1_untread_6 : decode cX1_untread 6 = .ok (.iload_n 1, 1) := by decide +kernel
theorem dX1_untread_7 : decode cX1_untread 7 = .ok (.ishl, 1) := by decide +kernel
theorem dX1_untread_8 : decode cX1_untread 8 = .ok (.iconst (-1), 1) := by decide +kernel
theorem dX1_untread_9 : decode cX1_untread 9 = .ok (.ixor, 1) := by decide +kernel
theorem dX1_untread_10 : decode cX1_untread 10 = .ok (.iand, 1) := by decide +kernel
theorem dX1_untread_11 : decode cX1_untread 11 = .ok (.putfield 41, 3) := by decide +kernel
theorem dX1_untread_14 : decode cX1_untread 14 = .ok (.aload_n 0, 1) := by decide +kernel
theorem dX1_untread_15 : decode cX1_untread 15 = .ok (.getfield 27, 3) := by decide +kernel
theorem dX1_untread_18 : decode cX1_untread 18 = .ok (.iload_n 1, 1) := by decide +kernel
theorem dX1_untread_19 : decode cX1_untread 19 = .ok (.aload_n 0, 1) := by decide +kernel
theorem dX1_untread_20 : decode cX1_untread 20 = .ok (.getfield 27, 3) := by decide +kernel
theorem dX1_untread_23 : decode cX1_untread 23 = .ok (.iload_n 1, 1) := by decide +kernel
theorem dX1_untread_24 : decode cX1_untread 24 = .ok (.invokestatic 76, 3) := by decide +kernel
theorem dX1_untread_27 : decode cX1_untread 27 = .ok (.iconst 1, 1) := by decide +kernel
theorem dX1_untread_28 : decode cX1_untread 28 = .ok (.isub, 1) := by decide +kernel
theorem dX1_untread_29 : decode cX1_untread 29 = .ok (.invokestatic 72, 3) := by decide +kernel
theorem dX1_untread_32 : decode cX1_untread 32 = .ok (.return_, 1) := by decide +kernel
theorem dX1_removeSlab_0 : decode cX1_removeSlab 0 = .ok (.aload_n 0, 1) := by decide +kernel
theorem dX1_removeSlab_1 : decode cX1_removeSlab 1 = .ok (.dup, 1) := by decide +kernel
theorem dX1_removeSlab_2 : decode cX1_removeSlab 2 = .ok (.getfield 55, 3) := by decide +kernel
theorem dX1_removeSlab_5 : decode cX1_removeSlab 5 = .ok (.iconst 1, 1) := by decide +kernel
theorem dX1_removeSlab_6 : decode cX1_removeSlab 6 = .ok (.iload_n 1, 1) := by decide +kernel
theorem dX1_removeSlab_7 : decode cX1_removeSlab 7 = .ok (.ishl, 1) := by decide +kernel
theorem dX1_removeSlab_8 : decode cX1_removeSlab 8 = .ok (.iconst (-1), 1) := by decide +kernel
theorem dX1_removeSlab_9 : decode cX1_removeSlab 9 = .ok (.ixor, 1) := by decide +kernel
theorem dX1_removeSlab_10 : decode cX1_removeSlab 10 = .ok (.iand, 1) := by decide +kernel
theorem dX1_removeSlab_11 : decode cX1_removeSlab 11 = .ok (.putfield 55, 3) := by decide +kernel
theorem dX1_removeSlab_14 : decode cX1_removeSlab 14 = .ok (.aload_n 0, 1) := by decide +kernel
theorem dX1_removeSlab_15 : decode cX1_removeSlab 15 = .ok (.dup, 1) := by decide +kernel
theorem dX1_removeSlab_16 : decode cX1_removeSlab 16 = .ok (.getfield 41, 3) := by decide +kernel
theorem dX1_removeSlab_19 : decode cX1_removeSlab 19 = .ok (.iconst 1, 1) := by decide +kernel
theorem dX1_removeSlab_20 : decode cX1_removeSlab 20 = .ok (.iload_n 1, 1) := by decide +kernel
theorem dX1_removeSlab_21 : decode cX1_removeSlab 21 = .ok (.ishl, 1) := by decide +kernel
theorem dX1_removeSlab_22 : decode cX1_removeSlab 22 = .ok (.iconst (-1), 1) := by decide +kernel
theorem dX1_removeSlab_23 : decode cX1_removeSlab 23 = .ok (.ixor, 1) := by decide +kernel
theorem dX1_removeSlab_24 : decode cX1_removeSlab 24 = .ok (.iand, 1) := by decide +kernel
theorem dX1_removeSlab_25 : decode cX1_removeSlab 25 = .ok (.putfield 41, 3) := by decide +kernel
theorem dX1_removeSlab_28 : decode cX1_removeSlab 28 = .ok (.return_, 1) := by decide +kernel
theorem dX1_putSlabBack_0 : decode cX1_putSlabBack 0 = .ok (.aload_n 0, 1) := by decide +kernel
theorem dX1_putSlabBack_1 : decode cX1_putSlabBack 1 = .ok (.dup, 1) := by decide +kernel
theorem dX1_putSlabBack_2 : decode cX1_putSlabBack 2 = .ok (.getfield 55, 3) := by decide +kernel
theorem dX1_putSlabBack_5 : decode cX1_putSlabBack 5 = .ok (.iconst 1, 1) := by decide +kernel
theorem dX1_putSlabBack_6 : decode cX1_putSlabBack 6 = .ok (.iload_n 1, 1) := by decide +kernel
theorem dX1_putSlabBack_7 : decode cX1_putSlabBack 7 = .ok (.ishl, 1) := by decide +kernel
theorem dX1_putSlabBack_8 : decode cX1_putSlabBack 8 = .ok (.ior, 1) := by decide +kernel
theorem dX1_putSlabBack_9 : decode cX1_putSlabBack 9 = .ok (.putfield 55, 3) := by decide +kernel
theorem dX1_putSlabBack_12 : decode cX1_putSlabBack 12 = .ok (.iload_n 2, 1) := by decide +kernel
theorem dX1_putSlabBack_13 : decode cX1_putSlabBack 13 = .ok (.ifCond .eq 15, 3) := by decide +kernel
theorem dX1_putSlabBack_16 : decode cX1_putSlabBack 16 = .ok (.aload_n 0, 1) := by decide +kernel
theorem dX1_putSlabBack_17 : decode cX1_putSlabBack 17 = .ok (.dup, 1) := by decide +kernel
theorem dX1_putSlabBack_18 : decode cX1_putSlabBack 18 = .ok (.getfield 41, 3) := by decide +kernel
theorem dX1_putSlabBack_21 : decode cX1_putSlabBack 21 = .ok (.iconst 1, 1) := by decide +kernel
theorem dX1_putSlabBack_22 : decode cX1_putSlabBack 22 = .ok (.iload_n 1, 1) := by decide +kernel
theorem dX1_putSlabBack_23 : decode cX1_putSlabBack 23 = .ok (.ishl, 1) := by decide +kernel
theorem dX1_putSlabBack_24 : decode cX1_putSlabBack 24 = .ok (.ior, 1) := by decide +kernel
theorem dX1_putSlabBack_25 : decode cX1_putSlabBack 25 = .ok (.putfield 41, 3) := by decide +kernel
theorem dX1_putSlabBack_28 : decode cX1_putSlabBack 28 = .ok (.return_, 1) := by decide +kernel
theorem dX1_removeLatestStep_0 : decode cX1_removeLatestStep 0 = .ok (.aload_n 0, 1) := by decide +kernel
theorem dX1_removeLatestStep_1 : decode cX1_removeLatestStep 1 = .ok (.getfield 34, 3) := by decide +kernel
theorem dX1_removeLatestStep_4 : decode cX1_removeLatestStep 4 = .ok (.ifCond .le 13, 3) := by decide +kernel
theorem dX1_removeLatestStep_7 : decode cX1_removeLatestStep 7 = .ok (.aload_n 0, 1) := by decide +kernel
theorem dX1_removeLatestStep_8 : decode cX1_removeLatestStep 8 = .ok (.dup, 1) := by decide +kernel
theorem dX1_removeLatestStep_9 : decode cX1_removeLatestStep 9 = .ok (.getfield 34, 3) := by decide +kernel
theorem dX1_removeLatestStep_12 : decode cX1_removeLatestStep 12 = .ok (.iconst 1, 1) := by decide +kernel
theorem dX1_removeLatestStep_13 : decode cX1_removeLatestStep 13 = .ok (.isub, 1) := by decide +kernel
theorem dX1_removeLatestStep_14 : decode cX1_removeLatestStep 14 = .ok (.putfield 34, 3) := by decide +kernel
theorem dX1_removeLatestStep_17 : decode cX1_removeLatestStep 17 = .ok (.return_, 1) := by decide +kernel
theorem dX1_reachOf_0 : decode cX1_reachOf 0 = .ok (.aload_n 0, 1) := by decide +kernel
theorem dX1_reachOf_1 : decode cX1_reachOf 1 = .ok (.iload_n 1, 1) := by decide +kernel
theorem dX1_reachOf_2 : decode cX1_reachOf 2 = .ok (.sipush 1023, 3) := by decide +kernel
theorem dX1_reachOf_5 : decode cX1_reachOf 5 = .ok (.aload_n 0, 1) := by decide +kernel
theorem dX1_reachOf_6 : decode cX1_reachOf 6 = .ok (.getfield 55, 3) := by decide +kernel
theorem dX1_reachOf_9 : decode cX1_reachOf 9 = .ok (.invokevirtual 99, 3) := by decide +kernel
theorem dX1_reachOf_12 : decode cX1_reachOf 12 = .ok (.ireturn, 1) := by decide +kernel
theorem dX1_reachBy_0 : decode cX1_reachBy 0 = .ok (.iload_n 1, 1) := by decide +kernel
theorem dX1_reachBy_1 : decode cX1_reachBy 1 = .ok (.iload_n 3, 1) := by decide +kernel
theorem dX1_reachBy_2 : decode cX1_reachBy 2 = .ok (.iand, 1) := by decide +kernel
theorem dX1_reachBy_3 : decode cX1_reachBy 3 = .ok (.istore 4, 2) := by decide +kernel
theorem dX1_reachBy_5 : decode cX1_reachBy 5 = .ok (.iconst 0, 1) := by decide +kernel
theorem dX1_reachBy_6 : decode cX1_reachBy 6 = .ok (.istore 5, 2) := by decide +kernel
theorem dX1_reachBy_8 : decode cX1_reachBy 8 = .ok (.iload 5, 2) := by decide +kernel
theorem dX1_reachBy_10 : decode cX1_reachBy 10 = .ok (.bipush 10, 2) := by decide +kernel
theorem dX1_reachBy_12 : decode cX1_reachBy 12 = .ok (.if_icmp .ge 61, 3) := by decide +kernel
theorem dX1_reachBy_15 : decode cX1_reachBy 15 = .ok (.iload 4, 2) := by decide +kernel
theorem dX1_reachBy_17 : decode cX1_reachBy 17 = .ok (.istore 6, 2) := by decide +kernel
theorem dX1_reachBy_19 : decode cX1_reachBy 19 = .ok (.iconst 0, 1) := by decide +kernel
theorem dX1_reachBy_20 : decode cX1_reachBy 20 = .ok (.istore 7, 2) := by decide +kernel
theorem dX1_reachBy_22 : decode cX1_reachBy 22 = .ok (.iload 7, 2) := by decide +kernel
theorem dX1_reachBy_24 : decode cX1_reachBy 24 = .ok (.aload_n 0, 1) := by decide +kernel
theorem dX1_reachBy_25 : decode cX1_reachBy 25 = .ok (.getfield 34, 3) := by decide +kernel
theorem dX1_reachBy_28 : decode cX1_reachBy 28 = .ok (.if_icmp .ge 29, 3) := by decide +kernel
theorem dX1_reachBy_31 : decode cX1_reachBy 31 = .ok (.iload_n 2, 1) := by decide +kernel
theorem dX1_reachBy_32 : decode cX1_reachBy 32 = .ok (.iload 7, 2) := by decide +kernel
theorem dX1_reachBy_34 : decode cX1_reachBy 34 = .ok (.invokestatic 80, 3) := by decide +kernel
theorem dX1_reachBy_37 : decode cX1_reachBy 37 = .ok (.ifCond .eq 14, 3) := by decide +kernel
theorem dX1_reachBy_40 : decode cX1_reachBy 40 = .ok (.aload_n 0, 1) := by decide +kernel
theorem dX1_reachBy_41 : decode cX1_reachBy 41 = .ok (.iload 7, 2) := by decide +kernel
theorem dX1_reachBy_43 : decode cX1_reachBy 43 = .ok (.iload 4, 2) := by decide +kernel
theorem dX1_reachBy_45 : decode cX1_reachBy 45 = .ok (.iload_n 3, 1) := by decide +kernel
theorem dX1_reachBy_46 : decode cX1_reachBy 46 = .ok (.invokevirtual 88, 3) := by decide +kernel
theorem dX1_reachBy_49 : decode cX1_reachBy 49 = .ok (.istore 4, 2) := by decide +kernel
theorem dX1_reachBy_51 : decode cX1_reachBy 51 = .ok (.iinc 7 1, 3) := by decide +kernel
theorem dX1_reachBy_54 : decode cX1_reachBy 54 = .ok (.goto (-32), 3) := by decide +kernel
theorem dX1_reachBy_57 : decode cX1_reachBy 57 = .ok (.iload 4, 2) := by decide +kernel
theorem dX1_reachBy_59 : decode cX1_reachBy 59 = .ok (.iload 6, 2) := by decide +kernel
theorem dX1_reachBy_61 : decode cX1_reachBy 61 = .ok (.if_icmp .ne 6, 3) := by decide +kernel
theorem dX1_reachBy_64 : decode cX1_reachBy 64 = .ok (.iload 4, 2) := by decide +kernel
theorem dX1_reachBy_66 : decode cX1_reachBy 66 = .ok (.ireturn, 1) := by decide +kernel
theorem dX1_reachBy_67 : decode cX1_reachBy 67 = .ok (.iinc 5 1, 3) := by decide +kernel
theorem dX1_reachBy_70 : decode cX1_reachBy 70 = .ok (.goto (-62), 3) := by decide +kernel
theorem dX1_reachBy_73 : decode cX1_reachBy 73 = .ok (.iload 4, 2) := by decide +kernel
theorem dX1_reachBy_75 : decode cX1_reachBy 75 = .ok (.ireturn, 1) := by decide +kernel
theorem dX1_hasGainsayersIn_0 : decode cX1_hasGainsayersIn 0 = .ok (.iconst 0, 1) := by decide +kernel
theorem dX1_hasGainsayersIn_1 : decode cX1_hasGainsayersIn 1 = .ok (.istore_n 2, 1) := by decide +kernel
theorem dX1_hasGainsayersIn_2 : decode cX1_hasGainsayersIn 2 = .ok (.iload_n 2, 1) := by decide +kernel
theorem dX1_hasGainsayersIn_3 : decode cX1_hasGainsayersIn 3 = .ok (.aload_n 0, 1) := by decide +kernel
theorem dX1_hasGainsayersIn_4 : decode cX1_hasGainsayersIn 4 = .ok (.getfield 52, 3) := by decide +kernel
theorem dX1_hasGainsayersIn_7 : decode cX1_hasGainsayersIn 7 = .ok (.if_icmp .ge 29, 3) := by decide +kernel
theorem dX1_hasGainsayersIn_10 : decode cX1_hasGainsayersIn 10 = .ok (.iload_n 1, 1) := by decide +kernel
theorem dX1_hasGainsayersIn_11 : decode cX1_hasGainsayersIn 11 = .ok (.iload_n 2, 1) := by decide +kernel
theorem dX1_hasGainsayersIn_12 : decode cX1_hasGainsayersIn 12 = .ok (.invokestatic 80, 3) := by decide +kernel
theorem dX1_hasGainsayersIn_15 : decode cX1_hasGainsayersIn 15 = .ok (.ifCond .eq 15, 3) := by decide +kernel
theorem dX1_hasGainsayersIn_18 : decode cX1_hasGainsayersIn 18 = .ok (.aload_n 0, 1) := by decide +kernel
theorem dX1_hasGainsayersIn_19 : decode cX1_hasGainsayersIn 19 = .ok (.iload_n 2, 1) := by decide +kernel
theorem dX1_hasGainsayersIn_20 : decode cX1_hasGainsayersIn 20 = .ok (.invokevirtual 102, 3) := by decide +kernel
theorem dX1_hasGainsayersIn_23 : decode cX1_hasGainsayersIn 23 = .ok (.iload_n 1, 1) := by decide +kernel
theorem dX1_hasGainsayersIn_24 : decode cX1_hasGainsayersIn 24 = .ok (.iand, 1) := by decide +kernel
theorem dX1_hasGainsayersIn_25 : decode cX1_hasGainsayersIn 25 = .ok (.ifCond .eq 5, 3) := by decide +kernel
theorem dX1_hasGainsayersIn_28 : decode cX1_hasGainsayersIn 28 = .ok (.iconst 1, 1) := by decide +kernel
theorem dX1_hasGainsayersIn_29 : decode cX1_hasGainsayersIn 29 = .ok (.ireturn, 1) := by decide +kernel
theorem dX1_hasGainsayersIn_30 : decode cX1_hasGainsayersIn 30 = .ok (.iinc 2 1, 3) := by decide +kernel
theorem dX1_hasGainsayersIn_33 : decode cX1_hasGainsayersIn 33 = .ok (.goto (-31), 3) := by decide +kernel
theorem dX1_hasGainsayersIn_36 : decode cX1_hasGainsayersIn 36 = .ok (.iconst 0, 1) := by decide +kernel
theorem dX1_hasGainsayersIn_37 : decode cX1_hasGainsayersIn 37 = .ok (.ireturn, 1) := by decide +kernel
theorem dX1_directlyBehind_0 : decode cX1_directlyBehind 0 = .ok (.iconst 0, 1) := by decide +kernel
theorem dX1_directlyBehind_1 : decode cX1_directlyBehind 1 = .ok (.istore_n 2, 1) := by decide +kernel
theorem dX1_directlyBehind_2 : decode cX1_directlyBehind 2 = .ok (.iconst 0, 1) := by decide +kernel
theorem dX1_directlyBehind_3 : decode cX1_directlyBehind 3 = .ok (.istore_n 3, 1) := by decide +kernel
theorem dX1_directlyBehind_4 : decode cX1_directlyBehind 4 = .ok (.iload_n 3, 1) := by decide +kernel
theorem dX1_directlyBehind_5 : decode cX1_directlyBehind 5 = .ok (.aload_n 0, 1) := by decide +kernel
theorem dX1_directlyBehind_6 : decode cX1_directlyBehind 6 = .ok (.getfield 34, 3) := by decide +kernel
theorem dX1_directlyBehind_9 : decode cX1_directlyBehind 9 = .ok (.if_icmp .ge 29, 3) := by decide +kernel
theorem dX1_directlyBehind_12 : decode cX1_directlyBehind 12 = .ok (.aload_n 0, 1) := by decide +kernel
theorem dX1_directlyBehind_13 : decode cX1_directlyBehind 13 = .ok (.iload_n 3, 1) := by decide +kernel
theorem dX1_directlyBehind_14 : decode cX1_directlyBehind 14 = .ok (.invokevirtual 105, 3) := by decide +kernel
theorem dX1_directlyBehind_17 : decode cX1_directlyBehind 17 = .ok (.iload_n 1, 1) := by decide +kernel
theorem dX1_directlyBehind_18 : decode cX1_directlyBehind 18 = .ok (.iand, 1) := by decide +kernel
theorem dX1_directlyBehind_19 : decode cX1_directlyBehind 19 = .ok (.ifCond .eq 13, 3) := by decide +kernel
theorem dX1_directlyBehind_22 : decode cX1_directlyBehind 22 = .ok (.iload_n 2, 1) := by decide +kernel
theorem dX1_directlyBehind_23 : decode cX1_directlyBehind 23 = .ok (.iconst 1, 1) := by decide +kernel
theorem dX1_directlyBehind_24 : decode cX1_directlyBehind 24 = .ok (.aload_n 0, 1) := by decide +kernel
theorem dX1_directlyBehind_25 : decode cX1_directlyBehind 25 = .ok (.iload_n 3, 1) := by decide +kernel
theorem dX1_directlyBehind_26 : decode cX1_directlyBehind 26 = .ok (.invokevirtual 95, 3) := by decide +kernel
theorem dX1_directlyBehind_29 : decode cX1_directlyBehind 29 = .ok (.ishl, 1) := by decide +kernel
theorem dX1_directlyBehind_30 : decode cX1_directlyBehind 30 = .ok (.ior, 1) := by decide +kernel
theorem dX1_directlyBehind_31 : decode cX1_directlyBehind 31 = .ok (.istore_n 2, 1) := by decide +kernel
theorem dX1_directlyBehind_32 : decode cX1_directlyBehind 32 = .ok (.iinc 3 1, 3) := by decide +kernel
theorem dX1_directlyBehind_35 : decode cX1_directlyBehind 35 = .ok (.goto (-31), 3) := by decide +kernel
theorem dX1_directlyBehind_38 : decode cX1_directlyBehind 38 = .ok (.iload_n 2, 1) := by decide +kernel
theorem dX1_directlyBehind_39 : decode cX1_directlyBehind 39 = .ok (.ireturn, 1) := by decide +kernel
theorem dX2_init_0 : decode cX2_init 0 = .ok (.aload_n 0, 1) := by decide +kernel
theorem dX2_init_1 : decode cX2_init 1 = .ok (.invokespecial 3, 3) := by decide +kernel
theorem dX2_init_4 : decode cX2_init 4 = .ok (.aload_n 0, 1) := by decide +kernel
theorem dX2_init_5 : decode cX2_init 5 = .ok (.bipush 8, 2) := by decide +kernel
theorem dX2_init_7 : decode cX2_init 7 = .ok (.newarray .int, 2) := by decide +kernel
theorem dX2_init_9 : decode cX2_init 9 = .ok (.putfield 9, 3) := by decide +kernel
theorem dX2_init_12 : decode cX2_init 12 = .ok (.aload_n 0, 1) := by decide +kernel
theorem dX2_init_13 : decode cX2_init 13 = .ok (.bipush 8, 2) := by decide +kernel
theorem dX2_init_15 : decode cX2_init 15 = .ok (.newarray .int, 2) := by decide +kernel
theorem dX2_init_17 : decode cX2_init 17 = .ok (.putfield 15, 3) := by decide +kernel
theorem dX2_init_20 : decode cX2_init 20 = .ok (.return_, 1) := by decide +kernel
theorem dX2_size_0 : decode cX2_size 0 = .ok (.aload_n 0, 1) := by decide +kernel
theorem dX2_size_1 : decode cX2_size 1 = .ok (.getfield 18, 3) := by decide +kernel
theorem dX2_size_4 : decode cX2_size 4 = .ok (.ireturn, 1) := by decide +kernel
theorem dX2_clear_0 : decode cX2_clear 0 = .ok (.aload_n 0, 1) := by decide +kernel
theorem dX2_clear_1 : decode cX2_clear 1 = .ok (.iconst 0, 1) := by decide +kernel
theorem dX2_clear_2 : decode cX2_clear 2 = .ok (.putfield 18, 3) := by decide +kernel
theorem dX2_clear_5 : decode cX2_clear 5 = .ok (.return_, 1) := by decide +kernel
theorem dX2_noteGone_0 : decode cX2_noteGone 0 = .ok (.aload_n 0, 1) := by decide +kernel
theorem dX2_noteGone_1 : decode cX2_noteGone 1 = .ok (.iconst 0, 1) := by decide +kernel
theorem dX2_noteGone_2 : decode cX2_noteGone 2 = .ok (.iload_n 1, 1) := by decide +kernel
theorem dX2_noteGone_3 : decode cX2_noteGone 3 = .ok (.invokevirtual 22, 3) := by decide +kernel
theorem dX2_noteGone_6 : decode cX2_noteGone 6 = .ok (.return_, 1) := by decide +kernel
theorem dX2_noteOut_0 : decode cX2_noteOut 0 = .ok (.aload_n 0, 1) := by decide +kernel
theorem dX2_noteOut_1 : decode cX2_noteOut 1 = .ok (.iload_n 2, 1) := by decide +kernel
theorem dX2_noteOut_2 : decode cX2_noteOut 2 = .ok (.ifCond .eq 7, 3) := by decide +kernel
theorem dX2_noteOut_5 : decode cX2_noteOut 5 = .ok (.iconst 2, 1) := by decide +kernel
theorem dX2_noteOut_6 : decode cX2_noteOut 6 = .ok (.goto 4, 3) := by decide +kernel
theorem dX2_noteOut_9 : decode cX2_noteOut 9 = .ok (.iconst 1, 1) := by decide +kernel
theorem dX2_noteOut_10 : decode cX2_noteOut 10 = .ok (.iload_n 1, 1) := by decide +kernel
theorem dX2_noteOut_11 : decode cX2_noteOut 11 = .ok (.invokevirtual 22, 3) := by decide +kernel
theorem dX2_noteOut_14 : decode cX2_noteOut 14 = .ok (.return_, 1) := by decide +kernel
theorem dX2_noteLaid_0 : decode cX2_noteLaid 0 = .ok (.aload_n 0, 1) := by decide +kernel
theorem dX2_noteLaid_1 : decode cX2_noteLaid 1 = .ok (.iconst 3, 1) := by decide +kernel
theorem dX2_noteLaid_2 : decode cX2_noteLaid 2 = .ok (.iconst 0, 1) := by decide +kernel
theorem dX2_noteLaid_3 : decode cX2_noteLaid 3 = .ok (.invokevirtual 22, 3) := by decide +kernel
theorem dX2_noteLaid_6 : decode cX2_noteLaid 6 = .ok (.return_, 1) := by decide +kernel
theorem dX2_note_0 : decode cX2_note 0 = .ok (.aload_n 0, 1) := by decide +kernel
theorem dX2_note_1 : decode cX2_note 1 = .ok (.getfield 18, 3) := by decide +kernel
theorem dX2_note_4 : decode cX2_note 4 = .ok (.bipush 8, 2) := by decide +kernel
theorem dX2_note_6 : decode cX2_note 6 = .ok (.if_icmp .lt 7, 3) := by decide +kernel
theorem dX2_note_9 : decode cX2_note 9 = .ok (.aload_n 0, 1) := by decide +kernel
theorem dX2_note_10 : decode cX2_note 10 = .ok (.invokevirtual 26, 3) := by decide +kernel
theorem dX2_note_13 : decode cX2_note 13 = .ok (.aload_n 0, 1) := by decide +kernel
theorem dX2_note_14 : decode cX2_note 14 = .ok (.getfield 9, 3) := by decide +kernel
theorem dX2_note_17 : decode cX2_note 17 = .ok (.aload_n 0, 1) := by decide +kernel
theorem dX2_note_18 : decode cX2_note 18 = .ok (.getfield 18, 3) := by decide +kernel
theorem dX2_note_21 : decode cX2_note 21 = .ok (.iload_n 1, 1) := by decide +kernel
theorem dX2_note_22 : decode cX2_note 22 = .ok (.invokestatic 29, 3) := by decide +kernel
theorem dX2_note_25 : decode cX2_note 25 = .ok (.aload_n 0, 1) := by decide +kernel
theorem dX2_note_26 : decode cX2_note 26 = .ok (.getfield 15, 3) := by decide +kernel
theorem dX2_note_29 : decode cX2_note 29 = .ok (.aload_n 0, 1) := by decide +kernel
theorem dX2_note_30 : decode cX2_note 30 = .ok (.getfield 18, 3) := by decide +kernel
theorem dX2_note_33 : decode cX2_note 33 = .ok (.iload_n 2, 1) := by decide +kernel
theorem dX2_note_34 : decode cX2_note 34 = .ok (.invokestatic 29, 3) := by decide +kernel
theorem dX2_note_37 : decode cX2_note 37 = .ok (.aload_n 0, 1) := by decide +kernel
theorem dX2_note_38 : decode cX2_note 38 = .ok (.dup, 1) := by decide +kernel
theorem dX2_note_39 : decode cX2_note 39 = .ok (.getfield 18, 3) := by decide +kernel
theorem dX2_note_42 : decode cX2_note 42 = .ok (.iconst 1, 1) := by decide +kernel
theorem dX2_note_43 : decode cX2_note 43 = .ok (.iadd, 1) := by decide +kernel
theorem dX2_note_44 : decode cX2_note 44 = .ok (.putfield 18, 3) := by decide +kernel
theorem dX2_note_47 : decode cX2_note 47 = .ok (.return_, 1) := by decide +kernel
theorem dX2_forgetOldest_0 : decode cX2_forgetOldest 0 = .ok (.iconst 1, 1) := by decide +kernel
theorem dX2_forgetOldest_1 : decode cX2_forgetOldest 1 = .ok (.istore_n 1, 1) := by decide +kernel
theorem dX2_forgetOldest_2 : decode cX2_forgetOldest 2 = .ok (.iload_n 1, 1) := by decide +kernel
theorem dX2_forgetOldest_3 : decode cX2_forgetOldest 3 = .ok (.aload_n 0, 1) := by decide +kernel
theorem dX2_forgetOldest_4 : decode cX2_forgetOldest 4 = .ok (.getfield 18, 3) := by decide +kernel
theorem dX2_forgetOldest_7 : decode cX2_forgetOldest 7 = .ok (.if_icmp .ge 45, 3) := by decide +kernel
theorem dX2_forgetOldest_10 : decode cX2_forgetOldest 10 = .ok (.aload_n 0, 1) := by decide +kernel
theorem dX2_forgetOldest_11 : decode cX2_forgetOldest 11 = .ok (.getfield 9, 3) := by decide +kernel
theorem dX2_forgetOldest_14 : decode cX2_forgetOldest 14 = .ok (.iload_n 1, 1) := by decide +kernel
theorem dX2_forgetOldest_15 : decode cX2_forgetOldest 15 = .ok (.iconst 1, 1) := by decide +kernel
theorem dX2_forgetOldest_16 : decode cX2_forgetOldest 16 = .ok (.isub, 1) := by decide +kernel
theorem dX2_forgetOldest_17 : decode cX2_forgetOldest 17 = .ok (.aload_n 0, 1) := by decide +kernel
theorem dX2_forgetOldest_18 : decode cX2_forgetOldest 18 = .ok (.getfield 9, 3) := by decide +kernel
theorem dX2_forgetOldest_21 : decode cX2_forgetOldest 21 = .ok (.iload_n 1, 1) := by decide +kernel
theorem dX2_forgetOldest_22 : decode cX2_forgetOldest 22 = .ok (.invokestatic 33, 3) := by decide +kernel
theorem dX2_forgetOldest_25 : decode cX2_forgetOldest 25 = .ok (.invokestatic 29, 3) := by decide +kernel
theorem dX2_forgetOldest_28 : decode cX2_forgetOldest 28 = .ok (.aload_n 0, 1) := by decide +kernel
theorem dX2_forgetOldest_29 : decode cX2_forgetOldest 29 = .ok (.getfield 15, 3) := by decide +kernel
theorem dX2_forgetOldest_32 : decode cX2_forgetOldest 32 = .ok (.iload_n 1, 1) := by decide +kernel
theorem dX2_forgetOldest_33 : decode cX2_forgetOldest 33 = .ok (.iconst 1, 1) := by decide +kernel
theorem dX2_forgetOldest_34 : decode cX2_forgetOldest 34 = .ok (.isub, 1) := by decide +kernel
theorem dX2_forgetOldest_35 : decode cX2_forgetOldest 35 = .ok (.aload_n 0, 1) := by decide +kernel
theorem dX2_forgetOldest_36 : decode cX2_forgetOldest 36 = .ok (.getfield 15, 3) := by decide +kernel
theorem dX2_forgetOldest_39 : decode cX2_forgetOldest 39 = .ok (.iload_n 1, 1) := by decide +kernel
theorem dX2_forgetOldest_40 : decode cX2_forgetOldest 40 = .ok (.invokestatic 33, 3) := by decide +kernel
theorem dX2_forgetOldest_43 : decode cX2_forgetOldest 43 = .ok (.invokestatic 29, 3) := by decide +kernel
theorem dX2_forgetOldest_46 : decode cX2_forgetOldest 46 = .ok (.iinc 1 1, 3) := by decide +kernel
theorem dX2_forgetOldest_49 : decode cX2_forgetOldest 49 = .ok (.goto (-47), 3) := by decide +kernel
theorem dX2_forgetOldest_52 : decode cX2_forgetOldest 52 = .ok (.aload_n 0, 1) := by decide +kernel
theorem dX2_forgetOldest_53 : decode cX2_forgetOldest 53 = .ok (.dup, 1) := by decide +kernel
theorem dX2_forgetOldest_54 : decode cX2_forgetOldest 54 = .ok (.getfield 18, 3) := by decide +kernel
theorem dX2_forgetOldest_57 : decode cX2_forgetOldest 57 = .ok (.iconst 1, 1) := by decide +kernel
theorem dX2_forgetOldest_58 : decode cX2_forgetOldest 58 = .ok (.isub, 1) := by decide +kernel
theorem dX2_forgetOldest_59 : decode cX2_forgetOldest 59 = .ok (.putfield 18, 3) := by decide +kernel
theorem dX2_forgetOldest_62 : decode cX2_forgetOldest 62 = .ok (.return_, 1) := by decide +kernel
theorem dX2_takeBackLatest_0 : decode cX2_takeBackLatest 0 = .ok (.aload_n 0, 1) := by decide +kernel
theorem dX2_takeBackLatest_1 : decode cX2_takeBackLatest 1 = .ok (.getfield 18, 3) := by decide +kernel
theorem dX2_takeBackLatest_4 : decode cX2_takeBackLatest 4 = .ok (.ifCond .ne 4, 3) := by decide +kernel
theorem dX2_takeBackLatest_7 : decode cX2_takeBackLatest 7 = .ok (.return_, 1) := by decide +kernel
theorem dX2_takeBackLatest_8 : decode cX2_takeBackLatest 8 = .ok (.aload_n 0, 1) := by decide +kernel
theorem dX2_takeBackLatest_9 : decode cX2_takeBackLatest 9 = .ok (.dup, 1) := by decide +kernel
theorem dX2_takeBackLatest_10 : decode cX2_takeBackLatest 10 = .ok (.getfield 18, 3) := by decide +kernel
theorem dX2_takeBackLatest_13 : decode cX2_takeBackLatest 13 = .ok (.iconst 1, 1) := by decide +kernel
theorem dX2_takeBackLatest_14 : decode cX2_takeBackLatest 14 = .ok (.isub, 1) := by decide +kernel
theorem dX2_takeBackLatest_15 : decode cX2_takeBackLatest 15 = .ok (.putfield 18, 3) := by decide +kernel
theorem dX2_takeBackLatest_18 : decode cX2_takeBackLatest 18 = .ok (.aload_n 0, 1) := by decide +kernel
theorem dX2_takeBackLatest_19 : decode cX2_takeBackLatest 19 = .ok (.getfield 9, 3) := by decide +kernel
theorem dX2_takeBackLatest_22 : decode cX2_takeBackLatest 22 = .ok (.aload_n 0, 1) := by decide +kernel
theorem dX2_takeBackLatest_23 : decode cX2_takeBackLatest 23 = .ok (.getfield 18, 3) := by decide +kernel
theorem dX2_takeBackLatest_26 : decode cX2_takeBackLatest 26 = .ok (.invokestatic 33, 3) := by decide +kernel
theorem dX2_takeBackLatest_29 : decode cX2_takeBackLatest 29 = .ok (.istore_n 2, 1) := by decide +kernel
theorem dX2_takeBackLatest_30 : decode cX2_takeBackLatest 30 = .ok (.aload_n 0, 1) := by decide +kernel
theorem dX2_takeBackLatest_31 : decode cX2_takeBackLatest 31 = .ok (.getfield 15, 3) := by decide +kernel
theorem dX2_takeBackLatest_34 : decode cX2_takeBackLatest 34 = .ok (.aload_n 0, 1) := by decide +kernel
theorem dX2_takeBackLatest_35 : decode cX2_takeBackLatest 35 = .ok (.getfield 18, 3) := by decide +kernel
theorem dX2_takeBackLatest_38 : decode cX2_takeBackLatest 38 = .ok (.invokestatic 33, 3) := by decide +kernel
theorem dX2_takeBackLatest_41 : decode cX2_takeBackLatest 41 = .ok (.istore_n 3, 1) := by decide +kernel
theorem dX2_takeBackLatest_42 : decode cX2_takeBackLatest 42 = .ok (.iload_n 2, 1) := by decide +kernel
theorem dX2_takeBackLatest_43 : decode cX2_takeBackLatest 43 = .ok (.ifCond .ne 11, 3) := by decide +kernel
theorem dX2_takeBackLatest_46 : decode cX2_takeBackLatest 46 = .ok (.aload_n 1, 1) := by decide +kernel
theorem dX2_takeBackLatest_47 : decode cX2_takeBackLatest 47 = .ok (.iload_n 3, 1) := by decide +kernel
theorem dX2_takeBackLatest_48 : decode cX2_takeBackLatest 48 = .ok (.invokevirtual 37, 3) := by decide +kernel
theorem dX2_takeBackLatest_51 : decode cX2_takeBackLatest 51 = .ok (.goto 30, 3) := by decide +kernel
theorem dX2_takeBackLatest_54 : decode cX2_takeBackLatest 54 = .ok (.iload_n 2, 1) := by decide +kernel
theorem dX2_takeBackLatest_55 : decode cX2_takeBackLatest 55 = .ok (.iconst 3, 1) := by decide +kernel
theorem dX2_takeBackLatest_56 : decode cX2_takeBackLatest 56 = .ok (.if_icmp .ne 10, 3) := by decide +kernel
theorem dX2_takeBackLatest_59 : decode cX2_takeBackLatest 59 = .ok (.aload_n 1, 1) := by decide +kernel
theorem dX2_takeBackLatest_60 : decode cX2_takeBackLatest 60 = .ok (.invokevirtual 43, 3) := by decide +kernel
theorem dX2_takeBackLatest_63 : decode cX2_takeBackLatest 63 = .ok (.goto 18, 3) := by decide +kernel
theorem dX2_takeBackLatest_66 : decode cX2_takeBackLatest 66 = .ok (.aload_n 1, 1) := by decide +kernel
theorem dX2_takeBackLatest_67 : decode cX2_takeBackLatest 67 = .ok (.iload_n 3, 1) := by decide +kernel
theorem dX2_takeBackLatest_68 : decode cX2_takeBackLatest 68 = .ok (.iload_n 2, 1) := by decide +kernel
theorem dX2_takeBackLatest_69 : decode cX2_takeBackLatest 69 = .ok (.iconst 2, 1) := by decide +kernel
theorem dX2_takeBackLatest_70 : decode cX2_takeBackLatest 70 = .ok (.if_icmp .ne 7, 3) := by decide +kernel
theorem dX2_takeBackLatest_73 : decode cX2_takeBackLatest 73 = .ok (.iconst 1, 1) := by decide +kernel
theorem dX2_takeBackLatest_74 : decode cX2_takeBackLatest 74 = .ok (.goto 4, 3) := by decide +kernel
theorem dX2_takeBackLatest_77 : decode cX2_takeBackLatest 77 = .ok (.iconst 0, 1) := by decide +kernel
theorem dX2_takeBackLatest_78 : decode cX2_takeBackLatest 78 = .ok (.invokevirtual 46, 3) := by decide +kernel
theorem dX2_takeBackLatest_81 : decode cX2_takeBackLatest 81 = .ok (.return_, 1) := by decide +kernel
theorem dX3_init_0 : decode cX3_init 0 = .ok (.aload_n 0, 1) := by decide +kernel
theorem dX3_init_1 : decode cX3_init 1 = .ok (.invokespecial 3, 3) := by decide +kernel
theorem dX3_init_4 : decode cX3_init 4 = .ok (.aload_n 0, 1) := by decide +kernel
theorem dX3_init_5 : decode cX3_init 5 = .ok (.sipush 1024, 3) := by decide +kernel
theorem dX3_init_8 : decode cX3_init 8 = .ok (.newarray .int, 2) := by decide +kernel
theorem dX3_init_10 : decode cX3_init 10 = .ok (.putfield 9, 3) := by decide +kernel
theorem dX3_init_13 : decode cX3_init 13 = .ok (.return_, 1) := by decide +kernel
theorem dX3_reckon_0 : decode cX3_reckon 0 = .ok (.aload_n 0, 1) := by decide +kernel
theorem dX3_reckon_1 : decode cX3_reckon 1 = .ok (.iconst 1, 1) := by decide +kernel
theorem dX3_reckon_2 : decode cX3_reckon 2 = .ok (.aload_n 1, 1) := by decide +kernel
theorem dX3_reckon_3 : decode cX3_reckon 3 = .ok (.invokevirtual 15, 3) := by decide +kernel
theorem dX3_reckon_6 : decode cX3_reckon 6 = .ok (.ishl, 1) := by decide +kernel
theorem dX3_reckon_7 : decode cX3_reckon 7 = .ok (.putfield 21, 3) := by decide +kernel
theorem dX3_reckon_10 : decode cX3_reckon 10 = .ok (.aload_n 0, 1) := by decide +kernel
theorem dX3_reckon_11 : decode cX3_reckon 11 = .ok (.getfield 9, 3) := by decide +kernel
theorem dX3_reckon_14 : decode cX3_reckon 14 = .ok (.iconst 0, 1) := by decide +kernel
theorem dX3_reckon_15 : decode cX3_reckon 15 = .ok (.aload_n 1, 1) := by decide +kernel
theorem dX3_reckon_16 : decode cX3_reckon 16 = .ok (.invokevirtual 25, 3) := by decide +kernel
theorem dX3_reckon_19 : decode cX3_reckon 19 = .ok (.invokestatic 28, 3) := by decide +kernel
theorem dX3_reckon_22 : decode cX3_reckon 22 = .ok (.iconst 1, 1) := by decide +kernel
theorem dX3_reckon_23 : decode cX3_reckon 23 = .ok (.istore_n 2, 1) := by decide +kernel
theorem dX3_reckon_24 : decode cX3_reckon 24 = .ok (.iload_n 2, 1) := by decide +kernel
theorem dX3_reckon_25 : decode cX3_reckon 25 = .ok (.aload_n 0, 1) := by decide +kernel
theorem dX3_reckon_26 : decode cX3_reckon 26 = .ok (.getfield 21, 3) := by decide +kernel
theorem dX3_reckon_29 : decode cX3_reckon 29 = .ok (.if_icmp .ge 65, 3) := by decide +kernel
theorem dX3_reckon_32 : decode cX3_reckon 32 = .ok (.aload_n 0, 1) := by decide +kernel
theorem dX3_reckon_33 : decode cX3_reckon 33 = .ok (.getfield 9, 3) := by decide +kernel
theorem dX3_reckon_36 : decode cX3_reckon 36 = .ok (.iload_n 2, 1) := by decide +kernel
theorem dX3_reckon_37 : decode cX3_reckon 37 = .ok (.iload_n 2, 1) := by decide +kernel
theorem dX3_reckon_38 : decode cX3_reckon 38 = .ok (.iconst 1, 1) := by decide +kernel
theorem dX3_reckon_39 : decode cX3_reckon 39 = .ok (.isub, 1) := by decide +kernel
theorem dX3_reckon_40 : decode cX3_reckon 40 = .ok (.iand, 1) := by decide +kernel
theorem dX3_reckon_41 : decode cX3_reckon 41 = .ok (.invokestatic 32, 3) := by decide +kernel
theorem dX3_reckon_44 : decode cX3_reckon 44 = .ok (.istore_n 3, 1) := by decide +kernel
theorem dX3_reckon_45 : decode cX3_reckon 45 = .ok (.iload_n 2, 1) := by decide +kernel
theorem dX3_reckon_46 : decode cX3_reckon 46 = .ok (.invokestatic 36, 3) := by decide +kernel
theorem dX3_reckon_49 : decode cX3_reckon 49 = .ok (.istore 4, 2) := by decide +kernel
theorem dX3_reckon_51 : decode cX3_reckon 51 = .ok (.aload_n 1, 1) := by decide +kernel
theorem dX3_reckon_52 : decode cX3_reckon 52 = .ok (.iload 4, 2) := by decide +kernel
theorem dX3_reckon_54 : decode cX3_reckon 54 = .ok (.iload_n 3, 1) := by decide +kernel
theorem dX3_reckon_55 : decode cX3_reckon 55 = .ok (.invokevirtual 42, 3) := by decide +kernel
theorem dX3_reckon_58 : decode cX3_reckon 58 = .ok (.iload_n 3, 1) := by decide +kernel
theorem dX3_reckon_59 : decode cX3_reckon 59 = .ok (.if_icmp .ne 7, 3) := by decide +kernel
theorem dX3_reckon_62 : decode cX3_reckon 62 = .ok (.iload_n 3, 1) := by decide +kernel
theorem dX3_reckon_63 : decode cX3_reckon 63 = .ok (.goto 13, 3) := by decide +kernel
theorem dX3_reckon_66 : decode cX3_reckon 66 = .ok (.aload_n 1, 1) := by decide +kernel
theorem dX3_reckon_67 : decode cX3_reckon 67 = .ok (.iload_n 3, 1) := by decide +kernel
theorem dX3_reckon_68 : decode cX3_reckon 68 = .ok (.iload_n 2, 1) := by decide +kernel
theorem dX3_reckon_69 : decode cX3_reckon 69 = .ok (.aload_n 1, 1) := by decide +kernel
theorem dX3_reckon_70 : decode cX3_reckon 70 = .ok (.invokevirtual 46, 3) := by decide +kernel
theorem dX3_reckon_73 : decode cX3_reckon 73 = .ok (.invokevirtual 49, 3) := by decide +kernel
theorem dX3_reckon_76 : decode cX3_reckon 76 = .ok (.istore 5, 2) := by decide +kernel
theorem dX3_reckon_78 : decode cX3_reckon 78 = .ok (.aload_n 0, 1) := by decide +kernel
theorem dX3_reckon_79 : decode cX3_reckon 79 = .ok (.getfield 9, 3) := by decide +kernel
theorem dX3_reckon_82 : decode cX3_reckon 82 = .ok (.iload_n 2, 1) := by decide +kernel
theorem dX3_reckon_83 : decode cX3_reckon 83 = .ok (.iload 5, 2) := by decide +kernel
theorem dX3_reckon_85 : decode cX3_reckon 85 = .ok (.invokestatic 28, 3) := by decide +kernel
theorem dX3_reckon_88 : decode cX3_reckon 88 = .ok (.iinc 2 1, 3) := by decide +kernel
theorem dX3_reckon_91 : decode cX3_reckon 91 = .ok (.goto (-67), 3) := by decide +kernel
theorem dX3_reckon_94 : decode cX3_reckon 94 = .ok (.return_, 1) := by decide +kernel
theorem dX3_isProof_0 : decode cX3_isProof 0 = .ok (.aload_n 0, 1) := by decide +kernel
theorem dX3_isProof_1 : decode cX3_isProof 1 = .ok (.getfield 9, 3) := by decide +kernel
theorem dX3_isProof_4 : decode cX3_isProof 4 = .ok (.iload_n 1, 1) := by decide +kernel
theorem dX3_isProof_5 : decode cX3_isProof 5 = .ok (.invokestatic 32, 3) := by decide +kernel
theorem dX3_isProof_8 : decode cX3_isProof 8 = .ok (.iload_n 2, 1) := by decide +kernel
theorem dX3_isProof_9 : decode cX3_isProof 9 = .ok (.invokestatic 53, 3) := by decide +kernel
theorem dX3_isProof_12 : decode cX3_isProof 12 = .ok (.ifCond .ne 5, 3) := by decide +kernel
theorem dX3_isProof_15 : decode cX3_isProof 15 = .ok (.iconst 0, 1) := by decide +kernel
theorem dX3_isProof_16 : decode cX3_isProof 16 = .ok (.ireturn, 1) := by decide +kernel
theorem dX3_isProof_17 : decode cX3_isProof 17 = .ok (.iconst 0, 1) := by decide +kernel
theorem dX3_isProof_18 : decode cX3_isProof 18 = .ok (.istore_n 3, 1) := by decide +kernel
theorem dX3_isProof_19 : decode cX3_isProof 19 = .ok (.iload_n 3, 1) := by decide +kernel
theorem dX3_isProof_20 : decode cX3_isProof 20 = .ok (.bipush 10, 2) := by decide +kernel
theorem dX3_isProof_22 : decode cX3_isProof 22 = .ok (.if_icmp .ge 40, 3) := by decide +kernel
theorem dX3_isProof_25 : decode cX3_isProof 25 = .ok (.iload_n 1, 1) := by decide +kernel
theorem dX3_isProof_26 : decode cX3_isProof 26 = .ok (.iload_n 3, 1) := by decide +kernel
theorem dX3_isProof_27 : decode cX3_isProof 27 = .ok (.invokestatic 53, 3) := by decide +kernel
theorem dX3_isProof_30 : decode cX3_isProof 30 = .ok (.ifCond .eq 26, 3) := by decide +kernel
theorem dX3_isProof_33 : decode cX3_isProof 33 = .ok (.aload_n 0, 1) := by decide +kernel
theorem dX3_isProof_34 : decode cX3_isProof 34 = .ok (.getfield 9, 3) := by decide +kernel
theorem dX3_isProof_37 : decode cX3_isProof 37 = .ok (.iload_n 1, 1) := by decide +kernel
theorem dX3_isProof_38 : decode cX3_isProof 38 = .ok (.iconst 1, 1) := by decide +kernel
theorem dX3_isProof_39 : decode cX3_isProof 39 = .ok (.iload_n 3, 1) := by decide +kernel
theorem dX3_isProof_40 : decode cX3_isProof 40 = .ok (.ishl, 1) := by decide +kernel
theorem dX3_isProof_41 : decode cX3_isProof 41 = .ok (.iconst (-1), 1) := by decide +kernel
theorem dX3_isProof_42 : decode cX3_isProof 42 = .ok (.ixor, 1) := by decide +kernel
theorem dX3_isProof_43 : decode cX3_isProof 43 = .ok (.iand, 1) := by decide +kernel
theorem dX3_isProof_44 : decode cX3_isProof 44 = .ok (.invokestatic 32, 3) := by decide +kernel
theorem dX3_isProof_47 : decode cX3_isProof 47 = .ok (.iload_n 2, 1) := by decide +kernel
theorem dX3_isProof_48 : decode cX3_isProof 48 = .ok (.invokestatic 53, 3) := by decide +kernel
theorem dX3_isProof_51 : decode cX3_isProof 51 = .ok (.ifCond .eq 5, 3) := by decide +kernel
theorem dX3_isProof_54 : decode cX3_isProof 54 = .ok (.iconst 0, 1) := by decide +kernel
theorem dX3_isProof_55 : decode cX3_isProof 55 = .ok (.ireturn, 1) := by decide +kernel
theorem dX3_isProof_56 : decode cX3_isProof 56 = .ok (.iinc 3 1, 3) := by decide +kernel
theorem dX3_isProof_59 : decode cX3_isProof 59 = .ok (.goto (-40), 3) := by decide +kernel
theorem dX3_isProof_62 : decode cX3_isProof 62 = .ok (.iconst 1, 1) := by decide +kernel
theorem dX3_isProof_63 : decode cX3_isProof 63 = .ok (.ireturn, 1) := by decide +kernel
theorem dX3_howMany_0 : decode cX3_howMany 0 = .ok (.iconst 0, 1) := by decide +kernel
theorem dX3_howMany_1 : decode cX3_howMany 1 = .ok (.istore_n 2, 1) := by decide +kernel
theorem dX3_howMany_2 : decode cX3_howMany 2 = .ok (.iconst 0, 1) := by decide +kernel
theorem dX3_howMany_3 : decode cX3_howMany 3 = .ok (.istore_n 3, 1) := by decide +kernel
theorem dX3_howMany_4 : decode cX3_howMany 4 = .ok (.iload_n 3, 1) := by decide +kernel
theorem dX3_howMany_5 : decode cX3_howMany 5 = .ok (.aload_n 0, 1) := by decide +kernel
theorem dX3_howMany_6 : decode cX3_howMany 6 = .ok (.getfield 21, 3) := by decide +kernel
theorem dX3_howMany_9 : decode cX3_howMany 9 = .ok (.if_icmp .ge 21, 3) := by decide +kernel
theorem dX3_howMany_12 : decode cX3_howMany 12 = .ok (.aload_n 0, 1) := by decide +kernel
theorem dX3_howMany_13 : decode cX3_howMany 13 = .ok (.iload_n 3, 1) := by decide +kernel
theorem dX3_howMany_14 : decode cX3_howMany 14 = .ok (.iload_n 1, 1) := by decide +kernel
theorem dX3_howMany_15 : decode cX3_howMany 15 = .ok (.invokevirtual 57, 3) := by decide +kernel
theorem dX3_howMany_18 : decode cX3_howMany 18 = .ok (.ifCond .eq 6, 3) := by decide +kernel
theorem dX3_howMany_21 : decode cX3_howMany 21 = .ok (.iinc 2 1, 3) := by decide +kernel
theorem dX3_howMany_24 : decode cX3_howMany 24 = .ok (.iinc 3 1, 3) := by decide +kernel
theorem dX3_howMany_27 : decode cX3_howMany 27 = .ok (.goto (-23), 3) := by decide +kernel
theorem dX3_howMany_30 : decode cX3_howMany 30 = .ok (.iload_n 2, 1) := by decide +kernel
theorem dX3_howMany_31 : decode cX3_howMany 31 = .ok (.ireturn, 1) := by decide +kernel
theorem dX3_shortest_0 : decode cX3_shortest 0 = .ok (.bipush (-4), 2) := by decide +kernel
theorem dX3_shortest_2 : decode cX3_shortest 2 = .ok (.istore_n 2, 1) := by decide +kernel
theorem dX3_shortest_3 : decode cX3_shortest 3 = .ok (.bipush 11, 2) := by decide +kernel
theorem dX3_shortest_5 : decode cX3_shortest 5 = .ok (.istore_n 3, 1) := by decide +kernel
theorem dX3_shortest_6 : decode cX3_shortest 6 = .ok (.iconst 0, 1) := by decide +kernel
theorem dX3_shortest_7 : decode cX3_shortest 7 = .ok (.istore 4, 2) := by decide +kernel
theorem dX3_shortest_9 : decode cX3_shortest 9 = .ok (.iload 4, 2) := by decide +kernel
theorem dX3_shortest_11 : decode cX3_shortest 11 = .ok (.aload_n 0, 1) := by decide +kernel
theorem dX3_shortest_12 : decode cX3_shortest 12 = .ok (.getfield 21, 3) := by decide +kernel
theorem dX3_shortest_15 : decode cX3_shortest 15 = .ok (.if_icmp .ge 37, 3) := by decide +kernel
theorem dX3_shortest_18 : decode cX3_shortest 18 = .ok (.iload 4, 2) := by decide +kernel
theorem dX3_shortest_20 : decode cX3_shortest 20 = .ok (.invokestatic 60, 3) := by decide +kernel
theorem dX3_shortest_23 : decode cX3_shortest 23 = .ok (.iload_n 3, 1) := by decide +kernel
theorem dX3_shortest_24 : decode cX3_shortest 24 = .ok (.if_icmp .ge 22, 3) := by decide +kernel
theorem dX3_shortest_27 : decode cX3_shortest 27 = .ok (.aload_n 0, 1) := by decide +kernel
theorem dX3_shortest_28 : decode cX3_shortest 28 = .ok (.iload 4, 2) := by decide +kernel
theorem dX3_shortest_30 : decode cX3_shortest 30 = .ok (.iload_n 1, 1) := by decide +kernel
theorem dX3_shortest_31 : decode cX3_shortest 31 = .ok (.invokevirtual 57, 3) := by decide +kernel
theorem dX3_shortest_34 : decode cX3_shortest 34 = .ok (.ifCond .eq 12, 3) := by decide +kernel
theorem dX3_shortest_37 : decode cX3_shortest 37 = .ok (.iload 4, 2) := by decide +kernel
theorem dX3_shortest_39 : decode cX3_shortest 39 = .ok (.istore_n 2, 1) := by decide +kernel
theorem dX3_shortest_40 : decode cX3_shortest 40 = .ok (.iload 4, 2) := by decide +kernel
theorem dX3_shortest_42 : decode cX3_shortest 42 = .ok (.invokestatic 60, 3) := by decide +kernel
theorem dX3_shortest_45 : decode cX3_shortest 45 = .ok (.istore_n 3, 1) := by decide +kernel
theorem dX3_shortest_46 : decode cX3_shortest 46 = .ok (.iinc 4 1, 3) := by decide +kernel
theorem dX3_shortest_49 : decode cX3_shortest 49 = .ok (.goto (-40), 3) := by decide +kernel
theorem dX3_shortest_52 : decode cX3_shortest 52 = .ok (.iload_n 2, 1) := by decide +kernel
theorem dX3_shortest_53 : decode cX3_shortest 53 = .ok (.ireturn, 1) := by decide +kernel
theorem dX3_inAll_0 : decode cX3_inAll 0 = .ok (.sipush 1023, 3) := by decide +kernel
theorem dX3_inAll_3 : decode cX3_inAll 3 = .ok (.istore_n 2, 1) := by decide +kernel
theorem dX3_inAll_4 : decode cX3_inAll 4 = .ok (.iconst 0, 1) := by decide +kernel
theorem dX3_inAll_5 : decode cX3_inAll 5 = .ok (.istore_n 3, 1) := by decide +kernel
theorem dX3_inAll_6 : decode cX3_inAll 6 = .ok (.iconst 0, 1) := by decide +kernel
theorem dX3_inAll_7 : decode cX3_inAll 7 = .ok (.istore 4, 2) := by decide +kernel
theorem dX3_inAll_9 : decode cX3_inAll 9 = .ok (.iload 4, 2) := by decide +kernel
theorem dX3_inAll_11 : decode cX3_inAll 11 = .ok (.aload_n 0, 1) := by decide +kernel
theorem dX3_inAll_12 : decode cX3_inAll 12 = .ok (.getfield 21, 3) := by decide +kernel
theorem dX3_inAll_15 : decode cX3_inAll 15 = .ok (.if_icmp .ge 26, 3) := by decide +kernel
theorem dX3_inAll_18 : decode cX3_inAll 18 = .ok (.aload_n 0, 1) := by decide +kernel
theorem dX3_inAll_19 : decode cX3_inAll 19 = .ok (.iload 4, 2) := by decide +kernel
theorem dX3_inAll_21 : decode cX3_inAll 21 = .ok (.iload_n 1, 1) := by decide +kernel
theorem dX3_inAll_22 : decode cX3_inAll 22 = .ok (.invokevirtual 57, 3) := by decide +kernel
theorem dX3_inAll_25 : decode cX3_inAll 25 = .ok (.ifCond .eq 10, 3) := by decide +kernel
theorem dX3_inAll_28 : decode cX3_inAll 28 = .ok (.iload_n 2, 1) := by decide +kernel
theorem dX3_inAll_29 : decode cX3_inAll 29 = .ok (.iload 4, 2) := by decide +kernel
theorem dX3_inAll_31 : decode cX3_inAll 31 = .ok (.iand, 1) := by decide +kernel
theorem dX3_inAll_32 : decode cX3_inAll 32 = .ok (.istore_n 2, 1) := by decide +kernel
theorem dX3_inAll_33 : decode cX3_inAll 33 = .ok (.iconst 1, 1) := by decide +kernel
theorem dX3_inAll_34 : decode cX3_inAll 34 = .ok (.istore_n 3, 1) := by decide +kernel
theorem dX3_inAll_35 : decode cX3_inAll 35 = .ok (.iinc 4 1, 3) := by decide +kernel
theorem dX3_inAll_38 : decode cX3_inAll 38 = .ok (.goto (-29), 3) := by decide +kernel
theorem dX3_inAll_41 : decode cX3_inAll 41 = .ok (.iload_n 3, 1) := by decide +kernel
theorem dX3_inAll_42 : decode cX3_inAll 42 = .ok (.ifCond .eq 7, 3) := by decide +kernel
theorem dX3_inAll_45 : decode cX3_inAll 45 = .ok (.iload_n 2, 1) := by decide +kernel
theorem dX3_inAll_46 : decode cX3_inAll 46 = .ok (.goto 4, 3) := by decide +kernel
theorem dX3_inAll_49 : decode cX3_inAll 49 = .ok (.iconst 0, 1) := by decide +kernel
theorem dX3_inAll_50 : decode cX3_inAll 50 = .ok (.ireturn, 1) := by decide +kernel
theorem dX3_howManyWear_0 : decode cX3_howManyWear 0 = .ok (.iconst 0, 1) := by decide +kernel
theorem dX3_howManyWear_1 : decode cX3_howManyWear 1 = .ok (.istore 4, 2) := by decide +kernel
theorem dX3_howManyWear_3 : decode cX3_howManyWear 3 = .ok (.iconst 0, 1) := by decide +kernel
theorem dX3_howManyWear_4 : decode cX3_howManyWear 4 = .ok (.istore 5, 2) := by decide +kernel
theorem dX3_howManyWear_6 : decode cX3_howManyWear 6 = .ok (.iload 5, 2) := by decide +kernel
theorem dX3_howManyWear_8 : decode cX3_howManyWear 8 = .ok (.aload_n 0, 1) := by decide +kernel
theorem dX3_howManyWear_9 : decode cX3_howManyWear 9 = .ok (.getfield 21, 3) := by decide +kernel
theorem dX3_howManyWear_12 : decode cX3_howManyWear 12 = .ok (.if_icmp .ge 32, 3) := by decide +kernel
theorem dX3_howManyWear_15 : decode cX3_howManyWear 15 = .ok (.aload_n 1, 1) := by decide +kernel
theorem dX3_howManyWear_16 : decode cX3_howManyWear 16 = .ok (.iload 5, 2) := by decide +kernel
theorem dX3_howManyWear_18 : decode cX3_howManyWear 18 = .ok (.invokestatic 63, 3) := by decide +kernel
theorem dX3_howManyWear_21 : decode cX3_howManyWear 21 = .ok (.iload_n 3, 1) := by decide +kernel
theorem dX3_howManyWear_22 : decode cX3_howManyWear 22 = .ok (.if_icmp .ne 16, 3) := by decide +kernel
theorem dX3_howManyWear_25 : decode cX3_howManyWear 25 = .ok (.aload_n 0, 1) := by decide +kernel
theorem dX3_howManyWear_26 : decode cX3_howManyWear 26 = .ok (.iload 5, 2) := by decide +kernel
theorem dX3_howManyWear_28 : decode cX3_howManyWear 28 = .ok (.iload_n 2, 1) := by decide +kernel
theorem dX3_howManyWear_29 : decode cX3_howManyWear 29 = .ok (.invokevirtual 57, 3) := by decide +kernel
theorem dX3_howManyWear_32 : decode cX3_howManyWear 32 = .ok (.ifCond .eq 6, 3) := by decide +kernel
theorem dX3_howManyWear_35 : decode cX3_howManyWear 35 = .ok (.iinc 4 1, 3) := by decide +kernel
theorem dX3_howManyWear_38 : decode cX3_howManyWear 38 = .ok (.iinc 5 1, 3) := by decide +kernel
theorem dX3_howManyWear_41 : decode cX3_howManyWear 41 = .ok (.goto (-35), 3) := by decide +kernel
theorem dX3_howManyWear_44 : decode cX3_howManyWear 44 = .ok (.iload 4, 2) := by decide +kernel
theorem dX3_howManyWear_46 : decode cX3_howManyWear 46 = .ok (.ireturn, 1) := by decide +kernel
theorem dX3_endsOf_0 : decode cX3_endsOf 0 = .ok (.iconst 0, 1) := by decide +kernel
theorem dX3_endsOf_1 : decode cX3_endsOf 1 = .ok (.istore_n 2, 1) := by decide +kernel
theorem dX3_endsOf_2 : decode cX3_endsOf 2 = .ok (.iconst 0, 1) := by decide +kernel
theorem dX3_endsOf_3 : decode cX3_endsOf 3 = .ok (.istore_n 3, 1) := by decide +kernel
theorem dX3_endsOf_4 : decode cX3_endsOf 4 = .ok (.iload_n 3, 1) := by decide +kernel
theorem dX3_endsOf_5 : decode cX3_endsOf 5 = .ok (.aload_n 0, 1) := by decide +kernel
theorem dX3_endsOf_6 : decode cX3_endsOf 6 = .ok (.invokevirtual 15, 3) := by decide +kernel
theorem dX3_endsOf_9 : decode cX3_endsOf 9 = .ok (.if_icmp .ge 27, 3) := by decide +kernel
theorem dX3_endsOf_12 : decode cX3_endsOf 12 = .ok (.iload_n 1, 1) := by decide +kernel
theorem dX3_endsOf_13 : decode cX3_endsOf 13 = .ok (.iload_n 3, 1) := by decide +kernel
theorem dX3_endsOf_14 : decode cX3_endsOf 14 = .ok (.invokestatic 53, 3) := by decide +kernel
theorem dX3_endsOf_17 : decode cX3_endsOf 17 = .ok (.ifCond .eq 13, 3) := by decide +kernel
theorem dX3_endsOf_20 : decode cX3_endsOf 20 = .ok (.iload_n 2, 1) := by decide +kernel
theorem dX3_endsOf_21 : decode cX3_endsOf 21 = .ok (.iconst 1, 1) := by decide +kernel
theorem dX3_endsOf_22 : decode cX3_endsOf 22 = .ok (.aload_n 0, 1) := by decide +kernel
theorem dX3_endsOf_23 : decode cX3_endsOf 23 = .ok (.iload_n 3, 1) := by decide +kernel
theorem dX3_endsOf_24 : decode cX3_endsOf 24 = .ok (.invokevirtual 67, 3) := by decide +kernel
theorem dX3_endsOf_27 : decode cX3_endsOf 27 = .ok (.ishl, 1) := by decide +kernel
theorem dX3_endsOf_28 : decode cX3_endsOf 28 = .ok (.ior, 1) := by decide +kernel
theorem dX3_endsOf_29 : decode cX3_endsOf 29 = .ok (.istore_n 2, 1) := by decide +kernel
theorem dX3_endsOf_30 : decode cX3_endsOf 30 = .ok (.iinc 3 1, 3) := by decide +kernel
theorem dX3_endsOf_33 : decode cX3_endsOf 33 = .ok (.goto (-29), 3) := by decide +kernel
theorem dX3_endsOf_36 : decode cX3_endsOf 36 = .ok (.iload_n 2, 1) := by decide +kernel
theorem dX3_endsOf_37 : decode cX3_endsOf 37 = .ok (.ireturn, 1) := by decide +kernel
theorem dX4_init_0 : decode cX4_init 0 = .ok (.aload_n 0, 1) := by decide +kernel
theorem dX4_init_1 : decode cX4_init 1 = .ok (.invokespecial 3, 3) := by decide +kernel
theorem dX4_init_4 : decode cX4_init 4 = .ok (.aload_n 0, 1) := by decide +kernel
theorem dX4_init_5 : decode cX4_init 5 = .ok (.iconst 3, 1) := by decide +kernel
theorem dX4_init_6 : decode cX4_init 6 = .ok (.newarray .int, 2) := by decide +kernel
theorem dX4_init_8 : decode cX4_init 8 = .ok (.putfield 11, 3) := by decide +kernel
theorem dX4_init_11 : decode cX4_init 11 = .ok (.return_, 1) := by decide +kernel
theorem dX4_readOnto_0 : decode cX4_readOnto 0 = .ok (.aload_n 1, 1) := by decide +kernel
theorem dX4_readOnto_1 : decode cX4_readOnto 1 = .ok (.invokevirtual 15, 3) := by decide +kernel
theorem dX4_readOnto_4 : decode cX4_readOnto 4 = .ok (.aload_n 0, 1) := by decide +kernel
theorem dX4_readOnto_5 : decode cX4_readOnto 5 = .ok (.iconst 1, 1) := by decide +kernel
theorem dX4_readOnto_6 : decode cX4_readOnto 6 = .ok (.putfield 20, 3) := by decide +kernel
theorem dX4_readOnto_9 : decode cX4_readOnto 9 = .ok (.iconst 0, 1) := by decide +kernel
theorem dX4_readOnto_10 : decode cX4_readOnto 10 = .ok (.istore_n 3, 1) := by decide +kernel
theorem dX4_readOnto_11 : decode cX4_readOnto 11 = .ok (.iconst 0, 1) := by decide +kernel
theorem dX4_readOnto_12 : decode cX4_readOnto 12 = .ok (.istore 4, 2) := by decide +kernel
theorem dX4_readOnto_14 : decode cX4_readOnto 14 = .ok (.iload 4, 2) := by decide +kernel
theorem dX4_readOnto_16 : decode cX4_readOnto 16 = .ok (.sipush 300, 3) := by decide +kernel
theorem dX4_readOnto_19 : decode cX4_readOnto 19 = .ok (.if_icmp .ge 49, 3) := by decide +kernel
theorem dX4_readOnto_22 : decode cX4_readOnto 22 = .ok (.iload_n 3, 1) := by decide +kernel
theorem dX4_readOnto_23 : decode cX4_readOnto 23 = .ok (.aload_n 2, 1) := by decide +kernel
theorem dX4_readOnto_24 : decode cX4_readOnto 24 = .ok (.invokevirtual 24, 3) := by decide +kernel
theorem dX4_readOnto_27 : decode cX4_readOnto 27 = .ok (.if_icmp .ge 41, 3) := by decide +kernel
theorem dX4_readOnto_30 : decode cX4_readOnto 30 = .ok (.aload_n 0, 1) := by decide +kernel
theorem dX4_readOnto_31 : decode cX4_readOnto 31 = .ok (.aload_n 2, 1) := by decide +kernel
theorem dX4_readOnto_32 : decode cX4_readOnto 32 = .ok (.iload_n 3, 1) := by decide +kernel
theorem dX4_readOnto_33 : decode cX4_readOnto 33 = .ok (.invokevirtual 30, 3) := by decide +kernel
theorem dX4_readOnto_36 : decode cX4_readOnto 36 = .ok (.istore 5, 2) := by decide +kernel
theorem dX4_readOnto_38 : decode cX4_readOnto 38 = .ok (.iload 5, 2) := by decide +kernel
theorem dX4_readOnto_40 : decode cX4_readOnto 40 = .ok (.iconst (-1), 1) := by decide +kernel
theorem dX4_readOnto_41 : decode cX4_readOnto 41 = .ok (.if_icmp .eq 16, 3) := by decide +kernel
theorem dX4_readOnto_44 : decode cX4_readOnto 44 = .ok (.aload_n 0, 1) := by decide +kernel
theorem dX4_readOnto_45 : decode cX4_readOnto 45 = .ok (.aload_n 1, 1) := by decide +kernel
theorem dX4_readOnto_46 : decode cX4_readOnto 46 = .ok (.aload_n 2, 1) := by decide +kernel
theorem dX4_readOnto_47 : decode cX4_readOnto 47 = .ok (.iload_n 3, 1) := by decide +kernel
theorem dX4_readOnto_48 : decode cX4_readOnto 48 = .ok (.invokevirtual 34, 3) := by decide +kernel
theorem dX4_readOnto_51 : decode cX4_readOnto 51 = .ok (.invokevirtual 38, 3) := by decide +kernel
theorem dX4_readOnto_54 : decode cX4_readOnto 54 = .ok (.ifCond .ne 5, 3) := by decide +kernel
theorem dX4_readOnto_57 : decode cX4_readOnto 57 = .ok (.iload_n 3, 1) := by decide +kernel
theorem dX4_readOnto_58 : decode cX4_readOnto 58 = .ok (.ireturn, 1) := by decide +kernel
theorem dX4_readOnto_59 : decode cX4_readOnto 59 = .ok (.iload 5, 2) := by decide +kernel
theorem dX4_readOnto_61 : decode cX4_readOnto 61 = .ok (.istore_n 3, 1) := by decide +kernel
theorem dX4_readOnto_62 : decode cX4_readOnto 62 = .ok (.iinc 4 1, 3) := by decide +kernel
theorem dX4_readOnto_65 : decode cX4_readOnto 65 = .ok (.goto (-51), 3) := by decide +kernel
theorem dX4_readOnto_68 : decode cX4_readOnto 68 = .ok (.aload_n 1, 1) := by decide +kernel
theorem dX4_readOnto_69 : decode cX4_readOnto 69 = .ok (.invokevirtual 42, 3) := by decide +kernel
theorem dX4_readOnto_72 : decode cX4_readOnto 72 = .ok (.bipush (-4), 2) := by decide +kernel
theorem dX4_readOnto_74 : decode cX4_readOnto 74 = .ok (.ireturn, 1) := by decide +kernel
theorem dX4_numbersOf_0 : decode cX4_numbersOf 0 = .ok (.iload_n 0, 1) := by decide +kernel
theorem dX4_numbersOf_1 : decode cX4_numbersOf 1 = .ok (.lookupswitch 57 #[(97, 51), (110, 51), (116, 55), (119, 53), (120, 53)], 51) := by decide +kernel
theorem dX4_numbersOf_52 : decode cX4_numbersOf 52 = .ok (.iconst 1, 1) := by decide +kernel
theorem dX4_numbersOf_53 : decode cX4_numbersOf 53 = .ok (.ireturn, 1) := by decide +kernel
theorem dX4_numbersOf_54 : decode cX4_numbersOf 54 = .ok (.iconst 2, 1) := by decide +kernel
theorem dX4_numbersOf_55 : decode cX4_numbersOf 55 = .ok (.ireturn, 1) := by decide +kernel
theorem dX4_numbersOf_56 : decode cX4_numbersOf 56 = .ok (.iconst 3, 1) := by decide +kernel
theorem dX4_numbersOf_57 : decode cX4_numbersOf 57 = .ok (.ireturn, 1) := by decide +kernel
theorem dX4_numbersOf_58 : decode cX4_numbersOf 58 = .ok (.iconst 0, 1) := by decide +kernel
theorem dX4_numbersOf_59 : decode cX4_numbersOf 59 = .ok (.ireturn, 1) := by decide +kernel
theorem dX4_itemsEnd_0 : decode cX4_itemsEnd 0 = .ok (.aload_n 1, 1) := by decide +kernel
theorem dX4_itemsEnd_1 : decode cX4_itemsEnd 1 = .ok (.iload_n 2, 1) := by decide +kernel
theorem dX4_itemsEnd_2 : decode cX4_itemsEnd 2 = .ok (.invokevirtual 34, 3) := by decide +kernel
theorem dX4_itemsEnd_5 : decode cX4_itemsEnd 5 = .ok (.invokestatic 45, 3) := by decide +kernel
theorem dX4_itemsEnd_8 : decode cX4_itemsEnd 8 = .ok (.istore_n 3, 1) := by decide +kernel
theorem dX4_itemsEnd_9 : decode cX4_itemsEnd 9 = .ok (.iload_n 3, 1) := by decide +kernel
theorem dX4_itemsEnd_10 : decode cX4_itemsEnd 10 = .ok (.ifCond .ne 5, 3) := by decide +kernel
theorem dX4_itemsEnd_13 : decode cX4_itemsEnd 13 = .ok (.iconst (-1), 1) := by decide +kernel
theorem dX4_itemsEnd_14 : decode cX4_itemsEnd 14 = .ok (.ireturn, 1) := by decide +kernel
theorem dX4_itemsEnd_15 : decode cX4_itemsEnd 15 = .ok (.iload_n 2, 1) := by decide +kernel
theorem dX4_itemsEnd_16 : decode cX4_itemsEnd 16 = .ok (.iconst 1, 1) := by decide +kernel
theorem dX4_itemsEnd_17 : decode cX4_itemsEnd 17 = .ok (.iadd, 1) := by decide +kernel
theorem dX4_itemsEnd_18 : decode cX4_itemsEnd 18 = .ok (.istore 4, 2) := by decide +kernel
theorem dX4_itemsEnd_20 : decode cX4_itemsEnd 20 = .ok (.iconst 0, 1) := by decide +kernel
theorem dX4_itemsEnd_21 : decode cX4_itemsEnd 21 = .ok (.istore 5, 2) := by decide +kernel
theorem dX4_itemsEnd_23 : decode cX4_itemsEnd 23 = .ok (.iload 5, 2) := by decide +kernel
theorem dX4_itemsEnd_25 : decode cX4_itemsEnd 25 = .ok (.iload_n 3, 1) := by decide +kernel
theorem dX4_itemsEnd_26 : decode cX4_itemsEnd 26 = .ok (.if_icmp .ge 83, 3) := by decide +kernel
theorem dX4_itemsEnd_29 : decode cX4_itemsEnd 29 = .ok (.aload_n 1, 1) := by decide +kernel
theorem dX4_itemsEnd_30 : decode cX4_itemsEnd 30 = .ok (.iload 4, 2) := by decide +kernel
theorem dX4_itemsEnd_32 : decode cX4_itemsEnd 32 = .ok (.invokestatic 48, 3) := by decide +kernel
theorem dX4_itemsEnd_35 : decode cX4_itemsEnd 35 = .ok (.istore 6, 2) := by decide +kernel
theorem dX4_itemsEnd_37 : decode cX4_itemsEnd 37 = .ok (.iload 6, 2) := by decide +kernel
theorem dX4_itemsEnd_39 : decode cX4_itemsEnd 39 = .ok (.ifCond .ne 5, 3) := by decide +kernel
theorem dX4_itemsEnd_42 : decode cX4_itemsEnd 42 = .ok (.iconst (-1), 1) := by decide +kernel
theorem dX4_itemsEnd_43 : decode cX4_itemsEnd 43 = .ok (.ireturn, 1) := by decide +kernel
theorem dX4_itemsEnd_44 : decode cX4_itemsEnd 44 = .ok (.aload_n 0, 1) := by decide +kernel
theorem dX4_itemsEnd_45 : decode cX4_itemsEnd 45 = .ok (.getfield 11, 3) := by decide +kernel
theorem dX4_itemsEnd_48 : decode cX4_itemsEnd 48 = .ok (.iload 5, 2) := by decide +kernel
theorem dX4_itemsEnd_50 : decode cX4_itemsEnd 50 = .ok (.aload_n 1, 1) := by decide +kernel
theorem dX4_itemsEnd_51 : decode cX4_itemsEnd 51 = .ok (.iload 4, 2) := by decide +kernel
theorem dX4_itemsEnd_53 : decode cX4_itemsEnd 53 = .ok (.iload 6, 2) := by decide +kernel
theorem dX4_itemsEnd_55 : decode cX4_itemsEnd 55 = .ok (.invokestatic 51, 3) := by decide +kernel
theorem dX4_itemsEnd_58 : decode cX4_itemsEnd 58 = .ok (.invokestatic 55, 3) := by decide +kernel
theorem dX4_itemsEnd_61 : decode cX4_itemsEnd 61 = .ok (.iload 5, 2) := by decide +kernel
theorem dX4_itemsEnd_63 : decode cX4_itemsEnd 63 = .ok (.iload_n 3, 1) := by decide +kernel
theorem dX4_itemsEnd_64 : decode cX4_itemsEnd 64 = .ok (.iconst 1, 1) := by decide +kernel
theorem dX4_itemsEnd_65 : decode cX4_itemsEnd 65 = .ok (.isub, 1) := by decide +kernel
theorem dX4_itemsEnd_66 : decode cX4_itemsEnd 66 = .ok (.if_icmp .ne 8, 3) := by decide +kernel
theorem dX4_itemsEnd_69 : decode cX4_itemsEnd 69 = .ok (.bipush 59, 2) := by decide +kernel
theorem dX4_itemsEnd_71 : decode cX4_itemsEnd 71 = .ok (.goto 5, 3) := by decide +kernel
theorem dX4_itemsEnd_74 : decode cX4_itemsEnd 74 = .ok (.bipush 44, 2) := by decide +kernel
theorem dX4_itemsEnd_76 : decode cX4_itemsEnd 76 = .ok (.istore 7, 2) := by decide +kernel
theorem dX4_itemsEnd_78 : decode cX4_itemsEnd 78 = .ok (.aload_n 1, 1) := by decide +kernel
theorem dX4_itemsEnd_79 : decode cX4_itemsEnd 79 = .ok (.iload 4, 2) := by decide +kernel
theorem dX4_itemsEnd_81 : decode cX4_itemsEnd 81 = .ok (.iload 6, 2) := by decide +kernel
theorem dX4_itemsEnd_83 : decode cX4_itemsEnd 83 = .ok (.iadd, 1) := by decide +kernel
theorem dX4_itemsEnd_84 : decode cX4_itemsEnd 84 = .ok (.invokevirtual 34, 3) := by decide +kernel
theorem dX4_itemsEnd_87 : decode cX4_itemsEnd 87 = .ok (.iload 7, 2) := by decide +kernel
theorem dX4_itemsEnd_89 : decode cX4_itemsEnd 89 = .ok (.if_icmp .eq 5, 3) := by decide +kernel
theorem dX4_itemsEnd_92 : decode cX4_itemsEnd 92 = .ok (.iconst (-1), 1) := by decide +kernel
theorem dX4_itemsEnd_93 : decode cX4_itemsEnd 93 = .ok (.ireturn, 1) := by decide +kernel
theorem dX4_itemsEnd_94 : decode cX4_itemsEnd 94 = .ok (.iload 4, 2) := by decide +kernel
theorem dX4_itemsEnd_96 : decode cX4_itemsEnd 96 = .ok (.iload 6, 2) := by decide +kernel
theorem dX4_itemsEnd_98 : decode cX4_itemsEnd 98 = .ok (.iconst 1, 1) := by decide +kernel
theorem dX4_itemsEnd_99 : decode cX4_itemsEnd 99 = .ok (.iadd, 1) := by decide +kernel
theorem dX4_itemsEnd_100 : decode cX4_itemsEnd 100 = .ok (.iadd, 1) := by decide +kernel
theorem dX4_itemsEnd_101 : decode cX4_itemsEnd 101 = .ok (.istore 4, 2) := by decide +kernel
theorem dX4_itemsEnd_103 : decode cX4_itemsEnd 103 = .ok (.iinc 5 1, 3) := by decide +kernel
theorem dX4_itemsEnd_106 : decode cX4_itemsEnd 106 = .ok (.goto (-83), 3) := by decide +kernel
theorem dX4_itemsEnd_109 : decode cX4_itemsEnd 109 = .ok (.iload 4, 2) := by decide +kernel
theorem dX4_itemsEnd_111 : decode cX4_itemsEnd 111 = .ok (.ireturn, 1) := by decide +kernel
theorem dX4_isFigure_0 : decode cX4_isFigure 0 = .ok (.iload_n 0, 1) := by decide +kernel
theorem dX4_isFigure_1 : decode cX4_isFigure 1 = .ok (.bipush 48, 2) := by decide +kernel
theorem dX4_isFigure_3 : decode cX4_isFigure 3 = .ok (.if_icmp .lt 13, 3) := by decide +kernel
theorem dX4_isFigure_6 : decode cX4_isFigure 6 = .ok (.iload_n 0, 1) := by decide +kernel
theorem dX4_isFigure_7 : decode cX4_isFigure 7 = .ok (.bipush 57, 2) := by decide +kernel
theorem dX4_isFigure_9 : decode cX4_isFigure 9 = .ok (.if_icmp .gt 7, 3) := by decide +kernel
theorem dX4_isFigure_12 : decode cX4_isFigure 12 = .ok (.iconst 1, 1) := by decide +kernel
theorem dX4_isFigure_13 : decode cX4_isFigure 13 = .ok (.goto 4, 3) := by decide +kernel
theorem dX4_isFigure_16 : decode cX4_isFigure 16 = .ok (.iconst 0, 1) := by decide +kernel
theorem dX4_isFigure_17 : decode cX4_isFigure 17 = .ok (.ireturn, 1) := by decide +kernel
theorem dX4_figuresAt_0 : decode cX4_figuresAt 0 = .ok (.aload_n 0, 1) := by decide +kernel
theorem dX4_figuresAt_1 : decode cX4_figuresAt 1 = .ok (.iload_n 1, 1) := by decide +kernel
theorem dX4_figuresAt_2 : decode cX4_figuresAt 2 = .ok (.invokevirtual 34, 3) := by decide +kernel
theorem dX4_figuresAt_5 : decode cX4_figuresAt 5 = .ok (.invokestatic 59, 3) := by decide +kernel
theorem dX4_figuresAt_8 : decode cX4_figuresAt 8 = .ok (.ifCond .ne 5, 3) := by decide +kernel
theorem dX4_figuresAt_11 : decode cX4_figuresAt 11 = .ok (.iconst 0, 1) := by decide +kernel
theorem dX4_figuresAt_12 : decode cX4_figuresAt 12 = .ok (.ireturn, 1) := by decide +kernel
theorem dX4_figuresAt_13 : decode cX4_figuresAt 13 = .ok (.aload_n 0, 1) := by decide +kernel
theorem dX4_figuresAt_14 : decode cX4_figuresAt 14 = .ok (.iload_n 1, 1) := by decide +kernel
theorem dX4_figuresAt_15 : decode cX4_figuresAt 15 = .ok (.iconst 1, 1) := by decide +kernel
theorem dX4_figuresAt_16 : decode cX4_figuresAt 16 = .ok (.iadd, 1) := by decide +kernel
theorem dX4_figuresAt_17 : decode cX4_figuresAt 17 = .ok (.invokevirtual 34, 3) := by decide +kernel
theorem dX4_figuresAt_20 : decode cX4_figuresAt 20 = .ok (.invokestatic 59, 3) := by decide +kernel
theorem dX4_figuresAt_23 : decode cX4_figuresAt 23 = .ok (.ifCond .eq 7, 3) := by decide +kernel
theorem dX4_figuresAt_26 : decode cX4_figuresAt 26 = .ok (.iconst 2, 1) := by decide +kernel
theorem dX4_figuresAt_27 : decode cX4_figuresAt 27 = .ok (.goto 4, 3) := by decide +kernel
theorem dX4_figuresAt_30 : decode cX4_figuresAt 30 = .ok (.iconst 1, 1) := by decide +kernel
theorem dX4_figuresAt_31 : decode cX4_figuresAt 31 = .ok (.ireturn, 1) := by decide +kernel
theorem dX4_numberAt_0 : decode cX4_numberAt 0 = .ok (.iconst 0, 1) := by decide +kernel
theorem dX4_numberAt_1 : decode cX4_numberAt 1 = .ok (.istore_n 3, 1) := by decide +kernel
theorem dX4_numberAt_2 : decode cX4_numberAt 2 = .ok (.iconst 0, 1) := by decide +kernel
theorem dX4_numberAt_3 : decode cX4_numberAt 3 = .ok (.istore 4, 2) := by decide +kernel
theorem dX4_numberAt_5 : decode cX4_numberAt 5 = .ok (.iload 4, 2) := by decide +kernel
theorem dX4_numberAt_7 : decode cX4_numberAt 7 = .ok (.iload_n 2, 1) := by decide +kernel
theorem dX4_numberAt_8 : decode cX4_numberAt 8 = .ok (.if_icmp .ge 26, 3) := by decide +kernel
theorem dX4_numberAt_11 : decode cX4_numberAt 11 = .ok (.bipush 10, 2) := by decide +kernel
theorem dX4_numberAt_13 : decode cX4_numberAt 13 = .ok (.iload_n 3, 1) := by decide +kernel
theorem dX4_numberAt_14 : decode cX4_numberAt 14 = .ok (.imul, 1) := by decide +kernel
theorem dX4_numberAt_15 : decode cX4_numberAt 15 = .ok (.aload_n 0, 1) := by decide +kernel
theorem dX4_numberAt_16 : decode cX4_numberAt 16 = .ok (.iload_n 1, 1) := by decide +kernel
theorem dX4_numberAt_17 : decode cX4_numberAt 17 = .ok (.iload 4, 2) := by decide +kernel
theorem dX4_numberAt_19 : decode cX4_numberAt 19 = .ok (.iadd, 1) := by decide +kernel
theorem dX4_numberAt_20 : decode cX4_numberAt 20 = .ok (.invokevirtual 34, 3) := by decide +kernel
theorem dX4_numberAt_23 : decode cX4_numberAt 23 = .ok (.iadd, 1) := by decide +kernel
theorem dX4_numberAt_24 : decode cX4_numberAt 24 = .ok (.bipush 48, 2) := by decide +kernel
theorem dX4_numberAt_26 : decode cX4_numberAt 26 = .ok (.isub, 1) := by decide +kernel
theorem dX4_numberAt_27 : decode cX4_numberAt 27 = .ok (.istore_n 3, 1) := by decide +kernel
theorem dX4_numberAt_28 : decode cX4_numberAt 28 = .ok (.iinc 4 1, 3) := by decide +kernel
theorem dX4_numberAt_31 : decode cX4_numberAt 31 = .ok (.goto (-26), 3) := by decide +kernel
theorem dX4_numberAt_34 : decode cX4_numberAt 34 = .ok (.iload_n 3, 1) := by decide +kernel
theorem dX4_numberAt_35 : decode cX4_numberAt 35 = .ok (.ireturn, 1) := by decide +kernel
theorem dX4_takeItem_0 : decode cX4_takeItem 0 = .ok (.aload_n 0, 1) := by decide +kernel
theorem dX4_takeItem_1 : decode cX4_takeItem 1 = .ok (.getfield 11, 3) := by decide +kernel
theorem dX4_takeItem_4 : decode cX4_takeItem 4 = .ok (.iconst 0, 1) := by decide +kernel
theorem dX4_takeItem_5 : decode cX4_takeItem 5 = .ok (.invokestatic 63, 3) := by decide +kernel
theorem dX4_takeItem_8 : decode cX4_takeItem 8 = .ok (.istore_n 3, 1) := by decide +kernel
theorem dX4_takeItem_9 : decode cX4_takeItem 9 = .ok (.aload_n 0, 1) := by decide +kernel
theorem dX4_takeItem_10 : decode cX4_takeItem 10 = .ok (.getfield 11, 3) := by decide +kernel
theorem dX4_takeItem_13 : decode cX4_takeItem 13 = .ok (.iconst 1, 1) := by decide +kernel
theorem dX4_takeItem_14 : decode cX4_takeItem 14 = .ok (.invokestatic 63, 3) := by decide +kernel
theorem dX4_takeItem_17 : decode cX4_takeItem 17 = .ok (.istore 4, 2) := by decide +kernel
theorem dX4_takeItem_19 : decode cX4_takeItem 19 = .ok (.iload_n 2, 1) := by decide +kernel
theorem dX4_takeItem_20 : decode cX4_takeItem 20 = .ok (.bipush 110, 2) := by decide +kernel
theorem dX4_takeItem_22 : decode cX4_takeItem 22 = .ok (.if_icmp .ne 24, 3) := by decide +kernel
theorem dX4_takeItem_25 : decode cX4_takeItem 25 = .ok (.aload_n 0, 1) := by decide +kernel
theorem dX4_takeItem_26 : decode cX4_takeItem 26 = .ok (.getfield 20, 3) := by decide +kernel
theorem dX4_takeItem_29 : decode cX4_takeItem 29 = .ok (.ifCond .eq 15, 3) := by decide +kernel
theorem dX4_takeItem_32 : decode cX4_takeItem 32 = .ok (.aload_n 1, 1) := by decide +kernel
theorem dX4_takeItem_33 : decode cX4_takeItem 33 = .ok (.iload_n 3, 1) := by decide +kernel
theorem dX4_takeItem_34 : decode cX4_takeItem 34 = .ok (.invokevirtual 67, 3) := by decide +kernel
theorem dX4_takeItem_37 : decode cX4_takeItem 37 = .ok (.ifCond .eq 7, 3) := by decide +kernel
theorem dX4_takeItem_40 : decode cX4_takeItem 40 = .ok (.iconst 1, 1) := by decide +kernel
theorem dX4_takeItem_41 : decode cX4_takeItem 41 = .ok (.goto 4, 3) := by decide +kernel
theorem dX4_takeItem_44 : decode cX4_takeItem 44 = .ok (.iconst 0, 1) := by decide +kernel
theorem dX4_takeItem_45 : decode cX4_takeItem 45 = .ok (.ireturn, 1) := by decide +kernel
theorem dX4_takeItem_46 : decode cX4_takeItem 46 = .ok (.aload_n 0, 1) := by decide +kernel
theorem dX4_takeItem_47 : decode cX4_takeItem 47 = .ok (.iconst 0, 1) := by decide +kernel
theorem dX4_takeItem_48 : decode cX4_takeItem 48 = .ok (.putfield 20, 3) := by decide +kernel
theorem dX4_takeItem_51 : decode cX4_takeItem 51 = .ok (.iload_n 2, 1) := by decide +kernel
theorem dX4_takeItem_52 : decode cX4_takeItem 52 = .ok (.lookupswitch 66 #[(97, 36), (116, 42), (120, 58)], 36) := by decide +kernel
theorem dX4_takeItem_88 : decode cX4_takeItem 88 = .ok (.aload_n 1, 1) := by decide +kernel
theorem dX4_takeItem_89 : decode cX4_takeItem 89 = .ok (.iload_n 3, 1) := by decide +kernel
theorem dX4_takeItem_90 : decode cX4_takeItem 90 = .ok (.invokevirtual 70, 3) := by decide +kernel
theorem dX4_takeItem_93 : decode cX4_takeItem 93 = .ok (.ireturn, 1) := by decide +kernel
theorem dX4_takeItem_94 : decode cX4_takeItem 94 = .ok (.aload_n 1, 1) := by decide +kernel
theorem dX4_takeItem_95 : decode cX4_takeItem 95 = .ok (.iload_n 3, 1) := by decide +kernel
theorem dX4_takeItem_96 : decode cX4_takeItem 96 = .ok (.iload 4, 2) := by decide +kernel
theorem dX4_takeItem_98 : decode cX4_takeItem 98 = .ok (.aload_n 0, 1) := by decide +kernel
theorem dX4_takeItem_99 : decode cX4_takeItem 99 = .ok (.getfield 11, 3) := by decide +kernel
theorem dX4_takeItem_102 : decode cX4_takeItem 102 = .ok (.iconst 2, 1) := by decide +kernel
theorem dX4_takeItem_103 : decode cX4_takeItem 103 = .ok (.invokestatic 63, 3) := by decide +kernel
theorem dX4_takeItem_106 : decode cX4_takeItem 106 = .ok (.invokevirtual 73, 3) := by decide +kernel
theorem dX4_takeItem_109 : decode cX4_takeItem 109 = .ok (.ireturn, 1) := by decide +kernel
theorem dX4_takeItem_110 : decode cX4_takeItem 110 = .ok (.aload_n 1, 1) := by decide +kernel
theorem dX4_takeItem_111 : decode cX4_takeItem 111 = .ok (.iload_n 3, 1) := by decide +kernel
theorem dX4_takeItem_112 : decode cX4_takeItem 112 = .ok (.iload 4, 2) := by decide +kernel
theorem dX4_takeItem_114 : decode cX4_takeItem 114 = .ok (.invokevirtual 77, 3) := by decide +kernel
theorem dX4_takeItem_117 : decode cX4_takeItem 117 = .ok (.ireturn, 1) := by decide +kernel
theorem dX4_takeItem_118 : decode cX4_takeItem 118 = .ok (.aload_n 1, 1) := by decide +kernel
theorem dX4_takeItem_119 : decode cX4_takeItem 119 = .ok (.iload_n 3, 1) := by decide +kernel
theorem dX4_takeItem_120 : decode cX4_takeItem 120 = .ok (.iload 4, 2) := by decide +kernel
theorem dX4_takeItem_122 : decode cX4_takeItem 122 = .ok (.invokevirtual 81, 3) := by decide +kernel
theorem dX4_takeItem_125 : decode cX4_takeItem 125 = .ok (.ireturn, 1) := by decide +kernel
theorem dX5_idleSteps_0 : decode cX5_idleSteps 0 = .ok (.iconst 0, 1) := by decide +kernel
theorem dX5_idleSteps_1 : decode cX5_idleSteps 1 = .ok (.istore_n 1, 1) := by decide +kernel
theorem dX5_idleSteps_2 : decode cX5_idleSteps 2 = .ok (.iconst 0, 1) := by decide +kernel
theorem dX5_idleSteps_3 : decode cX5_idleSteps 3 = .ok (.istore_n 2, 1) := by decide +kernel
theorem dX5_idleSteps_4 : decode cX5_idleSteps 4 = .ok (.iload_n 2, 1) := by decide +kernel
theorem dX5_idleSteps_5 : decode cX5_idleSteps 5 = .ok (.aload_n 0, 1) := by decide +kernel
theorem dX5_idleSteps_6 : decode cX5_idleSteps 6 = .ok (.invokevirtual 9, 3) := by decide +kernel
theorem dX5_idleSteps_9 : decode cX5_idleSteps 9 = .ok (.if_icmp .ge 54, 3) := by decide +kernel
theorem dX5_idleSteps_12 : decode cX5_idleSteps 12 = .ok (.sipush 1023, 3) := by decide +kernel
theorem dX5_idleSteps_15 : decode cX5_idleSteps 15 = .ok (.iconst 1, 1) := by decide +kernel
theorem dX5_idleSteps_16 : decode cX5_idleSteps 16 = .ok (.iload_n 2, 1) := by decide +kernel
theorem dX5_idleSteps_17 : decode cX5_idleSteps 17 = .ok (.ishl, 1) := by decide +kernel
theorem dX5_idleSteps_18 : decode cX5_idleSteps 18 = .ok (.iconst (-1), 1) := by decide +kernel
theorem dX5_idleSteps_19 : decode cX5_idleSteps 19 = .ok (.ixor, 1) := by decide +kernel
theorem dX5_idleSteps_20 : decode cX5_idleSteps 20 = .ok (.iand, 1) := by decide +kernel
theorem dX5_idleSteps_21 : decode cX5_idleSteps 21 = .ok (.istore_n 3, 1) := by decide +kernel
theorem dX5_idleSteps_22 : decode cX5_idleSteps 22 = .ok (.aload_n 0, 1) := by decide +kernel
theorem dX5_idleSteps_23 : decode cX5_idleSteps 23 = .ok (.aload_n 0, 1) := by decide +kernel
theorem dX5_idleSteps_24 : decode cX5_idleSteps 24 = .ok (.iload_n 2, 1) := by decide +kernel
theorem dX5_idleSteps_25 : decode cX5_idleSteps 25 = .ok (.invokevirtual 15, 3) := by decide +kernel
theorem dX5_idleSteps_28 : decode cX5_idleSteps 28 = .ok (.iload_n 3, 1) := by decide +kernel
theorem dX5_idleSteps_29 : decode cX5_idleSteps 29 = .ok (.aload_n 0, 1) := by decide +kernel
theorem dX5_idleSteps_30 : decode cX5_idleSteps 30 = .ok (.invokevirtual 19, 3) := by decide +kernel
theorem dX5_idleSteps_33 : decode cX5_idleSteps 33 = .ok (.invokevirtual 22, 3) := by decide +kernel
theorem dX5_idleSteps_36 : decode cX5_idleSteps 36 = .ok (.istore 4, 2) := by decide +kernel
theorem dX5_idleSteps_38 : decode cX5_idleSteps 38 = .ok (.iload 4, 2) := by decide +kernel
theorem dX5_idleSteps_40 : decode cX5_idleSteps 40 = .ok (.aload_n 0, 1) := by decide +kernel
theorem dX5_idleSteps_41 : decode cX5_idleSteps 41 = .ok (.iload_n 2, 1) := by decide +kernel
theorem dX5_idleSteps_42 : decode cX5_idleSteps 42 = .ok (.invokevirtual 26, 3) := by decide +kernel
theorem dX5_idleSteps_45 : decode cX5_idleSteps 45 = .ok (.invokestatic 29, 3) := by decide +kernel
theorem dX5_idleSteps_48 : decode cX5_idleSteps 48 = .ok (.ifCond .eq 9, 3) := by decide +kernel
theorem dX5_idleSteps_51 : decode cX5_idleSteps 51 = .ok (.iload_n 1, 1) := by decide +kernel
theorem dX5_idleSteps_52 : decode cX5_idleSteps 52 = .ok (.iconst 1, 1) := by decide +kernel
theorem dX5_idleSteps_53 : decode cX5_idleSteps 53 = .ok (.iload_n 2, 1) := by decide +kernel
theorem dX5_idleSteps_54 : decode cX5_idleSteps 54 = .ok (.ishl, 1) := by decide +kernel
theorem dX5_idleSteps_55 : decode cX5_idleSteps 55 = .ok (.ior, 1) := by decide +kernel
theorem dX5_idleSteps_56 : decode cX5_idleSteps 56 = .ok (.istore_n 1, 1) := by decide +kernel
theorem dX5_idleSteps_57 : decode cX5_idleSteps 57 = .ok (.iinc 2 1, 3) := by decide +kernel
theorem dX5_idleSteps_60 : decode cX5_idleSteps 60 = .ok (.goto (-56), 3) := by decide +kernel
theorem dX5_idleSteps_63 : decode cX5_idleSteps 63 = .ok (.iload_n 1, 1) := by decide +kernel
theorem dX5_idleSteps_64 : decode cX5_idleSteps 64 = .ok (.ireturn, 1) := by decide +kernel
theorem dX5_lowestInCircle_0 : decode cX5_lowestInCircle 0 = .ok (.iconst 0, 1) := by decide +kernel
theorem dX5_lowestInCircle_1 : decode cX5_lowestInCircle 1 = .ok (.istore_n 1, 1) := by decide +kernel
theorem dX5_lowestInCircle_2 : decode cX5_lowestInCircle 2 = .ok (.iload_n 1, 1) := by decide +kernel
theorem dX5_lowestInCircle_3 : decode cX5_lowestInCircle 3 = .ok (.aload_n 0, 1) := by decide +kernel
theorem dX5_lowestInCircle_4 : decode cX5_lowestInCircle 4 = .ok (.invokevirtual 33, 3) := by decide +kernel
theorem dX5_lowestInCircle_7 : decode cX5_lowestInCircle 7 = .ok (.if_icmp .ge 23, 3) := by decide +kernel
theorem dX5_lowestInCircle_10 : decode cX5_lowestInCircle 10 = .ok (.aload_n 0, 1) := by decide +kernel
theorem dX5_lowestInCircle_11 : decode cX5_lowestInCircle 11 = .ok (.iload_n 1, 1) := by decide +kernel
theorem dX5_lowestInCircle_12 : decode cX5_lowestInCircle 12 = .ok (.invokestatic 36, 3) := by decide +kernel
theorem dX5_lowestInCircle_15 : decode cX5_lowestInCircle 15 = .ok (.iload_n 1, 1) := by decide +kernel
theorem dX5_lowestInCircle_16 : decode cX5_lowestInCircle 16 = .ok (.invokestatic 29, 3) := by decide +kernel
theorem dX5_lowestInCircle_19 : decode cX5_lowestInCircle 19 = .ok (.ifCond .eq 5, 3) := by decide +kernel
theorem dX5_lowestInCircle_22 : decode cX5_lowestInCircle 22 = .ok (.iload_n 1, 1) := by decide +kernel
theorem dX5_lowestInCircle_23 : decode cX5_lowestInCircle 23 = .ok (.ireturn, 1) := by decide +kernel
theorem dX5_lowestInCircle_24 : decode cX5_lowestInCircle 24 = .ok (.iinc 1 1, 3) := by decide +kernel
theorem dX5_lowestInCircle_27 : decode cX5_lowestInCircle 27 = .ok (.goto (-25), 3) := by decide +kernel
theorem dX5_lowestInCircle_30 : decode cX5_lowestInCircle 30 = .ok (.bipush (-4), 2) := by decide +kernel
theorem dX5_lowestInCircle_32 : decode cX5_lowestInCircle 32 = .ok (.ireturn, 1) := by decide +kernel
theorem dX5_everBehind_0 : decode cX5_everBehind 0 = .ok (.aload_n 0, 1) := by decide +kernel
theorem dX5_everBehind_1 : decode cX5_everBehind 1 = .ok (.iconst 1, 1) := by decide +kernel
theorem dX5_everBehind_2 : decode cX5_everBehind 2 = .ok (.iload_n 1, 1) := by decide +kernel
theorem dX5_everBehind_3 : decode cX5_everBehind 3 = .ok (.ishl, 1) := by decide +kernel
theorem dX5_everBehind_4 : decode cX5_everBehind 4 = .ok (.invokevirtual 42, 3) := by decide +kernel
theorem dX5_everBehind_7 : decode cX5_everBehind 7 = .ok (.istore_n 2, 1) := by decide +kernel
theorem dX5_everBehind_8 : decode cX5_everBehind 8 = .ok (.iconst 0, 1) := by decide +kernel
theorem dX5_everBehind_9 : decode cX5_everBehind 9 = .ok (.istore_n 3, 1) := by decide +kernel
theorem dX5_everBehind_10 : decode cX5_everBehind 10 = .ok (.iload_n 3, 1) := by decide +kernel
theorem dX5_everBehind_11 : decode cX5_everBehind 11 = .ok (.bipush 10, 2) := by decide +kernel
theorem dX5_everBehind_13 : decode cX5_everBehind 13 = .ok (.if_icmp .ge 17, 3) := by decide +kernel
theorem dX5_everBehind_16 : decode cX5_everBehind 16 = .ok (.iload_n 2, 1) := by decide +kernel
theorem dX5_everBehind_17 : decode cX5_everBehind 17 = .ok (.aload_n 0, 1) := by decide +kernel
theorem dX5_everBehind_18 : decode cX5_everBehind 18 = .ok (.iload_n 2, 1) := by decide +kernel
theorem dX5_everBehind_19 : decode cX5_everBehind 19 = .ok (.invokevirtual 42, 3) := by decide +kernel
theorem dX5_everBehind_22 : decode cX5_everBehind 22 = .ok (.ior, 1) := by decide +kernel
theorem dX5_everBehind_23 : decode cX5_everBehind 23 = .ok (.istore_n 2, 1) := by decide +kernel
theorem dX5_everBehind_24 : decode cX5_everBehind 24 = .ok (.iinc 3 1, 3) := by decide +kernel
theorem dX5_everBehind_27 : decode cX5_everBehind 27 = .ok (.goto (-17), 3) := by decide +kernel
theorem dX5_everBehind_30 : decode cX5_everBehind 30 = .ok (.iload_n 2, 1) := by decide +kernel
theorem dX5_everBehind_31 : decode cX5_everBehind 31 = .ok (.ireturn, 1) := by decide +kernel
theorem dX5_depth_0 : decode cX5_depth 0 = .ok (.aload_n 0, 1) := by decide +kernel
theorem dX5_depth_1 : decode cX5_depth 1 = .ok (.invokevirtual 19, 3) := by decide +kernel
theorem dX5_depth_4 : decode cX5_depth 4 = .ok (.istore_n 1, 1) := by decide +kernel
theorem dX5_depth_5 : decode cX5_depth 5 = .ok (.iconst 0, 1) := by decide +kernel
theorem dX5_depth_6 : decode cX5_depth 6 = .ok (.istore_n 2, 1) := by decide +kernel
theorem dX5_depth_7 : decode cX5_depth 7 = .ok (.iload_n 2, 1) := by decide +kernel
theorem dX5_depth_8 : decode cX5_depth 8 = .ok (.bipush 10, 2) := by decide +kernel
theorem dX5_depth_10 : decode cX5_depth 10 = .ok (.if_icmp .ge 21, 3) := by decide +kernel
theorem dX5_depth_13 : decode cX5_depth 13 = .ok (.aload_n 0, 1) := by decide +kernel
theorem dX5_depth_14 : decode cX5_depth 14 = .ok (.iload_n 1, 1) := by decide +kernel
theorem dX5_depth_15 : decode cX5_depth 15 = .ok (.invokevirtual 42, 3) := by decide +kernel
theorem dX5_depth_18 : decode cX5_depth 18 = .ok (.istore_n 1, 1) := by decide +kernel
theorem dX5_depth_19 : decode cX5_depth 19 = .ok (.iload_n 1, 1) := by decide +kernel
theorem dX5_depth_20 : decode cX5_depth 20 = .ok (.ifCond .ne 5, 3) := by decide +kernel
theorem dX5_depth_23 : decode cX5_depth 23 = .ok (.iload_n 2, 1) := by decide +kernel
theorem dX5_depth_24 : decode cX5_depth 24 = .ok (.ireturn, 1) := by decide +kernel
theorem dX5_depth_25 : decode cX5_depth 25 = .ok (.iinc 2 1, 3) := by decide +kernel
theorem dX5_depth_28 : decode cX5_depth 28 = .ok (.goto (-21), 3) := by decide +kernel
theorem dX5_depth_31 : decode cX5_depth 31 = .ok (.bipush (-4), 2) := by decide +kernel
theorem dX5_depth_33 : decode cX5_depth 33 = .ok (.ireturn, 1) := by decide +kernel
theorem dX6_init_0 : decode cX6_init 0 = .ok (.aload_n 0, 1) := by decide +kernel
theorem dX6_init_1 : decode cX6_init 1 = .ok (.invokespecial 3, 3) := by decide +kernel
theorem dX6_init_4 : decode cX6_init 4 = .ok (.aload_n 0, 1) := by decide +kernel
theorem dX6_init_5 : decode cX6_init 5 = .ok (.sipush 300, 3) := by decide +kernel
theorem dX6_init_8 : decode cX6_init 8 = .ok (.newarray .int, 2) := by decide +kernel
theorem dX6_init_10 : decode cX6_init 10 = .ok (.putfield 9, 3) := by decide +kernel
theorem dX6_init_13 : decode cX6_init 13 = .ok (.return_, 1) := by decide +kernel
theorem dX6_size_0 : decode cX6_size 0 = .ok (.aload_n 0, 1) := by decide +kernel
theorem dX6_size_1 : decode cX6_size 1 = .ok (.getfield 15, 3) := by decide +kernel
theorem dX6_size_4 : decode cX6_size 4 = .ok (.ireturn, 1) := by decide +kernel
theorem dX6_clear_0 : decode cX6_clear 0 = .ok (.aload_n 0, 1) := by decide +kernel
theorem dX6_clear_1 : decode cX6_clear 1 = .ok (.iconst 0, 1) := by decide +kernel
theorem dX6_clear_2 : decode cX6_clear 2 = .ok (.putfield 15, 3) := by decide +kernel
theorem dX6_clear_5 : decode cX6_clear 5 = .ok (.return_, 1) := by decide +kernel
theorem dX6_addByte_0 : decode cX6_addByte 0 = .ok (.aload_n 0, 1) := by decide +kernel
theorem dX6_addByte_1 : decode cX6_addByte 1 = .ok (.getfield 15, 3) := by decide +kernel
theorem dX6_addByte_4 : decode cX6_addByte 4 = .ok (.sipush 300, 3) := by decide +kernel
theorem dX6_addByte_7 : decode cX6_addByte 7 = .ok (.if_icmp .ge 25, 3) := by decide +kernel
theorem dX6_addByte_10 : decode cX6_addByte 10 = .ok (.aload_n 0, 1) := by decide +kernel
theorem dX6_addByte_11 : decode cX6_addByte 11 = .ok (.getfield 9, 3) := by decide +kernel
theorem dX6_addByte_14 : decode cX6_addByte 14 = .ok (.aload_n 0, 1) := by decide +kernel
theorem dX6_addByte_15 : decode cX6_addByte 15 = .ok (.getfield 15, 3) := by decide +kernel
theorem dX6_addByte_18 : decode cX6_addByte 18 = .ok (.iload_n 1, 1) := by decide +kernel
theorem dX6_addByte_19 : decode cX6_addByte 19 = .ok (.invokestatic 19, 3) := by decide +kernel
theorem dX6_addByte_22 : decode cX6_addByte 22 = .ok (.aload_n 0, 1) := by decide +kernel
theorem dX6_addByte_23 : decode cX6_addByte 23 = .ok (.dup, 1) := by decide +kernel
theorem dX6_addByte_24 : decode cX6_addByte 24 = .ok (.getfield 15, 3) := by decide +kernel
theorem dX6_addByte_27 : decode cX6_addByte 27 = .ok (.iconst 1, 1) := by decide +kernel
theorem dX6_addByte_28 : decode cX6_addByte 28 = .ok (.iadd, 1) := by decide +kernel
theorem dX6_addByte_29 : decode cX6_addByte 29 = .ok (.putfield 15, 3) := by decide +kernel
theorem dX6_addByte_32 : decode cX6_addByte 32 = .ok (.return_, 1) := by decide +kernel
theorem dX6_addSigns_0 : decode cX6_addSigns 0 = .ok (.iconst 0, 1) := by decide +kernel
theorem dX6_addSigns_1 : decode cX6_addSigns 1 = .ok (.istore_n 2, 1) := by decide +kernel
theorem dX6_addSigns_2 : decode cX6_addSigns 2 = .ok (.iload_n 2, 1) := by decide +kernel
theorem dX6_addSigns_3 : decode cX6_addSigns 3 = .ok (.aload_n 1, 1) := by decide +kernel
theorem dX6_addSigns_4 : decode cX6_addSigns 4 = .ok (.invokevirtual 23, 3) := by decide +kernel
theorem dX6_addSigns_7 : decode cX6_addSigns 7 = .ok (.if_icmp .ge 18, 3) := by decide +kernel
theorem dX6_addSigns_10 : decode cX6_addSigns 10 = .ok (.aload_n 0, 1) := by decide +kernel
theorem dX6_addSigns_11 : decode cX6_addSigns 11 = .ok (.aload_n 1, 1) := by decide +kernel
theorem dX6_addSigns_12 : decode cX6_addSigns 12 = .ok (.iload_n 2, 1) := by decide +kernel
theorem dX6_addSigns_13 : decode cX6_addSigns 13 = .ok (.invokevirtual 29, 3) := by decide +kernel
theorem dX6_addSigns_16 : decode cX6_addSigns 16 = .ok (.invokevirtual 33, 3) := by decide +kernel
theorem dX6_addSigns_19 : decode cX6_addSigns 19 = .ok (.iinc 2 1, 3) := by decide +kernel
theorem dX6_addSigns_22 : decode cX6_addSigns 22 = .ok (.goto (-20), 3) := by decide +kernel
theorem dX6_addSigns_25 : decode cX6_addSigns 25 = .ok (.return_, 1) := by decide +kernel
theorem dX6_byteAt_0 : decode cX6_byteAt 0 = .ok (.iload_n 1, 1) := by decide +kernel
theorem dX6_byteAt_1 : decode cX6_byteAt 1 = .ok (.ifCond .lt 22, 3) := by decide +kernel
theorem dX6_byteAt_4 : decode cX6_byteAt 4 = .ok (.iload_n 1, 1) := by decide +kernel
theorem dX6_byteAt_5 : decode cX6_byteAt 5 = .ok (.aload_n 0, 1) := by decide +kernel
theorem dX6_byteAt_6 : decode cX6_byteAt 6 = .ok (.getfield 15, 3) := by decide +kernel
theorem dX6_byteAt_9 : decode cX6_byteAt 9 = .ok (.if_icmp .ge 14, 3) := by decide +kernel
theorem dX6_byteAt_12 : decode cX6_byteAt 12 = .ok (.aload_n 0, 1) := by decide +kernel
theorem dX6_byteAt_13 : decode cX6_byteAt 13 = .ok (.getfield 9, 3) := by decide +kernel
theorem dX6_byteAt_16 : decode cX6_byteAt 16 = .ok (.iload_n 1, 1) := by decide +kernel
theorem dX6_byteAt_17 : decode cX6_byteAt 17 = .ok (.invokestatic 37, 3) := by decide +kernel
theorem dX6_byteAt_20 : decode cX6_byteAt 20 = .ok (.goto 4, 3) := by decide +kernel
theorem dX6_byteAt_23 : decode cX6_byteAt 23 = .ok (.iconst (-1), 1) := by decide +kernel
theorem dX6_byteAt_24 : decode cX6_byteAt 24 = .ok (.ireturn, 1) := by decide +kernel
theorem dX7_init_0 : decode cX7_init 0 = .ok (.aload_n 0, 1) := by decide +kernel
theorem dX7_init_1 : decode cX7_init 1 = .ok (.invokespecial 3, 3) := by decide +kernel
theorem dX7_init_4 : decode cX7_init 4 = .ok (.aload_n 0, 1) := by decide +kernel
theorem dX7_init_5 : decode cX7_init 5 = .ok (.sipush 1024, 3) := by decide +kernel
theorem dX7_init_8 : decode cX7_init 8 = .ok (.newarray .int, 2) := by decide +kernel
theorem dX7_init_10 : decode cX7_init 10 = .ok (.putfield 9, 3) := by decide +kernel
theorem dX7_init_13 : decode cX7_init 13 = .ok (.aload_n 0, 1) := by decide +kernel
theorem dX7_init_14 : decode cX7_init 14 = .ok (.sipush 1024, 3) := by decide +kernel
theorem dX7_init_17 : decode cX7_init 17 = .ok (.newarray .int, 2) := by decide +kernel
theorem dX7_init_19 : decode cX7_init 19 = .ok (.putfield 15, 3) := by decide +kernel
theorem dX7_init_22 : decode cX7_init 22 = .ok (.return_, 1) := by decide +kernel
theorem dX7_measure_0 : decode cX7_measure 0 = .ok (.aload_n 1, 1) := by decide +kernel
theorem dX7_measure_1 : decode cX7_measure 1 = .ok (.invokevirtual 18, 3) := by decide +kernel
theorem dX7_measure_4 : decode cX7_measure 4 = .ok (.istore_n 3, 1) := by decide +kernel
theorem dX7_measure_5 : decode cX7_measure 5 = .ok (.aload_n 1, 1) := by decide +kernel
theorem dX7_measure_6 : decode cX7_measure 6 = .ok (.invokevirtual 24, 3) := by decide +kernel
theorem dX7_measure_9 : decode cX7_measure 9 = .ok (.istore 4, 2) := by decide +kernel
theorem dX7_measure_11 : decode cX7_measure 11 = .ok (.iload 4, 2) := by decide +kernel
theorem dX7_measure_13 : decode cX7_measure 13 = .ok (.iload_n 3, 1) := by decide +kernel
theorem dX7_measure_14 : decode cX7_measure 14 = .ok (.if_icmp .lt 38, 3) := by decide +kernel
theorem dX7_measure_17 : decode cX7_measure 17 = .ok (.iload 4, 2) := by decide +kernel
theorem dX7_measure_19 : decode cX7_measure 19 = .ok (.iload_n 3, 1) := by decide +kernel
theorem dX7_measure_20 : decode cX7_measure 20 = .ok (.invokestatic 27, 3) := by decide +kernel
theorem dX7_measure_23 : decode cX7_measure 23 = .ok (.ifCond .eq 23, 3) := by decide +kernel
theorem dX7_measure_26 : decode cX7_measure 26 = .ok (.aload_n 1, 1) := by decide +kernel
theorem dX7_measure_27 : decode cX7_measure 27 = .ok (.invokevirtual 24, 3) := by decide +kernel
theorem dX7_measure_30 : decode cX7_measure 30 = .ok (.iload 4, 2) := by decide +kernel
theorem dX7_measure_32 : decode cX7_measure 32 = .ok (.invokestatic 27, 3) := by decide +kernel
theorem dX7_measure_35 : decode cX7_measure 35 = .ok (.ifCond .eq 11, 3) := by decide +kernel
theorem dX7_measure_38 : decode cX7_measure 38 = .ok (.aload_n 0, 1) := by decide +kernel
theorem dX7_measure_39 : decode cX7_measure 39 = .ok (.aload_n 1, 1) := by decide +kernel
theorem dX7_measure_40 : decode cX7_measure 40 = .ok (.iload 4, 2) := by decide +kernel
theorem dX7_measure_42 : decode cX7_measure 42 = .ok (.iload_n 2, 1) := by decide +kernel
theorem dX7_measure_43 : decode cX7_measure 43 = .ok (.invokevirtual 31, 3) := by decide +kernel
theorem dX7_measure_46 : decode cX7_measure 46 = .ok (.iinc 4 (-1), 3) := by decide +kernel
theorem dX7_measure_49 : decode cX7_measure 49 = .ok (.goto (-38), 3) := by decide +kernel
theorem dX7_measure_52 : decode cX7_measure 52 = .ok (.return_, 1) := by decide +kernel
theorem dX7_measureFrom_0 : decode cX7_measureFrom 0 = .ok (.sipush 1000, 3) := by decide +kernel
theorem dX7_measureFrom_3 : decode cX7_measureFrom 3 = .ok (.istore 4, 2) := by decide +kernel
theorem dX7_measureFrom_5 : decode cX7_measureFrom 5 = .ok (.iconst 0, 1) := by decide +kernel
theorem dX7_measureFrom_6 : decode cX7_measureFrom 6 = .ok (.istore 5, 2) := by decide +kernel
theorem dX7_measureFrom_8 : decode cX7_measureFrom 8 = .ok (.iload_n 2, 1) := by decide +kernel
theorem dX7_measureFrom_9 : decode cX7_measureFrom 9 = .ok (.iload_n 3, 1) := by decide +kernel
theorem dX7_measureFrom_10 : decode cX7_measureFrom 10 = .ok (.invokestatic 35, 3) := by decide +kernel
theorem dX7_measureFrom_13 : decode cX7_measureFrom 13 = .ok (.ifCond .eq 9, 3) := by decide +kernel
theorem dX7_measureFrom_16 : decode cX7_measureFrom 16 = .ok (.iconst 0, 1) := by decide +kernel
theorem dX7_measureFrom_17 : decode cX7_measureFrom 17 = .ok (.istore 4, 2) := by decide +kernel
theorem dX7_measureFrom_19 : decode cX7_measureFrom 19 = .ok (.iconst 1, 1) := by decide +kernel
theorem dX7_measureFrom_20 : decode cX7_measureFrom 20 = .ok (.istore 5, 2) := by decide +kernel
theorem dX7_measureFrom_22 : decode cX7_measureFrom 22 = .ok (.iconst 0, 1) := by decide +kernel
theorem dX7_measureFrom_23 : decode cX7_measureFrom 23 = .ok (.istore 6, 2) := by decide +kernel
theorem dX7_measureFrom_25 : decode cX7_measureFrom 25 = .ok (.iload 6, 2) := by decide +kernel
theorem dX7_measureFrom_27 : decode cX7_measureFrom 27 = .ok (.aload_n 1, 1) := by decide +kernel
theorem dX7_measureFrom_28 : decode cX7_measureFrom 28 = .ok (.invokevirtual 38, 3) := by decide +kernel
theorem dX7_measureFrom_31 : decode cX7_measureFrom 31 = .ok (.if_icmp .ge 78, 3) := by decide +kernel
theorem dX7_measureFrom_34 : decode cX7_measureFrom 34 = .ok (.iload 4, 2) := by decide +kernel
theorem dX7_measureFrom_36 : decode cX7_measureFrom 36 = .ok (.ifCond .le 73, 3) := by decide +kernel
theorem dX7_measureFrom_39 : decode cX7_measureFrom 39 = .ok (.aload_n 1, 1) := by decide +kernel
theorem dX7_measureFrom_40 : decode cX7_measureFrom 40 = .ok (.iload 6, 2) := by decide +kernel
theorem dX7_measureFrom_42 : decode cX7_measureFrom 42 = .ok (.iload_n 2, 1) := by decide +kernel
theorem dX7_measureFrom_43 : decode cX7_measureFrom 43 = .ok (.invokevirtual 41, 3) := by decide +kernel
theorem dX7_measureFrom_46 : decode cX7_measureFrom 46 = .ok (.istore 7, 2) := by decide +kernel
theorem dX7_measureFrom_48 : decode cX7_measureFrom 48 = .ok (.aload_n 0, 1) := by decide +kernel
theorem dX7_measureFrom_49 : decode cX7_measureFrom 49 = .ok (.getfield 9, 3) := by decide +kernel
theorem dX7_measureFrom_52 : decode cX7_measureFrom 52 = .ok (.iload 7, 2) := by decide +kernel
theorem dX7_measureFrom_54 : decode cX7_measureFrom 54 = .ok (.invokestatic 45, 3) := by decide +kernel
theorem dX7_measureFrom_57 : decode cX7_measureFrom 57 = .ok (.iconst 1, 1) := by decide +kernel
theorem dX7_measureFrom_58 : decode cX7_measureFrom 58 = .ok (.iadd, 1) := by decide +kernel
theorem dX7_measureFrom_59 : decode cX7_measureFrom 59 = .ok (.istore 8, 2) := by decide +kernel
theorem dX7_measureFrom_61 : decode cX7_measureFrom 61 = .ok (.iload 7, 2) := by decide +kernel
theorem dX7_measureFrom_63 : decode cX7_measureFrom 63 = .ok (.iload_n 2, 1) := by decide +kernel
theorem dX7_measureFrom_64 : decode cX7_measureFrom 64 = .ok (.if_icmp .eq 39, 3) := by decide +kernel
theorem dX7_measureFrom_67 : decode cX7_measureFrom 67 = .ok (.iload 8, 2) := by decide +kernel
theorem dX7_measureFrom_69 : decode cX7_measureFrom 69 = .ok (.iload 4, 2) := by decide +kernel
theorem dX7_measureFrom_71 : decode cX7_measureFrom 71 = .ok (.if_icmp .gt 32, 3) := by decide +kernel
theorem dX7_measureFrom_74 : decode cX7_measureFrom 74 = .ok (.aload_n 0, 1) := by decide +kernel
theorem dX7_measureFrom_75 : decode cX7_measureFrom 75 = .ok (.getfield 15, 3) := by decide +kernel
theorem dX7_measureFrom_78 : decode cX7_measureFrom 78 = .ok (.iload 7, 2) := by decide +kernel
theorem dX7_measureFrom_80 : decode cX7_measureFrom 80 = .ok (.invokestatic 45, 3) := by decide +kernel
theorem dX7_measureFrom_83 : decode cX7_measureFrom 83 = .ok (.iload 8, 2) := by decide +kernel
theorem dX7_measureFrom_85 : decode cX7_measureFrom 85 = .ok (.iload 4, 2) := by decide +kernel
theorem dX7_measureFrom_87 : decode cX7_measureFrom 87 = .ok (.if_icmp .ne 8, 3) := by decide +kernel
theorem dX7_measureFrom_90 : decode cX7_measureFrom 90 = .ok (.iload 5, 2) := by decide +kernel
theorem dX7_measureFrom_92 : decode cX7_measureFrom 92 = .ok (.goto 4, 3) := by decide +kernel
theorem dX7_measureFrom_95 : decode cX7_measureFrom 95 = .ok (.iconst 0, 1) := by decide +kernel
theorem dX7_measureFrom_96 : decode cX7_measureFrom 96 = .ok (.iadd, 1) := by decide +kernel
theorem dX7_measureFrom_97 : decode cX7_measureFrom 97 = .ok (.istore 5, 2) := by decide +kernel
theorem dX7_measureFrom_99 : decode cX7_measureFrom 99 = .ok (.iload 8, 2) := by decide +kernel
theorem dX7_measureFrom_101 : decode cX7_measureFrom 101 = .ok (.istore 4, 2) := by decide +kernel
theorem dX7_measureFrom_103 : decode cX7_measureFrom 103 = .ok (.iinc 6 1, 3) := by decide +kernel
theorem dX7_measureFrom_106 : decode cX7_measureFrom 106 = .ok (.goto (-81), 3) := by decide +kernel
theorem dX7_measureFrom_109 : decode cX7_measureFrom 109 = .ok (.aload_n 0, 1) := by decide +kernel
theorem dX7_measureFrom_110 : decode cX7_measureFrom 110 = .ok (.getfield 9, 3) := by decide +kernel
theorem dX7_measureFrom_113 : decode cX7_measureFrom 113 = .ok (.iload_n 2, 1) := by decide +kernel
theorem dX7_measureFrom_114 : decode cX7_measureFrom 114 = .ok (.iload 4, 2) := by decide +kernel
theorem dX7_measureFrom_116 : decode cX7_measureFrom 116 = .ok (.invokestatic 49, 3) := by decide +kernel
theorem dX7_measureFrom_119 : decode cX7_measureFrom 119 = .ok (.aload_n 0, 1) := by decide +kernel
theorem dX7_measureFrom_120 : decode cX7_measureFrom 120 = .ok (.getfield 15, 3) := by decide +kernel
theorem dX7_measureFrom_123 : decode cX7_measureFrom 123 = .ok (.iload_n 2, 1) := by decide +kernel
theorem dX7_measureFrom_124 : decode cX7_measureFrom 124 = .ok (.iload 5, 2) := by decide +kernel
theorem dX7_measureFrom_126 : decode cX7_measureFrom 126 = .ok (.invokestatic 49, 3) := by decide +kernel
theorem dX7_measureFrom_129 : decode cX7_measureFrom 129 = .ok (.return_, 1) := by decide +kernel
theorem dX7_fewestSteps_0 : decode cX7_fewestSteps 0 = .ok (.aload_n 0, 1) := by decide +kernel
theorem dX7_fewestSteps_1 : decode cX7_fewestSteps 1 = .ok (.getfield 9, 3) := by decide +kernel
theorem dX7_fewestSteps_4 : decode cX7_fewestSteps 4 = .ok (.aload_n 1, 1) := by decide +kernel
theorem dX7_fewestSteps_5 : decode cX7_fewestSteps 5 = .ok (.invokevirtual 18, 3) := by decide +kernel
theorem dX7_fewestSteps_8 : decode cX7_fewestSteps 8 = .ok (.invokestatic 45, 3) := by decide +kernel
theorem dX7_fewestSteps_11 : decode cX7_fewestSteps 11 = .ok (.istore_n 2, 1) := by decide +kernel
theorem dX7_fewestSteps_12 : decode cX7_fewestSteps 12 = .ok (.iload_n 2, 1) := by decide +kernel
theorem dX7_fewestSteps_13 : decode cX7_fewestSteps 13 = .ok (.sipush 1000, 3) := by decide +kernel
theorem dX7_fewestSteps_16 : decode cX7_fewestSteps 16 = .ok (.if_icmp .ne 8, 3) := by decide +kernel
theorem dX7_fewestSteps_19 : decode cX7_fewestSteps 19 = .ok (.bipush (-4), 2) := by decide +kernel
theorem dX7_fewestSteps_21 : decode cX7_fewestSteps 21 = .ok (.goto 4, 3) := by decide +kernel
theorem dX7_fewestSteps_24 : decode cX7_fewestSteps 24 = .ok (.iload_n 2, 1) := by decide +kernel
theorem dX7_fewestSteps_25 : decode cX7_fewestSteps 25 = .ok (.ireturn, 1) := by decide +kernel
theorem dX7_lowestFirstStep_0 : decode cX7_lowestFirstStep 0 = .ok (.aload_n 1, 1) := by decide +kernel
theorem dX7_lowestFirstStep_1 : decode cX7_lowestFirstStep 1 = .ok (.invokevirtual 18, 3) := by decide +kernel
theorem dX7_lowestFirstStep_4 : decode cX7_lowestFirstStep 4 = .ok (.istore_n 2, 1) := by decide +kernel
theorem dX7_lowestFirstStep_5 : decode cX7_lowestFirstStep 5 = .ok (.aload_n 0, 1) := by decide +kernel
theorem dX7_lowestFirstStep_6 : decode cX7_lowestFirstStep 6 = .ok (.aload_n 1, 1) := by decide +kernel
theorem dX7_lowestFirstStep_7 : decode cX7_lowestFirstStep 7 = .ok (.invokevirtual 53, 3) := by decide +kernel
theorem dX7_lowestFirstStep_10 : decode cX7_lowestFirstStep 10 = .ok (.istore_n 3, 1) := by decide +kernel
theorem dX7_lowestFirstStep_11 : decode cX7_lowestFirstStep 11 = .ok (.iconst 0, 1) := by decide +kernel
theorem dX7_lowestFirstStep_12 : decode cX7_lowestFirstStep 12 = .ok (.istore 4, 2) := by decide +kernel
theorem dX7_lowestFirstStep_14 : decode cX7_lowestFirstStep 14 = .ok (.iload 4, 2) := by decide +kernel
theorem dX7_lowestFirstStep_16 : decode cX7_lowestFirstStep 16 = .ok (.aload_n 1, 1) := by decide +kernel
theorem dX7_lowestFirstStep_17 : decode cX7_lowestFirstStep 17 = .ok (.invokevirtual 38, 3) := by decide +kernel
theorem dX7_lowestFirstStep_20 : decode cX7_lowestFirstStep 20 = .ok (.if_icmp .ge 46, 3) := by decide +kernel
theorem dX7_lowestFirstStep_23 : decode cX7_lowestFirstStep 23 = .ok (.iload_n 3, 1) := by decide +kernel
theorem dX7_lowestFirstStep_24 : decode cX7_lowestFirstStep 24 = .ok (.ifCond .le 42, 3) := by decide +kernel
theorem dX7_lowestFirstStep_27 : decode cX7_lowestFirstStep 27 = .ok (.aload_n 1, 1) := by decide +kernel
theorem dX7_lowestFirstStep_28 : decode cX7_lowestFirstStep 28 = .ok (.iload 4, 2) := by decide +kernel
theorem dX7_lowestFirstStep_30 : decode cX7_lowestFirstStep 30 = .ok (.iload_n 2, 1) := by decide +kernel
theorem dX7_lowestFirstStep_31 : decode cX7_lowestFirstStep 31 = .ok (.invokevirtual 41, 3) := by decide +kernel
theorem dX7_lowestFirstStep_34 : decode cX7_lowestFirstStep 34 = .ok (.istore 5, 2) := by decide +kernel
theorem dX7_lowestFirstStep_36 : decode cX7_lowestFirstStep 36 = .ok (.iload 5, 2) := by decide +kernel
theorem dX7_lowestFirstStep_38 : decode cX7_lowestFirstStep 38 = .ok (.iload_n 2, 1) := by decide +kernel
theorem dX7_lowestFirstStep_39 : decode cX7_lowestFirstStep 39 = .ok (.if_icmp .eq 21, 3) := by decide +kernel
theorem dX7_lowestFirstStep_42 : decode cX7_lowestFirstStep 42 = .ok (.aload_n 0, 1) := by decide +kernel
theorem dX7_lowestFirstStep_43 : decode cX7_lowestFirstStep 43 = .ok (.getfield 9, 3) := by decide +kernel
theorem dX7_lowestFirstStep_46 : decode cX7_lowestFirstStep 46 = .ok (.iload 5, 2) := by decide +kernel
theorem dX7_lowestFirstStep_48 : decode cX7_lowestFirstStep 48 = .ok (.invokestatic 45, 3) := by decide +kernel
theorem dX7_lowestFirstStep_51 : decode cX7_lowestFirstStep 51 = .ok (.iload_n 3, 1) := by decide +kernel
theorem dX7_lowestFirstStep_52 : decode cX7_lowestFirstStep 52 = .ok (.iconst 1, 1) := by decide +kernel
theorem dX7_lowestFirstStep_53 : decode cX7_lowestFirstStep 53 = .ok (.isub, 1) := by decide +kernel
theorem dX7_lowestFirstStep_54 : decode cX7_lowestFirstStep 54 = .ok (.if_icmp .ne 6, 3) := by decide +kernel
theorem dX7_lowestFirstStep_57 : decode cX7_lowestFirstStep 57 = .ok (.iload 4, 2) := by decide +kernel
theorem dX7_lowestFirstStep_59 : decode cX7_lowestFirstStep 59 = .ok (.ireturn, 1) := by decide +kernel
theorem dX7_lowestFirstStep_60 : decode cX7_lowestFirstStep 60 = .ok (.iinc 4 1, 3) := by decide +kernel
theorem dX7_lowestFirstStep_63 : decode cX7_lowestFirstStep 63 = .ok (.goto (-49), 3) := by decide +kernel
theorem dX7_lowestFirstStep_66 : decode cX7_lowestFirstStep 66 = .ok (.bipush (-4), 2) := by decide +kernel
theorem dX7_lowestFirstStep_68 : decode cX7_lowestFirstStep 68 = .ok (.ireturn, 1) := by decide +kernel
theorem dX7_howManyRows_0 : decode cX7_howManyRows 0 = .ok (.aload_n 0, 1) := by decide +kernel
theorem dX7_howManyRows_1 : decode cX7_howManyRows 1 = .ok (.aload_n 1, 1) := by decide +kernel
theorem dX7_howManyRows_2 : decode cX7_howManyRows 2 = .ok (.invokevirtual 53, 3) := by decide +kernel
theorem dX7_howManyRows_5 : decode cX7_howManyRows 5 = .ok (.bipush (-4), 2) := by decide +kernel
theorem dX7_howManyRows_7 : decode cX7_howManyRows 7 = .ok (.if_icmp .ne 8, 3) := by decide +kernel
theorem dX7_howManyRows_10 : decode cX7_howManyRows 10 = .ok (.bipush (-4), 2) := by decide +kernel
theorem dX7_howManyRows_12 : decode cX7_howManyRows 12 = .ok (.goto 14, 3) := by decide +kernel
theorem dX7_howManyRows_15 : decode cX7_howManyRows 15 = .ok (.aload_n 0, 1) := by decide +kernel
theorem dX7_howManyRows_16 : decode cX7_howManyRows 16 = .ok (.getfield 15, 3) := by decide +kernel
theorem dX7_howManyRows_19 : decode cX7_howManyRows 19 = .ok (.aload_n 1, 1) := by decide +kernel
theorem dX7_howManyRows_20 : decode cX7_howManyRows 20 = .ok (.invokevirtual 18, 3) := by decide +kernel
theorem dX7_howManyRows_23 : decode cX7_howManyRows 23 = .ok (.invokestatic 45, 3) := by decide +kernel
theorem dX7_howManyRows_26 : decode cX7_howManyRows 26 = .ok (.ireturn, 1) := by decide +kernel
theorem dX7_rounds_0 : decode cX7_rounds 0 = .ok (.aload_n 0, 1) := by decide +kernel
theorem dX7_rounds_1 : decode cX7_rounds 1 = .ok (.invokevirtual 18, 3) := by decide +kernel
theorem dX7_rounds_4 : decode cX7_rounds 4 = .ok (.istore_n 2, 1) := by decide +kernel
theorem dX7_rounds_5 : decode cX7_rounds 5 = .ok (.iconst 0, 1) := by decide +kernel
theorem dX7_rounds_6 : decode cX7_rounds 6 = .ok (.istore_n 3, 1) := by decide +kernel
theorem dX7_rounds_7 : decode cX7_rounds 7 = .ok (.iload_n 3, 1) := by decide +kernel
theorem dX7_rounds_8 : decode cX7_rounds 8 = .ok (.bipush 10, 2) := by decide +kernel
theorem dX7_rounds_10 : decode cX7_rounds 10 = .ok (.if_icmp .gt 25, 3) := by decide +kernel
theorem dX7_rounds_13 : decode cX7_rounds 13 = .ok (.iload_n 2, 1) := by decide +kernel
theorem dX7_rounds_14 : decode cX7_rounds 14 = .ok (.iload_n 1, 1) := by decide +kernel
theorem dX7_rounds_15 : decode cX7_rounds 15 = .ok (.invokestatic 35, 3) := by decide +kernel
theorem dX7_rounds_18 : decode cX7_rounds 18 = .ok (.ifCond .eq 5, 3) := by decide +kernel
theorem dX7_rounds_21 : decode cX7_rounds 21 = .ok (.iload_n 3, 1) := by decide +kernel
theorem dX7_rounds_22 : decode cX7_rounds 22 = .ok (.ireturn, 1) := by decide +kernel
theorem dX7_rounds_23 : decode cX7_rounds 23 = .ok (.aload_n 0, 1) := by decide +kernel
theorem dX7_rounds_24 : decode cX7_rounds 24 = .ok (.iload_n 2, 1) := by decide +kernel
theorem dX7_rounds_25 : decode cX7_rounds 25 = .ok (.invokestatic 57, 3) := by decide +kernel
theorem dX7_rounds_28 : decode cX7_rounds 28 = .ok (.istore_n 2, 1) := by decide +kernel
theorem dX7_rounds_29 : decode cX7_rounds 29 = .ok (.iinc 3 1, 3) := by decide +kernel
theorem dX7_rounds_32 : decode cX7_rounds 32 = .ok (.goto (-25), 3) := by decide +kernel
theorem dX7_rounds_35 : decode cX7_rounds 35 = .ok (.bipush (-4), 2) := by decide +kernel
theorem dX7_rounds_37 : decode cX7_rounds 37 = .ok (.ireturn, 1) := by decide +kernel
theorem dX7_afterAllAtOnce_0 : decode cX7_afterAllAtOnce 0 = .ok (.iload_n 1, 1) := by decide +kernel
theorem dX7_afterAllAtOnce_1 : decode cX7_afterAllAtOnce 1 = .ok (.istore_n 2, 1) := by decide +kernel
theorem dX7_afterAllAtOnce_2 : decode cX7_afterAllAtOnce 2 = .ok (.iconst 0, 1) := by decide +kernel
theorem dX7_afterAllAtOnce_3 : decode cX7_afterAllAtOnce 3 = .ok (.istore_n 3, 1) := by decide +kernel
theorem dX7_afterAllAtOnce_4 : decode cX7_afterAllAtOnce 4 = .ok (.iload_n 3, 1) := by decide +kernel
theorem dX7_afterAllAtOnce_5 : decode cX7_afterAllAtOnce 5 = .ok (.aload_n 0, 1) := by decide +kernel
theorem dX7_afterAllAtOnce_6 : decode cX7_afterAllAtOnce 6 = .ok (.invokevirtual 38, 3) := by decide +kernel
theorem dX7_afterAllAtOnce_9 : decode cX7_afterAllAtOnce 9 = .ok (.if_icmp .ge 18, 3) := by decide +kernel
theorem dX7_afterAllAtOnce_12 : decode cX7_afterAllAtOnce 12 = .ok (.iload_n 2, 1) := by decide +kernel
theorem dX7_afterAllAtOnce_13 : decode cX7_afterAllAtOnce 13 = .ok (.aload_n 0, 1) := by decide +kernel
theorem dX7_afterAllAtOnce_14 : decode cX7_afterAllAtOnce 14 = .ok (.iload_n 3, 1) := by decide +kernel
theorem dX7_afterAllAtOnce_15 : decode cX7_afterAllAtOnce 15 = .ok (.iload_n 1, 1) := by decide +kernel
theorem dX7_afterAllAtOnce_16 : decode cX7_afterAllAtOnce 16 = .ok (.invokevirtual 41, 3) := by decide +kernel
theorem dX7_afterAllAtOnce_19 : decode cX7_afterAllAtOnce 19 = .ok (.ior, 1) := by decide +kernel
theorem dX7_afterAllAtOnce_20 : decode cX7_afterAllAtOnce 20 = .ok (.istore_n 2, 1) := by decide +kernel
theorem dX7_afterAllAtOnce_21 : decode cX7_afterAllAtOnce 21 = .ok (.iinc 3 1, 3) := by decide +kernel
theorem dX7_afterAllAtOnce_24 : decode cX7_afterAllAtOnce 24 = .ok (.goto (-20), 3) := by decide +kernel
theorem dX7_afterAllAtOnce_27 : decode cX7_afterAllAtOnce 27 = .ok (.iload_n 2, 1) := by decide +kernel
theorem dX7_afterAllAtOnce_28 : decode cX7_afterAllAtOnce 28 = .ok (.ireturn, 1) := by decide +kernel
theorem dJ6_numberOfTrailingZeros_0f7a4_0 : decode cJ6_numberOfTrailingZeros_0f7a4 0 = .ok (.iload_n 0, 1) := by decide +kernel
theorem dJ6_numberOfTrailingZeros_0f7a4_1 : decode cJ6_numberOfTrailingZeros_0f7a4 1 = .ok (.iconst (-1), 1) := by decide +kernel
theorem dJ6_numberOfTrailingZeros_0f7a4_2 : decode cJ6_numberOfTrailingZeros_0f7a4 2 = .ok (.ixor, 1) := by decide +kernel
theorem dJ6_numberOfTrailingZeros_0f7a4_3 : decode cJ6_numberOfTrailingZeros_0f7a4 3 = .ok (.iload_n 0, 1) := by decide +kernel
theorem dJ6_numberOfTrailingZeros_0f7a4_4 : decode cJ6_numberOfTrailingZeros_0f7a4 4 = .ok (.iconst 1, 1) := by decide +kernel
theorem dJ6_numberOfTrailingZeros_0f7a4_5 : decode cJ6_numberOfTrailingZeros_0f7a4 5 = .ok (.isub, 1) := by decide +kernel
theorem dJ6_numberOfTrailingZeros_0f7a4_6 : decode cJ6_numberOfTrailingZeros_0f7a4 6 = .ok (.iand, 1) := by decide +kernel
theorem dJ6_numberOfTrailingZeros_0f7a4_7 : decode cJ6_numberOfTrailingZeros_0f7a4 7 = .ok (.istore_n 0, 1) := by decide +kernel
theorem dJ6_numberOfTrailingZeros_0f7a4_8 : decode cJ6_numberOfTrailingZeros_0f7a4 8 = .ok (.iload_n 0, 1) := by decide +kernel
theorem dJ6_numberOfTrailingZeros_0f7a4_9 : decode cJ6_numberOfTrailingZeros_0f7a4 9 = .ok (.ifCond .gt 8, 3) := by decide +kernel
theorem dJ6_numberOfTrailingZeros_0f7a4_12 : decode cJ6_numberOfTrailingZeros_0f7a4 12 = .ok (.iload_n 0, 1) := by decide +kernel
theorem dJ6_numberOfTrailingZeros_0f7a4_13 : decode cJ6_numberOfTrailingZeros_0f7a4 13 = .ok (.bipush 32, 2) := by decide +kernel
theorem dJ6_numberOfTrailingZeros_0f7a4_15 : decode cJ6_numberOfTrailingZeros_0f7a4 15 = .ok (.iand, 1) := by decide +kernel
theorem dJ6_numberOfTrailingZeros_0f7a4_16 : decode cJ6_numberOfTrailingZeros_0f7a4 16 = .ok (.ireturn, 1) := by decide +kernel
theorem dJ6_numberOfTrailingZeros_0f7a4_17 : decode cJ6_numberOfTrailingZeros_0f7a4 17 = .ok (.iconst 1, 1) := by decide +kernel
theorem dJ6_numberOfTrailingZeros_0f7a4_18 : decode cJ6_numberOfTrailingZeros_0f7a4 18 = .ok (.istore_n 1, 1) := by decide +kernel
theorem dJ6_numberOfTrailingZeros_0f7a4_19 : decode cJ6_numberOfTrailingZeros_0f7a4 19 = .ok (.iload_n 0, 1) := by decide +kernel
theorem dJ6_numberOfTrailingZeros_0f7a4_20 : decode cJ6_numberOfTrailingZeros_0f7a4 20 = .ok (.ldc_w 264, 3) := by decide +kernel
theorem dJ6_numberOfTrailingZeros_0f7a4_23 : decode cJ6_numberOfTrailingZeros_0f7a4 23 = .ok (.if_icmp .le 11, 3) := by decide +kernel
theorem dJ6_numberOfTrailingZeros_0f7a4_26 : decode cJ6_numberOfTrailingZeros_0f7a4 26 = .ok (.iinc 1 16, 3) := by decide +kernel
theorem dJ6_numberOfTrailingZeros_0f7a4_29 : decode cJ6_numberOfTrailingZeros_0f7a4 29 = .ok (.iload_n 0, 1) := by decide +kernel
theorem dJ6_numberOfTrailingZeros_0f7a4_30 : decode cJ6_numberOfTrailingZeros_0f7a4 30 = .ok (.bipush 16, 2) := by decide +kernel
theorem dJ6_numberOfTrailingZeros_0f7a4_32 : decode cJ6_numberOfTrailingZeros_0f7a4 32 = .ok (.iushr, 1) := by decide +kernel
theorem dJ6_numberOfTrailingZeros_0f7a4_33 : decode cJ6_numberOfTrailingZeros_0f7a4 33 = .ok (.istore_n 0, 1) := by decide +kernel
theorem dJ6_numberOfTrailingZeros_0f7a4_34 : decode cJ6_numberOfTrailingZeros_0f7a4 34 = .ok (.iload_n 0, 1) := by decide +kernel
theorem dJ6_numberOfTrailingZeros_0f7a4_35 : decode cJ6_numberOfTrailingZeros_0f7a4 35 = .ok (.sipush 256, 3) := by decide +kernel
theorem dJ6_numberOfTrailingZeros_0f7a4_38 : decode cJ6_numberOfTrailingZeros_0f7a4 38 = .ok (.if_icmp .le 11, 3) := by decide +kernel
theorem dJ6_numberOfTrailingZeros_0f7a4_41 : decode cJ6_numberOfTrailingZeros_0f7a4 41 = .ok (.iinc 1 8, 3) := by decide +kernel
theorem dJ6_numberOfTrailingZeros_0f7a4_44 : decode cJ6_numberOfTrailingZeros_0f7a4 44 = .ok (.iload_n 0, 1) := by decide +kernel
theorem dJ6_numberOfTrailingZeros_0f7a4_45 : decode cJ6_numberOfTrailingZeros_0f7a4 45 = .ok (.bipush 8, 2) := by decide +kernel
theorem dJ6_numberOfTrailingZeros_0f7a4_47 : decode cJ6_numberOfTrailingZeros_0f7a4 47 = .ok (.iushr, 1) := by decide +kernel
theorem dJ6_numberOfTrailingZeros_0f7a4_48 : decode cJ6_numberOfTrailingZeros_0f7a4 48 = .ok (.istore_n 0, 1) := by decide +kernel
theorem dJ6_numberOfTrailingZeros_0f7a4_49 : decode cJ6_numberOfTrailingZeros_0f7a4 49 = .ok (.iload_n 0, 1) := by decide +kernel
theorem dJ6_numberOfTrailingZeros_0f7a4_50 : decode cJ6_numberOfTrailingZeros_0f7a4 50 = .ok (.bipush 16, 2) := by decide +kernel
theorem dJ6_numberOfTrailingZeros_0f7a4_52 : decode cJ6_numberOfTrailingZeros_0f7a4 52 = .ok (.if_icmp .le 10, 3) := by decide +kernel
theorem dJ6_numberOfTrailingZeros_0f7a4_55 : decode cJ6_numberOfTrailingZeros_0f7a4 55 = .ok (.iinc 1 4, 3) := by decide +kernel
theorem dJ6_numberOfTrailingZeros_0f7a4_58 : decode cJ6_numberOfTrailingZeros_0f7a4 58 = .ok (.iload_n 0, 1) := by decide +kernel
theorem dJ6_numberOfTrailingZeros_0f7a4_59 : decode cJ6_numberOfTrailingZeros_0f7a4 59 = .ok (.iconst 4, 1) := by decide +kernel
theorem dJ6_numberOfTrailingZeros_0f7a4_60 : decode cJ6_numberOfTrailingZeros_0f7a4 60 = .ok (.iushr, 1) := by decide +kernel
theorem dJ6_numberOfTrailingZeros_0f7a4_61 : decode cJ6_numberOfTrailingZeros_0f7a4 61 = .ok (.istore_n 0, 1) := by decide +kernel
theorem dJ6_numberOfTrailingZeros_0f7a4_62 : decode cJ6_numberOfTrailingZeros_0f7a4 62 = .ok (.iload_n 0, 1) := by decide +kernel
theorem dJ6_numberOfTrailingZeros_0f7a4_63 : decode cJ6_numberOfTrailingZeros_0f7a4 63 = .ok (.iconst 4, 1) := by decide +kernel
theorem dJ6_numberOfTrailingZeros_0f7a4_64 : decode cJ6_numberOfTrailingZeros_0f7a4 64 = .ok (.if_icmp .le 10, 3) := by decide +kernel
theorem dJ6_numberOfTrailingZeros_0f7a4_67 : decode cJ6_numberOfTrailingZeros_0f7a4 67 = .ok (.iinc 1 2, 3) := by decide +kernel
theorem dJ6_numberOfTrailingZeros_0f7a4_70 : decode cJ6_numberOfTrailingZeros_0f7a4 70 = .ok (.iload_n 0, 1) := by decide +kernel
theorem dJ6_numberOfTrailingZeros_0f7a4_71 : decode cJ6_numberOfTrailingZeros_0f7a4 71 = .ok (.iconst 2, 1) := by decide +kernel
theorem dJ6_numberOfTrailingZeros_0f7a4_72 : decode cJ6_numberOfTrailingZeros_0f7a4 72 = .ok (.iushr, 1) := by decide +kernel
theorem dJ6_numberOfTrailingZeros_0f7a4_73 : decode cJ6_numberOfTrailingZeros_0f7a4 73 = .ok (.istore_n 0, 1) := by decide +kernel
theorem dJ6_numberOfTrailingZeros_0f7a4_74 : decode cJ6_numberOfTrailingZeros_0f7a4 74 = .ok (.iload_n 1, 1) := by decide +kernel
theorem dJ6_numberOfTrailingZeros_0f7a4_75 : decode cJ6_numberOfTrailingZeros_0f7a4 75 = .ok (.iload_n 0, 1) := by decide +kernel
theorem dJ6_numberOfTrailingZeros_0f7a4_76 : decode cJ6_numberOfTrailingZeros_0f7a4 76 = .ok (.iconst 1, 1) := by decide +kernel
theorem dJ6_numberOfTrailingZeros_0f7a4_77 : decode cJ6_numberOfTrailingZeros_0f7a4 77 = .ok (.iushr, 1) := by decide +kernel
theorem dJ6_numberOfTrailingZeros_0f7a4_78 : decode cJ6_numberOfTrailingZeros_0f7a4 78 = .ok (.iadd, 1) := by decide +kernel
theorem dJ6_numberOfTrailingZeros_0f7a4_79 : decode cJ6_numberOfTrailingZeros_0f7a4 79 = .ok (.ireturn, 1) := by decide +kernel
theorem dJ6_bitCount_0f7a4_0 : decode cJ6_bitCount_0f7a4 0 = .ok (.iload_n 0, 1) := by decide +kernel
theorem dJ6_bitCount_0f7a4_1 : decode cJ6_bitCount_0f7a4 1 = .ok (.iload_n 0, 1) := by decide +kernel
theorem dJ6_bitCount_0f7a4_2 : decode cJ6_bitCount_0f7a4 2 = .ok (.iconst 1, 1) := by decide +kernel
theorem dJ6_bitCount_0f7a4_3 : decode cJ6_bitCount_0f7a4 3 = .ok (.iushr, 1) := by decide +kernel
theorem dJ6_bitCount_0f7a4_4 : decode cJ6_bitCount_0f7a4 4 = .ok (.ldc_w 265, 3) := by decide +kernel
theorem dJ6_bitCount_0f7a4_7 : decode cJ6_bitCount_0f7a4 7 = .ok (.iand, 1) := by decide +kernel
theorem dJ6_bitCount_0f7a4_8 : decode cJ6_bitCount_0f7a4 8 = .ok (.isub, 1) := by decide +kernel
theorem dJ6_bitCount_0f7a4_9 : decode cJ6_bitCount_0f7a4 9 = .ok (.istore_n 0, 1) := by decide +kernel
theorem dJ6_bitCount_0f7a4_10 : decode cJ6_bitCount_0f7a4 10 = .ok (.iload_n 0, 1) := by decide +kernel
theorem dJ6_bitCount_0f7a4_11 : decode cJ6_bitCount_0f7a4 11 = .ok (.ldc_w 266, 3) := by decide +kernel
theorem dJ6_bitCount_0f7a4_14 : decode cJ6_bitCount_0f7a4 14 = .ok (.iand, 1) := by decide +kernel
theorem dJ6_bitCount_0f7a4_15 : decode cJ6_bitCount_0f7a4 15 = .ok (.iload_n 0, 1) := by decide +kernel
theorem dJ6_bitCount_0f7a4_16 : decode cJ6_bitCount_0f7a4 16 = .ok (.iconst 2, 1) := by decide +kernel
theorem dJ6_bitCount_0f7a4_17 : decode cJ6_bitCount_0f7a4 17 = .ok (.iushr, 1) := by decide +kernel
theorem dJ6_bitCount_0f7a4_18 : decode cJ6_bitCount_0f7a4 18 = .ok (.ldc_w 266, 3) := by decide +kernel
theorem dJ6_bitCount_0f7a4_21 : decode cJ6_bitCount_0f7a4 21 = .ok (.iand, 1) := by decide +kernel
theorem dJ6_bitCount_0f7a4_22 : decode cJ6_bitCount_0f7a4 22 = .ok (.iadd, 1) := by decide +kernel
theorem dJ6_bitCount_0f7a4_23 : decode cJ6_bitCount_0f7a4 23 = .ok (.istore_n 0, 1) := by decide +kernel
theorem dJ6_bitCount_0f7a4_24 : decode cJ6_bitCount_0f7a4 24 = .ok (.iload_n 0, 1) := by decide +kernel
theorem dJ6_bitCount_0f7a4_25 : decode cJ6_bitCount_0f7a4 25 = .ok (.iload_n 0, 1) := by decide +kernel
theorem dJ6_bitCount_0f7a4_26 : decode cJ6_bitCount_0f7a4 26 = .ok (.iconst 4, 1) := by decide +kernel
theorem dJ6_bitCount_0f7a4_27 : decode cJ6_bitCount_0f7a4 27 = .ok (.iushr, 1) := by decide +kernel
theorem dJ6_bitCount_0f7a4_28 : decode cJ6_bitCount_0f7a4 28 = .ok (.iadd, 1) := by decide +kernel
theorem dJ6_bitCount_0f7a4_29 : decode cJ6_bitCount_0f7a4 29 = .ok (.ldc_w 267, 3) := by decide +kernel
theorem dJ6_bitCount_0f7a4_32 : decode cJ6_bitCount_0f7a4 32 = .ok (.iand, 1) := by decide +kernel
theorem dJ6_bitCount_0f7a4_33 : decode cJ6_bitCount_0f7a4 33 = .ok (.istore_n 0, 1) := by decide +kernel
theorem dJ6_bitCount_0f7a4_34 : decode cJ6_bitCount_0f7a4 34 = .ok (.iload_n 0, 1) := by decide +kernel
theorem dJ6_bitCount_0f7a4_35 : decode cJ6_bitCount_0f7a4 35 = .ok (.iload_n 0, 1) := by decide +kernel
theorem dJ6_bitCount_0f7a4_36 : decode cJ6_bitCount_0f7a4 36 = .ok (.bipush 8, 2) := by decide +kernel
theorem dJ6_bitCount_0f7a4_38 : decode cJ6_bitCount_0f7a4 38 = .ok (.iushr, 1) := by decide +kernel
theorem dJ6_bitCount_0f7a4_39 : decode cJ6_bitCount_0f7a4 39 = .ok (.iadd, 1) := by decide +kernel
theorem dJ6_bitCount_0f7a4_40 : decode cJ6_bitCount_0f7a4 40 = .ok (.istore_n 0, 1) := by decide +kernel
theorem dJ6_bitCount_0f7a4_41 : decode cJ6_bitCount_0f7a4 41 = .ok (.iload_n 0, 1) := by decide +kernel
theorem dJ6_bitCount_0f7a4_42 : decode cJ6_bitCount_0f7a4 42 = .ok (.iload_n 0, 1) := by decide +kernel
theorem dJ6_bitCount_0f7a4_43 : decode cJ6_bitCount_0f7a4 43 = .ok (.bipush 16, 2) := by decide +kernel
theorem dJ6_bitCount_0f7a4_45 : decode cJ6_bitCount_0f7a4 45 = .ok (.iushr, 1) := by decide +kernel
theorem dJ6_bitCount_0f7a4_46 : decode cJ6_bitCount_0f7a4 46 = .ok (.iadd, 1) := by decide +kernel
theorem dJ6_bitCount_0f7a4_47 : decode cJ6_bitCount_0f7a4 47 = .ok (.istore_n 0, 1) := by decide +kernel
theorem dJ6_bitCount_0f7a4_48 : decode cJ6_bitCount_0f7a4 48 = .ok (.iload_n 0, 1) := by decide +kernel
theorem dJ6_bitCount_0f7a4_49 : decode cJ6_bitCount_0f7a4 49 = .ok (.bipush 63, 2) := by decide +kernel
theorem dJ6_bitCount_0f7a4_51 : decode cJ6_bitCount_0f7a4 51 = .ok (.iand, 1) := by decide +kernel
theorem dJ6_bitCount_0f7a4_52 : decode cJ6_bitCount_0f7a4 52 = .ok (.ireturn, 1) := by decide +kernel
theorem dJ0_length_8abf5_0 : decode cJ0_length_8abf5 0 = .ok (.aload_n 0, 1) := by decide +kernel
theorem dJ0_length_8abf5_1 : decode cJ0_length_8abf5 1 = .ok (.getfield 9, 3) := by decide +kernel
theorem dJ0_length_8abf5_4 : decode cJ0_length_8abf5 4 = .ok (.arraylength, 1) := by decide +kernel
theorem dJ0_length_8abf5_5 : decode cJ0_length_8abf5 5 = .ok (.aload_n 0, 1) := by decide +kernel
theorem dJ0_length_8abf5_6 : decode cJ0_length_8abf5 6 = .ok (.invokevirtual 335, 3) := by decide +kernel
theorem dJ0_length_8abf5_9 : decode cJ0_length_8abf5 9 = .ok (.ishr, 1) := by decide +kernel
theorem dJ0_length_8abf5_10 : decode cJ0_length_8abf5 10 = .ok (.ireturn, 1) := by decide +kernel
theorem dJ0_charAt_5068e_0 : decode cJ0_charAt_5068e 0 = .ok (.aload_n 0, 1) := by decide +kernel
theorem dJ0_charAt_5068e_1 : decode cJ0_charAt_5068e 1 = .ok (.invokevirtual 492, 3) := by decide +kernel
theorem dJ0_charAt_5068e_4 : decode cJ0_charAt_5068e 4 = .ok (.ifCond .eq 12, 3) := by decide +kernel
theorem dJ0_charAt_5068e_7 : decode cJ0_charAt_5068e 7 = .ok (.aload_n 0, 1) := by decide +kernel
theorem dJ0_charAt_5068e_8 : decode cJ0_charAt_5068e 8 = .ok (.getfield 9, 3) := by decide +kernel
theorem dJ0_charAt_5068e_11 : decode cJ0_charAt_5068e 11 = .ok (.iload_n 1, 1) := by decide +kernel
theorem dJ0_charAt_5068e_12 : decode cJ0_charAt_5068e 12 = .ok (.invokestatic 495, 3) := by decide +kernel
theorem dJ0_charAt_5068e_15 : decode cJ0_charAt_5068e 15 = .ok (.ireturn, 1) := by decide +kernel
theorem dJ0_charAt_5068e_16 : decode cJ0_charAt_5068e 16 = .ok (.aload_n 0, 1) := by decide +kernel
theorem dJ0_charAt_5068e_17 : decode cJ0_charAt_5068e 17 = .ok (.getfield 9, 3) := by decide +kernel
theorem dJ0_charAt_5068e_20 : decode cJ0_charAt_5068e 20 = .ok (.iload_n 1, 1) := by decide +kernel
theorem dJ0_charAt_5068e_21 : decode cJ0_charAt_5068e 21 = .ok (.invokestatic 498, 3) := by decide +kernel
theorem dJ0_charAt_5068e_24 : decode cJ0_charAt_5068e 24 = .ok (.ireturn, 1) := by decide +kernel
theorem dJ0_coder_7d493_0 : decode cJ0_coder_7d493 0 = .ok (.getstatic 38, 3) := by decide +kernel
theorem dJ0_coder_7d493_3 : decode cJ0_coder_7d493 3 = .ok (.ifCond .eq 10, 3) := by decide +kernel
theorem dJ0_coder_7d493_6 : decode cJ0_coder_7d493 6 = .ok (.aload_n 0, 1) := by decide +kernel
theorem dJ0_coder_7d493_7 : decode cJ0_coder_7d493 7 = .ok (.getfield 15, 3) := by decide +kernel
theorem dJ0_coder_7d493_10 : decode cJ0_coder_7d493 10 = .ok (.goto 4, 3) := by decide +kernel
theorem dJ0_coder_7d493_13 : decode cJ0_coder_7d493 13 = .ok (.iconst 1, 1) := by decide +kernel
theorem dJ0_coder_7d493_14 : decode cJ0_coder_7d493 14 = .ok (.ireturn, 1) := by decide +kernel
theorem dJ0_isLatin1_aae02_0 : decode cJ0_isLatin1_aae02 0 = .ok (.getstatic 38, 3) := by decide +kernel
theorem dJ0_isLatin1_aae02_3 : decode cJ0_isLatin1_aae02 3 = .ok (.ifCond .eq 14, 3) := by decide +kernel
theorem dJ0_isLatin1_aae02_6 : decode cJ0_isLatin1_aae02 6 = .ok (.aload_n 0, 1) := by decide +kernel
theorem dJ0_isLatin1_aae02_7 : decode cJ0_isLatin1_aae02 7 = .ok (.getfield 15, 3) := by decide +kernel
theorem dJ0_isLatin1_aae02_10 : decode cJ0_isLatin1_aae02 10 = .ok (.ifCond .ne 7, 3) := by decide +kernel
theorem dJ0_isLatin1_aae02_13 : decode cJ0_isLatin1_aae02 13 = .ok (.iconst 1, 1) := by decide +kernel
theorem dJ0_isLatin1_aae02_14 : decode cJ0_isLatin1_aae02 14 = .ok (.goto 4, 3) := by decide +kernel
theorem dJ0_isLatin1_aae02_17 : decode cJ0_isLatin1_aae02 17 = .ok (.iconst 0, 1) := by decide +kernel
theorem dJ0_isLatin1_aae02_18 : decode cJ0_isLatin1_aae02 18 = .ok (.ireturn, 1) := by decide +kernel
theorem dJ0_checkIndex_df160_0 : decode cJ0_checkIndex_df160 0 = .ok (.iload_n 0, 1) := by decide +kernel
theorem dJ0_checkIndex_df160_1 : decode cJ0_checkIndex_df160 1 = .ok (.iload_n 1, 1) := by decide +kernel
theorem dJ0_checkIndex_df160_2 : decode cJ0_checkIndex_df160 2 = .ok (.getstatic 1053, 3) := by decide +kernel
theorem dJ0_checkIndex_df160_5 : decode cJ0_checkIndex_df160 5 = .ok (.invokestatic 1059, 3) := by decide +kernel
theorem dJ0_checkIndex_df160_8 : decode cJ0_checkIndex_df160 8 = .ok (.pop, 1) := by decide +kernel
theorem dJ0_checkIndex_df160_9 : decode cJ0_checkIndex_df160 9 = .ok (.return_, 1) := by decide +kernel
theorem dJ1_charAt_3b067_0 : decode cJ1_charAt_3b067 0 = .ok (.iload_n 1, 1) := by decide +kernel
theorem dJ1_charAt_3b067_1 : decode cJ1_charAt_3b067 1 = .ok (.aload_n 0, 1) := by decide +kernel
theorem dJ1_charAt_3b067_2 : decode cJ1_charAt_3b067 2 = .ok (.arraylength, 1) := by decide +kernel
theorem dJ1_charAt_3b067_3 : decode cJ1_charAt_3b067 3 = .ok (.invokestatic 9, 3) := by decide +kernel
theorem dJ1_charAt_3b067_6 : decode cJ1_charAt_3b067 6 = .ok (.aload_n 0, 1) := by decide +kernel
theorem dJ1_charAt_3b067_7 : decode cJ1_charAt_3b067 7 = .ok (.iload_n 1, 1) := by decide +kernel
theorem dJ1_charAt_3b067_8 : decode cJ1_charAt_3b067 8 = .ok (.baload, 1) := by decide +kernel
theorem dJ1_charAt_3b067_9 : decode cJ1_charAt_3b067 9 = .ok (.sipush 255, 3) := by decide +kernel
theorem dJ1_charAt_3b067_12 : decode cJ1_charAt_3b067 12 = .ok (.iand, 1) := by decide +kernel
theorem dJ1_charAt_3b067_13 : decode cJ1_charAt_3b067 13 = .ok (.i2c, 1) := by decide +kernel
theorem dJ1_charAt_3b067_14 : decode cJ1_charAt_3b067 14 = .ok (.ireturn, 1) := by decide +kernel
theorem dJ2_getChar_3b067_0 : decode cJ2_getChar_3b067 0 = .ok (.getstatic 44, 3) := by decide +kernel
theorem dJ2_getChar_3b067_3 : decode cJ2_getChar_3b067 3 = .ok (.ifCond .ne 25, 3) := by decide +kernel
theorem dJ2_getChar_3b067_6 : decode cJ2_getChar_3b067 6 = .ok (.iload_n 1, 1) := by decide +kernel
theorem dJ2_getChar_3b067_7 : decode cJ2_getChar_3b067 7 = .ok (.ifCond .lt 11, 3) := by decide +kernel
theorem dJ2_getChar_3b067_10 : decode cJ2_getChar_3b067 10 = .ok (.iload_n 1, 1) := by decide +kernel
theorem dJ2_getChar_3b067_11 : decode cJ2_getChar_3b067 11 = .ok (.aload_n 0, 1) := by decide +kernel
theorem dJ2_getChar_3b067_12 : decode cJ2_getChar_3b067 12 = .ok (.invokestatic 48, 3) := by decide +kernel
theorem dJ2_getChar_3b067_15 : decode cJ2_getChar_3b067 15 = .ok (.if_icmp .lt 13, 3) := by decide +kernel
theorem dJ2_getChar_3b067_18 : decode cJ2_getChar_3b067 18 = .ok (.new 52, 3) := by decide +kernel
theorem dJ2_getChar_3b067_21 : decode cJ2_getChar_3b067 21 = .ok (.dup, 1) := by decide +kernel
theorem dJ2_getChar_3b067_22 : decode cJ2_getChar_3b067 22 = .ok (.ldc 54, 2) := by decide +kernel
theorem dJ2_getChar_3b067_24 : decode cJ2_getChar_3b067 24 = .ok (.invokespecial 56, 3) := by decide +kernel
theorem dJ2_getChar_3b067_27 : decode cJ2_getChar_3b067 27 = .ok (.athrow, 1) := by decide +kernel
theorem dJ2_getChar_3b067_28 : decode cJ2_getChar_3b067 28 = .ok (.iload_n 1, 1) := by decide +kernel
theorem dJ2_getChar_3b067_29 : decode cJ2_getChar_3b067 29 = .ok (.iconst 1, 1) := by decide +kernel
theorem dJ2_getChar_3b067_30 : decode cJ2_getChar_3b067 30 = .ok (.ishl, 1) := by decide +kernel
theorem dJ2_getChar_3b067_31 : decode cJ2_getChar_3b067 31 = .ok (.istore_n 1, 1) := by decide +kernel
theorem dJ2_getChar_3b067_32 : decode cJ2_getChar_3b067 32 = .ok (.aload_n 0, 1) := by decide +kernel
theorem dJ2_getChar_3b067_33 : decode cJ2_getChar_3b067 33 = .ok (.iload_n 1, 1) := by decide +kernel
theorem dJ2_getChar_3b067_34 : decode cJ2_getChar_3b067 34 = .ok (.iinc 1 1, 3) := by decide +kernel
theorem dJ2_getChar_3b067_37 : decode cJ2_getChar_3b067 37 = .ok (.baload, 1) := by decide +kernel
theorem dJ2_getChar_3b067_38 : decode cJ2_getChar_3b067 38 = .ok (.sipush 255, 3) := by decide +kernel
theorem dJ2_getChar_3b067_41 : decode cJ2_getChar_3b067 41 = .ok (.iand, 1) := by decide +kernel
theorem dJ2_getChar_3b067_42 : decode cJ2_getChar_3b067 42 = .ok (.getstatic 59, 3) := by decide +kernel
theorem dJ2_getChar_3b067_45 : decode cJ2_getChar_3b067 45 = .ok (.ishl, 1) := by decide +kernel
theorem dJ2_getChar_3b067_46 : decode cJ2_getChar_3b067 46 = .ok (.aload_n 0, 1) := by decide +kernel
theorem dJ2_getChar_3b067_47 : decode cJ2_getChar_3b067 47 = .ok (.iload_n 1, 1) := by decide +kernel
theorem dJ2_getChar_3b067_48 : decode cJ2_getChar_3b067 48 = .ok (.baload, 1) := by decide +kernel
theorem dJ2_getChar_3b067_49 : decode cJ2_getChar_3b067 49 = .ok (.sipush 255, 3) := by decide +kernel
theorem dJ2_getChar_3b067_52 : decode cJ2_getChar_3b067 52 = .ok (.iand, 1) := by decide +kernel
theorem dJ2_getChar_3b067_53 : decode cJ2_getChar_3b067 53 = .ok (.getstatic 63, 3) := by decide +kernel
theorem dJ2_getChar_3b067_56 : decode cJ2_getChar_3b067 56 = .ok (.ishl, 1) := by decide +kernel
theorem dJ2_getChar_3b067_57 : decode cJ2_getChar_3b067 57 = .ok (.ior, 1) := by decide +kernel
theorem dJ2_getChar_3b067_58 : decode cJ2_getChar_3b067 58 = .ok (.i2c, 1) := by decide +kernel
theorem dJ2_getChar_3b067_59 : decode cJ2_getChar_3b067 59 = .ok (.ireturn, 1) := by decide +kernel
theorem dJ2_length_9d52b_0 : decode cJ2_length_9d52b 0 = .ok (.aload_n 0, 1) := by decide +kernel
theorem dJ2_length_9d52b_1 : decode cJ2_length_9d52b 1 = .ok (.arraylength, 1) := by decide +kernel
theorem dJ2_length_9d52b_2 : decode cJ2_length_9d52b 2 = .ok (.iconst 1, 1) := by decide +kernel
theorem dJ2_length_9d52b_3 : decode cJ2_length_9d52b 3 = .ok (.ishr, 1) := by decide +kernel
theorem dJ2_length_9d52b_4 : decode cJ2_length_9d52b 4 = .ok (.ireturn, 1) := by decide +kernel
theorem dJ2_charAt_3b067_0 : decode cJ2_charAt_3b067 0 = .ok (.iload_n 1, 1) := by decide +kernel
theorem dJ2_charAt_3b067_1 : decode cJ2_charAt_3b067 1 = .ok (.aload_n 0, 1) := by decide +kernel
theorem dJ2_charAt_3b067_2 : decode cJ2_charAt_3b067 2 = .ok (.invokestatic 67, 3) := by decide +kernel
theorem dJ2_charAt_3b067_5 : decode cJ2_charAt_3b067 5 = .ok (.aload_n 0, 1) := by decide +kernel
theorem dJ2_charAt_3b067_6 : decode cJ2_charAt_3b067 6 = .ok (.iload_n 1, 1) := by decide +kernel
theorem dJ2_charAt_3b067_7 : decode cJ2_charAt_3b067 7 = .ok (.invokestatic 71, 3) := by decide +kernel
theorem dJ2_charAt_3b067_10 : decode cJ2_charAt_3b067 10 = .ok (.ireturn, 1) := by decide +kernel
theorem dJ2_checkIndex_2214a_0 : decode cJ2_checkIndex_2214a 0 = .ok (.iload_n 0, 1) := by decide +kernel
theorem dJ2_checkIndex_2214a_1 : decode cJ2_checkIndex_2214a 1 = .ok (.aload_n 1, 1) := by decide +kernel
theorem dJ2_checkIndex_2214a_2 : decode cJ2_checkIndex_2214a 2 = .ok (.invokestatic 48, 3) := by decide +kernel
theorem dJ2_checkIndex_2214a_5 : decode cJ2_checkIndex_2214a 5 = .ok (.invokestatic 414, 3) := by decide +kernel
theorem dJ2_checkIndex_2214a_8 : decode cJ2_checkIndex_2214a 8 = .ok (.return_, 1) := by decide +kernel
theorem dJ3_checkIndex_8e157_0 : decode cJ3_checkIndex_8e157 0 = .ok (.iload_n 0, 1) := by decide +kernel
theorem dJ3_checkIndex_8e157_1 : decode cJ3_checkIndex_8e157 1 = .ok (.ifCond .lt 8, 3) := by decide +kernel
theorem dJ3_checkIndex_8e157_4 : decode cJ3_checkIndex_8e157 4 = .ok (.iload_n 0, 1) := by decide +kernel
theorem dJ3_checkIndex_8e157_5 : decode cJ3_checkIndex_8e157 5 = .ok (.iload_n 1, 1) := by decide +kernel
theorem dJ3_checkIndex_8e157_6 : decode cJ3_checkIndex_8e157 6 = .ok (.if_icmp .lt 10, 3) := by decide +kernel
theorem dJ3_checkIndex_8e157_9 : decode cJ3_checkIndex_8e157 9 = .ok (.aload_n 2, 1) := by decide +kernel
theorem dJ3_checkIndex_8e157_10 : decode cJ3_checkIndex_8e157 10 = .ok (.iload_n 0, 1) := by decide +kernel
theorem dJ3_checkIndex_8e157_11 : decode cJ3_checkIndex_8e157 11 = .ok (.iload_n 1, 1) := by decide +kernel
theorem dJ3_checkIndex_8e157_12 : decode cJ3_checkIndex_8e157 12 = .ok (.invokestatic 95, 3) := by decide +kernel
theorem dJ3_checkIndex_8e157_15 : decode cJ3_checkIndex_8e157 15 = .ok (.athrow, 1) := by decide +kernel
theorem dJ3_checkIndex_8e157_16 : decode cJ3_checkIndex_8e157 16 = .ok (.iload_n 0, 1) := by decide +kernel
theorem dJ3_checkIndex_8e157_17 : decode cJ3_checkIndex_8e157 17 = .ok (.ireturn, 1) := by decide +kernel
end
section
theorem dX8_init_0 : decode cX8_init 0 = .ok (.aload_n 0, 1) := by decide +kernel
theorem dX8_init_1 : decode cX8_init 1 = .ok (.invokespecial 3, 3) := by decide +kernel
theorem dX8_init_4 : decode cX8_init 4 = .ok (.aload_n 0, 1) := by decide +kernel
theorem dX8_init_5 : decode cX8_init 5 = .ok (.new 9, 3) := by decide +kernel
theorem dX8_init_8 : decode cX8_init 8 = .ok (.dup, 1) := by decide +kernel
theorem dX8_init_9 : decode cX8_init 9 = .ok (.invokespecial 11, 3) := by decide +kernel
theorem dX8_init_12 : decode cX8_init 12 = .ok (.putfield 12, 3) := by decide +kernel
theorem dX8_init_15 : decode cX8_init 15 = .ok (.aload_n 0, 1) := by decide +kernel
theorem dX8_init_16 : decode cX8_init 16 = .ok (.new 16, 3) := by decide +kernel
theorem dX8_init_19 : decode cX8_init 19 = .ok (.dup, 1) := by decide +kernel
theorem dX8_init_20 : decode cX8_init 20 = .ok (.invokespecial 18, 3) := by decide +kernel
theorem dX8_init_23 : decode cX8_init 23 = .ok (.putfield 19, 3) := by decide +kernel
theorem dX8_init_26 : decode cX8_init 26 = .ok (.aload_n 0, 1) := by decide +kernel
theorem dX8_init_27 : decode cX8_init 27 = .ok (.new 23, 3) := by decide +kernel
theorem dX8_init_30 : decode cX8_init 30 = .ok (.dup, 1) := by decide +kernel
theorem dX8_init_31 : decode cX8_init 31 = .ok (.invokespecial 25, 3) := by decide +kernel
theorem dX8_init_34 : decode cX8_init 34 = .ok (.putfield 26, 3) := by decide +kernel
theorem dX8_init_37 : decode cX8_init 37 = .ok (.aload_n 0, 1) := by decide +kernel
theorem dX8_init_38 : decode cX8_init 38 = .ok (.new 23, 3) := by decide +kernel
theorem dX8_init_41 : decode cX8_init 41 = .ok (.dup, 1) := by decide +kernel
theorem dX8_init_42 : decode cX8_init 42 = .ok (.invokespecial 25, 3) := by decide +kernel
theorem dX8_init_45 : decode cX8_init 45 = .ok (.putfield 30, 3) := by decide +kernel
theorem dX8_init_48 : decode cX8_init 48 = .ok (.aload_n 0, 1) := by decide +kernel
theorem dX8_init_49 : decode cX8_init 49 = .ok (.new 23, 3) := by decide +kernel
theorem dX8_init_52 : decode cX8_init 52 = .ok (.dup, 1) := by decide +kernel
theorem dX8_init_53 : decode cX8_init 53 = .ok (.invokespecial 25, 3) := by decide +kernel
theorem dX8_init_56 : decode cX8_init 56 = .ok (.putfield 33, 3) := by decide +kernel
theorem dX8_init_59 : decode cX8_init 59 = .ok (.aload_n 0, 1) := by decide +kernel
theorem dX8_init_60 : decode cX8_init 60 = .ok (.new 23, 3) := by decide +kernel
theorem dX8_init_63 : decode cX8_init 63 = .ok (.dup, 1) := by decide +kernel
theorem dX8_init_64 : decode cX8_init 64 = .ok (.invokespecial 25, 3) := by decide +kernel
theorem dX8_init_67 : decode cX8_init 67 = .ok (.putfield 36, 3) := by decide +kernel
theorem dX8_init_70 : decode cX8_init 70 = .ok (.aload_n 0, 1) := by decide +kernel
theorem dX8_init_71 : decode cX8_init 71 = .ok (.new 39, 3) := by decide +kernel
theorem dX8_init_74 : decode cX8_init 74 = .ok (.dup, 1) := by decide +kernel
theorem dX8_init_75 : decode cX8_init 75 = .ok (.invokespecial 41, 3) := by decide +kernel
theorem dX8_init_78 : decode cX8_init 78 = .ok (.putfield 42, 3) := by decide +kernel
theorem dX8_init_81 : decode cX8_init 81 = .ok (.aload_n 0, 1) := by decide +kernel
theorem dX8_init_82 : decode cX8_init 82 = .ok (.new 46, 3) := by decide +kernel
theorem dX8_init_85 : decode cX8_init 85 = .ok (.dup, 1) := by decide +kernel
theorem dX8_init_86 : decode cX8_init 86 = .ok (.invokespecial 48, 3) := by decide +kernel
theorem dX8_init_89 : decode cX8_init 89 = .ok (.putfield 49, 3) := by decide +kernel
theorem dX8_init_92 : decode cX8_init 92 = .ok (.aload_n 0, 1) := by decide +kernel
theorem dX8_init_93 : decode cX8_init 93 = .ok (.new 53, 3) := by decide +kernel
theorem dX8_init_96 : decode cX8_init 96 = .ok (.dup, 1) := by decide +kernel
theorem dX8_init_97 : decode cX8_init 97 = .ok (.invokespecial 55, 3) := by decide +kernel
theorem dX8_init_100 : decode cX8_init 100 = .ok (.putfield 56, 3) := by decide +kernel
theorem dX8_init_103 : decode cX8_init 103 = .ok (.aload_n 0, 1) := by decide +kernel
theorem dX8_init_104 : decode cX8_init 104 = .ok (.bipush 12, 2) := by decide +kernel
theorem dX8_init_106 : decode cX8_init 106 = .ok (.newarray .int, 2) := by decide +kernel
theorem dX8_init_108 : decode cX8_init 108 = .ok (.putfield 60, 3) := by decide +kernel
theorem dX8_init_111 : decode cX8_init 111 = .ok (.aload_n 0, 1) := by decide +kernel
theorem dX8_init_112 : decode cX8_init 112 = .ok (.getfield 12, 3) := by decide +kernel
theorem dX8_init_115 : decode cX8_init 115 = .ok (.ldc 64, 2) := by decide +kernel
theorem dX8_init_117 : decode cX8_init 117 = .ok (.invokevirtual 66, 3) := by decide +kernel
theorem dX8_init_120 : decode cX8_init 120 = .ok (.aload_n 0, 1) := by decide +kernel
theorem dX8_init_121 : decode cX8_init 121 = .ok (.getfield 19, 3) := by decide +kernel
theorem dX8_init_124 : decode cX8_init 124 = .ok (.aload_n 0, 1) := by decide +kernel
theorem dX8_init_125 : decode cX8_init 125 = .ok (.getfield 30, 3) := by decide +kernel
theorem dX8_init_128 : decode cX8_init 128 = .ok (.aload_n 0, 1) := by decide +kernel
theorem dX8_init_129 : decode cX8_init 129 = .ok (.getfield 12, 3) := by decide +kernel
theorem dX8_init_132 : decode cX8_init 132 = .ok (.invokevirtual 70, 3) := by decide +kernel
theorem dX8_init_135 : decode cX8_init 135 = .ok (.pop, 1) := by decide +kernel
theorem dX8_init_136 : decode cX8_init 136 = .ok (.aload_n 0, 1) := by decide +kernel
theorem dX8_init_137 : decode cX8_init 137 = .ok (.getfield 12, 3) := by decide +kernel
theorem dX8_init_140 : decode cX8_init 140 = .ok (.invokevirtual 74, 3) := by decide +kernel
theorem dX8_init_143 : decode cX8_init 143 = .ok (.return_, 1) := by decide +kernel
theorem dX8_write_0 : decode cX8_write 0 = .ok (.iload_n 1, 1) := by decide +kernel
theorem dX8_write_1 : decode cX8_write 1 = .ok (.iconst 1, 1) := by decide +kernel
theorem dX8_write_2 : decode cX8_write 2 = .ok (.if_icmp .lt 9, 3) := by decide +kernel
theorem dX8_write_5 : decode cX8_write 5 = .ok (.iload_n 1, 1) := by decide +kernel
theorem dX8_write_6 : decode cX8_write 6 = .ok (.bipush 8, 2) := by decide +kernel
theorem dX8_write_8 : decode cX8_write 8 = .ok (.if_icmp .le 5, 3) := by decide +kernel
theorem dX8_write_11 : decode cX8_write 11 = .ok (.iconst (-1), 1) := by decide +kernel
theorem dX8_write_12 : decode cX8_write 12 = .ok (.ireturn, 1) := by decide +kernel
theorem dX8_write_13 : decode cX8_write 13 = .ok (.aload_n 0, 1) := by decide +kernel
theorem dX8_write_14 : decode cX8_write 14 = .ok (.getfield 12, 3) := by decide +kernel
theorem dX8_write_17 : decode cX8_write 17 = .ok (.invokevirtual 77, 3) := by decide +kernel
theorem dX8_write_20 : decode cX8_write 20 = .ok (.iload_n 1, 1) := by decide +kernel
theorem dX8_write_21 : decode cX8_write 21 = .ok (.iadd, 1) := by decide +kernel
theorem dX8_write_22 : decode cX8_write 22 = .ok (.sipush 300, 3) := by decide +kernel
theorem dX8_write_25 : decode cX8_write 25 = .ok (.if_icmp .le 6, 3) := by decide +kernel
theorem dX8_write_28 : decode cX8_write 28 = .ok (.bipush (-3), 2) := by decide +kernel
theorem dX8_write_30 : decode cX8_write 30 = .ok (.ireturn, 1) := by decide +kernel
theorem dX8_write_31 : decode cX8_write 31 = .ok (.iload_n 1, 1) := by decide +kernel
theorem dX8_write_32 : decode cX8_write 32 = .ok (.iconst 1, 1) := by decide +kernel
theorem dX8_write_33 : decode cX8_write 33 = .ok (.isub, 1) := by decide +kernel
theorem dX8_write_34 : decode cX8_write 34 = .ok (.istore 4, 2) := by decide +kernel
theorem dX8_write_36 : decode cX8_write 36 = .ok (.iload 4, 2) := by decide +kernel
theorem dX8_write_38 : decode cX8_write 38 = .ok (.ifCond .lt 28, 3) := by decide +kernel
theorem dX8_write_41 : decode cX8_write 41 = .ok (.aload_n 0, 1) := by decide +kernel
theorem dX8_write_42 : decode cX8_write 42 = .ok (.getfield 12, 3) := by decide +kernel
theorem dX8_write_45 : decode cX8_write 45 = .ok (.lload_n 2, 1) := by decide +kernel
theorem dX8_write_46 : decode cX8_write 46 = .ok (.bipush 8, 2) := by decide +kernel
theorem dX8_write_48 : decode cX8_write 48 = .ok (.iload 4, 2) := by decide +kernel
theorem dX8_write_50 : decode cX8_write 50 = .ok (.imul, 1) := by decide +kernel
theorem dX8_write_51 : decode cX8_write 51 = .ok (.lshr, 1) := by decide +kernel
theorem dX8_write_52 : decode cX8_write 52 = .ok (.l2i, 1) := by decide +kernel
theorem dX8_write_53 : decode cX8_write 53 = .ok (.sipush 255, 3) := by decide +kernel
theorem dX8_write_56 : decode cX8_write 56 = .ok (.iand, 1) := by decide +kernel
theorem dX8_write_57 : decode cX8_write 57 = .ok (.invokevirtual 81, 3) := by decide +kernel
theorem dX8_write_60 : decode cX8_write 60 = .ok (.iinc 4 (-1), 3) := by decide +kernel
theorem dX8_write_63 : decode cX8_write 63 = .ok (.goto (-27), 3) := by decide +kernel
theorem dX8_write_66 : decode cX8_write 66 = .ok (.aload_n 0, 1) := by decide +kernel
theorem dX8_write_67 : decode cX8_write 67 = .ok (.getfield 12, 3) := by decide +kernel
theorem dX8_write_70 : decode cX8_write 70 = .ok (.invokevirtual 77, 3) := by decide +kernel
theorem dX8_write_73 : decode cX8_write 73 = .ok (.ireturn, 1) := by decide +kernel
theorem dX8_wipe_0 : decode cX8_wipe 0 = .ok (.aload_n 0, 1) := by decide +kernel
theorem dX8_wipe_1 : decode cX8_wipe 1 = .ok (.getfield 12, 3) := by decide +kernel
theorem dX8_wipe_4 : decode cX8_wipe 4 = .ok (.invokevirtual 77, 3) := by decide +kernel
theorem dX8_wipe_7 : decode cX8_wipe 7 = .ok (.istore_n 1, 1) := by decide +kernel
theorem dX8_wipe_8 : decode cX8_wipe 8 = .ok (.aload_n 0, 1) := by decide +kernel
theorem dX8_wipe_9 : decode cX8_wipe 9 = .ok (.getfield 12, 3) := by decide +kernel
theorem dX8_wipe_12 : decode cX8_wipe 12 = .ok (.invokevirtual 74, 3) := by decide +kernel
theorem dX8_wipe_15 : decode cX8_wipe 15 = .ok (.iload_n 1, 1) := by decide +kernel
theorem dX8_wipe_16 : decode cX8_wipe 16 = .ok (.ireturn, 1) := by decide +kernel
theorem dX8_fault_0 : decode cX8_fault 0 = .ok (.aload_n 0, 1) := by decide +kernel
theorem dX8_fault_1 : decode cX8_fault 1 = .ok (.getfield 19, 3) := by decide +kernel
theorem dX8_fault_4 : decode cX8_fault 4 = .ok (.aload_n 0, 1) := by decide +kernel
theorem dX8_fault_5 : decode cX8_fault 5 = .ok (.getfield 26, 3) := by decide +kernel
theorem dX8_fault_8 : decode cX8_fault 8 = .ok (.aload_n 0, 1) := by decide +kernel
theorem dX8_fault_9 : decode cX8_fault 9 = .ok (.getfield 12, 3) := by decide +kernel
theorem dX8_fault_12 : decode cX8_fault 12 = .ok (.invokevirtual 70, 3) := by decide +kernel
theorem dX8_fault_15 : decode cX8_fault 15 = .ok (.ireturn, 1) := by decide +kernel
theorem dX8_layFloor_0 : decode cX8_layFloor 0 = .ok (.aload_n 0, 1) := by decide +kernel
theorem dX8_layFloor_1 : decode cX8_layFloor 1 = .ok (.getfield 19, 3) := by decide +kernel
theorem dX8_layFloor_4 : decode cX8_layFloor 4 = .ok (.aload_n 0, 1) := by decide +kernel
theorem dX8_layFloor_5 : decode cX8_layFloor 5 = .ok (.getfield 26, 3) := by decide +kernel
theorem dX8_layFloor_8 : decode cX8_layFloor 8 = .ok (.aload_n 0, 1) := by decide +kernel
theorem dX8_layFloor_9 : decode cX8_layFloor 9 = .ok (.getfield 12, 3) := by decide +kernel
theorem dX8_layFloor_12 : decode cX8_layFloor 12 = .ok (.invokevirtual 70, 3) := by decide +kernel
theorem dX8_layFloor_15 : decode cX8_layFloor 15 = .ok (.bipush (-4), 2) := by decide +kernel
theorem dX8_layFloor_17 : decode cX8_layFloor 17 = .ok (.if_icmp .ne 13, 3) := by decide +kernel
theorem dX8_layFloor_20 : decode cX8_layFloor 20 = .ok (.aload_n 0, 1) := by decide +kernel
theorem dX8_layFloor_21 : decode cX8_layFloor 21 = .ok (.getfield 26, 3) := by decide +kernel
theorem dX8_layFloor_24 : decode cX8_layFloor 24 = .ok (.invokevirtual 85, 3) := by decide +kernel
theorem dX8_layFloor_27 : decode cX8_layFloor 27 = .ok (.ifCond .ne 6, 3) := by decide +kernel
theorem dX8_layFloor_30 : decode cX8_layFloor 30 = .ok (.bipush (-2), 2) := by decide +kernel
theorem dX8_layFloor_32 : decode cX8_layFloor 32 = .ok (.ireturn, 1) := by decide +kernel
theorem dX8_layFloor_33 : decode cX8_layFloor 33 = .ok (.aload_n 0, 1) := by decide +kernel
theorem dX8_layFloor_34 : decode cX8_layFloor 34 = .ok (.getfield 30, 3) := by decide +kernel
theorem dX8_layFloor_37 : decode cX8_layFloor 37 = .ok (.aload_n 0, 1) := by decide +kernel
theorem dX8_layFloor_38 : decode cX8_layFloor 38 = .ok (.getfield 26, 3) := by decide +kernel
theorem dX8_layFloor_41 : decode cX8_layFloor 41 = .ok (.invokevirtual 88, 3) := by decide +kernel
theorem dX8_layFloor_44 : decode cX8_layFloor 44 = .ok (.aload_n 0, 1) := by decide +kernel
theorem dX8_layFloor_45 : decode cX8_layFloor 45 = .ok (.iconst 0, 1) := by decide +kernel
theorem dX8_layFloor_46 : decode cX8_layFloor 46 = .ok (.putfield 92, 3) := by decide +kernel
theorem dX8_layFloor_49 : decode cX8_layFloor 49 = .ok (.aload_n 0, 1) := by decide +kernel
theorem dX8_layFloor_50 : decode cX8_layFloor 50 = .ok (.invokevirtual 96, 3) := by decide +kernel
theorem dX8_layFloor_53 : decode cX8_layFloor 53 = .ok (.aload_n 0, 1) := by decide +kernel
theorem dX8_layFloor_54 : decode cX8_layFloor 54 = .ok (.getfield 30, 3) := by decide +kernel
theorem dX8_layFloor_57 : decode cX8_layFloor 57 = .ok (.invokevirtual 99, 3) := by decide +kernel
theorem dX8_layFloor_60 : decode cX8_layFloor 60 = .ok (.ireturn, 1) := by decide +kernel
theorem dX8_stone_0 : decode cX8_stone 0 = .ok (.aload_n 0, 1) := by decide +kernel
theorem dX8_stone_1 : decode cX8_stone 1 = .ok (.iload_n 1, 1) := by decide +kernel
theorem dX8_stone_2 : decode cX8_stone 2 = .ok (.invokevirtual 102, 3) := by decide +kernel
theorem dX8_stone_5 : decode cX8_stone 5 = .ok (.ifCond .eq 12, 3) := by decide +kernel
theorem dX8_stone_8 : decode cX8_stone 8 = .ok (.iload_n 2, 1) := by decide +kernel
theorem dX8_stone_9 : decode cX8_stone 9 = .ok (.ifCond .lt 8, 3) := by decide +kernel
theorem dX8_stone_12 : decode cX8_stone 12 = .ok (.iload_n 2, 1) := by decide +kernel
theorem dX8_stone_13 : decode cX8_stone 13 = .ok (.iconst 4, 1) := by decide +kernel
theorem dX8_stone_14 : decode cX8_stone 14 = .ok (.if_icmp .le 5, 3) := by decide +kernel
theorem dX8_stone_17 : decode cX8_stone 17 = .ok (.iconst (-1), 1) := by decide +kernel
theorem dX8_stone_18 : decode cX8_stone 18 = .ok (.ireturn, 1) := by decide +kernel
theorem dX8_stone_19 : decode cX8_stone 19 = .ok (.iload_n 2, 1) := by decide +kernel
theorem dX8_stone_20 : decode cX8_stone 20 = .ok (.tableswitch 77 0 3 #[32, 44, 56, 68], 32) := by decide +kernel
theorem dX8_stone_52 : decode cX8_stone 52 = .ok (.aload_n 0, 1) := by decide +kernel
theorem dX8_stone_53 : decode cX8_stone 53 = .ok (.getfield 30, 3) := by decide +kernel
theorem dX8_stone_56 : decode cX8_stone 56 = .ok (.invokevirtual 106, 3) := by decide +kernel
theorem dX8_stone_59 : decode cX8_stone 59 = .ok (.iload_n 1, 1) := by decide +kernel
theorem dX8_stone_60 : decode cX8_stone 60 = .ok (.invokestatic 109, 3) := by decide +kernel
theorem dX8_stone_63 : decode cX8_stone 63 = .ok (.ireturn, 1) := by decide +kernel
theorem dX8_stone_64 : decode cX8_stone 64 = .ok (.aload_n 0, 1) := by decide +kernel
theorem dX8_stone_65 : decode cX8_stone 65 = .ok (.getfield 30, 3) := by decide +kernel
theorem dX8_stone_68 : decode cX8_stone 68 = .ok (.invokevirtual 113, 3) := by decide +kernel
theorem dX8_stone_71 : decode cX8_stone 71 = .ok (.iload_n 1, 1) := by decide +kernel
theorem dX8_stone_72 : decode cX8_stone 72 = .ok (.invokestatic 109, 3) := by decide +kernel
theorem dX8_stone_75 : decode cX8_stone 75 = .ok (.ireturn, 1) := by decide +kernel
theorem dX8_stone_76 : decode cX8_stone 76 = .ok (.aload_n 0, 1) := by decide +kernel
theorem dX8_stone_77 : decode cX8_stone 77 = .ok (.getfield 30, 3) := by decide +kernel
theorem dX8_stone_80 : decode cX8_stone 80 = .ok (.invokevirtual 116, 3) := by decide +kernel
theorem dX8_stone_83 : decode cX8_stone 83 = .ok (.iload_n 1, 1) := by decide +kernel
theorem dX8_stone_84 : decode cX8_stone 84 = .ok (.invokestatic 109, 3) := by decide +kernel
theorem dX8_stone_87 : decode cX8_stone 87 = .ok (.ireturn, 1) := by decide +kernel
theorem dX8_stone_88 : decode cX8_stone 88 = .ok (.aload_n 0, 1) := by decide +kernel
theorem dX8_stone_89 : decode cX8_stone 89 = .ok (.getfield 30, 3) := by decide +kernel
theorem dX8_stone_92 : decode cX8_stone 92 = .ok (.iload_n 1, 1) := by decide +kernel
theorem dX8_stone_93 : decode cX8_stone 93 = .ok (.invokevirtual 119, 3) := by decide +kernel
theorem dX8_stone_96 : decode cX8_stone 96 = .ok (.ireturn, 1) := by decide +kernel
theorem dX8_stone_97 : decode cX8_stone 97 = .ok (.aload_n 0, 1) := by decide +kernel
theorem dX8_stone_98 : decode cX8_stone 98 = .ok (.getfield 30, 3) := by decide +kernel
theorem dX8_stone_101 : decode cX8_stone 101 = .ok (.iload_n 1, 1) := by decide +kernel
theorem dX8_stone_102 : decode cX8_stone 102 = .ok (.invokevirtual 123, 3) := by decide +kernel
theorem dX8_stone_105 : decode cX8_stone 105 = .ok (.ireturn, 1) := by decide +kernel
theorem dX8_step_0 : decode cX8_step 0 = .ok (.aload_n 0, 1) := by decide +kernel
theorem dX8_step_1 : decode cX8_step 1 = .ok (.iload_n 1, 1) := by decide +kernel
theorem dX8_step_2 : decode cX8_step 2 = .ok (.invokevirtual 126, 3) := by decide +kernel
theorem dX8_step_5 : decode cX8_step 5 = .ok (.ifCond .eq 12, 3) := by decide +kernel
theorem dX8_step_8 : decode cX8_step 8 = .ok (.iload_n 2, 1) := by decide +kernel
theorem dX8_step_9 : decode cX8_step 9 = .ok (.ifCond .lt 8, 3) := by decide +kernel
theorem dX8_step_12 : decode cX8_step 12 = .ok (.iload_n 2, 1) := by decide +kernel
theorem dX8_step_13 : decode cX8_step 13 = .ok (.iconst 3, 1) := by decide +kernel
theorem dX8_step_14 : decode cX8_step 14 = .ok (.if_icmp .le 5, 3) := by decide +kernel
theorem dX8_step_17 : decode cX8_step 17 = .ok (.iconst (-1), 1) := by decide +kernel
theorem dX8_step_18 : decode cX8_step 18 = .ok (.ireturn, 1) := by decide +kernel
theorem dX8_step_19 : decode cX8_step 19 = .ok (.iload_n 2, 1) := by decide +kernel
theorem dX8_step_20 : decode cX8_step 20 = .ok (.tableswitch 55 0 2 #[28, 37, 46], 28) := by decide +kernel
theorem dX8_step_48 : decode cX8_step 48 = .ok (.aload_n 0, 1) := by decide +kernel
theorem dX8_step_49 : decode cX8_step 49 = .ok (.getfield 30, 3) := by decide +kernel
theorem dX8_step_52 : decode cX8_step 52 = .ok (.iload_n 1, 1) := by decide +kernel
theorem dX8_step_53 : decode cX8_step 53 = .ok (.invokevirtual 129, 3) := by decide +kernel
theorem dX8_step_56 : decode cX8_step 56 = .ok (.ireturn, 1) := by decide +kernel
theorem dX8_step_57 : decode cX8_step 57 = .ok (.aload_n 0, 1) := by decide +kernel
theorem dX8_step_58 : decode cX8_step 58 = .ok (.getfield 30, 3) := by decide +kernel
theorem dX8_step_61 : decode cX8_step 61 = .ok (.iload_n 1, 1) := by decide +kernel
theorem dX8_step_62 : decode cX8_step 62 = .ok (.invokevirtual 132, 3) := by decide +kernel
theorem dX8_step_65 : decode cX8_step 65 = .ok (.ireturn, 1) := by decide +kernel
theorem dX8_step_66 : decode cX8_step 66 = .ok (.aload_n 0, 1) := by decide +kernel
theorem dX8_step_67 : decode cX8_step 67 = .ok (.getfield 30, 3) := by decide +kernel
theorem dX8_step_70 : decode cX8_step 70 = .ok (.iload_n 1, 1) := by decide +kernel
theorem dX8_step_71 : decode cX8_step 71 = .ok (.invokevirtual 135, 3) := by decide +kernel
theorem dX8_step_74 : decode cX8_step 74 = .ok (.ireturn, 1) := by decide +kernel
theorem dX8_step_75 : decode cX8_step 75 = .ok (.aload_n 0, 1) := by decide +kernel
theorem dX8_step_76 : decode cX8_step 76 = .ok (.getfield 30, 3) := by decide +kernel
theorem dX8_step_79 : decode cX8_step 79 = .ok (.iload_n 1, 1) := by decide +kernel
theorem dX8_step_80 : decode cX8_step 80 = .ok (.invokevirtual 138, 3) := by decide +kernel
theorem dX8_step_83 : decode cX8_step 83 = .ok (.ifCond .eq 7, 3) := by decide +kernel
theorem dX8_step_86 : decode cX8_step 86 = .ok (.iconst 1, 1) := by decide +kernel
theorem dX8_step_87 : decode cX8_step 87 = .ok (.goto 4, 3) := by decide +kernel
theorem dX8_step_90 : decode cX8_step 90 = .ok (.iconst 0, 1) := by decide +kernel
theorem dX8_step_91 : decode cX8_step 91 = .ok (.ireturn, 1) := by decide +kernel
theorem dX8_go_0 : decode cX8_go 0 = .ok (.aload_n 0, 1) := by decide +kernel
theorem dX8_go_1 : decode cX8_go 1 = .ok (.iload_n 1, 1) := by decide +kernel
theorem dX8_go_2 : decode cX8_go 2 = .ok (.invokevirtual 126, 3) := by decide +kernel
theorem dX8_go_5 : decode cX8_go 5 = .ok (.ifCond .ne 5, 3) := by decide +kernel
theorem dX8_go_8 : decode cX8_go 8 = .ok (.iconst (-1), 1) := by decide +kernel
theorem dX8_go_9 : decode cX8_go 9 = .ok (.ireturn, 1) := by decide +kernel
theorem dX8_go_10 : decode cX8_go 10 = .ok (.aload_n 0, 1) := by decide +kernel
theorem dX8_go_11 : decode cX8_go 11 = .ok (.getfield 30, 3) := by decide +kernel
theorem dX8_go_14 : decode cX8_go 14 = .ok (.iload_n 1, 1) := by decide +kernel
theorem dX8_go_15 : decode cX8_go 15 = .ok (.invokevirtual 138, 3) := by decide +kernel
theorem dX8_go_18 : decode cX8_go 18 = .ok (.ifCond .ne 6, 3) := by decide +kernel
theorem dX8_go_21 : decode cX8_go 21 = .ok (.bipush (-2), 2) := by decide +kernel
theorem dX8_go_23 : decode cX8_go 23 = .ok (.ireturn, 1) := by decide +kernel
theorem dX8_go_24 : decode cX8_go 24 = .ok (.aload_n 0, 1) := by decide +kernel
theorem dX8_go_25 : decode cX8_go 25 = .ok (.getfield 30, 3) := by decide +kernel
theorem dX8_go_28 : decode cX8_go 28 = .ok (.iload_n 1, 1) := by decide +kernel
theorem dX8_go_29 : decode cX8_go 29 = .ok (.invokevirtual 141, 3) := by decide +kernel
theorem dX8_go_32 : decode cX8_go 32 = .ok (.aload_n 0, 1) := by decide +kernel
theorem dX8_go_33 : decode cX8_go 33 = .ok (.getfield 42, 3) := by decide +kernel
theorem dX8_go_36 : decode cX8_go 36 = .ok (.aload_n 0, 1) := by decide +kernel
theorem dX8_go_37 : decode cX8_go 37 = .ok (.getfield 30, 3) := by decide +kernel
theorem dX8_go_40 : decode cX8_go 40 = .ok (.iload_n 1, 1) := by decide +kernel
theorem dX8_go_41 : decode cX8_go 41 = .ok (.invokevirtual 135, 3) := by decide +kernel
theorem dX8_go_44 : decode cX8_go 44 = .ok (.invokevirtual 144, 3) := by decide +kernel
theorem dX8_go_47 : decode cX8_go 47 = .ok (.aload_n 0, 1) := by decide +kernel
theorem dX8_go_48 : decode cX8_go 48 = .ok (.getfield 30, 3) := by decide +kernel
theorem dX8_go_51 : decode cX8_go 51 = .ok (.invokevirtual 113, 3) := by decide +kernel
theorem dX8_go_54 : decode cX8_go 54 = .ok (.invokestatic 147, 3) := by decide +kernel
theorem dX8_go_57 : decode cX8_go 57 = .ok (.ireturn, 1) := by decide +kernel
theorem dX8_takeOut_0 : decode cX8_takeOut 0 = .ok (.aload_n 0, 1) := by decide +kernel
theorem dX8_takeOut_1 : decode cX8_takeOut 1 = .ok (.iload_n 1, 1) := by decide +kernel
theorem dX8_takeOut_2 : decode cX8_takeOut 2 = .ok (.invokevirtual 102, 3) := by decide +kernel
theorem dX8_takeOut_5 : decode cX8_takeOut 5 = .ok (.ifCond .ne 5, 3) := by decide +kernel
theorem dX8_takeOut_8 : decode cX8_takeOut 8 = .ok (.iconst (-1), 1) := by decide +kernel
theorem dX8_takeOut_9 : decode cX8_takeOut 9 = .ok (.ireturn, 1) := by decide +kernel
theorem dX8_takeOut_10 : decode cX8_takeOut 10 = .ok (.aload_n 0, 1) := by decide +kernel
theorem dX8_takeOut_11 : decode cX8_takeOut 11 = .ok (.getfield 30, 3) := by decide +kernel
theorem dX8_takeOut_14 : decode cX8_takeOut 14 = .ok (.iload_n 1, 1) := by decide +kernel
theorem dX8_takeOut_15 : decode cX8_takeOut 15 = .ok (.invokevirtual 152, 3) := by decide +kernel
theorem dX8_takeOut_18 : decode cX8_takeOut 18 = .ok (.ifCond .ne 6, 3) := by decide +kernel
theorem dX8_takeOut_21 : decode cX8_takeOut 21 = .ok (.bipush (-2), 2) := by decide +kernel
theorem dX8_takeOut_23 : decode cX8_takeOut 23 = .ok (.ireturn, 1) := by decide +kernel
theorem dX8_takeOut_24 : decode cX8_takeOut 24 = .ok (.aload_n 0, 1) := by decide +kernel
theorem dX8_takeOut_25 : decode cX8_takeOut 25 = .ok (.getfield 42, 3) := by decide +kernel
theorem dX8_takeOut_28 : decode cX8_takeOut 28 = .ok (.iload_n 1, 1) := by decide +kernel
theorem dX8_takeOut_29 : decode cX8_takeOut 29 = .ok (.aload_n 0, 1) := by decide +kernel
theorem dX8_takeOut_30 : decode cX8_takeOut 30 = .ok (.getfield 30, 3) := by decide +kernel
theorem dX8_takeOut_33 : decode cX8_takeOut 33 = .ok (.invokevirtual 113, 3) := by decide +kernel
theorem dX8_takeOut_36 : decode cX8_takeOut 36 = .ok (.iload_n 1, 1) := by decide +kernel
theorem dX8_takeOut_37 : decode cX8_takeOut 37 = .ok (.invokestatic 109, 3) := by decide +kernel
theorem dX8_takeOut_40 : decode cX8_takeOut 40 = .ok (.iconst 1, 1) := by decide +kernel
theorem dX8_takeOut_41 : decode cX8_takeOut 41 = .ok (.if_icmp .ne 7, 3) := by decide +kernel
theorem dX8_takeOut_44 : decode cX8_takeOut 44 = .ok (.iconst 1, 1) := by decide +kernel
theorem dX8_takeOut_45 : decode cX8_takeOut 45 = .ok (.goto 4, 3) := by decide +kernel
theorem dX8_takeOut_48 : decode cX8_takeOut 48 = .ok (.iconst 0, 1) := by decide +kernel
theorem dX8_takeOut_49 : decode cX8_takeOut 49 = .ok (.invokevirtual 155, 3) := by decide +kernel
theorem dX8_takeOut_52 : decode cX8_takeOut 52 = .ok (.aload_n 0, 1) := by decide +kernel
theorem dX8_takeOut_53 : decode cX8_takeOut 53 = .ok (.getfield 30, 3) := by decide +kernel
theorem dX8_takeOut_56 : decode cX8_takeOut 56 = .ok (.iload_n 1, 1) := by decide +kernel
theorem dX8_takeOut_57 : decode cX8_takeOut 57 = .ok (.invokevirtual 159, 3) := by decide +kernel
theorem dX8_takeOut_60 : decode cX8_takeOut 60 = .ok (.aload_n 0, 1) := by decide +kernel
theorem dX8_takeOut_61 : decode cX8_takeOut 61 = .ok (.getfield 30, 3) := by decide +kernel
theorem dX8_takeOut_64 : decode cX8_takeOut 64 = .ok (.invokevirtual 106, 3) := by decide +kernel
theorem dX8_takeOut_67 : decode cX8_takeOut 67 = .ok (.invokestatic 147, 3) := by decide +kernel
theorem dX8_takeOut_70 : decode cX8_takeOut 70 = .ok (.ireturn, 1) := by decide +kernel
theorem dX8_lay_0 : decode cX8_lay 0 = .ok (.aload_n 0, 1) := by decide +kernel
theorem dX8_lay_1 : decode cX8_lay 1 = .ok (.getfield 30, 3) := by decide +kernel
theorem dX8_lay_4 : decode cX8_lay 4 = .ok (.iload_n 1, 1) := by decide +kernel
theorem dX8_lay_5 : decode cX8_lay 5 = .ok (.iload_n 2, 1) := by decide +kernel
theorem dX8_lay_6 : decode cX8_lay 6 = .ok (.iload_n 3, 1) := by decide +kernel
theorem dX8_lay_7 : decode cX8_lay 7 = .ok (.invokevirtual 162, 3) := by decide +kernel
theorem dX8_lay_10 : decode cX8_lay 10 = .ok (.ifCond .ne 5, 3) := by decide +kernel
theorem dX8_lay_13 : decode cX8_lay 13 = .ok (.iconst (-1), 1) := by decide +kernel
theorem dX8_lay_14 : decode cX8_lay 14 = .ok (.ireturn, 1) := by decide +kernel
theorem dX8_lay_15 : decode cX8_lay 15 = .ok (.aload_n 0, 1) := by decide +kernel
theorem dX8_lay_16 : decode cX8_lay 16 = .ok (.getfield 30, 3) := by decide +kernel
theorem dX8_lay_19 : decode cX8_lay 19 = .ok (.invokevirtual 85, 3) := by decide +kernel
theorem dX8_lay_22 : decode cX8_lay 22 = .ok (.bipush 10, 2) := by decide +kernel
theorem dX8_lay_24 : decode cX8_lay 24 = .ok (.if_icmp .lt 6, 3) := by decide +kernel
theorem dX8_lay_27 : decode cX8_lay 27 = .ok (.bipush (-3), 2) := by decide +kernel
theorem dX8_lay_29 : decode cX8_lay 29 = .ok (.ireturn, 1) := by decide +kernel
theorem dX8_lay_30 : decode cX8_lay 30 = .ok (.aload_n 0, 1) := by decide +kernel
theorem dX8_lay_31 : decode cX8_lay 31 = .ok (.getfield 30, 3) := by decide +kernel
theorem dX8_lay_34 : decode cX8_lay 34 = .ok (.iload_n 1, 1) := by decide +kernel
theorem dX8_lay_35 : decode cX8_lay 35 = .ok (.iload_n 2, 1) := by decide +kernel
theorem dX8_lay_36 : decode cX8_lay 36 = .ok (.iload_n 3, 1) := by decide +kernel
theorem dX8_lay_37 : decode cX8_lay 37 = .ok (.invokevirtual 166, 3) := by decide +kernel
theorem dX8_lay_40 : decode cX8_lay 40 = .ok (.pop, 1) := by decide +kernel
theorem dX8_lay_41 : decode cX8_lay 41 = .ok (.aload_n 0, 1) := by decide +kernel
theorem dX8_lay_42 : decode cX8_lay 42 = .ok (.getfield 42, 3) := by decide +kernel
theorem dX8_lay_45 : decode cX8_lay 45 = .ok (.invokevirtual 169, 3) := by decide +kernel
theorem dX8_lay_48 : decode cX8_lay 48 = .ok (.aload_n 0, 1) := by decide +kernel
theorem dX8_lay_49 : decode cX8_lay 49 = .ok (.getfield 30, 3) := by decide +kernel
theorem dX8_lay_52 : decode cX8_lay 52 = .ok (.invokevirtual 85, 3) := by decide +kernel
theorem dX8_lay_55 : decode cX8_lay 55 = .ok (.iconst 1, 1) := by decide +kernel
theorem dX8_lay_56 : decode cX8_lay 56 = .ok (.isub, 1) := by decide +kernel
theorem dX8_lay_57 : decode cX8_lay 57 = .ok (.ireturn, 1) := by decide +kernel
theorem dX8_undo_0 : decode cX8_undo 0 = .ok (.aload_n 0, 1) := by decide +kernel
theorem dX8_undo_1 : decode cX8_undo 1 = .ok (.getfield 42, 3) := by decide +kernel
theorem dX8_undo_4 : decode cX8_undo 4 = .ok (.invokevirtual 172, 3) := by decide +kernel
theorem dX8_undo_7 : decode cX8_undo 7 = .ok (.ifCond .ne 6, 3) := by decide +kernel
theorem dX8_undo_10 : decode cX8_undo 10 = .ok (.bipush (-2), 2) := by decide +kernel
theorem dX8_undo_12 : decode cX8_undo 12 = .ok (.ireturn, 1) := by decide +kernel
theorem dX8_undo_13 : decode cX8_undo 13 = .ok (.aload_n 0, 1) := by decide +kernel
theorem dX8_undo_14 : decode cX8_undo 14 = .ok (.getfield 42, 3) := by decide +kernel
theorem dX8_undo_17 : decode cX8_undo 17 = .ok (.aload_n 0, 1) := by decide +kernel
theorem dX8_undo_18 : decode cX8_undo 18 = .ok (.getfield 30, 3) := by decide +kernel
theorem dX8_undo_21 : decode cX8_undo 21 = .ok (.invokevirtual 173, 3) := by decide +kernel
theorem dX8_undo_24 : decode cX8_undo 24 = .ok (.aload_n 0, 1) := by decide +kernel
theorem dX8_undo_25 : decode cX8_undo 25 = .ok (.iconst 0, 1) := by decide +kernel
theorem dX8_undo_26 : decode cX8_undo 26 = .ok (.putfield 176, 3) := by decide +kernel
theorem dX8_undo_29 : decode cX8_undo 29 = .ok (.aload_n 0, 1) := by decide +kernel
theorem dX8_undo_30 : decode cX8_undo 30 = .ok (.getfield 42, 3) := by decide +kernel
theorem dX8_undo_33 : decode cX8_undo 33 = .ok (.invokevirtual 172, 3) := by decide +kernel
theorem dX8_undo_36 : decode cX8_undo 36 = .ok (.ireturn, 1) := by decide +kernel
theorem dX8_reach_0 : decode cX8_reach 0 = .ok (.aload_n 0, 1) := by decide +kernel
theorem dX8_reach_1 : decode cX8_reach 1 = .ok (.iload_n 1, 1) := by decide +kernel
theorem dX8_reach_2 : decode cX8_reach 2 = .ok (.invokevirtual 179, 3) := by decide +kernel
theorem dX8_reach_5 : decode cX8_reach 5 = .ok (.ifCond .ne 5, 3) := by decide +kernel
theorem dX8_reach_8 : decode cX8_reach 8 = .ok (.iconst (-1), 1) := by decide +kernel
theorem dX8_reach_9 : decode cX8_reach 9 = .ok (.ireturn, 1) := by decide +kernel
theorem dX8_reach_10 : decode cX8_reach 10 = .ok (.aload_n 0, 1) := by decide +kernel
theorem dX8_reach_11 : decode cX8_reach 11 = .ok (.getfield 30, 3) := by decide +kernel
theorem dX8_reach_14 : decode cX8_reach 14 = .ok (.iload_n 1, 1) := by decide +kernel
theorem dX8_reach_15 : decode cX8_reach 15 = .ok (.invokevirtual 182, 3) := by decide +kernel
theorem dX8_reach_18 : decode cX8_reach 18 = .ok (.ireturn, 1) := by decide +kernel
theorem dX8_walk_0 : decode cX8_walk 0 = .ok (.aload_n 0, 1) := by decide +kernel
theorem dX8_walk_1 : decode cX8_walk 1 = .ok (.iload_n 1, 1) := by decide +kernel
theorem dX8_walk_2 : decode cX8_walk 2 = .ok (.invokevirtual 102, 3) := by decide +kernel
theorem dX8_walk_5 : decode cX8_walk 5 = .ok (.ifCond .eq 12, 3) := by decide +kernel
theorem dX8_walk_8 : decode cX8_walk 8 = .ok (.iload_n 2, 1) := by decide +kernel
theorem dX8_walk_9 : decode cX8_walk 9 = .ok (.ifCond .lt 8, 3) := by decide +kernel
theorem dX8_walk_12 : decode cX8_walk 12 = .ok (.iload_n 2, 1) := by decide +kernel
theorem dX8_walk_13 : decode cX8_walk 13 = .ok (.iconst 2, 1) := by decide +kernel
theorem dX8_walk_14 : decode cX8_walk 14 = .ok (.if_icmp .le 7, 3) := by decide +kernel
theorem dX8_walk_17 : decode cX8_walk 17 = .ok (.ldc2_w 185, 3) := by decide +kernel
theorem dX8_walk_20 : decode cX8_walk 20 = .ok (.lreturn, 1) := by decide +kernel
theorem dX8_walk_21 : decode cX8_walk 21 = .ok (.aload_n 0, 1) := by decide +kernel
theorem dX8_walk_22 : decode cX8_walk 22 = .ok (.getfield 49, 3) := by decide +kernel
theorem dX8_walk_25 : decode cX8_walk 25 = .ok (.aload_n 0, 1) := by decide +kernel
theorem dX8_walk_26 : decode cX8_walk 26 = .ok (.getfield 30, 3) := by decide +kernel
theorem dX8_walk_29 : decode cX8_walk 29 = .ok (.iload_n 1, 1) := by decide +kernel
theorem dX8_walk_30 : decode cX8_walk 30 = .ok (.invokevirtual 187, 3) := by decide +kernel
theorem dX8_walk_33 : decode cX8_walk 33 = .ok (.iload_n 2, 1) := by decide +kernel
theorem dX8_walk_34 : decode cX8_walk 34 = .ok (.lookupswitch 52 #[(0, 26), (1, 39)], 26) := by decide +kernel
theorem dX8_walk_60 : decode cX8_walk 60 = .ok (.aload_n 0, 1) := by decide +kernel
theorem dX8_walk_61 : decode cX8_walk 61 = .ok (.getfield 49, 3) := by decide +kernel
theorem dX8_walk_64 : decode cX8_walk 64 = .ok (.aload_n 0, 1) := by decide +kernel
theorem dX8_walk_65 : decode cX8_walk 65 = .ok (.getfield 30, 3) := by decide +kernel
theorem dX8_walk_68 : decode cX8_walk 68 = .ok (.invokevirtual 191, 3) := by decide +kernel
theorem dX8_walk_71 : decode cX8_walk 71 = .ok (.i2l, 1) := by decide +kernel
theorem dX8_walk_72 : decode cX8_walk 72 = .ok (.lreturn, 1) := by decide +kernel
theorem dX8_walk_73 : decode cX8_walk 73 = .ok (.aload_n 0, 1) := by decide +kernel
theorem dX8_walk_74 : decode cX8_walk 74 = .ok (.getfield 49, 3) := by decide +kernel
theorem dX8_walk_77 : decode cX8_walk 77 = .ok (.aload_n 0, 1) := by decide +kernel
theorem dX8_walk_78 : decode cX8_walk 78 = .ok (.getfield 30, 3) := by decide +kernel
theorem dX8_walk_81 : decode cX8_walk 81 = .ok (.invokevirtual 195, 3) := by decide +kernel
theorem dX8_walk_84 : decode cX8_walk 84 = .ok (.i2l, 1) := by decide +kernel
theorem dX8_walk_85 : decode cX8_walk 85 = .ok (.lreturn, 1) := by decide +kernel
theorem dX8_walk_86 : decode cX8_walk 86 = .ok (.aload_n 0, 1) := by decide +kernel
theorem dX8_walk_87 : decode cX8_walk 87 = .ok (.getfield 49, 3) := by decide +kernel
theorem dX8_walk_90 : decode cX8_walk 90 = .ok (.aload_n 0, 1) := by decide +kernel
theorem dX8_walk_91 : decode cX8_walk 91 = .ok (.getfield 30, 3) := by decide +kernel
theorem dX8_walk_94 : decode cX8_walk 94 = .ok (.invokevirtual 198, 3) := by decide +kernel
theorem dX8_walk_97 : decode cX8_walk 97 = .ok (.i2l, 1) := by decide +kernel
theorem dX8_walk_98 : decode cX8_walk 98 = .ok (.lreturn, 1) := by decide +kernel
theorem dX8_round_0 : decode cX8_round 0 = .ok (.aload_n 0, 1) := by decide +kernel
theorem dX8_round_1 : decode cX8_round 1 = .ok (.iload_n 1, 1) := by decide +kernel
theorem dX8_round_2 : decode cX8_round 2 = .ok (.invokevirtual 102, 3) := by decide +kernel
theorem dX8_round_5 : decode cX8_round 5 = .ok (.ifCond .ne 5, 3) := by decide +kernel
theorem dX8_round_8 : decode cX8_round 8 = .ok (.iconst (-1), 1) := by decide +kernel
theorem dX8_round_9 : decode cX8_round 9 = .ok (.ireturn, 1) := by decide +kernel
theorem dX8_round_10 : decode cX8_round 10 = .ok (.aload_n 0, 1) := by decide +kernel
theorem dX8_round_11 : decode cX8_round 11 = .ok (.getfield 30, 3) := by decide +kernel
theorem dX8_round_14 : decode cX8_round 14 = .ok (.iload_n 1, 1) := by decide +kernel
theorem dX8_round_15 : decode cX8_round 15 = .ok (.invokestatic 201, 3) := by decide +kernel
theorem dX8_round_18 : decode cX8_round 18 = .ok (.ireturn, 1) := by decide +kernel
theorem dX8_needs_0 : decode cX8_needs 0 = .ok (.aload_n 0, 1) := by decide +kernel
theorem dX8_needs_1 : decode cX8_needs 1 = .ok (.iload_n 1, 1) := by decide +kernel
theorem dX8_needs_2 : decode cX8_needs 2 = .ok (.invokevirtual 102, 3) := by decide +kernel
theorem dX8_needs_5 : decode cX8_needs 5 = .ok (.ifCond .eq 12, 3) := by decide +kernel
theorem dX8_needs_8 : decode cX8_needs 8 = .ok (.iload_n 2, 1) := by decide +kernel
theorem dX8_needs_9 : decode cX8_needs 9 = .ok (.ifCond .lt 8, 3) := by decide +kernel
theorem dX8_needs_12 : decode cX8_needs 12 = .ok (.iload_n 2, 1) := by decide +kernel
theorem dX8_needs_13 : decode cX8_needs 13 = .ok (.iconst 1, 1) := by decide +kernel
theorem dX8_needs_14 : decode cX8_needs 14 = .ok (.if_icmp .le 5, 3) := by decide +kernel
theorem dX8_needs_17 : decode cX8_needs 17 = .ok (.iconst (-1), 1) := by decide +kernel
theorem dX8_needs_18 : decode cX8_needs 18 = .ok (.ireturn, 1) := by decide +kernel
theorem dX8_needs_19 : decode cX8_needs 19 = .ok (.aload_n 0, 1) := by decide +kernel
theorem dX8_needs_20 : decode cX8_needs 20 = .ok (.getfield 30, 3) := by decide +kernel
theorem dX8_needs_23 : decode cX8_needs 23 = .ok (.iload_n 1, 1) := by decide +kernel
theorem dX8_needs_24 : decode cX8_needs 24 = .ok (.invokestatic 205, 3) := by decide +kernel
theorem dX8_needs_27 : decode cX8_needs 27 = .ok (.ifCond .ne 6, 3) := by decide +kernel
theorem dX8_needs_30 : decode cX8_needs 30 = .ok (.bipush (-4), 2) := by decide +kernel
theorem dX8_needs_32 : decode cX8_needs 32 = .ok (.ireturn, 1) := by decide +kernel
theorem dX8_needs_33 : decode cX8_needs 33 = .ok (.iload_n 2, 1) := by decide +kernel
theorem dX8_needs_34 : decode cX8_needs 34 = .ok (.ifCond .ne 14, 3) := by decide +kernel
theorem dX8_needs_37 : decode cX8_needs 37 = .ok (.aload_n 0, 1) := by decide +kernel
theorem dX8_needs_38 : decode cX8_needs 38 = .ok (.getfield 30, 3) := by decide +kernel
theorem dX8_needs_41 : decode cX8_needs 41 = .ok (.iload_n 1, 1) := by decide +kernel
theorem dX8_needs_42 : decode cX8_needs 42 = .ok (.invokestatic 211, 3) := by decide +kernel
theorem dX8_needs_45 : decode cX8_needs 45 = .ok (.goto 11, 3) := by decide +kernel
theorem dX8_needs_48 : decode cX8_needs 48 = .ok (.aload_n 0, 1) := by decide +kernel
theorem dX8_needs_49 : decode cX8_needs 49 = .ok (.getfield 30, 3) := by decide +kernel
theorem dX8_needs_52 : decode cX8_needs 52 = .ok (.iload_n 1, 1) := by decide +kernel
theorem dX8_needs_53 : decode cX8_needs 53 = .ok (.invokestatic 214, 3) := by decide +kernel
theorem dX8_needs_56 : decode cX8_needs 56 = .ok (.ireturn, 1) := by decide +kernel
theorem dX8_lost_0 : decode cX8_lost 0 = .ok (.aload_n 0, 1) := by decide +kernel
theorem dX8_lost_1 : decode cX8_lost 1 = .ok (.iload_n 1, 1) := by decide +kernel
theorem dX8_lost_2 : decode cX8_lost 2 = .ok (.invokevirtual 102, 3) := by decide +kernel
theorem dX8_lost_5 : decode cX8_lost 5 = .ok (.ifCond .ne 5, 3) := by decide +kernel
theorem dX8_lost_8 : decode cX8_lost 8 = .ok (.iconst (-1), 1) := by decide +kernel
theorem dX8_lost_9 : decode cX8_lost 9 = .ok (.ireturn, 1) := by decide +kernel
theorem dX8_lost_10 : decode cX8_lost 10 = .ok (.aload_n 0, 1) := by decide +kernel
theorem dX8_lost_11 : decode cX8_lost 11 = .ok (.getfield 30, 3) := by decide +kernel
theorem dX8_lost_14 : decode cX8_lost 14 = .ok (.iload_n 1, 1) := by decide +kernel
theorem dX8_lost_15 : decode cX8_lost 15 = .ok (.invokevirtual 152, 3) := by decide +kernel
theorem dX8_lost_18 : decode cX8_lost 18 = .ok (.ifCond .ne 6, 3) := by decide +kernel
theorem dX8_lost_21 : decode cX8_lost 21 = .ok (.bipush (-2), 2) := by decide +kernel
theorem dX8_lost_23 : decode cX8_lost 23 = .ok (.ireturn, 1) := by decide +kernel
theorem dX8_lost_24 : decode cX8_lost 24 = .ok (.aload_n 0, 1) := by decide +kernel
theorem dX8_lost_25 : decode cX8_lost 25 = .ok (.getfield 30, 3) := by decide +kernel
theorem dX8_lost_28 : decode cX8_lost 28 = .ok (.iload_n 1, 1) := by decide +kernel
theorem dX8_lost_29 : decode cX8_lost 29 = .ok (.invokestatic 217, 3) := by decide +kernel
theorem dX8_lost_32 : decode cX8_lost 32 = .ok (.ireturn, 1) := by decide +kernel
theorem dX8_begin_0 : decode cX8_begin 0 = .ok (.aload_n 0, 1) := by decide +kernel
theorem dX8_begin_1 : decode cX8_begin 1 = .ok (.iload_n 1, 1) := by decide +kernel
theorem dX8_begin_2 : decode cX8_begin 2 = .ok (.invokevirtual 102, 3) := by decide +kernel
theorem dX8_begin_5 : decode cX8_begin 5 = .ok (.ifCond .ne 5, 3) := by decide +kernel
theorem dX8_begin_8 : decode cX8_begin 8 = .ok (.iconst (-1), 1) := by decide +kernel
theorem dX8_begin_9 : decode cX8_begin 9 = .ok (.ireturn, 1) := by decide +kernel
theorem dX8_begin_10 : decode cX8_begin 10 = .ok (.aload_n 0, 1) := by decide +kernel
theorem dX8_begin_11 : decode cX8_begin 11 = .ok (.getfield 30, 3) := by decide +kernel
theorem dX8_begin_14 : decode cX8_begin 14 = .ok (.iload_n 1, 1) := by decide +kernel
theorem dX8_begin_15 : decode cX8_begin 15 = .ok (.invokevirtual 152, 3) := by decide +kernel
theorem dX8_begin_18 : decode cX8_begin 18 = .ok (.ifCond .ne 6, 3) := by decide +kernel
theorem dX8_begin_21 : decode cX8_begin 21 = .ok (.bipush (-2), 2) := by decide +kernel
theorem dX8_begin_23 : decode cX8_begin 23 = .ok (.ireturn, 1) := by decide +kernel
theorem dX8_begin_24 : decode cX8_begin 24 = .ok (.aload_n 0, 1) := by decide +kernel
theorem dX8_begin_25 : decode cX8_begin 25 = .ok (.getfield 30, 3) := by decide +kernel
theorem dX8_begin_28 : decode cX8_begin 28 = .ok (.iload_n 1, 1) := by decide +kernel
theorem dX8_begin_29 : decode cX8_begin 29 = .ok (.invokestatic 220, 3) := by decide +kernel
theorem dX8_begin_32 : decode cX8_begin 32 = .ok (.ireturn, 1) := by decide +kernel
theorem dX8_hall_0 : decode cX8_hall 0 = .ok (.iload_n 1, 1) := by decide +kernel
theorem dX8_hall_1 : decode cX8_hall 1 = .ok (.ifCond .lt 8, 3) := by decide +kernel
theorem dX8_hall_4 : decode cX8_hall 4 = .ok (.iload_n 1, 1) := by decide +kernel
theorem dX8_hall_5 : decode cX8_hall 5 = .ok (.iconst 1, 1) := by decide +kernel
theorem dX8_hall_6 : decode cX8_hall 6 = .ok (.if_icmp .le 5, 3) := by decide +kernel
theorem dX8_hall_9 : decode cX8_hall 9 = .ok (.iconst (-1), 1) := by decide +kernel
theorem dX8_hall_10 : decode cX8_hall 10 = .ok (.ireturn, 1) := by decide +kernel
theorem dX8_hall_11 : decode cX8_hall 11 = .ok (.iload_n 1, 1) := by decide +kernel
theorem dX8_hall_12 : decode cX8_hall 12 = .ok (.ifCond .ne 19, 3) := by decide +kernel
theorem dX8_hall_15 : decode cX8_hall 15 = .ok (.aload_n 0, 1) := by decide +kernel
theorem dX8_hall_16 : decode cX8_hall 16 = .ok (.getfield 30, 3) := by decide +kernel
theorem dX8_hall_19 : decode cX8_hall 19 = .ok (.invokestatic 223, 3) := by decide +kernel
theorem dX8_hall_22 : decode cX8_hall 22 = .ok (.ifCond .eq 7, 3) := by decide +kernel
theorem dX8_hall_25 : decode cX8_hall 25 = .ok (.iconst 1, 1) := by decide +kernel
theorem dX8_hall_26 : decode cX8_hall 26 = .ok (.goto 4, 3) := by decide +kernel
theorem dX8_hall_29 : decode cX8_hall 29 = .ok (.iconst 0, 1) := by decide +kernel
theorem dX8_hall_30 : decode cX8_hall 30 = .ok (.ireturn, 1) := by decide +kernel
theorem dX8_hall_31 : decode cX8_hall 31 = .ok (.aload_n 0, 1) := by decide +kernel
theorem dX8_hall_32 : decode cX8_hall 32 = .ok (.getfield 30, 3) := by decide +kernel
theorem dX8_hall_35 : decode cX8_hall 35 = .ok (.invokestatic 227, 3) := by decide +kernel
theorem dX8_hall_38 : decode cX8_hall 38 = .ok (.ireturn, 1) := by decide +kernel
theorem dX8_rope_0 : decode cX8_rope 0 = .ok (.aload_n 0, 1) := by decide +kernel
theorem dX8_rope_1 : decode cX8_rope 1 = .ok (.getfield 30, 3) := by decide +kernel
theorem dX8_rope_4 : decode cX8_rope 4 = .ok (.invokestatic 230, 3) := by decide +kernel
theorem dX8_rope_7 : decode cX8_rope 7 = .ok (.ireturn, 1) := by decide +kernel
theorem dX8_idle_0 : decode cX8_idle 0 = .ok (.aload_n 0, 1) := by decide +kernel
theorem dX8_idle_1 : decode cX8_idle 1 = .ok (.getfield 30, 3) := by decide +kernel
theorem dX8_idle_4 : decode cX8_idle 4 = .ok (.invokestatic 233, 3) := by decide +kernel
theorem dX8_idle_7 : decode cX8_idle 7 = .ok (.ireturn, 1) := by decide +kernel
theorem dX8_circle_0 : decode cX8_circle 0 = .ok (.aload_n 0, 1) := by decide +kernel
theorem dX8_circle_1 : decode cX8_circle 1 = .ok (.getfield 30, 3) := by decide +kernel
theorem dX8_circle_4 : decode cX8_circle 4 = .ok (.invokestatic 238, 3) := by decide +kernel
theorem dX8_circle_7 : decode cX8_circle 7 = .ok (.ireturn, 1) := by decide +kernel
theorem dX8_deep_0 : decode cX8_deep 0 = .ok (.aload_n 0, 1) := by decide +kernel
theorem dX8_deep_1 : decode cX8_deep 1 = .ok (.getfield 30, 3) := by decide +kernel
theorem dX8_deep_4 : decode cX8_deep 4 = .ok (.invokestatic 241, 3) := by decide +kernel
theorem dX8_deep_7 : decode cX8_deep 7 = .ok (.ireturn, 1) := by decide +kernel
theorem dX8_proofs_0 : decode cX8_proofs 0 = .ok (.aload_n 0, 1) := by decide +kernel
theorem dX8_proofs_1 : decode cX8_proofs 1 = .ok (.iload_n 1, 1) := by decide +kernel
theorem dX8_proofs_2 : decode cX8_proofs 2 = .ok (.invokevirtual 102, 3) := by decide +kernel
theorem dX8_proofs_5 : decode cX8_proofs 5 = .ok (.ifCond .eq 12, 3) := by decide +kernel
theorem dX8_proofs_8 : decode cX8_proofs 8 = .ok (.iload_n 2, 1) := by decide +kernel
theorem dX8_proofs_9 : decode cX8_proofs 9 = .ok (.ifCond .lt 8, 3) := by decide +kernel
theorem dX8_proofs_12 : decode cX8_proofs 12 = .ok (.iload_n 2, 1) := by decide +kernel
theorem dX8_proofs_13 : decode cX8_proofs 13 = .ok (.iconst 2, 1) := by decide +kernel
theorem dX8_proofs_14 : decode cX8_proofs 14 = .ok (.if_icmp .le 5, 3) := by decide +kernel
theorem dX8_proofs_17 : decode cX8_proofs 17 = .ok (.iconst (-1), 1) := by decide +kernel
theorem dX8_proofs_18 : decode cX8_proofs 18 = .ok (.ireturn, 1) := by decide +kernel
theorem dX8_proofs_19 : decode cX8_proofs 19 = .ok (.aload_n 0, 1) := by decide +kernel
theorem dX8_proofs_20 : decode cX8_proofs 20 = .ok (.getfield 56, 3) := by decide +kernel
theorem dX8_proofs_23 : decode cX8_proofs 23 = .ok (.aload_n 0, 1) := by decide +kernel
theorem dX8_proofs_24 : decode cX8_proofs 24 = .ok (.getfield 30, 3) := by decide +kernel
theorem dX8_proofs_27 : decode cX8_proofs 27 = .ok (.invokevirtual 244, 3) := by decide +kernel
theorem dX8_proofs_30 : decode cX8_proofs 30 = .ok (.iload_n 2, 1) := by decide +kernel
theorem dX8_proofs_31 : decode cX8_proofs 31 = .ok (.lookupswitch 43 #[(0, 25), (1, 34)], 25) := by decide +kernel
theorem dX8_proofs_56 : decode cX8_proofs 56 = .ok (.aload_n 0, 1) := by decide +kernel
theorem dX8_proofs_57 : decode cX8_proofs 57 = .ok (.getfield 56, 3) := by decide +kernel
theorem dX8_proofs_60 : decode cX8_proofs 60 = .ok (.iload_n 1, 1) := by decide +kernel
theorem dX8_proofs_61 : decode cX8_proofs 61 = .ok (.invokevirtual 247, 3) := by decide +kernel
theorem dX8_proofs_64 : decode cX8_proofs 64 = .ok (.ireturn, 1) := by decide +kernel
theorem dX8_proofs_65 : decode cX8_proofs 65 = .ok (.aload_n 0, 1) := by decide +kernel
theorem dX8_proofs_66 : decode cX8_proofs 66 = .ok (.getfield 56, 3) := by decide +kernel
theorem dX8_proofs_69 : decode cX8_proofs 69 = .ok (.iload_n 1, 1) := by decide +kernel
theorem dX8_proofs_70 : decode cX8_proofs 70 = .ok (.invokevirtual 250, 3) := by decide +kernel
theorem dX8_proofs_73 : decode cX8_proofs 73 = .ok (.ireturn, 1) := by decide +kernel
theorem dX8_proofs_74 : decode cX8_proofs 74 = .ok (.aload_n 0, 1) := by decide +kernel
theorem dX8_proofs_75 : decode cX8_proofs 75 = .ok (.getfield 56, 3) := by decide +kernel
theorem dX8_proofs_78 : decode cX8_proofs 78 = .ok (.iload_n 1, 1) := by decide +kernel
theorem dX8_proofs_79 : decode cX8_proofs 79 = .ok (.invokevirtual 253, 3) := by decide +kernel
theorem dX8_proofs_82 : decode cX8_proofs 82 = .ok (.ireturn, 1) := by decide +kernel
theorem dX8_worn_0 : decode cX8_worn 0 = .ok (.aload_n 0, 1) := by decide +kernel
theorem dX8_worn_1 : decode cX8_worn 1 = .ok (.iload_n 1, 1) := by decide +kernel
theorem dX8_worn_2 : decode cX8_worn 2 = .ok (.invokevirtual 102, 3) := by decide +kernel
theorem dX8_worn_5 : decode cX8_worn 5 = .ok (.ifCond .eq 11, 3) := by decide +kernel
theorem dX8_worn_8 : decode cX8_worn 8 = .ok (.aload_n 0, 1) := by decide +kernel
theorem dX8_worn_9 : decode cX8_worn 9 = .ok (.iload_n 2, 1) := by decide +kernel
theorem dX8_worn_10 : decode cX8_worn 10 = .ok (.invokevirtual 179, 3) := by decide +kernel
theorem dX8_worn_13 : decode cX8_worn 13 = .ok (.ifCond .ne 5, 3) := by decide +kernel
theorem dX8_worn_16 : decode cX8_worn 16 = .ok (.iconst (-1), 1) := by decide +kernel
theorem dX8_worn_17 : decode cX8_worn 17 = .ok (.ireturn, 1) := by decide +kernel
theorem dX8_worn_18 : decode cX8_worn 18 = .ok (.aload_n 0, 1) := by decide +kernel
theorem dX8_worn_19 : decode cX8_worn 19 = .ok (.getfield 56, 3) := by decide +kernel
theorem dX8_worn_22 : decode cX8_worn 22 = .ok (.aload_n 0, 1) := by decide +kernel
theorem dX8_worn_23 : decode cX8_worn 23 = .ok (.getfield 30, 3) := by decide +kernel
theorem dX8_worn_26 : decode cX8_worn 26 = .ok (.invokevirtual 244, 3) := by decide +kernel
theorem dX8_worn_29 : decode cX8_worn 29 = .ok (.aload_n 0, 1) := by decide +kernel
theorem dX8_worn_30 : decode cX8_worn 30 = .ok (.getfield 56, 3) := by decide +kernel
theorem dX8_worn_33 : decode cX8_worn 33 = .ok (.aload_n 0, 1) := by decide +kernel
theorem dX8_worn_34 : decode cX8_worn 34 = .ok (.getfield 30, 3) := by decide +kernel
theorem dX8_worn_37 : decode cX8_worn 37 = .ok (.iload_n 1, 1) := by decide +kernel
theorem dX8_worn_38 : decode cX8_worn 38 = .ok (.iload_n 2, 1) := by decide +kernel
theorem dX8_worn_39 : decode cX8_worn 39 = .ok (.invokevirtual 256, 3) := by decide +kernel
theorem dX8_worn_42 : decode cX8_worn 42 = .ok (.ireturn, 1) := by decide +kernel
theorem dX8_tell_0 : decode cX8_tell 0 = .ok (.aload_n 0, 1) := by decide +kernel
theorem dX8_tell_1 : decode cX8_tell 1 = .ok (.iload_n 1, 1) := by decide +kernel
theorem dX8_tell_2 : decode cX8_tell 2 = .ok (.invokevirtual 126, 3) := by decide +kernel
theorem dX8_tell_5 : decode cX8_tell 5 = .ok (.ifCond .ne 5, 3) := by decide +kernel
theorem dX8_tell_8 : decode cX8_tell 8 = .ok (.iconst (-1), 1) := by decide +kernel
theorem dX8_tell_9 : decode cX8_tell 9 = .ok (.ireturn, 1) := by decide +kernel
theorem dX8_tell_10 : decode cX8_tell 10 = .ok (.aload_n 0, 1) := by decide +kernel
theorem dX8_tell_11 : decode cX8_tell 11 = .ok (.getfield 176, 3) := by decide +kernel
theorem dX8_tell_14 : decode cX8_tell 14 = .ok (.bipush 12, 2) := by decide +kernel
theorem dX8_tell_16 : decode cX8_tell 16 = .ok (.if_icmp .lt 6, 3) := by decide +kernel
theorem dX8_tell_19 : decode cX8_tell 19 = .ok (.bipush (-3), 2) := by decide +kernel
theorem dX8_tell_21 : decode cX8_tell 21 = .ok (.ireturn, 1) := by decide +kernel
theorem dX8_tell_22 : decode cX8_tell 22 = .ok (.aload_n 0, 1) := by decide +kernel
theorem dX8_tell_23 : decode cX8_tell 23 = .ok (.getfield 60, 3) := by decide +kernel
theorem dX8_tell_26 : decode cX8_tell 26 = .ok (.aload_n 0, 1) := by decide +kernel
theorem dX8_tell_27 : decode cX8_tell 27 = .ok (.getfield 176, 3) := by decide +kernel
theorem dX8_tell_30 : decode cX8_tell 30 = .ok (.iload_n 1, 1) := by decide +kernel
theorem dX8_tell_31 : decode cX8_tell 31 = .ok (.invokestatic 260, 3) := by decide +kernel
theorem dX8_tell_34 : decode cX8_tell 34 = .ok (.aload_n 0, 1) := by decide +kernel
theorem dX8_tell_35 : decode cX8_tell 35 = .ok (.dup, 1) := by decide +kernel
theorem dX8_tell_36 : decode cX8_tell 36 = .ok (.getfield 176, 3) := by decide +kernel
theorem dX8_tell_39 : decode cX8_tell 39 = .ok (.iconst 1, 1) := by decide +kernel
theorem dX8_tell_40 : decode cX8_tell 40 = .ok (.iadd, 1) := by decide +kernel
theorem dX8_tell_41 : decode cX8_tell 41 = .ok (.putfield 176, 3) := by decide +kernel
theorem dX8_tell_44 : decode cX8_tell 44 = .ok (.aload_n 0, 1) := by decide +kernel
theorem dX8_tell_45 : decode cX8_tell 45 = .ok (.getfield 176, 3) := by decide +kernel
theorem dX8_tell_48 : decode cX8_tell 48 = .ok (.ireturn, 1) := by decide +kernel
theorem dX8_noRow_0 : decode cX8_noRow 0 = .ok (.aload_n 0, 1) := by decide +kernel
theorem dX8_noRow_1 : decode cX8_noRow 1 = .ok (.getfield 176, 3) := by decide +kernel
theorem dX8_noRow_4 : decode cX8_noRow 4 = .ok (.istore_n 1, 1) := by decide +kernel
theorem dX8_noRow_5 : decode cX8_noRow 5 = .ok (.aload_n 0, 1) := by decide +kernel
theorem dX8_noRow_6 : decode cX8_noRow 6 = .ok (.iconst 0, 1) := by decide +kernel
theorem dX8_noRow_7 : decode cX8_noRow 7 = .ok (.putfield 176, 3) := by decide +kernel
theorem dX8_noRow_10 : decode cX8_noRow 10 = .ok (.iload_n 1, 1) := by decide +kernel
theorem dX8_noRow_11 : decode cX8_noRow 11 = .ok (.ireturn, 1) := by decide +kernel
theorem dX8_judge_0 : decode cX8_judge 0 = .ok (.aload_n 0, 1) := by decide +kernel
theorem dX8_judge_1 : decode cX8_judge 1 = .ok (.getfield 30, 3) := by decide +kernel
theorem dX8_judge_4 : decode cX8_judge 4 = .ok (.invokevirtual 113, 3) := by decide +kernel
theorem dX8_judge_7 : decode cX8_judge 7 = .ok (.istore_n 1, 1) := by decide +kernel
theorem dX8_judge_8 : decode cX8_judge 8 = .ok (.iconst 0, 1) := by decide +kernel
theorem dX8_judge_9 : decode cX8_judge 9 = .ok (.istore_n 2, 1) := by decide +kernel
theorem dX8_judge_10 : decode cX8_judge 10 = .ok (.iload_n 2, 1) := by decide +kernel
theorem dX8_judge_11 : decode cX8_judge 11 = .ok (.aload_n 0, 1) := by decide +kernel
theorem dX8_judge_12 : decode cX8_judge 12 = .ok (.getfield 176, 3) := by decide +kernel
theorem dX8_judge_15 : decode cX8_judge 15 = .ok (.if_icmp .ge 35, 3) := by decide +kernel
theorem dX8_judge_18 : decode cX8_judge 18 = .ok (.aload_n 0, 1) := by decide +kernel
theorem dX8_judge_19 : decode cX8_judge 19 = .ok (.getfield 30, 3) := by decide +kernel
theorem dX8_judge_22 : decode cX8_judge 22 = .ok (.aload_n 0, 1) := by decide +kernel
theorem dX8_judge_23 : decode cX8_judge 23 = .ok (.getfield 60, 3) := by decide +kernel
theorem dX8_judge_26 : decode cX8_judge 26 = .ok (.iload_n 2, 1) := by decide +kernel
theorem dX8_judge_27 : decode cX8_judge 27 = .ok (.invokestatic 264, 3) := by decide +kernel
theorem dX8_judge_30 : decode cX8_judge 30 = .ok (.iload_n 1, 1) := by decide +kernel
theorem dX8_judge_31 : decode cX8_judge 31 = .ok (.invokevirtual 268, 3) := by decide +kernel
theorem dX8_judge_34 : decode cX8_judge 34 = .ok (.istore_n 3, 1) := by decide +kernel
theorem dX8_judge_35 : decode cX8_judge 35 = .ok (.iload_n 3, 1) := by decide +kernel
theorem dX8_judge_36 : decode cX8_judge 36 = .ok (.iload_n 1, 1) := by decide +kernel
theorem dX8_judge_37 : decode cX8_judge 37 = .ok (.if_icmp .ne 5, 3) := by decide +kernel
theorem dX8_judge_40 : decode cX8_judge 40 = .ok (.iload_n 2, 1) := by decide +kernel
theorem dX8_judge_41 : decode cX8_judge 41 = .ok (.ireturn, 1) := by decide +kernel
theorem dX8_judge_42 : decode cX8_judge 42 = .ok (.iload_n 3, 1) := by decide +kernel
theorem dX8_judge_43 : decode cX8_judge 43 = .ok (.istore_n 1, 1) := by decide +kernel
theorem dX8_judge_44 : decode cX8_judge 44 = .ok (.iinc 2 1, 3) := by decide +kernel
theorem dX8_judge_47 : decode cX8_judge 47 = .ok (.goto (-37), 3) := by decide +kernel
theorem dX8_judge_50 : decode cX8_judge 50 = .ok (.bipush (-4), 2) := by decide +kernel
theorem dX8_judge_52 : decode cX8_judge 52 = .ok (.ireturn, 1) := by decide +kernel
theorem dX8_year_0 : decode cX8_year 0 = .ok (.iload_n 1, 1) := by decide +kernel
theorem dX8_year_1 : decode cX8_year 1 = .ok (.ifCond .lt 30, 3) := by decide +kernel
theorem dX8_year_4 : decode cX8_year 4 = .ok (.iload_n 1, 1) := by decide +kernel
theorem dX8_year_5 : decode cX8_year 5 = .ok (.sipush 9999, 3) := by decide +kernel
theorem dX8_year_8 : decode cX8_year 8 = .ok (.if_icmp .gt 23, 3) := by decide +kernel
theorem dX8_year_11 : decode cX8_year 11 = .ok (.iload_n 2, 1) := by decide +kernel
theorem dX8_year_12 : decode cX8_year 12 = .ok (.iconst 1, 1) := by decide +kernel
theorem dX8_year_13 : decode cX8_year 13 = .ok (.if_icmp .lt 18, 3) := by decide +kernel
theorem dX8_year_16 : decode cX8_year 16 = .ok (.iload_n 2, 1) := by decide +kernel
theorem dX8_year_17 : decode cX8_year 17 = .ok (.bipush 99, 2) := by decide +kernel
theorem dX8_year_19 : decode cX8_year 19 = .ok (.if_icmp .gt 12, 3) := by decide +kernel
theorem dX8_year_22 : decode cX8_year 22 = .ok (.iload_n 3, 1) := by decide +kernel
theorem dX8_year_23 : decode cX8_year 23 = .ok (.ifCond .lt 8, 3) := by decide +kernel
theorem dX8_year_26 : decode cX8_year 26 = .ok (.iload_n 3, 1) := by decide +kernel
theorem dX8_year_27 : decode cX8_year 27 = .ok (.iconst 1, 1) := by decide +kernel
theorem dX8_year_28 : decode cX8_year 28 = .ok (.if_icmp .le 5, 3) := by decide +kernel
theorem dX8_year_31 : decode cX8_year 31 = .ok (.iconst (-1), 1) := by decide +kernel
theorem dX8_year_32 : decode cX8_year 32 = .ok (.ireturn, 1) := by decide +kernel
theorem dX8_year_33 : decode cX8_year 33 = .ok (.aload_n 0, 1) := by decide +kernel
theorem dX8_year_34 : decode cX8_year 34 = .ok (.getfield 30, 3) := by decide +kernel
theorem dX8_year_37 : decode cX8_year 37 = .ok (.invokevirtual 113, 3) := by decide +kernel
theorem dX8_year_40 : decode cX8_year 40 = .ok (.istore 4, 2) := by decide +kernel
theorem dX8_year_42 : decode cX8_year 42 = .ok (.iconst 0, 1) := by decide +kernel
theorem dX8_year_43 : decode cX8_year 43 = .ok (.istore 5, 2) := by decide +kernel
theorem dX8_year_45 : decode cX8_year 45 = .ok (.iload 5, 2) := by decide +kernel
theorem dX8_year_47 : decode cX8_year 47 = .ok (.iload_n 2, 1) := by decide +kernel
theorem dX8_year_48 : decode cX8_year 48 = .ok (.if_icmp .ge 27, 3) := by decide +kernel
theorem dX8_year_51 : decode cX8_year 51 = .ok (.aload_n 0, 1) := by decide +kernel
theorem dX8_year_52 : decode cX8_year 52 = .ok (.getfield 30, 3) := by decide +kernel
theorem dX8_year_55 : decode cX8_year 55 = .ok (.aload_n 0, 1) := by decide +kernel
theorem dX8_year_56 : decode cX8_year 56 = .ok (.iload_n 1, 1) := by decide +kernel
theorem dX8_year_57 : decode cX8_year 57 = .ok (.iload 5, 2) := by decide +kernel
theorem dX8_year_59 : decode cX8_year 59 = .ok (.invokevirtual 271, 3) := by decide +kernel
theorem dX8_year_62 : decode cX8_year 62 = .ok (.iload 4, 2) := by decide +kernel
theorem dX8_year_64 : decode cX8_year 64 = .ok (.invokevirtual 268, 3) := by decide +kernel
theorem dX8_year_67 : decode cX8_year 67 = .ok (.istore 4, 2) := by decide +kernel
theorem dX8_year_69 : decode cX8_year 69 = .ok (.iinc 5 1, 3) := by decide +kernel
theorem dX8_year_72 : decode cX8_year 72 = .ok (.goto (-27), 3) := by decide +kernel
theorem dX8_year_75 : decode cX8_year 75 = .ok (.iload_n 3, 1) := by decide +kernel
theorem dX8_year_76 : decode cX8_year 76 = .ok (.ifCond .ne 22, 3) := by decide +kernel
theorem dX8_year_79 : decode cX8_year 79 = .ok (.iload 4, 2) := by decide +kernel
theorem dX8_year_81 : decode cX8_year 81 = .ok (.invokestatic 147, 3) := by decide +kernel
theorem dX8_year_84 : decode cX8_year 84 = .ok (.aload_n 0, 1) := by decide +kernel
theorem dX8_year_85 : decode cX8_year 85 = .ok (.getfield 30, 3) := by decide +kernel
theorem dX8_year_88 : decode cX8_year 88 = .ok (.invokevirtual 113, 3) := by decide +kernel
theorem dX8_year_91 : decode cX8_year 91 = .ok (.invokestatic 147, 3) := by decide +kernel
theorem dX8_year_94 : decode cX8_year 94 = .ok (.isub, 1) := by decide +kernel
theorem dX8_year_95 : decode cX8_year 95 = .ok (.goto 5, 3) := by decide +kernel
theorem dX8_year_98 : decode cX8_year 98 = .ok (.iload 4, 2) := by decide +kernel
theorem dX8_year_100 : decode cX8_year 100 = .ok (.ireturn, 1) := by decide +kernel
theorem dX8_keep_0 : decode cX8_keep 0 = .ok (.aload_n 0, 1) := by decide +kernel
theorem dX8_keep_1 : decode cX8_keep 1 = .ok (.getfield 92, 3) := by decide +kernel
theorem dX8_keep_4 : decode cX8_keep 4 = .ok (.iconst 2, 1) := by decide +kernel
theorem dX8_keep_5 : decode cX8_keep 5 = .ok (.if_icmp .lt 6, 3) := by decide +kernel
theorem dX8_keep_8 : decode cX8_keep 8 = .ok (.bipush (-3), 2) := by decide +kernel
theorem dX8_keep_10 : decode cX8_keep 10 = .ok (.ireturn, 1) := by decide +kernel
theorem dX8_keep_11 : decode cX8_keep 11 = .ok (.aload_n 0, 1) := by decide +kernel
theorem dX8_keep_12 : decode cX8_keep 12 = .ok (.aload_n 0, 1) := by decide +kernel
theorem dX8_keep_13 : decode cX8_keep 13 = .ok (.getfield 92, 3) := by decide +kernel
theorem dX8_keep_16 : decode cX8_keep 16 = .ok (.invokevirtual 274, 3) := by decide +kernel
theorem dX8_keep_19 : decode cX8_keep 19 = .ok (.aload_n 0, 1) := by decide +kernel
theorem dX8_keep_20 : decode cX8_keep 20 = .ok (.getfield 30, 3) := by decide +kernel
theorem dX8_keep_23 : decode cX8_keep 23 = .ok (.invokevirtual 88, 3) := by decide +kernel
theorem dX8_keep_26 : decode cX8_keep 26 = .ok (.aload_n 0, 1) := by decide +kernel
theorem dX8_keep_27 : decode cX8_keep 27 = .ok (.dup, 1) := by decide +kernel
theorem dX8_keep_28 : decode cX8_keep 28 = .ok (.getfield 92, 3) := by decide +kernel
theorem dX8_keep_31 : decode cX8_keep 31 = .ok (.iconst 1, 1) := by decide +kernel
theorem dX8_keep_32 : decode cX8_keep 32 = .ok (.iadd, 1) := by decide +kernel
theorem dX8_keep_33 : decode cX8_keep 33 = .ok (.putfield 92, 3) := by decide +kernel
theorem dX8_keep_36 : decode cX8_keep 36 = .ok (.aload_n 0, 1) := by decide +kernel
theorem dX8_keep_37 : decode cX8_keep 37 = .ok (.getfield 92, 3) := by decide +kernel
theorem dX8_keep_40 : decode cX8_keep 40 = .ok (.ireturn, 1) := by decide +kernel
theorem dX8_back_0 : decode cX8_back 0 = .ok (.aload_n 0, 1) := by decide +kernel
theorem dX8_back_1 : decode cX8_back 1 = .ok (.getfield 92, 3) := by decide +kernel
theorem dX8_back_4 : decode cX8_back 4 = .ok (.ifCond .ne 6, 3) := by decide +kernel
theorem dX8_back_7 : decode cX8_back 7 = .ok (.bipush (-2), 2) := by decide +kernel
theorem dX8_back_9 : decode cX8_back 9 = .ok (.ireturn, 1) := by decide +kernel
theorem dX8_back_10 : decode cX8_back 10 = .ok (.aload_n 0, 1) := by decide +kernel
theorem dX8_back_11 : decode cX8_back 11 = .ok (.dup, 1) := by decide +kernel
theorem dX8_back_12 : decode cX8_back 12 = .ok (.getfield 92, 3) := by decide +kernel
theorem dX8_back_15 : decode cX8_back 15 = .ok (.iconst 1, 1) := by decide +kernel
theorem dX8_back_16 : decode cX8_back 16 = .ok (.isub, 1) := by decide +kernel
theorem dX8_back_17 : decode cX8_back 17 = .ok (.putfield 92, 3) := by decide +kernel
theorem dX8_back_20 : decode cX8_back 20 = .ok (.aload_n 0, 1) := by decide +kernel
theorem dX8_back_21 : decode cX8_back 21 = .ok (.getfield 30, 3) := by decide +kernel
theorem dX8_back_24 : decode cX8_back 24 = .ok (.aload_n 0, 1) := by decide +kernel
theorem dX8_back_25 : decode cX8_back 25 = .ok (.aload_n 0, 1) := by decide +kernel
theorem dX8_back_26 : decode cX8_back 26 = .ok (.getfield 92, 3) := by decide +kernel
theorem dX8_back_29 : decode cX8_back 29 = .ok (.invokevirtual 274, 3) := by decide +kernel
theorem dX8_back_32 : decode cX8_back 32 = .ok (.invokevirtual 88, 3) := by decide +kernel
theorem dX8_back_35 : decode cX8_back 35 = .ok (.aload_n 0, 1) := by decide +kernel
theorem dX8_back_36 : decode cX8_back 36 = .ok (.invokevirtual 96, 3) := by decide +kernel
theorem dX8_back_39 : decode cX8_back 39 = .ok (.aload_n 0, 1) := by decide +kernel
theorem dX8_back_40 : decode cX8_back 40 = .ok (.getfield 92, 3) := by decide +kernel
theorem dX8_back_43 : decode cX8_back 43 = .ok (.ireturn, 1) := by decide +kernel
theorem dX8_count_0 : decode cX8_count 0 = .ok (.iload_n 1, 1) := by decide +kernel
theorem dX8_count_1 : decode cX8_count 1 = .ok (.tableswitch 111 0 7 #[47, 55, 63, 74, 85, 90, 98, 103], 47) := by decide +kernel
theorem dX8_count_48 : decode cX8_count 48 = .ok (.aload_n 0, 1) := by decide +kernel
theorem dX8_count_49 : decode cX8_count 49 = .ok (.getfield 30, 3) := by decide +kernel
theorem dX8_count_52 : decode cX8_count 52 = .ok (.invokevirtual 99, 3) := by decide +kernel
theorem dX8_count_55 : decode cX8_count 55 = .ok (.ireturn, 1) := by decide +kernel
theorem dX8_count_56 : decode cX8_count 56 = .ok (.aload_n 0, 1) := by decide +kernel
theorem dX8_count_57 : decode cX8_count 57 = .ok (.getfield 30, 3) := by decide +kernel
theorem dX8_count_60 : decode cX8_count 60 = .ok (.invokevirtual 85, 3) := by decide +kernel
theorem dX8_count_63 : decode cX8_count 63 = .ok (.ireturn, 1) := by decide +kernel
theorem dX8_count_64 : decode cX8_count 64 = .ok (.aload_n 0, 1) := by decide +kernel
theorem dX8_count_65 : decode cX8_count 65 = .ok (.getfield 30, 3) := by decide +kernel
theorem dX8_count_68 : decode cX8_count 68 = .ok (.invokevirtual 106, 3) := by decide +kernel
theorem dX8_count_71 : decode cX8_count 71 = .ok (.invokestatic 147, 3) := by decide +kernel
theorem dX8_count_74 : decode cX8_count 74 = .ok (.ireturn, 1) := by decide +kernel
theorem dX8_count_75 : decode cX8_count 75 = .ok (.aload_n 0, 1) := by decide +kernel
theorem dX8_count_76 : decode cX8_count 76 = .ok (.getfield 30, 3) := by decide +kernel
theorem dX8_count_79 : decode cX8_count 79 = .ok (.invokevirtual 113, 3) := by decide +kernel
theorem dX8_count_82 : decode cX8_count 82 = .ok (.invokestatic 147, 3) := by decide +kernel
theorem dX8_count_85 : decode cX8_count 85 = .ok (.ireturn, 1) := by decide +kernel
theorem dX8_count_86 : decode cX8_count 86 = .ok (.aload_n 0, 1) := by decide +kernel
theorem dX8_count_87 : decode cX8_count 87 = .ok (.getfield 176, 3) := by decide +kernel
theorem dX8_count_90 : decode cX8_count 90 = .ok (.ireturn, 1) := by decide +kernel
theorem dX8_count_91 : decode cX8_count 91 = .ok (.aload_n 0, 1) := by decide +kernel
theorem dX8_count_92 : decode cX8_count 92 = .ok (.getfield 42, 3) := by decide +kernel
theorem dX8_count_95 : decode cX8_count 95 = .ok (.invokevirtual 172, 3) := by decide +kernel
theorem dX8_count_98 : decode cX8_count 98 = .ok (.ireturn, 1) := by decide +kernel
theorem dX8_count_99 : decode cX8_count 99 = .ok (.aload_n 0, 1) := by decide +kernel
theorem dX8_count_100 : decode cX8_count 100 = .ok (.getfield 92, 3) := by decide +kernel
theorem dX8_count_103 : decode cX8_count 103 = .ok (.ireturn, 1) := by decide +kernel
theorem dX8_count_104 : decode cX8_count 104 = .ok (.aload_n 0, 1) := by decide +kernel
theorem dX8_count_105 : decode cX8_count 105 = .ok (.getfield 12, 3) := by decide +kernel
theorem dX8_count_108 : decode cX8_count 108 = .ok (.invokevirtual 77, 3) := by decide +kernel
theorem dX8_count_111 : decode cX8_count 111 = .ok (.ireturn, 1) := by decide +kernel
theorem dX8_count_112 : decode cX8_count 112 = .ok (.iconst (-1), 1) := by decide +kernel
theorem dX8_count_113 : decode cX8_count 113 = .ok (.ireturn, 1) := by decide +kernel
theorem dX8_isStone_0 : decode cX8_isStone 0 = .ok (.aload_n 0, 1) := by decide +kernel
theorem dX8_isStone_1 : decode cX8_isStone 1 = .ok (.getfield 30, 3) := by decide +kernel
theorem dX8_isStone_4 : decode cX8_isStone 4 = .ok (.iload_n 1, 1) := by decide +kernel
theorem dX8_isStone_5 : decode cX8_isStone 5 = .ok (.invokevirtual 278, 3) := by decide +kernel
theorem dX8_isStone_8 : decode cX8_isStone 8 = .ok (.ireturn, 1) := by decide +kernel
theorem dX8_isStep_0 : decode cX8_isStep 0 = .ok (.iload_n 1, 1) := by decide +kernel
theorem dX8_isStep_1 : decode cX8_isStep 1 = .ok (.ifCond .lt 18, 3) := by decide +kernel
theorem dX8_isStep_4 : decode cX8_isStep 4 = .ok (.iload_n 1, 1) := by decide +kernel
theorem dX8_isStep_5 : decode cX8_isStep 5 = .ok (.aload_n 0, 1) := by decide +kernel
theorem dX8_isStep_6 : decode cX8_isStep 6 = .ok (.getfield 30, 3) := by decide +kernel
theorem dX8_isStep_9 : decode cX8_isStep 9 = .ok (.invokevirtual 85, 3) := by decide +kernel
theorem dX8_isStep_12 : decode cX8_isStep 12 = .ok (.if_icmp .ge 7, 3) := by decide +kernel
theorem dX8_isStep_15 : decode cX8_isStep 15 = .ok (.iconst 1, 1) := by decide +kernel
theorem dX8_isStep_16 : decode cX8_isStep 16 = .ok (.goto 4, 3) := by decide +kernel
theorem dX8_isStep_19 : decode cX8_isStep 19 = .ok (.iconst 0, 1) := by decide +kernel
theorem dX8_isStep_20 : decode cX8_isStep 20 = .ok (.ireturn, 1) := by decide +kernel
theorem dX8_isSetOfStones_0 : decode cX8_isSetOfStones 0 = .ok (.iload_n 1, 1) := by decide +kernel
theorem dX8_isSetOfStones_1 : decode cX8_isSetOfStones 1 = .ok (.ifCond .lt 18, 3) := by decide +kernel
theorem dX8_isSetOfStones_4 : decode cX8_isSetOfStones 4 = .ok (.iload_n 1, 1) := by decide +kernel
theorem dX8_isSetOfStones_5 : decode cX8_isSetOfStones 5 = .ok (.aload_n 0, 1) := by decide +kernel
theorem dX8_isSetOfStones_6 : decode cX8_isSetOfStones 6 = .ok (.getfield 30, 3) := by decide +kernel
theorem dX8_isSetOfStones_9 : decode cX8_isSetOfStones 9 = .ok (.invokevirtual 281, 3) := by decide +kernel
theorem dX8_isSetOfStones_12 : decode cX8_isSetOfStones 12 = .ok (.if_icmp .gt 7, 3) := by decide +kernel
theorem dX8_isSetOfStones_15 : decode cX8_isSetOfStones 15 = .ok (.iconst 1, 1) := by decide +kernel
theorem dX8_isSetOfStones_16 : decode cX8_isSetOfStones 16 = .ok (.goto 4, 3) := by decide +kernel
theorem dX8_isSetOfStones_19 : decode cX8_isSetOfStones 19 = .ok (.iconst 0, 1) := by decide +kernel
theorem dX8_isSetOfStones_20 : decode cX8_isSetOfStones 20 = .ok (.ireturn, 1) := by decide +kernel
theorem dX8_forgetRowAndPast_0 : decode cX8_forgetRowAndPast 0 = .ok (.aload_n 0, 1) := by decide +kernel
theorem dX8_forgetRowAndPast_1 : decode cX8_forgetRowAndPast 1 = .ok (.iconst 0, 1) := by decide +kernel
theorem dX8_forgetRowAndPast_2 : decode cX8_forgetRowAndPast 2 = .ok (.putfield 176, 3) := by decide +kernel
theorem dX8_forgetRowAndPast_5 : decode cX8_forgetRowAndPast 5 = .ok (.aload_n 0, 1) := by decide +kernel
theorem dX8_forgetRowAndPast_6 : decode cX8_forgetRowAndPast 6 = .ok (.getfield 42, 3) := by decide +kernel
theorem dX8_forgetRowAndPast_9 : decode cX8_forgetRowAndPast 9 = .ok (.invokevirtual 284, 3) := by decide +kernel
theorem dX8_forgetRowAndPast_12 : decode cX8_forgetRowAndPast 12 = .ok (.return_, 1) := by decide +kernel
theorem dX8_keeperOf_0 : decode cX8_keeperOf 0 = .ok (.iload_n 1, 1) := by decide +kernel
theorem dX8_keeperOf_1 : decode cX8_keeperOf 1 = .ok (.ifCond .ne 10, 3) := by decide +kernel
theorem dX8_keeperOf_4 : decode cX8_keeperOf 4 = .ok (.aload_n 0, 1) := by decide +kernel
theorem dX8_keeperOf_5 : decode cX8_keeperOf 5 = .ok (.getfield 33, 3) := by decide +kernel
theorem dX8_keeperOf_8 : decode cX8_keeperOf 8 = .ok (.goto 7, 3) := by decide +kernel
theorem dX8_keeperOf_11 : decode cX8_keeperOf 11 = .ok (.aload_n 0, 1) := by decide +kernel
theorem dX8_keeperOf_12 : decode cX8_keeperOf 12 = .ok (.getfield 36, 3) := by decide +kernel
theorem dX8_keeperOf_15 : decode cX8_keeperOf 15 = .ok (.areturn, 1) := by decide +kernel
theorem dX8_drawnStep_0 : decode cX8_drawnStep 0 = .ok (.aload_n 0, 1) := by decide +kernel
theorem dX8_drawnStep_1 : decode cX8_drawnStep 1 = .ok (.getfield 30, 3) := by decide +kernel
theorem dX8_drawnStep_4 : decode cX8_drawnStep 4 = .ok (.invokevirtual 85, 3) := by decide +kernel
theorem dX8_drawnStep_7 : decode cX8_drawnStep 7 = .ok (.istore_n 3, 1) := by decide +kernel
theorem dX8_drawnStep_8 : decode cX8_drawnStep 8 = .ok (.iload_n 3, 1) := by decide +kernel
theorem dX8_drawnStep_9 : decode cX8_drawnStep 9 = .ok (.ifCond .ne 5, 3) := by decide +kernel
theorem dX8_drawnStep_12 : decode cX8_drawnStep 12 = .ok (.iconst 0, 1) := by decide +kernel
theorem dX8_drawnStep_13 : decode cX8_drawnStep 13 = .ok (.ireturn, 1) := by decide +kernel
theorem dX8_drawnStep_14 : decode cX8_drawnStep 14 = .ok (.ldc2_w 285, 3) := by decide +kernel
theorem dX8_drawnStep_17 : decode cX8_drawnStep 17 = .ok (.iload_n 1, 1) := by decide +kernel
theorem dX8_drawnStep_18 : decode cX8_drawnStep 18 = .ok (.i2l, 1) := by decide +kernel
theorem dX8_drawnStep_19 : decode cX8_drawnStep 19 = .ok (.lmul, 1) := by decide +kernel
theorem dX8_drawnStep_20 : decode cX8_drawnStep 20 = .ok (.ldc2_w 287, 3) := by decide +kernel
theorem dX8_drawnStep_23 : decode cX8_drawnStep 23 = .ok (.iload_n 2, 1) := by decide +kernel
theorem dX8_drawnStep_24 : decode cX8_drawnStep 24 = .ok (.i2l, 1) := by decide +kernel
theorem dX8_drawnStep_25 : decode cX8_drawnStep 25 = .ok (.lmul, 1) := by decide +kernel
theorem dX8_drawnStep_26 : decode cX8_drawnStep 26 = .ok (.ladd, 1) := by decide +kernel
theorem dX8_drawnStep_27 : decode cX8_drawnStep 27 = .ok (.lconst 1, 1) := by decide +kernel
theorem dX8_drawnStep_28 : decode cX8_drawnStep 28 = .ok (.ladd, 1) := by decide +kernel
theorem dX8_drawnStep_29 : decode cX8_drawnStep 29 = .ok (.lstore 4, 2) := by decide +kernel
theorem dX8_drawnStep_31 : decode cX8_drawnStep 31 = .ok (.lload 4, 2) := by decide +kernel
theorem dX8_drawnStep_33 : decode cX8_drawnStep 33 = .ok (.lload 4, 2) := by decide +kernel
theorem dX8_drawnStep_35 : decode cX8_drawnStep 35 = .ok (.lmul, 1) := by decide +kernel
theorem dX8_drawnStep_36 : decode cX8_drawnStep 36 = .ok (.ldc2_w 289, 3) := by decide +kernel
theorem dX8_drawnStep_39 : decode cX8_drawnStep 39 = .ok (.lrem, 1) := by decide +kernel
theorem dX8_drawnStep_40 : decode cX8_drawnStep 40 = .ok (.iload_n 3, 1) := by decide +kernel
theorem dX8_drawnStep_41 : decode cX8_drawnStep 41 = .ok (.i2l, 1) := by decide +kernel
theorem dX8_drawnStep_42 : decode cX8_drawnStep 42 = .ok (.lrem, 1) := by decide +kernel
theorem dX8_drawnStep_43 : decode cX8_drawnStep 43 = .ok (.l2i, 1) := by decide +kernel
theorem dX8_drawnStep_44 : decode cX8_drawnStep 44 = .ok (.ireturn, 1) := by decide +kernel
theorem dX8_bitOf_0 : decode cX8_bitOf 0 = .ok (.iload_n 0, 1) := by decide +kernel
theorem dX8_bitOf_1 : decode cX8_bitOf 1 = .ok (.iload_n 1, 1) := by decide +kernel
theorem dX8_bitOf_2 : decode cX8_bitOf 2 = .ok (.ishr, 1) := by decide +kernel
theorem dX8_bitOf_3 : decode cX8_bitOf 3 = .ok (.iconst 1, 1) := by decide +kernel
theorem dX8_bitOf_4 : decode cX8_bitOf 4 = .ok (.iand, 1) := by decide +kernel
theorem dX8_bitOf_5 : decode cX8_bitOf 5 = .ok (.ireturn, 1) := by decide +kernel
theorem dX8_has_0 : decode cX8_has 0 = .ok (.iload_n 0, 1) := by decide +kernel
theorem dX8_has_1 : decode cX8_has 1 = .ok (.iload_n 1, 1) := by decide +kernel
theorem dX8_has_2 : decode cX8_has 2 = .ok (.invokestatic 109, 3) := by decide +kernel
theorem dX8_has_5 : decode cX8_has 5 = .ok (.iconst 1, 1) := by decide +kernel
theorem dX8_has_6 : decode cX8_has 6 = .ok (.if_icmp .ne 7, 3) := by decide +kernel
theorem dX8_has_9 : decode cX8_has 9 = .ok (.iconst 1, 1) := by decide +kernel
theorem dX8_has_10 : decode cX8_has 10 = .ok (.goto 4, 3) := by decide +kernel
theorem dX8_has_13 : decode cX8_has 13 = .ok (.iconst 0, 1) := by decide +kernel
theorem dX8_has_14 : decode cX8_has 14 = .ok (.ireturn, 1) := by decide +kernel
theorem dX8_holdsAll_0 : decode cX8_holdsAll 0 = .ok (.iload_n 0, 1) := by decide +kernel
theorem dX8_holdsAll_1 : decode cX8_holdsAll 1 = .ok (.iload_n 1, 1) := by decide +kernel
theorem dX8_holdsAll_2 : decode cX8_holdsAll 2 = .ok (.iand, 1) := by decide +kernel
theorem dX8_holdsAll_3 : decode cX8_holdsAll 3 = .ok (.iload_n 1, 1) := by decide +kernel
theorem dX8_holdsAll_4 : decode cX8_holdsAll 4 = .ok (.if_icmp .ne 7, 3) := by decide +kernel
theorem dX8_holdsAll_7 : decode cX8_holdsAll 7 = .ok (.iconst 1, 1) := by decide +kernel
theorem dX8_holdsAll_8 : decode cX8_holdsAll 8 = .ok (.goto 4, 3) := by decide +kernel
theorem dX8_holdsAll_11 : decode cX8_holdsAll 11 = .ok (.iconst 0, 1) := by decide +kernel
theorem dX8_holdsAll_12 : decode cX8_holdsAll 12 = .ok (.ireturn, 1) := by decide +kernel
theorem dX8_at_0 : decode cX8_at 0 = .ok (.iload_n 1, 1) := by decide +kernel
theorem dX8_at_1 : decode cX8_at 1 = .ok (.ifCond .lt 15, 3) := by decide +kernel
theorem dX8_at_4 : decode cX8_at 4 = .ok (.iload_n 1, 1) := by decide +kernel
theorem dX8_at_5 : decode cX8_at 5 = .ok (.aload_n 0, 1) := by decide +kernel
theorem dX8_at_6 : decode cX8_at 6 = .ok (.arraylength, 1) := by decide +kernel
theorem dX8_at_7 : decode cX8_at 7 = .ok (.if_icmp .ge 9, 3) := by decide +kernel
theorem dX8_at_10 : decode cX8_at 10 = .ok (.aload_n 0, 1) := by decide +kernel
theorem dX8_at_11 : decode cX8_at 11 = .ok (.iload_n 1, 1) := by decide +kernel
theorem dX8_at_12 : decode cX8_at 12 = .ok (.iaload, 1) := by decide +kernel
theorem dX8_at_13 : decode cX8_at 13 = .ok (.goto 4, 3) := by decide +kernel
theorem dX8_at_16 : decode cX8_at 16 = .ok (.iconst 0, 1) := by decide +kernel
theorem dX8_at_17 : decode cX8_at 17 = .ok (.ireturn, 1) := by decide +kernel
theorem dX8_put_0 : decode cX8_put 0 = .ok (.iload_n 1, 1) := by decide +kernel
theorem dX8_put_1 : decode cX8_put 1 = .ok (.ifCond .lt 13, 3) := by decide +kernel
theorem dX8_put_4 : decode cX8_put 4 = .ok (.iload_n 1, 1) := by decide +kernel
theorem dX8_put_5 : decode cX8_put 5 = .ok (.aload_n 0, 1) := by decide +kernel
theorem dX8_put_6 : decode cX8_put 6 = .ok (.arraylength, 1) := by decide +kernel
theorem dX8_put_7 : decode cX8_put 7 = .ok (.if_icmp .ge 7, 3) := by decide +kernel
theorem dX8_put_10 : decode cX8_put 10 = .ok (.aload_n 0, 1) := by decide +kernel
theorem dX8_put_11 : decode cX8_put 11 = .ok (.iload_n 1, 1) := by decide +kernel
theorem dX8_put_12 : decode cX8_put 12 = .ok (.iload_n 2, 1) := by decide +kernel
theorem dX8_put_13 : decode cX8_put 13 = .ok (.iastore, 1) := by decide +kernel
theorem dX8_put_14 : decode cX8_put 14 = .ok (.return_, 1) := by decide +kernel
theorem dX8_copy_0 : decode cX8_copy 0 = .ok (.iconst 0, 1) := by decide +kernel
theorem dX8_copy_1 : decode cX8_copy 1 = .ok (.istore_n 2, 1) := by decide +kernel
theorem dX8_copy_2 : decode cX8_copy 2 = .ok (.iload_n 2, 1) := by decide +kernel
theorem dX8_copy_3 : decode cX8_copy 3 = .ok (.aload_n 0, 1) := by decide +kernel
theorem dX8_copy_4 : decode cX8_copy 4 = .ok (.arraylength, 1) := by decide +kernel
theorem dX8_copy_5 : decode cX8_copy 5 = .ok (.if_icmp .ge 21, 3) := by decide +kernel
theorem dX8_copy_8 : decode cX8_copy 8 = .ok (.iload_n 2, 1) := by decide +kernel
theorem dX8_copy_9 : decode cX8_copy 9 = .ok (.aload_n 1, 1) := by decide +kernel
theorem dX8_copy_10 : decode cX8_copy 10 = .ok (.arraylength, 1) := by decide +kernel
theorem dX8_copy_11 : decode cX8_copy 11 = .ok (.if_icmp .ge 15, 3) := by decide +kernel
theorem dX8_copy_14 : decode cX8_copy 14 = .ok (.aload_n 1, 1) := by decide +kernel
theorem dX8_copy_15 : decode cX8_copy 15 = .ok (.iload_n 2, 1) := by decide +kernel
theorem dX8_copy_16 : decode cX8_copy 16 = .ok (.aload_n 0, 1) := by decide +kernel
theorem dX8_copy_17 : decode cX8_copy 17 = .ok (.iload_n 2, 1) := by decide +kernel
theorem dX8_copy_18 : decode cX8_copy 18 = .ok (.iaload, 1) := by decide +kernel
theorem dX8_copy_19 : decode cX8_copy 19 = .ok (.iastore, 1) := by decide +kernel
theorem dX8_copy_20 : decode cX8_copy 20 = .ok (.iinc 2 1, 3) := by decide +kernel
theorem dX8_copy_23 : decode cX8_copy 23 = .ok (.goto (-21), 3) := by decide +kernel
theorem dX8_copy_26 : decode cX8_copy 26 = .ok (.return_, 1) := by decide +kernel
theorem dX8_clearRow_0 : decode cX8_clearRow 0 = .ok (.iconst 0, 1) := by decide +kernel
theorem dX8_clearRow_1 : decode cX8_clearRow 1 = .ok (.istore_n 1, 1) := by decide +kernel
theorem dX8_clearRow_2 : decode cX8_clearRow 2 = .ok (.iload_n 1, 1) := by decide +kernel
theorem dX8_clearRow_3 : decode cX8_clearRow 3 = .ok (.aload_n 0, 1) := by decide +kernel
theorem dX8_clearRow_4 : decode cX8_clearRow 4 = .ok (.arraylength, 1) := by decide +kernel
theorem dX8_clearRow_5 : decode cX8_clearRow 5 = .ok (.if_icmp .ge 13, 3) := by decide +kernel
theorem dX8_clearRow_8 : decode cX8_clearRow 8 = .ok (.aload_n 0, 1) := by decide +kernel
theorem dX8_clearRow_9 : decode cX8_clearRow 9 = .ok (.iload_n 1, 1) := by decide +kernel
theorem dX8_clearRow_10 : decode cX8_clearRow 10 = .ok (.iconst 0, 1) := by decide +kernel
theorem dX8_clearRow_11 : decode cX8_clearRow 11 = .ok (.iastore, 1) := by decide +kernel
theorem dX8_clearRow_12 : decode cX8_clearRow 12 = .ok (.iinc 1 1, 3) := by decide +kernel
theorem dX8_clearRow_15 : decode cX8_clearRow 15 = .ok (.goto (-13), 3) := by decide +kernel
theorem dX8_clearRow_18 : decode cX8_clearRow 18 = .ok (.return_, 1) := by decide +kernel
theorem dL_law_0 : decode cL_law 0 = .ok (.new 7, 3) := by decide +kernel
theorem dL_law_3 : decode cL_law 3 = .ok (.dup, 1) := by decide +kernel
theorem dL_law_4 : decode cL_law 4 = .ok (.invokespecial 9, 3) := by decide +kernel
theorem dL_law_7 : decode cL_law 7 = .ok (.astore_n 1, 1) := by decide +kernel
theorem dL_law_8 : decode cL_law 8 = .ok (.new 10, 3) := by decide +kernel
theorem dL_law_11 : decode cL_law 11 = .ok (.dup, 1) := by decide +kernel
theorem dL_law_12 : decode cL_law 12 = .ok (.invokespecial 12, 3) := by decide +kernel
theorem dL_law_15 : decode cL_law 15 = .ok (.astore_n 2, 1) := by decide +kernel
theorem dL_law_16 : decode cL_law 16 = .ok (.iconst 0, 1) := by decide +kernel
theorem dL_law_17 : decode cL_law 17 = .ok (.istore_n 3, 1) := by decide +kernel
theorem dL_law_18 : decode cL_law 18 = .ok (.iload_n 3, 1) := by decide +kernel
theorem dL_law_19 : decode cL_law 19 = .ok (.aload_n 0, 1) := by decide +kernel
theorem dL_law_20 : decode cL_law 20 = .ok (.arraylength, 1) := by decide +kernel
theorem dL_law_21 : decode cL_law 21 = .ok (.iconst 4, 1) := by decide +kernel
theorem dL_law_22 : decode cL_law 22 = .ok (.isub, 1) := by decide +kernel
theorem dL_law_23 : decode cL_law 23 = .ok (.if_icmp .gt 862, 3) := by decide +kernel
theorem dL_law_26 : decode cL_law 26 = .ok (.aload_n 0, 1) := by decide +kernel
theorem dL_law_27 : decode cL_law 27 = .ok (.iload_n 3, 1) := by decide +kernel
theorem dL_law_28 : decode cL_law 28 = .ok (.iaload, 1) := by decide +kernel
theorem dL_law_29 : decode cL_law 29 = .ok (.bipush 31, 2) := by decide +kernel
theorem dL_law_31 : decode cL_law 31 = .ok (.iand, 1) := by decide +kernel
theorem dL_law_32 : decode cL_law 32 = .ok (.tableswitch 847 0 29 #[136, 199, 212, 225, 238, 271, 304, 327, 350, 393, 406, 429, 463, 486, 519, 542, 565, 588, 601, 614, 627, 640, 673, 706, 729, 742, 755, 798, 811, 824], 136) := by decide +kernel
theorem dL_law_168 : decode cL_law 168 = .ok (.aload_n 1, 1) := by decide +kernel
theorem dL_law_169 : decode cL_law 169 = .ok (.aload_n 0, 1) := by decide +kernel
theorem dL_law_170 : decode cL_law 170 = .ok (.iload_n 3, 1) := by decide +kernel
theorem dL_law_171 : decode cL_law 171 = .ok (.iconst 1, 1) := by decide +kernel
theorem dL_law_172 : decode cL_law 172 = .ok (.iadd, 1) := by decide +kernel
theorem dL_law_173 : decode cL_law 173 = .ok (.iaload, 1) := by decide +kernel
theorem dL_law_174 : decode cL_law 174 = .ok (.aload_n 0, 1) := by decide +kernel
theorem dL_law_175 : decode cL_law 175 = .ok (.iload_n 3, 1) := by decide +kernel
theorem dL_law_176 : decode cL_law 176 = .ok (.iconst 2, 1) := by decide +kernel
theorem dL_law_177 : decode cL_law 177 = .ok (.iadd, 1) := by decide +kernel
theorem dL_law_178 : decode cL_law 178 = .ok (.iaload, 1) := by decide +kernel
theorem dL_law_179 : decode cL_law 179 = .ok (.i2l, 1) := by decide +kernel
theorem dL_law_180 : decode cL_law 180 = .ok (.bipush 32, 2) := by decide +kernel
theorem dL_law_182 : decode cL_law 182 = .ok (.lshl, 1) := by decide +kernel
theorem dL_law_183 : decode cL_law 183 = .ok (.aload_n 0, 1) := by decide +kernel
theorem dL_law_184 : decode cL_law 184 = .ok (.iload_n 3, 1) := by decide +kernel
theorem dL_law_185 : decode cL_law 185 = .ok (.iconst 3, 1) := by decide +kernel
theorem dL_law_186 : decode cL_law 186 = .ok (.iadd, 1) := by decide +kernel
theorem dL_law_187 : decode cL_law 187 = .ok (.iaload, 1) := by decide +kernel
theorem dL_law_188 : decode cL_law 188 = .ok (.i2l, 1) := by decide +kernel
theorem dL_law_189 : decode cL_law 189 = .ok (.ldc2_w 13, 3) := by decide +kernel
theorem dL_law_192 : decode cL_law 192 = .ok (.land, 1) := by decide +kernel
theorem dL_law_193 : decode cL_law 193 = .ok (.lor, 1) := by decide +kernel
theorem dL_law_194 : decode cL_law 194 = .ok (.invokevirtual 15, 3) := by decide +kernel
theorem dL_law_197 : decode cL_law 197 = .ok (.aload_n 2, 1) := by decide +kernel
theorem dL_law_198 : decode cL_law 198 = .ok (.aload_n 0, 1) := by decide +kernel
theorem dL_law_199 : decode cL_law 199 = .ok (.iload_n 3, 1) := by decide +kernel
theorem dL_law_200 : decode cL_law 200 = .ok (.iconst 1, 1) := by decide +kernel
theorem dL_law_201 : decode cL_law 201 = .ok (.iadd, 1) := by decide +kernel
theorem dL_law_202 : decode cL_law 202 = .ok (.iaload, 1) := by decide +kernel
theorem dL_law_203 : decode cL_law 203 = .ok (.aload_n 0, 1) := by decide +kernel
theorem dL_law_204 : decode cL_law 204 = .ok (.iload_n 3, 1) := by decide +kernel
theorem dL_law_205 : decode cL_law 205 = .ok (.iconst 2, 1) := by decide +kernel
theorem dL_law_206 : decode cL_law 206 = .ok (.iadd, 1) := by decide +kernel
theorem dL_law_207 : decode cL_law 207 = .ok (.iaload, 1) := by decide +kernel
theorem dL_law_208 : decode cL_law 208 = .ok (.i2l, 1) := by decide +kernel
theorem dL_law_209 : decode cL_law 209 = .ok (.bipush 32, 2) := by decide +kernel
theorem dL_law_211 : decode cL_law 211 = .ok (.lshl, 1) := by decide +kernel
theorem dL_law_212 : decode cL_law 212 = .ok (.aload_n 0, 1) := by decide +kernel
theorem dL_law_213 : decode cL_law 213 = .ok (.iload_n 3, 1) := by decide +kernel
theorem dL_law_214 : decode cL_law 214 = .ok (.iconst 3, 1) := by decide +kernel
theorem dL_law_215 : decode cL_law 215 = .ok (.iadd, 1) := by decide +kernel
theorem dL_law_216 : decode cL_law 216 = .ok (.iaload, 1) := by decide +kernel
theorem dL_law_217 : decode cL_law 217 = .ok (.i2l, 1) := by decide +kernel
theorem dL_law_218 : decode cL_law 218 = .ok (.ldc2_w 13, 3) := by decide +kernel
theorem dL_law_221 : decode cL_law 221 = .ok (.land, 1) := by decide +kernel
theorem dL_law_222 : decode cL_law 222 = .ok (.lor, 1) := by decide +kernel
theorem dL_law_223 : decode cL_law 223 = .ok (.invokevirtual 19, 3) := by decide +kernel
theorem dL_law_226 : decode cL_law 226 = .ok (.if_icmp .eq 653, 3) := by decide +kernel
theorem dL_law_229 : decode cL_law 229 = .ok (.iconst 0, 1) := by decide +kernel
theorem dL_law_230 : decode cL_law 230 = .ok (.ireturn, 1) := by decide +kernel
theorem dL_law_231 : decode cL_law 231 = .ok (.aload_n 1, 1) := by decide +kernel
theorem dL_law_232 : decode cL_law 232 = .ok (.invokevirtual 20, 3) := by decide +kernel
theorem dL_law_235 : decode cL_law 235 = .ok (.aload_n 2, 1) := by decide +kernel
theorem dL_law_236 : decode cL_law 236 = .ok (.invokevirtual 24, 3) := by decide +kernel
theorem dL_law_239 : decode cL_law 239 = .ok (.if_icmp .eq 640, 3) := by decide +kernel
theorem dL_law_242 : decode cL_law 242 = .ok (.iconst 0, 1) := by decide +kernel
theorem dL_law_243 : decode cL_law 243 = .ok (.ireturn, 1) := by decide +kernel
theorem dL_law_244 : decode cL_law 244 = .ok (.aload_n 1, 1) := by decide +kernel
theorem dL_law_245 : decode cL_law 245 = .ok (.invokevirtual 25, 3) := by decide +kernel
theorem dL_law_248 : decode cL_law 248 = .ok (.aload_n 2, 1) := by decide +kernel
theorem dL_law_249 : decode cL_law 249 = .ok (.invokevirtual 28, 3) := by decide +kernel
theorem dL_law_252 : decode cL_law 252 = .ok (.if_icmp .eq 627, 3) := by decide +kernel
theorem dL_law_255 : decode cL_law 255 = .ok (.iconst 0, 1) := by decide +kernel
theorem dL_law_256 : decode cL_law 256 = .ok (.ireturn, 1) := by decide +kernel
theorem dL_law_257 : decode cL_law 257 = .ok (.aload_n 1, 1) := by decide +kernel
theorem dL_law_258 : decode cL_law 258 = .ok (.invokevirtual 29, 3) := by decide +kernel
theorem dL_law_261 : decode cL_law 261 = .ok (.aload_n 2, 1) := by decide +kernel
theorem dL_law_262 : decode cL_law 262 = .ok (.invokevirtual 32, 3) := by decide +kernel
theorem dL_law_265 : decode cL_law 265 = .ok (.if_icmp .eq 614, 3) := by decide +kernel
theorem dL_law_268 : decode cL_law 268 = .ok (.iconst 0, 1) := by decide +kernel
theorem dL_law_269 : decode cL_law 269 = .ok (.ireturn, 1) := by decide +kernel
theorem dL_law_270 : decode cL_law 270 = .ok (.aload_n 1, 1) := by decide +kernel
theorem dL_law_271 : decode cL_law 271 = .ok (.aload_n 0, 1) := by decide +kernel
theorem dL_law_272 : decode cL_law 272 = .ok (.iload_n 3, 1) := by decide +kernel
theorem dL_law_273 : decode cL_law 273 = .ok (.iconst 1, 1) := by decide +kernel
theorem dL_law_274 : decode cL_law 274 = .ok (.iadd, 1) := by decide +kernel
theorem dL_law_275 : decode cL_law 275 = .ok (.iaload, 1) := by decide +kernel
theorem dL_law_276 : decode cL_law 276 = .ok (.aload_n 0, 1) := by decide +kernel
theorem dL_law_277 : decode cL_law 277 = .ok (.iload_n 3, 1) := by decide +kernel
theorem dL_law_278 : decode cL_law 278 = .ok (.iconst 2, 1) := by decide +kernel
theorem dL_law_279 : decode cL_law 279 = .ok (.iadd, 1) := by decide +kernel
theorem dL_law_280 : decode cL_law 280 = .ok (.iaload, 1) := by decide +kernel
theorem dL_law_281 : decode cL_law 281 = .ok (.invokevirtual 33, 3) := by decide +kernel
theorem dL_law_284 : decode cL_law 284 = .ok (.aload_n 2, 1) := by decide +kernel
theorem dL_law_285 : decode cL_law 285 = .ok (.aload_n 0, 1) := by decide +kernel
theorem dL_law_286 : decode cL_law 286 = .ok (.iload_n 3, 1) := by decide +kernel
theorem dL_law_287 : decode cL_law 287 = .ok (.iconst 1, 1) := by decide +kernel
theorem dL_law_288 : decode cL_law 288 = .ok (.iadd, 1) := by decide +kernel
theorem dL_law_289 : decode cL_law 289 = .ok (.iaload, 1) := by decide +kernel
theorem dL_law_290 : decode cL_law 290 = .ok (.aload_n 0, 1) := by decide +kernel
theorem dL_law_291 : decode cL_law 291 = .ok (.iload_n 3, 1) := by decide +kernel
theorem dL_law_292 : decode cL_law 292 = .ok (.iconst 2, 1) := by decide +kernel
theorem dL_law_293 : decode cL_law 293 = .ok (.iadd, 1) := by decide +kernel
theorem dL_law_294 : decode cL_law 294 = .ok (.iaload, 1) := by decide +kernel
theorem dL_law_295 : decode cL_law 295 = .ok (.invokevirtual 37, 3) := by decide +kernel
theorem dL_law_298 : decode cL_law 298 = .ok (.if_icmp .eq 581, 3) := by decide +kernel
theorem dL_law_301 : decode cL_law 301 = .ok (.iconst 0, 1) := by decide +kernel
theorem dL_law_302 : decode cL_law 302 = .ok (.ireturn, 1) := by decide +kernel
theorem dL_law_303 : decode cL_law 303 = .ok (.aload_n 1, 1) := by decide +kernel
theorem dL_law_304 : decode cL_law 304 = .ok (.aload_n 0, 1) := by decide +kernel
theorem dL_law_305 : decode cL_law 305 = .ok (.iload_n 3, 1) := by decide +kernel
theorem dL_law_306 : decode cL_law 306 = .ok (.iconst 1, 1) := by decide +kernel
theorem dL_law_307 : decode cL_law 307 = .ok (.iadd, 1) := by decide +kernel
theorem dL_law_308 : decode cL_law 308 = .ok (.iaload, 1) := by decide +kernel
theorem dL_law_309 : decode cL_law 309 = .ok (.aload_n 0, 1) := by decide +kernel
theorem dL_law_310 : decode cL_law 310 = .ok (.iload_n 3, 1) := by decide +kernel
theorem dL_law_311 : decode cL_law 311 = .ok (.iconst 2, 1) := by decide +kernel
theorem dL_law_312 : decode cL_law 312 = .ok (.iadd, 1) := by decide +kernel
theorem dL_law_313 : decode cL_law 313 = .ok (.iaload, 1) := by decide +kernel
theorem dL_law_314 : decode cL_law 314 = .ok (.invokevirtual 38, 3) := by decide +kernel
theorem dL_law_317 : decode cL_law 317 = .ok (.aload_n 2, 1) := by decide +kernel
theorem dL_law_318 : decode cL_law 318 = .ok (.aload_n 0, 1) := by decide +kernel
theorem dL_law_319 : decode cL_law 319 = .ok (.iload_n 3, 1) := by decide +kernel
theorem dL_law_320 : decode cL_law 320 = .ok (.iconst 1, 1) := by decide +kernel
theorem dL_law_321 : decode cL_law 321 = .ok (.iadd, 1) := by decide +kernel
theorem dL_law_322 : decode cL_law 322 = .ok (.iaload, 1) := by decide +kernel
theorem dL_law_323 : decode cL_law 323 = .ok (.aload_n 0, 1) := by decide +kernel
theorem dL_law_324 : decode cL_law 324 = .ok (.iload_n 3, 1) := by decide +kernel
theorem dL_law_325 : decode cL_law 325 = .ok (.iconst 2, 1) := by decide +kernel
theorem dL_law_326 : decode cL_law 326 = .ok (.iadd, 1) := by decide +kernel
theorem dL_law_327 : decode cL_law 327 = .ok (.iaload, 1) := by decide +kernel
theorem dL_law_328 : decode cL_law 328 = .ok (.invokevirtual 41, 3) := by decide +kernel
theorem dL_law_331 : decode cL_law 331 = .ok (.if_icmp .eq 548, 3) := by decide +kernel
theorem dL_law_334 : decode cL_law 334 = .ok (.iconst 0, 1) := by decide +kernel
theorem dL_law_335 : decode cL_law 335 = .ok (.ireturn, 1) := by decide +kernel
theorem dL_law_336 : decode cL_law 336 = .ok (.aload_n 1, 1) := by decide +kernel
theorem dL_law_337 : decode cL_law 337 = .ok (.aload_n 0, 1) := by decide +kernel
theorem dL_law_338 : decode cL_law 338 = .ok (.iload_n 3, 1) := by decide +kernel
theorem dL_law_339 : decode cL_law 339 = .ok (.iconst 1, 1) := by decide +kernel
theorem dL_law_340 : decode cL_law 340 = .ok (.iadd, 1) := by decide +kernel
theorem dL_law_341 : decode cL_law 341 = .ok (.iaload, 1) := by decide +kernel
theorem dL_law_342 : decode cL_law 342 = .ok (.invokevirtual 42, 3) := by decide +kernel
theorem dL_law_345 : decode cL_law 345 = .ok (.aload_n 2, 1) := by decide +kernel
theorem dL_law_346 : decode cL_law 346 = .ok (.aload_n 0, 1) := by decide +kernel
theorem dL_law_347 : decode cL_law 347 = .ok (.iload_n 3, 1) := by decide +kernel
theorem dL_law_348 : decode cL_law 348 = .ok (.iconst 1, 1) := by decide +kernel
theorem dL_law_349 : decode cL_law 349 = .ok (.iadd, 1) := by decide +kernel
theorem dL_law_350 : decode cL_law 350 = .ok (.iaload, 1) := by decide +kernel
theorem dL_law_351 : decode cL_law 351 = .ok (.invokevirtual 46, 3) := by decide +kernel
theorem dL_law_354 : decode cL_law 354 = .ok (.if_icmp .eq 525, 3) := by decide +kernel
theorem dL_law_357 : decode cL_law 357 = .ok (.iconst 0, 1) := by decide +kernel
theorem dL_law_358 : decode cL_law 358 = .ok (.ireturn, 1) := by decide +kernel
theorem dL_law_359 : decode cL_law 359 = .ok (.aload_n 1, 1) := by decide +kernel
theorem dL_law_360 : decode cL_law 360 = .ok (.aload_n 0, 1) := by decide +kernel
theorem dL_law_361 : decode cL_law 361 = .ok (.iload_n 3, 1) := by decide +kernel
theorem dL_law_362 : decode cL_law 362 = .ok (.iconst 1, 1) := by decide +kernel
theorem dL_law_363 : decode cL_law 363 = .ok (.iadd, 1) := by decide +kernel
theorem dL_law_364 : decode cL_law 364 = .ok (.iaload, 1) := by decide +kernel
theorem dL_law_365 : decode cL_law 365 = .ok (.invokevirtual 47, 3) := by decide +kernel
theorem dL_law_368 : decode cL_law 368 = .ok (.aload_n 2, 1) := by decide +kernel
theorem dL_law_369 : decode cL_law 369 = .ok (.aload_n 0, 1) := by decide +kernel
theorem dL_law_370 : decode cL_law 370 = .ok (.iload_n 3, 1) := by decide +kernel
theorem dL_law_371 : decode cL_law 371 = .ok (.iconst 1, 1) := by decide +kernel
theorem dL_law_372 : decode cL_law 372 = .ok (.iadd, 1) := by decide +kernel
theorem dL_law_373 : decode cL_law 373 = .ok (.iaload, 1) := by decide +kernel
theorem dL_law_374 : decode cL_law 374 = .ok (.invokevirtual 50, 3) := by decide +kernel
theorem dL_law_377 : decode cL_law 377 = .ok (.if_icmp .eq 502, 3) := by decide +kernel
theorem dL_law_380 : decode cL_law 380 = .ok (.iconst 0, 1) := by decide +kernel
theorem dL_law_381 : decode cL_law 381 = .ok (.ireturn, 1) := by decide +kernel
theorem dL_law_382 : decode cL_law 382 = .ok (.aload_n 1, 1) := by decide +kernel
theorem dL_law_383 : decode cL_law 383 = .ok (.aload_n 0, 1) := by decide +kernel
theorem dL_law_384 : decode cL_law 384 = .ok (.iload_n 3, 1) := by decide +kernel
theorem dL_law_385 : decode cL_law 385 = .ok (.iconst 1, 1) := by decide +kernel
theorem dL_law_386 : decode cL_law 386 = .ok (.iadd, 1) := by decide +kernel
theorem dL_law_387 : decode cL_law 387 = .ok (.iaload, 1) := by decide +kernel
theorem dL_law_388 : decode cL_law 388 = .ok (.aload_n 0, 1) := by decide +kernel
theorem dL_law_389 : decode cL_law 389 = .ok (.iload_n 3, 1) := by decide +kernel
theorem dL_law_390 : decode cL_law 390 = .ok (.iconst 2, 1) := by decide +kernel
theorem dL_law_391 : decode cL_law 391 = .ok (.iadd, 1) := by decide +kernel
theorem dL_law_392 : decode cL_law 392 = .ok (.iaload, 1) := by decide +kernel
theorem dL_law_393 : decode cL_law 393 = .ok (.aload_n 0, 1) := by decide +kernel
theorem dL_law_394 : decode cL_law 394 = .ok (.iload_n 3, 1) := by decide +kernel
theorem dL_law_395 : decode cL_law 395 = .ok (.iconst 3, 1) := by decide +kernel
theorem dL_law_396 : decode cL_law 396 = .ok (.iadd, 1) := by decide +kernel
theorem dL_law_397 : decode cL_law 397 = .ok (.iaload, 1) := by decide +kernel
theorem dL_law_398 : decode cL_law 398 = .ok (.invokevirtual 51, 3) := by decide +kernel
theorem dL_law_401 : decode cL_law 401 = .ok (.aload_n 2, 1) := by decide +kernel
theorem dL_law_402 : decode cL_law 402 = .ok (.aload_n 0, 1) := by decide +kernel
theorem dL_law_403 : decode cL_law 403 = .ok (.iload_n 3, 1) := by decide +kernel
theorem dL_law_404 : decode cL_law 404 = .ok (.iconst 1, 1) := by decide +kernel
theorem dL_law_405 : decode cL_law 405 = .ok (.iadd, 1) := by decide +kernel
theorem dL_law_406 : decode cL_law 406 = .ok (.iaload, 1) := by decide +kernel
theorem dL_law_407 : decode cL_law 407 = .ok (.aload_n 0, 1) := by decide +kernel
theorem dL_law_408 : decode cL_law 408 = .ok (.iload_n 3, 1) := by decide +kernel
theorem dL_law_409 : decode cL_law 409 = .ok (.iconst 2, 1) := by decide +kernel
theorem dL_law_410 : decode cL_law 410 = .ok (.iadd, 1) := by decide +kernel
theorem dL_law_411 : decode cL_law 411 = .ok (.iaload, 1) := by decide +kernel
theorem dL_law_412 : decode cL_law 412 = .ok (.aload_n 0, 1) := by decide +kernel
theorem dL_law_413 : decode cL_law 413 = .ok (.iload_n 3, 1) := by decide +kernel
theorem dL_law_414 : decode cL_law 414 = .ok (.iconst 3, 1) := by decide +kernel
theorem dL_law_415 : decode cL_law 415 = .ok (.iadd, 1) := by decide +kernel
theorem dL_law_416 : decode cL_law 416 = .ok (.iaload, 1) := by decide +kernel
theorem dL_law_417 : decode cL_law 417 = .ok (.invokevirtual 55, 3) := by decide +kernel
theorem dL_law_420 : decode cL_law 420 = .ok (.if_icmp .eq 459, 3) := by decide +kernel
theorem dL_law_423 : decode cL_law 423 = .ok (.iconst 0, 1) := by decide +kernel
theorem dL_law_424 : decode cL_law 424 = .ok (.ireturn, 1) := by decide +kernel
theorem dL_law_425 : decode cL_law 425 = .ok (.aload_n 1, 1) := by decide +kernel
theorem dL_law_426 : decode cL_law 426 = .ok (.invokevirtual 56, 3) := by decide +kernel
theorem dL_law_429 : decode cL_law 429 = .ok (.aload_n 2, 1) := by decide +kernel
theorem dL_law_430 : decode cL_law 430 = .ok (.invokevirtual 59, 3) := by decide +kernel
theorem dL_law_433 : decode cL_law 433 = .ok (.if_icmp .eq 446, 3) := by decide +kernel
theorem dL_law_436 : decode cL_law 436 = .ok (.iconst 0, 1) := by decide +kernel
theorem dL_law_437 : decode cL_law 437 = .ok (.ireturn, 1) := by decide +kernel
theorem dL_law_438 : decode cL_law 438 = .ok (.aload_n 1, 1) := by decide +kernel
theorem dL_law_439 : decode cL_law 439 = .ok (.aload_n 0, 1) := by decide +kernel
theorem dL_law_440 : decode cL_law 440 = .ok (.iload_n 3, 1) := by decide +kernel
theorem dL_law_441 : decode cL_law 441 = .ok (.iconst 1, 1) := by decide +kernel
theorem dL_law_442 : decode cL_law 442 = .ok (.iadd, 1) := by decide +kernel
theorem dL_law_443 : decode cL_law 443 = .ok (.iaload, 1) := by decide +kernel
theorem dL_law_444 : decode cL_law 444 = .ok (.invokevirtual 60, 3) := by decide +kernel
theorem dL_law_447 : decode cL_law 447 = .ok (.aload_n 2, 1) := by decide +kernel
theorem dL_law_448 : decode cL_law 448 = .ok (.aload_n 0, 1) := by decide +kernel
theorem dL_law_449 : decode cL_law 449 = .ok (.iload_n 3, 1) := by decide +kernel
theorem dL_law_450 : decode cL_law 450 = .ok (.iconst 1, 1) := by decide +kernel
theorem dL_law_451 : decode cL_law 451 = .ok (.iadd, 1) := by decide +kernel
theorem dL_law_452 : decode cL_law 452 = .ok (.iaload, 1) := by decide +kernel
theorem dL_law_453 : decode cL_law 453 = .ok (.invokevirtual 63, 3) := by decide +kernel
theorem dL_law_456 : decode cL_law 456 = .ok (.if_icmp .eq 423, 3) := by decide +kernel
theorem dL_law_459 : decode cL_law 459 = .ok (.iconst 0, 1) := by decide +kernel
theorem dL_law_460 : decode cL_law 460 = .ok (.ireturn, 1) := by decide +kernel
theorem dL_law_461 : decode cL_law 461 = .ok (.aload_n 1, 1) := by decide +kernel
theorem dL_law_462 : decode cL_law 462 = .ok (.aload_n 0, 1) := by decide +kernel
theorem dL_law_463 : decode cL_law 463 = .ok (.iload_n 3, 1) := by decide +kernel
theorem dL_law_464 : decode cL_law 464 = .ok (.iconst 1, 1) := by decide +kernel
theorem dL_law_465 : decode cL_law 465 = .ok (.iadd, 1) := by decide +kernel
theorem dL_law_466 : decode cL_law 466 = .ok (.iaload, 1) := by decide +kernel
theorem dL_law_467 : decode cL_law 467 = .ok (.aload_n 0, 1) := by decide +kernel
theorem dL_law_468 : decode cL_law 468 = .ok (.iload_n 3, 1) := by decide +kernel
theorem dL_law_469 : decode cL_law 469 = .ok (.iconst 2, 1) := by decide +kernel
theorem dL_law_470 : decode cL_law 470 = .ok (.iadd, 1) := by decide +kernel
theorem dL_law_471 : decode cL_law 471 = .ok (.iaload, 1) := by decide +kernel
theorem dL_law_472 : decode cL_law 472 = .ok (.invokevirtual 64, 3) := by decide +kernel
theorem dL_law_475 : decode cL_law 475 = .ok (.aload_n 2, 1) := by decide +kernel
theorem dL_law_476 : decode cL_law 476 = .ok (.aload_n 0, 1) := by decide +kernel
theorem dL_law_477 : decode cL_law 477 = .ok (.iload_n 3, 1) := by decide +kernel
theorem dL_law_478 : decode cL_law 478 = .ok (.iconst 1, 1) := by decide +kernel
theorem dL_law_479 : decode cL_law 479 = .ok (.iadd, 1) := by decide +kernel
theorem dL_law_480 : decode cL_law 480 = .ok (.iaload, 1) := by decide +kernel
theorem dL_law_481 : decode cL_law 481 = .ok (.aload_n 0, 1) := by decide +kernel
theorem dL_law_482 : decode cL_law 482 = .ok (.iload_n 3, 1) := by decide +kernel
theorem dL_law_483 : decode cL_law 483 = .ok (.iconst 2, 1) := by decide +kernel
theorem dL_law_484 : decode cL_law 484 = .ok (.iadd, 1) := by decide +kernel
theorem dL_law_485 : decode cL_law 485 = .ok (.iaload, 1) := by decide +kernel
theorem dL_law_486 : decode cL_law 486 = .ok (.invokevirtual 68, 3) := by decide +kernel
theorem dL_law_489 : decode cL_law 489 = .ok (.lcmp, 1) := by decide +kernel
theorem dL_law_490 : decode cL_law 490 = .ok (.ifCond .eq 389, 3) := by decide +kernel
theorem dL_law_493 : decode cL_law 493 = .ok (.iconst 0, 1) := by decide +kernel
theorem dL_law_494 : decode cL_law 494 = .ok (.ireturn, 1) := by decide +kernel
theorem dL_law_495 : decode cL_law 495 = .ok (.aload_n 1, 1) := by decide +kernel
theorem dL_law_496 : decode cL_law 496 = .ok (.aload_n 0, 1) := by decide +kernel
theorem dL_law_497 : decode cL_law 497 = .ok (.iload_n 3, 1) := by decide +kernel
theorem dL_law_498 : decode cL_law 498 = .ok (.iconst 1, 1) := by decide +kernel
theorem dL_law_499 : decode cL_law 499 = .ok (.iadd, 1) := by decide +kernel
theorem dL_law_500 : decode cL_law 500 = .ok (.iaload, 1) := by decide +kernel
theorem dL_law_501 : decode cL_law 501 = .ok (.invokevirtual 69, 3) := by decide +kernel
theorem dL_law_504 : decode cL_law 504 = .ok (.aload_n 2, 1) := by decide +kernel
theorem dL_law_505 : decode cL_law 505 = .ok (.aload_n 0, 1) := by decide +kernel
theorem dL_law_506 : decode cL_law 506 = .ok (.iload_n 3, 1) := by decide +kernel
theorem dL_law_507 : decode cL_law 507 = .ok (.iconst 1, 1) := by decide +kernel
theorem dL_law_508 : decode cL_law 508 = .ok (.iadd, 1) := by decide +kernel
theorem dL_law_509 : decode cL_law 509 = .ok (.iaload, 1) := by decide +kernel
theorem dL_law_510 : decode cL_law 510 = .ok (.invokevirtual 72, 3) := by decide +kernel
theorem dL_law_513 : decode cL_law 513 = .ok (.if_icmp .eq 366, 3) := by decide +kernel
theorem dL_law_516 : decode cL_law 516 = .ok (.iconst 0, 1) := by decide +kernel
theorem dL_law_517 : decode cL_law 517 = .ok (.ireturn, 1) := by decide +kernel
theorem dL_law_518 : decode cL_law 518 = .ok (.aload_n 1, 1) := by decide +kernel
theorem dL_law_519 : decode cL_law 519 = .ok (.aload_n 0, 1) := by decide +kernel
theorem dL_law_520 : decode cL_law 520 = .ok (.iload_n 3, 1) := by decide +kernel
theorem dL_law_521 : decode cL_law 521 = .ok (.iconst 1, 1) := by decide +kernel
theorem dL_law_522 : decode cL_law 522 = .ok (.iadd, 1) := by decide +kernel
theorem dL_law_523 : decode cL_law 523 = .ok (.iaload, 1) := by decide +kernel
theorem dL_law_524 : decode cL_law 524 = .ok (.aload_n 0, 1) := by decide +kernel
theorem dL_law_525 : decode cL_law 525 = .ok (.iload_n 3, 1) := by decide +kernel
theorem dL_law_526 : decode cL_law 526 = .ok (.iconst 2, 1) := by decide +kernel
theorem dL_law_527 : decode cL_law 527 = .ok (.iadd, 1) := by decide +kernel
theorem dL_law_528 : decode cL_law 528 = .ok (.iaload, 1) := by decide +kernel
theorem dL_law_529 : decode cL_law 529 = .ok (.invokevirtual 73, 3) := by decide +kernel
theorem dL_law_532 : decode cL_law 532 = .ok (.aload_n 2, 1) := by decide +kernel
theorem dL_law_533 : decode cL_law 533 = .ok (.aload_n 0, 1) := by decide +kernel
theorem dL_law_534 : decode cL_law 534 = .ok (.iload_n 3, 1) := by decide +kernel
theorem dL_law_535 : decode cL_law 535 = .ok (.iconst 1, 1) := by decide +kernel
theorem dL_law_536 : decode cL_law 536 = .ok (.iadd, 1) := by decide +kernel
theorem dL_law_537 : decode cL_law 537 = .ok (.iaload, 1) := by decide +kernel
theorem dL_law_538 : decode cL_law 538 = .ok (.aload_n 0, 1) := by decide +kernel
theorem dL_law_539 : decode cL_law 539 = .ok (.iload_n 3, 1) := by decide +kernel
theorem dL_law_540 : decode cL_law 540 = .ok (.iconst 2, 1) := by decide +kernel
theorem dL_law_541 : decode cL_law 541 = .ok (.iadd, 1) := by decide +kernel
theorem dL_law_542 : decode cL_law 542 = .ok (.iaload, 1) := by decide +kernel
theorem dL_law_543 : decode cL_law 543 = .ok (.invokevirtual 76, 3) := by decide +kernel
theorem dL_law_546 : decode cL_law 546 = .ok (.if_icmp .eq 333, 3) := by decide +kernel
theorem dL_law_549 : decode cL_law 549 = .ok (.iconst 0, 1) := by decide +kernel
theorem dL_law_550 : decode cL_law 550 = .ok (.ireturn, 1) := by decide +kernel
theorem dL_law_551 : decode cL_law 551 = .ok (.aload_n 1, 1) := by decide +kernel
theorem dL_law_552 : decode cL_law 552 = .ok (.aload_n 0, 1) := by decide +kernel
theorem dL_law_553 : decode cL_law 553 = .ok (.iload_n 3, 1) := by decide +kernel
theorem dL_law_554 : decode cL_law 554 = .ok (.iconst 1, 1) := by decide +kernel
theorem dL_law_555 : decode cL_law 555 = .ok (.iadd, 1) := by decide +kernel
theorem dL_law_556 : decode cL_law 556 = .ok (.iaload, 1) := by decide +kernel
theorem dL_law_557 : decode cL_law 557 = .ok (.invokevirtual 77, 3) := by decide +kernel
theorem dL_law_560 : decode cL_law 560 = .ok (.aload_n 2, 1) := by decide +kernel
theorem dL_law_561 : decode cL_law 561 = .ok (.aload_n 0, 1) := by decide +kernel
theorem dL_law_562 : decode cL_law 562 = .ok (.iload_n 3, 1) := by decide +kernel
theorem dL_law_563 : decode cL_law 563 = .ok (.iconst 1, 1) := by decide +kernel
theorem dL_law_564 : decode cL_law 564 = .ok (.iadd, 1) := by decide +kernel
theorem dL_law_565 : decode cL_law 565 = .ok (.iaload, 1) := by decide +kernel
theorem dL_law_566 : decode cL_law 566 = .ok (.invokevirtual 80, 3) := by decide +kernel
theorem dL_law_569 : decode cL_law 569 = .ok (.if_icmp .eq 310, 3) := by decide +kernel
theorem dL_law_572 : decode cL_law 572 = .ok (.iconst 0, 1) := by decide +kernel
theorem dL_law_573 : decode cL_law 573 = .ok (.ireturn, 1) := by decide +kernel
theorem dL_law_574 : decode cL_law 574 = .ok (.aload_n 1, 1) := by decide +kernel
theorem dL_law_575 : decode cL_law 575 = .ok (.aload_n 0, 1) := by decide +kernel
theorem dL_law_576 : decode cL_law 576 = .ok (.iload_n 3, 1) := by decide +kernel
theorem dL_law_577 : decode cL_law 577 = .ok (.iconst 1, 1) := by decide +kernel
theorem dL_law_578 : decode cL_law 578 = .ok (.iadd, 1) := by decide +kernel
theorem dL_law_579 : decode cL_law 579 = .ok (.iaload, 1) := by decide +kernel
theorem dL_law_580 : decode cL_law 580 = .ok (.invokevirtual 81, 3) := by decide +kernel
theorem dL_law_583 : decode cL_law 583 = .ok (.aload_n 2, 1) := by decide +kernel
theorem dL_law_584 : decode cL_law 584 = .ok (.aload_n 0, 1) := by decide +kernel
theorem dL_law_585 : decode cL_law 585 = .ok (.iload_n 3, 1) := by decide +kernel
theorem dL_law_586 : decode cL_law 586 = .ok (.iconst 1, 1) := by decide +kernel
theorem dL_law_587 : decode cL_law 587 = .ok (.iadd, 1) := by decide +kernel
theorem dL_law_588 : decode cL_law 588 = .ok (.iaload, 1) := by decide +kernel
theorem dL_law_589 : decode cL_law 589 = .ok (.invokevirtual 84, 3) := by decide +kernel
theorem dL_law_592 : decode cL_law 592 = .ok (.if_icmp .eq 287, 3) := by decide +kernel
theorem dL_law_595 : decode cL_law 595 = .ok (.iconst 0, 1) := by decide +kernel
theorem dL_law_596 : decode cL_law 596 = .ok (.ireturn, 1) := by decide +kernel
theorem dL_law_597 : decode cL_law 597 = .ok (.aload_n 1, 1) := by decide +kernel
theorem dL_law_598 : decode cL_law 598 = .ok (.aload_n 0, 1) := by decide +kernel
theorem dL_law_599 : decode cL_law 599 = .ok (.iload_n 3, 1) := by decide +kernel
theorem dL_law_600 : decode cL_law 600 = .ok (.iconst 1, 1) := by decide +kernel
theorem dL_law_601 : decode cL_law 601 = .ok (.iadd, 1) := by decide +kernel
theorem dL_law_602 : decode cL_law 602 = .ok (.iaload, 1) := by decide +kernel
theorem dL_law_603 : decode cL_law 603 = .ok (.invokevirtual 85, 3) := by decide +kernel
theorem dL_law_606 : decode cL_law 606 = .ok (.aload_n 2, 1) := by decide +kernel
theorem dL_law_607 : decode cL_law 607 = .ok (.aload_n 0, 1) := by decide +kernel
theorem dL_law_608 : decode cL_law 608 = .ok (.iload_n 3, 1) := by decide +kernel
theorem dL_law_609 : decode cL_law 609 = .ok (.iconst 1, 1) := by decide +kernel
theorem dL_law_610 : decode cL_law 610 = .ok (.iadd, 1) := by decide +kernel
theorem dL_law_611 : decode cL_law 611 = .ok (.iaload, 1) := by decide +kernel
theorem dL_law_612 : decode cL_law 612 = .ok (.invokevirtual 88, 3) := by decide +kernel
theorem dL_law_615 : decode cL_law 615 = .ok (.if_icmp .eq 264, 3) := by decide +kernel
theorem dL_law_618 : decode cL_law 618 = .ok (.iconst 0, 1) := by decide +kernel
theorem dL_law_619 : decode cL_law 619 = .ok (.ireturn, 1) := by decide +kernel
theorem dL_law_620 : decode cL_law 620 = .ok (.aload_n 1, 1) := by decide +kernel
theorem dL_law_621 : decode cL_law 621 = .ok (.invokevirtual 89, 3) := by decide +kernel
theorem dL_law_624 : decode cL_law 624 = .ok (.aload_n 2, 1) := by decide +kernel
theorem dL_law_625 : decode cL_law 625 = .ok (.invokevirtual 92, 3) := by decide +kernel
theorem dL_law_628 : decode cL_law 628 = .ok (.if_icmp .eq 251, 3) := by decide +kernel
theorem dL_law_631 : decode cL_law 631 = .ok (.iconst 0, 1) := by decide +kernel
theorem dL_law_632 : decode cL_law 632 = .ok (.ireturn, 1) := by decide +kernel
theorem dL_law_633 : decode cL_law 633 = .ok (.aload_n 1, 1) := by decide +kernel
theorem dL_law_634 : decode cL_law 634 = .ok (.invokevirtual 93, 3) := by decide +kernel
theorem dL_law_637 : decode cL_law 637 = .ok (.aload_n 2, 1) := by decide +kernel
theorem dL_law_638 : decode cL_law 638 = .ok (.invokevirtual 96, 3) := by decide +kernel
theorem dL_law_641 : decode cL_law 641 = .ok (.if_icmp .eq 238, 3) := by decide +kernel
theorem dL_law_644 : decode cL_law 644 = .ok (.iconst 0, 1) := by decide +kernel
theorem dL_law_645 : decode cL_law 645 = .ok (.ireturn, 1) := by decide +kernel
theorem dL_law_646 : decode cL_law 646 = .ok (.aload_n 1, 1) := by decide +kernel
theorem dL_law_647 : decode cL_law 647 = .ok (.invokevirtual 97, 3) := by decide +kernel
theorem dL_law_650 : decode cL_law 650 = .ok (.aload_n 2, 1) := by decide +kernel
theorem dL_law_651 : decode cL_law 651 = .ok (.invokevirtual 100, 3) := by decide +kernel
theorem dL_law_654 : decode cL_law 654 = .ok (.if_icmp .eq 225, 3) := by decide +kernel
theorem dL_law_657 : decode cL_law 657 = .ok (.iconst 0, 1) := by decide +kernel
theorem dL_law_658 : decode cL_law 658 = .ok (.ireturn, 1) := by decide +kernel
theorem dL_law_659 : decode cL_law 659 = .ok (.aload_n 1, 1) := by decide +kernel
theorem dL_law_660 : decode cL_law 660 = .ok (.invokevirtual 101, 3) := by decide +kernel
theorem dL_law_663 : decode cL_law 663 = .ok (.aload_n 2, 1) := by decide +kernel
theorem dL_law_664 : decode cL_law 664 = .ok (.invokevirtual 104, 3) := by decide +kernel
theorem dL_law_667 : decode cL_law 667 = .ok (.if_icmp .eq 212, 3) := by decide +kernel
theorem dL_law_670 : decode cL_law 670 = .ok (.iconst 0, 1) := by decide +kernel
theorem dL_law_671 : decode cL_law 671 = .ok (.ireturn, 1) := by decide +kernel
theorem dL_law_672 : decode cL_law 672 = .ok (.aload_n 1, 1) := by decide +kernel
theorem dL_law_673 : decode cL_law 673 = .ok (.aload_n 0, 1) := by decide +kernel
theorem dL_law_674 : decode cL_law 674 = .ok (.iload_n 3, 1) := by decide +kernel
theorem dL_law_675 : decode cL_law 675 = .ok (.iconst 1, 1) := by decide +kernel
theorem dL_law_676 : decode cL_law 676 = .ok (.iadd, 1) := by decide +kernel
theorem dL_law_677 : decode cL_law 677 = .ok (.iaload, 1) := by decide +kernel
theorem dL_law_678 : decode cL_law 678 = .ok (.aload_n 0, 1) := by decide +kernel
theorem dL_law_679 : decode cL_law 679 = .ok (.iload_n 3, 1) := by decide +kernel
theorem dL_law_680 : decode cL_law 680 = .ok (.iconst 2, 1) := by decide +kernel
theorem dL_law_681 : decode cL_law 681 = .ok (.iadd, 1) := by decide +kernel
theorem dL_law_682 : decode cL_law 682 = .ok (.iaload, 1) := by decide +kernel
theorem dL_law_683 : decode cL_law 683 = .ok (.invokevirtual 105, 3) := by decide +kernel
theorem dL_law_686 : decode cL_law 686 = .ok (.aload_n 2, 1) := by decide +kernel
theorem dL_law_687 : decode cL_law 687 = .ok (.aload_n 0, 1) := by decide +kernel
theorem dL_law_688 : decode cL_law 688 = .ok (.iload_n 3, 1) := by decide +kernel
theorem dL_law_689 : decode cL_law 689 = .ok (.iconst 1, 1) := by decide +kernel
theorem dL_law_690 : decode cL_law 690 = .ok (.iadd, 1) := by decide +kernel
theorem dL_law_691 : decode cL_law 691 = .ok (.iaload, 1) := by decide +kernel
theorem dL_law_692 : decode cL_law 692 = .ok (.aload_n 0, 1) := by decide +kernel
theorem dL_law_693 : decode cL_law 693 = .ok (.iload_n 3, 1) := by decide +kernel
theorem dL_law_694 : decode cL_law 694 = .ok (.iconst 2, 1) := by decide +kernel
theorem dL_law_695 : decode cL_law 695 = .ok (.iadd, 1) := by decide +kernel
theorem dL_law_696 : decode cL_law 696 = .ok (.iaload, 1) := by decide +kernel
theorem dL_law_697 : decode cL_law 697 = .ok (.invokevirtual 108, 3) := by decide +kernel
theorem dL_law_700 : decode cL_law 700 = .ok (.if_icmp .eq 179, 3) := by decide +kernel
theorem dL_law_703 : decode cL_law 703 = .ok (.iconst 0, 1) := by decide +kernel
theorem dL_law_704 : decode cL_law 704 = .ok (.ireturn, 1) := by decide +kernel
theorem dL_law_705 : decode cL_law 705 = .ok (.aload_n 1, 1) := by decide +kernel
theorem dL_law_706 : decode cL_law 706 = .ok (.aload_n 0, 1) := by decide +kernel
theorem dL_law_707 : decode cL_law 707 = .ok (.iload_n 3, 1) := by decide +kernel
theorem dL_law_708 : decode cL_law 708 = .ok (.iconst 1, 1) := by decide +kernel
theorem dL_law_709 : decode cL_law 709 = .ok (.iadd, 1) := by decide +kernel
theorem dL_law_710 : decode cL_law 710 = .ok (.iaload, 1) := by decide +kernel
theorem dL_law_711 : decode cL_law 711 = .ok (.aload_n 0, 1) := by decide +kernel
theorem dL_law_712 : decode cL_law 712 = .ok (.iload_n 3, 1) := by decide +kernel
theorem dL_law_713 : decode cL_law 713 = .ok (.iconst 2, 1) := by decide +kernel
theorem dL_law_714 : decode cL_law 714 = .ok (.iadd, 1) := by decide +kernel
theorem dL_law_715 : decode cL_law 715 = .ok (.iaload, 1) := by decide +kernel
theorem dL_law_716 : decode cL_law 716 = .ok (.invokevirtual 109, 3) := by decide +kernel
theorem dL_law_719 : decode cL_law 719 = .ok (.aload_n 2, 1) := by decide +kernel
theorem dL_law_720 : decode cL_law 720 = .ok (.aload_n 0, 1) := by decide +kernel
theorem dL_law_721 : decode cL_law 721 = .ok (.iload_n 3, 1) := by decide +kernel
theorem dL_law_722 : decode cL_law 722 = .ok (.iconst 1, 1) := by decide +kernel
theorem dL_law_723 : decode cL_law 723 = .ok (.iadd, 1) := by decide +kernel
theorem dL_law_724 : decode cL_law 724 = .ok (.iaload, 1) := by decide +kernel
theorem dL_law_725 : decode cL_law 725 = .ok (.aload_n 0, 1) := by decide +kernel
theorem dL_law_726 : decode cL_law 726 = .ok (.iload_n 3, 1) := by decide +kernel
theorem dL_law_727 : decode cL_law 727 = .ok (.iconst 2, 1) := by decide +kernel
theorem dL_law_728 : decode cL_law 728 = .ok (.iadd, 1) := by decide +kernel
theorem dL_law_729 : decode cL_law 729 = .ok (.iaload, 1) := by decide +kernel
theorem dL_law_730 : decode cL_law 730 = .ok (.invokevirtual 112, 3) := by decide +kernel
theorem dL_law_733 : decode cL_law 733 = .ok (.if_icmp .eq 146, 3) := by decide +kernel
theorem dL_law_736 : decode cL_law 736 = .ok (.iconst 0, 1) := by decide +kernel
theorem dL_law_737 : decode cL_law 737 = .ok (.ireturn, 1) := by decide +kernel
theorem dL_law_738 : decode cL_law 738 = .ok (.aload_n 1, 1) := by decide +kernel
theorem dL_law_739 : decode cL_law 739 = .ok (.aload_n 0, 1) := by decide +kernel
theorem dL_law_740 : decode cL_law 740 = .ok (.iload_n 3, 1) := by decide +kernel
theorem dL_law_741 : decode cL_law 741 = .ok (.iconst 1, 1) := by decide +kernel
theorem dL_law_742 : decode cL_law 742 = .ok (.iadd, 1) := by decide +kernel
theorem dL_law_743 : decode cL_law 743 = .ok (.iaload, 1) := by decide +kernel
theorem dL_law_744 : decode cL_law 744 = .ok (.invokevirtual 113, 3) := by decide +kernel
theorem dL_law_747 : decode cL_law 747 = .ok (.aload_n 2, 1) := by decide +kernel
theorem dL_law_748 : decode cL_law 748 = .ok (.aload_n 0, 1) := by decide +kernel
theorem dL_law_749 : decode cL_law 749 = .ok (.iload_n 3, 1) := by decide +kernel
theorem dL_law_750 : decode cL_law 750 = .ok (.iconst 1, 1) := by decide +kernel
theorem dL_law_751 : decode cL_law 751 = .ok (.iadd, 1) := by decide +kernel
theorem dL_law_752 : decode cL_law 752 = .ok (.iaload, 1) := by decide +kernel
theorem dL_law_753 : decode cL_law 753 = .ok (.invokevirtual 116, 3) := by decide +kernel
theorem dL_law_756 : decode cL_law 756 = .ok (.if_icmp .eq 123, 3) := by decide +kernel
theorem dL_law_759 : decode cL_law 759 = .ok (.iconst 0, 1) := by decide +kernel
theorem dL_law_760 : decode cL_law 760 = .ok (.ireturn, 1) := by decide +kernel
theorem dL_law_761 : decode cL_law 761 = .ok (.aload_n 1, 1) := by decide +kernel
theorem dL_law_762 : decode cL_law 762 = .ok (.invokevirtual 117, 3) := by decide +kernel
theorem dL_law_765 : decode cL_law 765 = .ok (.aload_n 2, 1) := by decide +kernel
theorem dL_law_766 : decode cL_law 766 = .ok (.invokevirtual 120, 3) := by decide +kernel
theorem dL_law_769 : decode cL_law 769 = .ok (.if_icmp .eq 110, 3) := by decide +kernel
theorem dL_law_772 : decode cL_law 772 = .ok (.iconst 0, 1) := by decide +kernel
theorem dL_law_773 : decode cL_law 773 = .ok (.ireturn, 1) := by decide +kernel
theorem dL_law_774 : decode cL_law 774 = .ok (.aload_n 1, 1) := by decide +kernel
theorem dL_law_775 : decode cL_law 775 = .ok (.invokevirtual 121, 3) := by decide +kernel
theorem dL_law_778 : decode cL_law 778 = .ok (.aload_n 2, 1) := by decide +kernel
theorem dL_law_779 : decode cL_law 779 = .ok (.invokevirtual 124, 3) := by decide +kernel
theorem dL_law_782 : decode cL_law 782 = .ok (.if_icmp .eq 97, 3) := by decide +kernel
theorem dL_law_785 : decode cL_law 785 = .ok (.iconst 0, 1) := by decide +kernel
theorem dL_law_786 : decode cL_law 786 = .ok (.ireturn, 1) := by decide +kernel
theorem dL_law_787 : decode cL_law 787 = .ok (.aload_n 1, 1) := by decide +kernel
theorem dL_law_788 : decode cL_law 788 = .ok (.aload_n 0, 1) := by decide +kernel
theorem dL_law_789 : decode cL_law 789 = .ok (.iload_n 3, 1) := by decide +kernel
theorem dL_law_790 : decode cL_law 790 = .ok (.iconst 1, 1) := by decide +kernel
theorem dL_law_791 : decode cL_law 791 = .ok (.iadd, 1) := by decide +kernel
theorem dL_law_792 : decode cL_law 792 = .ok (.iaload, 1) := by decide +kernel
theorem dL_law_793 : decode cL_law 793 = .ok (.aload_n 0, 1) := by decide +kernel
theorem dL_law_794 : decode cL_law 794 = .ok (.iload_n 3, 1) := by decide +kernel
theorem dL_law_795 : decode cL_law 795 = .ok (.iconst 2, 1) := by decide +kernel
theorem dL_law_796 : decode cL_law 796 = .ok (.iadd, 1) := by decide +kernel
theorem dL_law_797 : decode cL_law 797 = .ok (.iaload, 1) := by decide +kernel
theorem dL_law_798 : decode cL_law 798 = .ok (.aload_n 0, 1) := by decide +kernel
theorem dL_law_799 : decode cL_law 799 = .ok (.iload_n 3, 1) := by decide +kernel
theorem dL_law_800 : decode cL_law 800 = .ok (.iconst 3, 1) := by decide +kernel
theorem dL_law_801 : decode cL_law 801 = .ok (.iadd, 1) := by decide +kernel
theorem dL_law_802 : decode cL_law 802 = .ok (.iaload, 1) := by decide +kernel
theorem dL_law_803 : decode cL_law 803 = .ok (.invokevirtual 125, 3) := by decide +kernel
theorem dL_law_806 : decode cL_law 806 = .ok (.aload_n 2, 1) := by decide +kernel
theorem dL_law_807 : decode cL_law 807 = .ok (.aload_n 0, 1) := by decide +kernel
theorem dL_law_808 : decode cL_law 808 = .ok (.iload_n 3, 1) := by decide +kernel
theorem dL_law_809 : decode cL_law 809 = .ok (.iconst 1, 1) := by decide +kernel
theorem dL_law_810 : decode cL_law 810 = .ok (.iadd, 1) := by decide +kernel
theorem dL_law_811 : decode cL_law 811 = .ok (.iaload, 1) := by decide +kernel
theorem dL_law_812 : decode cL_law 812 = .ok (.aload_n 0, 1) := by decide +kernel
theorem dL_law_813 : decode cL_law 813 = .ok (.iload_n 3, 1) := by decide +kernel
theorem dL_law_814 : decode cL_law 814 = .ok (.iconst 2, 1) := by decide +kernel
theorem dL_law_815 : decode cL_law 815 = .ok (.iadd, 1) := by decide +kernel
theorem dL_law_816 : decode cL_law 816 = .ok (.iaload, 1) := by decide +kernel
theorem dL_law_817 : decode cL_law 817 = .ok (.aload_n 0, 1) := by decide +kernel
theorem dL_law_818 : decode cL_law 818 = .ok (.iload_n 3, 1) := by decide +kernel
theorem dL_law_819 : decode cL_law 819 = .ok (.iconst 3, 1) := by decide +kernel
theorem dL_law_820 : decode cL_law 820 = .ok (.iadd, 1) := by decide +kernel
theorem dL_law_821 : decode cL_law 821 = .ok (.iaload, 1) := by decide +kernel
theorem dL_law_822 : decode cL_law 822 = .ok (.invokevirtual 128, 3) := by decide +kernel
theorem dL_law_825 : decode cL_law 825 = .ok (.if_icmp .eq 54, 3) := by decide +kernel
theorem dL_law_828 : decode cL_law 828 = .ok (.iconst 0, 1) := by decide +kernel
theorem dL_law_829 : decode cL_law 829 = .ok (.ireturn, 1) := by decide +kernel
theorem dL_law_830 : decode cL_law 830 = .ok (.aload_n 1, 1) := by decide +kernel
theorem dL_law_831 : decode cL_law 831 = .ok (.invokevirtual 129, 3) := by decide +kernel
theorem dL_law_834 : decode cL_law 834 = .ok (.aload_n 2, 1) := by decide +kernel
theorem dL_law_835 : decode cL_law 835 = .ok (.invokevirtual 132, 3) := by decide +kernel
theorem dL_law_838 : decode cL_law 838 = .ok (.if_icmp .eq 41, 3) := by decide +kernel
theorem dL_law_841 : decode cL_law 841 = .ok (.iconst 0, 1) := by decide +kernel
theorem dL_law_842 : decode cL_law 842 = .ok (.ireturn, 1) := by decide +kernel
theorem dL_law_843 : decode cL_law 843 = .ok (.aload_n 1, 1) := by decide +kernel
theorem dL_law_844 : decode cL_law 844 = .ok (.invokevirtual 133, 3) := by decide +kernel
theorem dL_law_847 : decode cL_law 847 = .ok (.aload_n 2, 1) := by decide +kernel
theorem dL_law_848 : decode cL_law 848 = .ok (.invokevirtual 136, 3) := by decide +kernel
theorem dL_law_851 : decode cL_law 851 = .ok (.if_icmp .eq 28, 3) := by decide +kernel
theorem dL_law_854 : decode cL_law 854 = .ok (.iconst 0, 1) := by decide +kernel
theorem dL_law_855 : decode cL_law 855 = .ok (.ireturn, 1) := by decide +kernel
theorem dL_law_856 : decode cL_law 856 = .ok (.aload_n 1, 1) := by decide +kernel
theorem dL_law_857 : decode cL_law 857 = .ok (.aload_n 0, 1) := by decide +kernel
theorem dL_law_858 : decode cL_law 858 = .ok (.iload_n 3, 1) := by decide +kernel
theorem dL_law_859 : decode cL_law 859 = .ok (.iconst 1, 1) := by decide +kernel
theorem dL_law_860 : decode cL_law 860 = .ok (.iadd, 1) := by decide +kernel
theorem dL_law_861 : decode cL_law 861 = .ok (.iaload, 1) := by decide +kernel
theorem dL_law_862 : decode cL_law 862 = .ok (.invokevirtual 137, 3) := by decide +kernel
theorem dL_law_865 : decode cL_law 865 = .ok (.aload_n 2, 1) := by decide +kernel
theorem dL_law_866 : decode cL_law 866 = .ok (.aload_n 0, 1) := by decide +kernel
theorem dL_law_867 : decode cL_law 867 = .ok (.iload_n 3, 1) := by decide +kernel
theorem dL_law_868 : decode cL_law 868 = .ok (.iconst 1, 1) := by decide +kernel
theorem dL_law_869 : decode cL_law 869 = .ok (.iadd, 1) := by decide +kernel
theorem dL_law_870 : decode cL_law 870 = .ok (.iaload, 1) := by decide +kernel
theorem dL_law_871 : decode cL_law 871 = .ok (.invokevirtual 140, 3) := by decide +kernel
theorem dL_law_874 : decode cL_law 874 = .ok (.if_icmp .eq 5, 3) := by decide +kernel
theorem dL_law_877 : decode cL_law 877 = .ok (.iconst 0, 1) := by decide +kernel
theorem dL_law_878 : decode cL_law 878 = .ok (.ireturn, 1) := by decide +kernel
theorem dL_law_879 : decode cL_law 879 = .ok (.iinc 3 4, 3) := by decide +kernel
theorem dL_law_882 : decode cL_law 882 = .ok (.goto (-864), 3) := by decide +kernel
theorem dL_law_885 : decode cL_law 885 = .ok (.iconst 1, 1) := by decide +kernel
theorem dL_law_886 : decode cL_law 886 = .ok (.ireturn, 1) := by decide +kernel
end
section
theorem dX9_init_0 : decode cX9_init 0 = .ok (.aload_n 0, 1) := by decide +kernel
theorem dX9_init_1 : decode cX9_init 1 = .ok (.invokespecial 1, 3) := by decide +kernel
theorem dX9_init_4 : decode cX9_init 4 = .ok (.aload_n 0, 1) := by decide +kernel
theorem dX9_init_5 : decode cX9_init 5 = .ok (.sipush 660, 3) := by decide +kernel
theorem dX9_init_8 : decode cX9_init 8 = .ok (.newarray .int, 2) := by decide +kernel
theorem dX9_init_10 : decode cX9_init 10 = .ok (.putfield 7, 3) := by decide +kernel
theorem dX9_init_13 : decode cX9_init 13 = .ok (.aload_n 0, 1) := by decide +kernel
theorem dX9_init_14 : decode cX9_init 14 = .ok (.sipush 300, 3) := by decide +kernel
theorem dX9_init_17 : decode cX9_init 17 = .ok (.newarray .int, 2) := by decide +kernel
theorem dX9_init_19 : decode cX9_init 19 = .ok (.putfield 13, 3) := by decide +kernel
theorem dX9_init_22 : decode cX9_init 22 = .ok (.aload_n 0, 1) := by decide +kernel
theorem dX9_init_23 : decode cX9_init 23 = .ok (.bipush 12, 2) := by decide +kernel
theorem dX9_init_25 : decode cX9_init 25 = .ok (.newarray .int, 2) := by decide +kernel
theorem dX9_init_27 : decode cX9_init 27 = .ok (.putfield 16, 3) := by decide +kernel
theorem dX9_init_30 : decode cX9_init 30 = .ok (.aload_n 0, 1) := by decide +kernel
theorem dX9_init_31 : decode cX9_init 31 = .ok (.iconst 3, 1) := by decide +kernel
theorem dX9_init_32 : decode cX9_init 32 = .ok (.newarray .int, 2) := by decide +kernel
theorem dX9_init_34 : decode cX9_init 34 = .ok (.putfield 19, 3) := by decide +kernel
theorem dX9_init_37 : decode cX9_init 37 = .ok (.aload_n 0, 1) := by decide +kernel
theorem dX9_init_38 : decode cX9_init 38 = .ok (.sipush 1024, 3) := by decide +kernel
theorem dX9_init_41 : decode cX9_init 41 = .ok (.newarray .long, 2) := by decide +kernel
theorem dX9_init_43 : decode cX9_init 43 = .ok (.putfield 22, 3) := by decide +kernel
theorem dX9_init_46 : decode cX9_init 46 = .ok (.aload_n 0, 1) := by decide +kernel
theorem dX9_init_47 : decode cX9_init 47 = .ok (.sipush 1024, 3) := by decide +kernel
theorem dX9_init_50 : decode cX9_init 50 = .ok (.newarray .int, 2) := by decide +kernel
theorem dX9_init_52 : decode cX9_init 52 = .ok (.putfield 26, 3) := by decide +kernel
theorem dX9_init_55 : decode cX9_init 55 = .ok (.aload_n 0, 1) := by decide +kernel
theorem dX9_init_56 : decode cX9_init 56 = .ok (.bipush 10, 2) := by decide +kernel
theorem dX9_init_58 : decode cX9_init 58 = .ok (.newarray .int, 2) := by decide +kernel
theorem dX9_init_60 : decode cX9_init 60 = .ok (.putfield 29, 3) := by decide +kernel
theorem dX9_init_63 : decode cX9_init 63 = .ok (.aload_n 0, 1) := by decide +kernel
theorem dX9_init_64 : decode cX9_init 64 = .ok (.iconst 0, 1) := by decide +kernel
theorem dX9_init_65 : decode cX9_init 65 = .ok (.invokevirtual 32, 3) := by decide +kernel
theorem dX9_init_68 : decode cX9_init 68 = .ok (.aload_n 0, 1) := by decide +kernel
theorem dX9_init_69 : decode cX9_init 69 = .ok (.getfield 7, 3) := by decide +kernel
theorem dX9_init_72 : decode cX9_init 72 = .ok (.iconst 0, 1) := by decide +kernel
theorem dX9_init_73 : decode cX9_init 73 = .ok (.iconst 4, 1) := by decide +kernel
theorem dX9_init_74 : decode cX9_init 74 = .ok (.iastore, 1) := by decide +kernel
theorem dX9_init_75 : decode cX9_init 75 = .ok (.aload_n 0, 1) := by decide +kernel
theorem dX9_init_76 : decode cX9_init 76 = .ok (.getfield 7, 3) := by decide +kernel
theorem dX9_init_79 : decode cX9_init 79 = .ok (.iconst 1, 1) := by decide +kernel
theorem dX9_init_80 : decode cX9_init 80 = .ok (.iconst 3, 1) := by decide +kernel
theorem dX9_init_81 : decode cX9_init 81 = .ok (.iastore, 1) := by decide +kernel
theorem dX9_init_82 : decode cX9_init 82 = .ok (.aload_n 0, 1) := by decide +kernel
theorem dX9_init_83 : decode cX9_init 83 = .ok (.iconst 0, 1) := by decide +kernel
theorem dX9_init_84 : decode cX9_init 84 = .ok (.iconst 0, 1) := by decide +kernel
theorem dX9_init_85 : decode cX9_init 85 = .ok (.iconst 1, 1) := by decide +kernel
theorem dX9_init_86 : decode cX9_init 86 = .ok (.iconst 2, 1) := by decide +kernel
theorem dX9_init_87 : decode cX9_init 87 = .ok (.invokevirtual 36, 3) := by decide +kernel
theorem dX9_init_90 : decode cX9_init 90 = .ok (.aload_n 0, 1) := by decide +kernel
theorem dX9_init_91 : decode cX9_init 91 = .ok (.iconst 0, 1) := by decide +kernel
theorem dX9_init_92 : decode cX9_init 92 = .ok (.iconst 2, 1) := by decide +kernel
theorem dX9_init_93 : decode cX9_init 93 = .ok (.iconst 2, 1) := by decide +kernel
theorem dX9_init_94 : decode cX9_init 94 = .ok (.iconst 3, 1) := by decide +kernel
theorem dX9_init_95 : decode cX9_init 95 = .ok (.invokevirtual 36, 3) := by decide +kernel
theorem dX9_init_98 : decode cX9_init 98 = .ok (.aload_n 0, 1) := by decide +kernel
theorem dX9_init_99 : decode cX9_init 99 = .ok (.iconst 0, 1) := by decide +kernel
theorem dX9_init_100 : decode cX9_init 100 = .ok (.invokevirtual 40, 3) := by decide +kernel
theorem dX9_init_103 : decode cX9_init 103 = .ok (.return_, 1) := by decide +kernel
theorem dX9_in_0 : decode cX9_in 0 = .ok (.lload_n 0, 1) := by decide +kernel
theorem dX9_in_1 : decode cX9_in 1 = .ok (.lload_n 2, 1) := by decide +kernel
theorem dX9_in_2 : decode cX9_in 2 = .ok (.lcmp, 1) := by decide +kernel
theorem dX9_in_3 : decode cX9_in 3 = .ok (.ifCond .lt 14, 3) := by decide +kernel
theorem dX9_in_6 : decode cX9_in 6 = .ok (.lload_n 0, 1) := by decide +kernel
theorem dX9_in_7 : decode cX9_in 7 = .ok (.lload 4, 2) := by decide +kernel
theorem dX9_in_9 : decode cX9_in 9 = .ok (.lcmp, 1) := by decide +kernel
theorem dX9_in_10 : decode cX9_in 10 = .ok (.ifCond .gt 7, 3) := by decide +kernel
theorem dX9_in_13 : decode cX9_in 13 = .ok (.iconst 1, 1) := by decide +kernel
theorem dX9_in_14 : decode cX9_in 14 = .ok (.goto 4, 3) := by decide +kernel
theorem dX9_in_17 : decode cX9_in 17 = .ok (.iconst 0, 1) := by decide +kernel
theorem dX9_in_18 : decode cX9_in 18 = .ok (.ireturn, 1) := by decide +kernel
theorem dX9_has_0 : decode cX9_has 0 = .ok (.iload_n 0, 1) := by decide +kernel
theorem dX9_has_1 : decode cX9_has 1 = .ok (.iload_n 1, 1) := by decide +kernel
theorem dX9_has_2 : decode cX9_has 2 = .ok (.ishr, 1) := by decide +kernel
theorem dX9_has_3 : decode cX9_has 3 = .ok (.iconst 1, 1) := by decide +kernel
theorem dX9_has_4 : decode cX9_has 4 = .ok (.iand, 1) := by decide +kernel
theorem dX9_has_5 : decode cX9_has 5 = .ok (.iconst 1, 1) := by decide +kernel
theorem dX9_has_6 : decode cX9_has 6 = .ok (.if_icmp .ne 7, 3) := by decide +kernel
theorem dX9_has_9 : decode cX9_has 9 = .ok (.iconst 1, 1) := by decide +kernel
theorem dX9_has_10 : decode cX9_has 10 = .ok (.goto 4, 3) := by decide +kernel
theorem dX9_has_13 : decode cX9_has 13 = .ok (.iconst 0, 1) := by decide +kernel
theorem dX9_has_14 : decode cX9_has 14 = .ok (.ireturn, 1) := by decide +kernel
theorem dX9_ones_0 : decode cX9_ones 0 = .ok (.iconst 0, 1) := by decide +kernel
theorem dX9_ones_1 : decode cX9_ones 1 = .ok (.istore_n 1, 1) := by decide +kernel
theorem dX9_ones_2 : decode cX9_ones 2 = .ok (.iconst 0, 1) := by decide +kernel
theorem dX9_ones_3 : decode cX9_ones 3 = .ok (.istore_n 2, 1) := by decide +kernel
theorem dX9_ones_4 : decode cX9_ones 4 = .ok (.iload_n 2, 1) := by decide +kernel
theorem dX9_ones_5 : decode cX9_ones 5 = .ok (.bipush 10, 2) := by decide +kernel
theorem dX9_ones_7 : decode cX9_ones 7 = .ok (.if_icmp .ge 17, 3) := by decide +kernel
theorem dX9_ones_10 : decode cX9_ones 10 = .ok (.iload_n 1, 1) := by decide +kernel
theorem dX9_ones_11 : decode cX9_ones 11 = .ok (.iload_n 0, 1) := by decide +kernel
theorem dX9_ones_12 : decode cX9_ones 12 = .ok (.iload_n 2, 1) := by decide +kernel
theorem dX9_ones_13 : decode cX9_ones 13 = .ok (.ishr, 1) := by decide +kernel
theorem dX9_ones_14 : decode cX9_ones 14 = .ok (.iconst 1, 1) := by decide +kernel
theorem dX9_ones_15 : decode cX9_ones 15 = .ok (.iand, 1) := by decide +kernel
theorem dX9_ones_16 : decode cX9_ones 16 = .ok (.iadd, 1) := by decide +kernel
theorem dX9_ones_17 : decode cX9_ones 17 = .ok (.istore_n 1, 1) := by decide +kernel
theorem dX9_ones_18 : decode cX9_ones 18 = .ok (.iinc 2 1, 3) := by decide +kernel
theorem dX9_ones_21 : decode cX9_ones 21 = .ok (.goto (-17), 3) := by decide +kernel
theorem dX9_ones_24 : decode cX9_ones 24 = .ok (.iload_n 1, 1) := by decide +kernel
theorem dX9_ones_25 : decode cX9_ones 25 = .ok (.ireturn, 1) := by decide +kernel
theorem dX9_copy_0 : decode cX9_copy 0 = .ok (.iconst 0, 1) := by decide +kernel
theorem dX9_copy_1 : decode cX9_copy 1 = .ok (.istore_n 3, 1) := by decide +kernel
theorem dX9_copy_2 : decode cX9_copy 2 = .ok (.iload_n 3, 1) := by decide +kernel
theorem dX9_copy_3 : decode cX9_copy 3 = .ok (.bipush 55, 2) := by decide +kernel
theorem dX9_copy_5 : decode cX9_copy 5 = .ok (.if_icmp .ge 25, 3) := by decide +kernel
theorem dX9_copy_8 : decode cX9_copy 8 = .ok (.aload_n 0, 1) := by decide +kernel
theorem dX9_copy_9 : decode cX9_copy 9 = .ok (.getfield 7, 3) := by decide +kernel
theorem dX9_copy_12 : decode cX9_copy 12 = .ok (.iload_n 2, 1) := by decide +kernel
theorem dX9_copy_13 : decode cX9_copy 13 = .ok (.iload_n 3, 1) := by decide +kernel
theorem dX9_copy_14 : decode cX9_copy 14 = .ok (.iadd, 1) := by decide +kernel
theorem dX9_copy_15 : decode cX9_copy 15 = .ok (.aload_n 0, 1) := by decide +kernel
theorem dX9_copy_16 : decode cX9_copy 16 = .ok (.getfield 7, 3) := by decide +kernel
theorem dX9_copy_19 : decode cX9_copy 19 = .ok (.iload_n 1, 1) := by decide +kernel
theorem dX9_copy_20 : decode cX9_copy 20 = .ok (.iload_n 3, 1) := by decide +kernel
theorem dX9_copy_21 : decode cX9_copy 21 = .ok (.iadd, 1) := by decide +kernel
theorem dX9_copy_22 : decode cX9_copy 22 = .ok (.iaload, 1) := by decide +kernel
theorem dX9_copy_23 : decode cX9_copy 23 = .ok (.iastore, 1) := by decide +kernel
theorem dX9_copy_24 : decode cX9_copy 24 = .ok (.iinc 3 1, 3) := by decide +kernel
theorem dX9_copy_27 : decode cX9_copy 27 = .ok (.goto (-25), 3) := by decide +kernel
theorem dX9_copy_30 : decode cX9_copy 30 = .ok (.return_, 1) := by decide +kernel
theorem dX9_makeAnew_0 : decode cX9_makeAnew 0 = .ok (.iconst 0, 1) := by decide +kernel
theorem dX9_makeAnew_1 : decode cX9_makeAnew 1 = .ok (.istore_n 2, 1) := by decide +kernel
theorem dX9_makeAnew_2 : decode cX9_makeAnew 2 = .ok (.iload_n 2, 1) := by decide +kernel
theorem dX9_makeAnew_3 : decode cX9_makeAnew 3 = .ok (.bipush 55, 2) := by decide +kernel
theorem dX9_makeAnew_5 : decode cX9_makeAnew 5 = .ok (.if_icmp .ge 18, 3) := by decide +kernel
theorem dX9_makeAnew_8 : decode cX9_makeAnew 8 = .ok (.aload_n 0, 1) := by decide +kernel
theorem dX9_makeAnew_9 : decode cX9_makeAnew 9 = .ok (.getfield 7, 3) := by decide +kernel
theorem dX9_makeAnew_12 : decode cX9_makeAnew 12 = .ok (.iload_n 1, 1) := by decide +kernel
theorem dX9_makeAnew_13 : decode cX9_makeAnew 13 = .ok (.iload_n 2, 1) := by decide +kernel
theorem dX9_makeAnew_14 : decode cX9_makeAnew 14 = .ok (.iadd, 1) := by decide +kernel
theorem dX9_makeAnew_15 : decode cX9_makeAnew 15 = .ok (.iconst 0, 1) := by decide +kernel
theorem dX9_makeAnew_16 : decode cX9_makeAnew 16 = .ok (.iastore, 1) := by decide +kernel
theorem dX9_makeAnew_17 : decode cX9_makeAnew 17 = .ok (.iinc 2 1, 3) := by decide +kernel
theorem dX9_makeAnew_20 : decode cX9_makeAnew 20 = .ok (.goto (-18), 3) := by decide +kernel
theorem dX9_makeAnew_23 : decode cX9_makeAnew 23 = .ok (.aload_n 0, 1) := by decide +kernel
theorem dX9_makeAnew_24 : decode cX9_makeAnew 24 = .ok (.getfield 7, 3) := by decide +kernel
theorem dX9_makeAnew_27 : decode cX9_makeAnew 27 = .ok (.iload_n 1, 1) := by decide +kernel
theorem dX9_makeAnew_28 : decode cX9_makeAnew 28 = .ok (.iconst 0, 1) := by decide +kernel
theorem dX9_makeAnew_29 : decode cX9_makeAnew 29 = .ok (.iadd, 1) := by decide +kernel
theorem dX9_makeAnew_30 : decode cX9_makeAnew 30 = .ok (.iconst 4, 1) := by decide +kernel
theorem dX9_makeAnew_31 : decode cX9_makeAnew 31 = .ok (.iastore, 1) := by decide +kernel
theorem dX9_makeAnew_32 : decode cX9_makeAnew 32 = .ok (.return_, 1) := by decide +kernel
theorem dX9_layStep_0 : decode cX9_layStep 0 = .ok (.aload_n 0, 1) := by decide +kernel
theorem dX9_layStep_1 : decode cX9_layStep 1 = .ok (.getfield 7, 3) := by decide +kernel
theorem dX9_layStep_4 : decode cX9_layStep 4 = .ok (.iload_n 1, 1) := by decide +kernel
theorem dX9_layStep_5 : decode cX9_layStep 5 = .ok (.iconst 4, 1) := by decide +kernel
theorem dX9_layStep_6 : decode cX9_layStep 6 = .ok (.iadd, 1) := by decide +kernel
theorem dX9_layStep_7 : decode cX9_layStep 7 = .ok (.iaload, 1) := by decide +kernel
theorem dX9_layStep_8 : decode cX9_layStep 8 = .ok (.istore 5, 2) := by decide +kernel
theorem dX9_layStep_10 : decode cX9_layStep 10 = .ok (.aload_n 0, 1) := by decide +kernel
theorem dX9_layStep_11 : decode cX9_layStep 11 = .ok (.getfield 7, 3) := by decide +kernel
theorem dX9_layStep_14 : decode cX9_layStep 14 = .ok (.iload_n 1, 1) := by decide +kernel
theorem dX9_layStep_15 : decode cX9_layStep 15 = .ok (.iconst 5, 1) := by decide +kernel
theorem dX9_layStep_16 : decode cX9_layStep 16 = .ok (.iadd, 1) := by decide +kernel
theorem dX9_layStep_17 : decode cX9_layStep 17 = .ok (.iload 5, 2) := by decide +kernel
theorem dX9_layStep_19 : decode cX9_layStep 19 = .ok (.iadd, 1) := by decide +kernel
theorem dX9_layStep_20 : decode cX9_layStep 20 = .ok (.iload_n 2, 1) := by decide +kernel
theorem dX9_layStep_21 : decode cX9_layStep 21 = .ok (.iastore, 1) := by decide +kernel
theorem dX9_layStep_22 : decode cX9_layStep 22 = .ok (.aload_n 0, 1) := by decide +kernel
theorem dX9_layStep_23 : decode cX9_layStep 23 = .ok (.getfield 7, 3) := by decide +kernel
theorem dX9_layStep_26 : decode cX9_layStep 26 = .ok (.iload_n 1, 1) := by decide +kernel
theorem dX9_layStep_27 : decode cX9_layStep 27 = .ok (.bipush 15, 2) := by decide +kernel
theorem dX9_layStep_29 : decode cX9_layStep 29 = .ok (.iadd, 1) := by decide +kernel
theorem dX9_layStep_30 : decode cX9_layStep 30 = .ok (.iload 5, 2) := by decide +kernel
theorem dX9_layStep_32 : decode cX9_layStep 32 = .ok (.iadd, 1) := by decide +kernel
theorem dX9_layStep_33 : decode cX9_layStep 33 = .ok (.iload_n 3, 1) := by decide +kernel
theorem dX9_layStep_34 : decode cX9_layStep 34 = .ok (.iastore, 1) := by decide +kernel
theorem dX9_layStep_35 : decode cX9_layStep 35 = .ok (.aload_n 0, 1) := by decide +kernel
theorem dX9_layStep_36 : decode cX9_layStep 36 = .ok (.getfield 7, 3) := by decide +kernel
theorem dX9_layStep_39 : decode cX9_layStep 39 = .ok (.iload_n 1, 1) := by decide +kernel
theorem dX9_layStep_40 : decode cX9_layStep 40 = .ok (.bipush 25, 2) := by decide +kernel
theorem dX9_layStep_42 : decode cX9_layStep 42 = .ok (.iadd, 1) := by decide +kernel
theorem dX9_layStep_43 : decode cX9_layStep 43 = .ok (.iload 5, 2) := by decide +kernel
theorem dX9_layStep_45 : decode cX9_layStep 45 = .ok (.iadd, 1) := by decide +kernel
theorem dX9_layStep_46 : decode cX9_layStep 46 = .ok (.iload 4, 2) := by decide +kernel
theorem dX9_layStep_48 : decode cX9_layStep 48 = .ok (.iastore, 1) := by decide +kernel
theorem dX9_layStep_49 : decode cX9_layStep 49 = .ok (.aload_n 0, 1) := by decide +kernel
theorem dX9_layStep_50 : decode cX9_layStep 50 = .ok (.getfield 7, 3) := by decide +kernel
theorem dX9_layStep_53 : decode cX9_layStep 53 = .ok (.iload_n 1, 1) := by decide +kernel
theorem dX9_layStep_54 : decode cX9_layStep 54 = .ok (.iconst 4, 1) := by decide +kernel
theorem dX9_layStep_55 : decode cX9_layStep 55 = .ok (.iadd, 1) := by decide +kernel
theorem dX9_layStep_56 : decode cX9_layStep 56 = .ok (.dup2, 1) := by decide +kernel
theorem dX9_layStep_57 : decode cX9_layStep 57 = .ok (.iaload, 1) := by decide +kernel
theorem dX9_layStep_58 : decode cX9_layStep 58 = .ok (.iconst 1, 1) := by decide +kernel
theorem dX9_layStep_59 : decode cX9_layStep 59 = .ok (.iadd, 1) := by decide +kernel
theorem dX9_layStep_60 : decode cX9_layStep 60 = .ok (.iastore, 1) := by decide +kernel
theorem dX9_layStep_61 : decode cX9_layStep 61 = .ok (.return_, 1) := by decide +kernel
theorem dX9_settle_0 : decode cX9_settle 0 = .ok (.aload_n 0, 1) := by decide +kernel
theorem dX9_settle_1 : decode cX9_settle 1 = .ok (.getfield 7, 3) := by decide +kernel
theorem dX9_settle_4 : decode cX9_settle 4 = .ok (.iload_n 1, 1) := by decide +kernel
theorem dX9_settle_5 : decode cX9_settle 5 = .ok (.iconst 2, 1) := by decide +kernel
theorem dX9_settle_6 : decode cX9_settle 6 = .ok (.iadd, 1) := by decide +kernel
theorem dX9_settle_7 : decode cX9_settle 7 = .ok (.iconst 1, 1) := by decide +kernel
theorem dX9_settle_8 : decode cX9_settle 8 = .ok (.aload_n 0, 1) := by decide +kernel
theorem dX9_settle_9 : decode cX9_settle 9 = .ok (.getfield 7, 3) := by decide +kernel
theorem dX9_settle_12 : decode cX9_settle 12 = .ok (.iload_n 1, 1) := by decide +kernel
theorem dX9_settle_13 : decode cX9_settle 13 = .ok (.iconst 0, 1) := by decide +kernel
theorem dX9_settle_14 : decode cX9_settle 14 = .ok (.iadd, 1) := by decide +kernel
theorem dX9_settle_15 : decode cX9_settle 15 = .ok (.iaload, 1) := by decide +kernel
theorem dX9_settle_16 : decode cX9_settle 16 = .ok (.ishl, 1) := by decide +kernel
theorem dX9_settle_17 : decode cX9_settle 17 = .ok (.iconst 1, 1) := by decide +kernel
theorem dX9_settle_18 : decode cX9_settle 18 = .ok (.isub, 1) := by decide +kernel
theorem dX9_settle_19 : decode cX9_settle 19 = .ok (.iastore, 1) := by decide +kernel
theorem dX9_settle_20 : decode cX9_settle 20 = .ok (.aload_n 0, 1) := by decide +kernel
theorem dX9_settle_21 : decode cX9_settle 21 = .ok (.getfield 7, 3) := by decide +kernel
theorem dX9_settle_24 : decode cX9_settle 24 = .ok (.iload_n 1, 1) := by decide +kernel
theorem dX9_settle_25 : decode cX9_settle 25 = .ok (.iconst 3, 1) := by decide +kernel
theorem dX9_settle_26 : decode cX9_settle 26 = .ok (.iadd, 1) := by decide +kernel
theorem dX9_settle_27 : decode cX9_settle 27 = .ok (.aload_n 0, 1) := by decide +kernel
theorem dX9_settle_28 : decode cX9_settle 28 = .ok (.getfield 7, 3) := by decide +kernel
theorem dX9_settle_31 : decode cX9_settle 31 = .ok (.iload_n 1, 1) := by decide +kernel
theorem dX9_settle_32 : decode cX9_settle 32 = .ok (.iconst 1, 1) := by decide +kernel
theorem dX9_settle_33 : decode cX9_settle 33 = .ok (.iadd, 1) := by decide +kernel
theorem dX9_settle_34 : decode cX9_settle 34 = .ok (.iaload, 1) := by decide +kernel
theorem dX9_settle_35 : decode cX9_settle 35 = .ok (.iastore, 1) := by decide +kernel
theorem dX9_settle_36 : decode cX9_settle 36 = .ok (.return_, 1) := by decide +kernel
theorem dX9_isStone_0 : decode cX9_isStone 0 = .ok (.iload_n 1, 1) := by decide +kernel
theorem dX9_isStone_1 : decode cX9_isStone 1 = .ok (.i2l, 1) := by decide +kernel
theorem dX9_isStone_2 : decode cX9_isStone 2 = .ok (.lconst 0, 1) := by decide +kernel
theorem dX9_isStone_3 : decode cX9_isStone 3 = .ok (.aload_n 0, 1) := by decide +kernel
theorem dX9_isStone_4 : decode cX9_isStone 4 = .ok (.getfield 7, 3) := by decide +kernel
theorem dX9_isStone_7 : decode cX9_isStone 7 = .ok (.iconst 0, 1) := by decide +kernel
theorem dX9_isStone_8 : decode cX9_isStone 8 = .ok (.iaload, 1) := by decide +kernel
theorem dX9_isStone_9 : decode cX9_isStone 9 = .ok (.iconst 1, 1) := by decide +kernel
theorem dX9_isStone_10 : decode cX9_isStone 10 = .ok (.isub, 1) := by decide +kernel
theorem dX9_isStone_11 : decode cX9_isStone 11 = .ok (.i2l, 1) := by decide +kernel
theorem dX9_isStone_12 : decode cX9_isStone 12 = .ok (.invokestatic 43, 3) := by decide +kernel
theorem dX9_isStone_15 : decode cX9_isStone 15 = .ok (.ireturn, 1) := by decide +kernel
theorem dX9_isSet_0 : decode cX9_isSet 0 = .ok (.iload_n 1, 1) := by decide +kernel
theorem dX9_isSet_1 : decode cX9_isSet 1 = .ok (.i2l, 1) := by decide +kernel
theorem dX9_isSet_2 : decode cX9_isSet 2 = .ok (.lconst 0, 1) := by decide +kernel
theorem dX9_isSet_3 : decode cX9_isSet 3 = .ok (.iconst 1, 1) := by decide +kernel
theorem dX9_isSet_4 : decode cX9_isSet 4 = .ok (.aload_n 0, 1) := by decide +kernel
theorem dX9_isSet_5 : decode cX9_isSet 5 = .ok (.getfield 7, 3) := by decide +kernel
theorem dX9_isSet_8 : decode cX9_isSet 8 = .ok (.iconst 0, 1) := by decide +kernel
theorem dX9_isSet_9 : decode cX9_isSet 9 = .ok (.iaload, 1) := by decide +kernel
theorem dX9_isSet_10 : decode cX9_isSet 10 = .ok (.ishl, 1) := by decide +kernel
theorem dX9_isSet_11 : decode cX9_isSet 11 = .ok (.iconst 1, 1) := by decide +kernel
theorem dX9_isSet_12 : decode cX9_isSet 12 = .ok (.isub, 1) := by decide +kernel
theorem dX9_isSet_13 : decode cX9_isSet 13 = .ok (.i2l, 1) := by decide +kernel
theorem dX9_isSet_14 : decode cX9_isSet 14 = .ok (.invokestatic 43, 3) := by decide +kernel
theorem dX9_isSet_17 : decode cX9_isSet 17 = .ok (.ireturn, 1) := by decide +kernel
theorem dX9_isStep_0 : decode cX9_isStep 0 = .ok (.iload_n 1, 1) := by decide +kernel
theorem dX9_isStep_1 : decode cX9_isStep 1 = .ok (.i2l, 1) := by decide +kernel
theorem dX9_isStep_2 : decode cX9_isStep 2 = .ok (.lconst 0, 1) := by decide +kernel
theorem dX9_isStep_3 : decode cX9_isStep 3 = .ok (.aload_n 0, 1) := by decide +kernel
theorem dX9_isStep_4 : decode cX9_isStep 4 = .ok (.getfield 7, 3) := by decide +kernel
theorem dX9_isStep_7 : decode cX9_isStep 7 = .ok (.iconst 4, 1) := by decide +kernel
theorem dX9_isStep_8 : decode cX9_isStep 8 = .ok (.iaload, 1) := by decide +kernel
theorem dX9_isStep_9 : decode cX9_isStep 9 = .ok (.iconst 1, 1) := by decide +kernel
theorem dX9_isStep_10 : decode cX9_isStep 10 = .ok (.isub, 1) := by decide +kernel
theorem dX9_isStep_11 : decode cX9_isStep 11 = .ok (.i2l, 1) := by decide +kernel
theorem dX9_isStep_12 : decode cX9_isStep 12 = .ok (.invokestatic 43, 3) := by decide +kernel
theorem dX9_isStep_15 : decode cX9_isStep 15 = .ok (.ireturn, 1) := by decide +kernel
theorem dX9_write_0 : decode cX9_write 0 = .ok (.iload_n 1, 1) := by decide +kernel
theorem dX9_write_1 : decode cX9_write 1 = .ok (.i2l, 1) := by decide +kernel
theorem dX9_write_2 : decode cX9_write 2 = .ok (.lconst 1, 1) := by decide +kernel
theorem dX9_write_3 : decode cX9_write 3 = .ok (.ldc2_w 47, 3) := by decide +kernel
theorem dX9_write_6 : decode cX9_write 6 = .ok (.invokestatic 43, 3) := by decide +kernel
theorem dX9_write_9 : decode cX9_write 9 = .ok (.ifCond .ne 5, 3) := by decide +kernel
theorem dX9_write_12 : decode cX9_write 12 = .ok (.iconst (-1), 1) := by decide +kernel
theorem dX9_write_13 : decode cX9_write 13 = .ok (.ireturn, 1) := by decide +kernel
theorem dX9_write_14 : decode cX9_write 14 = .ok (.aload_n 0, 1) := by decide +kernel
theorem dX9_write_15 : decode cX9_write 15 = .ok (.getfield 49, 3) := by decide +kernel
theorem dX9_write_18 : decode cX9_write 18 = .ok (.iload_n 1, 1) := by decide +kernel
theorem dX9_write_19 : decode cX9_write 19 = .ok (.iadd, 1) := by decide +kernel
theorem dX9_write_20 : decode cX9_write 20 = .ok (.sipush 300, 3) := by decide +kernel
theorem dX9_write_23 : decode cX9_write 23 = .ok (.if_icmp .le 6, 3) := by decide +kernel
theorem dX9_write_26 : decode cX9_write 26 = .ok (.bipush (-3), 2) := by decide +kernel
theorem dX9_write_28 : decode cX9_write 28 = .ok (.ireturn, 1) := by decide +kernel
theorem dX9_write_29 : decode cX9_write 29 = .ok (.iload_n 1, 1) := by decide +kernel
theorem dX9_write_30 : decode cX9_write 30 = .ok (.iconst 1, 1) := by decide +kernel
theorem dX9_write_31 : decode cX9_write 31 = .ok (.isub, 1) := by decide +kernel
theorem dX9_write_32 : decode cX9_write 32 = .ok (.istore 4, 2) := by decide +kernel
theorem dX9_write_34 : decode cX9_write 34 = .ok (.iload 4, 2) := by decide +kernel
theorem dX9_write_36 : decode cX9_write 36 = .ok (.ifCond .lt 40, 3) := by decide +kernel
theorem dX9_write_39 : decode cX9_write 39 = .ok (.aload_n 0, 1) := by decide +kernel
theorem dX9_write_40 : decode cX9_write 40 = .ok (.getfield 13, 3) := by decide +kernel
theorem dX9_write_43 : decode cX9_write 43 = .ok (.aload_n 0, 1) := by decide +kernel
theorem dX9_write_44 : decode cX9_write 44 = .ok (.getfield 49, 3) := by decide +kernel
theorem dX9_write_47 : decode cX9_write 47 = .ok (.lload_n 2, 1) := by decide +kernel
theorem dX9_write_48 : decode cX9_write 48 = .ok (.bipush 8, 2) := by decide +kernel
theorem dX9_write_50 : decode cX9_write 50 = .ok (.iload 4, 2) := by decide +kernel
theorem dX9_write_52 : decode cX9_write 52 = .ok (.imul, 1) := by decide +kernel
theorem dX9_write_53 : decode cX9_write 53 = .ok (.lshr, 1) := by decide +kernel
theorem dX9_write_54 : decode cX9_write 54 = .ok (.ldc2_w 53, 3) := by decide +kernel
theorem dX9_write_57 : decode cX9_write 57 = .ok (.land, 1) := by decide +kernel
theorem dX9_write_58 : decode cX9_write 58 = .ok (.l2i, 1) := by decide +kernel
theorem dX9_write_59 : decode cX9_write 59 = .ok (.iastore, 1) := by decide +kernel
theorem dX9_write_60 : decode cX9_write 60 = .ok (.aload_n 0, 1) := by decide +kernel
theorem dX9_write_61 : decode cX9_write 61 = .ok (.dup, 1) := by decide +kernel
theorem dX9_write_62 : decode cX9_write 62 = .ok (.getfield 49, 3) := by decide +kernel
theorem dX9_write_65 : decode cX9_write 65 = .ok (.iconst 1, 1) := by decide +kernel
theorem dX9_write_66 : decode cX9_write 66 = .ok (.iadd, 1) := by decide +kernel
theorem dX9_write_67 : decode cX9_write 67 = .ok (.putfield 49, 3) := by decide +kernel
theorem dX9_write_70 : decode cX9_write 70 = .ok (.iinc 4 (-1), 3) := by decide +kernel
theorem dX9_write_73 : decode cX9_write 73 = .ok (.goto (-39), 3) := by decide +kernel
theorem dX9_write_76 : decode cX9_write 76 = .ok (.aload_n 0, 1) := by decide +kernel
theorem dX9_write_77 : decode cX9_write 77 = .ok (.getfield 49, 3) := by decide +kernel
theorem dX9_write_80 : decode cX9_write 80 = .ok (.ireturn, 1) := by decide +kernel
theorem dX9_wipe_0 : decode cX9_wipe 0 = .ok (.aload_n 0, 1) := by decide +kernel
theorem dX9_wipe_1 : decode cX9_wipe 1 = .ok (.getfield 49, 3) := by decide +kernel
theorem dX9_wipe_4 : decode cX9_wipe 4 = .ok (.istore_n 1, 1) := by decide +kernel
theorem dX9_wipe_5 : decode cX9_wipe 5 = .ok (.aload_n 0, 1) := by decide +kernel
theorem dX9_wipe_6 : decode cX9_wipe 6 = .ok (.iconst 0, 1) := by decide +kernel
theorem dX9_wipe_7 : decode cX9_wipe 7 = .ok (.putfield 49, 3) := by decide +kernel
theorem dX9_wipe_10 : decode cX9_wipe 10 = .ok (.iload_n 1, 1) := by decide +kernel
theorem dX9_wipe_11 : decode cX9_wipe 11 = .ok (.ireturn, 1) := by decide +kernel
theorem dX9_takes_0 : decode cX9_takes 0 = .ok (.iconst 0, 1) := by decide +kernel
theorem dX9_takes_1 : decode cX9_takes 1 = .ok (.istore_n 2, 1) := by decide +kernel
theorem dX9_takes_2 : decode cX9_takes 2 = .ok (.iload_n 2, 1) := by decide +kernel
theorem dX9_takes_3 : decode cX9_takes 3 = .ok (.iload_n 1, 1) := by decide +kernel
theorem dX9_takes_4 : decode cX9_takes 4 = .ok (.if_icmp .ge 168, 3) := by decide +kernel
theorem dX9_takes_7 : decode cX9_takes 7 = .ok (.aload_n 0, 1) := by decide +kernel
theorem dX9_takes_8 : decode cX9_takes 8 = .ok (.getfield 55, 3) := by decide +kernel
theorem dX9_takes_11 : decode cX9_takes 11 = .ok (.istore_n 3, 1) := by decide +kernel
theorem dX9_takes_12 : decode cX9_takes 12 = .ok (.iconst 0, 1) := by decide +kernel
theorem dX9_takes_13 : decode cX9_takes 13 = .ok (.istore 4, 2) := by decide +kernel
theorem dX9_takes_15 : decode cX9_takes 15 = .ok (.aload_n 0, 1) := by decide +kernel
theorem dX9_takes_16 : decode cX9_takes 16 = .ok (.getfield 55, 3) := by decide +kernel
theorem dX9_takes_19 : decode cX9_takes 19 = .ok (.aload_n 0, 1) := by decide +kernel
theorem dX9_takes_20 : decode cX9_takes 20 = .ok (.getfield 49, 3) := by decide +kernel
theorem dX9_takes_23 : decode cX9_takes 23 = .ok (.if_icmp .ge 68, 3) := by decide +kernel
theorem dX9_takes_26 : decode cX9_takes 26 = .ok (.aload_n 0, 1) := by decide +kernel
theorem dX9_takes_27 : decode cX9_takes 27 = .ok (.getfield 55, 3) := by decide +kernel
theorem dX9_takes_30 : decode cX9_takes 30 = .ok (.iload_n 3, 1) := by decide +kernel
theorem dX9_takes_31 : decode cX9_takes 31 = .ok (.isub, 1) := by decide +kernel
theorem dX9_takes_32 : decode cX9_takes 32 = .ok (.iconst 3, 1) := by decide +kernel
theorem dX9_takes_33 : decode cX9_takes 33 = .ok (.if_icmp .ge 58, 3) := by decide +kernel
theorem dX9_takes_36 : decode cX9_takes 36 = .ok (.aload_n 0, 1) := by decide +kernel
theorem dX9_takes_37 : decode cX9_takes 37 = .ok (.getfield 13, 3) := by decide +kernel
theorem dX9_takes_40 : decode cX9_takes 40 = .ok (.aload_n 0, 1) := by decide +kernel
theorem dX9_takes_41 : decode cX9_takes 41 = .ok (.getfield 55, 3) := by decide +kernel
theorem dX9_takes_44 : decode cX9_takes 44 = .ok (.iaload, 1) := by decide +kernel
theorem dX9_takes_45 : decode cX9_takes 45 = .ok (.i2l, 1) := by decide +kernel
theorem dX9_takes_46 : decode cX9_takes 46 = .ok (.ldc2_w 58, 3) := by decide +kernel
theorem dX9_takes_49 : decode cX9_takes 49 = .ok (.ldc2_w 60, 3) := by decide +kernel
theorem dX9_takes_52 : decode cX9_takes 52 = .ok (.invokestatic 43, 3) := by decide +kernel
theorem dX9_takes_55 : decode cX9_takes 55 = .ok (.ifCond .eq 36, 3) := by decide +kernel
theorem dX9_takes_58 : decode cX9_takes 58 = .ok (.bipush 10, 2) := by decide +kernel
theorem dX9_takes_60 : decode cX9_takes 60 = .ok (.iload 4, 2) := by decide +kernel
theorem dX9_takes_62 : decode cX9_takes 62 = .ok (.imul, 1) := by decide +kernel
theorem dX9_takes_63 : decode cX9_takes 63 = .ok (.aload_n 0, 1) := by decide +kernel
theorem dX9_takes_64 : decode cX9_takes 64 = .ok (.getfield 13, 3) := by decide +kernel
theorem dX9_takes_67 : decode cX9_takes 67 = .ok (.aload_n 0, 1) := by decide +kernel
theorem dX9_takes_68 : decode cX9_takes 68 = .ok (.getfield 55, 3) := by decide +kernel
theorem dX9_takes_71 : decode cX9_takes 71 = .ok (.iaload, 1) := by decide +kernel
theorem dX9_takes_72 : decode cX9_takes 72 = .ok (.iadd, 1) := by decide +kernel
theorem dX9_takes_73 : decode cX9_takes 73 = .ok (.bipush 48, 2) := by decide +kernel
theorem dX9_takes_75 : decode cX9_takes 75 = .ok (.isub, 1) := by decide +kernel
theorem dX9_takes_76 : decode cX9_takes 76 = .ok (.istore 4, 2) := by decide +kernel
theorem dX9_takes_78 : decode cX9_takes 78 = .ok (.aload_n 0, 1) := by decide +kernel
theorem dX9_takes_79 : decode cX9_takes 79 = .ok (.dup, 1) := by decide +kernel
theorem dX9_takes_80 : decode cX9_takes 80 = .ok (.getfield 55, 3) := by decide +kernel
theorem dX9_takes_83 : decode cX9_takes 83 = .ok (.iconst 1, 1) := by decide +kernel
theorem dX9_takes_84 : decode cX9_takes 84 = .ok (.iadd, 1) := by decide +kernel
theorem dX9_takes_85 : decode cX9_takes 85 = .ok (.putfield 55, 3) := by decide +kernel
theorem dX9_takes_88 : decode cX9_takes 88 = .ok (.goto (-73), 3) := by decide +kernel
theorem dX9_takes_91 : decode cX9_takes 91 = .ok (.aload_n 0, 1) := by decide +kernel
theorem dX9_takes_92 : decode cX9_takes 92 = .ok (.getfield 55, 3) := by decide +kernel
theorem dX9_takes_95 : decode cX9_takes 95 = .ok (.iload_n 3, 1) := by decide +kernel
theorem dX9_takes_96 : decode cX9_takes 96 = .ok (.if_icmp .eq 50, 3) := by decide +kernel
theorem dX9_takes_99 : decode cX9_takes 99 = .ok (.aload_n 0, 1) := by decide +kernel
theorem dX9_takes_100 : decode cX9_takes 100 = .ok (.getfield 55, 3) := by decide +kernel
theorem dX9_takes_103 : decode cX9_takes 103 = .ok (.iload_n 3, 1) := by decide +kernel
theorem dX9_takes_104 : decode cX9_takes 104 = .ok (.isub, 1) := by decide +kernel
theorem dX9_takes_105 : decode cX9_takes 105 = .ok (.iconst 2, 1) := by decide +kernel
theorem dX9_takes_106 : decode cX9_takes 106 = .ok (.if_icmp .gt 40, 3) := by decide +kernel
theorem dX9_takes_109 : decode cX9_takes 109 = .ok (.aload_n 0, 1) := by decide +kernel
theorem dX9_takes_110 : decode cX9_takes 110 = .ok (.getfield 55, 3) := by decide +kernel
theorem dX9_takes_113 : decode cX9_takes 113 = .ok (.aload_n 0, 1) := by decide +kernel
theorem dX9_takes_114 : decode cX9_takes 114 = .ok (.getfield 49, 3) := by decide +kernel
theorem dX9_takes_117 : decode cX9_takes 117 = .ok (.if_icmp .eq 29, 3) := by decide +kernel
theorem dX9_takes_120 : decode cX9_takes 120 = .ok (.aload_n 0, 1) := by decide +kernel
theorem dX9_takes_121 : decode cX9_takes 121 = .ok (.getfield 13, 3) := by decide +kernel
theorem dX9_takes_124 : decode cX9_takes 124 = .ok (.aload_n 0, 1) := by decide +kernel
theorem dX9_takes_125 : decode cX9_takes 125 = .ok (.getfield 55, 3) := by decide +kernel
theorem dX9_takes_128 : decode cX9_takes 128 = .ok (.iaload, 1) := by decide +kernel
theorem dX9_takes_129 : decode cX9_takes 129 = .ok (.iload_n 2, 1) := by decide +kernel
theorem dX9_takes_130 : decode cX9_takes 130 = .ok (.iload_n 1, 1) := by decide +kernel
theorem dX9_takes_131 : decode cX9_takes 131 = .ok (.iconst 1, 1) := by decide +kernel
theorem dX9_takes_132 : decode cX9_takes 132 = .ok (.isub, 1) := by decide +kernel
theorem dX9_takes_133 : decode cX9_takes 133 = .ok (.if_icmp .ne 8, 3) := by decide +kernel
theorem dX9_takes_136 : decode cX9_takes 136 = .ok (.bipush 59, 2) := by decide +kernel
theorem dX9_takes_138 : decode cX9_takes 138 = .ok (.goto 5, 3) := by decide +kernel
theorem dX9_takes_141 : decode cX9_takes 141 = .ok (.bipush 44, 2) := by decide +kernel
theorem dX9_takes_143 : decode cX9_takes 143 = .ok (.if_icmp .eq 5, 3) := by decide +kernel
theorem dX9_takes_146 : decode cX9_takes 146 = .ok (.iconst 0, 1) := by decide +kernel
theorem dX9_takes_147 : decode cX9_takes 147 = .ok (.ireturn, 1) := by decide +kernel
theorem dX9_takes_148 : decode cX9_takes 148 = .ok (.aload_n 0, 1) := by decide +kernel
theorem dX9_takes_149 : decode cX9_takes 149 = .ok (.getfield 19, 3) := by decide +kernel
theorem dX9_takes_152 : decode cX9_takes 152 = .ok (.iload_n 2, 1) := by decide +kernel
theorem dX9_takes_153 : decode cX9_takes 153 = .ok (.iload 4, 2) := by decide +kernel
theorem dX9_takes_155 : decode cX9_takes 155 = .ok (.iastore, 1) := by decide +kernel
theorem dX9_takes_156 : decode cX9_takes 156 = .ok (.aload_n 0, 1) := by decide +kernel
theorem dX9_takes_157 : decode cX9_takes 157 = .ok (.dup, 1) := by decide +kernel
theorem dX9_takes_158 : decode cX9_takes 158 = .ok (.getfield 55, 3) := by decide +kernel
theorem dX9_takes_161 : decode cX9_takes 161 = .ok (.iconst 1, 1) := by decide +kernel
theorem dX9_takes_162 : decode cX9_takes 162 = .ok (.iadd, 1) := by decide +kernel
theorem dX9_takes_163 : decode cX9_takes 163 = .ok (.putfield 55, 3) := by decide +kernel
theorem dX9_takes_166 : decode cX9_takes 166 = .ok (.iinc 2 1, 3) := by decide +kernel
theorem dX9_takes_169 : decode cX9_takes 169 = .ok (.goto (-167), 3) := by decide +kernel
theorem dX9_takes_172 : decode cX9_takes 172 = .ok (.iconst 1, 1) := by decide +kernel
theorem dX9_takes_173 : decode cX9_takes 173 = .ok (.ireturn, 1) := by decide +kernel
theorem dX9_isRead_0 : decode cX9_isRead 0 = .ok (.iload_n 1, 1) := by decide +kernel
theorem dX9_isRead_1 : decode cX9_isRead 1 = .ok (.aload_n 0, 1) := by decide +kernel
theorem dX9_isRead_2 : decode cX9_isRead 2 = .ok (.getfield 7, 3) := by decide +kernel
theorem dX9_isRead_5 : decode cX9_isRead 5 = .ok (.sipush 605, 3) := by decide +kernel
theorem dX9_isRead_8 : decode cX9_isRead 8 = .ok (.iaload, 1) := by decide +kernel
theorem dX9_isRead_9 : decode cX9_isRead 9 = .ok (.if_icmp .ge 7, 3) := by decide +kernel
theorem dX9_isRead_12 : decode cX9_isRead 12 = .ok (.iconst 1, 1) := by decide +kernel
theorem dX9_isRead_13 : decode cX9_isRead 13 = .ok (.goto 4, 3) := by decide +kernel
theorem dX9_isRead_16 : decode cX9_isRead 16 = .ok (.iconst 0, 1) := by decide +kernel
theorem dX9_isRead_17 : decode cX9_isRead 17 = .ok (.ireturn, 1) := by decide +kernel
theorem dX9_readStep_0 : decode cX9_readStep 0 = .ok (.aload_n 0, 1) := by decide +kernel
theorem dX9_readStep_1 : decode cX9_readStep 1 = .ok (.iconst 3, 1) := by decide +kernel
theorem dX9_readStep_2 : decode cX9_readStep 2 = .ok (.invokevirtual 62, 3) := by decide +kernel
theorem dX9_readStep_5 : decode cX9_readStep 5 = .ok (.ifCond .eq 89, 3) := by decide +kernel
theorem dX9_readStep_8 : decode cX9_readStep 8 = .ok (.aload_n 0, 1) := by decide +kernel
theorem dX9_readStep_9 : decode cX9_readStep 9 = .ok (.aload_n 0, 1) := by decide +kernel
theorem dX9_readStep_10 : decode cX9_readStep 10 = .ok (.getfield 19, 3) := by decide +kernel
theorem dX9_readStep_13 : decode cX9_readStep 13 = .ok (.iconst 0, 1) := by decide +kernel
theorem dX9_readStep_14 : decode cX9_readStep 14 = .ok (.iaload, 1) := by decide +kernel
theorem dX9_readStep_15 : decode cX9_readStep 15 = .ok (.invokevirtual 66, 3) := by decide +kernel
theorem dX9_readStep_18 : decode cX9_readStep 18 = .ok (.ifCond .eq 76, 3) := by decide +kernel
theorem dX9_readStep_21 : decode cX9_readStep 21 = .ok (.aload_n 0, 1) := by decide +kernel
theorem dX9_readStep_22 : decode cX9_readStep 22 = .ok (.aload_n 0, 1) := by decide +kernel
theorem dX9_readStep_23 : decode cX9_readStep 23 = .ok (.getfield 19, 3) := by decide +kernel
theorem dX9_readStep_26 : decode cX9_readStep 26 = .ok (.iconst 1, 1) := by decide +kernel
theorem dX9_readStep_27 : decode cX9_readStep 27 = .ok (.iaload, 1) := by decide +kernel
theorem dX9_readStep_28 : decode cX9_readStep 28 = .ok (.invokevirtual 66, 3) := by decide +kernel
theorem dX9_readStep_31 : decode cX9_readStep 31 = .ok (.ifCond .eq 63, 3) := by decide +kernel
theorem dX9_readStep_34 : decode cX9_readStep 34 = .ok (.aload_n 0, 1) := by decide +kernel
theorem dX9_readStep_35 : decode cX9_readStep 35 = .ok (.aload_n 0, 1) := by decide +kernel
theorem dX9_readStep_36 : decode cX9_readStep 36 = .ok (.getfield 19, 3) := by decide +kernel
theorem dX9_readStep_39 : decode cX9_readStep 39 = .ok (.iconst 2, 1) := by decide +kernel
theorem dX9_readStep_40 : decode cX9_readStep 40 = .ok (.iaload, 1) := by decide +kernel
theorem dX9_readStep_41 : decode cX9_readStep 41 = .ok (.invokevirtual 66, 3) := by decide +kernel
theorem dX9_readStep_44 : decode cX9_readStep 44 = .ok (.ifCond .eq 50, 3) := by decide +kernel
theorem dX9_readStep_47 : decode cX9_readStep 47 = .ok (.aload_n 0, 1) := by decide +kernel
theorem dX9_readStep_48 : decode cX9_readStep 48 = .ok (.getfield 19, 3) := by decide +kernel
theorem dX9_readStep_51 : decode cX9_readStep 51 = .ok (.iconst 2, 1) := by decide +kernel
theorem dX9_readStep_52 : decode cX9_readStep 52 = .ok (.iaload, 1) := by decide +kernel
theorem dX9_readStep_53 : decode cX9_readStep 53 = .ok (.aload_n 0, 1) := by decide +kernel
theorem dX9_readStep_54 : decode cX9_readStep 54 = .ok (.getfield 19, 3) := by decide +kernel
theorem dX9_readStep_57 : decode cX9_readStep 57 = .ok (.iconst 0, 1) := by decide +kernel
theorem dX9_readStep_58 : decode cX9_readStep 58 = .ok (.iaload, 1) := by decide +kernel
theorem dX9_readStep_59 : decode cX9_readStep 59 = .ok (.if_icmp .eq 35, 3) := by decide +kernel
theorem dX9_readStep_62 : decode cX9_readStep 62 = .ok (.aload_n 0, 1) := by decide +kernel
theorem dX9_readStep_63 : decode cX9_readStep 63 = .ok (.getfield 19, 3) := by decide +kernel
theorem dX9_readStep_66 : decode cX9_readStep 66 = .ok (.iconst 2, 1) := by decide +kernel
theorem dX9_readStep_67 : decode cX9_readStep 67 = .ok (.iaload, 1) := by decide +kernel
theorem dX9_readStep_68 : decode cX9_readStep 68 = .ok (.aload_n 0, 1) := by decide +kernel
theorem dX9_readStep_69 : decode cX9_readStep 69 = .ok (.getfield 19, 3) := by decide +kernel
theorem dX9_readStep_72 : decode cX9_readStep 72 = .ok (.iconst 1, 1) := by decide +kernel
theorem dX9_readStep_73 : decode cX9_readStep 73 = .ok (.iaload, 1) := by decide +kernel
theorem dX9_readStep_74 : decode cX9_readStep 74 = .ok (.if_icmp .eq 20, 3) := by decide +kernel
theorem dX9_readStep_77 : decode cX9_readStep 77 = .ok (.aload_n 0, 1) := by decide +kernel
theorem dX9_readStep_78 : decode cX9_readStep 78 = .ok (.getfield 7, 3) := by decide +kernel
theorem dX9_readStep_81 : decode cX9_readStep 81 = .ok (.sipush 609, 3) := by decide +kernel
theorem dX9_readStep_84 : decode cX9_readStep 84 = .ok (.iaload, 1) := by decide +kernel
theorem dX9_readStep_85 : decode cX9_readStep 85 = .ok (.bipush 10, 2) := by decide +kernel
theorem dX9_readStep_87 : decode cX9_readStep 87 = .ok (.if_icmp .ge 7, 3) := by decide +kernel
theorem dX9_readStep_90 : decode cX9_readStep 90 = .ok (.iconst 1, 1) := by decide +kernel
theorem dX9_readStep_91 : decode cX9_readStep 91 = .ok (.goto 4, 3) := by decide +kernel
theorem dX9_readStep_94 : decode cX9_readStep 94 = .ok (.iconst 0, 1) := by decide +kernel
theorem dX9_readStep_95 : decode cX9_readStep 95 = .ok (.istore_n 1, 1) := by decide +kernel
theorem dX9_readStep_96 : decode cX9_readStep 96 = .ok (.iload_n 1, 1) := by decide +kernel
theorem dX9_readStep_97 : decode cX9_readStep 97 = .ok (.ifCond .eq 28, 3) := by decide +kernel
theorem dX9_readStep_100 : decode cX9_readStep 100 = .ok (.aload_n 0, 1) := by decide +kernel
theorem dX9_readStep_101 : decode cX9_readStep 101 = .ok (.sipush 605, 3) := by decide +kernel
theorem dX9_readStep_104 : decode cX9_readStep 104 = .ok (.aload_n 0, 1) := by decide +kernel
theorem dX9_readStep_105 : decode cX9_readStep 105 = .ok (.getfield 19, 3) := by decide +kernel
theorem dX9_readStep_108 : decode cX9_readStep 108 = .ok (.iconst 0, 1) := by decide +kernel
theorem dX9_readStep_109 : decode cX9_readStep 109 = .ok (.iaload, 1) := by decide +kernel
theorem dX9_readStep_110 : decode cX9_readStep 110 = .ok (.aload_n 0, 1) := by decide +kernel
theorem dX9_readStep_111 : decode cX9_readStep 111 = .ok (.getfield 19, 3) := by decide +kernel
theorem dX9_readStep_114 : decode cX9_readStep 114 = .ok (.iconst 1, 1) := by decide +kernel
theorem dX9_readStep_115 : decode cX9_readStep 115 = .ok (.iaload, 1) := by decide +kernel
theorem dX9_readStep_116 : decode cX9_readStep 116 = .ok (.aload_n 0, 1) := by decide +kernel
theorem dX9_readStep_117 : decode cX9_readStep 117 = .ok (.getfield 19, 3) := by decide +kernel
theorem dX9_readStep_120 : decode cX9_readStep 120 = .ok (.iconst 2, 1) := by decide +kernel
theorem dX9_readStep_121 : decode cX9_readStep 121 = .ok (.iaload, 1) := by decide +kernel
theorem dX9_readStep_122 : decode cX9_readStep 122 = .ok (.invokevirtual 36, 3) := by decide +kernel
theorem dX9_readStep_125 : decode cX9_readStep 125 = .ok (.iload_n 1, 1) := by decide +kernel
theorem dX9_readStep_126 : decode cX9_readStep 126 = .ok (.ireturn, 1) := by decide +kernel
theorem dX9_readPair_0 : decode cX9_readPair 0 = .ok (.aload_n 0, 1) := by decide +kernel
theorem dX9_readPair_1 : decode cX9_readPair 1 = .ok (.iconst 2, 1) := by decide +kernel
theorem dX9_readPair_2 : decode cX9_readPair 2 = .ok (.invokevirtual 62, 3) := by decide +kernel
theorem dX9_readPair_5 : decode cX9_readPair 5 = .ok (.ifCond .eq 48, 3) := by decide +kernel
theorem dX9_readPair_8 : decode cX9_readPair 8 = .ok (.aload_n 0, 1) := by decide +kernel
theorem dX9_readPair_9 : decode cX9_readPair 9 = .ok (.aload_n 0, 1) := by decide +kernel
theorem dX9_readPair_10 : decode cX9_readPair 10 = .ok (.getfield 19, 3) := by decide +kernel
theorem dX9_readPair_13 : decode cX9_readPair 13 = .ok (.iconst 0, 1) := by decide +kernel
theorem dX9_readPair_14 : decode cX9_readPair 14 = .ok (.iaload, 1) := by decide +kernel
theorem dX9_readPair_15 : decode cX9_readPair 15 = .ok (.invokevirtual 66, 3) := by decide +kernel
theorem dX9_readPair_18 : decode cX9_readPair 18 = .ok (.ifCond .eq 35, 3) := by decide +kernel
theorem dX9_readPair_21 : decode cX9_readPair 21 = .ok (.aload_n 0, 1) := by decide +kernel
theorem dX9_readPair_22 : decode cX9_readPair 22 = .ok (.aload_n 0, 1) := by decide +kernel
theorem dX9_readPair_23 : decode cX9_readPair 23 = .ok (.getfield 19, 3) := by decide +kernel
theorem dX9_readPair_26 : decode cX9_readPair 26 = .ok (.iconst 1, 1) := by decide +kernel
theorem dX9_readPair_27 : decode cX9_readPair 27 = .ok (.iaload, 1) := by decide +kernel
theorem dX9_readPair_28 : decode cX9_readPair 28 = .ok (.invokevirtual 66, 3) := by decide +kernel
theorem dX9_readPair_31 : decode cX9_readPair 31 = .ok (.ifCond .eq 22, 3) := by decide +kernel
theorem dX9_readPair_34 : decode cX9_readPair 34 = .ok (.aload_n 0, 1) := by decide +kernel
theorem dX9_readPair_35 : decode cX9_readPair 35 = .ok (.getfield 19, 3) := by decide +kernel
theorem dX9_readPair_38 : decode cX9_readPair 38 = .ok (.iconst 0, 1) := by decide +kernel
theorem dX9_readPair_39 : decode cX9_readPair 39 = .ok (.iaload, 1) := by decide +kernel
theorem dX9_readPair_40 : decode cX9_readPair 40 = .ok (.aload_n 0, 1) := by decide +kernel
theorem dX9_readPair_41 : decode cX9_readPair 41 = .ok (.getfield 19, 3) := by decide +kernel
theorem dX9_readPair_44 : decode cX9_readPair 44 = .ok (.iconst 1, 1) := by decide +kernel
theorem dX9_readPair_45 : decode cX9_readPair 45 = .ok (.iaload, 1) := by decide +kernel
theorem dX9_readPair_46 : decode cX9_readPair 46 = .ok (.if_icmp .eq 7, 3) := by decide +kernel
theorem dX9_readPair_49 : decode cX9_readPair 49 = .ok (.iconst 1, 1) := by decide +kernel
theorem dX9_readPair_50 : decode cX9_readPair 50 = .ok (.goto 4, 3) := by decide +kernel
theorem dX9_readPair_53 : decode cX9_readPair 53 = .ok (.iconst 0, 1) := by decide +kernel
theorem dX9_readPair_54 : decode cX9_readPair 54 = .ok (.istore_n 1, 1) := by decide +kernel
theorem dX9_readPair_55 : decode cX9_readPair 55 = .ok (.iload_n 1, 1) := by decide +kernel
theorem dX9_readPair_56 : decode cX9_readPair 56 = .ok (.ifCond .eq 55, 3) := by decide +kernel
theorem dX9_readPair_59 : decode cX9_readPair 59 = .ok (.aload_n 0, 1) := by decide +kernel
theorem dX9_readPair_60 : decode cX9_readPair 60 = .ok (.getfield 7, 3) := by decide +kernel
theorem dX9_readPair_63 : decode cX9_readPair 63 = .ok (.sipush 650, 3) := by decide +kernel
theorem dX9_readPair_66 : decode cX9_readPair 66 = .ok (.aload_n 0, 1) := by decide +kernel
theorem dX9_readPair_67 : decode cX9_readPair 67 = .ok (.getfield 19, 3) := by decide +kernel
theorem dX9_readPair_70 : decode cX9_readPair 70 = .ok (.iconst 0, 1) := by decide +kernel
theorem dX9_readPair_71 : decode cX9_readPair 71 = .ok (.iaload, 1) := by decide +kernel
theorem dX9_readPair_72 : decode cX9_readPair 72 = .ok (.iadd, 1) := by decide +kernel
theorem dX9_readPair_73 : decode cX9_readPair 73 = .ok (.dup2, 1) := by decide +kernel
theorem dX9_readPair_74 : decode cX9_readPair 74 = .ok (.iaload, 1) := by decide +kernel
theorem dX9_readPair_75 : decode cX9_readPair 75 = .ok (.iconst 1, 1) := by decide +kernel
theorem dX9_readPair_76 : decode cX9_readPair 76 = .ok (.aload_n 0, 1) := by decide +kernel
theorem dX9_readPair_77 : decode cX9_readPair 77 = .ok (.getfield 19, 3) := by decide +kernel
theorem dX9_readPair_80 : decode cX9_readPair 80 = .ok (.iconst 1, 1) := by decide +kernel
theorem dX9_readPair_81 : decode cX9_readPair 81 = .ok (.iaload, 1) := by decide +kernel
theorem dX9_readPair_82 : decode cX9_readPair 82 = .ok (.ishl, 1) := by decide +kernel
theorem dX9_readPair_83 : decode cX9_readPair 83 = .ok (.ior, 1) := by decide +kernel
theorem dX9_readPair_84 : decode cX9_readPair 84 = .ok (.iastore, 1) := by decide +kernel
theorem dX9_readPair_85 : decode cX9_readPair 85 = .ok (.aload_n 0, 1) := by decide +kernel
theorem dX9_readPair_86 : decode cX9_readPair 86 = .ok (.getfield 7, 3) := by decide +kernel
theorem dX9_readPair_89 : decode cX9_readPair 89 = .ok (.sipush 650, 3) := by decide +kernel
theorem dX9_readPair_92 : decode cX9_readPair 92 = .ok (.aload_n 0, 1) := by decide +kernel
theorem dX9_readPair_93 : decode cX9_readPair 93 = .ok (.getfield 19, 3) := by decide +kernel
theorem dX9_readPair_96 : decode cX9_readPair 96 = .ok (.iconst 1, 1) := by decide +kernel
theorem dX9_readPair_97 : decode cX9_readPair 97 = .ok (.iaload, 1) := by decide +kernel
theorem dX9_readPair_98 : decode cX9_readPair 98 = .ok (.iadd, 1) := by decide +kernel
theorem dX9_readPair_99 : decode cX9_readPair 99 = .ok (.dup2, 1) := by decide +kernel
theorem dX9_readPair_100 : decode cX9_readPair 100 = .ok (.iaload, 1) := by decide +kernel
theorem dX9_readPair_101 : decode cX9_readPair 101 = .ok (.iconst 1, 1) := by decide +kernel
theorem dX9_readPair_102 : decode cX9_readPair 102 = .ok (.aload_n 0, 1) := by decide +kernel
theorem dX9_readPair_103 : decode cX9_readPair 103 = .ok (.getfield 19, 3) := by decide +kernel
theorem dX9_readPair_106 : decode cX9_readPair 106 = .ok (.iconst 0, 1) := by decide +kernel
theorem dX9_readPair_107 : decode cX9_readPair 107 = .ok (.iaload, 1) := by decide +kernel
theorem dX9_readPair_108 : decode cX9_readPair 108 = .ok (.ishl, 1) := by decide +kernel
theorem dX9_readPair_109 : decode cX9_readPair 109 = .ok (.ior, 1) := by decide +kernel
theorem dX9_readPair_110 : decode cX9_readPair 110 = .ok (.iastore, 1) := by decide +kernel
theorem dX9_readPair_111 : decode cX9_readPair 111 = .ok (.iload_n 1, 1) := by decide +kernel
theorem dX9_readPair_112 : decode cX9_readPair 112 = .ok (.ireturn, 1) := by decide +kernel
theorem dX9_readItem_0 : decode cX9_readItem 0 = .ok (.aload_n 0, 1) := by decide +kernel
theorem dX9_readItem_1 : decode cX9_readItem 1 = .ok (.getfield 13, 3) := by decide +kernel
theorem dX9_readItem_4 : decode cX9_readItem 4 = .ok (.aload_n 0, 1) := by decide +kernel
theorem dX9_readItem_5 : decode cX9_readItem 5 = .ok (.getfield 55, 3) := by decide +kernel
theorem dX9_readItem_8 : decode cX9_readItem 8 = .ok (.iaload, 1) := by decide +kernel
theorem dX9_readItem_9 : decode cX9_readItem 9 = .ok (.istore_n 1, 1) := by decide +kernel
theorem dX9_readItem_10 : decode cX9_readItem 10 = .ok (.aload_n 0, 1) := by decide +kernel
theorem dX9_readItem_11 : decode cX9_readItem 11 = .ok (.dup, 1) := by decide +kernel
theorem dX9_readItem_12 : decode cX9_readItem 12 = .ok (.getfield 55, 3) := by decide +kernel
theorem dX9_readItem_15 : decode cX9_readItem 15 = .ok (.iconst 1, 1) := by decide +kernel
theorem dX9_readItem_16 : decode cX9_readItem 16 = .ok (.iadd, 1) := by decide +kernel
theorem dX9_readItem_17 : decode cX9_readItem 17 = .ok (.putfield 55, 3) := by decide +kernel
theorem dX9_readItem_20 : decode cX9_readItem 20 = .ok (.iconst 0, 1) := by decide +kernel
theorem dX9_readItem_21 : decode cX9_readItem 21 = .ok (.istore_n 2, 1) := by decide +kernel
theorem dX9_readItem_22 : decode cX9_readItem 22 = .ok (.iload_n 1, 1) := by decide +kernel
theorem dX9_readItem_23 : decode cX9_readItem 23 = .ok (.lookupswitch 266 #[(97, 119), (110, 49), (116, 176), (119, 192), (120, 184)], 49) := by decide +kernel
theorem dX9_readItem_72 : decode cX9_readItem 72 = .ok (.aload_n 0, 1) := by decide +kernel
theorem dX9_readItem_73 : decode cX9_readItem 73 = .ok (.getfield 69, 3) := by decide +kernel
theorem dX9_readItem_76 : decode cX9_readItem 76 = .ok (.ifCond .ne 32, 3) := by decide +kernel
theorem dX9_readItem_79 : decode cX9_readItem 79 = .ok (.aload_n 0, 1) := by decide +kernel
theorem dX9_readItem_80 : decode cX9_readItem 80 = .ok (.iconst 1, 1) := by decide +kernel
theorem dX9_readItem_81 : decode cX9_readItem 81 = .ok (.invokevirtual 62, 3) := by decide +kernel
theorem dX9_readItem_84 : decode cX9_readItem 84 = .ok (.ifCond .eq 24, 3) := by decide +kernel
theorem dX9_readItem_87 : decode cX9_readItem 87 = .ok (.aload_n 0, 1) := by decide +kernel
theorem dX9_readItem_88 : decode cX9_readItem 88 = .ok (.getfield 19, 3) := by decide +kernel
theorem dX9_readItem_91 : decode cX9_readItem 91 = .ok (.iconst 0, 1) := by decide +kernel
theorem dX9_readItem_92 : decode cX9_readItem 92 = .ok (.iaload, 1) := by decide +kernel
theorem dX9_readItem_93 : decode cX9_readItem 93 = .ok (.i2l, 1) := by decide +kernel
theorem dX9_readItem_94 : decode cX9_readItem 94 = .ok (.lconst 1, 1) := by decide +kernel
theorem dX9_readItem_95 : decode cX9_readItem 95 = .ok (.ldc2_w 73, 3) := by decide +kernel
theorem dX9_readItem_98 : decode cX9_readItem 98 = .ok (.invokestatic 43, 3) := by decide +kernel
theorem dX9_readItem_101 : decode cX9_readItem 101 = .ok (.ifCond .eq 7, 3) := by decide +kernel
theorem dX9_readItem_104 : decode cX9_readItem 104 = .ok (.iconst 1, 1) := by decide +kernel
theorem dX9_readItem_105 : decode cX9_readItem 105 = .ok (.goto 4, 3) := by decide +kernel
theorem dX9_readItem_108 : decode cX9_readItem 108 = .ok (.iconst 0, 1) := by decide +kernel
theorem dX9_readItem_109 : decode cX9_readItem 109 = .ok (.istore_n 2, 1) := by decide +kernel
theorem dX9_readItem_110 : decode cX9_readItem 110 = .ok (.aload_n 0, 1) := by decide +kernel
theorem dX9_readItem_111 : decode cX9_readItem 111 = .ok (.getfield 7, 3) := by decide +kernel
theorem dX9_readItem_114 : decode cX9_readItem 114 = .ok (.sipush 605, 3) := by decide +kernel
theorem dX9_readItem_117 : decode cX9_readItem 117 = .ok (.iload_n 2, 1) := by decide +kernel
theorem dX9_readItem_118 : decode cX9_readItem 118 = .ok (.ifCond .eq 12, 3) := by decide +kernel
theorem dX9_readItem_121 : decode cX9_readItem 121 = .ok (.aload_n 0, 1) := by decide +kernel
theorem dX9_readItem_122 : decode cX9_readItem 122 = .ok (.getfield 19, 3) := by decide +kernel
theorem dX9_readItem_125 : decode cX9_readItem 125 = .ok (.iconst 0, 1) := by decide +kernel
theorem dX9_readItem_126 : decode cX9_readItem 126 = .ok (.iaload, 1) := by decide +kernel
theorem dX9_readItem_127 : decode cX9_readItem 127 = .ok (.goto 11, 3) := by decide +kernel
theorem dX9_readItem_130 : decode cX9_readItem 130 = .ok (.aload_n 0, 1) := by decide +kernel
theorem dX9_readItem_131 : decode cX9_readItem 131 = .ok (.getfield 7, 3) := by decide +kernel
theorem dX9_readItem_134 : decode cX9_readItem 134 = .ok (.sipush 605, 3) := by decide +kernel
theorem dX9_readItem_137 : decode cX9_readItem 137 = .ok (.iaload, 1) := by decide +kernel
theorem dX9_readItem_138 : decode cX9_readItem 138 = .ok (.iastore, 1) := by decide +kernel
theorem dX9_readItem_139 : decode cX9_readItem 139 = .ok (.goto 150, 3) := by decide +kernel
theorem dX9_readItem_142 : decode cX9_readItem 142 = .ok (.aload_n 0, 1) := by decide +kernel
theorem dX9_readItem_143 : decode cX9_readItem 143 = .ok (.iconst 1, 1) := by decide +kernel
theorem dX9_readItem_144 : decode cX9_readItem 144 = .ok (.invokevirtual 62, 3) := by decide +kernel
theorem dX9_readItem_147 : decode cX9_readItem 147 = .ok (.ifCond .eq 20, 3) := by decide +kernel
theorem dX9_readItem_150 : decode cX9_readItem 150 = .ok (.aload_n 0, 1) := by decide +kernel
theorem dX9_readItem_151 : decode cX9_readItem 151 = .ok (.aload_n 0, 1) := by decide +kernel
theorem dX9_readItem_152 : decode cX9_readItem 152 = .ok (.getfield 19, 3) := by decide +kernel
theorem dX9_readItem_155 : decode cX9_readItem 155 = .ok (.iconst 0, 1) := by decide +kernel
theorem dX9_readItem_156 : decode cX9_readItem 156 = .ok (.iaload, 1) := by decide +kernel
theorem dX9_readItem_157 : decode cX9_readItem 157 = .ok (.invokevirtual 66, 3) := by decide +kernel
theorem dX9_readItem_160 : decode cX9_readItem 160 = .ok (.ifCond .eq 7, 3) := by decide +kernel
theorem dX9_readItem_163 : decode cX9_readItem 163 = .ok (.iconst 1, 1) := by decide +kernel
theorem dX9_readItem_164 : decode cX9_readItem 164 = .ok (.goto 4, 3) := by decide +kernel
theorem dX9_readItem_167 : decode cX9_readItem 167 = .ok (.iconst 0, 1) := by decide +kernel
theorem dX9_readItem_168 : decode cX9_readItem 168 = .ok (.istore_n 2, 1) := by decide +kernel
theorem dX9_readItem_169 : decode cX9_readItem 169 = .ok (.aload_n 0, 1) := by decide +kernel
theorem dX9_readItem_170 : decode cX9_readItem 170 = .ok (.getfield 7, 3) := by decide +kernel
theorem dX9_readItem_173 : decode cX9_readItem 173 = .ok (.sipush 606, 3) := by decide +kernel
theorem dX9_readItem_176 : decode cX9_readItem 176 = .ok (.dup2, 1) := by decide +kernel
theorem dX9_readItem_177 : decode cX9_readItem 177 = .ok (.iaload, 1) := by decide +kernel
theorem dX9_readItem_178 : decode cX9_readItem 178 = .ok (.iload_n 2, 1) := by decide +kernel
theorem dX9_readItem_179 : decode cX9_readItem 179 = .ok (.ifCond .eq 14, 3) := by decide +kernel
theorem dX9_readItem_182 : decode cX9_readItem 182 = .ok (.iconst 1, 1) := by decide +kernel
theorem dX9_readItem_183 : decode cX9_readItem 183 = .ok (.aload_n 0, 1) := by decide +kernel
theorem dX9_readItem_184 : decode cX9_readItem 184 = .ok (.getfield 19, 3) := by decide +kernel
theorem dX9_readItem_187 : decode cX9_readItem 187 = .ok (.iconst 0, 1) := by decide +kernel
theorem dX9_readItem_188 : decode cX9_readItem 188 = .ok (.iaload, 1) := by decide +kernel
theorem dX9_readItem_189 : decode cX9_readItem 189 = .ok (.ishl, 1) := by decide +kernel
theorem dX9_readItem_190 : decode cX9_readItem 190 = .ok (.goto 4, 3) := by decide +kernel
theorem dX9_readItem_193 : decode cX9_readItem 193 = .ok (.iconst 0, 1) := by decide +kernel
theorem dX9_readItem_194 : decode cX9_readItem 194 = .ok (.ior, 1) := by decide +kernel
theorem dX9_readItem_195 : decode cX9_readItem 195 = .ok (.iastore, 1) := by decide +kernel
theorem dX9_readItem_196 : decode cX9_readItem 196 = .ok (.goto 93, 3) := by decide +kernel
theorem dX9_readItem_199 : decode cX9_readItem 199 = .ok (.aload_n 0, 1) := by decide +kernel
theorem dX9_readItem_200 : decode cX9_readItem 200 = .ok (.invokevirtual 75, 3) := by decide +kernel
theorem dX9_readItem_203 : decode cX9_readItem 203 = .ok (.istore_n 2, 1) := by decide +kernel
theorem dX9_readItem_204 : decode cX9_readItem 204 = .ok (.goto 85, 3) := by decide +kernel
theorem dX9_readItem_207 : decode cX9_readItem 207 = .ok (.aload_n 0, 1) := by decide +kernel
theorem dX9_readItem_208 : decode cX9_readItem 208 = .ok (.invokevirtual 79, 3) := by decide +kernel
theorem dX9_readItem_211 : decode cX9_readItem 211 = .ok (.istore_n 2, 1) := by decide +kernel
theorem dX9_readItem_212 : decode cX9_readItem 212 = .ok (.goto 77, 3) := by decide +kernel
theorem dX9_readItem_215 : decode cX9_readItem 215 = .ok (.aload_n 0, 1) := by decide +kernel
theorem dX9_readItem_216 : decode cX9_readItem 216 = .ok (.iconst 2, 1) := by decide +kernel
theorem dX9_readItem_217 : decode cX9_readItem 217 = .ok (.invokevirtual 62, 3) := by decide +kernel
theorem dX9_readItem_220 : decode cX9_readItem 220 = .ok (.ifCond .eq 20, 3) := by decide +kernel
theorem dX9_readItem_223 : decode cX9_readItem 223 = .ok (.aload_n 0, 1) := by decide +kernel
theorem dX9_readItem_224 : decode cX9_readItem 224 = .ok (.aload_n 0, 1) := by decide +kernel
theorem dX9_readItem_225 : decode cX9_readItem 225 = .ok (.getfield 19, 3) := by decide +kernel
theorem dX9_readItem_228 : decode cX9_readItem 228 = .ok (.iconst 0, 1) := by decide +kernel
theorem dX9_readItem_229 : decode cX9_readItem 229 = .ok (.iaload, 1) := by decide +kernel
theorem dX9_readItem_230 : decode cX9_readItem 230 = .ok (.invokevirtual 66, 3) := by decide +kernel
theorem dX9_readItem_233 : decode cX9_readItem 233 = .ok (.ifCond .eq 7, 3) := by decide +kernel
theorem dX9_readItem_236 : decode cX9_readItem 236 = .ok (.iconst 1, 1) := by decide +kernel
theorem dX9_readItem_237 : decode cX9_readItem 237 = .ok (.goto 4, 3) := by decide +kernel
theorem dX9_readItem_240 : decode cX9_readItem 240 = .ok (.iconst 0, 1) := by decide +kernel
theorem dX9_readItem_241 : decode cX9_readItem 241 = .ok (.istore_n 2, 1) := by decide +kernel
theorem dX9_readItem_242 : decode cX9_readItem 242 = .ok (.aload_n 0, 1) := by decide +kernel
theorem dX9_readItem_243 : decode cX9_readItem 243 = .ok (.getfield 7, 3) := by decide +kernel
theorem dX9_readItem_246 : decode cX9_readItem 246 = .ok (.sipush 640, 3) := by decide +kernel
theorem dX9_readItem_249 : decode cX9_readItem 249 = .ok (.iload_n 2, 1) := by decide +kernel
theorem dX9_readItem_250 : decode cX9_readItem 250 = .ok (.ifCond .eq 12, 3) := by decide +kernel
theorem dX9_readItem_253 : decode cX9_readItem 253 = .ok (.aload_n 0, 1) := by decide +kernel
theorem dX9_readItem_254 : decode cX9_readItem 254 = .ok (.getfield 19, 3) := by decide +kernel
theorem dX9_readItem_257 : decode cX9_readItem 257 = .ok (.iconst 0, 1) := by decide +kernel
theorem dX9_readItem_258 : decode cX9_readItem 258 = .ok (.iaload, 1) := by decide +kernel
theorem dX9_readItem_259 : decode cX9_readItem 259 = .ok (.goto 4, 3) := by decide +kernel
theorem dX9_readItem_262 : decode cX9_readItem 262 = .ok (.iconst 0, 1) := by decide +kernel
theorem dX9_readItem_263 : decode cX9_readItem 263 = .ok (.iadd, 1) := by decide +kernel
theorem dX9_readItem_264 : decode cX9_readItem 264 = .ok (.iload_n 2, 1) := by decide +kernel
theorem dX9_readItem_265 : decode cX9_readItem 265 = .ok (.ifCond .eq 12, 3) := by decide +kernel
theorem dX9_readItem_268 : decode cX9_readItem 268 = .ok (.aload_n 0, 1) := by decide +kernel
theorem dX9_readItem_269 : decode cX9_readItem 269 = .ok (.getfield 19, 3) := by decide +kernel
theorem dX9_readItem_272 : decode cX9_readItem 272 = .ok (.iconst 1, 1) := by decide +kernel
theorem dX9_readItem_273 : decode cX9_readItem 273 = .ok (.iaload, 1) := by decide +kernel
theorem dX9_readItem_274 : decode cX9_readItem 274 = .ok (.goto 11, 3) := by decide +kernel
theorem dX9_readItem_277 : decode cX9_readItem 277 = .ok (.aload_n 0, 1) := by decide +kernel
theorem dX9_readItem_278 : decode cX9_readItem 278 = .ok (.getfield 7, 3) := by decide +kernel
theorem dX9_readItem_281 : decode cX9_readItem 281 = .ok (.sipush 640, 3) := by decide +kernel
theorem dX9_readItem_284 : decode cX9_readItem 284 = .ok (.iaload, 1) := by decide +kernel
theorem dX9_readItem_285 : decode cX9_readItem 285 = .ok (.iastore, 1) := by decide +kernel
theorem dX9_readItem_286 : decode cX9_readItem 286 = .ok (.goto 3, 3) := by decide +kernel
theorem dX9_readItem_289 : decode cX9_readItem 289 = .ok (.aload_n 0, 1) := by decide +kernel
theorem dX9_readItem_290 : decode cX9_readItem 290 = .ok (.aload_n 0, 1) := by decide +kernel
theorem dX9_readItem_291 : decode cX9_readItem 291 = .ok (.getfield 69, 3) := by decide +kernel
theorem dX9_readItem_294 : decode cX9_readItem 294 = .ok (.ifCond .ne 9, 3) := by decide +kernel
theorem dX9_readItem_297 : decode cX9_readItem 297 = .ok (.iload_n 1, 1) := by decide +kernel
theorem dX9_readItem_298 : decode cX9_readItem 298 = .ok (.bipush 110, 2) := by decide +kernel
theorem dX9_readItem_300 : decode cX9_readItem 300 = .ok (.if_icmp .eq 7, 3) := by decide +kernel
theorem dX9_readItem_303 : decode cX9_readItem 303 = .ok (.iconst 1, 1) := by decide +kernel
theorem dX9_readItem_304 : decode cX9_readItem 304 = .ok (.goto 4, 3) := by decide +kernel
theorem dX9_readItem_307 : decode cX9_readItem 307 = .ok (.iconst 0, 1) := by decide +kernel
theorem dX9_readItem_308 : decode cX9_readItem 308 = .ok (.putfield 69, 3) := by decide +kernel
theorem dX9_readItem_311 : decode cX9_readItem 311 = .ok (.iload_n 2, 1) := by decide +kernel
theorem dX9_readItem_312 : decode cX9_readItem 312 = .ok (.ireturn, 1) := by decide +kernel
theorem dX9_fault_0 : decode cX9_fault 0 = .ok (.aload_n 0, 1) := by decide +kernel
theorem dX9_fault_1 : decode cX9_fault 1 = .ok (.sipush 605, 3) := by decide +kernel
theorem dX9_fault_4 : decode cX9_fault 4 = .ok (.invokevirtual 32, 3) := by decide +kernel
theorem dX9_fault_7 : decode cX9_fault 7 = .ok (.aload_n 0, 1) := by decide +kernel
theorem dX9_fault_8 : decode cX9_fault 8 = .ok (.iconst 0, 1) := by decide +kernel
theorem dX9_fault_9 : decode cX9_fault 9 = .ok (.putfield 69, 3) := by decide +kernel
theorem dX9_fault_12 : decode cX9_fault 12 = .ok (.aload_n 0, 1) := by decide +kernel
theorem dX9_fault_13 : decode cX9_fault 13 = .ok (.iconst 0, 1) := by decide +kernel
theorem dX9_fault_14 : decode cX9_fault 14 = .ok (.putfield 55, 3) := by decide +kernel
theorem dX9_fault_17 : decode cX9_fault 17 = .ok (.aload_n 0, 1) := by decide +kernel
theorem dX9_fault_18 : decode cX9_fault 18 = .ok (.getfield 55, 3) := by decide +kernel
theorem dX9_fault_21 : decode cX9_fault 21 = .ok (.aload_n 0, 1) := by decide +kernel
theorem dX9_fault_22 : decode cX9_fault 22 = .ok (.getfield 49, 3) := by decide +kernel
theorem dX9_fault_25 : decode cX9_fault 25 = .ok (.if_icmp .ge 20, 3) := by decide +kernel
theorem dX9_fault_28 : decode cX9_fault 28 = .ok (.aload_n 0, 1) := by decide +kernel
theorem dX9_fault_29 : decode cX9_fault 29 = .ok (.getfield 55, 3) := by decide +kernel
theorem dX9_fault_32 : decode cX9_fault 32 = .ok (.istore_n 1, 1) := by decide +kernel
theorem dX9_fault_33 : decode cX9_fault 33 = .ok (.aload_n 0, 1) := by decide +kernel
theorem dX9_fault_34 : decode cX9_fault 34 = .ok (.invokevirtual 82, 3) := by decide +kernel
theorem dX9_fault_37 : decode cX9_fault 37 = .ok (.ifCond .ne 5, 3) := by decide +kernel
theorem dX9_fault_40 : decode cX9_fault 40 = .ok (.iload_n 1, 1) := by decide +kernel
theorem dX9_fault_41 : decode cX9_fault 41 = .ok (.ireturn, 1) := by decide +kernel
theorem dX9_fault_42 : decode cX9_fault 42 = .ok (.goto (-25), 3) := by decide +kernel
theorem dX9_fault_45 : decode cX9_fault 45 = .ok (.bipush (-4), 2) := by decide +kernel
theorem dX9_fault_47 : decode cX9_fault 47 = .ok (.ireturn, 1) := by decide +kernel
theorem dX9_layFloor_0 : decode cX9_layFloor 0 = .ok (.aload_n 0, 1) := by decide +kernel
theorem dX9_layFloor_1 : decode cX9_layFloor 1 = .ok (.invokevirtual 85, 3) := by decide +kernel
theorem dX9_layFloor_4 : decode cX9_layFloor 4 = .ok (.bipush (-4), 2) := by decide +kernel
theorem dX9_layFloor_6 : decode cX9_layFloor 6 = .ok (.if_icmp .ne 14, 3) := by decide +kernel
theorem dX9_layFloor_9 : decode cX9_layFloor 9 = .ok (.aload_n 0, 1) := by decide +kernel
theorem dX9_layFloor_10 : decode cX9_layFloor 10 = .ok (.getfield 7, 3) := by decide +kernel
theorem dX9_layFloor_13 : decode cX9_layFloor 13 = .ok (.sipush 609, 3) := by decide +kernel
theorem dX9_layFloor_16 : decode cX9_layFloor 16 = .ok (.iaload, 1) := by decide +kernel
theorem dX9_layFloor_17 : decode cX9_layFloor 17 = .ok (.ifCond .ne 6, 3) := by decide +kernel
theorem dX9_layFloor_20 : decode cX9_layFloor 20 = .ok (.bipush (-2), 2) := by decide +kernel
theorem dX9_layFloor_22 : decode cX9_layFloor 22 = .ok (.ireturn, 1) := by decide +kernel
theorem dX9_layFloor_23 : decode cX9_layFloor 23 = .ok (.aload_n 0, 1) := by decide +kernel
theorem dX9_layFloor_24 : decode cX9_layFloor 24 = .ok (.sipush 605, 3) := by decide +kernel
theorem dX9_layFloor_27 : decode cX9_layFloor 27 = .ok (.iconst 0, 1) := by decide +kernel
theorem dX9_layFloor_28 : decode cX9_layFloor 28 = .ok (.invokevirtual 89, 3) := by decide +kernel
theorem dX9_layFloor_31 : decode cX9_layFloor 31 = .ok (.aload_n 0, 1) := by decide +kernel
theorem dX9_layFloor_32 : decode cX9_layFloor 32 = .ok (.iconst 0, 1) := by decide +kernel
theorem dX9_layFloor_33 : decode cX9_layFloor 33 = .ok (.invokevirtual 40, 3) := by decide +kernel
theorem dX9_layFloor_36 : decode cX9_layFloor 36 = .ok (.aload_n 0, 1) := by decide +kernel
theorem dX9_layFloor_37 : decode cX9_layFloor 37 = .ok (.iconst 0, 1) := by decide +kernel
theorem dX9_layFloor_38 : decode cX9_layFloor 38 = .ok (.putfield 93, 3) := by decide +kernel
theorem dX9_layFloor_41 : decode cX9_layFloor 41 = .ok (.aload_n 0, 1) := by decide +kernel
theorem dX9_layFloor_42 : decode cX9_layFloor 42 = .ok (.iconst 0, 1) := by decide +kernel
theorem dX9_layFloor_43 : decode cX9_layFloor 43 = .ok (.putfield 96, 3) := by decide +kernel
theorem dX9_layFloor_46 : decode cX9_layFloor 46 = .ok (.aload_n 0, 1) := by decide +kernel
theorem dX9_layFloor_47 : decode cX9_layFloor 47 = .ok (.iconst 0, 1) := by decide +kernel
theorem dX9_layFloor_48 : decode cX9_layFloor 48 = .ok (.putfield 99, 3) := by decide +kernel
theorem dX9_layFloor_51 : decode cX9_layFloor 51 = .ok (.aload_n 0, 1) := by decide +kernel
theorem dX9_layFloor_52 : decode cX9_layFloor 52 = .ok (.getfield 7, 3) := by decide +kernel
theorem dX9_layFloor_55 : decode cX9_layFloor 55 = .ok (.iconst 0, 1) := by decide +kernel
theorem dX9_layFloor_56 : decode cX9_layFloor 56 = .ok (.iaload, 1) := by decide +kernel
theorem dX9_layFloor_57 : decode cX9_layFloor 57 = .ok (.ireturn, 1) := by decide +kernel
theorem dX9_may_0 : decode cX9_may 0 = .ok (.iconst 1, 1) := by decide +kernel
theorem dX9_may_1 : decode cX9_may 1 = .ok (.aload_n 0, 1) := by decide +kernel
theorem dX9_may_2 : decode cX9_may 2 = .ok (.getfield 7, 3) := by decide +kernel
theorem dX9_may_5 : decode cX9_may 5 = .ok (.iconst 5, 1) := by decide +kernel
theorem dX9_may_6 : decode cX9_may 6 = .ok (.iload_n 1, 1) := by decide +kernel
theorem dX9_may_7 : decode cX9_may 7 = .ok (.iadd, 1) := by decide +kernel
theorem dX9_may_8 : decode cX9_may 8 = .ok (.iaload, 1) := by decide +kernel
theorem dX9_may_9 : decode cX9_may 9 = .ok (.ishl, 1) := by decide +kernel
theorem dX9_may_10 : decode cX9_may 10 = .ok (.iconst 1, 1) := by decide +kernel
theorem dX9_may_11 : decode cX9_may 11 = .ok (.aload_n 0, 1) := by decide +kernel
theorem dX9_may_12 : decode cX9_may 12 = .ok (.getfield 7, 3) := by decide +kernel
theorem dX9_may_15 : decode cX9_may 15 = .ok (.bipush 15, 2) := by decide +kernel
theorem dX9_may_17 : decode cX9_may 17 = .ok (.iload_n 1, 1) := by decide +kernel
theorem dX9_may_18 : decode cX9_may 18 = .ok (.iadd, 1) := by decide +kernel
theorem dX9_may_19 : decode cX9_may 19 = .ok (.iaload, 1) := by decide +kernel
theorem dX9_may_20 : decode cX9_may 20 = .ok (.ishl, 1) := by decide +kernel
theorem dX9_may_21 : decode cX9_may 21 = .ok (.ior, 1) := by decide +kernel
theorem dX9_may_22 : decode cX9_may 22 = .ok (.iconst 1, 1) := by decide +kernel
theorem dX9_may_23 : decode cX9_may 23 = .ok (.aload_n 0, 1) := by decide +kernel
theorem dX9_may_24 : decode cX9_may 24 = .ok (.getfield 7, 3) := by decide +kernel
theorem dX9_may_27 : decode cX9_may 27 = .ok (.bipush 25, 2) := by decide +kernel
theorem dX9_may_29 : decode cX9_may 29 = .ok (.iload_n 1, 1) := by decide +kernel
theorem dX9_may_30 : decode cX9_may 30 = .ok (.iadd, 1) := by decide +kernel
theorem dX9_may_31 : decode cX9_may 31 = .ok (.iaload, 1) := by decide +kernel
theorem dX9_may_32 : decode cX9_may 32 = .ok (.ishl, 1) := by decide +kernel
theorem dX9_may_33 : decode cX9_may 33 = .ok (.ior, 1) := by decide +kernel
theorem dX9_may_34 : decode cX9_may 34 = .ok (.istore_n 2, 1) := by decide +kernel
theorem dX9_may_35 : decode cX9_may 35 = .ok (.iload_n 2, 1) := by decide +kernel
theorem dX9_may_36 : decode cX9_may 36 = .ok (.aload_n 0, 1) := by decide +kernel
theorem dX9_may_37 : decode cX9_may 37 = .ok (.getfield 7, 3) := by decide +kernel
theorem dX9_may_40 : decode cX9_may 40 = .ok (.iconst 2, 1) := by decide +kernel
theorem dX9_may_41 : decode cX9_may 41 = .ok (.iaload, 1) := by decide +kernel
theorem dX9_may_42 : decode cX9_may 42 = .ok (.iconst (-1), 1) := by decide +kernel
theorem dX9_may_43 : decode cX9_may 43 = .ok (.ixor, 1) := by decide +kernel
theorem dX9_may_44 : decode cX9_may 44 = .ok (.iand, 1) := by decide +kernel
theorem dX9_may_45 : decode cX9_may 45 = .ok (.ifCond .ne 69, 3) := by decide +kernel
theorem dX9_may_48 : decode cX9_may 48 = .ok (.aload_n 0, 1) := by decide +kernel
theorem dX9_may_49 : decode cX9_may 49 = .ok (.getfield 7, 3) := by decide +kernel
theorem dX9_may_52 : decode cX9_may 52 = .ok (.iconst 3, 1) := by decide +kernel
theorem dX9_may_53 : decode cX9_may 53 = .ok (.iaload, 1) := by decide +kernel
theorem dX9_may_54 : decode cX9_may 54 = .ok (.aload_n 0, 1) := by decide +kernel
theorem dX9_may_55 : decode cX9_may 55 = .ok (.getfield 7, 3) := by decide +kernel
theorem dX9_may_58 : decode cX9_may 58 = .ok (.iconst 5, 1) := by decide +kernel
theorem dX9_may_59 : decode cX9_may 59 = .ok (.iload_n 1, 1) := by decide +kernel
theorem dX9_may_60 : decode cX9_may 60 = .ok (.iadd, 1) := by decide +kernel
theorem dX9_may_61 : decode cX9_may 61 = .ok (.iaload, 1) := by decide +kernel
theorem dX9_may_62 : decode cX9_may 62 = .ok (.invokestatic 102, 3) := by decide +kernel
theorem dX9_may_65 : decode cX9_may 65 = .ok (.ifCond .eq 49, 3) := by decide +kernel
theorem dX9_may_68 : decode cX9_may 68 = .ok (.aload_n 0, 1) := by decide +kernel
theorem dX9_may_69 : decode cX9_may 69 = .ok (.getfield 7, 3) := by decide +kernel
theorem dX9_may_72 : decode cX9_may 72 = .ok (.iconst 3, 1) := by decide +kernel
theorem dX9_may_73 : decode cX9_may 73 = .ok (.iaload, 1) := by decide +kernel
theorem dX9_may_74 : decode cX9_may 74 = .ok (.aload_n 0, 1) := by decide +kernel
theorem dX9_may_75 : decode cX9_may 75 = .ok (.getfield 7, 3) := by decide +kernel
theorem dX9_may_78 : decode cX9_may 78 = .ok (.bipush 15, 2) := by decide +kernel
theorem dX9_may_80 : decode cX9_may 80 = .ok (.iload_n 1, 1) := by decide +kernel
theorem dX9_may_81 : decode cX9_may 81 = .ok (.iadd, 1) := by decide +kernel
theorem dX9_may_82 : decode cX9_may 82 = .ok (.iaload, 1) := by decide +kernel
theorem dX9_may_83 : decode cX9_may 83 = .ok (.invokestatic 102, 3) := by decide +kernel
theorem dX9_may_86 : decode cX9_may 86 = .ok (.ifCond .eq 28, 3) := by decide +kernel
theorem dX9_may_89 : decode cX9_may 89 = .ok (.aload_n 0, 1) := by decide +kernel
theorem dX9_may_90 : decode cX9_may 90 = .ok (.getfield 7, 3) := by decide +kernel
theorem dX9_may_93 : decode cX9_may 93 = .ok (.iconst 3, 1) := by decide +kernel
theorem dX9_may_94 : decode cX9_may 94 = .ok (.iaload, 1) := by decide +kernel
theorem dX9_may_95 : decode cX9_may 95 = .ok (.aload_n 0, 1) := by decide +kernel
theorem dX9_may_96 : decode cX9_may 96 = .ok (.getfield 7, 3) := by decide +kernel
theorem dX9_may_99 : decode cX9_may 99 = .ok (.bipush 25, 2) := by decide +kernel
theorem dX9_may_101 : decode cX9_may 101 = .ok (.iload_n 1, 1) := by decide +kernel
theorem dX9_may_102 : decode cX9_may 102 = .ok (.iadd, 1) := by decide +kernel
theorem dX9_may_103 : decode cX9_may 103 = .ok (.iaload, 1) := by decide +kernel
theorem dX9_may_104 : decode cX9_may 104 = .ok (.invokestatic 102, 3) := by decide +kernel
theorem dX9_may_107 : decode cX9_may 107 = .ok (.ifCond .ne 7, 3) := by decide +kernel
theorem dX9_may_110 : decode cX9_may 110 = .ok (.iconst 1, 1) := by decide +kernel
theorem dX9_may_111 : decode cX9_may 111 = .ok (.goto 4, 3) := by decide +kernel
theorem dX9_may_114 : decode cX9_may 114 = .ok (.iconst 0, 1) := by decide +kernel
theorem dX9_may_115 : decode cX9_may 115 = .ok (.ireturn, 1) := by decide +kernel
theorem dX9_stone_0 : decode cX9_stone 0 = .ok (.aload_n 0, 1) := by decide +kernel
theorem dX9_stone_1 : decode cX9_stone 1 = .ok (.iload_n 1, 1) := by decide +kernel
theorem dX9_stone_2 : decode cX9_stone 2 = .ok (.invokevirtual 106, 3) := by decide +kernel
theorem dX9_stone_5 : decode cX9_stone 5 = .ok (.ifCond .eq 15, 3) := by decide +kernel
theorem dX9_stone_8 : decode cX9_stone 8 = .ok (.iload_n 2, 1) := by decide +kernel
theorem dX9_stone_9 : decode cX9_stone 9 = .ok (.i2l, 1) := by decide +kernel
theorem dX9_stone_10 : decode cX9_stone 10 = .ok (.lconst 0, 1) := by decide +kernel
theorem dX9_stone_11 : decode cX9_stone 11 = .ok (.ldc2_w 109, 3) := by decide +kernel
theorem dX9_stone_14 : decode cX9_stone 14 = .ok (.invokestatic 43, 3) := by decide +kernel
theorem dX9_stone_17 : decode cX9_stone 17 = .ok (.ifCond .ne 5, 3) := by decide +kernel
theorem dX9_stone_20 : decode cX9_stone 20 = .ok (.iconst (-1), 1) := by decide +kernel
theorem dX9_stone_21 : decode cX9_stone 21 = .ok (.ireturn, 1) := by decide +kernel
theorem dX9_stone_22 : decode cX9_stone 22 = .ok (.iload_n 2, 1) := by decide +kernel
theorem dX9_stone_23 : decode cX9_stone 23 = .ok (.ifCond .ne 16, 3) := by decide +kernel
theorem dX9_stone_26 : decode cX9_stone 26 = .ok (.aload_n 0, 1) := by decide +kernel
theorem dX9_stone_27 : decode cX9_stone 27 = .ok (.getfield 7, 3) := by decide +kernel
theorem dX9_stone_30 : decode cX9_stone 30 = .ok (.iconst 2, 1) := by decide +kernel
theorem dX9_stone_31 : decode cX9_stone 31 = .ok (.iaload, 1) := by decide +kernel
theorem dX9_stone_32 : decode cX9_stone 32 = .ok (.iload_n 1, 1) := by decide +kernel
theorem dX9_stone_33 : decode cX9_stone 33 = .ok (.ishr, 1) := by decide +kernel
theorem dX9_stone_34 : decode cX9_stone 34 = .ok (.iconst 1, 1) := by decide +kernel
theorem dX9_stone_35 : decode cX9_stone 35 = .ok (.iand, 1) := by decide +kernel
theorem dX9_stone_36 : decode cX9_stone 36 = .ok (.goto 65, 3) := by decide +kernel
theorem dX9_stone_39 : decode cX9_stone 39 = .ok (.iload_n 2, 1) := by decide +kernel
theorem dX9_stone_40 : decode cX9_stone 40 = .ok (.iconst 1, 1) := by decide +kernel
theorem dX9_stone_41 : decode cX9_stone 41 = .ok (.if_icmp .ne 16, 3) := by decide +kernel
theorem dX9_stone_44 : decode cX9_stone 44 = .ok (.aload_n 0, 1) := by decide +kernel
theorem dX9_stone_45 : decode cX9_stone 45 = .ok (.getfield 7, 3) := by decide +kernel
theorem dX9_stone_48 : decode cX9_stone 48 = .ok (.iconst 3, 1) := by decide +kernel
theorem dX9_stone_49 : decode cX9_stone 49 = .ok (.iaload, 1) := by decide +kernel
theorem dX9_stone_50 : decode cX9_stone 50 = .ok (.iload_n 1, 1) := by decide +kernel
theorem dX9_stone_51 : decode cX9_stone 51 = .ok (.ishr, 1) := by decide +kernel
theorem dX9_stone_52 : decode cX9_stone 52 = .ok (.iconst 1, 1) := by decide +kernel
theorem dX9_stone_53 : decode cX9_stone 53 = .ok (.iand, 1) := by decide +kernel
theorem dX9_stone_54 : decode cX9_stone 54 = .ok (.goto 47, 3) := by decide +kernel
theorem dX9_stone_57 : decode cX9_stone 57 = .ok (.iload_n 2, 1) := by decide +kernel
theorem dX9_stone_58 : decode cX9_stone 58 = .ok (.iconst 2, 1) := by decide +kernel
theorem dX9_stone_59 : decode cX9_stone 59 = .ok (.if_icmp .ne 16, 3) := by decide +kernel
theorem dX9_stone_62 : decode cX9_stone 62 = .ok (.aload_n 0, 1) := by decide +kernel
theorem dX9_stone_63 : decode cX9_stone 63 = .ok (.getfield 7, 3) := by decide +kernel
theorem dX9_stone_66 : decode cX9_stone 66 = .ok (.iconst 1, 1) := by decide +kernel
theorem dX9_stone_67 : decode cX9_stone 67 = .ok (.iaload, 1) := by decide +kernel
theorem dX9_stone_68 : decode cX9_stone 68 = .ok (.iload_n 1, 1) := by decide +kernel
theorem dX9_stone_69 : decode cX9_stone 69 = .ok (.ishr, 1) := by decide +kernel
theorem dX9_stone_70 : decode cX9_stone 70 = .ok (.iconst 1, 1) := by decide +kernel
theorem dX9_stone_71 : decode cX9_stone 71 = .ok (.iand, 1) := by decide +kernel
theorem dX9_stone_72 : decode cX9_stone 72 = .ok (.goto 29, 3) := by decide +kernel
theorem dX9_stone_75 : decode cX9_stone 75 = .ok (.iload_n 2, 1) := by decide +kernel
theorem dX9_stone_76 : decode cX9_stone 76 = .ok (.iconst 3, 1) := by decide +kernel
theorem dX9_stone_77 : decode cX9_stone 77 = .ok (.if_icmp .ne 15, 3) := by decide +kernel
theorem dX9_stone_80 : decode cX9_stone 80 = .ok (.aload_n 0, 1) := by decide +kernel
theorem dX9_stone_81 : decode cX9_stone 81 = .ok (.getfield 7, 3) := by decide +kernel
theorem dX9_stone_84 : decode cX9_stone 84 = .ok (.bipush 35, 2) := by decide +kernel
theorem dX9_stone_86 : decode cX9_stone 86 = .ok (.iload_n 1, 1) := by decide +kernel
theorem dX9_stone_87 : decode cX9_stone 87 = .ok (.iadd, 1) := by decide +kernel
theorem dX9_stone_88 : decode cX9_stone 88 = .ok (.iaload, 1) := by decide +kernel
theorem dX9_stone_89 : decode cX9_stone 89 = .ok (.goto 12, 3) := by decide +kernel
theorem dX9_stone_92 : decode cX9_stone 92 = .ok (.aload_n 0, 1) := by decide +kernel
theorem dX9_stone_93 : decode cX9_stone 93 = .ok (.getfield 7, 3) := by decide +kernel
theorem dX9_stone_96 : decode cX9_stone 96 = .ok (.bipush 45, 2) := by decide +kernel
theorem dX9_stone_98 : decode cX9_stone 98 = .ok (.iload_n 1, 1) := by decide +kernel
theorem dX9_stone_99 : decode cX9_stone 99 = .ok (.iadd, 1) := by decide +kernel
theorem dX9_stone_100 : decode cX9_stone 100 = .ok (.iaload, 1) := by decide +kernel
theorem dX9_stone_101 : decode cX9_stone 101 = .ok (.ireturn, 1) := by decide +kernel
theorem dX9_step_0 : decode cX9_step 0 = .ok (.aload_n 0, 1) := by decide +kernel
theorem dX9_step_1 : decode cX9_step 1 = .ok (.iload_n 1, 1) := by decide +kernel
theorem dX9_step_2 : decode cX9_step 2 = .ok (.invokevirtual 111, 3) := by decide +kernel
theorem dX9_step_5 : decode cX9_step 5 = .ok (.ifCond .eq 15, 3) := by decide +kernel
theorem dX9_step_8 : decode cX9_step 8 = .ok (.iload_n 2, 1) := by decide +kernel
theorem dX9_step_9 : decode cX9_step 9 = .ok (.i2l, 1) := by decide +kernel
theorem dX9_step_10 : decode cX9_step 10 = .ok (.lconst 0, 1) := by decide +kernel
theorem dX9_step_11 : decode cX9_step 11 = .ok (.ldc2_w 114, 3) := by decide +kernel
theorem dX9_step_14 : decode cX9_step 14 = .ok (.invokestatic 43, 3) := by decide +kernel
theorem dX9_step_17 : decode cX9_step 17 = .ok (.ifCond .ne 5, 3) := by decide +kernel
theorem dX9_step_20 : decode cX9_step 20 = .ok (.iconst (-1), 1) := by decide +kernel
theorem dX9_step_21 : decode cX9_step 21 = .ok (.ireturn, 1) := by decide +kernel
theorem dX9_step_22 : decode cX9_step 22 = .ok (.iload_n 2, 1) := by decide +kernel
theorem dX9_step_23 : decode cX9_step 23 = .ok (.ifCond .ne 14, 3) := by decide +kernel
theorem dX9_step_26 : decode cX9_step 26 = .ok (.aload_n 0, 1) := by decide +kernel
theorem dX9_step_27 : decode cX9_step 27 = .ok (.getfield 7, 3) := by decide +kernel
theorem dX9_step_30 : decode cX9_step 30 = .ok (.iconst 5, 1) := by decide +kernel
theorem dX9_step_31 : decode cX9_step 31 = .ok (.iload_n 1, 1) := by decide +kernel
theorem dX9_step_32 : decode cX9_step 32 = .ok (.iadd, 1) := by decide +kernel
theorem dX9_step_33 : decode cX9_step 33 = .ok (.iaload, 1) := by decide +kernel
theorem dX9_step_34 : decode cX9_step 34 = .ok (.goto 50, 3) := by decide +kernel
theorem dX9_step_37 : decode cX9_step 37 = .ok (.iload_n 2, 1) := by decide +kernel
theorem dX9_step_38 : decode cX9_step 38 = .ok (.iconst 1, 1) := by decide +kernel
theorem dX9_step_39 : decode cX9_step 39 = .ok (.if_icmp .ne 15, 3) := by decide +kernel
theorem dX9_step_42 : decode cX9_step 42 = .ok (.aload_n 0, 1) := by decide +kernel
theorem dX9_step_43 : decode cX9_step 43 = .ok (.getfield 7, 3) := by decide +kernel
theorem dX9_step_46 : decode cX9_step 46 = .ok (.bipush 15, 2) := by decide +kernel
theorem dX9_step_48 : decode cX9_step 48 = .ok (.iload_n 1, 1) := by decide +kernel
theorem dX9_step_49 : decode cX9_step 49 = .ok (.iadd, 1) := by decide +kernel
theorem dX9_step_50 : decode cX9_step 50 = .ok (.iaload, 1) := by decide +kernel
theorem dX9_step_51 : decode cX9_step 51 = .ok (.goto 33, 3) := by decide +kernel
theorem dX9_step_54 : decode cX9_step 54 = .ok (.iload_n 2, 1) := by decide +kernel
theorem dX9_step_55 : decode cX9_step 55 = .ok (.iconst 2, 1) := by decide +kernel
theorem dX9_step_56 : decode cX9_step 56 = .ok (.if_icmp .ne 15, 3) := by decide +kernel
theorem dX9_step_59 : decode cX9_step 59 = .ok (.aload_n 0, 1) := by decide +kernel
theorem dX9_step_60 : decode cX9_step 60 = .ok (.getfield 7, 3) := by decide +kernel
theorem dX9_step_63 : decode cX9_step 63 = .ok (.bipush 25, 2) := by decide +kernel
theorem dX9_step_65 : decode cX9_step 65 = .ok (.iload_n 1, 1) := by decide +kernel
theorem dX9_step_66 : decode cX9_step 66 = .ok (.iadd, 1) := by decide +kernel
theorem dX9_step_67 : decode cX9_step 67 = .ok (.iaload, 1) := by decide +kernel
theorem dX9_step_68 : decode cX9_step 68 = .ok (.goto 16, 3) := by decide +kernel
theorem dX9_step_71 : decode cX9_step 71 = .ok (.aload_n 0, 1) := by decide +kernel
theorem dX9_step_72 : decode cX9_step 72 = .ok (.iload_n 1, 1) := by decide +kernel
theorem dX9_step_73 : decode cX9_step 73 = .ok (.invokevirtual 116, 3) := by decide +kernel
theorem dX9_step_76 : decode cX9_step 76 = .ok (.ifCond .eq 7, 3) := by decide +kernel
theorem dX9_step_79 : decode cX9_step 79 = .ok (.iconst 1, 1) := by decide +kernel
theorem dX9_step_80 : decode cX9_step 80 = .ok (.goto 4, 3) := by decide +kernel
theorem dX9_step_83 : decode cX9_step 83 = .ok (.iconst 0, 1) := by decide +kernel
theorem dX9_step_84 : decode cX9_step 84 = .ok (.ireturn, 1) := by decide +kernel
theorem dX9_minds_0 : decode cX9_minds 0 = .ok (.aload_n 0, 1) := by decide +kernel
theorem dX9_minds_1 : decode cX9_minds 1 = .ok (.getfield 96, 3) := by decide +kernel
theorem dX9_minds_4 : decode cX9_minds 4 = .ok (.bipush 8, 2) := by decide +kernel
theorem dX9_minds_6 : decode cX9_minds 6 = .ok (.if_icmp .ne 51, 3) := by decide +kernel
theorem dX9_minds_9 : decode cX9_minds 9 = .ok (.iconst 0, 1) := by decide +kernel
theorem dX9_minds_10 : decode cX9_minds 10 = .ok (.istore_n 1, 1) := by decide +kernel
theorem dX9_minds_11 : decode cX9_minds 11 = .ok (.iload_n 1, 1) := by decide +kernel
theorem dX9_minds_12 : decode cX9_minds 12 = .ok (.sipush 385, 3) := by decide +kernel
theorem dX9_minds_15 : decode cX9_minds 15 = .ok (.if_icmp .ge 32, 3) := by decide +kernel
theorem dX9_minds_18 : decode cX9_minds 18 = .ok (.aload_n 0, 1) := by decide +kernel
theorem dX9_minds_19 : decode cX9_minds 19 = .ok (.getfield 7, 3) := by decide +kernel
theorem dX9_minds_22 : decode cX9_minds 22 = .ok (.sipush 165, 3) := by decide +kernel
theorem dX9_minds_25 : decode cX9_minds 25 = .ok (.iload_n 1, 1) := by decide +kernel
theorem dX9_minds_26 : decode cX9_minds 26 = .ok (.iadd, 1) := by decide +kernel
theorem dX9_minds_27 : decode cX9_minds 27 = .ok (.aload_n 0, 1) := by decide +kernel
theorem dX9_minds_28 : decode cX9_minds 28 = .ok (.getfield 7, 3) := by decide +kernel
theorem dX9_minds_31 : decode cX9_minds 31 = .ok (.sipush 165, 3) := by decide +kernel
theorem dX9_minds_34 : decode cX9_minds 34 = .ok (.iload_n 1, 1) := by decide +kernel
theorem dX9_minds_35 : decode cX9_minds 35 = .ok (.iadd, 1) := by decide +kernel
theorem dX9_minds_36 : decode cX9_minds 36 = .ok (.bipush 55, 2) := by decide +kernel
theorem dX9_minds_38 : decode cX9_minds 38 = .ok (.iadd, 1) := by decide +kernel
theorem dX9_minds_39 : decode cX9_minds 39 = .ok (.iaload, 1) := by decide +kernel
theorem dX9_minds_40 : decode cX9_minds 40 = .ok (.iastore, 1) := by decide +kernel
theorem dX9_minds_41 : decode cX9_minds 41 = .ok (.iinc 1 1, 3) := by decide +kernel
theorem dX9_minds_44 : decode cX9_minds 44 = .ok (.goto (-33), 3) := by decide +kernel
theorem dX9_minds_47 : decode cX9_minds 47 = .ok (.aload_n 0, 1) := by decide +kernel
theorem dX9_minds_48 : decode cX9_minds 48 = .ok (.dup, 1) := by decide +kernel
theorem dX9_minds_49 : decode cX9_minds 49 = .ok (.getfield 96, 3) := by decide +kernel
theorem dX9_minds_52 : decode cX9_minds 52 = .ok (.iconst 1, 1) := by decide +kernel
theorem dX9_minds_53 : decode cX9_minds 53 = .ok (.isub, 1) := by decide +kernel
theorem dX9_minds_54 : decode cX9_minds 54 = .ok (.putfield 96, 3) := by decide +kernel
theorem dX9_minds_57 : decode cX9_minds 57 = .ok (.aload_n 0, 1) := by decide +kernel
theorem dX9_minds_58 : decode cX9_minds 58 = .ok (.iconst 0, 1) := by decide +kernel
theorem dX9_minds_59 : decode cX9_minds 59 = .ok (.sipush 165, 3) := by decide +kernel
theorem dX9_minds_62 : decode cX9_minds 62 = .ok (.bipush 55, 2) := by decide +kernel
theorem dX9_minds_64 : decode cX9_minds 64 = .ok (.aload_n 0, 1) := by decide +kernel
theorem dX9_minds_65 : decode cX9_minds 65 = .ok (.getfield 96, 3) := by decide +kernel
theorem dX9_minds_68 : decode cX9_minds 68 = .ok (.imul, 1) := by decide +kernel
theorem dX9_minds_69 : decode cX9_minds 69 = .ok (.iadd, 1) := by decide +kernel
theorem dX9_minds_70 : decode cX9_minds 70 = .ok (.invokevirtual 89, 3) := by decide +kernel
theorem dX9_minds_73 : decode cX9_minds 73 = .ok (.aload_n 0, 1) := by decide +kernel
theorem dX9_minds_74 : decode cX9_minds 74 = .ok (.dup, 1) := by decide +kernel
theorem dX9_minds_75 : decode cX9_minds 75 = .ok (.getfield 96, 3) := by decide +kernel
theorem dX9_minds_78 : decode cX9_minds 78 = .ok (.iconst 1, 1) := by decide +kernel
theorem dX9_minds_79 : decode cX9_minds 79 = .ok (.iadd, 1) := by decide +kernel
theorem dX9_minds_80 : decode cX9_minds 80 = .ok (.putfield 96, 3) := by decide +kernel
theorem dX9_minds_83 : decode cX9_minds 83 = .ok (.return_, 1) := by decide +kernel
theorem dX9_go_0 : decode cX9_go 0 = .ok (.aload_n 0, 1) := by decide +kernel
theorem dX9_go_1 : decode cX9_go 1 = .ok (.iload_n 1, 1) := by decide +kernel
theorem dX9_go_2 : decode cX9_go 2 = .ok (.invokevirtual 111, 3) := by decide +kernel
theorem dX9_go_5 : decode cX9_go 5 = .ok (.ifCond .ne 5, 3) := by decide +kernel
theorem dX9_go_8 : decode cX9_go 8 = .ok (.iconst (-1), 1) := by decide +kernel
theorem dX9_go_9 : decode cX9_go 9 = .ok (.ireturn, 1) := by decide +kernel
theorem dX9_go_10 : decode cX9_go 10 = .ok (.aload_n 0, 1) := by decide +kernel
theorem dX9_go_11 : decode cX9_go 11 = .ok (.iload_n 1, 1) := by decide +kernel
theorem dX9_go_12 : decode cX9_go 12 = .ok (.invokevirtual 116, 3) := by decide +kernel
theorem dX9_go_15 : decode cX9_go 15 = .ok (.ifCond .ne 6, 3) := by decide +kernel
theorem dX9_go_18 : decode cX9_go 18 = .ok (.bipush (-2), 2) := by decide +kernel
theorem dX9_go_20 : decode cX9_go 20 = .ok (.ireturn, 1) := by decide +kernel
theorem dX9_go_21 : decode cX9_go 21 = .ok (.aload_n 0, 1) := by decide +kernel
theorem dX9_go_22 : decode cX9_go 22 = .ok (.invokevirtual 119, 3) := by decide +kernel
theorem dX9_go_25 : decode cX9_go 25 = .ok (.aload_n 0, 1) := by decide +kernel
theorem dX9_go_26 : decode cX9_go 26 = .ok (.getfield 7, 3) := by decide +kernel
theorem dX9_go_29 : decode cX9_go 29 = .ok (.iconst 3, 1) := by decide +kernel
theorem dX9_go_30 : decode cX9_go 30 = .ok (.dup2, 1) := by decide +kernel
theorem dX9_go_31 : decode cX9_go 31 = .ok (.iaload, 1) := by decide +kernel
theorem dX9_go_32 : decode cX9_go 32 = .ok (.iconst 1, 1) := by decide +kernel
theorem dX9_go_33 : decode cX9_go 33 = .ok (.aload_n 0, 1) := by decide +kernel
theorem dX9_go_34 : decode cX9_go 34 = .ok (.getfield 7, 3) := by decide +kernel
theorem dX9_go_37 : decode cX9_go 37 = .ok (.bipush 25, 2) := by decide +kernel
theorem dX9_go_39 : decode cX9_go 39 = .ok (.iload_n 1, 1) := by decide +kernel
theorem dX9_go_40 : decode cX9_go 40 = .ok (.iadd, 1) := by decide +kernel
theorem dX9_go_41 : decode cX9_go 41 = .ok (.iaload, 1) := by decide +kernel
theorem dX9_go_42 : decode cX9_go 42 = .ok (.ishl, 1) := by decide +kernel
theorem dX9_go_43 : decode cX9_go 43 = .ok (.ior, 1) := by decide +kernel
theorem dX9_go_44 : decode cX9_go 44 = .ok (.iastore, 1) := by decide +kernel
theorem dX9_go_45 : decode cX9_go 45 = .ok (.aload_n 0, 1) := by decide +kernel
theorem dX9_go_46 : decode cX9_go 46 = .ok (.getfield 7, 3) := by decide +kernel
theorem dX9_go_49 : decode cX9_go 49 = .ok (.bipush 35, 2) := by decide +kernel
theorem dX9_go_51 : decode cX9_go 51 = .ok (.aload_n 0, 1) := by decide +kernel
theorem dX9_go_52 : decode cX9_go 52 = .ok (.getfield 7, 3) := by decide +kernel
theorem dX9_go_55 : decode cX9_go 55 = .ok (.bipush 25, 2) := by decide +kernel
theorem dX9_go_57 : decode cX9_go 57 = .ok (.iload_n 1, 1) := by decide +kernel
theorem dX9_go_58 : decode cX9_go 58 = .ok (.iadd, 1) := by decide +kernel
theorem dX9_go_59 : decode cX9_go 59 = .ok (.iaload, 1) := by decide +kernel
theorem dX9_go_60 : decode cX9_go 60 = .ok (.iadd, 1) := by decide +kernel
theorem dX9_go_61 : decode cX9_go 61 = .ok (.dup2, 1) := by decide +kernel
theorem dX9_go_62 : decode cX9_go 62 = .ok (.iaload, 1) := by decide +kernel
theorem dX9_go_63 : decode cX9_go 63 = .ok (.iconst 1, 1) := by decide +kernel
theorem dX9_go_64 : decode cX9_go 64 = .ok (.iadd, 1) := by decide +kernel
theorem dX9_go_65 : decode cX9_go 65 = .ok (.iastore, 1) := by decide +kernel
theorem dX9_go_66 : decode cX9_go 66 = .ok (.aload_n 0, 1) := by decide +kernel
theorem dX9_go_67 : decode cX9_go 67 = .ok (.getfield 7, 3) := by decide +kernel
theorem dX9_go_70 : decode cX9_go 70 = .ok (.iconst 3, 1) := by decide +kernel
theorem dX9_go_71 : decode cX9_go 71 = .ok (.iaload, 1) := by decide +kernel
theorem dX9_go_72 : decode cX9_go 72 = .ok (.invokestatic 122, 3) := by decide +kernel
theorem dX9_go_75 : decode cX9_go 75 = .ok (.ireturn, 1) := by decide +kernel
theorem dX9_takeOut_0 : decode cX9_takeOut 0 = .ok (.aload_n 0, 1) := by decide +kernel
theorem dX9_takeOut_1 : decode cX9_takeOut 1 = .ok (.iload_n 1, 1) := by decide +kernel
theorem dX9_takeOut_2 : decode cX9_takeOut 2 = .ok (.invokevirtual 106, 3) := by decide +kernel
theorem dX9_takeOut_5 : decode cX9_takeOut 5 = .ok (.ifCond .ne 5, 3) := by decide +kernel
theorem dX9_takeOut_8 : decode cX9_takeOut 8 = .ok (.iconst (-1), 1) := by decide +kernel
theorem dX9_takeOut_9 : decode cX9_takeOut 9 = .ok (.ireturn, 1) := by decide +kernel
theorem dX9_takeOut_10 : decode cX9_takeOut 10 = .ok (.aload_n 0, 1) := by decide +kernel
theorem dX9_takeOut_11 : decode cX9_takeOut 11 = .ok (.getfield 7, 3) := by decide +kernel
theorem dX9_takeOut_14 : decode cX9_takeOut 14 = .ok (.iconst 2, 1) := by decide +kernel
theorem dX9_takeOut_15 : decode cX9_takeOut 15 = .ok (.iaload, 1) := by decide +kernel
theorem dX9_takeOut_16 : decode cX9_takeOut 16 = .ok (.iload_n 1, 1) := by decide +kernel
theorem dX9_takeOut_17 : decode cX9_takeOut 17 = .ok (.invokestatic 102, 3) := by decide +kernel
theorem dX9_takeOut_20 : decode cX9_takeOut 20 = .ok (.ifCond .ne 6, 3) := by decide +kernel
theorem dX9_takeOut_23 : decode cX9_takeOut 23 = .ok (.bipush (-2), 2) := by decide +kernel
theorem dX9_takeOut_25 : decode cX9_takeOut 25 = .ok (.ireturn, 1) := by decide +kernel
theorem dX9_takeOut_26 : decode cX9_takeOut 26 = .ok (.aload_n 0, 1) := by decide +kernel
theorem dX9_takeOut_27 : decode cX9_takeOut 27 = .ok (.invokevirtual 119, 3) := by decide +kernel
theorem dX9_takeOut_30 : decode cX9_takeOut 30 = .ok (.aload_n 0, 1) := by decide +kernel
theorem dX9_takeOut_31 : decode cX9_takeOut 31 = .ok (.getfield 7, 3) := by decide +kernel
theorem dX9_takeOut_34 : decode cX9_takeOut 34 = .ok (.iconst 2, 1) := by decide +kernel
theorem dX9_takeOut_35 : decode cX9_takeOut 35 = .ok (.dup2, 1) := by decide +kernel
theorem dX9_takeOut_36 : decode cX9_takeOut 36 = .ok (.iaload, 1) := by decide +kernel
theorem dX9_takeOut_37 : decode cX9_takeOut 37 = .ok (.iconst 1, 1) := by decide +kernel
theorem dX9_takeOut_38 : decode cX9_takeOut 38 = .ok (.iload_n 1, 1) := by decide +kernel
theorem dX9_takeOut_39 : decode cX9_takeOut 39 = .ok (.ishl, 1) := by decide +kernel
theorem dX9_takeOut_40 : decode cX9_takeOut 40 = .ok (.iconst (-1), 1) := by decide +kernel
theorem dX9_takeOut_41 : decode cX9_takeOut 41 = .ok (.ixor, 1) := by decide +kernel
theorem dX9_takeOut_42 : decode cX9_takeOut 42 = .ok (.iand, 1) := by decide +kernel
theorem dX9_takeOut_43 : decode cX9_takeOut 43 = .ok (.iastore, 1) := by decide +kernel
theorem dX9_takeOut_44 : decode cX9_takeOut 44 = .ok (.aload_n 0, 1) := by decide +kernel
theorem dX9_takeOut_45 : decode cX9_takeOut 45 = .ok (.getfield 7, 3) := by decide +kernel
theorem dX9_takeOut_48 : decode cX9_takeOut 48 = .ok (.iconst 3, 1) := by decide +kernel
theorem dX9_takeOut_49 : decode cX9_takeOut 49 = .ok (.dup2, 1) := by decide +kernel
theorem dX9_takeOut_50 : decode cX9_takeOut 50 = .ok (.iaload, 1) := by decide +kernel
theorem dX9_takeOut_51 : decode cX9_takeOut 51 = .ok (.iconst 1, 1) := by decide +kernel
theorem dX9_takeOut_52 : decode cX9_takeOut 52 = .ok (.iload_n 1, 1) := by decide +kernel
theorem dX9_takeOut_53 : decode cX9_takeOut 53 = .ok (.ishl, 1) := by decide +kernel
theorem dX9_takeOut_54 : decode cX9_takeOut 54 = .ok (.iconst (-1), 1) := by decide +kernel
theorem dX9_takeOut_55 : decode cX9_takeOut 55 = .ok (.ixor, 1) := by decide +kernel
theorem dX9_takeOut_56 : decode cX9_takeOut 56 = .ok (.iand, 1) := by decide +kernel
theorem dX9_takeOut_57 : decode cX9_takeOut 57 = .ok (.iastore, 1) := by decide +kernel
theorem dX9_takeOut_58 : decode cX9_takeOut 58 = .ok (.aload_n 0, 1) := by decide +kernel
theorem dX9_takeOut_59 : decode cX9_takeOut 59 = .ok (.getfield 7, 3) := by decide +kernel
theorem dX9_takeOut_62 : decode cX9_takeOut 62 = .ok (.iconst 2, 1) := by decide +kernel
theorem dX9_takeOut_63 : decode cX9_takeOut 63 = .ok (.iaload, 1) := by decide +kernel
theorem dX9_takeOut_64 : decode cX9_takeOut 64 = .ok (.invokestatic 122, 3) := by decide +kernel
theorem dX9_takeOut_67 : decode cX9_takeOut 67 = .ok (.ireturn, 1) := by decide +kernel
theorem dX9_lay_0 : decode cX9_lay 0 = .ok (.aload_n 0, 1) := by decide +kernel
theorem dX9_lay_1 : decode cX9_lay 1 = .ok (.iload_n 1, 1) := by decide +kernel
theorem dX9_lay_2 : decode cX9_lay 2 = .ok (.invokevirtual 106, 3) := by decide +kernel
theorem dX9_lay_5 : decode cX9_lay 5 = .ok (.ifCond .eq 29, 3) := by decide +kernel
theorem dX9_lay_8 : decode cX9_lay 8 = .ok (.aload_n 0, 1) := by decide +kernel
theorem dX9_lay_9 : decode cX9_lay 9 = .ok (.iload_n 2, 1) := by decide +kernel
theorem dX9_lay_10 : decode cX9_lay 10 = .ok (.invokevirtual 106, 3) := by decide +kernel
theorem dX9_lay_13 : decode cX9_lay 13 = .ok (.ifCond .eq 21, 3) := by decide +kernel
theorem dX9_lay_16 : decode cX9_lay 16 = .ok (.aload_n 0, 1) := by decide +kernel
theorem dX9_lay_17 : decode cX9_lay 17 = .ok (.iload_n 3, 1) := by decide +kernel
theorem dX9_lay_18 : decode cX9_lay 18 = .ok (.invokevirtual 106, 3) := by decide +kernel
theorem dX9_lay_21 : decode cX9_lay 21 = .ok (.ifCond .eq 13, 3) := by decide +kernel
theorem dX9_lay_24 : decode cX9_lay 24 = .ok (.iload_n 1, 1) := by decide +kernel
theorem dX9_lay_25 : decode cX9_lay 25 = .ok (.iload_n 3, 1) := by decide +kernel
theorem dX9_lay_26 : decode cX9_lay 26 = .ok (.if_icmp .eq 8, 3) := by decide +kernel
theorem dX9_lay_29 : decode cX9_lay 29 = .ok (.iload_n 2, 1) := by decide +kernel
theorem dX9_lay_30 : decode cX9_lay 30 = .ok (.iload_n 3, 1) := by decide +kernel
theorem dX9_lay_31 : decode cX9_lay 31 = .ok (.if_icmp .ne 5, 3) := by decide +kernel
theorem dX9_lay_34 : decode cX9_lay 34 = .ok (.iconst (-1), 1) := by decide +kernel
theorem dX9_lay_35 : decode cX9_lay 35 = .ok (.ireturn, 1) := by decide +kernel
theorem dX9_lay_36 : decode cX9_lay 36 = .ok (.aload_n 0, 1) := by decide +kernel
theorem dX9_lay_37 : decode cX9_lay 37 = .ok (.getfield 7, 3) := by decide +kernel
theorem dX9_lay_40 : decode cX9_lay 40 = .ok (.iconst 4, 1) := by decide +kernel
theorem dX9_lay_41 : decode cX9_lay 41 = .ok (.iaload, 1) := by decide +kernel
theorem dX9_lay_42 : decode cX9_lay 42 = .ok (.bipush 10, 2) := by decide +kernel
theorem dX9_lay_44 : decode cX9_lay 44 = .ok (.if_icmp .ne 6, 3) := by decide +kernel
theorem dX9_lay_47 : decode cX9_lay 47 = .ok (.bipush (-3), 2) := by decide +kernel
theorem dX9_lay_49 : decode cX9_lay 49 = .ok (.ireturn, 1) := by decide +kernel
theorem dX9_lay_50 : decode cX9_lay 50 = .ok (.aload_n 0, 1) := by decide +kernel
theorem dX9_lay_51 : decode cX9_lay 51 = .ok (.invokevirtual 119, 3) := by decide +kernel
theorem dX9_lay_54 : decode cX9_lay 54 = .ok (.aload_n 0, 1) := by decide +kernel
theorem dX9_lay_55 : decode cX9_lay 55 = .ok (.iconst 0, 1) := by decide +kernel
theorem dX9_lay_56 : decode cX9_lay 56 = .ok (.iload_n 1, 1) := by decide +kernel
theorem dX9_lay_57 : decode cX9_lay 57 = .ok (.iload_n 2, 1) := by decide +kernel
theorem dX9_lay_58 : decode cX9_lay 58 = .ok (.iload_n 3, 1) := by decide +kernel
theorem dX9_lay_59 : decode cX9_lay 59 = .ok (.invokevirtual 36, 3) := by decide +kernel
theorem dX9_lay_62 : decode cX9_lay 62 = .ok (.aload_n 0, 1) := by decide +kernel
theorem dX9_lay_63 : decode cX9_lay 63 = .ok (.getfield 7, 3) := by decide +kernel
theorem dX9_lay_66 : decode cX9_lay 66 = .ok (.iconst 4, 1) := by decide +kernel
theorem dX9_lay_67 : decode cX9_lay 67 = .ok (.iaload, 1) := by decide +kernel
theorem dX9_lay_68 : decode cX9_lay 68 = .ok (.iconst 1, 1) := by decide +kernel
theorem dX9_lay_69 : decode cX9_lay 69 = .ok (.isub, 1) := by decide +kernel
theorem dX9_lay_70 : decode cX9_lay 70 = .ok (.ireturn, 1) := by decide +kernel
theorem dX9_undo_0 : decode cX9_undo 0 = .ok (.aload_n 0, 1) := by decide +kernel
theorem dX9_undo_1 : decode cX9_undo 1 = .ok (.getfield 96, 3) := by decide +kernel
theorem dX9_undo_4 : decode cX9_undo 4 = .ok (.ifCond .ne 6, 3) := by decide +kernel
theorem dX9_undo_7 : decode cX9_undo 7 = .ok (.bipush (-2), 2) := by decide +kernel
theorem dX9_undo_9 : decode cX9_undo 9 = .ok (.ireturn, 1) := by decide +kernel
theorem dX9_undo_10 : decode cX9_undo 10 = .ok (.aload_n 0, 1) := by decide +kernel
theorem dX9_undo_11 : decode cX9_undo 11 = .ok (.dup, 1) := by decide +kernel
theorem dX9_undo_12 : decode cX9_undo 12 = .ok (.getfield 96, 3) := by decide +kernel
theorem dX9_undo_15 : decode cX9_undo 15 = .ok (.iconst 1, 1) := by decide +kernel
theorem dX9_undo_16 : decode cX9_undo 16 = .ok (.isub, 1) := by decide +kernel
theorem dX9_undo_17 : decode cX9_undo 17 = .ok (.putfield 96, 3) := by decide +kernel
theorem dX9_undo_20 : decode cX9_undo 20 = .ok (.aload_n 0, 1) := by decide +kernel
theorem dX9_undo_21 : decode cX9_undo 21 = .ok (.sipush 165, 3) := by decide +kernel
theorem dX9_undo_24 : decode cX9_undo 24 = .ok (.bipush 55, 2) := by decide +kernel
theorem dX9_undo_26 : decode cX9_undo 26 = .ok (.aload_n 0, 1) := by decide +kernel
theorem dX9_undo_27 : decode cX9_undo 27 = .ok (.getfield 96, 3) := by decide +kernel
theorem dX9_undo_30 : decode cX9_undo 30 = .ok (.imul, 1) := by decide +kernel
theorem dX9_undo_31 : decode cX9_undo 31 = .ok (.iadd, 1) := by decide +kernel
theorem dX9_undo_32 : decode cX9_undo 32 = .ok (.iconst 0, 1) := by decide +kernel
theorem dX9_undo_33 : decode cX9_undo 33 = .ok (.invokevirtual 89, 3) := by decide +kernel
theorem dX9_undo_36 : decode cX9_undo 36 = .ok (.aload_n 0, 1) := by decide +kernel
theorem dX9_undo_37 : decode cX9_undo 37 = .ok (.iconst 0, 1) := by decide +kernel
theorem dX9_undo_38 : decode cX9_undo 38 = .ok (.putfield 93, 3) := by decide +kernel
theorem dX9_undo_41 : decode cX9_undo 41 = .ok (.aload_n 0, 1) := by decide +kernel
theorem dX9_undo_42 : decode cX9_undo 42 = .ok (.getfield 96, 3) := by decide +kernel
theorem dX9_undo_45 : decode cX9_undo 45 = .ok (.ireturn, 1) := by decide +kernel
theorem dX9_closure_0 : decode cX9_closure 0 = .ok (.iload_n 1, 1) := by decide +kernel
theorem dX9_closure_1 : decode cX9_closure 1 = .ok (.iload_n 3, 1) := by decide +kernel
theorem dX9_closure_2 : decode cX9_closure 2 = .ok (.iand, 1) := by decide +kernel
theorem dX9_closure_3 : decode cX9_closure 3 = .ok (.istore 4, 2) := by decide +kernel
theorem dX9_closure_5 : decode cX9_closure 5 = .ok (.iconst 1, 1) := by decide +kernel
theorem dX9_closure_6 : decode cX9_closure 6 = .ok (.istore 5, 2) := by decide +kernel
theorem dX9_closure_8 : decode cX9_closure 8 = .ok (.iload 5, 2) := by decide +kernel
theorem dX9_closure_10 : decode cX9_closure 10 = .ok (.ifCond .eq 158, 3) := by decide +kernel
theorem dX9_closure_13 : decode cX9_closure 13 = .ok (.iconst 0, 1) := by decide +kernel
theorem dX9_closure_14 : decode cX9_closure 14 = .ok (.istore 5, 2) := by decide +kernel
theorem dX9_closure_16 : decode cX9_closure 16 = .ok (.iconst 0, 1) := by decide +kernel
theorem dX9_closure_17 : decode cX9_closure 17 = .ok (.istore 6, 2) := by decide +kernel
theorem dX9_closure_19 : decode cX9_closure 19 = .ok (.iload 6, 2) := by decide +kernel
theorem dX9_closure_21 : decode cX9_closure 21 = .ok (.aload_n 0, 1) := by decide +kernel
theorem dX9_closure_22 : decode cX9_closure 22 = .ok (.getfield 7, 3) := by decide +kernel
theorem dX9_closure_25 : decode cX9_closure 25 = .ok (.iconst 4, 1) := by decide +kernel
theorem dX9_closure_26 : decode cX9_closure 26 = .ok (.iaload, 1) := by decide +kernel
theorem dX9_closure_27 : decode cX9_closure 27 = .ok (.if_icmp .ge 138, 3) := by decide +kernel
theorem dX9_closure_30 : decode cX9_closure 30 = .ok (.iload_n 2, 1) := by decide +kernel
theorem dX9_closure_31 : decode cX9_closure 31 = .ok (.iload 6, 2) := by decide +kernel
theorem dX9_closure_33 : decode cX9_closure 33 = .ok (.invokestatic 102, 3) := by decide +kernel
theorem dX9_closure_36 : decode cX9_closure 36 = .ok (.ifCond .eq 77, 3) := by decide +kernel
theorem dX9_closure_39 : decode cX9_closure 39 = .ok (.iload 4, 2) := by decide +kernel
theorem dX9_closure_41 : decode cX9_closure 41 = .ok (.aload_n 0, 1) := by decide +kernel
theorem dX9_closure_42 : decode cX9_closure 42 = .ok (.getfield 7, 3) := by decide +kernel
theorem dX9_closure_45 : decode cX9_closure 45 = .ok (.iconst 5, 1) := by decide +kernel
theorem dX9_closure_46 : decode cX9_closure 46 = .ok (.iload 6, 2) := by decide +kernel
theorem dX9_closure_48 : decode cX9_closure 48 = .ok (.iadd, 1) := by decide +kernel
theorem dX9_closure_49 : decode cX9_closure 49 = .ok (.iaload, 1) := by decide +kernel
theorem dX9_closure_50 : decode cX9_closure 50 = .ok (.invokestatic 102, 3) := by decide +kernel
theorem dX9_closure_53 : decode cX9_closure 53 = .ok (.ifCond .eq 60, 3) := by decide +kernel
theorem dX9_closure_56 : decode cX9_closure 56 = .ok (.iload 4, 2) := by decide +kernel
theorem dX9_closure_58 : decode cX9_closure 58 = .ok (.aload_n 0, 1) := by decide +kernel
theorem dX9_closure_59 : decode cX9_closure 59 = .ok (.getfield 7, 3) := by decide +kernel
theorem dX9_closure_62 : decode cX9_closure 62 = .ok (.bipush 15, 2) := by decide +kernel
theorem dX9_closure_64 : decode cX9_closure 64 = .ok (.iload 6, 2) := by decide +kernel
theorem dX9_closure_66 : decode cX9_closure 66 = .ok (.iadd, 1) := by decide +kernel
theorem dX9_closure_67 : decode cX9_closure 67 = .ok (.iaload, 1) := by decide +kernel
theorem dX9_closure_68 : decode cX9_closure 68 = .ok (.invokestatic 102, 3) := by decide +kernel
theorem dX9_closure_71 : decode cX9_closure 71 = .ok (.ifCond .eq 42, 3) := by decide +kernel
theorem dX9_closure_74 : decode cX9_closure 74 = .ok (.iload_n 3, 1) := by decide +kernel
theorem dX9_closure_75 : decode cX9_closure 75 = .ok (.aload_n 0, 1) := by decide +kernel
theorem dX9_closure_76 : decode cX9_closure 76 = .ok (.getfield 7, 3) := by decide +kernel
theorem dX9_closure_79 : decode cX9_closure 79 = .ok (.bipush 25, 2) := by decide +kernel
theorem dX9_closure_81 : decode cX9_closure 81 = .ok (.iload 6, 2) := by decide +kernel
theorem dX9_closure_83 : decode cX9_closure 83 = .ok (.iadd, 1) := by decide +kernel
theorem dX9_closure_84 : decode cX9_closure 84 = .ok (.iaload, 1) := by decide +kernel
theorem dX9_closure_85 : decode cX9_closure 85 = .ok (.invokestatic 102, 3) := by decide +kernel
theorem dX9_closure_88 : decode cX9_closure 88 = .ok (.ifCond .eq 25, 3) := by decide +kernel
theorem dX9_closure_91 : decode cX9_closure 91 = .ok (.iload 4, 2) := by decide +kernel
theorem dX9_closure_93 : decode cX9_closure 93 = .ok (.aload_n 0, 1) := by decide +kernel
theorem dX9_closure_94 : decode cX9_closure 94 = .ok (.getfield 7, 3) := by decide +kernel
theorem dX9_closure_97 : decode cX9_closure 97 = .ok (.bipush 25, 2) := by decide +kernel
theorem dX9_closure_99 : decode cX9_closure 99 = .ok (.iload 6, 2) := by decide +kernel
theorem dX9_closure_101 : decode cX9_closure 101 = .ok (.iadd, 1) := by decide +kernel
theorem dX9_closure_102 : decode cX9_closure 102 = .ok (.iaload, 1) := by decide +kernel
theorem dX9_closure_103 : decode cX9_closure 103 = .ok (.invokestatic 102, 3) := by decide +kernel
theorem dX9_closure_106 : decode cX9_closure 106 = .ok (.ifCond .ne 7, 3) := by decide +kernel
theorem dX9_closure_109 : decode cX9_closure 109 = .ok (.iconst 1, 1) := by decide +kernel
theorem dX9_closure_110 : decode cX9_closure 110 = .ok (.goto 4, 3) := by decide +kernel
theorem dX9_closure_113 : decode cX9_closure 113 = .ok (.iconst 0, 1) := by decide +kernel
theorem dX9_closure_114 : decode cX9_closure 114 = .ok (.istore 7, 2) := by decide +kernel
theorem dX9_closure_116 : decode cX9_closure 116 = .ok (.iload 4, 2) := by decide +kernel
theorem dX9_closure_118 : decode cX9_closure 118 = .ok (.iload 7, 2) := by decide +kernel
theorem dX9_closure_120 : decode cX9_closure 120 = .ok (.ifCond .eq 18, 3) := by decide +kernel
theorem dX9_closure_123 : decode cX9_closure 123 = .ok (.iconst 1, 1) := by decide +kernel
theorem dX9_closure_124 : decode cX9_closure 124 = .ok (.aload_n 0, 1) := by decide +kernel
theorem dX9_closure_125 : decode cX9_closure 125 = .ok (.getfield 7, 3) := by decide +kernel
theorem dX9_closure_128 : decode cX9_closure 128 = .ok (.bipush 25, 2) := by decide +kernel
theorem dX9_closure_130 : decode cX9_closure 130 = .ok (.iload 6, 2) := by decide +kernel
theorem dX9_closure_132 : decode cX9_closure 132 = .ok (.iadd, 1) := by decide +kernel
theorem dX9_closure_133 : decode cX9_closure 133 = .ok (.iaload, 1) := by decide +kernel
theorem dX9_closure_134 : decode cX9_closure 134 = .ok (.ishl, 1) := by decide +kernel
theorem dX9_closure_135 : decode cX9_closure 135 = .ok (.goto 4, 3) := by decide +kernel
theorem dX9_closure_138 : decode cX9_closure 138 = .ok (.iconst 0, 1) := by decide +kernel
theorem dX9_closure_139 : decode cX9_closure 139 = .ok (.ior, 1) := by decide +kernel
theorem dX9_closure_140 : decode cX9_closure 140 = .ok (.istore 4, 2) := by decide +kernel
theorem dX9_closure_142 : decode cX9_closure 142 = .ok (.iload 5, 2) := by decide +kernel
theorem dX9_closure_144 : decode cX9_closure 144 = .ok (.ifCond .ne 8, 3) := by decide +kernel
theorem dX9_closure_147 : decode cX9_closure 147 = .ok (.iload 7, 2) := by decide +kernel
theorem dX9_closure_149 : decode cX9_closure 149 = .ok (.ifCond .eq 7, 3) := by decide +kernel
theorem dX9_closure_152 : decode cX9_closure 152 = .ok (.iconst 1, 1) := by decide +kernel
theorem dX9_closure_153 : decode cX9_closure 153 = .ok (.goto 4, 3) := by decide +kernel
theorem dX9_closure_156 : decode cX9_closure 156 = .ok (.iconst 0, 1) := by decide +kernel
theorem dX9_closure_157 : decode cX9_closure 157 = .ok (.istore 5, 2) := by decide +kernel
theorem dX9_closure_159 : decode cX9_closure 159 = .ok (.iinc 6 1, 3) := by decide +kernel
theorem dX9_closure_162 : decode cX9_closure 162 = .ok (.goto (-143), 3) := by decide +kernel
theorem dX9_closure_165 : decode cX9_closure 165 = .ok (.goto (-157), 3) := by decide +kernel
theorem dX9_closure_168 : decode cX9_closure 168 = .ok (.iload 4, 2) := by decide +kernel
theorem dX9_closure_170 : decode cX9_closure 170 = .ok (.ireturn, 1) := by decide +kernel
theorem dX9_allSteps_0 : decode cX9_allSteps 0 = .ok (.iconst 1, 1) := by decide +kernel
theorem dX9_allSteps_1 : decode cX9_allSteps 1 = .ok (.aload_n 0, 1) := by decide +kernel
theorem dX9_allSteps_2 : decode cX9_allSteps 2 = .ok (.getfield 7, 3) := by decide +kernel
theorem dX9_allSteps_5 : decode cX9_allSteps 5 = .ok (.iconst 4, 1) := by decide +kernel
theorem dX9_allSteps_6 : decode cX9_allSteps 6 = .ok (.iaload, 1) := by decide +kernel
theorem dX9_allSteps_7 : decode cX9_allSteps 7 = .ok (.ishl, 1) := by decide +kernel
theorem dX9_allSteps_8 : decode cX9_allSteps 8 = .ok (.iconst 1, 1) := by decide +kernel
theorem dX9_allSteps_9 : decode cX9_allSteps 9 = .ok (.isub, 1) := by decide +kernel
theorem dX9_allSteps_10 : decode cX9_allSteps 10 = .ok (.ireturn, 1) := by decide +kernel
theorem dX9_reachOf_0 : decode cX9_reachOf 0 = .ok (.aload_n 0, 1) := by decide +kernel
theorem dX9_reachOf_1 : decode cX9_reachOf 1 = .ok (.iload_n 1, 1) := by decide +kernel
theorem dX9_reachOf_2 : decode cX9_reachOf 2 = .ok (.aload_n 0, 1) := by decide +kernel
theorem dX9_reachOf_3 : decode cX9_reachOf 3 = .ok (.invokevirtual 126, 3) := by decide +kernel
theorem dX9_reachOf_6 : decode cX9_reachOf 6 = .ok (.aload_n 0, 1) := by decide +kernel
theorem dX9_reachOf_7 : decode cX9_reachOf 7 = .ok (.getfield 7, 3) := by decide +kernel
theorem dX9_reachOf_10 : decode cX9_reachOf 10 = .ok (.iconst 2, 1) := by decide +kernel
theorem dX9_reachOf_11 : decode cX9_reachOf 11 = .ok (.iaload, 1) := by decide +kernel
theorem dX9_reachOf_12 : decode cX9_reachOf 12 = .ok (.invokevirtual 129, 3) := by decide +kernel
theorem dX9_reachOf_15 : decode cX9_reachOf 15 = .ok (.ireturn, 1) := by decide +kernel
theorem dX9_beginnings_0 : decode cX9_beginnings 0 = .ok (.aload_n 0, 1) := by decide +kernel
theorem dX9_beginnings_1 : decode cX9_beginnings 1 = .ok (.getfield 7, 3) := by decide +kernel
theorem dX9_beginnings_4 : decode cX9_beginnings 4 = .ok (.iconst 1, 1) := by decide +kernel
theorem dX9_beginnings_5 : decode cX9_beginnings 5 = .ok (.iaload, 1) := by decide +kernel
theorem dX9_beginnings_6 : decode cX9_beginnings 6 = .ok (.aload_n 0, 1) := by decide +kernel
theorem dX9_beginnings_7 : decode cX9_beginnings 7 = .ok (.getfield 7, 3) := by decide +kernel
theorem dX9_beginnings_10 : decode cX9_beginnings 10 = .ok (.iconst 2, 1) := by decide +kernel
theorem dX9_beginnings_11 : decode cX9_beginnings 11 = .ok (.iaload, 1) := by decide +kernel
theorem dX9_beginnings_12 : decode cX9_beginnings 12 = .ok (.iand, 1) := by decide +kernel
theorem dX9_beginnings_13 : decode cX9_beginnings 13 = .ok (.ireturn, 1) := by decide +kernel
theorem dX9_reach_0 : decode cX9_reach 0 = .ok (.aload_n 0, 1) := by decide +kernel
theorem dX9_reach_1 : decode cX9_reach 1 = .ok (.iload_n 1, 1) := by decide +kernel
theorem dX9_reach_2 : decode cX9_reach 2 = .ok (.invokevirtual 133, 3) := by decide +kernel
theorem dX9_reach_5 : decode cX9_reach 5 = .ok (.ifCond .eq 11, 3) := by decide +kernel
theorem dX9_reach_8 : decode cX9_reach 8 = .ok (.aload_n 0, 1) := by decide +kernel
theorem dX9_reach_9 : decode cX9_reach 9 = .ok (.iload_n 1, 1) := by decide +kernel
theorem dX9_reach_10 : decode cX9_reach 10 = .ok (.invokevirtual 136, 3) := by decide +kernel
theorem dX9_reach_13 : decode cX9_reach 13 = .ok (.goto 4, 3) := by decide +kernel
theorem dX9_reach_16 : decode cX9_reach 16 = .ok (.iconst (-1), 1) := by decide +kernel
theorem dX9_reach_17 : decode cX9_reach 17 = .ok (.ireturn, 1) := by decide +kernel
theorem dX9_mayFrom_0 : decode cX9_mayFrom 0 = .ok (.aload_n 0, 1) := by decide +kernel
theorem dX9_mayFrom_1 : decode cX9_mayFrom 1 = .ok (.getfield 7, 3) := by decide +kernel
theorem dX9_mayFrom_4 : decode cX9_mayFrom 4 = .ok (.iconst 2, 1) := by decide +kernel
theorem dX9_mayFrom_5 : decode cX9_mayFrom 5 = .ok (.iaload, 1) := by decide +kernel
theorem dX9_mayFrom_6 : decode cX9_mayFrom 6 = .ok (.aload_n 0, 1) := by decide +kernel
theorem dX9_mayFrom_7 : decode cX9_mayFrom 7 = .ok (.getfield 7, 3) := by decide +kernel
theorem dX9_mayFrom_10 : decode cX9_mayFrom 10 = .ok (.bipush 25, 2) := by decide +kernel
theorem dX9_mayFrom_12 : decode cX9_mayFrom 12 = .ok (.iload_n 2, 1) := by decide +kernel
theorem dX9_mayFrom_13 : decode cX9_mayFrom 13 = .ok (.iadd, 1) := by decide +kernel
theorem dX9_mayFrom_14 : decode cX9_mayFrom 14 = .ok (.iaload, 1) := by decide +kernel
theorem dX9_mayFrom_15 : decode cX9_mayFrom 15 = .ok (.invokestatic 102, 3) := by decide +kernel
theorem dX9_mayFrom_18 : decode cX9_mayFrom 18 = .ok (.ifCond .eq 54, 3) := by decide +kernel
theorem dX9_mayFrom_21 : decode cX9_mayFrom 21 = .ok (.iload_n 1, 1) := by decide +kernel
theorem dX9_mayFrom_22 : decode cX9_mayFrom 22 = .ok (.aload_n 0, 1) := by decide +kernel
theorem dX9_mayFrom_23 : decode cX9_mayFrom 23 = .ok (.getfield 7, 3) := by decide +kernel
theorem dX9_mayFrom_26 : decode cX9_mayFrom 26 = .ok (.bipush 25, 2) := by decide +kernel
theorem dX9_mayFrom_28 : decode cX9_mayFrom 28 = .ok (.iload_n 2, 1) := by decide +kernel
theorem dX9_mayFrom_29 : decode cX9_mayFrom 29 = .ok (.iadd, 1) := by decide +kernel
theorem dX9_mayFrom_30 : decode cX9_mayFrom 30 = .ok (.iaload, 1) := by decide +kernel
theorem dX9_mayFrom_31 : decode cX9_mayFrom 31 = .ok (.invokestatic 102, 3) := by decide +kernel
theorem dX9_mayFrom_34 : decode cX9_mayFrom 34 = .ok (.ifCond .ne 38, 3) := by decide +kernel
theorem dX9_mayFrom_37 : decode cX9_mayFrom 37 = .ok (.iload_n 1, 1) := by decide +kernel
theorem dX9_mayFrom_38 : decode cX9_mayFrom 38 = .ok (.aload_n 0, 1) := by decide +kernel
theorem dX9_mayFrom_39 : decode cX9_mayFrom 39 = .ok (.getfield 7, 3) := by decide +kernel
theorem dX9_mayFrom_42 : decode cX9_mayFrom 42 = .ok (.iconst 5, 1) := by decide +kernel
theorem dX9_mayFrom_43 : decode cX9_mayFrom 43 = .ok (.iload_n 2, 1) := by decide +kernel
theorem dX9_mayFrom_44 : decode cX9_mayFrom 44 = .ok (.iadd, 1) := by decide +kernel
theorem dX9_mayFrom_45 : decode cX9_mayFrom 45 = .ok (.iaload, 1) := by decide +kernel
theorem dX9_mayFrom_46 : decode cX9_mayFrom 46 = .ok (.invokestatic 102, 3) := by decide +kernel
theorem dX9_mayFrom_49 : decode cX9_mayFrom 49 = .ok (.ifCond .eq 23, 3) := by decide +kernel
theorem dX9_mayFrom_52 : decode cX9_mayFrom 52 = .ok (.iload_n 1, 1) := by decide +kernel
theorem dX9_mayFrom_53 : decode cX9_mayFrom 53 = .ok (.aload_n 0, 1) := by decide +kernel
theorem dX9_mayFrom_54 : decode cX9_mayFrom 54 = .ok (.getfield 7, 3) := by decide +kernel
theorem dX9_mayFrom_57 : decode cX9_mayFrom 57 = .ok (.bipush 15, 2) := by decide +kernel
theorem dX9_mayFrom_59 : decode cX9_mayFrom 59 = .ok (.iload_n 2, 1) := by decide +kernel
theorem dX9_mayFrom_60 : decode cX9_mayFrom 60 = .ok (.iadd, 1) := by decide +kernel
theorem dX9_mayFrom_61 : decode cX9_mayFrom 61 = .ok (.iaload, 1) := by decide +kernel
theorem dX9_mayFrom_62 : decode cX9_mayFrom 62 = .ok (.invokestatic 102, 3) := by decide +kernel
theorem dX9_mayFrom_65 : decode cX9_mayFrom 65 = .ok (.ifCond .eq 7, 3) := by decide +kernel
theorem dX9_mayFrom_68 : decode cX9_mayFrom 68 = .ok (.iconst 1, 1) := by decide +kernel
theorem dX9_mayFrom_69 : decode cX9_mayFrom 69 = .ok (.goto 4, 3) := by decide +kernel
theorem dX9_mayFrom_72 : decode cX9_mayFrom 72 = .ok (.iconst 0, 1) := by decide +kernel
theorem dX9_mayFrom_73 : decode cX9_mayFrom 73 = .ok (.ireturn, 1) := by decide +kernel
theorem dX9_layWalks_0 : decode cX9_layWalks 0 = .ok (.iconst 1, 1) := by decide +kernel
theorem dX9_layWalks_1 : decode cX9_layWalks 1 = .ok (.aload_n 0, 1) := by decide +kernel
theorem dX9_layWalks_2 : decode cX9_layWalks 2 = .ok (.getfield 7, 3) := by decide +kernel
theorem dX9_layWalks_5 : decode cX9_layWalks 5 = .ok (.iconst 0, 1) := by decide +kernel
theorem dX9_layWalks_6 : decode cX9_layWalks 6 = .ok (.iaload, 1) := by decide +kernel
theorem dX9_layWalks_7 : decode cX9_layWalks 7 = .ok (.ishl, 1) := by decide +kernel
theorem dX9_layWalks_8 : decode cX9_layWalks 8 = .ok (.iconst 1, 1) := by decide +kernel
theorem dX9_layWalks_9 : decode cX9_layWalks 9 = .ok (.isub, 1) := by decide +kernel
theorem dX9_layWalks_10 : decode cX9_layWalks 10 = .ok (.istore_n 2, 1) := by decide +kernel
theorem dX9_layWalks_11 : decode cX9_layWalks 11 = .ok (.iload_n 2, 1) := by decide +kernel
theorem dX9_layWalks_12 : decode cX9_layWalks 12 = .ok (.ifCond .lt 227, 3) := by decide +kernel
theorem dX9_layWalks_15 : decode cX9_layWalks 15 = .ok (.aload_n 0, 1) := by decide +kernel
theorem dX9_layWalks_16 : decode cX9_layWalks 16 = .ok (.getfield 26, 3) := by decide +kernel
theorem dX9_layWalks_19 : decode cX9_layWalks 19 = .ok (.iload_n 2, 1) := by decide +kernel
theorem dX9_layWalks_20 : decode cX9_layWalks 20 = .ok (.iload_n 2, 1) := by decide +kernel
theorem dX9_layWalks_21 : decode cX9_layWalks 21 = .ok (.iload_n 1, 1) := by decide +kernel
theorem dX9_layWalks_22 : decode cX9_layWalks 22 = .ok (.invokestatic 102, 3) := by decide +kernel
theorem dX9_layWalks_25 : decode cX9_layWalks 25 = .ok (.ifCond .eq 7, 3) := by decide +kernel
theorem dX9_layWalks_28 : decode cX9_layWalks 28 = .ok (.iconst 0, 1) := by decide +kernel
theorem dX9_layWalks_29 : decode cX9_layWalks 29 = .ok (.goto 5, 3) := by decide +kernel
theorem dX9_layWalks_32 : decode cX9_layWalks 32 = .ok (.bipush 100, 2) := by decide +kernel
theorem dX9_layWalks_34 : decode cX9_layWalks 34 = .ok (.iastore, 1) := by decide +kernel
theorem dX9_layWalks_35 : decode cX9_layWalks 35 = .ok (.aload_n 0, 1) := by decide +kernel
theorem dX9_layWalks_36 : decode cX9_layWalks 36 = .ok (.getfield 22, 3) := by decide +kernel
theorem dX9_layWalks_39 : decode cX9_layWalks 39 = .ok (.iload_n 2, 1) := by decide +kernel
theorem dX9_layWalks_40 : decode cX9_layWalks 40 = .ok (.iload_n 2, 1) := by decide +kernel
theorem dX9_layWalks_41 : decode cX9_layWalks 41 = .ok (.iload_n 1, 1) := by decide +kernel
theorem dX9_layWalks_42 : decode cX9_layWalks 42 = .ok (.invokestatic 102, 3) := by decide +kernel
theorem dX9_layWalks_45 : decode cX9_layWalks 45 = .ok (.ifCond .eq 7, 3) := by decide +kernel
theorem dX9_layWalks_48 : decode cX9_layWalks 48 = .ok (.lconst 1, 1) := by decide +kernel
end
section
theorem dX9_layWalks_49 : decode cX9_layWalks 49 = .ok (.goto 4, 3) := by decide +kernel
theorem dX9_layWalks_52 : decode cX9_layWalks 52 = .ok (.lconst 0, 1) := by decide +kernel
theorem dX9_layWalks_53 : decode cX9_layWalks 53 = .ok (.lastore, 1) := by decide +kernel
theorem dX9_layWalks_54 : decode cX9_layWalks 54 = .ok (.iconst 0, 1) := by decide +kernel
theorem dX9_layWalks_55 : decode cX9_layWalks 55 = .ok (.istore_n 3, 1) := by decide +kernel
theorem dX9_layWalks_56 : decode cX9_layWalks 56 = .ok (.iload_n 3, 1) := by decide +kernel
theorem dX9_layWalks_57 : decode cX9_layWalks 57 = .ok (.aload_n 0, 1) := by decide +kernel
theorem dX9_layWalks_58 : decode cX9_layWalks 58 = .ok (.getfield 7, 3) := by decide +kernel
theorem dX9_layWalks_61 : decode cX9_layWalks 61 = .ok (.iconst 4, 1) := by decide +kernel
theorem dX9_layWalks_62 : decode cX9_layWalks 62 = .ok (.iaload, 1) := by decide +kernel
theorem dX9_layWalks_63 : decode cX9_layWalks 63 = .ok (.if_icmp .ge 170, 3) := by decide +kernel
theorem dX9_layWalks_66 : decode cX9_layWalks 66 = .ok (.iload_n 2, 1) := by decide +kernel
theorem dX9_layWalks_67 : decode cX9_layWalks 67 = .ok (.iload_n 1, 1) := by decide +kernel
theorem dX9_layWalks_68 : decode cX9_layWalks 68 = .ok (.invokestatic 102, 3) := by decide +kernel
theorem dX9_layWalks_71 : decode cX9_layWalks 71 = .ok (.ifCond .ne 162, 3) := by decide +kernel
theorem dX9_layWalks_74 : decode cX9_layWalks 74 = .ok (.iload_n 2, 1) := by decide +kernel
theorem dX9_layWalks_75 : decode cX9_layWalks 75 = .ok (.iconst 1, 1) := by decide +kernel
theorem dX9_layWalks_76 : decode cX9_layWalks 76 = .ok (.aload_n 0, 1) := by decide +kernel
theorem dX9_layWalks_77 : decode cX9_layWalks 77 = .ok (.getfield 7, 3) := by decide +kernel
theorem dX9_layWalks_80 : decode cX9_layWalks 80 = .ok (.bipush 25, 2) := by decide +kernel
theorem dX9_layWalks_82 : decode cX9_layWalks 82 = .ok (.iload_n 3, 1) := by decide +kernel
theorem dX9_layWalks_83 : decode cX9_layWalks 83 = .ok (.iadd, 1) := by decide +kernel
theorem dX9_layWalks_84 : decode cX9_layWalks 84 = .ok (.iaload, 1) := by decide +kernel
theorem dX9_layWalks_85 : decode cX9_layWalks 85 = .ok (.ishl, 1) := by decide +kernel
theorem dX9_layWalks_86 : decode cX9_layWalks 86 = .ok (.ior, 1) := by decide +kernel
theorem dX9_layWalks_87 : decode cX9_layWalks 87 = .ok (.istore 4, 2) := by decide +kernel
theorem dX9_layWalks_89 : decode cX9_layWalks 89 = .ok (.aload_n 0, 1) := by decide +kernel
theorem dX9_layWalks_90 : decode cX9_layWalks 90 = .ok (.iload_n 2, 1) := by decide +kernel
theorem dX9_layWalks_91 : decode cX9_layWalks 91 = .ok (.iload_n 3, 1) := by decide +kernel
theorem dX9_layWalks_92 : decode cX9_layWalks 92 = .ok (.invokevirtual 139, 3) := by decide +kernel
theorem dX9_layWalks_95 : decode cX9_layWalks 95 = .ok (.ifCond .eq 132, 3) := by decide +kernel
theorem dX9_layWalks_98 : decode cX9_layWalks 98 = .ok (.aload_n 0, 1) := by decide +kernel
theorem dX9_layWalks_99 : decode cX9_layWalks 99 = .ok (.getfield 26, 3) := by decide +kernel
theorem dX9_layWalks_102 : decode cX9_layWalks 102 = .ok (.iload 4, 2) := by decide +kernel
theorem dX9_layWalks_104 : decode cX9_layWalks 104 = .ok (.iaload, 1) := by decide +kernel
theorem dX9_layWalks_105 : decode cX9_layWalks 105 = .ok (.bipush 100, 2) := by decide +kernel
theorem dX9_layWalks_107 : decode cX9_layWalks 107 = .ok (.if_icmp .ge 120, 3) := by decide +kernel
theorem dX9_layWalks_110 : decode cX9_layWalks 110 = .ok (.aload_n 0, 1) := by decide +kernel
theorem dX9_layWalks_111 : decode cX9_layWalks 111 = .ok (.getfield 22, 3) := by decide +kernel
theorem dX9_layWalks_114 : decode cX9_layWalks 114 = .ok (.iload_n 2, 1) := by decide +kernel
theorem dX9_layWalks_115 : decode cX9_layWalks 115 = .ok (.aload_n 0, 1) := by decide +kernel
theorem dX9_layWalks_116 : decode cX9_layWalks 116 = .ok (.getfield 26, 3) := by decide +kernel
theorem dX9_layWalks_119 : decode cX9_layWalks 119 = .ok (.iload 4, 2) := by decide +kernel
theorem dX9_layWalks_121 : decode cX9_layWalks 121 = .ok (.iaload, 1) := by decide +kernel
theorem dX9_layWalks_122 : decode cX9_layWalks 122 = .ok (.iconst 1, 1) := by decide +kernel
theorem dX9_layWalks_123 : decode cX9_layWalks 123 = .ok (.iadd, 1) := by decide +kernel
theorem dX9_layWalks_124 : decode cX9_layWalks 124 = .ok (.aload_n 0, 1) := by decide +kernel
theorem dX9_layWalks_125 : decode cX9_layWalks 125 = .ok (.getfield 26, 3) := by decide +kernel
theorem dX9_layWalks_128 : decode cX9_layWalks 128 = .ok (.iload_n 2, 1) := by decide +kernel
theorem dX9_layWalks_129 : decode cX9_layWalks 129 = .ok (.iaload, 1) := by decide +kernel
theorem dX9_layWalks_130 : decode cX9_layWalks 130 = .ok (.if_icmp .ge 13, 3) := by decide +kernel
theorem dX9_layWalks_133 : decode cX9_layWalks 133 = .ok (.aload_n 0, 1) := by decide +kernel
theorem dX9_layWalks_134 : decode cX9_layWalks 134 = .ok (.getfield 22, 3) := by decide +kernel
theorem dX9_layWalks_137 : decode cX9_layWalks 137 = .ok (.iload 4, 2) := by decide +kernel
theorem dX9_layWalks_139 : decode cX9_layWalks 139 = .ok (.laload, 1) := by decide +kernel
theorem dX9_layWalks_140 : decode cX9_layWalks 140 = .ok (.goto 44, 3) := by decide +kernel
theorem dX9_layWalks_143 : decode cX9_layWalks 143 = .ok (.aload_n 0, 1) := by decide +kernel
theorem dX9_layWalks_144 : decode cX9_layWalks 144 = .ok (.getfield 26, 3) := by decide +kernel
theorem dX9_layWalks_147 : decode cX9_layWalks 147 = .ok (.iload 4, 2) := by decide +kernel
theorem dX9_layWalks_149 : decode cX9_layWalks 149 = .ok (.iaload, 1) := by decide +kernel
theorem dX9_layWalks_150 : decode cX9_layWalks 150 = .ok (.iconst 1, 1) := by decide +kernel
theorem dX9_layWalks_151 : decode cX9_layWalks 151 = .ok (.iadd, 1) := by decide +kernel
theorem dX9_layWalks_152 : decode cX9_layWalks 152 = .ok (.aload_n 0, 1) := by decide +kernel
theorem dX9_layWalks_153 : decode cX9_layWalks 153 = .ok (.getfield 26, 3) := by decide +kernel
theorem dX9_layWalks_156 : decode cX9_layWalks 156 = .ok (.iload_n 2, 1) := by decide +kernel
theorem dX9_layWalks_157 : decode cX9_layWalks 157 = .ok (.iaload, 1) := by decide +kernel
theorem dX9_layWalks_158 : decode cX9_layWalks 158 = .ok (.if_icmp .ne 20, 3) := by decide +kernel
theorem dX9_layWalks_161 : decode cX9_layWalks 161 = .ok (.aload_n 0, 1) := by decide +kernel
theorem dX9_layWalks_162 : decode cX9_layWalks 162 = .ok (.getfield 22, 3) := by decide +kernel
theorem dX9_layWalks_165 : decode cX9_layWalks 165 = .ok (.iload_n 2, 1) := by decide +kernel
theorem dX9_layWalks_166 : decode cX9_layWalks 166 = .ok (.laload, 1) := by decide +kernel
theorem dX9_layWalks_167 : decode cX9_layWalks 167 = .ok (.aload_n 0, 1) := by decide +kernel
theorem dX9_layWalks_168 : decode cX9_layWalks 168 = .ok (.getfield 22, 3) := by decide +kernel
theorem dX9_layWalks_171 : decode cX9_layWalks 171 = .ok (.iload 4, 2) := by decide +kernel
theorem dX9_layWalks_173 : decode cX9_layWalks 173 = .ok (.laload, 1) := by decide +kernel
theorem dX9_layWalks_174 : decode cX9_layWalks 174 = .ok (.ladd, 1) := by decide +kernel
theorem dX9_layWalks_175 : decode cX9_layWalks 175 = .ok (.goto 9, 3) := by decide +kernel
theorem dX9_layWalks_178 : decode cX9_layWalks 178 = .ok (.aload_n 0, 1) := by decide +kernel
theorem dX9_layWalks_179 : decode cX9_layWalks 179 = .ok (.getfield 22, 3) := by decide +kernel
theorem dX9_layWalks_182 : decode cX9_layWalks 182 = .ok (.iload_n 2, 1) := by decide +kernel
theorem dX9_layWalks_183 : decode cX9_layWalks 183 = .ok (.laload, 1) := by decide +kernel
theorem dX9_layWalks_184 : decode cX9_layWalks 184 = .ok (.lastore, 1) := by decide +kernel
theorem dX9_layWalks_185 : decode cX9_layWalks 185 = .ok (.aload_n 0, 1) := by decide +kernel
theorem dX9_layWalks_186 : decode cX9_layWalks 186 = .ok (.getfield 26, 3) := by decide +kernel
theorem dX9_layWalks_189 : decode cX9_layWalks 189 = .ok (.iload_n 2, 1) := by decide +kernel
theorem dX9_layWalks_190 : decode cX9_layWalks 190 = .ok (.aload_n 0, 1) := by decide +kernel
theorem dX9_layWalks_191 : decode cX9_layWalks 191 = .ok (.getfield 26, 3) := by decide +kernel
theorem dX9_layWalks_194 : decode cX9_layWalks 194 = .ok (.iload 4, 2) := by decide +kernel
theorem dX9_layWalks_196 : decode cX9_layWalks 196 = .ok (.iaload, 1) := by decide +kernel
theorem dX9_layWalks_197 : decode cX9_layWalks 197 = .ok (.iconst 1, 1) := by decide +kernel
theorem dX9_layWalks_198 : decode cX9_layWalks 198 = .ok (.iadd, 1) := by decide +kernel
theorem dX9_layWalks_199 : decode cX9_layWalks 199 = .ok (.aload_n 0, 1) := by decide +kernel
theorem dX9_layWalks_200 : decode cX9_layWalks 200 = .ok (.getfield 26, 3) := by decide +kernel
theorem dX9_layWalks_203 : decode cX9_layWalks 203 = .ok (.iload_n 2, 1) := by decide +kernel
theorem dX9_layWalks_204 : decode cX9_layWalks 204 = .ok (.iaload, 1) := by decide +kernel
theorem dX9_layWalks_205 : decode cX9_layWalks 205 = .ok (.if_icmp .ge 15, 3) := by decide +kernel
theorem dX9_layWalks_208 : decode cX9_layWalks 208 = .ok (.aload_n 0, 1) := by decide +kernel
theorem dX9_layWalks_209 : decode cX9_layWalks 209 = .ok (.getfield 26, 3) := by decide +kernel
theorem dX9_layWalks_212 : decode cX9_layWalks 212 = .ok (.iload 4, 2) := by decide +kernel
theorem dX9_layWalks_214 : decode cX9_layWalks 214 = .ok (.iaload, 1) := by decide +kernel
theorem dX9_layWalks_215 : decode cX9_layWalks 215 = .ok (.iconst 1, 1) := by decide +kernel
theorem dX9_layWalks_216 : decode cX9_layWalks 216 = .ok (.iadd, 1) := by decide +kernel
theorem dX9_layWalks_217 : decode cX9_layWalks 217 = .ok (.goto 9, 3) := by decide +kernel
theorem dX9_layWalks_220 : decode cX9_layWalks 220 = .ok (.aload_n 0, 1) := by decide +kernel
theorem dX9_layWalks_221 : decode cX9_layWalks 221 = .ok (.getfield 26, 3) := by decide +kernel
theorem dX9_layWalks_224 : decode cX9_layWalks 224 = .ok (.iload_n 2, 1) := by decide +kernel
theorem dX9_layWalks_225 : decode cX9_layWalks 225 = .ok (.iaload, 1) := by decide +kernel
theorem dX9_layWalks_226 : decode cX9_layWalks 226 = .ok (.iastore, 1) := by decide +kernel
theorem dX9_layWalks_227 : decode cX9_layWalks 227 = .ok (.iinc 3 1, 3) := by decide +kernel
theorem dX9_layWalks_230 : decode cX9_layWalks 230 = .ok (.goto (-174), 3) := by decide +kernel
theorem dX9_layWalks_233 : decode cX9_layWalks 233 = .ok (.iinc 2 (-1), 3) := by decide +kernel
theorem dX9_layWalks_236 : decode cX9_layWalks 236 = .ok (.goto (-225), 3) := by decide +kernel
theorem dX9_layWalks_239 : decode cX9_layWalks 239 = .ok (.return_, 1) := by decide +kernel
theorem dX9_walk_0 : decode cX9_walk 0 = .ok (.aload_n 0, 1) := by decide +kernel
theorem dX9_walk_1 : decode cX9_walk 1 = .ok (.iload_n 1, 1) := by decide +kernel
theorem dX9_walk_2 : decode cX9_walk 2 = .ok (.invokevirtual 106, 3) := by decide +kernel
theorem dX9_walk_5 : decode cX9_walk 5 = .ok (.ifCond .eq 15, 3) := by decide +kernel
theorem dX9_walk_8 : decode cX9_walk 8 = .ok (.iload_n 2, 1) := by decide +kernel
theorem dX9_walk_9 : decode cX9_walk 9 = .ok (.i2l, 1) := by decide +kernel
theorem dX9_walk_10 : decode cX9_walk 10 = .ok (.lconst 0, 1) := by decide +kernel
theorem dX9_walk_11 : decode cX9_walk 11 = .ok (.ldc2_w 142, 3) := by decide +kernel
theorem dX9_walk_14 : decode cX9_walk 14 = .ok (.invokestatic 43, 3) := by decide +kernel
theorem dX9_walk_17 : decode cX9_walk 17 = .ok (.ifCond .ne 7, 3) := by decide +kernel
theorem dX9_walk_20 : decode cX9_walk 20 = .ok (.ldc2_w 144, 3) := by decide +kernel
theorem dX9_walk_23 : decode cX9_walk 23 = .ok (.lreturn, 1) := by decide +kernel
theorem dX9_walk_24 : decode cX9_walk 24 = .ok (.aload_n 0, 1) := by decide +kernel
theorem dX9_walk_25 : decode cX9_walk 25 = .ok (.iload_n 1, 1) := by decide +kernel
theorem dX9_walk_26 : decode cX9_walk 26 = .ok (.invokevirtual 146, 3) := by decide +kernel
theorem dX9_walk_29 : decode cX9_walk 29 = .ok (.aload_n 0, 1) := by decide +kernel
theorem dX9_walk_30 : decode cX9_walk 30 = .ok (.getfield 7, 3) := by decide +kernel
theorem dX9_walk_33 : decode cX9_walk 33 = .ok (.iconst 3, 1) := by decide +kernel
theorem dX9_walk_34 : decode cX9_walk 34 = .ok (.iaload, 1) := by decide +kernel
theorem dX9_walk_35 : decode cX9_walk 35 = .ok (.istore_n 3, 1) := by decide +kernel
theorem dX9_walk_36 : decode cX9_walk 36 = .ok (.aload_n 0, 1) := by decide +kernel
theorem dX9_walk_37 : decode cX9_walk 37 = .ok (.getfield 26, 3) := by decide +kernel
theorem dX9_walk_40 : decode cX9_walk 40 = .ok (.iload_n 3, 1) := by decide +kernel
theorem dX9_walk_41 : decode cX9_walk 41 = .ok (.iaload, 1) := by decide +kernel
theorem dX9_walk_42 : decode cX9_walk 42 = .ok (.bipush 100, 2) := by decide +kernel
theorem dX9_walk_44 : decode cX9_walk 44 = .ok (.if_icmp .ne 7, 3) := by decide +kernel
theorem dX9_walk_47 : decode cX9_walk 47 = .ok (.ldc2_w 149, 3) := by decide +kernel
theorem dX9_walk_50 : decode cX9_walk 50 = .ok (.lreturn, 1) := by decide +kernel
theorem dX9_walk_51 : decode cX9_walk 51 = .ok (.bipush (-4), 2) := by decide +kernel
theorem dX9_walk_53 : decode cX9_walk 53 = .ok (.istore 4, 2) := by decide +kernel
theorem dX9_walk_55 : decode cX9_walk 55 = .ok (.aload_n 0, 1) := by decide +kernel
theorem dX9_walk_56 : decode cX9_walk 56 = .ok (.getfield 7, 3) := by decide +kernel
theorem dX9_walk_59 : decode cX9_walk 59 = .ok (.iconst 4, 1) := by decide +kernel
theorem dX9_walk_60 : decode cX9_walk 60 = .ok (.iaload, 1) := by decide +kernel
theorem dX9_walk_61 : decode cX9_walk 61 = .ok (.iconst 1, 1) := by decide +kernel
theorem dX9_walk_62 : decode cX9_walk 62 = .ok (.isub, 1) := by decide +kernel
theorem dX9_walk_63 : decode cX9_walk 63 = .ok (.istore 5, 2) := by decide +kernel
theorem dX9_walk_65 : decode cX9_walk 65 = .ok (.iload 5, 2) := by decide +kernel
theorem dX9_walk_67 : decode cX9_walk 67 = .ok (.ifCond .lt 79, 3) := by decide +kernel
theorem dX9_walk_70 : decode cX9_walk 70 = .ok (.aload_n 0, 1) := by decide +kernel
theorem dX9_walk_71 : decode cX9_walk 71 = .ok (.getfield 26, 3) := by decide +kernel
theorem dX9_walk_74 : decode cX9_walk 74 = .ok (.iload_n 3, 1) := by decide +kernel
theorem dX9_walk_75 : decode cX9_walk 75 = .ok (.iaload, 1) := by decide +kernel
theorem dX9_walk_76 : decode cX9_walk 76 = .ok (.ifCond .le 47, 3) := by decide +kernel
theorem dX9_walk_79 : decode cX9_walk 79 = .ok (.aload_n 0, 1) := by decide +kernel
theorem dX9_walk_80 : decode cX9_walk 80 = .ok (.iload_n 3, 1) := by decide +kernel
theorem dX9_walk_81 : decode cX9_walk 81 = .ok (.iload 5, 2) := by decide +kernel
theorem dX9_walk_83 : decode cX9_walk 83 = .ok (.invokevirtual 139, 3) := by decide +kernel
theorem dX9_walk_86 : decode cX9_walk 86 = .ok (.ifCond .eq 37, 3) := by decide +kernel
theorem dX9_walk_89 : decode cX9_walk 89 = .ok (.aload_n 0, 1) := by decide +kernel
theorem dX9_walk_90 : decode cX9_walk 90 = .ok (.getfield 26, 3) := by decide +kernel
theorem dX9_walk_93 : decode cX9_walk 93 = .ok (.iload_n 3, 1) := by decide +kernel
theorem dX9_walk_94 : decode cX9_walk 94 = .ok (.iconst 1, 1) := by decide +kernel
theorem dX9_walk_95 : decode cX9_walk 95 = .ok (.aload_n 0, 1) := by decide +kernel
theorem dX9_walk_96 : decode cX9_walk 96 = .ok (.getfield 7, 3) := by decide +kernel
theorem dX9_walk_99 : decode cX9_walk 99 = .ok (.bipush 25, 2) := by decide +kernel
theorem dX9_walk_101 : decode cX9_walk 101 = .ok (.iload 5, 2) := by decide +kernel
theorem dX9_walk_103 : decode cX9_walk 103 = .ok (.iadd, 1) := by decide +kernel
theorem dX9_walk_104 : decode cX9_walk 104 = .ok (.iaload, 1) := by decide +kernel
theorem dX9_walk_105 : decode cX9_walk 105 = .ok (.ishl, 1) := by decide +kernel
theorem dX9_walk_106 : decode cX9_walk 106 = .ok (.ior, 1) := by decide +kernel
theorem dX9_walk_107 : decode cX9_walk 107 = .ok (.iaload, 1) := by decide +kernel
theorem dX9_walk_108 : decode cX9_walk 108 = .ok (.aload_n 0, 1) := by decide +kernel
theorem dX9_walk_109 : decode cX9_walk 109 = .ok (.getfield 26, 3) := by decide +kernel
theorem dX9_walk_112 : decode cX9_walk 112 = .ok (.iload_n 3, 1) := by decide +kernel
theorem dX9_walk_113 : decode cX9_walk 113 = .ok (.iaload, 1) := by decide +kernel
theorem dX9_walk_114 : decode cX9_walk 114 = .ok (.iconst 1, 1) := by decide +kernel
theorem dX9_walk_115 : decode cX9_walk 115 = .ok (.isub, 1) := by decide +kernel
theorem dX9_walk_116 : decode cX9_walk 116 = .ok (.if_icmp .ne 7, 3) := by decide +kernel
theorem dX9_walk_119 : decode cX9_walk 119 = .ok (.iconst 1, 1) := by decide +kernel
theorem dX9_walk_120 : decode cX9_walk 120 = .ok (.goto 4, 3) := by decide +kernel
theorem dX9_walk_123 : decode cX9_walk 123 = .ok (.iconst 0, 1) := by decide +kernel
theorem dX9_walk_124 : decode cX9_walk 124 = .ok (.istore 6, 2) := by decide +kernel
theorem dX9_walk_126 : decode cX9_walk 126 = .ok (.iload 6, 2) := by decide +kernel
theorem dX9_walk_128 : decode cX9_walk 128 = .ok (.ifCond .eq 8, 3) := by decide +kernel
theorem dX9_walk_131 : decode cX9_walk 131 = .ok (.iload 5, 2) := by decide +kernel
theorem dX9_walk_133 : decode cX9_walk 133 = .ok (.goto 5, 3) := by decide +kernel
theorem dX9_walk_136 : decode cX9_walk 136 = .ok (.iload 4, 2) := by decide +kernel
theorem dX9_walk_138 : decode cX9_walk 138 = .ok (.istore 4, 2) := by decide +kernel
theorem dX9_walk_140 : decode cX9_walk 140 = .ok (.iinc 5 (-1), 3) := by decide +kernel
theorem dX9_walk_143 : decode cX9_walk 143 = .ok (.goto (-78), 3) := by decide +kernel
theorem dX9_walk_146 : decode cX9_walk 146 = .ok (.iload_n 2, 1) := by decide +kernel
theorem dX9_walk_147 : decode cX9_walk 147 = .ok (.ifCond .ne 13, 3) := by decide +kernel
theorem dX9_walk_150 : decode cX9_walk 150 = .ok (.aload_n 0, 1) := by decide +kernel
theorem dX9_walk_151 : decode cX9_walk 151 = .ok (.getfield 26, 3) := by decide +kernel
theorem dX9_walk_154 : decode cX9_walk 154 = .ok (.iload_n 3, 1) := by decide +kernel
theorem dX9_walk_155 : decode cX9_walk 155 = .ok (.iaload, 1) := by decide +kernel
theorem dX9_walk_156 : decode cX9_walk 156 = .ok (.i2l, 1) := by decide +kernel
theorem dX9_walk_157 : decode cX9_walk 157 = .ok (.goto 20, 3) := by decide +kernel
theorem dX9_walk_160 : decode cX9_walk 160 = .ok (.iload_n 2, 1) := by decide +kernel
theorem dX9_walk_161 : decode cX9_walk 161 = .ok (.iconst 1, 1) := by decide +kernel
theorem dX9_walk_162 : decode cX9_walk 162 = .ok (.if_icmp .ne 9, 3) := by decide +kernel
theorem dX9_walk_165 : decode cX9_walk 165 = .ok (.iload 4, 2) := by decide +kernel
theorem dX9_walk_167 : decode cX9_walk 167 = .ok (.i2l, 1) := by decide +kernel
theorem dX9_walk_168 : decode cX9_walk 168 = .ok (.goto 9, 3) := by decide +kernel
theorem dX9_walk_171 : decode cX9_walk 171 = .ok (.aload_n 0, 1) := by decide +kernel
theorem dX9_walk_172 : decode cX9_walk 172 = .ok (.getfield 22, 3) := by decide +kernel
theorem dX9_walk_175 : decode cX9_walk 175 = .ok (.iload_n 3, 1) := by decide +kernel
theorem dX9_walk_176 : decode cX9_walk 176 = .ok (.laload, 1) := by decide +kernel
theorem dX9_walk_177 : decode cX9_walk 177 = .ok (.lreturn, 1) := by decide +kernel
theorem dX9_round_0 : decode cX9_round 0 = .ok (.aload_n 0, 1) := by decide +kernel
theorem dX9_round_1 : decode cX9_round 1 = .ok (.iload_n 1, 1) := by decide +kernel
theorem dX9_round_2 : decode cX9_round 2 = .ok (.invokevirtual 106, 3) := by decide +kernel
theorem dX9_round_5 : decode cX9_round 5 = .ok (.ifCond .ne 5, 3) := by decide +kernel
theorem dX9_round_8 : decode cX9_round 8 = .ok (.iconst (-1), 1) := by decide +kernel
theorem dX9_round_9 : decode cX9_round 9 = .ok (.ireturn, 1) := by decide +kernel
theorem dX9_round_10 : decode cX9_round 10 = .ok (.aload_n 0, 1) := by decide +kernel
theorem dX9_round_11 : decode cX9_round 11 = .ok (.getfield 7, 3) := by decide +kernel
theorem dX9_round_14 : decode cX9_round 14 = .ok (.iconst 3, 1) := by decide +kernel
theorem dX9_round_15 : decode cX9_round 15 = .ok (.iaload, 1) := by decide +kernel
theorem dX9_round_16 : decode cX9_round 16 = .ok (.istore_n 2, 1) := by decide +kernel
theorem dX9_round_17 : decode cX9_round 17 = .ok (.iconst 0, 1) := by decide +kernel
theorem dX9_round_18 : decode cX9_round 18 = .ok (.istore_n 3, 1) := by decide +kernel
theorem dX9_round_19 : decode cX9_round 19 = .ok (.iload_n 3, 1) := by decide +kernel
theorem dX9_round_20 : decode cX9_round 20 = .ok (.bipush 10, 2) := by decide +kernel
theorem dX9_round_22 : decode cX9_round 22 = .ok (.if_icmp .gt 76, 3) := by decide +kernel
theorem dX9_round_25 : decode cX9_round 25 = .ok (.iload_n 2, 1) := by decide +kernel
theorem dX9_round_26 : decode cX9_round 26 = .ok (.iload_n 1, 1) := by decide +kernel
theorem dX9_round_27 : decode cX9_round 27 = .ok (.invokestatic 102, 3) := by decide +kernel
theorem dX9_round_30 : decode cX9_round 30 = .ok (.ifCond .eq 5, 3) := by decide +kernel
theorem dX9_round_33 : decode cX9_round 33 = .ok (.iload_n 3, 1) := by decide +kernel
theorem dX9_round_34 : decode cX9_round 34 = .ok (.ireturn, 1) := by decide +kernel
theorem dX9_round_35 : decode cX9_round 35 = .ok (.iload_n 2, 1) := by decide +kernel
theorem dX9_round_36 : decode cX9_round 36 = .ok (.istore 4, 2) := by decide +kernel
theorem dX9_round_38 : decode cX9_round 38 = .ok (.iconst 0, 1) := by decide +kernel
theorem dX9_round_39 : decode cX9_round 39 = .ok (.istore 5, 2) := by decide +kernel
theorem dX9_round_41 : decode cX9_round 41 = .ok (.iload 5, 2) := by decide +kernel
theorem dX9_round_43 : decode cX9_round 43 = .ok (.aload_n 0, 1) := by decide +kernel
theorem dX9_round_44 : decode cX9_round 44 = .ok (.getfield 7, 3) := by decide +kernel
theorem dX9_round_47 : decode cX9_round 47 = .ok (.iconst 4, 1) := by decide +kernel
theorem dX9_round_48 : decode cX9_round 48 = .ok (.iaload, 1) := by decide +kernel
theorem dX9_round_49 : decode cX9_round 49 = .ok (.if_icmp .ge 40, 3) := by decide +kernel
theorem dX9_round_52 : decode cX9_round 52 = .ok (.iload 4, 2) := by decide +kernel
theorem dX9_round_54 : decode cX9_round 54 = .ok (.aload_n 0, 1) := by decide +kernel
theorem dX9_round_55 : decode cX9_round 55 = .ok (.iload_n 2, 1) := by decide +kernel
theorem dX9_round_56 : decode cX9_round 56 = .ok (.iload 5, 2) := by decide +kernel
theorem dX9_round_58 : decode cX9_round 58 = .ok (.invokevirtual 139, 3) := by decide +kernel
theorem dX9_round_61 : decode cX9_round 61 = .ok (.ifCond .eq 18, 3) := by decide +kernel
theorem dX9_round_64 : decode cX9_round 64 = .ok (.iconst 1, 1) := by decide +kernel
theorem dX9_round_65 : decode cX9_round 65 = .ok (.aload_n 0, 1) := by decide +kernel
theorem dX9_round_66 : decode cX9_round 66 = .ok (.getfield 7, 3) := by decide +kernel
theorem dX9_round_69 : decode cX9_round 69 = .ok (.bipush 25, 2) := by decide +kernel
theorem dX9_round_71 : decode cX9_round 71 = .ok (.iload 5, 2) := by decide +kernel
theorem dX9_round_73 : decode cX9_round 73 = .ok (.iadd, 1) := by decide +kernel
theorem dX9_round_74 : decode cX9_round 74 = .ok (.iaload, 1) := by decide +kernel
theorem dX9_round_75 : decode cX9_round 75 = .ok (.ishl, 1) := by decide +kernel
theorem dX9_round_76 : decode cX9_round 76 = .ok (.goto 4, 3) := by decide +kernel
theorem dX9_round_79 : decode cX9_round 79 = .ok (.iconst 0, 1) := by decide +kernel
theorem dX9_round_80 : decode cX9_round 80 = .ok (.ior, 1) := by decide +kernel
theorem dX9_round_81 : decode cX9_round 81 = .ok (.istore 4, 2) := by decide +kernel
theorem dX9_round_83 : decode cX9_round 83 = .ok (.iinc 5 1, 3) := by decide +kernel
theorem dX9_round_86 : decode cX9_round 86 = .ok (.goto (-45), 3) := by decide +kernel
theorem dX9_round_89 : decode cX9_round 89 = .ok (.iload 4, 2) := by decide +kernel
theorem dX9_round_91 : decode cX9_round 91 = .ok (.istore_n 2, 1) := by decide +kernel
theorem dX9_round_92 : decode cX9_round 92 = .ok (.iinc 3 1, 3) := by decide +kernel
theorem dX9_round_95 : decode cX9_round 95 = .ok (.goto (-76), 3) := by decide +kernel
theorem dX9_round_98 : decode cX9_round 98 = .ok (.bipush (-4), 2) := by decide +kernel
theorem dX9_round_100 : decode cX9_round 100 = .ok (.ireturn, 1) := by decide +kernel
theorem dX9_needs_0 : decode cX9_needs 0 = .ok (.aload_n 0, 1) := by decide +kernel
theorem dX9_needs_1 : decode cX9_needs 1 = .ok (.iload_n 1, 1) := by decide +kernel
theorem dX9_needs_2 : decode cX9_needs 2 = .ok (.invokevirtual 106, 3) := by decide +kernel
theorem dX9_needs_5 : decode cX9_needs 5 = .ok (.ifCond .eq 13, 3) := by decide +kernel
theorem dX9_needs_8 : decode cX9_needs 8 = .ok (.iload_n 2, 1) := by decide +kernel
theorem dX9_needs_9 : decode cX9_needs 9 = .ok (.i2l, 1) := by decide +kernel
theorem dX9_needs_10 : decode cX9_needs 10 = .ok (.lconst 0, 1) := by decide +kernel
theorem dX9_needs_11 : decode cX9_needs 11 = .ok (.lconst 1, 1) := by decide +kernel
theorem dX9_needs_12 : decode cX9_needs 12 = .ok (.invokestatic 43, 3) := by decide +kernel
theorem dX9_needs_15 : decode cX9_needs 15 = .ok (.ifCond .ne 5, 3) := by decide +kernel
theorem dX9_needs_18 : decode cX9_needs 18 = .ok (.iconst (-1), 1) := by decide +kernel
theorem dX9_needs_19 : decode cX9_needs 19 = .ok (.ireturn, 1) := by decide +kernel
theorem dX9_needs_20 : decode cX9_needs 20 = .ok (.aload_n 0, 1) := by decide +kernel
theorem dX9_needs_21 : decode cX9_needs 21 = .ok (.invokevirtual 151, 3) := by decide +kernel
theorem dX9_needs_24 : decode cX9_needs 24 = .ok (.istore_n 3, 1) := by decide +kernel
theorem dX9_needs_25 : decode cX9_needs 25 = .ok (.aload_n 0, 1) := by decide +kernel
theorem dX9_needs_26 : decode cX9_needs 26 = .ok (.iload_n 3, 1) := by decide +kernel
theorem dX9_needs_27 : decode cX9_needs 27 = .ok (.invokevirtual 136, 3) := by decide +kernel
theorem dX9_needs_30 : decode cX9_needs 30 = .ok (.iload_n 1, 1) := by decide +kernel
theorem dX9_needs_31 : decode cX9_needs 31 = .ok (.invokestatic 102, 3) := by decide +kernel
theorem dX9_needs_34 : decode cX9_needs 34 = .ok (.ifCond .ne 6, 3) := by decide +kernel
theorem dX9_needs_37 : decode cX9_needs 37 = .ok (.bipush (-4), 2) := by decide +kernel
theorem dX9_needs_39 : decode cX9_needs 39 = .ok (.ireturn, 1) := by decide +kernel
theorem dX9_needs_40 : decode cX9_needs 40 = .ok (.iconst 0, 1) := by decide +kernel
theorem dX9_needs_41 : decode cX9_needs 41 = .ok (.istore 4, 2) := by decide +kernel
theorem dX9_needs_43 : decode cX9_needs 43 = .ok (.iload_n 3, 1) := by decide +kernel
theorem dX9_needs_44 : decode cX9_needs 44 = .ok (.istore 5, 2) := by decide +kernel
theorem dX9_needs_46 : decode cX9_needs 46 = .ok (.iload_n 3, 1) := by decide +kernel
theorem dX9_needs_47 : decode cX9_needs 47 = .ok (.istore 6, 2) := by decide +kernel
theorem dX9_needs_49 : decode cX9_needs 49 = .ok (.iload 6, 2) := by decide +kernel
theorem dX9_needs_51 : decode cX9_needs 51 = .ok (.ifCond .lt 65, 3) := by decide +kernel
theorem dX9_needs_54 : decode cX9_needs 54 = .ok (.iload 6, 2) := by decide +kernel
theorem dX9_needs_56 : decode cX9_needs 56 = .ok (.iload_n 3, 1) := by decide +kernel
theorem dX9_needs_57 : decode cX9_needs 57 = .ok (.iconst (-1), 1) := by decide +kernel
theorem dX9_needs_58 : decode cX9_needs 58 = .ok (.ixor, 1) := by decide +kernel
theorem dX9_needs_59 : decode cX9_needs 59 = .ok (.iand, 1) := by decide +kernel
theorem dX9_needs_60 : decode cX9_needs 60 = .ok (.ifCond .ne 20, 3) := by decide +kernel
theorem dX9_needs_63 : decode cX9_needs 63 = .ok (.aload_n 0, 1) := by decide +kernel
theorem dX9_needs_64 : decode cX9_needs 64 = .ok (.iload 6, 2) := by decide +kernel
theorem dX9_needs_66 : decode cX9_needs 66 = .ok (.invokevirtual 136, 3) := by decide +kernel
theorem dX9_needs_69 : decode cX9_needs 69 = .ok (.iload_n 1, 1) := by decide +kernel
theorem dX9_needs_70 : decode cX9_needs 70 = .ok (.invokestatic 102, 3) := by decide +kernel
theorem dX9_needs_73 : decode cX9_needs 73 = .ok (.ifCond .eq 7, 3) := by decide +kernel
theorem dX9_needs_76 : decode cX9_needs 76 = .ok (.iconst 1, 1) := by decide +kernel
theorem dX9_needs_77 : decode cX9_needs 77 = .ok (.goto 4, 3) := by decide +kernel
theorem dX9_needs_80 : decode cX9_needs 80 = .ok (.iconst 0, 1) := by decide +kernel
theorem dX9_needs_81 : decode cX9_needs 81 = .ok (.istore 7, 2) := by decide +kernel
theorem dX9_needs_83 : decode cX9_needs 83 = .ok (.iload 7, 2) := by decide +kernel
theorem dX9_needs_85 : decode cX9_needs 85 = .ok (.ifCond .eq 21, 3) := by decide +kernel
theorem dX9_needs_88 : decode cX9_needs 88 = .ok (.iload 6, 2) := by decide +kernel
theorem dX9_needs_90 : decode cX9_needs 90 = .ok (.invokestatic 122, 3) := by decide +kernel
theorem dX9_needs_93 : decode cX9_needs 93 = .ok (.iload 5, 2) := by decide +kernel
theorem dX9_needs_95 : decode cX9_needs 95 = .ok (.invokestatic 122, 3) := by decide +kernel
theorem dX9_needs_98 : decode cX9_needs 98 = .ok (.if_icmp .gt 8, 3) := by decide +kernel
theorem dX9_needs_101 : decode cX9_needs 101 = .ok (.iload 6, 2) := by decide +kernel
theorem dX9_needs_103 : decode cX9_needs 103 = .ok (.goto 5, 3) := by decide +kernel
theorem dX9_needs_106 : decode cX9_needs 106 = .ok (.iload 5, 2) := by decide +kernel
theorem dX9_needs_108 : decode cX9_needs 108 = .ok (.istore 5, 2) := by decide +kernel
theorem dX9_needs_110 : decode cX9_needs 110 = .ok (.iinc 6 (-1), 3) := by decide +kernel
theorem dX9_needs_113 : decode cX9_needs 113 = .ok (.goto (-64), 3) := by decide +kernel
theorem dX9_needs_116 : decode cX9_needs 116 = .ok (.iconst 0, 1) := by decide +kernel
theorem dX9_needs_117 : decode cX9_needs 117 = .ok (.istore 6, 2) := by decide +kernel
theorem dX9_needs_119 : decode cX9_needs 119 = .ok (.iload 6, 2) := by decide +kernel
theorem dX9_needs_121 : decode cX9_needs 121 = .ok (.aload_n 0, 1) := by decide +kernel
theorem dX9_needs_122 : decode cX9_needs 122 = .ok (.getfield 7, 3) := by decide +kernel
theorem dX9_needs_125 : decode cX9_needs 125 = .ok (.iconst 0, 1) := by decide +kernel
theorem dX9_needs_126 : decode cX9_needs 126 = .ok (.iaload, 1) := by decide +kernel
theorem dX9_needs_127 : decode cX9_needs 127 = .ok (.if_icmp .ge 50, 3) := by decide +kernel
theorem dX9_needs_130 : decode cX9_needs 130 = .ok (.iload 4, 2) := by decide +kernel
theorem dX9_needs_132 : decode cX9_needs 132 = .ok (.iload_n 3, 1) := by decide +kernel
theorem dX9_needs_133 : decode cX9_needs 133 = .ok (.iload 6, 2) := by decide +kernel
theorem dX9_needs_135 : decode cX9_needs 135 = .ok (.invokestatic 102, 3) := by decide +kernel
theorem dX9_needs_138 : decode cX9_needs 138 = .ok (.ifCond .eq 29, 3) := by decide +kernel
theorem dX9_needs_141 : decode cX9_needs 141 = .ok (.aload_n 0, 1) := by decide +kernel
theorem dX9_needs_142 : decode cX9_needs 142 = .ok (.iload_n 3, 1) := by decide +kernel
theorem dX9_needs_143 : decode cX9_needs 143 = .ok (.iconst 1, 1) := by decide +kernel
theorem dX9_needs_144 : decode cX9_needs 144 = .ok (.iload 6, 2) := by decide +kernel
theorem dX9_needs_146 : decode cX9_needs 146 = .ok (.ishl, 1) := by decide +kernel
theorem dX9_needs_147 : decode cX9_needs 147 = .ok (.iconst (-1), 1) := by decide +kernel
theorem dX9_needs_148 : decode cX9_needs 148 = .ok (.ixor, 1) := by decide +kernel
theorem dX9_needs_149 : decode cX9_needs 149 = .ok (.iand, 1) := by decide +kernel
theorem dX9_needs_150 : decode cX9_needs 150 = .ok (.invokevirtual 136, 3) := by decide +kernel
theorem dX9_needs_153 : decode cX9_needs 153 = .ok (.iload_n 1, 1) := by decide +kernel
theorem dX9_needs_154 : decode cX9_needs 154 = .ok (.invokestatic 102, 3) := by decide +kernel
theorem dX9_needs_157 : decode cX9_needs 157 = .ok (.ifCond .ne 10, 3) := by decide +kernel
theorem dX9_needs_160 : decode cX9_needs 160 = .ok (.iconst 1, 1) := by decide +kernel
theorem dX9_needs_161 : decode cX9_needs 161 = .ok (.iload 6, 2) := by decide +kernel
theorem dX9_needs_163 : decode cX9_needs 163 = .ok (.ishl, 1) := by decide +kernel
theorem dX9_needs_164 : decode cX9_needs 164 = .ok (.goto 4, 3) := by decide +kernel
theorem dX9_needs_167 : decode cX9_needs 167 = .ok (.iconst 0, 1) := by decide +kernel
theorem dX9_needs_168 : decode cX9_needs 168 = .ok (.ior, 1) := by decide +kernel
theorem dX9_needs_169 : decode cX9_needs 169 = .ok (.istore 4, 2) := by decide +kernel
theorem dX9_needs_171 : decode cX9_needs 171 = .ok (.iinc 6 1, 3) := by decide +kernel
theorem dX9_needs_174 : decode cX9_needs 174 = .ok (.goto (-55), 3) := by decide +kernel
theorem dX9_needs_177 : decode cX9_needs 177 = .ok (.iload_n 2, 1) := by decide +kernel
theorem dX9_needs_178 : decode cX9_needs 178 = .ok (.ifCond .ne 8, 3) := by decide +kernel
theorem dX9_needs_181 : decode cX9_needs 181 = .ok (.iload 4, 2) := by decide +kernel
theorem dX9_needs_183 : decode cX9_needs 183 = .ok (.goto 5, 3) := by decide +kernel
theorem dX9_needs_186 : decode cX9_needs 186 = .ok (.iload 5, 2) := by decide +kernel
theorem dX9_needs_188 : decode cX9_needs 188 = .ok (.ireturn, 1) := by decide +kernel
theorem dX9_lost_0 : decode cX9_lost 0 = .ok (.aload_n 0, 1) := by decide +kernel
theorem dX9_lost_1 : decode cX9_lost 1 = .ok (.iload_n 1, 1) := by decide +kernel
theorem dX9_lost_2 : decode cX9_lost 2 = .ok (.invokevirtual 106, 3) := by decide +kernel
theorem dX9_lost_5 : decode cX9_lost 5 = .ok (.ifCond .ne 5, 3) := by decide +kernel
theorem dX9_lost_8 : decode cX9_lost 8 = .ok (.iconst (-1), 1) := by decide +kernel
theorem dX9_lost_9 : decode cX9_lost 9 = .ok (.ireturn, 1) := by decide +kernel
theorem dX9_lost_10 : decode cX9_lost 10 = .ok (.aload_n 0, 1) := by decide +kernel
theorem dX9_lost_11 : decode cX9_lost 11 = .ok (.getfield 7, 3) := by decide +kernel
theorem dX9_lost_14 : decode cX9_lost 14 = .ok (.iconst 2, 1) := by decide +kernel
theorem dX9_lost_15 : decode cX9_lost 15 = .ok (.iaload, 1) := by decide +kernel
theorem dX9_lost_16 : decode cX9_lost 16 = .ok (.iload_n 1, 1) := by decide +kernel
theorem dX9_lost_17 : decode cX9_lost 17 = .ok (.invokestatic 102, 3) := by decide +kernel
theorem dX9_lost_20 : decode cX9_lost 20 = .ok (.ifCond .ne 6, 3) := by decide +kernel
theorem dX9_lost_23 : decode cX9_lost 23 = .ok (.bipush (-2), 2) := by decide +kernel
theorem dX9_lost_25 : decode cX9_lost 25 = .ok (.ireturn, 1) := by decide +kernel
theorem dX9_lost_26 : decode cX9_lost 26 = .ok (.aload_n 0, 1) := by decide +kernel
theorem dX9_lost_27 : decode cX9_lost 27 = .ok (.aload_n 0, 1) := by decide +kernel
theorem dX9_lost_28 : decode cX9_lost 28 = .ok (.invokevirtual 151, 3) := by decide +kernel
theorem dX9_lost_31 : decode cX9_lost 31 = .ok (.invokevirtual 136, 3) := by decide +kernel
theorem dX9_lost_34 : decode cX9_lost 34 = .ok (.istore_n 2, 1) := by decide +kernel
theorem dX9_lost_35 : decode cX9_lost 35 = .ok (.aload_n 0, 1) := by decide +kernel
theorem dX9_lost_36 : decode cX9_lost 36 = .ok (.aload_n 0, 1) := by decide +kernel
theorem dX9_lost_37 : decode cX9_lost 37 = .ok (.invokevirtual 151, 3) := by decide +kernel
theorem dX9_lost_40 : decode cX9_lost 40 = .ok (.iconst 1, 1) := by decide +kernel
theorem dX9_lost_41 : decode cX9_lost 41 = .ok (.iload_n 1, 1) := by decide +kernel
theorem dX9_lost_42 : decode cX9_lost 42 = .ok (.ishl, 1) := by decide +kernel
theorem dX9_lost_43 : decode cX9_lost 43 = .ok (.iconst (-1), 1) := by decide +kernel
theorem dX9_lost_44 : decode cX9_lost 44 = .ok (.ixor, 1) := by decide +kernel
theorem dX9_lost_45 : decode cX9_lost 45 = .ok (.iand, 1) := by decide +kernel
theorem dX9_lost_46 : decode cX9_lost 46 = .ok (.aload_n 0, 1) := by decide +kernel
theorem dX9_lost_47 : decode cX9_lost 47 = .ok (.invokevirtual 126, 3) := by decide +kernel
theorem dX9_lost_50 : decode cX9_lost 50 = .ok (.aload_n 0, 1) := by decide +kernel
theorem dX9_lost_51 : decode cX9_lost 51 = .ok (.getfield 7, 3) := by decide +kernel
theorem dX9_lost_54 : decode cX9_lost 54 = .ok (.iconst 2, 1) := by decide +kernel
theorem dX9_lost_55 : decode cX9_lost 55 = .ok (.iaload, 1) := by decide +kernel
theorem dX9_lost_56 : decode cX9_lost 56 = .ok (.iconst 1, 1) := by decide +kernel
theorem dX9_lost_57 : decode cX9_lost 57 = .ok (.iload_n 1, 1) := by decide +kernel
theorem dX9_lost_58 : decode cX9_lost 58 = .ok (.ishl, 1) := by decide +kernel
theorem dX9_lost_59 : decode cX9_lost 59 = .ok (.iconst (-1), 1) := by decide +kernel
theorem dX9_lost_60 : decode cX9_lost 60 = .ok (.ixor, 1) := by decide +kernel
theorem dX9_lost_61 : decode cX9_lost 61 = .ok (.iand, 1) := by decide +kernel
theorem dX9_lost_62 : decode cX9_lost 62 = .ok (.invokevirtual 129, 3) := by decide +kernel
theorem dX9_lost_65 : decode cX9_lost 65 = .ok (.istore_n 3, 1) := by decide +kernel
theorem dX9_lost_66 : decode cX9_lost 66 = .ok (.iload_n 2, 1) := by decide +kernel
theorem dX9_lost_67 : decode cX9_lost 67 = .ok (.iload_n 3, 1) := by decide +kernel
theorem dX9_lost_68 : decode cX9_lost 68 = .ok (.iconst (-1), 1) := by decide +kernel
theorem dX9_lost_69 : decode cX9_lost 69 = .ok (.ixor, 1) := by decide +kernel
theorem dX9_lost_70 : decode cX9_lost 70 = .ok (.iand, 1) := by decide +kernel
theorem dX9_lost_71 : decode cX9_lost 71 = .ok (.iconst 1, 1) := by decide +kernel
theorem dX9_lost_72 : decode cX9_lost 72 = .ok (.iload_n 1, 1) := by decide +kernel
theorem dX9_lost_73 : decode cX9_lost 73 = .ok (.ishl, 1) := by decide +kernel
theorem dX9_lost_74 : decode cX9_lost 74 = .ok (.iconst (-1), 1) := by decide +kernel
theorem dX9_lost_75 : decode cX9_lost 75 = .ok (.ixor, 1) := by decide +kernel
theorem dX9_lost_76 : decode cX9_lost 76 = .ok (.iand, 1) := by decide +kernel
theorem dX9_lost_77 : decode cX9_lost 77 = .ok (.ireturn, 1) := by decide +kernel
theorem dX9_begins_0 : decode cX9_begins 0 = .ok (.bipush (-4), 2) := by decide +kernel
theorem dX9_begins_2 : decode cX9_begins 2 = .ok (.istore_n 2, 1) := by decide +kernel
theorem dX9_begins_3 : decode cX9_begins 3 = .ok (.iconst 0, 1) := by decide +kernel
theorem dX9_begins_4 : decode cX9_begins 4 = .ok (.istore_n 3, 1) := by decide +kernel
theorem dX9_begins_5 : decode cX9_begins 5 = .ok (.iload_n 3, 1) := by decide +kernel
theorem dX9_begins_6 : decode cX9_begins 6 = .ok (.iconst 1, 1) := by decide +kernel
theorem dX9_begins_7 : decode cX9_begins 7 = .ok (.aload_n 0, 1) := by decide +kernel
theorem dX9_begins_8 : decode cX9_begins 8 = .ok (.getfield 7, 3) := by decide +kernel
theorem dX9_begins_11 : decode cX9_begins 11 = .ok (.iconst 0, 1) := by decide +kernel
theorem dX9_begins_12 : decode cX9_begins 12 = .ok (.iaload, 1) := by decide +kernel
theorem dX9_begins_13 : decode cX9_begins 13 = .ok (.ishl, 1) := by decide +kernel
theorem dX9_begins_14 : decode cX9_begins 14 = .ok (.if_icmp .ge 82, 3) := by decide +kernel
theorem dX9_begins_17 : decode cX9_begins 17 = .ok (.iload_n 3, 1) := by decide +kernel
theorem dX9_begins_18 : decode cX9_begins 18 = .ok (.aload_n 0, 1) := by decide +kernel
theorem dX9_begins_19 : decode cX9_begins 19 = .ok (.getfield 7, 3) := by decide +kernel
theorem dX9_begins_22 : decode cX9_begins 22 = .ok (.iconst 2, 1) := by decide +kernel
theorem dX9_begins_23 : decode cX9_begins 23 = .ok (.iaload, 1) := by decide +kernel
theorem dX9_begins_24 : decode cX9_begins 24 = .ok (.iconst (-1), 1) := by decide +kernel
theorem dX9_begins_25 : decode cX9_begins 25 = .ok (.ixor, 1) := by decide +kernel
theorem dX9_begins_26 : decode cX9_begins 26 = .ok (.iand, 1) := by decide +kernel
theorem dX9_begins_27 : decode cX9_begins 27 = .ok (.ifCond .ne 32, 3) := by decide +kernel
theorem dX9_begins_30 : decode cX9_begins 30 = .ok (.iload_n 3, 1) := by decide +kernel
theorem dX9_begins_31 : decode cX9_begins 31 = .ok (.iload_n 1, 1) := by decide +kernel
theorem dX9_begins_32 : decode cX9_begins 32 = .ok (.invokestatic 102, 3) := by decide +kernel
theorem dX9_begins_35 : decode cX9_begins 35 = .ok (.ifCond .ne 24, 3) := by decide +kernel
theorem dX9_begins_38 : decode cX9_begins 38 = .ok (.iload_n 2, 1) := by decide +kernel
theorem dX9_begins_39 : decode cX9_begins 39 = .ok (.bipush (-4), 2) := by decide +kernel
theorem dX9_begins_41 : decode cX9_begins 41 = .ok (.if_icmp .eq 14, 3) := by decide +kernel
theorem dX9_begins_44 : decode cX9_begins 44 = .ok (.iload_n 3, 1) := by decide +kernel
theorem dX9_begins_45 : decode cX9_begins 45 = .ok (.invokestatic 122, 3) := by decide +kernel
theorem dX9_begins_48 : decode cX9_begins 48 = .ok (.iload_n 2, 1) := by decide +kernel
theorem dX9_begins_49 : decode cX9_begins 49 = .ok (.invokestatic 122, 3) := by decide +kernel
theorem dX9_begins_52 : decode cX9_begins 52 = .ok (.if_icmp .ge 7, 3) := by decide +kernel
theorem dX9_begins_55 : decode cX9_begins 55 = .ok (.iconst 1, 1) := by decide +kernel
theorem dX9_begins_56 : decode cX9_begins 56 = .ok (.goto 4, 3) := by decide +kernel
theorem dX9_begins_59 : decode cX9_begins 59 = .ok (.iconst 0, 1) := by decide +kernel
theorem dX9_begins_60 : decode cX9_begins 60 = .ok (.istore 4, 2) := by decide +kernel
theorem dX9_begins_62 : decode cX9_begins 62 = .ok (.iload 4, 2) := by decide +kernel
theorem dX9_begins_64 : decode cX9_begins 64 = .ok (.ifCond .eq 24, 3) := by decide +kernel
theorem dX9_begins_67 : decode cX9_begins 67 = .ok (.aload_n 0, 1) := by decide +kernel
theorem dX9_begins_68 : decode cX9_begins 68 = .ok (.aload_n 0, 1) := by decide +kernel
theorem dX9_begins_69 : decode cX9_begins 69 = .ok (.invokevirtual 151, 3) := by decide +kernel
theorem dX9_begins_72 : decode cX9_begins 72 = .ok (.iload_n 3, 1) := by decide +kernel
theorem dX9_begins_73 : decode cX9_begins 73 = .ok (.ior, 1) := by decide +kernel
theorem dX9_begins_74 : decode cX9_begins 74 = .ok (.invokevirtual 136, 3) := by decide +kernel
theorem dX9_begins_77 : decode cX9_begins 77 = .ok (.iload_n 1, 1) := by decide +kernel
theorem dX9_begins_78 : decode cX9_begins 78 = .ok (.invokestatic 102, 3) := by decide +kernel
theorem dX9_begins_81 : decode cX9_begins 81 = .ok (.ifCond .eq 7, 3) := by decide +kernel
theorem dX9_begins_84 : decode cX9_begins 84 = .ok (.iload_n 3, 1) := by decide +kernel
theorem dX9_begins_85 : decode cX9_begins 85 = .ok (.goto 4, 3) := by decide +kernel
theorem dX9_begins_88 : decode cX9_begins 88 = .ok (.iload_n 2, 1) := by decide +kernel
theorem dX9_begins_89 : decode cX9_begins 89 = .ok (.istore_n 2, 1) := by decide +kernel
theorem dX9_begins_90 : decode cX9_begins 90 = .ok (.iinc 3 1, 3) := by decide +kernel
theorem dX9_begins_93 : decode cX9_begins 93 = .ok (.goto (-88), 3) := by decide +kernel
theorem dX9_begins_96 : decode cX9_begins 96 = .ok (.iload_n 2, 1) := by decide +kernel
theorem dX9_begins_97 : decode cX9_begins 97 = .ok (.ireturn, 1) := by decide +kernel
theorem dX9_begin_0 : decode cX9_begin 0 = .ok (.aload_n 0, 1) := by decide +kernel
theorem dX9_begin_1 : decode cX9_begin 1 = .ok (.iload_n 1, 1) := by decide +kernel
theorem dX9_begin_2 : decode cX9_begin 2 = .ok (.invokevirtual 106, 3) := by decide +kernel
theorem dX9_begin_5 : decode cX9_begin 5 = .ok (.ifCond .ne 5, 3) := by decide +kernel
theorem dX9_begin_8 : decode cX9_begin 8 = .ok (.iconst (-1), 1) := by decide +kernel
theorem dX9_begin_9 : decode cX9_begin 9 = .ok (.ireturn, 1) := by decide +kernel
theorem dX9_begin_10 : decode cX9_begin 10 = .ok (.aload_n 0, 1) := by decide +kernel
theorem dX9_begin_11 : decode cX9_begin 11 = .ok (.getfield 7, 3) := by decide +kernel
theorem dX9_begin_14 : decode cX9_begin 14 = .ok (.iconst 2, 1) := by decide +kernel
theorem dX9_begin_15 : decode cX9_begin 15 = .ok (.iaload, 1) := by decide +kernel
theorem dX9_begin_16 : decode cX9_begin 16 = .ok (.iload_n 1, 1) := by decide +kernel
theorem dX9_begin_17 : decode cX9_begin 17 = .ok (.invokestatic 102, 3) := by decide +kernel
theorem dX9_begin_20 : decode cX9_begin 20 = .ok (.ifCond .eq 11, 3) := by decide +kernel
theorem dX9_begin_23 : decode cX9_begin 23 = .ok (.aload_n 0, 1) := by decide +kernel
theorem dX9_begin_24 : decode cX9_begin 24 = .ok (.iload_n 1, 1) := by decide +kernel
theorem dX9_begin_25 : decode cX9_begin 25 = .ok (.invokevirtual 154, 3) := by decide +kernel
theorem dX9_begin_28 : decode cX9_begin 28 = .ok (.goto 5, 3) := by decide +kernel
theorem dX9_begin_31 : decode cX9_begin 31 = .ok (.bipush (-2), 2) := by decide +kernel
theorem dX9_begin_33 : decode cX9_begin 33 = .ok (.ireturn, 1) := by decide +kernel
theorem dX9_isHall_0 : decode cX9_isHall 0 = .ok (.aload_n 0, 1) := by decide +kernel
theorem dX9_isHall_1 : decode cX9_isHall 1 = .ok (.iload_n 1, 1) := by decide +kernel
theorem dX9_isHall_2 : decode cX9_isHall 2 = .ok (.invokevirtual 136, 3) := by decide +kernel
theorem dX9_isHall_5 : decode cX9_isHall 5 = .ok (.istore_n 2, 1) := by decide +kernel
theorem dX9_isHall_6 : decode cX9_isHall 6 = .ok (.iconst 0, 1) := by decide +kernel
theorem dX9_isHall_7 : decode cX9_isHall 7 = .ok (.istore_n 3, 1) := by decide +kernel
theorem dX9_isHall_8 : decode cX9_isHall 8 = .ok (.iconst 0, 1) := by decide +kernel
theorem dX9_isHall_9 : decode cX9_isHall 9 = .ok (.istore 4, 2) := by decide +kernel
theorem dX9_isHall_11 : decode cX9_isHall 11 = .ok (.iload 4, 2) := by decide +kernel
theorem dX9_isHall_13 : decode cX9_isHall 13 = .ok (.aload_n 0, 1) := by decide +kernel
theorem dX9_isHall_14 : decode cX9_isHall 14 = .ok (.getfield 7, 3) := by decide +kernel
theorem dX9_isHall_17 : decode cX9_isHall 17 = .ok (.iconst 0, 1) := by decide +kernel
theorem dX9_isHall_18 : decode cX9_isHall 18 = .ok (.iaload, 1) := by decide +kernel
theorem dX9_isHall_19 : decode cX9_isHall 19 = .ok (.if_icmp .ge 43, 3) := by decide +kernel
theorem dX9_isHall_22 : decode cX9_isHall 22 = .ok (.iload_n 3, 1) := by decide +kernel
theorem dX9_isHall_23 : decode cX9_isHall 23 = .ok (.ifCond .ne 27, 3) := by decide +kernel
theorem dX9_isHall_26 : decode cX9_isHall 26 = .ok (.iload_n 2, 1) := by decide +kernel
theorem dX9_isHall_27 : decode cX9_isHall 27 = .ok (.iload 4, 2) := by decide +kernel
theorem dX9_isHall_29 : decode cX9_isHall 29 = .ok (.invokestatic 102, 3) := by decide +kernel
theorem dX9_isHall_32 : decode cX9_isHall 32 = .ok (.ifCond .eq 22, 3) := by decide +kernel
theorem dX9_isHall_35 : decode cX9_isHall 35 = .ok (.aload_n 0, 1) := by decide +kernel
theorem dX9_isHall_36 : decode cX9_isHall 36 = .ok (.getfield 7, 3) := by decide +kernel
theorem dX9_isHall_39 : decode cX9_isHall 39 = .ok (.bipush 45, 2) := by decide +kernel
theorem dX9_isHall_41 : decode cX9_isHall 41 = .ok (.iload 4, 2) := by decide +kernel
theorem dX9_isHall_43 : decode cX9_isHall 43 = .ok (.iadd, 1) := by decide +kernel
theorem dX9_isHall_44 : decode cX9_isHall 44 = .ok (.iaload, 1) := by decide +kernel
theorem dX9_isHall_45 : decode cX9_isHall 45 = .ok (.iload_n 2, 1) := by decide +kernel
theorem dX9_isHall_46 : decode cX9_isHall 46 = .ok (.iand, 1) := by decide +kernel
theorem dX9_isHall_47 : decode cX9_isHall 47 = .ok (.ifCond .eq 7, 3) := by decide +kernel
theorem dX9_isHall_50 : decode cX9_isHall 50 = .ok (.iconst 1, 1) := by decide +kernel
theorem dX9_isHall_51 : decode cX9_isHall 51 = .ok (.goto 4, 3) := by decide +kernel
theorem dX9_isHall_54 : decode cX9_isHall 54 = .ok (.iconst 0, 1) := by decide +kernel
theorem dX9_isHall_55 : decode cX9_isHall 55 = .ok (.istore_n 3, 1) := by decide +kernel
theorem dX9_isHall_56 : decode cX9_isHall 56 = .ok (.iinc 4 1, 3) := by decide +kernel
theorem dX9_isHall_59 : decode cX9_isHall 59 = .ok (.goto (-48), 3) := by decide +kernel
theorem dX9_isHall_62 : decode cX9_isHall 62 = .ok (.iload_n 3, 1) := by decide +kernel
theorem dX9_isHall_63 : decode cX9_isHall 63 = .ok (.ireturn, 1) := by decide +kernel
theorem dX9_hall_0 : decode cX9_hall 0 = .ok (.iload_n 1, 1) := by decide +kernel
theorem dX9_hall_1 : decode cX9_hall 1 = .ok (.i2l, 1) := by decide +kernel
theorem dX9_hall_2 : decode cX9_hall 2 = .ok (.lconst 0, 1) := by decide +kernel
theorem dX9_hall_3 : decode cX9_hall 3 = .ok (.lconst 1, 1) := by decide +kernel
theorem dX9_hall_4 : decode cX9_hall 4 = .ok (.invokestatic 43, 3) := by decide +kernel
theorem dX9_hall_7 : decode cX9_hall 7 = .ok (.ifCond .ne 5, 3) := by decide +kernel
theorem dX9_hall_10 : decode cX9_hall 10 = .ok (.iconst (-1), 1) := by decide +kernel
theorem dX9_hall_11 : decode cX9_hall 11 = .ok (.ireturn, 1) := by decide +kernel
theorem dX9_hall_12 : decode cX9_hall 12 = .ok (.bipush (-4), 2) := by decide +kernel
theorem dX9_hall_14 : decode cX9_hall 14 = .ok (.istore_n 2, 1) := by decide +kernel
theorem dX9_hall_15 : decode cX9_hall 15 = .ok (.iconst 0, 1) := by decide +kernel
theorem dX9_hall_16 : decode cX9_hall 16 = .ok (.istore_n 3, 1) := by decide +kernel
theorem dX9_hall_17 : decode cX9_hall 17 = .ok (.iload_n 3, 1) := by decide +kernel
theorem dX9_hall_18 : decode cX9_hall 18 = .ok (.iconst 1, 1) := by decide +kernel
theorem dX9_hall_19 : decode cX9_hall 19 = .ok (.aload_n 0, 1) := by decide +kernel
theorem dX9_hall_20 : decode cX9_hall 20 = .ok (.getfield 7, 3) := by decide +kernel
theorem dX9_hall_23 : decode cX9_hall 23 = .ok (.iconst 0, 1) := by decide +kernel
theorem dX9_hall_24 : decode cX9_hall 24 = .ok (.iaload, 1) := by decide +kernel
theorem dX9_hall_25 : decode cX9_hall 25 = .ok (.ishl, 1) := by decide +kernel
theorem dX9_hall_26 : decode cX9_hall 26 = .ok (.if_icmp .ge 68, 3) := by decide +kernel
theorem dX9_hall_29 : decode cX9_hall 29 = .ok (.iload_n 1, 1) := by decide +kernel
theorem dX9_hall_30 : decode cX9_hall 30 = .ok (.iconst 1, 1) := by decide +kernel
theorem dX9_hall_31 : decode cX9_hall 31 = .ok (.if_icmp .ne 63, 3) := by decide +kernel
theorem dX9_hall_34 : decode cX9_hall 34 = .ok (.iload_n 3, 1) := by decide +kernel
theorem dX9_hall_35 : decode cX9_hall 35 = .ok (.aload_n 0, 1) := by decide +kernel
theorem dX9_hall_36 : decode cX9_hall 36 = .ok (.invokevirtual 151, 3) := by decide +kernel
theorem dX9_hall_39 : decode cX9_hall 39 = .ok (.iconst (-1), 1) := by decide +kernel
theorem dX9_hall_40 : decode cX9_hall 40 = .ok (.ixor, 1) := by decide +kernel
theorem dX9_hall_41 : decode cX9_hall 41 = .ok (.iand, 1) := by decide +kernel
theorem dX9_hall_42 : decode cX9_hall 42 = .ok (.ifCond .ne 24, 3) := by decide +kernel
theorem dX9_hall_45 : decode cX9_hall 45 = .ok (.iload_n 2, 1) := by decide +kernel
theorem dX9_hall_46 : decode cX9_hall 46 = .ok (.bipush (-4), 2) := by decide +kernel
theorem dX9_hall_48 : decode cX9_hall 48 = .ok (.if_icmp .eq 14, 3) := by decide +kernel
theorem dX9_hall_51 : decode cX9_hall 51 = .ok (.iload_n 3, 1) := by decide +kernel
theorem dX9_hall_52 : decode cX9_hall 52 = .ok (.invokestatic 122, 3) := by decide +kernel
theorem dX9_hall_55 : decode cX9_hall 55 = .ok (.iload_n 2, 1) := by decide +kernel
theorem dX9_hall_56 : decode cX9_hall 56 = .ok (.invokestatic 122, 3) := by decide +kernel
theorem dX9_hall_59 : decode cX9_hall 59 = .ok (.if_icmp .ge 7, 3) := by decide +kernel
theorem dX9_hall_62 : decode cX9_hall 62 = .ok (.iconst 1, 1) := by decide +kernel
theorem dX9_hall_63 : decode cX9_hall 63 = .ok (.goto 4, 3) := by decide +kernel
theorem dX9_hall_66 : decode cX9_hall 66 = .ok (.iconst 0, 1) := by decide +kernel
theorem dX9_hall_67 : decode cX9_hall 67 = .ok (.istore 4, 2) := by decide +kernel
theorem dX9_hall_69 : decode cX9_hall 69 = .ok (.iload 4, 2) := by decide +kernel
theorem dX9_hall_71 : decode cX9_hall 71 = .ok (.ifCond .eq 15, 3) := by decide +kernel
theorem dX9_hall_74 : decode cX9_hall 74 = .ok (.aload_n 0, 1) := by decide +kernel
theorem dX9_hall_75 : decode cX9_hall 75 = .ok (.iload_n 3, 1) := by decide +kernel
theorem dX9_hall_76 : decode cX9_hall 76 = .ok (.invokevirtual 157, 3) := by decide +kernel
theorem dX9_hall_79 : decode cX9_hall 79 = .ok (.ifCond .eq 7, 3) := by decide +kernel
theorem dX9_hall_82 : decode cX9_hall 82 = .ok (.iload_n 3, 1) := by decide +kernel
theorem dX9_hall_83 : decode cX9_hall 83 = .ok (.goto 4, 3) := by decide +kernel
theorem dX9_hall_86 : decode cX9_hall 86 = .ok (.iload_n 2, 1) := by decide +kernel
theorem dX9_hall_87 : decode cX9_hall 87 = .ok (.istore_n 2, 1) := by decide +kernel
theorem dX9_hall_88 : decode cX9_hall 88 = .ok (.iinc 3 1, 3) := by decide +kernel
theorem dX9_hall_91 : decode cX9_hall 91 = .ok (.goto (-74), 3) := by decide +kernel
theorem dX9_hall_94 : decode cX9_hall 94 = .ok (.iload_n 1, 1) := by decide +kernel
theorem dX9_hall_95 : decode cX9_hall 95 = .ok (.iconst 1, 1) := by decide +kernel
theorem dX9_hall_96 : decode cX9_hall 96 = .ok (.if_icmp .ne 7, 3) := by decide +kernel
theorem dX9_hall_99 : decode cX9_hall 99 = .ok (.iload_n 2, 1) := by decide +kernel
theorem dX9_hall_100 : decode cX9_hall 100 = .ok (.goto 19, 3) := by decide +kernel
theorem dX9_hall_103 : decode cX9_hall 103 = .ok (.aload_n 0, 1) := by decide +kernel
theorem dX9_hall_104 : decode cX9_hall 104 = .ok (.aload_n 0, 1) := by decide +kernel
theorem dX9_hall_105 : decode cX9_hall 105 = .ok (.invokevirtual 151, 3) := by decide +kernel
theorem dX9_hall_108 : decode cX9_hall 108 = .ok (.invokevirtual 157, 3) := by decide +kernel
theorem dX9_hall_111 : decode cX9_hall 111 = .ok (.ifCond .eq 7, 3) := by decide +kernel
theorem dX9_hall_114 : decode cX9_hall 114 = .ok (.iconst 1, 1) := by decide +kernel
theorem dX9_hall_115 : decode cX9_hall 115 = .ok (.goto 4, 3) := by decide +kernel
theorem dX9_hall_118 : decode cX9_hall 118 = .ok (.iconst 0, 1) := by decide +kernel
theorem dX9_hall_119 : decode cX9_hall 119 = .ok (.ireturn, 1) := by decide +kernel
theorem dX9_rope_0 : decode cX9_rope 0 = .ok (.aload_n 0, 1) := by decide +kernel
theorem dX9_rope_1 : decode cX9_rope 1 = .ok (.invokevirtual 151, 3) := by decide +kernel
theorem dX9_rope_4 : decode cX9_rope 4 = .ok (.istore_n 1, 1) := by decide +kernel
theorem dX9_rope_5 : decode cX9_rope 5 = .ok (.aload_n 0, 1) := by decide +kernel
theorem dX9_rope_6 : decode cX9_rope 6 = .ok (.invokevirtual 151, 3) := by decide +kernel
theorem dX9_rope_9 : decode cX9_rope 9 = .ok (.istore_n 2, 1) := by decide +kernel
theorem dX9_rope_10 : decode cX9_rope 10 = .ok (.iload_n 2, 1) := by decide +kernel
theorem dX9_rope_11 : decode cX9_rope 11 = .ok (.ifCond .lt 62, 3) := by decide +kernel
theorem dX9_rope_14 : decode cX9_rope 14 = .ok (.iload_n 2, 1) := by decide +kernel
theorem dX9_rope_15 : decode cX9_rope 15 = .ok (.aload_n 0, 1) := by decide +kernel
theorem dX9_rope_16 : decode cX9_rope 16 = .ok (.invokevirtual 151, 3) := by decide +kernel
theorem dX9_rope_19 : decode cX9_rope 19 = .ok (.iconst (-1), 1) := by decide +kernel
theorem dX9_rope_20 : decode cX9_rope 20 = .ok (.ixor, 1) := by decide +kernel
theorem dX9_rope_21 : decode cX9_rope 21 = .ok (.iand, 1) := by decide +kernel
theorem dX9_rope_22 : decode cX9_rope 22 = .ok (.ifCond .ne 18, 3) := by decide +kernel
theorem dX9_rope_25 : decode cX9_rope 25 = .ok (.iload_n 2, 1) := by decide +kernel
theorem dX9_rope_26 : decode cX9_rope 26 = .ok (.invokestatic 122, 3) := by decide +kernel
theorem dX9_rope_29 : decode cX9_rope 29 = .ok (.iload_n 1, 1) := by decide +kernel
theorem dX9_rope_30 : decode cX9_rope 30 = .ok (.invokestatic 122, 3) := by decide +kernel
theorem dX9_rope_33 : decode cX9_rope 33 = .ok (.if_icmp .gt 7, 3) := by decide +kernel
theorem dX9_rope_36 : decode cX9_rope 36 = .ok (.iconst 1, 1) := by decide +kernel
theorem dX9_rope_37 : decode cX9_rope 37 = .ok (.goto 4, 3) := by decide +kernel
theorem dX9_rope_40 : decode cX9_rope 40 = .ok (.iconst 0, 1) := by decide +kernel
theorem dX9_rope_41 : decode cX9_rope 41 = .ok (.istore_n 3, 1) := by decide +kernel
theorem dX9_rope_42 : decode cX9_rope 42 = .ok (.iload_n 3, 1) := by decide +kernel
theorem dX9_rope_43 : decode cX9_rope 43 = .ok (.ifCond .eq 22, 3) := by decide +kernel
theorem dX9_rope_46 : decode cX9_rope 46 = .ok (.aload_n 0, 1) := by decide +kernel
theorem dX9_rope_47 : decode cX9_rope 47 = .ok (.aload_n 0, 1) := by decide +kernel
theorem dX9_rope_48 : decode cX9_rope 48 = .ok (.invokevirtual 151, 3) := by decide +kernel
theorem dX9_rope_51 : decode cX9_rope 51 = .ok (.iload_n 2, 1) := by decide +kernel
theorem dX9_rope_52 : decode cX9_rope 52 = .ok (.iconst (-1), 1) := by decide +kernel
theorem dX9_rope_53 : decode cX9_rope 53 = .ok (.ixor, 1) := by decide +kernel
theorem dX9_rope_54 : decode cX9_rope 54 = .ok (.iand, 1) := by decide +kernel
theorem dX9_rope_55 : decode cX9_rope 55 = .ok (.invokevirtual 157, 3) := by decide +kernel
theorem dX9_rope_58 : decode cX9_rope 58 = .ok (.ifCond .ne 7, 3) := by decide +kernel
theorem dX9_rope_61 : decode cX9_rope 61 = .ok (.iload_n 2, 1) := by decide +kernel
theorem dX9_rope_62 : decode cX9_rope 62 = .ok (.goto 4, 3) := by decide +kernel
theorem dX9_rope_65 : decode cX9_rope 65 = .ok (.iload_n 1, 1) := by decide +kernel
theorem dX9_rope_66 : decode cX9_rope 66 = .ok (.istore_n 1, 1) := by decide +kernel
theorem dX9_rope_67 : decode cX9_rope 67 = .ok (.iinc 2 (-1), 3) := by decide +kernel
theorem dX9_rope_70 : decode cX9_rope 70 = .ok (.goto (-60), 3) := by decide +kernel
theorem dX9_rope_73 : decode cX9_rope 73 = .ok (.iload_n 1, 1) := by decide +kernel
theorem dX9_rope_74 : decode cX9_rope 74 = .ok (.ireturn, 1) := by decide +kernel
theorem dX9_idle_0 : decode cX9_idle 0 = .ok (.iconst 0, 1) := by decide +kernel
theorem dX9_idle_1 : decode cX9_idle 1 = .ok (.istore_n 1, 1) := by decide +kernel
theorem dX9_idle_2 : decode cX9_idle 2 = .ok (.iconst 0, 1) := by decide +kernel
theorem dX9_idle_3 : decode cX9_idle 3 = .ok (.istore_n 2, 1) := by decide +kernel
theorem dX9_idle_4 : decode cX9_idle 4 = .ok (.iload_n 2, 1) := by decide +kernel
theorem dX9_idle_5 : decode cX9_idle 5 = .ok (.aload_n 0, 1) := by decide +kernel
theorem dX9_idle_6 : decode cX9_idle 6 = .ok (.getfield 7, 3) := by decide +kernel
theorem dX9_idle_9 : decode cX9_idle 9 = .ok (.iconst 4, 1) := by decide +kernel
theorem dX9_idle_10 : decode cX9_idle 10 = .ok (.iaload, 1) := by decide +kernel
theorem dX9_idle_11 : decode cX9_idle 11 = .ok (.if_icmp .ge 82, 3) := by decide +kernel
theorem dX9_idle_14 : decode cX9_idle 14 = .ok (.aload_n 0, 1) := by decide +kernel
theorem dX9_idle_15 : decode cX9_idle 15 = .ok (.iconst 1, 1) := by decide +kernel
theorem dX9_idle_16 : decode cX9_idle 16 = .ok (.aload_n 0, 1) := by decide +kernel
theorem dX9_idle_17 : decode cX9_idle 17 = .ok (.getfield 7, 3) := by decide +kernel
theorem dX9_idle_20 : decode cX9_idle 20 = .ok (.iconst 5, 1) := by decide +kernel
theorem dX9_idle_21 : decode cX9_idle 21 = .ok (.iload_n 2, 1) := by decide +kernel
theorem dX9_idle_22 : decode cX9_idle 22 = .ok (.iadd, 1) := by decide +kernel
theorem dX9_idle_23 : decode cX9_idle 23 = .ok (.iaload, 1) := by decide +kernel
theorem dX9_idle_24 : decode cX9_idle 24 = .ok (.ishl, 1) := by decide +kernel
theorem dX9_idle_25 : decode cX9_idle 25 = .ok (.iconst 1, 1) := by decide +kernel
theorem dX9_idle_26 : decode cX9_idle 26 = .ok (.aload_n 0, 1) := by decide +kernel
theorem dX9_idle_27 : decode cX9_idle 27 = .ok (.getfield 7, 3) := by decide +kernel
theorem dX9_idle_30 : decode cX9_idle 30 = .ok (.bipush 15, 2) := by decide +kernel
theorem dX9_idle_32 : decode cX9_idle 32 = .ok (.iload_n 2, 1) := by decide +kernel
theorem dX9_idle_33 : decode cX9_idle 33 = .ok (.iadd, 1) := by decide +kernel
theorem dX9_idle_34 : decode cX9_idle 34 = .ok (.iaload, 1) := by decide +kernel
theorem dX9_idle_35 : decode cX9_idle 35 = .ok (.ishl, 1) := by decide +kernel
theorem dX9_idle_36 : decode cX9_idle 36 = .ok (.ior, 1) := by decide +kernel
theorem dX9_idle_37 : decode cX9_idle 37 = .ok (.aload_n 0, 1) := by decide +kernel
theorem dX9_idle_38 : decode cX9_idle 38 = .ok (.invokevirtual 126, 3) := by decide +kernel
theorem dX9_idle_41 : decode cX9_idle 41 = .ok (.iconst 1, 1) := by decide +kernel
theorem dX9_idle_42 : decode cX9_idle 42 = .ok (.iload_n 2, 1) := by decide +kernel
theorem dX9_idle_43 : decode cX9_idle 43 = .ok (.ishl, 1) := by decide +kernel
theorem dX9_idle_44 : decode cX9_idle 44 = .ok (.iconst (-1), 1) := by decide +kernel
theorem dX9_idle_45 : decode cX9_idle 45 = .ok (.ixor, 1) := by decide +kernel
theorem dX9_idle_46 : decode cX9_idle 46 = .ok (.iand, 1) := by decide +kernel
theorem dX9_idle_47 : decode cX9_idle 47 = .ok (.iconst 1, 1) := by decide +kernel
theorem dX9_idle_48 : decode cX9_idle 48 = .ok (.aload_n 0, 1) := by decide +kernel
theorem dX9_idle_49 : decode cX9_idle 49 = .ok (.getfield 7, 3) := by decide +kernel
theorem dX9_idle_52 : decode cX9_idle 52 = .ok (.iconst 0, 1) := by decide +kernel
theorem dX9_idle_53 : decode cX9_idle 53 = .ok (.iaload, 1) := by decide +kernel
theorem dX9_idle_54 : decode cX9_idle 54 = .ok (.ishl, 1) := by decide +kernel
theorem dX9_idle_55 : decode cX9_idle 55 = .ok (.iconst 1, 1) := by decide +kernel
theorem dX9_idle_56 : decode cX9_idle 56 = .ok (.isub, 1) := by decide +kernel
theorem dX9_idle_57 : decode cX9_idle 57 = .ok (.invokevirtual 129, 3) := by decide +kernel
theorem dX9_idle_60 : decode cX9_idle 60 = .ok (.istore_n 3, 1) := by decide +kernel
theorem dX9_idle_61 : decode cX9_idle 61 = .ok (.iload_n 1, 1) := by decide +kernel
theorem dX9_idle_62 : decode cX9_idle 62 = .ok (.iload_n 3, 1) := by decide +kernel
theorem dX9_idle_63 : decode cX9_idle 63 = .ok (.aload_n 0, 1) := by decide +kernel
theorem dX9_idle_64 : decode cX9_idle 64 = .ok (.getfield 7, 3) := by decide +kernel
theorem dX9_idle_67 : decode cX9_idle 67 = .ok (.bipush 25, 2) := by decide +kernel
theorem dX9_idle_69 : decode cX9_idle 69 = .ok (.iload_n 2, 1) := by decide +kernel
theorem dX9_idle_70 : decode cX9_idle 70 = .ok (.iadd, 1) := by decide +kernel
theorem dX9_idle_71 : decode cX9_idle 71 = .ok (.iaload, 1) := by decide +kernel
theorem dX9_idle_72 : decode cX9_idle 72 = .ok (.invokestatic 102, 3) := by decide +kernel
theorem dX9_idle_75 : decode cX9_idle 75 = .ok (.ifCond .eq 9, 3) := by decide +kernel
theorem dX9_idle_78 : decode cX9_idle 78 = .ok (.iconst 1, 1) := by decide +kernel
theorem dX9_idle_79 : decode cX9_idle 79 = .ok (.iload_n 2, 1) := by decide +kernel
theorem dX9_idle_80 : decode cX9_idle 80 = .ok (.ishl, 1) := by decide +kernel
theorem dX9_idle_81 : decode cX9_idle 81 = .ok (.goto 4, 3) := by decide +kernel
theorem dX9_idle_84 : decode cX9_idle 84 = .ok (.iconst 0, 1) := by decide +kernel
theorem dX9_idle_85 : decode cX9_idle 85 = .ok (.ior, 1) := by decide +kernel
theorem dX9_idle_86 : decode cX9_idle 86 = .ok (.istore_n 1, 1) := by decide +kernel
theorem dX9_idle_87 : decode cX9_idle 87 = .ok (.iinc 2 1, 3) := by decide +kernel
theorem dX9_idle_90 : decode cX9_idle 90 = .ok (.goto (-86), 3) := by decide +kernel
theorem dX9_idle_93 : decode cX9_idle 93 = .ok (.iload_n 1, 1) := by decide +kernel
theorem dX9_idle_94 : decode cX9_idle 94 = .ok (.ireturn, 1) := by decide +kernel
theorem dX9_leads_0 : decode cX9_leads 0 = .ok (.iconst 0, 1) := by decide +kernel
theorem dX9_leads_1 : decode cX9_leads 1 = .ok (.istore_n 2, 1) := by decide +kernel
theorem dX9_leads_2 : decode cX9_leads 2 = .ok (.iconst 0, 1) := by decide +kernel
theorem dX9_leads_3 : decode cX9_leads 3 = .ok (.istore_n 3, 1) := by decide +kernel
theorem dX9_leads_4 : decode cX9_leads 4 = .ok (.iload_n 3, 1) := by decide +kernel
theorem dX9_leads_5 : decode cX9_leads 5 = .ok (.bipush 10, 2) := by decide +kernel
theorem dX9_leads_7 : decode cX9_leads 7 = .ok (.if_icmp .ge 120, 3) := by decide +kernel
theorem dX9_leads_10 : decode cX9_leads 10 = .ok (.iconst 0, 1) := by decide +kernel
theorem dX9_leads_11 : decode cX9_leads 11 = .ok (.istore 4, 2) := by decide +kernel
theorem dX9_leads_13 : decode cX9_leads 13 = .ok (.iload 4, 2) := by decide +kernel
theorem dX9_leads_15 : decode cX9_leads 15 = .ok (.aload_n 0, 1) := by decide +kernel
theorem dX9_leads_16 : decode cX9_leads 16 = .ok (.getfield 7, 3) := by decide +kernel
theorem dX9_leads_19 : decode cX9_leads 19 = .ok (.iconst 4, 1) := by decide +kernel
theorem dX9_leads_20 : decode cX9_leads 20 = .ok (.iaload, 1) := by decide +kernel
theorem dX9_leads_21 : decode cX9_leads 21 = .ok (.if_icmp .ge 100, 3) := by decide +kernel
theorem dX9_leads_24 : decode cX9_leads 24 = .ok (.aload_n 0, 1) := by decide +kernel
theorem dX9_leads_25 : decode cX9_leads 25 = .ok (.getfield 7, 3) := by decide +kernel
theorem dX9_leads_28 : decode cX9_leads 28 = .ok (.iconst 5, 1) := by decide +kernel
theorem dX9_leads_29 : decode cX9_leads 29 = .ok (.iload 4, 2) := by decide +kernel
theorem dX9_leads_31 : decode cX9_leads 31 = .ok (.iadd, 1) := by decide +kernel
theorem dX9_leads_32 : decode cX9_leads 32 = .ok (.iaload, 1) := by decide +kernel
theorem dX9_leads_33 : decode cX9_leads 33 = .ok (.iload_n 1, 1) := by decide +kernel
theorem dX9_leads_34 : decode cX9_leads 34 = .ok (.if_icmp .eq 50, 3) := by decide +kernel
theorem dX9_leads_37 : decode cX9_leads 37 = .ok (.aload_n 0, 1) := by decide +kernel
theorem dX9_leads_38 : decode cX9_leads 38 = .ok (.getfield 7, 3) := by decide +kernel
theorem dX9_leads_41 : decode cX9_leads 41 = .ok (.bipush 15, 2) := by decide +kernel
theorem dX9_leads_43 : decode cX9_leads 43 = .ok (.iload 4, 2) := by decide +kernel
theorem dX9_leads_45 : decode cX9_leads 45 = .ok (.iadd, 1) := by decide +kernel
theorem dX9_leads_46 : decode cX9_leads 46 = .ok (.iaload, 1) := by decide +kernel
theorem dX9_leads_47 : decode cX9_leads 47 = .ok (.iload_n 1, 1) := by decide +kernel
theorem dX9_leads_48 : decode cX9_leads 48 = .ok (.if_icmp .eq 36, 3) := by decide +kernel
theorem dX9_leads_51 : decode cX9_leads 51 = .ok (.iload_n 2, 1) := by decide +kernel
theorem dX9_leads_52 : decode cX9_leads 52 = .ok (.aload_n 0, 1) := by decide +kernel
theorem dX9_leads_53 : decode cX9_leads 53 = .ok (.getfield 7, 3) := by decide +kernel
theorem dX9_leads_56 : decode cX9_leads 56 = .ok (.iconst 5, 1) := by decide +kernel
theorem dX9_leads_57 : decode cX9_leads 57 = .ok (.iload 4, 2) := by decide +kernel
theorem dX9_leads_59 : decode cX9_leads 59 = .ok (.iadd, 1) := by decide +kernel
theorem dX9_leads_60 : decode cX9_leads 60 = .ok (.iaload, 1) := by decide +kernel
theorem dX9_leads_61 : decode cX9_leads 61 = .ok (.invokestatic 102, 3) := by decide +kernel
theorem dX9_leads_64 : decode cX9_leads 64 = .ok (.ifCond .ne 20, 3) := by decide +kernel
theorem dX9_leads_67 : decode cX9_leads 67 = .ok (.iload_n 2, 1) := by decide +kernel
theorem dX9_leads_68 : decode cX9_leads 68 = .ok (.aload_n 0, 1) := by decide +kernel
theorem dX9_leads_69 : decode cX9_leads 69 = .ok (.getfield 7, 3) := by decide +kernel
theorem dX9_leads_72 : decode cX9_leads 72 = .ok (.bipush 15, 2) := by decide +kernel
theorem dX9_leads_74 : decode cX9_leads 74 = .ok (.iload 4, 2) := by decide +kernel
theorem dX9_leads_76 : decode cX9_leads 76 = .ok (.iadd, 1) := by decide +kernel
theorem dX9_leads_77 : decode cX9_leads 77 = .ok (.iaload, 1) := by decide +kernel
theorem dX9_leads_78 : decode cX9_leads 78 = .ok (.invokestatic 102, 3) := by decide +kernel
theorem dX9_leads_81 : decode cX9_leads 81 = .ok (.ifCond .eq 7, 3) := by decide +kernel
theorem dX9_leads_84 : decode cX9_leads 84 = .ok (.iconst 1, 1) := by decide +kernel
theorem dX9_leads_85 : decode cX9_leads 85 = .ok (.goto 4, 3) := by decide +kernel
theorem dX9_leads_88 : decode cX9_leads 88 = .ok (.iconst 0, 1) := by decide +kernel
theorem dX9_leads_89 : decode cX9_leads 89 = .ok (.istore 5, 2) := by decide +kernel
theorem dX9_leads_91 : decode cX9_leads 91 = .ok (.iload_n 2, 1) := by decide +kernel
theorem dX9_leads_92 : decode cX9_leads 92 = .ok (.iload 5, 2) := by decide +kernel
theorem dX9_leads_94 : decode cX9_leads 94 = .ok (.ifCond .eq 18, 3) := by decide +kernel
theorem dX9_leads_97 : decode cX9_leads 97 = .ok (.iconst 1, 1) := by decide +kernel
theorem dX9_leads_98 : decode cX9_leads 98 = .ok (.aload_n 0, 1) := by decide +kernel
theorem dX9_leads_99 : decode cX9_leads 99 = .ok (.getfield 7, 3) := by decide +kernel
theorem dX9_leads_102 : decode cX9_leads 102 = .ok (.bipush 25, 2) := by decide +kernel
theorem dX9_leads_104 : decode cX9_leads 104 = .ok (.iload 4, 2) := by decide +kernel
theorem dX9_leads_106 : decode cX9_leads 106 = .ok (.iadd, 1) := by decide +kernel
theorem dX9_leads_107 : decode cX9_leads 107 = .ok (.iaload, 1) := by decide +kernel
theorem dX9_leads_108 : decode cX9_leads 108 = .ok (.ishl, 1) := by decide +kernel
theorem dX9_leads_109 : decode cX9_leads 109 = .ok (.goto 4, 3) := by decide +kernel
theorem dX9_leads_112 : decode cX9_leads 112 = .ok (.iconst 0, 1) := by decide +kernel
theorem dX9_leads_113 : decode cX9_leads 113 = .ok (.ior, 1) := by decide +kernel
theorem dX9_leads_114 : decode cX9_leads 114 = .ok (.istore_n 2, 1) := by decide +kernel
theorem dX9_leads_115 : decode cX9_leads 115 = .ok (.iinc 4 1, 3) := by decide +kernel
theorem dX9_leads_118 : decode cX9_leads 118 = .ok (.goto (-105), 3) := by decide +kernel
theorem dX9_leads_121 : decode cX9_leads 121 = .ok (.iinc 3 1, 3) := by decide +kernel
theorem dX9_leads_124 : decode cX9_leads 124 = .ok (.goto (-120), 3) := by decide +kernel
theorem dX9_leads_127 : decode cX9_leads 127 = .ok (.iload_n 2, 1) := by decide +kernel
theorem dX9_leads_128 : decode cX9_leads 128 = .ok (.ireturn, 1) := by decide +kernel
theorem dX9_circle_0 : decode cX9_circle 0 = .ok (.bipush (-4), 2) := by decide +kernel
theorem dX9_circle_2 : decode cX9_circle 2 = .ok (.istore_n 1, 1) := by decide +kernel
theorem dX9_circle_3 : decode cX9_circle 3 = .ok (.aload_n 0, 1) := by decide +kernel
theorem dX9_circle_4 : decode cX9_circle 4 = .ok (.getfield 7, 3) := by decide +kernel
theorem dX9_circle_7 : decode cX9_circle 7 = .ok (.iconst 0, 1) := by decide +kernel
theorem dX9_circle_8 : decode cX9_circle 8 = .ok (.iaload, 1) := by decide +kernel
theorem dX9_circle_9 : decode cX9_circle 9 = .ok (.iconst 1, 1) := by decide +kernel
theorem dX9_circle_10 : decode cX9_circle 10 = .ok (.isub, 1) := by decide +kernel
theorem dX9_circle_11 : decode cX9_circle 11 = .ok (.istore_n 2, 1) := by decide +kernel
theorem dX9_circle_12 : decode cX9_circle 12 = .ok (.iload_n 2, 1) := by decide +kernel
theorem dX9_circle_13 : decode cX9_circle 13 = .ok (.ifCond .lt 27, 3) := by decide +kernel
theorem dX9_circle_16 : decode cX9_circle 16 = .ok (.aload_n 0, 1) := by decide +kernel
theorem dX9_circle_17 : decode cX9_circle 17 = .ok (.iload_n 2, 1) := by decide +kernel
theorem dX9_circle_18 : decode cX9_circle 18 = .ok (.invokevirtual 160, 3) := by decide +kernel
theorem dX9_circle_21 : decode cX9_circle 21 = .ok (.iload_n 2, 1) := by decide +kernel
theorem dX9_circle_22 : decode cX9_circle 22 = .ok (.invokestatic 102, 3) := by decide +kernel
theorem dX9_circle_25 : decode cX9_circle 25 = .ok (.ifCond .eq 7, 3) := by decide +kernel
theorem dX9_circle_28 : decode cX9_circle 28 = .ok (.iload_n 2, 1) := by decide +kernel
theorem dX9_circle_29 : decode cX9_circle 29 = .ok (.goto 4, 3) := by decide +kernel
theorem dX9_circle_32 : decode cX9_circle 32 = .ok (.iload_n 1, 1) := by decide +kernel
theorem dX9_circle_33 : decode cX9_circle 33 = .ok (.istore_n 1, 1) := by decide +kernel
theorem dX9_circle_34 : decode cX9_circle 34 = .ok (.iinc 2 (-1), 3) := by decide +kernel
theorem dX9_circle_37 : decode cX9_circle 37 = .ok (.goto (-25), 3) := by decide +kernel
theorem dX9_circle_40 : decode cX9_circle 40 = .ok (.iload_n 1, 1) := by decide +kernel
theorem dX9_circle_41 : decode cX9_circle 41 = .ok (.ireturn, 1) := by decide +kernel
theorem dX9_deep_0 : decode cX9_deep 0 = .ok (.aload_n 0, 1) := by decide +kernel
theorem dX9_deep_1 : decode cX9_deep 1 = .ok (.invokevirtual 163, 3) := by decide +kernel
theorem dX9_deep_4 : decode cX9_deep 4 = .ok (.bipush (-4), 2) := by decide +kernel
theorem dX9_deep_6 : decode cX9_deep 6 = .ok (.if_icmp .eq 6, 3) := by decide +kernel
theorem dX9_deep_9 : decode cX9_deep 9 = .ok (.bipush (-4), 2) := by decide +kernel
theorem dX9_deep_11 : decode cX9_deep 11 = .ok (.ireturn, 1) := by decide +kernel
theorem dX9_deep_12 : decode cX9_deep 12 = .ok (.iconst 0, 1) := by decide +kernel
theorem dX9_deep_13 : decode cX9_deep 13 = .ok (.istore_n 1, 1) := by decide +kernel
theorem dX9_deep_14 : decode cX9_deep 14 = .ok (.iload_n 1, 1) := by decide +kernel
theorem dX9_deep_15 : decode cX9_deep 15 = .ok (.bipush 10, 2) := by decide +kernel
theorem dX9_deep_17 : decode cX9_deep 17 = .ok (.if_icmp .ge 16, 3) := by decide +kernel
theorem dX9_deep_20 : decode cX9_deep 20 = .ok (.aload_n 0, 1) := by decide +kernel
theorem dX9_deep_21 : decode cX9_deep 21 = .ok (.getfield 29, 3) := by decide +kernel
theorem dX9_deep_24 : decode cX9_deep 24 = .ok (.iload_n 1, 1) := by decide +kernel
theorem dX9_deep_25 : decode cX9_deep 25 = .ok (.iconst 0, 1) := by decide +kernel
theorem dX9_deep_26 : decode cX9_deep 26 = .ok (.iastore, 1) := by decide +kernel
theorem dX9_deep_27 : decode cX9_deep 27 = .ok (.iinc 1 1, 3) := by decide +kernel
theorem dX9_deep_30 : decode cX9_deep 30 = .ok (.goto (-16), 3) := by decide +kernel
theorem dX9_deep_33 : decode cX9_deep 33 = .ok (.iconst 0, 1) := by decide +kernel
theorem dX9_deep_34 : decode cX9_deep 34 = .ok (.istore_n 1, 1) := by decide +kernel
theorem dX9_deep_35 : decode cX9_deep 35 = .ok (.iconst 0, 1) := by decide +kernel
theorem dX9_deep_36 : decode cX9_deep 36 = .ok (.istore_n 2, 1) := by decide +kernel
theorem dX9_deep_37 : decode cX9_deep 37 = .ok (.iload_n 2, 1) := by decide +kernel
theorem dX9_deep_38 : decode cX9_deep 38 = .ok (.bipush 10, 2) := by decide +kernel
theorem dX9_deep_40 : decode cX9_deep 40 = .ok (.if_icmp .ge 162, 3) := by decide +kernel
theorem dX9_deep_43 : decode cX9_deep 43 = .ok (.iconst 0, 1) := by decide +kernel
theorem dX9_deep_44 : decode cX9_deep 44 = .ok (.istore_n 3, 1) := by decide +kernel
theorem dX9_deep_45 : decode cX9_deep 45 = .ok (.iload_n 3, 1) := by decide +kernel
theorem dX9_deep_46 : decode cX9_deep 46 = .ok (.aload_n 0, 1) := by decide +kernel
theorem dX9_deep_47 : decode cX9_deep 47 = .ok (.getfield 7, 3) := by decide +kernel
theorem dX9_deep_50 : decode cX9_deep 50 = .ok (.iconst 4, 1) := by decide +kernel
theorem dX9_deep_51 : decode cX9_deep 51 = .ok (.iaload, 1) := by decide +kernel
theorem dX9_deep_52 : decode cX9_deep 52 = .ok (.if_icmp .ge 144, 3) := by decide +kernel
theorem dX9_deep_55 : decode cX9_deep 55 = .ok (.aload_n 0, 1) := by decide +kernel
theorem dX9_deep_56 : decode cX9_deep 56 = .ok (.getfield 29, 3) := by decide +kernel
theorem dX9_deep_59 : decode cX9_deep 59 = .ok (.aload_n 0, 1) := by decide +kernel
theorem dX9_deep_60 : decode cX9_deep 60 = .ok (.getfield 7, 3) := by decide +kernel
theorem dX9_deep_63 : decode cX9_deep 63 = .ok (.iconst 5, 1) := by decide +kernel
theorem dX9_deep_64 : decode cX9_deep 64 = .ok (.iload_n 3, 1) := by decide +kernel
theorem dX9_deep_65 : decode cX9_deep 65 = .ok (.iadd, 1) := by decide +kernel
theorem dX9_deep_66 : decode cX9_deep 66 = .ok (.iaload, 1) := by decide +kernel
theorem dX9_deep_67 : decode cX9_deep 67 = .ok (.iaload, 1) := by decide +kernel
theorem dX9_deep_68 : decode cX9_deep 68 = .ok (.aload_n 0, 1) := by decide +kernel
theorem dX9_deep_69 : decode cX9_deep 69 = .ok (.getfield 29, 3) := by decide +kernel
theorem dX9_deep_72 : decode cX9_deep 72 = .ok (.aload_n 0, 1) := by decide +kernel
theorem dX9_deep_73 : decode cX9_deep 73 = .ok (.getfield 7, 3) := by decide +kernel
theorem dX9_deep_76 : decode cX9_deep 76 = .ok (.bipush 15, 2) := by decide +kernel
theorem dX9_deep_78 : decode cX9_deep 78 = .ok (.iload_n 3, 1) := by decide +kernel
theorem dX9_deep_79 : decode cX9_deep 79 = .ok (.iadd, 1) := by decide +kernel
theorem dX9_deep_80 : decode cX9_deep 80 = .ok (.iaload, 1) := by decide +kernel
theorem dX9_deep_81 : decode cX9_deep 81 = .ok (.iaload, 1) := by decide +kernel
theorem dX9_deep_82 : decode cX9_deep 82 = .ok (.if_icmp .le 19, 3) := by decide +kernel
theorem dX9_deep_85 : decode cX9_deep 85 = .ok (.aload_n 0, 1) := by decide +kernel
theorem dX9_deep_86 : decode cX9_deep 86 = .ok (.getfield 29, 3) := by decide +kernel
theorem dX9_deep_89 : decode cX9_deep 89 = .ok (.aload_n 0, 1) := by decide +kernel
theorem dX9_deep_90 : decode cX9_deep 90 = .ok (.getfield 7, 3) := by decide +kernel
theorem dX9_deep_93 : decode cX9_deep 93 = .ok (.iconst 5, 1) := by decide +kernel
theorem dX9_deep_94 : decode cX9_deep 94 = .ok (.iload_n 3, 1) := by decide +kernel
theorem dX9_deep_95 : decode cX9_deep 95 = .ok (.iadd, 1) := by decide +kernel
theorem dX9_deep_96 : decode cX9_deep 96 = .ok (.iaload, 1) := by decide +kernel
theorem dX9_deep_97 : decode cX9_deep 97 = .ok (.iaload, 1) := by decide +kernel
theorem dX9_deep_98 : decode cX9_deep 98 = .ok (.goto 17, 3) := by decide +kernel
theorem dX9_deep_101 : decode cX9_deep 101 = .ok (.aload_n 0, 1) := by decide +kernel
theorem dX9_deep_102 : decode cX9_deep 102 = .ok (.getfield 29, 3) := by decide +kernel
theorem dX9_deep_105 : decode cX9_deep 105 = .ok (.aload_n 0, 1) := by decide +kernel
theorem dX9_deep_106 : decode cX9_deep 106 = .ok (.getfield 7, 3) := by decide +kernel
theorem dX9_deep_109 : decode cX9_deep 109 = .ok (.bipush 15, 2) := by decide +kernel
theorem dX9_deep_111 : decode cX9_deep 111 = .ok (.iload_n 3, 1) := by decide +kernel
theorem dX9_deep_112 : decode cX9_deep 112 = .ok (.iadd, 1) := by decide +kernel
theorem dX9_deep_113 : decode cX9_deep 113 = .ok (.iaload, 1) := by decide +kernel
theorem dX9_deep_114 : decode cX9_deep 114 = .ok (.iaload, 1) := by decide +kernel
theorem dX9_deep_115 : decode cX9_deep 115 = .ok (.istore 4, 2) := by decide +kernel
theorem dX9_deep_117 : decode cX9_deep 117 = .ok (.aload_n 0, 1) := by decide +kernel
theorem dX9_deep_118 : decode cX9_deep 118 = .ok (.getfield 29, 3) := by decide +kernel
theorem dX9_deep_121 : decode cX9_deep 121 = .ok (.aload_n 0, 1) := by decide +kernel
theorem dX9_deep_122 : decode cX9_deep 122 = .ok (.getfield 7, 3) := by decide +kernel
theorem dX9_deep_125 : decode cX9_deep 125 = .ok (.bipush 25, 2) := by decide +kernel
theorem dX9_deep_127 : decode cX9_deep 127 = .ok (.iload_n 3, 1) := by decide +kernel
theorem dX9_deep_128 : decode cX9_deep 128 = .ok (.iadd, 1) := by decide +kernel
theorem dX9_deep_129 : decode cX9_deep 129 = .ok (.iaload, 1) := by decide +kernel
theorem dX9_deep_130 : decode cX9_deep 130 = .ok (.iload 4, 2) := by decide +kernel
theorem dX9_deep_132 : decode cX9_deep 132 = .ok (.iconst 1, 1) := by decide +kernel
theorem dX9_deep_133 : decode cX9_deep 133 = .ok (.iadd, 1) := by decide +kernel
theorem dX9_deep_134 : decode cX9_deep 134 = .ok (.aload_n 0, 1) := by decide +kernel
theorem dX9_deep_135 : decode cX9_deep 135 = .ok (.getfield 29, 3) := by decide +kernel
theorem dX9_deep_138 : decode cX9_deep 138 = .ok (.aload_n 0, 1) := by decide +kernel
theorem dX9_deep_139 : decode cX9_deep 139 = .ok (.getfield 7, 3) := by decide +kernel
theorem dX9_deep_142 : decode cX9_deep 142 = .ok (.bipush 25, 2) := by decide +kernel
theorem dX9_deep_144 : decode cX9_deep 144 = .ok (.iload_n 3, 1) := by decide +kernel
theorem dX9_deep_145 : decode cX9_deep 145 = .ok (.iadd, 1) := by decide +kernel
theorem dX9_deep_146 : decode cX9_deep 146 = .ok (.iaload, 1) := by decide +kernel
theorem dX9_deep_147 : decode cX9_deep 147 = .ok (.iaload, 1) := by decide +kernel
theorem dX9_deep_148 : decode cX9_deep 148 = .ok (.if_icmp .le 10, 3) := by decide +kernel
theorem dX9_deep_151 : decode cX9_deep 151 = .ok (.iload 4, 2) := by decide +kernel
theorem dX9_deep_153 : decode cX9_deep 153 = .ok (.iconst 1, 1) := by decide +kernel
theorem dX9_deep_154 : decode cX9_deep 154 = .ok (.iadd, 1) := by decide +kernel
theorem dX9_deep_155 : decode cX9_deep 155 = .ok (.goto 17, 3) := by decide +kernel
theorem dX9_deep_158 : decode cX9_deep 158 = .ok (.aload_n 0, 1) := by decide +kernel
theorem dX9_deep_159 : decode cX9_deep 159 = .ok (.getfield 29, 3) := by decide +kernel
theorem dX9_deep_162 : decode cX9_deep 162 = .ok (.aload_n 0, 1) := by decide +kernel
theorem dX9_deep_163 : decode cX9_deep 163 = .ok (.getfield 7, 3) := by decide +kernel
theorem dX9_deep_166 : decode cX9_deep 166 = .ok (.bipush 25, 2) := by decide +kernel
theorem dX9_deep_168 : decode cX9_deep 168 = .ok (.iload_n 3, 1) := by decide +kernel
theorem dX9_deep_169 : decode cX9_deep 169 = .ok (.iadd, 1) := by decide +kernel
theorem dX9_deep_170 : decode cX9_deep 170 = .ok (.iaload, 1) := by decide +kernel
theorem dX9_deep_171 : decode cX9_deep 171 = .ok (.iaload, 1) := by decide +kernel
theorem dX9_deep_172 : decode cX9_deep 172 = .ok (.iastore, 1) := by decide +kernel
theorem dX9_deep_173 : decode cX9_deep 173 = .ok (.iload 4, 2) := by decide +kernel
theorem dX9_deep_175 : decode cX9_deep 175 = .ok (.iconst 1, 1) := by decide +kernel
theorem dX9_deep_176 : decode cX9_deep 176 = .ok (.iadd, 1) := by decide +kernel
theorem dX9_deep_177 : decode cX9_deep 177 = .ok (.iload_n 1, 1) := by decide +kernel
theorem dX9_deep_178 : decode cX9_deep 178 = .ok (.if_icmp .le 10, 3) := by decide +kernel
theorem dX9_deep_181 : decode cX9_deep 181 = .ok (.iload 4, 2) := by decide +kernel
theorem dX9_deep_183 : decode cX9_deep 183 = .ok (.iconst 1, 1) := by decide +kernel
theorem dX9_deep_184 : decode cX9_deep 184 = .ok (.iadd, 1) := by decide +kernel
theorem dX9_deep_185 : decode cX9_deep 185 = .ok (.goto 4, 3) := by decide +kernel
theorem dX9_deep_188 : decode cX9_deep 188 = .ok (.iload_n 1, 1) := by decide +kernel
theorem dX9_deep_189 : decode cX9_deep 189 = .ok (.istore_n 1, 1) := by decide +kernel
theorem dX9_deep_190 : decode cX9_deep 190 = .ok (.iinc 3 1, 3) := by decide +kernel
theorem dX9_deep_193 : decode cX9_deep 193 = .ok (.goto (-148), 3) := by decide +kernel
theorem dX9_deep_196 : decode cX9_deep 196 = .ok (.iinc 2 1, 3) := by decide +kernel
theorem dX9_deep_199 : decode cX9_deep 199 = .ok (.goto (-162), 3) := by decide +kernel
theorem dX9_deep_202 : decode cX9_deep 202 = .ok (.iload_n 1, 1) := by decide +kernel
theorem dX9_deep_203 : decode cX9_deep 203 = .ok (.ireturn, 1) := by decide +kernel
theorem dX9_proves_0 : decode cX9_proves 0 = .ok (.aload_n 0, 1) := by decide +kernel
theorem dX9_proves_1 : decode cX9_proves 1 = .ok (.aload_n 0, 1) := by decide +kernel
theorem dX9_proves_2 : decode cX9_proves 2 = .ok (.invokevirtual 151, 3) := by decide +kernel
theorem dX9_proves_5 : decode cX9_proves 5 = .ok (.iload_n 1, 1) := by decide +kernel
theorem dX9_proves_6 : decode cX9_proves 6 = .ok (.aload_n 0, 1) := by decide +kernel
theorem dX9_proves_7 : decode cX9_proves 7 = .ok (.getfield 7, 3) := by decide +kernel
theorem dX9_proves_10 : decode cX9_proves 10 = .ok (.iconst 2, 1) := by decide +kernel
theorem dX9_proves_11 : decode cX9_proves 11 = .ok (.iaload, 1) := by decide +kernel
theorem dX9_proves_12 : decode cX9_proves 12 = .ok (.invokevirtual 129, 3) := by decide +kernel
theorem dX9_proves_15 : decode cX9_proves 15 = .ok (.iload_n 2, 1) := by decide +kernel
theorem dX9_proves_16 : decode cX9_proves 16 = .ok (.invokestatic 102, 3) := by decide +kernel
theorem dX9_proves_19 : decode cX9_proves 19 = .ok (.ireturn, 1) := by decide +kernel
theorem dX9_isProof_0 : decode cX9_isProof 0 = .ok (.aload_n 0, 1) := by decide +kernel
theorem dX9_isProof_1 : decode cX9_isProof 1 = .ok (.iload_n 1, 1) := by decide +kernel
theorem dX9_isProof_2 : decode cX9_isProof 2 = .ok (.iload_n 2, 1) := by decide +kernel
theorem dX9_isProof_3 : decode cX9_isProof 3 = .ok (.invokevirtual 166, 3) := by decide +kernel
theorem dX9_isProof_6 : decode cX9_isProof 6 = .ok (.istore_n 3, 1) := by decide +kernel
theorem dX9_isProof_7 : decode cX9_isProof 7 = .ok (.iconst 0, 1) := by decide +kernel
theorem dX9_isProof_8 : decode cX9_isProof 8 = .ok (.istore 4, 2) := by decide +kernel
theorem dX9_isProof_10 : decode cX9_isProof 10 = .ok (.iload 4, 2) := by decide +kernel
theorem dX9_isProof_12 : decode cX9_isProof 12 = .ok (.aload_n 0, 1) := by decide +kernel
theorem dX9_isProof_13 : decode cX9_isProof 13 = .ok (.getfield 7, 3) := by decide +kernel
theorem dX9_isProof_16 : decode cX9_isProof 16 = .ok (.iconst 4, 1) := by decide +kernel
theorem dX9_isProof_17 : decode cX9_isProof 17 = .ok (.iaload, 1) := by decide +kernel
theorem dX9_isProof_18 : decode cX9_isProof 18 = .ok (.if_icmp .ge 44, 3) := by decide +kernel
theorem dX9_isProof_21 : decode cX9_isProof 21 = .ok (.iload_n 3, 1) := by decide +kernel
theorem dX9_isProof_22 : decode cX9_isProof 22 = .ok (.ifCond .eq 40, 3) := by decide +kernel
theorem dX9_isProof_25 : decode cX9_isProof 25 = .ok (.iload_n 1, 1) := by decide +kernel
theorem dX9_isProof_26 : decode cX9_isProof 26 = .ok (.iload 4, 2) := by decide +kernel
theorem dX9_isProof_28 : decode cX9_isProof 28 = .ok (.invokestatic 102, 3) := by decide +kernel
theorem dX9_isProof_31 : decode cX9_isProof 31 = .ok (.ifCond .eq 19, 3) := by decide +kernel
theorem dX9_isProof_34 : decode cX9_isProof 34 = .ok (.aload_n 0, 1) := by decide +kernel
theorem dX9_isProof_35 : decode cX9_isProof 35 = .ok (.iload_n 1, 1) := by decide +kernel
theorem dX9_isProof_36 : decode cX9_isProof 36 = .ok (.iconst 1, 1) := by decide +kernel
theorem dX9_isProof_37 : decode cX9_isProof 37 = .ok (.iload 4, 2) := by decide +kernel
theorem dX9_isProof_39 : decode cX9_isProof 39 = .ok (.ishl, 1) := by decide +kernel
theorem dX9_isProof_40 : decode cX9_isProof 40 = .ok (.iconst (-1), 1) := by decide +kernel
theorem dX9_isProof_41 : decode cX9_isProof 41 = .ok (.ixor, 1) := by decide +kernel
theorem dX9_isProof_42 : decode cX9_isProof 42 = .ok (.iand, 1) := by decide +kernel
theorem dX9_isProof_43 : decode cX9_isProof 43 = .ok (.iload_n 2, 1) := by decide +kernel
theorem dX9_isProof_44 : decode cX9_isProof 44 = .ok (.invokevirtual 166, 3) := by decide +kernel
theorem dX9_isProof_47 : decode cX9_isProof 47 = .ok (.ifCond .ne 7, 3) := by decide +kernel
theorem dX9_isProof_50 : decode cX9_isProof 50 = .ok (.iconst 1, 1) := by decide +kernel
theorem dX9_isProof_51 : decode cX9_isProof 51 = .ok (.goto 4, 3) := by decide +kernel
theorem dX9_isProof_54 : decode cX9_isProof 54 = .ok (.iconst 0, 1) := by decide +kernel
theorem dX9_isProof_55 : decode cX9_isProof 55 = .ok (.istore_n 3, 1) := by decide +kernel
theorem dX9_isProof_56 : decode cX9_isProof 56 = .ok (.iinc 4 1, 3) := by decide +kernel
theorem dX9_isProof_59 : decode cX9_isProof 59 = .ok (.goto (-49), 3) := by decide +kernel
theorem dX9_isProof_62 : decode cX9_isProof 62 = .ok (.iload_n 3, 1) := by decide +kernel
theorem dX9_isProof_63 : decode cX9_isProof 63 = .ok (.ireturn, 1) := by decide +kernel
theorem dX9_proofs_0 : decode cX9_proofs 0 = .ok (.aload_n 0, 1) := by decide +kernel
theorem dX9_proofs_1 : decode cX9_proofs 1 = .ok (.iload_n 1, 1) := by decide +kernel
theorem dX9_proofs_2 : decode cX9_proofs 2 = .ok (.invokevirtual 106, 3) := by decide +kernel
theorem dX9_proofs_5 : decode cX9_proofs 5 = .ok (.ifCond .eq 15, 3) := by decide +kernel
theorem dX9_proofs_8 : decode cX9_proofs 8 = .ok (.iload_n 2, 1) := by decide +kernel
theorem dX9_proofs_9 : decode cX9_proofs 9 = .ok (.i2l, 1) := by decide +kernel
theorem dX9_proofs_10 : decode cX9_proofs 10 = .ok (.lconst 0, 1) := by decide +kernel
theorem dX9_proofs_11 : decode cX9_proofs 11 = .ok (.ldc2_w 142, 3) := by decide +kernel
theorem dX9_proofs_14 : decode cX9_proofs 14 = .ok (.invokestatic 43, 3) := by decide +kernel
theorem dX9_proofs_17 : decode cX9_proofs 17 = .ok (.ifCond .ne 5, 3) := by decide +kernel
theorem dX9_proofs_20 : decode cX9_proofs 20 = .ok (.iconst (-1), 1) := by decide +kernel
theorem dX9_proofs_21 : decode cX9_proofs 21 = .ok (.ireturn, 1) := by decide +kernel
theorem dX9_proofs_22 : decode cX9_proofs 22 = .ok (.iconst 0, 1) := by decide +kernel
theorem dX9_proofs_23 : decode cX9_proofs 23 = .ok (.istore_n 3, 1) := by decide +kernel
theorem dX9_proofs_24 : decode cX9_proofs 24 = .ok (.bipush (-4), 2) := by decide +kernel
theorem dX9_proofs_26 : decode cX9_proofs 26 = .ok (.istore 4, 2) := by decide +kernel
theorem dX9_proofs_28 : decode cX9_proofs 28 = .ok (.aload_n 0, 1) := by decide +kernel
theorem dX9_proofs_29 : decode cX9_proofs 29 = .ok (.invokevirtual 126, 3) := by decide +kernel
theorem dX9_proofs_32 : decode cX9_proofs 32 = .ok (.istore 5, 2) := by decide +kernel
theorem dX9_proofs_34 : decode cX9_proofs 34 = .ok (.iconst 0, 1) := by decide +kernel
theorem dX9_proofs_35 : decode cX9_proofs 35 = .ok (.istore 6, 2) := by decide +kernel
theorem dX9_proofs_37 : decode cX9_proofs 37 = .ok (.iload 6, 2) := by decide +kernel
theorem dX9_proofs_39 : decode cX9_proofs 39 = .ok (.aload_n 0, 1) := by decide +kernel
theorem dX9_proofs_40 : decode cX9_proofs 40 = .ok (.invokevirtual 126, 3) := by decide +kernel
theorem dX9_proofs_43 : decode cX9_proofs 43 = .ok (.if_icmp .gt 58, 3) := by decide +kernel
theorem dX9_proofs_46 : decode cX9_proofs 46 = .ok (.aload_n 0, 1) := by decide +kernel
theorem dX9_proofs_47 : decode cX9_proofs 47 = .ok (.iload 6, 2) := by decide +kernel
theorem dX9_proofs_49 : decode cX9_proofs 49 = .ok (.iload_n 1, 1) := by decide +kernel
theorem dX9_proofs_50 : decode cX9_proofs 50 = .ok (.invokevirtual 169, 3) := by decide +kernel
theorem dX9_proofs_53 : decode cX9_proofs 53 = .ok (.ifCond .eq 42, 3) := by decide +kernel
theorem dX9_proofs_56 : decode cX9_proofs 56 = .ok (.iload 4, 2) := by decide +kernel
theorem dX9_proofs_58 : decode cX9_proofs 58 = .ok (.bipush (-4), 2) := by decide +kernel
theorem dX9_proofs_60 : decode cX9_proofs 60 = .ok (.if_icmp .eq 16, 3) := by decide +kernel
theorem dX9_proofs_63 : decode cX9_proofs 63 = .ok (.iload 6, 2) := by decide +kernel
theorem dX9_proofs_65 : decode cX9_proofs 65 = .ok (.invokestatic 122, 3) := by decide +kernel
theorem dX9_proofs_68 : decode cX9_proofs 68 = .ok (.iload 4, 2) := by decide +kernel
theorem dX9_proofs_70 : decode cX9_proofs 70 = .ok (.invokestatic 122, 3) := by decide +kernel
theorem dX9_proofs_73 : decode cX9_proofs 73 = .ok (.if_icmp .ge 8, 3) := by decide +kernel
theorem dX9_proofs_76 : decode cX9_proofs 76 = .ok (.iload 6, 2) := by decide +kernel
theorem dX9_proofs_78 : decode cX9_proofs 78 = .ok (.goto 5, 3) := by decide +kernel
theorem dX9_proofs_81 : decode cX9_proofs 81 = .ok (.iload 4, 2) := by decide +kernel
theorem dX9_proofs_83 : decode cX9_proofs 83 = .ok (.istore 4, 2) := by decide +kernel
theorem dX9_proofs_85 : decode cX9_proofs 85 = .ok (.iload 5, 2) := by decide +kernel
theorem dX9_proofs_87 : decode cX9_proofs 87 = .ok (.iload 6, 2) := by decide +kernel
theorem dX9_proofs_89 : decode cX9_proofs 89 = .ok (.iand, 1) := by decide +kernel
theorem dX9_proofs_90 : decode cX9_proofs 90 = .ok (.istore 5, 2) := by decide +kernel
theorem dX9_proofs_92 : decode cX9_proofs 92 = .ok (.iinc 3 1, 3) := by decide +kernel
theorem dX9_proofs_95 : decode cX9_proofs 95 = .ok (.iinc 6 1, 3) := by decide +kernel
theorem dX9_proofs_98 : decode cX9_proofs 98 = .ok (.goto (-61), 3) := by decide +kernel
theorem dX9_proofs_101 : decode cX9_proofs 101 = .ok (.iload_n 2, 1) := by decide +kernel
theorem dX9_proofs_102 : decode cX9_proofs 102 = .ok (.ifCond .ne 7, 3) := by decide +kernel
theorem dX9_proofs_105 : decode cX9_proofs 105 = .ok (.iload_n 3, 1) := by decide +kernel
theorem dX9_proofs_106 : decode cX9_proofs 106 = .ok (.goto 23, 3) := by decide +kernel
theorem dX9_proofs_109 : decode cX9_proofs 109 = .ok (.iload_n 2, 1) := by decide +kernel
theorem dX9_proofs_110 : decode cX9_proofs 110 = .ok (.iconst 1, 1) := by decide +kernel
theorem dX9_proofs_111 : decode cX9_proofs 111 = .ok (.if_icmp .ne 8, 3) := by decide +kernel
theorem dX9_proofs_114 : decode cX9_proofs 114 = .ok (.iload 4, 2) := by decide +kernel
theorem dX9_proofs_116 : decode cX9_proofs 116 = .ok (.goto 13, 3) := by decide +kernel
theorem dX9_proofs_119 : decode cX9_proofs 119 = .ok (.iload_n 3, 1) := by decide +kernel
theorem dX9_proofs_120 : decode cX9_proofs 120 = .ok (.ifCond .ne 7, 3) := by decide +kernel
theorem dX9_proofs_123 : decode cX9_proofs 123 = .ok (.iconst 0, 1) := by decide +kernel
theorem dX9_proofs_124 : decode cX9_proofs 124 = .ok (.goto 5, 3) := by decide +kernel
theorem dX9_proofs_127 : decode cX9_proofs 127 = .ok (.iload 5, 2) := by decide +kernel
theorem dX9_proofs_129 : decode cX9_proofs 129 = .ok (.ireturn, 1) := by decide +kernel
theorem dX9_worn_0 : decode cX9_worn 0 = .ok (.aload_n 0, 1) := by decide +kernel
theorem dX9_worn_1 : decode cX9_worn 1 = .ok (.iload_n 1, 1) := by decide +kernel
theorem dX9_worn_2 : decode cX9_worn 2 = .ok (.invokevirtual 106, 3) := by decide +kernel
theorem dX9_worn_5 : decode cX9_worn 5 = .ok (.ifCond .eq 11, 3) := by decide +kernel
theorem dX9_worn_8 : decode cX9_worn 8 = .ok (.aload_n 0, 1) := by decide +kernel
theorem dX9_worn_9 : decode cX9_worn 9 = .ok (.iload_n 2, 1) := by decide +kernel
theorem dX9_worn_10 : decode cX9_worn 10 = .ok (.invokevirtual 133, 3) := by decide +kernel
theorem dX9_worn_13 : decode cX9_worn 13 = .ok (.ifCond .ne 5, 3) := by decide +kernel
theorem dX9_worn_16 : decode cX9_worn 16 = .ok (.iconst (-1), 1) := by decide +kernel
theorem dX9_worn_17 : decode cX9_worn 17 = .ok (.ireturn, 1) := by decide +kernel
theorem dX9_worn_18 : decode cX9_worn 18 = .ok (.iconst 0, 1) := by decide +kernel
theorem dX9_worn_19 : decode cX9_worn 19 = .ok (.istore_n 3, 1) := by decide +kernel
theorem dX9_worn_20 : decode cX9_worn 20 = .ok (.iconst 0, 1) := by decide +kernel
theorem dX9_worn_21 : decode cX9_worn 21 = .ok (.istore 4, 2) := by decide +kernel
theorem dX9_worn_23 : decode cX9_worn 23 = .ok (.iload 4, 2) := by decide +kernel
theorem dX9_worn_25 : decode cX9_worn 25 = .ok (.aload_n 0, 1) := by decide +kernel
theorem dX9_worn_26 : decode cX9_worn 26 = .ok (.invokevirtual 126, 3) := by decide +kernel
theorem dX9_worn_29 : decode cX9_worn 29 = .ok (.if_icmp .gt 87, 3) := by decide +kernel
theorem dX9_worn_32 : decode cX9_worn 32 = .ok (.iconst 0, 1) := by decide +kernel
theorem dX9_worn_33 : decode cX9_worn 33 = .ok (.istore 5, 2) := by decide +kernel
theorem dX9_worn_35 : decode cX9_worn 35 = .ok (.iconst 0, 1) := by decide +kernel
theorem dX9_worn_36 : decode cX9_worn 36 = .ok (.istore 6, 2) := by decide +kernel
theorem dX9_worn_38 : decode cX9_worn 38 = .ok (.iload 6, 2) := by decide +kernel
theorem dX9_worn_40 : decode cX9_worn 40 = .ok (.aload_n 0, 1) := by decide +kernel
theorem dX9_worn_41 : decode cX9_worn 41 = .ok (.getfield 7, 3) := by decide +kernel
theorem dX9_worn_44 : decode cX9_worn 44 = .ok (.iconst 4, 1) := by decide +kernel
theorem dX9_worn_45 : decode cX9_worn 45 = .ok (.iaload, 1) := by decide +kernel
theorem dX9_worn_46 : decode cX9_worn 46 = .ok (.if_icmp .ge 40, 3) := by decide +kernel
theorem dX9_worn_49 : decode cX9_worn 49 = .ok (.iload 5, 2) := by decide +kernel
theorem dX9_worn_51 : decode cX9_worn 51 = .ok (.iload 4, 2) := by decide +kernel
theorem dX9_worn_53 : decode cX9_worn 53 = .ok (.iload 6, 2) := by decide +kernel
theorem dX9_worn_55 : decode cX9_worn 55 = .ok (.invokestatic 102, 3) := by decide +kernel
theorem dX9_worn_58 : decode cX9_worn 58 = .ok (.ifCond .eq 18, 3) := by decide +kernel
theorem dX9_worn_61 : decode cX9_worn 61 = .ok (.iconst 1, 1) := by decide +kernel
theorem dX9_worn_62 : decode cX9_worn 62 = .ok (.aload_n 0, 1) := by decide +kernel
theorem dX9_worn_63 : decode cX9_worn 63 = .ok (.getfield 7, 3) := by decide +kernel
theorem dX9_worn_66 : decode cX9_worn 66 = .ok (.bipush 25, 2) := by decide +kernel
theorem dX9_worn_68 : decode cX9_worn 68 = .ok (.iload 6, 2) := by decide +kernel
theorem dX9_worn_70 : decode cX9_worn 70 = .ok (.iadd, 1) := by decide +kernel
theorem dX9_worn_71 : decode cX9_worn 71 = .ok (.iaload, 1) := by decide +kernel
theorem dX9_worn_72 : decode cX9_worn 72 = .ok (.ishl, 1) := by decide +kernel
theorem dX9_worn_73 : decode cX9_worn 73 = .ok (.goto 4, 3) := by decide +kernel
theorem dX9_worn_76 : decode cX9_worn 76 = .ok (.iconst 0, 1) := by decide +kernel
theorem dX9_worn_77 : decode cX9_worn 77 = .ok (.ior, 1) := by decide +kernel
theorem dX9_worn_78 : decode cX9_worn 78 = .ok (.istore 5, 2) := by decide +kernel
theorem dX9_worn_80 : decode cX9_worn 80 = .ok (.iinc 6 1, 3) := by decide +kernel
theorem dX9_worn_83 : decode cX9_worn 83 = .ok (.goto (-45), 3) := by decide +kernel
theorem dX9_worn_86 : decode cX9_worn 86 = .ok (.iload_n 3, 1) := by decide +kernel
theorem dX9_worn_87 : decode cX9_worn 87 = .ok (.iload 5, 2) := by decide +kernel
theorem dX9_worn_89 : decode cX9_worn 89 = .ok (.iload_n 2, 1) := by decide +kernel
theorem dX9_worn_90 : decode cX9_worn 90 = .ok (.if_icmp .ne 17, 3) := by decide +kernel
theorem dX9_worn_93 : decode cX9_worn 93 = .ok (.aload_n 0, 1) := by decide +kernel
theorem dX9_worn_94 : decode cX9_worn 94 = .ok (.iload 4, 2) := by decide +kernel
theorem dX9_worn_96 : decode cX9_worn 96 = .ok (.iload_n 1, 1) := by decide +kernel
theorem dX9_worn_97 : decode cX9_worn 97 = .ok (.invokevirtual 169, 3) := by decide +kernel
theorem dX9_worn_100 : decode cX9_worn 100 = .ok (.ifCond .eq 7, 3) := by decide +kernel
theorem dX9_worn_103 : decode cX9_worn 103 = .ok (.iconst 1, 1) := by decide +kernel
theorem dX9_worn_104 : decode cX9_worn 104 = .ok (.goto 4, 3) := by decide +kernel
theorem dX9_worn_107 : decode cX9_worn 107 = .ok (.iconst 0, 1) := by decide +kernel
theorem dX9_worn_108 : decode cX9_worn 108 = .ok (.iadd, 1) := by decide +kernel
theorem dX9_worn_109 : decode cX9_worn 109 = .ok (.istore_n 3, 1) := by decide +kernel
theorem dX9_worn_110 : decode cX9_worn 110 = .ok (.iinc 4 1, 3) := by decide +kernel
theorem dX9_worn_113 : decode cX9_worn 113 = .ok (.goto (-90), 3) := by decide +kernel
theorem dX9_worn_116 : decode cX9_worn 116 = .ok (.iload_n 3, 1) := by decide +kernel
theorem dX9_worn_117 : decode cX9_worn 117 = .ok (.ireturn, 1) := by decide +kernel
theorem dX9_tell_0 : decode cX9_tell 0 = .ok (.aload_n 0, 1) := by decide +kernel
theorem dX9_tell_1 : decode cX9_tell 1 = .ok (.iload_n 1, 1) := by decide +kernel
theorem dX9_tell_2 : decode cX9_tell 2 = .ok (.invokevirtual 111, 3) := by decide +kernel
theorem dX9_tell_5 : decode cX9_tell 5 = .ok (.ifCond .ne 5, 3) := by decide +kernel
theorem dX9_tell_8 : decode cX9_tell 8 = .ok (.iconst (-1), 1) := by decide +kernel
theorem dX9_tell_9 : decode cX9_tell 9 = .ok (.ireturn, 1) := by decide +kernel
theorem dX9_tell_10 : decode cX9_tell 10 = .ok (.aload_n 0, 1) := by decide +kernel
theorem dX9_tell_11 : decode cX9_tell 11 = .ok (.getfield 93, 3) := by decide +kernel
theorem dX9_tell_14 : decode cX9_tell 14 = .ok (.bipush 12, 2) := by decide +kernel
theorem dX9_tell_16 : decode cX9_tell 16 = .ok (.if_icmp .ne 6, 3) := by decide +kernel
theorem dX9_tell_19 : decode cX9_tell 19 = .ok (.bipush (-3), 2) := by decide +kernel
theorem dX9_tell_21 : decode cX9_tell 21 = .ok (.ireturn, 1) := by decide +kernel
theorem dX9_tell_22 : decode cX9_tell 22 = .ok (.aload_n 0, 1) := by decide +kernel
theorem dX9_tell_23 : decode cX9_tell 23 = .ok (.getfield 16, 3) := by decide +kernel
theorem dX9_tell_26 : decode cX9_tell 26 = .ok (.aload_n 0, 1) := by decide +kernel
theorem dX9_tell_27 : decode cX9_tell 27 = .ok (.getfield 93, 3) := by decide +kernel
theorem dX9_tell_30 : decode cX9_tell 30 = .ok (.iload_n 1, 1) := by decide +kernel
theorem dX9_tell_31 : decode cX9_tell 31 = .ok (.iastore, 1) := by decide +kernel
theorem dX9_tell_32 : decode cX9_tell 32 = .ok (.aload_n 0, 1) := by decide +kernel
theorem dX9_tell_33 : decode cX9_tell 33 = .ok (.dup, 1) := by decide +kernel
theorem dX9_tell_34 : decode cX9_tell 34 = .ok (.getfield 93, 3) := by decide +kernel
theorem dX9_tell_37 : decode cX9_tell 37 = .ok (.iconst 1, 1) := by decide +kernel
theorem dX9_tell_38 : decode cX9_tell 38 = .ok (.iadd, 1) := by decide +kernel
theorem dX9_tell_39 : decode cX9_tell 39 = .ok (.putfield 93, 3) := by decide +kernel
theorem dX9_tell_42 : decode cX9_tell 42 = .ok (.aload_n 0, 1) := by decide +kernel
theorem dX9_tell_43 : decode cX9_tell 43 = .ok (.getfield 93, 3) := by decide +kernel
theorem dX9_tell_46 : decode cX9_tell 46 = .ok (.ireturn, 1) := by decide +kernel
theorem dX9_noRow_0 : decode cX9_noRow 0 = .ok (.aload_n 0, 1) := by decide +kernel
theorem dX9_noRow_1 : decode cX9_noRow 1 = .ok (.getfield 93, 3) := by decide +kernel
theorem dX9_noRow_4 : decode cX9_noRow 4 = .ok (.istore_n 1, 1) := by decide +kernel
theorem dX9_noRow_5 : decode cX9_noRow 5 = .ok (.aload_n 0, 1) := by decide +kernel
theorem dX9_noRow_6 : decode cX9_noRow 6 = .ok (.iconst 0, 1) := by decide +kernel
theorem dX9_noRow_7 : decode cX9_noRow 7 = .ok (.putfield 93, 3) := by decide +kernel
theorem dX9_noRow_10 : decode cX9_noRow 10 = .ok (.iload_n 1, 1) := by decide +kernel
theorem dX9_noRow_11 : decode cX9_noRow 11 = .ok (.ireturn, 1) := by decide +kernel
theorem dX9_judge_0 : decode cX9_judge 0 = .ok (.aload_n 0, 1) := by decide +kernel
theorem dX9_judge_1 : decode cX9_judge 1 = .ok (.getfield 7, 3) := by decide +kernel
theorem dX9_judge_4 : decode cX9_judge 4 = .ok (.iconst 3, 1) := by decide +kernel
theorem dX9_judge_5 : decode cX9_judge 5 = .ok (.iaload, 1) := by decide +kernel
theorem dX9_judge_6 : decode cX9_judge 6 = .ok (.istore_n 1, 1) := by decide +kernel
theorem dX9_judge_7 : decode cX9_judge 7 = .ok (.iconst 0, 1) := by decide +kernel
theorem dX9_judge_8 : decode cX9_judge 8 = .ok (.istore_n 2, 1) := by decide +kernel
theorem dX9_judge_9 : decode cX9_judge 9 = .ok (.iload_n 2, 1) := by decide +kernel
theorem dX9_judge_10 : decode cX9_judge 10 = .ok (.aload_n 0, 1) := by decide +kernel
theorem dX9_judge_11 : decode cX9_judge 11 = .ok (.getfield 93, 3) := by decide +kernel
theorem dX9_judge_14 : decode cX9_judge 14 = .ok (.if_icmp .ge 44, 3) := by decide +kernel
theorem dX9_judge_17 : decode cX9_judge 17 = .ok (.aload_n 0, 1) := by decide +kernel
theorem dX9_judge_18 : decode cX9_judge 18 = .ok (.iload_n 1, 1) := by decide +kernel
theorem dX9_judge_19 : decode cX9_judge 19 = .ok (.aload_n 0, 1) := by decide +kernel
theorem dX9_judge_20 : decode cX9_judge 20 = .ok (.getfield 16, 3) := by decide +kernel
theorem dX9_judge_23 : decode cX9_judge 23 = .ok (.iload_n 2, 1) := by decide +kernel
theorem dX9_judge_24 : decode cX9_judge 24 = .ok (.iaload, 1) := by decide +kernel
theorem dX9_judge_25 : decode cX9_judge 25 = .ok (.invokevirtual 139, 3) := by decide +kernel
theorem dX9_judge_28 : decode cX9_judge 28 = .ok (.ifCond .ne 5, 3) := by decide +kernel
theorem dX9_judge_31 : decode cX9_judge 31 = .ok (.iload_n 2, 1) := by decide +kernel
theorem dX9_judge_32 : decode cX9_judge 32 = .ok (.ireturn, 1) := by decide +kernel
theorem dX9_judge_33 : decode cX9_judge 33 = .ok (.iload_n 1, 1) := by decide +kernel
theorem dX9_judge_34 : decode cX9_judge 34 = .ok (.iconst 1, 1) := by decide +kernel
theorem dX9_judge_35 : decode cX9_judge 35 = .ok (.aload_n 0, 1) := by decide +kernel
theorem dX9_judge_36 : decode cX9_judge 36 = .ok (.getfield 7, 3) := by decide +kernel
theorem dX9_judge_39 : decode cX9_judge 39 = .ok (.bipush 25, 2) := by decide +kernel
theorem dX9_judge_41 : decode cX9_judge 41 = .ok (.aload_n 0, 1) := by decide +kernel
theorem dX9_judge_42 : decode cX9_judge 42 = .ok (.getfield 16, 3) := by decide +kernel
theorem dX9_judge_45 : decode cX9_judge 45 = .ok (.iload_n 2, 1) := by decide +kernel
theorem dX9_judge_46 : decode cX9_judge 46 = .ok (.iaload, 1) := by decide +kernel
theorem dX9_judge_47 : decode cX9_judge 47 = .ok (.iadd, 1) := by decide +kernel
theorem dX9_judge_48 : decode cX9_judge 48 = .ok (.iaload, 1) := by decide +kernel
theorem dX9_judge_49 : decode cX9_judge 49 = .ok (.ishl, 1) := by decide +kernel
theorem dX9_judge_50 : decode cX9_judge 50 = .ok (.ior, 1) := by decide +kernel
theorem dX9_judge_51 : decode cX9_judge 51 = .ok (.istore_n 1, 1) := by decide +kernel
theorem dX9_judge_52 : decode cX9_judge 52 = .ok (.iinc 2 1, 3) := by decide +kernel
theorem dX9_judge_55 : decode cX9_judge 55 = .ok (.goto (-46), 3) := by decide +kernel
theorem dX9_judge_58 : decode cX9_judge 58 = .ok (.bipush (-4), 2) := by decide +kernel
theorem dX9_judge_60 : decode cX9_judge 60 = .ok (.ireturn, 1) := by decide +kernel
theorem dX9_year_0 : decode cX9_year 0 = .ok (.iload_n 1, 1) := by decide +kernel
theorem dX9_year_1 : decode cX9_year 1 = .ok (.i2l, 1) := by decide +kernel
theorem dX9_year_2 : decode cX9_year 2 = .ok (.lconst 0, 1) := by decide +kernel
theorem dX9_year_3 : decode cX9_year 3 = .ok (.ldc2_w 172, 3) := by decide +kernel
theorem dX9_year_6 : decode cX9_year 6 = .ok (.invokestatic 43, 3) := by decide +kernel
theorem dX9_year_9 : decode cX9_year 9 = .ok (.ifCond .eq 25, 3) := by decide +kernel
theorem dX9_year_12 : decode cX9_year 12 = .ok (.iload_n 2, 1) := by decide +kernel
theorem dX9_year_13 : decode cX9_year 13 = .ok (.i2l, 1) := by decide +kernel
theorem dX9_year_14 : decode cX9_year 14 = .ok (.lconst 1, 1) := by decide +kernel
theorem dX9_year_15 : decode cX9_year 15 = .ok (.ldc2_w 174, 3) := by decide +kernel
theorem dX9_year_18 : decode cX9_year 18 = .ok (.invokestatic 43, 3) := by decide +kernel
theorem dX9_year_21 : decode cX9_year 21 = .ok (.ifCond .eq 13, 3) := by decide +kernel
theorem dX9_year_24 : decode cX9_year 24 = .ok (.iload_n 3, 1) := by decide +kernel
theorem dX9_year_25 : decode cX9_year 25 = .ok (.i2l, 1) := by decide +kernel
theorem dX9_year_26 : decode cX9_year 26 = .ok (.lconst 0, 1) := by decide +kernel
theorem dX9_year_27 : decode cX9_year 27 = .ok (.lconst 1, 1) := by decide +kernel
theorem dX9_year_28 : decode cX9_year 28 = .ok (.invokestatic 43, 3) := by decide +kernel
theorem dX9_year_31 : decode cX9_year 31 = .ok (.ifCond .ne 5, 3) := by decide +kernel
theorem dX9_year_34 : decode cX9_year 34 = .ok (.iconst (-1), 1) := by decide +kernel
theorem dX9_year_35 : decode cX9_year 35 = .ok (.ireturn, 1) := by decide +kernel
theorem dX9_year_36 : decode cX9_year 36 = .ok (.aload_n 0, 1) := by decide +kernel
theorem dX9_year_37 : decode cX9_year 37 = .ok (.getfield 7, 3) := by decide +kernel
theorem dX9_year_40 : decode cX9_year 40 = .ok (.iconst 3, 1) := by decide +kernel
theorem dX9_year_41 : decode cX9_year 41 = .ok (.iaload, 1) := by decide +kernel
theorem dX9_year_42 : decode cX9_year 42 = .ok (.istore 4, 2) := by decide +kernel
theorem dX9_year_44 : decode cX9_year 44 = .ok (.iconst 0, 1) := by decide +kernel
theorem dX9_year_45 : decode cX9_year 45 = .ok (.istore 5, 2) := by decide +kernel
theorem dX9_year_47 : decode cX9_year 47 = .ok (.iconst 0, 1) := by decide +kernel
theorem dX9_year_48 : decode cX9_year 48 = .ok (.istore 6, 2) := by decide +kernel
theorem dX9_year_50 : decode cX9_year 50 = .ok (.iload 6, 2) := by decide +kernel
theorem dX9_year_52 : decode cX9_year 52 = .ok (.iload_n 2, 1) := by decide +kernel
theorem dX9_year_53 : decode cX9_year 53 = .ok (.if_icmp .ge 78, 3) := by decide +kernel
theorem dX9_year_56 : decode cX9_year 56 = .ok (.ldc2_w 176, 3) := by decide +kernel
theorem dX9_year_59 : decode cX9_year 59 = .ok (.iload_n 1, 1) := by decide +kernel
theorem dX9_year_60 : decode cX9_year 60 = .ok (.i2l, 1) := by decide +kernel
theorem dX9_year_61 : decode cX9_year 61 = .ok (.lmul, 1) := by decide +kernel
theorem dX9_year_62 : decode cX9_year 62 = .ok (.ldc2_w 178, 3) := by decide +kernel
theorem dX9_year_65 : decode cX9_year 65 = .ok (.iload 6, 2) := by decide +kernel
theorem dX9_year_67 : decode cX9_year 67 = .ok (.i2l, 1) := by decide +kernel
theorem dX9_year_68 : decode cX9_year 68 = .ok (.lmul, 1) := by decide +kernel
theorem dX9_year_69 : decode cX9_year 69 = .ok (.ladd, 1) := by decide +kernel
theorem dX9_year_70 : decode cX9_year 70 = .ok (.lconst 1, 1) := by decide +kernel
theorem dX9_year_71 : decode cX9_year 71 = .ok (.ladd, 1) := by decide +kernel
theorem dX9_year_72 : decode cX9_year 72 = .ok (.lstore 7, 2) := by decide +kernel
theorem dX9_year_74 : decode cX9_year 74 = .ok (.lload 7, 2) := by decide +kernel
theorem dX9_year_76 : decode cX9_year 76 = .ok (.lload 7, 2) := by decide +kernel
theorem dX9_year_78 : decode cX9_year 78 = .ok (.lmul, 1) := by decide +kernel
theorem dX9_year_79 : decode cX9_year 79 = .ok (.ldc2_w 180, 3) := by decide +kernel
theorem dX9_year_82 : decode cX9_year 82 = .ok (.lrem, 1) := by decide +kernel
theorem dX9_year_83 : decode cX9_year 83 = .ok (.aload_n 0, 1) := by decide +kernel
theorem dX9_year_84 : decode cX9_year 84 = .ok (.getfield 7, 3) := by decide +kernel
theorem dX9_year_87 : decode cX9_year 87 = .ok (.iconst 4, 1) := by decide +kernel
theorem dX9_year_88 : decode cX9_year 88 = .ok (.iaload, 1) := by decide +kernel
theorem dX9_year_89 : decode cX9_year 89 = .ok (.i2l, 1) := by decide +kernel
theorem dX9_year_90 : decode cX9_year 90 = .ok (.lrem, 1) := by decide +kernel
theorem dX9_year_91 : decode cX9_year 91 = .ok (.l2i, 1) := by decide +kernel
theorem dX9_year_92 : decode cX9_year 92 = .ok (.istore 9, 2) := by decide +kernel
theorem dX9_year_94 : decode cX9_year 94 = .ok (.aload_n 0, 1) := by decide +kernel
theorem dX9_year_95 : decode cX9_year 95 = .ok (.iload 4, 2) := by decide +kernel
theorem dX9_year_97 : decode cX9_year 97 = .ok (.iload 9, 2) := by decide +kernel
theorem dX9_year_99 : decode cX9_year 99 = .ok (.invokevirtual 139, 3) := by decide +kernel
theorem dX9_year_102 : decode cX9_year 102 = .ok (.ifCond .eq 23, 3) := by decide +kernel
theorem dX9_year_105 : decode cX9_year 105 = .ok (.iload 4, 2) := by decide +kernel
theorem dX9_year_107 : decode cX9_year 107 = .ok (.iconst 1, 1) := by decide +kernel
theorem dX9_year_108 : decode cX9_year 108 = .ok (.aload_n 0, 1) := by decide +kernel
theorem dX9_year_109 : decode cX9_year 109 = .ok (.getfield 7, 3) := by decide +kernel
theorem dX9_year_112 : decode cX9_year 112 = .ok (.bipush 25, 2) := by decide +kernel
theorem dX9_year_114 : decode cX9_year 114 = .ok (.iload 9, 2) := by decide +kernel
theorem dX9_year_116 : decode cX9_year 116 = .ok (.iadd, 1) := by decide +kernel
theorem dX9_year_117 : decode cX9_year 117 = .ok (.iaload, 1) := by decide +kernel
theorem dX9_year_118 : decode cX9_year 118 = .ok (.ishl, 1) := by decide +kernel
theorem dX9_year_119 : decode cX9_year 119 = .ok (.ior, 1) := by decide +kernel
theorem dX9_year_120 : decode cX9_year 120 = .ok (.istore 4, 2) := by decide +kernel
theorem dX9_year_122 : decode cX9_year 122 = .ok (.iinc 5 1, 3) := by decide +kernel
theorem dX9_year_125 : decode cX9_year 125 = .ok (.iinc 6 1, 3) := by decide +kernel
theorem dX9_year_128 : decode cX9_year 128 = .ok (.goto (-78), 3) := by decide +kernel
theorem dX9_year_131 : decode cX9_year 131 = .ok (.iload_n 3, 1) := by decide +kernel
theorem dX9_year_132 : decode cX9_year 132 = .ok (.ifCond .ne 8, 3) := by decide +kernel
theorem dX9_year_135 : decode cX9_year 135 = .ok (.iload 5, 2) := by decide +kernel
theorem dX9_year_137 : decode cX9_year 137 = .ok (.goto 5, 3) := by decide +kernel
theorem dX9_year_140 : decode cX9_year 140 = .ok (.iload 4, 2) := by decide +kernel
theorem dX9_year_142 : decode cX9_year 142 = .ok (.ireturn, 1) := by decide +kernel
theorem dX9_keep_0 : decode cX9_keep 0 = .ok (.aload_n 0, 1) := by decide +kernel
theorem dX9_keep_1 : decode cX9_keep 1 = .ok (.getfield 99, 3) := by decide +kernel
theorem dX9_keep_4 : decode cX9_keep 4 = .ok (.iconst 2, 1) := by decide +kernel
theorem dX9_keep_5 : decode cX9_keep 5 = .ok (.if_icmp .ne 6, 3) := by decide +kernel
theorem dX9_keep_8 : decode cX9_keep 8 = .ok (.bipush (-3), 2) := by decide +kernel
theorem dX9_keep_10 : decode cX9_keep 10 = .ok (.ireturn, 1) := by decide +kernel
theorem dX9_keep_11 : decode cX9_keep 11 = .ok (.aload_n 0, 1) := by decide +kernel
theorem dX9_keep_12 : decode cX9_keep 12 = .ok (.iconst 0, 1) := by decide +kernel
theorem dX9_keep_13 : decode cX9_keep 13 = .ok (.bipush 55, 2) := by decide +kernel
theorem dX9_keep_15 : decode cX9_keep 15 = .ok (.bipush 55, 2) := by decide +kernel
theorem dX9_keep_17 : decode cX9_keep 17 = .ok (.aload_n 0, 1) := by decide +kernel
theorem dX9_keep_18 : decode cX9_keep 18 = .ok (.getfield 99, 3) := by decide +kernel
theorem dX9_keep_21 : decode cX9_keep 21 = .ok (.imul, 1) := by decide +kernel
theorem dX9_keep_22 : decode cX9_keep 22 = .ok (.iadd, 1) := by decide +kernel
theorem dX9_keep_23 : decode cX9_keep 23 = .ok (.invokevirtual 89, 3) := by decide +kernel
theorem dX9_keep_26 : decode cX9_keep 26 = .ok (.aload_n 0, 1) := by decide +kernel
theorem dX9_keep_27 : decode cX9_keep 27 = .ok (.dup, 1) := by decide +kernel
theorem dX9_keep_28 : decode cX9_keep 28 = .ok (.getfield 99, 3) := by decide +kernel
theorem dX9_keep_31 : decode cX9_keep 31 = .ok (.iconst 1, 1) := by decide +kernel
theorem dX9_keep_32 : decode cX9_keep 32 = .ok (.iadd, 1) := by decide +kernel
theorem dX9_keep_33 : decode cX9_keep 33 = .ok (.putfield 99, 3) := by decide +kernel
theorem dX9_keep_36 : decode cX9_keep 36 = .ok (.aload_n 0, 1) := by decide +kernel
theorem dX9_keep_37 : decode cX9_keep 37 = .ok (.getfield 99, 3) := by decide +kernel
theorem dX9_keep_40 : decode cX9_keep 40 = .ok (.ireturn, 1) := by decide +kernel
theorem dX9_back_0 : decode cX9_back 0 = .ok (.aload_n 0, 1) := by decide +kernel
theorem dX9_back_1 : decode cX9_back 1 = .ok (.getfield 99, 3) := by decide +kernel
theorem dX9_back_4 : decode cX9_back 4 = .ok (.ifCond .ne 6, 3) := by decide +kernel
theorem dX9_back_7 : decode cX9_back 7 = .ok (.bipush (-2), 2) := by decide +kernel
theorem dX9_back_9 : decode cX9_back 9 = .ok (.ireturn, 1) := by decide +kernel
theorem dX9_back_10 : decode cX9_back 10 = .ok (.aload_n 0, 1) := by decide +kernel
theorem dX9_back_11 : decode cX9_back 11 = .ok (.dup, 1) := by decide +kernel
theorem dX9_back_12 : decode cX9_back 12 = .ok (.getfield 99, 3) := by decide +kernel
theorem dX9_back_15 : decode cX9_back 15 = .ok (.iconst 1, 1) := by decide +kernel
theorem dX9_back_16 : decode cX9_back 16 = .ok (.isub, 1) := by decide +kernel
theorem dX9_back_17 : decode cX9_back 17 = .ok (.putfield 99, 3) := by decide +kernel
theorem dX9_back_20 : decode cX9_back 20 = .ok (.aload_n 0, 1) := by decide +kernel
theorem dX9_back_21 : decode cX9_back 21 = .ok (.bipush 55, 2) := by decide +kernel
theorem dX9_back_23 : decode cX9_back 23 = .ok (.bipush 55, 2) := by decide +kernel
theorem dX9_back_25 : decode cX9_back 25 = .ok (.aload_n 0, 1) := by decide +kernel
theorem dX9_back_26 : decode cX9_back 26 = .ok (.getfield 99, 3) := by decide +kernel
theorem dX9_back_29 : decode cX9_back 29 = .ok (.imul, 1) := by decide +kernel
theorem dX9_back_30 : decode cX9_back 30 = .ok (.iadd, 1) := by decide +kernel
theorem dX9_back_31 : decode cX9_back 31 = .ok (.iconst 0, 1) := by decide +kernel
theorem dX9_back_32 : decode cX9_back 32 = .ok (.invokevirtual 89, 3) := by decide +kernel
theorem dX9_back_35 : decode cX9_back 35 = .ok (.aload_n 0, 1) := by decide +kernel
theorem dX9_back_36 : decode cX9_back 36 = .ok (.iconst 0, 1) := by decide +kernel
theorem dX9_back_37 : decode cX9_back 37 = .ok (.putfield 93, 3) := by decide +kernel
theorem dX9_back_40 : decode cX9_back 40 = .ok (.aload_n 0, 1) := by decide +kernel
theorem dX9_back_41 : decode cX9_back 41 = .ok (.iconst 0, 1) := by decide +kernel
theorem dX9_back_42 : decode cX9_back 42 = .ok (.putfield 96, 3) := by decide +kernel
theorem dX9_back_45 : decode cX9_back 45 = .ok (.aload_n 0, 1) := by decide +kernel
theorem dX9_back_46 : decode cX9_back 46 = .ok (.getfield 99, 3) := by decide +kernel
theorem dX9_back_49 : decode cX9_back 49 = .ok (.ireturn, 1) := by decide +kernel
theorem dX9_count_0 : decode cX9_count 0 = .ok (.iload_n 1, 1) := by decide +kernel
theorem dX9_count_1 : decode cX9_count 1 = .ok (.tableswitch 101 0 7 #[47, 54, 61, 71, 81, 86, 91, 96], 47) := by decide +kernel
theorem dX9_count_48 : decode cX9_count 48 = .ok (.aload_n 0, 1) := by decide +kernel
theorem dX9_count_49 : decode cX9_count 49 = .ok (.getfield 7, 3) := by decide +kernel
theorem dX9_count_52 : decode cX9_count 52 = .ok (.iconst 0, 1) := by decide +kernel
theorem dX9_count_53 : decode cX9_count 53 = .ok (.iaload, 1) := by decide +kernel
theorem dX9_count_54 : decode cX9_count 54 = .ok (.ireturn, 1) := by decide +kernel
theorem dX9_count_55 : decode cX9_count 55 = .ok (.aload_n 0, 1) := by decide +kernel
theorem dX9_count_56 : decode cX9_count 56 = .ok (.getfield 7, 3) := by decide +kernel
theorem dX9_count_59 : decode cX9_count 59 = .ok (.iconst 4, 1) := by decide +kernel
theorem dX9_count_60 : decode cX9_count 60 = .ok (.iaload, 1) := by decide +kernel
theorem dX9_count_61 : decode cX9_count 61 = .ok (.ireturn, 1) := by decide +kernel
theorem dX9_count_62 : decode cX9_count 62 = .ok (.aload_n 0, 1) := by decide +kernel
theorem dX9_count_63 : decode cX9_count 63 = .ok (.getfield 7, 3) := by decide +kernel
theorem dX9_count_66 : decode cX9_count 66 = .ok (.iconst 2, 1) := by decide +kernel
theorem dX9_count_67 : decode cX9_count 67 = .ok (.iaload, 1) := by decide +kernel
theorem dX9_count_68 : decode cX9_count 68 = .ok (.invokestatic 122, 3) := by decide +kernel
theorem dX9_count_71 : decode cX9_count 71 = .ok (.ireturn, 1) := by decide +kernel
theorem dX9_count_72 : decode cX9_count 72 = .ok (.aload_n 0, 1) := by decide +kernel
theorem dX9_count_73 : decode cX9_count 73 = .ok (.getfield 7, 3) := by decide +kernel
theorem dX9_count_76 : decode cX9_count 76 = .ok (.iconst 3, 1) := by decide +kernel
theorem dX9_count_77 : decode cX9_count 77 = .ok (.iaload, 1) := by decide +kernel
theorem dX9_count_78 : decode cX9_count 78 = .ok (.invokestatic 122, 3) := by decide +kernel
theorem dX9_count_81 : decode cX9_count 81 = .ok (.ireturn, 1) := by decide +kernel
theorem dX9_count_82 : decode cX9_count 82 = .ok (.aload_n 0, 1) := by decide +kernel
theorem dX9_count_83 : decode cX9_count 83 = .ok (.getfield 93, 3) := by decide +kernel
theorem dX9_count_86 : decode cX9_count 86 = .ok (.ireturn, 1) := by decide +kernel
theorem dX9_count_87 : decode cX9_count 87 = .ok (.aload_n 0, 1) := by decide +kernel
theorem dX9_count_88 : decode cX9_count 88 = .ok (.getfield 96, 3) := by decide +kernel
theorem dX9_count_91 : decode cX9_count 91 = .ok (.ireturn, 1) := by decide +kernel
theorem dX9_count_92 : decode cX9_count 92 = .ok (.aload_n 0, 1) := by decide +kernel
theorem dX9_count_93 : decode cX9_count 93 = .ok (.getfield 99, 3) := by decide +kernel
theorem dX9_count_96 : decode cX9_count 96 = .ok (.ireturn, 1) := by decide +kernel
theorem dX9_count_97 : decode cX9_count 97 = .ok (.aload_n 0, 1) := by decide +kernel
theorem dX9_count_98 : decode cX9_count 98 = .ok (.getfield 49, 3) := by decide +kernel
theorem dX9_count_101 : decode cX9_count 101 = .ok (.ireturn, 1) := by decide +kernel
theorem dX9_count_102 : decode cX9_count 102 = .ok (.iconst (-1), 1) := by decide +kernel
theorem dX9_count_103 : decode cX9_count 103 = .ok (.ireturn, 1) := by decide +kernel
end
section
-- THE WORLD: a fixed number of cells, each an int row, a long row or an object whose fields are ints or fixed references
abbrev Sg : Type := (Nat → Nat → Int32) × (Nat → Nat → Int64)
abbrev Sh : Type := Nat → Nat × Nat × List (Nat ⊕ Nat)
def fv (ad : Nat → Nat) (σ : Sg) (k : Nat) : Nat ⊕ Nat → Value := fun x => match x with
  | .inl j => .int (σ.1 k j)
  | .inr j => .ref (ad j)
def ceOf (aI aL : ClassId) (ad : Nat → Nat) (σ : Sg) (k : Nat) (x : Nat × Nat × List (Nat ⊕ Nat)) : va_E := match x with
  | (0, n, _) => .inl (aI, n, .inl (σ.1 k))
  | (1, n, _) => .inl (aL, n, .inr (.inl (σ.2 k)))
  | (c + 2, _, fl) => .inr (c, fl.map (fv ad σ k))
def wl (aI aL : ClassId) (N : Nat) (sh : Sh) (ad : Nat → Nat) (σ : Sg) : va_W := (List.range N).map fun k => (ad k, ceOf aI aL ad σ k (sh k))
def Wd (D : va_G) (aI aL : ClassId) (N : Nat) (sh : Sh) (ad : Nat → Nat) (σ : Sg) (H : Heap) : Prop := va_P D vwCl (wl aI aL N sh ad σ) H
def AA (ad : Nat → Nat) (N sz : Nat) : Nat → Prop := fun q => (∃ k, k < N ∧ q = ad k) ∨ sz ≤ q
def Inj (ad : Nat → Nat) (N : Nat) : Prop := ∀ i j, i < N → j < N → ad i = ad j → i = j
theorem wl_get {aI aL : ClassId} {N : Nat} {sh : Sh} {ad : Nat → Nat} {σ : Sg} {k : Nat} (hk : k < N) : (wl aI aL N sh ad σ)[k]? = some (ad k, ceOf aI aL ad σ k (sh k)) := by
  unfold wl
  rw [List.getElem?_map, List.getElem?_range hk]
  rfl
theorem wl_lt {aI aL : ClassId} {N : Nat} {sh : Sh} {ad : Nat → Nat} {σ : Sg} {k : Nat} {q : Nat × va_E} (h : (wl aI aL N sh ad σ)[k]? = some q) : k < N := by
  have h1 := (List.getElem?_eq_some_iff.mp h).1
  simpa [wl] using h1
theorem wl_in {aI aL : ClassId} {N : Nat} {sh : Sh} {ad : Nat → Nat} {σ : Sg} {k : Nat} {q : Nat × va_E} (h : (wl aI aL N sh ad σ)[k]? = some q) : k < N ∧ q = (ad k, ceOf aI aL ad σ k (sh k)) := by
  have h1 := wl_lt h
  rw [wl_get h1] at h
  exact ⟨h1, (Option.some.inj h).symm⟩
theorem wl_D {aI aL : ClassId} {N : Nat} {sh : Sh} {ad : Nat → Nat} {σ : Sg} {A : Nat → Prop} (inj : Inj ad N) (hA : ∀ k, k < N → A (ad k)) : va_D A (wl aI aL N sh ad σ) := by
  refine ⟨fun i j p q hi hj e => ?_, fun k q hk => ?_⟩
  · obtain ⟨h1, rfl⟩ := wl_in hi
    obtain ⟨h2, rfl⟩ := wl_in hj
    exact inj i j h1 h2 e
  · obtain ⟨h1, rfl⟩ := wl_in hk
    exact hA k h1
theorem wl_set {aI aL : ClassId} {N : Nat} {sh : Sh} {ad : Nat → Nat} {σ σ' : Sg} {k : Nat} {e : va_E} (h1 : ceOf aI aL ad σ' k (sh k) = e) (h2 : ∀ j, j ≠ k → ceOf aI aL ad σ' j (sh j) = ceOf aI aL ad σ j (sh j)) : (wl aI aL N sh ad σ).set k (ad k, e) = wl aI aL N sh ad σ' := by
  apply List.ext_getElem?
  intro j
  by_cases hj : j < N
  · rw [wl_get hj]
    by_cases hk : j = k
    · subst hk
      rw [List.getElem?_set_self (by simpa [wl] using hj), h1]
    · rw [List.getElem?_set_ne (fun q => hk q.symm), wl_get hj, h2 j hk]
  · rw [List.getElem?_eq_none (by simpa [wl] using hj), List.getElem?_eq_none (by simpa [wl] using hj)]
def up1 (σ : Sg) (k i : Nat) (v : Int32) : Sg := (fun a => if a = k then upd (σ.1 a) i v else σ.1 a, σ.2)
def upL (σ : Sg) (k i : Nat) (v : Int64) : Sg := (σ.1, fun a => if a = k then vp_updL (σ.2 a) i v else σ.2 a)
def ald (σ : Sg) (k n : Nat) (i : Int32) : Option Int32 := if i < 0 ∨ n ≤ i.toNatClampNeg then none else some (σ.1 k i.toNatClampNeg)
def ast (σ : Sg) (k n : Nat) (i v : Int32) : Option Sg := if i < 0 ∨ n ≤ i.toNatClampNeg then none else some (up1 σ k i.toNatClampNeg v)
def aldL (σ : Sg) (k n : Nat) (i : Int32) : Option Int64 := if i < 0 ∨ n ≤ i.toNatClampNeg then none else some (σ.2 k i.toNatClampNeg)
def astL (σ : Sg) (k n : Nat) (i : Int32) (v : Int64) : Option Sg := if i < 0 ∨ n ≤ i.toNatClampNeg then none else some (upL σ k i.toNatClampNeg v)
def pfi (σ : Sg) (k j : Nat) (v : Int32) : Option Sg := some (up1 σ k j v)
def pfz (σ : Sg) (k j : Nat) (v : Int32) : Option Sg := if v = 0 ∨ v = 1 then some (up1 σ k j v) else none
def zrt (v : Int32) : Option Int32 := if v = 0 ∨ v = 1 then some v else none
def lrm (x y : Int64) : Option Int64 := if y = 0 then none else some (x - x / y * y)
def nm {α β : Type} (a : α) (f : α → Option β) : Option β := f a
theorem nm_inv {α β : Type} {a : α} {f : α → Option β} {y : β} (h : nm a f = some y) : ∃ z, z = a ∧ f z = some y := ⟨a, rfl, h⟩
theorem bnd {α β : Type} {a : Option α} {f : α → Option β} {y : β} (h : a.bind f = some y) : ∃ z, a = some z ∧ f z = some y := by
  cases a with
  | none => cases h
  | some z => exact ⟨z, rfl, h⟩
theorem mapi {α β : Type} {a : Option α} {f : α → β} {y : β} (h : a.map f = some y) : ∃ z, a = some z ∧ f z = y := by
  cases a with
  | none => cases h
  | some z => exact ⟨z, rfl, Option.some.inj h⟩
theorem ift {α : Type} {c : Prop} [Decidable c] {a b y : α} (h : (if c then a else b) = y) (hc : c) : a = y := by rw [if_pos hc] at h; exact h
theorem iff' {α : Type} {c : Prop} [Decidable c] {a b y : α} (h : (if c then a else b) = y) (hc : ¬ c) : b = y := by rw [if_neg hc] at h; exact h
-- a loop: a step goes on, or goes out
def itr {S X : Type} : Nat → (S → Option (S ⊕ X)) → S → Option X
  | 0, _, _ => none
  | n + 1, F, s => (F s).bind fun y => match y with
    | .inl s' => itr n F s'
    | .inr x => some x
def KK {S X : Type} (n : Nat) (F : S → Option (S ⊕ X)) (K : X → Prop) : S ⊕ X → Prop := fun y => match y with
  | .inl s => ∃ x, itr n F s = some x ∧ K x
  | .inr x => K x
theorem itr_inv {S X : Type} {n : Nat} {F : S → Option (S ⊕ X)} {s : S} {x : X} {K : X → Prop} (h : itr (n + 1) F s = some x) (hK : K x) : ∃ y, F s = some y ∧ KK n F K y := by
  obtain ⟨y, h1, h2⟩ := bnd (show ((F s).bind fun y => match y with
    | .inl s' => itr n F s'
    | .inr x => some x) = some x from h)
  refine ⟨y, h1, ?_⟩
  cases y with
  | inl s' => exact ⟨x, h2, hK⟩
  | inr z => cases h2; exact hK
-- what is said of nest mates
def nestWs : List Cond := [.methodLinkNest RX8 11 yX6_init RX8, .methodLinkNest RX8 18 yX4_init RX8, .methodLinkNest RX8 25 yX1_init RX8, .methodLinkNest RX8 41 yX2_init RX8, .methodLinkNest RX8 48 yX7_init RX8, .methodLinkNest RX8 55 yX3_init RX8, .methodLinkNest RX6 19 yX8_put RX8, .methodLinkNest RX1 30 yX8_clearRow RX8, .methodLinkNest RX6 37 yX8_at RX8, .methodLinkNest RX4 55 yX8_put RX8, .methodLinkNest RX4 63 yX8_at RX8, .methodLinkNest RX1 72 yX8_put RX8, .methodLinkNest RX1 76 yX8_at RX8, .methodLinkNest RX1 48 yX8_copy RX8, .methodLinkNest RX1 92 yX8_holdsAll RX8, .methodLinkNest RX2 33 yX8_at RX8, .methodLinkNest RX2 29 yX8_put RX8, .methodLinkNest RX1 80 yX8_has RX8, .methodLinkNest RX7 27 yX8_holdsAll RX8, .methodLinkNest RX7 35 yX8_has RX8, .methodLinkNest RX7 45 yX8_at RX8, .methodLinkNest RX7 49 yX8_put RX8, .methodLinkNest RX0 24 yX8_has RX8, .methodLinkNest RX0 48 yX8_holdsAll RX8, .methodLinkNest RX5 29 yX8_has RX8, .methodLinkNest RX3 28 yX8_put RX8, .methodLinkNest RX3 32 yX8_at RX8, .methodLinkNest RX3 53 yX8_has RX8]
def NW (U : State) : Prop := ∀ w ∈ nestWs, va_Nw w U
theorem NW_warm {s U : State} (hW : s.WarmedH U.vm) (h : NW s) : NW U := by
  have key : ∀ (l : List Cond), (∀ w ∈ l, ∃ a i x q, w = Cond.methodLinkNest a i x q) → (∀ w ∈ l, va_Nw w s) → ∀ w ∈ l, va_Nw w U := by
    intro l h1 h2 w hw
    obtain ⟨a, i, x, q, rfl⟩ := h1 w hw
    exact va_Nw.warmM hW (h2 _ hw)
  refine key nestWs ?_ h
  unfold nestWs
  simp
theorem NW_call {U : State} (h : NW U) (g : JFrame) (mk : MethodId) (a : Array Value) : NW (U.calling g mk a) := by
  have key : ∀ (l : List Cond), (∀ w ∈ l, ∃ a i x q, w = Cond.methodLinkNest a i x q) → (∀ w ∈ l, va_Nw w U) → ∀ w ∈ l, va_Nw w (U.calling g mk a) := by
    intro l h1 h2 w hw
    obtain ⟨a, i, x, q, rfl⟩ := h1 w hw
    exact va_Nw.same rfl rfl (h2 _ hw)
  refine key nestWs ?_ h
  unfold nestWs
  simp
def tysIL (aI aL : ClassId) : List (ClassId × FieldType) := [(aI, .int), (aL, .long)]
abbrev CT (p : Program) (m : MethodId) (c : Code) (cc : ByteArray) (nL : Nat) (s : State) (args : Array Value) (own : String) (D : va_G) (aI aL : ClassId) : Prop :=
  CallFix p m c cc nL s args WA own ∧ va_K D vwCl (tysIL aI aL) s ∧ NW s
abbrev HS (D : va_G) (aI aL : ClassId) (N : Nat) (sh : Sh) (ad : Nat → Nat) (σ : Sg) (s : State) (H : Heap) (locs : List Loc) : Prop :=
  Wd D aI aL N sh ad σ H ∧ va_S (AA ad N s.heap.size) s.heap H locs ∧ Inj ad N
def wS (y : MethodName) (b : ByteArray) (n : Nat) (ret : Option FieldType) : List Cond := .code y b n ret :: WA
def Pw (D : va_G) (aI aL : ClassId) (N : Nat) (sh : Sh) (ad : Nat → Nat) (sz : Nat) (σ : Sg) (av : List Value) : Array Value → State → Prop :=
  va_Pc av (fun U => U.heap.size = sz ∧ Wd D aI aL N sh ad σ U.heap ∧ va_K D vwCl (tysIL aI aL) U ∧ NW U)
def Qi (D : va_G) (aI aL : ClassId) (N : Nat) (sh : Sh) (ad : Nat → Nat) (r0 : Int32) (σ0 : Sg) (sz : Nat) : Array Value → State → Outcome → State → Prop :=
  va_Qi (fun (r : Int32) (u : Sg) => r = r0 ∧ u = σ0) (fun u t => Wd D aI aL N sh ad u t.heap) (AA ad N sz)
def Ql (D : va_G) (aI aL : ClassId) (N : Nat) (sh : Sh) (ad : Nat → Nat) (r0 : Int64) (σ0 : Sg) (sz : Nat) : Array Value → State → Outcome → State → Prop :=
  va_Ql (fun (r : Int64) (u : Sg) => r = r0 ∧ u = σ0) (fun u t => Wd D aI aL N sh ad u t.heap) (AA ad N sz)
def Qv (D : va_G) (aI aL : ClassId) (N : Nat) (sh : Sh) (ad : Nat → Nat) (σ0 : Sg) (sz : Nat) : Array Value → State → Outcome → State → Prop :=
  va_Qv (fun (u : Sg) => u = σ0) (fun u t => Wd D aI aL N sh ad u t.heap) (AA ad N sz)
def Qr (D : va_G) (aI aL : ClassId) (N : Nat) (sh : Sh) (ad : Nat → Nat) (k0 : Nat) (σ0 : Sg) (sz : Nat) : Array Value → State → Outcome → State → Prop :=
  va_Qr (fun (u : Nat × Sg) => u = (k0, σ0)) (fun u a t => a = ad u.1 ∧ Wd D aI aL N sh ad u.2 t.heap) (AA ad N sz)
def RM (fr lo : Nat) : Room := { frames := fr, cells := 0, slots := 0, locals := lo }
theorem tA {y : MethodName} {b : ByteArray} {n : Nat} {ret : Option FieldType} {args : Array Value} {s : State} (h : ∀ w ∈ wS y b n ret, w.before args s = true) : ∀ w ∈ WA, w.before args s = true := fun w hw => h w (List.mem_cons_of_mem _ hw)
theorem goodWA {y : MethodName} {b : ByteArray} {n : Nat} {ret : Option FieldType} (h : Cond.code y b n ret ∈ WA) : GoodIn WA (wS y b n ret) := by
  intro w hw
  rcases List.mem_cons.mp hw with rfl | hw
  · exact ⟨h, good_of_word (wa_good _ h)⟩
  · exact ⟨hw, good_of_word (wa_good _ hw)⟩
theorem goodIn_ap {big a b : List Cond} (ha : GoodIn big a) (hb : GoodIn big b) : GoodIn big (a ++ b) := fun w h => (List.mem_append.mp h).elim (ha w) (hb w)
theorem gV {own C : String} {idx : Nat} {y : MethodName} {b : ByteArray} {n : Nat} {ret : Option FieldType} (h1 : Cond.methodLink own idx y ∈ WA) (h2 : Cond.instanceMethod y ∈ WA) (h3 : Cond.selects C y y ∈ WA) (h4 : Cond.initialized C ∈ WA) (h5 : Cond.code y b n ret ∈ WA) : GoodIn WA (wsV own idx C y (wS y b n ret)) := by
  refine goodIn_ap (fun w hw => ?_) (goodWA h5)
  have : w ∈ WA := by
    simp only [List.mem_cons, List.not_mem_nil, or_false] at hw
    rcases hw with rfl | rfl | rfl | rfl <;> assumption
  exact ⟨this, good_of_word (wa_good _ this)⟩
theorem gS {own : String} {idx : Nat} {y : MethodName} {b : ByteArray} {n : Nat} {ret : Option FieldType} (h1 : Cond.methodLink own idx y ∈ WA) (h2 : Cond.static y ∈ WA) (h4 : Cond.initialized own ∈ WA) (h5 : Cond.code y b n ret ∈ WA) : GoodIn WA (wsS own idx y (wS y b n ret)) := by
  refine goodIn_ap (fun w hw => ?_) (goodWA h5)
  have : w ∈ WA := by
    simp only [List.mem_cons, List.not_mem_nil, or_false] at hw
    rcases hw with rfl | rfl | rfl <;> assumption
  exact ⟨this, good_of_word (wa_good _ this)⟩
section MW
variable {p : Program} {l : Launch} {e : Env} {R : Room} {s : State} {m : MethodId} {args : Array Value} {below : List Frame} {meth : Method} {c : Code} {H : Heap} {locs : List Loc} {Q : State → Prop}
variable {cc : ByteArray} {nL : Nat} {own : String} {D : va_G} {aI aL : ClassId} {N : Nat} {sh : Sh} {ad : Nat → Nat} {σ : Sg} {pc : Nat} {ls : Array Slot} {rest : List Value}
theorem hsD (h : HS D aI aL N sh ad σ s H locs) : va_D (AA ad N s.heap.size) (wl aI aL N sh ad σ) := wl_D h.2.2 (fun k hk => Or.inl ⟨k, hk, rfl⟩)
set_option maxHeartbeats 1000000 in
theorem w_get (C : CT p m c cc nL s args own D aI aL) (hP : HS D aI aL N sh ad σ s H locs) {k : Nat} (hk : k < N) (ci : Nat) {Nf : Nat} {fl : List (Nat ⊕ Nat)} (hsh : sh k = (ci + 2, Nf, fl)) {Cn : String} {T : u_T} (hc : vwCl[ci]? = some (Cn, T, Nf)) (hin : ∀ w ∈ u_ws Cn T Nf, w ∈ WA) (j : Nat) (hj : j < Nf) {index : Nat} (hl : Cond.fieldLink own index (T j).1 (T j).2.1 (T j).2.2.1 ∈ WA) {v : Value} (hv : (fl.map (fv ad σ k))[j]? = some v) (d : decode cc pc = .ok (.getfield index, 3))
    (kk : W p l e R s m args below meth c H locs 0 0 Q (F0 m (pc + 3) ls (v :: rest))) : W p l e R s m args below meth c H locs 0 0 Q (F0 m pc ls (.ref (ad k) :: rest)) := by
  obtain ⟨⟨hx, hb, hml, hown, hts⟩, hK, hN⟩ := C
  refine va_get (ci := ci) hx hb hts hin hown hK hP.1 k (fs := fl.map (fv ad σ k)) ?_ hc j hj (hts _ hl) (fun _ h => h) hv d kk
  rw [wl_get hk, hsh]
  rfl
def flok : Nat → List (Nat ⊕ Nat) → Bool := fun i l => match l with
  | [] => true
  | .inl j :: r => (j == i) && flok (i + 1) r
  | .inr _ :: r => flok (i + 1) r
theorem flok_at : ∀ (l : List (Nat ⊕ Nat)) (i j x : Nat), flok i l = true → l[j]? = some (.inl x) → x = i + j := by
  intro l
  induction l with
  | nil => intro i j x _ h; simp at h
  | cons a r ih =>
    intro i j x h1 h2
    cases j with
    | zero =>
      rw [List.getElem?_cons_zero] at h2
      cases h2
      unfold flok at h1
      simp only [Bool.and_eq_true, beq_iff_eq] at h1
      omega
    | succ j =>
      rw [List.getElem?_cons_succ] at h2
      have h3 : flok (i + 1) r = true := by
        cases a with
        | inl y => unfold flok at h1; simp only [Bool.and_eq_true] at h1; exact h1.2
        | inr y => unfold flok at h1; exact h1
      have := ih (i + 1) j x h3 h2
      omega
theorem fl_set {fl : List (Nat ⊕ Nat)} {k j : Nat} {v : Int32} (hf : flok 0 fl = true) (hj : fl[j]? = some (.inl j)) : (fl.map (fv ad σ k)).set j (.int v) = fl.map (fv ad (up1 σ k j v) k) := by
  apply List.ext_getElem?
  intro i
  have hl := (List.getElem?_eq_some_iff.mp hj).1
  by_cases hi : i = j
  · subst hi
    rw [List.getElem?_set_self (by simpa using hl), List.getElem?_map, hj]
    simp [fv, up1, upd]
  · rw [List.getElem?_set_ne (fun q => hi q.symm), List.getElem?_map, List.getElem?_map]
    cases hq : fl[i]? with
    | none => rfl
    | some x =>
      cases x with
      | inr y => rfl
      | inl y =>
        have := flok_at fl 0 i y hf hq
        simp [fv, up1, upd, show y ≠ j by omega]
theorem ce_up1 {x : Nat × Nat × List (Nat ⊕ Nat)} {k j i : Nat} {v : Int32} (h : j ≠ k) : ceOf aI aL ad (up1 σ k i v) j x = ceOf aI aL ad σ j x := by
  obtain ⟨a, n, fl⟩ := x
  match a with
  | 0 => simp [ceOf, up1, h]
  | 1 => simp [ceOf, up1]
  | a + 2 =>
    simp only [ceOf]
    congr 2
    apply List.map_congr_left
    intro y _
    cases y <;> simp [fv, up1, h]
theorem ce_upL {x : Nat × Nat × List (Nat ⊕ Nat)} {k j i : Nat} {v : Int64} (h : j ≠ k) : ceOf aI aL ad (upL σ k i v) j x = ceOf aI aL ad σ j x := by
  obtain ⟨a, n, fl⟩ := x
  match a with
  | 0 => simp [ceOf, upL]
  | 1 => simp [ceOf, upL, h]
  | a + 2 =>
    simp only [ceOf]
    congr 2
theorem w_put0 (C : CT p m c cc nL s args own D aI aL) (hP : HS D aI aL N sh ad σ s H locs) {k : Nat} (hk : k < N) (ci : Nat) {Nf : Nat} {fl : List (Nat ⊕ Nat)} (hsh : sh k = (ci + 2, Nf, fl)) {Cn : String} {T : u_T} (hc : vwCl[ci]? = some (Cn, T, Nf)) (hin : ∀ w ∈ u_ws Cn T Nf, w ∈ WA) (ty : Nat → FieldType) (hty : ∀ k, k < Nf → parseFieldDescriptor (T k).2.2.1 = some (ty k)) (hnm : ∀ a, a < Nf → ∀ b, b < Nf → a ≠ b → (T a).2.1 ≠ (T b).2.1) (j : Nat) (hj : j < Nf) {index : Nat} (hl : Cond.fieldLink own index (T j).1 (T j).2.1 (T j).2.2.1 ∈ WA) (hfin : (T j).2.2.2 = false) {v : Int32} (hn : narrow (ty j) (.int v) = .int v) (hfit : fits (ty j) (.int v) = true) (hf : flok 0 fl = true) (hfj : fl[j]? = some (.inl j)) (d : decode cc pc = .ok (.putfield index, 3))
    (kk : ∀ (H1 : Heap) (locs1 : List Loc), HS D aI aL N sh ad (up1 σ k j v) s H1 locs1 → W p l e R s m args below meth c H1 locs1 0 0 Q (F0 m (pc + 3) ls rest)) : W p l e R s m args below meth c H locs 0 0 Q (F0 m pc ls (.int v :: .ref (ad k) :: rest)) := by
  obtain ⟨⟨hx, hb, hml, hown, hts⟩, hK, hN⟩ := C
  have hD := hsD hP
  obtain ⟨hW, hS, hinj⟩ := hP
  refine va_put (ci := ci) (fs := fl.map (fv ad σ k)) hx hb hts hin ty hty hnm hown hK hW hD hS k (by rw [wl_get hk, hsh]; rfl) hc j hj (hts _ hl) (fun _ h => h) hfin (hty j hj) hn hfit (by rw [List.length_map]; exact (List.getElem?_eq_some_iff.mp hfj).1) d (fun H1 locs1 h1 h2 h3 => ?_)
  refine kk H1 locs1 ⟨?_, h3, hinj⟩
  have e := wl_set (aI := aI) (aL := aL) (N := N) (sh := sh) (ad := ad) (σ := σ) (σ' := up1 σ k j v) (k := k) (e := .inr (ci, (fl.map (fv ad σ k)).set j (.int v))) (by rw [hsh, fl_set hf hfj]; rfl) (fun i hi => ce_up1 hi)
  unfold Wd
  rw [← e]
  exact h1
theorem w_puti (C : CT p m c cc nL s args own D aI aL) (hP : HS D aI aL N sh ad σ s H locs) {k : Nat} (hk : k < N) (ci : Nat) {Nf : Nat} {fl : List (Nat ⊕ Nat)} (hsh : sh k = (ci + 2, Nf, fl)) {Cn : String} {T : u_T} (hc : vwCl[ci]? = some (Cn, T, Nf)) (hin : ∀ w ∈ u_ws Cn T Nf, w ∈ WA) (ty : Nat → FieldType) (hty : ∀ k, k < Nf → parseFieldDescriptor (T k).2.2.1 = some (ty k)) (hnm : ∀ a, a < Nf → ∀ b, b < Nf → a ≠ b → (T a).2.1 ≠ (T b).2.1) (j : Nat) (hj : j < Nf) {index : Nat} (hl : Cond.fieldLink own index (T j).1 (T j).2.1 (T j).2.2.1 ∈ WA) (hfin : (T j).2.2.2 = false) (htj : ty j = .int) (hf : flok 0 fl = true) (hfj : fl[j]? = some (.inl j)) {v : Int32} {σ' : Sg} (hv : pfi σ k j v = some σ') (d : decode cc pc = .ok (.putfield index, 3))
    (kk : ∀ (H1 : Heap) (locs1 : List Loc), HS D aI aL N sh ad σ' s H1 locs1 → W p l e R s m args below meth c H1 locs1 0 0 Q (F0 m (pc + 3) ls rest)) : W p l e R s m args below meth c H locs 0 0 Q (F0 m pc ls (.int v :: .ref (ad k) :: rest)) := by
  obtain rfl := Option.some.inj hv
  exact w_put0 C hP hk ci hsh hc hin ty hty hnm j hj hl hfin (by rw [htj]; rfl) (by rw [htj]; rfl) hf hfj d kk
theorem nz1 {v : Int32} (h : v = 0 ∨ v = 1) : narrow .boolean (.int v) = .int v ∧ fits .boolean (.int v) = true := by
  rcases h with rfl | rfl <;> exact ⟨by decide +kernel, by decide +kernel⟩
theorem w_putz (C : CT p m c cc nL s args own D aI aL) (hP : HS D aI aL N sh ad σ s H locs) {k : Nat} (hk : k < N) (ci : Nat) {Nf : Nat} {fl : List (Nat ⊕ Nat)} (hsh : sh k = (ci + 2, Nf, fl)) {Cn : String} {T : u_T} (hc : vwCl[ci]? = some (Cn, T, Nf)) (hin : ∀ w ∈ u_ws Cn T Nf, w ∈ WA) (ty : Nat → FieldType) (hty : ∀ k, k < Nf → parseFieldDescriptor (T k).2.2.1 = some (ty k)) (hnm : ∀ a, a < Nf → ∀ b, b < Nf → a ≠ b → (T a).2.1 ≠ (T b).2.1) (j : Nat) (hj : j < Nf) {index : Nat} (hl : Cond.fieldLink own index (T j).1 (T j).2.1 (T j).2.2.1 ∈ WA) (hfin : (T j).2.2.2 = false) (htj : ty j = .boolean) (hf : flok 0 fl = true) (hfj : fl[j]? = some (.inl j)) {v : Int32} {σ' : Sg} (hv : pfz σ k j v = some σ') (d : decode cc pc = .ok (.putfield index, 3))
    (kk : ∀ (H1 : Heap) (locs1 : List Loc), HS D aI aL N sh ad σ' s H1 locs1 → W p l e R s m args below meth c H1 locs1 0 0 Q (F0 m (pc + 3) ls rest)) : W p l e R s m args below meth c H locs 0 0 Q (F0 m pc ls (.int v :: .ref (ad k) :: rest)) := by
  unfold pfz at hv
  by_cases hz : v = 0 ∨ v = 1
  · rw [if_pos hz] at hv
    obtain rfl := Option.some.inj hv
    exact w_put0 C hP hk ci hsh hc hin ty hty hnm j hj hl hfin (by rw [htj]; exact (nz1 hz).1) (by rw [htj]; exact (nz1 hz).2) hf hfj d kk
  · rw [if_neg hz] at hv
    cases hv
theorem w_ald (C : CT p m c cc nL s args own D aI aL) (hP : HS D aI aL N sh ad σ s H locs) {k : Nat} (hk : k < N) {n : Nat} {fl : List (Nat ⊕ Nat)} (hsh : sh k = (0, n, fl)) {i v : Int32} (hv : ald σ k n i = some v) (d : decode cc pc = .ok (.iaload, 1))
    (kk : W p l e R s m args below meth c H locs 0 0 Q (F0 m (pc + 1) ls (.int v :: rest))) : W p l e R s m args below meth c H locs 0 0 Q (F0 m pc ls (.int i :: .ref (ad k) :: rest)) := by
  obtain ⟨⟨hx, hb, hml, hown, hts⟩, hK, hN⟩ := C
  unfold ald at hv
  by_cases hz : i < 0 ∨ n ≤ i.toNatClampNeg
  · rw [if_pos hz] at hv; cases hv
  · rw [if_neg hz] at hv
    obtain rfl := Option.some.inj hv
    exact va_iald hx hb hK hP.1 k 0 (n := n) (f := σ.1 k) (by rw [wl_get hk, hsh]; rfl) rfl hz d kk
theorem w_aldL (C : CT p m c cc nL s args own D aI aL) (hP : HS D aI aL N sh ad σ s H locs) {k : Nat} (hk : k < N) {n : Nat} {fl : List (Nat ⊕ Nat)} (hsh : sh k = (1, n, fl)) {i : Int32} {v : Int64} (hv : aldL σ k n i = some v) (d : decode cc pc = .ok (.laload, 1))
    (kk : W p l e R s m args below meth c H locs 0 0 Q (F0 m (pc + 1) ls (.long v :: rest))) : W p l e R s m args below meth c H locs 0 0 Q (F0 m pc ls (.int i :: .ref (ad k) :: rest)) := by
  obtain ⟨⟨hx, hb, hml, hown, hts⟩, hK, hN⟩ := C
  unfold aldL at hv
  by_cases hz : i < 0 ∨ n ≤ i.toNatClampNeg
  · rw [if_pos hz] at hv; cases hv
  · rw [if_neg hz] at hv
    obtain rfl := Option.some.inj hv
    exact va_lald hx hb hK hP.1 k 1 (n := n) (f := σ.2 k) (by rw [wl_get hk, hsh]; rfl) rfl hz d kk
theorem w_ast (C : CT p m c cc nL s args own D aI aL) (hP : HS D aI aL N sh ad σ s H locs) {k : Nat} (hk : k < N) {n : Nat} {fl : List (Nat ⊕ Nat)} (hsh : sh k = (0, n, fl)) {i v : Int32} {σ' : Sg} (hv : ast σ k n i v = some σ') (d : decode cc pc = .ok (.iastore, 1))
    (kk : ∀ (H1 : Heap) (locs1 : List Loc), HS D aI aL N sh ad σ' s H1 locs1 → W p l e R s m args below meth c H1 locs1 0 0 Q (F0 m (pc + 1) ls rest)) : W p l e R s m args below meth c H locs 0 0 Q (F0 m pc ls (.int v :: .int i :: .ref (ad k) :: rest)) := by
  obtain ⟨⟨hx, hb, hml, hown, hts⟩, hK, hN⟩ := C
  have hD := hsD hP
  obtain ⟨hW, hS, hinj⟩ := hP
  unfold ast at hv
  by_cases hz : i < 0 ∨ n ≤ i.toNatClampNeg
  · rw [if_pos hz] at hv; cases hv
  · rw [if_neg hz] at hv
    obtain rfl := Option.some.inj hv
    refine va_iast hx hb hK hW hD hS k 0 (n := n) (f := σ.1 k) (by rw [wl_get hk, hsh]; rfl) rfl hz d (fun H1 locs1 h1 h2 h3 => kk H1 locs1 ⟨?_, h3, hinj⟩)
    have e := wl_set (aI := aI) (aL := aL) (N := N) (sh := sh) (ad := ad) (σ := σ) (σ' := up1 σ k i.toNatClampNeg v) (k := k) (e := .inl (aI, n, .inl (upd (σ.1 k) i.toNatClampNeg v))) (by rw [hsh]; simp [ceOf, up1]) (fun i hi => ce_up1 hi)
    unfold Wd
    rw [← e]
    exact h1
theorem w_astL (C : CT p m c cc nL s args own D aI aL) (hP : HS D aI aL N sh ad σ s H locs) {k : Nat} (hk : k < N) {n : Nat} {fl : List (Nat ⊕ Nat)} (hsh : sh k = (1, n, fl)) {i : Int32} {v : Int64} {σ' : Sg} (hv : astL σ k n i v = some σ') (d : decode cc pc = .ok (.lastore, 1))
    (kk : ∀ (H1 : Heap) (locs1 : List Loc), HS D aI aL N sh ad σ' s H1 locs1 → W p l e R s m args below meth c H1 locs1 0 0 Q (F0 m (pc + 1) ls rest)) : W p l e R s m args below meth c H locs 0 0 Q (F0 m pc ls (.long v :: .int i :: .ref (ad k) :: rest)) := by
  obtain ⟨⟨hx, hb, hml, hown, hts⟩, hK, hN⟩ := C
  have hD := hsD hP
  obtain ⟨hW, hS, hinj⟩ := hP
  unfold astL at hv
  by_cases hz : i < 0 ∨ n ≤ i.toNatClampNeg
  · rw [if_pos hz] at hv; cases hv
  · rw [if_neg hz] at hv
    obtain rfl := Option.some.inj hv
    refine va_last hx hb hK hW hD hS k 1 (n := n) (f := σ.2 k) (by rw [wl_get hk, hsh]; rfl) rfl hz d (fun H1 locs1 h1 h2 h3 => kk H1 locs1 ⟨?_, h3, hinj⟩)
    have e := wl_set (aI := aI) (aL := aL) (N := N) (sh := sh) (ad := ad) (σ := σ) (σ' := upL σ k i.toNatClampNeg v) (k := k) (e := .inl (aL, n, .inr (.inl (vp_updL (σ.2 k) i.toNatClampNeg v)))) (by rw [hsh]; simp [ceOf, upL]) (fun i hi => ce_upL hi)
    unfold Wd
    rw [← e]
    exact h1
theorem w_alen (C : CT p m c cc nL s args own D aI aL) (hP : HS D aI aL N sh ad σ s H locs) {k : Nat} (hk : k < N) {n : Nat} {fl : List (Nat ⊕ Nat)} (hsh : sh k = (0, n, fl)) (d : decode cc pc = .ok (.arraylength, 1))
    (kk : W p l e R s m args below meth c H locs 0 0 Q (F0 m (pc + 1) ls (.int (nI n) :: rest))) : W p l e R s m args below meth c H locs 0 0 Q (F0 m pc ls (.ref (ad k) :: rest)) := by
  obtain ⟨⟨hx, hb, hml, hown, hts⟩, hK, hN⟩ := C
  exact va_alen hx hb hK hP.1 k 0 (x := (n, .inl (σ.1 k))) (by rw [wl_get hk, hsh]; rfl) (ty := .int) rfl (v := nI n) rfl d kk
theorem w_lrm (C : CT p m c cc nL s args own D aI aL) {x y v : Int64} (hv : lrm x y = some v) (d : decode cc pc = .ok (.lrem, 1))
    (kk : W p l e R s m args below meth c H locs 0 0 Q (F0 m (pc + 1) ls (.long v :: rest))) : W p l e R s m args below meth c H locs 0 0 Q (F0 m pc ls (.long y :: .long x :: rest)) := by
  unfold lrm at hv
  by_cases hz : y = 0
  · rw [if_pos hz] at hv; cases hv
  · rw [if_neg hz] at hv
    obtain rfl := Option.some.inj hv
    exact lv_lrem C.1.1 C.1.2.1 d hz kk
-- names for what lies on top
theorem w_ni {x v : Int32} (h : v = x) (kk : W p l e R s m args below meth c H locs 0 0 Q (F0 m pc ls (.int v :: rest))) : W p l e R s m args below meth c H locs 0 0 Q (F0 m pc ls (.int x :: rest)) := by subst h; exact kk
theorem w_nl {x v : Int64} (h : v = x) (kk : W p l e R s m args below meth c H locs 0 0 Q (F0 m pc ls (.long v :: rest))) : W p l e R s m args below meth c H locs 0 0 Q (F0 m pc ls (.long x :: rest)) := by subst h; exact kk
-- calls
theorem AA_mono {sz sz' q : Nat} (h : sz ≤ sz') (hq : AA ad N sz' q) : AA ad N sz q := hq.imp id (fun h2 => Nat.le_trans h h2)
theorem Pw_blind {sz : Nat} {av : List Value} : FrameBlind (Pw D aI aL N sh ad sz σ av) := fun a U g mk q => by
  obtain ⟨q0, q1, qP, qK, qN⟩ := q
  exact ⟨q0, q1, qP, va_K.moved (u := U) (U := U.calling g mk a) (Vm.Alike.refl U.vm) qK, NW_call qN g mk a⟩
theorem Pw_at (C : CT p m c cc nL s args own D aI aL) (hP : HS D aI aL N sh ad σ s H locs) (av : List Value) : ∀ U : State, U.heap = H → s.WarmedH U.vm → Pw D aI aL N sh ad H.size σ av av.toArray U := by
  intro U hU hW
  exact ⟨rfl, by rw [hU], by rw [hU]; exact hP.1, va_K.moved hW.alike C.2.1, NW_warm hW C.2.2⟩
variable {y : MethodName} {b : ByteArray} {mx fr lo index : Nat} {ret : Option FieldType} {Qc : Array Value → State → Outcome → State → Prop}
theorem w_rV (C : CT p m c cc nL s args own D aI aL) (hP : HS D aI aL N sh ad σ s H locs) {k : Nat} {As st0 : List Value} (hM : Met l y (wS y b mx ret) (RM fr lo) (Pw D aI aL N sh ad H.size σ (.ref (ad k) :: As)) Qc 0 0 (AA ad N H.size)) {Cn : String} (hG : GoodIn WA (wsV own index Cn y (wS y b mx ret))) (n : Nat) (hd : y.cls = Cn ∧ y.cls ≠ "java/lang/invoke/MethodHandle" ∧ y.cls ≠ "java/lang/invoke/VarHandle" ∧ (parseMethodDescriptor y.desc).map (fun d => d.parameters.length) = some n) (hR : fr + 1 ≤ R.frames ∧ 8 + (mx + 11) + lo ≤ R.locals) (hk : k < N) (ci : Nat) {Nf : Nat} {fl : List (Nat ⊕ Nat)} (hsh : sh k = (ci + 2, Nf, fl)) {T : u_T} (hc : vwCl[ci]? = some (Cn, T, Nf)) (hn : As.length = n) (hls : ls.size = nL) (hst : st0 = As.reverse ++ .ref (ad k) :: rest) (hW : (rest.map fun v => v.category).sum ≤ 8) (d : decode cc pc = .ok (.invokevirtual index, 3)) :
    va_Run p l e R s m args below meth c H locs 0 0 0 0 (F0 m pc ls st0) rest (Qc (Value.ref (ad k) :: As).toArray) (AA ad N H.size) := by
  have hblind := Pw_blind (D := D) (aI := aI) (aL := aL) (N := N) (sh := sh) (ad := ad) (σ := σ) (sz := H.size) (av := .ref (ad k) :: As)
  have hat := Pw_at C hP (.ref (ad k) :: As)
  obtain ⟨hF, hK, hN⟩ := C
  exact va_runV (As := As) (rest := rest) hF hM (cwV n hF.2.2.2.2 hG rfl rfl rfl hd hR) ⟨hblind, va_recv hK hP.1 (q0 := k) hc (by rw [wl_get hk, hsh]; rfl), hat⟩ rfl hn hls hst (lv_room hW) d ⟨Nat.zero_le _, Nat.zero_le _⟩
theorem w_rS (C : CT p m c cc nL s args own D aI aL) (hP : HS D aI aL N sh ad σ s H locs) {As st0 : List Value} (hM : Met l y (wS y b mx ret) (RM fr lo) (Pw D aI aL N sh ad H.size σ As) Qc 0 0 (AA ad N H.size)) {own2 : String} (hlink : Cond.methodLink own index y ∈ WA) (hstat : Cond.static y ∈ WA) (hini : Cond.initialized y.cls ∈ WA) (hcode : Cond.code y b mx ret ∈ WA) (n : Nat) (hd : y.cls = own2 ∧ y.cls ≠ "java/lang/invoke/MethodHandle" ∧ y.cls ≠ "java/lang/invoke/VarHandle" ∧ (parseMethodDescriptor y.desc).map (fun d => d.parameters.length) = some n) (hR : fr + 1 ≤ R.frames ∧ 8 + (mx + 11) + lo ≤ R.locals) (hn : As.length = n) (hls : ls.size = nL) (hst : st0 = As.reverse ++ rest) (hW : (rest.map fun v => v.category).sum ≤ 8) (d : decode cc pc = .ok (.invokestatic index, 3)) :
    va_Run p l e R s m args below meth c H locs 0 0 0 0 (F0 m pc ls st0) rest (Qc As.toArray) (AA ad N H.size) := by
  have hblind := Pw_blind (D := D) (aI := aI) (aL := aL) (N := N) (sh := sh) (ad := ad) (σ := σ) (sz := H.size) (av := As)
  have hat := Pw_at C hP As
  obtain ⟨hF, hK, hN⟩ := C
  have hts := hF.2.2.2.2
  exact va_runS (As := As) (rest := rest) hF hM ⟨callB_of n hts (goodWA hcode) rfl rfl rfl (hts _ hini) (hts _ hlink) hd.2 hR, hts _ hstat⟩ ⟨hblind, hat⟩ rfl hn hls hst (lv_room hW) d ⟨Nat.zero_le _, Nat.zero_le _⟩
theorem w_rN (C : CT p m c cc nL s args own D aI aL) (hP : HS D aI aL N sh ad σ s H locs) {As st0 : List Value} (hM : Met l y (wS y b mx ret) (RM fr lo) (Pw D aI aL N sh ad H.size σ As) Qc 0 0 (AA ad N H.size)) {host own2 : String} (hlink : Cond.methodLinkNest own index y host ∈ nestWs) (hstat : Cond.static y ∈ WA) (hini : Cond.initialized y.cls ∈ WA) (hcode : Cond.code y b mx ret ∈ WA) (n : Nat) (hd : y.cls = own2 ∧ y.cls ≠ "java/lang/invoke/MethodHandle" ∧ y.cls ≠ "java/lang/invoke/VarHandle" ∧ (parseMethodDescriptor y.desc).map (fun d => d.parameters.length) = some n) (hR : fr + 1 ≤ R.frames ∧ 8 + (mx + 11) + lo ≤ R.locals) (hn : As.length = n) (hls : ls.size = nL) (hst : st0 = As.reverse ++ rest) (hW : (rest.map fun v => v.category).sum ≤ 8) (d : decode cc pc = .ok (.invokestatic index, 3)) :
    va_Run p l e R s m args below meth c H locs 0 0 0 0 (F0 m pc ls st0) rest (Qc As.toArray) (AA ad N H.size) := by
  have hblind := Pw_blind (D := D) (aI := aI) (aL := aL) (N := N) (sh := sh) (ad := ad) (σ := σ) (sz := H.size) (av := As)
  have hat := Pw_at C hP As
  obtain ⟨hF, hK, hN⟩ := C
  have hts := hF.2.2.2.2
  exact va_runSN (As := As) (rest := rest) hF hM ⟨va_cnB n hts (goodWA hcode) rfl rfl rfl (hN _ hlink) (hts _ hini) hd.2 hR, hts _ hstat, trivial⟩ ⟨hblind, hat⟩ rfl hn hls hst (lv_room hW) d ⟨Nat.zero_le _, Nat.zero_le _⟩
theorem w_ci {r0 : Int32} {σ0 : Sg} {a : Array Value} {st0 : List Value} (hr : va_Run p l e R s m args below meth c H locs 0 0 0 0 (F0 m pc ls st0) rest (Qi D aI aL N sh ad r0 σ0 H.size a) (AA ad N H.size)) (hP : HS D aI aL N sh ad σ s H locs)
    (kk : ∀ (H1 : Heap) (locs1 : List Loc), HS D aI aL N sh ad σ0 s H1 locs1 → W p l e R s m args below meth c H1 locs1 0 0 Q (F0 m (pc + 3) ls (.int r0 :: rest))) : W p l e R s m args below meth c H locs 0 0 Q (F0 m pc ls st0) := by
  obtain ⟨hW, hS, hinj⟩ := hP
  refine va_calli (A0 := AA ad N s.heap.size) hr hS (fun q _ h => AA_mono hS.1 h) (fun q h => AA_mono hS.1 h) (fun r u t H1 locs1 ht hvm hp hB hz hk hS1 => ?_)
  obtain ⟨rfl, rfl⟩ := hp
  exact kk H1 locs1 ⟨by rw [← ht]; exact hB, hS1, hinj⟩
theorem w_cl {r0 : Int64} {σ0 : Sg} {a : Array Value} {st0 : List Value} (hr : va_Run p l e R s m args below meth c H locs 0 0 0 0 (F0 m pc ls st0) rest (Ql D aI aL N sh ad r0 σ0 H.size a) (AA ad N H.size)) (hP : HS D aI aL N sh ad σ s H locs)
    (kk : ∀ (H1 : Heap) (locs1 : List Loc), HS D aI aL N sh ad σ0 s H1 locs1 → W p l e R s m args below meth c H1 locs1 0 0 Q (F0 m (pc + 3) ls (.long r0 :: rest))) : W p l e R s m args below meth c H locs 0 0 Q (F0 m pc ls st0) := by
  obtain ⟨hW, hS, hinj⟩ := hP
  refine va_calll (A0 := AA ad N s.heap.size) hr hS (fun q _ h => AA_mono hS.1 h) (fun q h => AA_mono hS.1 h) (fun r u t H1 locs1 ht hvm hp hB hz hk hS1 => ?_)
  obtain ⟨rfl, rfl⟩ := hp
  exact kk H1 locs1 ⟨by rw [← ht]; exact hB, hS1, hinj⟩
theorem w_cv {σ0 : Sg} {a : Array Value} {st0 : List Value} (hr : va_Run p l e R s m args below meth c H locs 0 0 0 0 (F0 m pc ls st0) rest (Qv D aI aL N sh ad σ0 H.size a) (AA ad N H.size)) (hP : HS D aI aL N sh ad σ s H locs)
    (kk : ∀ (H1 : Heap) (locs1 : List Loc), HS D aI aL N sh ad σ0 s H1 locs1 → W p l e R s m args below meth c H1 locs1 0 0 Q (F0 m (pc + 3) ls rest)) : W p l e R s m args below meth c H locs 0 0 Q (F0 m pc ls st0) := by
  obtain ⟨hW, hS, hinj⟩ := hP
  refine va_callv (A0 := AA ad N s.heap.size) hr hS (fun q _ h => AA_mono hS.1 h) (fun q h => AA_mono hS.1 h) (fun u t H1 locs1 ht hvm hp hB hz hk hS1 => ?_)
  obtain rfl := hp
  exact kk H1 locs1 ⟨by rw [← ht]; exact hB, hS1, hinj⟩
theorem w_cr {k0 : Nat} {σ0 : Sg} {a : Array Value} {st0 : List Value} (hr : va_Run p l e R s m args below meth c H locs 0 0 0 0 (F0 m pc ls st0) rest (Qr D aI aL N sh ad k0 σ0 H.size a) (AA ad N H.size)) (hP : HS D aI aL N sh ad σ s H locs)
    (kk : ∀ (H1 : Heap) (locs1 : List Loc), HS D aI aL N sh ad σ0 s H1 locs1 → W p l e R s m args below meth c H1 locs1 0 0 Q (F0 m (pc + 3) ls (.ref (ad k0) :: rest))) : W p l e R s m args below meth c H locs 0 0 Q (F0 m pc ls st0) := by
  obtain ⟨hW, hS, hinj⟩ := hP
  refine va_callr (A0 := AA ad N s.heap.size) hr hS (fun q _ h => AA_mono hS.1 h) (fun q h => AA_mono hS.1 h) (fun u r t H1 locs1 ht hvm hp hB hz hk hS1 => ?_)
  obtain rfl := hp
  obtain ⟨rfl, hB⟩ := hB
  exact kk H1 locs1 ⟨by rw [← ht]; exact hB, hS1, hinj⟩
-- ends
theorem w_iret (C : CT p m c cc nL s args own D aI aL) (hlk : meth.locks = false) (hr : meth.sig.returnType = some .int) (hP : HS D aI aL N sh ad σ s H locs) {v r0 : Int32} {σ0 : Sg} (e1 : v = r0) (e2 : σ = σ0) (d : decode cc pc = .ok (.ireturn, 1)) :
    W p l e R s m args below meth c H locs 0 0 (MQ below (Qi D aI aL N sh ad r0 σ0 s.heap.size) args s 0 0 (AA ad N s.heap.size)) (F0 m pc ls [.int v]) := by
  subst e1; subst e2
  obtain ⟨hW, hS, hinj⟩ := hP
  exact W.iret C.1.1 C.1.2.1 hr (fun t ht hW2 => ⟨⟨v, σ, rfl, ⟨rfl, rfl⟩, by show Wd D aI aL N sh ad σ t.heap; rw [ht]; exact hW⟩, hS.F ht⟩) hS.2.2 d hlk
theorem w_zret (C : CT p m c cc nL s args own D aI aL) (hlk : meth.locks = false) (hr : meth.sig.returnType = some .boolean) (hP : HS D aI aL N sh ad σ s H locs) {v w r0 : Int32} {σ0 : Sg} (hz : zrt v = some w) (e1 : w = r0) (e2 : σ = σ0) (d : decode cc pc = .ok (.ireturn, 1)) :
    W p l e R s m args below meth c H locs 0 0 (MQ below (Qi D aI aL N sh ad r0 σ0 s.heap.size) args s 0 0 (AA ad N s.heap.size)) (F0 m pc ls [.int v]) := by
  subst e1; subst e2
  obtain ⟨hW, hS, hinj⟩ := hP
  unfold zrt at hz
  by_cases h : v = 0 ∨ v = 1
  · rw [if_pos h] at hz
    obtain rfl := Option.some.inj hz
    exact W.zret C.1.1 C.1.2.1 hr (nz1 h).1 (fun t ht hW2 => ⟨⟨v, σ, rfl, ⟨rfl, rfl⟩, by show Wd D aI aL N sh ad σ t.heap; rw [ht]; exact hW⟩, hS.F ht⟩) hS.2.2 d hlk
  · rw [if_neg h] at hz; cases hz
theorem w_lret (C : CT p m c cc nL s args own D aI aL) (hlk : meth.locks = false) (hr : meth.sig.returnType = some .long) (hP : HS D aI aL N sh ad σ s H locs) {v r0 : Int64} {σ0 : Sg} (e1 : v = r0) (e2 : σ = σ0) (d : decode cc pc = .ok (.lreturn, 1)) :
    W p l e R s m args below meth c H locs 0 0 (MQ below (Ql D aI aL N sh ad r0 σ0 s.heap.size) args s 0 0 (AA ad N s.heap.size)) (F0 m pc ls [.long v]) := by
  subst e1; subst e2
  obtain ⟨hW, hS, hinj⟩ := hP
  exact W.lret C.1.1 C.1.2.1 hr (fun t ht hW2 => ⟨⟨v, σ, rfl, ⟨rfl, rfl⟩, by show Wd D aI aL N sh ad σ t.heap; rw [ht]; exact hW⟩, hS.F ht⟩) hS.2.2 d hlk
theorem w_vret (C : CT p m c cc nL s args own D aI aL) (hlk : meth.locks = false) (hr : meth.sig.returnType = none) (hP : HS D aI aL N sh ad σ s H locs) {σ0 : Sg} (e2 : σ = σ0) (d : decode cc pc = .ok (.return_, 1)) :
    W p l e R s m args below meth c H locs 0 0 (MQ below (Qv D aI aL N sh ad σ0 s.heap.size) args s 0 0 (AA ad N s.heap.size)) (F0 m pc ls []) := by
  subst e2
  obtain ⟨hW, hS, hinj⟩ := hP
  exact W.vret C.1.1 C.1.2.1 hr (fun t ht hW2 => ⟨⟨σ, rfl, rfl, by show Wd D aI aL N sh ad σ t.heap; rw [ht]; exact hW⟩, hS.F ht⟩) hS.2.2 d hlk
theorem w_aret (C : CT p m c cc nL s args own D aI aL) (hlk : meth.locks = false) {cn : String} (hr : meth.sig.returnType = some (.object cn)) (hP : HS D aI aL N sh ad σ s H locs) {k k0 : Nat} {σ0 : Sg} (e1 : k = k0) (e2 : σ = σ0) (d : decode cc pc = .ok (.areturn, 1)) :
    W p l e R s m args below meth c H locs 0 0 (MQ below (Qr D aI aL N sh ad k0 σ0 s.heap.size) args s 0 0 (AA ad N s.heap.size)) (F0 m pc ls [.ref (ad k)]) := by
  subst e1; subst e2
  obtain ⟨hW, hS, hinj⟩ := hP
  exact W.aret C.1.1 C.1.2.1 hr (Or.inl ⟨cn, rfl⟩) (Or.inr ⟨_, rfl⟩) (fun t ht hW2 => ⟨⟨(k, σ), ad k, rfl, rfl, rfl, by show Wd D aI aL N sh ad σ t.heap; rw [ht]; exact hW⟩, hS.F ht⟩) hS.2.2 d hlk
end MW
/-- a contract out of its body's walk -/
theorem Mof {l : Launch} {D : va_G} {aI aL : ClassId} {N : Nat} {sh : Sh} {ad : Nat → Nat} {σ : Sg} {y : MethodName} {cc : ByteArray} {mx fr lo sz : Nat} {ret : Option FieldType} {av : List Value} {Qc : Nat → Array Value → State → Outcome → State → Prop} (hy : plainName y.cls = true) (inj : Inj ad N) (hlen : (lg_sl av).length ≤ mx)
    (body : ∀ (p : Program) (e : Env) (s : State) (m : MethodId) (args : Array Value) (below : List Frame) (meth : Method) (c : Code) (ls : Array Slot), CT p m c cc mx s args y.cls D aI aL → meth.locks = false → meth.sig.returnType = ret → HS D aI aL N sh ad σ s s.heap [] → lv_has ls mx (lv_args 0 av) →
      W p l e (RM fr lo) s m args below meth c s.heap [] 0 0 (MQ below (Qc s.heap.size) args s 0 0 (AA ad N s.heap.size)) (F0 m 0 ls [])) :
    Met l y (wS y cc mx ret) (RM fr lo) (Pw D aI aL N sh ad sz σ av) (Qc sz) 0 0 (AA ad N sz) := by
  refine Met.ofW (cc := cc) (maxL := mx) (ret := ret) hy rfl ?_
  intro p e s m args below meth c s₁ B hml hv
  obtain ⟨rfl, hsz, hP, hK, hN⟩ := hv
  have hts := atoms_spec (ws := wS y cc mx ret) B.pre
  have hown : s.vm.findClass y.cls = some m.cls := findClass_of_methodNamed B.named
  subst hsz
  have hl := lv_entry av (n := mx) hlen
  rw [lg_entry_eq]
  generalize (lg_sl av ++ List.replicate (mx - (lg_sl av).length) Slot.unset).toArray = ls at hl ⊢
  exact body p e s m av.toArray below meth c ls ⟨⟨B.exec, B.bytes, hml, hown, tA hts⟩, hK, hN⟩ B.notSynchronized B.returns ⟨hP, va_S.rf, inj⟩ hl
-- switches
theorem tb_out {x : Int32} {n : Nat} (hn : n < 2 ^ 31) (h : ∀ j, j < n → ¬ x = nI j) : x.toInt < (0 : Int) ∨ ((n : Int) - 1) < x.toInt := by
  rcases Int.lt_or_le x.toInt 0 with h1 | h1
  · exact Or.inl h1
  · refine Or.inr ?_
    rcases Int.lt_or_le ((n : Int) - 1) x.toInt with h2 | h2
    · exact h2
    · exfalso
      have e : x = nI x.toInt.toNat := by
        apply Int32.toInt_inj.mp
        rw [nI_toInt (by omega)]
        omega
      exact h x.toInt.toNat (by omega) e
end
section

-- the worlds of the class and of the reference: what each cell is
def flF (b : Nat) : List (Nat ⊕ Nat) := [.inr (b + 1), .inr (b + 2), .inr (b + 3), .inr (b + 4), .inr (b + 5), .inr (b + 6), .inl 6, .inl 7, .inl 8, .inl 9, .inl 10]
def shX : Sh := fun k => match k with
  | 0 => (6 + 2, 12, [.inr 1, .inr 3, .inr 5, .inr 12, .inr 19, .inr 26, .inr 33, .inr 36, .inr 39, .inr 41, .inl 10, .inl 11])
  | 1 => (4 + 2, 2, [.inr 2, .inl 1])
  | 2 => (0, 300, [])
  | 3 => (3 + 2, 2, [.inr 4, .inl 1])
  | 4 => (0, 3, [])
  | 5 => (0 + 2, 11, flF 5)
  | 12 => (0 + 2, 11, flF 12)
  | 19 => (0 + 2, 11, flF 19)
  | 26 => (0 + 2, 11, flF 26)
  | 33 => (1 + 2, 3, [.inr 34, .inr 35, .inl 2])
  | 34 => (0, 8, [])
  | 35 => (0, 8, [])
  | 36 => (5 + 2, 2, [.inr 37, .inr 38])
  | 37 => (0, 1024, [])
  | 38 => (0, 1024, [])
  | 39 => (2 + 2, 2, [.inr 40, .inl 1])
  | 40 => (0, 1024, [])
  | 41 => (0, 12, [])
  | _ => (0, 10, [])
def shM : Sh := fun k => match k with
  | 0 => (7 + 2, 13, [.inr 1, .inl 1, .inl 2, .inr 2, .inl 4, .inr 3, .inl 6, .inl 7, .inr 4, .inl 9, .inr 5, .inr 6, .inr 7])
  | 1 => (0, 660, [])
  | 2 => (0, 300, [])
  | 3 => (0, 12, [])
  | 4 => (0, 3, [])
  | 5 => (1, 1024, [])
  | 6 => (0, 1024, [])
  | _ => (0, 10, [])
abbrev isFl (b : Nat) : Prop := b = 5 ∨ b = 12 ∨ b = 19 ∨ b = 26
theorem fl5 : isFl 5 := Or.inl rfl
theorem fl12 : isFl 12 := Or.inr (Or.inl rfl)
theorem fl19 : isFl 19 := Or.inr (Or.inr (Or.inl rfl))
theorem fl26 : isFl 26 := Or.inr (Or.inr (Or.inr rfl))
theorem fl_sh {b : Nat} (h : isFl b) : shX b = (0 + 2, 11, flF b) := by rcases h with rfl | rfl | rfl | rfl <;> rfl
theorem fl_l0 {b : Nat} (h : isFl b) : b < 42 := by rcases h with rfl | rfl | rfl | rfl <;> decide
theorem fl_l1 {b : Nat} (h : isFl b) : b + 1 < 42 := by rcases h with rfl | rfl | rfl | rfl <;> decide
theorem fl_a1 {b : Nat} (h : isFl b) : shX (b + 1) = (0, 10, []) := by rcases h with rfl | rfl | rfl | rfl <;> rfl
theorem fl_l2 {b : Nat} (h : isFl b) : b + 2 < 42 := by rcases h with rfl | rfl | rfl | rfl <;> decide
theorem fl_a2 {b : Nat} (h : isFl b) : shX (b + 2) = (0, 10, []) := by rcases h with rfl | rfl | rfl | rfl <;> rfl
theorem fl_l3 {b : Nat} (h : isFl b) : b + 3 < 42 := by rcases h with rfl | rfl | rfl | rfl <;> decide
theorem fl_a3 {b : Nat} (h : isFl b) : shX (b + 3) = (0, 10, []) := by rcases h with rfl | rfl | rfl | rfl <;> rfl
theorem fl_l4 {b : Nat} (h : isFl b) : b + 4 < 42 := by rcases h with rfl | rfl | rfl | rfl <;> decide
theorem fl_a4 {b : Nat} (h : isFl b) : shX (b + 4) = (0, 10, []) := by rcases h with rfl | rfl | rfl | rfl <;> rfl
theorem fl_l5 {b : Nat} (h : isFl b) : b + 5 < 42 := by rcases h with rfl | rfl | rfl | rfl <;> decide
theorem fl_a5 {b : Nat} (h : isFl b) : shX (b + 5) = (0, 10, []) := by rcases h with rfl | rfl | rfl | rfl <;> rfl
theorem fl_l6 {b : Nat} (h : isFl b) : b + 6 < 42 := by rcases h with rfl | rfl | rfl | rfl <;> decide
theorem fl_a6 {b : Nat} (h : isFl b) : shX (b + 6) = (0, 10, []) := by rcases h with rfl | rfl | rfl | rfl <;> rfl
def gfl (b : Nat) : Option Unit := if isFl b then some () else none
theorem gfl_is {b : Nat} {u : Unit} (h : gfl b = some u) : isFl b := by
  unfold gfl at h
  by_cases hb : isFl b
  · exact hb
  · rw [if_neg hb] at h; cases h
theorem nw0 : Cond.methodLinkNest RX8 11 yX6_init RX8 ∈ nestWs := List.mem_of_getElem? (i := 0) rfl
theorem nw1 : Cond.methodLinkNest RX8 18 yX4_init RX8 ∈ nestWs := List.mem_of_getElem? (i := 1) rfl
theorem nw2 : Cond.methodLinkNest RX8 25 yX1_init RX8 ∈ nestWs := List.mem_of_getElem? (i := 2) rfl
theorem nw3 : Cond.methodLinkNest RX8 41 yX2_init RX8 ∈ nestWs := List.mem_of_getElem? (i := 3) rfl
theorem nw4 : Cond.methodLinkNest RX8 48 yX7_init RX8 ∈ nestWs := List.mem_of_getElem? (i := 4) rfl
theorem nw5 : Cond.methodLinkNest RX8 55 yX3_init RX8 ∈ nestWs := List.mem_of_getElem? (i := 5) rfl
theorem nw6 : Cond.methodLinkNest RX6 19 yX8_put RX8 ∈ nestWs := List.mem_of_getElem? (i := 6) rfl
theorem nw7 : Cond.methodLinkNest RX1 30 yX8_clearRow RX8 ∈ nestWs := List.mem_of_getElem? (i := 7) rfl
theorem nw8 : Cond.methodLinkNest RX6 37 yX8_at RX8 ∈ nestWs := List.mem_of_getElem? (i := 8) rfl
theorem nw9 : Cond.methodLinkNest RX4 55 yX8_put RX8 ∈ nestWs := List.mem_of_getElem? (i := 9) rfl
theorem nw10 : Cond.methodLinkNest RX4 63 yX8_at RX8 ∈ nestWs := List.mem_of_getElem? (i := 10) rfl
theorem nw11 : Cond.methodLinkNest RX1 72 yX8_put RX8 ∈ nestWs := List.mem_of_getElem? (i := 11) rfl
theorem nw12 : Cond.methodLinkNest RX1 76 yX8_at RX8 ∈ nestWs := List.mem_of_getElem? (i := 12) rfl
theorem nw13 : Cond.methodLinkNest RX1 48 yX8_copy RX8 ∈ nestWs := List.mem_of_getElem? (i := 13) rfl
theorem nw14 : Cond.methodLinkNest RX1 92 yX8_holdsAll RX8 ∈ nestWs := List.mem_of_getElem? (i := 14) rfl
theorem nw15 : Cond.methodLinkNest RX2 33 yX8_at RX8 ∈ nestWs := List.mem_of_getElem? (i := 15) rfl
theorem nw16 : Cond.methodLinkNest RX2 29 yX8_put RX8 ∈ nestWs := List.mem_of_getElem? (i := 16) rfl
theorem nw17 : Cond.methodLinkNest RX1 80 yX8_has RX8 ∈ nestWs := List.mem_of_getElem? (i := 17) rfl
theorem nw18 : Cond.methodLinkNest RX7 27 yX8_holdsAll RX8 ∈ nestWs := List.mem_of_getElem? (i := 18) rfl
theorem nw19 : Cond.methodLinkNest RX7 35 yX8_has RX8 ∈ nestWs := List.mem_of_getElem? (i := 19) rfl
theorem nw20 : Cond.methodLinkNest RX7 45 yX8_at RX8 ∈ nestWs := List.mem_of_getElem? (i := 20) rfl
theorem nw21 : Cond.methodLinkNest RX7 49 yX8_put RX8 ∈ nestWs := List.mem_of_getElem? (i := 21) rfl
theorem nw22 : Cond.methodLinkNest RX0 24 yX8_has RX8 ∈ nestWs := List.mem_of_getElem? (i := 22) rfl
theorem nw23 : Cond.methodLinkNest RX0 48 yX8_holdsAll RX8 ∈ nestWs := List.mem_of_getElem? (i := 23) rfl
theorem nw24 : Cond.methodLinkNest RX5 29 yX8_has RX8 ∈ nestWs := List.mem_of_getElem? (i := 24) rfl
theorem nw25 : Cond.methodLinkNest RX3 28 yX8_put RX8 ∈ nestWs := List.mem_of_getElem? (i := 25) rfl
theorem nw26 : Cond.methodLinkNest RX3 32 yX8_at RX8 ∈ nestWs := List.mem_of_getElem? (i := 26) rfl
theorem nw27 : Cond.methodLinkNest RX3 53 yX8_has RX8 ∈ nestWs := List.mem_of_getElem? (i := 27) rfl
def f_X8_at_17 (k1 n1 : Nat) (t0_17 : Int32) (σ : Sg) : Option Int32 :=
  some (t0_17)
def f_X8_at_16 (k1 n1 : Nat) (σ : Sg) : Option Int32 :=
  f_X8_at_17 k1 n1 0 σ
def f_X8_at (k1 n1 : Nat) (v1 : Int32) (σ : Sg) : Option Int32 :=
  if v1 < 0 then (
  f_X8_at_16 k1 n1 σ)
  else (
  if (nI n1) ≤ v1 then (
  f_X8_at_16 k1 n1 σ)
  else (
  (ald σ k1 n1 v1).bind fun x1 =>
  f_X8_at_17 k1 n1 x1 σ))
def f_X1_gainsayersOf (b : Nat) (v1 : Int32) (σ : Sg) : Option Int32 :=
  (f_X8_at (b + 5) 10 v1 σ).bind fun q1 =>
  some (q1)
def f_X8_bitOf (v0 : Int32) (v1 : Int32) : Option Int32 :=
  some (((v0 >>> (v1 &&& 31)) &&& (1 : Int32)))
def f_X8_has_14 (t0_14 : Int32) : Option Int32 :=
  (zrt t0_14).bind fun x2 =>
  some (x2)
def f_X8_has (v0 : Int32) (v1 : Int32) : Option Int32 :=
  (f_X8_bitOf v0 v1).bind fun q1 =>
  if q1 = 1 then (
  f_X8_has_14 1)
  else (
  f_X8_has_14 0)
def f_X1_hasGainsayersIn_30 (b : Nat) (v1 : Int32) (v2_30 : Int32) (σ : Sg) : Option ((Int32) ⊕ Int32) :=
  nm (v2_30 + 1) fun x3 =>
  some (.inl (x3))
def f_X1_hasGainsayersIn_2s (b : Nat) (v1 : Int32) (v2_2 : Int32) (σ : Sg) : Option ((Int32) ⊕ Int32) :=
  if (σ.1 b 6) ≤ v2_2 then (
  (zrt 0).bind fun x1 =>
  some (.inr (x1)))
  else (
  (f_X8_has v1 v2_2).bind fun q2 =>
  if q2 = 0 then (
  f_X1_hasGainsayersIn_30 b v1 v2_2 σ)
  else (
  (f_X1_gainsayersOf b v2_2 σ).bind fun q4 =>
  if (q4 &&& v1) = 0 then (
  f_X1_hasGainsayersIn_30 b v1 v2_2 σ)
  else (
  (zrt 1).bind fun x5 =>
  some (.inr (x5)))))
def f_X1_hasGainsayersIn_2 (b : Nat) (v1 : Int32) (v2_2 : Int32) (σ : Sg) : Option Int32 :=
  itr 3000 (fun s => f_X1_hasGainsayersIn_2s b v1 s σ) (v2_2)
def f_X1_hasGainsayersIn (b : Nat) (v1 : Int32) (σ : Sg) : Option Int32 :=
  f_X1_hasGainsayersIn_2 b v1 0 σ
def f_X8_holdsAll_12 (t0_12 : Int32) : Option Int32 :=
  (zrt t0_12).bind fun x1 =>
  some (x1)
def f_X8_holdsAll (v0 : Int32) (v1 : Int32) : Option Int32 :=
  if (v0 &&& v1) = v1 then (
  f_X8_holdsAll_12 1)
  else (
  f_X8_holdsAll_12 0)
def f_X1_afterAmong_44 (b : Nat) (t0_44 : Int32) (σ : Sg) : Option Int32 :=
  some (t0_44)
def f_X1_afterAmong_43 (b : Nat) (v2 : Int32) (σ : Sg) : Option Int32 :=
  f_X1_afterAmong_44 b v2 σ
def f_X1_afterAmong (b : Nat) (v1 : Int32) (v2 : Int32) (v3 : Int32) (σ : Sg) : Option Int32 :=
  (f_X8_at (b + 3) 10 v1 σ).bind fun q1 =>
  nm (((1 : Int32) <<< (q1 &&& 31))) fun x2 =>
  (f_X8_at (b + 4) 10 v1 σ).bind fun q3 =>
  (f_X8_holdsAll v2 q3).bind fun q4 =>
  if q4 = 0 then (
  f_X1_afterAmong_43 b v2 σ)
  else (
  (f_X8_holdsAll v3 x2).bind fun q5 =>
  if q5 = 0 then (
  f_X1_afterAmong_43 b v2 σ)
  else (
  f_X1_afterAmong_44 b (v2 ||| x2) σ))
def f_X1_reachBy_51 (b : Nat) (v2 : Int32) (v3 : Int32) (v4_51 : Int32) (v5_22 : Int32) (v6_22 : Int32) (v7_51 : Int32) (σ : Sg) : Option ((Int32 × Int32) ⊕ ((Int32 × Int32) ⊕ Int32)) :=
  nm (v7_51 + 1) fun x4 =>
  some (.inl (v4_51, x4))
def f_X1_reachBy_22s (b : Nat) (v2 : Int32) (v3 : Int32) (v4_22 : Int32) (v5_22 : Int32) (v6_22 : Int32) (v7_22 : Int32) (σ : Sg) : Option ((Int32 × Int32) ⊕ ((Int32 × Int32) ⊕ Int32)) :=
  if (σ.1 b 7) ≤ v7_22 then (
  if v4_22 = v6_22 then (
  some (.inr (.inr (v4_22))))
  else (
  nm (v5_22 + 1) fun x2 =>
  some (.inr (.inl (v4_22, x2)))))
  else (
  (f_X8_has v2 v7_22).bind fun q3 =>
  if q3 = 0 then (
  f_X1_reachBy_51 b v2 v3 v4_22 v5_22 v6_22 v7_22 σ)
  else (
  (f_X1_afterAmong b v7_22 v4_22 v3 σ).bind fun q5 =>
  f_X1_reachBy_51 b v2 v3 q5 v5_22 v6_22 v7_22 σ))
def f_X1_reachBy_22 (b : Nat) (v2 : Int32) (v3 : Int32) (v4_22 : Int32) (v5_22 : Int32) (v6_22 : Int32) (v7_22 : Int32) (σ : Sg) : Option ((Int32 × Int32) ⊕ Int32) :=
  itr 3000 (fun s => f_X1_reachBy_22s b v2 v3 s.1 v5_22 v6_22 s.2 σ) (v4_22, v7_22)
def f_X1_reachBy_8s (b : Nat) (v2 : Int32) (v3 : Int32) (v4_8 : Int32) (v5_8 : Int32) (σ : Sg) : Option ((Int32 × Int32) ⊕ Int32) :=
  if (10 : Int32) ≤ v5_8 then (
  some (.inr (v4_8)))
  else (
  f_X1_reachBy_22 b v2 v3 v4_8 v5_8 v4_8 0 σ)
def f_X1_reachBy_8 (b : Nat) (v2 : Int32) (v3 : Int32) (v4_8 : Int32) (v5_8 : Int32) (σ : Sg) : Option Int32 :=
  itr 3000 (fun s => f_X1_reachBy_8s b v2 v3 s.1 s.2 σ) (v4_8, v5_8)
def f_X1_reachBy (b : Nat) (v1 : Int32) (v2 : Int32) (v3 : Int32) (σ : Sg) : Option Int32 :=
  nm ((v1 &&& v3)) fun x1 =>
  f_X1_reachBy_8 b v2 v3 x1 0 σ
def f_X1_there (b : Nat) (σ : Sg) : Option Int32 :=
  some ((σ.1 b 9))
def f_X0_isMet_43 (t0_43 : Int32) (σ : Sg) : Option Int32 :=
  (zrt t0_43).bind fun x6 =>
  some (x6)
def f_X0_isMet (v1 : Int32) (v2 : Int32) (σ : Sg) : Option Int32 :=
  (f_X1_there 12 σ).bind fun q1 =>
  (f_X1_reachBy 12 v2 1023 q1 σ).bind fun q2 =>
  if v1 = (-1) then (
  (f_X1_hasGainsayersIn 12 q2 σ).bind fun q7 =>
  (zrt q7).bind fun x8 =>
  some (x8))
  else (
  if v1 = (-2) then (
  (f_X1_hasGainsayersIn 12 q2 σ).bind fun q5 =>
  if q5 = 0 then (
  f_X0_isMet_43 1 σ)
  else (
  f_X0_isMet_43 0 σ))
  else (
  (f_X8_has q2 v1).bind fun q3 =>
  (zrt q3).bind fun x4 =>
  some (x4)))
def f_X1_beginnings (b : Nat) (σ : Sg) : Option Int32 :=
  some (((σ.1 b 8) &&& (σ.1 b 9)))
def f_X0_leadTo (v1 : Int32) (σ : Sg) : Option Int32 :=
  (f_X1_beginnings 12 σ).bind fun q1 =>
  (f_X0_isMet v1 q1 σ).bind fun q2 =>
  (zrt q2).bind fun x3 =>
  some (x3)
def f_X0_leadIntoHall (σ : Sg) : Option Int32 :=
  (f_X1_beginnings 12 σ).bind fun q1 =>
  (f_X0_isMet (-1) q1 σ).bind fun q2 =>
  (zrt q2).bind fun x3 =>
  some (x3)
def f_X1_stoneCount (b : Nat) (σ : Sg) : Option Int32 :=
  some ((σ.1 b 6))
def f_X0_neededFor_51 (v1 : Int32) (v2_51 : Int32) (v3_51 : Int32) (σ : Sg) : Option ((Int32 × Int32) ⊕ Int32) :=
  nm (v3_51 + 1) fun x6 =>
  some (.inl (v2_51, x6))
def f_X0_neededFor_4s (v1 : Int32) (v2_4 : Int32) (v3_4 : Int32) (σ : Sg) : Option ((Int32 × Int32) ⊕ Int32) :=
  (f_X1_stoneCount 12 σ).bind fun q1 =>
  if q1 ≤ v3_4 then (
  some (.inr (v2_4)))
  else (
  (f_X1_beginnings 12 σ).bind fun q2 =>
  nm ((q2 &&& (((1 : Int32) <<< (v3_4 &&& 31)) ^^^ ((-1) : Int32)))) fun x3 =>
  (f_X1_beginnings 12 σ).bind fun q4 =>
  (f_X8_has q4 v3_4).bind fun q5 =>
  if q5 = 0 then (
  f_X0_neededFor_51 v1 v2_4 v3_4 σ)
  else (
  (f_X0_isMet v1 x3 σ).bind fun q7 =>
  if q7 = 0 then (
  nm ((v2_4 ||| ((1 : Int32) <<< (v3_4 &&& 31)))) fun x8 =>
  f_X0_neededFor_51 v1 x8 v3_4 σ)
  else (
  f_X0_neededFor_51 v1 v2_4 v3_4 σ)))
def f_X0_neededFor_4 (v1 : Int32) (v2_4 : Int32) (v3_4 : Int32) (σ : Sg) : Option Int32 :=
  itr 3000 (fun s => f_X0_neededFor_4s v1 s.1 s.2 σ) (v2_4, v3_4)
def f_X0_neededFor (v1 : Int32) (σ : Sg) : Option Int32 :=
  f_X0_neededFor_4 v1 0 0 σ
def f_J6_bitCount_0f7a4 (v0 : Int32) : Option Int32 :=
  nm ((v0 - ((((v0).toUInt32 >>> ((1 : Int32).toUInt32 &&& Int32.toUInt32 31)).toInt32) &&& (1431655765 : Int32)))) fun x1 =>
  nm (((x1 &&& (858993459 : Int32)) + ((((x1).toUInt32 >>> ((2 : Int32).toUInt32 &&& Int32.toUInt32 31)).toInt32) &&& (858993459 : Int32)))) fun x2 =>
  nm (((x2 + (((x2).toUInt32 >>> ((4 : Int32).toUInt32 &&& Int32.toUInt32 31)).toInt32)) &&& (252645135 : Int32))) fun x3 =>
  nm ((x3 + (((x3).toUInt32 >>> ((8 : Int32).toUInt32 &&& Int32.toUInt32 31)).toInt32))) fun x4 =>
  nm ((x4 + (((x4).toUInt32 >>> ((16 : Int32).toUInt32 &&& Int32.toUInt32 31)).toInt32))) fun x5 =>
  some ((x5 &&& (63 : Int32)))
def f_X0_fewestTurned_75 (v1 : Int32) (v2 : Int32) (v3 : Int32) (v4_75 : Int32) (v5_75 : Int32) (v6_75 : Int32) (σ : Sg) : Option ((Int32 × Int32 × Int32) ⊕ Int32) :=
  nm (v6_75 + 1) fun x4 =>
  some (.inl (v4_75, v5_75, x4))
def f_X0_fewestTurned_26s (v1 : Int32) (v2 : Int32) (v3 : Int32) (v4_26 : Int32) (v5_26 : Int32) (v6_26 : Int32) (σ : Sg) : Option ((Int32 × Int32 × Int32) ⊕ Int32) :=
  if v3 ≤ v6_26 then (
  some (.inr (v4_26)))
  else (
  (f_J6_bitCount_0f7a4 v6_26).bind fun q3 =>
  if v5_26 ≤ q3 then (
  f_X0_fewestTurned_75 v1 v2 v3 v4_26 v5_26 v6_26 σ)
  else (
  (f_X8_holdsAll v3 v6_26).bind fun q5 =>
  if q5 = 0 then (
  f_X0_fewestTurned_75 v1 v2 v3 v4_26 v5_26 v6_26 σ)
  else (
  (f_X0_isMet v1 (v2 ^^^ v6_26) σ).bind fun q6 =>
  if q6 = 0 then (
  f_X0_fewestTurned_75 v1 v2 v3 v4_26 v5_26 v6_26 σ)
  else (
  f_X0_fewestTurned_75 v1 v2 v3 v6_26 q3 v6_26 σ))))
def f_X0_fewestTurned_26 (v1 : Int32) (v2 : Int32) (v3 : Int32) (v4_26 : Int32) (v5_26 : Int32) (v6_26 : Int32) (σ : Sg) : Option Int32 :=
  itr 3000 (fun s => f_X0_fewestTurned_26s v1 v2 v3 s.1 s.2.1 s.2.2 σ) (v4_26, v5_26, v6_26)
def f_X0_fewestTurned (v1 : Int32) (v2 : Int32) (v3 : Int32) (σ : Sg) : Option Int32 :=
  (f_X0_isMet v1 (v2 ^^^ v3) σ).bind fun q1 =>
  if q1 = 0 then (
  some ((-4)))
  else (
  (f_J6_bitCount_0f7a4 v3).bind fun q2 =>
  f_X0_fewestTurned_26 v1 v2 v3 v3 q2 0 σ)
def f_X0_fewestFor (v1 : Int32) (σ : Sg) : Option Int32 :=
  (f_X1_beginnings 12 σ).bind fun q1 =>
  (f_X0_fewestTurned v1 0 q1 σ).bind fun q2 =>
  some (q2)
def f_X1_reachOf (b : Nat) (v1 : Int32) (σ : Sg) : Option Int32 :=
  (f_X1_reachBy b v1 1023 (σ.1 b 9) σ).bind fun q1 =>
  some (q1)
def f_X0_lostBy (v1 : Int32) (σ : Sg) : Option Int32 :=
  (f_X1_there 12 σ).bind fun q1 =>
  nm ((q1 &&& (((1 : Int32) <<< (v1 &&& 31)) ^^^ ((-1) : Int32)))) fun x2 =>
  (f_X1_beginnings 12 σ).bind fun q3 =>
  (f_X1_reachBy 12 q3 1023 x2 σ).bind fun q4 =>
  (f_X1_beginnings 12 σ).bind fun q5 =>
  (f_X1_reachOf 12 q5 σ).bind fun q6 =>
  some (((q6 &&& (q4 ^^^ ((-1) : Int32))) &&& x2))
def f_X0_fewestMoreFor (v1 : Int32) (σ : Sg) : Option Int32 :=
  (f_X1_there 12 σ).bind fun q1 =>
  (f_X1_beginnings 12 σ).bind fun q2 =>
  nm (((q1 &&& (((1 : Int32) <<< (v1 &&& 31)) ^^^ ((-1) : Int32))) &&& (q2 ^^^ ((-1) : Int32)))) fun x3 =>
  (f_X1_beginnings 12 σ).bind fun q4 =>
  (f_X0_fewestTurned v1 q4 x3 σ).bind fun q5 =>
  some (q5)
def f_X0_fewestIntoHall (σ : Sg) : Option Int32 :=
  (f_X1_beginnings 12 σ).bind fun q1 =>
  (f_X0_fewestTurned (-1) 0 q1 σ).bind fun q2 =>
  some (q2)
def f_X0_fewestToRopeOff (σ : Sg) : Option Int32 :=
  (f_X1_beginnings 12 σ).bind fun q1 =>
  (f_X1_beginnings 12 σ).bind fun q2 =>
  (f_X0_fewestTurned (-2) q1 q2 σ).bind fun q3 =>
  some (q3)
def f_X1_allStones (b : Nat) (σ : Sg) : Option Int32 :=
  some ((((1 : Int32) <<< ((σ.1 b 6) &&& 31)) - (1 : Int32)))
def f_X1_setStones_11 (b : Nat) (s_11 : Sg) : Option (Int32 × Sg) :=
  (zrt 0).bind fun x1 =>
  some ((x1, s_11))
def f_X1_setStones (b : Nat) (v1 : Int32) (σ : Sg) : Option (Int32 × Sg) :=
  if v1 < 1 then (
  f_X1_setStones_11 b σ)
  else (
  if v1 ≤ 10 then (
  (pfi σ b 6 v1).bind fun s2 =>
  (f_X1_allStones b s2).bind fun q3 =>
  (pfi s2 b 9 q3).bind fun s4 =>
  (zrt 1).bind fun x5 =>
  some ((x5, s4)))
  else (
  f_X1_setStones_11 b σ))
def f_X8_clearRow_2s (k1 n1 : Nat) (v1_2 : Int32) (s_2 : Sg) : Option ((Int32 × Sg) ⊕ Sg) :=
  if (nI n1) ≤ v1_2 then (
  some (.inr (s_2)))
  else (
  (ast s_2 k1 n1 v1_2 0).bind fun s1 =>
  nm (v1_2 + 1) fun x2 =>
  some (.inl (x2, s1)))
def f_X8_clearRow_2 (k1 n1 : Nat) (v1_2 : Int32) (s_2 : Sg) : Option Sg :=
  itr 3000 (fun s => f_X8_clearRow_2s k1 n1 s.1 s.2) (v1_2, s_2)
def f_X8_clearRow (k1 n1 : Nat) (σ : Sg) : Option Sg :=
  f_X8_clearRow_2 k1 n1 0 σ
def f_X1_empty (b : Nat) (σ : Sg) : Option Sg :=
  (f_X8_clearRow (b + 5) 10 σ).bind fun q1 =>
  (f_X8_clearRow (b + 6) 10 q1).bind fun q2 =>
  (pfi q2 b 7 0).bind fun s3 =>
  (pfi s3 b 8 0).bind fun s4 =>
  (pfi s4 b 10 0).bind fun s5 =>
  (f_X1_setStones b 4 s5).bind fun q6 =>
  some (q6.2)
def f_X8_copy_26 (k1 n1 k2 n2 : Nat) (s_26 : Sg) : Option Sg :=
  some (s_26)
def f_X8_copy_2s (k1 n1 k2 n2 : Nat) (v2_2 : Int32) (s_2 : Sg) : Option ((Int32 × Sg) ⊕ Sg) :=
  if (nI n1) ≤ v2_2 then (
  (f_X8_copy_26 k1 n1 k2 n2 s_2).map (fun z => .inr (z)))
  else (
  if (nI n2) ≤ v2_2 then (
  (f_X8_copy_26 k1 n1 k2 n2 s_2).map (fun z => .inr (z)))
  else (
  (ald s_2 k1 n1 v2_2).bind fun x1 =>
  (ast s_2 k2 n2 v2_2 x1).bind fun s2 =>
  nm (v2_2 + 1) fun x3 =>
  some (.inl (x3, s2))))
def f_X8_copy_2 (k1 n1 k2 n2 : Nat) (v2_2 : Int32) (s_2 : Sg) : Option Sg :=
  itr 3000 (fun s => f_X8_copy_2s k1 n1 k2 n2 s.1 s.2) (v2_2, s_2)
def f_X8_copy (k1 n1 k2 n2 : Nat) (σ : Sg) : Option Sg :=
  f_X8_copy_2 k1 n1 k2 n2 0 σ
def f_X1_copyFrom (b b2 : Nat) (σ : Sg) : Option Sg :=
  (f_X8_copy (b2 + 1) 10 (b + 1) 10 σ).bind fun q1 =>
  (f_X8_copy (b2 + 2) 10 (b + 2) 10 q1).bind fun q2 =>
  (f_X8_copy (b2 + 3) 10 (b + 3) 10 q2).bind fun q3 =>
  (f_X8_copy (b2 + 4) 10 (b + 4) 10 q3).bind fun q4 =>
  (f_X8_copy (b2 + 5) 10 (b + 5) 10 q4).bind fun q5 =>
  (f_X8_copy (b2 + 6) 10 (b + 6) 10 q5).bind fun q6 =>
  (pfi q6 b 6 (q6.1 b2 6)).bind fun s7 =>
  (pfi s7 b 7 (s7.1 b2 7)).bind fun s8 =>
  (pfi s8 b 8 (s8.1 b2 8)).bind fun s9 =>
  (pfi s9 b 9 (s9.1 b2 9)).bind fun s10 =>
  (pfi s10 b 10 (s10.1 b2 10)).bind fun s11 =>
  some (s11)
def f_X1_hasStone_17 (b : Nat) (t0_17 : Int32) (σ : Sg) : Option Int32 :=
  (zrt t0_17).bind fun x1 =>
  some (x1)
def f_X1_hasStone_16 (b : Nat) (σ : Sg) : Option Int32 :=
  f_X1_hasStone_17 b 0 σ
def f_X1_hasStone (b : Nat) (v1 : Int32) (σ : Sg) : Option Int32 :=
  if v1 < 0 then (
  f_X1_hasStone_16 b σ)
  else (
  if (σ.1 b 6) ≤ v1 then (
  f_X1_hasStone_16 b σ)
  else (
  f_X1_hasStone_17 b 1 σ))
def f_X1_beginOn (b : Nat) (v1 : Int32) (σ : Sg) : Option (Int32 × Sg) :=
  (f_X1_hasStone b v1 σ).bind fun q1 =>
  if q1 = 0 then (
  (zrt 0).bind fun x4 =>
  some ((x4, σ)))
  else (
  (pfi σ b 8 ((σ.1 b 8) ||| ((1 : Int32) <<< (v1 &&& 31)))).bind fun s2 =>
  (zrt 1).bind fun x3 =>
  some ((x3, s2)))
def f_X1_standOnBeginnings (b : Nat) (σ : Sg) : Option Sg :=
  (f_X1_beginnings b σ).bind fun q1 =>
  (pfi σ b 10 q1).bind fun s2 =>
  some (s2)
def f_X1_couldBeStep_39 (b : Nat) (t0_39 : Int32) (σ : Sg) : Option Int32 :=
  (zrt t0_39).bind fun x2 =>
  some (x2)
def f_X1_couldBeStep_38 (b : Nat) (σ : Sg) : Option Int32 :=
  f_X1_couldBeStep_39 b 0 σ
def f_X1_couldBeStep (b : Nat) (v1 : Int32) (v2 : Int32) (v3 : Int32) (σ : Sg) : Option Int32 :=
  (f_X1_hasStone b v1 σ).bind fun q1 =>
  if q1 = 0 then (
  f_X1_couldBeStep_38 b σ)
  else (
  (f_X1_hasStone b v2 σ).bind fun q3 =>
  if q3 = 0 then (
  f_X1_couldBeStep_38 b σ)
  else (
  (f_X1_hasStone b v3 σ).bind fun q4 =>
  if q4 = 0 then (
  f_X1_couldBeStep_38 b σ)
  else (
  if v3 = v1 then (
  f_X1_couldBeStep_38 b σ)
  else (
  if v3 = v2 then (
  f_X1_couldBeStep_38 b σ)
  else (
  f_X1_couldBeStep_39 b 1 σ)))))
def f_X8_put_14 (k1 n1 : Nat) (s_14 : Sg) : Option Sg :=
  some (s_14)
def f_X8_put (k1 n1 : Nat) (v1 : Int32) (v2 : Int32) (σ : Sg) : Option Sg :=
  if v1 < 0 then (
  f_X8_put_14 k1 n1 σ)
  else (
  if (nI n1) ≤ v1 then (
  f_X8_put_14 k1 n1 σ)
  else (
  (ast σ k1 n1 v1 v2).bind fun s1 =>
  f_X8_put_14 k1 n1 s1))
def f_X1_addStep_19 (b : Nat) (s_19 : Sg) : Option (Int32 × Sg) :=
  (zrt 0).bind fun x2 =>
  some ((x2, s_19))
def f_X1_addStep (b : Nat) (v1 : Int32) (v2 : Int32) (v3 : Int32) (σ : Sg) : Option (Int32 × Sg) :=
  (f_X1_couldBeStep b v1 v2 v3 σ).bind fun q1 =>
  if q1 = 0 then (
  f_X1_addStep_19 b σ)
  else (
  if (σ.1 b 7) < 10 then (
  (f_X8_put (b + 1) 10 (σ.1 b 7) v1 σ).bind fun q3 =>
  (f_X8_put (b + 2) 10 (q3.1 b 7) v2 q3).bind fun q4 =>
  (f_X8_put (b + 3) 10 (q4.1 b 7) v3 q4).bind fun q5 =>
  (f_X8_put (b + 4) 10 (q5.1 b 7) (((1 : Int32) <<< (v1 &&& 31)) ||| ((1 : Int32) <<< (v2 &&& 31))) q5).bind fun q6 =>
  (pfi q6 b 7 ((q6.1 b 7) + (1 : Int32))).bind fun s7 =>
  (zrt 1).bind fun x8 =>
  some ((x8, s7)))
  else (
  f_X1_addStep_19 b σ))
def f_X1_setGainsay_21 (b : Nat) (s_21 : Sg) : Option (Int32 × Sg) :=
  (zrt 0).bind fun x2 =>
  some ((x2, s_21))
def f_X1_setGainsay (b : Nat) (v1 : Int32) (v2 : Int32) (σ : Sg) : Option (Int32 × Sg) :=
  (f_X1_hasStone b v1 σ).bind fun q1 =>
  if q1 = 0 then (
  f_X1_setGainsay_21 b σ)
  else (
  (f_X1_hasStone b v2 σ).bind fun q3 =>
  if q3 = 0 then (
  f_X1_setGainsay_21 b σ)
  else (
  if v1 = v2 then (
  f_X1_setGainsay_21 b σ)
  else (
  (f_X8_at (b + 5) 10 v1 σ).bind fun q4 =>
  (f_X8_put (b + 5) 10 v1 (q4 ||| ((1 : Int32) <<< (v2 &&& 31))) σ).bind fun q5 =>
  (f_X8_at (b + 5) 10 v2 q5).bind fun q6 =>
  (f_X8_put (b + 5) 10 v2 (q6 ||| ((1 : Int32) <<< (v1 &&& 31))) q5).bind fun q7 =>
  (zrt 1).bind fun x8 =>
  some ((x8, q7)))))
def f_X1_setWear (b : Nat) (v1 : Int32) (v2 : Int32) (σ : Sg) : Option (Int32 × Sg) :=
  (f_X1_hasStone b v1 σ).bind fun q1 =>
  if q1 = 0 then (
  (zrt 0).bind fun x4 =>
  some ((x4, σ)))
  else (
  (f_X8_put (b + 6) 10 v1 v2 σ).bind fun q2 =>
  (zrt 1).bind fun x3 =>
  some ((x3, q2)))
def f_X1_stepCount (b : Nat) (σ : Sg) : Option Int32 :=
  some ((σ.1 b 7))
def f_X1_begins (b : Nat) (σ : Sg) : Option Int32 :=
  some ((σ.1 b 8))
def f_X1_stood (b : Nat) (σ : Sg) : Option Int32 :=
  some ((σ.1 b 10))
def f_X1_isThere (b : Nat) (v1 : Int32) (σ : Sg) : Option Int32 :=
  (f_X8_has (σ.1 b 9) v1).bind fun q1 =>
  (zrt q1).bind fun x2 =>
  some (x2)
def f_X1_wearOf (b : Nat) (v1 : Int32) (σ : Sg) : Option Int32 :=
  (f_X8_at (b + 6) 10 v1 σ).bind fun q1 =>
  some (q1)
def f_X1_firstOf (b : Nat) (v1 : Int32) (σ : Sg) : Option Int32 :=
  (f_X8_at (b + 1) 10 v1 σ).bind fun q1 =>
  some (q1)
def f_X1_secondOf (b : Nat) (v1 : Int32) (σ : Sg) : Option Int32 :=
  (f_X8_at (b + 2) 10 v1 σ).bind fun q1 =>
  some (q1)
def f_X1_endOf (b : Nat) (v1 : Int32) (σ : Sg) : Option Int32 :=
  (f_X8_at (b + 3) 10 v1 σ).bind fun q1 =>
  some (q1)
def f_X1_originsOf (b : Nat) (v1 : Int32) (σ : Sg) : Option Int32 :=
  (f_X8_at (b + 4) 10 v1 σ).bind fun q1 =>
  some (q1)
def f_X1_after (b : Nat) (v1 : Int32) (v2 : Int32) (σ : Sg) : Option Int32 :=
  (f_X1_afterAmong b v1 v2 (σ.1 b 9) σ).bind fun q1 =>
  some (q1)
def f_X1_mayBeGone_21 (b : Nat) (t0_21 : Int32) (σ : Sg) : Option Int32 :=
  (zrt t0_21).bind fun x2 =>
  some (x2)
def f_X1_mayBeGone (b : Nat) (v1 : Int32) (σ : Sg) : Option Int32 :=
  (f_X1_after b v1 (σ.1 b 10) σ).bind fun q1 =>
  if q1 = (σ.1 b 10) then (
  f_X1_mayBeGone_21 b 0 σ)
  else (
  f_X1_mayBeGone_21 b 1 σ)
def f_X1_tread (b : Nat) (v1 : Int32) (σ : Sg) : Option Sg :=
  (f_X1_endOf b v1 σ).bind fun q1 =>
  (f_X1_after b v1 (σ.1 b 10) σ).bind fun q2 =>
  (pfi σ b 10 q2).bind fun s3 =>
  (f_X8_at (b + 6) 10 q1 s3).bind fun q4 =>
  (f_X8_put (b + 6) 10 q1 (q4 + (1 : Int32)) s3).bind fun q5 =>
  some (q5)
def f_X1_untread (b : Nat) (v1 : Int32) (σ : Sg) : Option Sg :=
  (pfi σ b 10 ((σ.1 b 10) &&& (((1 : Int32) <<< (v1 &&& 31)) ^^^ ((-1) : Int32)))).bind fun s1 =>
  (f_X8_at (b + 6) 10 v1 s1).bind fun q2 =>
  (f_X8_put (b + 6) 10 v1 (q2 - (1 : Int32)) s1).bind fun q3 =>
  some (q3)
def f_X1_removeSlab (b : Nat) (v1 : Int32) (σ : Sg) : Option Sg :=
  (pfi σ b 9 ((σ.1 b 9) &&& (((1 : Int32) <<< (v1 &&& 31)) ^^^ ((-1) : Int32)))).bind fun s1 =>
  (pfi s1 b 10 ((s1.1 b 10) &&& (((1 : Int32) <<< (v1 &&& 31)) ^^^ ((-1) : Int32)))).bind fun s2 =>
  some (s2)
def f_X1_putSlabBack_28 (b : Nat) (s_28 : Sg) : Option Sg :=
  some (s_28)
def f_X1_putSlabBack (b : Nat) (v1 : Int32) (v2 : Int32) (σ : Sg) : Option Sg :=
  (pfi σ b 9 ((σ.1 b 9) ||| ((1 : Int32) <<< (v1 &&& 31)))).bind fun s1 =>
  if v2 = 0 then (
  f_X1_putSlabBack_28 b s1)
  else (
  (pfi s1 b 10 ((s1.1 b 10) ||| ((1 : Int32) <<< (v1 &&& 31)))).bind fun s2 =>
  f_X1_putSlabBack_28 b s2)
def f_X1_removeLatestStep_17 (b : Nat) (s_17 : Sg) : Option Sg :=
  some (s_17)
def f_X1_removeLatestStep (b : Nat) (σ : Sg) : Option Sg :=
  if (σ.1 b 7) ≤ 0 then (
  f_X1_removeLatestStep_17 b σ)
  else (
  (pfi σ b 7 ((σ.1 b 7) - (1 : Int32))).bind fun s1 =>
  f_X1_removeLatestStep_17 b s1)
def f_X1_directlyBehind_32 (b : Nat) (v1 : Int32) (v2_32 : Int32) (v3_32 : Int32) (σ : Sg) : Option ((Int32 × Int32) ⊕ Int32) :=
  nm (v3_32 + 1) fun x2 =>
  some (.inl (v2_32, x2))
def f_X1_directlyBehind_4s (b : Nat) (v1 : Int32) (v2_4 : Int32) (v3_4 : Int32) (σ : Sg) : Option ((Int32 × Int32) ⊕ Int32) :=
  if (σ.1 b 7) ≤ v3_4 then (
  some (.inr (v2_4)))
  else (
  (f_X1_originsOf b v3_4 σ).bind fun q1 =>
  if (q1 &&& v1) = 0 then (
  f_X1_directlyBehind_32 b v1 v2_4 v3_4 σ)
  else (
  (f_X1_endOf b v3_4 σ).bind fun q3 =>
  nm ((v2_4 ||| ((1 : Int32) <<< (q3 &&& 31)))) fun x4 =>
  f_X1_directlyBehind_32 b v1 x4 v3_4 σ))
def f_X1_directlyBehind_4 (b : Nat) (v1 : Int32) (v2_4 : Int32) (v3_4 : Int32) (σ : Sg) : Option Int32 :=
  itr 3000 (fun s => f_X1_directlyBehind_4s b v1 s.1 s.2 σ) (v2_4, v3_4)
def f_X1_directlyBehind (b : Nat) (v1 : Int32) (σ : Sg) : Option Int32 :=
  f_X1_directlyBehind_4 b v1 0 0 σ
def f_X2_size (σ : Sg) : Option Int32 :=
  some ((σ.1 33 2))
def f_X2_clear (σ : Sg) : Option Sg :=
  (pfi σ 33 2 0).bind fun s1 =>
  some (s1)
def f_X2_forgetOldest_2s (v1_2 : Int32) (s_2 : Sg) : Option ((Int32 × Sg) ⊕ Sg) :=
  if (s_2.1 33 2) ≤ v1_2 then (
  (pfi s_2 33 2 ((s_2.1 33 2) - (1 : Int32))).bind fun s1 =>
  some (.inr (s1)))
  else (
  (f_X8_at 34 8 v1_2 s_2).bind fun q2 =>
  (f_X8_put 34 8 (v1_2 - (1 : Int32)) q2 s_2).bind fun q3 =>
  (f_X8_at 35 8 v1_2 q3).bind fun q4 =>
  (f_X8_put 35 8 (v1_2 - (1 : Int32)) q4 q3).bind fun q5 =>
  nm (v1_2 + 1) fun x6 =>
  some (.inl (x6, q5)))
def f_X2_forgetOldest_2 (v1_2 : Int32) (s_2 : Sg) : Option Sg :=
  itr 3000 (fun s => f_X2_forgetOldest_2s s.1 s.2) (v1_2, s_2)
def f_X2_forgetOldest (σ : Sg) : Option Sg :=
  f_X2_forgetOldest_2 1 σ
def f_X2_note_13 (v1 : Int32) (v2 : Int32) (s_13 : Sg) : Option Sg :=
  (f_X8_put 34 8 (s_13.1 33 2) v1 s_13).bind fun q1 =>
  (f_X8_put 35 8 (q1.1 33 2) v2 q1).bind fun q2 =>
  (pfi q2 33 2 ((q2.1 33 2) + (1 : Int32))).bind fun s3 =>
  some (s3)
def f_X2_note (v1 : Int32) (v2 : Int32) (σ : Sg) : Option Sg :=
  if (σ.1 33 2) < 8 then (
  f_X2_note_13 v1 v2 σ)
  else (
  (f_X2_forgetOldest σ).bind fun q4 =>
  f_X2_note_13 v1 v2 q4)
def f_X2_noteGone (v1 : Int32) (σ : Sg) : Option Sg :=
  (f_X2_note 0 v1 σ).bind fun q1 =>
  some (q1)
def f_X2_noteOut_10 (v1 : Int32) (t1_10 : Int32) (s_10 : Sg) : Option Sg :=
  (f_X2_note t1_10 v1 s_10).bind fun q1 =>
  some (q1)
def f_X2_noteOut (v1 : Int32) (v2 : Int32) (σ : Sg) : Option Sg :=
  if v2 = 0 then (
  f_X2_noteOut_10 v1 1 σ)
  else (
  f_X2_noteOut_10 v1 2 σ)
def f_X2_noteLaid (σ : Sg) : Option Sg :=
  (f_X2_note 3 0 σ).bind fun q1 =>
  some (q1)
def f_X2_takeBackLatest_81 (s_81 : Sg) : Option Sg :=
  some (s_81)
def f_X2_takeBackLatest_78 (t1_78 : Int32) (t2_78 : Int32) (s_78 : Sg) : Option Sg :=
  (f_X1_putSlabBack 12 t1_78 t2_78 s_78).bind fun q4 =>
  f_X2_takeBackLatest_81 q4
def f_X2_takeBackLatest (σ : Sg) : Option Sg :=
  if (σ.1 33 2) = 0 then (
  some (σ))
  else (
  (pfi σ 33 2 ((σ.1 33 2) - (1 : Int32))).bind fun s1 =>
  (f_X8_at 34 8 (s1.1 33 2) s1).bind fun q2 =>
  (f_X8_at 35 8 (s1.1 33 2) s1).bind fun q3 =>
  if q2 = 0 then (
  (f_X1_untread 12 q3 s1).bind fun q6 =>
  f_X2_takeBackLatest_81 q6)
  else (
  if q2 = 3 then (
  (f_X1_removeLatestStep 12 s1).bind fun q5 =>
  f_X2_takeBackLatest_81 q5)
  else (
  if q2 = 2 then (
  f_X2_takeBackLatest_78 q3 1 s1)
  else (
  f_X2_takeBackLatest_78 q3 0 s1))))
def f_J6_numberOfTrailingZeros_0f7a4_74 (v0_74 : Int32) (v1_74 : Int32) : Option Int32 :=
  some ((v1_74 + (((v0_74).toUInt32 >>> ((1 : Int32).toUInt32 &&& Int32.toUInt32 31)).toInt32)))
def f_J6_numberOfTrailingZeros_0f7a4_62 (v0_62 : Int32) (v1_62 : Int32) : Option Int32 :=
  if v0_62 ≤ 4 then (
  f_J6_numberOfTrailingZeros_0f7a4_74 v0_62 v1_62)
  else (
  nm (v1_62 + 2) fun x2 =>
  nm ((((v0_62).toUInt32 >>> ((2 : Int32).toUInt32 &&& Int32.toUInt32 31)).toInt32)) fun x3 =>
  f_J6_numberOfTrailingZeros_0f7a4_74 x3 x2)
def f_J6_numberOfTrailingZeros_0f7a4_49 (v0_49 : Int32) (v1_49 : Int32) : Option Int32 :=
  if v0_49 ≤ 16 then (
  f_J6_numberOfTrailingZeros_0f7a4_62 v0_49 v1_49)
  else (
  nm (v1_49 + 4) fun x4 =>
  nm ((((v0_49).toUInt32 >>> ((4 : Int32).toUInt32 &&& Int32.toUInt32 31)).toInt32)) fun x5 =>
  f_J6_numberOfTrailingZeros_0f7a4_62 x5 x4)
def f_J6_numberOfTrailingZeros_0f7a4_34 (v0_34 : Int32) (v1_34 : Int32) : Option Int32 :=
  if v0_34 ≤ 256 then (
  f_J6_numberOfTrailingZeros_0f7a4_49 v0_34 v1_34)
  else (
  nm (v1_34 + 8) fun x6 =>
  nm ((((v0_34).toUInt32 >>> ((8 : Int32).toUInt32 &&& Int32.toUInt32 31)).toInt32)) fun x7 =>
  f_J6_numberOfTrailingZeros_0f7a4_49 x7 x6)
def f_J6_numberOfTrailingZeros_0f7a4 (v0 : Int32) : Option Int32 :=
  nm (((v0 ^^^ ((-1) : Int32)) &&& (v0 - (1 : Int32)))) fun x1 =>
  if (0 : Int32) < x1 then (
  if x1 ≤ 65536 then (
  f_J6_numberOfTrailingZeros_0f7a4_34 x1 1)
  else (
  nm (1 + 16) fun x8 =>
  nm ((((x1).toUInt32 >>> ((16 : Int32).toUInt32 &&& Int32.toUInt32 31)).toInt32)) fun x9 =>
  f_J6_numberOfTrailingZeros_0f7a4_34 x9 x8))
  else (
  some ((x1 &&& (32 : Int32))))
def f_X3_reckon_76 (v2_76 : Int32) (t0_76 : Int32) (s_76 : Sg) : Option ((Int32 × Sg) ⊕ Sg) :=
  (f_X8_put 40 1024 v2_76 t0_76 s_76).bind fun q10 =>
  nm (v2_76 + 1) fun x11 =>
  some (.inl (x11, q10))
def f_X3_reckon_24s (v2_24 : Int32) (s_24 : Sg) : Option ((Int32 × Sg) ⊕ Sg) :=
  if (s_24.1 39 1) ≤ v2_24 then (
  some (.inr (s_24)))
  else (
  (f_X8_at 40 1024 (v2_24 &&& (v2_24 - (1 : Int32))) s_24).bind fun q5 =>
  (f_J6_numberOfTrailingZeros_0f7a4 v2_24).bind fun q6 =>
  (f_X1_after 12 q6 q5 s_24).bind fun q7 =>
  if q7 = q5 then (
  f_X3_reckon_76 v2_24 q5 s_24)
  else (
  (f_X1_there 12 s_24).bind fun q8 =>
  (f_X1_reachBy 12 q5 v2_24 q8 s_24).bind fun q9 =>
  f_X3_reckon_76 v2_24 q9 s_24))
def f_X3_reckon_24 (v2_24 : Int32) (s_24 : Sg) : Option Sg :=
  itr 3000 (fun s => f_X3_reckon_24s s.1 s.2) (v2_24, s_24)
def f_X3_reckon (σ : Sg) : Option Sg :=
  (f_X1_stepCount 12 σ).bind fun q1 =>
  (pfi σ 39 1 ((1 : Int32) <<< (q1 &&& 31))).bind fun s2 =>
  (f_X1_beginnings 12 s2).bind fun q3 =>
  (f_X8_put 40 1024 0 q3 s2).bind fun q4 =>
  f_X3_reckon_24 1 q4
def f_X3_isProof_56 (v1 : Int32) (v2 : Int32) (v3_56 : Int32) (σ : Sg) : Option ((Int32) ⊕ Int32) :=
  nm (v3_56 + 1) fun x5 =>
  some (.inl (x5))
def f_X3_isProof_19s (v1 : Int32) (v2 : Int32) (v3_19 : Int32) (σ : Sg) : Option ((Int32) ⊕ Int32) :=
  if (10 : Int32) ≤ v3_19 then (
  (zrt 1).bind fun x3 =>
  some (.inr (x3)))
  else (
  (f_X8_has v1 v3_19).bind fun q4 =>
  if q4 = 0 then (
  f_X3_isProof_56 v1 v2 v3_19 σ)
  else (
  (f_X8_at 40 1024 (v1 &&& (((1 : Int32) <<< (v3_19 &&& 31)) ^^^ ((-1) : Int32))) σ).bind fun q6 =>
  (f_X8_has q6 v2).bind fun q7 =>
  if q7 = 0 then (
  f_X3_isProof_56 v1 v2 v3_19 σ)
  else (
  (zrt 0).bind fun x8 =>
  some (.inr (x8)))))
def f_X3_isProof_19 (v1 : Int32) (v2 : Int32) (v3_19 : Int32) (σ : Sg) : Option Int32 :=
  itr 3000 (fun s => f_X3_isProof_19s v1 v2 s σ) (v3_19)
def f_X3_isProof (v1 : Int32) (v2 : Int32) (σ : Sg) : Option Int32 :=
  (f_X8_at 40 1024 v1 σ).bind fun q1 =>
  (f_X8_has q1 v2).bind fun q2 =>
  if q2 = 0 then (
  (zrt 0).bind fun x9 =>
  some (x9))
  else (
  f_X3_isProof_19 v1 v2 0 σ)
def f_X3_howMany_24 (v1 : Int32) (v2_24 : Int32) (v3_24 : Int32) (σ : Sg) : Option ((Int32 × Int32) ⊕ Int32) :=
  nm (v3_24 + 1) fun x2 =>
  some (.inl (v2_24, x2))
def f_X3_howMany_4s (v1 : Int32) (v2_4 : Int32) (v3_4 : Int32) (σ : Sg) : Option ((Int32 × Int32) ⊕ Int32) :=
  if (σ.1 39 1) ≤ v3_4 then (
  some (.inr (v2_4)))
  else (
  (f_X3_isProof v3_4 v1 σ).bind fun q1 =>
  if q1 = 0 then (
  f_X3_howMany_24 v1 v2_4 v3_4 σ)
  else (
  nm (v2_4 + 1) fun x3 =>
  f_X3_howMany_24 v1 x3 v3_4 σ))
def f_X3_howMany_4 (v1 : Int32) (v2_4 : Int32) (v3_4 : Int32) (σ : Sg) : Option Int32 :=
  itr 3000 (fun s => f_X3_howMany_4s v1 s.1 s.2 σ) (v2_4, v3_4)
def f_X3_howMany (v1 : Int32) (σ : Sg) : Option Int32 :=
  f_X3_howMany_4 v1 0 0 σ
def f_X3_shortest_46 (v1 : Int32) (v2_46 : Int32) (v3_46 : Int32) (v4_46 : Int32) (σ : Sg) : Option ((Int32 × Int32 × Int32) ⊕ Int32) :=
  nm (v4_46 + 1) fun x2 =>
  some (.inl (v2_46, v3_46, x2))
def f_X3_shortest_9s (v1 : Int32) (v2_9 : Int32) (v3_9 : Int32) (v4_9 : Int32) (σ : Sg) : Option ((Int32 × Int32 × Int32) ⊕ Int32) :=
  if (σ.1 39 1) ≤ v4_9 then (
  some (.inr (v2_9)))
  else (
  (f_J6_bitCount_0f7a4 v4_9).bind fun q1 =>
  if v3_9 ≤ q1 then (
  f_X3_shortest_46 v1 v2_9 v3_9 v4_9 σ)
  else (
  (f_X3_isProof v4_9 v1 σ).bind fun q3 =>
  if q3 = 0 then (
  f_X3_shortest_46 v1 v2_9 v3_9 v4_9 σ)
  else (
  (f_J6_bitCount_0f7a4 v4_9).bind fun q4 =>
  f_X3_shortest_46 v1 v4_9 q4 v4_9 σ)))
def f_X3_shortest_9 (v1 : Int32) (v2_9 : Int32) (v3_9 : Int32) (v4_9 : Int32) (σ : Sg) : Option Int32 :=
  itr 3000 (fun s => f_X3_shortest_9s v1 s.1 s.2.1 s.2.2 σ) (v2_9, v3_9, v4_9)
def f_X3_shortest (v1 : Int32) (σ : Sg) : Option Int32 :=
  f_X3_shortest_9 v1 (-4) 11 0 σ
def f_X3_inAll_50 (t0_50 : Int32) (σ : Sg) : Option Int32 :=
  some (t0_50)
def f_X3_inAll_35 (v1 : Int32) (v2_35 : Int32) (v3_35 : Int32) (v4_35 : Int32) (σ : Sg) : Option ((Int32 × Int32 × Int32) ⊕ Int32) :=
  nm (v4_35 + 1) fun x2 =>
  some (.inl (v2_35, v3_35, x2))
def f_X3_inAll_9s (v1 : Int32) (v2_9 : Int32) (v3_9 : Int32) (v4_9 : Int32) (σ : Sg) : Option ((Int32 × Int32 × Int32) ⊕ Int32) :=
  if (σ.1 39 1) ≤ v4_9 then (
  if v3_9 = 0 then (
  (f_X3_inAll_50 0 σ).map (fun z => .inr (z)))
  else (
  (f_X3_inAll_50 v2_9 σ).map (fun z => .inr (z))))
  else (
  (f_X3_isProof v4_9 v1 σ).bind fun q1 =>
  if q1 = 0 then (
  f_X3_inAll_35 v1 v2_9 v3_9 v4_9 σ)
  else (
  nm ((v2_9 &&& v4_9)) fun x3 =>
  f_X3_inAll_35 v1 x3 1 v4_9 σ))
def f_X3_inAll_9 (v1 : Int32) (v2_9 : Int32) (v3_9 : Int32) (v4_9 : Int32) (σ : Sg) : Option Int32 :=
  itr 3000 (fun s => f_X3_inAll_9s v1 s.1 s.2.1 s.2.2 σ) (v2_9, v3_9, v4_9)
def f_X3_inAll (v1 : Int32) (σ : Sg) : Option Int32 :=
  f_X3_inAll_9 v1 1023 0 0 σ
def f_X3_endsOf_30 (v1 : Int32) (v2_30 : Int32) (v3_30 : Int32) (σ : Sg) : Option ((Int32 × Int32) ⊕ Int32) :=
  nm (v3_30 + 1) fun x3 =>
  some (.inl (v2_30, x3))
def f_X3_endsOf_4s (v1 : Int32) (v2_4 : Int32) (v3_4 : Int32) (σ : Sg) : Option ((Int32 × Int32) ⊕ Int32) :=
  (f_X1_stepCount 12 σ).bind fun q1 =>
  if q1 ≤ v3_4 then (
  some (.inr (v2_4)))
  else (
  (f_X8_has v1 v3_4).bind fun q2 =>
  if q2 = 0 then (
  f_X3_endsOf_30 v1 v2_4 v3_4 σ)
  else (
  (f_X1_endOf 12 v3_4 σ).bind fun q4 =>
  nm ((v2_4 ||| ((1 : Int32) <<< (q4 &&& 31)))) fun x5 =>
  f_X3_endsOf_30 v1 x5 v3_4 σ))
def f_X3_endsOf_4 (v1 : Int32) (v2_4 : Int32) (v3_4 : Int32) (σ : Sg) : Option Int32 :=
  itr 3000 (fun s => f_X3_endsOf_4s v1 s.1 s.2 σ) (v2_4, v3_4)
def f_X3_endsOf (v1 : Int32) (σ : Sg) : Option Int32 :=
  f_X3_endsOf_4 v1 0 0 σ
def f_X3_howManyWear_38 (v2 : Int32) (v3 : Int32) (v4_38 : Int32) (v5_38 : Int32) (σ : Sg) : Option ((Int32 × Int32) ⊕ Int32) :=
  nm (v5_38 + 1) fun x2 =>
  some (.inl (v4_38, x2))
def f_X3_howManyWear_6s (v2 : Int32) (v3 : Int32) (v4_6 : Int32) (v5_6 : Int32) (σ : Sg) : Option ((Int32 × Int32) ⊕ Int32) :=
  if (σ.1 39 1) ≤ v5_6 then (
  some (.inr (v4_6)))
  else (
  (f_X3_endsOf v5_6 σ).bind fun q1 =>
  if q1 = v3 then (
  (f_X3_isProof v5_6 v2 σ).bind fun q3 =>
  if q3 = 0 then (
  f_X3_howManyWear_38 v2 v3 v4_6 v5_6 σ)
  else (
  nm (v4_6 + 1) fun x4 =>
  f_X3_howManyWear_38 v2 v3 x4 v5_6 σ))
  else (
  f_X3_howManyWear_38 v2 v3 v4_6 v5_6 σ))
def f_X3_howManyWear_6 (v2 : Int32) (v3 : Int32) (v4_6 : Int32) (v5_6 : Int32) (σ : Sg) : Option Int32 :=
  itr 3000 (fun s => f_X3_howManyWear_6s v2 v3 s.1 s.2 σ) (v4_6, v5_6)
def f_X3_howManyWear (v2 : Int32) (v3 : Int32) (σ : Sg) : Option Int32 :=
  f_X3_howManyWear_6 v2 v3 0 0 σ
def f_X4_isFigure_17 (t0_17 : Int32) : Option Int32 :=
  (zrt t0_17).bind fun x1 =>
  some (x1)
def f_X4_isFigure_16 : Option Int32 :=
  f_X4_isFigure_17 0
def f_X4_isFigure (v0 : Int32) : Option Int32 :=
  if v0 < 48 then (
  f_X4_isFigure_16 )
  else (
  if (57 : Int32) < v0 then (
  f_X4_isFigure_16 )
  else (
  f_X4_isFigure_17 1))
def f_X6_byteAt_24 (t0_24 : Int32) (σ : Sg) : Option Int32 :=
  some (t0_24)
def f_X6_byteAt_23 (σ : Sg) : Option Int32 :=
  f_X6_byteAt_24 (-1) σ
def f_X6_byteAt (v1 : Int32) (σ : Sg) : Option Int32 :=
  if v1 < 0 then (
  f_X6_byteAt_23 σ)
  else (
  if (σ.1 1 1) ≤ v1 then (
  f_X6_byteAt_23 σ)
  else (
  (f_X8_at 2 300 v1 σ).bind fun q1 =>
  f_X6_byteAt_24 q1 σ))
def f_X4_figuresAt_31 (t0_31 : Int32) (σ : Sg) : Option Int32 :=
  some (t0_31)
def f_X4_figuresAt (v1 : Int32) (σ : Sg) : Option Int32 :=
  (f_X6_byteAt v1 σ).bind fun q1 =>
  (f_X4_isFigure q1).bind fun q2 =>
  if q2 = 0 then (
  some (0))
  else (
  (f_X6_byteAt (v1 + (1 : Int32)) σ).bind fun q3 =>
  (f_X4_isFigure q3).bind fun q4 =>
  if q4 = 0 then (
  f_X4_figuresAt_31 1 σ)
  else (
  f_X4_figuresAt_31 2 σ))
def f_X4_numberAt_5s (v1 : Int32) (v2 : Int32) (v3_5 : Int32) (v4_5 : Int32) (σ : Sg) : Option ((Int32 × Int32) ⊕ Int32) :=
  if v2 ≤ v4_5 then (
  some (.inr (v3_5)))
  else (
  (f_X6_byteAt (v1 + v4_5) σ).bind fun q1 =>
  nm (((((10 : Int32) * v3_5) + q1) - (48 : Int32))) fun x2 =>
  nm (v4_5 + 1) fun x3 =>
  some (.inl (x2, x3)))
def f_X4_numberAt_5 (v1 : Int32) (v2 : Int32) (v3_5 : Int32) (v4_5 : Int32) (σ : Sg) : Option Int32 :=
  itr 3000 (fun s => f_X4_numberAt_5s v1 v2 s.1 s.2 σ) (v3_5, v4_5)
def f_X4_numberAt (v1 : Int32) (v2 : Int32) (σ : Sg) : Option Int32 :=
  f_X4_numberAt_5 v1 v2 0 0 σ
def f_X4_numbersOf_52 : Option Int32 :=
  some (1)
def f_X4_numbersOf_54 : Option Int32 :=
  some (2)
def f_X4_numbersOf (v0 : Int32) : Option Int32 :=
  if v0 = 97 then (
  f_X4_numbersOf_52 )
  else (
  if v0 = 110 then (
  f_X4_numbersOf_52 )
  else (
  if v0 = 116 then (
  some (3))
  else (
  if v0 = 119 then (
  f_X4_numbersOf_54 )
  else (
  if v0 = 120 then (
  f_X4_numbersOf_54 )
  else (
  some (0))))))
def f_X4_itemsEnd_76 (v3_23 : Int32) (v4_76 : Int32) (v5_76 : Int32) (v6_76 : Int32) (t0_76 : Int32) (s_76 : Sg) : Option ((Int32 × Int32 × Sg) ⊕ (Int32 × Sg)) :=
  (f_X6_byteAt (v4_76 + v6_76) s_76).bind fun q7 =>
  if q7 = t0_76 then (
  nm ((v4_76 + (v6_76 + (1 : Int32)))) fun x8 =>
  nm (v5_76 + 1) fun x9 =>
  some (.inl (x8, x9, s_76)))
  else (
  some (.inr (((-1), s_76))))
def f_X4_itemsEnd_23s (v3_23 : Int32) (v4_23 : Int32) (v5_23 : Int32) (s_23 : Sg) : Option ((Int32 × Int32 × Sg) ⊕ (Int32 × Sg)) :=
  if v3_23 ≤ v5_23 then (
  some (.inr ((v4_23, s_23))))
  else (
  (f_X4_figuresAt v4_23 s_23).bind fun q4 =>
  if q4 = 0 then (
  some (.inr (((-1), s_23))))
  else (
  (f_X4_numberAt v4_23 q4 s_23).bind fun q5 =>
  (f_X8_put 4 3 v5_23 q5 s_23).bind fun q6 =>
  if v5_23 = (v3_23 - (1 : Int32)) then (
  f_X4_itemsEnd_76 v3_23 v4_23 v5_23 q4 59 q6)
  else (
  f_X4_itemsEnd_76 v3_23 v4_23 v5_23 q4 44 q6)))
def f_X4_itemsEnd_23 (v3_23 : Int32) (v4_23 : Int32) (v5_23 : Int32) (s_23 : Sg) : Option (Int32 × Sg) :=
  itr 3000 (fun s => f_X4_itemsEnd_23s v3_23 s.1 s.2.1 s.2.2) (v4_23, v5_23, s_23)
def f_X4_itemsEnd (v2 : Int32) (σ : Sg) : Option (Int32 × Sg) :=
  (f_X6_byteAt v2 σ).bind fun q1 =>
  (f_X4_numbersOf q1).bind fun q2 =>
  if q2 = 0 then (
  some (((-1), σ)))
  else (
  nm ((v2 + (1 : Int32))) fun x3 =>
  f_X4_itemsEnd_23 q2 x3 0 σ)
def f_X4_takeItem_45 (b : Nat) (t0_45 : Int32) (s_45 : Sg) : Option (Int32 × Sg) :=
  (zrt t0_45).bind fun x13 =>
  some ((x13, s_45))
def f_X4_takeItem_44 (b : Nat) (s_44 : Sg) : Option (Int32 × Sg) :=
  f_X4_takeItem_45 b 0 s_44
def f_X4_takeItem (b : Nat) (v2 : Int32) (σ : Sg) : Option (Int32 × Sg) :=
  (f_X8_at 4 3 0 σ).bind fun q1 =>
  (f_X8_at 4 3 1 σ).bind fun q2 =>
  if v2 = 110 then (
  if (σ.1 3 1) = 0 then (
  f_X4_takeItem_44 b σ)
  else (
  (f_X1_setStones b q1 σ).bind fun q14 =>
  if q14.1 = 0 then (
  f_X4_takeItem_44 b q14.2)
  else (
  f_X4_takeItem_45 b 1 q14.2)))
  else (
  (pfz σ 3 1 0).bind fun s3 =>
  if v2 = 97 then (
  (f_X1_beginOn b q1 s3).bind fun q4 =>
  (zrt q4.1).bind fun x5 =>
  some ((x5, q4.2)))
  else (
  if v2 = 116 then (
  (f_X8_at 4 3 2 s3).bind fun q6 =>
  (f_X1_addStep b q1 q2 q6 s3).bind fun q7 =>
  (zrt q7.1).bind fun x8 =>
  some ((x8, q7.2)))
  else (
  if v2 = 120 then (
  (f_X1_setGainsay b q1 q2 s3).bind fun q9 =>
  (zrt q9.1).bind fun x10 =>
  some ((x10, q9.2)))
  else (
  (f_X1_setWear b q1 q2 s3).bind fun q11 =>
  (zrt q11.1).bind fun x12 =>
  some ((x12, q11.2))))))
def f_X6_size (σ : Sg) : Option Int32 :=
  some ((σ.1 1 1))
def f_X4_readOnto_68 (b : Nat) (s_68 : Sg) : Option (Int32 × Sg) :=
  (f_X1_standOnBeginnings b s_68).bind fun q3 =>
  some (((-4), q3))
def f_X4_readOnto_57 (b : Nat) (v3_57 : Int32) (s_57 : Sg) : Option (Int32 × Sg) :=
  some ((v3_57, s_57))
def f_X4_readOnto_14s (b : Nat) (v3_14 : Int32) (v4_14 : Int32) (s_14 : Sg) : Option ((Int32 × Int32 × Sg) ⊕ (Int32 × Sg)) :=
  if (300 : Int32) ≤ v4_14 then (
  (f_X4_readOnto_68 b s_14).map (fun z => .inr (z)))
  else (
  (f_X6_size s_14).bind fun q4 =>
  if q4 ≤ v3_14 then (
  (f_X4_readOnto_68 b s_14).map (fun z => .inr (z)))
  else (
  (f_X4_itemsEnd v3_14 s_14).bind fun q5 =>
  if q5.1 = (-1) then (
  (f_X4_readOnto_57 b v3_14 q5.2).map (fun z => .inr (z)))
  else (
  (f_X6_byteAt v3_14 q5.2).bind fun q6 =>
  (f_X4_takeItem b q6 q5.2).bind fun q7 =>
  if q7.1 = 0 then (
  (f_X4_readOnto_57 b v3_14 q7.2).map (fun z => .inr (z)))
  else (
  nm (v4_14 + 1) fun x8 =>
  some (.inl (q5.1, x8, q7.2))))))
def f_X4_readOnto_14 (b : Nat) (v3_14 : Int32) (v4_14 : Int32) (s_14 : Sg) : Option (Int32 × Sg) :=
  itr 3000 (fun s => f_X4_readOnto_14s b s.1 s.2.1 s.2.2) (v3_14, v4_14, s_14)
def f_X4_readOnto (b : Nat) (σ : Sg) : Option (Int32 × Sg) :=
  (f_X1_empty b σ).bind fun q1 =>
  (pfz q1 3 1 1).bind fun s2 =>
  f_X4_readOnto_14 b 0 0 s2
def f_X5_idleSteps_57 (v1_57 : Int32) (v2_57 : Int32) (σ : Sg) : Option ((Int32 × Int32) ⊕ Int32) :=
  nm (v2_57 + 1) fun x8 =>
  some (.inl (v1_57, x8))
def f_X5_idleSteps_4s (v1_4 : Int32) (v2_4 : Int32) (σ : Sg) : Option ((Int32 × Int32) ⊕ Int32) :=
  (f_X1_stepCount 12 σ).bind fun q1 =>
  if q1 ≤ v2_4 then (
  some (.inr (v1_4)))
  else (
  nm (((1023 : Int32) &&& (((1 : Int32) <<< (v2_4 &&& 31)) ^^^ ((-1) : Int32)))) fun x2 =>
  (f_X1_originsOf 12 v2_4 σ).bind fun q3 =>
  (f_X1_allStones 12 σ).bind fun q4 =>
  (f_X1_reachBy 12 q3 x2 q4 σ).bind fun q5 =>
  (f_X1_endOf 12 v2_4 σ).bind fun q6 =>
  (f_X8_has q5 q6).bind fun q7 =>
  if q7 = 0 then (
  f_X5_idleSteps_57 v1_4 v2_4 σ)
  else (
  nm ((v1_4 ||| ((1 : Int32) <<< (v2_4 &&& 31)))) fun x9 =>
  f_X5_idleSteps_57 x9 v2_4 σ))
def f_X5_idleSteps_4 (v1_4 : Int32) (v2_4 : Int32) (σ : Sg) : Option Int32 :=
  itr 3000 (fun s => f_X5_idleSteps_4s s.1 s.2 σ) (v1_4, v2_4)
def f_X5_idleSteps (σ : Sg) : Option Int32 :=
  f_X5_idleSteps_4 0 0 σ
def f_X5_everBehind_10s (v2_10 : Int32) (v3_10 : Int32) (σ : Sg) : Option ((Int32 × Int32) ⊕ Int32) :=
  if (10 : Int32) ≤ v3_10 then (
  some (.inr (v2_10)))
  else (
  (f_X1_directlyBehind 12 v2_10 σ).bind fun q2 =>
  nm ((v2_10 ||| q2)) fun x3 =>
  nm (v3_10 + 1) fun x4 =>
  some (.inl (x3, x4)))
def f_X5_everBehind_10 (v2_10 : Int32) (v3_10 : Int32) (σ : Sg) : Option Int32 :=
  itr 3000 (fun s => f_X5_everBehind_10s s.1 s.2 σ) (v2_10, v3_10)
def f_X5_everBehind (v1 : Int32) (σ : Sg) : Option Int32 :=
  (f_X1_directlyBehind 12 ((1 : Int32) <<< (v1 &&& 31)) σ).bind fun q1 =>
  f_X5_everBehind_10 q1 0 σ
def f_X5_lowestInCircle_2s (v1_2 : Int32) (σ : Sg) : Option ((Int32) ⊕ Int32) :=
  (f_X1_stoneCount 12 σ).bind fun q1 =>
  if q1 ≤ v1_2 then (
  some (.inr ((-4))))
  else (
  (f_X5_everBehind v1_2 σ).bind fun q2 =>
  (f_X8_has q2 v1_2).bind fun q3 =>
  if q3 = 0 then (
  nm (v1_2 + 1) fun x4 =>
  some (.inl (x4)))
  else (
  some (.inr (v1_2))))
def f_X5_lowestInCircle_2 (v1_2 : Int32) (σ : Sg) : Option Int32 :=
  itr 3000 (fun s => f_X5_lowestInCircle_2s s σ) (v1_2)
def f_X5_lowestInCircle (σ : Sg) : Option Int32 :=
  f_X5_lowestInCircle_2 0 σ
def f_X5_depth_7s (v1_7 : Int32) (v2_7 : Int32) (σ : Sg) : Option ((Int32 × Int32) ⊕ Int32) :=
  if (10 : Int32) ≤ v2_7 then (
  some (.inr ((-4))))
  else (
  (f_X1_directlyBehind 12 v1_7 σ).bind fun q2 =>
  if q2 = 0 then (
  some (.inr (v2_7)))
  else (
  nm (v2_7 + 1) fun x3 =>
  some (.inl (q2, x3))))
def f_X5_depth_7 (v1_7 : Int32) (v2_7 : Int32) (σ : Sg) : Option Int32 :=
  itr 3000 (fun s => f_X5_depth_7s s.1 s.2 σ) (v1_7, v2_7)
def f_X5_depth (σ : Sg) : Option Int32 :=
  (f_X1_allStones 12 σ).bind fun q1 =>
  f_X5_depth_7 q1 0 σ
def f_X6_clear (σ : Sg) : Option Sg :=
  (pfi σ 1 1 0).bind fun s1 =>
  some (s1)
def f_X6_addByte_32 (s_32 : Sg) : Option Sg :=
  some (s_32)
def f_X6_addByte (v1 : Int32) (σ : Sg) : Option Sg :=
  if (300 : Int32) ≤ (σ.1 1 1) then (
  f_X6_addByte_32 σ)
  else (
  (f_X8_put 2 300 (σ.1 1 1) v1 σ).bind fun q1 =>
  (pfi q1 1 1 ((q1.1 1 1) + (1 : Int32))).bind fun s2 =>
  f_X6_addByte_32 s2)
def f_X7_measureFrom_109 (v2 : Int32) (v4_109 : Int32) (v5_109 : Int32) (s_109 : Sg) : Option Sg :=
  (f_X8_put 37 1024 v2 v4_109 s_109).bind fun q3 =>
  (f_X8_put 38 1024 v2 v5_109 q3).bind fun q4 =>
  some (q4)
def f_X7_measureFrom_103 (v2 : Int32) (v4_103 : Int32) (v5_103 : Int32) (v6_103 : Int32) (s_25 : Sg) : Option ((Int32 × Int32 × Int32) ⊕ Sg) :=
  nm (v6_103 + 1) fun x8 =>
  some (.inl (v4_103, v5_103, x8))
def f_X7_measureFrom_96 (v2 : Int32) (v6_96 : Int32) (v8_96 : Int32) (t0_96 : Int32) (t1_96 : Int32) (s_25 : Sg) : Option ((Int32 × Int32 × Int32) ⊕ Sg) :=
  nm ((t0_96 + t1_96)) fun x10 =>
  f_X7_measureFrom_103 v2 v8_96 x10 v6_96 s_25
def f_X7_measureFrom_25s (v2 : Int32) (v4_25 : Int32) (v5_25 : Int32) (v6_25 : Int32) (s_25 : Sg) : Option ((Int32 × Int32 × Int32) ⊕ Sg) :=
  (f_X1_stepCount 12 s_25).bind fun q2 =>
  if q2 ≤ v6_25 then (
  (f_X7_measureFrom_109 v2 v4_25 v5_25 s_25).map (fun z => .inr (z)))
  else (
  if v4_25 ≤ 0 then (
  (f_X7_measureFrom_109 v2 v4_25 v5_25 s_25).map (fun z => .inr (z)))
  else (
  (f_X1_after 12 v6_25 v2 s_25).bind fun q5 =>
  (f_X8_at 37 1024 q5 s_25).bind fun q6 =>
  nm ((q6 + (1 : Int32))) fun x7 =>
  if q5 = v2 then (
  f_X7_measureFrom_103 v2 v4_25 v5_25 v6_25 s_25)
  else (
  if v4_25 < x7 then (
  f_X7_measureFrom_103 v2 v4_25 v5_25 v6_25 s_25)
  else (
  (f_X8_at 38 1024 q5 s_25).bind fun q9 =>
  if x7 = v4_25 then (
  f_X7_measureFrom_96 v2 v6_25 x7 q9 v5_25 s_25)
  else (
  f_X7_measureFrom_96 v2 v6_25 x7 q9 0 s_25)))))
def f_X7_measureFrom_25 (v2 : Int32) (v4_25 : Int32) (v5_25 : Int32) (v6_25 : Int32) (s_25 : Sg) : Option Sg :=
  itr 3000 (fun s => f_X7_measureFrom_25s v2 s.1 s.2.1 s.2.2 s_25) (v4_25, v5_25, v6_25)
def f_X7_measureFrom_22 (v2 : Int32) (v4_22 : Int32) (v5_22 : Int32) (s_22 : Sg) : Option Sg :=
  f_X7_measureFrom_25 v2 v4_22 v5_22 0 s_22
def f_X7_measureFrom (v2 : Int32) (v3 : Int32) (σ : Sg) : Option Sg :=
  (f_X8_has v2 v3).bind fun q1 =>
  if q1 = 0 then (
  f_X7_measureFrom_22 v2 1000 0 σ)
  else (
  f_X7_measureFrom_22 v2 0 1 σ)
def f_X7_measure_46 (v2 : Int32) (v3_11 : Int32) (v4_46 : Int32) (s_46 : Sg) : Option ((Int32 × Sg) ⊕ Sg) :=
  nm (v4_46 + (-1)) fun x4 =>
  some (.inl (x4, s_46))
def f_X7_measure_11s (v2 : Int32) (v3_11 : Int32) (v4_11 : Int32) (s_11 : Sg) : Option ((Int32 × Sg) ⊕ Sg) :=
  if v4_11 < v3_11 then (
  some (.inr (s_11)))
  else (
  (f_X8_holdsAll v4_11 v3_11).bind fun q3 =>
  if q3 = 0 then (
  f_X7_measure_46 v2 v3_11 v4_11 s_11)
  else (
  (f_X1_there 12 s_11).bind fun q5 =>
  (f_X8_holdsAll q5 v4_11).bind fun q6 =>
  if q6 = 0 then (
  f_X7_measure_46 v2 v3_11 v4_11 s_11)
  else (
  (f_X7_measureFrom v4_11 v2 s_11).bind fun q7 =>
  f_X7_measure_46 v2 v3_11 v4_11 q7)))
def f_X7_measure_11 (v2 : Int32) (v3_11 : Int32) (v4_11 : Int32) (s_11 : Sg) : Option Sg :=
  itr 3000 (fun s => f_X7_measure_11s v2 v3_11 s.1 s.2) (v4_11, s_11)
def f_X7_measure (v2 : Int32) (σ : Sg) : Option Sg :=
  (f_X1_stood 12 σ).bind fun q1 =>
  (f_X1_there 12 σ).bind fun q2 =>
  f_X7_measure_11 v2 q1 q2 σ
def f_X7_fewestSteps_25 (t0_25 : Int32) (σ : Sg) : Option Int32 :=
  some (t0_25)
def f_X7_fewestSteps (σ : Sg) : Option Int32 :=
  (f_X1_stood 12 σ).bind fun q1 =>
  (f_X8_at 37 1024 q1 σ).bind fun q2 =>
  if q2 = 1000 then (
  f_X7_fewestSteps_25 (-4) σ)
  else (
  f_X7_fewestSteps_25 q2 σ)
def f_X7_lowestFirstStep_66 (σ : Sg) : Option Int32 :=
  some ((-4))
def f_X7_lowestFirstStep_60 (v2_14 : Int32) (v3_14 : Int32) (v4_60 : Int32) (σ : Sg) : Option ((Int32) ⊕ Int32) :=
  nm (v4_60 + 1) fun x5 =>
  some (.inl (x5))
def f_X7_lowestFirstStep_14s (v2_14 : Int32) (v3_14 : Int32) (v4_14 : Int32) (σ : Sg) : Option ((Int32) ⊕ Int32) :=
  (f_X1_stepCount 12 σ).bind fun q3 =>
  if q3 ≤ v4_14 then (
  (f_X7_lowestFirstStep_66 σ).map (fun z => .inr (z)))
  else (
  if v3_14 ≤ 0 then (
  (f_X7_lowestFirstStep_66 σ).map (fun z => .inr (z)))
  else (
  (f_X1_after 12 v4_14 v2_14 σ).bind fun q4 =>
  if q4 = v2_14 then (
  f_X7_lowestFirstStep_60 v2_14 v3_14 v4_14 σ)
  else (
  (f_X8_at 37 1024 q4 σ).bind fun q6 =>
  if q6 = (v3_14 - (1 : Int32)) then (
  some (.inr (v4_14)))
  else (
  f_X7_lowestFirstStep_60 v2_14 v3_14 v4_14 σ))))
def f_X7_lowestFirstStep_14 (v2_14 : Int32) (v3_14 : Int32) (v4_14 : Int32) (σ : Sg) : Option Int32 :=
  itr 3000 (fun s => f_X7_lowestFirstStep_14s v2_14 v3_14 s σ) (v4_14)
def f_X7_lowestFirstStep (σ : Sg) : Option Int32 :=
  (f_X1_stood 12 σ).bind fun q1 =>
  (f_X7_fewestSteps σ).bind fun q2 =>
  f_X7_lowestFirstStep_14 q1 q2 0 σ
def f_X7_howManyRows_26 (t0_26 : Int32) (σ : Sg) : Option Int32 :=
  some (t0_26)
def f_X7_howManyRows (σ : Sg) : Option Int32 :=
  (f_X7_fewestSteps σ).bind fun q1 =>
  if q1 = (-4) then (
  f_X7_howManyRows_26 (-4) σ)
  else (
  (f_X1_stood 12 σ).bind fun q2 =>
  (f_X8_at 38 1024 q2 σ).bind fun q3 =>
  f_X7_howManyRows_26 q3 σ)
def f_X7_afterAllAtOnce_4s (v1 : Int32) (v2_4 : Int32) (v3_4 : Int32) (σ : Sg) : Option ((Int32 × Int32) ⊕ Int32) :=
  (f_X1_stepCount 12 σ).bind fun q1 =>
  if q1 ≤ v3_4 then (
  some (.inr (v2_4)))
  else (
  (f_X1_after 12 v3_4 v1 σ).bind fun q2 =>
  nm ((v2_4 ||| q2)) fun x3 =>
  nm (v3_4 + 1) fun x4 =>
  some (.inl (x3, x4)))
def f_X7_afterAllAtOnce_4 (v1 : Int32) (v2_4 : Int32) (v3_4 : Int32) (σ : Sg) : Option Int32 :=
  itr 3000 (fun s => f_X7_afterAllAtOnce_4s v1 s.1 s.2 σ) (v2_4, v3_4)
def f_X7_afterAllAtOnce (v1 : Int32) (σ : Sg) : Option Int32 :=
  f_X7_afterAllAtOnce_4 v1 v1 0 σ
def f_X7_rounds_7s (v1 : Int32) (v2_7 : Int32) (v3_7 : Int32) (σ : Sg) : Option ((Int32 × Int32) ⊕ Int32) :=
  if (10 : Int32) < v3_7 then (
  some (.inr ((-4))))
  else (
  (f_X8_has v2_7 v1).bind fun q2 =>
  if q2 = 0 then (
  (f_X7_afterAllAtOnce v2_7 σ).bind fun q3 =>
  nm (v3_7 + 1) fun x4 =>
  some (.inl (q3, x4)))
  else (
  some (.inr (v3_7))))
def f_X7_rounds_7 (v1 : Int32) (v2_7 : Int32) (v3_7 : Int32) (σ : Sg) : Option Int32 :=
  itr 3000 (fun s => f_X7_rounds_7s v1 s.1 s.2 σ) (v2_7, v3_7)
def f_X7_rounds (v1 : Int32) (σ : Sg) : Option Int32 :=
  (f_X1_stood 12 σ).bind fun q1 =>
  f_X7_rounds_7 v1 q1 0 σ
def f_X8_write_11 (s_11 : Sg) : Option (Int32 × Sg) :=
  some (((-1), s_11))
def f_X8_write_36s (v2 : Int64) (v4_36 : Int32) (s_36 : Sg) : Option ((Int32 × Sg) ⊕ (Int32 × Sg)) :=
  if v4_36 < 0 then (
  (f_X6_size s_36).bind fun q3 =>
  some (.inr ((q3, s_36))))
  else (
  (f_X6_addByte ((((v2 >>> ((((8 : Int32) * v4_36) : Int32).toInt64 &&& 63)) : Int64).toInt32) &&& (255 : Int32)) s_36).bind fun q4 =>
  nm (v4_36 + (-1)) fun x5 =>
  some (.inl (x5, q4)))
def f_X8_write_36 (v2 : Int64) (v4_36 : Int32) (s_36 : Sg) : Option (Int32 × Sg) :=
  itr 3000 (fun s => f_X8_write_36s v2 s.1 s.2) (v4_36, s_36)
def f_X8_write (v1 : Int32) (v2 : Int64) (σ : Sg) : Option (Int32 × Sg) :=
  if v1 < 1 then (
  f_X8_write_11 σ)
  else (
  if v1 ≤ 8 then (
  (f_X6_size σ).bind fun q1 =>
  if (q1 + v1) ≤ 300 then (
  nm ((v1 - (1 : Int32))) fun x2 =>
  f_X8_write_36 v2 x2 σ)
  else (
  some (((-3), σ))))
  else (
  f_X8_write_11 σ))
def f_X8_wipe (σ : Sg) : Option (Int32 × Sg) :=
  (f_X6_size σ).bind fun q1 =>
  (f_X6_clear σ).bind fun q2 =>
  some ((q1, q2))
def f_X8_fault (σ : Sg) : Option (Int32 × Sg) :=
  (f_X4_readOnto 5 σ).bind fun q1 =>
  some ((q1.1, q1.2))
def f_X8_forgetRowAndPast (σ : Sg) : Option Sg :=
  (pfi σ 0 10 0).bind fun s1 =>
  (f_X2_clear s1).bind fun q2 =>
  some (q2)
def f_X8_layFloor_30 (s_30 : Sg) : Option (Int32 × Sg) :=
  some (((-2), s_30))
def f_X8_layFloor (σ : Sg) : Option (Int32 × Sg) :=
  (f_X4_readOnto 5 σ).bind fun q1 =>
  if q1.1 = (-4) then (
  (f_X1_stepCount 5 q1.2).bind fun q2 =>
  if q2 = 0 then (
  f_X8_layFloor_30 q1.2)
  else (
  (f_X1_copyFrom 12 5 q1.2).bind fun q3 =>
  (pfi q3 0 11 0).bind fun s4 =>
  (f_X8_forgetRowAndPast s4).bind fun q5 =>
  (f_X1_stoneCount 12 q5).bind fun q6 =>
  some ((q6, q5))))
  else (
  f_X8_layFloor_30 q1.2)
def f_X8_isStone (v1 : Int32) (σ : Sg) : Option Int32 :=
  (f_X1_hasStone 12 v1 σ).bind fun q1 =>
  (zrt q1).bind fun x2 =>
  some (x2)
def f_X8_stone_17 (σ : Sg) : Option Int32 :=
  some ((-1))
def f_X8_stone (v1 : Int32) (v2 : Int32) (σ : Sg) : Option Int32 :=
  (f_X8_isStone v1 σ).bind fun q1 =>
  if q1 = 0 then (
  f_X8_stone_17 σ)
  else (
  if v2 < 0 then (
  f_X8_stone_17 σ)
  else (
  if v2 ≤ 4 then (
  if v2 = 0 then (
  (f_X1_there 12 σ).bind fun q2 =>
  (f_X8_bitOf q2 v1).bind fun q3 =>
  some (q3))
  else (
  if v2 = 1 then (
  (f_X1_stood 12 σ).bind fun q4 =>
  (f_X8_bitOf q4 v1).bind fun q5 =>
  some (q5))
  else (
  if v2 = 2 then (
  (f_X1_begins 12 σ).bind fun q6 =>
  (f_X8_bitOf q6 v1).bind fun q7 =>
  some (q7))
  else (
  if v2 = 3 then (
  (f_X1_wearOf 12 v1 σ).bind fun q8 =>
  some (q8))
  else (
  (f_X1_gainsayersOf 12 v1 σ).bind fun q9 =>
  some (q9))))))
  else (
  f_X8_stone_17 σ)))
def f_X8_isStep_20 (t0_20 : Int32) (σ : Sg) : Option Int32 :=
  (zrt t0_20).bind fun x1 =>
  some (x1)
def f_X8_isStep_19 (σ : Sg) : Option Int32 :=
  f_X8_isStep_20 0 σ
def f_X8_isStep (v1 : Int32) (σ : Sg) : Option Int32 :=
  if v1 < 0 then (
  f_X8_isStep_19 σ)
  else (
  (f_X1_stepCount 12 σ).bind fun q2 =>
  if q2 ≤ v1 then (
  f_X8_isStep_19 σ)
  else (
  f_X8_isStep_20 1 σ))
def f_X8_step_17 (σ : Sg) : Option Int32 :=
  some ((-1))
def f_X8_step_91 (t0_91 : Int32) (σ : Sg) : Option Int32 :=
  some (t0_91)
def f_X8_step (v1 : Int32) (v2 : Int32) (σ : Sg) : Option Int32 :=
  (f_X8_isStep v1 σ).bind fun q1 =>
  if q1 = 0 then (
  f_X8_step_17 σ)
  else (
  if v2 < 0 then (
  f_X8_step_17 σ)
  else (
  if v2 ≤ 3 then (
  if v2 = 0 then (
  (f_X1_firstOf 12 v1 σ).bind fun q2 =>
  some (q2))
  else (
  if v2 = 1 then (
  (f_X1_secondOf 12 v1 σ).bind fun q3 =>
  some (q3))
  else (
  if v2 = 2 then (
  (f_X1_endOf 12 v1 σ).bind fun q4 =>
  some (q4))
  else (
  (f_X1_mayBeGone 12 v1 σ).bind fun q5 =>
  if q5 = 0 then (
  f_X8_step_91 0 σ)
  else (
  f_X8_step_91 1 σ)))))
  else (
  f_X8_step_17 σ)))
def f_X8_go (v1 : Int32) (σ : Sg) : Option (Int32 × Sg) :=
  (f_X8_isStep v1 σ).bind fun q1 =>
  if q1 = 0 then (
  some (((-1), σ)))
  else (
  (f_X1_mayBeGone 12 v1 σ).bind fun q2 =>
  if q2 = 0 then (
  some (((-2), σ)))
  else (
  (f_X1_tread 12 v1 σ).bind fun q3 =>
  (f_X1_endOf 12 v1 q3).bind fun q4 =>
  (f_X2_noteGone q4 q3).bind fun q5 =>
  (f_X1_stood 12 q5).bind fun q6 =>
  (f_J6_bitCount_0f7a4 q6).bind fun q7 =>
  some ((q7, q5))))
def f_X8_takeOut_49 (v1 : Int32) (t1_49 : Int32) (t2_49 : Int32) (s_49 : Sg) : Option (Int32 × Sg) :=
  (f_X2_noteOut t1_49 t2_49 s_49).bind fun q5 =>
  (f_X1_removeSlab 12 v1 q5).bind fun q6 =>
  (f_X1_there 12 q6).bind fun q7 =>
  (f_J6_bitCount_0f7a4 q7).bind fun q8 =>
  some ((q8, q6))
def f_X8_takeOut (v1 : Int32) (σ : Sg) : Option (Int32 × Sg) :=
  (f_X8_isStone v1 σ).bind fun q1 =>
  if q1 = 0 then (
  some (((-1), σ)))
  else (
  (f_X1_isThere 12 v1 σ).bind fun q2 =>
  if q2 = 0 then (
  some (((-2), σ)))
  else (
  (f_X1_stood 12 σ).bind fun q3 =>
  (f_X8_bitOf q3 v1).bind fun q4 =>
  if q4 = 1 then (
  f_X8_takeOut_49 v1 v1 1 σ)
  else (
  f_X8_takeOut_49 v1 v1 0 σ)))
def f_X8_lay (v1 : Int32) (v2 : Int32) (v3 : Int32) (σ : Sg) : Option (Int32 × Sg) :=
  (f_X1_couldBeStep 12 v1 v2 v3 σ).bind fun q1 =>
  if q1 = 0 then (
  some (((-1), σ)))
  else (
  (f_X1_stepCount 12 σ).bind fun q2 =>
  if q2 < 10 then (
  (f_X1_addStep 12 v1 v2 v3 σ).bind fun q3 =>
  (f_X2_noteLaid q3.2).bind fun q4 =>
  (f_X1_stepCount 12 q4).bind fun q5 =>
  some (((q5 - (1 : Int32)), q4)))
  else (
  some (((-3), σ))))
def f_X8_undo (σ : Sg) : Option (Int32 × Sg) :=
  (f_X2_size σ).bind fun q1 =>
  if q1 = 0 then (
  some (((-2), σ)))
  else (
  (f_X2_takeBackLatest σ).bind fun q2 =>
  (pfi q2 0 10 0).bind fun s3 =>
  (f_X2_size s3).bind fun q4 =>
  some ((q4, s3)))
def f_X8_isSetOfStones_20 (t0_20 : Int32) (σ : Sg) : Option Int32 :=
  (zrt t0_20).bind fun x1 =>
  some (x1)
def f_X8_isSetOfStones_19 (σ : Sg) : Option Int32 :=
  f_X8_isSetOfStones_20 0 σ
def f_X8_isSetOfStones (v1 : Int32) (σ : Sg) : Option Int32 :=
  if v1 < 0 then (
  f_X8_isSetOfStones_19 σ)
  else (
  (f_X1_allStones 12 σ).bind fun q2 =>
  if q2 < v1 then (
  f_X8_isSetOfStones_19 σ)
  else (
  f_X8_isSetOfStones_20 1 σ))
def f_X8_reach (v1 : Int32) (σ : Sg) : Option Int32 :=
  (f_X8_isSetOfStones v1 σ).bind fun q1 =>
  if q1 = 0 then (
  some ((-1)))
  else (
  (f_X1_reachOf 12 v1 σ).bind fun q2 =>
  some (q2))
def f_X8_walk_17 (s_17 : Sg) : Option (Int64 × Sg) :=
  some (((-1), s_17))
def f_X8_walk (v1 : Int32) (v2 : Int32) (σ : Sg) : Option (Int64 × Sg) :=
  (f_X8_isStone v1 σ).bind fun q1 =>
  if q1 = 0 then (
  f_X8_walk_17 σ)
  else (
  if v2 < 0 then (
  f_X8_walk_17 σ)
  else (
  if v2 ≤ 2 then (
  (f_X7_measure v1 σ).bind fun q2 =>
  if v2 = 0 then (
  (f_X7_fewestSteps q2).bind fun q3 =>
  some ((((q3 : Int32).toInt64), q2)))
  else (
  if v2 = 1 then (
  (f_X7_lowestFirstStep q2).bind fun q4 =>
  some ((((q4 : Int32).toInt64), q2)))
  else (
  (f_X7_howManyRows q2).bind fun q5 =>
  some ((((q5 : Int32).toInt64), q2)))))
  else (
  f_X8_walk_17 σ)))
def f_X8_round (v1 : Int32) (σ : Sg) : Option Int32 :=
  (f_X8_isStone v1 σ).bind fun q1 =>
  if q1 = 0 then (
  some ((-1)))
  else (
  (f_X7_rounds v1 σ).bind fun q2 =>
  some (q2))
def f_X8_needs_17 (σ : Sg) : Option Int32 :=
  some ((-1))
def f_X8_needs_56 (t0_56 : Int32) (σ : Sg) : Option Int32 :=
  some (t0_56)
def f_X8_needs (v1 : Int32) (v2 : Int32) (σ : Sg) : Option Int32 :=
  (f_X8_isStone v1 σ).bind fun q1 =>
  if q1 = 0 then (
  f_X8_needs_17 σ)
  else (
  if v2 < 0 then (
  f_X8_needs_17 σ)
  else (
  if v2 ≤ 1 then (
  (f_X0_leadTo v1 σ).bind fun q2 =>
  if q2 = 0 then (
  some ((-4)))
  else (
  if v2 = 0 then (
  (f_X0_neededFor v1 σ).bind fun q4 =>
  f_X8_needs_56 q4 σ)
  else (
  (f_X0_fewestFor v1 σ).bind fun q3 =>
  f_X8_needs_56 q3 σ)))
  else (
  f_X8_needs_17 σ)))
def f_X8_lost (v1 : Int32) (σ : Sg) : Option Int32 :=
  (f_X8_isStone v1 σ).bind fun q1 =>
  if q1 = 0 then (
  some ((-1)))
  else (
  (f_X1_isThere 12 v1 σ).bind fun q2 =>
  if q2 = 0 then (
  some ((-2)))
  else (
  (f_X0_lostBy v1 σ).bind fun q3 =>
  some (q3)))
def f_X8_begin (v1 : Int32) (σ : Sg) : Option Int32 :=
  (f_X8_isStone v1 σ).bind fun q1 =>
  if q1 = 0 then (
  some ((-1)))
  else (
  (f_X1_isThere 12 v1 σ).bind fun q2 =>
  if q2 = 0 then (
  some ((-2)))
  else (
  (f_X0_fewestMoreFor v1 σ).bind fun q3 =>
  some (q3)))
def f_X8_hall_9 (σ : Sg) : Option Int32 :=
  some ((-1))
def f_X8_hall_30 (t0_30 : Int32) (σ : Sg) : Option Int32 :=
  some (t0_30)
def f_X8_hall (v1 : Int32) (σ : Sg) : Option Int32 :=
  if v1 < 0 then (
  f_X8_hall_9 σ)
  else (
  if v1 ≤ 1 then (
  if v1 = 0 then (
  (f_X0_leadIntoHall σ).bind fun q2 =>
  if q2 = 0 then (
  f_X8_hall_30 0 σ)
  else (
  f_X8_hall_30 1 σ))
  else (
  (f_X0_fewestIntoHall σ).bind fun q1 =>
  some (q1)))
  else (
  f_X8_hall_9 σ))
def f_X8_rope (σ : Sg) : Option Int32 :=
  (f_X0_fewestToRopeOff σ).bind fun q1 =>
  some (q1)
def f_X8_idle (σ : Sg) : Option Int32 :=
  (f_X5_idleSteps σ).bind fun q1 =>
  some (q1)
def f_X8_circle (σ : Sg) : Option Int32 :=
  (f_X5_lowestInCircle σ).bind fun q1 =>
  some (q1)
def f_X8_deep (σ : Sg) : Option Int32 :=
  (f_X5_depth σ).bind fun q1 =>
  some (q1)
def f_X8_proofs_17 (s_17 : Sg) : Option (Int32 × Sg) :=
  some (((-1), s_17))
def f_X8_proofs (v1 : Int32) (v2 : Int32) (σ : Sg) : Option (Int32 × Sg) :=
  (f_X8_isStone v1 σ).bind fun q1 =>
  if q1 = 0 then (
  f_X8_proofs_17 σ)
  else (
  if v2 < 0 then (
  f_X8_proofs_17 σ)
  else (
  if v2 ≤ 2 then (
  (f_X3_reckon σ).bind fun q2 =>
  if v2 = 0 then (
  (f_X3_howMany v1 q2).bind fun q3 =>
  some ((q3, q2)))
  else (
  if v2 = 1 then (
  (f_X3_shortest v1 q2).bind fun q4 =>
  some ((q4, q2)))
  else (
  (f_X3_inAll v1 q2).bind fun q5 =>
  some ((q5, q2)))))
  else (
  f_X8_proofs_17 σ)))
def f_X8_worn_16 (s_16 : Sg) : Option (Int32 × Sg) :=
  some (((-1), s_16))
def f_X8_worn (v1 : Int32) (v2 : Int32) (σ : Sg) : Option (Int32 × Sg) :=
  (f_X8_isStone v1 σ).bind fun q1 =>
  if q1 = 0 then (
  f_X8_worn_16 σ)
  else (
  (f_X8_isSetOfStones v2 σ).bind fun q2 =>
  if q2 = 0 then (
  f_X8_worn_16 σ)
  else (
  (f_X3_reckon σ).bind fun q3 =>
  (f_X3_howManyWear v1 v2 q3).bind fun q4 =>
  some ((q4, q3))))
def f_X8_tell (v1 : Int32) (σ : Sg) : Option (Int32 × Sg) :=
  (f_X8_isStep v1 σ).bind fun q1 =>
  if q1 = 0 then (
  some (((-1), σ)))
  else (
  if (σ.1 0 10) < 12 then (
  (f_X8_put 41 12 (σ.1 0 10) v1 σ).bind fun q2 =>
  (pfi q2 0 10 ((q2.1 0 10) + (1 : Int32))).bind fun s3 =>
  some (((s3.1 0 10), s3)))
  else (
  some (((-3), σ))))
def f_X8_noRow (σ : Sg) : Option (Int32 × Sg) :=
  nm ((σ.1 0 10)) fun x1 =>
  (pfi σ 0 10 0).bind fun s2 =>
  some ((x1, s2))
def f_X8_judge_10s (v1_10 : Int32) (v2_10 : Int32) (σ : Sg) : Option ((Int32 × Int32) ⊕ Int32) :=
  if (σ.1 0 10) ≤ v2_10 then (
  some (.inr ((-4))))
  else (
  (f_X8_at 41 12 v2_10 σ).bind fun q2 =>
  (f_X1_after 12 q2 v1_10 σ).bind fun q3 =>
  if q3 = v1_10 then (
  some (.inr (v2_10)))
  else (
  nm (v2_10 + 1) fun x4 =>
  some (.inl (q3, x4))))
def f_X8_judge_10 (v1_10 : Int32) (v2_10 : Int32) (σ : Sg) : Option Int32 :=
  itr 3000 (fun s => f_X8_judge_10s s.1 s.2 σ) (v1_10, v2_10)
def f_X8_judge (σ : Sg) : Option Int32 :=
  (f_X1_stood 12 σ).bind fun q1 =>
  f_X8_judge_10 q1 0 σ
def f_X8_drawnStep (v1 : Int32) (v2 : Int32) (σ : Sg) : Option Int32 :=
  (f_X1_stepCount 12 σ).bind fun q1 =>
  if q1 = 0 then (
  some (0))
  else (
  nm (((((7919 : Int64) * ((v1 : Int32).toInt64)) + ((6151 : Int64) * ((v2 : Int32).toInt64))) + (1 : Int64))) fun x2 =>
  (lrm (x2 * x2) 65521).bind fun x3 =>
  (lrm x3 ((q1 : Int32).toInt64)).bind fun x4 =>
  some (((x4 : Int64).toInt32)))
def f_X8_year_31 (σ : Sg) : Option Int32 :=
  some ((-1))
def f_X8_year_100 (t0_100 : Int32) (σ : Sg) : Option Int32 :=
  some (t0_100)
def f_X8_year_45s (v1 : Int32) (v2 : Int32) (v3 : Int32) (v4_45 : Int32) (v5_45 : Int32) (σ : Sg) : Option ((Int32 × Int32) ⊕ Int32) :=
  if v2 ≤ v5_45 then (
  if v3 = 0 then (
  (f_J6_bitCount_0f7a4 v4_45).bind fun q2 =>
  (f_X1_stood 12 σ).bind fun q3 =>
  (f_J6_bitCount_0f7a4 q3).bind fun q4 =>
  (f_X8_year_100 (q2 - q4) σ).map (fun z => .inr (z)))
  else (
  (f_X8_year_100 v4_45 σ).map (fun z => .inr (z))))
  else (
  (f_X8_drawnStep v1 v5_45 σ).bind fun q5 =>
  (f_X1_after 12 q5 v4_45 σ).bind fun q6 =>
  nm (v5_45 + 1) fun x7 =>
  some (.inl (q6, x7)))
def f_X8_year_45 (v1 : Int32) (v2 : Int32) (v3 : Int32) (v4_45 : Int32) (v5_45 : Int32) (σ : Sg) : Option Int32 :=
  itr 3000 (fun s => f_X8_year_45s v1 v2 v3 s.1 s.2 σ) (v4_45, v5_45)
def f_X8_year (v1 : Int32) (v2 : Int32) (v3 : Int32) (σ : Sg) : Option Int32 :=
  if v1 < 0 then (
  f_X8_year_31 σ)
  else (
  if (9999 : Int32) < v1 then (
  f_X8_year_31 σ)
  else (
  if v2 < 1 then (
  f_X8_year_31 σ)
  else (
  if (99 : Int32) < v2 then (
  f_X8_year_31 σ)
  else (
  if v3 < 0 then (
  f_X8_year_31 σ)
  else (
  if v3 ≤ 1 then (
  (f_X1_stood 12 σ).bind fun q1 =>
  f_X8_year_45 v1 v2 v3 q1 0 σ)
  else (
  f_X8_year_31 σ))))))
def f_X8_keeperOf_15 (σ : Sg) : Option Nat :=
  some (19)
def f_X8_keeperOf (v1 : Int32) (σ : Sg) : Option Nat :=
  if v1 = 0 then (
  f_X8_keeperOf_15 σ)
  else (
  f_X8_keeperOf_15 σ)
def f_X8_keep (σ : Sg) : Option (Int32 × Sg) :=
  if (σ.1 0 11) < 2 then (
  (f_X8_keeperOf (σ.1 0 11) σ).bind fun q1 =>
  (gfl q1).bind fun hgq1 =>
  (f_X1_copyFrom q1 12 σ).bind fun q2 =>
  (pfi q2 0 11 ((q2.1 0 11) + (1 : Int32))).bind fun s3 =>
  some (((s3.1 0 11), s3)))
  else (
  some (((-3), σ)))
def f_X8_back (σ : Sg) : Option (Int32 × Sg) :=
  if (σ.1 0 11) = 0 then (
  some (((-2), σ)))
  else (
  (pfi σ 0 11 ((σ.1 0 11) - (1 : Int32))).bind fun s1 =>
  (f_X8_keeperOf (s1.1 0 11) s1).bind fun q2 =>
  (gfl q2).bind fun hgq2 =>
  (f_X1_copyFrom 12 q2 s1).bind fun q3 =>
  (f_X8_forgetRowAndPast q3).bind fun q4 =>
  some (((q4.1 0 11), q4)))
def f_X8_count (v1 : Int32) (σ : Sg) : Option Int32 :=
  if v1 = 0 then (
  (f_X1_stoneCount 12 σ).bind fun q1 =>
  some (q1))
  else (
  if v1 = 1 then (
  (f_X1_stepCount 12 σ).bind fun q2 =>
  some (q2))
  else (
  if v1 = 2 then (
  (f_X1_there 12 σ).bind fun q3 =>
  (f_J6_bitCount_0f7a4 q3).bind fun q4 =>
  some (q4))
  else (
  if v1 = 3 then (
  (f_X1_stood 12 σ).bind fun q5 =>
  (f_J6_bitCount_0f7a4 q5).bind fun q6 =>
  some (q6))
  else (
  if v1 = 4 then (
  some ((σ.1 0 10)))
  else (
  if v1 = 5 then (
  (f_X2_size σ).bind fun q7 =>
  some (q7))
  else (
  if v1 = 6 then (
  some ((σ.1 0 11)))
  else (
  if v1 = 7 then (
  (f_X6_size σ).bind fun q8 =>
  some (q8))
  else (
  some ((-1))))))))))
def f_X9_in_18 (t0_18 : Int32) : Option Int32 :=
  (zrt t0_18).bind fun x1 =>
  some (x1)
def f_X9_in_17 : Option Int32 :=
  f_X9_in_18 0
def f_X9_in (v0 : Int64) (v2 : Int64) (v4 : Int64) : Option Int32 :=
  if (lg_cmp v0 v2) < 0 then (
  f_X9_in_17 )
  else (
  if (0 : Int32) < (lg_cmp v0 v4) then (
  f_X9_in_17 )
  else (
  f_X9_in_18 1))
def f_X9_has_14 (t0_14 : Int32) : Option Int32 :=
  (zrt t0_14).bind fun x1 =>
  some (x1)
def f_X9_has (v0 : Int32) (v1 : Int32) : Option Int32 :=
  if ((v0 >>> (v1 &&& 31)) &&& (1 : Int32)) = 1 then (
  f_X9_has_14 1)
  else (
  f_X9_has_14 0)
def f_X9_ones_4s (v0 : Int32) (v1_4 : Int32) (v2_4 : Int32) : Option ((Int32 × Int32) ⊕ Int32) :=
  if (10 : Int32) ≤ v2_4 then (
  some (.inr (v1_4)))
  else (
  nm ((v1_4 + ((v0 >>> (v2_4 &&& 31)) &&& (1 : Int32)))) fun x1 =>
  nm (v2_4 + 1) fun x2 =>
  some (.inl (x1, x2)))
def f_X9_ones_4 (v0 : Int32) (v1_4 : Int32) (v2_4 : Int32) : Option Int32 :=
  itr 3000 (fun s => f_X9_ones_4s v0 s.1 s.2) (v1_4, v2_4)
def f_X9_ones (v0 : Int32) : Option Int32 :=
  f_X9_ones_4 v0 0 0
def f_X9_copy_2s (v1 : Int32) (v2 : Int32) (v3_2 : Int32) (s_2 : Sg) : Option ((Int32 × Sg) ⊕ Sg) :=
  if (55 : Int32) ≤ v3_2 then (
  some (.inr (s_2)))
  else (
  (ald s_2 1 660 (v1 + v3_2)).bind fun x1 =>
  (ast s_2 1 660 (v2 + v3_2) x1).bind fun s2 =>
  nm (v3_2 + 1) fun x3 =>
  some (.inl (x3, s2)))
def f_X9_copy_2 (v1 : Int32) (v2 : Int32) (v3_2 : Int32) (s_2 : Sg) : Option Sg :=
  itr 3000 (fun s => f_X9_copy_2s v1 v2 s.1 s.2) (v3_2, s_2)
def f_X9_copy (v1 : Int32) (v2 : Int32) (σ : Sg) : Option Sg :=
  f_X9_copy_2 v1 v2 0 σ
def f_X9_makeAnew_2s (v1 : Int32) (v2_2 : Int32) (s_2 : Sg) : Option ((Int32 × Sg) ⊕ Sg) :=
  if (55 : Int32) ≤ v2_2 then (
  (ast s_2 1 660 (v1 + (0 : Int32)) 4).bind fun s1 =>
  some (.inr (s1)))
  else (
  (ast s_2 1 660 (v1 + v2_2) 0).bind fun s2 =>
  nm (v2_2 + 1) fun x3 =>
  some (.inl (x3, s2)))
def f_X9_makeAnew_2 (v1 : Int32) (v2_2 : Int32) (s_2 : Sg) : Option Sg :=
  itr 3000 (fun s => f_X9_makeAnew_2s v1 s.1 s.2) (v2_2, s_2)
def f_X9_makeAnew (v1 : Int32) (σ : Sg) : Option Sg :=
  f_X9_makeAnew_2 v1 0 σ
def f_X9_layStep (v1 : Int32) (v2 : Int32) (v3 : Int32) (v4 : Int32) (σ : Sg) : Option Sg :=
  (ald σ 1 660 (v1 + (4 : Int32))).bind fun x1 =>
  (ast σ 1 660 ((v1 + (5 : Int32)) + x1) v2).bind fun s2 =>
  (ast s2 1 660 ((v1 + (15 : Int32)) + x1) v3).bind fun s3 =>
  (ast s3 1 660 ((v1 + (25 : Int32)) + x1) v4).bind fun s4 =>
  (ald s4 1 660 (v1 + (4 : Int32))).bind fun x5 =>
  (ast s4 1 660 (v1 + (4 : Int32)) (x5 + (1 : Int32))).bind fun s6 =>
  some (s6)
def f_X9_settle (v1 : Int32) (σ : Sg) : Option Sg :=
  (ald σ 1 660 (v1 + (0 : Int32))).bind fun x1 =>
  (ast σ 1 660 (v1 + (2 : Int32)) (((1 : Int32) <<< (x1 &&& 31)) - (1 : Int32))).bind fun s2 =>
  (ald s2 1 660 (v1 + (1 : Int32))).bind fun x3 =>
  (ast s2 1 660 (v1 + (3 : Int32)) x3).bind fun s4 =>
  some (s4)
def f_X9_isStone (v1 : Int32) (σ : Sg) : Option Int32 :=
  (ald σ 1 660 0).bind fun x1 =>
  (f_X9_in ((v1 : Int32).toInt64) 0 (((x1 - (1 : Int32)) : Int32).toInt64)).bind fun q2 =>
  (zrt q2).bind fun x3 =>
  some (x3)
def f_X9_isSet (v1 : Int32) (σ : Sg) : Option Int32 :=
  (ald σ 1 660 0).bind fun x1 =>
  (f_X9_in ((v1 : Int32).toInt64) 0 (((((1 : Int32) <<< (x1 &&& 31)) - (1 : Int32)) : Int32).toInt64)).bind fun q2 =>
  (zrt q2).bind fun x3 =>
  some (x3)
def f_X9_isStep (v1 : Int32) (σ : Sg) : Option Int32 :=
  (ald σ 1 660 4).bind fun x1 =>
  (f_X9_in ((v1 : Int32).toInt64) 0 (((x1 - (1 : Int32)) : Int32).toInt64)).bind fun q2 =>
  (zrt q2).bind fun x3 =>
  some (x3)
def f_X9_write_34s (v2 : Int64) (v4_34 : Int32) (s_34 : Sg) : Option ((Int32 × Sg) ⊕ (Int32 × Sg)) :=
  if v4_34 < 0 then (
  some (.inr (((s_34.1 0 4), s_34))))
  else (
  (ast s_34 2 300 (s_34.1 0 4) ((((v2 >>> ((((8 : Int32) * v4_34) : Int32).toInt64 &&& 63)) &&& (255 : Int64)) : Int64).toInt32)).bind fun s3 =>
  (pfi s3 0 4 ((s3.1 0 4) + (1 : Int32))).bind fun s4 =>
  nm (v4_34 + (-1)) fun x5 =>
  some (.inl (x5, s4)))
def f_X9_write_34 (v2 : Int64) (v4_34 : Int32) (s_34 : Sg) : Option (Int32 × Sg) :=
  itr 3000 (fun s => f_X9_write_34s v2 s.1 s.2) (v4_34, s_34)
def f_X9_write (v1 : Int32) (v2 : Int64) (σ : Sg) : Option (Int32 × Sg) :=
  (f_X9_in ((v1 : Int32).toInt64) 1 8).bind fun q1 =>
  if q1 = 0 then (
  some (((-1), σ)))
  else (
  if ((σ.1 0 4) + v1) ≤ 300 then (
  nm ((v1 - (1 : Int32))) fun x2 =>
  f_X9_write_34 v2 x2 σ)
  else (
  some (((-3), σ))))
def f_X9_wipe (σ : Sg) : Option (Int32 × Sg) :=
  nm ((σ.1 0 4)) fun x1 =>
  (pfi σ 0 4 0).bind fun s2 =>
  some ((x1, s2))
def f_X9_takes_146 (s_146 : Sg) : Option (Int32 × Sg) :=
  (zrt 0).bind fun x3 =>
  some ((x3, s_146))
def f_X9_takes_143 (v1 : Int32) (v2_143 : Int32) (v4_143 : Int32) (t0_143 : Int32) (t1_143 : Int32) (s_143 : Sg) : Option ((Int32 × Sg) ⊕ (Int32 × Sg)) :=
  if t0_143 = t1_143 then (
  (ast s_143 4 3 v2_143 v4_143).bind fun s5 =>
  (pfi s5 0 7 ((s5.1 0 7) + (1 : Int32))).bind fun s6 =>
  nm (v2_143 + 1) fun x7 =>
  some (.inl (x7, s6)))
  else (
  (f_X9_takes_146 s_143).map (fun z => .inr (z)))
def f_X9_takes_91 (v1 : Int32) (v2_91 : Int32) (v3_91 : Int32) (v4_91 : Int32) (s_91 : Sg) : Option ((Int32 × Sg) ⊕ (Int32 × Sg)) :=
  if (s_91.1 0 7) = v3_91 then (
  (f_X9_takes_146 s_91).map (fun z => .inr (z)))
  else (
  if (2 : Int32) < ((s_91.1 0 7) - v3_91) then (
  (f_X9_takes_146 s_91).map (fun z => .inr (z)))
  else (
  if (s_91.1 0 7) = (s_91.1 0 4) then (
  (f_X9_takes_146 s_91).map (fun z => .inr (z)))
  else (
  (ald s_91 2 300 (s_91.1 0 7)).bind fun x4 =>
  if v2_91 = (v1 - (1 : Int32)) then (
  f_X9_takes_143 v1 v2_91 v4_91 x4 59 s_91)
  else (
  f_X9_takes_143 v1 v2_91 v4_91 x4 44 s_91))))
def f_X9_takes_15s (v1 : Int32) (v2_15 : Int32) (v3_15 : Int32) (v4_15 : Int32) (s_15 : Sg) : Option ((Int32 × Sg) ⊕ ((Int32 × Sg) ⊕ (Int32 × Sg))) :=
  if (s_15.1 0 4) ≤ (s_15.1 0 7) then (
  (f_X9_takes_91 v1 v2_15 v3_15 v4_15 s_15).map (fun z => .inr (z)))
  else (
  if (3 : Int32) ≤ ((s_15.1 0 7) - v3_15) then (
  (f_X9_takes_91 v1 v2_15 v3_15 v4_15 s_15).map (fun z => .inr (z)))
  else (
  (ald s_15 2 300 (s_15.1 0 7)).bind fun x8 =>
  (f_X9_in ((x8 : Int32).toInt64) 48 57).bind fun q9 =>
  if q9 = 0 then (
  (f_X9_takes_91 v1 v2_15 v3_15 v4_15 s_15).map (fun z => .inr (z)))
  else (
  (ald s_15 2 300 (s_15.1 0 7)).bind fun x10 =>
  nm (((((10 : Int32) * v4_15) + x10) - (48 : Int32))) fun x11 =>
  (pfi s_15 0 7 ((s_15.1 0 7) + (1 : Int32))).bind fun s12 =>
  some (.inl (x11, s12)))))
def f_X9_takes_15 (v1 : Int32) (v2_15 : Int32) (v3_15 : Int32) (v4_15 : Int32) (s_15 : Sg) : Option ((Int32 × Sg) ⊕ (Int32 × Sg)) :=
  itr 3000 (fun s => f_X9_takes_15s v1 v2_15 v3_15 s.1 s.2) (v4_15, s_15)
def f_X9_takes_2s (v1 : Int32) (v2_2 : Int32) (s_2 : Sg) : Option ((Int32 × Sg) ⊕ (Int32 × Sg)) :=
  if v1 ≤ v2_2 then (
  (zrt 1).bind fun x1 =>
  some (.inr ((x1, s_2))))
  else (
  nm ((s_2.1 0 7)) fun x2 =>
  f_X9_takes_15 v1 v2_2 x2 0 s_2)
def f_X9_takes_2 (v1 : Int32) (v2_2 : Int32) (s_2 : Sg) : Option (Int32 × Sg) :=
  itr 3000 (fun s => f_X9_takes_2s v1 s.1 s.2) (v2_2, s_2)
def f_X9_takes (v1 : Int32) (σ : Sg) : Option (Int32 × Sg) :=
  f_X9_takes_2 v1 0 σ
def f_X9_isRead_17 (t0_17 : Int32) (σ : Sg) : Option Int32 :=
  (zrt t0_17).bind fun x2 =>
  some (x2)
def f_X9_isRead (v1 : Int32) (σ : Sg) : Option Int32 :=
  (ald σ 1 660 605).bind fun x1 =>
  if x1 ≤ v1 then (
  f_X9_isRead_17 0 σ)
  else (
  f_X9_isRead_17 1 σ)
def f_X9_readStep_125 (v1_125 : Int32) (s_125 : Sg) : Option (Int32 × Sg) :=
  (zrt v1_125).bind fun x2 =>
  some ((x2, s_125))
def f_X9_readStep_95 (t0_95 : Int32) (s_95 : Sg) : Option (Int32 × Sg) :=
  if t0_95 = 0 then (
  f_X9_readStep_125 t0_95 s_95)
  else (
  (ald s_95 4 3 0).bind fun x3 =>
  (ald s_95 4 3 1).bind fun x4 =>
  (ald s_95 4 3 2).bind fun x5 =>
  (f_X9_layStep 605 x3 x4 x5 s_95).bind fun q6 =>
  f_X9_readStep_125 t0_95 q6)
def f_X9_readStep_94 (s_94 : Sg) : Option (Int32 × Sg) :=
  f_X9_readStep_95 0 s_94
def f_X9_readStep (σ : Sg) : Option (Int32 × Sg) :=
  (f_X9_takes 3 σ).bind fun q1 =>
  if q1.1 = 0 then (
  f_X9_readStep_94 q1.2)
  else (
  (ald q1.2 4 3 0).bind fun x7 =>
  (f_X9_isRead x7 q1.2).bind fun q8 =>
  if q8 = 0 then (
  f_X9_readStep_94 q1.2)
  else (
  (ald q1.2 4 3 1).bind fun x9 =>
  (f_X9_isRead x9 q1.2).bind fun q10 =>
  if q10 = 0 then (
  f_X9_readStep_94 q1.2)
  else (
  (ald q1.2 4 3 2).bind fun x11 =>
  (f_X9_isRead x11 q1.2).bind fun q12 =>
  if q12 = 0 then (
  f_X9_readStep_94 q1.2)
  else (
  (ald q1.2 4 3 2).bind fun x13 =>
  (ald q1.2 4 3 0).bind fun x14 =>
  if x13 = x14 then (
  f_X9_readStep_94 q1.2)
  else (
  (ald q1.2 4 3 2).bind fun x15 =>
  (ald q1.2 4 3 1).bind fun x16 =>
  if x15 = x16 then (
  f_X9_readStep_94 q1.2)
  else (
  (ald q1.2 1 660 609).bind fun x17 =>
  if (10 : Int32) ≤ x17 then (
  f_X9_readStep_94 q1.2)
  else (
  f_X9_readStep_95 1 q1.2)))))))
def f_X9_readPair_111 (v1_111 : Int32) (s_111 : Sg) : Option (Int32 × Sg) :=
  (zrt v1_111).bind fun x2 =>
  some ((x2, s_111))
def f_X9_readPair_54 (t0_54 : Int32) (s_54 : Sg) : Option (Int32 × Sg) :=
  if t0_54 = 0 then (
  f_X9_readPair_111 t0_54 s_54)
  else (
  (ald s_54 4 3 0).bind fun x3 =>
  (ald s_54 1 660 ((650 : Int32) + x3)).bind fun x4 =>
  (ald s_54 4 3 1).bind fun x5 =>
  (ast s_54 1 660 ((650 : Int32) + x3) (x4 ||| ((1 : Int32) <<< (x5 &&& 31)))).bind fun s6 =>
  (ald s6 4 3 1).bind fun x7 =>
  (ald s6 1 660 ((650 : Int32) + x7)).bind fun x8 =>
  (ald s6 4 3 0).bind fun x9 =>
  (ast s6 1 660 ((650 : Int32) + x7) (x8 ||| ((1 : Int32) <<< (x9 &&& 31)))).bind fun s10 =>
  f_X9_readPair_111 t0_54 s10)
def f_X9_readPair_53 (s_53 : Sg) : Option (Int32 × Sg) :=
  f_X9_readPair_54 0 s_53
def f_X9_readPair (σ : Sg) : Option (Int32 × Sg) :=
  (f_X9_takes 2 σ).bind fun q1 =>
  if q1.1 = 0 then (
  f_X9_readPair_53 q1.2)
  else (
  (ald q1.2 4 3 0).bind fun x11 =>
  (f_X9_isRead x11 q1.2).bind fun q12 =>
  if q12 = 0 then (
  f_X9_readPair_53 q1.2)
  else (
  (ald q1.2 4 3 1).bind fun x13 =>
  (f_X9_isRead x13 q1.2).bind fun q14 =>
  if q14 = 0 then (
  f_X9_readPair_53 q1.2)
  else (
  (ald q1.2 4 3 0).bind fun x15 =>
  (ald q1.2 4 3 1).bind fun x16 =>
  if x15 = x16 then (
  f_X9_readPair_53 q1.2)
  else (
  f_X9_readPair_54 1 q1.2))))
def f_X9_readItem_308 (v2_308 : Int32) (t1_308 : Int32) (s_308 : Sg) : Option (Int32 × Sg) :=
  (pfz s_308 0 9 t1_308).bind fun s6 =>
  (zrt v2_308).bind fun x7 =>
  some ((x7, s6))
def f_X9_readItem_303 (v2_303 : Int32) (s_303 : Sg) : Option (Int32 × Sg) :=
  f_X9_readItem_308 v2_303 1 s_303
def f_X9_readItem_289 (v1_289 : Int32) (v2_289 : Int32) (s_289 : Sg) : Option (Int32 × Sg) :=
  if (s_289.1 0 9) = 0 then (
  if v1_289 = 110 then (
  f_X9_readItem_308 v2_289 0 s_289)
  else (
  f_X9_readItem_303 v2_289 s_289))
  else (
  f_X9_readItem_303 v2_289 s_289)
def f_X9_readItem_194 (v1_194 : Int32) (v2_194 : Int32) (t1_194 : Int32) (t2_194 : Int32) (t3_194 : Int32) (s_194 : Sg) : Option (Int32 × Sg) :=
  (ast s_194 1 660 t1_194 (t2_194 ||| t3_194)).bind fun s5 =>
  f_X9_readItem_289 v1_194 v2_194 s5
def f_X9_readItem_168 (v1_168 : Int32) (t0_168 : Int32) (s_168 : Sg) : Option (Int32 × Sg) :=
  (ald s_168 1 660 606).bind fun x4 =>
  if t0_168 = 0 then (
  f_X9_readItem_194 v1_168 t0_168 606 x4 0 s_168)
  else (
  (ald s_168 4 3 0).bind fun x8 =>
  f_X9_readItem_194 v1_168 t0_168 606 x4 ((1 : Int32) <<< (x8 &&& 31)) s_168)
def f_X9_readItem_167 (v1_167 : Int32) (s_167 : Sg) : Option (Int32 × Sg) :=
  f_X9_readItem_168 v1_167 0 s_167
def f_X9_readItem_138 (v1_138 : Int32) (v2_138 : Int32) (t1_138 : Int32) (t2_138 : Int32) (s_138 : Sg) : Option (Int32 × Sg) :=
  (ast s_138 1 660 t1_138 t2_138).bind fun s12 =>
  f_X9_readItem_289 v1_138 v2_138 s12
def f_X9_readItem_109 (v1_109 : Int32) (t0_109 : Int32) (s_109 : Sg) : Option (Int32 × Sg) :=
  if t0_109 = 0 then (
  (ald s_109 1 660 605).bind fun x11 =>
  f_X9_readItem_138 v1_109 t0_109 605 x11 s_109)
  else (
  (ald s_109 4 3 0).bind fun x13 =>
  f_X9_readItem_138 v1_109 t0_109 605 x13 s_109)
def f_X9_readItem_108 (v1_108 : Int32) (s_108 : Sg) : Option (Int32 × Sg) :=
  f_X9_readItem_109 v1_108 0 s_108
def f_X9_readItem_285 (v1_285 : Int32) (v2_285 : Int32) (t1_285 : Int32) (t2_285 : Int32) (s_285 : Sg) : Option (Int32 × Sg) :=
  (ast s_285 1 660 t1_285 t2_285).bind fun s20 =>
  f_X9_readItem_289 v1_285 v2_285 s20
def f_X9_readItem_263 (v1_263 : Int32) (v2_263 : Int32) (t1_263 : Int32) (t2_263 : Int32) (s_263 : Sg) : Option (Int32 × Sg) :=
  if v2_263 = 0 then (
  (ald s_263 1 660 640).bind fun x19 =>
  f_X9_readItem_285 v1_263 v2_263 (t1_263 + t2_263) x19 s_263)
  else (
  (ald s_263 4 3 1).bind fun x21 =>
  f_X9_readItem_285 v1_263 v2_263 (t1_263 + t2_263) x21 s_263)
def f_X9_readItem_241 (v1_241 : Int32) (t0_241 : Int32) (s_241 : Sg) : Option (Int32 × Sg) :=
  if t0_241 = 0 then (
  f_X9_readItem_263 v1_241 t0_241 640 0 s_241)
  else (
  (ald s_241 4 3 0).bind fun x22 =>
  f_X9_readItem_263 v1_241 t0_241 640 x22 s_241)
def f_X9_readItem_240 (v1_240 : Int32) (s_240 : Sg) : Option (Int32 × Sg) :=
  f_X9_readItem_241 v1_240 0 s_240
def f_X9_readItem (σ : Sg) : Option (Int32 × Sg) :=
  (ald σ 2 300 (σ.1 0 7)).bind fun x1 =>
  (pfi σ 0 7 ((σ.1 0 7) + (1 : Int32))).bind fun s2 =>
  if x1 = 97 then (
  (f_X9_takes 1 s2).bind fun q3 =>
  if q3.1 = 0 then (
  f_X9_readItem_167 x1 q3.2)
  else (
  (ald q3.2 4 3 0).bind fun x9 =>
  (f_X9_isRead x9 q3.2).bind fun q10 =>
  if q10 = 0 then (
  f_X9_readItem_167 x1 q3.2)
  else (
  f_X9_readItem_168 x1 1 q3.2)))
  else (
  if x1 = 110 then (
  if (s2.1 0 9) = 0 then (
  (f_X9_takes 1 s2).bind fun q14 =>
  if q14.1 = 0 then (
  f_X9_readItem_108 x1 q14.2)
  else (
  (ald q14.2 4 3 0).bind fun x15 =>
  (f_X9_in ((x15 : Int32).toInt64) 1 10).bind fun q16 =>
  if q16 = 0 then (
  f_X9_readItem_108 x1 q14.2)
  else (
  f_X9_readItem_109 x1 1 q14.2)))
  else (
  f_X9_readItem_108 x1 s2))
  else (
  if x1 = 116 then (
  (f_X9_readStep s2).bind fun q17 =>
  f_X9_readItem_289 x1 q17.1 q17.2)
  else (
  if x1 = 119 then (
  (f_X9_takes 2 s2).bind fun q18 =>
  if q18.1 = 0 then (
  f_X9_readItem_240 x1 q18.2)
  else (
  (ald q18.2 4 3 0).bind fun x23 =>
  (f_X9_isRead x23 q18.2).bind fun q24 =>
  if q24 = 0 then (
  f_X9_readItem_240 x1 q18.2)
  else (
  f_X9_readItem_241 x1 1 q18.2)))
  else (
  if x1 = 120 then (
  (f_X9_readPair s2).bind fun q25 =>
  f_X9_readItem_289 x1 q25.1 q25.2)
  else (
  f_X9_readItem_289 x1 0 s2)))))
def f_X9_fault_17s (s_17 : Sg) : Option ((Sg) ⊕ (Int32 × Sg)) :=
  if (s_17.1 0 4) ≤ (s_17.1 0 7) then (
  some (.inr (((-4), s_17))))
  else (
  nm ((s_17.1 0 7)) fun x4 =>
  (f_X9_readItem s_17).bind fun q5 =>
  if q5.1 = 0 then (
  some (.inr ((x4, q5.2))))
  else (
  some (.inl (q5.2))))
def f_X9_fault_17 (s_17 : Sg) : Option (Int32 × Sg) :=
  itr 3000 (fun s => f_X9_fault_17s s) (s_17)
def f_X9_fault (σ : Sg) : Option (Int32 × Sg) :=
  (f_X9_makeAnew 605 σ).bind fun q1 =>
  (pfz q1 0 9 0).bind fun s2 =>
  (pfi s2 0 7 0).bind fun s3 =>
  f_X9_fault_17 s3
def f_X9_layFloor_20 (s_20 : Sg) : Option (Int32 × Sg) :=
  some (((-2), s_20))
def f_X9_layFloor (σ : Sg) : Option (Int32 × Sg) :=
  (f_X9_fault σ).bind fun q1 =>
  if q1.1 = (-4) then (
  (ald q1.2 1 660 609).bind fun x2 =>
  if x2 = 0 then (
  f_X9_layFloor_20 q1.2)
  else (
  (f_X9_copy 605 0 q1.2).bind fun q3 =>
  (f_X9_settle 0 q3).bind fun q4 =>
  (pfi q4 0 6 0).bind fun s5 =>
  (pfi s5 0 2 0).bind fun s6 =>
  (pfi s6 0 1 0).bind fun s7 =>
  (ald s7 1 660 0).bind fun x8 =>
  some ((x8, s7))))
  else (
  f_X9_layFloor_20 q1.2)
def f_X9_may_115 (t0_115 : Int32) (σ : Sg) : Option Int32 :=
  (zrt t0_115).bind fun x6 =>
  some (x6)
def f_X9_may_114 (σ : Sg) : Option Int32 :=
  f_X9_may_115 0 σ
def f_X9_may (v1 : Int32) (σ : Sg) : Option Int32 :=
  (ald σ 1 660 ((5 : Int32) + v1)).bind fun x1 =>
  (ald σ 1 660 ((15 : Int32) + v1)).bind fun x2 =>
  (ald σ 1 660 ((25 : Int32) + v1)).bind fun x3 =>
  nm (((((1 : Int32) <<< (x1 &&& 31)) ||| ((1 : Int32) <<< (x2 &&& 31))) ||| ((1 : Int32) <<< (x3 &&& 31)))) fun x4 =>
  (ald σ 1 660 2).bind fun x5 =>
  if (x4 &&& (x5 ^^^ ((-1) : Int32))) = 0 then (
  (ald σ 1 660 3).bind fun x7 =>
  (ald σ 1 660 ((5 : Int32) + v1)).bind fun x8 =>
  (f_X9_has x7 x8).bind fun q9 =>
  if q9 = 0 then (
  f_X9_may_114 σ)
  else (
  (ald σ 1 660 3).bind fun x10 =>
  (ald σ 1 660 ((15 : Int32) + v1)).bind fun x11 =>
  (f_X9_has x10 x11).bind fun q12 =>
  if q12 = 0 then (
  f_X9_may_114 σ)
  else (
  (ald σ 1 660 3).bind fun x13 =>
  (ald σ 1 660 ((25 : Int32) + v1)).bind fun x14 =>
  (f_X9_has x13 x14).bind fun q15 =>
  if q15 = 0 then (
  f_X9_may_115 1 σ)
  else (
  f_X9_may_114 σ))))
  else (
  f_X9_may_114 σ)
def f_X9_stone_20 (σ : Sg) : Option Int32 :=
  some ((-1))
def f_X9_stone_101 (t0_101 : Int32) (σ : Sg) : Option Int32 :=
  some (t0_101)
def f_X9_stone (v1 : Int32) (v2 : Int32) (σ : Sg) : Option Int32 :=
  (f_X9_isStone v1 σ).bind fun q1 =>
  if q1 = 0 then (
  f_X9_stone_20 σ)
  else (
  (f_X9_in ((v2 : Int32).toInt64) 0 4).bind fun q2 =>
  if q2 = 0 then (
  f_X9_stone_20 σ)
  else (
  if v2 = 0 then (
  (ald σ 1 660 2).bind fun x7 =>
  f_X9_stone_101 ((x7 >>> (v1 &&& 31)) &&& (1 : Int32)) σ)
  else (
  if v2 = 1 then (
  (ald σ 1 660 3).bind fun x6 =>
  f_X9_stone_101 ((x6 >>> (v1 &&& 31)) &&& (1 : Int32)) σ)
  else (
  if v2 = 2 then (
  (ald σ 1 660 1).bind fun x5 =>
  f_X9_stone_101 ((x5 >>> (v1 &&& 31)) &&& (1 : Int32)) σ)
  else (
  if v2 = 3 then (
  (ald σ 1 660 ((35 : Int32) + v1)).bind fun x4 =>
  f_X9_stone_101 x4 σ)
  else (
  (ald σ 1 660 ((45 : Int32) + v1)).bind fun x3 =>
  f_X9_stone_101 x3 σ))))))
def f_X9_step_20 (σ : Sg) : Option Int32 :=
  some ((-1))
def f_X9_step_84 (t0_84 : Int32) (σ : Sg) : Option Int32 :=
  some (t0_84)
def f_X9_step (v1 : Int32) (v2 : Int32) (σ : Sg) : Option Int32 :=
  (f_X9_isStep v1 σ).bind fun q1 =>
  if q1 = 0 then (
  f_X9_step_20 σ)
  else (
  (f_X9_in ((v2 : Int32).toInt64) 0 3).bind fun q2 =>
  if q2 = 0 then (
  f_X9_step_20 σ)
  else (
  if v2 = 0 then (
  (ald σ 1 660 ((5 : Int32) + v1)).bind fun x6 =>
  f_X9_step_84 x6 σ)
  else (
  if v2 = 1 then (
  (ald σ 1 660 ((15 : Int32) + v1)).bind fun x5 =>
  f_X9_step_84 x5 σ)
  else (
  if v2 = 2 then (
  (ald σ 1 660 ((25 : Int32) + v1)).bind fun x4 =>
  f_X9_step_84 x4 σ)
  else (
  (f_X9_may v1 σ).bind fun q3 =>
  if q3 = 0 then (
  f_X9_step_84 0 σ)
  else (
  f_X9_step_84 1 σ))))))
def f_X9_minds_57 (s_57 : Sg) : Option Sg :=
  (f_X9_copy 0 ((165 : Int32) + ((55 : Int32) * (s_57.1 0 2))) s_57).bind fun q1 =>
  (pfi q1 0 2 ((q1.1 0 2) + (1 : Int32))).bind fun s2 =>
  some (s2)
def f_X9_minds_11s (v1_11 : Int32) (s_11 : Sg) : Option ((Int32 × Sg) ⊕ Sg) :=
  if (385 : Int32) ≤ v1_11 then (
  (pfi s_11 0 2 ((s_11.1 0 2) - (1 : Int32))).bind fun s3 =>
  (f_X9_minds_57 s3).map (fun z => .inr (z)))
  else (
  (ald s_11 1 660 (((165 : Int32) + v1_11) + (55 : Int32))).bind fun x4 =>
  (ast s_11 1 660 ((165 : Int32) + v1_11) x4).bind fun s5 =>
  nm (v1_11 + 1) fun x6 =>
  some (.inl (x6, s5)))
def f_X9_minds_11 (v1_11 : Int32) (s_11 : Sg) : Option Sg :=
  itr 3000 (fun s => f_X9_minds_11s s.1 s.2) (v1_11, s_11)
def f_X9_minds (σ : Sg) : Option Sg :=
  if (σ.1 0 2) = 8 then (
  f_X9_minds_11 0 σ)
  else (
  f_X9_minds_57 σ)
def f_X9_go (v1 : Int32) (σ : Sg) : Option (Int32 × Sg) :=
  (f_X9_isStep v1 σ).bind fun q1 =>
  if q1 = 0 then (
  some (((-1), σ)))
  else (
  (f_X9_may v1 σ).bind fun q2 =>
  if q2 = 0 then (
  some (((-2), σ)))
  else (
  (f_X9_minds σ).bind fun q3 =>
  (ald q3 1 660 3).bind fun x4 =>
  (ald q3 1 660 ((25 : Int32) + v1)).bind fun x5 =>
  (ast q3 1 660 3 (x4 ||| ((1 : Int32) <<< (x5 &&& 31)))).bind fun s6 =>
  (ald s6 1 660 ((25 : Int32) + v1)).bind fun x7 =>
  (ald s6 1 660 ((35 : Int32) + x7)).bind fun x8 =>
  (ast s6 1 660 ((35 : Int32) + x7) (x8 + (1 : Int32))).bind fun s9 =>
  (ald s9 1 660 3).bind fun x10 =>
  (f_X9_ones x10).bind fun q11 =>
  some ((q11, s9))))
def f_X9_takeOut (v1 : Int32) (σ : Sg) : Option (Int32 × Sg) :=
  (f_X9_isStone v1 σ).bind fun q1 =>
  if q1 = 0 then (
  some (((-1), σ)))
  else (
  (ald σ 1 660 2).bind fun x2 =>
  (f_X9_has x2 v1).bind fun q3 =>
  if q3 = 0 then (
  some (((-2), σ)))
  else (
  (f_X9_minds σ).bind fun q4 =>
  (ald q4 1 660 2).bind fun x5 =>
  (ast q4 1 660 2 (x5 &&& (((1 : Int32) <<< (v1 &&& 31)) ^^^ ((-1) : Int32)))).bind fun s6 =>
  (ald s6 1 660 3).bind fun x7 =>
  (ast s6 1 660 3 (x7 &&& (((1 : Int32) <<< (v1 &&& 31)) ^^^ ((-1) : Int32)))).bind fun s8 =>
  (ald s8 1 660 2).bind fun x9 =>
  (f_X9_ones x9).bind fun q10 =>
  some ((q10, s8))))
def f_X9_lay_34 (s_34 : Sg) : Option (Int32 × Sg) :=
  some (((-1), s_34))
def f_X9_lay (v1 : Int32) (v2 : Int32) (v3 : Int32) (σ : Sg) : Option (Int32 × Sg) :=
  (f_X9_isStone v1 σ).bind fun q1 =>
  if q1 = 0 then (
  f_X9_lay_34 σ)
  else (
  (f_X9_isStone v2 σ).bind fun q2 =>
  if q2 = 0 then (
  f_X9_lay_34 σ)
  else (
  (f_X9_isStone v3 σ).bind fun q3 =>
  if q3 = 0 then (
  f_X9_lay_34 σ)
  else (
  if v1 = v3 then (
  f_X9_lay_34 σ)
  else (
  if v2 = v3 then (
  f_X9_lay_34 σ)
  else (
  (ald σ 1 660 4).bind fun x4 =>
  if x4 = 10 then (
  some (((-3), σ)))
  else (
  (f_X9_minds σ).bind fun q5 =>
  (f_X9_layStep 0 v1 v2 v3 q5).bind fun q6 =>
  (ald q6 1 660 4).bind fun x7 =>
  some (((x7 - (1 : Int32)), q6))))))))
def f_X9_undo (σ : Sg) : Option (Int32 × Sg) :=
  if (σ.1 0 2) = 0 then (
  some (((-2), σ)))
  else (
  (pfi σ 0 2 ((σ.1 0 2) - (1 : Int32))).bind fun s1 =>
  (f_X9_copy ((165 : Int32) + ((55 : Int32) * (s1.1 0 2))) 0 s1).bind fun q2 =>
  (pfi q2 0 6 0).bind fun s3 =>
  some (((s3.1 0 2), s3)))
def f_X9_closure_157 (v2 : Int32) (v3 : Int32) (v4_157 : Int32) (v6_157 : Int32) (t0_157 : Int32) (σ : Sg) : Option ((Int32 × Int32 × Int32) ⊕ ((Int32 × Int32) ⊕ Int32)) :=
  nm (v6_157 + 1) fun x5 =>
  some (.inl (v4_157, t0_157, x5))
def f_X9_closure_152 (v2 : Int32) (v3 : Int32) (v4_152 : Int32) (v6_152 : Int32) (σ : Sg) : Option ((Int32 × Int32 × Int32) ⊕ ((Int32 × Int32) ⊕ Int32)) :=
  f_X9_closure_157 v2 v3 v4_152 v6_152 1 σ
def f_X9_closure_139 (v2 : Int32) (v3 : Int32) (v5_139 : Int32) (v6_139 : Int32) (v7_139 : Int32) (t0_139 : Int32) (t1_139 : Int32) (σ : Sg) : Option ((Int32 × Int32 × Int32) ⊕ ((Int32 × Int32) ⊕ Int32)) :=
  nm ((t0_139 ||| t1_139)) fun x4 =>
  if v5_139 = 0 then (
  if v7_139 = 0 then (
  f_X9_closure_157 v2 v3 x4 v6_139 0 σ)
  else (
  f_X9_closure_152 v2 v3 x4 v6_139 σ))
  else (
  f_X9_closure_152 v2 v3 x4 v6_139 σ)
def f_X9_closure_114 (v2 : Int32) (v3 : Int32) (v4_114 : Int32) (v5_114 : Int32) (v6_114 : Int32) (t0_114 : Int32) (σ : Sg) : Option ((Int32 × Int32 × Int32) ⊕ ((Int32 × Int32) ⊕ Int32)) :=
  if t0_114 = 0 then (
  f_X9_closure_139 v2 v3 v5_114 v6_114 t0_114 v4_114 0 σ)
  else (
  (ald σ 1 660 ((25 : Int32) + v6_114)).bind fun x6 =>
  f_X9_closure_139 v2 v3 v5_114 v6_114 t0_114 v4_114 ((1 : Int32) <<< (x6 &&& 31)) σ)
def f_X9_closure_113 (v2 : Int32) (v3 : Int32) (v4_113 : Int32) (v5_113 : Int32) (v6_113 : Int32) (σ : Sg) : Option ((Int32 × Int32 × Int32) ⊕ ((Int32 × Int32) ⊕ Int32)) :=
  f_X9_closure_114 v2 v3 v4_113 v5_113 v6_113 0 σ
def f_X9_closure_19s (v2 : Int32) (v3 : Int32) (v4_19 : Int32) (v5_19 : Int32) (v6_19 : Int32) (σ : Sg) : Option ((Int32 × Int32 × Int32) ⊕ ((Int32 × Int32) ⊕ Int32)) :=
  (ald σ 1 660 4).bind fun x2 =>
  if x2 ≤ v6_19 then (
  some (.inr (.inl (v4_19, v5_19))))
  else (
  (f_X9_has v2 v6_19).bind fun q3 =>
  if q3 = 0 then (
  f_X9_closure_113 v2 v3 v4_19 v5_19 v6_19 σ)
  else (
  (ald σ 1 660 ((5 : Int32) + v6_19)).bind fun x7 =>
  (f_X9_has v4_19 x7).bind fun q8 =>
  if q8 = 0 then (
  f_X9_closure_113 v2 v3 v4_19 v5_19 v6_19 σ)
  else (
  (ald σ 1 660 ((15 : Int32) + v6_19)).bind fun x9 =>
  (f_X9_has v4_19 x9).bind fun q10 =>
  if q10 = 0 then (
  f_X9_closure_113 v2 v3 v4_19 v5_19 v6_19 σ)
  else (
  (ald σ 1 660 ((25 : Int32) + v6_19)).bind fun x11 =>
  (f_X9_has v3 x11).bind fun q12 =>
  if q12 = 0 then (
  f_X9_closure_113 v2 v3 v4_19 v5_19 v6_19 σ)
  else (
  (ald σ 1 660 ((25 : Int32) + v6_19)).bind fun x13 =>
  (f_X9_has v4_19 x13).bind fun q14 =>
  if q14 = 0 then (
  f_X9_closure_114 v2 v3 v4_19 v5_19 v6_19 1 σ)
  else (
  f_X9_closure_113 v2 v3 v4_19 v5_19 v6_19 σ))))))
def f_X9_closure_19 (v2 : Int32) (v3 : Int32) (v4_19 : Int32) (v5_19 : Int32) (v6_19 : Int32) (σ : Sg) : Option ((Int32 × Int32) ⊕ Int32) :=
  itr 3000 (fun s => f_X9_closure_19s v2 v3 s.1 s.2.1 s.2.2 σ) (v4_19, v5_19, v6_19)
def f_X9_closure_8s (v2 : Int32) (v3 : Int32) (v4_8 : Int32) (v5_8 : Int32) (σ : Sg) : Option ((Int32 × Int32) ⊕ Int32) :=
  if v5_8 = 0 then (
  some (.inr (v4_8)))
  else (
  f_X9_closure_19 v2 v3 v4_8 0 0 σ)
def f_X9_closure_8 (v2 : Int32) (v3 : Int32) (v4_8 : Int32) (v5_8 : Int32) (σ : Sg) : Option Int32 :=
  itr 3000 (fun s => f_X9_closure_8s v2 v3 s.1 s.2 σ) (v4_8, v5_8)
def f_X9_closure (v1 : Int32) (v2 : Int32) (v3 : Int32) (σ : Sg) : Option Int32 :=
  nm ((v1 &&& v3)) fun x1 =>
  f_X9_closure_8 v2 v3 x1 1 σ
def f_X9_allSteps (σ : Sg) : Option Int32 :=
  (ald σ 1 660 4).bind fun x1 =>
  some ((((1 : Int32) <<< (x1 &&& 31)) - (1 : Int32)))
def f_X9_reachOf (v1 : Int32) (σ : Sg) : Option Int32 :=
  (f_X9_allSteps σ).bind fun q1 =>
  (ald σ 1 660 2).bind fun x2 =>
  (f_X9_closure v1 q1 x2 σ).bind fun q3 =>
  some (q3)
def f_X9_beginnings (σ : Sg) : Option Int32 :=
  (ald σ 1 660 1).bind fun x1 =>
  (ald σ 1 660 2).bind fun x2 =>
  some ((x1 &&& x2))
def f_X9_reach_17 (t0_17 : Int32) (σ : Sg) : Option Int32 :=
  some (t0_17)
def f_X9_reach (v1 : Int32) (σ : Sg) : Option Int32 :=
  (f_X9_isSet v1 σ).bind fun q1 =>
  if q1 = 0 then (
  f_X9_reach_17 (-1) σ)
  else (
  (f_X9_reachOf v1 σ).bind fun q2 =>
  f_X9_reach_17 q2 σ)
def f_X9_mayFrom_73 (t0_73 : Int32) (σ : Sg) : Option Int32 :=
  (zrt t0_73).bind fun x4 =>
  some (x4)
def f_X9_mayFrom_72 (σ : Sg) : Option Int32 :=
  f_X9_mayFrom_73 0 σ
def f_X9_mayFrom (v1 : Int32) (v2 : Int32) (σ : Sg) : Option Int32 :=
  (ald σ 1 660 2).bind fun x1 =>
  (ald σ 1 660 ((25 : Int32) + v2)).bind fun x2 =>
  (f_X9_has x1 x2).bind fun q3 =>
  if q3 = 0 then (
  f_X9_mayFrom_72 σ)
  else (
  (ald σ 1 660 ((25 : Int32) + v2)).bind fun x5 =>
  (f_X9_has v1 x5).bind fun q6 =>
  if q6 = 0 then (
  (ald σ 1 660 ((5 : Int32) + v2)).bind fun x7 =>
  (f_X9_has v1 x7).bind fun q8 =>
  if q8 = 0 then (
  f_X9_mayFrom_72 σ)
  else (
  (ald σ 1 660 ((15 : Int32) + v2)).bind fun x9 =>
  (f_X9_has v1 x9).bind fun q10 =>
  if q10 = 0 then (
  f_X9_mayFrom_72 σ)
  else (
  f_X9_mayFrom_73 1 σ)))
  else (
  f_X9_mayFrom_72 σ))
def f_X9_layWalks_233 (v1 : Int32) (v2_233 : Int32) (s_233 : Sg) : Option ((Int32 × Sg) ⊕ Sg) :=
  nm (v2_233 + (-1)) fun x8 =>
  some (.inl (x8, s_233))
def f_X9_layWalks_227 (v1 : Int32) (v2_56 : Int32) (v3_227 : Int32) (s_227 : Sg) : Option ((Int32 × Sg) ⊕ ((Int32 × Sg) ⊕ Sg)) :=
  nm (v3_227 + 1) fun x13 =>
  some (.inl (x13, s_227))
def f_X9_layWalks_226 (v1 : Int32) (v2_56 : Int32) (v3_226 : Int32) (t1_226 : Int32) (t2_226 : Int32) (s_226 : Sg) : Option ((Int32 × Sg) ⊕ ((Int32 × Sg) ⊕ Sg)) :=
  (ast s_226 6 1024 t1_226 t2_226).bind fun s24 =>
  f_X9_layWalks_227 v1 v2_56 v3_226 s24
def f_X9_layWalks_184 (v1 : Int32) (v2_56 : Int32) (v3_184 : Int32) (v4_184 : Int32) (t1_184 : Int32) (t2_184 : Int64) (s_184 : Sg) : Option ((Int32 × Sg) ⊕ ((Int32 × Sg) ⊕ Sg)) :=
  (astL s_184 5 1024 t1_184 t2_184).bind fun s20 =>
  (ald s20 6 1024 v4_184).bind fun x21 =>
  (ald s20 6 1024 v2_56).bind fun x22 =>
  if x22 ≤ (x21 + (1 : Int32)) then (
  (ald s20 6 1024 v2_56).bind fun x23 =>
  f_X9_layWalks_226 v1 v2_56 v3_184 v2_56 x23 s20)
  else (
  (ald s20 6 1024 v4_184).bind fun x25 =>
  f_X9_layWalks_226 v1 v2_56 v3_184 v2_56 (x25 + (1 : Int32)) s20)
def f_X9_layWalks_56s (v1 : Int32) (v2_56 : Int32) (v3_56 : Int32) (s_56 : Sg) : Option ((Int32 × Sg) ⊕ ((Int32 × Sg) ⊕ Sg)) :=
  (ald s_56 1 660 4).bind fun x7 =>
  if x7 ≤ v3_56 then (
  (f_X9_layWalks_233 v1 v2_56 s_56).map (fun z => .inr (z)))
  else (
  (f_X9_has v2_56 v1).bind fun q9 =>
  if q9 = 0 then (
  (ald s_56 1 660 ((25 : Int32) + v3_56)).bind fun x10 =>
  nm ((v2_56 ||| ((1 : Int32) <<< (x10 &&& 31)))) fun x11 =>
  (f_X9_mayFrom v2_56 v3_56 s_56).bind fun q12 =>
  if q12 = 0 then (
  f_X9_layWalks_227 v1 v2_56 v3_56 s_56)
  else (
  (ald s_56 6 1024 x11).bind fun x14 =>
  if (100 : Int32) ≤ x14 then (
  f_X9_layWalks_227 v1 v2_56 v3_56 s_56)
  else (
  (ald s_56 6 1024 x11).bind fun x15 =>
  (ald s_56 6 1024 v2_56).bind fun x16 =>
  if x16 ≤ (x15 + (1 : Int32)) then (
  (ald s_56 6 1024 x11).bind fun x17 =>
  (ald s_56 6 1024 v2_56).bind fun x18 =>
  if (x17 + (1 : Int32)) = x18 then (
  (aldL s_56 5 1024 v2_56).bind fun x26 =>
  (aldL s_56 5 1024 x11).bind fun x27 =>
  f_X9_layWalks_184 v1 v2_56 v3_56 x11 v2_56 (x26 + x27) s_56)
  else (
  (aldL s_56 5 1024 v2_56).bind fun x19 =>
  f_X9_layWalks_184 v1 v2_56 v3_56 x11 v2_56 x19 s_56))
  else (
  (aldL s_56 5 1024 x11).bind fun x28 =>
  f_X9_layWalks_184 v1 v2_56 v3_56 x11 v2_56 x28 s_56))))
  else (
  (f_X9_layWalks_233 v1 v2_56 s_56).map (fun z => .inr (z))))
def f_X9_layWalks_56 (v1 : Int32) (v2_56 : Int32) (v3_56 : Int32) (s_56 : Sg) : Option ((Int32 × Sg) ⊕ Sg) :=
  itr 3000 (fun s => f_X9_layWalks_56s v1 v2_56 s.1 s.2) (v3_56, s_56)
def f_X9_layWalks_53 (v1 : Int32) (v2_53 : Int32) (t1_53 : Int32) (t2_53 : Int64) (s_53 : Sg) : Option ((Int32 × Sg) ⊕ Sg) :=
  (astL s_53 5 1024 t1_53 t2_53).bind fun s6 =>
  f_X9_layWalks_56 v1 v2_53 0 s6
def f_X9_layWalks_34 (v1 : Int32) (v2_34 : Int32) (t1_34 : Int32) (t2_34 : Int32) (s_34 : Sg) : Option ((Int32 × Sg) ⊕ Sg) :=
  (ast s_34 6 1024 t1_34 t2_34).bind fun s4 =>
  (f_X9_has v2_34 v1).bind fun q5 =>
  if q5 = 0 then (
  f_X9_layWalks_53 v1 v2_34 v2_34 0 s4)
  else (
  f_X9_layWalks_53 v1 v2_34 v2_34 1 s4)
def f_X9_layWalks_11s (v1 : Int32) (v2_11 : Int32) (s_11 : Sg) : Option ((Int32 × Sg) ⊕ Sg) :=
  if v2_11 < 0 then (
  some (.inr (s_11)))
  else (
  (f_X9_has v2_11 v1).bind fun q3 =>
  if q3 = 0 then (
  f_X9_layWalks_34 v1 v2_11 v2_11 100 s_11)
  else (
  f_X9_layWalks_34 v1 v2_11 v2_11 0 s_11))
def f_X9_layWalks_11 (v1 : Int32) (v2_11 : Int32) (s_11 : Sg) : Option Sg :=
  itr 3000 (fun s => f_X9_layWalks_11s v1 s.1 s.2) (v2_11, s_11)
def f_X9_layWalks (v1 : Int32) (σ : Sg) : Option Sg :=
  (ald σ 1 660 0).bind fun x1 =>
  nm ((((1 : Int32) <<< (x1 &&& 31)) - (1 : Int32))) fun x2 =>
  f_X9_layWalks_11 v1 x2 σ
def f_X9_walk_20 (s_20 : Sg) : Option (Int64 × Sg) :=
  some (((-1), s_20))
def f_X9_walk_177 (t0_177 : Int64) (s_177 : Sg) : Option (Int64 × Sg) :=
  some ((t0_177, s_177))
def f_X9_walk_138 (v2 : Int32) (v3_65 : Int32) (v5_138 : Int32) (t0_138 : Int32) (s_65 : Sg) : Option ((Int32 × Int32) ⊕ (Int64 × Sg)) :=
  nm (v5_138 + (-1)) fun x11 =>
  some (.inl (t0_138, x11))
def f_X9_walk_124 (v2 : Int32) (v3_65 : Int32) (v4_124 : Int32) (v5_124 : Int32) (t0_124 : Int32) (s_65 : Sg) : Option ((Int32 × Int32) ⊕ (Int64 × Sg)) :=
  if t0_124 = 0 then (
  f_X9_walk_138 v2 v3_65 v5_124 v4_124 s_65)
  else (
  f_X9_walk_138 v2 v3_65 v5_124 v5_124 s_65)
def f_X9_walk_123 (v2 : Int32) (v3_65 : Int32) (v4_123 : Int32) (v5_123 : Int32) (s_65 : Sg) : Option ((Int32 × Int32) ⊕ (Int64 × Sg)) :=
  f_X9_walk_124 v2 v3_65 v4_123 v5_123 0 s_65
def f_X9_walk_65s (v2 : Int32) (v3_65 : Int32) (v4_65 : Int32) (v5_65 : Int32) (s_65 : Sg) : Option ((Int32 × Int32) ⊕ (Int64 × Sg)) :=
  if v5_65 < 0 then (
  if v2 = 0 then (
  (ald s_65 6 1024 v3_65).bind fun x9 =>
  (f_X9_walk_177 ((x9 : Int32).toInt64) s_65).map (fun z => .inr (z)))
  else (
  if v2 = 1 then (
  (f_X9_walk_177 ((v4_65 : Int32).toInt64) s_65).map (fun z => .inr (z)))
  else (
  (aldL s_65 5 1024 v3_65).bind fun x8 =>
  (f_X9_walk_177 x8 s_65).map (fun z => .inr (z)))))
  else (
  (ald s_65 6 1024 v3_65).bind fun x10 =>
  if x10 ≤ 0 then (
  f_X9_walk_123 v2 v3_65 v4_65 v5_65 s_65)
  else (
  (f_X9_mayFrom v3_65 v5_65 s_65).bind fun q12 =>
  if q12 = 0 then (
  f_X9_walk_123 v2 v3_65 v4_65 v5_65 s_65)
  else (
  (ald s_65 1 660 ((25 : Int32) + v5_65)).bind fun x13 =>
  (ald s_65 6 1024 (v3_65 ||| ((1 : Int32) <<< (x13 &&& 31)))).bind fun x14 =>
  (ald s_65 6 1024 v3_65).bind fun x15 =>
  if x14 = (x15 - (1 : Int32)) then (
  f_X9_walk_124 v2 v3_65 v4_65 v5_65 1 s_65)
  else (
  f_X9_walk_123 v2 v3_65 v4_65 v5_65 s_65))))
def f_X9_walk_65 (v2 : Int32) (v3_65 : Int32) (v4_65 : Int32) (v5_65 : Int32) (s_65 : Sg) : Option (Int64 × Sg) :=
  itr 3000 (fun s => f_X9_walk_65s v2 v3_65 s.1 s.2 s_65) (v4_65, v5_65)
def f_X9_walk (v1 : Int32) (v2 : Int32) (σ : Sg) : Option (Int64 × Sg) :=
  (f_X9_isStone v1 σ).bind fun q1 =>
  if q1 = 0 then (
  f_X9_walk_20 σ)
  else (
  (f_X9_in ((v2 : Int32).toInt64) 0 2).bind fun q2 =>
  if q2 = 0 then (
  f_X9_walk_20 σ)
  else (
  (f_X9_layWalks v1 σ).bind fun q3 =>
  (ald q3 1 660 3).bind fun x4 =>
  (ald q3 6 1024 x4).bind fun x5 =>
  if x5 = 100 then (
  some (((-4), q3)))
  else (
  (ald q3 1 660 4).bind fun x6 =>
  nm ((x6 - (1 : Int32))) fun x7 =>
  f_X9_walk_65 v2 x4 (-4) x7 q3)))
def f_X9_round_80 (v1 : Int32) (v2_41 : Int32) (v3_41 : Int32) (v5_80 : Int32) (t0_80 : Int32) (t1_80 : Int32) (σ : Sg) : Option ((Int32 × Int32) ⊕ ((Int32 × Int32) ⊕ Int32)) :=
  nm ((t0_80 ||| t1_80)) fun x7 =>
  nm (v5_80 + 1) fun x8 =>
  some (.inl (x7, x8))
def f_X9_round_41s (v1 : Int32) (v2_41 : Int32) (v3_41 : Int32) (v4_41 : Int32) (v5_41 : Int32) (σ : Sg) : Option ((Int32 × Int32) ⊕ ((Int32 × Int32) ⊕ Int32)) :=
  (ald σ 1 660 4).bind fun x4 =>
  if x4 ≤ v5_41 then (
  nm (v3_41 + 1) fun x5 =>
  some (.inr (.inl (v4_41, x5))))
  else (
  (f_X9_mayFrom v2_41 v5_41 σ).bind fun q6 =>
  if q6 = 0 then (
  f_X9_round_80 v1 v2_41 v3_41 v5_41 v4_41 0 σ)
  else (
  (ald σ 1 660 ((25 : Int32) + v5_41)).bind fun x9 =>
  f_X9_round_80 v1 v2_41 v3_41 v5_41 v4_41 ((1 : Int32) <<< (x9 &&& 31)) σ))
def f_X9_round_41 (v1 : Int32) (v2_41 : Int32) (v3_41 : Int32) (v4_41 : Int32) (v5_41 : Int32) (σ : Sg) : Option ((Int32 × Int32) ⊕ Int32) :=
  itr 3000 (fun s => f_X9_round_41s v1 v2_41 v3_41 s.1 s.2 σ) (v4_41, v5_41)
def f_X9_round_19s (v1 : Int32) (v2_19 : Int32) (v3_19 : Int32) (σ : Sg) : Option ((Int32 × Int32) ⊕ Int32) :=
  if (10 : Int32) < v3_19 then (
  some (.inr ((-4))))
  else (
  (f_X9_has v2_19 v1).bind fun q3 =>
  if q3 = 0 then (
  f_X9_round_41 v1 v2_19 v3_19 v2_19 0 σ)
  else (
  some (.inr (v3_19))))
def f_X9_round_19 (v1 : Int32) (v2_19 : Int32) (v3_19 : Int32) (σ : Sg) : Option Int32 :=
  itr 3000 (fun s => f_X9_round_19s v1 s.1 s.2 σ) (v2_19, v3_19)
def f_X9_round (v1 : Int32) (σ : Sg) : Option Int32 :=
  (f_X9_isStone v1 σ).bind fun q1 =>
  if q1 = 0 then (
  some ((-1)))
  else (
  (ald σ 1 660 3).bind fun x2 =>
  f_X9_round_19 v1 x2 0 σ)
def f_X9_needs_18 (σ : Sg) : Option Int32 :=
  some ((-1))
def f_X9_needs_188 (t0_188 : Int32) (σ : Sg) : Option Int32 :=
  some (t0_188)
def f_X9_needs_168 (v1 : Int32) (v2 : Int32) (v3_119 : Int32) (v5_119 : Int32) (v6_168 : Int32) (t0_168 : Int32) (t1_168 : Int32) (σ : Sg) : Option ((Int32 × Int32) ⊕ Int32) :=
  nm ((t0_168 ||| t1_168)) fun x8 =>
  nm (v6_168 + 1) fun x9 =>
  some (.inl (x8, x9))
def f_X9_needs_167 (v1 : Int32) (v2 : Int32) (v3_119 : Int32) (v5_119 : Int32) (v6_167 : Int32) (t0_167 : Int32) (σ : Sg) : Option ((Int32 × Int32) ⊕ Int32) :=
  f_X9_needs_168 v1 v2 v3_119 v5_119 v6_167 t0_167 0 σ
def f_X9_needs_119s (v1 : Int32) (v2 : Int32) (v3_119 : Int32) (v4_119 : Int32) (v5_119 : Int32) (v6_119 : Int32) (σ : Sg) : Option ((Int32 × Int32) ⊕ Int32) :=
  (ald σ 1 660 0).bind fun x6 =>
  if x6 ≤ v6_119 then (
  if v2 = 0 then (
  (f_X9_needs_188 v4_119 σ).map (fun z => .inr (z)))
  else (
  (f_X9_needs_188 v5_119 σ).map (fun z => .inr (z))))
  else (
  (f_X9_has v3_119 v6_119).bind fun q7 =>
  if q7 = 0 then (
  f_X9_needs_167 v1 v2 v3_119 v5_119 v6_119 v4_119 σ)
  else (
  (f_X9_reachOf (v3_119 &&& (((1 : Int32) <<< (v6_119 &&& 31)) ^^^ ((-1) : Int32))) σ).bind fun q10 =>
  (f_X9_has q10 v1).bind fun q11 =>
  if q11 = 0 then (
  f_X9_needs_168 v1 v2 v3_119 v5_119 v6_119 v4_119 ((1 : Int32) <<< (v6_119 &&& 31)) σ)
  else (
  f_X9_needs_167 v1 v2 v3_119 v5_119 v6_119 v4_119 σ)))
def f_X9_needs_119 (v1 : Int32) (v2 : Int32) (v3_119 : Int32) (v4_119 : Int32) (v5_119 : Int32) (v6_119 : Int32) (σ : Sg) : Option Int32 :=
  itr 3000 (fun s => f_X9_needs_119s v1 v2 v3_119 s.1 v5_119 s.2 σ) (v4_119, v6_119)
def f_X9_needs_108 (v1 : Int32) (v2 : Int32) (v3_49 : Int32) (v4_49 : Int32) (v6_108 : Int32) (t0_108 : Int32) (σ : Sg) : Option ((Int32 × Int32) ⊕ Int32) :=
  nm (v6_108 + (-1)) fun x12 =>
  some (.inl (t0_108, x12))
def f_X9_needs_106 (v1 : Int32) (v2 : Int32) (v3_49 : Int32) (v4_49 : Int32) (v5_106 : Int32) (v6_106 : Int32) (σ : Sg) : Option ((Int32 × Int32) ⊕ Int32) :=
  f_X9_needs_108 v1 v2 v3_49 v4_49 v6_106 v5_106 σ
def f_X9_needs_81 (v1 : Int32) (v2 : Int32) (v3_49 : Int32) (v4_49 : Int32) (v5_81 : Int32) (v6_81 : Int32) (t0_81 : Int32) (σ : Sg) : Option ((Int32 × Int32) ⊕ Int32) :=
  if t0_81 = 0 then (
  f_X9_needs_106 v1 v2 v3_49 v4_49 v5_81 v6_81 σ)
  else (
  (f_X9_ones v6_81).bind fun q13 =>
  (f_X9_ones v5_81).bind fun q14 =>
  if q14 < q13 then (
  f_X9_needs_106 v1 v2 v3_49 v4_49 v5_81 v6_81 σ)
  else (
  f_X9_needs_108 v1 v2 v3_49 v4_49 v6_81 v6_81 σ))
def f_X9_needs_80 (v1 : Int32) (v2 : Int32) (v3_49 : Int32) (v4_49 : Int32) (v5_80 : Int32) (v6_80 : Int32) (σ : Sg) : Option ((Int32 × Int32) ⊕ Int32) :=
  f_X9_needs_81 v1 v2 v3_49 v4_49 v5_80 v6_80 0 σ
def f_X9_needs_49s (v1 : Int32) (v2 : Int32) (v3_49 : Int32) (v4_49 : Int32) (v5_49 : Int32) (v6_49 : Int32) (σ : Sg) : Option ((Int32 × Int32) ⊕ Int32) :=
  if v6_49 < 0 then (
  (f_X9_needs_119 v1 v2 v3_49 v4_49 v5_49 0 σ).map (fun z => .inr (z)))
  else (
  if (v6_49 &&& (v3_49 ^^^ ((-1) : Int32))) = 0 then (
  (f_X9_reachOf v6_49 σ).bind fun q15 =>
  (f_X9_has q15 v1).bind fun q16 =>
  if q16 = 0 then (
  f_X9_needs_80 v1 v2 v3_49 v4_49 v5_49 v6_49 σ)
  else (
  f_X9_needs_81 v1 v2 v3_49 v4_49 v5_49 v6_49 1 σ))
  else (
  f_X9_needs_80 v1 v2 v3_49 v4_49 v5_49 v6_49 σ))
def f_X9_needs_49 (v1 : Int32) (v2 : Int32) (v3_49 : Int32) (v4_49 : Int32) (v5_49 : Int32) (v6_49 : Int32) (σ : Sg) : Option Int32 :=
  itr 3000 (fun s => f_X9_needs_49s v1 v2 v3_49 v4_49 s.1 s.2 σ) (v5_49, v6_49)
def f_X9_needs (v1 : Int32) (v2 : Int32) (σ : Sg) : Option Int32 :=
  (f_X9_isStone v1 σ).bind fun q1 =>
  if q1 = 0 then (
  f_X9_needs_18 σ)
  else (
  (f_X9_in ((v2 : Int32).toInt64) 0 1).bind fun q2 =>
  if q2 = 0 then (
  f_X9_needs_18 σ)
  else (
  (f_X9_beginnings σ).bind fun q3 =>
  (f_X9_reachOf q3 σ).bind fun q4 =>
  (f_X9_has q4 v1).bind fun q5 =>
  if q5 = 0 then (
  some ((-4)))
  else (
  f_X9_needs_49 v1 v2 q3 0 q3 q3 σ)))
def f_X9_lost (v1 : Int32) (σ : Sg) : Option Int32 :=
  (f_X9_isStone v1 σ).bind fun q1 =>
  if q1 = 0 then (
  some ((-1)))
  else (
  (ald σ 1 660 2).bind fun x2 =>
  (f_X9_has x2 v1).bind fun q3 =>
  if q3 = 0 then (
  some ((-2)))
  else (
  (f_X9_beginnings σ).bind fun q4 =>
  (f_X9_reachOf q4 σ).bind fun q5 =>
  (f_X9_beginnings σ).bind fun q6 =>
  (f_X9_allSteps σ).bind fun q7 =>
  (ald σ 1 660 2).bind fun x8 =>
  (f_X9_closure (q6 &&& (((1 : Int32) <<< (v1 &&& 31)) ^^^ ((-1) : Int32))) q7 (x8 &&& (((1 : Int32) <<< (v1 &&& 31)) ^^^ ((-1) : Int32))) σ).bind fun q9 =>
  some (((q5 &&& (q9 ^^^ ((-1) : Int32))) &&& (((1 : Int32) <<< (v1 &&& 31)) ^^^ ((-1) : Int32))))))
def f_X9_begins_89 (v1 : Int32) (v3_89 : Int32) (t0_89 : Int32) (σ : Sg) : Option ((Int32 × Int32) ⊕ Int32) :=
  nm (v3_89 + 1) fun x3 =>
  some (.inl (t0_89, x3))
def f_X9_begins_88 (v1 : Int32) (v2_88 : Int32) (v3_88 : Int32) (σ : Sg) : Option ((Int32 × Int32) ⊕ Int32) :=
  f_X9_begins_89 v1 v3_88 v2_88 σ
def f_X9_begins_60 (v1 : Int32) (v2_60 : Int32) (v3_60 : Int32) (t0_60 : Int32) (σ : Sg) : Option ((Int32 × Int32) ⊕ Int32) :=
  if t0_60 = 0 then (
  f_X9_begins_88 v1 v2_60 v3_60 σ)
  else (
  (f_X9_beginnings σ).bind fun q4 =>
  (f_X9_reachOf (q4 ||| v3_60) σ).bind fun q5 =>
  (f_X9_has q5 v1).bind fun q6 =>
  if q6 = 0 then (
  f_X9_begins_88 v1 v2_60 v3_60 σ)
  else (
  f_X9_begins_89 v1 v3_60 v3_60 σ))
def f_X9_begins_59 (v1 : Int32) (v2_59 : Int32) (v3_59 : Int32) (σ : Sg) : Option ((Int32 × Int32) ⊕ Int32) :=
  f_X9_begins_60 v1 v2_59 v3_59 0 σ
def f_X9_begins_55 (v1 : Int32) (v2_55 : Int32) (v3_55 : Int32) (σ : Sg) : Option ((Int32 × Int32) ⊕ Int32) :=
  f_X9_begins_60 v1 v2_55 v3_55 1 σ
def f_X9_begins_5s (v1 : Int32) (v2_5 : Int32) (v3_5 : Int32) (σ : Sg) : Option ((Int32 × Int32) ⊕ Int32) :=
  (ald σ 1 660 0).bind fun x1 =>
  if ((1 : Int32) <<< (x1 &&& 31)) ≤ v3_5 then (
  some (.inr (v2_5)))
  else (
  (ald σ 1 660 2).bind fun x2 =>
  if (v3_5 &&& (x2 ^^^ ((-1) : Int32))) = 0 then (
  (f_X9_has v3_5 v1).bind fun q7 =>
  if q7 = 0 then (
  if v2_5 = (-4) then (
  f_X9_begins_55 v1 v2_5 v3_5 σ)
  else (
  (f_X9_ones v3_5).bind fun q8 =>
  (f_X9_ones v2_5).bind fun q9 =>
  if q9 ≤ q8 then (
  f_X9_begins_59 v1 v2_5 v3_5 σ)
  else (
  f_X9_begins_55 v1 v2_5 v3_5 σ)))
  else (
  f_X9_begins_59 v1 v2_5 v3_5 σ))
  else (
  f_X9_begins_59 v1 v2_5 v3_5 σ))
def f_X9_begins_5 (v1 : Int32) (v2_5 : Int32) (v3_5 : Int32) (σ : Sg) : Option Int32 :=
  itr 3000 (fun s => f_X9_begins_5s v1 s.1 s.2 σ) (v2_5, v3_5)
def f_X9_begins (v1 : Int32) (σ : Sg) : Option Int32 :=
  f_X9_begins_5 v1 (-4) 0 σ
def f_X9_begin_33 (t0_33 : Int32) (σ : Sg) : Option Int32 :=
  some (t0_33)
def f_X9_begin (v1 : Int32) (σ : Sg) : Option Int32 :=
  (f_X9_isStone v1 σ).bind fun q1 =>
  if q1 = 0 then (
  some ((-1)))
  else (
  (ald σ 1 660 2).bind fun x2 =>
  (f_X9_has x2 v1).bind fun q3 =>
  if q3 = 0 then (
  f_X9_begin_33 (-2) σ)
  else (
  (f_X9_begins v1 σ).bind fun q4 =>
  f_X9_begin_33 q4 σ))
def f_X9_isHall_55 (v2_11 : Int32) (v4_55 : Int32) (t0_55 : Int32) (σ : Sg) : Option ((Int32 × Int32) ⊕ Int32) :=
  nm (v4_55 + 1) fun x4 =>
  some (.inl (t0_55, x4))
def f_X9_isHall_50 (v2_11 : Int32) (v4_50 : Int32) (σ : Sg) : Option ((Int32 × Int32) ⊕ Int32) :=
  f_X9_isHall_55 v2_11 v4_50 1 σ
def f_X9_isHall_54 (v2_11 : Int32) (v4_54 : Int32) (σ : Sg) : Option ((Int32 × Int32) ⊕ Int32) :=
  f_X9_isHall_55 v2_11 v4_54 0 σ
def f_X9_isHall_11s (v2_11 : Int32) (v3_11 : Int32) (v4_11 : Int32) (σ : Sg) : Option ((Int32 × Int32) ⊕ Int32) :=
  (ald σ 1 660 0).bind fun x2 =>
  if x2 ≤ v4_11 then (
  (zrt v3_11).bind fun x3 =>
  some (.inr (x3)))
  else (
  if v3_11 = 0 then (
  (f_X9_has v2_11 v4_11).bind fun q5 =>
  if q5 = 0 then (
  f_X9_isHall_54 v2_11 v4_11 σ)
  else (
  (ald σ 1 660 ((45 : Int32) + v4_11)).bind fun x6 =>
  if (x6 &&& v2_11) = 0 then (
  f_X9_isHall_54 v2_11 v4_11 σ)
  else (
  f_X9_isHall_50 v2_11 v4_11 σ)))
  else (
  f_X9_isHall_50 v2_11 v4_11 σ))
def f_X9_isHall_11 (v2_11 : Int32) (v3_11 : Int32) (v4_11 : Int32) (σ : Sg) : Option Int32 :=
  itr 3000 (fun s => f_X9_isHall_11s v2_11 s.1 s.2 σ) (v3_11, v4_11)
def f_X9_isHall (v1 : Int32) (σ : Sg) : Option Int32 :=
  (f_X9_reachOf v1 σ).bind fun q1 =>
  f_X9_isHall_11 q1 0 0 σ
def f_X9_hall_119 (t0_119 : Int32) (σ : Sg) : Option Int32 :=
  some (t0_119)
def f_X9_hall_94 (v1 : Int32) (v2_94 : Int32) (σ : Sg) : Option Int32 :=
  if v1 = 1 then (
  f_X9_hall_119 v2_94 σ)
  else (
  (f_X9_beginnings σ).bind fun q3 =>
  (f_X9_isHall q3 σ).bind fun q4 =>
  if q4 = 0 then (
  f_X9_hall_119 0 σ)
  else (
  f_X9_hall_119 1 σ))
def f_X9_hall_87 (v1 : Int32) (v3_87 : Int32) (t0_87 : Int32) (σ : Sg) : Option ((Int32 × Int32) ⊕ Int32) :=
  nm (v3_87 + 1) fun x6 =>
  some (.inl (t0_87, x6))
def f_X9_hall_86 (v1 : Int32) (v2_86 : Int32) (v3_86 : Int32) (σ : Sg) : Option ((Int32 × Int32) ⊕ Int32) :=
  f_X9_hall_87 v1 v3_86 v2_86 σ
def f_X9_hall_67 (v1 : Int32) (v2_67 : Int32) (v3_67 : Int32) (t0_67 : Int32) (σ : Sg) : Option ((Int32 × Int32) ⊕ Int32) :=
  if t0_67 = 0 then (
  f_X9_hall_86 v1 v2_67 v3_67 σ)
  else (
  (f_X9_isHall v3_67 σ).bind fun q7 =>
  if q7 = 0 then (
  f_X9_hall_86 v1 v2_67 v3_67 σ)
  else (
  f_X9_hall_87 v1 v3_67 v3_67 σ))
def f_X9_hall_66 (v1 : Int32) (v2_66 : Int32) (v3_66 : Int32) (σ : Sg) : Option ((Int32 × Int32) ⊕ Int32) :=
  f_X9_hall_67 v1 v2_66 v3_66 0 σ
def f_X9_hall_62 (v1 : Int32) (v2_62 : Int32) (v3_62 : Int32) (σ : Sg) : Option ((Int32 × Int32) ⊕ Int32) :=
  f_X9_hall_67 v1 v2_62 v3_62 1 σ
def f_X9_hall_17s (v1 : Int32) (v2_17 : Int32) (v3_17 : Int32) (σ : Sg) : Option ((Int32 × Int32) ⊕ Int32) :=
  (ald σ 1 660 0).bind fun x2 =>
  if ((1 : Int32) <<< (x2 &&& 31)) ≤ v3_17 then (
  (f_X9_hall_94 v1 v2_17 σ).map (fun z => .inr (z)))
  else (
  if v1 = 1 then (
  (f_X9_beginnings σ).bind fun q5 =>
  if (v3_17 &&& (q5 ^^^ ((-1) : Int32))) = 0 then (
  if v2_17 = (-4) then (
  f_X9_hall_62 v1 v2_17 v3_17 σ)
  else (
  (f_X9_ones v3_17).bind fun q8 =>
  (f_X9_ones v2_17).bind fun q9 =>
  if q9 ≤ q8 then (
  f_X9_hall_66 v1 v2_17 v3_17 σ)
  else (
  f_X9_hall_62 v1 v2_17 v3_17 σ)))
  else (
  f_X9_hall_66 v1 v2_17 v3_17 σ))
  else (
  (f_X9_hall_94 v1 v2_17 σ).map (fun z => .inr (z))))
def f_X9_hall_17 (v1 : Int32) (v2_17 : Int32) (v3_17 : Int32) (σ : Sg) : Option Int32 :=
  itr 3000 (fun s => f_X9_hall_17s v1 s.1 s.2 σ) (v2_17, v3_17)
def f_X9_hall (v1 : Int32) (σ : Sg) : Option Int32 :=
  (f_X9_in ((v1 : Int32).toInt64) 0 1).bind fun q1 =>
  if q1 = 0 then (
  some ((-1)))
  else (
  f_X9_hall_17 v1 (-4) 0 σ)
def f_X9_rope_66 (v2_66 : Int32) (t0_66 : Int32) (σ : Sg) : Option ((Int32 × Int32) ⊕ Int32) :=
  nm (v2_66 + (-1)) fun x4 =>
  some (.inl (t0_66, x4))
def f_X9_rope_65 (v1_65 : Int32) (v2_65 : Int32) (σ : Sg) : Option ((Int32 × Int32) ⊕ Int32) :=
  f_X9_rope_66 v2_65 v1_65 σ
def f_X9_rope_41 (v1_41 : Int32) (v2_41 : Int32) (t0_41 : Int32) (σ : Sg) : Option ((Int32 × Int32) ⊕ Int32) :=
  if t0_41 = 0 then (
  f_X9_rope_65 v1_41 v2_41 σ)
  else (
  (f_X9_beginnings σ).bind fun q5 =>
  (f_X9_isHall (q5 &&& (v2_41 ^^^ ((-1) : Int32))) σ).bind fun q6 =>
  if q6 = 0 then (
  f_X9_rope_66 v2_41 v2_41 σ)
  else (
  f_X9_rope_65 v1_41 v2_41 σ))
def f_X9_rope_40 (v1_40 : Int32) (v2_40 : Int32) (σ : Sg) : Option ((Int32 × Int32) ⊕ Int32) :=
  f_X9_rope_41 v1_40 v2_40 0 σ
def f_X9_rope_10s (v1_10 : Int32) (v2_10 : Int32) (σ : Sg) : Option ((Int32 × Int32) ⊕ Int32) :=
  if v2_10 < 0 then (
  some (.inr (v1_10)))
  else (
  (f_X9_beginnings σ).bind fun q3 =>
  if (v2_10 &&& (q3 ^^^ ((-1) : Int32))) = 0 then (
  (f_X9_ones v2_10).bind fun q7 =>
  (f_X9_ones v1_10).bind fun q8 =>
  if q8 < q7 then (
  f_X9_rope_40 v1_10 v2_10 σ)
  else (
  f_X9_rope_41 v1_10 v2_10 1 σ))
  else (
  f_X9_rope_40 v1_10 v2_10 σ))
def f_X9_rope_10 (v1_10 : Int32) (v2_10 : Int32) (σ : Sg) : Option Int32 :=
  itr 3000 (fun s => f_X9_rope_10s s.1 s.2 σ) (v1_10, v2_10)
def f_X9_rope (σ : Sg) : Option Int32 :=
  (f_X9_beginnings σ).bind fun q1 =>
  (f_X9_beginnings σ).bind fun q2 =>
  f_X9_rope_10 q1 q2 σ
def f_X9_idle_85 (v2_85 : Int32) (t0_85 : Int32) (t1_85 : Int32) (σ : Sg) : Option ((Int32 × Int32) ⊕ Int32) :=
  nm ((t0_85 ||| t1_85)) fun x9 =>
  nm (v2_85 + 1) fun x10 =>
  some (.inl (x9, x10))
def f_X9_idle_4s (v1_4 : Int32) (v2_4 : Int32) (σ : Sg) : Option ((Int32 × Int32) ⊕ Int32) :=
  (ald σ 1 660 4).bind fun x1 =>
  if x1 ≤ v2_4 then (
  some (.inr (v1_4)))
  else (
  (ald σ 1 660 ((5 : Int32) + v2_4)).bind fun x2 =>
  (ald σ 1 660 ((15 : Int32) + v2_4)).bind fun x3 =>
  (f_X9_allSteps σ).bind fun q4 =>
  (ald σ 1 660 0).bind fun x5 =>
  (f_X9_closure (((1 : Int32) <<< (x2 &&& 31)) ||| ((1 : Int32) <<< (x3 &&& 31))) (q4 &&& (((1 : Int32) <<< (v2_4 &&& 31)) ^^^ ((-1) : Int32))) (((1 : Int32) <<< (x5 &&& 31)) - (1 : Int32)) σ).bind fun q6 =>
  (ald σ 1 660 ((25 : Int32) + v2_4)).bind fun x7 =>
  (f_X9_has q6 x7).bind fun q8 =>
  if q8 = 0 then (
  f_X9_idle_85 v2_4 v1_4 0 σ)
  else (
  f_X9_idle_85 v2_4 v1_4 ((1 : Int32) <<< (v2_4 &&& 31)) σ))
def f_X9_idle_4 (v1_4 : Int32) (v2_4 : Int32) (σ : Sg) : Option Int32 :=
  itr 3000 (fun s => f_X9_idle_4s s.1 s.2 σ) (v1_4, v2_4)
def f_X9_idle (σ : Sg) : Option Int32 :=
  f_X9_idle_4 0 0 σ
def f_X9_leads_113 (v1 : Int32) (v3_13 : Int32) (v4_113 : Int32) (t0_113 : Int32) (t1_113 : Int32) (σ : Sg) : Option ((Int32 × Int32) ⊕ ((Int32 × Int32) ⊕ Int32)) :=
  nm ((t0_113 ||| t1_113)) fun x4 =>
  nm (v4_113 + 1) fun x5 =>
  some (.inl (x4, x5))
def f_X9_leads_89 (v1 : Int32) (v2_89 : Int32) (v3_13 : Int32) (v4_89 : Int32) (t0_89 : Int32) (σ : Sg) : Option ((Int32 × Int32) ⊕ ((Int32 × Int32) ⊕ Int32)) :=
  if t0_89 = 0 then (
  f_X9_leads_113 v1 v3_13 v4_89 v2_89 0 σ)
  else (
  (ald σ 1 660 ((25 : Int32) + v4_89)).bind fun x6 =>
  f_X9_leads_113 v1 v3_13 v4_89 v2_89 ((1 : Int32) <<< (x6 &&& 31)) σ)
def f_X9_leads_84 (v1 : Int32) (v2_84 : Int32) (v3_13 : Int32) (v4_84 : Int32) (σ : Sg) : Option ((Int32 × Int32) ⊕ ((Int32 × Int32) ⊕ Int32)) :=
  f_X9_leads_89 v1 v2_84 v3_13 v4_84 1 σ
def f_X9_leads_13s (v1 : Int32) (v2_13 : Int32) (v3_13 : Int32) (v4_13 : Int32) (σ : Sg) : Option ((Int32 × Int32) ⊕ ((Int32 × Int32) ⊕ Int32)) :=
  (ald σ 1 660 4).bind fun x1 =>
  if x1 ≤ v4_13 then (
  nm (v3_13 + 1) fun x2 =>
  some (.inr (.inl (v2_13, x2))))
  else (
  (ald σ 1 660 ((5 : Int32) + v4_13)).bind fun x3 =>
  if x3 = v1 then (
  f_X9_leads_84 v1 v2_13 v3_13 v4_13 σ)
  else (
  (ald σ 1 660 ((15 : Int32) + v4_13)).bind fun x7 =>
  if x7 = v1 then (
  f_X9_leads_84 v1 v2_13 v3_13 v4_13 σ)
  else (
  (ald σ 1 660 ((5 : Int32) + v4_13)).bind fun x8 =>
  (f_X9_has v2_13 x8).bind fun q9 =>
  if q9 = 0 then (
  (ald σ 1 660 ((15 : Int32) + v4_13)).bind fun x10 =>
  (f_X9_has v2_13 x10).bind fun q11 =>
  if q11 = 0 then (
  f_X9_leads_89 v1 v2_13 v3_13 v4_13 0 σ)
  else (
  f_X9_leads_84 v1 v2_13 v3_13 v4_13 σ))
  else (
  f_X9_leads_84 v1 v2_13 v3_13 v4_13 σ))))
def f_X9_leads_13 (v1 : Int32) (v2_13 : Int32) (v3_13 : Int32) (v4_13 : Int32) (σ : Sg) : Option ((Int32 × Int32) ⊕ Int32) :=
  itr 3000 (fun s => f_X9_leads_13s v1 s.1 v3_13 s.2 σ) (v2_13, v4_13)
def f_X9_leads_4s (v1 : Int32) (v2_4 : Int32) (v3_4 : Int32) (σ : Sg) : Option ((Int32 × Int32) ⊕ Int32) :=
  if (10 : Int32) ≤ v3_4 then (
  some (.inr (v2_4)))
  else (
  f_X9_leads_13 v1 v2_4 v3_4 0 σ)
def f_X9_leads_4 (v1 : Int32) (v2_4 : Int32) (v3_4 : Int32) (σ : Sg) : Option Int32 :=
  itr 3000 (fun s => f_X9_leads_4s v1 s.1 s.2 σ) (v2_4, v3_4)
def f_X9_leads (v1 : Int32) (σ : Sg) : Option Int32 :=
  f_X9_leads_4 v1 0 0 σ
def f_X9_circle_33 (v2_33 : Int32) (t0_33 : Int32) (σ : Sg) : Option ((Int32 × Int32) ⊕ Int32) :=
  nm (v2_33 + (-1)) fun x5 =>
  some (.inl (t0_33, x5))
def f_X9_circle_12s (v1_12 : Int32) (v2_12 : Int32) (σ : Sg) : Option ((Int32 × Int32) ⊕ Int32) :=
  if v2_12 < 0 then (
  some (.inr (v1_12)))
  else (
  (f_X9_leads v2_12 σ).bind fun q3 =>
  (f_X9_has q3 v2_12).bind fun q4 =>
  if q4 = 0 then (
  f_X9_circle_33 v2_12 v1_12 σ)
  else (
  f_X9_circle_33 v2_12 v2_12 σ))
def f_X9_circle_12 (v1_12 : Int32) (v2_12 : Int32) (σ : Sg) : Option Int32 :=
  itr 3000 (fun s => f_X9_circle_12s s.1 s.2 σ) (v1_12, v2_12)
def f_X9_circle (σ : Sg) : Option Int32 :=
  (ald σ 1 660 0).bind fun x1 =>
  nm ((x1 - (1 : Int32))) fun x2 =>
  f_X9_circle_12 (-4) x2 σ
def f_X9_deep_189 (v2_45 : Int32) (v3_189 : Int32) (t0_189 : Int32) (s_189 : Sg) : Option ((Int32 × Int32 × Sg) ⊕ ((Int32 × Int32 × Sg) ⊕ (Int32 × Sg))) :=
  nm (v3_189 + 1) fun x16 =>
  some (.inl (t0_189, x16, s_189))
def f_X9_deep_172 (v1_172 : Int32) (v2_45 : Int32) (v3_172 : Int32) (v4_172 : Int32) (t1_172 : Int32) (t2_172 : Int32) (s_172 : Sg) : Option ((Int32 × Int32 × Sg) ⊕ ((Int32 × Int32 × Sg) ⊕ (Int32 × Sg))) :=
  (ast s_172 7 10 t1_172 t2_172).bind fun s15 =>
  if (v4_172 + (1 : Int32)) ≤ v1_172 then (
  f_X9_deep_189 v2_45 v3_172 v1_172 s15)
  else (
  f_X9_deep_189 v2_45 v3_172 (v4_172 + (1 : Int32)) s15)
def f_X9_deep_115 (v1_115 : Int32) (v2_45 : Int32) (v3_115 : Int32) (t0_115 : Int32) (s_115 : Sg) : Option ((Int32 × Int32 × Sg) ⊕ ((Int32 × Int32 × Sg) ⊕ (Int32 × Sg))) :=
  (ald s_115 1 660 ((25 : Int32) + v3_115)).bind fun x10 =>
  (ald s_115 1 660 ((25 : Int32) + v3_115)).bind fun x11 =>
  (ald s_115 7 10 x11).bind fun x12 =>
  if (t0_115 + (1 : Int32)) ≤ x12 then (
  (ald s_115 1 660 ((25 : Int32) + v3_115)).bind fun x13 =>
  (ald s_115 7 10 x13).bind fun x14 =>
  f_X9_deep_172 v1_115 v2_45 v3_115 t0_115 x10 x14 s_115)
  else (
  f_X9_deep_172 v1_115 v2_45 v3_115 t0_115 x10 (t0_115 + (1 : Int32)) s_115)
def f_X9_deep_45s (v1_45 : Int32) (v2_45 : Int32) (v3_45 : Int32) (s_45 : Sg) : Option ((Int32 × Int32 × Sg) ⊕ ((Int32 × Int32 × Sg) ⊕ (Int32 × Sg))) :=
  (ald s_45 1 660 4).bind fun x2 =>
  if x2 ≤ v3_45 then (
  nm (v2_45 + 1) fun x3 =>
  some (.inr (.inl (v1_45, x3, s_45))))
  else (
  (ald s_45 1 660 ((5 : Int32) + v3_45)).bind fun x4 =>
  (ald s_45 7 10 x4).bind fun x5 =>
  (ald s_45 1 660 ((15 : Int32) + v3_45)).bind fun x6 =>
  (ald s_45 7 10 x6).bind fun x7 =>
  if x5 ≤ x7 then (
  (ald s_45 1 660 ((15 : Int32) + v3_45)).bind fun x8 =>
  (ald s_45 7 10 x8).bind fun x9 =>
  f_X9_deep_115 v1_45 v2_45 v3_45 x9 s_45)
  else (
  (ald s_45 1 660 ((5 : Int32) + v3_45)).bind fun x17 =>
  (ald s_45 7 10 x17).bind fun x18 =>
  f_X9_deep_115 v1_45 v2_45 v3_45 x18 s_45))
def f_X9_deep_45 (v1_45 : Int32) (v2_45 : Int32) (v3_45 : Int32) (s_45 : Sg) : Option ((Int32 × Int32 × Sg) ⊕ (Int32 × Sg)) :=
  itr 3000 (fun s => f_X9_deep_45s s.1 v2_45 s.2.1 s.2.2) (v1_45, v3_45, s_45)
def f_X9_deep_37s (v1_37 : Int32) (v2_37 : Int32) (s_37 : Sg) : Option ((Int32 × Int32 × Sg) ⊕ (Int32 × Sg)) :=
  if (10 : Int32) ≤ v2_37 then (
  some (.inr ((v1_37, s_37))))
  else (
  f_X9_deep_45 v1_37 v2_37 0 s_37)
def f_X9_deep_37 (v1_37 : Int32) (v2_37 : Int32) (s_37 : Sg) : Option (Int32 × Sg) :=
  itr 3000 (fun s => f_X9_deep_37s s.1 s.2.1 s.2.2) (v1_37, v2_37, s_37)
def f_X9_deep_14s (v1_14 : Int32) (s_14 : Sg) : Option ((Int32 × Sg) ⊕ (Int32 × Sg)) :=
  if (10 : Int32) ≤ v1_14 then (
  (f_X9_deep_37 0 0 s_14).map (fun z => .inr (z)))
  else (
  (ast s_14 7 10 v1_14 0).bind fun s19 =>
  nm (v1_14 + 1) fun x20 =>
  some (.inl (x20, s19)))
def f_X9_deep_14 (v1_14 : Int32) (s_14 : Sg) : Option (Int32 × Sg) :=
  itr 3000 (fun s => f_X9_deep_14s s.1 s.2) (v1_14, s_14)
def f_X9_deep (σ : Sg) : Option (Int32 × Sg) :=
  (f_X9_circle σ).bind fun q1 =>
  if q1 = (-4) then (
  f_X9_deep_14 0 σ)
  else (
  some (((-4), σ)))
def f_X9_proves (v1 : Int32) (v2 : Int32) (σ : Sg) : Option Int32 :=
  (f_X9_beginnings σ).bind fun q1 =>
  (ald σ 1 660 2).bind fun x2 =>
  (f_X9_closure q1 v1 x2 σ).bind fun q3 =>
  (f_X9_has q3 v2).bind fun q4 =>
  (zrt q4).bind fun x5 =>
  some (x5)
def f_X9_isProof_62 (v3_62 : Int32) (σ : Sg) : Option Int32 :=
  (zrt v3_62).bind fun x3 =>
  some (x3)
def f_X9_isProof_55 (v1 : Int32) (v2 : Int32) (v4_55 : Int32) (t0_55 : Int32) (σ : Sg) : Option ((Int32 × Int32) ⊕ Int32) :=
  nm (v4_55 + 1) fun x5 =>
  some (.inl (t0_55, x5))
def f_X9_isProof_50 (v1 : Int32) (v2 : Int32) (v4_50 : Int32) (σ : Sg) : Option ((Int32 × Int32) ⊕ Int32) :=
  f_X9_isProof_55 v1 v2 v4_50 1 σ
def f_X9_isProof_10s (v1 : Int32) (v2 : Int32) (v3_10 : Int32) (v4_10 : Int32) (σ : Sg) : Option ((Int32 × Int32) ⊕ Int32) :=
  (ald σ 1 660 4).bind fun x2 =>
  if x2 ≤ v4_10 then (
  (f_X9_isProof_62 v3_10 σ).map (fun z => .inr (z)))
  else (
  if v3_10 = 0 then (
  (f_X9_isProof_62 v3_10 σ).map (fun z => .inr (z)))
  else (
  (f_X9_has v1 v4_10).bind fun q4 =>
  if q4 = 0 then (
  f_X9_isProof_50 v1 v2 v4_10 σ)
  else (
  (f_X9_proves (v1 &&& (((1 : Int32) <<< (v4_10 &&& 31)) ^^^ ((-1) : Int32))) v2 σ).bind fun q6 =>
  if q6 = 0 then (
  f_X9_isProof_50 v1 v2 v4_10 σ)
  else (
  f_X9_isProof_55 v1 v2 v4_10 0 σ))))
def f_X9_isProof_10 (v1 : Int32) (v2 : Int32) (v3_10 : Int32) (v4_10 : Int32) (σ : Sg) : Option Int32 :=
  itr 3000 (fun s => f_X9_isProof_10s v1 v2 s.1 s.2 σ) (v3_10, v4_10)
def f_X9_isProof (v1 : Int32) (v2 : Int32) (σ : Sg) : Option Int32 :=
  (f_X9_proves v1 v2 σ).bind fun q1 =>
  f_X9_isProof_10 v1 v2 q1 0 σ
def f_X9_proofs_20 (σ : Sg) : Option Int32 :=
  some ((-1))
def f_X9_proofs_129 (t0_129 : Int32) (σ : Sg) : Option Int32 :=
  some (t0_129)
def f_X9_proofs_95 (v1 : Int32) (v2 : Int32) (v3_95 : Int32) (v4_95 : Int32) (v5_95 : Int32) (v6_95 : Int32) (σ : Sg) : Option ((Int32 × Int32 × Int32 × Int32) ⊕ Int32) :=
  nm (v6_95 + 1) fun x6 =>
  some (.inl (v3_95, v4_95, v5_95, x6))
def f_X9_proofs_83 (v1 : Int32) (v2 : Int32) (v3_83 : Int32) (v5_83 : Int32) (v6_83 : Int32) (t0_83 : Int32) (σ : Sg) : Option ((Int32 × Int32 × Int32 × Int32) ⊕ Int32) :=
  nm ((v5_83 &&& v6_83)) fun x7 =>
  nm (v3_83 + 1) fun x8 =>
  f_X9_proofs_95 v1 v2 x8 t0_83 x7 v6_83 σ
def f_X9_proofs_76 (v1 : Int32) (v2 : Int32) (v3_76 : Int32) (v5_76 : Int32) (v6_76 : Int32) (σ : Sg) : Option ((Int32 × Int32 × Int32 × Int32) ⊕ Int32) :=
  f_X9_proofs_83 v1 v2 v3_76 v5_76 v6_76 v6_76 σ
def f_X9_proofs_37s (v1 : Int32) (v2 : Int32) (v3_37 : Int32) (v4_37 : Int32) (v5_37 : Int32) (v6_37 : Int32) (σ : Sg) : Option ((Int32 × Int32 × Int32 × Int32) ⊕ Int32) :=
  (f_X9_allSteps σ).bind fun q4 =>
  if q4 < v6_37 then (
  if v2 = 0 then (
  (f_X9_proofs_129 v3_37 σ).map (fun z => .inr (z)))
  else (
  if v2 = 1 then (
  (f_X9_proofs_129 v4_37 σ).map (fun z => .inr (z)))
  else (
  if v3_37 = 0 then (
  (f_X9_proofs_129 0 σ).map (fun z => .inr (z)))
  else (
  (f_X9_proofs_129 v5_37 σ).map (fun z => .inr (z))))))
  else (
  (f_X9_isProof v6_37 v1 σ).bind fun q5 =>
  if q5 = 0 then (
  f_X9_proofs_95 v1 v2 v3_37 v4_37 v5_37 v6_37 σ)
  else (
  if v4_37 = (-4) then (
  f_X9_proofs_76 v1 v2 v3_37 v5_37 v6_37 σ)
  else (
  (f_X9_ones v6_37).bind fun q9 =>
  (f_X9_ones v4_37).bind fun q10 =>
  if q10 ≤ q9 then (
  f_X9_proofs_83 v1 v2 v3_37 v5_37 v6_37 v4_37 σ)
  else (
  f_X9_proofs_76 v1 v2 v3_37 v5_37 v6_37 σ))))
def f_X9_proofs_37 (v1 : Int32) (v2 : Int32) (v3_37 : Int32) (v4_37 : Int32) (v5_37 : Int32) (v6_37 : Int32) (σ : Sg) : Option Int32 :=
  itr 3000 (fun s => f_X9_proofs_37s v1 v2 s.1 s.2.1 s.2.2.1 s.2.2.2 σ) (v3_37, v4_37, v5_37, v6_37)
def f_X9_proofs (v1 : Int32) (v2 : Int32) (σ : Sg) : Option Int32 :=
  (f_X9_isStone v1 σ).bind fun q1 =>
  if q1 = 0 then (
  f_X9_proofs_20 σ)
  else (
  (f_X9_in ((v2 : Int32).toInt64) 0 2).bind fun q2 =>
  if q2 = 0 then (
  f_X9_proofs_20 σ)
  else (
  (f_X9_allSteps σ).bind fun q3 =>
  f_X9_proofs_37 v1 v2 0 (-4) q3 0 σ))
def f_X9_worn_16 (σ : Sg) : Option Int32 :=
  some ((-1))
def f_X9_worn_108 (v1 : Int32) (v2 : Int32) (v4_108 : Int32) (t0_108 : Int32) (t1_108 : Int32) (σ : Sg) : Option ((Int32 × Int32) ⊕ Int32) :=
  nm ((t0_108 + t1_108)) fun x5 =>
  nm (v4_108 + 1) fun x6 =>
  some (.inl (x5, x6))
def f_X9_worn_107 (v1 : Int32) (v2 : Int32) (v4_107 : Int32) (t0_107 : Int32) (σ : Sg) : Option ((Int32 × Int32) ⊕ Int32) :=
  f_X9_worn_108 v1 v2 v4_107 t0_107 0 σ
def f_X9_worn_77 (v1 : Int32) (v2 : Int32) (v3_38 : Int32) (v4_38 : Int32) (v6_77 : Int32) (t0_77 : Int32) (t1_77 : Int32) (σ : Sg) : Option ((Int32 × Int32) ⊕ ((Int32 × Int32) ⊕ Int32)) :=
  nm ((t0_77 ||| t1_77)) fun x9 =>
  nm (v6_77 + 1) fun x10 =>
  some (.inl (x9, x10))
def f_X9_worn_38s (v1 : Int32) (v2 : Int32) (v3_38 : Int32) (v4_38 : Int32) (v5_38 : Int32) (v6_38 : Int32) (σ : Sg) : Option ((Int32 × Int32) ⊕ ((Int32 × Int32) ⊕ Int32)) :=
  (ald σ 1 660 4).bind fun x4 =>
  if x4 ≤ v6_38 then (
  if v5_38 = v2 then (
  (f_X9_isProof v4_38 v1 σ).bind fun q7 =>
  if q7 = 0 then (
  (f_X9_worn_107 v1 v2 v4_38 v3_38 σ).map (fun z => .inr (z)))
  else (
  (f_X9_worn_108 v1 v2 v4_38 v3_38 1 σ).map (fun z => .inr (z))))
  else (
  (f_X9_worn_107 v1 v2 v4_38 v3_38 σ).map (fun z => .inr (z))))
  else (
  (f_X9_has v4_38 v6_38).bind fun q8 =>
  if q8 = 0 then (
  f_X9_worn_77 v1 v2 v3_38 v4_38 v6_38 v5_38 0 σ)
  else (
  (ald σ 1 660 ((25 : Int32) + v6_38)).bind fun x11 =>
  f_X9_worn_77 v1 v2 v3_38 v4_38 v6_38 v5_38 ((1 : Int32) <<< (x11 &&& 31)) σ))
def f_X9_worn_38 (v1 : Int32) (v2 : Int32) (v3_38 : Int32) (v4_38 : Int32) (v5_38 : Int32) (v6_38 : Int32) (σ : Sg) : Option ((Int32 × Int32) ⊕ Int32) :=
  itr 3000 (fun s => f_X9_worn_38s v1 v2 v3_38 v4_38 s.1 s.2 σ) (v5_38, v6_38)
def f_X9_worn_23s (v1 : Int32) (v2 : Int32) (v3_23 : Int32) (v4_23 : Int32) (σ : Sg) : Option ((Int32 × Int32) ⊕ Int32) :=
  (f_X9_allSteps σ).bind fun q3 =>
  if q3 < v4_23 then (
  some (.inr (v3_23)))
  else (
  f_X9_worn_38 v1 v2 v3_23 v4_23 0 0 σ)
def f_X9_worn_23 (v1 : Int32) (v2 : Int32) (v3_23 : Int32) (v4_23 : Int32) (σ : Sg) : Option Int32 :=
  itr 3000 (fun s => f_X9_worn_23s v1 v2 s.1 s.2 σ) (v3_23, v4_23)
def f_X9_worn (v1 : Int32) (v2 : Int32) (σ : Sg) : Option Int32 :=
  (f_X9_isStone v1 σ).bind fun q1 =>
  if q1 = 0 then (
  f_X9_worn_16 σ)
  else (
  (f_X9_isSet v2 σ).bind fun q2 =>
  if q2 = 0 then (
  f_X9_worn_16 σ)
  else (
  f_X9_worn_23 v1 v2 0 0 σ))
def f_X9_tell (v1 : Int32) (σ : Sg) : Option (Int32 × Sg) :=
  (f_X9_isStep v1 σ).bind fun q1 =>
  if q1 = 0 then (
  some (((-1), σ)))
  else (
  if (σ.1 0 6) = 12 then (
  some (((-3), σ)))
  else (
  (ast σ 3 12 (σ.1 0 6) v1).bind fun s2 =>
  (pfi s2 0 6 ((s2.1 0 6) + (1 : Int32))).bind fun s3 =>
  some (((s3.1 0 6), s3))))
def f_X9_noRow (σ : Sg) : Option (Int32 × Sg) :=
  nm ((σ.1 0 6)) fun x1 =>
  (pfi σ 0 6 0).bind fun s2 =>
  some ((x1, s2))
def f_X9_judge_9s (v1_9 : Int32) (v2_9 : Int32) (σ : Sg) : Option ((Int32 × Int32) ⊕ Int32) :=
  if (σ.1 0 6) ≤ v2_9 then (
  some (.inr ((-4))))
  else (
  (ald σ 3 12 v2_9).bind fun x2 =>
  (f_X9_mayFrom v1_9 x2 σ).bind fun q3 =>
  if q3 = 0 then (
  some (.inr (v2_9)))
  else (
  (ald σ 3 12 v2_9).bind fun x4 =>
  (ald σ 1 660 ((25 : Int32) + x4)).bind fun x5 =>
  nm ((v1_9 ||| ((1 : Int32) <<< (x5 &&& 31)))) fun x6 =>
  nm (v2_9 + 1) fun x7 =>
  some (.inl (x6, x7))))
def f_X9_judge_9 (v1_9 : Int32) (v2_9 : Int32) (σ : Sg) : Option Int32 :=
  itr 3000 (fun s => f_X9_judge_9s s.1 s.2 σ) (v1_9, v2_9)
def f_X9_judge (σ : Sg) : Option Int32 :=
  (ald σ 1 660 3).bind fun x1 =>
  f_X9_judge_9 x1 0 σ
def f_X9_year_34 (σ : Sg) : Option Int32 :=
  some ((-1))
def f_X9_year_142 (t0_142 : Int32) (σ : Sg) : Option Int32 :=
  some (t0_142)
def f_X9_year_125 (v1 : Int32) (v2 : Int32) (v3 : Int32) (v4_125 : Int32) (v5_125 : Int32) (v6_125 : Int32) (σ : Sg) : Option ((Int32 × Int32 × Int32) ⊕ Int32) :=
  nm (v6_125 + 1) fun x11 =>
  some (.inl (v4_125, v5_125, x11))
def f_X9_year_50s (v1 : Int32) (v2 : Int32) (v3 : Int32) (v4_50 : Int32) (v5_50 : Int32) (v6_50 : Int32) (σ : Sg) : Option ((Int32 × Int32 × Int32) ⊕ Int32) :=
  if v2 ≤ v6_50 then (
  if v3 = 0 then (
  (f_X9_year_142 v5_50 σ).map (fun z => .inr (z)))
  else (
  (f_X9_year_142 v4_50 σ).map (fun z => .inr (z))))
  else (
  nm (((((7919 : Int64) * ((v1 : Int32).toInt64)) + ((6151 : Int64) * ((v6_50 : Int32).toInt64))) + (1 : Int64))) fun x5 =>
  (lrm (x5 * x5) 65521).bind fun x6 =>
  (ald σ 1 660 4).bind fun x7 =>
  (lrm x6 ((x7 : Int32).toInt64)).bind fun x8 =>
  nm (((x8 : Int64).toInt32)) fun x9 =>
  (f_X9_mayFrom v4_50 x9 σ).bind fun q10 =>
  if q10 = 0 then (
  f_X9_year_125 v1 v2 v3 v4_50 v5_50 v6_50 σ)
  else (
  (ald σ 1 660 ((25 : Int32) + x9)).bind fun x12 =>
  nm ((v4_50 ||| ((1 : Int32) <<< (x12 &&& 31)))) fun x13 =>
  nm (v5_50 + 1) fun x14 =>
  f_X9_year_125 v1 v2 v3 x13 x14 v6_50 σ))
def f_X9_year_50 (v1 : Int32) (v2 : Int32) (v3 : Int32) (v4_50 : Int32) (v5_50 : Int32) (v6_50 : Int32) (σ : Sg) : Option Int32 :=
  itr 3000 (fun s => f_X9_year_50s v1 v2 v3 s.1 s.2.1 s.2.2 σ) (v4_50, v5_50, v6_50)
def f_X9_year (v1 : Int32) (v2 : Int32) (v3 : Int32) (σ : Sg) : Option Int32 :=
  (f_X9_in ((v1 : Int32).toInt64) 0 9999).bind fun q1 =>
  if q1 = 0 then (
  f_X9_year_34 σ)
  else (
  (f_X9_in ((v2 : Int32).toInt64) 1 99).bind fun q2 =>
  if q2 = 0 then (
  f_X9_year_34 σ)
  else (
  (f_X9_in ((v3 : Int32).toInt64) 0 1).bind fun q3 =>
  if q3 = 0 then (
  f_X9_year_34 σ)
  else (
  (ald σ 1 660 3).bind fun x4 =>
  f_X9_year_50 v1 v2 v3 x4 0 0 σ)))
def f_X9_keep (σ : Sg) : Option (Int32 × Sg) :=
  if (σ.1 0 1) = 2 then (
  some (((-3), σ)))
  else (
  (f_X9_copy 0 ((55 : Int32) + ((55 : Int32) * (σ.1 0 1))) σ).bind fun q1 =>
  (pfi q1 0 1 ((q1.1 0 1) + (1 : Int32))).bind fun s2 =>
  some (((s2.1 0 1), s2)))
def f_X9_back (σ : Sg) : Option (Int32 × Sg) :=
  if (σ.1 0 1) = 0 then (
  some (((-2), σ)))
  else (
  (pfi σ 0 1 ((σ.1 0 1) - (1 : Int32))).bind fun s1 =>
  (f_X9_copy ((55 : Int32) + ((55 : Int32) * (s1.1 0 1))) 0 s1).bind fun q2 =>
  (pfi q2 0 6 0).bind fun s3 =>
  (pfi s3 0 2 0).bind fun s4 =>
  some (((s4.1 0 1), s4)))
def f_X9_count (v1 : Int32) (σ : Sg) : Option Int32 :=
  if v1 = 0 then (
  (ald σ 1 660 0).bind fun x1 =>
  some (x1))
  else (
  if v1 = 1 then (
  (ald σ 1 660 4).bind fun x2 =>
  some (x2))
  else (
  if v1 = 2 then (
  (ald σ 1 660 2).bind fun x3 =>
  (f_X9_ones x3).bind fun q4 =>
  some (q4))
  else (
  if v1 = 3 then (
  (ald σ 1 660 3).bind fun x5 =>
  (f_X9_ones x5).bind fun q6 =>
  some (q6))
  else (
  if v1 = 4 then (
  some ((σ.1 0 6)))
  else (
  if v1 = 5 then (
  some ((σ.1 0 2)))
  else (
  if v1 = 6 then (
  some ((σ.1 0 1)))
  else (
  if v1 = 7 then (
  some ((σ.1 0 4)))
  else (
  some ((-1))))))))))
end
