section
-- ===== PART A: goes FIRST, ahead of the names: the tables' words, and 'selects' of the private methods out of them =====
/-- a private method of a class that the tables say can be made, by its rows of tables_1 -/
def lw_okq (q : MethodName × Nat) : Prop := (q.1.cls ≠ "java/lang/invoke/MethodHandle" ∧ q.1.cls ≠ "java/lang/invoke/VarHandle") ∧ Cond.instantiable q.1.cls q.2 ∈ tables_1 ∧ Cond.privateMethod q.1 ∈ tables_1 ∧ Cond.instanceMethod q.1 ∈ tables_1
theorem lw_p0 : lw_okq (⟨"NotWorn", "isBirth", "(I)Z"⟩, 12) := ⟨⟨by decide +kernel, by decide +kernel⟩, List.mem_of_getElem? (i := 21) (by decide +kernel), List.mem_of_getElem? (i := 293) (by decide +kernel), List.mem_of_getElem? (i := 294) (by decide +kernel)⟩
theorem lw_p1 : lw_okq (⟨"NotWorn", "isPerson", "(I)Z"⟩, 12) := ⟨⟨by decide +kernel, by decide +kernel⟩, List.mem_of_getElem? (i := 21) (by decide +kernel), List.mem_of_getElem? (i := 307) (by decide +kernel), List.mem_of_getElem? (i := 308) (by decide +kernel)⟩
theorem lw_p2 : lw_okq (⟨"NotWorn", "canBeBorn", "(II)Z"⟩, 12) := ⟨⟨by decide +kernel, by decide +kernel⟩, List.mem_of_getElem? (i := 21) (by decide +kernel), List.mem_of_getElem? (i := 347) (by decide +kernel), List.mem_of_getElem? (i := 348) (by decide +kernel)⟩
theorem lw_p3 : lw_okq (⟨"NotWorn", "canHaveDied", "(II)Z"⟩, 12) := ⟨⟨by decide +kernel, by decide +kernel⟩, List.mem_of_getElem? (i := 21) (by decide +kernel), List.mem_of_getElem? (i := 355) (by decide +kernel), List.mem_of_getElem? (i := 356) (by decide +kernel)⟩
theorem lw_p4 : lw_okq (⟨"NotWorn$Valley", "draw", "()I"⟩, 16) := ⟨⟨by decide +kernel, by decide +kernel⟩, List.mem_of_getElem? (i := 69) (by decide +kernel), List.mem_of_getElem? (i := 408) (by decide +kernel), List.mem_of_getElem? (i := 409) (by decide +kernel)⟩
theorem lw_p5 : lw_okq (⟨"NotWorn$Dealer", "tryFrom", "(LNotWorn$Valley;III)V"⟩, 6) := ⟨⟨by decide +kernel, by decide +kernel⟩, List.mem_of_getElem? (i := 140) (by decide +kernel), List.mem_of_getElem? (i := 472) (by decide +kernel), List.mem_of_getElem? (i := 473) (by decide +kernel)⟩
theorem lw_p6 : lw_okq (⟨"NotWorn$Dealer", "remember", "(LNotWorn$Valley;II)V"⟩, 6) := ⟨⟨by decide +kernel, by decide +kernel⟩, List.mem_of_getElem? (i := 140) (by decide +kernel), List.mem_of_getElem? (i := 476) (by decide +kernel), List.mem_of_getElem? (i := 477) (by decide +kernel)⟩
theorem lw_p7 : lw_okq (⟨"NotWorn$Dealer", "fits", "(LNotWorn$Valley;II)Z"⟩, 6) := ⟨⟨by decide +kernel, by decide +kernel⟩, List.mem_of_getElem? (i := 140) (by decide +kernel), List.mem_of_getElem? (i := 483) (by decide +kernel), List.mem_of_getElem? (i := 484) (by decide +kernel)⟩
theorem lw_p8 : lw_okq (⟨"NotWorn$Valley", "chanceToDie", "(ILNotWorn$Laws;)I"⟩, 16) := ⟨⟨by decide +kernel, by decide +kernel⟩, List.mem_of_getElem? (i := 69) (by decide +kernel), List.mem_of_getElem? (i := 506) (by decide +kernel), List.mem_of_getElem? (i := 507) (by decide +kernel)⟩
theorem lw_p9 : lw_okq (⟨"NotWorn", "isNearGiven", "(II)Z"⟩, 12) := ⟨⟨by decide +kernel, by decide +kernel⟩, List.mem_of_getElem? (i := 21) (by decide +kernel), List.mem_of_getElem? (i := 554) (by decide +kernel), List.mem_of_getElem? (i := 555) (by decide +kernel)⟩
theorem lw_p10 : lw_okq (⟨"NotWorn$Tape", "advance", "()V"⟩, 6) := ⟨⟨by decide +kernel, by decide +kernel⟩, List.mem_of_getElem? (i := 169) (by decide +kernel), List.mem_of_getElem? (i := 583) (by decide +kernel), List.mem_of_getElem? (i := 584) (by decide +kernel)⟩
theorem lw_p11 : lw_okq (⟨"NotWorn$Tape", "keyAtHand", "()I"⟩, 6) := ⟨⟨by decide +kernel, by decide +kernel⟩, List.mem_of_getElem? (i := 169) (by decide +kernel), List.mem_of_getElem? (i := 590) (by decide +kernel), List.mem_of_getElem? (i := 591) (by decide +kernel)⟩
theorem lw_p12 : lw_okq (⟨"NotWorn$Tape", "isKeyWord", "(I)Z"⟩, 6) := ⟨⟨by decide +kernel, by decide +kernel⟩, List.mem_of_getElem? (i := 169) (by decide +kernel), List.mem_of_getElem? (i := 594) (by decide +kernel), List.mem_of_getElem? (i := 595) (by decide +kernel)⟩
theorem lw_p13 : lw_okq (⟨"NotWorn$Tape", "readLevel", "(III)Z"⟩, 6) := ⟨⟨by decide +kernel, by decide +kernel⟩, List.mem_of_getElem? (i := 169) (by decide +kernel), List.mem_of_getElem? (i := 643) (by decide +kernel), List.mem_of_getElem? (i := 644) (by decide +kernel)⟩
theorem lw_p14 : lw_okq (⟨"NotWorn$Tape", "readPiece", "(II)Z"⟩, 6) := ⟨⟨by decide +kernel, by decide +kernel⟩, List.mem_of_getElem? (i := 169) (by decide +kernel), List.mem_of_getElem? (i := 647) (by decide +kernel), List.mem_of_getElem? (i := 648) (by decide +kernel)⟩
theorem lw_p15 : lw_okq (⟨"NotWorn$Tape", "readLeaf", "()Z"⟩, 6) := ⟨⟨by decide +kernel, by decide +kernel⟩, List.mem_of_getElem? (i := 169) (by decide +kernel), List.mem_of_getElem? (i := 651) (by decide +kernel), List.mem_of_getElem? (i := 652) (by decide +kernel)⟩
def lw_privs_1 : List (MethodName × Nat) := [(⟨"NotWorn", "isBirth", "(I)Z"⟩, 12), (⟨"NotWorn", "isPerson", "(I)Z"⟩, 12), (⟨"NotWorn", "canBeBorn", "(II)Z"⟩, 12), (⟨"NotWorn", "canHaveDied", "(II)Z"⟩, 12), (⟨"NotWorn$Valley", "draw", "()I"⟩, 16), (⟨"NotWorn$Dealer", "tryFrom", "(LNotWorn$Valley;III)V"⟩, 6), (⟨"NotWorn$Dealer", "remember", "(LNotWorn$Valley;II)V"⟩, 6), (⟨"NotWorn$Dealer", "fits", "(LNotWorn$Valley;II)Z"⟩, 6), (⟨"NotWorn$Valley", "chanceToDie", "(ILNotWorn$Laws;)I"⟩, 16), (⟨"NotWorn", "isNearGiven", "(II)Z"⟩, 12), (⟨"NotWorn$Tape", "advance", "()V"⟩, 6), (⟨"NotWorn$Tape", "keyAtHand", "()I"⟩, 6), (⟨"NotWorn$Tape", "isKeyWord", "(I)Z"⟩, 6), (⟨"NotWorn$Tape", "readLevel", "(III)Z"⟩, 6), (⟨"NotWorn$Tape", "readPiece", "(II)Z"⟩, 6), (⟨"NotWorn$Tape", "readLeaf", "()Z"⟩, 6)]
theorem lw_r1 : ∀ q ∈ lw_privs_1, lw_okq q := List.forall_mem_cons.mpr ⟨lw_p0, List.forall_mem_cons.mpr ⟨lw_p1, List.forall_mem_cons.mpr ⟨lw_p2, List.forall_mem_cons.mpr ⟨lw_p3, List.forall_mem_cons.mpr ⟨lw_p4, List.forall_mem_cons.mpr ⟨lw_p5, List.forall_mem_cons.mpr ⟨lw_p6, List.forall_mem_cons.mpr ⟨lw_p7, List.forall_mem_cons.mpr ⟨lw_p8, List.forall_mem_cons.mpr ⟨lw_p9, List.forall_mem_cons.mpr ⟨lw_p10, List.forall_mem_cons.mpr ⟨lw_p11, List.forall_mem_cons.mpr ⟨lw_p12, List.forall_mem_cons.mpr ⟨lw_p13, List.forall_mem_cons.mpr ⟨lw_p14, List.forall_mem_cons.mpr ⟨lw_p15, fun _ h => absurd h List.not_mem_nil⟩⟩⟩⟩⟩⟩⟩⟩⟩⟩⟩⟩⟩⟩⟩⟩
theorem lw_p16 : lw_okq (⟨"NotWorn$Tape", "numberAtHand", "()I"⟩, 6) := ⟨⟨by decide +kernel, by decide +kernel⟩, List.mem_of_getElem? (i := 169) (by decide +kernel), List.mem_of_getElem? (i := 655) (by decide +kernel), List.mem_of_getElem? (i := 656) (by decide +kernel)⟩
theorem lw_p17 : lw_okq (⟨"NotWorn$Tape", "nameAtHand", "()I"⟩, 6) := ⟨⟨by decide +kernel, by decide +kernel⟩, List.mem_of_getElem? (i := 169) (by decide +kernel), List.mem_of_getElem? (i := 659) (by decide +kernel), List.mem_of_getElem? (i := 660) (by decide +kernel)⟩
theorem lw_p18 : lw_okq (⟨"NotWorn$Text", "addStep", "(I)V"⟩, 4) := ⟨⟨by decide +kernel, by decide +kernel⟩, List.mem_of_getElem? (i := 36) (by decide +kernel), List.mem_of_getElem? (i := 735) (by decide +kernel), List.mem_of_getElem? (i := 736) (by decide +kernel)⟩
theorem lw_p19 : lw_okq (⟨"NotWorn$Tape", "atHand", "(C)Z"⟩, 6) := ⟨⟨by decide +kernel, by decide +kernel⟩, List.mem_of_getElem? (i := 169) (by decide +kernel), List.mem_of_getElem? (i := 739) (by decide +kernel), List.mem_of_getElem? (i := 740) (by decide +kernel)⟩
theorem lw_p20 : lw_okq (⟨"NotWorn$Tape", "signOfLevel", "(I)Z"⟩, 6) := ⟨⟨by decide +kernel, by decide +kernel⟩, List.mem_of_getElem? (i := 169) (by decide +kernel), List.mem_of_getElem? (i := 747) (by decide +kernel), List.mem_of_getElem? (i := 748) (by decide +kernel)⟩
theorem lw_p21 : lw_okq (⟨"NotWorn$Valley", "findNearWays", "(LNotWorn$Laws;)V"⟩, 16) := ⟨⟨by decide +kernel, by decide +kernel⟩, List.mem_of_getElem? (i := 69) (by decide +kernel), List.mem_of_getElem? (i := 760) (by decide +kernel), List.mem_of_getElem? (i := 761) (by decide +kernel)⟩
theorem lw_p22 : lw_okq (⟨"NotWorn", "isText", "(I)Z"⟩, 12) := ⟨⟨by decide +kernel, by decide +kernel⟩, List.mem_of_getElem? (i := 21) (by decide +kernel), List.mem_of_getElem? (i := 771) (by decide +kernel), List.mem_of_getElem? (i := 772) (by decide +kernel)⟩
theorem lw_p23 : lw_okq (⟨"NotWorn", "waitedAt", "(III)Z"⟩, 12) := ⟨⟨by decide +kernel, by decide +kernel⟩, List.mem_of_getElem? (i := 21) (by decide +kernel), List.mem_of_getElem? (i := 849) (by decide +kernel), List.mem_of_getElem? (i := 850) (by decide +kernel)⟩
theorem lw_p24 : lw_okq (⟨"NotWornModel", "comes", "(III)I"⟩, 38) := ⟨⟨by decide +kernel, by decide +kernel⟩, List.mem_of_getElem? (i := 865) (by decide +kernel), List.mem_of_getElem? (i := 999) (by decide +kernel), List.mem_of_getElem? (i := 1000) (by decide +kernel)⟩
theorem lw_p25 : lw_okq (⟨"NotWornModel", "isOne", "(I)Z"⟩, 38) := ⟨⟨by decide +kernel, by decide +kernel⟩, List.mem_of_getElem? (i := 865) (by decide +kernel), List.mem_of_getElem? (i := 1008) (by decide +kernel), List.mem_of_getElem? (i := 1009) (by decide +kernel)⟩
theorem lw_p26 : lw_okq (⟨"NotWornModel", "of", "(II)I"⟩, 38) := ⟨⟨by decide +kernel, by decide +kernel⟩, List.mem_of_getElem? (i := 865) (by decide +kernel), List.mem_of_getElem? (i := 1012) (by decide +kernel), List.mem_of_getElem? (i := 1013) (by decide +kernel)⟩
theorem lw_p27 : lw_okq (⟨"NotWornModel", "doesHold", "(II)Z"⟩, 38) := ⟨⟨by decide +kernel, by decide +kernel⟩, List.mem_of_getElem? (i := 865) (by decide +kernel), List.mem_of_getElem? (i := 1016) (by decide +kernel), List.mem_of_getElem? (i := 1017) (by decide +kernel)⟩
theorem lw_p28 : lw_okq (⟨"NotWornModel", "isAlive", "(I)Z"⟩, 38) := ⟨⟨by decide +kernel, by decide +kernel⟩, List.mem_of_getElem? (i := 865) (by decide +kernel), List.mem_of_getElem? (i := 1020) (by decide +kernel), List.mem_of_getElem? (i := 1021) (by decide +kernel)⟩
theorem lw_p29 : lw_okq (⟨"NotWornModel", "worthOf", "(I)I"⟩, 38) := ⟨⟨by decide +kernel, by decide +kernel⟩, List.mem_of_getElem? (i := 865) (by decide +kernel), List.mem_of_getElem? (i := 1024) (by decide +kernel), List.mem_of_getElem? (i := 1025) (by decide +kernel)⟩
theorem lw_p30 : lw_okq (⟨"NotWornModel", "becomes", "(II)I"⟩, 38) := ⟨⟨by decide +kernel, by decide +kernel⟩, List.mem_of_getElem? (i := 865) (by decide +kernel), List.mem_of_getElem? (i := 1040) (by decide +kernel), List.mem_of_getElem? (i := 1041) (by decide +kernel)⟩
theorem lw_p31 : lw_okq (⟨"NotWornModel", "findNears", "()V"⟩, 38) := ⟨⟨by decide +kernel, by decide +kernel⟩, List.mem_of_getElem? (i := 865) (by decide +kernel), List.mem_of_getElem? (i := 1067) (by decide +kernel), List.mem_of_getElem? (i := 1068) (by decide +kernel)⟩
def lw_privs_2 : List (MethodName × Nat) := [(⟨"NotWorn$Tape", "numberAtHand", "()I"⟩, 6), (⟨"NotWorn$Tape", "nameAtHand", "()I"⟩, 6), (⟨"NotWorn$Text", "addStep", "(I)V"⟩, 4), (⟨"NotWorn$Tape", "atHand", "(C)Z"⟩, 6), (⟨"NotWorn$Tape", "signOfLevel", "(I)Z"⟩, 6), (⟨"NotWorn$Valley", "findNearWays", "(LNotWorn$Laws;)V"⟩, 16), (⟨"NotWorn", "isText", "(I)Z"⟩, 12), (⟨"NotWorn", "waitedAt", "(III)Z"⟩, 12), (⟨"NotWornModel", "comes", "(III)I"⟩, 38), (⟨"NotWornModel", "isOne", "(I)Z"⟩, 38), (⟨"NotWornModel", "of", "(II)I"⟩, 38), (⟨"NotWornModel", "doesHold", "(II)Z"⟩, 38), (⟨"NotWornModel", "isAlive", "(I)Z"⟩, 38), (⟨"NotWornModel", "worthOf", "(I)I"⟩, 38), (⟨"NotWornModel", "becomes", "(II)I"⟩, 38), (⟨"NotWornModel", "findNears", "()V"⟩, 38)]
theorem lw_r2 : ∀ q ∈ lw_privs_2, lw_okq q := List.forall_mem_cons.mpr ⟨lw_p16, List.forall_mem_cons.mpr ⟨lw_p17, List.forall_mem_cons.mpr ⟨lw_p18, List.forall_mem_cons.mpr ⟨lw_p19, List.forall_mem_cons.mpr ⟨lw_p20, List.forall_mem_cons.mpr ⟨lw_p21, List.forall_mem_cons.mpr ⟨lw_p22, List.forall_mem_cons.mpr ⟨lw_p23, List.forall_mem_cons.mpr ⟨lw_p24, List.forall_mem_cons.mpr ⟨lw_p25, List.forall_mem_cons.mpr ⟨lw_p26, List.forall_mem_cons.mpr ⟨lw_p27, List.forall_mem_cons.mpr ⟨lw_p28, List.forall_mem_cons.mpr ⟨lw_p29, List.forall_mem_cons.mpr ⟨lw_p30, List.forall_mem_cons.mpr ⟨lw_p31, fun _ h => absurd h List.not_mem_nil⟩⟩⟩⟩⟩⟩⟩⟩⟩⟩⟩⟩⟩⟩⟩⟩
theorem lw_p32 : lw_okq (⟨"NotWornModel", "counts", "(I)I"⟩, 38) := ⟨⟨by decide +kernel, by decide +kernel⟩, List.mem_of_getElem? (i := 865) (by decide +kernel), List.mem_of_getElem? (i := 1071) (by decide +kernel), List.mem_of_getElem? (i := 1072) (by decide +kernel)⟩
theorem lw_p33 : lw_okq (⟨"NotWornModel", "worksOut", "(I)I"⟩, 38) := ⟨⟨by decide +kernel, by decide +kernel⟩, List.mem_of_getElem? (i := 865) (by decide +kernel), List.mem_of_getElem? (i := 1075) (by decide +kernel), List.mem_of_getElem? (i := 1076) (by decide +kernel)⟩
theorem lw_p34 : lw_okq (⟨"NotWornModel", "areNear", "(II)Z"⟩, 38) := ⟨⟨by decide +kernel, by decide +kernel⟩, List.mem_of_getElem? (i := 865) (by decide +kernel), List.mem_of_getElem? (i := 1082) (by decide +kernel), List.mem_of_getElem? (i := 1083) (by decide +kernel)⟩
theorem lw_p35 : lw_okq (⟨"NotWornModel", "draw", "()I"⟩, 38) := ⟨⟨by decide +kernel, by decide +kernel⟩, List.mem_of_getElem? (i := 865) (by decide +kernel), List.mem_of_getElem? (i := 1094) (by decide +kernel), List.mem_of_getElem? (i := 1095) (by decide +kernel)⟩
theorem lw_p36 : lw_okq (⟨"NotWornModel", "isFree", "(II)Z"⟩, 38) := ⟨⟨by decide +kernel, by decide +kernel⟩, List.mem_of_getElem? (i := 865) (by decide +kernel), List.mem_of_getElem? (i := 1107) (by decide +kernel), List.mem_of_getElem? (i := 1108) (by decide +kernel)⟩
theorem lw_p37 : lw_okq (⟨"NotWornModel", "freeMany", "()I"⟩, 38) := ⟨⟨by decide +kernel, by decide +kernel⟩, List.mem_of_getElem? (i := 865) (by decide +kernel), List.mem_of_getElem? (i := 1115) (by decide +kernel), List.mem_of_getElem? (i := 1116) (by decide +kernel)⟩
theorem lw_p38 : lw_okq (⟨"NotWornModel", "leastFree", "()I"⟩, 38) := ⟨⟨by decide +kernel, by decide +kernel⟩, List.mem_of_getElem? (i := 865) (by decide +kernel), List.mem_of_getElem? (i := 1119) (by decide +kernel), List.mem_of_getElem? (i := 1120) (by decide +kernel)⟩
theorem lw_p39 : lw_okq (⟨"NotWornModel", "findDealing", "()V"⟩, 38) := ⟨⟨by decide +kernel, by decide +kernel⟩, List.mem_of_getElem? (i := 865) (by decide +kernel), List.mem_of_getElem? (i := 1139) (by decide +kernel), List.mem_of_getElem? (i := 1140) (by decide +kernel)⟩
theorem lw_p40 : lw_okq (⟨"NotWornModel", "deals", "(III)V"⟩, 38) := ⟨⟨by decide +kernel, by decide +kernel⟩, List.mem_of_getElem? (i := 865) (by decide +kernel), List.mem_of_getElem? (i := 1143) (by decide +kernel), List.mem_of_getElem? (i := 1144) (by decide +kernel)⟩
theorem lw_p41 : lw_okq (⟨"NotWornModel", "mayHave", "(II)Z"⟩, 38) := ⟨⟨by decide +kernel, by decide +kernel⟩, List.mem_of_getElem? (i := 865) (by decide +kernel), List.mem_of_getElem? (i := 1147) (by decide +kernel), List.mem_of_getElem? (i := 1148) (by decide +kernel)⟩
theorem lw_p42 : lw_okq (⟨"NotWornModel", "year", "()I"⟩, 38) := ⟨⟨by decide +kernel, by decide +kernel⟩, List.mem_of_getElem? (i := 865) (by decide +kernel), List.mem_of_getElem? (i := 1163) (by decide +kernel), List.mem_of_getElem? (i := 1164) (by decide +kernel)⟩
theorem lw_p43 : lw_okq (⟨"NotWornModel", "diesBy", "(I)I"⟩, 38) := ⟨⟨by decide +kernel, by decide +kernel⟩, List.mem_of_getElem? (i := 865) (by decide +kernel), List.mem_of_getElem? (i := 1167) (by decide +kernel), List.mem_of_getElem? (i := 1168) (by decide +kernel)⟩
theorem lw_p44 : lw_okq (⟨"NotWornModel", "thinks", "()V"⟩, 38) := ⟨⟨by decide +kernel, by decide +kernel⟩, List.mem_of_getElem? (i := 865) (by decide +kernel), List.mem_of_getElem? (i := 1178) (by decide +kernel), List.mem_of_getElem? (i := 1179) (by decide +kernel)⟩
theorem lw_p45 : lw_okq (⟨"NotWornModel", "aliveMany", "()I"⟩, 38) := ⟨⟨by decide +kernel, by decide +kernel⟩, List.mem_of_getElem? (i := 865) (by decide +kernel), List.mem_of_getElem? (i := 1182) (by decide +kernel), List.mem_of_getElem? (i := 1183) (by decide +kernel)⟩
theorem lw_p46 : lw_okq (⟨"NotWornModel", "putsBack", "()V"⟩, 38) := ⟨⟨by decide +kernel, by decide +kernel⟩, List.mem_of_getElem? (i := 865) (by decide +kernel), List.mem_of_getElem? (i := 1186) (by decide +kernel), List.mem_of_getElem? (i := 1187) (by decide +kernel)⟩
theorem lw_p47 : lw_okq (⟨"NotWornModel", "isNearEarlier", "(II)Z"⟩, 38) := ⟨⟨by decide +kernel, by decide +kernel⟩, List.mem_of_getElem? (i := 865) (by decide +kernel), List.mem_of_getElem? (i := 1206) (by decide +kernel), List.mem_of_getElem? (i := 1207) (by decide +kernel)⟩
def lw_privs_3 : List (MethodName × Nat) := [(⟨"NotWornModel", "counts", "(I)I"⟩, 38), (⟨"NotWornModel", "worksOut", "(I)I"⟩, 38), (⟨"NotWornModel", "areNear", "(II)Z"⟩, 38), (⟨"NotWornModel", "draw", "()I"⟩, 38), (⟨"NotWornModel", "isFree", "(II)Z"⟩, 38), (⟨"NotWornModel", "freeMany", "()I"⟩, 38), (⟨"NotWornModel", "leastFree", "()I"⟩, 38), (⟨"NotWornModel", "findDealing", "()V"⟩, 38), (⟨"NotWornModel", "deals", "(III)V"⟩, 38), (⟨"NotWornModel", "mayHave", "(II)Z"⟩, 38), (⟨"NotWornModel", "year", "()I"⟩, 38), (⟨"NotWornModel", "diesBy", "(I)I"⟩, 38), (⟨"NotWornModel", "thinks", "()V"⟩, 38), (⟨"NotWornModel", "aliveMany", "()I"⟩, 38), (⟨"NotWornModel", "putsBack", "()V"⟩, 38), (⟨"NotWornModel", "isNearEarlier", "(II)Z"⟩, 38)]
theorem lw_r3 : ∀ q ∈ lw_privs_3, lw_okq q := List.forall_mem_cons.mpr ⟨lw_p32, List.forall_mem_cons.mpr ⟨lw_p33, List.forall_mem_cons.mpr ⟨lw_p34, List.forall_mem_cons.mpr ⟨lw_p35, List.forall_mem_cons.mpr ⟨lw_p36, List.forall_mem_cons.mpr ⟨lw_p37, List.forall_mem_cons.mpr ⟨lw_p38, List.forall_mem_cons.mpr ⟨lw_p39, List.forall_mem_cons.mpr ⟨lw_p40, List.forall_mem_cons.mpr ⟨lw_p41, List.forall_mem_cons.mpr ⟨lw_p42, List.forall_mem_cons.mpr ⟨lw_p43, List.forall_mem_cons.mpr ⟨lw_p44, List.forall_mem_cons.mpr ⟨lw_p45, List.forall_mem_cons.mpr ⟨lw_p46, List.forall_mem_cons.mpr ⟨lw_p47, fun _ h => absurd h List.not_mem_nil⟩⟩⟩⟩⟩⟩⟩⟩⟩⟩⟩⟩⟩⟩⟩⟩
theorem lw_p48 : lw_okq (⟨"NotWornModel", "go", "()V"⟩, 38) := ⟨⟨by decide +kernel, by decide +kernel⟩, List.mem_of_getElem? (i := 865) (by decide +kernel), List.mem_of_getElem? (i := 1226) (by decide +kernel), List.mem_of_getElem? (i := 1227) (by decide +kernel)⟩
theorem lw_p49 : lw_okq (⟨"NotWornModel", "isLetter", "(I)Z"⟩, 38) := ⟨⟨by decide +kernel, by decide +kernel⟩, List.mem_of_getElem? (i := 865) (by decide +kernel), List.mem_of_getElem? (i := 1230) (by decide +kernel), List.mem_of_getElem? (i := 1231) (by decide +kernel)⟩
theorem lw_p50 : lw_okq (⟨"NotWornModel", "isFigure", "(I)Z"⟩, 38) := ⟨⟨by decide +kernel, by decide +kernel⟩, List.mem_of_getElem? (i := 865) (by decide +kernel), List.mem_of_getElem? (i := 1234) (by decide +kernel), List.mem_of_getElem? (i := 1235) (by decide +kernel)⟩
theorem lw_p51 : lw_okq (⟨"NotWornModel", "takesKey", "()Z"⟩, 38) := ⟨⟨by decide +kernel, by decide +kernel⟩, List.mem_of_getElem? (i := 865) (by decide +kernel), List.mem_of_getElem? (i := 1238) (by decide +kernel), List.mem_of_getElem? (i := 1239) (by decide +kernel)⟩
theorem lw_p52 : lw_okq (⟨"NotWornModel", "takesE", "()Z"⟩, 38) := ⟨⟨by decide +kernel, by decide +kernel⟩, List.mem_of_getElem? (i := 865) (by decide +kernel), List.mem_of_getElem? (i := 1242) (by decide +kernel), List.mem_of_getElem? (i := 1243) (by decide +kernel)⟩
theorem lw_p53 : lw_okq (⟨"NotWornModel", "takesPart", "()Z"⟩, 38) := ⟨⟨by decide +kernel, by decide +kernel⟩, List.mem_of_getElem? (i := 865) (by decide +kernel), List.mem_of_getElem? (i := 1246) (by decide +kernel), List.mem_of_getElem? (i := 1247) (by decide +kernel)⟩
theorem lw_p54 : lw_okq (⟨"NotWornModel", "nameOf", "(I)I"⟩, 38) := ⟨⟨by decide +kernel, by decide +kernel⟩, List.mem_of_getElem? (i := 865) (by decide +kernel), List.mem_of_getElem? (i := 1250) (by decide +kernel), List.mem_of_getElem? (i := 1251) (by decide +kernel)⟩
theorem lw_p55 : lw_okq (⟨"NotWornModel", "settle", "(I)V"⟩, 38) := ⟨⟨by decide +kernel, by decide +kernel⟩, List.mem_of_getElem? (i := 865) (by decide +kernel), List.mem_of_getElem? (i := 1254) (by decide +kernel), List.mem_of_getElem? (i := 1255) (by decide +kernel)⟩
theorem lw_p56 : lw_okq (⟨"NotWornModel", "notsOpen", "()I"⟩, 38) := ⟨⟨by decide +kernel, by decide +kernel⟩, List.mem_of_getElem? (i := 865) (by decide +kernel), List.mem_of_getElem? (i := 1261) (by decide +kernel), List.mem_of_getElem? (i := 1262) (by decide +kernel)⟩
theorem lw_p57 : lw_okq (⟨"NotWornModel", "signHere", "()I"⟩, 38) := ⟨⟨by decide +kernel, by decide +kernel⟩, List.mem_of_getElem? (i := 865) (by decide +kernel), List.mem_of_getElem? (i := 1265) (by decide +kernel), List.mem_of_getElem? (i := 1266) (by decide +kernel)⟩
def lw_privs_4 : List (MethodName × Nat) := [(⟨"NotWornModel", "go", "()V"⟩, 38), (⟨"NotWornModel", "isLetter", "(I)Z"⟩, 38), (⟨"NotWornModel", "isFigure", "(I)Z"⟩, 38), (⟨"NotWornModel", "takesKey", "()Z"⟩, 38), (⟨"NotWornModel", "takesE", "()Z"⟩, 38), (⟨"NotWornModel", "takesPart", "()Z"⟩, 38), (⟨"NotWornModel", "nameOf", "(I)I"⟩, 38), (⟨"NotWornModel", "settle", "(I)V"⟩, 38), (⟨"NotWornModel", "notsOpen", "()I"⟩, 38), (⟨"NotWornModel", "signHere", "()I"⟩, 38)]
theorem lw_r4 : ∀ q ∈ lw_privs_4, lw_okq q := List.forall_mem_cons.mpr ⟨lw_p48, List.forall_mem_cons.mpr ⟨lw_p49, List.forall_mem_cons.mpr ⟨lw_p50, List.forall_mem_cons.mpr ⟨lw_p51, List.forall_mem_cons.mpr ⟨lw_p52, List.forall_mem_cons.mpr ⟨lw_p53, List.forall_mem_cons.mpr ⟨lw_p54, List.forall_mem_cons.mpr ⟨lw_p55, List.forall_mem_cons.mpr ⟨lw_p56, List.forall_mem_cons.mpr ⟨lw_p57, fun _ h => absurd h List.not_mem_nil⟩⟩⟩⟩⟩⟩⟩⟩⟩⟩
def lw_privs : List (MethodName × Nat) := lw_privs_1 ++ (lw_privs_2 ++ (lw_privs_3 ++ (lw_privs_4)))
def lw_tbl : List Cond := k2_sels lw_privs ++ tables_1
theorem lw_privs_ok : ∀ q ∈ lw_privs, lw_okq q := by
  show ∀ q ∈ lw_privs_1 ++ (lw_privs_2 ++ (lw_privs_3 ++ (lw_privs_4))), lw_okq q
  exact List.forall_mem_append.mpr ⟨lw_r1, List.forall_mem_append.mpr ⟨lw_r2, List.forall_mem_append.mpr ⟨lw_r3, lw_r4⟩⟩⟩
-- ===== end of PART A; then your names; then what follows =====
end
section
/-! names, fields, words: by gen_names.py -/
def TB : List Cond := lw_tbl.filter goodWord
theorem memTB (ws : List Cond) (ps : List Nat) (hl : ws.length = ps.length) (h : (ws.zip ps).all (fun q => decide (lw_tbl[q.2]? = some q.1) && goodWord q.1) = true) : ∀ w ∈ ws, w ∈ TB := by
  intro w hw
  obtain ⟨i, hi⟩ := List.getElem?_of_mem hw
  have hil : i < ws.length := (List.getElem?_eq_some_iff.mp hi).1
  have hip : i < ps.length := hl ▸ hil
  have h1 := List.all_eq_true.mp h (w, ps[i]) (List.mem_of_getElem? (i := i) (by rw [List.getElem?_zip_eq_some]; exact ⟨hi, List.getElem?_eq_getElem hip⟩))
  simp only [Bool.and_eq_true, decide_eq_true_eq] at h1
  exact List.mem_filter.mpr ⟨List.mem_of_getElem? h1.1, h1.2⟩
theorem goodTB {w : Cond} (h : w ∈ TB) : goodWord w = true := (List.mem_filter.mp h).2
theorem TB_tbl {w : Cond} (h : w ∈ TB) : w ∈ lw_tbl := (List.mem_filter.mp h).1
def FT0 : u_T := fun k => match k with
  | 0 => ("NotWorn$Dealer", "best", "[I", true)
  | 1 => ("NotWorn$Dealer", "bestGiven", "I", false)
  | 2 => ("NotWorn$Dealer", "bestFirsts", "I", false)
  | 3 => ("NotWorn$Dealer", "tried", "[I", true)
  | 4 => ("NotWorn$Dealer", "firstClear", "[Z", true)
  | _ => ("NotWorn$Dealer", "secondClear", "[Z", true)
def FT1 : u_T := fun k => match k with
  | 0 => ("NotWorn$Laws", "texts", "[LNotWorn$Text;", true)
  | _ => ("NotWorn$Laws", "stack", "[I", true)
def FT2 : u_T := fun k => match k with
  | 0 => ("NotWorn$Row", "sort", "I", false)
  | 1 => ("NotWorn$Row", "size", "I", false)
  | _ => ("NotWorn$Row", "cells", "[I", true)
def FT3 : u_T := fun k => match k with
  | 0 => ("NotWorn$Slot", "thing", "I", false)
  | 1 => ("NotWorn$Slot", "kind", "I", false)
  | 2 => ("NotWorn$Slot", "name", "I", false)
  | 3 => ("NotWorn$Slot", "number", "I", false)
  | _ => ("NotWorn$Slot", "row", "LNotWorn$Row;", true)
def FT4 : u_T := fun k => match k with
  | 0 => ("NotWorn$Tape", "bytes", "[I", true)
  | 1 => ("NotWorn$Tape", "length", "I", false)
  | 2 => ("NotWorn$Tape", "start", "I", false)
  | 3 => ("NotWorn$Tape", "over", "I", false)
  | 4 => ("NotWorn$Tape", "sort", "I", false)
  | _ => ("NotWorn$Tape", "draft", "LNotWorn$Text;", true)
def FT5 : u_T := fun k => match k with
  | 0 => ("NotWorn$Text", "key", "I", false)
  | 1 => ("NotWorn$Text", "leaves", "I", false)
  | 2 => ("NotWorn$Text", "length", "I", false)
  | _ => ("NotWorn$Text", "steps", "[I", true)
def FT6 : u_T := fun k => match k with
  | 0 => ("NotWorn$Valley", "kinds", "[I", true)
  | 1 => ("NotWorn$Valley", "names", "[I", true)
  | 2 => ("NotWorn$Valley", "births", "[I", true)
  | 3 => ("NotWorn$Valley", "deaths", "[I", true)
  | 4 => ("NotWorn$Valley", "people", "I", false)
  | 5 => ("NotWorn$Valley", "firsts", "[I", true)
  | 6 => ("NotWorn$Valley", "seconds", "[I", true)
  | 7 => ("NotWorn$Valley", "children", "I", false)
  | 8 => ("NotWorn$Valley", "term", "I", false)
  | 9 => ("NotWorn$Valley", "year", "I", false)
  | 10 => ("NotWorn$Valley", "z", "I", false)
  | 11 => ("NotWorn$Valley", "texts", "I", false)
  | 12 => ("NotWorn$Valley", "counting", "[I", true)
  | 13 => ("NotWorn$Valley", "nearWays", "I", false)
  | 14 => ("NotWorn$Valley", "held", "[I", true)
  | _ => ("NotWorn$Valley", "holders", "I", false)
def FT7 : u_T := fun k => match k with
  | 0 => ("NotWorn", "laws", "LNotWorn$Laws;", true)
  | 1 => ("NotWorn", "now", "LNotWorn$Valley;", true)
  | 2 => ("NotWorn", "image", "LNotWorn$Valley;", true)
  | 3 => ("NotWorn", "thought", "LNotWorn$Valley;", true)
  | 4 => ("NotWorn", "imageKept", "Z", false)
  | 5 => ("NotWorn", "dealer", "LNotWorn$Dealer;", true)
  | 6 => ("NotWorn", "tape", "LNotWorn$Tape;", true)
  | 7 => ("NotWorn", "sheets", "[LNotWorn$Row;", true)
  | 8 => ("NotWorn", "slots", "[LNotWorn$Slot;", true)
  | 9 => ("NotWorn", "waiting", "[I", true)
  | 10 => ("NotWorn", "waits", "I", false)
  | _ => ("NotWorn", "lineNames", "[I", true)
def FT8 : u_T := fun k => match k with
  | 0 => ("NotWornModel", "now", "[I", true)
  | 1 => ("NotWornModel", "image", "[I", true)
  | 2 => ("NotWornModel", "aside", "[I", true)
  | 3 => ("NotWornModel", "hasImage", "Z", false)
  | 4 => ("NotWornModel", "nears", "[Z", true)
  | 5 => ("NotWornModel", "given", "[I", true)
  | 6 => ("NotWornModel", "best", "[I", true)
  | 7 => ("NotWornModel", "bestMany", "I", false)
  | 8 => ("NotWornModel", "bestFirst", "I", false)
  | 9 => ("NotWornModel", "before", "[I", true)
  | 10 => ("NotWornModel", "tape", "[I", true)
  | 11 => ("NotWornModel", "taped", "I", false)
  | 12 => ("NotWornModel", "next", "I", false)
  | 13 => ("NotWornModel", "from", "I", false)
  | 14 => ("NotWornModel", "token", "I", false)
  | 15 => ("NotWornModel", "value", "I", false)
  | 16 => ("NotWornModel", "ended", "I", false)
  | 17 => ("NotWornModel", "key", "I", false)
  | 18 => ("NotWornModel", "keys", "[C", true)
  | 19 => ("NotWornModel", "keyAt", "[I", true)
  | 20 => ("NotWornModel", "code", "[I", true)
  | 21 => ("NotWornModel", "codes", "I", false)
  | 22 => ("NotWornModel", "atoms", "I", false)
  | 23 => ("NotWornModel", "waits", "[I", true)
  | 24 => ("NotWornModel", "held", "I", false)
  | 25 => ("NotWornModel", "tested", "[Z", true)
  | 26 => ("NotWornModel", "stack", "[I", true)
  | 27 => ("NotWornModel", "facts", "[I", true)
  | 28 => ("NotWornModel", "sorts", "[I", true)
  | 29 => ("NotWornModel", "sizes", "[I", true)
  | 30 => ("NotWornModel", "cells", "[I", true)
  | 31 => ("NotWornModel", "slots", "[I", true)
  | 32 => ("NotWornModel", "holdsA", "[I", true)
  | 33 => ("NotWornModel", "holdsB", "[I", true)
  | 34 => ("NotWornModel", "heldCells", "[I", true)
  | 35 => ("NotWornModel", "moved", "[I", true)
  | 36 => ("NotWornModel", "tells", "[I", true)
  | _ => ("NotWornModel", "waiting", "I", false)
def classes : List vw_C := [("NotWorn$Dealer", FT0, 6), ("NotWorn$Laws", FT1, 2), ("NotWorn$Row", FT2, 3), ("NotWorn$Slot", FT3, 5), ("NotWorn$Tape", FT4, 6), ("NotWorn$Text", FT5, 4), ("NotWorn$Valley", FT6, 16), ("NotWorn", FT7, 12), ("NotWornModel", FT8, 38)]
def ft0 : Nat → FieldType := fun k => match k with
  | 0 => .array (.int)
  | 1 => .int
  | 2 => .int
  | 3 => .array (.int)
  | 4 => .array (.boolean)
  | _ => .array (.boolean)
theorem ft0_ok : ∀ k, k < 6 → parseFieldDescriptor (FT0 k).2.2.1 = some (ft0 k) := by decide +kernel
theorem fn0_ok : ∀ a, a < 6 → ∀ b, b < 6 → a ≠ b → (FT0 a).2.1 ≠ (FT0 b).2.1 := by decide +kernel
theorem fw0_ok : ∀ w ∈ u_ws "NotWorn$Dealer" FT0 6, w ∈ TB := memTB _ [212, 214, 216, 218, 220, 222] (by decide +kernel) (by decide +kernel)
def ft1 : Nat → FieldType := fun k => match k with
  | 0 => .array (.object "NotWorn$Text")
  | _ => .array (.int)
theorem ft1_ok : ∀ k, k < 2 → parseFieldDescriptor (FT1 k).2.2.1 = some (ft1 k) := by decide +kernel
theorem fn1_ok : ∀ a, a < 2 → ∀ b, b < 2 → a ≠ b → (FT1 a).2.1 ≠ (FT1 b).2.1 := by decide +kernel
theorem fw1_ok : ∀ w ∈ u_ws "NotWorn$Laws" FT1 2, w ∈ TB := memTB _ [121, 123] (by decide +kernel) (by decide +kernel)
def ft2 : Nat → FieldType := fun k => match k with
  | 0 => .int
  | 1 => .int
  | _ => .array (.int)
theorem ft2_ok : ∀ k, k < 3 → parseFieldDescriptor (FT2 k).2.2.1 = some (ft2 k) := by decide +kernel
theorem fn2_ok : ∀ a, a < 3 → ∀ b, b < 3 → a ≠ b → (FT2 a).2.1 ≠ (FT2 b).2.1 := by decide +kernel
theorem fw2_ok : ∀ w ∈ u_ws "NotWorn$Row" FT2 3, w ∈ TB := memTB _ [271, 273, 275] (by decide +kernel) (by decide +kernel)
def ft3 : Nat → FieldType := fun k => match k with
  | 0 => .int
  | 1 => .int
  | 2 => .int
  | 3 => .int
  | _ => .object "NotWorn$Row"
theorem ft3_ok : ∀ k, k < 5 → parseFieldDescriptor (FT3 k).2.2.1 = some (ft3 k) := by decide +kernel
theorem fn3_ok : ∀ a, a < 5 → ∀ b, b < 5 → a ≠ b → (FT3 a).2.1 ≠ (FT3 b).2.1 := by decide +kernel
theorem fw3_ok : ∀ w ∈ u_ws "NotWorn$Slot" FT3 5, w ∈ TB := memTB _ [292, 294, 296, 298, 300] (by decide +kernel) (by decide +kernel)
def ft4 : Nat → FieldType := fun k => match k with
  | 0 => .array (.int)
  | 1 => .int
  | 2 => .int
  | 3 => .int
  | 4 => .int
  | _ => .object "NotWorn$Text"
theorem ft4_ok : ∀ k, k < 6 → parseFieldDescriptor (FT4 k).2.2.1 = some (ft4 k) := by decide +kernel
theorem fn4_ok : ∀ a, a < 6 → ∀ b, b < 6 → a ≠ b → (FT4 a).2.1 ≠ (FT4 b).2.1 := by decide +kernel
theorem fw4_ok : ∀ w ∈ u_ws "NotWorn$Tape" FT4 6, w ∈ TB := memTB _ [243, 245, 247, 249, 251, 253] (by decide +kernel) (by decide +kernel)
def ft5 : Nat → FieldType := fun k => match k with
  | 0 => .int
  | 1 => .int
  | 2 => .int
  | _ => .array (.int)
theorem ft5_ok : ∀ k, k < 4 → parseFieldDescriptor (FT5 k).2.2.1 = some (ft5 k) := by decide +kernel
theorem fn5_ok : ∀ a, a < 4 → ∀ b, b < 4 → a ≠ b → (FT5 a).2.1 ≠ (FT5 b).2.1 := by decide +kernel
theorem fw5_ok : ∀ w ∈ u_ws "NotWorn$Text" FT5 4, w ∈ TB := memTB _ [108, 110, 112, 114] (by decide +kernel) (by decide +kernel)
def ft6 : Nat → FieldType := fun k => match k with
  | 0 => .array (.int)
  | 1 => .array (.int)
  | 2 => .array (.int)
  | 3 => .array (.int)
  | 4 => .int
  | 5 => .array (.int)
  | 6 => .array (.int)
  | 7 => .int
  | 8 => .int
  | 9 => .int
  | 10 => .int
  | 11 => .int
  | 12 => .array (.int)
  | 13 => .int
  | 14 => .array (.int)
  | _ => .int
theorem ft6_ok : ∀ k, k < 16 → parseFieldDescriptor (FT6 k).2.2.1 = some (ft6 k) := by decide +kernel
theorem fn6_ok : ∀ a, a < 16 → ∀ b, b < 16 → a ≠ b → (FT6 a).2.1 ≠ (FT6 b).2.1 := by decide +kernel
theorem fw6_ok : ∀ w ∈ u_ws "NotWorn$Valley" FT6 16, w ∈ TB := memTB _ [164, 166, 168, 170, 172, 174, 176, 178, 180, 182, 184, 186, 188, 190, 192, 194] (by decide +kernel) (by decide +kernel)
def ft7 : Nat → FieldType := fun k => match k with
  | 0 => .object "NotWorn$Laws"
  | 1 => .object "NotWorn$Valley"
  | 2 => .object "NotWorn$Valley"
  | 3 => .object "NotWorn$Valley"
  | 4 => .boolean
  | 5 => .object "NotWorn$Dealer"
  | 6 => .object "NotWorn$Tape"
  | 7 => .array (.object "NotWorn$Row")
  | 8 => .array (.object "NotWorn$Slot")
  | 9 => .array (.int)
  | 10 => .int
  | _ => .array (.int)
theorem ft7_ok : ∀ k, k < 12 → parseFieldDescriptor (FT7 k).2.2.1 = some (ft7 k) := by decide +kernel
theorem fn7_ok : ∀ a, a < 12 → ∀ b, b < 12 → a ≠ b → (FT7 a).2.1 ≠ (FT7 b).2.1 := by decide +kernel
theorem fw7_ok : ∀ w ∈ u_ws "NotWorn" FT7 12, w ∈ TB := memTB _ [315, 317, 319, 321, 323, 325, 327, 329, 331, 333, 335, 337] (by decide +kernel) (by decide +kernel)
def ft8 : Nat → FieldType := fun k => match k with
  | 0 => .array (.int)
  | 1 => .array (.int)
  | 2 => .array (.int)
  | 3 => .boolean
  | 4 => .array (.boolean)
  | 5 => .array (.int)
  | 6 => .array (.int)
  | 7 => .int
  | 8 => .int
  | 9 => .array (.int)
  | 10 => .array (.int)
  | 11 => .int
  | 12 => .int
  | 13 => .int
  | 14 => .int
  | 15 => .int
  | 16 => .int
  | 17 => .int
  | 18 => .array (.char)
  | 19 => .array (.int)
  | 20 => .array (.int)
  | 21 => .int
  | 22 => .int
  | 23 => .array (.int)
  | 24 => .int
  | 25 => .array (.boolean)
  | 26 => .array (.int)
  | 27 => .array (.int)
  | 28 => .array (.int)
  | 29 => .array (.int)
  | 30 => .array (.int)
  | 31 => .array (.int)
  | 32 => .array (.int)
  | 33 => .array (.int)
  | 34 => .array (.int)
  | 35 => .array (.int)
  | 36 => .array (.int)
  | _ => .int
theorem ft8_ok : ∀ k, k < 38 → parseFieldDescriptor (FT8 k).2.2.1 = some (ft8 k) := by decide +kernel
theorem fn8_ok : ∀ a, a < 38 → ∀ b, b < 38 → a ≠ b → (FT8 a).2.1 ≠ (FT8 b).2.1 := by decide +kernel
theorem fw8_ok : ∀ w ∈ u_ws "NotWornModel" FT8 38, w ∈ TB := memTB _ [966, 968, 970, 972, 974, 976, 978, 980, 982, 984, 986, 988, 990, 992, 994, 996, 998, 1000, 1002, 1004, 1006, 1008, 1010, 1012, 1014, 1016, 1018, 1020, 1022, 1024, 1026, 1028, 1030, 1032, 1034, 1036, 1038, 1040] (by decide +kernel) (by decide +kernel)
/-- what is known of every class of the world -/
def CLok (q : vw_C) : Prop := (∀ w ∈ u_ws q.1 q.2.1 q.2.2, w ∈ TB) ∧ (∃ ty0 : Nat → FieldType, ∀ k, k < q.2.2 → parseFieldDescriptor (q.2.1 k).2.2.1 = some (ty0 k)) ∧ (∀ a, a < q.2.2 → ∀ b, b < q.2.2 → a ≠ b → (q.2.1 a).2.1 ≠ (q.2.1 b).2.1) ∧ (∀ k, (q.2.1 k).1 = q.1)
theorem cl0_ok : CLok ("NotWorn$Dealer", FT0, 6) := ⟨fw0_ok, ⟨ft0, ft0_ok⟩, fn0_ok, fun k => by show (FT0 k).1 = _; unfold FT0; split <;> rfl⟩
theorem cl1_ok : CLok ("NotWorn$Laws", FT1, 2) := ⟨fw1_ok, ⟨ft1, ft1_ok⟩, fn1_ok, fun k => by show (FT1 k).1 = _; unfold FT1; split <;> rfl⟩
theorem cl2_ok : CLok ("NotWorn$Row", FT2, 3) := ⟨fw2_ok, ⟨ft2, ft2_ok⟩, fn2_ok, fun k => by show (FT2 k).1 = _; unfold FT2; split <;> rfl⟩
theorem cl3_ok : CLok ("NotWorn$Slot", FT3, 5) := ⟨fw3_ok, ⟨ft3, ft3_ok⟩, fn3_ok, fun k => by show (FT3 k).1 = _; unfold FT3; split <;> rfl⟩
theorem cl4_ok : CLok ("NotWorn$Tape", FT4, 6) := ⟨fw4_ok, ⟨ft4, ft4_ok⟩, fn4_ok, fun k => by show (FT4 k).1 = _; unfold FT4; split <;> rfl⟩
theorem cl5_ok : CLok ("NotWorn$Text", FT5, 4) := ⟨fw5_ok, ⟨ft5, ft5_ok⟩, fn5_ok, fun k => by show (FT5 k).1 = _; unfold FT5; split <;> rfl⟩
theorem cl6_ok : CLok ("NotWorn$Valley", FT6, 16) := ⟨fw6_ok, ⟨ft6, ft6_ok⟩, fn6_ok, fun k => by show (FT6 k).1 = _; unfold FT6; split <;> rfl⟩
theorem cl7_ok : CLok ("NotWorn", FT7, 12) := ⟨fw7_ok, ⟨ft7, ft7_ok⟩, fn7_ok, fun k => by show (FT7 k).1 = _; unfold FT7; split <;> rfl⟩
theorem cl8_ok : CLok ("NotWornModel", FT8, 38) := ⟨fw8_ok, ⟨ft8, ft8_ok⟩, fn8_ok, fun k => by show (FT8 k).1 = _; unfold FT8; split <;> rfl⟩
theorem cl_ok : ∀ q ∈ classes, CLok q := by
  intro q hq
  simp only [classes, List.mem_cons, List.not_mem_nil, or_false] at hq
  rcases hq with rfl | rfl | rfl | rfl | rfl | rfl | rfl | rfl | rfl
  · exact cl0_ok
  · exact cl1_ok
  · exact cl2_ok
  · exact cl3_ok
  · exact cl4_ok
  · exact cl5_ok
  · exact cl6_ok
  · exact cl7_ok
  · exact cl8_ok
/-- the field that the entry of a class file names -/
def FLc (own : String) (q : Nat × Nat × Nat) : Cond := .fieldLink own q.1 ((classes.getD q.2.1 ("", FT0, 0)).2.1 q.2.2).1 ((classes.getD q.2.1 ("", FT0, 0)).2.1 q.2.2).2.1 ((classes.getD q.2.1 ("", FT0, 0)).2.1 q.2.2).2.2.1
def FLok (own : String) (fl : List (Nat × Nat × Nat)) : Prop := ∀ q ∈ fl, FLc own q ∈ TB
def fl_D : List (Nat × Nat × Nat) := [(44, 6, 5), (51, 6, 6), (41, 6, 7), (32, 6, 9), (9, 0, 0), (25, 0, 1), (29, 0, 2), (15, 0, 3), (18, 0, 4), (22, 0, 5)]
theorem fl_D_ok : FLok "NotWorn$Dealer" fl_D := by
  intro q hq
  exact memTB (fl_D.map (FLc "NotWorn$Dealer")) [144, 146, 147, 152, 203, 205, 207, 209, 210, 211] (by decide +kernel) (by decide +kernel) _ (List.mem_map_of_mem hq)
def fl_L : List (Nat × Nat × Nat) := [(22, 5, 2), (26, 5, 3), (11, 1, 0), (17, 1, 1)]
theorem fl_L_ok : FLok "NotWorn$Laws" fl_L := by
  intro q hq
  exact memTB (fl_L.map (FLc "NotWorn$Laws")) [105, 107, 118, 120] (by decide +kernel) (by decide +kernel) _ (List.mem_map_of_mem hq)
def fl_R : List (Nat × Nat × Nat) := [(9, 2, 0), (19, 2, 1), (15, 2, 2)]
theorem fl_R_ok : FLok "NotWorn$Row" fl_R := by
  intro q hq
  exact memTB (fl_R.map (FLc "NotWorn$Row")) [265, 267, 269] (by decide +kernel) (by decide +kernel) _ (List.mem_map_of_mem hq)
def fl_S : List (Nat × Nat × Nat) := [(9, 3, 0), (18, 3, 4)]
theorem fl_S_ok : FLok "NotWorn$Slot" fl_S := by
  intro q hq
  exact memTB (fl_S.map (FLc "NotWorn$Slot")) [285, 290] (by decide +kernel) (by decide +kernel) _ (List.mem_map_of_mem hq)
def fl_P : List (Nat × Nat × Nat) := [(93, 5, 0), (9, 4, 0), (22, 4, 1), (47, 4, 2), (26, 4, 3), (29, 4, 4), (18, 4, 5)]
theorem fl_P_ok : FLok "NotWorn$Tape" fl_P := by
  intro q hq
  exact memTB (fl_P.map (FLc "NotWorn$Tape")) [100, 234, 235, 237, 239, 240, 241] (by decide +kernel) (by decide +kernel) _ (List.mem_map_of_mem hq)
def fl_X : List (Nat × Nat × Nat) := [(15, 5, 0), (19, 5, 1), (22, 5, 2), (9, 5, 3)]
theorem fl_X_ok : FLok "NotWorn$Text" fl_X := by
  intro q hq
  exact memTB (fl_X.map (FLc "NotWorn$Text")) [99, 102, 104, 106] (by decide +kernel) (by decide +kernel) _ (List.mem_map_of_mem hq)
def fl_V : List (Nat × Nat × Nat) := [(9, 6, 0), (15, 6, 1), (18, 6, 2), (21, 6, 3), (55, 6, 4), (24, 6, 5), (27, 6, 6), (58, 6, 7), (30, 6, 8), (61, 6, 9), (34, 6, 10), (64, 6, 11), (38, 6, 12), (43, 6, 13), (46, 6, 14), (90, 6, 15)]
theorem fl_V_ok : FLok "NotWorn$Valley" fl_V := by
  intro q hq
  exact memTB (fl_V.map (FLc "NotWorn$Valley")) [133, 135, 137, 139, 142, 143, 145, 148, 150, 153, 155, 157, 159, 161, 162, 163] (by decide +kernel) (by decide +kernel) _ (List.mem_map_of_mem hq)
def fl_W : List (Nat × Nat × Nat) := [(257, 5, 0), (267, 5, 1), (245, 1, 0), (89, 6, 0), (92, 6, 1), (95, 6, 2), (98, 6, 3), (77, 6, 4), (174, 6, 7), (145, 6, 8), (101, 6, 9), (156, 6, 10), (242, 6, 11), (222, 6, 12), (190, 0, 0), (184, 0, 1), (187, 0, 2), (229, 4, 1), (239, 4, 2), (248, 4, 5), (209, 2, 0), (213, 2, 1), (216, 2, 2), (296, 3, 0), (299, 3, 1), (302, 3, 2), (312, 3, 3), (305, 3, 4), (10, 7, 0), (19, 7, 1), (23, 7, 2), (26, 7, 3), (319, 7, 4), (32, 7, 5), (39, 7, 6), (45, 7, 7), (51, 7, 8), (55, 7, 9), (316, 7, 10), (59, 7, 11)]
theorem fl_W_ok : FLok "NotWorn" fl_W := by
  intro q hq
  exact memTB (fl_W.map (FLc "NotWorn")) [101, 103, 119, 134, 136, 138, 140, 141, 149, 151, 154, 156, 158, 160, 204, 206, 208, 236, 238, 242, 266, 268, 270, 286, 287, 288, 289, 291, 303, 304, 305, 306, 307, 308, 309, 310, 311, 312, 313, 314] (by decide +kernel) (by decide +kernel) _ (List.mem_map_of_mem hq)
def fl_M : List (Nat × Nat × Nat) := [(9, 8, 0), (13, 8, 1), (16, 8, 2), (277, 8, 3), (19, 8, 4), (23, 8, 5), (26, 8, 6), (157, 8, 7), (161, 8, 8), (29, 8, 9), (32, 8, 10), (199, 8, 11), (202, 8, 12), (205, 8, 13), (211, 8, 14), (217, 8, 15), (208, 8, 16), (223, 8, 17), (35, 8, 18), (39, 8, 19), (42, 8, 20), (235, 8, 21), (241, 8, 22), (45, 8, 23), (229, 8, 24), (48, 8, 25), (51, 8, 26), (54, 8, 27), (57, 8, 28), (60, 8, 29), (63, 8, 30), (66, 8, 31), (69, 8, 32), (72, 8, 33), (75, 8, 34), (78, 8, 35), (81, 8, 36), (274, 8, 37)]
theorem fl_M_ok : FLok "NotWornModel" fl_M := by
  intro q hq
  exact memTB (fl_M.map (FLc "NotWornModel")) [928, 929, 930, 931, 932, 933, 934, 935, 936, 937, 938, 939, 940, 941, 942, 943, 944, 945, 946, 947, 948, 949, 950, 951, 952, 953, 954, 955, 956, 957, 958, 959, 960, 961, 962, 963, 964, 965] (by decide +kernel) (by decide +kernel) _ (List.mem_map_of_mem hq)
def fl_K : List (Nat × Nat × Nat) := []
theorem fl_K_ok : FLok "NotWorn$Kinds" fl_K := by
  intro q hq
  exact memTB (fl_K.map (FLc "NotWorn$Kinds")) [] (by decide +kernel) (by decide +kernel) _ (List.mem_map_of_mem hq)
def fl_E : List (Nat × Nat × Nat) := []
theorem fl_E_ok : FLok "NotWorn$Letters" fl_E := by
  intro q hq
  exact memTB (fl_E.map (FLc "NotWorn$Letters")) [] (by decide +kernel) (by decide +kernel) _ (List.mem_map_of_mem hq)
def CTok (own : String) (ct : List (Nat × Int32)) : Prop := ∀ q ∈ ct, Cond.constant own q.1 q.2 ∈ TB
def ct_D : List (Nat × Int32) := [(66, -1000000005)]
theorem ct_D_ok : CTok "NotWorn$Dealer" ct_D := by
  intro q hq
  exact memTB (ct_D.map (fun q => Cond.constant "NotWorn$Dealer" q.1 q.2)) [544] (by decide +kernel) (by decide +kernel) _ (List.mem_map_of_mem (f := fun q : Nat × Int32 => Cond.constant "NotWorn$Dealer" q.1 q.2) hq)
def ct_L : List (Nat × Int32) := []
theorem ct_L_ok : CTok "NotWorn$Laws" ct_L := by
  intro q hq
  exact memTB (ct_L.map (fun q => Cond.constant "NotWorn$Laws" q.1 q.2)) [] (by decide +kernel) (by decide +kernel) _ (List.mem_map_of_mem (f := fun q : Nat × Int32 => Cond.constant "NotWorn$Laws" q.1 q.2) hq)
def ct_R : List (Nat × Int32) := []
theorem ct_R_ok : CTok "NotWorn$Row" ct_R := by
  intro q hq
  exact memTB (ct_R.map (fun q => Cond.constant "NotWorn$Row" q.1 q.2)) [] (by decide +kernel) (by decide +kernel) _ (List.mem_map_of_mem (f := fun q : Nat × Int32 => Cond.constant "NotWorn$Row" q.1 q.2) hq)
def ct_S : List (Nat × Int32) := []
theorem ct_S_ok : CTok "NotWorn$Slot" ct_S := by
  intro q hq
  exact memTB (ct_S.map (fun q => Cond.constant "NotWorn$Slot" q.1 q.2)) [] (by decide +kernel) (by decide +kernel) _ (List.mem_map_of_mem (f := fun q : Nat × Int32 => Cond.constant "NotWorn$Slot" q.1 q.2) hq)
def ct_P : List (Nat × Int32) := []
theorem ct_P_ok : CTok "NotWorn$Tape" ct_P := by
  intro q hq
  exact memTB (ct_P.map (fun q => Cond.constant "NotWorn$Tape" q.1 q.2)) [] (by decide +kernel) (by decide +kernel) _ (List.mem_map_of_mem (f := fun q : Nat × Int32 => Cond.constant "NotWorn$Tape" q.1 q.2) hq)
def ct_X : List (Nat × Int32) := []
theorem ct_X_ok : CTok "NotWorn$Text" ct_X := by
  intro q hq
  exact memTB (ct_X.map (fun q => Cond.constant "NotWorn$Text" q.1 q.2)) [] (by decide +kernel) (by decide +kernel) _ (List.mem_map_of_mem (f := fun q : Nat × Int32 => Cond.constant "NotWorn$Text" q.1 q.2) hq)
def ct_V : List (Nat × Int32) := [(37, -1000000005), (67, 1103515245)]
theorem ct_V_ok : CTok "NotWorn$Valley" ct_V := by
  intro q hq
  exact memTB (ct_V.map (fun q => Cond.constant "NotWorn$Valley" q.1 q.2)) [132, 469] (by decide +kernel) (by decide +kernel) _ (List.mem_map_of_mem (f := fun q : Nat × Int32 => Cond.constant "NotWorn$Valley" q.1 q.2) hq)
def ct_W : List (Nat × Int32) := [(76, -1000000001), (81, -1000000003), (119, -1000000012), (173, -1000000005), (280, 99999), (212, -1000000011), (274, -1000000014), (278, -1000000013), (279, -99999), (315, -1000000002)]
theorem ct_W_ok : CTok "NotWorn" ct_W := by
  intro q hq
  exact memTB (ct_W.map (fun q => Cond.constant "NotWorn" q.1 q.2)) [354, 355, 392, 416, 424, 610, 844, 853, 854, 897] (by decide +kernel) (by decide +kernel) _ (List.mem_map_of_mem (f := fun q : Nat × Int32 => Cond.constant "NotWorn" q.1 q.2) hq)
def ct_M : List (Nat × Int32) := [(97, -1000000001), (98, -1000000003), (92, -1000000005), (120, -1000000012), (124, 99999), (143, 1103515245), (195, -1000000011), (267, -1000000014), (268, -1000000013), (269, -99999), (273, -1000000002)]
theorem ct_M_ok : CTok "NotWornModel" ct_M := by
  intro q hq
  exact memTB (ct_M.map (fun q => Cond.constant "NotWornModel" q.1 q.2)) [1054, 1055, 1060, 1092, 1112, 1155, 1262, 1338, 1343, 1344, 1376] (by decide +kernel) (by decide +kernel) _ (List.mem_map_of_mem (f := fun q : Nat × Int32 => Cond.constant "NotWornModel" q.1 q.2) hq)
def ct_K : List (Nat × Int32) := [(19, -1000000005)]
theorem ct_K_ok : CTok "NotWorn$Kinds" ct_K := by
  intro q hq
  exact memTB (ct_K.map (fun q => Cond.constant "NotWorn$Kinds" q.1 q.2)) [375] (by decide +kernel) (by decide +kernel) _ (List.mem_map_of_mem (f := fun q : Nat × Int32 => Cond.constant "NotWorn$Kinds" q.1 q.2) hq)
def ct_E : List (Nat × Int32) := []
theorem ct_E_ok : CTok "NotWorn$Letters" ct_E := by
  intro q hq
  exact memTB (ct_E.map (fun q => Cond.constant "NotWorn$Letters" q.1 q.2)) [] (by decide +kernel) (by decide +kernel) _ (List.mem_map_of_mem (f := fun q : Nat × Int32 => Cond.constant "NotWorn$Letters" q.1 q.2) hq)
def ct_I : List (Nat × Int32) := [(265, 1431655765), (266, 858993459), (267, 252645135)]
theorem ct_I_ok : CTok "java/lang/Integer" ct_I := by
  intro q hq
  exact memTB (ct_I.map (fun q => Cond.constant "java/lang/Integer" q.1 q.2)) [438, 439, 440] (by decide +kernel) (by decide +kernel) _ (List.mem_map_of_mem (f := fun q : Nat × Int32 => Cond.constant "java/lang/Integer" q.1 q.2) hq)
abbrev MI : Type := MethodName × ByteArray × Nat × Option FieldType
def MD (M : MI) (n : Nat) : Prop := plainName M.1.cls = true ∧ (M.1.cls ≠ "java/lang/invoke/MethodHandle" ∧ M.1.cls ≠ "java/lang/invoke/VarHandle") ∧ (parseMethodDescriptor M.1.desc).map (fun d => d.parameters.length) = some n ∧ M.2.2.1 ≤ 100
def MV (M : MI) (n : Nat) : Prop := (∀ w ∈ ([.instanceMethod M.1, .selects M.1.cls M.1 M.1, .initialized M.1.cls, .code M.1 M.2.1 M.2.2.1 M.2.2.2] : List Cond), w ∈ TB) ∧ MD M n
def MS (M : MI) (n : Nat) : Prop := (∀ w ∈ ([.static M.1, .initialized M.1.cls, .code M.1 M.2.1 M.2.2.1 M.2.2.2] : List Cond), w ∈ TB) ∧ MD M n
abbrev m_D_init : MI := (⟨"NotWorn$Dealer", "<init>", "()V"⟩, prog_2_method_1_code, 1, none)
abbrev m_D_settle : MI := (⟨"NotWorn$Dealer", "settle", "(LNotWorn$Valley;)V"⟩, prog_2_method_2_code, 3, none)
theorem mi_D_settle : MV m_D_settle 1 := ⟨memTB _ [524, 525, 63, 526] (by decide +kernel) (by decide +kernel), ⟨by decide +kernel, ⟨by decide +kernel, by decide +kernel⟩, by decide +kernel, by decide +kernel⟩⟩
abbrev m_D_tryFrom : MI := (⟨"NotWorn$Dealer", "tryFrom", "(LNotWorn$Valley;III)V"⟩, prog_2_method_3_code, 5, none)
theorem mi_D_tryFrom : MV m_D_tryFrom 4 := ⟨memTB _ [531, 5, 63, 532] (by decide +kernel) (by decide +kernel), ⟨by decide +kernel, ⟨by decide +kernel, by decide +kernel⟩, by decide +kernel, by decide +kernel⟩⟩
abbrev m_D_fits : MI := (⟨"NotWorn$Dealer", "fits", "(LNotWorn$Valley;II)Z"⟩, prog_2_method_4_code, 5, (some .boolean))
theorem mi_D_fits : MV m_D_fits 3 := ⟨memTB _ [542, 7, 63, 543] (by decide +kernel) (by decide +kernel), ⟨by decide +kernel, ⟨by decide +kernel, by decide +kernel⟩, by decide +kernel, by decide +kernel⟩⟩
abbrev m_D_remember : MI := (⟨"NotWorn$Dealer", "remember", "(LNotWorn$Valley;II)V"⟩, prog_2_method_5_code, 4, none)
theorem mi_D_remember : MV m_D_remember 3 := ⟨memTB _ [535, 6, 63, 536] (by decide +kernel) (by decide +kernel), ⟨by decide +kernel, ⟨by decide +kernel, by decide +kernel⟩, by decide +kernel, by decide +kernel⟩⟩
abbrev m_K_isKind : MI := (⟨"NotWorn$Kinds", "isKind", "(I)Z"⟩, prog_3_method_2_code, 1, (some .boolean))
theorem mi_K_isKind : MS m_K_isKind 1 := ⟨memTB _ [345, 68, 346] (by decide +kernel) (by decide +kernel), ⟨by decide +kernel, ⟨by decide +kernel, by decide +kernel⟩, by decide +kernel, by decide +kernel⟩⟩
abbrev m_K_isOf : MI := (⟨"NotWorn$Kinds", "isOf", "(II)Z"⟩, prog_3_method_3_code, 4, (some .boolean))
theorem mi_K_isOf : MS m_K_isOf 2 := ⟨memTB _ [387, 68, 388] (by decide +kernel) (by decide +kernel), ⟨by decide +kernel, ⟨by decide +kernel, by decide +kernel⟩, by decide +kernel, by decide +kernel⟩⟩
abbrev m_K_holdsIn : MI := (⟨"NotWorn$Kinds", "holdsIn", "(IIIII)Z"⟩, prog_3_method_4_code, 9, (some .boolean))
theorem mi_K_holdsIn : MS m_K_holdsIn 5 := ⟨memTB _ [373, 68, 374] (by decide +kernel) (by decide +kernel), ⟨by decide +kernel, ⟨by decide +kernel, by decide +kernel⟩, by decide +kernel, by decide +kernel⟩⟩
abbrev m_K_worth : MI := (⟨"NotWorn$Kinds", "worth", "(II)I"⟩, prog_3_method_5_code, 2, (some .int))
theorem mi_K_worth : MS m_K_worth 2 := ⟨memTB _ [380, 68, 381] (by decide +kernel) (by decide +kernel), ⟨by decide +kernel, ⟨by decide +kernel, by decide +kernel⟩, by decide +kernel, by decide +kernel⟩⟩
abbrev m_L_init : MI := (⟨"NotWorn$Laws", "<init>", "()V"⟩, prog_4_method_1_code, 2, none)
abbrev m_L_work : MI := (⟨"NotWorn$Laws", "work", "(IIII)I"⟩, prog_4_method_2_code, 9, (some .int))
theorem mi_L_work : MV m_L_work 4 := ⟨memTB _ [568, 569, 60, 570] (by decide +kernel) (by decide +kernel), ⟨by decide +kernel, ⟨by decide +kernel, by decide +kernel⟩, by decide +kernel, by decide +kernel⟩⟩
abbrev m_L_leaf : MI := (⟨"NotWorn$Laws", "leaf", "(IIII)I"⟩, prog_4_method_3_code, 4, (some .int))
theorem mi_L_leaf : MS m_L_leaf 4 := ⟨memTB _ [572, 60, 573] (by decide +kernel) (by decide +kernel), ⟨by decide +kernel, ⟨by decide +kernel, by decide +kernel⟩, by decide +kernel, by decide +kernel⟩⟩
abbrev m_L_join : MI := (⟨"NotWorn$Laws", "join", "(III)I"⟩, prog_4_method_4_code, 3, (some .int))
theorem mi_L_join : MS m_L_join 3 := ⟨memTB _ [576, 60, 577] (by decide +kernel) (by decide +kernel), ⟨by decide +kernel, ⟨by decide +kernel, by decide +kernel⟩, by decide +kernel, by decide +kernel⟩⟩
abbrev m_E_alike : MI := (⟨"NotWorn$Letters", "alike", "(II)I"⟩, prog_5_method_2_code, 3, (some .int))
theorem mi_E_alike : MS m_E_alike 2 := ⟨memTB _ [430, 69, 431] (by decide +kernel) (by decide +kernel), ⟨by decide +kernel, ⟨by decide +kernel, by decide +kernel⟩, by decide +kernel, by decide +kernel⟩⟩
abbrev m_E_unlike : MI := (⟨"NotWorn$Letters", "unlike", "(I)I"⟩, prog_5_method_3_code, 1, (some .int))
theorem mi_E_unlike : MS m_E_unlike 1 := ⟨memTB _ [433, 69, 434] (by decide +kernel) (by decide +kernel), ⟨by decide +kernel, ⟨by decide +kernel, by decide +kernel⟩, by decide +kernel, by decide +kernel⟩⟩
abbrev m_R_init : MI := (⟨"NotWorn$Row", "<init>", "()V"⟩, prog_6_method_1_code, 1, none)
abbrev m_R_clear : MI := (⟨"NotWorn$Row", "clear", "(II)V"⟩, prog_6_method_2_code, 4, none)
theorem mi_R_clear : MV m_R_clear 2 := ⟨memTB _ [841, 842, 65, 843] (by decide +kernel) (by decide +kernel), ⟨by decide +kernel, ⟨by decide +kernel, by decide +kernel⟩, by decide +kernel, by decide +kernel⟩⟩
abbrev m_R_become : MI := (⟨"NotWorn$Row", "become", "(LNotWorn$Row;)V"⟩, prog_6_method_3_code, 2, none)
theorem mi_R_become : MV m_R_become 1 := ⟨memTB _ [881, 882, 65, 883] (by decide +kernel) (by decide +kernel), ⟨by decide +kernel, ⟨by decide +kernel, by decide +kernel⟩, by decide +kernel, by decide +kernel⟩⟩
abbrev m_R_hasPlace : MI := (⟨"NotWorn$Row", "hasPlace", "(I)Z"⟩, prog_6_method_4_code, 2, (some .boolean))
theorem mi_R_hasPlace : MV m_R_hasPlace 1 := ⟨memTB _ [850, 851, 65, 852] (by decide +kernel) (by decide +kernel), ⟨by decide +kernel, ⟨by decide +kernel, by decide +kernel⟩, by decide +kernel, by decide +kernel⟩⟩
abbrev m_R_hasPlaces : MI := (⟨"NotWorn$Row", "hasPlaces", "(II)Z"⟩, prog_6_method_5_code, 3, (some .boolean))
theorem mi_R_hasPlaces : MV m_R_hasPlaces 2 := ⟨memTB _ [869, 870, 65, 871] (by decide +kernel) (by decide +kernel), ⟨by decide +kernel, ⟨by decide +kernel, by decide +kernel⟩, by decide +kernel, by decide +kernel⟩⟩
abbrev m_S_init : MI := (⟨"NotWorn$Slot", "<init>", "()V"⟩, prog_7_method_1_code, 1, none)
abbrev m_P_init : MI := (⟨"NotWorn$Tape", "<init>", "()V"⟩, prog_8_method_1_code, 1, none)
abbrev m_P_takeFour : MI := (⟨"NotWorn$Tape", "takeFour", "(I)V"⟩, prog_8_method_2_code, 3, none)
theorem mi_P_takeFour : MV m_P_takeFour 1 := ⟨memTB _ [625, 626, 64, 627] (by decide +kernel) (by decide +kernel), ⟨by decide +kernel, ⟨by decide +kernel, by decide +kernel⟩, by decide +kernel, by decide +kernel⟩⟩
abbrev m_P_readText : MI := (⟨"NotWorn$Tape", "readText", "()Z"⟩, prog_8_method_3_code, 2, (some .boolean))
theorem mi_P_readText : MV m_P_readText 0 := ⟨memTB _ [637, 638, 64, 639] (by decide +kernel) (by decide +kernel), ⟨by decide +kernel, ⟨by decide +kernel, by decide +kernel⟩, by decide +kernel, by decide +kernel⟩⟩
abbrev m_P_advance : MI := (⟨"NotWorn$Tape", "advance", "()V"⟩, prog_8_method_4_code, 3, none)
theorem mi_P_advance : MV m_P_advance 0 := ⟨memTB _ [642, 10, 64, 643] (by decide +kernel) (by decide +kernel), ⟨by decide +kernel, ⟨by decide +kernel, by decide +kernel⟩, by decide +kernel, by decide +kernel⟩⟩
abbrev m_P_sortOf : MI := (⟨"NotWorn$Tape", "sortOf", "(I)I"⟩, prog_8_method_5_code, 1, (some .int))
theorem mi_P_sortOf : MS m_P_sortOf 1 := ⟨memTB _ [645, 64, 646] (by decide +kernel) (by decide +kernel), ⟨by decide +kernel, ⟨by decide +kernel, by decide +kernel⟩, by decide +kernel, by decide +kernel⟩⟩
abbrev m_P_keyAtHand : MI := (⟨"NotWorn$Tape", "keyAtHand", "()I"⟩, prog_8_method_6_code, 2, (some .int))
theorem mi_P_keyAtHand : MV m_P_keyAtHand 0 := ⟨memTB _ [649, 11, 64, 650] (by decide +kernel) (by decide +kernel), ⟨by decide +kernel, ⟨by decide +kernel, by decide +kernel⟩, by decide +kernel, by decide +kernel⟩⟩
abbrev m_P_isKeyWord : MI := (⟨"NotWorn$Tape", "isKeyWord", "(I)Z"⟩, prog_8_method_7_code, 3, (some .boolean))
theorem mi_P_isKeyWord : MV m_P_isKeyWord 1 := ⟨memTB _ [653, 12, 64, 654] (by decide +kernel) (by decide +kernel), ⟨by decide +kernel, ⟨by decide +kernel, by decide +kernel⟩, by decide +kernel, by decide +kernel⟩⟩
abbrev m_P_readLevel : MI := (⟨"NotWorn$Tape", "readLevel", "(III)Z"⟩, prog_8_method_8_code, 7, (some .boolean))
theorem mi_P_readLevel : MV m_P_readLevel 3 := ⟨memTB _ [702, 13, 64, 703] (by decide +kernel) (by decide +kernel), ⟨by decide +kernel, ⟨by decide +kernel, by decide +kernel⟩, by decide +kernel, by decide +kernel⟩⟩
abbrev m_P_signOfLevel : MI := (⟨"NotWorn$Tape", "signOfLevel", "(I)Z"⟩, prog_8_method_9_code, 2, (some .boolean))
theorem mi_P_signOfLevel : MV m_P_signOfLevel 1 := ⟨memTB _ [806, 20, 64, 807] (by decide +kernel) (by decide +kernel), ⟨by decide +kernel, ⟨by decide +kernel, by decide +kernel⟩, by decide +kernel, by decide +kernel⟩⟩
abbrev m_P_atHand : MI := (⟨"NotWorn$Tape", "atHand", "(C)Z"⟩, prog_8_method_10_code, 2, (some .boolean))
theorem mi_P_atHand : MV m_P_atHand 1 := ⟨memTB _ [798, 19, 64, 799] (by decide +kernel) (by decide +kernel), ⟨by decide +kernel, ⟨by decide +kernel, by decide +kernel⟩, by decide +kernel, by decide +kernel⟩⟩
abbrev m_P_readPiece : MI := (⟨"NotWorn$Tape", "readPiece", "(II)Z"⟩, prog_8_method_11_code, 3, (some .boolean))
theorem mi_P_readPiece : MV m_P_readPiece 2 := ⟨memTB _ [706, 14, 64, 707] (by decide +kernel) (by decide +kernel), ⟨by decide +kernel, ⟨by decide +kernel, by decide +kernel⟩, by decide +kernel, by decide +kernel⟩⟩
abbrev m_P_readLeaf : MI := (⟨"NotWorn$Tape", "readLeaf", "()Z"⟩, prog_8_method_12_code, 2, (some .boolean))
theorem mi_P_readLeaf : MV m_P_readLeaf 0 := ⟨memTB _ [710, 15, 64, 711] (by decide +kernel) (by decide +kernel), ⟨by decide +kernel, ⟨by decide +kernel, by decide +kernel⟩, by decide +kernel, by decide +kernel⟩⟩
abbrev m_P_numberAtHand : MI := (⟨"NotWorn$Tape", "numberAtHand", "()I"⟩, prog_8_method_13_code, 3, (some .int))
theorem mi_P_numberAtHand : MV m_P_numberAtHand 0 := ⟨memTB _ [714, 16, 64, 715] (by decide +kernel) (by decide +kernel), ⟨by decide +kernel, ⟨by decide +kernel, by decide +kernel⟩, by decide +kernel, by decide +kernel⟩⟩
abbrev m_P_nameAtHand : MI := (⟨"NotWorn$Tape", "nameAtHand", "()I"⟩, prog_8_method_14_code, 2, (some .int))
theorem mi_P_nameAtHand : MV m_P_nameAtHand 0 := ⟨memTB _ [718, 17, 64, 719] (by decide +kernel) (by decide +kernel), ⟨by decide +kernel, ⟨by decide +kernel, by decide +kernel⟩, by decide +kernel, by decide +kernel⟩⟩
abbrev m_P_namesOf : MI := (⟨"NotWorn$Tape", "namesOf", "(I)Ljava/lang/String;"⟩, prog_8_method_15_code, 1, (some (.object "java/lang/String")))
theorem mi_P_namesOf : MS m_P_namesOf 1 := ⟨memTB _ [721, 64, 722] (by decide +kernel) (by decide +kernel), ⟨by decide +kernel, ⟨by decide +kernel, by decide +kernel⟩, by decide +kernel, by decide +kernel⟩⟩
abbrev m_X_init : MI := (⟨"NotWorn$Text", "<init>", "()V"⟩, prog_9_method_1_code, 1, none)
abbrev m_X_begin : MI := (⟨"NotWorn$Text", "begin", "(I)V"⟩, prog_9_method_2_code, 2, none)
theorem mi_X_begin : MV m_X_begin 1 := ⟨memTB _ [697, 698, 61, 699] (by decide +kernel) (by decide +kernel), ⟨by decide +kernel, ⟨by decide +kernel, by decide +kernel⟩, by decide +kernel, by decide +kernel⟩⟩
abbrev m_X_become : MI := (⟨"NotWorn$Text", "become", "(LNotWorn$Text;)V"⟩, prog_9_method_3_code, 2, none)
theorem mi_X_become : MV m_X_become 1 := ⟨memTB _ [809, 810, 61, 811] (by decide +kernel) (by decide +kernel), ⟨by decide +kernel, ⟨by decide +kernel, by decide +kernel⟩, by decide +kernel, by decide +kernel⟩⟩
abbrev m_X_addLeaf : MI := (⟨"NotWorn$Text", "addLeaf", "(I)V"⟩, prog_9_method_4_code, 2, none)
theorem mi_X_addLeaf : MV m_X_addLeaf 1 := ⟨memTB _ [789, 790, 61, 791] (by decide +kernel) (by decide +kernel), ⟨by decide +kernel, ⟨by decide +kernel, by decide +kernel⟩, by decide +kernel, by decide +kernel⟩⟩
abbrev m_X_addSign : MI := (⟨"NotWorn$Text", "addSign", "(I)V"⟩, prog_9_method_5_code, 2, none)
theorem mi_X_addSign : MV m_X_addSign 1 := ⟨memTB _ [801, 802, 61, 803] (by decide +kernel) (by decide +kernel), ⟨by decide +kernel, ⟨by decide +kernel, by decide +kernel⟩, by decide +kernel, by decide +kernel⟩⟩
abbrev m_X_addStep : MI := (⟨"NotWorn$Text", "addStep", "(I)V"⟩, prog_9_method_6_code, 2, none)
theorem mi_X_addStep : MV m_X_addStep 1 := ⟨memTB _ [794, 18, 61, 795] (by decide +kernel) (by decide +kernel), ⟨by decide +kernel, ⟨by decide +kernel, by decide +kernel⟩, by decide +kernel, by decide +kernel⟩⟩
abbrev m_V_init : MI := (⟨"NotWorn$Valley", "<init>", "()V"⟩, prog_10_method_1_code, 1, none)
abbrev m_V_become : MI := (⟨"NotWorn$Valley", "become", "(LNotWorn$Valley;)V"⟩, prog_10_method_2_code, 2, none)
theorem mi_V_become : MV m_V_become 1 := ⟨memTB _ [587, 588, 62, 589] (by decide +kernel) (by decide +kernel), ⟨by decide +kernel, ⟨by decide +kernel, by decide +kernel⟩, by decide +kernel, by decide +kernel⟩⟩
abbrev m_V_enter : MI := (⟨"NotWorn$Valley", "enter", "(III)I"⟩, prog_10_method_3_code, 5, (some .int))
theorem mi_V_enter : MV m_V_enter 3 := ⟨memTB _ [357, 358, 62, 359] (by decide +kernel) (by decide +kernel), ⟨by decide +kernel, ⟨by decide +kernel, by decide +kernel⟩, by decide +kernel, by decide +kernel⟩⟩
abbrev m_V_wish : MI := (⟨"NotWorn$Valley", "wish", "(II)I"⟩, prog_10_method_4_code, 4, (some .int))
theorem mi_V_wish : MV m_V_wish 2 := ⟨memTB _ [512, 513, 62, 514] (by decide +kernel) (by decide +kernel), ⟨by decide +kernel, ⟨by decide +kernel, by decide +kernel⟩, by decide +kernel, by decide +kernel⟩⟩
abbrev m_V_draw : MI := (⟨"NotWorn$Valley", "draw", "()I"⟩, prog_10_method_5_code, 1, (some .int))
theorem mi_V_draw : MV m_V_draw 0 := ⟨memTB _ [467, 4, 62, 468] (by decide +kernel) (by decide +kernel), ⟨by decide +kernel, ⟨by decide +kernel, by decide +kernel⟩, by decide +kernel, by decide +kernel⟩⟩
abbrev m_V_drawPerson : MI := (⟨"NotWorn$Valley", "drawPerson", "()V"⟩, prog_10_method_6_code, 4, none)
theorem mi_V_drawPerson : MV m_V_drawPerson 0 := ⟨memTB _ [462, 463, 62, 464] (by decide +kernel) (by decide +kernel), ⟨by decide +kernel, ⟨by decide +kernel, by decide +kernel⟩, by decide +kernel, by decide +kernel⟩⟩
abbrev m_V_isAlive : MI := (⟨"NotWorn$Valley", "isAlive", "(I)Z"⟩, prog_10_method_7_code, 2, (some .boolean))
theorem mi_V_isAlive : MV m_V_isAlive 1 := ⟨memTB _ [409, 410, 62, 411] (by decide +kernel) (by decide +kernel), ⟨by decide +kernel, ⟨by decide +kernel, by decide +kernel⟩, by decide +kernel, by decide +kernel⟩⟩
abbrev m_V_countAlive : MI := (⟨"NotWorn$Valley", "countAlive", "()I"⟩, prog_10_method_8_code, 3, (some .int))
theorem mi_V_countAlive : MV m_V_countAlive 0 := ⟨memTB _ [592, 593, 62, 594] (by decide +kernel) (by decide +kernel), ⟨by decide +kernel, ⟨by decide +kernel, by decide +kernel⟩, by decide +kernel, by decide +kernel⟩⟩
abbrev m_V_holdsIn : MI := (⟨"NotWorn$Valley", "holdsIn", "(II)Z"⟩, prog_10_method_9_code, 3, (some .boolean))
theorem mi_V_holdsIn : MV m_V_holdsIn 2 := ⟨memTB _ [369, 370, 62, 371] (by decide +kernel) (by decide +kernel), ⟨by decide +kernel, ⟨by decide +kernel, by decide +kernel⟩, by decide +kernel, by decide +kernel⟩⟩
abbrev m_V_areNear : MI := (⟨"NotWorn$Valley", "areNear", "(II)Z"⟩, prog_10_method_10_code, 3, (some .boolean))
theorem mi_V_areNear : MV m_V_areNear 2 := ⟨memTB _ [446, 447, 62, 448] (by decide +kernel) (by decide +kernel), ⟨by decide +kernel, ⟨by decide +kernel, by decide +kernel⟩, by decide +kernel, by decide +kernel⟩⟩
abbrev m_V_gatherHeld : MI := (⟨"NotWorn$Valley", "gatherHeld", "(I)V"⟩, prog_10_method_11_code, 3, none)
theorem mi_V_gatherHeld : MV m_V_gatherHeld 1 := ⟨memTB _ [480, 481, 62, 482] (by decide +kernel) (by decide +kernel), ⟨by decide +kernel, ⟨by decide +kernel, by decide +kernel⟩, by decide +kernel, by decide +kernel⟩⟩
abbrev m_V_isClear : MI := (⟨"NotWorn$Valley", "isClear", "(I)Z"⟩, prog_10_method_12_code, 3, (some .boolean))
theorem mi_V_isClear : MV m_V_isClear 1 := ⟨memTB _ [485, 486, 62, 487] (by decide +kernel) (by decide +kernel), ⟨by decide +kernel, ⟨by decide +kernel, by decide +kernel⟩, by decide +kernel, by decide +kernel⟩⟩
abbrev m_V_countFree : MI := (⟨"NotWorn$Valley", "countFree", "()I"⟩, prog_10_method_13_code, 3, (some .int))
theorem mi_V_countFree : MV m_V_countFree 0 := ⟨memTB _ [494, 495, 62, 496] (by decide +kernel) (by decide +kernel), ⟨by decide +kernel, ⟨by decide +kernel, by decide +kernel⟩, by decide +kernel, by decide +kernel⟩⟩
abbrev m_V_leastFree : MI := (⟨"NotWorn$Valley", "leastFree", "()I"⟩, prog_10_method_14_code, 2, (some .int))
theorem mi_V_leastFree : MV m_V_leastFree 0 := ⟨memTB _ [500, 501, 62, 502] (by decide +kernel) (by decide +kernel), ⟨by decide +kernel, ⟨by decide +kernel, by decide +kernel⟩, by decide +kernel, by decide +kernel⟩⟩
abbrev m_V_passYear : MI := (⟨"NotWorn$Valley", "passYear", "(LNotWorn$Laws;)I"⟩, prog_10_method_15_code, 4, (some .int))
theorem mi_V_passYear : MV m_V_passYear 1 := ⟨memTB _ [559, 560, 62, 561] (by decide +kernel) (by decide +kernel), ⟨by decide +kernel, ⟨by decide +kernel, by decide +kernel⟩, by decide +kernel, by decide +kernel⟩⟩
abbrev m_V_chanceToDie : MI := (⟨"NotWorn$Valley", "chanceToDie", "(ILNotWorn$Laws;)I"⟩, prog_10_method_16_code, 6, (some .int))
theorem mi_V_chanceToDie : MV m_V_chanceToDie 2 := ⟨memTB _ [565, 8, 62, 566] (by decide +kernel) (by decide +kernel), ⟨by decide +kernel, ⟨by decide +kernel, by decide +kernel⟩, by decide +kernel, by decide +kernel⟩⟩
abbrev m_V_takeText : MI := (⟨"NotWorn$Valley", "takeText", "(ILNotWorn$Laws;)I"⟩, prog_10_method_17_code, 4, (some .int))
theorem mi_V_takeText : MV m_V_takeText 2 := ⟨memTB _ [814, 815, 62, 816] (by decide +kernel) (by decide +kernel), ⟨by decide +kernel, ⟨by decide +kernel, by decide +kernel⟩, by decide +kernel, by decide +kernel⟩⟩
abbrev m_V_findNearWays : MI := (⟨"NotWorn$Valley", "findNearWays", "(LNotWorn$Laws;)V"⟩, prog_10_method_18_code, 5, none)
theorem mi_V_findNearWays : MV m_V_findNearWays 1 := ⟨memTB _ [819, 21, 62, 820] (by decide +kernel) (by decide +kernel), ⟨by decide +kernel, ⟨by decide +kernel, by decide +kernel⟩, by decide +kernel, by decide +kernel⟩⟩
abbrev m_W_init : MI := (⟨"NotWorn", "<init>", "()V"⟩, prog_1_method_1_code, 2, none)
abbrev m_W_person : MI := (⟨"NotWorn", "person", "(III)I"⟩, prog_1_method_2_code, 4, (some .int))
theorem mi_W_person : MV m_W_person 3 := ⟨memTB _ [341, 342, 59, 343] (by decide +kernel) (by decide +kernel), ⟨by decide +kernel, ⟨by decide +kernel, by decide +kernel⟩, by decide +kernel, by decide +kernel⟩⟩
abbrev m_W_told : MI := (⟨"NotWorn", "told", "(II)I"⟩, prog_1_method_3_code, 3, (some .int))
theorem mi_W_told : MV m_W_told 2 := ⟨memTB _ [361, 362, 59, 363] (by decide +kernel) (by decide +kernel), ⟨by decide +kernel, ⟨by decide +kernel, by decide +kernel⟩, by decide +kernel, by decide +kernel⟩⟩
abbrev m_W_as : MI := (⟨"NotWorn", "as", "(II)I"⟩, prog_1_method_4_code, 3, (some .int))
theorem mi_W_as : MV m_W_as 2 := ⟨memTB _ [383, 384, 59, 385] (by decide +kernel) (by decide +kernel), ⟨by decide +kernel, ⟨by decide +kernel, by decide +kernel⟩, by decide +kernel, by decide +kernel⟩⟩
abbrev m_W_turns : MI := (⟨"NotWorn", "turns", "(II)I"⟩, prog_1_method_5_code, 4, (some .int))
theorem mi_W_turns : MV m_W_turns 2 := ⟨memTB _ [394, 395, 59, 396] (by decide +kernel) (by decide +kernel), ⟨by decide +kernel, ⟨by decide +kernel, by decide +kernel⟩, by decide +kernel, by decide +kernel⟩⟩
abbrev m_W_set : MI := (⟨"NotWorn", "set", "(III)I"⟩, prog_1_method_6_code, 4, (some .int))
theorem mi_W_set : MV m_W_set 3 := ⟨memTB _ [398, 399, 59, 400] (by decide +kernel) (by decide +kernel), ⟨by decide +kernel, ⟨by decide +kernel, by decide +kernel⟩, by decide +kernel, by decide +kernel⟩⟩
abbrev m_W_holds : MI := (⟨"NotWorn", "holds", "(II)I"⟩, prog_1_method_7_code, 3, (some .int))
theorem mi_W_holds : MV m_W_holds 2 := ⟨memTB _ [418, 419, 59, 420] (by decide +kernel) (by decide +kernel), ⟨by decide +kernel, ⟨by decide +kernel, by decide +kernel⟩, by decide +kernel, by decide +kernel⟩⟩
abbrev m_W_apart : MI := (⟨"NotWorn", "apart", "(II)I"⟩, prog_1_method_8_code, 3, (some .int))
theorem mi_W_apart : MV m_W_apart 2 := ⟨memTB _ [426, 427, 59, 428] (by decide +kernel) (by decide +kernel), ⟨by decide +kernel, ⟨by decide +kernel, by decide +kernel⟩, by decide +kernel, by decide +kernel⟩⟩
abbrev m_W_near : MI := (⟨"NotWorn", "near", "(II)I"⟩, prog_1_method_9_code, 3, (some .int))
theorem mi_W_near : MV m_W_near 2 := ⟨memTB _ [442, 443, 59, 444] (by decide +kernel) (by decide +kernel), ⟨by decide +kernel, ⟨by decide +kernel, by decide +kernel⟩, by decide +kernel, by decide +kernel⟩⟩
abbrev m_W_lifetime : MI := (⟨"NotWorn", "lifetime", "(I)I"⟩, prog_1_method_10_code, 3, (some .int))
theorem mi_W_lifetime : MV m_W_lifetime 1 := ⟨memTB _ [451, 452, 59, 453] (by decide +kernel) (by decide +kernel), ⟨by decide +kernel, ⟨by decide +kernel, by decide +kernel⟩, by decide +kernel, by decide +kernel⟩⟩
abbrev m_W_deal : MI := (⟨"NotWorn", "deal", "(I)I"⟩, prog_1_method_11_code, 4, (some .int))
theorem mi_W_deal : MV m_W_deal 1 := ⟨memTB _ [455, 456, 59, 457] (by decide +kernel) (by decide +kernel), ⟨by decide +kernel, ⟨by decide +kernel, by decide +kernel⟩, by decide +kernel, by decide +kernel⟩⟩
abbrev m_W_seed : MI := (⟨"NotWorn", "seed", "(I)I"⟩, prog_1_method_12_code, 3, (some .int))
theorem mi_W_seed : MV m_W_seed 1 := ⟨memTB _ [472, 473, 59, 474] (by decide +kernel) (by decide +kernel), ⟨by decide +kernel, ⟨by decide +kernel, by decide +kernel⟩, by decide +kernel, by decide +kernel⟩⟩
abbrev m_W_free : MI := (⟨"NotWorn", "free", "(II)I"⟩, prog_1_method_13_code, 3, (some .int))
theorem mi_W_free : MV m_W_free 2 := ⟨memTB _ [476, 477, 59, 478] (by decide +kernel) (by decide +kernel), ⟨by decide +kernel, ⟨by decide +kernel, by decide +kernel⟩, by decide +kernel, by decide +kernel⟩⟩
abbrev m_W_frees : MI := (⟨"NotWorn", "frees", "(I)I"⟩, prog_1_method_14_code, 2, (some .int))
theorem mi_W_frees : MV m_W_frees 1 := ⟨memTB _ [490, 491, 59, 492] (by decide +kernel) (by decide +kernel), ⟨by decide +kernel, ⟨by decide +kernel, by decide +kernel⟩, by decide +kernel, by decide +kernel⟩⟩
abbrev m_W_soonest : MI := (⟨"NotWorn", "soonest", "(I)I"⟩, prog_1_method_15_code, 3, (some .int))
theorem mi_W_soonest : MV m_W_soonest 1 := ⟨memTB _ [504, 505, 59, 506] (by decide +kernel) (by decide +kernel), ⟨by decide +kernel, ⟨by decide +kernel, by decide +kernel⟩, by decide +kernel, by decide +kernel⟩⟩
abbrev m_W_child : MI := (⟨"NotWorn", "child", "(II)I"⟩, prog_1_method_16_code, 3, (some .int))
theorem mi_W_child : MV m_W_child 2 := ⟨memTB _ [508, 509, 59, 510] (by decide +kernel) (by decide +kernel), ⟨by decide +kernel, ⟨by decide +kernel, by decide +kernel⟩, by decide +kernel, by decide +kernel⟩⟩
abbrev m_W_forget : MI := (⟨"NotWorn", "forget", "()I"⟩, prog_1_method_17_code, 2, (some .int))
theorem mi_W_forget : MV m_W_forget 0 := ⟨memTB _ [516, 517, 59, 518] (by decide +kernel) (by decide +kernel), ⟨by decide +kernel, ⟨by decide +kernel, by decide +kernel⟩, by decide +kernel, by decide +kernel⟩⟩
abbrev m_W_dealing : MI := (⟨"NotWorn", "dealing", "(I)I"⟩, prog_1_method_18_code, 2, (some .int))
theorem mi_W_dealing : MV m_W_dealing 1 := ⟨memTB _ [520, 521, 59, 522] (by decide +kernel) (by decide +kernel), ⟨by decide +kernel, ⟨by decide +kernel, by decide +kernel⟩, by decide +kernel, by decide +kernel⟩⟩
abbrev m_W_christen : MI := (⟨"NotWorn", "christen", "()I"⟩, prog_1_method_19_code, 2, (some .int))
theorem mi_W_christen : MV m_W_christen 0 := ⟨memTB _ [547, 548, 59, 549] (by decide +kernel) (by decide +kernel), ⟨by decide +kernel, ⟨by decide +kernel, by decide +kernel⟩, by decide +kernel, by decide +kernel⟩⟩
abbrev m_W_yields : MI := (⟨"NotWorn", "yields", "(I)I"⟩, prog_1_method_20_code, 4, (some .int))
theorem mi_W_yields : MV m_W_yields 1 := ⟨memTB _ [551, 552, 59, 553] (by decide +kernel) (by decide +kernel), ⟨by decide +kernel, ⟨by decide +kernel, by decide +kernel⟩, by decide +kernel, by decide +kernel⟩⟩
abbrev m_W_years : MI := (⟨"NotWorn", "years", "(I)I"⟩, prog_1_method_21_code, 5, (some .int))
theorem mi_W_years : MV m_W_years 1 := ⟨memTB _ [555, 556, 59, 557] (by decide +kernel) (by decide +kernel), ⟨by decide +kernel, ⟨by decide +kernel, by decide +kernel⟩, by decide +kernel, by decide +kernel⟩⟩
abbrev m_W_behind : MI := (⟨"NotWorn", "behind", "(II)I"⟩, prog_1_method_22_code, 4, (some .int))
theorem mi_W_behind : MV m_W_behind 2 := ⟨memTB _ [583, 584, 59, 585] (by decide +kernel) (by decide +kernel), ⟨by decide +kernel, ⟨by decide +kernel, by decide +kernel⟩, by decide +kernel, by decide +kernel⟩⟩
abbrev m_W_ends : MI := (⟨"NotWorn", "ends", "()I"⟩, prog_1_method_23_code, 2, (some .int))
theorem mi_W_ends : MV m_W_ends 0 := ⟨memTB _ [596, 597, 59, 598] (by decide +kernel) (by decide +kernel), ⟨by decide +kernel, ⟨by decide +kernel, by decide +kernel⟩, by decide +kernel, by decide +kernel⟩⟩
abbrev m_W_stays : MI := (⟨"NotWorn", "stays", "(II)I"⟩, prog_1_method_24_code, 5, (some .int))
theorem mi_W_stays : MV m_W_stays 2 := ⟨memTB _ [600, 601, 59, 602] (by decide +kernel) (by decide +kernel), ⟨by decide +kernel, ⟨by decide +kernel, by decide +kernel⟩, by decide +kernel, by decide +kernel⟩⟩
abbrev m_W_line : MI := (⟨"NotWorn", "line", "(I)I"⟩, prog_1_method_25_code, 6, (some .int))
theorem mi_W_line : MV m_W_line 1 := ⟨memTB _ [604, 605, 59, 606] (by decide +kernel) (by decide +kernel), ⟨by decide +kernel, ⟨by decide +kernel, by decide +kernel⟩, by decide +kernel, by decide +kernel⟩⟩
abbrev m_W_fine : MI := (⟨"NotWorn", "fine", "()I"⟩, prog_1_method_26_code, 2, (some .int))
theorem mi_W_fine : MV m_W_fine 0 := ⟨memTB _ [616, 617, 59, 618] (by decide +kernel) (by decide +kernel), ⟨by decide +kernel, ⟨by decide +kernel, by decide +kernel⟩, by decide +kernel, by decide +kernel⟩⟩
abbrev m_W_feed : MI := (⟨"NotWorn", "feed", "(III)I"⟩, prog_1_method_27_code, 4, (some .int))
theorem mi_W_feed : MV m_W_feed 3 := ⟨memTB _ [621, 622, 59, 623] (by decide +kernel) (by decide +kernel), ⟨by decide +kernel, ⟨by decide +kernel, by decide +kernel⟩, by decide +kernel, by decide +kernel⟩⟩
abbrev m_W_trim : MI := (⟨"NotWorn", "trim", "(I)I"⟩, prog_1_method_28_code, 2, (some .int))
theorem mi_W_trim : MV m_W_trim 1 := ⟨memTB _ [629, 630, 59, 631] (by decide +kernel) (by decide +kernel), ⟨by decide +kernel, ⟨by decide +kernel, by decide +kernel⟩, by decide +kernel, by decide +kernel⟩⟩
abbrev m_W_text : MI := (⟨"NotWorn", "text", "()I"⟩, prog_1_method_29_code, 2, (some .int))
theorem mi_W_text : MV m_W_text 0 := ⟨memTB _ [633, 634, 59, 635] (by decide +kernel) (by decide +kernel), ⟨by decide +kernel, ⟨by decide +kernel, by decide +kernel⟩, by decide +kernel, by decide +kernel⟩⟩
abbrev m_W_textTold : MI := (⟨"NotWorn", "textTold", "(II)I"⟩, prog_1_method_30_code, 3, (some .int))
theorem mi_W_textTold : MV m_W_textTold 2 := ⟨memTB _ [825, 826, 59, 827] (by decide +kernel) (by decide +kernel), ⟨by decide +kernel, ⟨by decide +kernel, by decide +kernel⟩, by decide +kernel, by decide +kernel⟩⟩
abbrev m_W_why : MI := (⟨"NotWorn", "why", "(I)I"⟩, prog_1_method_31_code, 2, (some .int))
theorem mi_W_why : MV m_W_why 1 := ⟨memTB _ [833, 834, 59, 835] (by decide +kernel) (by decide +kernel), ⟨by decide +kernel, ⟨by decide +kernel, by decide +kernel⟩, by decide +kernel, by decide +kernel⟩⟩
abbrev m_W_sheet : MI := (⟨"NotWorn", "sheet", "(III)I"⟩, prog_1_method_32_code, 4, (some .int))
theorem mi_W_sheet : MV m_W_sheet 3 := ⟨memTB _ [837, 838, 59, 839] (by decide +kernel) (by decide +kernel), ⟨by decide +kernel, ⟨by decide +kernel, by decide +kernel⟩, by decide +kernel, by decide +kernel⟩⟩
abbrev m_W_mark : MI := (⟨"NotWorn", "mark", "(III)I"⟩, prog_1_method_33_code, 5, (some .int))
theorem mi_W_mark : MV m_W_mark 3 := ⟨memTB _ [846, 847, 59, 848] (by decide +kernel) (by decide +kernel), ⟨by decide +kernel, ⟨by decide +kernel, by decide +kernel⟩, by decide +kernel, by decide +kernel⟩⟩
abbrev m_W_pour : MI := (⟨"NotWorn", "pour", "(I)I"⟩, prog_1_method_34_code, 7, (some .int))
theorem mi_W_pour : MV m_W_pour 1 := ⟨memTB _ [856, 857, 59, 858] (by decide +kernel) (by decide +kernel), ⟨by decide +kernel, ⟨by decide +kernel, by decide +kernel⟩, by decide +kernel, by decide +kernel⟩⟩
abbrev m_W_reads : MI := (⟨"NotWorn", "reads", "(I)I"⟩, prog_1_method_35_code, 4, (some .int))
theorem mi_W_reads : MV m_W_reads 1 := ⟨memTB _ [861, 862, 59, 863] (by decide +kernel) (by decide +kernel), ⟨by decide +kernel, ⟨by decide +kernel, by decide +kernel⟩, by decide +kernel, by decide +kernel⟩⟩
abbrev m_W_copy : MI := (⟨"NotWorn", "copy", "(IIIII)I"⟩, prog_1_method_36_code, 8, (some .int))
theorem mi_W_copy : MV m_W_copy 5 := ⟨memTB _ [865, 866, 59, 867] (by decide +kernel) (by decide +kernel), ⟨by decide +kernel, ⟨by decide +kernel, by decide +kernel⟩, by decide +kernel, by decide +kernel⟩⟩
abbrev m_W_lay : MI := (⟨"NotWorn", "lay", "(III)I"⟩, prog_1_method_37_code, 6, (some .int))
theorem mi_W_lay : MV m_W_lay 3 := ⟨memTB _ [874, 875, 59, 876] (by decide +kernel) (by decide +kernel), ⟨by decide +kernel, ⟨by decide +kernel, by decide +kernel⟩, by decide +kernel, by decide +kernel⟩⟩
abbrev m_W_ask : MI := (⟨"NotWorn", "ask", "(II)I"⟩, prog_1_method_38_code, 4, (some .int))
theorem mi_W_ask : MV m_W_ask 2 := ⟨memTB _ [886, 887, 59, 888] (by decide +kernel) (by decide +kernel), ⟨by decide +kernel, ⟨by decide +kernel, by decide +kernel⟩, by decide +kernel, by decide +kernel⟩⟩
abbrev m_W_item : MI := (⟨"NotWorn", "item", "(II)I"⟩, prog_1_method_39_code, 4, (some .int))
theorem mi_W_item : MV m_W_item 2 := ⟨memTB _ [890, 891, 59, 892] (by decide +kernel) (by decide +kernel), ⟨by decide +kernel, ⟨by decide +kernel, by decide +kernel⟩, by decide +kernel, by decide +kernel⟩⟩
abbrev m_W_rest : MI := (⟨"NotWorn", "rest", "(II)I"⟩, prog_1_method_40_code, 4, (some .int))
theorem mi_W_rest : MV m_W_rest 2 := ⟨memTB _ [894, 895, 59, 896] (by decide +kernel) (by decide +kernel), ⟨by decide +kernel, ⟨by decide +kernel, by decide +kernel⟩, by decide +kernel, by decide +kernel⟩⟩
abbrev m_W_tell : MI := (⟨"NotWorn", "tell", "(I)I"⟩, prog_1_method_41_code, 2, (some .int))
theorem mi_W_tell : MV m_W_tell 1 := ⟨memTB _ [899, 900, 59, 901] (by decide +kernel) (by decide +kernel), ⟨by decide +kernel, ⟨by decide +kernel, by decide +kernel⟩, by decide +kernel, by decide +kernel⟩⟩
abbrev m_W_check : MI := (⟨"NotWorn", "check", "(I)I"⟩, prog_1_method_42_code, 6, (some .int))
theorem mi_W_check : MV m_W_check 1 := ⟨memTB _ [903, 904, 59, 905] (by decide +kernel) (by decide +kernel), ⟨by decide +kernel, ⟨by decide +kernel, by decide +kernel⟩, by decide +kernel, by decide +kernel⟩⟩
abbrev m_W_keep : MI := (⟨"NotWorn", "keep", "()I"⟩, prog_1_method_43_code, 1, (some .int))
theorem mi_W_keep : MV m_W_keep 0 := ⟨memTB _ [911, 912, 59, 913] (by decide +kernel) (by decide +kernel), ⟨by decide +kernel, ⟨by decide +kernel, by decide +kernel⟩, by decide +kernel, by decide +kernel⟩⟩
abbrev m_W_back : MI := (⟨"NotWorn", "back", "()I"⟩, prog_1_method_44_code, 1, (some .int))
theorem mi_W_back : MV m_W_back 0 := ⟨memTB _ [915, 916, 59, 917] (by decide +kernel) (by decide +kernel), ⟨by decide +kernel, ⟨by decide +kernel, by decide +kernel⟩, by decide +kernel, by decide +kernel⟩⟩
abbrev m_W_count : MI := (⟨"NotWorn", "count", "(I)I"⟩, prog_1_method_45_code, 2, (some .int))
theorem mi_W_count : MV m_W_count 1 := ⟨memTB _ [919, 920, 59, 921] (by decide +kernel) (by decide +kernel), ⟨by decide +kernel, ⟨by decide +kernel, by decide +kernel⟩, by decide +kernel, by decide +kernel⟩⟩
abbrev m_W_isPerson : MI := (⟨"NotWorn", "isPerson", "(I)Z"⟩, prog_1_method_46_code, 2, (some .boolean))
theorem mi_W_isPerson : MV m_W_isPerson 1 := ⟨memTB _ [366, 1, 59, 367] (by decide +kernel) (by decide +kernel), ⟨by decide +kernel, ⟨by decide +kernel, by decide +kernel⟩, by decide +kernel, by decide +kernel⟩⟩
abbrev m_W_isText : MI := (⟨"NotWorn", "isText", "(I)Z"⟩, prog_1_method_47_code, 2, (some .boolean))
theorem mi_W_isText : MV m_W_isText 1 := ⟨memTB _ [830, 22, 59, 831] (by decide +kernel) (by decide +kernel), ⟨by decide +kernel, ⟨by decide +kernel, by decide +kernel⟩, by decide +kernel, by decide +kernel⟩⟩
abbrev m_W_isBirth : MI := (⟨"NotWorn", "isBirth", "(I)Z"⟩, prog_1_method_48_code, 2, (some .boolean))
theorem mi_W_isBirth : MV m_W_isBirth 1 := ⟨memTB _ [352, 0, 59, 353] (by decide +kernel) (by decide +kernel), ⟨by decide +kernel, ⟨by decide +kernel, by decide +kernel⟩, by decide +kernel, by decide +kernel⟩⟩
abbrev m_W_canBeBorn : MI := (⟨"NotWorn", "canBeBorn", "(II)Z"⟩, prog_1_method_49_code, 3, (some .boolean))
theorem mi_W_canBeBorn : MV m_W_canBeBorn 2 := ⟨memTB _ [406, 2, 59, 407] (by decide +kernel) (by decide +kernel), ⟨by decide +kernel, ⟨by decide +kernel, by decide +kernel⟩, by decide +kernel, by decide +kernel⟩⟩
abbrev m_W_canHaveDied : MI := (⟨"NotWorn", "canHaveDied", "(II)Z"⟩, prog_1_method_50_code, 3, (some .boolean))
theorem mi_W_canHaveDied : MV m_W_canHaveDied 2 := ⟨memTB _ [414, 3, 59, 415] (by decide +kernel) (by decide +kernel), ⟨by decide +kernel, ⟨by decide +kernel, by decide +kernel⟩, by decide +kernel, by decide +kernel⟩⟩
abbrev m_W_isName : MI := (⟨"NotWorn", "isName", "(I)Z"⟩, prog_1_method_51_code, 1, (some .boolean))
theorem mi_W_isName : MS m_W_isName 1 := ⟨memTB _ [348, 59, 349] (by decide +kernel) (by decide +kernel), ⟨by decide +kernel, ⟨by decide +kernel, by decide +kernel⟩, by decide +kernel, by decide +kernel⟩⟩
abbrev m_W_isAskedYear : MI := (⟨"NotWorn", "isAskedYear", "(I)Z"⟩, prog_1_method_52_code, 1, (some .boolean))
theorem mi_W_isAskedYear : MS m_W_isAskedYear 1 := ⟨memTB _ [422, 59, 423] (by decide +kernel) (by decide +kernel), ⟨by decide +kernel, ⟨by decide +kernel, by decide +kernel⟩, by decide +kernel, by decide +kernel⟩⟩
abbrev m_W_isSheet : MI := (⟨"NotWorn", "isSheet", "(I)Z"⟩, prog_1_method_53_code, 1, (some .boolean))
theorem mi_W_isSheet : MS m_W_isSheet 1 := ⟨memTB _ [608, 59, 609] (by decide +kernel) (by decide +kernel), ⟨by decide +kernel, ⟨by decide +kernel, by decide +kernel⟩, by decide +kernel, by decide +kernel⟩⟩
abbrev m_W_isSlot : MI := (⟨"NotWorn", "isSlot", "(I)Z"⟩, prog_1_method_54_code, 1, (some .boolean))
theorem mi_W_isSlot : MS m_W_isSlot 1 := ⟨memTB _ [878, 59, 879] (by decide +kernel) (by decide +kernel), ⟨by decide +kernel, ⟨by decide +kernel, by decide +kernel⟩, by decide +kernel, by decide +kernel⟩⟩
abbrev m_W_bit : MI := (⟨"NotWorn", "bit", "(Z)I"⟩, prog_1_method_55_code, 1, (some .int))
theorem mi_W_bit : MS m_W_bit 1 := ⟨memTB _ [377, 59, 378] (by decide +kernel) (by decide +kernel), ⟨by decide +kernel, ⟨by decide +kernel, by decide +kernel⟩, by decide +kernel, by decide +kernel⟩⟩
abbrev m_W_replace : MI := (⟨"NotWorn", "replace", "([III)I"⟩, prog_1_method_56_code, 4, (some .int))
theorem mi_W_replace : MS m_W_replace 3 := ⟨memTB _ [402, 59, 403] (by decide +kernel) (by decide +kernel), ⟨by decide +kernel, ⟨by decide +kernel, by decide +kernel⟩, by decide +kernel, by decide +kernel⟩⟩
abbrev m_W_isNearGiven : MI := (⟨"NotWorn", "isNearGiven", "(II)Z"⟩, prog_1_method_57_code, 4, (some .boolean))
theorem mi_W_isNearGiven : MV m_W_isNearGiven 2 := ⟨memTB _ [613, 9, 59, 614] (by decide +kernel) (by decide +kernel), ⟨by decide +kernel, ⟨by decide +kernel, by decide +kernel⟩, by decide +kernel, by decide +kernel⟩⟩
abbrev m_W_waitedAt : MI := (⟨"NotWorn", "waitedAt", "(III)Z"⟩, prog_1_method_58_code, 4, (some .boolean))
theorem mi_W_waitedAt : MV m_W_waitedAt 3 := ⟨memTB _ [908, 23, 59, 909] (by decide +kernel) (by decide +kernel), ⟨by decide +kernel, ⟨by decide +kernel, by decide +kernel⟩, by decide +kernel, by decide +kernel⟩⟩
abbrev m_M_init : MI := (⟨"NotWornModel", "<init>", "()V"⟩, prog_12_method_1_code, 1, none)
abbrev m_M_in : MI := (⟨"NotWornModel", "in", "(III)Z"⟩, prog_12_method_2_code, 3, (some .boolean))
theorem mi_M_in : MS m_M_in 3 := ⟨memTB _ [1049, 67, 1050] (by decide +kernel) (by decide +kernel), ⟨by decide +kernel, ⟨by decide +kernel, by decide +kernel⟩, by decide +kernel, by decide +kernel⟩⟩
abbrev m_M_within : MI := (⟨"NotWornModel", "within", "(III)I"⟩, prog_12_method_3_code, 3, (some .int))
theorem mi_M_within : MS m_M_within 3 := ⟨memTB _ [1229, 67, 1230] (by decide +kernel) (by decide +kernel), ⟨by decide +kernel, ⟨by decide +kernel, by decide +kernel⟩, by decide +kernel, by decide +kernel⟩⟩
abbrev m_M_copyAll : MI := (⟨"NotWornModel", "copyAll", "([I[I)V"⟩, prog_12_method_4_code, 3, none)
theorem mi_M_copyAll : MS m_M_copyAll 2 := ⟨memTB _ [1386, 67, 1387] (by decide +kernel) (by decide +kernel), ⟨by decide +kernel, ⟨by decide +kernel, by decide +kernel⟩, by decide +kernel, by decide +kernel⟩⟩
abbrev m_M_isOne : MI := (⟨"NotWornModel", "isOne", "(I)Z"⟩, prog_12_method_5_code, 2, (some .boolean))
theorem mi_M_isOne : MV m_M_isOne 1 := ⟨memTB _ [1067, 25, 67, 1068] (by decide +kernel) (by decide +kernel), ⟨by decide +kernel, ⟨by decide +kernel, by decide +kernel⟩, by decide +kernel, by decide +kernel⟩⟩
abbrev m_M_isCalled : MI := (⟨"NotWornModel", "isCalled", "(I)Z"⟩, prog_12_method_6_code, 1, (some .boolean))
theorem mi_M_isCalled : MS m_M_isCalled 1 := ⟨memTB _ [1052, 67, 1053] (by decide +kernel) (by decide +kernel), ⟨by decide +kernel, ⟨by decide +kernel, by decide +kernel⟩, by decide +kernel, by decide +kernel⟩⟩
abbrev m_M_of : MI := (⟨"NotWornModel", "of", "(II)I"⟩, prog_12_method_7_code, 3, (some .int))
theorem mi_M_of : MV m_M_of 2 := ⟨memTB _ [1071, 26, 67, 1072] (by decide +kernel) (by decide +kernel), ⟨by decide +kernel, ⟨by decide +kernel, by decide +kernel⟩, by decide +kernel, by decide +kernel⟩⟩
abbrev m_M_isAlive : MI := (⟨"NotWornModel", "isAlive", "(I)Z"⟩, prog_12_method_8_code, 2, (some .boolean))
theorem mi_M_isAlive : MV m_M_isAlive 1 := ⟨memTB _ [1079, 28, 67, 1080] (by decide +kernel) (by decide +kernel), ⟨by decide +kernel, ⟨by decide +kernel, by decide +kernel⟩, by decide +kernel, by decide +kernel⟩⟩
abbrev m_M_becomes : MI := (⟨"NotWornModel", "becomes", "(II)I"⟩, prog_12_method_9_code, 4, (some .int))
theorem mi_M_becomes : MV m_M_becomes 2 := ⟨memTB _ [1099, 30, 67, 1100] (by decide +kernel) (by decide +kernel), ⟨by decide +kernel, ⟨by decide +kernel, by decide +kernel⟩, by decide +kernel, by decide +kernel⟩⟩
abbrev m_M_comes : MI := (⟨"NotWornModel", "comes", "(III)I"⟩, prog_12_method_10_code, 5, (some .int))
theorem mi_M_comes : MV m_M_comes 3 := ⟨memTB _ [1058, 24, 67, 1059] (by decide +kernel) (by decide +kernel), ⟨by decide +kernel, ⟨by decide +kernel, by decide +kernel⟩, by decide +kernel, by decide +kernel⟩⟩
abbrev m_M_person : MI := (⟨"NotWornModel", "person", "(III)I"⟩, prog_12_method_11_code, 4, (some .int))
theorem mi_M_person : MV m_M_person 3 := ⟨memTB _ [1045, 1046, 67, 1047] (by decide +kernel) (by decide +kernel), ⟨by decide +kernel, ⟨by decide +kernel, by decide +kernel⟩, by decide +kernel, by decide +kernel⟩⟩
abbrev m_M_doesHold : MI := (⟨"NotWornModel", "doesHold", "(II)Z"⟩, prog_12_method_12_code, 8, (some .boolean))
theorem mi_M_doesHold : MV m_M_doesHold 2 := ⟨memTB _ [1075, 27, 67, 1076] (by decide +kernel) (by decide +kernel), ⟨by decide +kernel, ⟨by decide +kernel, by decide +kernel⟩, by decide +kernel, by decide +kernel⟩⟩
abbrev m_M_worthOf : MI := (⟨"NotWornModel", "worthOf", "(I)I"⟩, prog_12_method_13_code, 3, (some .int))
theorem mi_M_worthOf : MV m_M_worthOf 1 := ⟨memTB _ [1083, 29, 67, 1084] (by decide +kernel) (by decide +kernel), ⟨by decide +kernel, ⟨by decide +kernel, by decide +kernel⟩, by decide +kernel, by decide +kernel⟩⟩
abbrev m_M_told : MI := (⟨"NotWornModel", "told", "(II)I"⟩, prog_12_method_14_code, 3, (some .int))
theorem mi_M_told : MV m_M_told 2 := ⟨memTB _ [1062, 1063, 67, 1064] (by decide +kernel) (by decide +kernel), ⟨by decide +kernel, ⟨by decide +kernel, by decide +kernel⟩, by decide +kernel, by decide +kernel⟩⟩
abbrev m_M_isUnder : MI := (⟨"NotWornModel", "isUnder", "(II)Z"⟩, prog_12_method_15_code, 2, (some .boolean))
theorem mi_M_isUnder : MS m_M_isUnder 2 := ⟨memTB _ [1090, 67, 1091] (by decide +kernel) (by decide +kernel), ⟨by decide +kernel, ⟨by decide +kernel, by decide +kernel⟩, by decide +kernel, by decide +kernel⟩⟩
abbrev m_M_as : MI := (⟨"NotWornModel", "as", "(II)I"⟩, prog_12_method_16_code, 3, (some .int))
theorem mi_M_as : MV m_M_as 2 := ⟨memTB _ [1086, 1087, 67, 1088] (by decide +kernel) (by decide +kernel), ⟨by decide +kernel, ⟨by decide +kernel, by decide +kernel⟩, by decide +kernel, by decide +kernel⟩⟩
abbrev m_M_turns : MI := (⟨"NotWornModel", "turns", "(II)I"⟩, prog_12_method_17_code, 3, (some .int))
theorem mi_M_turns : MV m_M_turns 2 := ⟨memTB _ [1094, 1095, 67, 1096] (by decide +kernel) (by decide +kernel), ⟨by decide +kernel, ⟨by decide +kernel, by decide +kernel⟩, by decide +kernel, by decide +kernel⟩⟩
abbrev m_M_set : MI := (⟨"NotWornModel", "set", "(III)I"⟩, prog_12_method_18_code, 5, (some .int))
theorem mi_M_set : MV m_M_set 3 := ⟨memTB _ [1102, 1103, 67, 1104] (by decide +kernel) (by decide +kernel), ⟨by decide +kernel, ⟨by decide +kernel, by decide +kernel⟩, by decide +kernel, by decide +kernel⟩⟩
abbrev m_M_isYear : MI := (⟨"NotWornModel", "isYear", "(I)Z"⟩, prog_12_method_19_code, 1, (some .boolean))
theorem mi_M_isYear : MS m_M_isYear 1 := ⟨memTB _ [1110, 67, 1111] (by decide +kernel) (by decide +kernel), ⟨by decide +kernel, ⟨by decide +kernel, by decide +kernel⟩, by decide +kernel, by decide +kernel⟩⟩
abbrev m_M_holds : MI := (⟨"NotWornModel", "holds", "(II)I"⟩, prog_12_method_20_code, 3, (some .int))
theorem mi_M_holds : MV m_M_holds 2 := ⟨memTB _ [1106, 1107, 67, 1108] (by decide +kernel) (by decide +kernel), ⟨by decide +kernel, ⟨by decide +kernel, by decide +kernel⟩, by decide +kernel, by decide +kernel⟩⟩
abbrev m_M_apartOf : MI := (⟨"NotWornModel", "apartOf", "(II)I"⟩, prog_12_method_21_code, 2, (some .int))
theorem mi_M_apartOf : MS m_M_apartOf 2 := ⟨memTB _ [1118, 67, 1119] (by decide +kernel) (by decide +kernel), ⟨by decide +kernel, ⟨by decide +kernel, by decide +kernel⟩, by decide +kernel, by decide +kernel⟩⟩
abbrev m_M_apart : MI := (⟨"NotWornModel", "apart", "(II)I"⟩, prog_12_method_22_code, 3, (some .int))
theorem mi_M_apart : MV m_M_apart 2 := ⟨memTB _ [1114, 1115, 67, 1116] (by decide +kernel) (by decide +kernel), ⟨by decide +kernel, ⟨by decide +kernel, by decide +kernel⟩, by decide +kernel, by decide +kernel⟩⟩
abbrev m_M_findNears : MI := (⟨"NotWornModel", "findNears", "()V"⟩, prog_12_method_23_code, 3, none)
theorem mi_M_findNears : MV m_M_findNears 0 := ⟨memTB _ [1126, 31, 67, 1127] (by decide +kernel) (by decide +kernel), ⟨by decide +kernel, ⟨by decide +kernel, by decide +kernel⟩, by decide +kernel, by decide +kernel⟩⟩
abbrev m_M_areNear : MI := (⟨"NotWornModel", "areNear", "(II)Z"⟩, prog_12_method_24_code, 3, (some .boolean))
theorem mi_M_areNear : MV m_M_areNear 2 := ⟨memTB _ [1141, 34, 67, 1142] (by decide +kernel) (by decide +kernel), ⟨by decide +kernel, ⟨by decide +kernel, by decide +kernel⟩, by decide +kernel, by decide +kernel⟩⟩
abbrev m_M_near : MI := (⟨"NotWornModel", "near", "(II)I"⟩, prog_12_method_25_code, 3, (some .int))
theorem mi_M_near : MV m_M_near 2 := ⟨memTB _ [1121, 1122, 67, 1123] (by decide +kernel) (by decide +kernel), ⟨by decide +kernel, ⟨by decide +kernel, by decide +kernel⟩, by decide +kernel, by decide +kernel⟩⟩
abbrev m_M_lifetime : MI := (⟨"NotWornModel", "lifetime", "(I)I"⟩, prog_12_method_26_code, 2, (some .int))
theorem mi_M_lifetime : MV m_M_lifetime 1 := ⟨memTB _ [1144, 1145, 67, 1146] (by decide +kernel) (by decide +kernel), ⟨by decide +kernel, ⟨by decide +kernel, by decide +kernel⟩, by decide +kernel, by decide +kernel⟩⟩
abbrev m_M_draw : MI := (⟨"NotWornModel", "draw", "()I"⟩, prog_12_method_27_code, 1, (some .int))
theorem mi_M_draw : MV m_M_draw 0 := ⟨memTB _ [1153, 35, 67, 1154] (by decide +kernel) (by decide +kernel), ⟨by decide +kernel, ⟨by decide +kernel, by decide +kernel⟩, by decide +kernel, by decide +kernel⟩⟩
abbrev m_M_deal : MI := (⟨"NotWornModel", "deal", "(I)I"⟩, prog_12_method_28_code, 6, (some .int))
theorem mi_M_deal : MV m_M_deal 1 := ⟨memTB _ [1148, 1149, 67, 1150] (by decide +kernel) (by decide +kernel), ⟨by decide +kernel, ⟨by decide +kernel, by decide +kernel⟩, by decide +kernel, by decide +kernel⟩⟩
abbrev m_M_seed : MI := (⟨"NotWornModel", "seed", "(I)I"⟩, prog_12_method_29_code, 2, (some .int))
theorem mi_M_seed : MV m_M_seed 1 := ⟨memTB _ [1157, 1158, 67, 1159] (by decide +kernel) (by decide +kernel), ⟨by decide +kernel, ⟨by decide +kernel, by decide +kernel⟩, by decide +kernel, by decide +kernel⟩⟩
abbrev m_M_isFree : MI := (⟨"NotWornModel", "isFree", "(II)Z"⟩, prog_12_method_30_code, 4, (some .boolean))
theorem mi_M_isFree : MV m_M_isFree 2 := ⟨memTB _ [1166, 36, 67, 1167] (by decide +kernel) (by decide +kernel), ⟨by decide +kernel, ⟨by decide +kernel, by decide +kernel⟩, by decide +kernel, by decide +kernel⟩⟩
abbrev m_M_free : MI := (⟨"NotWornModel", "free", "(II)I"⟩, prog_12_method_31_code, 3, (some .int))
theorem mi_M_free : MV m_M_free 2 := ⟨memTB _ [1161, 1162, 67, 1163] (by decide +kernel) (by decide +kernel), ⟨by decide +kernel, ⟨by decide +kernel, by decide +kernel⟩, by decide +kernel, by decide +kernel⟩⟩
abbrev m_M_freeMany : MI := (⟨"NotWornModel", "freeMany", "()I"⟩, prog_12_method_32_code, 3, (some .int))
theorem mi_M_freeMany : MV m_M_freeMany 0 := ⟨memTB _ [1174, 37, 67, 1175] (by decide +kernel) (by decide +kernel), ⟨by decide +kernel, ⟨by decide +kernel, by decide +kernel⟩, by decide +kernel, by decide +kernel⟩⟩
abbrev m_M_leastFree : MI := (⟨"NotWornModel", "leastFree", "()I"⟩, prog_12_method_33_code, 2, (some .int))
theorem mi_M_leastFree : MV m_M_leastFree 0 := ⟨memTB _ [1178, 38, 67, 1179] (by decide +kernel) (by decide +kernel), ⟨by decide +kernel, ⟨by decide +kernel, by decide +kernel⟩, by decide +kernel, by decide +kernel⟩⟩
abbrev m_M_frees : MI := (⟨"NotWornModel", "frees", "(I)I"⟩, prog_12_method_34_code, 2, (some .int))
theorem mi_M_frees : MV m_M_frees 1 := ⟨memTB _ [1169, 1170, 67, 1171] (by decide +kernel) (by decide +kernel), ⟨by decide +kernel, ⟨by decide +kernel, by decide +kernel⟩, by decide +kernel, by decide +kernel⟩⟩
abbrev m_M_soonest : MI := (⟨"NotWornModel", "soonest", "(I)I"⟩, prog_12_method_35_code, 3, (some .int))
theorem mi_M_soonest : MV m_M_soonest 1 := ⟨memTB _ [1181, 1182, 67, 1183] (by decide +kernel) (by decide +kernel), ⟨by decide +kernel, ⟨by decide +kernel, by decide +kernel⟩, by decide +kernel, by decide +kernel⟩⟩
abbrev m_M_child : MI := (⟨"NotWornModel", "child", "(II)I"⟩, prog_12_method_36_code, 3, (some .int))
theorem mi_M_child : MV m_M_child 2 := ⟨memTB _ [1185, 1186, 67, 1187] (by decide +kernel) (by decide +kernel), ⟨by decide +kernel, ⟨by decide +kernel, by decide +kernel⟩, by decide +kernel, by decide +kernel⟩⟩
abbrev m_M_forget : MI := (⟨"NotWornModel", "forget", "()I"⟩, prog_12_method_37_code, 1, (some .int))
theorem mi_M_forget : MV m_M_forget 0 := ⟨memTB _ [1189, 1190, 67, 1191] (by decide +kernel) (by decide +kernel), ⟨by decide +kernel, ⟨by decide +kernel, by decide +kernel⟩, by decide +kernel, by decide +kernel⟩⟩
abbrev m_M_mayHave : MI := (⟨"NotWornModel", "mayHave", "(II)Z"⟩, prog_12_method_38_code, 4, (some .boolean))
theorem mi_M_mayHave : MV m_M_mayHave 2 := ⟨memTB _ [1206, 41, 67, 1207] (by decide +kernel) (by decide +kernel), ⟨by decide +kernel, ⟨by decide +kernel, by decide +kernel⟩, by decide +kernel, by decide +kernel⟩⟩
abbrev m_M_deals : MI := (⟨"NotWornModel", "deals", "(III)V"⟩, prog_12_method_39_code, 6, none)
theorem mi_M_deals : MV m_M_deals 3 := ⟨memTB _ [1202, 40, 67, 1203] (by decide +kernel) (by decide +kernel), ⟨by decide +kernel, ⟨by decide +kernel, by decide +kernel⟩, by decide +kernel, by decide +kernel⟩⟩
abbrev m_M_findDealing : MI := (⟨"NotWornModel", "findDealing", "()V"⟩, prog_12_method_40_code, 1, none)
theorem mi_M_findDealing : MV m_M_findDealing 0 := ⟨memTB _ [1198, 39, 67, 1199] (by decide +kernel) (by decide +kernel), ⟨by decide +kernel, ⟨by decide +kernel, by decide +kernel⟩, by decide +kernel, by decide +kernel⟩⟩
abbrev m_M_dealing : MI := (⟨"NotWornModel", "dealing", "(I)I"⟩, prog_12_method_41_code, 2, (some .int))
theorem mi_M_dealing : MV m_M_dealing 1 := ⟨memTB _ [1193, 1194, 67, 1195] (by decide +kernel) (by decide +kernel), ⟨by decide +kernel, ⟨by decide +kernel, by decide +kernel⟩, by decide +kernel, by decide +kernel⟩⟩
abbrev m_M_christen : MI := (⟨"NotWornModel", "christen", "()I"⟩, prog_12_method_42_code, 3, (some .int))
theorem mi_M_christen : MV m_M_christen 0 := ⟨memTB _ [1209, 1210, 67, 1211] (by decide +kernel) (by decide +kernel), ⟨by decide +kernel, ⟨by decide +kernel, by decide +kernel⟩, by decide +kernel, by decide +kernel⟩⟩
abbrev m_M_yields : MI := (⟨"NotWornModel", "yields", "(I)I"⟩, prog_12_method_43_code, 4, (some .int))
theorem mi_M_yields : MV m_M_yields 1 := ⟨memTB _ [1213, 1214, 67, 1215] (by decide +kernel) (by decide +kernel), ⟨by decide +kernel, ⟨by decide +kernel, by decide +kernel⟩, by decide +kernel, by decide +kernel⟩⟩
abbrev m_M_diesBy : MI := (⟨"NotWornModel", "diesBy", "(I)I"⟩, prog_12_method_44_code, 4, (some .int))
theorem mi_M_diesBy : MV m_M_diesBy 1 := ⟨memTB _ [1226, 43, 67, 1227] (by decide +kernel) (by decide +kernel), ⟨by decide +kernel, ⟨by decide +kernel, by decide +kernel⟩, by decide +kernel, by decide +kernel⟩⟩
abbrev m_M_year : MI := (⟨"NotWornModel", "year", "()I"⟩, prog_12_method_45_code, 3, (some .int))
theorem mi_M_year : MV m_M_year 0 := ⟨memTB _ [1222, 42, 67, 1223] (by decide +kernel) (by decide +kernel), ⟨by decide +kernel, ⟨by decide +kernel, by decide +kernel⟩, by decide +kernel, by decide +kernel⟩⟩
abbrev m_M_years : MI := (⟨"NotWornModel", "years", "(I)I"⟩, prog_12_method_46_code, 4, (some .int))
theorem mi_M_years : MV m_M_years 1 := ⟨memTB _ [1217, 1218, 67, 1219] (by decide +kernel) (by decide +kernel), ⟨by decide +kernel, ⟨by decide +kernel, by decide +kernel⟩, by decide +kernel, by decide +kernel⟩⟩
abbrev m_M_aliveMany : MI := (⟨"NotWornModel", "aliveMany", "()I"⟩, prog_12_method_47_code, 3, (some .int))
theorem mi_M_aliveMany : MV m_M_aliveMany 0 := ⟨memTB _ [1241, 45, 67, 1242] (by decide +kernel) (by decide +kernel), ⟨by decide +kernel, ⟨by decide +kernel, by decide +kernel⟩, by decide +kernel, by decide +kernel⟩⟩
abbrev m_M_thinks : MI := (⟨"NotWornModel", "thinks", "()V"⟩, prog_12_method_48_code, 2, none)
theorem mi_M_thinks : MV m_M_thinks 0 := ⟨memTB _ [1237, 44, 67, 1238] (by decide +kernel) (by decide +kernel), ⟨by decide +kernel, ⟨by decide +kernel, by decide +kernel⟩, by decide +kernel, by decide +kernel⟩⟩
abbrev m_M_putsBack : MI := (⟨"NotWornModel", "putsBack", "()V"⟩, prog_12_method_49_code, 2, none)
theorem mi_M_putsBack : MV m_M_putsBack 0 := ⟨memTB _ [1245, 46, 67, 1246] (by decide +kernel) (by decide +kernel), ⟨by decide +kernel, ⟨by decide +kernel, by decide +kernel⟩, by decide +kernel, by decide +kernel⟩⟩
abbrev m_M_behind : MI := (⟨"NotWornModel", "behind", "(II)I"⟩, prog_12_method_50_code, 5, (some .int))
theorem mi_M_behind : MV m_M_behind 2 := ⟨memTB _ [1232, 1233, 67, 1234] (by decide +kernel) (by decide +kernel), ⟨by decide +kernel, ⟨by decide +kernel, by decide +kernel⟩, by decide +kernel, by decide +kernel⟩⟩
abbrev m_M_ends : MI := (⟨"NotWornModel", "ends", "()I"⟩, prog_12_method_51_code, 3, (some .int))
theorem mi_M_ends : MV m_M_ends 0 := ⟨memTB _ [1248, 1249, 67, 1250] (by decide +kernel) (by decide +kernel), ⟨by decide +kernel, ⟨by decide +kernel, by decide +kernel⟩, by decide +kernel, by decide +kernel⟩⟩
abbrev m_M_stays : MI := (⟨"NotWornModel", "stays", "(II)I"⟩, prog_12_method_52_code, 6, (some .int))
theorem mi_M_stays : MV m_M_stays 2 := ⟨memTB _ [1252, 1253, 67, 1254] (by decide +kernel) (by decide +kernel), ⟨by decide +kernel, ⟨by decide +kernel, by decide +kernel⟩, by decide +kernel, by decide +kernel⟩⟩
abbrev m_M_isNearEarlier : MI := (⟨"NotWornModel", "isNearEarlier", "(II)Z"⟩, prog_12_method_53_code, 6, (some .boolean))
theorem mi_M_isNearEarlier : MV m_M_isNearEarlier 2 := ⟨memTB _ [1265, 47, 67, 1266] (by decide +kernel) (by decide +kernel), ⟨by decide +kernel, ⟨by decide +kernel, by decide +kernel⟩, by decide +kernel, by decide +kernel⟩⟩
abbrev m_M_line : MI := (⟨"NotWornModel", "line", "(I)I"⟩, prog_12_method_54_code, 4, (some .int))
theorem mi_M_line : MV m_M_line 1 := ⟨memTB _ [1256, 1257, 67, 1258] (by decide +kernel) (by decide +kernel), ⟨by decide +kernel, ⟨by decide +kernel, by decide +kernel⟩, by decide +kernel, by decide +kernel⟩⟩
abbrev m_M_fine : MI := (⟨"NotWornModel", "fine", "()I"⟩, prog_12_method_55_code, 2, (some .int))
theorem mi_M_fine : MV m_M_fine 0 := ⟨memTB _ [1268, 1269, 67, 1270] (by decide +kernel) (by decide +kernel), ⟨by decide +kernel, ⟨by decide +kernel, by decide +kernel⟩, by decide +kernel, by decide +kernel⟩⟩
abbrev m_M_feed : MI := (⟨"NotWornModel", "feed", "(III)I"⟩, prog_12_method_56_code, 6, (some .int))
theorem mi_M_feed : MV m_M_feed 3 := ⟨memTB _ [1272, 1273, 67, 1274] (by decide +kernel) (by decide +kernel), ⟨by decide +kernel, ⟨by decide +kernel, by decide +kernel⟩, by decide +kernel, by decide +kernel⟩⟩
abbrev m_M_trim : MI := (⟨"NotWornModel", "trim", "(I)I"⟩, prog_12_method_57_code, 2, (some .int))
theorem mi_M_trim : MV m_M_trim 1 := ⟨memTB _ [1276, 1277, 67, 1278] (by decide +kernel) (by decide +kernel), ⟨by decide +kernel, ⟨by decide +kernel, by decide +kernel⟩, by decide +kernel, by decide +kernel⟩⟩
abbrev m_M_isLetter : MI := (⟨"NotWornModel", "isLetter", "(I)Z"⟩, prog_12_method_58_code, 2, (some .boolean))
theorem mi_M_isLetter : MV m_M_isLetter 1 := ⟨memTB _ [1289, 49, 67, 1290] (by decide +kernel) (by decide +kernel), ⟨by decide +kernel, ⟨by decide +kernel, by decide +kernel⟩, by decide +kernel, by decide +kernel⟩⟩
abbrev m_M_isFigure : MI := (⟨"NotWornModel", "isFigure", "(I)Z"⟩, prog_12_method_59_code, 2, (some .boolean))
theorem mi_M_isFigure : MV m_M_isFigure 1 := ⟨memTB _ [1293, 50, 67, 1294] (by decide +kernel) (by decide +kernel), ⟨by decide +kernel, ⟨by decide +kernel, by decide +kernel⟩, by decide +kernel, by decide +kernel⟩⟩
abbrev m_M_go : MI := (⟨"NotWornModel", "go", "()V"⟩, prog_12_method_60_code, 2, none)
theorem mi_M_go : MV m_M_go 0 := ⟨memTB _ [1285, 48, 67, 1286] (by decide +kernel) (by decide +kernel), ⟨by decide +kernel, ⟨by decide +kernel, by decide +kernel⟩, by decide +kernel, by decide +kernel⟩⟩
abbrev m_M_takesKey : MI := (⟨"NotWornModel", "takesKey", "()Z"⟩, prog_12_method_61_code, 5, (some .boolean))
theorem mi_M_takesKey : MV m_M_takesKey 0 := ⟨memTB _ [1297, 51, 67, 1298] (by decide +kernel) (by decide +kernel), ⟨by decide +kernel, ⟨by decide +kernel, by decide +kernel⟩, by decide +kernel, by decide +kernel⟩⟩
abbrev m_M_nameOf : MI := (⟨"NotWornModel", "nameOf", "(I)I"⟩, prog_12_method_62_code, 2, (some .int))
theorem mi_M_nameOf : MV m_M_nameOf 1 := ⟨memTB _ [1309, 54, 67, 1310] (by decide +kernel) (by decide +kernel), ⟨by decide +kernel, ⟨by decide +kernel, by decide +kernel⟩, by decide +kernel, by decide +kernel⟩⟩
abbrev m_M_rank : MI := (⟨"NotWornModel", "rank", "(I)I"⟩, prog_12_method_63_code, 1, (some .int))
theorem mi_M_rank : MS m_M_rank 1 := ⟨memTB _ [1316, 67, 1317] (by decide +kernel) (by decide +kernel), ⟨by decide +kernel, ⟨by decide +kernel, by decide +kernel⟩, by decide +kernel, by decide +kernel⟩⟩
abbrev m_M_settle : MI := (⟨"NotWornModel", "settle", "(I)V"⟩, prog_12_method_64_code, 2, none)
theorem mi_M_settle : MV m_M_settle 1 := ⟨memTB _ [1313, 55, 67, 1314] (by decide +kernel) (by decide +kernel), ⟨by decide +kernel, ⟨by decide +kernel, by decide +kernel⟩, by decide +kernel, by decide +kernel⟩⟩
abbrev m_M_signHere : MI := (⟨"NotWornModel", "signHere", "()I"⟩, prog_12_method_65_code, 1, (some .int))
theorem mi_M_signHere : MV m_M_signHere 0 := ⟨memTB _ [1324, 57, 67, 1325] (by decide +kernel) (by decide +kernel), ⟨by decide +kernel, ⟨by decide +kernel, by decide +kernel⟩, by decide +kernel, by decide +kernel⟩⟩
abbrev m_M_takesPart : MI := (⟨"NotWornModel", "takesPart", "()Z"⟩, prog_12_method_66_code, 2, (some .boolean))
theorem mi_M_takesPart : MV m_M_takesPart 0 := ⟨memTB _ [1305, 53, 67, 1306] (by decide +kernel) (by decide +kernel), ⟨by decide +kernel, ⟨by decide +kernel, by decide +kernel⟩, by decide +kernel, by decide +kernel⟩⟩
abbrev m_M_takesE : MI := (⟨"NotWornModel", "takesE", "()Z"⟩, prog_12_method_67_code, 5, (some .boolean))
theorem mi_M_takesE : MV m_M_takesE 0 := ⟨memTB _ [1301, 52, 67, 1302] (by decide +kernel) (by decide +kernel), ⟨by decide +kernel, ⟨by decide +kernel, by decide +kernel⟩, by decide +kernel, by decide +kernel⟩⟩
abbrev m_M_notsOpen : MI := (⟨"NotWornModel", "notsOpen", "()I"⟩, prog_12_method_68_code, 3, (some .int))
theorem mi_M_notsOpen : MV m_M_notsOpen 0 := ⟨memTB _ [1320, 56, 67, 1321] (by decide +kernel) (by decide +kernel), ⟨by decide +kernel, ⟨by decide +kernel, by decide +kernel⟩, by decide +kernel, by decide +kernel⟩⟩
abbrev m_M_text : MI := (⟨"NotWornModel", "text", "()I"⟩, prog_12_method_69_code, 4, (some .int))
theorem mi_M_text : MV m_M_text 0 := ⟨memTB _ [1280, 1281, 67, 1282] (by decide +kernel) (by decide +kernel), ⟨by decide +kernel, ⟨by decide +kernel, by decide +kernel⟩, by decide +kernel, by decide +kernel⟩⟩
abbrev m_M_textTold : MI := (⟨"NotWornModel", "textTold", "(II)I"⟩, prog_12_method_70_code, 3, (some .int))
theorem mi_M_textTold : MV m_M_textTold 2 := ⟨memTB _ [1327, 1328, 67, 1329] (by decide +kernel) (by decide +kernel), ⟨by decide +kernel, ⟨by decide +kernel, by decide +kernel⟩, by decide +kernel, by decide +kernel⟩⟩
abbrev m_M_counts : MI := (⟨"NotWornModel", "counts", "(I)I"⟩, prog_12_method_71_code, 3, (some .int))
theorem mi_M_counts : MV m_M_counts 1 := ⟨memTB _ [1130, 32, 67, 1131] (by decide +kernel) (by decide +kernel), ⟨by decide +kernel, ⟨by decide +kernel, by decide +kernel⟩, by decide +kernel, by decide +kernel⟩⟩
abbrev m_M_why : MI := (⟨"NotWornModel", "why", "(I)I"⟩, prog_12_method_72_code, 3, (some .int))
theorem mi_M_why : MV m_M_why 1 := ⟨memTB _ [1331, 1332, 67, 1333] (by decide +kernel) (by decide +kernel), ⟨by decide +kernel, ⟨by decide +kernel, by decide +kernel⟩, by decide +kernel, by decide +kernel⟩⟩
abbrev m_M_two : MI := (⟨"NotWornModel", "two", "(III)I"⟩, prog_12_method_73_code, 3, (some .int))
theorem mi_M_two : MS m_M_two 3 := ⟨memTB _ [1137, 67, 1138] (by decide +kernel) (by decide +kernel), ⟨by decide +kernel, ⟨by decide +kernel, by decide +kernel⟩, by decide +kernel, by decide +kernel⟩⟩
abbrev m_M_worksOut : MI := (⟨"NotWornModel", "worksOut", "(I)I"⟩, prog_12_method_74_code, 6, (some .int))
theorem mi_M_worksOut : MV m_M_worksOut 1 := ⟨memTB _ [1134, 33, 67, 1135] (by decide +kernel) (by decide +kernel), ⟨by decide +kernel, ⟨by decide +kernel, by decide +kernel⟩, by decide +kernel, by decide +kernel⟩⟩
abbrev m_M_isSheet : MI := (⟨"NotWornModel", "isSheet", "(I)Z"⟩, prog_12_method_75_code, 1, (some .boolean))
theorem mi_M_isSheet : MS m_M_isSheet 1 := ⟨memTB _ [1260, 67, 1261] (by decide +kernel) (by decide +kernel), ⟨by decide +kernel, ⟨by decide +kernel, by decide +kernel⟩, by decide +kernel, by decide +kernel⟩⟩
abbrev m_M_isSlot : MI := (⟨"NotWornModel", "isSlot", "(I)Z"⟩, prog_12_method_76_code, 1, (some .boolean))
theorem mi_M_isSlot : MS m_M_isSlot 1 := ⟨memTB _ [1362, 67, 1363] (by decide +kernel) (by decide +kernel), ⟨by decide +kernel, ⟨by decide +kernel, by decide +kernel⟩, by decide +kernel, by decide +kernel⟩⟩
abbrev m_M_sheet : MI := (⟨"NotWornModel", "sheet", "(III)I"⟩, prog_12_method_77_code, 5, (some .int))
theorem mi_M_sheet : MV m_M_sheet 3 := ⟨memTB _ [1335, 1336, 67, 1337] (by decide +kernel) (by decide +kernel), ⟨by decide +kernel, ⟨by decide +kernel, by decide +kernel⟩, by decide +kernel, by decide +kernel⟩⟩
abbrev m_M_mark : MI := (⟨"NotWornModel", "mark", "(III)I"⟩, prog_12_method_78_code, 4, (some .int))
theorem mi_M_mark : MV m_M_mark 3 := ⟨memTB _ [1340, 1341, 67, 1342] (by decide +kernel) (by decide +kernel), ⟨by decide +kernel, ⟨by decide +kernel, by decide +kernel⟩, by decide +kernel, by decide +kernel⟩⟩
abbrev m_M_pour : MI := (⟨"NotWornModel", "pour", "(I)I"⟩, prog_12_method_79_code, 6, (some .int))
theorem mi_M_pour : MV m_M_pour 1 := ⟨memTB _ [1346, 1347, 67, 1348] (by decide +kernel) (by decide +kernel), ⟨by decide +kernel, ⟨by decide +kernel, by decide +kernel⟩, by decide +kernel, by decide +kernel⟩⟩
abbrev m_M_reads : MI := (⟨"NotWornModel", "reads", "(I)I"⟩, prog_12_method_80_code, 4, (some .int))
theorem mi_M_reads : MV m_M_reads 1 := ⟨memTB _ [1350, 1351, 67, 1352] (by decide +kernel) (by decide +kernel), ⟨by decide +kernel, ⟨by decide +kernel, by decide +kernel⟩, by decide +kernel, by decide +kernel⟩⟩
abbrev m_M_copy : MI := (⟨"NotWornModel", "copy", "(IIIII)I"⟩, prog_12_method_81_code, 7, (some .int))
theorem mi_M_copy : MV m_M_copy 5 := ⟨memTB _ [1354, 1355, 67, 1356] (by decide +kernel) (by decide +kernel), ⟨by decide +kernel, ⟨by decide +kernel, by decide +kernel⟩, by decide +kernel, by decide +kernel⟩⟩
abbrev m_M_lay : MI := (⟨"NotWornModel", "lay", "(III)I"⟩, prog_12_method_82_code, 6, (some .int))
theorem mi_M_lay : MV m_M_lay 3 := ⟨memTB _ [1358, 1359, 67, 1360] (by decide +kernel) (by decide +kernel), ⟨by decide +kernel, ⟨by decide +kernel, by decide +kernel⟩, by decide +kernel, by decide +kernel⟩⟩
abbrev m_M_ask : MI := (⟨"NotWornModel", "ask", "(II)I"⟩, prog_12_method_83_code, 3, (some .int))
theorem mi_M_ask : MV m_M_ask 2 := ⟨memTB _ [1365, 1366, 67, 1367] (by decide +kernel) (by decide +kernel), ⟨by decide +kernel, ⟨by decide +kernel, by decide +kernel⟩, by decide +kernel, by decide +kernel⟩⟩
abbrev m_M_item : MI := (⟨"NotWornModel", "item", "(II)I"⟩, prog_12_method_84_code, 4, (some .int))
theorem mi_M_item : MV m_M_item 2 := ⟨memTB _ [1369, 1370, 67, 1371] (by decide +kernel) (by decide +kernel), ⟨by decide +kernel, ⟨by decide +kernel, by decide +kernel⟩, by decide +kernel, by decide +kernel⟩⟩
abbrev m_M_rest : MI := (⟨"NotWornModel", "rest", "(II)I"⟩, prog_12_method_85_code, 3, (some .int))
theorem mi_M_rest : MV m_M_rest 2 := ⟨memTB _ [1373, 1374, 67, 1375] (by decide +kernel) (by decide +kernel), ⟨by decide +kernel, ⟨by decide +kernel, by decide +kernel⟩, by decide +kernel, by decide +kernel⟩⟩
abbrev m_M_tell : MI := (⟨"NotWornModel", "tell", "(I)I"⟩, prog_12_method_86_code, 2, (some .int))
theorem mi_M_tell : MV m_M_tell 1 := ⟨memTB _ [1378, 1379, 67, 1380] (by decide +kernel) (by decide +kernel), ⟨by decide +kernel, ⟨by decide +kernel, by decide +kernel⟩, by decide +kernel, by decide +kernel⟩⟩
abbrev m_M_check : MI := (⟨"NotWornModel", "check", "(I)I"⟩, prog_12_method_87_code, 7, (some .int))
theorem mi_M_check : MV m_M_check 1 := ⟨memTB _ [1382, 1383, 67, 1384] (by decide +kernel) (by decide +kernel), ⟨by decide +kernel, ⟨by decide +kernel, by decide +kernel⟩, by decide +kernel, by decide +kernel⟩⟩
abbrev m_M_keep : MI := (⟨"NotWornModel", "keep", "()I"⟩, prog_12_method_88_code, 1, (some .int))
theorem mi_M_keep : MV m_M_keep 0 := ⟨memTB _ [1389, 1390, 67, 1391] (by decide +kernel) (by decide +kernel), ⟨by decide +kernel, ⟨by decide +kernel, by decide +kernel⟩, by decide +kernel, by decide +kernel⟩⟩
abbrev m_M_back : MI := (⟨"NotWornModel", "back", "()I"⟩, prog_12_method_89_code, 1, (some .int))
theorem mi_M_back : MV m_M_back 0 := ⟨memTB _ [1393, 1394, 67, 1395] (by decide +kernel) (by decide +kernel), ⟨by decide +kernel, ⟨by decide +kernel, by decide +kernel⟩, by decide +kernel, by decide +kernel⟩⟩
abbrev m_M_count : MI := (⟨"NotWornModel", "count", "(I)I"⟩, prog_12_method_90_code, 2, (some .int))
theorem mi_M_count : MV m_M_count 1 := ⟨memTB _ [1397, 1398, 67, 1399] (by decide +kernel) (by decide +kernel), ⟨by decide +kernel, ⟨by decide +kernel, by decide +kernel⟩, by decide +kernel, by decide +kernel⟩⟩
abbrev m_I_bitCount : MI := (⟨"java/lang/Integer", "bitCount", "(I)I"⟩, prog_14_method_49_code, 1, (some .int))
theorem mi_I_bitCount : MS m_I_bitCount 1 := ⟨memTB _ [436, 70, 437] (by decide +kernel) (by decide +kernel), ⟨by decide +kernel, ⟨by decide +kernel, by decide +kernel⟩, by decide +kernel, by decide +kernel⟩⟩
def LK (own : String) (idx : Nat) (y : MethodName) : Prop := Cond.methodLink own idx y ∈ TB
theorem lk_Law_9 : LK "NotWornLaw" 9 ⟨"NotWorn", "<init>", "()V"⟩ := memTB [.methodLink "NotWornLaw" 9 ⟨"NotWorn", "<init>", "()V"⟩] [80] rfl (by decide +kernel) _ (List.mem_singleton.mpr rfl)
theorem lk_W_1 : LK "NotWorn" 1 ⟨"java/lang/Object", "<init>", "()V"⟩ := memTB [.methodLink "NotWorn" 1 ⟨"java/lang/Object", "<init>", "()V"⟩] [83] rfl (by decide +kernel) _ (List.mem_singleton.mpr rfl)
theorem lk_W_9 : LK "NotWorn" 9 ⟨"NotWorn$Laws", "<init>", "()V"⟩ := memTB [.methodLink "NotWorn" 9 ⟨"NotWorn$Laws", "<init>", "()V"⟩] [88] rfl (by decide +kernel) _ (List.mem_singleton.mpr rfl)
theorem lk_L_3 : LK "NotWorn$Laws" 3 ⟨"java/lang/Object", "<init>", "()V"⟩ := memTB [.methodLink "NotWorn$Laws" 3 ⟨"java/lang/Object", "<init>", "()V"⟩] [91] rfl (by decide +kernel) _ (List.mem_singleton.mpr rfl)
theorem lk_X_3 : LK "NotWorn$Text" 3 ⟨"java/lang/Object", "<init>", "()V"⟩ := memTB [.methodLink "NotWorn$Text" 3 ⟨"java/lang/Object", "<init>", "()V"⟩] [98] rfl (by decide +kernel) _ (List.mem_singleton.mpr rfl)
theorem lk_V_3 : LK "NotWorn$Valley" 3 ⟨"java/lang/Object", "<init>", "()V"⟩ := memTB [.methodLink "NotWorn$Valley" 3 ⟨"java/lang/Object", "<init>", "()V"⟩] [131] rfl (by decide +kernel) _ (List.mem_singleton.mpr rfl)
theorem lk_D_3 : LK "NotWorn$Dealer" 3 ⟨"java/lang/Object", "<init>", "()V"⟩ := memTB [.methodLink "NotWorn$Dealer" 3 ⟨"java/lang/Object", "<init>", "()V"⟩] [202] rfl (by decide +kernel) _ (List.mem_singleton.mpr rfl)
theorem lk_P_3 : LK "NotWorn$Tape" 3 ⟨"java/lang/Object", "<init>", "()V"⟩ := memTB [.methodLink "NotWorn$Tape" 3 ⟨"java/lang/Object", "<init>", "()V"⟩] [231] rfl (by decide +kernel) _ (List.mem_singleton.mpr rfl)
theorem lk_R_3 : LK "NotWorn$Row" 3 ⟨"java/lang/Object", "<init>", "()V"⟩ := memTB [.methodLink "NotWorn$Row" 3 ⟨"java/lang/Object", "<init>", "()V"⟩] [264] rfl (by decide +kernel) _ (List.mem_singleton.mpr rfl)
theorem lk_S_3 : LK "NotWorn$Slot" 3 ⟨"java/lang/Object", "<init>", "()V"⟩ := memTB [.methodLink "NotWorn$Slot" 3 ⟨"java/lang/Object", "<init>", "()V"⟩] [282] rfl (by decide +kernel) _ (List.mem_singleton.mpr rfl)
theorem lk_Law_13 : LK "NotWornLaw" 13 ⟨"NotWorn", "person", "(III)I"⟩ := memTB [.methodLink "NotWornLaw" 13 ⟨"NotWorn", "person", "(III)I"⟩] [340] rfl (by decide +kernel) _ (List.mem_singleton.mpr rfl)
theorem lk_W_64 : LK "NotWorn" 64 ⟨"NotWorn$Kinds", "isKind", "(I)Z"⟩ := memTB [.methodLink "NotWorn" 64 ⟨"NotWorn$Kinds", "isKind", "(I)Z"⟩] [344] rfl (by decide +kernel) _ (List.mem_singleton.mpr rfl)
theorem lk_W_70 : LK "NotWorn" 70 ⟨"NotWorn", "isName", "(I)Z"⟩ := memTB [.methodLink "NotWorn" 70 ⟨"NotWorn", "isName", "(I)Z"⟩] [347] rfl (by decide +kernel) _ (List.mem_singleton.mpr rfl)
theorem lk_W_73 : LK "NotWorn" 73 ⟨"NotWorn", "isBirth", "(I)Z"⟩ := memTB [.methodLink "NotWorn" 73 ⟨"NotWorn", "isBirth", "(I)Z"⟩] [350] rfl (by decide +kernel) _ (List.mem_singleton.mpr rfl)
theorem lk_W_82 : LK "NotWorn" 82 ⟨"NotWorn$Valley", "enter", "(III)I"⟩ := memTB [.methodLink "NotWorn" 82 ⟨"NotWorn$Valley", "enter", "(III)I"⟩] [356] rfl (by decide +kernel) _ (List.mem_singleton.mpr rfl)
theorem lk_Law_18 : LK "NotWornLaw" 18 ⟨"NotWorn", "told", "(II)I"⟩ := memTB [.methodLink "NotWornLaw" 18 ⟨"NotWorn", "told", "(II)I"⟩] [360] rfl (by decide +kernel) _ (List.mem_singleton.mpr rfl)
theorem lk_W_86 : LK "NotWorn" 86 ⟨"NotWorn", "isPerson", "(I)Z"⟩ := memTB [.methodLink "NotWorn" 86 ⟨"NotWorn", "isPerson", "(I)Z"⟩] [364] rfl (by decide +kernel) _ (List.mem_singleton.mpr rfl)
theorem lk_W_104 : LK "NotWorn" 104 ⟨"NotWorn$Valley", "holdsIn", "(II)Z"⟩ := memTB [.methodLink "NotWorn" 104 ⟨"NotWorn$Valley", "holdsIn", "(II)Z"⟩] [368] rfl (by decide +kernel) _ (List.mem_singleton.mpr rfl)
theorem lk_V_82 : LK "NotWorn$Valley" 82 ⟨"NotWorn$Kinds", "holdsIn", "(IIIII)Z"⟩ := memTB [.methodLink "NotWorn$Valley" 82 ⟨"NotWorn$Kinds", "holdsIn", "(IIIII)Z"⟩] [372] rfl (by decide +kernel) _ (List.mem_singleton.mpr rfl)
theorem lk_W_108 : LK "NotWorn" 108 ⟨"NotWorn", "bit", "(Z)I"⟩ := memTB [.methodLink "NotWorn" 108 ⟨"NotWorn", "bit", "(Z)I"⟩] [376] rfl (by decide +kernel) _ (List.mem_singleton.mpr rfl)
theorem lk_W_112 : LK "NotWorn" 112 ⟨"NotWorn$Kinds", "worth", "(II)I"⟩ := memTB [.methodLink "NotWorn" 112 ⟨"NotWorn$Kinds", "worth", "(II)I"⟩] [379] rfl (by decide +kernel) _ (List.mem_singleton.mpr rfl)
theorem lk_Law_23 : LK "NotWornLaw" 23 ⟨"NotWorn", "as", "(II)I"⟩ := memTB [.methodLink "NotWornLaw" 23 ⟨"NotWorn", "as", "(II)I"⟩] [382] rfl (by decide +kernel) _ (List.mem_singleton.mpr rfl)
theorem lk_W_116 : LK "NotWorn" 116 ⟨"NotWorn$Kinds", "isOf", "(II)Z"⟩ := memTB [.methodLink "NotWorn" 116 ⟨"NotWorn$Kinds", "isOf", "(II)Z"⟩] [386] rfl (by decide +kernel) _ (List.mem_singleton.mpr rfl)
theorem lk_K_11 : LK "NotWorn$Kinds" 11 ⟨"NotWorn$Kinds", "isKind", "(I)Z"⟩ := memTB [.methodLink "NotWorn$Kinds" 11 ⟨"NotWorn$Kinds", "isKind", "(I)Z"⟩] [389] rfl (by decide +kernel) _ (List.mem_singleton.mpr rfl)
theorem lk_Law_27 : LK "NotWornLaw" 27 ⟨"NotWorn", "turns", "(II)I"⟩ := memTB [.methodLink "NotWornLaw" 27 ⟨"NotWorn", "turns", "(II)I"⟩] [393] rfl (by decide +kernel) _ (List.mem_singleton.mpr rfl)
theorem lk_Law_31 : LK "NotWornLaw" 31 ⟨"NotWorn", "set", "(III)I"⟩ := memTB [.methodLink "NotWornLaw" 31 ⟨"NotWorn", "set", "(III)I"⟩] [397] rfl (by decide +kernel) _ (List.mem_singleton.mpr rfl)
theorem lk_W_120 : LK "NotWorn" 120 ⟨"NotWorn", "replace", "([III)I"⟩ := memTB [.methodLink "NotWorn" 120 ⟨"NotWorn", "replace", "([III)I"⟩] [401] rfl (by decide +kernel) _ (List.mem_singleton.mpr rfl)
theorem lk_W_124 : LK "NotWorn" 124 ⟨"NotWorn", "canBeBorn", "(II)Z"⟩ := memTB [.methodLink "NotWorn" 124 ⟨"NotWorn", "canBeBorn", "(II)Z"⟩] [404] rfl (by decide +kernel) _ (List.mem_singleton.mpr rfl)
theorem lk_W_193 : LK "NotWorn" 193 ⟨"NotWorn$Valley", "isAlive", "(I)Z"⟩ := memTB [.methodLink "NotWorn" 193 ⟨"NotWorn$Valley", "isAlive", "(I)Z"⟩] [408] rfl (by decide +kernel) _ (List.mem_singleton.mpr rfl)
theorem lk_W_127 : LK "NotWorn" 127 ⟨"NotWorn", "canHaveDied", "(II)Z"⟩ := memTB [.methodLink "NotWorn" 127 ⟨"NotWorn", "canHaveDied", "(II)Z"⟩] [412] rfl (by decide +kernel) _ (List.mem_singleton.mpr rfl)
theorem lk_Law_35 : LK "NotWornLaw" 35 ⟨"NotWorn", "holds", "(II)I"⟩ := memTB [.methodLink "NotWornLaw" 35 ⟨"NotWorn", "holds", "(II)I"⟩] [417] rfl (by decide +kernel) _ (List.mem_singleton.mpr rfl)
theorem lk_W_130 : LK "NotWorn" 130 ⟨"NotWorn", "isAskedYear", "(I)Z"⟩ := memTB [.methodLink "NotWorn" 130 ⟨"NotWorn", "isAskedYear", "(I)Z"⟩] [421] rfl (by decide +kernel) _ (List.mem_singleton.mpr rfl)
theorem lk_Law_39 : LK "NotWornLaw" 39 ⟨"NotWorn", "apart", "(II)I"⟩ := memTB [.methodLink "NotWornLaw" 39 ⟨"NotWorn", "apart", "(II)I"⟩] [425] rfl (by decide +kernel) _ (List.mem_singleton.mpr rfl)
theorem lk_W_133 : LK "NotWorn" 133 ⟨"NotWorn$Letters", "alike", "(II)I"⟩ := memTB [.methodLink "NotWorn" 133 ⟨"NotWorn$Letters", "alike", "(II)I"⟩] [429] rfl (by decide +kernel) _ (List.mem_singleton.mpr rfl)
theorem lk_W_138 : LK "NotWorn" 138 ⟨"NotWorn$Letters", "unlike", "(I)I"⟩ := memTB [.methodLink "NotWorn" 138 ⟨"NotWorn$Letters", "unlike", "(I)I"⟩] [432] rfl (by decide +kernel) _ (List.mem_singleton.mpr rfl)
theorem lk_E_9 : LK "NotWorn$Letters" 9 ⟨"java/lang/Integer", "bitCount", "(I)I"⟩ := memTB [.methodLink "NotWorn$Letters" 9 ⟨"java/lang/Integer", "bitCount", "(I)I"⟩] [435] rfl (by decide +kernel) _ (List.mem_singleton.mpr rfl)
theorem lk_Law_43 : LK "NotWornLaw" 43 ⟨"NotWorn", "near", "(II)I"⟩ := memTB [.methodLink "NotWornLaw" 43 ⟨"NotWorn", "near", "(II)I"⟩] [441] rfl (by decide +kernel) _ (List.mem_singleton.mpr rfl)
theorem lk_W_142 : LK "NotWorn" 142 ⟨"NotWorn$Valley", "areNear", "(II)Z"⟩ := memTB [.methodLink "NotWorn" 142 ⟨"NotWorn$Valley", "areNear", "(II)Z"⟩] [445] rfl (by decide +kernel) _ (List.mem_singleton.mpr rfl)
theorem lk_V_86 : LK "NotWorn$Valley" 86 ⟨"NotWorn$Letters", "alike", "(II)I"⟩ := memTB [.methodLink "NotWorn$Valley" 86 ⟨"NotWorn$Letters", "alike", "(II)I"⟩] [449] rfl (by decide +kernel) _ (List.mem_singleton.mpr rfl)
theorem lk_Law_47 : LK "NotWornLaw" 47 ⟨"NotWorn", "lifetime", "(I)I"⟩ := memTB [.methodLink "NotWornLaw" 47 ⟨"NotWorn", "lifetime", "(I)I"⟩] [450] rfl (by decide +kernel) _ (List.mem_singleton.mpr rfl)
theorem lk_Law_52 : LK "NotWornLaw" 52 ⟨"NotWorn", "deal", "(I)I"⟩ := memTB [.methodLink "NotWornLaw" 52 ⟨"NotWorn", "deal", "(I)I"⟩] [454] rfl (by decide +kernel) _ (List.mem_singleton.mpr rfl)
theorem lk_W_148 : LK "NotWorn" 148 ⟨"java/lang/Math", "min", "(II)I"⟩ := memTB [.methodLink "NotWorn" 148 ⟨"java/lang/Math", "min", "(II)I"⟩] [458] rfl (by decide +kernel) _ (List.mem_singleton.mpr rfl)
theorem lk_W_153 : LK "NotWorn" 153 ⟨"NotWorn$Valley", "drawPerson", "()V"⟩ := memTB [.methodLink "NotWorn" 153 ⟨"NotWorn$Valley", "drawPerson", "()V"⟩] [461] rfl (by decide +kernel) _ (List.mem_singleton.mpr rfl)
theorem lk_V_68 : LK "NotWorn$Valley" 68 ⟨"NotWorn$Valley", "draw", "()I"⟩ := memTB [.methodLink "NotWorn$Valley" 68 ⟨"NotWorn$Valley", "draw", "()I"⟩] [465] rfl (by decide +kernel) _ (List.mem_singleton.mpr rfl)
theorem lk_V_74 : LK "NotWorn$Valley" 74 ⟨"NotWorn$Valley", "enter", "(III)I"⟩ := memTB [.methodLink "NotWorn$Valley" 74 ⟨"NotWorn$Valley", "enter", "(III)I"⟩] [470] rfl (by decide +kernel) _ (List.mem_singleton.mpr rfl)
theorem lk_Law_56 : LK "NotWornLaw" 56 ⟨"NotWorn", "seed", "(I)I"⟩ := memTB [.methodLink "NotWornLaw" 56 ⟨"NotWorn", "seed", "(I)I"⟩] [471] rfl (by decide +kernel) _ (List.mem_singleton.mpr rfl)
theorem lk_Law_60 : LK "NotWornLaw" 60 ⟨"NotWorn", "free", "(II)I"⟩ := memTB [.methodLink "NotWornLaw" 60 ⟨"NotWorn", "free", "(II)I"⟩] [475] rfl (by decide +kernel) _ (List.mem_singleton.mpr rfl)
theorem lk_W_159 : LK "NotWorn" 159 ⟨"NotWorn$Valley", "gatherHeld", "(I)V"⟩ := memTB [.methodLink "NotWorn" 159 ⟨"NotWorn$Valley", "gatherHeld", "(I)V"⟩] [479] rfl (by decide +kernel) _ (List.mem_singleton.mpr rfl)
theorem lk_V_93 : LK "NotWorn$Valley" 93 ⟨"NotWorn$Valley", "holdsIn", "(II)Z"⟩ := memTB [.methodLink "NotWorn$Valley" 93 ⟨"NotWorn$Valley", "holdsIn", "(II)Z"⟩] [483] rfl (by decide +kernel) _ (List.mem_singleton.mpr rfl)
theorem lk_W_163 : LK "NotWorn" 163 ⟨"NotWorn$Valley", "isClear", "(I)Z"⟩ := memTB [.methodLink "NotWorn" 163 ⟨"NotWorn$Valley", "isClear", "(I)Z"⟩] [484] rfl (by decide +kernel) _ (List.mem_singleton.mpr rfl)
theorem lk_V_96 : LK "NotWorn$Valley" 96 ⟨"NotWorn$Valley", "areNear", "(II)Z"⟩ := memTB [.methodLink "NotWorn$Valley" 96 ⟨"NotWorn$Valley", "areNear", "(II)Z"⟩] [488] rfl (by decide +kernel) _ (List.mem_singleton.mpr rfl)
theorem lk_Law_64 : LK "NotWornLaw" 64 ⟨"NotWorn", "frees", "(I)I"⟩ := memTB [.methodLink "NotWornLaw" 64 ⟨"NotWorn", "frees", "(I)I"⟩] [489] rfl (by decide +kernel) _ (List.mem_singleton.mpr rfl)
theorem lk_W_166 : LK "NotWorn" 166 ⟨"NotWorn$Valley", "countFree", "()I"⟩ := memTB [.methodLink "NotWorn" 166 ⟨"NotWorn$Valley", "countFree", "()I"⟩] [493] rfl (by decide +kernel) _ (List.mem_singleton.mpr rfl)
theorem lk_V_99 : LK "NotWorn$Valley" 99 ⟨"NotWorn$Valley", "gatherHeld", "(I)V"⟩ := memTB [.methodLink "NotWorn$Valley" 99 ⟨"NotWorn$Valley", "gatherHeld", "(I)V"⟩] [497] rfl (by decide +kernel) _ (List.mem_singleton.mpr rfl)
theorem lk_V_103 : LK "NotWorn$Valley" 103 ⟨"NotWorn$Valley", "isClear", "(I)Z"⟩ := memTB [.methodLink "NotWorn$Valley" 103 ⟨"NotWorn$Valley", "isClear", "(I)Z"⟩] [498] rfl (by decide +kernel) _ (List.mem_singleton.mpr rfl)
theorem lk_W_170 : LK "NotWorn" 170 ⟨"NotWorn$Valley", "leastFree", "()I"⟩ := memTB [.methodLink "NotWorn" 170 ⟨"NotWorn$Valley", "leastFree", "()I"⟩] [499] rfl (by decide +kernel) _ (List.mem_singleton.mpr rfl)
theorem lk_Law_68 : LK "NotWornLaw" 68 ⟨"NotWorn", "soonest", "(I)I"⟩ := memTB [.methodLink "NotWornLaw" 68 ⟨"NotWorn", "soonest", "(I)I"⟩] [503] rfl (by decide +kernel) _ (List.mem_singleton.mpr rfl)
theorem lk_Law_72 : LK "NotWornLaw" 72 ⟨"NotWorn", "child", "(II)I"⟩ := memTB [.methodLink "NotWornLaw" 72 ⟨"NotWorn", "child", "(II)I"⟩] [507] rfl (by decide +kernel) _ (List.mem_singleton.mpr rfl)
theorem lk_W_177 : LK "NotWorn" 177 ⟨"NotWorn$Valley", "wish", "(II)I"⟩ := memTB [.methodLink "NotWorn" 177 ⟨"NotWorn$Valley", "wish", "(II)I"⟩] [511] rfl (by decide +kernel) _ (List.mem_singleton.mpr rfl)
theorem lk_Law_76 : LK "NotWornLaw" 76 ⟨"NotWorn", "forget", "()I"⟩ := memTB [.methodLink "NotWornLaw" 76 ⟨"NotWorn", "forget", "()I"⟩] [515] rfl (by decide +kernel) _ (List.mem_singleton.mpr rfl)
theorem lk_Law_81 : LK "NotWornLaw" 81 ⟨"NotWorn", "dealing", "(I)I"⟩ := memTB [.methodLink "NotWornLaw" 81 ⟨"NotWorn", "dealing", "(I)I"⟩] [519] rfl (by decide +kernel) _ (List.mem_singleton.mpr rfl)
theorem lk_W_180 : LK "NotWorn" 180 ⟨"NotWorn$Dealer", "settle", "(LNotWorn$Valley;)V"⟩ := memTB [.methodLink "NotWorn" 180 ⟨"NotWorn$Dealer", "settle", "(LNotWorn$Valley;)V"⟩] [523] rfl (by decide +kernel) _ (List.mem_singleton.mpr rfl)
theorem lk_D_37 : LK "NotWorn$Dealer" 37 ⟨"NotWorn$Valley", "gatherHeld", "(I)V"⟩ := memTB [.methodLink "NotWorn$Dealer" 37 ⟨"NotWorn$Valley", "gatherHeld", "(I)V"⟩] [527] rfl (by decide +kernel) _ (List.mem_singleton.mpr rfl)
theorem lk_D_47 : LK "NotWorn$Dealer" 47 ⟨"NotWorn$Valley", "isClear", "(I)Z"⟩ := memTB [.methodLink "NotWorn$Dealer" 47 ⟨"NotWorn$Valley", "isClear", "(I)Z"⟩] [528] rfl (by decide +kernel) _ (List.mem_singleton.mpr rfl)
theorem lk_D_54 : LK "NotWorn$Dealer" 54 ⟨"NotWorn$Dealer", "tryFrom", "(LNotWorn$Valley;III)V"⟩ := memTB [.methodLink "NotWorn$Dealer" 54 ⟨"NotWorn$Dealer", "tryFrom", "(LNotWorn$Valley;III)V"⟩] [529] rfl (by decide +kernel) _ (List.mem_singleton.mpr rfl)
theorem lk_D_58 : LK "NotWorn$Dealer" 58 ⟨"NotWorn$Dealer", "remember", "(LNotWorn$Valley;II)V"⟩ := memTB [.methodLink "NotWorn$Dealer" 58 ⟨"NotWorn$Dealer", "remember", "(LNotWorn$Valley;II)V"⟩] [533] rfl (by decide +kernel) _ (List.mem_singleton.mpr rfl)
theorem lk_D_71 : LK "NotWorn$Dealer" 71 ⟨"java/lang/System", "arraycopy", "(Ljava/lang/Object;ILjava/lang/Object;II)V"⟩ := memTB [.methodLink "NotWorn$Dealer" 71 ⟨"java/lang/System", "arraycopy", "(Ljava/lang/Object;ILjava/lang/Object;II)V"⟩] [537] rfl (by decide +kernel) _ (List.mem_singleton.mpr rfl)
theorem lk_D_62 : LK "NotWorn$Dealer" 62 ⟨"NotWorn$Dealer", "fits", "(LNotWorn$Valley;II)Z"⟩ := memTB [.methodLink "NotWorn$Dealer" 62 ⟨"NotWorn$Dealer", "fits", "(LNotWorn$Valley;II)Z"⟩] [540] rfl (by decide +kernel) _ (List.mem_singleton.mpr rfl)
theorem lk_D_67 : LK "NotWorn$Dealer" 67 ⟨"NotWorn$Valley", "areNear", "(II)Z"⟩ := memTB [.methodLink "NotWorn$Dealer" 67 ⟨"NotWorn$Valley", "areNear", "(II)Z"⟩] [545] rfl (by decide +kernel) _ (List.mem_singleton.mpr rfl)
theorem lk_Law_85 : LK "NotWornLaw" 85 ⟨"NotWorn", "christen", "()I"⟩ := memTB [.methodLink "NotWornLaw" 85 ⟨"NotWorn", "christen", "()I"⟩] [546] rfl (by decide +kernel) _ (List.mem_singleton.mpr rfl)
theorem lk_Law_89 : LK "NotWornLaw" 89 ⟨"NotWorn", "yields", "(I)I"⟩ := memTB [.methodLink "NotWornLaw" 89 ⟨"NotWorn", "yields", "(I)I"⟩] [550] rfl (by decide +kernel) _ (List.mem_singleton.mpr rfl)
theorem lk_Law_93 : LK "NotWornLaw" 93 ⟨"NotWorn", "years", "(I)I"⟩ := memTB [.methodLink "NotWornLaw" 93 ⟨"NotWorn", "years", "(I)I"⟩] [554] rfl (by decide +kernel) _ (List.mem_singleton.mpr rfl)
theorem lk_W_196 : LK "NotWorn" 196 ⟨"NotWorn$Valley", "passYear", "(LNotWorn$Laws;)I"⟩ := memTB [.methodLink "NotWorn" 196 ⟨"NotWorn$Valley", "passYear", "(LNotWorn$Laws;)I"⟩] [558] rfl (by decide +kernel) _ (List.mem_singleton.mpr rfl)
theorem lk_V_78 : LK "NotWorn$Valley" 78 ⟨"NotWorn$Valley", "isAlive", "(I)Z"⟩ := memTB [.methodLink "NotWorn$Valley" 78 ⟨"NotWorn$Valley", "isAlive", "(I)Z"⟩] [562] rfl (by decide +kernel) _ (List.mem_singleton.mpr rfl)
theorem lk_V_106 : LK "NotWorn$Valley" 106 ⟨"NotWorn$Valley", "chanceToDie", "(ILNotWorn$Laws;)I"⟩ := memTB [.methodLink "NotWorn$Valley" 106 ⟨"NotWorn$Valley", "chanceToDie", "(ILNotWorn$Laws;)I"⟩] [563] rfl (by decide +kernel) _ (List.mem_singleton.mpr rfl)
theorem lk_V_110 : LK "NotWorn$Valley" 110 ⟨"NotWorn$Laws", "work", "(IIII)I"⟩ := memTB [.methodLink "NotWorn$Valley" 110 ⟨"NotWorn$Laws", "work", "(IIII)I"⟩] [567] rfl (by decide +kernel) _ (List.mem_singleton.mpr rfl)
theorem lk_L_29 : LK "NotWorn$Laws" 29 ⟨"NotWorn$Laws", "leaf", "(IIII)I"⟩ := memTB [.methodLink "NotWorn$Laws" 29 ⟨"NotWorn$Laws", "leaf", "(IIII)I"⟩] [571] rfl (by decide +kernel) _ (List.mem_singleton.mpr rfl)
theorem lk_L_37 : LK "NotWorn$Laws" 37 ⟨"NotWorn$Laws", "join", "(III)I"⟩ := memTB [.methodLink "NotWorn$Laws" 37 ⟨"NotWorn$Laws", "join", "(III)I"⟩] [575] rfl (by decide +kernel) _ (List.mem_singleton.mpr rfl)
theorem lk_V_116 : LK "NotWorn$Valley" 116 ⟨"java/lang/Math", "min", "(II)I"⟩ := memTB [.methodLink "NotWorn$Valley" 116 ⟨"java/lang/Math", "min", "(II)I"⟩] [578] rfl (by decide +kernel) _ (List.mem_singleton.mpr rfl)
theorem lk_V_121 : LK "NotWorn$Valley" 121 ⟨"java/lang/Math", "max", "(II)I"⟩ := memTB [.methodLink "NotWorn$Valley" 121 ⟨"java/lang/Math", "max", "(II)I"⟩] [579] rfl (by decide +kernel) _ (List.mem_singleton.mpr rfl)
theorem lk_Law_97 : LK "NotWornLaw" 97 ⟨"NotWorn", "behind", "(II)I"⟩ := memTB [.methodLink "NotWornLaw" 97 ⟨"NotWorn", "behind", "(II)I"⟩] [582] rfl (by decide +kernel) _ (List.mem_singleton.mpr rfl)
theorem lk_W_200 : LK "NotWorn" 200 ⟨"NotWorn$Valley", "become", "(LNotWorn$Valley;)V"⟩ := memTB [.methodLink "NotWorn" 200 ⟨"NotWorn$Valley", "become", "(LNotWorn$Valley;)V"⟩] [586] rfl (by decide +kernel) _ (List.mem_singleton.mpr rfl)
theorem lk_V_49 : LK "NotWorn$Valley" 49 ⟨"java/lang/System", "arraycopy", "(Ljava/lang/Object;ILjava/lang/Object;II)V"⟩ := memTB [.methodLink "NotWorn$Valley" 49 ⟨"java/lang/System", "arraycopy", "(Ljava/lang/Object;ILjava/lang/Object;II)V"⟩] [590] rfl (by decide +kernel) _ (List.mem_singleton.mpr rfl)
theorem lk_W_203 : LK "NotWorn" 203 ⟨"NotWorn$Valley", "countAlive", "()I"⟩ := memTB [.methodLink "NotWorn" 203 ⟨"NotWorn$Valley", "countAlive", "()I"⟩] [591] rfl (by decide +kernel) _ (List.mem_singleton.mpr rfl)
theorem lk_Law_101 : LK "NotWornLaw" 101 ⟨"NotWorn", "ends", "()I"⟩ := memTB [.methodLink "NotWornLaw" 101 ⟨"NotWorn", "ends", "()I"⟩] [595] rfl (by decide +kernel) _ (List.mem_singleton.mpr rfl)
theorem lk_Law_105 : LK "NotWornLaw" 105 ⟨"NotWorn", "stays", "(II)I"⟩ := memTB [.methodLink "NotWornLaw" 105 ⟨"NotWorn", "stays", "(II)I"⟩] [599] rfl (by decide +kernel) _ (List.mem_singleton.mpr rfl)
theorem lk_Law_109 : LK "NotWornLaw" 109 ⟨"NotWorn", "line", "(I)I"⟩ := memTB [.methodLink "NotWornLaw" 109 ⟨"NotWorn", "line", "(I)I"⟩] [603] rfl (by decide +kernel) _ (List.mem_singleton.mpr rfl)
theorem lk_W_206 : LK "NotWorn" 206 ⟨"NotWorn", "isSheet", "(I)Z"⟩ := memTB [.methodLink "NotWorn" 206 ⟨"NotWorn", "isSheet", "(I)Z"⟩] [607] rfl (by decide +kernel) _ (List.mem_singleton.mpr rfl)
theorem lk_W_219 : LK "NotWorn" 219 ⟨"NotWorn", "isNearGiven", "(II)Z"⟩ := memTB [.methodLink "NotWorn" 219 ⟨"NotWorn", "isNearGiven", "(II)Z"⟩] [611] rfl (by decide +kernel) _ (List.mem_singleton.mpr rfl)
theorem lk_Law_113 : LK "NotWornLaw" 113 ⟨"NotWorn", "fine", "()I"⟩ := memTB [.methodLink "NotWornLaw" 113 ⟨"NotWorn", "fine", "()I"⟩] [615] rfl (by decide +kernel) _ (List.mem_singleton.mpr rfl)
theorem lk_W_225 : LK "NotWorn" 225 ⟨"NotWorn$Laws", "work", "(IIII)I"⟩ := memTB [.methodLink "NotWorn" 225 ⟨"NotWorn$Laws", "work", "(IIII)I"⟩] [619] rfl (by decide +kernel) _ (List.mem_singleton.mpr rfl)
theorem lk_Law_117 : LK "NotWornLaw" 117 ⟨"NotWorn", "feed", "(III)I"⟩ := memTB [.methodLink "NotWornLaw" 117 ⟨"NotWorn", "feed", "(III)I"⟩] [620] rfl (by decide +kernel) _ (List.mem_singleton.mpr rfl)
theorem lk_W_232 : LK "NotWorn" 232 ⟨"NotWorn$Tape", "takeFour", "(I)V"⟩ := memTB [.methodLink "NotWorn" 232 ⟨"NotWorn$Tape", "takeFour", "(I)V"⟩] [624] rfl (by decide +kernel) _ (List.mem_singleton.mpr rfl)
theorem lk_Law_121 : LK "NotWornLaw" 121 ⟨"NotWorn", "trim", "(I)I"⟩ := memTB [.methodLink "NotWornLaw" 121 ⟨"NotWorn", "trim", "(I)I"⟩] [628] rfl (by decide +kernel) _ (List.mem_singleton.mpr rfl)
theorem lk_Law_125 : LK "NotWornLaw" 125 ⟨"NotWorn", "text", "()I"⟩ := memTB [.methodLink "NotWornLaw" 125 ⟨"NotWorn", "text", "()I"⟩] [632] rfl (by decide +kernel) _ (List.mem_singleton.mpr rfl)
theorem lk_W_235 : LK "NotWorn" 235 ⟨"NotWorn$Tape", "readText", "()Z"⟩ := memTB [.methodLink "NotWorn" 235 ⟨"NotWorn$Tape", "readText", "()Z"⟩] [636] rfl (by decide +kernel) _ (List.mem_singleton.mpr rfl)
theorem lk_P_32 : LK "NotWorn$Tape" 32 ⟨"NotWorn$Tape", "advance", "()V"⟩ := memTB [.methodLink "NotWorn$Tape" 32 ⟨"NotWorn$Tape", "advance", "()V"⟩] [640] rfl (by decide +kernel) _ (List.mem_singleton.mpr rfl)
theorem lk_P_50 : LK "NotWorn$Tape" 50 ⟨"NotWorn$Tape", "sortOf", "(I)I"⟩ := memTB [.methodLink "NotWorn$Tape" 50 ⟨"NotWorn$Tape", "sortOf", "(I)I"⟩] [644] rfl (by decide +kernel) _ (List.mem_singleton.mpr rfl)
theorem lk_P_35 : LK "NotWorn$Tape" 35 ⟨"NotWorn$Tape", "keyAtHand", "()I"⟩ := memTB [.methodLink "NotWorn$Tape" 35 ⟨"NotWorn$Tape", "keyAtHand", "()I"⟩] [647] rfl (by decide +kernel) _ (List.mem_singleton.mpr rfl)
theorem lk_P_54 : LK "NotWorn$Tape" 54 ⟨"NotWorn$Tape", "isKeyWord", "(I)Z"⟩ := memTB [.methodLink "NotWorn$Tape" 54 ⟨"NotWorn$Tape", "isKeyWord", "(I)Z"⟩] [651] rfl (by decide +kernel) _ (List.mem_singleton.mpr rfl)
theorem lk_P_60 : LK "NotWorn$Tape" 60 ⟨"java/lang/String", "charAt", "(I)C"⟩ := memTB [.methodLink "NotWorn$Tape" 60 ⟨"java/lang/String", "charAt", "(I)C"⟩] [656] rfl (by decide +kernel) _ (List.mem_singleton.mpr rfl)
theorem lk_P_39 : LK "NotWorn$Tape" 39 ⟨"NotWorn$Text", "begin", "(I)V"⟩ := memTB [.methodLink "NotWorn$Tape" 39 ⟨"NotWorn$Text", "begin", "(I)V"⟩] [696] rfl (by decide +kernel) _ (List.mem_singleton.mpr rfl)
theorem lk_P_43 : LK "NotWorn$Tape" 43 ⟨"NotWorn$Tape", "readLevel", "(III)Z"⟩ := memTB [.methodLink "NotWorn$Tape" 43 ⟨"NotWorn$Tape", "readLevel", "(III)Z"⟩] [700] rfl (by decide +kernel) _ (List.mem_singleton.mpr rfl)
theorem lk_P_66 : LK "NotWorn$Tape" 66 ⟨"NotWorn$Tape", "readPiece", "(II)Z"⟩ := memTB [.methodLink "NotWorn$Tape" 66 ⟨"NotWorn$Tape", "readPiece", "(II)Z"⟩] [704] rfl (by decide +kernel) _ (List.mem_singleton.mpr rfl)
theorem lk_P_80 : LK "NotWorn$Tape" 80 ⟨"NotWorn$Tape", "readLeaf", "()Z"⟩ := memTB [.methodLink "NotWorn$Tape" 80 ⟨"NotWorn$Tape", "readLeaf", "()Z"⟩] [708] rfl (by decide +kernel) _ (List.mem_singleton.mpr rfl)
theorem lk_P_84 : LK "NotWorn$Tape" 84 ⟨"NotWorn$Tape", "numberAtHand", "()I"⟩ := memTB [.methodLink "NotWorn$Tape" 84 ⟨"NotWorn$Tape", "numberAtHand", "()I"⟩] [712] rfl (by decide +kernel) _ (List.mem_singleton.mpr rfl)
theorem lk_P_87 : LK "NotWorn$Tape" 87 ⟨"NotWorn$Tape", "nameAtHand", "()I"⟩ := memTB [.methodLink "NotWorn$Tape" 87 ⟨"NotWorn$Tape", "nameAtHand", "()I"⟩] [716] rfl (by decide +kernel) _ (List.mem_singleton.mpr rfl)
theorem lk_P_96 : LK "NotWorn$Tape" 96 ⟨"NotWorn$Tape", "namesOf", "(I)Ljava/lang/String;"⟩ := memTB [.methodLink "NotWorn$Tape" 96 ⟨"NotWorn$Tape", "namesOf", "(I)Ljava/lang/String;"⟩] [720] rfl (by decide +kernel) _ (List.mem_singleton.mpr rfl)
theorem lk_P_100 : LK "NotWorn$Tape" 100 ⟨"java/lang/String", "indexOf", "(I)I"⟩ := memTB [.methodLink "NotWorn$Tape" 100 ⟨"java/lang/String", "indexOf", "(I)I"⟩] [726] rfl (by decide +kernel) _ (List.mem_singleton.mpr rfl)
theorem lk_P_90 : LK "NotWorn$Tape" 90 ⟨"NotWorn$Text", "addLeaf", "(I)V"⟩ := memTB [.methodLink "NotWorn$Tape" 90 ⟨"NotWorn$Text", "addLeaf", "(I)V"⟩] [788] rfl (by decide +kernel) _ (List.mem_singleton.mpr rfl)
theorem lk_X_31 : LK "NotWorn$Text" 31 ⟨"NotWorn$Text", "addStep", "(I)V"⟩ := memTB [.methodLink "NotWorn$Text" 31 ⟨"NotWorn$Text", "addStep", "(I)V"⟩] [792] rfl (by decide +kernel) _ (List.mem_singleton.mpr rfl)
theorem lk_P_76 : LK "NotWorn$Tape" 76 ⟨"NotWorn$Tape", "atHand", "(C)Z"⟩ := memTB [.methodLink "NotWorn$Tape" 76 ⟨"NotWorn$Tape", "atHand", "(C)Z"⟩] [796] rfl (by decide +kernel) _ (List.mem_singleton.mpr rfl)
theorem lk_P_73 : LK "NotWorn$Tape" 73 ⟨"NotWorn$Text", "addSign", "(I)V"⟩ := memTB [.methodLink "NotWorn$Tape" 73 ⟨"NotWorn$Text", "addSign", "(I)V"⟩] [800] rfl (by decide +kernel) _ (List.mem_singleton.mpr rfl)
theorem lk_P_70 : LK "NotWorn$Tape" 70 ⟨"NotWorn$Tape", "signOfLevel", "(I)Z"⟩ := memTB [.methodLink "NotWorn$Tape" 70 ⟨"NotWorn$Tape", "signOfLevel", "(I)Z"⟩] [804] rfl (by decide +kernel) _ (List.mem_singleton.mpr rfl)
theorem lk_W_252 : LK "NotWorn" 252 ⟨"NotWorn$Text", "become", "(LNotWorn$Text;)V"⟩ := memTB [.methodLink "NotWorn" 252 ⟨"NotWorn$Text", "become", "(LNotWorn$Text;)V"⟩] [808] rfl (by decide +kernel) _ (List.mem_singleton.mpr rfl)
theorem lk_X_25 : LK "NotWorn$Text" 25 ⟨"java/lang/System", "arraycopy", "(Ljava/lang/Object;ILjava/lang/Object;II)V"⟩ := memTB [.methodLink "NotWorn$Text" 25 ⟨"java/lang/System", "arraycopy", "(Ljava/lang/Object;ILjava/lang/Object;II)V"⟩] [812] rfl (by decide +kernel) _ (List.mem_singleton.mpr rfl)
theorem lk_W_260 : LK "NotWorn" 260 ⟨"NotWorn$Valley", "takeText", "(ILNotWorn$Laws;)I"⟩ := memTB [.methodLink "NotWorn" 260 ⟨"NotWorn$Valley", "takeText", "(ILNotWorn$Laws;)I"⟩] [813] rfl (by decide +kernel) _ (List.mem_singleton.mpr rfl)
theorem lk_V_124 : LK "NotWorn$Valley" 124 ⟨"NotWorn$Valley", "findNearWays", "(LNotWorn$Laws;)V"⟩ := memTB [.methodLink "NotWorn$Valley" 124 ⟨"NotWorn$Valley", "findNearWays", "(LNotWorn$Laws;)V"⟩] [817] rfl (by decide +kernel) _ (List.mem_singleton.mpr rfl)
theorem lk_V_132 : LK "NotWorn$Valley" 132 ⟨"NotWorn$Letters", "unlike", "(I)I"⟩ := memTB [.methodLink "NotWorn$Valley" 132 ⟨"NotWorn$Letters", "unlike", "(I)I"⟩] [822] rfl (by decide +kernel) _ (List.mem_singleton.mpr rfl)
theorem lk_Law_129 : LK "NotWornLaw" 129 ⟨"NotWorn", "textTold", "(II)I"⟩ := memTB [.methodLink "NotWornLaw" 129 ⟨"NotWorn", "textTold", "(II)I"⟩] [824] rfl (by decide +kernel) _ (List.mem_singleton.mpr rfl)
theorem lk_W_264 : LK "NotWorn" 264 ⟨"NotWorn", "isText", "(I)Z"⟩ := memTB [.methodLink "NotWorn" 264 ⟨"NotWorn", "isText", "(I)Z"⟩] [828] rfl (by decide +kernel) _ (List.mem_singleton.mpr rfl)
theorem lk_Law_133 : LK "NotWornLaw" 133 ⟨"NotWorn", "why", "(I)I"⟩ := memTB [.methodLink "NotWornLaw" 133 ⟨"NotWorn", "why", "(I)I"⟩] [832] rfl (by decide +kernel) _ (List.mem_singleton.mpr rfl)
theorem lk_Law_137 : LK "NotWornLaw" 137 ⟨"NotWorn", "sheet", "(III)I"⟩ := memTB [.methodLink "NotWornLaw" 137 ⟨"NotWorn", "sheet", "(III)I"⟩] [836] rfl (by decide +kernel) _ (List.mem_singleton.mpr rfl)
theorem lk_W_270 : LK "NotWorn" 270 ⟨"NotWorn$Row", "clear", "(II)V"⟩ := memTB [.methodLink "NotWorn" 270 ⟨"NotWorn$Row", "clear", "(II)V"⟩] [840] rfl (by decide +kernel) _ (List.mem_singleton.mpr rfl)
theorem lk_Law_141 : LK "NotWornLaw" 141 ⟨"NotWorn", "mark", "(III)I"⟩ := memTB [.methodLink "NotWornLaw" 141 ⟨"NotWorn", "mark", "(III)I"⟩] [845] rfl (by decide +kernel) _ (List.mem_singleton.mpr rfl)
theorem lk_W_275 : LK "NotWorn" 275 ⟨"NotWorn$Row", "hasPlace", "(I)Z"⟩ := memTB [.methodLink "NotWorn" 275 ⟨"NotWorn$Row", "hasPlace", "(I)Z"⟩] [849] rfl (by decide +kernel) _ (List.mem_singleton.mpr rfl)
theorem lk_Law_145 : LK "NotWornLaw" 145 ⟨"NotWorn", "pour", "(I)I"⟩ := memTB [.methodLink "NotWornLaw" 145 ⟨"NotWorn", "pour", "(I)I"⟩] [855] rfl (by decide +kernel) _ (List.mem_singleton.mpr rfl)
theorem lk_W_281 : LK "NotWorn" 281 ⟨"java/lang/Math", "max", "(II)I"⟩ := memTB [.methodLink "NotWorn" 281 ⟨"java/lang/Math", "max", "(II)I"⟩] [859] rfl (by decide +kernel) _ (List.mem_singleton.mpr rfl)
theorem lk_Law_149 : LK "NotWornLaw" 149 ⟨"NotWorn", "reads", "(I)I"⟩ := memTB [.methodLink "NotWornLaw" 149 ⟨"NotWorn", "reads", "(I)I"⟩] [860] rfl (by decide +kernel) _ (List.mem_singleton.mpr rfl)
theorem lk_Law_153 : LK "NotWornLaw" 153 ⟨"NotWorn", "copy", "(IIIII)I"⟩ := memTB [.methodLink "NotWornLaw" 153 ⟨"NotWorn", "copy", "(IIIII)I"⟩] [864] rfl (by decide +kernel) _ (List.mem_singleton.mpr rfl)
theorem lk_W_284 : LK "NotWorn" 284 ⟨"NotWorn$Row", "hasPlaces", "(II)Z"⟩ := memTB [.methodLink "NotWorn" 284 ⟨"NotWorn$Row", "hasPlaces", "(II)Z"⟩] [868] rfl (by decide +kernel) _ (List.mem_singleton.mpr rfl)
theorem lk_W_287 : LK "NotWorn" 287 ⟨"java/lang/System", "arraycopy", "(Ljava/lang/Object;ILjava/lang/Object;II)V"⟩ := memTB [.methodLink "NotWorn" 287 ⟨"java/lang/System", "arraycopy", "(Ljava/lang/Object;ILjava/lang/Object;II)V"⟩] [872] rfl (by decide +kernel) _ (List.mem_singleton.mpr rfl)
theorem lk_Law_158 : LK "NotWornLaw" 158 ⟨"NotWorn", "lay", "(III)I"⟩ := memTB [.methodLink "NotWornLaw" 158 ⟨"NotWorn", "lay", "(III)I"⟩] [873] rfl (by decide +kernel) _ (List.mem_singleton.mpr rfl)
theorem lk_W_293 : LK "NotWorn" 293 ⟨"NotWorn", "isSlot", "(I)Z"⟩ := memTB [.methodLink "NotWorn" 293 ⟨"NotWorn", "isSlot", "(I)Z"⟩] [877] rfl (by decide +kernel) _ (List.mem_singleton.mpr rfl)
theorem lk_W_309 : LK "NotWorn" 309 ⟨"NotWorn$Row", "become", "(LNotWorn$Row;)V"⟩ := memTB [.methodLink "NotWorn" 309 ⟨"NotWorn$Row", "become", "(LNotWorn$Row;)V"⟩] [880] rfl (by decide +kernel) _ (List.mem_singleton.mpr rfl)
theorem lk_R_22 : LK "NotWorn$Row" 22 ⟨"java/lang/System", "arraycopy", "(Ljava/lang/Object;ILjava/lang/Object;II)V"⟩ := memTB [.methodLink "NotWorn$Row" 22 ⟨"java/lang/System", "arraycopy", "(Ljava/lang/Object;ILjava/lang/Object;II)V"⟩] [884] rfl (by decide +kernel) _ (List.mem_singleton.mpr rfl)
theorem lk_Law_162 : LK "NotWornLaw" 162 ⟨"NotWorn", "ask", "(II)I"⟩ := memTB [.methodLink "NotWornLaw" 162 ⟨"NotWorn", "ask", "(II)I"⟩] [885] rfl (by decide +kernel) _ (List.mem_singleton.mpr rfl)
theorem lk_Law_166 : LK "NotWornLaw" 166 ⟨"NotWorn", "item", "(II)I"⟩ := memTB [.methodLink "NotWornLaw" 166 ⟨"NotWorn", "item", "(II)I"⟩] [889] rfl (by decide +kernel) _ (List.mem_singleton.mpr rfl)
theorem lk_Law_170 : LK "NotWornLaw" 170 ⟨"NotWorn", "rest", "(II)I"⟩ := memTB [.methodLink "NotWornLaw" 170 ⟨"NotWorn", "rest", "(II)I"⟩] [893] rfl (by decide +kernel) _ (List.mem_singleton.mpr rfl)
theorem lk_Law_174 : LK "NotWornLaw" 174 ⟨"NotWorn", "tell", "(I)I"⟩ := memTB [.methodLink "NotWornLaw" 174 ⟨"NotWorn", "tell", "(I)I"⟩] [898] rfl (by decide +kernel) _ (List.mem_singleton.mpr rfl)
theorem lk_Law_178 : LK "NotWornLaw" 178 ⟨"NotWorn", "check", "(I)I"⟩ := memTB [.methodLink "NotWornLaw" 178 ⟨"NotWorn", "check", "(I)I"⟩] [902] rfl (by decide +kernel) _ (List.mem_singleton.mpr rfl)
theorem lk_W_323 : LK "NotWorn" 323 ⟨"NotWorn", "waitedAt", "(III)Z"⟩ := memTB [.methodLink "NotWorn" 323 ⟨"NotWorn", "waitedAt", "(III)Z"⟩] [906] rfl (by decide +kernel) _ (List.mem_singleton.mpr rfl)
theorem lk_Law_182 : LK "NotWornLaw" 182 ⟨"NotWorn", "keep", "()I"⟩ := memTB [.methodLink "NotWornLaw" 182 ⟨"NotWorn", "keep", "()I"⟩] [910] rfl (by decide +kernel) _ (List.mem_singleton.mpr rfl)
theorem lk_Law_186 : LK "NotWornLaw" 186 ⟨"NotWorn", "back", "()I"⟩ := memTB [.methodLink "NotWornLaw" 186 ⟨"NotWorn", "back", "()I"⟩] [914] rfl (by decide +kernel) _ (List.mem_singleton.mpr rfl)
theorem lk_Law_190 : LK "NotWornLaw" 190 ⟨"NotWorn", "count", "(I)I"⟩ := memTB [.methodLink "NotWornLaw" 190 ⟨"NotWorn", "count", "(I)I"⟩] [918] rfl (by decide +kernel) _ (List.mem_singleton.mpr rfl)
theorem lk_Law_12 : LK "NotWornLaw" 12 ⟨"NotWornModel", "<init>", "()V"⟩ := memTB [.methodLink "NotWornLaw" 12 ⟨"NotWornModel", "<init>", "()V"⟩] [924] rfl (by decide +kernel) _ (List.mem_singleton.mpr rfl)
theorem lk_M_1 : LK "NotWornModel" 1 ⟨"java/lang/Object", "<init>", "()V"⟩ := memTB [.methodLink "NotWornModel" 1 ⟨"java/lang/Object", "<init>", "()V"⟩] [927] rfl (by decide +kernel) _ (List.mem_singleton.mpr rfl)
theorem lk_Law_17 : LK "NotWornLaw" 17 ⟨"NotWornModel", "person", "(III)I"⟩ := memTB [.methodLink "NotWornLaw" 17 ⟨"NotWornModel", "person", "(III)I"⟩] [1044] rfl (by decide +kernel) _ (List.mem_singleton.mpr rfl)
theorem lk_M_84 : LK "NotWornModel" 84 ⟨"NotWornModel", "in", "(III)Z"⟩ := memTB [.methodLink "NotWornModel" 84 ⟨"NotWornModel", "in", "(III)Z"⟩] [1048] rfl (by decide +kernel) _ (List.mem_singleton.mpr rfl)
theorem lk_M_93 : LK "NotWornModel" 93 ⟨"NotWornModel", "isCalled", "(I)Z"⟩ := memTB [.methodLink "NotWornModel" 93 ⟨"NotWornModel", "isCalled", "(I)Z"⟩] [1051] rfl (by decide +kernel) _ (List.mem_singleton.mpr rfl)
theorem lk_M_99 : LK "NotWornModel" 99 ⟨"NotWornModel", "comes", "(III)I"⟩ := memTB [.methodLink "NotWornModel" 99 ⟨"NotWornModel", "comes", "(III)I"⟩] [1056] rfl (by decide +kernel) _ (List.mem_singleton.mpr rfl)
theorem lk_Law_22 : LK "NotWornLaw" 22 ⟨"NotWornModel", "told", "(II)I"⟩ := memTB [.methodLink "NotWornLaw" 22 ⟨"NotWornModel", "told", "(II)I"⟩] [1061] rfl (by decide +kernel) _ (List.mem_singleton.mpr rfl)
theorem lk_M_106 : LK "NotWornModel" 106 ⟨"NotWornModel", "isOne", "(I)Z"⟩ := memTB [.methodLink "NotWornModel" 106 ⟨"NotWornModel", "isOne", "(I)Z"⟩] [1065] rfl (by decide +kernel) _ (List.mem_singleton.mpr rfl)
theorem lk_M_88 : LK "NotWornModel" 88 ⟨"NotWornModel", "of", "(II)I"⟩ := memTB [.methodLink "NotWornModel" 88 ⟨"NotWornModel", "of", "(II)I"⟩] [1069] rfl (by decide +kernel) _ (List.mem_singleton.mpr rfl)
theorem lk_M_109 : LK "NotWornModel" 109 ⟨"NotWornModel", "doesHold", "(II)Z"⟩ := memTB [.methodLink "NotWornModel" 109 ⟨"NotWornModel", "doesHold", "(II)Z"⟩] [1073] rfl (by decide +kernel) _ (List.mem_singleton.mpr rfl)
theorem lk_M_103 : LK "NotWornModel" 103 ⟨"NotWornModel", "isAlive", "(I)Z"⟩ := memTB [.methodLink "NotWornModel" 103 ⟨"NotWornModel", "isAlive", "(I)Z"⟩] [1077] rfl (by decide +kernel) _ (List.mem_singleton.mpr rfl)
theorem lk_M_113 : LK "NotWornModel" 113 ⟨"NotWornModel", "worthOf", "(I)I"⟩ := memTB [.methodLink "NotWornModel" 113 ⟨"NotWornModel", "worthOf", "(I)I"⟩] [1081] rfl (by decide +kernel) _ (List.mem_singleton.mpr rfl)
theorem lk_Law_26 : LK "NotWornLaw" 26 ⟨"NotWornModel", "as", "(II)I"⟩ := memTB [.methodLink "NotWornLaw" 26 ⟨"NotWornModel", "as", "(II)I"⟩] [1085] rfl (by decide +kernel) _ (List.mem_singleton.mpr rfl)
theorem lk_M_117 : LK "NotWornModel" 117 ⟨"NotWornModel", "isUnder", "(II)Z"⟩ := memTB [.methodLink "NotWornModel" 117 ⟨"NotWornModel", "isUnder", "(II)Z"⟩] [1089] rfl (by decide +kernel) _ (List.mem_singleton.mpr rfl)
theorem lk_Law_30 : LK "NotWornLaw" 30 ⟨"NotWornModel", "turns", "(II)I"⟩ := memTB [.methodLink "NotWornLaw" 30 ⟨"NotWornModel", "turns", "(II)I"⟩] [1093] rfl (by decide +kernel) _ (List.mem_singleton.mpr rfl)
theorem lk_M_121 : LK "NotWornModel" 121 ⟨"NotWornModel", "becomes", "(II)I"⟩ := memTB [.methodLink "NotWornModel" 121 ⟨"NotWornModel", "becomes", "(II)I"⟩] [1097] rfl (by decide +kernel) _ (List.mem_singleton.mpr rfl)
theorem lk_Law_34 : LK "NotWornLaw" 34 ⟨"NotWornModel", "set", "(III)I"⟩ := memTB [.methodLink "NotWornLaw" 34 ⟨"NotWornModel", "set", "(III)I"⟩] [1101] rfl (by decide +kernel) _ (List.mem_singleton.mpr rfl)
theorem lk_Law_38 : LK "NotWornLaw" 38 ⟨"NotWornModel", "holds", "(II)I"⟩ := memTB [.methodLink "NotWornLaw" 38 ⟨"NotWornModel", "holds", "(II)I"⟩] [1105] rfl (by decide +kernel) _ (List.mem_singleton.mpr rfl)
theorem lk_M_125 : LK "NotWornModel" 125 ⟨"NotWornModel", "isYear", "(I)Z"⟩ := memTB [.methodLink "NotWornModel" 125 ⟨"NotWornModel", "isYear", "(I)Z"⟩] [1109] rfl (by decide +kernel) _ (List.mem_singleton.mpr rfl)
theorem lk_Law_42 : LK "NotWornLaw" 42 ⟨"NotWornModel", "apart", "(II)I"⟩ := memTB [.methodLink "NotWornLaw" 42 ⟨"NotWornModel", "apart", "(II)I"⟩] [1113] rfl (by decide +kernel) _ (List.mem_singleton.mpr rfl)
theorem lk_M_128 : LK "NotWornModel" 128 ⟨"NotWornModel", "apartOf", "(II)I"⟩ := memTB [.methodLink "NotWornModel" 128 ⟨"NotWornModel", "apartOf", "(II)I"⟩] [1117] rfl (by decide +kernel) _ (List.mem_singleton.mpr rfl)
theorem lk_Law_46 : LK "NotWornLaw" 46 ⟨"NotWornModel", "near", "(II)I"⟩ := memTB [.methodLink "NotWornLaw" 46 ⟨"NotWornModel", "near", "(II)I"⟩] [1120] rfl (by decide +kernel) _ (List.mem_singleton.mpr rfl)
theorem lk_M_137 : LK "NotWornModel" 137 ⟨"NotWornModel", "findNears", "()V"⟩ := memTB [.methodLink "NotWornModel" 137 ⟨"NotWornModel", "findNears", "()V"⟩] [1124] rfl (by decide +kernel) _ (List.mem_singleton.mpr rfl)
theorem lk_M_131 : LK "NotWornModel" 131 ⟨"NotWornModel", "counts", "(I)I"⟩ := memTB [.methodLink "NotWornModel" 131 ⟨"NotWornModel", "counts", "(I)I"⟩] [1128] rfl (by decide +kernel) _ (List.mem_singleton.mpr rfl)
theorem lk_M_134 : LK "NotWornModel" 134 ⟨"NotWornModel", "worksOut", "(I)I"⟩ := memTB [.methodLink "NotWornModel" 134 ⟨"NotWornModel", "worksOut", "(I)I"⟩] [1132] rfl (by decide +kernel) _ (List.mem_singleton.mpr rfl)
theorem lk_M_264 : LK "NotWornModel" 264 ⟨"NotWornModel", "two", "(III)I"⟩ := memTB [.methodLink "NotWornModel" 264 ⟨"NotWornModel", "two", "(III)I"⟩] [1136] rfl (by decide +kernel) _ (List.mem_singleton.mpr rfl)
theorem lk_M_140 : LK "NotWornModel" 140 ⟨"NotWornModel", "areNear", "(II)Z"⟩ := memTB [.methodLink "NotWornModel" 140 ⟨"NotWornModel", "areNear", "(II)Z"⟩] [1139] rfl (by decide +kernel) _ (List.mem_singleton.mpr rfl)
theorem lk_Law_51 : LK "NotWornLaw" 51 ⟨"NotWornModel", "lifetime", "(I)I"⟩ := memTB [.methodLink "NotWornLaw" 51 ⟨"NotWornModel", "lifetime", "(I)I"⟩] [1143] rfl (by decide +kernel) _ (List.mem_singleton.mpr rfl)
theorem lk_Law_55 : LK "NotWornLaw" 55 ⟨"NotWornModel", "deal", "(I)I"⟩ := memTB [.methodLink "NotWornLaw" 55 ⟨"NotWornModel", "deal", "(I)I"⟩] [1147] rfl (by decide +kernel) _ (List.mem_singleton.mpr rfl)
theorem lk_M_144 : LK "NotWornModel" 144 ⟨"NotWornModel", "draw", "()I"⟩ := memTB [.methodLink "NotWornModel" 144 ⟨"NotWornModel", "draw", "()I"⟩] [1151] rfl (by decide +kernel) _ (List.mem_singleton.mpr rfl)
theorem lk_Law_59 : LK "NotWornLaw" 59 ⟨"NotWornModel", "seed", "(I)I"⟩ := memTB [.methodLink "NotWornLaw" 59 ⟨"NotWornModel", "seed", "(I)I"⟩] [1156] rfl (by decide +kernel) _ (List.mem_singleton.mpr rfl)
theorem lk_Law_63 : LK "NotWornLaw" 63 ⟨"NotWornModel", "free", "(II)I"⟩ := memTB [.methodLink "NotWornLaw" 63 ⟨"NotWornModel", "free", "(II)I"⟩] [1160] rfl (by decide +kernel) _ (List.mem_singleton.mpr rfl)
theorem lk_M_148 : LK "NotWornModel" 148 ⟨"NotWornModel", "isFree", "(II)Z"⟩ := memTB [.methodLink "NotWornModel" 148 ⟨"NotWornModel", "isFree", "(II)Z"⟩] [1164] rfl (by decide +kernel) _ (List.mem_singleton.mpr rfl)
theorem lk_Law_67 : LK "NotWornLaw" 67 ⟨"NotWornModel", "frees", "(I)I"⟩ := memTB [.methodLink "NotWornLaw" 67 ⟨"NotWornModel", "frees", "(I)I"⟩] [1168] rfl (by decide +kernel) _ (List.mem_singleton.mpr rfl)
theorem lk_M_151 : LK "NotWornModel" 151 ⟨"NotWornModel", "freeMany", "()I"⟩ := memTB [.methodLink "NotWornModel" 151 ⟨"NotWornModel", "freeMany", "()I"⟩] [1172] rfl (by decide +kernel) _ (List.mem_singleton.mpr rfl)
theorem lk_M_154 : LK "NotWornModel" 154 ⟨"NotWornModel", "leastFree", "()I"⟩ := memTB [.methodLink "NotWornModel" 154 ⟨"NotWornModel", "leastFree", "()I"⟩] [1176] rfl (by decide +kernel) _ (List.mem_singleton.mpr rfl)
theorem lk_Law_71 : LK "NotWornLaw" 71 ⟨"NotWornModel", "soonest", "(I)I"⟩ := memTB [.methodLink "NotWornLaw" 71 ⟨"NotWornModel", "soonest", "(I)I"⟩] [1180] rfl (by decide +kernel) _ (List.mem_singleton.mpr rfl)
theorem lk_Law_75 : LK "NotWornLaw" 75 ⟨"NotWornModel", "child", "(II)I"⟩ := memTB [.methodLink "NotWornLaw" 75 ⟨"NotWornModel", "child", "(II)I"⟩] [1184] rfl (by decide +kernel) _ (List.mem_singleton.mpr rfl)
theorem lk_Law_80 : LK "NotWornLaw" 80 ⟨"NotWornModel", "forget", "()I"⟩ := memTB [.methodLink "NotWornLaw" 80 ⟨"NotWornModel", "forget", "()I"⟩] [1188] rfl (by decide +kernel) _ (List.mem_singleton.mpr rfl)
theorem lk_Law_84 : LK "NotWornLaw" 84 ⟨"NotWornModel", "dealing", "(I)I"⟩ := memTB [.methodLink "NotWornLaw" 84 ⟨"NotWornModel", "dealing", "(I)I"⟩] [1192] rfl (by decide +kernel) _ (List.mem_singleton.mpr rfl)
theorem lk_M_171 : LK "NotWornModel" 171 ⟨"NotWornModel", "findDealing", "()V"⟩ := memTB [.methodLink "NotWornModel" 171 ⟨"NotWornModel", "findDealing", "()V"⟩] [1196] rfl (by decide +kernel) _ (List.mem_singleton.mpr rfl)
theorem lk_M_167 : LK "NotWornModel" 167 ⟨"NotWornModel", "deals", "(III)V"⟩ := memTB [.methodLink "NotWornModel" 167 ⟨"NotWornModel", "deals", "(III)V"⟩] [1200] rfl (by decide +kernel) _ (List.mem_singleton.mpr rfl)
theorem lk_M_164 : LK "NotWornModel" 164 ⟨"NotWornModel", "mayHave", "(II)Z"⟩ := memTB [.methodLink "NotWornModel" 164 ⟨"NotWornModel", "mayHave", "(II)Z"⟩] [1204] rfl (by decide +kernel) _ (List.mem_singleton.mpr rfl)
theorem lk_Law_88 : LK "NotWornLaw" 88 ⟨"NotWornModel", "christen", "()I"⟩ := memTB [.methodLink "NotWornLaw" 88 ⟨"NotWornModel", "christen", "()I"⟩] [1208] rfl (by decide +kernel) _ (List.mem_singleton.mpr rfl)
theorem lk_Law_92 : LK "NotWornLaw" 92 ⟨"NotWornModel", "yields", "(I)I"⟩ := memTB [.methodLink "NotWornLaw" 92 ⟨"NotWornModel", "yields", "(I)I"⟩] [1212] rfl (by decide +kernel) _ (List.mem_singleton.mpr rfl)
theorem lk_Law_96 : LK "NotWornLaw" 96 ⟨"NotWornModel", "years", "(I)I"⟩ := memTB [.methodLink "NotWornLaw" 96 ⟨"NotWornModel", "years", "(I)I"⟩] [1216] rfl (by decide +kernel) _ (List.mem_singleton.mpr rfl)
theorem lk_M_180 : LK "NotWornModel" 180 ⟨"NotWornModel", "year", "()I"⟩ := memTB [.methodLink "NotWornModel" 180 ⟨"NotWornModel", "year", "()I"⟩] [1220] rfl (by decide +kernel) _ (List.mem_singleton.mpr rfl)
theorem lk_M_177 : LK "NotWornModel" 177 ⟨"NotWornModel", "diesBy", "(I)I"⟩ := memTB [.methodLink "NotWornModel" 177 ⟨"NotWornModel", "diesBy", "(I)I"⟩] [1224] rfl (by decide +kernel) _ (List.mem_singleton.mpr rfl)
theorem lk_M_174 : LK "NotWornModel" 174 ⟨"NotWornModel", "within", "(III)I"⟩ := memTB [.methodLink "NotWornModel" 174 ⟨"NotWornModel", "within", "(III)I"⟩] [1228] rfl (by decide +kernel) _ (List.mem_singleton.mpr rfl)
theorem lk_Law_100 : LK "NotWornLaw" 100 ⟨"NotWornModel", "behind", "(II)I"⟩ := memTB [.methodLink "NotWornLaw" 100 ⟨"NotWornModel", "behind", "(II)I"⟩] [1231] rfl (by decide +kernel) _ (List.mem_singleton.mpr rfl)
theorem lk_M_183 : LK "NotWornModel" 183 ⟨"NotWornModel", "thinks", "()V"⟩ := memTB [.methodLink "NotWornModel" 183 ⟨"NotWornModel", "thinks", "()V"⟩] [1235] rfl (by decide +kernel) _ (List.mem_singleton.mpr rfl)
theorem lk_M_186 : LK "NotWornModel" 186 ⟨"NotWornModel", "aliveMany", "()I"⟩ := memTB [.methodLink "NotWornModel" 186 ⟨"NotWornModel", "aliveMany", "()I"⟩] [1239] rfl (by decide +kernel) _ (List.mem_singleton.mpr rfl)
theorem lk_M_189 : LK "NotWornModel" 189 ⟨"NotWornModel", "putsBack", "()V"⟩ := memTB [.methodLink "NotWornModel" 189 ⟨"NotWornModel", "putsBack", "()V"⟩] [1243] rfl (by decide +kernel) _ (List.mem_singleton.mpr rfl)
theorem lk_Law_104 : LK "NotWornLaw" 104 ⟨"NotWornModel", "ends", "()I"⟩ := memTB [.methodLink "NotWornLaw" 104 ⟨"NotWornModel", "ends", "()I"⟩] [1247] rfl (by decide +kernel) _ (List.mem_singleton.mpr rfl)
theorem lk_Law_108 : LK "NotWornLaw" 108 ⟨"NotWornModel", "stays", "(II)I"⟩ := memTB [.methodLink "NotWornLaw" 108 ⟨"NotWornModel", "stays", "(II)I"⟩] [1251] rfl (by decide +kernel) _ (List.mem_singleton.mpr rfl)
theorem lk_Law_112 : LK "NotWornLaw" 112 ⟨"NotWornModel", "line", "(I)I"⟩ := memTB [.methodLink "NotWornLaw" 112 ⟨"NotWornModel", "line", "(I)I"⟩] [1255] rfl (by decide +kernel) _ (List.mem_singleton.mpr rfl)
theorem lk_M_192 : LK "NotWornModel" 192 ⟨"NotWornModel", "isSheet", "(I)Z"⟩ := memTB [.methodLink "NotWornModel" 192 ⟨"NotWornModel", "isSheet", "(I)Z"⟩] [1259] rfl (by decide +kernel) _ (List.mem_singleton.mpr rfl)
theorem lk_M_196 : LK "NotWornModel" 196 ⟨"NotWornModel", "isNearEarlier", "(II)Z"⟩ := memTB [.methodLink "NotWornModel" 196 ⟨"NotWornModel", "isNearEarlier", "(II)Z"⟩] [1263] rfl (by decide +kernel) _ (List.mem_singleton.mpr rfl)
theorem lk_Law_116 : LK "NotWornLaw" 116 ⟨"NotWornModel", "fine", "()I"⟩ := memTB [.methodLink "NotWornLaw" 116 ⟨"NotWornModel", "fine", "()I"⟩] [1267] rfl (by decide +kernel) _ (List.mem_singleton.mpr rfl)
theorem lk_Law_120 : LK "NotWornLaw" 120 ⟨"NotWornModel", "feed", "(III)I"⟩ := memTB [.methodLink "NotWornLaw" 120 ⟨"NotWornModel", "feed", "(III)I"⟩] [1271] rfl (by decide +kernel) _ (List.mem_singleton.mpr rfl)
theorem lk_Law_124 : LK "NotWornLaw" 124 ⟨"NotWornModel", "trim", "(I)I"⟩ := memTB [.methodLink "NotWornLaw" 124 ⟨"NotWornModel", "trim", "(I)I"⟩] [1275] rfl (by decide +kernel) _ (List.mem_singleton.mpr rfl)
theorem lk_Law_128 : LK "NotWornLaw" 128 ⟨"NotWornModel", "text", "()I"⟩ := memTB [.methodLink "NotWornLaw" 128 ⟨"NotWornModel", "text", "()I"⟩] [1279] rfl (by decide +kernel) _ (List.mem_singleton.mpr rfl)
theorem lk_M_226 : LK "NotWornModel" 226 ⟨"NotWornModel", "go", "()V"⟩ := memTB [.methodLink "NotWornModel" 226 ⟨"NotWornModel", "go", "()V"⟩] [1283] rfl (by decide +kernel) _ (List.mem_singleton.mpr rfl)
theorem lk_M_214 : LK "NotWornModel" 214 ⟨"NotWornModel", "isLetter", "(I)Z"⟩ := memTB [.methodLink "NotWornModel" 214 ⟨"NotWornModel", "isLetter", "(I)Z"⟩] [1287] rfl (by decide +kernel) _ (List.mem_singleton.mpr rfl)
theorem lk_M_220 : LK "NotWornModel" 220 ⟨"NotWornModel", "isFigure", "(I)Z"⟩ := memTB [.methodLink "NotWornModel" 220 ⟨"NotWornModel", "isFigure", "(I)Z"⟩] [1291] rfl (by decide +kernel) _ (List.mem_singleton.mpr rfl)
theorem lk_M_258 : LK "NotWornModel" 258 ⟨"NotWornModel", "takesKey", "()Z"⟩ := memTB [.methodLink "NotWornModel" 258 ⟨"NotWornModel", "takesKey", "()Z"⟩] [1295] rfl (by decide +kernel) _ (List.mem_singleton.mpr rfl)
theorem lk_M_261 : LK "NotWornModel" 261 ⟨"NotWornModel", "takesE", "()Z"⟩ := memTB [.methodLink "NotWornModel" 261 ⟨"NotWornModel", "takesE", "()Z"⟩] [1299] rfl (by decide +kernel) _ (List.mem_singleton.mpr rfl)
theorem lk_M_248 : LK "NotWornModel" 248 ⟨"NotWornModel", "takesPart", "()Z"⟩ := memTB [.methodLink "NotWornModel" 248 ⟨"NotWornModel", "takesPart", "()Z"⟩] [1303] rfl (by decide +kernel) _ (List.mem_singleton.mpr rfl)
theorem lk_M_238 : LK "NotWornModel" 238 ⟨"NotWornModel", "nameOf", "(I)I"⟩ := memTB [.methodLink "NotWornModel" 238 ⟨"NotWornModel", "nameOf", "(I)I"⟩] [1307] rfl (by decide +kernel) _ (List.mem_singleton.mpr rfl)
theorem lk_M_244 : LK "NotWornModel" 244 ⟨"NotWornModel", "settle", "(I)V"⟩ := memTB [.methodLink "NotWornModel" 244 ⟨"NotWornModel", "settle", "(I)V"⟩] [1311] rfl (by decide +kernel) _ (List.mem_singleton.mpr rfl)
theorem lk_M_232 : LK "NotWornModel" 232 ⟨"NotWornModel", "rank", "(I)I"⟩ := memTB [.methodLink "NotWornModel" 232 ⟨"NotWornModel", "rank", "(I)I"⟩] [1315] rfl (by decide +kernel) _ (List.mem_singleton.mpr rfl)
theorem lk_M_252 : LK "NotWornModel" 252 ⟨"NotWornModel", "notsOpen", "()I"⟩ := memTB [.methodLink "NotWornModel" 252 ⟨"NotWornModel", "notsOpen", "()I"⟩] [1318] rfl (by decide +kernel) _ (List.mem_singleton.mpr rfl)
theorem lk_M_255 : LK "NotWornModel" 255 ⟨"NotWornModel", "signHere", "()I"⟩ := memTB [.methodLink "NotWornModel" 255 ⟨"NotWornModel", "signHere", "()I"⟩] [1322] rfl (by decide +kernel) _ (List.mem_singleton.mpr rfl)
theorem lk_Law_132 : LK "NotWornLaw" 132 ⟨"NotWornModel", "textTold", "(II)I"⟩ := memTB [.methodLink "NotWornLaw" 132 ⟨"NotWornModel", "textTold", "(II)I"⟩] [1326] rfl (by decide +kernel) _ (List.mem_singleton.mpr rfl)
theorem lk_Law_136 : LK "NotWornLaw" 136 ⟨"NotWornModel", "why", "(I)I"⟩ := memTB [.methodLink "NotWornLaw" 136 ⟨"NotWornModel", "why", "(I)I"⟩] [1330] rfl (by decide +kernel) _ (List.mem_singleton.mpr rfl)
theorem lk_Law_140 : LK "NotWornLaw" 140 ⟨"NotWornModel", "sheet", "(III)I"⟩ := memTB [.methodLink "NotWornLaw" 140 ⟨"NotWornModel", "sheet", "(III)I"⟩] [1334] rfl (by decide +kernel) _ (List.mem_singleton.mpr rfl)
theorem lk_Law_144 : LK "NotWornLaw" 144 ⟨"NotWornModel", "mark", "(III)I"⟩ := memTB [.methodLink "NotWornLaw" 144 ⟨"NotWornModel", "mark", "(III)I"⟩] [1339] rfl (by decide +kernel) _ (List.mem_singleton.mpr rfl)
theorem lk_Law_148 : LK "NotWornLaw" 148 ⟨"NotWornModel", "pour", "(I)I"⟩ := memTB [.methodLink "NotWornLaw" 148 ⟨"NotWornModel", "pour", "(I)I"⟩] [1345] rfl (by decide +kernel) _ (List.mem_singleton.mpr rfl)
theorem lk_Law_152 : LK "NotWornLaw" 152 ⟨"NotWornModel", "reads", "(I)I"⟩ := memTB [.methodLink "NotWornLaw" 152 ⟨"NotWornModel", "reads", "(I)I"⟩] [1349] rfl (by decide +kernel) _ (List.mem_singleton.mpr rfl)
theorem lk_Law_157 : LK "NotWornLaw" 157 ⟨"NotWornModel", "copy", "(IIIII)I"⟩ := memTB [.methodLink "NotWornLaw" 157 ⟨"NotWornModel", "copy", "(IIIII)I"⟩] [1353] rfl (by decide +kernel) _ (List.mem_singleton.mpr rfl)
theorem lk_Law_161 : LK "NotWornLaw" 161 ⟨"NotWornModel", "lay", "(III)I"⟩ := memTB [.methodLink "NotWornLaw" 161 ⟨"NotWornModel", "lay", "(III)I"⟩] [1357] rfl (by decide +kernel) _ (List.mem_singleton.mpr rfl)
theorem lk_M_270 : LK "NotWornModel" 270 ⟨"NotWornModel", "isSlot", "(I)Z"⟩ := memTB [.methodLink "NotWornModel" 270 ⟨"NotWornModel", "isSlot", "(I)Z"⟩] [1361] rfl (by decide +kernel) _ (List.mem_singleton.mpr rfl)
theorem lk_Law_165 : LK "NotWornLaw" 165 ⟨"NotWornModel", "ask", "(II)I"⟩ := memTB [.methodLink "NotWornLaw" 165 ⟨"NotWornModel", "ask", "(II)I"⟩] [1364] rfl (by decide +kernel) _ (List.mem_singleton.mpr rfl)
theorem lk_Law_169 : LK "NotWornLaw" 169 ⟨"NotWornModel", "item", "(II)I"⟩ := memTB [.methodLink "NotWornLaw" 169 ⟨"NotWornModel", "item", "(II)I"⟩] [1368] rfl (by decide +kernel) _ (List.mem_singleton.mpr rfl)
theorem lk_Law_173 : LK "NotWornLaw" 173 ⟨"NotWornModel", "rest", "(II)I"⟩ := memTB [.methodLink "NotWornLaw" 173 ⟨"NotWornModel", "rest", "(II)I"⟩] [1372] rfl (by decide +kernel) _ (List.mem_singleton.mpr rfl)
theorem lk_Law_177 : LK "NotWornLaw" 177 ⟨"NotWornModel", "tell", "(I)I"⟩ := memTB [.methodLink "NotWornLaw" 177 ⟨"NotWornModel", "tell", "(I)I"⟩] [1377] rfl (by decide +kernel) _ (List.mem_singleton.mpr rfl)
theorem lk_Law_181 : LK "NotWornLaw" 181 ⟨"NotWornModel", "check", "(I)I"⟩ := memTB [.methodLink "NotWornLaw" 181 ⟨"NotWornModel", "check", "(I)I"⟩] [1381] rfl (by decide +kernel) _ (List.mem_singleton.mpr rfl)
theorem lk_M_281 : LK "NotWornModel" 281 ⟨"NotWornModel", "copyAll", "([I[I)V"⟩ := memTB [.methodLink "NotWornModel" 281 ⟨"NotWornModel", "copyAll", "([I[I)V"⟩] [1385] rfl (by decide +kernel) _ (List.mem_singleton.mpr rfl)
theorem lk_Law_185 : LK "NotWornLaw" 185 ⟨"NotWornModel", "keep", "()I"⟩ := memTB [.methodLink "NotWornLaw" 185 ⟨"NotWornModel", "keep", "()I"⟩] [1388] rfl (by decide +kernel) _ (List.mem_singleton.mpr rfl)
theorem lk_Law_189 : LK "NotWornLaw" 189 ⟨"NotWornModel", "back", "()I"⟩ := memTB [.methodLink "NotWornLaw" 189 ⟨"NotWornModel", "back", "()I"⟩] [1392] rfl (by decide +kernel) _ (List.mem_singleton.mpr rfl)
theorem lk_Law_193 : LK "NotWornLaw" 193 ⟨"NotWornModel", "count", "(I)I"⟩ := memTB [.methodLink "NotWornLaw" 193 ⟨"NotWornModel", "count", "(I)I"⟩] [1396] rfl (by decide +kernel) _ (List.mem_singleton.mpr rfl)
end
section
/-! THE LAYER. The world is fixed after the two constructors: 'lay' tells the cells, their kinds, which cell a reference field or place holds; what changes is one table of ints, σ (cell, slot). An abstract machine runs over (pc, locals, stack, σ). -/
abbrev AV : Type := Int32 ⊕ Nat
abbrev Sg : Type := Nat → Nat → Int32
abbrev Sh : Type := (Nat × List (Option Nat)) ⊕ (Nat × Nat × List Nat)
abbrev Th : Type := (Nat → Nat) × va_G × (Nat → ClassId)
abbrev Lc : Type := List (Option AV)
def sh_text (s : Nat) : Sh := .inl (5, [none, none, none, some s])
def sh_row (s : Nat) : Sh := .inl (2, [none, none, some s])
def sh_ints (n : Nat) : Sh := .inr (0, n, [])
def sh_bits (n : Nat) : Sh := .inr (1, n, [])
def sh_val (b : Nat) : Sh := .inl (6, [some (b+1), some (b+2), some (b+3), some (b+4), none, some (b+5), some (b+6), none, none, none, none, none, some (b+7), none, some (b+8), none])
def lay : List Sh := [
  .inl (7, [some 1, some 32, some 41, some 50, none, some 59, some 64, some 68, some 69, some 93, none, some 94]),
  .inl (1, [some 2, some 3]),
  .inr (3, 14, [4, 6, 8, 10, 12, 14, 16, 18, 20, 22, 24, 26, 28, 30]),
  sh_ints 96,
  sh_text 5, sh_ints 96, sh_text 7, sh_ints 96, sh_text 9, sh_ints 96, sh_text 11, sh_ints 96, sh_text 13, sh_ints 96, sh_text 15, sh_ints 96, sh_text 17, sh_ints 96,
  sh_text 19, sh_ints 96, sh_text 21, sh_ints 96, sh_text 23, sh_ints 96, sh_text 25, sh_ints 96, sh_text 27, sh_ints 96, sh_text 29, sh_ints 96, sh_text 31, sh_ints 96,
  sh_val 32, sh_ints 10, sh_ints 10, sh_ints 10, sh_ints 10, sh_ints 6, sh_ints 6, sh_ints 3, sh_ints 10,
  sh_val 41, sh_ints 10, sh_ints 10, sh_ints 10, sh_ints 10, sh_ints 6, sh_ints 6, sh_ints 3, sh_ints 10,
  sh_val 50, sh_ints 10, sh_ints 10, sh_ints 10, sh_ints 10, sh_ints 6, sh_ints 6, sh_ints 3, sh_ints 10,
  .inl (0, [some 60, none, none, some 61, some 62, some 63]), sh_ints 6, sh_ints 6, sh_bits 6, sh_bits 6,
  .inl (4, [some 65, none, none, none, none, some 66]), sh_ints 96, sh_text 67, sh_ints 96,
  .inr (4, 4, [70, 72, 74, 76]), .inr (5, 5, [78, 81, 84, 87, 90]),
  sh_row 71, sh_ints 24, sh_row 73, sh_ints 24, sh_row 75, sh_ints 24, sh_row 77, sh_ints 24,
  .inl (3, [none, none, none, none, some 79]), sh_row 80, sh_ints 24,
  .inl (3, [none, none, none, none, some 82]), sh_row 83, sh_ints 24,
  .inl (3, [none, none, none, none, some 85]), sh_row 86, sh_ints 24,
  .inl (3, [none, none, none, none, some 88]), sh_row 89, sh_ints 24,
  .inl (3, [none, none, none, none, some 91]), sh_row 92, sh_ints 24,
  sh_ints 60, sh_ints 24,
  .inl (8, [some 96, some 97, some 98, none, some 99, some 100, some 101, none, none, some 102, some 103, none, none, none, none, none, none, none, some 104, some 105, some 106, none, none, some 107, none, some 108, some 109, some 110, some 111, some 112, some 113, some 114, some 115, some 116, some 117, some 118, some 119, none]),
  sh_ints 1430, sh_ints 1430, sh_ints 1430, sh_bits 16, sh_ints 6, sh_ints 6, sh_ints 58, sh_ints 96, .inr (2, 12, []), sh_ints 4, sh_ints 96, sh_ints 96, sh_bits 10,
  sh_ints 96, sh_ints 4, sh_ints 4, sh_ints 4, sh_ints 96, sh_ints 5, sh_ints 5, sh_ints 5, sh_ints 120, sh_ints 24, sh_ints 60]
theorem lay_length : lay.length = 120 := by decide +kernel
def conc (a : Nat → Nat) : AV → Value
  | .inl v => .int v
  | .inr k => .ref (a k)
theorem conc_cat (a : Nat → Nat) (v : AV) : (conc a v).category = 1 := by cases v <;> rfl
def conF (a : Nat → Nat) (f : Nat → Int32) : List (Option Nat) → Nat → List Value
  | [], _ => []
  | none :: r, j => .int (f j) :: conF a f r (j + 1)
  | some k :: r, j => .ref (a k) :: conF a f r (j + 1)
theorem conF_int {a : Nat → Nat} {f : Nat → Int32} : ∀ {l : List (Option Nat)} {j0 j : Nat}, l[j]? = some none → (conF a f l j0)[j]? = some (.int (f (j0 + j)))
  | [], _, _, h => by simp at h
  | none :: r, j0, 0, _ => by simp [conF]
  | some k :: r, j0, 0, h => by simp at h
  | none :: r, j0, j + 1, h => by
    have := conF_int (a := a) (f := f) (l := r) (j0 := j0 + 1) (j := j) (by simpa using h)
    rw [show j0 + (j + 1) = j0 + 1 + j by omega]; simpa [conF] using this
  | some k :: r, j0, j + 1, h => by
    have := conF_int (a := a) (f := f) (l := r) (j0 := j0 + 1) (j := j) (by simpa using h)
    rw [show j0 + (j + 1) = j0 + 1 + j by omega]; simpa [conF] using this
theorem conF_ref {a : Nat → Nat} {f : Nat → Int32} {q : Nat} : ∀ {l : List (Option Nat)} {j0 j : Nat}, l[j]? = some (some q) → (conF a f l j0)[j]? = some (.ref (a q))
  | [], _, _, h => by simp at h
  | none :: r, j0, 0, h => by simp at h
  | some k :: r, j0, 0, h => by simp at h; simp [conF, h]
  | none :: r, j0, j + 1, h => by
    have := conF_ref (a := a) (f := f) (l := r) (j0 := j0 + 1) (j := j) (by simpa using h)
    simpa [conF] using this
  | some k :: r, j0, j + 1, h => by
    have := conF_ref (a := a) (f := f) (l := r) (j0 := j0 + 1) (j := j) (by simpa using h)
    simpa [conF] using this
theorem conF_len (a : Nat → Nat) (f : Nat → Int32) : ∀ (l : List (Option Nat)) (j0 : Nat), (conF a f l j0).length = l.length
  | [], _ => rfl
  | none :: r, j0 => by simp [conF, conF_len a f r]
  | some k :: r, j0 => by simp [conF, conF_len a f r]
theorem conF_congr {a : Nat → Nat} {f g : Nat → Int32} : ∀ {l : List (Option Nat)} {j0 : Nat}, (∀ j, j0 ≤ j → f j = g j) → conF a f l j0 = conF a g l j0
  | [], _, _ => rfl
  | none :: r, j0, h => by
    simp only [conF, h j0 (Nat.le_refl _)]
    rw [conF_congr (l := r) (fun j hj => h j (by omega))]
  | some k :: r, j0, h => by
    simp only [conF]
    rw [conF_congr (l := r) (fun j hj => h j (by omega))]
theorem conF_set {a : Nat → Nat} {f : Nat → Int32} {v : Int32} : ∀ {l : List (Option Nat)} {j0 j : Nat}, l[j]? = some none → conF a (upd f (j0 + j) v) l j0 = (conF a f l j0).set j (.int v)
  | [], _, _, h => by simp at h
  | none :: r, j0, 0, _ => by
    simp only [conF, List.set_cons_zero]
    rw [conF_congr (l := r) (g := f) (fun j hj => by simp [upd]; omega)]
    simp [upd]
  | some k :: r, j0, 0, h => by simp at h
  | none :: r, j0, j + 1, h => by
    have := conF_set (a := a) (f := f) (v := v) (l := r) (j0 := j0 + 1) (j := j) (by simpa using h)
    rw [show j0 + (j + 1) = j0 + 1 + j by omega]
    simp only [conF, List.set_cons_succ, this]
    congr 2
    simp [upd]; omega
  | some k :: r, j0, j + 1, h => by
    have := conF_set (a := a) (f := f) (v := v) (l := r) (j0 := j0 + 1) (j := j) (by simpa using h)
    rw [show j0 + (j + 1) = j0 + 1 + j by omega]
    simp only [conF, List.set_cons_succ, this]
def conE (θ : Th) (f : Nat → Int32) : Sh → va_E
  | .inl (ci, fds) => .inr (ci, conF θ.1 f fds 0)
  | .inr (kd, n, rs) => .inl (θ.2.2 kd, n, if kd < 3 then .inl f else .inr (.inr (.inr (.inr (fun i => (rs[i]?).map θ.1)))))
def wsF (θ : Th) (σ : Sg) : List Sh → Nat → va_W
  | [], _ => []
  | s :: r, c => (θ.1 c, conE θ (σ c) s) :: wsF θ σ r (c + 1)
def wsOf (θ : Th) (σ : Sg) : va_W := wsF θ σ lay 0
theorem wsF_get (θ : Th) (σ : Sg) : ∀ (l : List Sh) (c k : Nat), (wsF θ σ l c)[k]? = (l[k]?).map (fun s => (θ.1 (c + k), conE θ (σ (c + k)) s))
  | [], c, k => by simp [wsF]
  | s :: r, c, 0 => by simp [wsF]
  | s :: r, c, k + 1 => by
    have := wsF_get θ σ r (c + 1) k
    rw [show c + (k + 1) = c + 1 + k by omega]
    simpa [wsF] using this
theorem wsOf_map (θ : Th) (σ : Sg) (k : Nat) : (wsOf θ σ)[k]? = (lay[k]?).map (fun s => (θ.1 k, conE θ (σ k) s)) := by
  have := wsF_get θ σ lay 0 k
  simpa [wsOf] using this
theorem wsOf_get {θ : Th} {σ : Sg} {k : Nat} {s : Sh} (h : lay[k]? = some s) : (wsOf θ σ)[k]? = some (θ.1 k, conE θ (σ k) s) := by rw [wsOf_map, h]; rfl
def upc (σ : Sg) (c : Nat) (f : Nat → Int32) : Sg := fun c' => if c' = c then f else σ c'
def up (σ : Sg) (c j : Nat) (v : Int32) : Sg := upc σ c (upd (σ c) j v)
theorem wsOf_upc {θ : Th} {σ : Sg} {c : Nat} {f : Nat → Int32} {s : Sh} (h : lay[c]? = some s) : (wsOf θ σ).set c (θ.1 c, conE θ f s) = wsOf θ (upc σ c f) := by
  apply List.ext_getElem?
  intro k
  rw [List.getElem?_set]
  have hlen : c < (wsOf θ σ).length := (List.getElem?_eq_some_iff.mp (wsOf_get (θ := θ) (σ := σ) h)).1
  by_cases hk : c = k
  · subst hk
    rw [if_pos rfl, if_pos hlen, wsOf_map, h]
    simp [upc]
  · rw [if_neg hk, wsOf_map, wsOf_map]
    have : upc σ c f k = σ k := by simp [upc]; intro q; exact absurd q.symm hk
    rw [this]
theorem up_self (σ : Sg) (c j : Nat) (v : Int32) : up σ c j v c j = v := by simp [up, upc, upd]
theorem up_c (σ : Sg) (c j : Nat) (v : Int32) {c' : Nat} (h : c' ≠ c) : up σ c j v c' = σ c' := by simp [up, upc, h]
theorem up_j (σ : Sg) (c j : Nat) (v : Int32) {j' : Nat} (h : j' ≠ j) : up σ c j v c j' = σ c j' := by simp [up, upc, upd, h]
theorem up_same (σ : Sg) (c j : Nat) (v : Int32) : up σ c j v c = upd (σ c) j v := by simp [up, upc]
theorem upc_same (σ : Sg) (c : Nat) (f : Nat → Int32) : upc σ c f c = f := by simp [upc]
theorem upc_c (σ : Sg) (c : Nat) (f : Nat → Int32) {c' : Nat} (h : c' ≠ c) : upc σ c f c' = σ c' := by simp [upc, h]
def Inj (θ : Th) : Prop := ∀ i j, i < 120 → j < 120 → θ.1 i = θ.1 j → i = j
def AA (θ : Th) (q : Nat) : Prop := ∃ c, c < 120 ∧ q = θ.1 c
theorem wsOf_D {θ : Th} (hI : Inj θ) {A : Nat → Prop} (hA : ∀ q, AA θ q → A q) (σ : Sg) : va_D A (wsOf θ σ) := by
  have at' : ∀ (k : Nat) (q : Nat × va_E), (wsOf θ σ)[k]? = some q → k < 120 ∧ q.1 = θ.1 k := by
    intro k q h
    rw [wsOf_map] at h
    cases hl : lay[k]? with
    | none => rw [hl] at h; cases h
    | some s =>
      rw [hl] at h
      have hk : k < lay.length := (List.getElem?_eq_some_iff.mp hl).1
      rw [lay_length] at hk
      cases h
      exact ⟨hk, rfl⟩
  refine ⟨fun i j p q hp hq he => ?_, fun k q hk => ?_⟩
  · obtain ⟨h1, h2⟩ := at' i p hp
    obtain ⟨h3, h4⟩ := at' j q hq
    exact hI i j h1 h3 (by rw [← h2, ← h4, he])
  · obtain ⟨h1, h2⟩ := at' k q hk
    exact hA _ ⟨k, h1, h2⟩
def tysOf (θ : Th) : List (ClassId × FieldType) := [(θ.2.2 0, .int), (θ.2.2 1, .boolean), (θ.2.2 2, .char), (θ.2.2 3, .object "NotWorn$Text"), (θ.2.2 4, .object "NotWorn$Row"), (θ.2.2 5, .object "NotWorn$Slot")]
-- what stands outside the world, and nobody changes
def abv (j : Nat) : Int32 := match j with
  | 0 => -1
  | 1 => 0
  | 2 => 0
  | 3 => 1
  | 4 => 2
  | _ => 0
def st_len : List Nat := [12, 3, 2, 2]
def st_byt : List (List Int32) := [[110, 101, 97, 114, 100, 105, 101, 115, 102, 105, 110, 101], [100, 102, 108], [97, 107], [121, 112]]
def st_idx : List Nat := [58, 103, 105, 107]
def st_txt : List String := ["neardiesfine", "dfl", "ak", "yp"]
def y_bit : MethodName := ⟨"NotWorn", "bit", "(Z)I"⟩
def Ev (θ : Th) (A : Nat → Prop) (U : State) (H : Heap) : Prop := va_K θ.2.1 classes (tysOf θ) U ∧ (va_Nw (.methodLinkNest "NotWorn$Laws" 33 y_bit "NotWorn") U ∧ va_Nw (.methodLinkNest "NotWorn$Valley" 128 y_bit "NotWorn") U) ∧ (va_Z "NotWorn$Kinds" "ABOVE" "[I" (.ref (θ.1 900)) A U H ∧ va_T .int (θ.1 900) 6 (fun j => .int (abv j)) A U H) ∧ (vk_S 4 st_len st_byt (fun i => θ.1 (901 + i)) (fun i => θ.1 (905 + i)) A U H ∧ ∀ i : Nat, i < 4 → vk_R "NotWorn$Tape" (st_idx.getD i 0) (st_txt.getD i "") (θ.1 (901 + i)) U) ∧ (va_Z "java/lang/String" "COMPACT_STRINGS" "Z" (.int 1) A U H ∧ va_Zq "jdk/internal/util/Preconditions" "SIOOBE_FORMATTER" "Ljava/util/function/BiFunction;" A U H)
theorem Ev.narrow {θ : Th} {A B : Nat → Prop} {U : State} {H : Heap} (h : Ev θ A U H) (hAB : ∀ q, B q → A q) : Ev θ B U H :=
  ⟨h.1, h.2.1, ⟨h.2.2.1.1.narrow hAB, h.2.2.1.2.narrow hAB⟩, ⟨h.2.2.2.1.1.narrow hAB, h.2.2.2.1.2⟩, ⟨h.2.2.2.2.1.narrow hAB, h.2.2.2.2.2.narrow hAB⟩⟩
theorem Ev.kept {θ : Th} {A : Nat → Prop} {U : State} {H H1 : Heap} (h : Ev θ A U H) (hq : ∀ a : Nat, a < H.size → ¬ A a → H1[a]? = H[a]?) : Ev θ A U H1 :=
  ⟨h.1, h.2.1, ⟨h.2.2.1.1.kept hq, h.2.2.1.2.kept hq⟩, ⟨h.2.2.2.1.1.kept hq, h.2.2.2.1.2⟩, ⟨h.2.2.2.2.1.kept hq, h.2.2.2.2.2.kept hq⟩⟩
theorem Ev.warm {θ : Th} {A : Nat → Prop} {s U : State} {H : Heap} (hW : s.WarmedH U.vm) (h : Ev θ A s H) : Ev θ A U H :=
  ⟨h.1.moved hW.alike, ⟨va_Nw.warmM hW h.2.1.1, va_Nw.warmM hW h.2.1.2⟩, ⟨h.2.2.1.1.moved hW.alike, h.2.2.1.2.moved hW.alike⟩, ⟨h.2.2.2.1.1.moved hW.alike, fun i hi => (h.2.2.2.1.2 i hi).warm hW⟩, ⟨h.2.2.2.2.1.moved hW.alike, h.2.2.2.2.2.moved hW.alike⟩⟩
theorem Ev.same {θ : Th} {A : Nat → Prop} {s U : State} {H : Heap} (hv : s.vm = U.vm) (h : Ev θ A s H) : Ev θ A U H :=
  have ha : s.vm.Alike U.vm := hv ▸ Vm.Alike.refl _
  ⟨h.1.moved ha, ⟨va_Nw.same rfl hv h.2.1.1, va_Nw.same rfl hv h.2.1.2⟩, ⟨h.2.2.1.1.moved ha, h.2.2.1.2.moved ha⟩, ⟨h.2.2.2.1.1.moved ha, fun i hi => (h.2.2.2.1.2 i hi).same hv.symm⟩, ⟨h.2.2.2.2.1.moved ha, h.2.2.2.2.2.moved ha⟩⟩
-- locals
def prsF (a : Nat → Nat) : Lc → Nat → List (Nat × Value)
  | [], _ => []
  | none :: r, j => prsF a r (j + 1)
  | some v :: r, j => (j, conc a v) :: prsF a r (j + 1)
theorem prsF_mem {a : Nat → Nat} {v : AV} : ∀ {L : Lc} {j0 k : Nat}, L[k]? = some (some v) → (j0 + k, conc a v) ∈ prsF a L j0
  | [], _, _, h => by simp at h
  | none :: r, j0, 0, h => by simp at h
  | some w :: r, j0, 0, h => by simp at h; simp [prsF, h]
  | none :: r, j0, k + 1, h => by
    have := prsF_mem (a := a) (v := v) (L := r) (j0 := j0 + 1) (k := k) (by simpa using h)
    rw [show j0 + (k + 1) = j0 + 1 + k by omega]; simpa [prsF] using this
  | some w :: r, j0, k + 1, h => by
    have := prsF_mem (a := a) (v := v) (L := r) (j0 := j0 + 1) (k := k) (by simpa using h)
    rw [show j0 + (k + 1) = j0 + 1 + k by omega]; simp only [prsF, List.mem_cons]; exact Or.inr this
theorem prsF_of {a : Nat → Nat} : ∀ {L : Lc} {j0 : Nat} {q : Nat × Value}, q ∈ prsF a L j0 → ∃ (k : Nat) (v : AV), q = (j0 + k, conc a v) ∧ L[k]? = some (some v)
  | [], _, _, h => by simp [prsF] at h
  | none :: r, j0, q, h => by
    obtain ⟨k, v, h1, h2⟩ := prsF_of (a := a) (L := r) (j0 := j0 + 1) (q := q) (by simpa [prsF] using h)
    exact ⟨k + 1, v, by rw [h1]; congr 1; omega, by simpa using h2⟩
  | some w :: r, j0, q, h => by
    simp only [prsF, List.mem_cons] at h
    rcases h with h | h
    · exact ⟨0, w, by simpa using h, by simp⟩
    · obtain ⟨k, v, h1, h2⟩ := prsF_of (a := a) (L := r) (j0 := j0 + 1) (q := q) h
      exact ⟨k + 1, v, by rw [h1]; congr 1; omega, by simpa using h2⟩
def prs (a : Nat → Nat) (L : Lc) : List (Nat × Value) := prsF a L 0
theorem prs_mem {a : Nat → Nat} {L : Lc} {k : Nat} {v : AV} (h : L[k]? = some (some v)) : (k, conc a v) ∈ prs a L := by
  have := prsF_mem (a := a) (j0 := 0) h
  simpa [prs] using this
theorem prs_of {a : Nat → Nat} {L : Lc} {q : Nat × Value} (h : q ∈ prs a L) : ∃ (k : Nat) (v : AV), q = (k, conc a v) ∧ L[k]? = some (some v) := by
  obtain ⟨k, v, h1, h2⟩ := prsF_of h
  exact ⟨k, v, by simpa using h1, h2⟩
theorem lvh_sub {ls : Array Slot} {n : Nat} {l l' : List (Nat × Value)} (h : lv_has ls n l) (hs : ∀ q ∈ l', q ∈ l) : lv_has ls n l' := ⟨h.1, h.2.1, fun q hq => h.2.2 q (hs q hq)⟩
theorem lvh_at {ls : Array Slot} {n : Nat} {a : Nat → Nat} {L : Lc} (h : lv_has ls n (prs a L)) {k : Nat} {v : AV} (hk : L[k]? = some (some v)) : ls[k]? = some (.val (conc a v)) := h.2.2 _ (prs_mem hk)
theorem lvh_set {ls : Array Slot} {n : Nat} {a : Nat → Nat} {L : Lc} {k : Nat} {v : AV} (hk : k < L.length) (h : lv_has ls n ((k, conc a v) :: (prs a L).filter (fun q => !(q.1 == k) && !(q.1 + 1 == k && q.2.category == 2)))) : lv_has ls n (prs a (L.set k (some v))) := by
  refine lvh_sub h fun q hq => ?_
  obtain ⟨j, w, h1, h2⟩ := prs_of hq
  rw [List.getElem?_set] at h2
  by_cases hj : k = j
  · subst hj
    rw [if_pos rfl, if_pos hk] at h2
    cases h2
    rw [h1]; exact List.mem_cons_self
  · rw [if_neg hj] at h2
    refine List.mem_cons_of_mem _ (List.mem_filter.mpr ⟨by rw [h1]; exact prs_mem h2, ?_⟩)
    rw [h1]
    simp [conc_cat, Ne.symm hj]
/-- less is known of the locals -/
theorem lvh_forget {ls : Array Slot} {n : Nat} {a : Nat → Nat} {L L' : Lc} (h : lv_has ls n (prs a L)) (hs : ∀ (k : Nat) (v : AV), L'[k]? = some (some v) → L[k]? = some (some v)) : lv_has ls n (prs a L') :=
  lvh_sub h fun q hq => by
    obtain ⟨k, v, h1, h2⟩ := prs_of hq
    rw [h1]; exact prs_mem (hs k v h2)
-- the frame in which a method runs
abbrev Fr : Type := Program × Launch × Env × Room × State × MethodId × Array Value × List Frame × Method × Code
abbrev Cx : Type := Th × Fr × (Nat → Prop) × (Nat × Nat) × (State → Prop)
def X (Γ : Cx) (pc : Nat) (L : Lc) (st : List AV) (σ : Sg) : Prop := match Γ with
  | (θ, (p, l, e, R, s, m, args, below, meth, c), A, (kc, ks), Q) => ∀ (H : Heap) (locs : List Loc) (ls : Array Slot), va_P θ.2.1 classes (wsOf θ σ) H → va_S A s.heap H locs → lv_has ls L.length (prs θ.1 L) → W p l e R s m args below meth c H locs kc ks Q (F0 m pc ls (st.map (conc θ.1)))
/-- what is known of the frame: code and tables -/
def Ok (Γ : Cx) (own : String) (b : ByteArray) (nL : Nat) : Prop := match Γ with
  | (θ, (p, _, _, _, s, m, args, _, _, c), A, _, _) => p.tables.exec = Jvm.exec ∧ c.code = b ∧ c.maxLocals = nL ∧ s.vm.findClass own = some m.cls ∧ (∀ w ∈ TB, w.before args s = true) ∧ Ev θ A s s.heap ∧ Inj θ ∧ ∀ q, AA θ q → A q
end
section
/-! straight runs, by computation -/
abbrev Rw : Type := Nat × Instr × Nat × Int32 × Nat × Nat
abbrev Rq : Type := Instr × Nat × Int32 × Nat × Nat
abbrev Mst : Type := Nat × Lc × List AV × Sg
def lkp (pc : Nat) : List Rw → Option Rq
  | [] => none
  | r :: rs => match Nat.beq r.1 pc with
    | true => some r.2
    | false => lkp pc rs
theorem lkp_mem {pc : Nat} {q : Rq} : ∀ {l : List Rw}, lkp pc l = some q → (pc, q) ∈ l
  | [], h => by simp [lkp] at h
  | r :: rs, h => by
    rw [lkp] at h
    cases hb : Nat.beq r.1 pc with
    | true =>
      rw [hb] at h
      have h1 : r.1 = pc := Nat.eq_of_beq_eq_true hb
      cases h
      rw [← h1]; exact List.mem_cons_self
    | false =>
      rw [hb] at h
      exact List.mem_cons_of_mem _ (lkp_mem h)
def lenI : Instr → Nat
  | .bipush _ => 2
  | .sipush _ => 3
  | .ldc _ => 2
  | .ldc_w _ => 3
  | .iload _ => 2
  | .aload _ => 2
  | .istore _ => 2
  | .astore _ => 2
  | .iinc _ _ => 3
  | .getfield _ => 3
  | .putfield _ => 3
  | .getstatic _ => 3
  | .goto _ => 3
  | .ifCond _ _ => 3
  | .if_icmp _ _ => 3
  | .invokevirtual _ => 3
  | .invokestatic _ => 3
  | .invokespecial _ => 3
  | .tableswitch _ _ _ _ => 0
  | .lookupswitch _ _ => 0
  | .newarray _ => 2
  | .anewarray _ => 3
  | .new _ => 3
  | _ => 1
def okAux (fl : List (Nat × Nat × Nat)) (ct : List (Nat × Int32)) (r : Rw) : Bool := match r.2.1 with
  | .iconst n => decide (Int32.ofInt n = r.2.2.2.1)
  | .bipush n => decide ((Int8.ofInt n).toInt32 = r.2.2.2.1)
  | .sipush n => decide ((Int16.ofInt n).toInt32 = r.2.2.2.1)
  | .ldc k => decide (r.2.2.2.2.1 = 1) || decide ((k, r.2.2.2.1) ∈ ct)
  | .ldc_w k => decide ((k, r.2.2.2.1) ∈ ct)
  | .iinc _ n => decide (Int32.ofInt n = r.2.2.2.1)
  | .getfield k => decide ((k, r.2.2.2.2.1, r.2.2.2.2.2) ∈ fl)
  | .putfield k => decide ((k, r.2.2.2.2.1, r.2.2.2.2.2) ∈ fl)
  | .goto o => decide ((r.1 : Int) + o = (r.2.2.2.2.1 : Int))
  | .ifCond _ o => decide ((r.1 : Int) + o = (r.2.2.2.2.1 : Int))
  | .if_icmp _ o => decide ((r.1 : Int) + o = (r.2.2.2.2.1 : Int))
  | _ => true
def okR (fl : List (Nat × Nat × Nat)) (ct : List (Nat × Int32)) (b : ByteArray) (r : Rw) : Bool :=
  decide (decode b r.1 = .ok (r.2.1, r.2.2.1 - r.1)) && decide (r.1 ≤ r.2.2.1) && (decide (lenI r.2.1 = 0) || decide (r.2.2.1 = r.1 + lenI r.2.1)) && okAux fl ct r
/-- a table of rows is as the bytes say, its entries as the class file's -/
def okP (own : String) (b : ByteArray) (pg : List Rw) : Prop := ∃ (fl : List (Nat × Nat × Nat)) (ct : List (Nat × Int32)), FLok own fl ∧ CTok own ct ∧ pg.all (okR fl ct b) = true
theorem okP_row {own : String} {b : ByteArray} {pg : List Rw} (hp : okP own b pg) {pc : Nat} {q : Rq} (h : lkp pc pg = some q) :
    ∃ (fl : List (Nat × Nat × Nat)) (ct : List (Nat × Int32)), FLok own fl ∧ CTok own ct ∧ decode b pc = .ok (q.1, q.2.1 - pc) ∧ pc ≤ q.2.1 ∧ (lenI q.1 = 0 ∨ q.2.1 = pc + lenI q.1) ∧ okAux fl ct (pc, q) = true := by
  obtain ⟨fl, ct, h1, h2, h3⟩ := hp
  have h4 := List.all_eq_true.mp h3 _ (lkp_mem h)
  simp only [okR, Bool.and_eq_true, Bool.or_eq_true, decide_eq_true_eq] at h4
  exact ⟨fl, ct, h1, h2, h4.1.1.1, h4.1.1.2, h4.1.2, h4.2⟩
theorem okP_dec {own : String} {b : ByteArray} {pg : List Rw} (hp : okP own b pg) {pc pc' : Nat} {i : Instr} {v : Int32} {a1 a2 : Nat} (h : lkp pc pg = some (i, pc', v, a1, a2)) (hl : lenI i ≠ 0) :
    decode b pc = .ok (i, lenI i) ∧ pc' = pc + lenI i := by
  obtain ⟨fl, ct, -, -, h3, -, h5, -⟩ := okP_row hp h
  rcases h5 with h5 | h5
  · exact absurd h5 hl
  · dsimp only at h3 h5
    refine ⟨?_, h5⟩
    rw [h3, h5, Nat.add_sub_cancel_left]
def setK {α : Type} : Lc → Nat → Option AV → α → (Lc → α) → α
  | [], _, _, d, _ => d
  | _ :: xs, 0, v, _, K => K (v :: xs)
  | x :: xs, k + 1, v, d, K => setK xs k v d (fun r => K (x :: r))
theorem setK_eq {α : Type} : ∀ (L : Lc) (k : Nat) (v : Option AV) (d : α) (K : Lc → α), k < L.length → setK L k v d K = K (L.set k v)
  | [], _, _, _, _, h => by simp at h
  | _ :: xs, 0, v, d, K, _ => rfl
  | x :: xs, k + 1, v, d, K, h => by
    rw [setK, setK_eq xs k v d _ (by simpa using h)]
    simp
theorem setK_ge {α : Type} : ∀ (L : Lc) (k : Nat) (v : Option AV) (d : α) (K : Lc → α), L.length ≤ k → setK L k v d K = d
  | [], _, _, _, _, _ => rfl
  | _ :: xs, 0, v, d, K, h => by simp at h
  | x :: xs, k + 1, v, d, K, h => by
    rw [setK, setK_ge xs k v d _ (by simpa using h)]
def finOk (ci k : Nat) : Bool := match classes[ci]? with
  | some q => !(q.2.1 k).2.2.2 && (q.2.1 k).2.2.1 == "I" && decide (k < q.2.2)
  | none => false
def finOkT : List (Nat × List Nat) := [(0, [1, 2]), (2, [0, 1]), (3, [0, 1, 2, 3]), (4, [1, 2, 3, 4]), (5, [0, 1, 2]), (6, [4, 7, 8, 9, 10, 11, 13, 15]), (7, [10]), (8, [7, 8, 11, 12, 13, 14, 15, 16, 17, 21, 22, 24, 37])]
theorem finOkT_ok : finOkT.all (fun q => q.2.all (finOk q.1)) = true := by decide +kernel
def memN (k : Nat) : List Nat → Bool
  | [] => false
  | x :: xs => match Nat.beq x k with
    | true => true
    | false => memN k xs
theorem memN_mem {k : Nat} : ∀ {l : List Nat}, memN k l = true → k ∈ l
  | [], h => by simp [memN] at h
  | x :: xs, h => by
    rw [memN] at h
    cases hb : Nat.beq x k with
    | true => rw [← Nat.eq_of_beq_eq_true hb]; exact List.mem_cons_self
    | false => rw [hb] at h; exact List.mem_cons_of_mem _ (memN_mem h)
def putOk (ci k : Nat) : List (Nat × List Nat) → Bool
  | [] => false
  | x :: xs => match Nat.beq x.1 ci with
    | true => memN k x.2
    | false => putOk ci k xs
theorem putOk_mem {ci k : Nat} : ∀ {l : List (Nat × List Nat)}, putOk ci k l = true → ∃ q ∈ l, q.1 = ci ∧ k ∈ q.2
  | [], h => by simp [putOk] at h
  | x :: xs, h => by
    rw [putOk] at h
    cases hb : Nat.beq x.1 ci with
    | true => rw [hb] at h; exact ⟨x, List.mem_cons_self, Nat.eq_of_beq_eq_true hb, memN_mem h⟩
    | false =>
      rw [hb] at h
      obtain ⟨q, h1, h2⟩ := putOk_mem h
      exact ⟨q, List.mem_cons_of_mem _ h1, h2⟩
theorem putOk_fin {ci k : Nat} (h : putOk ci k finOkT = true) : finOk ci k = true := by
  obtain ⟨q, h1, h2, h3⟩ := putOk_mem h
  rw [← h2]
  exact List.all_eq_true.mp (List.all_eq_true.mp finOkT_ok q h1) k h3
/-- one step, where an instruction is straight -/
def stp (q : Rq) (pc : Nat) (L : Lc) (st : List AV) (σ : Sg) (d : Mst) (K : Nat → Lc → List AV → Sg → Mst) : Mst := match q with
  | (i, pc', v, a1, a2) => match i with
    | .iconst _ => K pc' L (.inl v :: st) σ
    | .bipush _ => K pc' L (.inl v :: st) σ
    | .sipush _ => K pc' L (.inl v :: st) σ
    | .ldc _ => match Nat.beq a1 1 with
      | true => d
      | false => K pc' L (.inl v :: st) σ
    | .ldc_w _ => K pc' L (.inl v :: st) σ
    | .iload_n k => match L[k.val]? with
      | some (some (.inl x)) => K pc' L (.inl x :: st) σ
      | _ => d
    | .iload k => match L[k]? with
      | some (some (.inl x)) => K pc' L (.inl x :: st) σ
      | _ => d
    | .aload_n k => match L[k.val]? with
      | some (some (.inr x)) => K pc' L (.inr x :: st) σ
      | _ => d
    | .aload k => match L[k]? with
      | some (some (.inr x)) => K pc' L (.inr x :: st) σ
      | _ => d
    | .istore_n k => match st with
      | .inl x :: r => setK L k.val (some (.inl x)) d (fun L' => K pc' L' r σ)
      | _ => d
    | .istore k => match st with
      | .inl x :: r => setK L k (some (.inl x)) d (fun L' => K pc' L' r σ)
      | _ => d
    | .astore_n k => match st with
      | .inr x :: r => setK L k.val (some (.inr x)) d (fun L' => K pc' L' r σ)
      | _ => d
    | .astore k => match st with
      | .inr x :: r => setK L k (some (.inr x)) d (fun L' => K pc' L' r σ)
      | _ => d
    | .iinc k _ => match L[k]? with
      | some (some (.inl x)) => setK L k (some (.inl (x + v))) d (fun L' => K pc' L' st σ)
      | _ => d
    | .iadd => match st with
      | .inl y :: .inl x :: r => K pc' L (.inl (x + y) :: r) σ
      | _ => d
    | .isub => match st with
      | .inl y :: .inl x :: r => K pc' L (.inl (x - y) :: r) σ
      | _ => d
    | .imul => match st with
      | .inl y :: .inl x :: r => K pc' L (.inl (x * y) :: r) σ
      | _ => d
    | .iand => match st with
      | .inl y :: .inl x :: r => K pc' L (.inl (x &&& y) :: r) σ
      | _ => d
    | .ior => match st with
      | .inl y :: .inl x :: r => K pc' L (.inl (x ||| y) :: r) σ
      | _ => d
    | .ishl => match st with
      | .inl y :: .inl x :: r => K pc' L (.inl (x <<< (y &&& 31)) :: r) σ
      | _ => d
    | .ishr => match st with
      | .inl y :: .inl x :: r => K pc' L (.inl (x >>> (y &&& 31)) :: r) σ
      | _ => d
    | .iushr => match st with
      | .inl y :: .inl x :: r => K pc' L (.inl ((x.toUInt32 >>> (y.toUInt32 &&& Int32.toUInt32 31)).toInt32) :: r) σ
      | _ => d
    | .ineg => match st with
      | .inl x :: r => K pc' L (.inl (-x) :: r) σ
      | _ => d
    | .i2s => match st with
      | .inl x :: r => K pc' L (.inl x.toInt16.toInt32 :: r) σ
      | _ => d
    | .i2c => match st with
      | .inl x :: r => K pc' L (.inl (x.toUInt32 % 65536).toInt32 :: r) σ
      | _ => d
    | .dup => match st with
      | x :: r => K pc' L (x :: x :: r) σ
      | _ => d
    | .pop => match st with
      | _ :: r => K pc' L r σ
      | _ => d
    | .dup2 => match st with
      | y :: x :: r => K pc' L (y :: x :: y :: x :: r) σ
      | _ => d
    | .goto _ => match Nat.ble a1 pc with
      | true => d
      | false => K a1 L st σ
    | .getfield _ => match st with
      | .inr c :: r => match lay[c]? with
        | some (.inl (ci, fds)) => match Nat.beq ci a1 with
          | true => match fds[a2]? with
            | some none => K pc' L (.inl (σ c a2) :: r) σ
            | some (some k) => K pc' L (.inr k :: r) σ
            | none => d
          | false => d
        | _ => d
      | _ => d
    | .putfield _ => match st with
      | .inl x :: .inr c :: r => match lay[c]? with
        | some (.inl (ci, fds)) => match Nat.beq ci a1 with
          | true => match fds[a2]? with
            | some none => match putOk a1 a2 finOkT with
              | true => K pc' L r (up σ c a2 x)
              | false => d
            | _ => d
          | false => d
        | _ => d
      | _ => d
    | .arraylength => match st with
      | .inr c :: r => match lay[c]? with
        | some (.inr (kd, n, _)) => match Nat.ble kd 5 with
          | true => K pc' L (.inl (nI n) :: r) σ
          | false => d
        | _ => d
      | _ => d
    | _ => d
def run (pg : List Rw) : Nat → Nat → Lc → List AV → Sg → Mst
  | 0, pc, L, st, σ => (pc, L, st, σ)
  | n + 1, pc, L, st, σ => match lkp pc pg with
    | none => (pc, L, st, σ)
    | some q => stp q pc L st σ (pc, L, st, σ) (fun pc' L' st' σ' => run pg n pc' L' st' σ')
def XT (Γ : Cx) (q : Mst) : Prop := match q with
  | (pc, L, st, σ) => X Γ pc L st σ
end
section
theorem layOk_b : lay.all (fun s => match s with | .inl (ci, fds) => (match classes[ci]? with | some q => fds.length == q.2.2 | none => false) | .inr _ => true) = true := by decide +kernel
theorem layOk {c ci : Nat} {fds : List (Option Nat)} (h : lay[c]? = some (.inl (ci, fds))) : ∃ q, classes[ci]? = some q ∧ fds.length = q.2.2 := by
  have h1 := List.all_eq_true.mp layOk_b _ (List.mem_of_getElem? h)
  dsimp only at h1
  cases hq : classes[ci]? with
  | none => rw [hq] at h1; cases h1
  | some q => rw [hq] at h1; exact ⟨q, rfl, by simpa using h1⟩
theorem tys_at (θ : Th) {kd : Nat} (h : kd ≤ 5) : ∃ ty, (tysOf θ)[kd]? = some (θ.2.2 kd, ty) := by
  match kd, h with
  | 0, _ => exact ⟨_, rfl⟩
  | 1, _ => exact ⟨_, rfl⟩
  | 2, _ => exact ⟨_, rfl⟩
  | 3, _ => exact ⟨_, rfl⟩
  | 4, _ => exact ⟨_, rfl⟩
  | 5, _ => exact ⟨_, rfl⟩
  | k + 6, h => omega
theorem okAux_of {own : String} {b : ByteArray} {pg : List Rw} (hp : okP own b pg) {pc pc' : Nat} {i : Instr} {v : Int32} {a1 a2 : Nat} (h : lkp pc pg = some (i, pc', v, a1, a2)) : ∃ (fl : List (Nat × Nat × Nat)) (ct : List (Nat × Int32)), FLok own fl ∧ CTok own ct ∧ okAux fl ct (pc, i, pc', v, a1, a2) = true := by
  obtain ⟨fl, ct, h1, h2, -, -, -, h6⟩ := okP_row hp h
  exact ⟨fl, ct, h1, h2, h6⟩
section Sound
variable {Γ : Cx} {own : String} {b : ByteArray} {nL : Nat} {pg : List Rw} {pc pc' a1 a2 : Nat} {v : Int32} {L : Lc} {st r : List AV} {σ : Sg}
theorem X_goto (hG : Ok Γ own b nL) (hp : okP own b pg) {o : Int} (hq : lkp pc pg = some (.goto o, pc', v, a1, a2)) (k : X Γ a1 L st σ) : X Γ pc L st σ := by
  obtain ⟨θ, ⟨p, l, e, R, s, m, args, below, meth, c⟩, A, ⟨kc, ks⟩, Q⟩ := Γ
  obtain ⟨hx, hb, hml, hown, hts, hE, hI, hA⟩ := hG
  obtain ⟨hd, he⟩ := okP_dec hp hq (by simp [lenI])
  obtain ⟨fl, ct, -, -, h3⟩ := okAux_of hp hq
  simp only [okAux, decide_eq_true_eq] at h3
  intro H locs ls hP hS hl
  exact lv_goto hx hb hd h3 (k H locs ls hP hS hl)
theorem X_getfield (hG : Ok Γ own b nL) (hp : okP own b pg) {k c0 ci : Nat} {fds : List (Option Nat)} (hq : lkp pc pg = some (.getfield k, pc', v, a1, a2)) (hl0 : lay[c0]? = some (.inl (ci, fds))) (hci : ci = a1) {w : AV} (hw : fds[a2]? = some none ∧ w = .inl (σ c0 a2) ∨ ∃ z, fds[a2]? = some (some z) ∧ w = .inr z) (kk : X Γ pc' L (w :: r) σ) : X Γ pc L (.inr c0 :: r) σ := by
  obtain ⟨θ, ⟨p, l, e, R, s, m, args, below, meth, c⟩, A, ⟨kc, ks⟩, Q⟩ := Γ
  obtain ⟨hx, hb, hml, hown, hts, hE, hI, hA⟩ := hG
  obtain ⟨hd, he⟩ := okP_dec hp hq (by simp [lenI])
  obtain ⟨fl, ct, h1, -, h3⟩ := okAux_of hp hq
  simp only [okAux, decide_eq_true_eq] at h3
  subst hci
  obtain ⟨⟨C, T, N⟩, hcq, hlen⟩ := layOk hl0
  have hlink := h1 _ h3
  have hgd : classes.getD ci ("", FT0, 0) = (C, T, N) := by rw [List.getD_eq_getElem?_getD, hcq]; rfl
  simp only [FLc, hgd] at hlink
  obtain ⟨hw1, ⟨ty0, hty⟩, hnm, hcl⟩ := cl_ok _ (List.mem_of_getElem? hcq)
  dsimp only at hw1 hty hnm hcl hlen
  subst he
  intro H locs ls hP hS hl
  have hk : a2 < N := by
    rw [← hlen]
    rcases hw with ⟨h, -⟩ | ⟨z, h, -⟩ <;> exact (List.getElem?_eq_some_iff.mp h).1
  have hv : (conF θ.1 (σ c0) fds 0)[a2]? = some (conc θ.1 w) := by
    rcases hw with ⟨h, rfl⟩ | ⟨z, h, rfl⟩
    · rw [conF_int h, Nat.zero_add]; rfl
    · rw [conF_ref h]; rfl
  refine va_get (C := C) (T := T) (N := N) (ci := ci) (ref := (T a2).1) (index := k) (Ts := TB) hx hb hts hw1 hown hE.1 hP c0 (wsOf_get hl0) hcq a2 hk (hts _ hlink) (fun _ h => h) hv hd ?_
  exact kk H locs ls hP hS hl
theorem X_putfield (hG : Ok Γ own b nL) (hp : okP own b pg) {k c0 ci : Nat} {fds : List (Option Nat)} {x : Int32} (hq : lkp pc pg = some (.putfield k, pc', v, a1, a2)) (hl0 : lay[c0]? = some (.inl (ci, fds))) (hci : ci = a1) (hw : fds[a2]? = some none) (hf : putOk a1 a2 finOkT = true) (kk : X Γ pc' L r (up σ c0 a2 x)) : X Γ pc L (.inl x :: .inr c0 :: r) σ := by
  obtain ⟨θ, ⟨p, l, e, R, s, m, args, below, meth, c⟩, A, ⟨kc, ks⟩, Q⟩ := Γ
  obtain ⟨hx, hb, hml, hown, hts, hE, hI, hA⟩ := hG
  obtain ⟨hd, he⟩ := okP_dec hp hq (by simp [lenI])
  obtain ⟨fl, ct, h1, -, h3⟩ := okAux_of hp hq
  simp only [okAux, decide_eq_true_eq] at h3
  subst hci
  obtain ⟨⟨C, T, N⟩, hcq, hlen⟩ := layOk hl0
  have hlink := h1 _ h3
  have hgd : classes.getD ci ("", FT0, 0) = (C, T, N) := by rw [List.getD_eq_getElem?_getD, hcq]; rfl
  simp only [FLc, hgd] at hlink
  obtain ⟨hw1, ⟨ty0, hty⟩, hnm, hcl⟩ := cl_ok _ (List.mem_of_getElem? hcq)
  dsimp only at hw1 hty hnm hcl hlen
  have hfo := putOk_fin hf
  rw [finOk, hcq] at hfo
  simp only [Bool.and_eq_true, Bool.not_eq_true', beq_iff_eq, decide_eq_true_eq] at hfo
  obtain ⟨⟨hf1, hf2⟩, hk⟩ := hfo
  subst he
  intro H locs ls hP hS hl
  refine va_put (C := C) (T := T) (N := N) (ci := ci) (ref := (T a2).1) (index := k) (Ts := TB) (ty := .int) (v := .int x) hx hb hts hw1 ty0 hty hnm hown hE.1 hP (wsOf_D hI hA σ) hS c0 (wsOf_get hl0) hcq a2 hk (hts _ hlink) (fun _ h => h) hf1 (by rw [hf2]; decide +kernel) rfl rfl (by rw [conF_len]; exact (List.getElem?_eq_some_iff.mp hw).1) hd ?_
  intro H1 locs1 hP1 hD1 hS1
  refine kk H1 locs1 ls ?_ hS1 hl
  have e1 : (conF θ.1 (σ c0) fds 0).set a2 (.int x) = conF θ.1 (upd (σ c0) a2 x) fds 0 := by
    have := conF_set (a := θ.1) (f := σ c0) (v := x) (l := fds) (j0 := 0) (j := a2) hw
    rw [Nat.zero_add] at this
    exact this.symm
  rw [e1] at hP1
  rw [up, ← wsOf_upc hl0]
  exact hP1
theorem X_alen (hG : Ok Γ own b nL) (hp : okP own b pg) {c0 kd n : Nat} {rs : List Nat} (hq : lkp pc pg = some (.arraylength, pc', v, a1, a2)) (hl0 : lay[c0]? = some (.inr (kd, n, rs))) (hkd : kd ≤ 5) (kk : X Γ pc' L (.inl (nI n) :: r) σ) : X Γ pc L (.inr c0 :: r) σ := by
  obtain ⟨θ, ⟨p, l, e, R, s, m, args, below, meth, c⟩, A, ⟨kc, ks⟩, Q⟩ := Γ
  obtain ⟨hx, hb, hml, hown, hts, hE, hI, hA⟩ := hG
  obtain ⟨hd, he⟩ := okP_dec hp hq (by simp [lenI])
  obtain ⟨ty, hty⟩ := tys_at θ hkd
  subst he
  intro H locs ls hP hS hl
  exact va_alen (v := nI n) hx hb hE.1 hP c0 kd (wsOf_get hl0) hty rfl hd (kk H locs ls hP hS hl)
end Sound
set_option maxHeartbeats 4000000 in
theorem stp_sound {Γ : Cx} {own : String} {b : ByteArray} {nL : Nat} (hG : Ok Γ own b nL) {pg : List Rw} (hp : okP own b pg) {pc : Nat} {L : Lc} {st : List AV} {σ : Sg} {q : Rq} (hq : lkp pc pg = some q) (hL : L.length = nL) {K : Nat → Lc → List AV → Sg → Mst} (hK : ∀ pc' L' st' σ', L'.length = nL → XT Γ (K pc' L' st' σ') → X Γ pc' L' st' σ') (h : XT Γ (stp q pc L st σ (pc, L, st, σ) K)) : X Γ pc L st σ := by
  have hG0 := hG
  obtain ⟨θ, ⟨p, l, e, R, s, m, args, below, meth, c⟩, A, ⟨kc, ks⟩, Q⟩ := Γ
  obtain ⟨hx, hb, hml, hown, hts, hE, hI, hA⟩ := hG
  obtain ⟨i, pc', v, a1, a2⟩ := q
  have hcons : ∀ (j : Nat), ∀ (ins : Instr), i = ins → (decode b pc = .ok (ins, j) ∧ pc' = pc + j) → (∀ (H : Heap) (locs : List Loc) (ls : Array Slot), va_P θ.2.1 classes (wsOf θ σ) H → va_S A s.heap H locs → lv_has ls L.length (prs θ.1 L) → (W p l e R s m args below meth c H locs kc ks Q (F0 m (pc + j) ls (.int v :: st.map (conc θ.1)))) → W p l e R s m args below meth c H locs kc ks Q (F0 m pc ls (st.map (conc θ.1)))) → XT (θ, (p, l, e, R, s, m, args, below, meth, c), A, (kc, ks), Q) (K pc' L (.inl v :: st) σ) → X (θ, (p, l, e, R, s, m, args, below, meth, c), A, (kc, ks), Q) pc L st σ := by
    intro j ins _ ⟨_, he⟩ hrow hk
    have hX := hK _ _ _ _ hL hk
    subst he
    intro H locs ls hP hS hl
    exact hrow H locs ls hP hS hl (hX H locs ls hP hS hl)
  cases i <;> (try exact h)
  case iconst n =>
    have hd := okP_dec hp hq (by simp [lenI])
    obtain ⟨fl, ct, -, -, h3⟩ := okAux_of hp hq
    simp only [okAux, decide_eq_true_eq] at h3
    exact hcons 1 _ rfl hd (fun H locs ls hP hS hl k => lv_iconst hx hb hd.1 h3 k) h
  case bipush n =>
    have hd := okP_dec hp hq (by simp [lenI])
    obtain ⟨fl, ct, -, -, h3⟩ := okAux_of hp hq
    simp only [okAux, decide_eq_true_eq] at h3
    exact hcons 2 _ rfl hd (fun H locs ls hP hS hl k => lv_bipush hx hb hd.1 h3 k) h
  case sipush n =>
    have hd := okP_dec hp hq (by simp [lenI])
    obtain ⟨fl, ct, -, -, h3⟩ := okAux_of hp hq
    simp only [okAux, decide_eq_true_eq] at h3
    exact hcons 3 _ rfl hd (fun H locs ls hP hS hl k => lv_sipush hx hb hd.1 h3 k) h
  case ldc n =>
    dsimp only [stp] at h
    cases hb1 : Nat.beq a1 1 with
    | true => rw [hb1] at h; exact h
    | false =>
      rw [hb1] at h
      have hd := okP_dec hp hq (by simp [lenI])
      obtain ⟨fl, ct, -, h2, h3⟩ := okAux_of hp hq
      simp only [okAux, Bool.or_eq_true, decide_eq_true_eq] at h3
      rcases h3 with h3 | h3
      · rw [h3] at hb1; cases hb1
      · exact hcons 2 _ rfl hd (fun H locs ls hP hS hl k => lv_ldc hx hb hown (hts _ (h2 _ h3)) hd.1 k) h
  case ldc_w n =>
    have hd := okP_dec hp hq (by simp [lenI])
    obtain ⟨fl, ct, -, h2, h3⟩ := okAux_of hp hq
    simp only [okAux, decide_eq_true_eq] at h3
    exact hcons 3 _ rfl hd (fun H locs ls hP hS hl k => lv_ldcw hx hb hown (hts _ (h2 _ h3)) hd.1 k) h
  case iload_n k =>
    dsimp only [stp] at h
    split at h
    · rename_i x hk
      obtain ⟨hd, he⟩ := okP_dec hp hq (by simp [lenI])
      have hX := hK _ _ _ _ hL h
      subst he
      intro H locs ls hP hS hl
      exact lv_iload_n hx hb hd rfl (lvh_at hl hk) (hX H locs ls hP hS hl)
    · exact h
  case iload k =>
    dsimp only [stp] at h
    split at h
    · rename_i x hk
      obtain ⟨hd, he⟩ := okP_dec hp hq (by simp [lenI])
      have hX := hK _ _ _ _ hL h
      subst he
      intro H locs ls hP hS hl
      exact lv_iload hx hb hd (lvh_at hl hk) (hX H locs ls hP hS hl)
    · exact h
  case aload_n k =>
    dsimp only [stp] at h
    split at h
    · rename_i x hk
      obtain ⟨hd, he⟩ := okP_dec hp hq (by simp [lenI])
      have hX := hK _ _ _ _ hL h
      subst he
      intro H locs ls hP hS hl
      exact lv_aload_n hx hb hd rfl (lvh_at hl hk) (hX H locs ls hP hS hl)
    · exact h
  case aload k =>
    dsimp only [stp] at h
    split at h
    · rename_i x hk
      obtain ⟨hd, he⟩ := okP_dec hp hq (by simp [lenI])
      have hX := hK _ _ _ _ hL h
      subst he
      intro H locs ls hP hS hl
      exact lv_aload hx hb hd (lvh_at hl hk) (hX H locs ls hP hS hl)
    · exact h
  case istore_n k =>
    dsimp only [stp] at h
    split at h
    · rename_i x r
      by_cases hkl : k.val < L.length
      · rw [setK_eq _ _ _ _ _ hkl] at h
        obtain ⟨hd, he⟩ := okP_dec hp hq (by simp [lenI])
        have hX := hK _ _ _ _ (by simpa using hL) h
        subst he
        intro H locs ls hP hS hl
        exact lv_istore_n hx hb hd rfl hl hkl rfl (fun ls' hl' => hX H locs ls' hP hS (by rw [List.length_set]; exact lvh_set hkl hl'))
      · rw [setK_ge _ _ _ _ _ (by omega)] at h; exact h
    · exact h
  case istore k =>
    dsimp only [stp] at h
    split at h
    · rename_i x r
      by_cases hkl : k < L.length
      · rw [setK_eq _ _ _ _ _ hkl] at h
        obtain ⟨hd, he⟩ := okP_dec hp hq (by simp [lenI])
        have hX := hK _ _ _ _ (by simpa using hL) h
        subst he
        intro H locs ls hP hS hl
        exact lv_istore hx hb hd hl hkl rfl (fun ls' hl' => hX H locs ls' hP hS (by rw [List.length_set]; exact lvh_set hkl hl'))
      · rw [setK_ge _ _ _ _ _ (by omega)] at h; exact h
    · exact h
  case astore_n k =>
    dsimp only [stp] at h
    split at h
    · rename_i x r
      by_cases hkl : k.val < L.length
      · rw [setK_eq _ _ _ _ _ hkl] at h
        obtain ⟨hd, he⟩ := okP_dec hp hq (by simp [lenI])
        have hX := hK _ _ _ _ (by simpa using hL) h
        subst he
        intro H locs ls hP hS hl
        exact lv_astore_n hx hb hd rfl hl hkl rfl (fun ls' hl' => hX H locs ls' hP hS (by rw [List.length_set]; exact lvh_set hkl hl'))
      · rw [setK_ge _ _ _ _ _ (by omega)] at h; exact h
    · exact h
  case astore k =>
    dsimp only [stp] at h
    split at h
    · rename_i x r
      by_cases hkl : k < L.length
      · rw [setK_eq _ _ _ _ _ hkl] at h
        obtain ⟨hd, he⟩ := okP_dec hp hq (by simp [lenI])
        have hX := hK _ _ _ _ (by simpa using hL) h
        subst he
        intro H locs ls hP hS hl
        exact lv_astore hx hb hd hl hkl rfl (fun ls' hl' => hX H locs ls' hP hS (by rw [List.length_set]; exact lvh_set hkl hl'))
      · rw [setK_ge _ _ _ _ _ (by omega)] at h; exact h
    · exact h
  case iinc k n =>
    dsimp only [stp] at h
    split at h
    · rename_i x hk
      have hkl : k < L.length := (List.getElem?_eq_some_iff.mp hk).1
      rw [setK_eq _ _ _ _ _ hkl] at h
      obtain ⟨hd, he⟩ := okP_dec hp hq (by simp [lenI])
      obtain ⟨fl, ct, -, -, h3⟩ := okAux_of hp hq
      simp only [okAux, decide_eq_true_eq] at h3
      have hX := hK _ _ _ _ (by simpa using hL) h
      subst he
      intro H locs ls hP hS hl
      obtain ⟨j, hj⟩ := List.getElem?_of_mem (prs_mem (a := θ.1) hk)
      exact lv_iinc hx hb hd hl hj (v := x + v) (by rw [h3]) hkl rfl (fun ls' hl' => hX H locs ls' hP hS (by rw [List.length_set]; exact lvh_set (v := .inl (x + v)) hkl hl'))
    · exact h
  case iadd =>
    dsimp only [stp] at h
    split at h
    · obtain ⟨hd, he⟩ := okP_dec hp hq (by simp [lenI])
      have hX := hK _ _ _ _ hL h
      subst he
      intro H locs ls hP hS hl
      exact lv_iadd hx hb hd (hX H locs ls hP hS hl)
    · exact h
  case isub =>
    dsimp only [stp] at h
    split at h
    · obtain ⟨hd, he⟩ := okP_dec hp hq (by simp [lenI])
      have hX := hK _ _ _ _ hL h
      subst he
      intro H locs ls hP hS hl
      exact lv_isub hx hb hd (hX H locs ls hP hS hl)
    · exact h
  case imul =>
    dsimp only [stp] at h
    split at h
    · obtain ⟨hd, he⟩ := okP_dec hp hq (by simp [lenI])
      have hX := hK _ _ _ _ hL h
      subst he
      intro H locs ls hP hS hl
      exact lv_imul hx hb hd (hX H locs ls hP hS hl)
    · exact h
  case iand =>
    dsimp only [stp] at h
    split at h
    · obtain ⟨hd, he⟩ := okP_dec hp hq (by simp [lenI])
      have hX := hK _ _ _ _ hL h
      subst he
      intro H locs ls hP hS hl
      exact lv_iand hx hb hd (hX H locs ls hP hS hl)
    · exact h
  case ior =>
    dsimp only [stp] at h
    split at h
    · obtain ⟨hd, he⟩ := okP_dec hp hq (by simp [lenI])
      have hX := hK _ _ _ _ hL h
      subst he
      intro H locs ls hP hS hl
      exact lv_ior hx hb hd (hX H locs ls hP hS hl)
    · exact h
  case ishl =>
    dsimp only [stp] at h
    split at h
    · obtain ⟨hd, he⟩ := okP_dec hp hq (by simp [lenI])
      have hX := hK _ _ _ _ hL h
      subst he
      intro H locs ls hP hS hl
      exact lv_ishl hx hb hd (hX H locs ls hP hS hl)
    · exact h
  case ishr =>
    dsimp only [stp] at h
    split at h
    · obtain ⟨hd, he⟩ := okP_dec hp hq (by simp [lenI])
      have hX := hK _ _ _ _ hL h
      subst he
      intro H locs ls hP hS hl
      exact lv_ishr hx hb hd (hX H locs ls hP hS hl)
    · exact h
  case iushr =>
    dsimp only [stp] at h
    split at h
    · obtain ⟨hd, he⟩ := okP_dec hp hq (by simp [lenI])
      have hX := hK _ _ _ _ hL h
      subst he
      intro H locs ls hP hS hl
      exact lv_iushr hx hb hd rfl (hX H locs ls hP hS hl)
    · exact h
  case ineg =>
    dsimp only [stp] at h
    split at h
    · obtain ⟨hd, he⟩ := okP_dec hp hq (by simp [lenI])
      have hX := hK _ _ _ _ hL h
      subst he
      intro H locs ls hP hS hl
      exact lv_ineg hx hb hd (hX H locs ls hP hS hl)
    · exact h
  case i2s =>
    dsimp only [stp] at h
    split at h
    · obtain ⟨hd, he⟩ := okP_dec hp hq (by simp [lenI])
      have hX := hK _ _ _ _ hL h
      subst he
      intro H locs ls hP hS hl
      exact lv_i2s hx hb hd rfl (hX H locs ls hP hS hl)
    · exact h
  case i2c =>
    dsimp only [stp] at h
    split at h
    · obtain ⟨hd, he⟩ := okP_dec hp hq (by simp [lenI])
      have hX := hK _ _ _ _ hL h
      subst he
      intro H locs ls hP hS hl
      exact lv_i2c hx hb hd rfl (hX H locs ls hP hS hl)
    · exact h
  case dup =>
    dsimp only [stp] at h
    split at h
    · obtain ⟨hd, he⟩ := okP_dec hp hq (by simp [lenI])
      have hX := hK _ _ _ _ hL h
      subst he
      intro H locs ls hP hS hl
      exact lv_dup hx hb hd (conc_cat _ _) (hX H locs ls hP hS hl)
    · exact h
  case pop =>
    dsimp only [stp] at h
    split at h
    · obtain ⟨hd, he⟩ := okP_dec hp hq (by simp [lenI])
      have hX := hK _ _ _ _ hL h
      subst he
      intro H locs ls hP hS hl
      exact lv_pop hx hb hd (conc_cat _ _) (hX H locs ls hP hS hl)
    · exact h
  case dup2 =>
    dsimp only [stp] at h
    split at h
    · obtain ⟨hd, he⟩ := okP_dec hp hq (by simp [lenI])
      have hX := hK _ _ _ _ hL h
      subst he
      intro H locs ls hP hS hl
      exact lv_dup2_11 hx hb hd (conc_cat _ _) (conc_cat _ _) (hX H locs ls hP hS hl)
    · exact h
  case goto o =>
    dsimp only [stp] at h
    cases hb1 : Nat.ble a1 pc with
    | true => rw [hb1] at h; exact h
    | false =>
      rw [hb1] at h
      exact X_goto hG0 hp hq (hK _ _ _ _ hL h)
  case getfield k =>
    dsimp only [stp] at h
    split at h
    · rename_i c0 r
      split at h
      · rename_i ci fds hl0
        cases hb1 : Nat.beq ci a1 with
        | false => rw [hb1] at h; exact h
        | true =>
          rw [hb1] at h
          dsimp only at h
          split at h
          · rename_i hf
            exact X_getfield hG0 hp hq hl0 (Nat.eq_of_beq_eq_true hb1) (Or.inl ⟨hf, rfl⟩) (hK _ _ _ _ hL h)
          · rename_i z hf
            exact X_getfield hG0 hp hq hl0 (Nat.eq_of_beq_eq_true hb1) (Or.inr ⟨z, hf, rfl⟩) (hK _ _ _ _ hL h)
          · exact h
      · exact h
    · exact h
  case putfield k =>
    dsimp only [stp] at h
    split at h
    · rename_i x c0 r
      split at h
      · rename_i ci fds hl0
        cases hb1 : Nat.beq ci a1 with
        | false => rw [hb1] at h; exact h
        | true =>
          rw [hb1] at h
          dsimp only at h
          split at h
          · rename_i hf
            cases hb2 : putOk a1 a2 finOkT with
            | false => rw [hb2] at h; exact h
            | true =>
              rw [hb2] at h
              exact X_putfield hG0 hp hq hl0 (Nat.eq_of_beq_eq_true hb1) hf hb2 (hK _ _ _ _ hL h)
          · exact h
      · exact h
    · exact h
  case arraylength =>
    dsimp only [stp] at h
    split at h
    · rename_i c0 r
      split at h
      · rename_i kd n rs hl0
        cases hb1 : Nat.ble kd 5 with
        | false => rw [hb1] at h; exact h
        | true =>
          rw [hb1] at h
          exact X_alen hG0 hp hq hl0 (Nat.le_of_ble_eq_true hb1) (hK _ _ _ _ hL h)
      · exact h
    · exact h
theorem run_sound {Γ : Cx} {own : String} {b : ByteArray} {nL : Nat} (hG : Ok Γ own b nL) {pg : List Rw} (hp : okP own b pg) : ∀ (n pc : Nat) (L : Lc) (st : List AV) (σ : Sg), L.length = nL → XT Γ (run pg n pc L st σ) → X Γ pc L st σ
  | 0, _, _, _, _, _, h => h
  | n + 1, pc, L, st, σ, hL, h => by
    rw [run] at h
    cases hq : lkp pc pg with
    | none => rw [hq] at h; exact h
    | some q =>
      rw [hq] at h
      exact stp_sound hG hp hq hL (fun pc' L' st' σ' hL' h' => run_sound hG hp n pc' L' st' σ' hL' h') h
/-- go on, as far as the run is straight -/
theorem run_go {Γ : Cx} {own : String} {b : ByteArray} {nL : Nat} (hG : Ok Γ own b nL) {pg : List Rw} (hp : okP own b pg) (n : Nat) {pc pc' : Nat} {L L' : Lc} {st st' : List AV} {σ σ' : Sg} (hL : L.length = nL) (hr : run pg n pc L st σ = (pc', L', st', σ')) (k : X Γ pc' L' st' σ') : X Γ pc L st σ :=
  run_sound hG hp n pc L st σ hL (by rw [hr]; exact k)
end
section
/-! contracts over the fixed world, and a row for each instruction that isn't straight -/
def Ws (M : MI) : List Cond := .code M.1 M.2.1 M.2.2.1 M.2.2.2 :: TB
def rmd (d : Nat) : Room := { frames := d, cells := 0, slots := 0, locals := 128 * d }
def Pcf (θ : Th) (av : List AV) (σ : Sg) : Array Value → State → Prop := va_Pc (av.map (conc θ.1)) (fun U => va_P θ.2.1 classes (wsOf θ σ) U.heap ∧ Ev θ (AA θ) U U.heap ∧ Inj θ)
/-- a method that answers an int (or a boolean), within d frames -/
def Ci (l : Launch) (θ : Th) (d : Nat) (M : MI) (av : List AV) (σ : Sg) (post : Int32 → Sg → Prop) : Prop := Met l M.1 (Ws M) (rmd d) (Pcf θ av σ) (va_Qi post (fun σ' t => va_P θ.2.1 classes (wsOf θ σ') t.heap) (AA θ)) 0 0 (AA θ)
def Cv (l : Launch) (θ : Th) (d : Nat) (M : MI) (av : List AV) (σ : Sg) (post : Sg → Prop) : Prop := Met l M.1 (Ws M) (rmd d) (Pcf θ av σ) (va_Qv post (fun σ' t => va_P θ.2.1 classes (wsOf θ σ') t.heap) (AA θ)) 0 0 (AA θ)
/-- a method within its own frame -/
def Md (Γ : Cx) (l : Launch) (θ : Th) (d : Nat) (M : MI) (pg : List Rw) : Prop := Ok Γ M.1.cls M.2.1 M.2.2.1 ∧ okP M.1.cls M.2.1 pg ∧ (match Γ with
  | (θ', (_, l', _, R, _, _, _, _, _, _), _, (kc, ks), _) => θ' = θ ∧ l' = l ∧ d ≤ R.frames ∧ 128 * d ≤ R.locals ∧ kc ≤ R.cells ∧ ks ≤ R.slots)
def RtI (Γ : Cx) (M : MI) (post : Int32 → Sg → Prop) : Prop := ∀ (pc : Nat) (L : Lc) (v : Int32) (σ : Sg), decode M.2.1 pc = .ok (.ireturn, 1) → (∀ ty, M.2.2.2 = some ty → narrow ty (.int v) = .int v) → post v σ → X Γ pc L [.inl v] σ
def RtV (Γ : Cx) (M : MI) (post : Sg → Prop) : Prop := ∀ (pc : Nat) (L : Lc) (σ : Sg), decode M.2.1 pc = .ok (.return_, 1) → post σ → X Γ pc L [] σ
theorem fb_Pcf (θ : Th) (av : List AV) (σ : Sg) : FrameBlind (Pcf θ av σ) := by
  intro a U g mk h
  obtain ⟨h1, h2, h3, h4⟩ := h
  exact ⟨h1, h2, Ev.same (s := U) rfl h3, h4⟩
theorem prsF_args (a : Nat → Nat) : ∀ (av : List AV) (j : Nat), lv_args j (av.map (conc a)) = prsF a (av.map some) j
  | [], _ => rfl
  | v :: r, j => by
    simp only [List.map_cons, lv_args, prsF, conc_cat, prsF_args a r]
    rw [if_neg (by decide)]
theorem prsF_none (a : Nat → Nat) : ∀ (L : Lc) (n j : Nat), prsF a (L ++ List.replicate n none) j = prsF a L j
  | [], 0, _ => rfl
  | [], n + 1, j => by
    have := prsF_none a [] n (j + 1)
    simpa [List.replicate_succ, prsF] using this
  | none :: r, n, j => by simpa [prsF] using prsF_none a r n (j + 1)
  | some v :: r, n, j => by simpa [prsF] using prsF_none a r n (j + 1)
theorem lg_sl_len (a : Nat → Nat) : ∀ (av : List AV), (lg_sl (av.map (conc a))).length = av.length
  | [] => rfl
  | v :: r => by
    have := lg_sl_len a r
    simp only [lg_sl, List.map_cons, List.flatMap_cons, conc_cat, List.length_append, List.length_cons] at this ⊢
    rw [if_neg (by decide)]
    simp only [List.length_cons, List.length_nil, this]
    omega
def ent (av : List AV) (n : Nat) : Lc := av.map some ++ List.replicate (n - av.length) none
theorem ent_len {av : List AV} {n : Nat} (h : av.length ≤ n) : (ent av n).length = n := by simp [ent]; omega
theorem Ci.of {l : Launch} {θ : Th} {d : Nat} {M : MI} {av : List AV} {σ : Sg} {post : Int32 → Sg → Prop} {n : Nat} (hM : MV M n ∨ MS M n) {pg : List Rw} (hp : okP M.1.cls M.2.1 pg) (hlen : av.length ≤ M.2.2.1) (hret : M.2.2.2 = some .int ∨ M.2.2.2 = some .boolean) (L : Lc) (hL : ent av M.2.2.1 = L) (body : ∀ Γ : Cx, Md Γ l θ d M pg → RtI Γ M post → X Γ 0 L [] σ) : Ci l θ d M av σ post := by
  subst hL
  have hMD : MD M n := by rcases hM with h | h <;> exact h.2
  refine Met.ofW (cc := M.2.1) (maxL := M.2.2.1) (ret := M.2.2.2) hMD.1 rfl ?_
  intro p e s m args below meth c s₁ B hml hv
  obtain ⟨rfl, hP, hE, hI⟩ := hv
  have hx := B.exec
  have hb := B.bytes
  have hr := B.returns
  have hts := atoms_spec (ws := Ws M) B.pre
  have hown : s.vm.findClass M.1.cls = some m.cls := findClass_of_methodNamed B.named
  have hlocks := B.notSynchronized
  have hl := lv_entry (av.map (conc θ.1)) (n := M.2.2.1) (by rw [lg_sl_len]; exact hlen)
  rw [lg_entry_eq]
  generalize (lg_sl (av.map (conc θ.1)) ++ List.replicate (M.2.2.1 - (lg_sl (av.map (conc θ.1))).length) Slot.unset).toArray = ls at hl ⊢
  rw [prsF_args] at hl
  have key := body (θ, (p, l, e, (headSpec (Ws M) (rmd d)).room, s, m, (av.map (conc θ.1)).toArray, below, meth, c), AA θ, (0, 0), MQ below (va_Qi post (fun σ' t => va_P θ.2.1 classes (wsOf θ σ') t.heap) (AA θ)) (av.map (conc θ.1)).toArray s 0 0 (AA θ))
    ⟨⟨hx, hb, hml, hown, fun w hw => hts w (List.mem_cons_of_mem _ hw), hE, hI, fun _ h => h⟩, hp, rfl, rfl, Nat.le_refl _, Nat.le_refl _, Nat.zero_le _, Nat.zero_le _⟩
    (fun pc L v σ2 hd hn hpost H locs ls hP2 hS2 hl2 => ?_)
  · exact key s.heap [] ls hP va_S.rf (by rw [ent_len hlen]; rw [prs, ent, prsF_none]; exact hl)
  · rcases hret with h | h
    · exact W.iret hx hb (by rw [hr, h]) (fun t ht _ => ⟨⟨v, σ2, rfl, hpost, by show va_P _ _ _ t.heap; rw [ht]; exact hP2⟩, hS2.F ht⟩) hS2.2.2 hd
    · exact W.zret (ty := .boolean) hx hb (by rw [hr, h]) (hn _ h) (fun t ht _ => ⟨⟨v, σ2, rfl, hpost, by show va_P _ _ _ t.heap; rw [ht]; exact hP2⟩, hS2.F ht⟩) hS2.2.2 hd
theorem Cv.of {l : Launch} {θ : Th} {d : Nat} {M : MI} {av : List AV} {σ : Sg} {post : Sg → Prop} {n : Nat} (hM : MV M n ∨ MS M n) {pg : List Rw} (hp : okP M.1.cls M.2.1 pg) (hlen : av.length ≤ M.2.2.1) (hret : M.2.2.2 = none) (L : Lc) (hL : ent av M.2.2.1 = L) (body : ∀ Γ : Cx, Md Γ l θ d M pg → RtV Γ M post → X Γ 0 L [] σ) : Cv l θ d M av σ post := by
  subst hL
  have hMD : MD M n := by rcases hM with h | h <;> exact h.2
  refine Met.ofW (cc := M.2.1) (maxL := M.2.2.1) (ret := M.2.2.2) hMD.1 rfl ?_
  intro p e s m args below meth c s₁ B hml hv
  obtain ⟨rfl, hP, hE, hI⟩ := hv
  have hx := B.exec
  have hb := B.bytes
  have hr := B.returns
  have hts := atoms_spec (ws := Ws M) B.pre
  have hown : s.vm.findClass M.1.cls = some m.cls := findClass_of_methodNamed B.named
  have hlocks := B.notSynchronized
  have hl := lv_entry (av.map (conc θ.1)) (n := M.2.2.1) (by rw [lg_sl_len]; exact hlen)
  rw [lg_entry_eq]
  generalize (lg_sl (av.map (conc θ.1)) ++ List.replicate (M.2.2.1 - (lg_sl (av.map (conc θ.1))).length) Slot.unset).toArray = ls at hl ⊢
  rw [prsF_args] at hl
  have key := body (θ, (p, l, e, (headSpec (Ws M) (rmd d)).room, s, m, (av.map (conc θ.1)).toArray, below, meth, c), AA θ, (0, 0), MQ below (va_Qv post (fun σ' t => va_P θ.2.1 classes (wsOf θ σ') t.heap) (AA θ)) (av.map (conc θ.1)).toArray s 0 0 (AA θ))
    ⟨⟨hx, hb, hml, hown, fun w hw => hts w (List.mem_cons_of_mem _ hw), hE, hI, fun _ h => h⟩, hp, rfl, rfl, Nat.le_refl _, Nat.le_refl _, Nat.zero_le _, Nat.zero_le _⟩
    (fun pc L σ2 hd hpost H locs ls hP2 hS2 hl2 => ?_)
  · exact key s.heap [] ls hP va_S.rf (by rw [ent_len hlen]; rw [prs, ent, prsF_none]; exact hl)
  · exact W.vret hx hb (by rw [hr, hret]) (fun t ht _ => ⟨⟨σ2, rfl, hpost, by show va_P _ _ _ t.heap; rw [ht]; exact hP2⟩, hS2.F ht⟩) hS2.2.2 hd
theorem goodIn_TB {ws : List Cond} (h : ∀ w ∈ ws, w ∈ TB) : GoodIn TB ws := fun w hw => ⟨h w hw, good_of_word (goodTB (h w hw))⟩
theorem cat_sum (a : Nat → Nat) : ∀ r : List AV, ((r.map (conc a)).map fun v => v.category).sum = r.length
  | [] => rfl
  | v :: r => by
    simp only [List.map_cons, List.sum_cons, conc_cat, cat_sum a r, List.length_cons]
    omega
theorem layN_b : lay.all (fun s => match s with | .inr (kd, n, rs) => decide (n ≤ 1430) | .inl _ => true) = true := by decide +kernel
theorem layN {c kd n : Nat} {rs : List Nat} (h : lay[c]? = some (.inr (kd, n, rs))) : n ≤ 1430 := by
  have h1 := List.all_eq_true.mp layN_b _ (List.mem_of_getElem? h)
  simpa using h1
section Rows
variable {Γ : Cx} {l : Launch} {θ : Th} {d : Nat} {M : MI} {pg : List Rw} {pc pc' a1 a2 : Nat} {v : Int32} {L L' : Lc} {st st' r : List AV} {σ σ' : Sg}
theorem Md.go (hG : Md Γ l θ d M pg) (n : Nat) (hL : L.length = M.2.2.1) (hr : run pg n pc L st σ = (pc', L', st', σ')) (k : X Γ pc' L' st' σ') : X Γ pc L st σ := run_go hG.1 hG.2.1 n hL hr k
theorem Md.goto (hG : Md Γ l θ d M pg) {o : Int} (hq : lkp pc pg = some (.goto o, pc', v, a1, a2)) (k : X Γ a1 L st σ) : X Γ pc L st σ := X_goto hG.1 hG.2.1 hq k
/-- less is known of the locals -/
theorem X.weak (h : X Γ pc L' st σ) (hlen : L'.length = L.length) (hs : ∀ (k : Nat) (w : AV), L'[k]? = some (some w) → L[k]? = some (some w)) : X Γ pc L st σ := by
  obtain ⟨θ, ⟨p, l, e, R, s, m, args, below, meth, c⟩, A, ⟨kc, ks⟩, Q⟩ := Γ
  intro H locs ls hP hS hl
  exact h H locs ls hP hS (by rw [hlen]; exact lvh_forget hl hs)
theorem Md.tgt (hG : Md Γ l θ d M pg) {i : Instr} {o : Int} (hq : lkp pc pg = some (i, pc', v, a1, a2)) (hi : (∃ cd, i = .ifCond cd o) ∨ (∃ cd, i = .if_icmp cd o)) : (pc : Int) + o = (a1 : Int) := by
  obtain ⟨fl, ct, -, -, h3⟩ := okAux_of hG.2.1 hq
  rcases hi with ⟨cd, rfl⟩ | ⟨cd, rfl⟩ <;> simpa only [okAux, decide_eq_true_eq] using h3
theorem Md.ifeq (hG : Md Γ l θ d M pg) {o : Int} {x : Int32} (hq : lkp pc pg = some (.ifCond .eq o, pc', v, a1, a2)) (kt : x = 0 → X Γ a1 L r σ) (kf : ¬ x = 0 → X Γ pc' L r σ) : X Γ pc L (.inl x :: r) σ := by
  have ht := hG.tgt hq (Or.inl ⟨_, rfl⟩)
  obtain ⟨hd, he⟩ := okP_dec hG.2.1 hq (by simp [lenI])
  obtain ⟨θ, ⟨p, l, e, R, s, m, args, below, meth, c⟩, A, ⟨kc, ks⟩, Q⟩ := Γ
  subst he
  intro H locs ls hP hS hl
  exact lv_if_eq hG.1.1 hG.1.2.1 hd ht (fun h => kt h H locs ls hP hS hl) (fun h => kf h H locs ls hP hS hl)
theorem Md.ifne (hG : Md Γ l θ d M pg) {o : Int} {x : Int32} (hq : lkp pc pg = some (.ifCond .ne o, pc', v, a1, a2)) (kt : ¬ x = 0 → X Γ a1 L r σ) (kf : x = 0 → X Γ pc' L r σ) : X Γ pc L (.inl x :: r) σ := by
  have ht := hG.tgt hq (Or.inl ⟨_, rfl⟩)
  obtain ⟨hd, he⟩ := okP_dec hG.2.1 hq (by simp [lenI])
  obtain ⟨θ, ⟨p, l, e, R, s, m, args, below, meth, c⟩, A, ⟨kc, ks⟩, Q⟩ := Γ
  subst he
  intro H locs ls hP hS hl
  exact lv_if_ne hG.1.1 hG.1.2.1 hd ht (fun h => kt h H locs ls hP hS hl) (fun h => kf h H locs ls hP hS hl)
theorem Md.iflt (hG : Md Γ l θ d M pg) {o : Int} {x : Int32} (hq : lkp pc pg = some (.ifCond .lt o, pc', v, a1, a2)) (kt : x < 0 → X Γ a1 L r σ) (kf : ¬ x < 0 → X Γ pc' L r σ) : X Γ pc L (.inl x :: r) σ := by
  have ht := hG.tgt hq (Or.inl ⟨_, rfl⟩)
  obtain ⟨hd, he⟩ := okP_dec hG.2.1 hq (by simp [lenI])
  obtain ⟨θ, ⟨p, l, e, R, s, m, args, below, meth, c⟩, A, ⟨kc, ks⟩, Q⟩ := Γ
  subst he
  intro H locs ls hP hS hl
  exact lv_if_lt hG.1.1 hG.1.2.1 hd ht (fun h => kt h H locs ls hP hS hl) (fun h => kf h H locs ls hP hS hl)
theorem Md.ifge (hG : Md Γ l θ d M pg) {o : Int} {x : Int32} (hq : lkp pc pg = some (.ifCond .ge o, pc', v, a1, a2)) (kt : 0 ≤ x → X Γ a1 L r σ) (kf : ¬ 0 ≤ x → X Γ pc' L r σ) : X Γ pc L (.inl x :: r) σ := by
  have ht := hG.tgt hq (Or.inl ⟨_, rfl⟩)
  obtain ⟨hd, he⟩ := okP_dec hG.2.1 hq (by simp [lenI])
  obtain ⟨θ, ⟨p, l, e, R, s, m, args, below, meth, c⟩, A, ⟨kc, ks⟩, Q⟩ := Γ
  subst he
  intro H locs ls hP hS hl
  exact lv_if_ge hG.1.1 hG.1.2.1 hd ht (fun h => kt h H locs ls hP hS hl) (fun h => kf h H locs ls hP hS hl)
theorem Md.ifgt (hG : Md Γ l θ d M pg) {o : Int} {x : Int32} (hq : lkp pc pg = some (.ifCond .gt o, pc', v, a1, a2)) (kt : 0 < x → X Γ a1 L r σ) (kf : ¬ 0 < x → X Γ pc' L r σ) : X Γ pc L (.inl x :: r) σ := by
  have ht := hG.tgt hq (Or.inl ⟨_, rfl⟩)
  obtain ⟨hd, he⟩ := okP_dec hG.2.1 hq (by simp [lenI])
  obtain ⟨θ, ⟨p, l, e, R, s, m, args, below, meth, c⟩, A, ⟨kc, ks⟩, Q⟩ := Γ
  subst he
  intro H locs ls hP hS hl
  exact lv_if_gt hG.1.1 hG.1.2.1 hd ht (fun h => kt h H locs ls hP hS hl) (fun h => kf h H locs ls hP hS hl)
theorem Md.ifle (hG : Md Γ l θ d M pg) {o : Int} {x : Int32} (hq : lkp pc pg = some (.ifCond .le o, pc', v, a1, a2)) (kt : x ≤ 0 → X Γ a1 L r σ) (kf : ¬ x ≤ 0 → X Γ pc' L r σ) : X Γ pc L (.inl x :: r) σ := by
  have ht := hG.tgt hq (Or.inl ⟨_, rfl⟩)
  obtain ⟨hd, he⟩ := okP_dec hG.2.1 hq (by simp [lenI])
  obtain ⟨θ, ⟨p, l, e, R, s, m, args, below, meth, c⟩, A, ⟨kc, ks⟩, Q⟩ := Γ
  subst he
  intro H locs ls hP hS hl
  exact lv_if_le hG.1.1 hG.1.2.1 hd ht (fun h => kt h H locs ls hP hS hl) (fun h => kf h H locs ls hP hS hl)
theorem Md.icmpeq (hG : Md Γ l θ d M pg) {o : Int} {x y : Int32} (hq : lkp pc pg = some (.if_icmp .eq o, pc', v, a1, a2)) (kt : x = y → X Γ a1 L r σ) (kf : ¬ x = y → X Γ pc' L r σ) : X Γ pc L (.inl y :: .inl x :: r) σ := by
  have ht := hG.tgt hq (Or.inr ⟨_, rfl⟩)
  obtain ⟨hd, he⟩ := okP_dec hG.2.1 hq (by simp [lenI])
  obtain ⟨θ, ⟨p, l, e, R, s, m, args, below, meth, c⟩, A, ⟨kc, ks⟩, Q⟩ := Γ
  subst he
  intro H locs ls hP hS hl
  exact lv_icmp_eq hG.1.1 hG.1.2.1 hd ht (fun h => kt h H locs ls hP hS hl) (fun h => kf h H locs ls hP hS hl)
theorem Md.icmpne (hG : Md Γ l θ d M pg) {o : Int} {x y : Int32} (hq : lkp pc pg = some (.if_icmp .ne o, pc', v, a1, a2)) (kt : ¬ x = y → X Γ a1 L r σ) (kf : x = y → X Γ pc' L r σ) : X Γ pc L (.inl y :: .inl x :: r) σ := by
  have ht := hG.tgt hq (Or.inr ⟨_, rfl⟩)
  obtain ⟨hd, he⟩ := okP_dec hG.2.1 hq (by simp [lenI])
  obtain ⟨θ, ⟨p, l, e, R, s, m, args, below, meth, c⟩, A, ⟨kc, ks⟩, Q⟩ := Γ
  subst he
  intro H locs ls hP hS hl
  exact lv_icmp_ne hG.1.1 hG.1.2.1 hd ht (fun h => kt h H locs ls hP hS hl) (fun h => kf h H locs ls hP hS hl)
theorem Md.icmplt (hG : Md Γ l θ d M pg) {o : Int} {x y : Int32} (hq : lkp pc pg = some (.if_icmp .lt o, pc', v, a1, a2)) (kt : x < y → X Γ a1 L r σ) (kf : ¬ x < y → X Γ pc' L r σ) : X Γ pc L (.inl y :: .inl x :: r) σ := by
  have ht := hG.tgt hq (Or.inr ⟨_, rfl⟩)
  obtain ⟨hd, he⟩ := okP_dec hG.2.1 hq (by simp [lenI])
  obtain ⟨θ, ⟨p, l, e, R, s, m, args, below, meth, c⟩, A, ⟨kc, ks⟩, Q⟩ := Γ
  subst he
  intro H locs ls hP hS hl
  exact lv_icmp_lt hG.1.1 hG.1.2.1 hd ht (fun h => kt h H locs ls hP hS hl) (fun h => kf h H locs ls hP hS hl)
theorem Md.icmpge (hG : Md Γ l θ d M pg) {o : Int} {x y : Int32} (hq : lkp pc pg = some (.if_icmp .ge o, pc', v, a1, a2)) (kt : y ≤ x → X Γ a1 L r σ) (kf : ¬ y ≤ x → X Γ pc' L r σ) : X Γ pc L (.inl y :: .inl x :: r) σ := by
  have ht := hG.tgt hq (Or.inr ⟨_, rfl⟩)
  obtain ⟨hd, he⟩ := okP_dec hG.2.1 hq (by simp [lenI])
  obtain ⟨θ, ⟨p, l, e, R, s, m, args, below, meth, c⟩, A, ⟨kc, ks⟩, Q⟩ := Γ
  subst he
  intro H locs ls hP hS hl
  exact lv_icmp_ge hG.1.1 hG.1.2.1 hd ht (fun h => kt h H locs ls hP hS hl) (fun h => kf h H locs ls hP hS hl)
theorem Md.icmpgt (hG : Md Γ l θ d M pg) {o : Int} {x y : Int32} (hq : lkp pc pg = some (.if_icmp .gt o, pc', v, a1, a2)) (kt : y < x → X Γ a1 L r σ) (kf : ¬ y < x → X Γ pc' L r σ) : X Γ pc L (.inl y :: .inl x :: r) σ := by
  have ht := hG.tgt hq (Or.inr ⟨_, rfl⟩)
  obtain ⟨hd, he⟩ := okP_dec hG.2.1 hq (by simp [lenI])
  obtain ⟨θ, ⟨p, l, e, R, s, m, args, below, meth, c⟩, A, ⟨kc, ks⟩, Q⟩ := Γ
  subst he
  intro H locs ls hP hS hl
  exact lv_icmp_gt hG.1.1 hG.1.2.1 hd ht (fun h => kt h H locs ls hP hS hl) (fun h => kf h H locs ls hP hS hl)
theorem Md.icmple (hG : Md Γ l θ d M pg) {o : Int} {x y : Int32} (hq : lkp pc pg = some (.if_icmp .le o, pc', v, a1, a2)) (kt : x ≤ y → X Γ a1 L r σ) (kf : ¬ x ≤ y → X Γ pc' L r σ) : X Γ pc L (.inl y :: .inl x :: r) σ := by
  have ht := hG.tgt hq (Or.inr ⟨_, rfl⟩)
  obtain ⟨hd, he⟩ := okP_dec hG.2.1 hq (by simp [lenI])
  obtain ⟨θ, ⟨p, l, e, R, s, m, args, below, meth, c⟩, A, ⟨kc, ks⟩, Q⟩ := Γ
  subst he
  intro H locs ls hP hS hl
  exact lv_icmp_le hG.1.1 hG.1.2.1 hd ht (fun h => kt h H locs ls hP hS hl) (fun h => kf h H locs ls hP hS hl)
theorem Md.idiv (hG : Md Γ l θ d M pg) {x y : Int32} (hq : lkp pc pg = some (.idiv, pc', v, a1, a2)) (hy : ¬ y = 0) (k : X Γ pc' L (.inl (x / y) :: r) σ) : X Γ pc L (.inl y :: .inl x :: r) σ := by
  obtain ⟨hd, he⟩ := okP_dec hG.2.1 hq (by simp [lenI])
  obtain ⟨θ, ⟨p, l, e, R, s, m, args, below, meth, c⟩, A, ⟨kc, ks⟩, Q⟩ := Γ
  subst he
  intro H locs ls hP hS hl
  exact lv_idiv hG.1.1 hG.1.2.1 hd hy (k H locs ls hP hS hl)
theorem Md.irem (hG : Md Γ l θ d M pg) {x y : Int32} (hq : lkp pc pg = some (.irem, pc', v, a1, a2)) (hy : ¬ y = 0) (k : X Γ pc' L (.inl (x - x / y * y) :: r) σ) : X Γ pc L (.inl y :: .inl x :: r) σ := by
  obtain ⟨hd, he⟩ := okP_dec hG.2.1 hq (by simp [lenI])
  obtain ⟨θ, ⟨p, l, e, R, s, m, args, below, meth, c⟩, A, ⟨kc, ks⟩, Q⟩ := Γ
  subst he
  intro H locs ls hP hS hl
  exact lv_irem hG.1.1 hG.1.2.1 hd hy (k H locs ls hP hS hl)
theorem vp_inN {n N : Nat} (h : n < N) (hN : N ≤ 1430) : vp_in (nI n) N ∧ (nI n).toNatClampNeg = n := ⟨vp_in_nI h (by omega), nI_clamp (by omega)⟩
theorem Md.iald (hG : Md Γ l θ d M pg) {c0 n k : Nat} {i : Int32} {rs : List Nat} (hq : lkp pc pg = some (.iaload, pc', v, a1, a2)) (hl0 : lay[c0]? = some (.inr (0, n, rs))) (hi : i = nI k) (hk : k < n) (kk : X Γ pc' L (.inl (σ c0 k) :: r) σ) : X Γ pc L (.inl i :: .inr c0 :: r) σ := by
  obtain ⟨hd, he⟩ := okP_dec hG.2.1 hq (by simp [lenI])
  obtain ⟨θ, ⟨p, l, e, R, s, m, args, below, meth, c⟩, A, ⟨kc, ks⟩, Q⟩ := Γ
  obtain ⟨h1, h2⟩ := vp_inN hk (layN hl0)
  subst he; subst hi
  intro H locs ls hP hS hl
  refine va_iald (f := σ c0) hG.1.1 hG.1.2.1 hG.1.2.2.2.2.2.1.1 hP c0 0 (wsOf_get hl0) rfl h1 hd ?_
  rw [h2]; exact kk H locs ls hP hS hl
theorem Md.zald (hG : Md Γ l θ d M pg) {c0 n k : Nat} {i : Int32} {rs : List Nat} (hq : lkp pc pg = some (.baload, pc', v, a1, a2)) (hl0 : lay[c0]? = some (.inr (1, n, rs))) (hi : i = nI k) (hk : k < n) (kk : X Γ pc' L (.inl (σ c0 k) :: r) σ) : X Γ pc L (.inl i :: .inr c0 :: r) σ := by
  obtain ⟨hd, he⟩ := okP_dec hG.2.1 hq (by simp [lenI])
  obtain ⟨θ, ⟨p, l, e, R, s, m, args, below, meth, c⟩, A, ⟨kc, ks⟩, Q⟩ := Γ
  obtain ⟨h1, h2⟩ := vp_inN hk (layN hl0)
  subst he; subst hi
  intro H locs ls hP hS hl
  refine va_zald (f := σ c0) hG.1.1 hG.1.2.1 hG.1.2.2.2.2.2.1.1 hP c0 1 (wsOf_get hl0) rfl h1 hd ?_
  rw [h2]; exact kk H locs ls hP hS hl
theorem Md.cald (hG : Md Γ l θ d M pg) {c0 n k : Nat} {i : Int32} {rs : List Nat} (hq : lkp pc pg = some (.caload, pc', v, a1, a2)) (hl0 : lay[c0]? = some (.inr (2, n, rs))) (hi : i = nI k) (hk : k < n) (kk : X Γ pc' L (.inl (σ c0 k) :: r) σ) : X Γ pc L (.inl i :: .inr c0 :: r) σ := by
  obtain ⟨hd, he⟩ := okP_dec hG.2.1 hq (by simp [lenI])
  obtain ⟨θ, ⟨p, l, e, R, s, m, args, below, meth, c⟩, A, ⟨kc, ks⟩, Q⟩ := Γ
  obtain ⟨h1, h2⟩ := vp_inN hk (layN hl0)
  subst he; subst hi
  intro H locs ls hP hS hl
  refine va_cald (f := σ c0) hG.1.1 hG.1.2.1 hG.1.2.2.2.2.2.1.1 hP c0 2 (wsOf_get hl0) rfl h1 hd ?_
  rw [h2]; exact kk H locs ls hP hS hl
theorem Md.iast (hG : Md Γ l θ d M pg) {c0 n k : Nat} {i x : Int32} {rs : List Nat} (hq : lkp pc pg = some (.iastore, pc', v, a1, a2)) (hl0 : lay[c0]? = some (.inr (0, n, rs))) (hi : i = nI k) (hk : k < n) (kk : X Γ pc' L r (up σ c0 k x)) : X Γ pc L (.inl x :: .inl i :: .inr c0 :: r) σ := by
  obtain ⟨hd, he⟩ := okP_dec hG.2.1 hq (by simp [lenI])
  obtain ⟨θ, ⟨p, l, e, R, s, m, args, below, meth, c⟩, A, ⟨kc, ks⟩, Q⟩ := Γ
  obtain ⟨h1, h2⟩ := vp_inN hk (layN hl0)
  subst he; subst hi
  intro H locs ls hP hS hl
  refine va_iast (f := σ c0) hG.1.1 hG.1.2.1 hG.1.2.2.2.2.2.1.1 hP (wsOf_D hG.1.2.2.2.2.2.2.1 hG.1.2.2.2.2.2.2.2 σ) hS c0 0 (wsOf_get hl0) rfl h1 hd ?_
  intro H1 locs1 hP1 _ hS1
  rw [h2] at hP1
  exact kk H1 locs1 ls (by rw [up, ← wsOf_upc hl0]; exact hP1) hS1 hl
theorem nar_bool {x : Int32} (h : x = 0 ∨ x = 1) : vp_nar .boolean x = x := by rcases h with rfl | rfl <;> decide +kernel
theorem Md.zast (hG : Md Γ l θ d M pg) {c0 n k : Nat} {i x : Int32} {rs : List Nat} (hq : lkp pc pg = some (.bastore, pc', v, a1, a2)) (hl0 : lay[c0]? = some (.inr (1, n, rs))) (hi : i = nI k) (hk : k < n) (hx : x = 0 ∨ x = 1) (kk : X Γ pc' L r (up σ c0 k x)) : X Γ pc L (.inl x :: .inl i :: .inr c0 :: r) σ := by
  obtain ⟨hd, he⟩ := okP_dec hG.2.1 hq (by simp [lenI])
  obtain ⟨θ, ⟨p, l, e, R, s, m, args, below, meth, c⟩, A, ⟨kc, ks⟩, Q⟩ := Γ
  obtain ⟨h1, h2⟩ := vp_inN hk (layN hl0)
  subst he; subst hi
  intro H locs ls hP hS hl
  refine va_zast (f := σ c0) hG.1.1 hG.1.2.1 hG.1.2.2.2.2.2.1.1 hP (wsOf_D hG.1.2.2.2.2.2.2.1 hG.1.2.2.2.2.2.2.2 σ) hS c0 1 (wsOf_get hl0) rfl h1 hd ?_
  intro H1 locs1 hP1 _ hS1
  rw [h2, nar_bool hx] at hP1
  exact kk H1 locs1 ls (by rw [up, ← wsOf_upc hl0]; exact hP1) hS1 hl
theorem Md.aald (hG : Md Γ l θ d M pg) {c0 kd n k z : Nat} {i : Int32} {rs : List Nat} (hq : lkp pc pg = some (.aaload, pc', v, a1, a2)) (hl0 : lay[c0]? = some (.inr (kd, n, rs))) (hkd : kd = 3 ∨ kd = 4 ∨ kd = 5) (hi : i = nI k) (hk : k < n) (hz : rs[k]? = some z) (kk : X Γ pc' L (.inr z :: r) σ) : X Γ pc L (.inl i :: .inr c0 :: r) σ := by
  obtain ⟨hd, he⟩ := okP_dec hG.2.1 hq (by simp [lenI])
  obtain ⟨θ, ⟨p, l, e, R, s, m, args, below, meth, c⟩, A, ⟨kc, ks⟩, Q⟩ := Γ
  obtain ⟨h1, h2⟩ := vp_inN hk (layN hl0)
  subst he; subst hi
  intro H locs ls hP hS hl
  have hw := wsOf_get (θ := θ) (σ := σ) hl0
  have hf : Option.map θ.1 rs[(nI k).toNatClampNeg]? = some (θ.1 z) := by rw [h2, hz]; rfl
  rcases hkd with rfl | rfl | rfl
  · refine va_aldq (C := "NotWorn$Text") (f := fun i : Nat => (rs[i]?).map θ.1) hG.1.1 hG.1.2.1 hG.1.2.2.2.2.2.1.1 hP c0 3 hw rfl h1 hd ?_
    rw [hf]; exact kk H locs ls hP hS hl
  · refine va_aldq (C := "NotWorn$Row") (f := fun i : Nat => (rs[i]?).map θ.1) hG.1.1 hG.1.2.1 hG.1.2.2.2.2.2.1.1 hP c0 4 hw rfl h1 hd ?_
    rw [hf]; exact kk H locs ls hP hS hl
  · refine va_aldq (C := "NotWorn$Slot") (f := fun i : Nat => (rs[i]?).map θ.1) hG.1.1 hG.1.2.1 hG.1.2.2.2.2.2.1.1 hP c0 5 hw rfl h1 hd ?_
    rw [hf]; exact kk H locs ls hP hS hl
theorem Md.ret {post : Int32 → Sg → Prop} (hG : Md Γ l θ d M pg) (hR : RtI Γ M post) {x : Int32} (hq : lkp pc pg = some (.ireturn, pc', v, a1, a2)) (hi : M.2.2.2 = some .int) (hpost : post x σ) : X Γ pc L [.inl x] σ := by
  obtain ⟨hd, he⟩ := okP_dec hG.2.1 hq (by simp [lenI])
  exact hR pc L x σ hd (fun ty h => by rw [hi] at h; cases h; rfl) hpost
theorem nar_bool2 {x : Int32} (h : x = 0 ∨ x = 1) : narrow .boolean (.int x) = .int x := by rcases h with rfl | rfl <;> decide +kernel
theorem Md.retz {post : Int32 → Sg → Prop} (hG : Md Γ l θ d M pg) (hR : RtI Γ M post) {x : Int32} (hq : lkp pc pg = some (.ireturn, pc', v, a1, a2)) (hi : M.2.2.2 = some .boolean) (hx : x = 0 ∨ x = 1) (hpost : post x σ) : X Γ pc L [.inl x] σ := by
  obtain ⟨hd, he⟩ := okP_dec hG.2.1 hq (by simp [lenI])
  exact hR pc L x σ hd (fun ty h => by rw [hi] at h; cases h; exact nar_bool2 hx) hpost
theorem Md.retv {post : Sg → Prop} (hG : Md Γ l θ d M pg) (hR : RtV Γ M post) (hq : lkp pc pg = some (.return_, pc', v, a1, a2)) (hpost : post σ) : X Γ pc L [] σ := by
  obtain ⟨hd, he⟩ := okP_dec hG.2.1 hq (by simp [lenI])
  exact hR pc L σ hd hpost
theorem room_le {d' d mL : Nat} {R : Room} (h : d' + 1 ≤ d) (hm : mL ≤ 100) (h1 : d ≤ R.frames) (h2 : 128 * d ≤ R.locals) : (rmd d').frames + 1 ≤ R.frames ∧ 8 + (mL + 11) + (rmd d').locals ≤ R.locals := by
  refine ⟨by show d' + 1 ≤ _; omega, ?_⟩
  show 8 + (mL + 11) + 128 * d' ≤ _
  omega
theorem Ws_TB {N : MI} (h : Cond.code N.1 N.2.1 N.2.2.1 N.2.2.2 ∈ TB) : ∀ w ∈ Ws N, w ∈ TB := fun w hw => by
  rcases List.mem_cons.mp hw with rfl | h1
  · exact h
  · exact h1
theorem Ok.preS {Γ : Cx} {own : String} {b : ByteArray} {nL : Nat} (hG : Ok Γ own b nL) {av : List AV} {σ : Sg} {H : Heap} {locs : List Loc} (hP : va_P Γ.1.2.1 classes (wsOf Γ.1 σ) H) (hS : va_S Γ.2.2.1 Γ.2.1.2.2.2.2.1.heap H locs) : PreS Γ.2.1.2.2.2.2.1 H (Pcf Γ.1 av σ) (av.map (conc Γ.1.1)) := by
  obtain ⟨θ, ⟨p, l, e, R, s, m, args, below, meth, c⟩, A, ⟨kc, ks⟩, Q⟩ := Γ
  obtain ⟨hx, hb, hml, hown, hts, hE, hI, hA⟩ := hG
  exact ⟨fb_Pcf _ _ _, fun U hU hW => ⟨rfl, by rw [hU]; exact hP, by rw [hU]; exact Ev.warm hW ((hE.kept hS.2.1).narrow hA), hI⟩⟩
theorem Md.callV {N : MI} {n d' idx o ci : Nat} {av rest : List AV} {fds : List (Option Nat)} {post : Int32 → Sg → Prop} (hG : Md Γ l θ d M pg) (hq : lkp pc pg = some (.invokevirtual idx, pc', v, a1, a2)) (hlk : LK M.1.cls idx N.1) (hN : MV N n) (hC : Ci l θ d' N (.inr o :: av) σ post) (hd' : d' + 1 ≤ d) (hn : av.length = n) (hst : st = av.reverse ++ .inr o :: rest) (hlo : lay[o]? = some (.inl (ci, fds))) (hcl : (classes[ci]?).map (fun q => q.1) = some N.1.cls) (hre : rest.length ≤ 8) (hL : L.length = M.2.2.1) (kk : ∀ (x : Int32) (σ' : Sg), post x σ' → X Γ pc' L (.inl x :: rest) σ') : X Γ pc L st σ := by
  obtain ⟨hd, he⟩ := okP_dec hG.2.1 hq (by simp [lenI])
  have hG1 := hG.1
  obtain ⟨θ', ⟨p, l', e, R, s, m, args, below, meth, c⟩, A, ⟨kc, ks⟩, Q⟩ := Γ
  obtain ⟨⟨hx, hb, hml, hown, hts, hE, hI, hA⟩, hp, e1, e2, hf1, hf2, hf3, hf4⟩ := hG
  subst e1; subst e2; subst he; subst hst
  obtain ⟨hw, -, hcl2, hdesc, hmx⟩ := hN
  intro H locs ls hP hS hl
  obtain ⟨q, hcq, hq1⟩ : ∃ q, classes[ci]? = some q ∧ q.1 = N.1.cls := by
    cases hcc : classes[ci]? with
    | none => rw [hcc] at hcl; cases hcl
    | some q => rw [hcc] at hcl; exact ⟨q, rfl, Option.some.inj hcl⟩
  have hcode : Cond.code N.1 N.2.1 N.2.2.1 N.2.2.2 ∈ TB := hw _ (by simp)
  have hgood : GoodIn TB (wsV M.1.cls idx N.1.cls N.1 (Ws N)) := goodIn_TB (fun w h => by
    rcases List.mem_append.mp h with h | h
    · simp only [List.mem_cons, List.not_mem_nil, or_false] at h
      rcases h with rfl | rfl | rfl | rfl
      · exact hlk
      · exact hw _ (by simp)
      · exact hw _ (by simp)
      · exact hw _ (by simp)
    · exact Ws_TB hcode w h)
  have hpre := Ok.preS hG1 (av := .inr o :: av) hP hS
  refine va_calli (A1 := AA θ') (va_runV (As := av.map (conc θ'.1)) (rest := rest.map (conc θ'.1)) ⟨hx, hb, hml, hown, hts⟩ hC (cwV n hts hgood rfl rfl rfl ⟨rfl, hcl2.1, hcl2.2, hdesc⟩ (room_le hd' hmx hf1 hf2)) ⟨hpre.1, by rw [← hq1]; exact va_recv hE.1 hP hcq (wsOf_get hlo), hpre.2⟩ rfl (by rw [List.length_map]; exact hn) (by rw [hl.1]; exact hL) (by simp [conc]) (lv_room (by rw [cat_sum]; exact hre)) hd ⟨hf3, hf4⟩) hS (fun q _ h => hA q h) hA ?_
  intro x u t H1 locs1 ht _ hpo hB _ _ hS1
  rw [ht] at hB
  exact kk x u hpo H1 locs1 ls hB hS1 hl
theorem Md.callVv {N : MI} {n d' idx o ci : Nat} {av rest : List AV} {fds : List (Option Nat)} {post : Sg → Prop} (hG : Md Γ l θ d M pg) (hq : lkp pc pg = some (.invokevirtual idx, pc', v, a1, a2)) (hlk : LK M.1.cls idx N.1) (hN : MV N n) (hC : Cv l θ d' N (.inr o :: av) σ post) (hd' : d' + 1 ≤ d) (hn : av.length = n) (hst : st = av.reverse ++ .inr o :: rest) (hlo : lay[o]? = some (.inl (ci, fds))) (hcl : (classes[ci]?).map (fun q => q.1) = some N.1.cls) (hre : rest.length ≤ 8) (hL : L.length = M.2.2.1) (kk : ∀ (σ' : Sg), post σ' → X Γ pc' L rest σ') : X Γ pc L st σ := by
  obtain ⟨hd, he⟩ := okP_dec hG.2.1 hq (by simp [lenI])
  have hG1 := hG.1
  obtain ⟨θ', ⟨p, l', e, R, s, m, args, below, meth, c⟩, A, ⟨kc, ks⟩, Q⟩ := Γ
  obtain ⟨⟨hx, hb, hml, hown, hts, hE, hI, hA⟩, hp, e1, e2, hf1, hf2, hf3, hf4⟩ := hG
  subst e1; subst e2; subst he; subst hst
  obtain ⟨hw, -, hcl2, hdesc, hmx⟩ := hN
  intro H locs ls hP hS hl
  obtain ⟨q, hcq, hq1⟩ : ∃ q, classes[ci]? = some q ∧ q.1 = N.1.cls := by
    cases hcc : classes[ci]? with
    | none => rw [hcc] at hcl; cases hcl
    | some q => rw [hcc] at hcl; exact ⟨q, rfl, Option.some.inj hcl⟩
  have hcode : Cond.code N.1 N.2.1 N.2.2.1 N.2.2.2 ∈ TB := hw _ (by simp)
  have hgood : GoodIn TB (wsV M.1.cls idx N.1.cls N.1 (Ws N)) := goodIn_TB (fun w h => by
    rcases List.mem_append.mp h with h | h
    · simp only [List.mem_cons, List.not_mem_nil, or_false] at h
      rcases h with rfl | rfl | rfl | rfl
      · exact hlk
      · exact hw _ (by simp)
      · exact hw _ (by simp)
      · exact hw _ (by simp)
    · exact Ws_TB hcode w h)
  have hpre := Ok.preS hG1 (av := .inr o :: av) hP hS
  refine va_callv (A1 := AA θ') (va_runV (As := av.map (conc θ'.1)) (rest := rest.map (conc θ'.1)) ⟨hx, hb, hml, hown, hts⟩ hC (cwV n hts hgood rfl rfl rfl ⟨rfl, hcl2.1, hcl2.2, hdesc⟩ (room_le hd' hmx hf1 hf2)) ⟨hpre.1, by rw [← hq1]; exact va_recv hE.1 hP hcq (wsOf_get hlo), hpre.2⟩ rfl (by rw [List.length_map]; exact hn) (by rw [hl.1]; exact hL) (by simp [conc]) (lv_room (by rw [cat_sum]; exact hre)) hd ⟨hf3, hf4⟩) hS (fun q _ h => hA q h) hA ?_
  intro u t H1 locs1 ht _ hpo hB _ _ hS1
  rw [ht] at hB
  exact kk u hpo H1 locs1 ls hB hS1 hl
theorem Md.callS {N : MI} {n d' idx : Nat} {av rest : List AV} {post : Int32 → Sg → Prop} (hG : Md Γ l θ d M pg) (hq : lkp pc pg = some (.invokestatic idx, pc', v, a1, a2)) (hlk : LK M.1.cls idx N.1) (hN : MS N n) (hC : Ci l θ d' N av σ post) (hd' : d' + 1 ≤ d) (hn : av.length = n) (hst : st = av.reverse ++ rest) (hre : rest.length ≤ 8) (hL : L.length = M.2.2.1) (kk : ∀ (x : Int32) (σ' : Sg), post x σ' → X Γ pc' L (.inl x :: rest) σ') : X Γ pc L st σ := by
  obtain ⟨hd, he⟩ := okP_dec hG.2.1 hq (by simp [lenI])
  have hG1 := hG.1
  obtain ⟨θ', ⟨p, l', e, R, s, m, args, below, meth, c⟩, A, ⟨kc, ks⟩, Q⟩ := Γ
  obtain ⟨⟨hx, hb, hml, hown, hts, hE, hI, hA⟩, hp, e1, e2, hf1, hf2, hf3, hf4⟩ := hG
  subst e1; subst e2; subst he; subst hst
  obtain ⟨hw, -, hcl2, hdesc, hmx⟩ := hN
  intro H locs ls hP hS hl
  have hcode : Cond.code N.1 N.2.1 N.2.2.1 N.2.2.2 ∈ TB := hw _ (by simp)
  have hgood : GoodIn TB (va_wsS M.1.cls idx N.1 (Ws N)) := goodIn_TB (fun w h => by
    rcases List.mem_append.mp h with h | h
    · simp only [List.mem_cons, List.not_mem_nil, or_false] at h
      rcases h with rfl | rfl | rfl
      · exact hlk
      · exact hw _ (by simp)
      · exact hw _ (by simp)
    · exact Ws_TB hcode w h)
  have hpre := Ok.preS hG1 (av := av) hP hS
  refine va_calli (A1 := AA θ') (va_runS (As := av.map (conc θ'.1)) (rest := rest.map (conc θ'.1)) ⟨hx, hb, hml, hown, hts⟩ hC (va_cwS n hts hgood rfl rfl rfl ⟨hcl2.1, hcl2.2, hdesc⟩ (room_le hd' hmx hf1 hf2)) hpre rfl (by rw [List.length_map]; exact hn) (by rw [hl.1]; exact hL) (by simp) (lv_room (by rw [cat_sum]; exact hre)) hd ⟨hf3, hf4⟩) hS (fun q _ h => hA q h) hA ?_
  intro x u t H1 locs1 ht _ hpo hB _ _ hS1
  rw [ht] at hB
  exact kk x u hpo H1 locs1 ls hB hS1 hl
theorem Md.callSv {N : MI} {n d' idx : Nat} {av rest : List AV} {post : Sg → Prop} (hG : Md Γ l θ d M pg) (hq : lkp pc pg = some (.invokestatic idx, pc', v, a1, a2)) (hlk : LK M.1.cls idx N.1) (hN : MS N n) (hC : Cv l θ d' N av σ post) (hd' : d' + 1 ≤ d) (hn : av.length = n) (hst : st = av.reverse ++ rest) (hre : rest.length ≤ 8) (hL : L.length = M.2.2.1) (kk : ∀ (σ' : Sg), post σ' → X Γ pc' L rest σ') : X Γ pc L st σ := by
  obtain ⟨hd, he⟩ := okP_dec hG.2.1 hq (by simp [lenI])
  have hG1 := hG.1
  obtain ⟨θ', ⟨p, l', e, R, s, m, args, below, meth, c⟩, A, ⟨kc, ks⟩, Q⟩ := Γ
  obtain ⟨⟨hx, hb, hml, hown, hts, hE, hI, hA⟩, hp, e1, e2, hf1, hf2, hf3, hf4⟩ := hG
  subst e1; subst e2; subst he; subst hst
  obtain ⟨hw, -, hcl2, hdesc, hmx⟩ := hN
  intro H locs ls hP hS hl
  have hcode : Cond.code N.1 N.2.1 N.2.2.1 N.2.2.2 ∈ TB := hw _ (by simp)
  have hgood : GoodIn TB (va_wsS M.1.cls idx N.1 (Ws N)) := goodIn_TB (fun w h => by
    rcases List.mem_append.mp h with h | h
    · simp only [List.mem_cons, List.not_mem_nil, or_false] at h
      rcases h with rfl | rfl | rfl
      · exact hlk
      · exact hw _ (by simp)
      · exact hw _ (by simp)
    · exact Ws_TB hcode w h)
  have hpre := Ok.preS hG1 (av := av) hP hS
  refine va_callv (A1 := AA θ') (va_runS (As := av.map (conc θ'.1)) (rest := rest.map (conc θ'.1)) ⟨hx, hb, hml, hown, hts⟩ hC (va_cwS n hts hgood rfl rfl rfl ⟨hcl2.1, hcl2.2, hdesc⟩ (room_le hd' hmx hf1 hf2)) hpre rfl (by rw [List.length_map]; exact hn) (by rw [hl.1]; exact hL) (by simp) (lv_room (by rw [cat_sum]; exact hre)) hd ⟨hf3, hf4⟩) hS (fun q _ h => hA q h) hA ?_
  intro u t H1 locs1 ht _ hpo hB _ _ hS1
  rw [ht] at hB
  exact kk u hpo H1 locs1 ls hB hS1 hl
end Rows
end
section
def p_D_settle : List Rw := [(0, .aload_n 0, 1, 0, 0, 0), (1, .iconst (-1), 2, -1, 0, 0), (2, .putfield 25, 5, 0, 0, 1), (5, .aload_n 0, 6, 0, 0, 0), (6, .iconst (-1), 7, -1, 0, 0), (7, .putfield 29, 10, 0, 0, 2), (10, .aload_n 1, 11, 0, 0, 0), (11, .aload_n 1, 12, 0, 0, 0), (12, .getfield 32, 15, 0, 6, 9), (15, .invokevirtual 37, 18, 0, 0, 0), (18, .iconst 0, 19, 0, 0, 0), (19, .istore_n 2, 20, 0, 0, 0), (20, .iload_n 2, 21, 0, 0, 0), (21, .aload_n 1, 22, 0, 0, 0), (22, .getfield 41, 25, 0, 6, 7), (25, .if_icmp .ge 41, 28, 0, 66, 0), (28, .aload_n 0, 29, 0, 0, 0), (29, .getfield 18, 32, 0, 0, 4), (32, .iload_n 2, 33, 0, 0, 0), (33, .aload_n 1, 34, 0, 0, 0), (34, .aload_n 1, 35, 0, 0, 0), (35, .getfield 44, 38, 0, 6, 5), (38, .iload_n 2, 39, 0, 0, 0), (39, .iaload, 40, 0, 0, 0), (40, .invokevirtual 47, 43, 0, 0, 0), (43, .bastore, 44, 0, 0, 0), (44, .aload_n 0, 45, 0, 0, 0), (45, .getfield 22, 48, 0, 0, 5), (48, .iload_n 2, 49, 0, 0, 0), (49, .aload_n 1, 50, 0, 0, 0), (50, .aload_n 1, 51, 0, 0, 0), (51, .getfield 51, 54, 0, 6, 6), (54, .iload_n 2, 55, 0, 0, 0), (55, .iaload, 56, 0, 0, 0), (56, .invokevirtual 47, 59, 0, 0, 0), (59, .bastore, 60, 0, 0, 0), (60, .iinc 2 1, 63, 1, 0, 0), (63, .goto (-43), 66, 0, 20, 0), (66, .aload_n 0, 67, 0, 0, 0), (67, .aload_n 1, 68, 0, 0, 0), (68, .iconst 0, 69, 0, 0, 0), (69, .iconst 0, 70, 0, 0, 0), (70, .iconst 0, 71, 0, 0, 0), (71, .invokevirtual 54, 74, 0, 0, 0), (74, .return_, 75, 0, 0, 0)]
theorem pk_D_settle : okP m_D_settle.1.cls m_D_settle.2.1 p_D_settle := ⟨fl_D, ct_D, fl_D_ok, ct_D_ok, by decide +kernel⟩
def p_D_tryFrom : List Rw := [(0, .iload_n 2, 1, 0, 0, 0), (1, .aload_n 1, 2, 0, 0, 0), (2, .getfield 41, 5, 0, 6, 7), (5, .if_icmp .ge 9, 8, 0, 14, 0), (8, .iload_n 2, 9, 0, 0, 0), (9, .bipush 6, 11, 6, 0, 0), (11, .if_icmp .lt 12, 14, 0, 23, 0), (14, .aload_n 0, 15, 0, 0, 0), (15, .aload_n 1, 16, 0, 0, 0), (16, .iload_n 3, 17, 0, 0, 0), (17, .iload 4, 19, 0, 0, 0), (19, .invokevirtual 58, 22, 0, 0, 0), (22, .return_, 23, 0, 0, 0), (23, .aload_n 0, 24, 0, 0, 0), (24, .getfield 18, 27, 0, 0, 4), (27, .iload_n 2, 28, 0, 0, 0), (28, .baload, 29, 0, 0, 0), (29, .ifCond .eq 45, 32, 0, 74, 0), (32, .aload_n 0, 33, 0, 0, 0), (33, .aload_n 1, 34, 0, 0, 0), (34, .iload_n 2, 35, 0, 0, 0), (35, .aload_n 1, 36, 0, 0, 0), (36, .getfield 44, 39, 0, 6, 5), (39, .iload_n 2, 40, 0, 0, 0), (40, .iaload, 41, 0, 0, 0), (41, .invokevirtual 62, 44, 0, 0, 0), (44, .ifCond .eq 30, 47, 0, 74, 0), (47, .aload_n 0, 48, 0, 0, 0), (48, .getfield 15, 51, 0, 0, 3), (51, .iload_n 2, 52, 0, 0, 0), (52, .aload_n 1, 53, 0, 0, 0), (53, .getfield 44, 56, 0, 6, 5), (56, .iload_n 2, 57, 0, 0, 0), (57, .iaload, 58, 0, 0, 0), (58, .iastore, 59, 0, 0, 0), (59, .aload_n 0, 60, 0, 0, 0), (60, .aload_n 1, 61, 0, 0, 0), (61, .iload_n 2, 62, 0, 0, 0), (62, .iconst 1, 63, 1, 0, 0), (63, .iadd, 64, 0, 0, 0), (64, .iload_n 3, 65, 0, 0, 0), (65, .iconst 1, 66, 1, 0, 0), (66, .iadd, 67, 0, 0, 0), (67, .iload 4, 69, 0, 0, 0), (69, .iconst 1, 70, 1, 0, 0), (70, .iadd, 71, 0, 0, 0), (71, .invokevirtual 54, 74, 0, 0, 0), (74, .aload_n 0, 75, 0, 0, 0), (75, .getfield 22, 78, 0, 0, 5), (78, .iload_n 2, 79, 0, 0, 0), (79, .baload, 80, 0, 0, 0), (80, .ifCond .eq 43, 83, 0, 123, 0), (83, .aload_n 0, 84, 0, 0, 0), (84, .aload_n 1, 85, 0, 0, 0), (85, .iload_n 2, 86, 0, 0, 0), (86, .aload_n 1, 87, 0, 0, 0), (87, .getfield 51, 90, 0, 6, 6), (90, .iload_n 2, 91, 0, 0, 0), (91, .iaload, 92, 0, 0, 0), (92, .invokevirtual 62, 95, 0, 0, 0), (95, .ifCond .eq 28, 98, 0, 123, 0), (98, .aload_n 0, 99, 0, 0, 0), (99, .getfield 15, 102, 0, 0, 3), (102, .iload_n 2, 103, 0, 0, 0), (103, .aload_n 1, 104, 0, 0, 0), (104, .getfield 51, 107, 0, 6, 6), (107, .iload_n 2, 108, 0, 0, 0), (108, .iaload, 109, 0, 0, 0), (109, .iastore, 110, 0, 0, 0), (110, .aload_n 0, 111, 0, 0, 0), (111, .aload_n 1, 112, 0, 0, 0), (112, .iload_n 2, 113, 0, 0, 0), (113, .iconst 1, 114, 1, 0, 0), (114, .iadd, 115, 0, 0, 0), (115, .iload_n 3, 116, 0, 0, 0), (116, .iconst 1, 117, 1, 0, 0), (117, .iadd, 118, 0, 0, 0), (118, .iload 4, 120, 0, 0, 0), (120, .invokevirtual 54, 123, 0, 0, 0), (123, .aload_n 0, 124, 0, 0, 0), (124, .getfield 15, 127, 0, 0, 3), (127, .iload_n 2, 128, 0, 0, 0), (128, .ldc 66, 130, -1000000005, 0, 0), (130, .iastore, 131, 0, 0, 0), (131, .aload_n 0, 132, 0, 0, 0), (132, .aload_n 1, 133, 0, 0, 0), (133, .iload_n 2, 134, 0, 0, 0), (134, .iconst 1, 135, 1, 0, 0), (135, .iadd, 136, 0, 0, 0), (136, .iload_n 3, 137, 0, 0, 0), (137, .iload 4, 139, 0, 0, 0), (139, .invokevirtual 54, 142, 0, 0, 0), (142, .return_, 143, 0, 0, 0)]
theorem pk_D_tryFrom : okP m_D_tryFrom.1.cls m_D_tryFrom.2.1 p_D_tryFrom := ⟨fl_D, ct_D, fl_D_ok, ct_D_ok, by decide +kernel⟩
def p_D_fits : List Rw := [(0, .iconst 0, 1, 0, 0, 0), (1, .istore 4, 3, 0, 0, 0), (3, .iload 4, 5, 0, 0, 0), (5, .iload_n 2, 6, 0, 0, 0), (6, .if_icmp .ge 38, 9, 0, 44, 0), (9, .aload_n 0, 10, 0, 0, 0), (10, .getfield 15, 13, 0, 0, 3), (13, .iload 4, 15, 0, 0, 0), (15, .iaload, 16, 0, 0, 0), (16, .ldc 66, 18, -1000000005, 0, 0), (18, .if_icmp .eq 20, 21, 0, 38, 0), (21, .aload_n 1, 22, 0, 0, 0), (22, .aload_n 0, 23, 0, 0, 0), (23, .getfield 15, 26, 0, 0, 3), (26, .iload 4, 28, 0, 0, 0), (28, .iaload, 29, 0, 0, 0), (29, .iload_n 3, 30, 0, 0, 0), (30, .invokevirtual 67, 33, 0, 0, 0), (33, .ifCond .eq 5, 36, 0, 38, 0), (36, .iconst 0, 37, 0, 0, 0), (37, .ireturn, 38, 0, 0, 0), (38, .iinc 4 1, 41, 1, 0, 0), (41, .goto (-38), 44, 0, 3, 0), (44, .iconst 1, 45, 1, 0, 0), (45, .ireturn, 46, 0, 0, 0)]
theorem pk_D_fits : okP m_D_fits.1.cls m_D_fits.2.1 p_D_fits := ⟨fl_D, ct_D, fl_D_ok, ct_D_ok, by decide +kernel⟩
def p_D_remember : List Rw := [(0, .iload_n 2, 1, 0, 0, 0), (1, .aload_n 0, 2, 0, 0, 0), (2, .getfield 25, 5, 0, 0, 1), (5, .if_icmp .lt 19, 8, 0, 24, 0), (8, .iload_n 2, 9, 0, 0, 0), (9, .aload_n 0, 10, 0, 0, 0), (10, .getfield 25, 13, 0, 0, 1), (13, .if_icmp .ne 12, 16, 0, 25, 0), (16, .iload_n 3, 17, 0, 0, 0), (17, .aload_n 0, 18, 0, 0, 0), (18, .getfield 29, 21, 0, 0, 2), (21, .if_icmp .gt 4, 24, 0, 25, 0), (24, .return_, 25, 0, 0, 0), (25, .aload_n 0, 26, 0, 0, 0), (26, .iload_n 2, 27, 0, 0, 0), (27, .putfield 25, 30, 0, 0, 1), (30, .aload_n 0, 31, 0, 0, 0), (31, .iload_n 3, 32, 0, 0, 0), (32, .putfield 29, 35, 0, 0, 2), (35, .aload_n 0, 36, 0, 0, 0), (36, .getfield 15, 39, 0, 0, 3), (39, .iconst 0, 40, 0, 0, 0), (40, .aload_n 0, 41, 0, 0, 0), (41, .getfield 9, 44, 0, 0, 0), (44, .iconst 0, 45, 0, 0, 0), (45, .aload_n 1, 46, 0, 0, 0), (46, .getfield 41, 49, 0, 6, 7), (49, .invokestatic 71, 52, 0, 0, 0), (52, .return_, 53, 0, 0, 0)]
theorem pk_D_remember : okP m_D_remember.1.cls m_D_remember.2.1 p_D_remember := ⟨fl_D, ct_D, fl_D_ok, ct_D_ok, by decide +kernel⟩
def p_K_isKind : List Rw := [(0, .iload_n 0, 1, 0, 0, 0), (1, .ifCond .lt 13, 4, 0, 14, 0), (4, .iload_n 0, 5, 0, 0, 0), (5, .bipush 6, 7, 6, 0, 0), (7, .if_icmp .ge 7, 10, 0, 14, 0), (10, .iconst 1, 11, 1, 0, 0), (11, .goto 4, 14, 0, 15, 0), (14, .iconst 0, 15, 0, 0, 0), (15, .ireturn, 16, 0, 0, 0)]
theorem pk_K_isKind : okP m_K_isKind.1.cls m_K_isKind.2.1 p_K_isKind := ⟨fl_K, ct_K, fl_K_ok, ct_K_ok, by decide +kernel⟩
def p_K_isOf : List Rw := [(0, .iload_n 0, 1, 0, 0, 0), (1, .istore_n 2, 2, 0, 0, 0), (2, .iconst 0, 3, 0, 0, 0), (3, .istore_n 3, 4, 0, 0, 0), (4, .iload_n 3, 5, 0, 0, 0), (5, .bipush 6, 7, 6, 0, 0), (7, .if_icmp .ge 29, 10, 0, 36, 0), (10, .iload_n 2, 11, 0, 0, 0), (11, .invokestatic 11, 14, 0, 0, 0), (14, .ifCond .eq 22, 17, 0, 36, 0), (17, .iload_n 2, 18, 0, 0, 0), (18, .iload_n 1, 19, 0, 0, 0), (19, .if_icmp .ne 5, 22, 0, 24, 0), (22, .iconst 1, 23, 1, 0, 0), (23, .ireturn, 24, 0, 0, 0), (24, .getstatic 15, 27, 0, 0, 0), (27, .iload_n 2, 28, 0, 0, 0), (28, .iaload, 29, 0, 0, 0), (29, .istore_n 2, 30, 0, 0, 0), (30, .iinc 3 1, 33, 1, 0, 0), (33, .goto (-29), 36, 0, 4, 0), (36, .iconst 0, 37, 0, 0, 0), (37, .ireturn, 38, 0, 0, 0)]
theorem pk_K_isOf : okP m_K_isOf.1.cls m_K_isOf.2.1 p_K_isOf := ⟨fl_K, ct_K, fl_K_ok, ct_K_ok, by decide +kernel⟩
def p_K_holdsIn : List Rw := [(0, .iload_n 2, 1, 0, 0, 0), (1, .ldc 19, 3, -1000000005, 0, 0), (3, .if_icmp .ne 7, 6, 0, 10, 0), (6, .iconst 1, 7, 1, 0, 0), (7, .goto 4, 10, 0, 11, 0), (10, .iconst 0, 11, 0, 0, 0), (11, .istore 5, 13, 0, 0, 0), (13, .iload 5, 15, 0, 0, 0), (15, .ifCond .ne 11, 18, 0, 26, 0), (18, .iload 4, 20, 0, 0, 0), (20, .iload_n 2, 21, 0, 0, 0), (21, .isub, 22, 0, 0, 0), (22, .iload_n 3, 23, 0, 0, 0), (23, .if_icmp .ge 7, 26, 0, 30, 0), (26, .iconst 1, 27, 1, 0, 0), (27, .goto 4, 30, 0, 31, 0), (30, .iconst 0, 31, 0, 0, 0), (31, .istore 6, 33, 0, 0, 0), (33, .iload 6, 35, 0, 0, 0), (35, .ifCond .eq 16, 38, 0, 51, 0), (38, .iload 4, 40, 0, 0, 0), (40, .iload_n 1, 41, 0, 0, 0), (41, .isub, 42, 0, 0, 0), (42, .bipush 100, 44, 100, 0, 0), (44, .if_icmp .ge 7, 47, 0, 51, 0), (47, .iconst 1, 48, 1, 0, 0), (48, .goto 4, 51, 0, 52, 0), (51, .iconst 0, 52, 0, 0, 0), (52, .istore 7, 54, 0, 0, 0), (54, .iload 6, 56, 0, 0, 0), (56, .ifCond .ne 13, 59, 0, 69, 0), (59, .iload 4, 61, 0, 0, 0), (61, .iload_n 2, 62, 0, 0, 0), (62, .isub, 63, 0, 0, 0), (63, .sipush 200, 66, 200, 0, 0), (66, .if_icmp .ge 7, 69, 0, 73, 0), (69, .iconst 1, 70, 1, 0, 0), (70, .goto 4, 73, 0, 74, 0), (73, .iconst 0, 74, 0, 0, 0), (74, .istore 8, 76, 0, 0, 0), (76, .iload_n 0, 77, 0, 0, 0), (77, .tableswitch 88 1 5 #[35, 61, 38, 64, 85], 112, 0, 0, 0), (112, .iload 7, 114, 0, 0, 0), (114, .ireturn, 115, 0, 0, 0), (115, .iload 7, 117, 0, 0, 0), (117, .ifCond .eq 19, 120, 0, 136, 0), (120, .iload 5, 122, 0, 0, 0), (122, .ifCond .eq 10, 125, 0, 132, 0), (125, .iload 4, 127, 0, 0, 0), (127, .iconst 2, 128, 2, 0, 0), (128, .irem, 129, 0, 0, 0), (129, .ifCond .ne 7, 132, 0, 136, 0), (132, .iconst 1, 133, 1, 0, 0), (133, .goto 4, 136, 0, 137, 0), (136, .iconst 0, 137, 0, 0, 0), (137, .ireturn, 138, 0, 0, 0), (138, .iload 8, 140, 0, 0, 0), (140, .ireturn, 141, 0, 0, 0), (141, .iload 8, 143, 0, 0, 0), (143, .ifCond .ne 13, 146, 0, 156, 0), (146, .iload 4, 148, 0, 0, 0), (148, .iload_n 1, 149, 0, 0, 0), (149, .isub, 150, 0, 0, 0), (150, .sipush 500, 153, 500, 0, 0), (153, .if_icmp .ge 7, 156, 0, 160, 0), (156, .iconst 1, 157, 1, 0, 0), (157, .goto 4, 160, 0, 161, 0), (160, .iconst 0, 161, 0, 0, 0), (161, .ireturn, 162, 0, 0, 0), (162, .iload 5, 164, 0, 0, 0), (164, .ireturn, 165, 0, 0, 0), (165, .iload 6, 167, 0, 0, 0), (167, .ireturn, 168, 0, 0, 0)]
theorem pk_K_holdsIn : okP m_K_holdsIn.1.cls m_K_holdsIn.2.1 p_K_holdsIn := ⟨fl_K, ct_K, fl_K_ok, ct_K_ok, by decide +kernel⟩
def p_K_worth : List Rw := [(0, .iload_n 0, 1, 0, 0, 0), (1, .tableswitch 64 1 5 #[35, 47, 40, 53, 62], 36, 0, 0, 0), (36, .iload_n 1, 37, 0, 0, 0), (37, .bipush 7, 39, 7, 0, 0), (39, .iadd, 40, 0, 0, 0), (40, .ireturn, 41, 0, 0, 0), (41, .iconst 2, 42, 2, 0, 0), (42, .iload_n 1, 43, 0, 0, 0), (43, .bipush 7, 45, 7, 0, 0), (45, .iadd, 46, 0, 0, 0), (46, .imul, 47, 0, 0, 0), (47, .ireturn, 48, 0, 0, 0), (48, .sipush 200, 51, 200, 0, 0), (51, .iload_n 1, 52, 0, 0, 0), (52, .isub, 53, 0, 0, 0), (53, .ireturn, 54, 0, 0, 0), (54, .sipush 200, 57, 200, 0, 0), (57, .iload_n 1, 58, 0, 0, 0), (58, .isub, 59, 0, 0, 0), (59, .bipush 9, 61, 9, 0, 0), (61, .isub, 62, 0, 0, 0), (62, .ireturn, 63, 0, 0, 0), (63, .iconst 3, 64, 3, 0, 0), (64, .ireturn, 65, 0, 0, 0), (65, .iload_n 1, 66, 0, 0, 0), (66, .ireturn, 67, 0, 0, 0)]
theorem pk_K_worth : okP m_K_worth.1.cls m_K_worth.2.1 p_K_worth := ⟨fl_K, ct_K, fl_K_ok, ct_K_ok, by decide +kernel⟩
def p_L_work : List Rw := [(0, .iload_n 1, 1, 0, 0, 0), (1, .ifCond .lt 12, 4, 0, 13, 0), (4, .iload_n 1, 5, 0, 0, 0), (5, .aload_n 0, 6, 0, 0, 0), (6, .getfield 11, 9, 0, 1, 0), (9, .arraylength, 10, 0, 0, 0), (10, .if_icmp .lt 5, 13, 0, 15, 0), (13, .iconst 0, 14, 0, 0, 0), (14, .ireturn, 15, 0, 0, 0), (15, .aload_n 0, 16, 0, 0, 0), (16, .getfield 11, 19, 0, 1, 0), (19, .iload_n 1, 20, 0, 0, 0), (20, .aaload, 21, 0, 0, 0), (21, .astore 5, 23, 0, 0, 0), (23, .iconst 0, 24, 0, 0, 0), (24, .istore 6, 26, 0, 0, 0), (26, .iconst 0, 27, 0, 0, 0), (27, .istore 7, 29, 0, 0, 0), (29, .iload 7, 31, 0, 0, 0), (31, .aload 5, 33, 0, 0, 0), (33, .getfield 22, 36, 0, 5, 2), (36, .if_icmp .ge 141, 39, 0, 177, 0), (39, .aload 5, 41, 0, 0, 0), (41, .getfield 26, 44, 0, 5, 3), (44, .iload 7, 46, 0, 0, 0), (46, .iaload, 47, 0, 0, 0), (47, .istore 8, 49, 0, 0, 0), (49, .iload 8, 51, 0, 0, 0), (51, .ifCond .lt 35, 54, 0, 86, 0), (54, .iload 6, 56, 0, 0, 0), (56, .aload_n 0, 57, 0, 0, 0), (57, .getfield 17, 60, 0, 1, 1), (60, .arraylength, 61, 0, 0, 0), (61, .if_icmp .ge 25, 64, 0, 86, 0), (64, .aload_n 0, 65, 0, 0, 0), (65, .getfield 17, 68, 0, 1, 1), (68, .iload 6, 70, 0, 0, 0), (70, .iload 8, 72, 0, 0, 0), (72, .iload_n 2, 73, 0, 0, 0), (73, .iload_n 3, 74, 0, 0, 0), (74, .iload 4, 76, 0, 0, 0), (76, .invokestatic 29, 79, 0, 0, 0), (79, .iastore, 80, 0, 0, 0), (80, .iinc 6 1, 83, 1, 0, 0), (83, .goto 88, 86, 0, 171, 0), (86, .iload 8, 88, 0, 0, 0), (88, .bipush (-33), 90, -33, 0, 0), (90, .if_icmp .ne 41, 93, 0, 131, 0), (93, .iload 6, 95, 0, 0, 0), (95, .iconst 1, 96, 1, 0, 0), (96, .if_icmp .lt 35, 99, 0, 131, 0), (99, .aload_n 0, 100, 0, 0, 0), (100, .getfield 17, 103, 0, 1, 1), (103, .iload 6, 105, 0, 0, 0), (105, .iconst 1, 106, 1, 0, 0), (106, .isub, 107, 0, 0, 0), (107, .aload_n 0, 108, 0, 0, 0), (108, .getfield 17, 111, 0, 1, 1), (111, .iload 6, 113, 0, 0, 0), (113, .iconst 1, 114, 1, 0, 0), (114, .isub, 115, 0, 0, 0), (115, .iaload, 116, 0, 0, 0), (116, .ifCond .ne 7, 119, 0, 123, 0), (119, .iconst 1, 120, 1, 0, 0), (120, .goto 4, 123, 0, 124, 0), (123, .iconst 0, 124, 0, 0, 0), (124, .invokestatic 33, 127, 0, 0, 0), (127, .iastore, 128, 0, 0, 0), (128, .goto 43, 131, 0, 171, 0), (131, .iload 6, 133, 0, 0, 0), (133, .iconst 2, 134, 2, 0, 0), (134, .if_icmp .lt 37, 137, 0, 171, 0), (137, .iinc 6 (-1), 140, -1, 0, 0), (140, .aload_n 0, 141, 0, 0, 0), (141, .getfield 17, 144, 0, 1, 1), (144, .iload 6, 146, 0, 0, 0), (146, .iconst 1, 147, 1, 0, 0), (147, .isub, 148, 0, 0, 0), (148, .iload 8, 150, 0, 0, 0), (150, .ineg, 151, 0, 0, 0), (151, .aload_n 0, 152, 0, 0, 0), (152, .getfield 17, 155, 0, 1, 1), (155, .iload 6, 157, 0, 0, 0), (157, .iconst 1, 158, 1, 0, 0), (158, .isub, 159, 0, 0, 0), (159, .iaload, 160, 0, 0, 0), (160, .aload_n 0, 161, 0, 0, 0), (161, .getfield 17, 164, 0, 1, 1), (164, .iload 6, 166, 0, 0, 0), (166, .iaload, 167, 0, 0, 0), (167, .invokestatic 37, 170, 0, 0, 0), (170, .iastore, 171, 0, 0, 0), (171, .iinc 7 1, 174, 1, 0, 0), (174, .goto (-145), 177, 0, 29, 0), (177, .aload_n 0, 178, 0, 0, 0), (178, .getfield 17, 181, 0, 1, 1), (181, .iconst 0, 182, 0, 0, 0), (182, .iaload, 183, 0, 0, 0), (183, .ireturn, 184, 0, 0, 0)]
theorem pk_L_work : okP m_L_work.1.cls m_L_work.2.1 p_L_work := ⟨fl_L, ct_L, fl_L_ok, ct_L_ok, by decide +kernel⟩
def p_L_leaf : List Rw := [(0, .iload_n 0, 1, 0, 0, 0), (1, .sipush 10000, 4, 10000, 0, 0), (4, .if_icmp .ge 5, 7, 0, 9, 0), (7, .iload_n 0, 8, 0, 0, 0), (8, .ireturn, 9, 0, 0, 0), (9, .iload_n 0, 10, 0, 0, 0), (10, .sipush 10000, 13, 10000, 0, 0), (13, .if_icmp .ne 5, 16, 0, 18, 0), (16, .iload_n 1, 17, 0, 0, 0), (17, .ireturn, 18, 0, 0, 0), (18, .iload_n 0, 19, 0, 0, 0), (19, .sipush 10001, 22, 10001, 0, 0), (22, .if_icmp .ne 7, 25, 0, 29, 0), (25, .iload_n 2, 26, 0, 0, 0), (26, .goto 4, 29, 0, 30, 0), (29, .iload_n 3, 30, 0, 0, 0), (30, .ireturn, 31, 0, 0, 0)]
theorem pk_L_leaf : okP m_L_leaf.1.cls m_L_leaf.2.1 p_L_leaf := ⟨fl_L, ct_L, fl_L_ok, ct_L_ok, by decide +kernel⟩
def p_L_join : List Rw := [(0, .iload_n 0, 1, 0, 0, 0), (1, .lookupswitch 163 #[(38, 92), (42, 159), (43, 151), (45, 155), (60, 109), (61, 123), (62, 137), (124, 75)], 76, 0, 0, 0), (76, .iload_n 1, 77, 0, 0, 0), (77, .ifCond .ne 7, 80, 0, 84, 0), (80, .iload_n 2, 81, 0, 0, 0), (81, .ifCond .eq 7, 84, 0, 88, 0), (84, .iconst 1, 85, 1, 0, 0), (85, .goto 4, 88, 0, 89, 0), (88, .iconst 0, 89, 0, 0, 0), (89, .invokestatic 33, 92, 0, 0, 0), (92, .ireturn, 93, 0, 0, 0), (93, .iload_n 1, 94, 0, 0, 0), (94, .ifCond .eq 11, 97, 0, 105, 0), (97, .iload_n 2, 98, 0, 0, 0), (98, .ifCond .eq 7, 101, 0, 105, 0), (101, .iconst 1, 102, 1, 0, 0), (102, .goto 4, 105, 0, 106, 0), (105, .iconst 0, 106, 0, 0, 0), (106, .invokestatic 33, 109, 0, 0, 0), (109, .ireturn, 110, 0, 0, 0), (110, .iload_n 1, 111, 0, 0, 0), (111, .iload_n 2, 112, 0, 0, 0), (112, .if_icmp .ge 7, 115, 0, 119, 0), (115, .iconst 1, 116, 1, 0, 0), (116, .goto 4, 119, 0, 120, 0), (119, .iconst 0, 120, 0, 0, 0), (120, .invokestatic 33, 123, 0, 0, 0), (123, .ireturn, 124, 0, 0, 0), (124, .iload_n 1, 125, 0, 0, 0), (125, .iload_n 2, 126, 0, 0, 0), (126, .if_icmp .ne 7, 129, 0, 133, 0), (129, .iconst 1, 130, 1, 0, 0), (130, .goto 4, 133, 0, 134, 0), (133, .iconst 0, 134, 0, 0, 0), (134, .invokestatic 33, 137, 0, 0, 0), (137, .ireturn, 138, 0, 0, 0), (138, .iload_n 1, 139, 0, 0, 0), (139, .iload_n 2, 140, 0, 0, 0), (140, .if_icmp .le 7, 143, 0, 147, 0), (143, .iconst 1, 144, 1, 0, 0), (144, .goto 4, 147, 0, 148, 0), (147, .iconst 0, 148, 0, 0, 0), (148, .invokestatic 33, 151, 0, 0, 0), (151, .ireturn, 152, 0, 0, 0), (152, .iload_n 1, 153, 0, 0, 0), (153, .iload_n 2, 154, 0, 0, 0), (154, .iadd, 155, 0, 0, 0), (155, .ireturn, 156, 0, 0, 0), (156, .iload_n 1, 157, 0, 0, 0), (157, .iload_n 2, 158, 0, 0, 0), (158, .isub, 159, 0, 0, 0), (159, .ireturn, 160, 0, 0, 0), (160, .iload_n 1, 161, 0, 0, 0), (161, .iload_n 2, 162, 0, 0, 0), (162, .imul, 163, 0, 0, 0), (163, .ireturn, 164, 0, 0, 0), (164, .iload_n 2, 165, 0, 0, 0), (165, .ifCond .ne 7, 168, 0, 172, 0), (168, .iconst 0, 169, 0, 0, 0), (169, .goto 6, 172, 0, 175, 0), (172, .iload_n 1, 173, 0, 0, 0), (173, .iload_n 2, 174, 0, 0, 0), (174, .idiv, 175, 0, 0, 0), (175, .ireturn, 176, 0, 0, 0)]
theorem pk_L_join : okP m_L_join.1.cls m_L_join.2.1 p_L_join := ⟨fl_L, ct_L, fl_L_ok, ct_L_ok, by decide +kernel⟩
def p_E_alike : List Rw := [(0, .iconst 0, 1, 0, 0, 0), (1, .istore_n 2, 2, 0, 0, 0), (2, .iload_n 0, 3, 0, 0, 0), (3, .bipush 25, 5, 25, 0, 0), (5, .idiv, 6, 0, 0, 0), (6, .iload_n 1, 7, 0, 0, 0), (7, .bipush 25, 9, 25, 0, 0), (9, .idiv, 10, 0, 0, 0), (10, .if_icmp .ne 7, 13, 0, 17, 0), (13, .iload_n 2, 14, 0, 0, 0), (14, .iconst 1, 15, 1, 0, 0), (15, .ior, 16, 0, 0, 0), (16, .istore_n 2, 17, 0, 0, 0), (17, .iload_n 0, 18, 0, 0, 0), (18, .iconst 5, 19, 5, 0, 0), (19, .idiv, 20, 0, 0, 0), (20, .iconst 5, 21, 5, 0, 0), (21, .irem, 22, 0, 0, 0), (22, .iload_n 1, 23, 0, 0, 0), (23, .iconst 5, 24, 5, 0, 0), (24, .idiv, 25, 0, 0, 0), (25, .iconst 5, 26, 5, 0, 0), (26, .irem, 27, 0, 0, 0), (27, .if_icmp .ne 7, 30, 0, 34, 0), (30, .iload_n 2, 31, 0, 0, 0), (31, .iconst 2, 32, 2, 0, 0), (32, .ior, 33, 0, 0, 0), (33, .istore_n 2, 34, 0, 0, 0), (34, .iload_n 0, 35, 0, 0, 0), (35, .iconst 5, 36, 5, 0, 0), (36, .irem, 37, 0, 0, 0), (37, .iload_n 1, 38, 0, 0, 0), (38, .iconst 5, 39, 5, 0, 0), (39, .irem, 40, 0, 0, 0), (40, .if_icmp .ne 7, 43, 0, 47, 0), (43, .iload_n 2, 44, 0, 0, 0), (44, .iconst 4, 45, 4, 0, 0), (45, .ior, 46, 0, 0, 0), (46, .istore_n 2, 47, 0, 0, 0), (47, .iload_n 2, 48, 0, 0, 0), (48, .ireturn, 49, 0, 0, 0)]
theorem pk_E_alike : okP m_E_alike.1.cls m_E_alike.2.1 p_E_alike := ⟨fl_E, ct_E, fl_E_ok, ct_E_ok, by decide +kernel⟩
def p_E_unlike : List Rw := [(0, .iconst 3, 1, 3, 0, 0), (1, .iload_n 0, 2, 0, 0, 0), (2, .bipush 7, 4, 7, 0, 0), (4, .iand, 5, 0, 0, 0), (5, .invokestatic 9, 8, 0, 0, 0), (8, .isub, 9, 0, 0, 0), (9, .ireturn, 10, 0, 0, 0)]
theorem pk_E_unlike : okP m_E_unlike.1.cls m_E_unlike.2.1 p_E_unlike := ⟨fl_E, ct_E, fl_E_ok, ct_E_ok, by decide +kernel⟩
def p_R_clear : List Rw := [(0, .aload_n 0, 1, 0, 0, 0), (1, .iload_n 1, 2, 0, 0, 0), (2, .putfield 9, 5, 0, 2, 0), (5, .aload_n 0, 6, 0, 0, 0), (6, .iload_n 2, 7, 0, 0, 0), (7, .putfield 19, 10, 0, 2, 1), (10, .iconst 0, 11, 0, 0, 0), (11, .istore_n 3, 12, 0, 0, 0), (12, .iload_n 3, 13, 0, 0, 0), (13, .aload_n 0, 14, 0, 0, 0), (14, .getfield 15, 17, 0, 2, 2), (17, .arraylength, 18, 0, 0, 0), (18, .if_icmp .ge 16, 21, 0, 34, 0), (21, .aload_n 0, 22, 0, 0, 0), (22, .getfield 15, 25, 0, 2, 2), (25, .iload_n 3, 26, 0, 0, 0), (26, .iconst 0, 27, 0, 0, 0), (27, .iastore, 28, 0, 0, 0), (28, .iinc 3 1, 31, 1, 0, 0), (31, .goto (-19), 34, 0, 12, 0), (34, .return_, 35, 0, 0, 0)]
theorem pk_R_clear : okP m_R_clear.1.cls m_R_clear.2.1 p_R_clear := ⟨fl_R, ct_R, fl_R_ok, ct_R_ok, by decide +kernel⟩
def p_R_become : List Rw := [(0, .aload_n 0, 1, 0, 0, 0), (1, .aload_n 1, 2, 0, 0, 0), (2, .getfield 9, 5, 0, 2, 0), (5, .putfield 9, 8, 0, 2, 0), (8, .aload_n 0, 9, 0, 0, 0), (9, .aload_n 1, 10, 0, 0, 0), (10, .getfield 19, 13, 0, 2, 1), (13, .putfield 19, 16, 0, 2, 1), (16, .aload_n 1, 17, 0, 0, 0), (17, .getfield 15, 20, 0, 2, 2), (20, .iconst 0, 21, 0, 0, 0), (21, .aload_n 0, 22, 0, 0, 0), (22, .getfield 15, 25, 0, 2, 2), (25, .iconst 0, 26, 0, 0, 0), (26, .bipush 24, 28, 24, 0, 0), (28, .invokestatic 22, 31, 0, 0, 0), (31, .return_, 32, 0, 0, 0)]
theorem pk_R_become : okP m_R_become.1.cls m_R_become.2.1 p_R_become := ⟨fl_R, ct_R, fl_R_ok, ct_R_ok, by decide +kernel⟩
def p_R_hasPlace : List Rw := [(0, .iload_n 1, 1, 0, 0, 0), (1, .ifCond .lt 15, 4, 0, 16, 0), (4, .iload_n 1, 5, 0, 0, 0), (5, .aload_n 0, 6, 0, 0, 0), (6, .getfield 19, 9, 0, 2, 1), (9, .if_icmp .ge 7, 12, 0, 16, 0), (12, .iconst 1, 13, 1, 0, 0), (13, .goto 4, 16, 0, 17, 0), (16, .iconst 0, 17, 0, 0, 0), (17, .ireturn, 18, 0, 0, 0)]
theorem pk_R_hasPlace : okP m_R_hasPlace.1.cls m_R_hasPlace.2.1 p_R_hasPlace := ⟨fl_R, ct_R, fl_R_ok, ct_R_ok, by decide +kernel⟩
def p_R_hasPlaces : List Rw := [(0, .iload_n 1, 1, 0, 0, 0), (1, .ifCond .lt 29, 4, 0, 30, 0), (4, .iload_n 1, 5, 0, 0, 0), (5, .aload_n 0, 6, 0, 0, 0), (6, .getfield 19, 9, 0, 2, 1), (9, .if_icmp .gt 21, 12, 0, 30, 0), (12, .iload_n 2, 13, 0, 0, 0), (13, .ifCond .lt 17, 16, 0, 30, 0), (16, .iload_n 2, 17, 0, 0, 0), (17, .aload_n 0, 18, 0, 0, 0), (18, .getfield 19, 21, 0, 2, 1), (21, .iload_n 1, 22, 0, 0, 0), (22, .isub, 23, 0, 0, 0), (23, .if_icmp .gt 7, 26, 0, 30, 0), (26, .iconst 1, 27, 1, 0, 0), (27, .goto 4, 30, 0, 31, 0), (30, .iconst 0, 31, 0, 0, 0), (31, .ireturn, 32, 0, 0, 0)]
theorem pk_R_hasPlaces : okP m_R_hasPlaces.1.cls m_R_hasPlaces.2.1 p_R_hasPlaces := ⟨fl_R, ct_R, fl_R_ok, ct_R_ok, by decide +kernel⟩
def p_X_begin : List Rw := [(0, .aload_n 0, 1, 0, 0, 0), (1, .iload_n 1, 2, 0, 0, 0), (2, .putfield 15, 5, 0, 5, 0), (5, .aload_n 0, 6, 0, 0, 0), (6, .iconst 0, 7, 0, 0, 0), (7, .putfield 19, 10, 0, 5, 1), (10, .aload_n 0, 11, 0, 0, 0), (11, .iconst 0, 12, 0, 0, 0), (12, .putfield 22, 15, 0, 5, 2), (15, .return_, 16, 0, 0, 0)]
theorem pk_X_begin : okP m_X_begin.1.cls m_X_begin.2.1 p_X_begin := ⟨fl_X, ct_X, fl_X_ok, ct_X_ok, by decide +kernel⟩
def p_X_become : List Rw := [(0, .aload_n 0, 1, 0, 0, 0), (1, .aload_n 1, 2, 0, 0, 0), (2, .getfield 15, 5, 0, 5, 0), (5, .putfield 15, 8, 0, 5, 0), (8, .aload_n 0, 9, 0, 0, 0), (9, .aload_n 1, 10, 0, 0, 0), (10, .getfield 19, 13, 0, 5, 1), (13, .putfield 19, 16, 0, 5, 1), (16, .aload_n 0, 17, 0, 0, 0), (17, .aload_n 1, 18, 0, 0, 0), (18, .getfield 22, 21, 0, 5, 2), (21, .putfield 22, 24, 0, 5, 2), (24, .aload_n 1, 25, 0, 0, 0), (25, .getfield 9, 28, 0, 5, 3), (28, .iconst 0, 29, 0, 0, 0), (29, .aload_n 0, 30, 0, 0, 0), (30, .getfield 9, 33, 0, 5, 3), (33, .iconst 0, 34, 0, 0, 0), (34, .bipush 96, 36, 96, 0, 0), (36, .invokestatic 25, 39, 0, 0, 0), (39, .return_, 40, 0, 0, 0)]
theorem pk_X_become : okP m_X_become.1.cls m_X_become.2.1 p_X_become := ⟨fl_X, ct_X, fl_X_ok, ct_X_ok, by decide +kernel⟩
def p_X_addLeaf : List Rw := [(0, .aload_n 0, 1, 0, 0, 0), (1, .dup, 2, 0, 0, 0), (2, .getfield 19, 5, 0, 5, 1), (5, .iconst 1, 6, 1, 0, 0), (6, .iadd, 7, 0, 0, 0), (7, .putfield 19, 10, 0, 5, 1), (10, .aload_n 0, 11, 0, 0, 0), (11, .iload_n 1, 12, 0, 0, 0), (12, .invokevirtual 31, 15, 0, 0, 0), (15, .return_, 16, 0, 0, 0)]
theorem pk_X_addLeaf : okP m_X_addLeaf.1.cls m_X_addLeaf.2.1 p_X_addLeaf := ⟨fl_X, ct_X, fl_X_ok, ct_X_ok, by decide +kernel⟩
def p_X_addSign : List Rw := [(0, .aload_n 0, 1, 0, 0, 0), (1, .iload_n 1, 2, 0, 0, 0), (2, .ineg, 3, 0, 0, 0), (3, .invokevirtual 31, 6, 0, 0, 0), (6, .return_, 7, 0, 0, 0)]
theorem pk_X_addSign : okP m_X_addSign.1.cls m_X_addSign.2.1 p_X_addSign := ⟨fl_X, ct_X, fl_X_ok, ct_X_ok, by decide +kernel⟩
def p_X_addStep : List Rw := [(0, .aload_n 0, 1, 0, 0, 0), (1, .getfield 22, 4, 0, 5, 2), (4, .aload_n 0, 5, 0, 0, 0), (5, .getfield 9, 8, 0, 5, 3), (8, .arraylength, 9, 0, 0, 0), (9, .if_icmp .ge 23, 12, 0, 32, 0), (12, .aload_n 0, 13, 0, 0, 0), (13, .getfield 9, 16, 0, 5, 3), (16, .aload_n 0, 17, 0, 0, 0), (17, .getfield 22, 20, 0, 5, 2), (20, .iload_n 1, 21, 0, 0, 0), (21, .iastore, 22, 0, 0, 0), (22, .aload_n 0, 23, 0, 0, 0), (23, .dup, 24, 0, 0, 0), (24, .getfield 22, 27, 0, 5, 2), (27, .iconst 1, 28, 1, 0, 0), (28, .iadd, 29, 0, 0, 0), (29, .putfield 22, 32, 0, 5, 2), (32, .return_, 33, 0, 0, 0)]
theorem pk_X_addStep : okP m_X_addStep.1.cls m_X_addStep.2.1 p_X_addStep := ⟨fl_X, ct_X, fl_X_ok, ct_X_ok, by decide +kernel⟩
def p_I_bitCount : List Rw := [(0, .iload_n 0, 1, 0, 0, 0), (1, .iload_n 0, 2, 0, 0, 0), (2, .iconst 1, 3, 1, 0, 0), (3, .iushr, 4, 0, 0, 0), (4, .ldc_w 265, 7, 1431655765, 0, 0), (7, .iand, 8, 0, 0, 0), (8, .isub, 9, 0, 0, 0), (9, .istore_n 0, 10, 0, 0, 0), (10, .iload_n 0, 11, 0, 0, 0), (11, .ldc_w 266, 14, 858993459, 0, 0), (14, .iand, 15, 0, 0, 0), (15, .iload_n 0, 16, 0, 0, 0), (16, .iconst 2, 17, 2, 0, 0), (17, .iushr, 18, 0, 0, 0), (18, .ldc_w 266, 21, 858993459, 0, 0), (21, .iand, 22, 0, 0, 0), (22, .iadd, 23, 0, 0, 0), (23, .istore_n 0, 24, 0, 0, 0), (24, .iload_n 0, 25, 0, 0, 0), (25, .iload_n 0, 26, 0, 0, 0), (26, .iconst 4, 27, 4, 0, 0), (27, .iushr, 28, 0, 0, 0), (28, .iadd, 29, 0, 0, 0), (29, .ldc_w 267, 32, 252645135, 0, 0), (32, .iand, 33, 0, 0, 0), (33, .istore_n 0, 34, 0, 0, 0), (34, .iload_n 0, 35, 0, 0, 0), (35, .iload_n 0, 36, 0, 0, 0), (36, .bipush 8, 38, 8, 0, 0), (38, .iushr, 39, 0, 0, 0), (39, .iadd, 40, 0, 0, 0), (40, .istore_n 0, 41, 0, 0, 0), (41, .iload_n 0, 42, 0, 0, 0), (42, .iload_n 0, 43, 0, 0, 0), (43, .bipush 16, 45, 16, 0, 0), (45, .iushr, 46, 0, 0, 0), (46, .iadd, 47, 0, 0, 0), (47, .istore_n 0, 48, 0, 0, 0), (48, .iload_n 0, 49, 0, 0, 0), (49, .bipush 63, 51, 63, 0, 0), (51, .iand, 52, 0, 0, 0), (52, .ireturn, 53, 0, 0, 0)]
theorem pk_I_bitCount : okP m_I_bitCount.1.cls m_I_bitCount.2.1 p_I_bitCount := ⟨[], ct_I, (fun q h => absurd h List.not_mem_nil), ct_I_ok, by decide +kernel⟩
end
section
def p_V_become : List Rw := [(0, .aload_n 1, 1, 0, 0, 0), (1, .getfield 9, 4, 0, 6, 0), (4, .iconst 0, 5, 0, 0, 0), (5, .aload_n 0, 6, 0, 0, 0), (6, .getfield 9, 9, 0, 6, 0), (9, .iconst 0, 10, 0, 0, 0), (10, .bipush 10, 12, 10, 0, 0), (12, .invokestatic 49, 15, 0, 0, 0), (15, .aload_n 1, 16, 0, 0, 0), (16, .getfield 15, 19, 0, 6, 1), (19, .iconst 0, 20, 0, 0, 0), (20, .aload_n 0, 21, 0, 0, 0), (21, .getfield 15, 24, 0, 6, 1), (24, .iconst 0, 25, 0, 0, 0), (25, .bipush 10, 27, 10, 0, 0), (27, .invokestatic 49, 30, 0, 0, 0), (30, .aload_n 1, 31, 0, 0, 0), (31, .getfield 18, 34, 0, 6, 2), (34, .iconst 0, 35, 0, 0, 0), (35, .aload_n 0, 36, 0, 0, 0), (36, .getfield 18, 39, 0, 6, 2), (39, .iconst 0, 40, 0, 0, 0), (40, .bipush 10, 42, 10, 0, 0), (42, .invokestatic 49, 45, 0, 0, 0), (45, .aload_n 1, 46, 0, 0, 0), (46, .getfield 21, 49, 0, 6, 3), (49, .iconst 0, 50, 0, 0, 0), (50, .aload_n 0, 51, 0, 0, 0), (51, .getfield 21, 54, 0, 6, 3), (54, .iconst 0, 55, 0, 0, 0), (55, .bipush 10, 57, 10, 0, 0), (57, .invokestatic 49, 60, 0, 0, 0), (60, .aload_n 1, 61, 0, 0, 0), (61, .getfield 24, 64, 0, 6, 5), (64, .iconst 0, 65, 0, 0, 0), (65, .aload_n 0, 66, 0, 0, 0), (66, .getfield 24, 69, 0, 6, 5), (69, .iconst 0, 70, 0, 0, 0), (70, .bipush 6, 72, 6, 0, 0), (72, .invokestatic 49, 75, 0, 0, 0), (75, .aload_n 1, 76, 0, 0, 0), (76, .getfield 27, 79, 0, 6, 6), (79, .iconst 0, 80, 0, 0, 0), (80, .aload_n 0, 81, 0, 0, 0), (81, .getfield 27, 84, 0, 6, 6), (84, .iconst 0, 85, 0, 0, 0), (85, .bipush 6, 87, 6, 0, 0), (87, .invokestatic 49, 90, 0, 0, 0), (90, .aload_n 1, 91, 0, 0, 0), (91, .getfield 38, 94, 0, 6, 12), (94, .iconst 0, 95, 0, 0, 0), (95, .aload_n 0, 96, 0, 0, 0), (96, .getfield 38, 99, 0, 6, 12), (99, .iconst 0, 100, 0, 0, 0), (100, .iconst 3, 101, 3, 0, 0), (101, .invokestatic 49, 104, 0, 0, 0), (104, .aload_n 0, 105, 0, 0, 0), (105, .aload_n 1, 106, 0, 0, 0), (106, .getfield 55, 109, 0, 6, 4), (109, .putfield 55, 112, 0, 6, 4), (112, .aload_n 0, 113, 0, 0, 0), (113, .aload_n 1, 114, 0, 0, 0), (114, .getfield 58, 117, 0, 6, 7), (117, .putfield 58, 120, 0, 6, 7), (120, .aload_n 0, 121, 0, 0, 0), (121, .aload_n 1, 122, 0, 0, 0), (122, .getfield 30, 125, 0, 6, 8), (125, .putfield 30, 128, 0, 6, 8), (128, .aload_n 0, 129, 0, 0, 0), (129, .aload_n 1, 130, 0, 0, 0), (130, .getfield 61, 133, 0, 6, 9), (133, .putfield 61, 136, 0, 6, 9), (136, .aload_n 0, 137, 0, 0, 0), (137, .aload_n 1, 138, 0, 0, 0), (138, .getfield 34, 141, 0, 6, 10), (141, .putfield 34, 144, 0, 6, 10), (144, .aload_n 0, 145, 0, 0, 0), (145, .aload_n 1, 146, 0, 0, 0), (146, .getfield 64, 149, 0, 6, 11), (149, .putfield 64, 152, 0, 6, 11), (152, .aload_n 0, 153, 0, 0, 0), (153, .aload_n 1, 154, 0, 0, 0), (154, .getfield 43, 157, 0, 6, 13), (157, .putfield 43, 160, 0, 6, 13), (160, .return_, 161, 0, 0, 0)]
theorem pk_V_become : okP m_V_become.1.cls m_V_become.2.1 p_V_become := ⟨fl_V, ct_V, fl_V_ok, ct_V_ok, by decide +kernel⟩
def p_V_enter : List Rw := [(0, .aload_n 0, 1, 0, 0, 0), (1, .getfield 55, 4, 0, 6, 4), (4, .istore 4, 6, 0, 0, 0), (6, .aload_n 0, 7, 0, 0, 0), (7, .getfield 9, 10, 0, 6, 0), (10, .iload 4, 12, 0, 0, 0), (12, .iload_n 1, 13, 0, 0, 0), (13, .iastore, 14, 0, 0, 0), (14, .aload_n 0, 15, 0, 0, 0), (15, .getfield 15, 18, 0, 6, 1), (18, .iload 4, 20, 0, 0, 0), (20, .iload_n 2, 21, 0, 0, 0), (21, .iastore, 22, 0, 0, 0), (22, .aload_n 0, 23, 0, 0, 0), (23, .getfield 18, 26, 0, 6, 2), (26, .iload 4, 28, 0, 0, 0), (28, .iload_n 3, 29, 0, 0, 0), (29, .iastore, 30, 0, 0, 0), (30, .aload_n 0, 31, 0, 0, 0), (31, .getfield 21, 34, 0, 6, 3), (34, .iload 4, 36, 0, 0, 0), (36, .ldc 37, 38, -1000000005, 0, 0), (38, .iastore, 39, 0, 0, 0), (39, .aload_n 0, 40, 0, 0, 0), (40, .dup, 41, 0, 0, 0), (41, .getfield 55, 44, 0, 6, 4), (44, .iconst 1, 45, 1, 0, 0), (45, .iadd, 46, 0, 0, 0), (46, .putfield 55, 49, 0, 6, 4), (49, .iload 4, 51, 0, 0, 0), (51, .ireturn, 52, 0, 0, 0)]
theorem pk_V_enter : okP m_V_enter.1.cls m_V_enter.2.1 p_V_enter := ⟨fl_V, ct_V, fl_V_ok, ct_V_ok, by decide +kernel⟩
def p_V_wish : List Rw := [(0, .aload_n 0, 1, 0, 0, 0), (1, .getfield 58, 4, 0, 6, 7), (4, .istore_n 3, 5, 0, 0, 0), (5, .aload_n 0, 6, 0, 0, 0), (6, .getfield 24, 9, 0, 6, 5), (9, .iload_n 3, 10, 0, 0, 0), (10, .iload_n 1, 11, 0, 0, 0), (11, .iastore, 12, 0, 0, 0), (12, .aload_n 0, 13, 0, 0, 0), (13, .getfield 27, 16, 0, 6, 6), (16, .iload_n 3, 17, 0, 0, 0), (17, .iload_n 2, 18, 0, 0, 0), (18, .iastore, 19, 0, 0, 0), (19, .aload_n 0, 20, 0, 0, 0), (20, .dup, 21, 0, 0, 0), (21, .getfield 58, 24, 0, 6, 7), (24, .iconst 1, 25, 1, 0, 0), (25, .iadd, 26, 0, 0, 0), (26, .putfield 58, 29, 0, 6, 7), (29, .iload_n 3, 30, 0, 0, 0), (30, .ireturn, 31, 0, 0, 0)]
theorem pk_V_wish : okP m_V_wish.1.cls m_V_wish.2.1 p_V_wish := ⟨fl_V, ct_V, fl_V_ok, ct_V_ok, by decide +kernel⟩
def p_V_draw : List Rw := [(0, .aload_n 0, 1, 0, 0, 0), (1, .aload_n 0, 2, 0, 0, 0), (2, .getfield 34, 5, 0, 6, 10), (5, .ldc 67, 7, 1103515245, 0, 0), (7, .imul, 8, 0, 0, 0), (8, .sipush 12345, 11, 12345, 0, 0), (11, .iadd, 12, 0, 0, 0), (12, .putfield 34, 15, 0, 6, 10), (15, .aload_n 0, 16, 0, 0, 0), (16, .getfield 34, 19, 0, 6, 10), (19, .bipush 8, 21, 8, 0, 0), (21, .iushr, 22, 0, 0, 0), (22, .ireturn, 23, 0, 0, 0)]
theorem pk_V_draw : okP m_V_draw.1.cls m_V_draw.2.1 p_V_draw := ⟨fl_V, ct_V, fl_V_ok, ct_V_ok, by decide +kernel⟩
def p_V_drawPerson : List Rw := [(0, .aload_n 0, 1, 0, 0, 0), (1, .invokevirtual 68, 4, 0, 0, 0), (4, .bipush 6, 6, 6, 0, 0), (6, .irem, 7, 0, 0, 0), (7, .istore_n 1, 8, 0, 0, 0), (8, .aload_n 0, 9, 0, 0, 0), (9, .invokevirtual 68, 12, 0, 0, 0), (12, .bipush 125, 14, 125, 0, 0), (14, .irem, 15, 0, 0, 0), (15, .istore_n 2, 16, 0, 0, 0), (16, .aload_n 0, 17, 0, 0, 0), (17, .getfield 61, 20, 0, 6, 9), (20, .aload_n 0, 21, 0, 0, 0), (21, .invokevirtual 68, 24, 0, 0, 0), (24, .bipush 90, 26, 90, 0, 0), (26, .irem, 27, 0, 0, 0), (27, .isub, 28, 0, 0, 0), (28, .istore_n 3, 29, 0, 0, 0), (29, .aload_n 0, 30, 0, 0, 0), (30, .iload_n 1, 31, 0, 0, 0), (31, .iload_n 2, 32, 0, 0, 0), (32, .iload_n 3, 33, 0, 0, 0), (33, .invokevirtual 74, 36, 0, 0, 0), (36, .pop, 37, 0, 0, 0), (37, .return_, 38, 0, 0, 0)]
theorem pk_V_drawPerson : okP m_V_drawPerson.1.cls m_V_drawPerson.2.1 p_V_drawPerson := ⟨fl_V, ct_V, fl_V_ok, ct_V_ok, by decide +kernel⟩
def p_V_isAlive : List Rw := [(0, .aload_n 0, 1, 0, 0, 0), (1, .getfield 21, 4, 0, 6, 3), (4, .iload_n 1, 5, 0, 0, 0), (5, .iaload, 6, 0, 0, 0), (6, .ldc 37, 8, -1000000005, 0, 0), (8, .if_icmp .ne 7, 11, 0, 15, 0), (11, .iconst 1, 12, 1, 0, 0), (12, .goto 4, 15, 0, 16, 0), (15, .iconst 0, 16, 0, 0, 0), (16, .ireturn, 17, 0, 0, 0)]
theorem pk_V_isAlive : okP m_V_isAlive.1.cls m_V_isAlive.2.1 p_V_isAlive := ⟨fl_V, ct_V, fl_V_ok, ct_V_ok, by decide +kernel⟩
def p_V_countAlive : List Rw := [(0, .iconst 0, 1, 0, 0, 0), (1, .istore_n 1, 2, 0, 0, 0), (2, .iconst 0, 3, 0, 0, 0), (3, .istore_n 2, 4, 0, 0, 0), (4, .iload_n 2, 5, 0, 0, 0), (5, .aload_n 0, 6, 0, 0, 0), (6, .getfield 55, 9, 0, 6, 4), (9, .if_icmp .ge 20, 12, 0, 29, 0), (12, .aload_n 0, 13, 0, 0, 0), (13, .iload_n 2, 14, 0, 0, 0), (14, .invokevirtual 78, 17, 0, 0, 0), (17, .ifCond .eq 6, 20, 0, 23, 0), (20, .iinc 1 1, 23, 1, 0, 0), (23, .iinc 2 1, 26, 1, 0, 0), (26, .goto (-22), 29, 0, 4, 0), (29, .iload_n 1, 30, 0, 0, 0), (30, .ireturn, 31, 0, 0, 0)]
theorem pk_V_countAlive : okP m_V_countAlive.1.cls m_V_countAlive.2.1 p_V_countAlive := ⟨fl_V, ct_V, fl_V_ok, ct_V_ok, by decide +kernel⟩
def p_V_holdsIn : List Rw := [(0, .aload_n 0, 1, 0, 0, 0), (1, .getfield 9, 4, 0, 6, 0), (4, .iload_n 1, 5, 0, 0, 0), (5, .iaload, 6, 0, 0, 0), (6, .aload_n 0, 7, 0, 0, 0), (7, .getfield 18, 10, 0, 6, 2), (10, .iload_n 1, 11, 0, 0, 0), (11, .iaload, 12, 0, 0, 0), (12, .aload_n 0, 13, 0, 0, 0), (13, .getfield 21, 16, 0, 6, 3), (16, .iload_n 1, 17, 0, 0, 0), (17, .iaload, 18, 0, 0, 0), (18, .aload_n 0, 19, 0, 0, 0), (19, .getfield 30, 22, 0, 6, 8), (22, .iload_n 2, 23, 0, 0, 0), (23, .invokestatic 82, 26, 0, 0, 0), (26, .ireturn, 27, 0, 0, 0)]
theorem pk_V_holdsIn : okP m_V_holdsIn.1.cls m_V_holdsIn.2.1 p_V_holdsIn := ⟨fl_V, ct_V, fl_V_ok, ct_V_ok, by decide +kernel⟩
def p_V_areNear : List Rw := [(0, .aload_n 0, 1, 0, 0, 0), (1, .getfield 43, 4, 0, 6, 13), (4, .iload_n 1, 5, 0, 0, 0), (5, .iload_n 2, 6, 0, 0, 0), (6, .invokestatic 86, 9, 0, 0, 0), (9, .ishr, 10, 0, 0, 0), (10, .iconst 1, 11, 1, 0, 0), (11, .iand, 12, 0, 0, 0), (12, .ifCond .eq 7, 15, 0, 19, 0), (15, .iconst 1, 16, 1, 0, 0), (16, .goto 4, 19, 0, 20, 0), (19, .iconst 0, 20, 0, 0, 0), (20, .ireturn, 21, 0, 0, 0)]
theorem pk_V_areNear : okP m_V_areNear.1.cls m_V_areNear.2.1 p_V_areNear := ⟨fl_V, ct_V, fl_V_ok, ct_V_ok, by decide +kernel⟩
def p_V_gatherHeld : List Rw := [(0, .aload_n 0, 1, 0, 0, 0), (1, .iconst 0, 2, 0, 0, 0), (2, .putfield 90, 5, 0, 6, 15), (5, .iconst 0, 6, 0, 0, 0), (6, .istore_n 2, 7, 0, 0, 0), (7, .iload_n 2, 8, 0, 0, 0), (8, .aload_n 0, 9, 0, 0, 0), (9, .getfield 55, 12, 0, 6, 4), (12, .if_icmp .ge 43, 15, 0, 55, 0), (15, .aload_n 0, 16, 0, 0, 0), (16, .iload_n 2, 17, 0, 0, 0), (17, .iload_n 1, 18, 0, 0, 0), (18, .invokevirtual 93, 21, 0, 0, 0), (21, .ifCond .eq 28, 24, 0, 49, 0), (24, .aload_n 0, 25, 0, 0, 0), (25, .getfield 46, 28, 0, 6, 14), (28, .aload_n 0, 29, 0, 0, 0), (29, .getfield 90, 32, 0, 6, 15), (32, .aload_n 0, 33, 0, 0, 0), (33, .getfield 15, 36, 0, 6, 1), (36, .iload_n 2, 37, 0, 0, 0), (37, .iaload, 38, 0, 0, 0), (38, .iastore, 39, 0, 0, 0), (39, .aload_n 0, 40, 0, 0, 0), (40, .dup, 41, 0, 0, 0), (41, .getfield 90, 44, 0, 6, 15), (44, .iconst 1, 45, 1, 0, 0), (45, .iadd, 46, 0, 0, 0), (46, .putfield 90, 49, 0, 6, 15), (49, .iinc 2 1, 52, 1, 0, 0), (52, .goto (-45), 55, 0, 7, 0), (55, .return_, 56, 0, 0, 0)]
theorem pk_V_gatherHeld : okP m_V_gatherHeld.1.cls m_V_gatherHeld.2.1 p_V_gatherHeld := ⟨fl_V, ct_V, fl_V_ok, ct_V_ok, by decide +kernel⟩
def p_V_isClear : List Rw := [(0, .iconst 0, 1, 0, 0, 0), (1, .istore_n 2, 2, 0, 0, 0), (2, .iload_n 2, 3, 0, 0, 0), (3, .aload_n 0, 4, 0, 0, 0), (4, .getfield 90, 7, 0, 6, 15), (7, .if_icmp .ge 25, 10, 0, 32, 0), (10, .aload_n 0, 11, 0, 0, 0), (11, .iload_n 1, 12, 0, 0, 0), (12, .aload_n 0, 13, 0, 0, 0), (13, .getfield 46, 16, 0, 6, 14), (16, .iload_n 2, 17, 0, 0, 0), (17, .iaload, 18, 0, 0, 0), (18, .invokevirtual 96, 21, 0, 0, 0), (21, .ifCond .eq 5, 24, 0, 26, 0), (24, .iconst 0, 25, 0, 0, 0), (25, .ireturn, 26, 0, 0, 0), (26, .iinc 2 1, 29, 1, 0, 0), (29, .goto (-27), 32, 0, 2, 0), (32, .iconst 1, 33, 1, 0, 0), (33, .ireturn, 34, 0, 0, 0)]
theorem pk_V_isClear : okP m_V_isClear.1.cls m_V_isClear.2.1 p_V_isClear := ⟨fl_V, ct_V, fl_V_ok, ct_V_ok, by decide +kernel⟩
def p_V_countFree : List Rw := [(0, .aload_n 0, 1, 0, 0, 0), (1, .aload_n 0, 2, 0, 0, 0), (2, .getfield 61, 5, 0, 6, 9), (5, .invokevirtual 99, 8, 0, 0, 0), (8, .iconst 0, 9, 0, 0, 0), (9, .istore_n 1, 10, 0, 0, 0), (10, .iconst 0, 11, 0, 0, 0), (11, .istore_n 2, 12, 0, 0, 0), (12, .iload_n 2, 13, 0, 0, 0), (13, .bipush 125, 15, 125, 0, 0), (15, .if_icmp .ge 20, 18, 0, 35, 0), (18, .aload_n 0, 19, 0, 0, 0), (19, .iload_n 2, 20, 0, 0, 0), (20, .invokevirtual 103, 23, 0, 0, 0), (23, .ifCond .eq 6, 26, 0, 29, 0), (26, .iinc 1 1, 29, 1, 0, 0), (29, .iinc 2 1, 32, 1, 0, 0), (32, .goto (-20), 35, 0, 12, 0), (35, .iload_n 1, 36, 0, 0, 0), (36, .ireturn, 37, 0, 0, 0)]
theorem pk_V_countFree : okP m_V_countFree.1.cls m_V_countFree.2.1 p_V_countFree := ⟨fl_V, ct_V, fl_V_ok, ct_V_ok, by decide +kernel⟩
def p_V_leastFree : List Rw := [(0, .aload_n 0, 1, 0, 0, 0), (1, .aload_n 0, 2, 0, 0, 0), (2, .getfield 61, 5, 0, 6, 9), (5, .invokevirtual 99, 8, 0, 0, 0), (8, .iconst 0, 9, 0, 0, 0), (9, .istore_n 1, 10, 0, 0, 0), (10, .iload_n 1, 11, 0, 0, 0), (11, .bipush 125, 13, 125, 0, 0), (13, .if_icmp .ge 19, 16, 0, 32, 0), (16, .aload_n 0, 17, 0, 0, 0), (17, .iload_n 1, 18, 0, 0, 0), (18, .invokevirtual 103, 21, 0, 0, 0), (21, .ifCond .eq 5, 24, 0, 26, 0), (24, .iload_n 1, 25, 0, 0, 0), (25, .ireturn, 26, 0, 0, 0), (26, .iinc 1 1, 29, 1, 0, 0), (29, .goto (-19), 32, 0, 10, 0), (32, .ldc 37, 34, -1000000005, 0, 0), (34, .ireturn, 35, 0, 0, 0)]
theorem pk_V_leastFree : okP m_V_leastFree.1.cls m_V_leastFree.2.1 p_V_leastFree := ⟨fl_V, ct_V, fl_V_ok, ct_V_ok, by decide +kernel⟩
def p_V_passYear : List Rw := [(0, .iconst 0, 1, 0, 0, 0), (1, .istore_n 2, 2, 0, 0, 0), (2, .iconst 0, 3, 0, 0, 0), (3, .istore_n 3, 4, 0, 0, 0), (4, .iload_n 3, 5, 0, 0, 0), (5, .aload_n 0, 6, 0, 0, 0), (6, .getfield 55, 9, 0, 6, 4), (9, .if_icmp .ge 46, 12, 0, 55, 0), (12, .aload_n 0, 13, 0, 0, 0), (13, .iload_n 3, 14, 0, 0, 0), (14, .invokevirtual 78, 17, 0, 0, 0), (17, .ifCond .eq 32, 20, 0, 49, 0), (20, .aload_n 0, 21, 0, 0, 0), (21, .invokevirtual 68, 24, 0, 0, 0), (24, .bipush 100, 26, 100, 0, 0), (26, .irem, 27, 0, 0, 0), (27, .aload_n 0, 28, 0, 0, 0), (28, .iload_n 3, 29, 0, 0, 0), (29, .aload_n 1, 30, 0, 0, 0), (30, .invokevirtual 106, 33, 0, 0, 0), (33, .if_icmp .ge 16, 36, 0, 49, 0), (36, .aload_n 0, 37, 0, 0, 0), (37, .getfield 21, 40, 0, 6, 3), (40, .iload_n 3, 41, 0, 0, 0), (41, .aload_n 0, 42, 0, 0, 0), (42, .getfield 61, 45, 0, 6, 9), (45, .iastore, 46, 0, 0, 0), (46, .iinc 2 1, 49, 1, 0, 0), (49, .iinc 3 1, 52, 1, 0, 0), (52, .goto (-48), 55, 0, 4, 0), (55, .aload_n 0, 56, 0, 0, 0), (56, .dup, 57, 0, 0, 0), (57, .getfield 61, 60, 0, 6, 9), (60, .iconst 1, 61, 1, 0, 0), (61, .iadd, 62, 0, 0, 0), (62, .putfield 61, 65, 0, 6, 9), (65, .iload_n 2, 66, 0, 0, 0), (66, .ireturn, 67, 0, 0, 0)]
theorem pk_V_passYear : okP m_V_passYear.1.cls m_V_passYear.2.1 p_V_passYear := ⟨fl_V, ct_V, fl_V_ok, ct_V_ok, by decide +kernel⟩
def p_V_chanceToDie : List Rw := [(0, .aload_n 0, 1, 0, 0, 0), (1, .getfield 61, 4, 0, 6, 9), (4, .aload_n 0, 5, 0, 0, 0), (5, .getfield 18, 8, 0, 6, 2), (8, .iload_n 1, 9, 0, 0, 0), (9, .iaload, 10, 0, 0, 0), (10, .isub, 11, 0, 0, 0), (11, .istore_n 3, 12, 0, 0, 0), (12, .aload_n 0, 13, 0, 0, 0), (13, .getfield 38, 16, 0, 6, 12), (16, .iconst 1, 17, 1, 0, 0), (17, .iaload, 18, 0, 0, 0), (18, .istore 4, 20, 0, 0, 0), (20, .iload 4, 22, 0, 0, 0), (22, .ldc 37, 24, -1000000005, 0, 0), (24, .if_icmp .ne 9, 27, 0, 33, 0), (27, .iload_n 3, 28, 0, 0, 0), (28, .iconst 2, 29, 2, 0, 0), (29, .idiv, 30, 0, 0, 0), (30, .goto 17, 33, 0, 47, 0), (33, .aload_n 2, 34, 0, 0, 0), (34, .iload 4, 36, 0, 0, 0), (36, .iload_n 3, 37, 0, 0, 0), (37, .aload_n 0, 38, 0, 0, 0), (38, .getfield 9, 41, 0, 6, 0), (41, .iload_n 1, 42, 0, 0, 0), (42, .iaload, 43, 0, 0, 0), (43, .iconst 0, 44, 0, 0, 0), (44, .invokevirtual 110, 47, 0, 0, 0), (47, .istore 5, 49, 0, 0, 0), (49, .iconst 0, 50, 0, 0, 0), (50, .bipush 100, 52, 100, 0, 0), (52, .iload 5, 54, 0, 0, 0), (54, .invokestatic 116, 57, 0, 0, 0), (57, .invokestatic 121, 60, 0, 0, 0), (60, .ireturn, 61, 0, 0, 0)]
theorem pk_V_chanceToDie : okP m_V_chanceToDie.1.cls m_V_chanceToDie.2.1 p_V_chanceToDie := ⟨fl_V, ct_V, fl_V_ok, ct_V_ok, by decide +kernel⟩
def p_V_takeText : List Rw := [(0, .aload_n 0, 1, 0, 0, 0), (1, .getfield 64, 4, 0, 6, 11), (4, .istore_n 3, 5, 0, 0, 0), (5, .aload_n 0, 6, 0, 0, 0), (6, .getfield 38, 9, 0, 6, 12), (9, .iload_n 1, 10, 0, 0, 0), (10, .iload_n 3, 11, 0, 0, 0), (11, .iastore, 12, 0, 0, 0), (12, .aload_n 0, 13, 0, 0, 0), (13, .dup, 14, 0, 0, 0), (14, .getfield 64, 17, 0, 6, 11), (17, .iconst 1, 18, 1, 0, 0), (18, .iadd, 19, 0, 0, 0), (19, .putfield 64, 22, 0, 6, 11), (22, .iload_n 1, 23, 0, 0, 0), (23, .ifCond .ne 8, 26, 0, 31, 0), (26, .aload_n 0, 27, 0, 0, 0), (27, .aload_n 2, 28, 0, 0, 0), (28, .invokevirtual 124, 31, 0, 0, 0), (31, .iload_n 3, 32, 0, 0, 0), (32, .ireturn, 33, 0, 0, 0)]
theorem pk_V_takeText : okP m_V_takeText.1.cls m_V_takeText.2.1 p_V_takeText := ⟨fl_V, ct_V, fl_V_ok, ct_V_ok, by decide +kernel⟩
def p_V_findNearWays : List Rw := [(0, .aload_n 0, 1, 0, 0, 0), (1, .iconst 0, 2, 0, 0, 0), (2, .putfield 43, 5, 0, 6, 13), (5, .iconst 0, 6, 0, 0, 0), (6, .istore_n 2, 7, 0, 0, 0), (7, .iload_n 2, 8, 0, 0, 0), (8, .bipush 7, 10, 7, 0, 0), (10, .if_icmp .gt 72, 13, 0, 82, 0), (13, .iload_n 2, 14, 0, 0, 0), (14, .iconst 1, 15, 1, 0, 0), (15, .iand, 16, 0, 0, 0), (16, .ifCond .eq 7, 19, 0, 23, 0), (19, .iconst 1, 20, 1, 0, 0), (20, .goto 4, 23, 0, 24, 0), (23, .iconst 0, 24, 0, 0, 0), (24, .invokestatic 128, 27, 0, 0, 0), (27, .istore_n 3, 28, 0, 0, 0), (28, .iload_n 2, 29, 0, 0, 0), (29, .iconst 4, 30, 4, 0, 0), (30, .iand, 31, 0, 0, 0), (31, .ifCond .eq 7, 34, 0, 38, 0), (34, .iconst 1, 35, 1, 0, 0), (35, .goto 4, 38, 0, 39, 0), (38, .iconst 0, 39, 0, 0, 0), (39, .invokestatic 128, 42, 0, 0, 0), (42, .istore 4, 44, 0, 0, 0), (44, .aload_n 1, 45, 0, 0, 0), (45, .aload_n 0, 46, 0, 0, 0), (46, .getfield 38, 49, 0, 6, 12), (49, .iconst 0, 50, 0, 0, 0), (50, .iaload, 51, 0, 0, 0), (51, .iload_n 2, 52, 0, 0, 0), (52, .invokestatic 132, 55, 0, 0, 0), (55, .iload_n 3, 56, 0, 0, 0), (56, .iload 4, 58, 0, 0, 0), (58, .invokevirtual 110, 61, 0, 0, 0), (61, .ifCond .eq 15, 64, 0, 76, 0), (64, .aload_n 0, 65, 0, 0, 0), (65, .dup, 66, 0, 0, 0), (66, .getfield 43, 69, 0, 6, 13), (69, .iconst 1, 70, 1, 0, 0), (70, .iload_n 2, 71, 0, 0, 0), (71, .ishl, 72, 0, 0, 0), (72, .ior, 73, 0, 0, 0), (73, .putfield 43, 76, 0, 6, 13), (76, .iinc 2 1, 79, 1, 0, 0), (79, .goto (-72), 82, 0, 7, 0), (82, .return_, 83, 0, 0, 0)]
theorem pk_V_findNearWays : okP m_V_findNearWays.1.cls m_V_findNearWays.2.1 p_V_findNearWays := ⟨fl_V, ct_V, fl_V_ok, ct_V_ok, by decide +kernel⟩
end
section
def p_P_takeFour : List Rw := [(0, .bipush 24, 2, 24, 0, 0), (2, .istore_n 2, 3, 0, 0, 0), (3, .iload_n 2, 4, 0, 0, 0), (4, .ifCond .lt 47, 7, 0, 51, 0), (7, .aload_n 0, 8, 0, 0, 0), (8, .getfield 22, 11, 0, 4, 1), (11, .aload_n 0, 12, 0, 0, 0), (12, .getfield 9, 15, 0, 4, 0), (15, .arraylength, 16, 0, 0, 0), (16, .if_icmp .ge 35, 19, 0, 51, 0), (19, .aload_n 0, 20, 0, 0, 0), (20, .getfield 9, 23, 0, 4, 0), (23, .aload_n 0, 24, 0, 0, 0), (24, .getfield 22, 27, 0, 4, 1), (27, .iload_n 1, 28, 0, 0, 0), (28, .iload_n 2, 29, 0, 0, 0), (29, .iushr, 30, 0, 0, 0), (30, .sipush 255, 33, 255, 0, 0), (33, .iand, 34, 0, 0, 0), (34, .iastore, 35, 0, 0, 0), (35, .aload_n 0, 36, 0, 0, 0), (36, .dup, 37, 0, 0, 0), (37, .getfield 22, 40, 0, 4, 1), (40, .iconst 1, 41, 1, 0, 0), (41, .iadd, 42, 0, 0, 0), (42, .putfield 22, 45, 0, 4, 1), (45, .iinc 2 (-8), 48, -8, 0, 0), (48, .goto (-45), 51, 0, 3, 0), (51, .return_, 52, 0, 0, 0)]
theorem pk_P_takeFour : okP m_P_takeFour.1.cls m_P_takeFour.2.1 p_P_takeFour := ⟨fl_P, ct_P, fl_P_ok, ct_P_ok, by decide +kernel⟩
def p_P_readText : List Rw := [(0, .aload_n 0, 1, 0, 0, 0), (1, .iconst 0, 2, 0, 0, 0), (2, .putfield 26, 5, 0, 4, 3), (5, .aload_n 0, 6, 0, 0, 0), (6, .iconst 0, 7, 0, 0, 0), (7, .putfield 29, 10, 0, 4, 4), (10, .aload_n 0, 11, 0, 0, 0), (11, .invokevirtual 32, 14, 0, 0, 0), (14, .aload_n 0, 15, 0, 0, 0), (15, .invokevirtual 35, 18, 0, 0, 0), (18, .istore_n 1, 19, 0, 0, 0), (19, .iload_n 1, 20, 0, 0, 0), (20, .ifCond .ge 5, 23, 0, 25, 0), (23, .iconst 0, 24, 0, 0, 0), (24, .ireturn, 25, 0, 0, 0), (25, .aload_n 0, 26, 0, 0, 0), (26, .getfield 18, 29, 0, 4, 5), (29, .iload_n 1, 30, 0, 0, 0), (30, .invokevirtual 39, 33, 0, 0, 0), (33, .aload_n 0, 34, 0, 0, 0), (34, .invokevirtual 32, 37, 0, 0, 0), (37, .aload_n 0, 38, 0, 0, 0), (38, .iconst 0, 39, 0, 0, 0), (39, .iconst 0, 40, 0, 0, 0), (40, .iconst 0, 41, 0, 0, 0), (41, .invokevirtual 43, 44, 0, 0, 0), (44, .ifCond .eq 14, 47, 0, 58, 0), (47, .aload_n 0, 48, 0, 0, 0), (48, .getfield 29, 51, 0, 4, 4), (51, .ifCond .ne 7, 54, 0, 58, 0), (54, .iconst 1, 55, 1, 0, 0), (55, .goto 4, 58, 0, 59, 0), (58, .iconst 0, 59, 0, 0, 0), (59, .ireturn, 60, 0, 0, 0)]
theorem pk_P_readText : okP m_P_readText.1.cls m_P_readText.2.1 p_P_readText := ⟨fl_P, ct_P, fl_P_ok, ct_P_ok, by decide +kernel⟩
def p_P_advance : List Rw := [(0, .aload_n 0, 1, 0, 0, 0), (1, .getfield 29, 4, 0, 4, 4), (4, .iconst 1, 5, 1, 0, 0), (5, .if_icmp .eq 11, 8, 0, 16, 0), (8, .aload_n 0, 9, 0, 0, 0), (9, .getfield 29, 12, 0, 4, 4), (12, .iconst 2, 13, 2, 0, 0), (13, .if_icmp .ne 7, 16, 0, 20, 0), (16, .iconst 1, 17, 1, 0, 0), (17, .goto 4, 20, 0, 21, 0), (20, .iconst 0, 21, 0, 0, 0), (21, .istore_n 1, 22, 0, 0, 0), (22, .aload_n 0, 23, 0, 0, 0), (23, .getfield 26, 26, 0, 4, 3), (26, .istore_n 2, 27, 0, 0, 0), (27, .aload_n 0, 28, 0, 0, 0), (28, .aload_n 0, 29, 0, 0, 0), (29, .getfield 26, 32, 0, 4, 3), (32, .putfield 47, 35, 0, 4, 2), (35, .aload_n 0, 36, 0, 0, 0), (36, .getfield 47, 39, 0, 4, 2), (39, .aload_n 0, 40, 0, 0, 0), (40, .getfield 22, 43, 0, 4, 1), (43, .if_icmp .ge 30, 46, 0, 73, 0), (46, .aload_n 0, 47, 0, 0, 0), (47, .getfield 9, 50, 0, 4, 0), (50, .aload_n 0, 51, 0, 0, 0), (51, .getfield 47, 54, 0, 4, 2), (54, .iaload, 55, 0, 0, 0), (55, .bipush 32, 57, 32, 0, 0), (57, .if_icmp .ne 16, 60, 0, 73, 0), (60, .aload_n 0, 61, 0, 0, 0), (61, .dup, 62, 0, 0, 0), (62, .getfield 47, 65, 0, 4, 2), (65, .iconst 1, 66, 1, 0, 0), (66, .iadd, 67, 0, 0, 0), (67, .putfield 47, 70, 0, 4, 2), (70, .goto (-35), 73, 0, 35, 0), (73, .aload_n 0, 74, 0, 0, 0), (74, .getfield 47, 77, 0, 4, 2), (77, .aload_n 0, 78, 0, 0, 0), (78, .getfield 22, 81, 0, 4, 1), (81, .if_icmp .lt 17, 84, 0, 98, 0), (84, .aload_n 0, 85, 0, 0, 0), (85, .aload_n 0, 86, 0, 0, 0), (86, .getfield 22, 89, 0, 4, 1), (89, .putfield 26, 92, 0, 4, 3), (92, .aload_n 0, 93, 0, 0, 0), (93, .iconst 0, 94, 0, 0, 0), (94, .putfield 29, 97, 0, 4, 4), (97, .return_, 98, 0, 0, 0), (98, .aload_n 0, 99, 0, 0, 0), (99, .aload_n 0, 100, 0, 0, 0), (100, .getfield 9, 103, 0, 4, 0), (103, .aload_n 0, 104, 0, 0, 0), (104, .getfield 47, 107, 0, 4, 2), (107, .iaload, 108, 0, 0, 0), (108, .invokestatic 50, 111, 0, 0, 0), (111, .putfield 29, 114, 0, 4, 4), (114, .aload_n 0, 115, 0, 0, 0), (115, .aload_n 0, 116, 0, 0, 0), (116, .getfield 47, 119, 0, 4, 2), (119, .iconst 1, 120, 1, 0, 0), (120, .iadd, 121, 0, 0, 0), (121, .putfield 26, 124, 0, 4, 3), (124, .aload_n 0, 125, 0, 0, 0), (125, .getfield 29, 128, 0, 4, 4), (128, .iconst 3, 129, 3, 0, 0), (129, .if_icmp .eq 46, 132, 0, 175, 0), (132, .aload_n 0, 133, 0, 0, 0), (133, .getfield 26, 136, 0, 4, 3), (136, .aload_n 0, 137, 0, 0, 0), (137, .getfield 22, 140, 0, 4, 1), (140, .if_icmp .ge 35, 143, 0, 175, 0), (143, .aload_n 0, 144, 0, 0, 0), (144, .getfield 9, 147, 0, 4, 0), (147, .aload_n 0, 148, 0, 0, 0), (148, .getfield 26, 151, 0, 4, 3), (151, .iaload, 152, 0, 0, 0), (152, .invokestatic 50, 155, 0, 0, 0), (155, .aload_n 0, 156, 0, 0, 0), (156, .getfield 29, 159, 0, 4, 4), (159, .if_icmp .ne 16, 162, 0, 175, 0), (162, .aload_n 0, 163, 0, 0, 0), (163, .dup, 164, 0, 0, 0), (164, .getfield 26, 167, 0, 4, 3), (167, .iconst 1, 168, 1, 0, 0), (168, .iadd, 169, 0, 0, 0), (169, .putfield 26, 172, 0, 4, 3), (172, .goto (-48), 175, 0, 124, 0), (175, .iload_n 1, 176, 0, 0, 0), (176, .ifCond .eq 24, 179, 0, 200, 0), (179, .aload_n 0, 180, 0, 0, 0), (180, .getfield 29, 183, 0, 4, 4), (183, .iconst 3, 184, 3, 0, 0), (184, .if_icmp .eq 16, 187, 0, 200, 0), (187, .aload_n 0, 188, 0, 0, 0), (188, .getfield 47, 191, 0, 4, 2), (191, .iload_n 2, 192, 0, 0, 0), (192, .if_icmp .ne 8, 195, 0, 200, 0), (195, .aload_n 0, 196, 0, 0, 0), (196, .iconst 4, 197, 4, 0, 0), (197, .putfield 29, 200, 0, 4, 4), (200, .return_, 201, 0, 0, 0)]
theorem pk_P_advance : okP m_P_advance.1.cls m_P_advance.2.1 p_P_advance := ⟨fl_P, ct_P, fl_P_ok, ct_P_ok, by decide +kernel⟩
def p_P_sortOf : List Rw := [(0, .iload_n 0, 1, 0, 0, 0), (1, .bipush 97, 3, 97, 0, 0), (3, .if_icmp .lt 11, 6, 0, 14, 0), (6, .iload_n 0, 7, 0, 0, 0), (7, .bipush 122, 9, 122, 0, 0), (9, .if_icmp .gt 5, 12, 0, 14, 0), (12, .iconst 1, 13, 1, 0, 0), (13, .ireturn, 14, 0, 0, 0), (14, .iload_n 0, 15, 0, 0, 0), (15, .bipush 48, 17, 48, 0, 0), (17, .if_icmp .lt 13, 20, 0, 30, 0), (20, .iload_n 0, 21, 0, 0, 0), (21, .bipush 57, 23, 57, 0, 0), (23, .if_icmp .gt 7, 26, 0, 30, 0), (26, .iconst 2, 27, 2, 0, 0), (27, .goto 4, 30, 0, 31, 0), (30, .iconst 3, 31, 3, 0, 0), (31, .ireturn, 32, 0, 0, 0)]
theorem pk_P_sortOf : okP m_P_sortOf.1.cls m_P_sortOf.2.1 p_P_sortOf := ⟨fl_P, ct_P, fl_P_ok, ct_P_ok, by decide +kernel⟩
def p_P_keyAtHand : List Rw := [(0, .aload_n 0, 1, 0, 0, 0), (1, .getfield 29, 4, 0, 4, 4), (4, .iconst 1, 5, 1, 0, 0), (5, .if_icmp .ne 16, 8, 0, 21, 0), (8, .aload_n 0, 9, 0, 0, 0), (9, .getfield 26, 12, 0, 4, 3), (12, .aload_n 0, 13, 0, 0, 0), (13, .getfield 47, 16, 0, 4, 2), (16, .isub, 17, 0, 0, 0), (17, .iconst 4, 18, 4, 0, 0), (18, .if_icmp .eq 5, 21, 0, 23, 0), (21, .iconst (-1), 22, -1, 0, 0), (22, .ireturn, 23, 0, 0, 0), (23, .iconst 0, 24, 0, 0, 0), (24, .istore_n 1, 25, 0, 0, 0), (25, .iload_n 1, 26, 0, 0, 0), (26, .iconst 3, 27, 3, 0, 0), (27, .if_icmp .ge 21, 30, 0, 48, 0), (30, .aload_n 0, 31, 0, 0, 0), (31, .iload_n 1, 32, 0, 0, 0), (32, .iconst 4, 33, 4, 0, 0), (33, .imul, 34, 0, 0, 0), (34, .invokevirtual 54, 37, 0, 0, 0), (37, .ifCond .eq 5, 40, 0, 42, 0), (40, .iload_n 1, 41, 0, 0, 0), (41, .ireturn, 42, 0, 0, 0), (42, .iinc 1 1, 45, 1, 0, 0), (45, .goto (-20), 48, 0, 25, 0), (48, .iconst (-1), 49, -1, 0, 0), (49, .ireturn, 50, 0, 0, 0)]
theorem pk_P_keyAtHand : okP m_P_keyAtHand.1.cls m_P_keyAtHand.2.1 p_P_keyAtHand := ⟨fl_P, ct_P, fl_P_ok, ct_P_ok, by decide +kernel⟩
def p_P_isKeyWord : List Rw := [(0, .iconst 0, 1, 0, 0, 0), (1, .istore_n 2, 2, 0, 0, 0), (2, .iload_n 2, 3, 0, 0, 0), (3, .iconst 4, 4, 4, 0, 0), (4, .if_icmp .ge 33, 7, 0, 37, 0), (7, .ldc 58, 9, 0, 1, 0), (9, .iload_n 1, 10, 0, 0, 0), (10, .iload_n 2, 11, 0, 0, 0), (11, .iadd, 12, 0, 0, 0), (12, .invokevirtual 60, 15, 0, 0, 0), (15, .aload_n 0, 16, 0, 0, 0), (16, .getfield 9, 19, 0, 4, 0), (19, .aload_n 0, 20, 0, 0, 0), (20, .getfield 47, 23, 0, 4, 2), (23, .iload_n 2, 24, 0, 0, 0), (24, .iadd, 25, 0, 0, 0), (25, .iaload, 26, 0, 0, 0), (26, .if_icmp .eq 5, 29, 0, 31, 0), (29, .iconst 0, 30, 0, 0, 0), (30, .ireturn, 31, 0, 0, 0), (31, .iinc 2 1, 34, 1, 0, 0), (34, .goto (-32), 37, 0, 2, 0), (37, .iconst 1, 38, 1, 0, 0), (38, .ireturn, 39, 0, 0, 0)]
theorem pk_P_isKeyWord : okP m_P_isKeyWord.1.cls m_P_isKeyWord.2.1 p_P_isKeyWord := ⟨fl_P, ct_P, fl_P_ok, ct_P_ok, by decide +kernel⟩
def p_P_readLevel : List Rw := [(0, .iload_n 1, 1, 0, 0, 0), (1, .iconst 5, 2, 5, 0, 0), (2, .if_icmp .lt 10, 5, 0, 12, 0), (5, .aload_n 0, 6, 0, 0, 0), (6, .iload_n 2, 7, 0, 0, 0), (7, .iload_n 3, 8, 0, 0, 0), (8, .invokevirtual 66, 11, 0, 0, 0), (11, .ireturn, 12, 0, 0, 0), (12, .aload_n 0, 13, 0, 0, 0), (13, .iload_n 1, 14, 0, 0, 0), (14, .iconst 1, 15, 1, 0, 0), (15, .iadd, 16, 0, 0, 0), (16, .iload_n 2, 17, 0, 0, 0), (17, .iload_n 3, 18, 0, 0, 0), (18, .invokevirtual 43, 21, 0, 0, 0), (21, .ifCond .ne 5, 24, 0, 26, 0), (24, .iconst 0, 25, 0, 0, 0), (25, .ireturn, 26, 0, 0, 0), (26, .iload_n 1, 27, 0, 0, 0), (27, .iconst 2, 28, 2, 0, 0), (28, .if_icmp .ne 7, 31, 0, 35, 0), (31, .iconst 1, 32, 1, 0, 0), (32, .goto 5, 35, 0, 37, 0), (35, .bipush 96, 37, 96, 0, 0), (37, .istore 4, 39, 0, 0, 0), (39, .iconst 0, 40, 0, 0, 0), (40, .istore 5, 42, 0, 0, 0), (42, .iload 5, 44, 0, 0, 0), (44, .iload 4, 46, 0, 0, 0), (46, .if_icmp .ge 55, 49, 0, 101, 0), (49, .aload_n 0, 50, 0, 0, 0), (50, .iload_n 1, 51, 0, 0, 0), (51, .invokevirtual 70, 54, 0, 0, 0), (54, .ifCond .eq 47, 57, 0, 101, 0), (57, .aload_n 0, 58, 0, 0, 0), (58, .getfield 9, 61, 0, 4, 0), (61, .aload_n 0, 62, 0, 0, 0), (62, .getfield 47, 65, 0, 4, 2), (65, .iaload, 66, 0, 0, 0), (66, .istore 6, 68, 0, 0, 0), (68, .aload_n 0, 69, 0, 0, 0), (69, .invokevirtual 32, 72, 0, 0, 0), (72, .aload_n 0, 73, 0, 0, 0), (73, .iload_n 1, 74, 0, 0, 0), (74, .iconst 1, 75, 1, 0, 0), (75, .iadd, 76, 0, 0, 0), (76, .iload_n 2, 77, 0, 0, 0), (77, .iload_n 3, 78, 0, 0, 0), (78, .invokevirtual 43, 81, 0, 0, 0), (81, .ifCond .ne 5, 84, 0, 86, 0), (84, .iconst 0, 85, 0, 0, 0), (85, .ireturn, 86, 0, 0, 0), (86, .aload_n 0, 87, 0, 0, 0), (87, .getfield 18, 90, 0, 4, 5), (90, .iload 6, 92, 0, 0, 0), (92, .invokevirtual 73, 95, 0, 0, 0), (95, .iinc 5 1, 98, 1, 0, 0), (98, .goto (-56), 101, 0, 42, 0), (101, .iconst 1, 102, 1, 0, 0), (102, .ireturn, 103, 0, 0, 0)]
theorem pk_P_readLevel : okP m_P_readLevel.1.cls m_P_readLevel.2.1 p_P_readLevel := ⟨fl_P, ct_P, fl_P_ok, ct_P_ok, by decide +kernel⟩
def p_P_signOfLevel : List Rw := [(0, .iload_n 1, 1, 0, 0, 0), (1, .tableswitch 102 0 3 #[31, 38, 45, 78], 32, 0, 0, 0), (32, .aload_n 0, 33, 0, 0, 0), (33, .bipush 124, 35, 124, 0, 0), (35, .invokevirtual 76, 38, 0, 0, 0), (38, .ireturn, 39, 0, 0, 0), (39, .aload_n 0, 40, 0, 0, 0), (40, .bipush 38, 42, 38, 0, 0), (42, .invokevirtual 76, 45, 0, 0, 0), (45, .ireturn, 46, 0, 0, 0), (46, .aload_n 0, 47, 0, 0, 0), (47, .bipush 60, 49, 60, 0, 0), (49, .invokevirtual 76, 52, 0, 0, 0), (52, .ifCond .ne 21, 55, 0, 73, 0), (55, .aload_n 0, 56, 0, 0, 0), (56, .bipush 61, 58, 61, 0, 0), (58, .invokevirtual 76, 61, 0, 0, 0), (61, .ifCond .ne 12, 64, 0, 73, 0), (64, .aload_n 0, 65, 0, 0, 0), (65, .bipush 62, 67, 62, 0, 0), (67, .invokevirtual 76, 70, 0, 0, 0), (70, .ifCond .eq 7, 73, 0, 77, 0), (73, .iconst 1, 74, 1, 0, 0), (74, .goto 4, 77, 0, 78, 0), (77, .iconst 0, 78, 0, 0, 0), (78, .ireturn, 79, 0, 0, 0), (79, .aload_n 0, 80, 0, 0, 0), (80, .bipush 43, 82, 43, 0, 0), (82, .invokevirtual 76, 85, 0, 0, 0), (85, .ifCond .ne 12, 88, 0, 97, 0), (88, .aload_n 0, 89, 0, 0, 0), (89, .bipush 45, 91, 45, 0, 0), (91, .invokevirtual 76, 94, 0, 0, 0), (94, .ifCond .eq 7, 97, 0, 101, 0), (97, .iconst 1, 98, 1, 0, 0), (98, .goto 4, 101, 0, 102, 0), (101, .iconst 0, 102, 0, 0, 0), (102, .ireturn, 103, 0, 0, 0), (103, .aload_n 0, 104, 0, 0, 0), (104, .bipush 42, 106, 42, 0, 0), (106, .invokevirtual 76, 109, 0, 0, 0), (109, .ifCond .ne 12, 112, 0, 121, 0), (112, .aload_n 0, 113, 0, 0, 0), (113, .bipush 47, 115, 47, 0, 0), (115, .invokevirtual 76, 118, 0, 0, 0), (118, .ifCond .eq 7, 121, 0, 125, 0), (121, .iconst 1, 122, 1, 0, 0), (122, .goto 4, 125, 0, 126, 0), (125, .iconst 0, 126, 0, 0, 0), (126, .ireturn, 127, 0, 0, 0)]
theorem pk_P_signOfLevel : okP m_P_signOfLevel.1.cls m_P_signOfLevel.2.1 p_P_signOfLevel := ⟨fl_P, ct_P, fl_P_ok, ct_P_ok, by decide +kernel⟩
def p_P_atHand : List Rw := [(0, .aload_n 0, 1, 0, 0, 0), (1, .getfield 29, 4, 0, 4, 4), (4, .iconst 3, 5, 3, 0, 0), (5, .if_icmp .ne 31, 8, 0, 36, 0), (8, .aload_n 0, 9, 0, 0, 0), (9, .getfield 47, 12, 0, 4, 2), (12, .aload_n 0, 13, 0, 0, 0), (13, .getfield 22, 16, 0, 4, 1), (16, .if_icmp .ge 20, 19, 0, 36, 0), (19, .aload_n 0, 20, 0, 0, 0), (20, .getfield 9, 23, 0, 4, 0), (23, .aload_n 0, 24, 0, 0, 0), (24, .getfield 47, 27, 0, 4, 2), (27, .iaload, 28, 0, 0, 0), (28, .iload_n 1, 29, 0, 0, 0), (29, .if_icmp .ne 7, 32, 0, 36, 0), (32, .iconst 1, 33, 1, 0, 0), (33, .goto 4, 36, 0, 37, 0), (36, .iconst 0, 37, 0, 0, 0), (37, .ireturn, 38, 0, 0, 0)]
theorem pk_P_atHand : okP m_P_atHand.1.cls m_P_atHand.2.1 p_P_atHand := ⟨fl_P, ct_P, fl_P_ok, ct_P_ok, by decide +kernel⟩
def p_P_readPiece : List Rw := [(0, .aload_n 0, 1, 0, 0, 0), (1, .getfield 29, 4, 0, 4, 4), (4, .iconst 2, 5, 2, 0, 0), (5, .if_icmp .eq 11, 8, 0, 16, 0), (8, .aload_n 0, 9, 0, 0, 0), (9, .getfield 29, 12, 0, 4, 4), (12, .iconst 1, 13, 1, 0, 0), (13, .if_icmp .ne 8, 16, 0, 21, 0), (16, .aload_n 0, 17, 0, 0, 0), (17, .invokevirtual 80, 20, 0, 0, 0), (20, .ireturn, 21, 0, 0, 0), (21, .aload_n 0, 22, 0, 0, 0), (22, .bipush 33, 24, 33, 0, 0), (24, .invokevirtual 76, 27, 0, 0, 0), (27, .ifCond .eq 37, 30, 0, 64, 0), (30, .iload_n 2, 31, 0, 0, 0), (31, .bipush 8, 33, 8, 0, 0), (33, .if_icmp .ge 31, 36, 0, 64, 0), (36, .aload_n 0, 37, 0, 0, 0), (37, .invokevirtual 32, 40, 0, 0, 0), (40, .aload_n 0, 41, 0, 0, 0), (41, .iload_n 1, 42, 0, 0, 0), (42, .iload_n 2, 43, 0, 0, 0), (43, .iconst 1, 44, 1, 0, 0), (44, .iadd, 45, 0, 0, 0), (45, .invokevirtual 66, 48, 0, 0, 0), (48, .ifCond .ne 5, 51, 0, 53, 0), (51, .iconst 0, 52, 0, 0, 0), (52, .ireturn, 53, 0, 0, 0), (53, .aload_n 0, 54, 0, 0, 0), (54, .getfield 18, 57, 0, 4, 5), (57, .bipush 33, 59, 33, 0, 0), (59, .invokevirtual 73, 62, 0, 0, 0), (62, .iconst 1, 63, 1, 0, 0), (63, .ireturn, 64, 0, 0, 0), (64, .aload_n 0, 65, 0, 0, 0), (65, .bipush 40, 67, 40, 0, 0), (67, .invokevirtual 76, 70, 0, 0, 0), (70, .ifCond .eq 42, 73, 0, 112, 0), (73, .iload_n 1, 74, 0, 0, 0), (74, .bipush 8, 76, 8, 0, 0), (76, .if_icmp .ge 36, 79, 0, 112, 0), (79, .aload_n 0, 80, 0, 0, 0), (80, .invokevirtual 32, 83, 0, 0, 0), (83, .aload_n 0, 84, 0, 0, 0), (84, .iconst 0, 85, 0, 0, 0), (85, .iload_n 1, 86, 0, 0, 0), (86, .iconst 1, 87, 1, 0, 0), (87, .iadd, 88, 0, 0, 0), (88, .iload_n 2, 89, 0, 0, 0), (89, .invokevirtual 43, 92, 0, 0, 0), (92, .ifCond .eq 12, 95, 0, 104, 0), (95, .aload_n 0, 96, 0, 0, 0), (96, .bipush 41, 98, 41, 0, 0), (98, .invokevirtual 76, 101, 0, 0, 0), (101, .ifCond .ne 5, 104, 0, 106, 0), (104, .iconst 0, 105, 0, 0, 0), (105, .ireturn, 106, 0, 0, 0), (106, .aload_n 0, 107, 0, 0, 0), (107, .invokevirtual 32, 110, 0, 0, 0), (110, .iconst 1, 111, 1, 0, 0), (111, .ireturn, 112, 0, 0, 0), (112, .iconst 0, 113, 0, 0, 0), (113, .ireturn, 114, 0, 0, 0)]
theorem pk_P_readPiece : okP m_P_readPiece.1.cls m_P_readPiece.2.1 p_P_readPiece := ⟨fl_P, ct_P, fl_P_ok, ct_P_ok, by decide +kernel⟩
def p_P_readLeaf : List Rw := [(0, .aload_n 0, 1, 0, 0, 0), (1, .getfield 29, 4, 0, 4, 4), (4, .iconst 2, 5, 2, 0, 0), (5, .if_icmp .ne 10, 8, 0, 15, 0), (8, .aload_n 0, 9, 0, 0, 0), (9, .invokevirtual 84, 12, 0, 0, 0), (12, .goto 7, 15, 0, 19, 0), (15, .aload_n 0, 16, 0, 0, 0), (16, .invokevirtual 87, 19, 0, 0, 0), (19, .istore_n 1, 20, 0, 0, 0), (20, .iload_n 1, 21, 0, 0, 0), (21, .ifCond .ge 5, 24, 0, 26, 0), (24, .iconst 0, 25, 0, 0, 0), (25, .ireturn, 26, 0, 0, 0), (26, .aload_n 0, 27, 0, 0, 0), (27, .getfield 18, 30, 0, 4, 5), (30, .iload_n 1, 31, 0, 0, 0), (31, .invokevirtual 90, 34, 0, 0, 0), (34, .aload_n 0, 35, 0, 0, 0), (35, .invokevirtual 32, 38, 0, 0, 0), (38, .iconst 1, 39, 1, 0, 0), (39, .ireturn, 40, 0, 0, 0)]
theorem pk_P_readLeaf : okP m_P_readLeaf.1.cls m_P_readLeaf.2.1 p_P_readLeaf := ⟨fl_P, ct_P, fl_P_ok, ct_P_ok, by decide +kernel⟩
def p_P_numberAtHand : List Rw := [(0, .aload_n 0, 1, 0, 0, 0), (1, .getfield 26, 4, 0, 4, 3), (4, .aload_n 0, 5, 0, 0, 0), (5, .getfield 47, 8, 0, 4, 2), (8, .isub, 9, 0, 0, 0), (9, .iconst 4, 10, 4, 0, 0), (10, .if_icmp .le 5, 13, 0, 15, 0), (13, .iconst (-1), 14, -1, 0, 0), (14, .ireturn, 15, 0, 0, 0), (15, .iconst 0, 16, 0, 0, 0), (16, .istore_n 1, 17, 0, 0, 0), (17, .aload_n 0, 18, 0, 0, 0), (18, .getfield 47, 21, 0, 4, 2), (21, .istore_n 2, 22, 0, 0, 0), (22, .iload_n 2, 23, 0, 0, 0), (23, .aload_n 0, 24, 0, 0, 0), (24, .getfield 26, 27, 0, 4, 3), (27, .if_icmp .ge 24, 30, 0, 51, 0), (30, .iload_n 1, 31, 0, 0, 0), (31, .bipush 10, 33, 10, 0, 0), (33, .imul, 34, 0, 0, 0), (34, .aload_n 0, 35, 0, 0, 0), (35, .getfield 9, 38, 0, 4, 0), (38, .iload_n 2, 39, 0, 0, 0), (39, .iaload, 40, 0, 0, 0), (40, .iadd, 41, 0, 0, 0), (41, .bipush 48, 43, 48, 0, 0), (43, .isub, 44, 0, 0, 0), (44, .istore_n 1, 45, 0, 0, 0), (45, .iinc 2 1, 48, 1, 0, 0), (48, .goto (-26), 51, 0, 22, 0), (51, .iload_n 1, 52, 0, 0, 0), (52, .ireturn, 53, 0, 0, 0)]
theorem pk_P_numberAtHand : okP m_P_numberAtHand.1.cls m_P_numberAtHand.2.1 p_P_numberAtHand := ⟨fl_P, ct_P, fl_P_ok, ct_P_ok, by decide +kernel⟩
def p_P_nameAtHand : List Rw := [(0, .aload_n 0, 1, 0, 0, 0), (1, .getfield 26, 4, 0, 4, 3), (4, .aload_n 0, 5, 0, 0, 0), (5, .getfield 47, 8, 0, 4, 2), (8, .isub, 9, 0, 0, 0), (9, .iconst 1, 10, 1, 0, 0), (10, .if_icmp .ne 29, 13, 0, 39, 0), (13, .aload_n 0, 14, 0, 0, 0), (14, .getfield 18, 17, 0, 4, 5), (17, .getfield 93, 20, 0, 5, 0), (20, .invokestatic 96, 23, 0, 0, 0), (23, .aload_n 0, 24, 0, 0, 0), (24, .getfield 9, 27, 0, 4, 0), (27, .aload_n 0, 28, 0, 0, 0), (28, .getfield 47, 31, 0, 4, 2), (31, .iaload, 32, 0, 0, 0), (32, .i2c, 33, 0, 0, 0), (33, .invokevirtual 100, 36, 0, 0, 0), (36, .goto 4, 39, 0, 40, 0), (39, .iconst (-1), 40, -1, 0, 0), (40, .istore_n 1, 41, 0, 0, 0), (41, .iload_n 1, 42, 0, 0, 0), (42, .ifCond .ge 7, 45, 0, 49, 0), (45, .iconst (-1), 46, -1, 0, 0), (46, .goto 8, 49, 0, 54, 0), (49, .sipush 10000, 52, 10000, 0, 0), (52, .iload_n 1, 53, 0, 0, 0), (53, .iadd, 54, 0, 0, 0), (54, .ireturn, 55, 0, 0, 0)]
theorem pk_P_nameAtHand : okP m_P_nameAtHand.1.cls m_P_nameAtHand.2.1 p_P_nameAtHand := ⟨fl_P, ct_P, fl_P_ok, ct_P_ok, by decide +kernel⟩
def p_P_namesOf : List Rw := [(0, .iload_n 0, 1, 0, 0, 0), (1, .lookupswitch 33 #[(0, 27), (1, 30)], 28, 0, 0, 0), (28, .ldc 103, 30, 0, 1, 0), (30, .areturn, 31, 0, 0, 0), (31, .ldc 105, 33, 0, 1, 0), (33, .areturn, 34, 0, 0, 0), (34, .ldc 107, 36, 0, 1, 0), (36, .areturn, 37, 0, 0, 0)]
theorem pk_P_namesOf : okP m_P_namesOf.1.cls m_P_namesOf.2.1 p_P_namesOf := ⟨fl_P, ct_P, fl_P_ok, ct_P_ok, by decide +kernel⟩
end
section
def p_W_person : List Rw := [(0, .iload_n 1, 1, 0, 0, 0), (1, .invokestatic 64, 4, 0, 0, 0), (4, .ifCond .eq 18, 7, 0, 22, 0), (7, .iload_n 2, 8, 0, 0, 0), (8, .invokestatic 70, 11, 0, 0, 0), (11, .ifCond .eq 11, 14, 0, 22, 0), (14, .aload_n 0, 15, 0, 0, 0), (15, .iload_n 3, 16, 0, 0, 0), (16, .invokevirtual 73, 19, 0, 0, 0), (19, .ifCond .ne 6, 22, 0, 25, 0), (22, .ldc 76, 24, -1000000001, 0, 0), (24, .ireturn, 25, 0, 0, 0), (25, .aload_n 0, 26, 0, 0, 0), (26, .getfield 19, 29, 0, 7, 1), (29, .getfield 77, 32, 0, 6, 4), (32, .bipush 10, 34, 10, 0, 0), (34, .if_icmp .lt 8, 37, 0, 42, 0), (37, .ldc 81, 39, -1000000003, 0, 0), (39, .goto 13, 42, 0, 52, 0), (42, .aload_n 0, 43, 0, 0, 0), (43, .getfield 19, 46, 0, 7, 1), (46, .iload_n 1, 47, 0, 0, 0), (47, .iload_n 2, 48, 0, 0, 0), (48, .iload_n 3, 49, 0, 0, 0), (49, .invokevirtual 82, 52, 0, 0, 0), (52, .ireturn, 53, 0, 0, 0)]
theorem pk_W_person : okP m_W_person.1.cls m_W_person.2.1 p_W_person := ⟨fl_W, ct_W, fl_W_ok, ct_W_ok, by decide +kernel⟩
def p_W_told : List Rw := [(0, .aload_n 0, 1, 0, 0, 0), (1, .iload_n 1, 2, 0, 0, 0), (2, .invokevirtual 86, 5, 0, 0, 0), (5, .ifCond .ne 6, 8, 0, 11, 0), (8, .ldc 76, 10, -1000000001, 0, 0), (10, .ireturn, 11, 0, 0, 0), (11, .iload_n 2, 12, 0, 0, 0), (12, .tableswitch 121 0 5 #[40, 50, 60, 70, 80, 99], 52, 0, 0, 0), (52, .aload_n 0, 53, 0, 0, 0), (53, .getfield 19, 56, 0, 7, 1), (56, .getfield 89, 59, 0, 6, 0), (59, .iload_n 1, 60, 0, 0, 0), (60, .iaload, 61, 0, 0, 0), (61, .ireturn, 62, 0, 0, 0), (62, .aload_n 0, 63, 0, 0, 0), (63, .getfield 19, 66, 0, 7, 1), (66, .getfield 92, 69, 0, 6, 1), (69, .iload_n 1, 70, 0, 0, 0), (70, .iaload, 71, 0, 0, 0), (71, .ireturn, 72, 0, 0, 0), (72, .aload_n 0, 73, 0, 0, 0), (73, .getfield 19, 76, 0, 7, 1), (76, .getfield 95, 79, 0, 6, 2), (79, .iload_n 1, 80, 0, 0, 0), (80, .iaload, 81, 0, 0, 0), (81, .ireturn, 82, 0, 0, 0), (82, .aload_n 0, 83, 0, 0, 0), (83, .getfield 19, 86, 0, 7, 1), (86, .getfield 98, 89, 0, 6, 3), (89, .iload_n 1, 90, 0, 0, 0), (90, .iaload, 91, 0, 0, 0), (91, .ireturn, 92, 0, 0, 0), (92, .aload_n 0, 93, 0, 0, 0), (93, .getfield 19, 96, 0, 7, 1), (96, .iload_n 1, 97, 0, 0, 0), (97, .aload_n 0, 98, 0, 0, 0), (98, .getfield 19, 101, 0, 7, 1), (101, .getfield 101, 104, 0, 6, 9), (104, .invokevirtual 104, 107, 0, 0, 0), (107, .invokestatic 108, 110, 0, 0, 0), (110, .ireturn, 111, 0, 0, 0), (111, .aload_n 0, 112, 0, 0, 0), (112, .getfield 19, 115, 0, 7, 1), (115, .getfield 89, 118, 0, 6, 0), (118, .iload_n 1, 119, 0, 0, 0), (119, .iaload, 120, 0, 0, 0), (120, .aload_n 0, 121, 0, 0, 0), (121, .getfield 19, 124, 0, 7, 1), (124, .getfield 92, 127, 0, 6, 1), (127, .iload_n 1, 128, 0, 0, 0), (128, .iaload, 129, 0, 0, 0), (129, .invokestatic 112, 132, 0, 0, 0), (132, .ireturn, 133, 0, 0, 0), (133, .ldc 76, 135, -1000000001, 0, 0), (135, .ireturn, 136, 0, 0, 0)]
theorem pk_W_told : okP m_W_told.1.cls m_W_told.2.1 p_W_told := ⟨fl_W, ct_W, fl_W_ok, ct_W_ok, by decide +kernel⟩
def p_W_as : List Rw := [(0, .aload_n 0, 1, 0, 0, 0), (1, .iload_n 1, 2, 0, 0, 0), (2, .invokevirtual 86, 5, 0, 0, 0), (5, .ifCond .eq 10, 8, 0, 15, 0), (8, .iload_n 2, 9, 0, 0, 0), (9, .invokestatic 64, 12, 0, 0, 0), (12, .ifCond .ne 6, 15, 0, 18, 0), (15, .ldc 76, 17, -1000000001, 0, 0), (17, .ireturn, 18, 0, 0, 0), (18, .aload_n 0, 19, 0, 0, 0), (19, .getfield 19, 22, 0, 7, 1), (22, .getfield 89, 25, 0, 6, 0), (25, .iload_n 1, 26, 0, 0, 0), (26, .iaload, 27, 0, 0, 0), (27, .iload_n 2, 28, 0, 0, 0), (28, .invokestatic 116, 31, 0, 0, 0), (31, .ifCond .eq 15, 34, 0, 46, 0), (34, .aload_n 0, 35, 0, 0, 0), (35, .getfield 19, 38, 0, 7, 1), (38, .getfield 92, 41, 0, 6, 1), (41, .iload_n 1, 42, 0, 0, 0), (42, .iaload, 43, 0, 0, 0), (43, .goto 5, 46, 0, 48, 0), (46, .ldc 119, 48, -1000000012, 0, 0), (48, .ireturn, 49, 0, 0, 0)]
theorem pk_W_as : okP m_W_as.1.cls m_W_as.2.1 p_W_as := ⟨fl_W, ct_W, fl_W_ok, ct_W_ok, by decide +kernel⟩
def p_W_turns : List Rw := [(0, .aload_n 0, 1, 0, 0, 0), (1, .iload_n 1, 2, 0, 0, 0), (2, .invokevirtual 86, 5, 0, 0, 0), (5, .ifCond .eq 10, 8, 0, 15, 0), (8, .iload_n 2, 9, 0, 0, 0), (9, .invokestatic 64, 12, 0, 0, 0), (12, .ifCond .ne 6, 15, 0, 18, 0), (15, .ldc 76, 17, -1000000001, 0, 0), (17, .ireturn, 18, 0, 0, 0), (18, .aload_n 0, 19, 0, 0, 0), (19, .getfield 19, 22, 0, 7, 1), (22, .getfield 89, 25, 0, 6, 0), (25, .iload_n 1, 26, 0, 0, 0), (26, .iaload, 27, 0, 0, 0), (27, .istore_n 3, 28, 0, 0, 0), (28, .aload_n 0, 29, 0, 0, 0), (29, .getfield 19, 32, 0, 7, 1), (32, .getfield 89, 35, 0, 6, 0), (35, .iload_n 1, 36, 0, 0, 0), (36, .iload_n 2, 37, 0, 0, 0), (37, .iastore, 38, 0, 0, 0), (38, .iload_n 3, 39, 0, 0, 0), (39, .ireturn, 40, 0, 0, 0)]
theorem pk_W_turns : okP m_W_turns.1.cls m_W_turns.2.1 p_W_turns := ⟨fl_W, ct_W, fl_W_ok, ct_W_ok, by decide +kernel⟩
def p_W_set : List Rw := [(0, .aload_n 0, 1, 0, 0, 0), (1, .iload_n 1, 2, 0, 0, 0), (2, .invokevirtual 86, 5, 0, 0, 0), (5, .ifCond .ne 6, 8, 0, 11, 0), (8, .ldc 76, 10, -1000000001, 0, 0), (10, .ireturn, 11, 0, 0, 0), (11, .iload_n 2, 12, 0, 0, 0), (12, .tableswitch 107 1 3 #[28, 53, 80], 40, 0, 0, 0), (40, .iload_n 3, 41, 0, 0, 0), (41, .invokestatic 70, 44, 0, 0, 0), (44, .ifCond .eq 18, 47, 0, 62, 0), (47, .aload_n 0, 48, 0, 0, 0), (48, .getfield 19, 51, 0, 7, 1), (51, .getfield 92, 54, 0, 6, 1), (54, .iload_n 1, 55, 0, 0, 0), (55, .iload_n 3, 56, 0, 0, 0), (56, .invokestatic 120, 59, 0, 0, 0), (59, .goto 5, 62, 0, 64, 0), (62, .ldc 76, 64, -1000000001, 0, 0), (64, .ireturn, 65, 0, 0, 0), (65, .aload_n 0, 66, 0, 0, 0), (66, .iload_n 1, 67, 0, 0, 0), (67, .iload_n 3, 68, 0, 0, 0), (68, .invokevirtual 124, 71, 0, 0, 0), (71, .ifCond .eq 18, 74, 0, 89, 0), (74, .aload_n 0, 75, 0, 0, 0), (75, .getfield 19, 78, 0, 7, 1), (78, .getfield 95, 81, 0, 6, 2), (81, .iload_n 1, 82, 0, 0, 0), (82, .iload_n 3, 83, 0, 0, 0), (83, .invokestatic 120, 86, 0, 0, 0), (86, .goto 5, 89, 0, 91, 0), (89, .ldc 76, 91, -1000000001, 0, 0), (91, .ireturn, 92, 0, 0, 0), (92, .aload_n 0, 93, 0, 0, 0), (93, .iload_n 1, 94, 0, 0, 0), (94, .iload_n 3, 95, 0, 0, 0), (95, .invokevirtual 127, 98, 0, 0, 0), (98, .ifCond .eq 18, 101, 0, 116, 0), (101, .aload_n 0, 102, 0, 0, 0), (102, .getfield 19, 105, 0, 7, 1), (105, .getfield 98, 108, 0, 6, 3), (108, .iload_n 1, 109, 0, 0, 0), (109, .iload_n 3, 110, 0, 0, 0), (110, .invokestatic 120, 113, 0, 0, 0), (113, .goto 5, 116, 0, 118, 0), (116, .ldc 76, 118, -1000000001, 0, 0), (118, .ireturn, 119, 0, 0, 0), (119, .ldc 76, 121, -1000000001, 0, 0), (121, .ireturn, 122, 0, 0, 0)]
theorem pk_W_set : okP m_W_set.1.cls m_W_set.2.1 p_W_set := ⟨fl_W, ct_W, fl_W_ok, ct_W_ok, by decide +kernel⟩
def p_W_holds : List Rw := [(0, .aload_n 0, 1, 0, 0, 0), (1, .iload_n 1, 2, 0, 0, 0), (2, .invokevirtual 86, 5, 0, 0, 0), (5, .ifCond .eq 10, 8, 0, 15, 0), (8, .iload_n 2, 9, 0, 0, 0), (9, .invokestatic 130, 12, 0, 0, 0), (12, .ifCond .ne 6, 15, 0, 18, 0), (15, .ldc 76, 17, -1000000001, 0, 0), (17, .ireturn, 18, 0, 0, 0), (18, .aload_n 0, 19, 0, 0, 0), (19, .getfield 19, 22, 0, 7, 1), (22, .iload_n 1, 23, 0, 0, 0), (23, .iload_n 2, 24, 0, 0, 0), (24, .invokevirtual 104, 27, 0, 0, 0), (27, .invokestatic 108, 30, 0, 0, 0), (30, .ireturn, 31, 0, 0, 0)]
theorem pk_W_holds : okP m_W_holds.1.cls m_W_holds.2.1 p_W_holds := ⟨fl_W, ct_W, fl_W_ok, ct_W_ok, by decide +kernel⟩
def p_W_apart : List Rw := [(0, .iload_n 1, 1, 0, 0, 0), (1, .invokestatic 70, 4, 0, 0, 0), (4, .ifCond .eq 10, 7, 0, 14, 0), (7, .iload_n 2, 8, 0, 0, 0), (8, .invokestatic 70, 11, 0, 0, 0), (11, .ifCond .ne 6, 14, 0, 17, 0), (14, .ldc 76, 16, -1000000001, 0, 0), (16, .ireturn, 17, 0, 0, 0), (17, .iload_n 1, 18, 0, 0, 0), (18, .iload_n 2, 19, 0, 0, 0), (19, .invokestatic 133, 22, 0, 0, 0), (22, .invokestatic 138, 25, 0, 0, 0), (25, .ireturn, 26, 0, 0, 0)]
theorem pk_W_apart : okP m_W_apart.1.cls m_W_apart.2.1 p_W_apart := ⟨fl_W, ct_W, fl_W_ok, ct_W_ok, by decide +kernel⟩
def p_W_near : List Rw := [(0, .iload_n 1, 1, 0, 0, 0), (1, .invokestatic 70, 4, 0, 0, 0), (4, .ifCond .eq 10, 7, 0, 14, 0), (7, .iload_n 2, 8, 0, 0, 0), (8, .invokestatic 70, 11, 0, 0, 0), (11, .ifCond .ne 6, 14, 0, 17, 0), (14, .ldc 76, 16, -1000000001, 0, 0), (16, .ireturn, 17, 0, 0, 0), (17, .aload_n 0, 18, 0, 0, 0), (18, .getfield 19, 21, 0, 7, 1), (21, .iload_n 1, 22, 0, 0, 0), (22, .iload_n 2, 23, 0, 0, 0), (23, .invokevirtual 142, 26, 0, 0, 0), (26, .invokestatic 108, 29, 0, 0, 0), (29, .ireturn, 30, 0, 0, 0)]
theorem pk_W_near : okP m_W_near.1.cls m_W_near.2.1 p_W_near := ⟨fl_W, ct_W, fl_W_ok, ct_W_ok, by decide +kernel⟩
def p_W_lifetime : List Rw := [(0, .iload_n 1, 1, 0, 0, 0), (1, .ifCond .lt 10, 4, 0, 11, 0), (4, .iload_n 1, 5, 0, 0, 0), (5, .sipush 200, 8, 200, 0, 0), (8, .if_icmp .le 6, 11, 0, 14, 0), (11, .ldc 76, 13, -1000000001, 0, 0), (13, .ireturn, 14, 0, 0, 0), (14, .aload_n 0, 15, 0, 0, 0), (15, .getfield 19, 18, 0, 7, 1), (18, .getfield 145, 21, 0, 6, 8), (21, .istore_n 2, 22, 0, 0, 0), (22, .aload_n 0, 23, 0, 0, 0), (23, .getfield 19, 26, 0, 7, 1), (26, .iload_n 1, 27, 0, 0, 0), (27, .putfield 145, 30, 0, 6, 8), (30, .iload_n 2, 31, 0, 0, 0), (31, .ireturn, 32, 0, 0, 0)]
theorem pk_W_lifetime : okP m_W_lifetime.1.cls m_W_lifetime.2.1 p_W_lifetime := ⟨fl_W, ct_W, fl_W_ok, ct_W_ok, by decide +kernel⟩
def p_W_deal : List Rw := [(0, .iload_n 1, 1, 0, 0, 0), (1, .iconst 1, 2, 1, 0, 0), (2, .if_icmp .lt 9, 5, 0, 11, 0), (5, .iload_n 1, 6, 0, 0, 0), (6, .bipush 10, 8, 10, 0, 0), (8, .if_icmp .le 6, 11, 0, 14, 0), (11, .ldc 76, 13, -1000000001, 0, 0), (13, .ireturn, 14, 0, 0, 0), (14, .iload_n 1, 15, 0, 0, 0), (15, .bipush 10, 17, 10, 0, 0), (17, .aload_n 0, 18, 0, 0, 0), (18, .getfield 19, 21, 0, 7, 1), (21, .getfield 77, 24, 0, 6, 4), (24, .isub, 25, 0, 0, 0), (25, .invokestatic 148, 28, 0, 0, 0), (28, .istore_n 2, 29, 0, 0, 0), (29, .iconst 0, 30, 0, 0, 0), (30, .istore_n 3, 31, 0, 0, 0), (31, .iload_n 3, 32, 0, 0, 0), (32, .iload_n 2, 33, 0, 0, 0), (33, .if_icmp .ge 16, 36, 0, 49, 0), (36, .aload_n 0, 37, 0, 0, 0), (37, .getfield 19, 40, 0, 7, 1), (40, .invokevirtual 153, 43, 0, 0, 0), (43, .iinc 3 1, 46, 1, 0, 0), (46, .goto (-15), 49, 0, 31, 0), (49, .iload_n 2, 50, 0, 0, 0), (50, .ireturn, 51, 0, 0, 0)]
theorem pk_W_deal : okP m_W_deal.1.cls m_W_deal.2.1 p_W_deal := ⟨fl_W, ct_W, fl_W_ok, ct_W_ok, by decide +kernel⟩
def p_W_seed : List Rw := [(0, .aload_n 0, 1, 0, 0, 0), (1, .getfield 19, 4, 0, 7, 1), (4, .getfield 156, 7, 0, 6, 10), (7, .istore_n 2, 8, 0, 0, 0), (8, .aload_n 0, 9, 0, 0, 0), (9, .getfield 19, 12, 0, 7, 1), (12, .iload_n 1, 13, 0, 0, 0), (13, .putfield 156, 16, 0, 6, 10), (16, .iload_n 2, 17, 0, 0, 0), (17, .ireturn, 18, 0, 0, 0)]
theorem pk_W_seed : okP m_W_seed.1.cls m_W_seed.2.1 p_W_seed := ⟨fl_W, ct_W, fl_W_ok, ct_W_ok, by decide +kernel⟩
def p_W_free : List Rw := [(0, .iload_n 1, 1, 0, 0, 0), (1, .invokestatic 70, 4, 0, 0, 0), (4, .ifCond .eq 10, 7, 0, 14, 0), (7, .iload_n 2, 8, 0, 0, 0), (8, .invokestatic 130, 11, 0, 0, 0), (11, .ifCond .ne 6, 14, 0, 17, 0), (14, .ldc 76, 16, -1000000001, 0, 0), (16, .ireturn, 17, 0, 0, 0), (17, .aload_n 0, 18, 0, 0, 0), (18, .getfield 19, 21, 0, 7, 1), (21, .iload_n 2, 22, 0, 0, 0), (22, .invokevirtual 159, 25, 0, 0, 0), (25, .aload_n 0, 26, 0, 0, 0), (26, .getfield 19, 29, 0, 7, 1), (29, .iload_n 1, 30, 0, 0, 0), (30, .invokevirtual 163, 33, 0, 0, 0), (33, .invokestatic 108, 36, 0, 0, 0), (36, .ireturn, 37, 0, 0, 0)]
theorem pk_W_free : okP m_W_free.1.cls m_W_free.2.1 p_W_free := ⟨fl_W, ct_W, fl_W_ok, ct_W_ok, by decide +kernel⟩
def p_W_frees : List Rw := [(0, .iload_n 1, 1, 0, 0, 0), (1, .ifCond .eq 11, 4, 0, 12, 0), (4, .iload_n 1, 5, 0, 0, 0), (5, .iconst 1, 6, 1, 0, 0), (6, .if_icmp .eq 6, 9, 0, 12, 0), (9, .ldc 76, 11, -1000000001, 0, 0), (11, .ireturn, 12, 0, 0, 0), (12, .iload_n 1, 13, 0, 0, 0), (13, .ifCond .ne 13, 16, 0, 26, 0), (16, .aload_n 0, 17, 0, 0, 0), (17, .getfield 19, 20, 0, 7, 1), (20, .invokevirtual 166, 23, 0, 0, 0), (23, .goto 10, 26, 0, 33, 0), (26, .aload_n 0, 27, 0, 0, 0), (27, .getfield 19, 30, 0, 7, 1), (30, .invokevirtual 170, 33, 0, 0, 0), (33, .ireturn, 34, 0, 0, 0)]
theorem pk_W_frees : okP m_W_frees.1.cls m_W_frees.2.1 p_W_frees := ⟨fl_W, ct_W, fl_W_ok, ct_W_ok, by decide +kernel⟩
def p_W_soonest : List Rw := [(0, .iload_n 1, 1, 0, 0, 0), (1, .invokestatic 70, 4, 0, 0, 0), (4, .ifCond .ne 6, 7, 0, 10, 0), (7, .ldc 76, 9, -1000000001, 0, 0), (9, .ireturn, 10, 0, 0, 0), (10, .iconst 0, 11, 0, 0, 0), (11, .istore_n 2, 12, 0, 0, 0), (12, .iload_n 2, 13, 0, 0, 0), (13, .sipush 300, 16, 300, 0, 0), (16, .if_icmp .gt 46, 19, 0, 62, 0), (19, .aload_n 0, 20, 0, 0, 0), (20, .getfield 19, 23, 0, 7, 1), (23, .aload_n 0, 24, 0, 0, 0), (24, .getfield 19, 27, 0, 7, 1), (27, .getfield 101, 30, 0, 6, 9), (30, .iload_n 2, 31, 0, 0, 0), (31, .iadd, 32, 0, 0, 0), (32, .invokevirtual 159, 35, 0, 0, 0), (35, .aload_n 0, 36, 0, 0, 0), (36, .getfield 19, 39, 0, 7, 1), (39, .iload_n 1, 40, 0, 0, 0), (40, .invokevirtual 163, 43, 0, 0, 0), (43, .ifCond .eq 13, 46, 0, 56, 0), (46, .aload_n 0, 47, 0, 0, 0), (47, .getfield 19, 50, 0, 7, 1), (50, .getfield 101, 53, 0, 6, 9), (53, .iload_n 2, 54, 0, 0, 0), (54, .iadd, 55, 0, 0, 0), (55, .ireturn, 56, 0, 0, 0), (56, .iinc 2 1, 59, 1, 0, 0), (59, .goto (-47), 62, 0, 12, 0), (62, .ldc 173, 64, -1000000005, 0, 0), (64, .ireturn, 65, 0, 0, 0)]
theorem pk_W_soonest : okP m_W_soonest.1.cls m_W_soonest.2.1 p_W_soonest := ⟨fl_W, ct_W, fl_W_ok, ct_W_ok, by decide +kernel⟩
def p_W_child : List Rw := [(0, .iload_n 1, 1, 0, 0, 0), (1, .invokestatic 70, 4, 0, 0, 0), (4, .ifCond .eq 10, 7, 0, 14, 0), (7, .iload_n 2, 8, 0, 0, 0), (8, .invokestatic 70, 11, 0, 0, 0), (11, .ifCond .ne 6, 14, 0, 17, 0), (14, .ldc 76, 16, -1000000001, 0, 0), (16, .ireturn, 17, 0, 0, 0), (17, .aload_n 0, 18, 0, 0, 0), (18, .getfield 19, 21, 0, 7, 1), (21, .getfield 174, 24, 0, 6, 7), (24, .bipush 6, 26, 6, 0, 0), (26, .if_icmp .lt 8, 29, 0, 34, 0), (29, .ldc 81, 31, -1000000003, 0, 0), (31, .goto 12, 34, 0, 43, 0), (34, .aload_n 0, 35, 0, 0, 0), (35, .getfield 19, 38, 0, 7, 1), (38, .iload_n 1, 39, 0, 0, 0), (39, .iload_n 2, 40, 0, 0, 0), (40, .invokevirtual 177, 43, 0, 0, 0), (43, .ireturn, 44, 0, 0, 0)]
theorem pk_W_child : okP m_W_child.1.cls m_W_child.2.1 p_W_child := ⟨fl_W, ct_W, fl_W_ok, ct_W_ok, by decide +kernel⟩
def p_W_forget : List Rw := [(0, .aload_n 0, 1, 0, 0, 0), (1, .getfield 19, 4, 0, 7, 1), (4, .getfield 174, 7, 0, 6, 7), (7, .istore_n 1, 8, 0, 0, 0), (8, .aload_n 0, 9, 0, 0, 0), (9, .getfield 19, 12, 0, 7, 1), (12, .iconst 0, 13, 0, 0, 0), (13, .putfield 174, 16, 0, 6, 7), (16, .iload_n 1, 17, 0, 0, 0), (17, .ireturn, 18, 0, 0, 0)]
theorem pk_W_forget : okP m_W_forget.1.cls m_W_forget.2.1 p_W_forget := ⟨fl_W, ct_W, fl_W_ok, ct_W_ok, by decide +kernel⟩
def p_W_dealing : List Rw := [(0, .iload_n 1, 1, 0, 0, 0), (1, .ifCond .lt 16, 4, 0, 17, 0), (4, .iload_n 1, 5, 0, 0, 0), (5, .iconst 2, 6, 2, 0, 0), (6, .aload_n 0, 7, 0, 0, 0), (7, .getfield 19, 10, 0, 7, 1), (10, .getfield 174, 13, 0, 6, 7), (13, .iadd, 14, 0, 0, 0), (14, .if_icmp .lt 6, 17, 0, 20, 0), (17, .ldc 76, 19, -1000000001, 0, 0), (19, .ireturn, 20, 0, 0, 0), (20, .aload_n 0, 21, 0, 0, 0), (21, .getfield 32, 24, 0, 7, 5), (24, .aload_n 0, 25, 0, 0, 0), (25, .getfield 19, 28, 0, 7, 1), (28, .invokevirtual 180, 31, 0, 0, 0), (31, .iload_n 1, 32, 0, 0, 0), (32, .ifCond .ne 11, 35, 0, 43, 0), (35, .aload_n 0, 36, 0, 0, 0), (36, .getfield 32, 39, 0, 7, 5), (39, .getfield 184, 42, 0, 0, 1), (42, .ireturn, 43, 0, 0, 0), (43, .iload_n 1, 44, 0, 0, 0), (44, .iconst 1, 45, 1, 0, 0), (45, .if_icmp .ne 13, 48, 0, 58, 0), (48, .aload_n 0, 49, 0, 0, 0), (49, .getfield 32, 52, 0, 7, 5), (52, .getfield 187, 55, 0, 0, 2), (55, .goto 14, 58, 0, 69, 0), (58, .aload_n 0, 59, 0, 0, 0), (59, .getfield 32, 62, 0, 7, 5), (62, .getfield 190, 65, 0, 0, 0), (65, .iload_n 1, 66, 0, 0, 0), (66, .iconst 2, 67, 2, 0, 0), (67, .isub, 68, 0, 0, 0), (68, .iaload, 69, 0, 0, 0), (69, .ireturn, 70, 0, 0, 0)]
theorem pk_W_dealing : okP m_W_dealing.1.cls m_W_dealing.2.1 p_W_dealing := ⟨fl_W, ct_W, fl_W_ok, ct_W_ok, by decide +kernel⟩
def p_W_christen : List Rw := [(0, .aload_n 0, 1, 0, 0, 0), (1, .getfield 32, 4, 0, 7, 5), (4, .aload_n 0, 5, 0, 0, 0), (5, .getfield 19, 8, 0, 7, 1), (8, .invokevirtual 180, 11, 0, 0, 0), (11, .iconst 0, 12, 0, 0, 0), (12, .istore_n 1, 13, 0, 0, 0), (13, .iload_n 1, 14, 0, 0, 0), (14, .aload_n 0, 15, 0, 0, 0), (15, .getfield 19, 18, 0, 7, 1), (18, .getfield 174, 21, 0, 6, 7), (21, .if_icmp .ge 60, 24, 0, 81, 0), (24, .aload_n 0, 25, 0, 0, 0), (25, .getfield 32, 28, 0, 7, 5), (28, .getfield 190, 31, 0, 0, 0), (31, .iload_n 1, 32, 0, 0, 0), (32, .iaload, 33, 0, 0, 0), (33, .ldc 173, 35, -1000000005, 0, 0), (35, .if_icmp .eq 40, 38, 0, 75, 0), (38, .aload_n 0, 39, 0, 0, 0), (39, .getfield 19, 42, 0, 7, 1), (42, .getfield 77, 45, 0, 6, 4), (45, .bipush 10, 47, 10, 0, 0), (47, .if_icmp .ge 28, 50, 0, 75, 0), (50, .aload_n 0, 51, 0, 0, 0), (51, .getfield 19, 54, 0, 7, 1), (54, .iconst 0, 55, 0, 0, 0), (55, .aload_n 0, 56, 0, 0, 0), (56, .getfield 32, 59, 0, 7, 5), (59, .getfield 190, 62, 0, 0, 0), (62, .iload_n 1, 63, 0, 0, 0), (63, .iaload, 64, 0, 0, 0), (64, .aload_n 0, 65, 0, 0, 0), (65, .getfield 19, 68, 0, 7, 1), (68, .getfield 101, 71, 0, 6, 9), (71, .invokevirtual 82, 74, 0, 0, 0), (74, .pop, 75, 0, 0, 0), (75, .iinc 1 1, 78, 1, 0, 0), (78, .goto (-65), 81, 0, 13, 0), (81, .aload_n 0, 82, 0, 0, 0), (82, .getfield 19, 85, 0, 7, 1), (85, .iconst 0, 86, 0, 0, 0), (86, .putfield 174, 89, 0, 6, 7), (89, .aload_n 0, 90, 0, 0, 0), (90, .getfield 19, 93, 0, 7, 1), (93, .getfield 77, 96, 0, 6, 4), (96, .ireturn, 97, 0, 0, 0)]
theorem pk_W_christen : okP m_W_christen.1.cls m_W_christen.2.1 p_W_christen := ⟨fl_W, ct_W, fl_W_ok, ct_W_ok, by decide +kernel⟩
def p_W_yields : List Rw := [(0, .aload_n 0, 1, 0, 0, 0), (1, .iload_n 1, 2, 0, 0, 0), (2, .invokevirtual 86, 5, 0, 0, 0), (5, .ifCond .ne 6, 8, 0, 11, 0), (8, .ldc 76, 10, -1000000001, 0, 0), (10, .ireturn, 11, 0, 0, 0), (11, .iconst 0, 12, 0, 0, 0), (12, .istore_n 2, 13, 0, 0, 0), (13, .iconst 0, 14, 0, 0, 0), (14, .istore_n 3, 15, 0, 0, 0), (15, .iload_n 3, 16, 0, 0, 0), (16, .aload_n 0, 17, 0, 0, 0), (17, .getfield 19, 20, 0, 7, 1), (20, .getfield 77, 23, 0, 6, 4), (23, .if_icmp .ge 59, 26, 0, 82, 0), (26, .iload_n 3, 27, 0, 0, 0), (27, .iload_n 1, 28, 0, 0, 0), (28, .if_icmp .eq 48, 31, 0, 76, 0), (31, .aload_n 0, 32, 0, 0, 0), (32, .getfield 19, 35, 0, 7, 1), (35, .iload_n 3, 36, 0, 0, 0), (36, .invokevirtual 193, 39, 0, 0, 0), (39, .ifCond .eq 37, 42, 0, 76, 0), (42, .aload_n 0, 43, 0, 0, 0), (43, .getfield 19, 46, 0, 7, 1), (46, .aload_n 0, 47, 0, 0, 0), (47, .getfield 19, 50, 0, 7, 1), (50, .getfield 92, 53, 0, 6, 1), (53, .iload_n 1, 54, 0, 0, 0), (54, .iaload, 55, 0, 0, 0), (55, .aload_n 0, 56, 0, 0, 0), (56, .getfield 19, 59, 0, 7, 1), (59, .getfield 92, 62, 0, 6, 1), (62, .iload_n 3, 63, 0, 0, 0), (63, .iaload, 64, 0, 0, 0), (64, .invokevirtual 142, 67, 0, 0, 0), (67, .ifCond .eq 9, 70, 0, 76, 0), (70, .iload_n 2, 71, 0, 0, 0), (71, .iconst 1, 72, 1, 0, 0), (72, .iload_n 3, 73, 0, 0, 0), (73, .ishl, 74, 0, 0, 0), (74, .ior, 75, 0, 0, 0), (75, .istore_n 2, 76, 0, 0, 0), (76, .iinc 3 1, 79, 1, 0, 0), (79, .goto (-64), 82, 0, 15, 0), (82, .iload_n 2, 83, 0, 0, 0), (83, .ireturn, 84, 0, 0, 0)]
theorem pk_W_yields : okP m_W_yields.1.cls m_W_yields.2.1 p_W_yields := ⟨fl_W, ct_W, fl_W_ok, ct_W_ok, by decide +kernel⟩
def p_W_years : List Rw := [(0, .iload_n 1, 1, 0, 0, 0), (1, .iconst 1, 2, 1, 0, 0), (2, .if_icmp .lt 9, 5, 0, 11, 0), (5, .iload_n 1, 6, 0, 0, 0), (6, .bipush 100, 8, 100, 0, 0), (8, .if_icmp .le 6, 11, 0, 14, 0), (11, .ldc 76, 13, -1000000001, 0, 0), (13, .ireturn, 14, 0, 0, 0), (14, .iload_n 1, 15, 0, 0, 0), (15, .sipush 9999, 18, 9999, 0, 0), (18, .aload_n 0, 19, 0, 0, 0), (19, .getfield 19, 22, 0, 7, 1), (22, .getfield 101, 25, 0, 6, 9), (25, .isub, 26, 0, 0, 0), (26, .invokestatic 148, 29, 0, 0, 0), (29, .istore_n 2, 30, 0, 0, 0), (30, .iconst 0, 31, 0, 0, 0), (31, .istore_n 3, 32, 0, 0, 0), (32, .iconst 0, 33, 0, 0, 0), (33, .istore 4, 35, 0, 0, 0), (35, .iload 4, 37, 0, 0, 0), (37, .iload_n 2, 38, 0, 0, 0), (38, .if_icmp .ge 23, 41, 0, 61, 0), (41, .iload_n 3, 42, 0, 0, 0), (42, .aload_n 0, 43, 0, 0, 0), (43, .getfield 19, 46, 0, 7, 1), (46, .aload_n 0, 47, 0, 0, 0), (47, .getfield 10, 50, 0, 7, 0), (50, .invokevirtual 196, 53, 0, 0, 0), (53, .iadd, 54, 0, 0, 0), (54, .istore_n 3, 55, 0, 0, 0), (55, .iinc 4 1, 58, 1, 0, 0), (58, .goto (-23), 61, 0, 35, 0), (61, .iload_n 3, 62, 0, 0, 0), (62, .ireturn, 63, 0, 0, 0)]
theorem pk_W_years : okP m_W_years.1.cls m_W_years.2.1 p_W_years := ⟨fl_W, ct_W, fl_W_ok, ct_W_ok, by decide +kernel⟩
def p_W_behind : List Rw := [(0, .iload_n 1, 1, 0, 0, 0), (1, .ifCond .lt 18, 4, 0, 19, 0), (4, .iload_n 1, 5, 0, 0, 0), (5, .bipush 100, 7, 100, 0, 0), (7, .if_icmp .gt 12, 10, 0, 19, 0), (10, .iload_n 2, 11, 0, 0, 0), (11, .ifCond .lt 8, 14, 0, 19, 0), (14, .iload_n 2, 15, 0, 0, 0), (15, .iconst 2, 16, 2, 0, 0), (16, .if_icmp .le 6, 19, 0, 22, 0), (19, .ldc 76, 21, -1000000001, 0, 0), (21, .ireturn, 22, 0, 0, 0), (22, .aload_n 0, 23, 0, 0, 0), (23, .getfield 26, 26, 0, 7, 3), (26, .aload_n 0, 27, 0, 0, 0), (27, .getfield 19, 30, 0, 7, 1), (30, .invokevirtual 200, 33, 0, 0, 0), (33, .iconst 0, 34, 0, 0, 0), (34, .istore_n 3, 35, 0, 0, 0), (35, .iload_n 3, 36, 0, 0, 0), (36, .iload_n 1, 37, 0, 0, 0), (37, .if_icmp .ge 21, 40, 0, 58, 0), (40, .aload_n 0, 41, 0, 0, 0), (41, .getfield 26, 44, 0, 7, 3), (44, .aload_n 0, 45, 0, 0, 0), (45, .getfield 10, 48, 0, 7, 0), (48, .invokevirtual 196, 51, 0, 0, 0), (51, .pop, 52, 0, 0, 0), (52, .iinc 3 1, 55, 1, 0, 0), (55, .goto (-20), 58, 0, 35, 0), (58, .iload_n 2, 59, 0, 0, 0), (59, .ifCond .ne 11, 62, 0, 70, 0), (62, .aload_n 0, 63, 0, 0, 0), (63, .getfield 26, 66, 0, 7, 3), (66, .invokevirtual 166, 69, 0, 0, 0), (69, .ireturn, 70, 0, 0, 0), (70, .iload_n 2, 71, 0, 0, 0), (71, .iconst 1, 72, 1, 0, 0), (72, .if_icmp .ne 13, 75, 0, 85, 0), (75, .aload_n 0, 76, 0, 0, 0), (76, .getfield 26, 79, 0, 7, 3), (79, .invokevirtual 203, 82, 0, 0, 0), (82, .goto 10, 85, 0, 92, 0), (85, .aload_n 0, 86, 0, 0, 0), (86, .getfield 26, 89, 0, 7, 3), (89, .invokevirtual 170, 92, 0, 0, 0), (92, .ireturn, 93, 0, 0, 0)]
theorem pk_W_behind : okP m_W_behind.1.cls m_W_behind.2.1 p_W_behind := ⟨fl_W, ct_W, fl_W_ok, ct_W_ok, by decide +kernel⟩
def p_W_ends : List Rw := [(0, .aload_n 0, 1, 0, 0, 0), (1, .getfield 26, 4, 0, 7, 3), (4, .aload_n 0, 5, 0, 0, 0), (5, .getfield 19, 8, 0, 7, 1), (8, .invokevirtual 200, 11, 0, 0, 0), (11, .iconst 0, 12, 0, 0, 0), (12, .istore_n 1, 13, 0, 0, 0), (13, .iload_n 1, 14, 0, 0, 0), (14, .sipush 200, 17, 200, 0, 0), (17, .if_icmp .gt 35, 20, 0, 52, 0), (20, .aload_n 0, 21, 0, 0, 0), (21, .getfield 26, 24, 0, 7, 3), (24, .invokevirtual 170, 27, 0, 0, 0), (27, .ldc 173, 29, -1000000005, 0, 0), (29, .if_icmp .ne 5, 32, 0, 34, 0), (32, .iload_n 1, 33, 0, 0, 0), (33, .ireturn, 34, 0, 0, 0), (34, .aload_n 0, 35, 0, 0, 0), (35, .getfield 26, 38, 0, 7, 3), (38, .aload_n 0, 39, 0, 0, 0), (39, .getfield 10, 42, 0, 7, 0), (42, .invokevirtual 196, 45, 0, 0, 0), (45, .pop, 46, 0, 0, 0), (46, .iinc 1 1, 49, 1, 0, 0), (49, .goto (-36), 52, 0, 13, 0), (52, .ldc 173, 54, -1000000005, 0, 0), (54, .ireturn, 55, 0, 0, 0)]
theorem pk_W_ends : okP m_W_ends.1.cls m_W_ends.2.1 p_W_ends := ⟨fl_W, ct_W, fl_W_ok, ct_W_ok, by decide +kernel⟩
def p_W_stays : List Rw := [(0, .iload_n 1, 1, 0, 0, 0), (1, .invokestatic 70, 4, 0, 0, 0), (4, .ifCond .eq 13, 7, 0, 17, 0), (7, .iload_n 2, 8, 0, 0, 0), (8, .ifCond .lt 9, 11, 0, 17, 0), (11, .iload_n 2, 12, 0, 0, 0), (12, .bipush 100, 14, 100, 0, 0), (14, .if_icmp .le 6, 17, 0, 20, 0), (17, .ldc 76, 19, -1000000001, 0, 0), (19, .ireturn, 20, 0, 0, 0), (20, .aload_n 0, 21, 0, 0, 0), (21, .getfield 26, 24, 0, 7, 3), (24, .aload_n 0, 25, 0, 0, 0), (25, .getfield 19, 28, 0, 7, 1), (28, .invokevirtual 200, 31, 0, 0, 0), (31, .iconst 0, 32, 0, 0, 0), (32, .istore_n 3, 33, 0, 0, 0), (33, .iconst 0, 34, 0, 0, 0), (34, .istore 4, 36, 0, 0, 0), (36, .iload 4, 38, 0, 0, 0), (38, .iload_n 2, 39, 0, 0, 0), (39, .if_icmp .gt 49, 42, 0, 88, 0), (42, .aload_n 0, 43, 0, 0, 0), (43, .getfield 26, 46, 0, 7, 3), (46, .aload_n 0, 47, 0, 0, 0), (47, .getfield 26, 50, 0, 7, 3), (50, .getfield 101, 53, 0, 6, 9), (53, .invokevirtual 159, 56, 0, 0, 0), (56, .aload_n 0, 57, 0, 0, 0), (57, .getfield 26, 60, 0, 7, 3), (60, .iload_n 1, 61, 0, 0, 0), (61, .invokevirtual 163, 64, 0, 0, 0), (64, .ifCond .eq 6, 67, 0, 70, 0), (67, .iinc 3 1, 70, 1, 0, 0), (70, .aload_n 0, 71, 0, 0, 0), (71, .getfield 26, 74, 0, 7, 3), (74, .aload_n 0, 75, 0, 0, 0), (75, .getfield 10, 78, 0, 7, 0), (78, .invokevirtual 196, 81, 0, 0, 0), (81, .pop, 82, 0, 0, 0), (82, .iinc 4 1, 85, 1, 0, 0), (85, .goto (-49), 88, 0, 36, 0), (88, .iload_n 3, 89, 0, 0, 0), (89, .ireturn, 90, 0, 0, 0)]
theorem pk_W_stays : okP m_W_stays.1.cls m_W_stays.2.1 p_W_stays := ⟨fl_W, ct_W, fl_W_ok, ct_W_ok, by decide +kernel⟩
def p_W_line : List Rw := [(0, .iload_n 1, 1, 0, 0, 0), (1, .invokestatic 206, 4, 0, 0, 0), (4, .ifCond .ne 6, 7, 0, 10, 0), (7, .ldc 76, 9, -1000000001, 0, 0), (9, .ireturn, 10, 0, 0, 0), (10, .aload_n 0, 11, 0, 0, 0), (11, .getfield 45, 14, 0, 7, 7), (14, .iload_n 1, 15, 0, 0, 0), (15, .aaload, 16, 0, 0, 0), (16, .astore_n 2, 17, 0, 0, 0), (17, .aload_n 2, 18, 0, 0, 0), (18, .getfield 209, 21, 0, 2, 0), (21, .iconst (-1), 22, -1, 0, 0), (22, .if_icmp .ne 6, 25, 0, 28, 0), (25, .ldc 212, 27, -1000000011, 0, 0), (27, .ireturn, 28, 0, 0, 0), (28, .aload_n 0, 29, 0, 0, 0), (29, .getfield 19, 32, 0, 7, 1), (32, .aload_n 0, 33, 0, 0, 0), (33, .getfield 19, 36, 0, 7, 1), (36, .getfield 101, 39, 0, 6, 9), (39, .invokevirtual 159, 42, 0, 0, 0), (42, .iconst 0, 43, 0, 0, 0), (43, .istore_n 3, 44, 0, 0, 0), (44, .iconst 0, 45, 0, 0, 0), (45, .istore 4, 47, 0, 0, 0), (47, .iload 4, 49, 0, 0, 0), (49, .aload_n 2, 50, 0, 0, 0), (50, .getfield 213, 53, 0, 2, 1), (53, .if_icmp .ge 65, 56, 0, 118, 0), (56, .aload_n 2, 57, 0, 0, 0), (57, .getfield 216, 60, 0, 2, 2), (60, .iload 4, 62, 0, 0, 0), (62, .iaload, 63, 0, 0, 0), (63, .istore 5, 65, 0, 0, 0), (65, .iload 5, 67, 0, 0, 0), (67, .invokestatic 70, 70, 0, 0, 0), (70, .ifCond .ne 6, 73, 0, 76, 0), (73, .goto 39, 76, 0, 112, 0), (76, .aload_n 0, 77, 0, 0, 0), (77, .getfield 19, 80, 0, 7, 1), (80, .iload 5, 82, 0, 0, 0), (82, .invokevirtual 163, 85, 0, 0, 0), (85, .ifCond .eq 13, 88, 0, 98, 0), (88, .aload_n 0, 89, 0, 0, 0), (89, .iload 5, 91, 0, 0, 0), (91, .iload_n 3, 92, 0, 0, 0), (92, .invokevirtual 219, 95, 0, 0, 0), (95, .ifCond .eq 6, 98, 0, 101, 0), (98, .iload 4, 100, 0, 0, 0), (100, .ireturn, 101, 0, 0, 0), (101, .aload_n 0, 102, 0, 0, 0), (102, .getfield 59, 105, 0, 7, 11), (105, .iload_n 3, 106, 0, 0, 0), (106, .iload 5, 108, 0, 0, 0), (108, .iastore, 109, 0, 0, 0), (109, .iinc 3 1, 112, 1, 0, 0), (112, .iinc 4 1, 115, 1, 0, 0), (115, .goto (-68), 118, 0, 47, 0), (118, .ldc 173, 120, -1000000005, 0, 0), (120, .ireturn, 121, 0, 0, 0)]
theorem pk_W_line : okP m_W_line.1.cls m_W_line.2.1 p_W_line := ⟨fl_W, ct_W, fl_W_ok, ct_W_ok, by decide +kernel⟩
def p_W_fine : List Rw := [(0, .aload_n 0, 1, 0, 0, 0), (1, .getfield 19, 4, 0, 7, 1), (4, .getfield 222, 7, 0, 6, 12), (7, .iconst 2, 8, 2, 0, 0), (8, .iaload, 9, 0, 0, 0), (9, .istore_n 1, 10, 0, 0, 0), (10, .iload_n 1, 11, 0, 0, 0), (11, .ldc 173, 13, -1000000005, 0, 0), (13, .if_icmp .ne 7, 16, 0, 20, 0), (16, .iconst 0, 17, 0, 0, 0), (17, .goto 26, 20, 0, 43, 0), (20, .aload_n 0, 21, 0, 0, 0), (21, .getfield 10, 24, 0, 7, 0), (24, .iload_n 1, 25, 0, 0, 0), (25, .aload_n 0, 26, 0, 0, 0), (26, .getfield 19, 29, 0, 7, 1), (29, .getfield 101, 32, 0, 6, 9), (32, .aload_n 0, 33, 0, 0, 0), (33, .getfield 19, 36, 0, 7, 1), (36, .invokevirtual 203, 39, 0, 0, 0), (39, .iconst 0, 40, 0, 0, 0), (40, .invokevirtual 225, 43, 0, 0, 0), (43, .ireturn, 44, 0, 0, 0)]
theorem pk_W_fine : okP m_W_fine.1.cls m_W_fine.2.1 p_W_fine := ⟨fl_W, ct_W, fl_W_ok, ct_W_ok, by decide +kernel⟩
def p_W_feed : List Rw := [(0, .aload_n 0, 1, 0, 0, 0), (1, .getfield 39, 4, 0, 7, 6), (4, .getfield 229, 7, 0, 4, 1), (7, .bipush 12, 9, 12, 0, 0), (9, .iadd, 10, 0, 0, 0), (10, .bipush 96, 12, 96, 0, 0), (12, .if_icmp .le 6, 15, 0, 18, 0), (15, .ldc 81, 17, -1000000003, 0, 0), (17, .ireturn, 18, 0, 0, 0), (18, .aload_n 0, 19, 0, 0, 0), (19, .getfield 39, 22, 0, 7, 6), (22, .iload_n 1, 23, 0, 0, 0), (23, .invokevirtual 232, 26, 0, 0, 0), (26, .aload_n 0, 27, 0, 0, 0), (27, .getfield 39, 30, 0, 7, 6), (30, .iload_n 2, 31, 0, 0, 0), (31, .invokevirtual 232, 34, 0, 0, 0), (34, .aload_n 0, 35, 0, 0, 0), (35, .getfield 39, 38, 0, 7, 6), (38, .iload_n 3, 39, 0, 0, 0), (39, .invokevirtual 232, 42, 0, 0, 0), (42, .aload_n 0, 43, 0, 0, 0), (43, .getfield 39, 46, 0, 7, 6), (46, .getfield 229, 49, 0, 4, 1), (49, .ireturn, 50, 0, 0, 0)]
theorem pk_W_feed : okP m_W_feed.1.cls m_W_feed.2.1 p_W_feed := ⟨fl_W, ct_W, fl_W_ok, ct_W_ok, by decide +kernel⟩
def p_W_trim : List Rw := [(0, .iload_n 1, 1, 0, 0, 0), (1, .ifCond .lt 14, 4, 0, 15, 0), (4, .iload_n 1, 5, 0, 0, 0), (5, .aload_n 0, 6, 0, 0, 0), (6, .getfield 39, 9, 0, 7, 6), (9, .getfield 229, 12, 0, 4, 1), (12, .if_icmp .le 6, 15, 0, 18, 0), (15, .ldc 76, 17, -1000000001, 0, 0), (17, .ireturn, 18, 0, 0, 0), (18, .aload_n 0, 19, 0, 0, 0), (19, .getfield 39, 22, 0, 7, 6), (22, .iload_n 1, 23, 0, 0, 0), (23, .putfield 229, 26, 0, 4, 1), (26, .iload_n 1, 27, 0, 0, 0), (27, .ireturn, 28, 0, 0, 0)]
theorem pk_W_trim : okP m_W_trim.1.cls m_W_trim.2.1 p_W_trim := ⟨fl_W, ct_W, fl_W_ok, ct_W_ok, by decide +kernel⟩
def p_W_text : List Rw := [(0, .aload_n 0, 1, 0, 0, 0), (1, .getfield 39, 4, 0, 7, 6), (4, .invokevirtual 235, 7, 0, 0, 0), (7, .istore_n 1, 8, 0, 0, 0), (8, .aload_n 0, 9, 0, 0, 0), (9, .getfield 39, 12, 0, 7, 6), (12, .iconst 0, 13, 0, 0, 0), (13, .putfield 229, 16, 0, 4, 1), (16, .iload_n 1, 17, 0, 0, 0), (17, .ifCond .ne 14, 20, 0, 31, 0), (20, .bipush (-100), 22, -100, 0, 0), (22, .aload_n 0, 23, 0, 0, 0), (23, .getfield 39, 26, 0, 7, 6), (26, .getfield 239, 29, 0, 4, 2), (29, .isub, 30, 0, 0, 0), (30, .ireturn, 31, 0, 0, 0), (31, .aload_n 0, 32, 0, 0, 0), (32, .getfield 19, 35, 0, 7, 1), (35, .getfield 242, 38, 0, 6, 11), (38, .bipush 14, 40, 14, 0, 0), (40, .if_icmp .lt 6, 43, 0, 46, 0), (43, .ldc 81, 45, -1000000003, 0, 0), (45, .ireturn, 46, 0, 0, 0), (46, .aload_n 0, 47, 0, 0, 0), (47, .getfield 10, 50, 0, 7, 0), (50, .getfield 245, 53, 0, 1, 0), (53, .aload_n 0, 54, 0, 0, 0), (54, .getfield 19, 57, 0, 7, 1), (57, .getfield 242, 60, 0, 6, 11), (60, .aaload, 61, 0, 0, 0), (61, .aload_n 0, 62, 0, 0, 0), (62, .getfield 39, 65, 0, 7, 6), (65, .getfield 248, 68, 0, 4, 5), (68, .invokevirtual 252, 71, 0, 0, 0), (71, .aload_n 0, 72, 0, 0, 0), (72, .getfield 19, 75, 0, 7, 1), (75, .aload_n 0, 76, 0, 0, 0), (76, .getfield 39, 79, 0, 7, 6), (79, .getfield 248, 82, 0, 4, 5), (82, .getfield 257, 85, 0, 5, 0), (85, .aload_n 0, 86, 0, 0, 0), (86, .getfield 10, 89, 0, 7, 0), (89, .invokevirtual 260, 92, 0, 0, 0), (92, .ireturn, 93, 0, 0, 0)]
theorem pk_W_text : okP m_W_text.1.cls m_W_text.2.1 p_W_text := ⟨fl_W, ct_W, fl_W_ok, ct_W_ok, by decide +kernel⟩
def p_W_textTold : List Rw := [(0, .aload_n 0, 1, 0, 0, 0), (1, .iload_n 1, 2, 0, 0, 0), (2, .invokevirtual 264, 5, 0, 0, 0), (5, .ifCond .eq 12, 8, 0, 17, 0), (8, .iload_n 2, 9, 0, 0, 0), (9, .ifCond .lt 8, 12, 0, 17, 0), (12, .iload_n 2, 13, 0, 0, 0), (13, .iconst 1, 14, 1, 0, 0), (14, .if_icmp .le 6, 17, 0, 20, 0), (17, .ldc 76, 19, -1000000001, 0, 0), (19, .ireturn, 20, 0, 0, 0), (20, .iload_n 2, 21, 0, 0, 0), (21, .ifCond .ne 18, 24, 0, 39, 0), (24, .aload_n 0, 25, 0, 0, 0), (25, .getfield 10, 28, 0, 7, 0), (28, .getfield 245, 31, 0, 1, 0), (31, .iload_n 1, 32, 0, 0, 0), (32, .aaload, 33, 0, 0, 0), (33, .getfield 257, 36, 0, 5, 0), (36, .goto 15, 39, 0, 51, 0), (39, .aload_n 0, 40, 0, 0, 0), (40, .getfield 10, 43, 0, 7, 0), (43, .getfield 245, 46, 0, 1, 0), (46, .iload_n 1, 47, 0, 0, 0), (47, .aaload, 48, 0, 0, 0), (48, .getfield 267, 51, 0, 5, 1), (51, .ireturn, 52, 0, 0, 0)]
theorem pk_W_textTold : okP m_W_textTold.1.cls m_W_textTold.2.1 p_W_textTold := ⟨fl_W, ct_W, fl_W_ok, ct_W_ok, by decide +kernel⟩
def p_W_why : List Rw := [(0, .iload_n 1, 1, 0, 0, 0), (1, .ifCond .lt 8, 4, 0, 9, 0), (4, .iload_n 1, 5, 0, 0, 0), (5, .iconst 3, 6, 3, 0, 0), (6, .if_icmp .lt 8, 9, 0, 14, 0), (9, .ldc 76, 11, -1000000001, 0, 0), (11, .goto 12, 14, 0, 23, 0), (14, .aload_n 0, 15, 0, 0, 0), (15, .getfield 19, 18, 0, 7, 1), (18, .getfield 222, 21, 0, 6, 12), (21, .iload_n 1, 22, 0, 0, 0), (22, .iaload, 23, 0, 0, 0), (23, .ireturn, 24, 0, 0, 0)]
theorem pk_W_why : okP m_W_why.1.cls m_W_why.2.1 p_W_why := ⟨fl_W, ct_W, fl_W_ok, ct_W_ok, by decide +kernel⟩
def p_W_sheet : List Rw := [(0, .iload_n 1, 1, 0, 0, 0), (1, .invokestatic 206, 4, 0, 0, 0), (4, .ifCond .eq 13, 7, 0, 17, 0), (7, .iload_n 2, 8, 0, 0, 0), (8, .iconst (-1), 9, -1, 0, 0), (9, .if_icmp .lt 8, 12, 0, 17, 0), (12, .iload_n 2, 13, 0, 0, 0), (13, .iconst 1, 14, 1, 0, 0), (14, .if_icmp .le 6, 17, 0, 20, 0), (17, .ldc 76, 19, -1000000001, 0, 0), (19, .ireturn, 20, 0, 0, 0), (20, .iload_n 2, 21, 0, 0, 0), (21, .iconst (-1), 22, -1, 0, 0), (22, .if_icmp .ne 16, 25, 0, 38, 0), (25, .aload_n 0, 26, 0, 0, 0), (26, .getfield 45, 29, 0, 7, 7), (29, .iload_n 1, 30, 0, 0, 0), (30, .aaload, 31, 0, 0, 0), (31, .iconst (-1), 32, -1, 0, 0), (32, .iconst 0, 33, 0, 0, 0), (33, .invokevirtual 270, 36, 0, 0, 0), (36, .iconst 0, 37, 0, 0, 0), (37, .ireturn, 38, 0, 0, 0), (38, .iload_n 3, 39, 0, 0, 0), (39, .bipush 24, 41, 24, 0, 0), (41, .if_icmp .le 6, 44, 0, 47, 0), (44, .ldc 76, 46, -1000000001, 0, 0), (46, .ireturn, 47, 0, 0, 0), (47, .iload_n 3, 48, 0, 0, 0), (48, .ifCond .ge 7, 51, 0, 55, 0), (51, .ldc_w 274, 54, -1000000014, 0, 0), (54, .ireturn, 55, 0, 0, 0), (55, .aload_n 0, 56, 0, 0, 0), (56, .getfield 45, 59, 0, 7, 7), (59, .iload_n 1, 60, 0, 0, 0), (60, .aaload, 61, 0, 0, 0), (61, .iload_n 2, 62, 0, 0, 0), (62, .iload_n 3, 63, 0, 0, 0), (63, .invokevirtual 270, 66, 0, 0, 0), (66, .iload_n 3, 67, 0, 0, 0), (67, .ireturn, 68, 0, 0, 0)]
theorem pk_W_sheet : okP m_W_sheet.1.cls m_W_sheet.2.1 p_W_sheet := ⟨fl_W, ct_W, fl_W_ok, ct_W_ok, by decide +kernel⟩
def p_W_mark : List Rw := [(0, .iload_n 1, 1, 0, 0, 0), (1, .invokestatic 206, 4, 0, 0, 0), (4, .ifCond .ne 6, 7, 0, 10, 0), (7, .ldc 76, 9, -1000000001, 0, 0), (9, .ireturn, 10, 0, 0, 0), (10, .aload_n 0, 11, 0, 0, 0), (11, .getfield 45, 14, 0, 7, 7), (14, .iload_n 1, 15, 0, 0, 0), (15, .aaload, 16, 0, 0, 0), (16, .astore 4, 18, 0, 0, 0), (18, .aload 4, 20, 0, 0, 0), (20, .getfield 209, 23, 0, 2, 0), (23, .iconst (-1), 24, -1, 0, 0), (24, .if_icmp .ne 6, 27, 0, 30, 0), (27, .ldc 212, 29, -1000000011, 0, 0), (29, .ireturn, 30, 0, 0, 0), (30, .aload 4, 32, 0, 0, 0), (32, .iload_n 2, 33, 0, 0, 0), (33, .invokevirtual 275, 36, 0, 0, 0), (36, .ifCond .ne 7, 39, 0, 43, 0), (39, .ldc_w 278, 42, -1000000013, 0, 0), (42, .ireturn, 43, 0, 0, 0), (43, .aload 4, 45, 0, 0, 0), (45, .getfield 209, 48, 0, 2, 0), (48, .ifCond .ne 23, 51, 0, 71, 0), (51, .iload_n 3, 52, 0, 0, 0), (52, .ldc 173, 54, -1000000005, 0, 0), (54, .if_icmp .ne 6, 57, 0, 60, 0), (57, .ldc 119, 59, -1000000012, 0, 0), (59, .ireturn, 60, 0, 0, 0), (60, .aload 4, 62, 0, 0, 0), (62, .getfield 216, 65, 0, 2, 2), (65, .iload_n 2, 66, 0, 0, 0), (66, .iload_n 3, 67, 0, 0, 0), (67, .i2s, 68, 0, 0, 0), (68, .iastore, 69, 0, 0, 0), (69, .iconst 1, 70, 1, 0, 0), (70, .ireturn, 71, 0, 0, 0), (71, .iload_n 3, 72, 0, 0, 0), (72, .ldc 173, 74, -1000000005, 0, 0), (74, .if_icmp .eq 20, 77, 0, 94, 0), (77, .iload_n 3, 78, 0, 0, 0), (78, .ldc_w 279, 81, -99999, 0, 0), (81, .if_icmp .lt 10, 84, 0, 91, 0), (84, .iload_n 3, 85, 0, 0, 0), (85, .ldc_w 280, 88, 99999, 0, 0), (88, .if_icmp .le 6, 91, 0, 94, 0), (91, .ldc 76, 93, -1000000001, 0, 0), (93, .ireturn, 94, 0, 0, 0), (94, .aload 4, 96, 0, 0, 0), (96, .getfield 216, 99, 0, 2, 2), (99, .iload_n 2, 100, 0, 0, 0), (100, .iload_n 3, 101, 0, 0, 0), (101, .iastore, 102, 0, 0, 0), (102, .iconst 1, 103, 1, 0, 0), (103, .ireturn, 104, 0, 0, 0)]
theorem pk_W_mark : okP m_W_mark.1.cls m_W_mark.2.1 p_W_mark := ⟨fl_W, ct_W, fl_W_ok, ct_W_ok, by decide +kernel⟩
def p_W_pour : List Rw := [(0, .iload_n 1, 1, 0, 0, 0), (1, .invokestatic 206, 4, 0, 0, 0), (4, .ifCond .ne 6, 7, 0, 10, 0), (7, .ldc 76, 9, -1000000001, 0, 0), (9, .ireturn, 10, 0, 0, 0), (10, .aload_n 0, 11, 0, 0, 0), (11, .getfield 45, 14, 0, 7, 7), (14, .iload_n 1, 15, 0, 0, 0), (15, .aaload, 16, 0, 0, 0), (16, .astore_n 2, 17, 0, 0, 0), (17, .aload_n 2, 18, 0, 0, 0), (18, .getfield 209, 21, 0, 2, 0), (21, .iconst (-1), 22, -1, 0, 0), (22, .if_icmp .ne 6, 25, 0, 28, 0), (25, .ldc 212, 27, -1000000011, 0, 0), (27, .ireturn, 28, 0, 0, 0), (28, .iconst 0, 29, 0, 0, 0), (29, .istore_n 3, 30, 0, 0, 0), (30, .aload_n 2, 31, 0, 0, 0), (31, .getfield 213, 34, 0, 2, 1), (34, .aload_n 0, 35, 0, 0, 0), (35, .getfield 19, 38, 0, 7, 1), (38, .getfield 77, 41, 0, 6, 4), (41, .invokestatic 148, 44, 0, 0, 0), (44, .istore 4, 46, 0, 0, 0), (46, .iconst 0, 47, 0, 0, 0), (47, .istore 5, 49, 0, 0, 0), (49, .iload 5, 51, 0, 0, 0), (51, .iload 4, 53, 0, 0, 0), (53, .if_icmp .ge 64, 56, 0, 117, 0), (56, .aload_n 2, 57, 0, 0, 0), (57, .getfield 216, 60, 0, 2, 2), (60, .iload 5, 62, 0, 0, 0), (62, .iaload, 63, 0, 0, 0), (63, .ldc 173, 65, -1000000005, 0, 0), (65, .if_icmp .ne 6, 68, 0, 71, 0), (68, .goto 43, 71, 0, 111, 0), (71, .iconst 0, 72, 0, 0, 0), (72, .bipush 124, 74, 124, 0, 0), (74, .aload_n 2, 75, 0, 0, 0), (75, .getfield 216, 78, 0, 2, 2), (78, .iload 5, 80, 0, 0, 0), (80, .iaload, 81, 0, 0, 0), (81, .invokestatic 148, 84, 0, 0, 0), (84, .invokestatic 281, 87, 0, 0, 0), (87, .istore 6, 89, 0, 0, 0), (89, .aload_n 0, 90, 0, 0, 0), (90, .getfield 19, 93, 0, 7, 1), (93, .getfield 92, 96, 0, 6, 1), (96, .iload 5, 98, 0, 0, 0), (98, .iload 6, 100, 0, 0, 0), (100, .invokestatic 120, 103, 0, 0, 0), (103, .iload 6, 105, 0, 0, 0), (105, .if_icmp .eq 6, 108, 0, 111, 0), (108, .iinc 3 1, 111, 1, 0, 0), (111, .iinc 5 1, 114, 1, 0, 0), (114, .goto (-65), 117, 0, 49, 0), (117, .iload_n 3, 118, 0, 0, 0), (118, .ireturn, 119, 0, 0, 0)]
theorem pk_W_pour : okP m_W_pour.1.cls m_W_pour.2.1 p_W_pour := ⟨fl_W, ct_W, fl_W_ok, ct_W_ok, by decide +kernel⟩
def p_W_reads : List Rw := [(0, .iload_n 1, 1, 0, 0, 0), (1, .invokestatic 206, 4, 0, 0, 0), (4, .ifCond .ne 6, 7, 0, 10, 0), (7, .ldc 76, 9, -1000000001, 0, 0), (9, .ireturn, 10, 0, 0, 0), (10, .aload_n 0, 11, 0, 0, 0), (11, .getfield 45, 14, 0, 7, 7), (14, .iload_n 1, 15, 0, 0, 0), (15, .aaload, 16, 0, 0, 0), (16, .astore_n 2, 17, 0, 0, 0), (17, .aload_n 2, 18, 0, 0, 0), (18, .getfield 209, 21, 0, 2, 0), (21, .iconst (-1), 22, -1, 0, 0), (22, .if_icmp .ne 6, 25, 0, 28, 0), (25, .ldc 212, 27, -1000000011, 0, 0), (27, .ireturn, 28, 0, 0, 0), (28, .iconst 0, 29, 0, 0, 0), (29, .istore_n 3, 30, 0, 0, 0), (30, .iload_n 3, 31, 0, 0, 0), (31, .aload_n 2, 32, 0, 0, 0), (32, .getfield 213, 35, 0, 2, 1), (35, .if_icmp .ge 54, 38, 0, 89, 0), (38, .aload_n 2, 39, 0, 0, 0), (39, .getfield 216, 42, 0, 2, 2), (42, .iload_n 3, 43, 0, 0, 0), (43, .iaload, 44, 0, 0, 0), (44, .ldc 173, 46, -1000000005, 0, 0), (46, .if_icmp .ne 6, 49, 0, 52, 0), (49, .goto 34, 52, 0, 83, 0), (52, .iload_n 3, 53, 0, 0, 0), (53, .aload_n 0, 54, 0, 0, 0), (54, .getfield 19, 57, 0, 7, 1), (57, .getfield 77, 60, 0, 6, 4), (60, .if_icmp .ge 21, 63, 0, 81, 0), (63, .aload_n 2, 64, 0, 0, 0), (64, .getfield 216, 67, 0, 2, 2), (67, .iload_n 3, 68, 0, 0, 0), (68, .iaload, 69, 0, 0, 0), (69, .aload_n 0, 70, 0, 0, 0), (70, .getfield 19, 73, 0, 7, 1), (73, .getfield 92, 76, 0, 6, 1), (76, .iload_n 3, 77, 0, 0, 0), (77, .iaload, 78, 0, 0, 0), (78, .if_icmp .eq 5, 81, 0, 83, 0), (81, .iload_n 3, 82, 0, 0, 0), (82, .ireturn, 83, 0, 0, 0), (83, .iinc 3 1, 86, 1, 0, 0), (86, .goto (-56), 89, 0, 30, 0), (89, .ldc 173, 91, -1000000005, 0, 0), (91, .ireturn, 92, 0, 0, 0)]
theorem pk_W_reads : okP m_W_reads.1.cls m_W_reads.2.1 p_W_reads := ⟨fl_W, ct_W, fl_W_ok, ct_W_ok, by decide +kernel⟩
def p_W_copy : List Rw := [(0, .iload_n 1, 1, 0, 0, 0), (1, .invokestatic 206, 4, 0, 0, 0), (4, .ifCond .eq 10, 7, 0, 14, 0), (7, .iload_n 3, 8, 0, 0, 0), (8, .invokestatic 206, 11, 0, 0, 0), (11, .ifCond .ne 6, 14, 0, 17, 0), (14, .ldc 76, 16, -1000000001, 0, 0), (16, .ireturn, 17, 0, 0, 0), (17, .aload_n 0, 18, 0, 0, 0), (18, .getfield 45, 21, 0, 7, 7), (21, .iload_n 1, 22, 0, 0, 0), (22, .aaload, 23, 0, 0, 0), (23, .astore 6, 25, 0, 0, 0), (25, .aload_n 0, 26, 0, 0, 0), (26, .getfield 45, 29, 0, 7, 7), (29, .iload_n 3, 30, 0, 0, 0), (30, .aaload, 31, 0, 0, 0), (31, .astore 7, 33, 0, 0, 0), (33, .aload 6, 35, 0, 0, 0), (35, .getfield 209, 38, 0, 2, 0), (38, .iconst (-1), 39, -1, 0, 0), (39, .if_icmp .eq 12, 42, 0, 51, 0), (42, .aload 7, 44, 0, 0, 0), (44, .getfield 209, 47, 0, 2, 0), (47, .iconst (-1), 48, -1, 0, 0), (48, .if_icmp .ne 6, 51, 0, 54, 0), (51, .ldc 212, 53, -1000000011, 0, 0), (53, .ireturn, 54, 0, 0, 0), (54, .aload 6, 56, 0, 0, 0), (56, .getfield 209, 59, 0, 2, 0), (59, .aload 7, 61, 0, 0, 0), (61, .getfield 209, 64, 0, 2, 0), (64, .if_icmp .eq 6, 67, 0, 70, 0), (67, .ldc 119, 69, -1000000012, 0, 0), (69, .ireturn, 70, 0, 0, 0), (70, .aload 6, 72, 0, 0, 0), (72, .iload_n 2, 73, 0, 0, 0), (73, .iload 5, 75, 0, 0, 0), (75, .invokevirtual 284, 78, 0, 0, 0), (78, .ifCond .eq 15, 81, 0, 93, 0), (81, .aload 7, 83, 0, 0, 0), (83, .iload 4, 85, 0, 0, 0), (85, .iload 5, 87, 0, 0, 0), (87, .invokevirtual 284, 90, 0, 0, 0), (90, .ifCond .ne 7, 93, 0, 97, 0), (93, .ldc_w 278, 96, -1000000013, 0, 0), (96, .ireturn, 97, 0, 0, 0), (97, .aload 6, 99, 0, 0, 0), (99, .getfield 216, 102, 0, 2, 2), (102, .iload_n 2, 103, 0, 0, 0), (103, .aload 7, 105, 0, 0, 0), (105, .getfield 216, 108, 0, 2, 2), (108, .iload 4, 110, 0, 0, 0), (110, .iload 5, 112, 0, 0, 0), (112, .invokestatic 287, 115, 0, 0, 0), (115, .iload 5, 117, 0, 0, 0), (117, .ireturn, 118, 0, 0, 0)]
theorem pk_W_copy : okP m_W_copy.1.cls m_W_copy.2.1 p_W_copy := ⟨fl_W, ct_W, fl_W_ok, ct_W_ok, by decide +kernel⟩
def p_W_lay : List Rw := [(0, .iload_n 1, 1, 0, 0, 0), (1, .invokestatic 293, 4, 0, 0, 0), (4, .ifCond .eq 12, 7, 0, 16, 0), (7, .iload_n 2, 8, 0, 0, 0), (8, .ifCond .lt 8, 11, 0, 16, 0), (11, .iload_n 2, 12, 0, 0, 0), (12, .iconst 3, 13, 3, 0, 0), (13, .if_icmp .le 6, 16, 0, 19, 0), (16, .ldc 76, 18, -1000000001, 0, 0), (18, .ireturn, 19, 0, 0, 0), (19, .iload_n 2, 20, 0, 0, 0), (20, .iconst 1, 21, 1, 0, 0), (21, .if_icmp .ne 11, 24, 0, 32, 0), (24, .aload_n 0, 25, 0, 0, 0), (25, .iload_n 3, 26, 0, 0, 0), (26, .invokevirtual 86, 29, 0, 0, 0), (29, .ifCond .eq 15, 32, 0, 44, 0), (32, .iload_n 2, 33, 0, 0, 0), (33, .iconst 2, 34, 2, 0, 0), (34, .if_icmp .ne 13, 37, 0, 47, 0), (37, .iload_n 3, 38, 0, 0, 0), (38, .invokestatic 206, 41, 0, 0, 0), (41, .ifCond .ne 6, 44, 0, 47, 0), (44, .ldc 76, 46, -1000000001, 0, 0), (46, .ireturn, 47, 0, 0, 0), (47, .iload_n 2, 48, 0, 0, 0), (48, .iconst 2, 49, 2, 0, 0), (49, .if_icmp .ne 19, 52, 0, 68, 0), (52, .aload_n 0, 53, 0, 0, 0), (53, .getfield 45, 56, 0, 7, 7), (56, .iload_n 3, 57, 0, 0, 0), (57, .aaload, 58, 0, 0, 0), (58, .getfield 209, 61, 0, 2, 0), (61, .iconst (-1), 62, -1, 0, 0), (62, .if_icmp .ne 6, 65, 0, 68, 0), (65, .ldc 212, 67, -1000000011, 0, 0), (67, .ireturn, 68, 0, 0, 0), (68, .aload_n 0, 69, 0, 0, 0), (69, .getfield 51, 72, 0, 7, 8), (72, .iload_n 1, 73, 0, 0, 0), (73, .aaload, 74, 0, 0, 0), (74, .astore 4, 76, 0, 0, 0), (76, .aload 4, 78, 0, 0, 0), (78, .getfield 296, 81, 0, 3, 0), (81, .istore 5, 83, 0, 0, 0), (83, .aload 4, 85, 0, 0, 0), (85, .iload_n 2, 86, 0, 0, 0), (86, .putfield 296, 89, 0, 3, 0), (89, .iload_n 2, 90, 0, 0, 0), (90, .iconst 1, 91, 1, 0, 0), (91, .if_icmp .ne 34, 94, 0, 125, 0), (94, .aload 4, 96, 0, 0, 0), (96, .aload_n 0, 97, 0, 0, 0), (97, .getfield 19, 100, 0, 7, 1), (100, .getfield 89, 103, 0, 6, 0), (103, .iload_n 3, 104, 0, 0, 0), (104, .iaload, 105, 0, 0, 0), (105, .putfield 299, 108, 0, 3, 1), (108, .aload 4, 110, 0, 0, 0), (110, .aload_n 0, 111, 0, 0, 0), (111, .getfield 19, 114, 0, 7, 1), (114, .getfield 92, 117, 0, 6, 1), (117, .iload_n 3, 118, 0, 0, 0), (118, .iaload, 119, 0, 0, 0), (119, .putfield 302, 122, 0, 3, 2), (122, .goto 36, 125, 0, 158, 0), (125, .iload_n 2, 126, 0, 0, 0), (126, .iconst 2, 127, 2, 0, 0), (127, .if_icmp .ne 20, 130, 0, 147, 0), (130, .aload 4, 132, 0, 0, 0), (132, .getfield 305, 135, 0, 3, 4), (135, .aload_n 0, 136, 0, 0, 0), (136, .getfield 45, 139, 0, 7, 7), (139, .iload_n 3, 140, 0, 0, 0), (140, .aaload, 141, 0, 0, 0), (141, .invokevirtual 309, 144, 0, 0, 0), (144, .goto 14, 147, 0, 158, 0), (147, .iload_n 2, 148, 0, 0, 0), (148, .iconst 3, 149, 3, 0, 0), (149, .if_icmp .ne 9, 152, 0, 158, 0), (152, .aload 4, 154, 0, 0, 0), (154, .iload_n 3, 155, 0, 0, 0), (155, .putfield 312, 158, 0, 3, 3), (158, .iload 5, 160, 0, 0, 0), (160, .ireturn, 161, 0, 0, 0)]
theorem pk_W_lay : okP m_W_lay.1.cls m_W_lay.2.1 p_W_lay := ⟨fl_W, ct_W, fl_W_ok, ct_W_ok, by decide +kernel⟩
def p_W_ask : List Rw := [(0, .iload_n 1, 1, 0, 0, 0), (1, .invokestatic 293, 4, 0, 0, 0), (4, .ifCond .eq 10, 7, 0, 14, 0), (7, .iload_n 2, 8, 0, 0, 0), (8, .invokestatic 64, 11, 0, 0, 0), (11, .ifCond .ne 6, 14, 0, 17, 0), (14, .ldc 76, 16, -1000000001, 0, 0), (16, .ireturn, 17, 0, 0, 0), (17, .aload_n 0, 18, 0, 0, 0), (18, .getfield 51, 21, 0, 7, 8), (21, .iload_n 1, 22, 0, 0, 0), (22, .aaload, 23, 0, 0, 0), (23, .astore_n 3, 24, 0, 0, 0), (24, .aload_n 3, 25, 0, 0, 0), (25, .getfield 296, 28, 0, 3, 0), (28, .ifCond .ne 6, 31, 0, 34, 0), (31, .ldc 212, 33, -1000000011, 0, 0), (33, .ireturn, 34, 0, 0, 0), (34, .aload_n 3, 35, 0, 0, 0), (35, .getfield 296, 38, 0, 3, 0), (38, .iconst 1, 39, 1, 0, 0), (39, .if_icmp .ne 14, 42, 0, 53, 0), (42, .aload_n 3, 43, 0, 0, 0), (43, .getfield 299, 46, 0, 3, 1), (46, .iload_n 2, 47, 0, 0, 0), (47, .invokestatic 116, 50, 0, 0, 0), (50, .ifCond .ne 6, 53, 0, 56, 0), (53, .ldc 119, 55, -1000000012, 0, 0), (55, .ireturn, 56, 0, 0, 0), (56, .aload_n 3, 57, 0, 0, 0), (57, .getfield 299, 60, 0, 3, 1), (60, .aload_n 3, 61, 0, 0, 0), (61, .getfield 302, 64, 0, 3, 2), (64, .invokestatic 112, 67, 0, 0, 0), (67, .ireturn, 68, 0, 0, 0)]
theorem pk_W_ask : okP m_W_ask.1.cls m_W_ask.2.1 p_W_ask := ⟨fl_W, ct_W, fl_W_ok, ct_W_ok, by decide +kernel⟩
def p_W_item : List Rw := [(0, .iload_n 1, 1, 0, 0, 0), (1, .invokestatic 293, 4, 0, 0, 0), (4, .ifCond .ne 6, 7, 0, 10, 0), (7, .ldc 76, 9, -1000000001, 0, 0), (9, .ireturn, 10, 0, 0, 0), (10, .aload_n 0, 11, 0, 0, 0), (11, .getfield 51, 14, 0, 7, 8), (14, .iload_n 1, 15, 0, 0, 0), (15, .aaload, 16, 0, 0, 0), (16, .astore_n 3, 17, 0, 0, 0), (17, .aload_n 3, 18, 0, 0, 0), (18, .getfield 296, 21, 0, 3, 0), (21, .ifCond .ne 6, 24, 0, 27, 0), (24, .ldc 212, 26, -1000000011, 0, 0), (26, .ireturn, 27, 0, 0, 0), (27, .aload_n 3, 28, 0, 0, 0), (28, .getfield 296, 31, 0, 3, 0), (31, .iconst 2, 32, 2, 0, 0), (32, .if_icmp .eq 6, 35, 0, 38, 0), (35, .ldc 119, 37, -1000000012, 0, 0), (37, .ireturn, 38, 0, 0, 0), (38, .aload_n 3, 39, 0, 0, 0), (39, .getfield 305, 42, 0, 3, 4), (42, .iload_n 2, 43, 0, 0, 0), (43, .invokevirtual 275, 46, 0, 0, 0), (46, .ifCond .ne 7, 49, 0, 53, 0), (49, .ldc_w 278, 52, -1000000013, 0, 0), (52, .ireturn, 53, 0, 0, 0), (53, .aload_n 3, 54, 0, 0, 0), (54, .getfield 305, 57, 0, 3, 4), (57, .getfield 216, 60, 0, 2, 2), (60, .iload_n 2, 61, 0, 0, 0), (61, .iaload, 62, 0, 0, 0), (62, .ldc 173, 64, -1000000005, 0, 0), (64, .if_icmp .ne 8, 67, 0, 72, 0), (67, .ldc 119, 69, -1000000012, 0, 0), (69, .goto 12, 72, 0, 81, 0), (72, .aload_n 3, 73, 0, 0, 0), (73, .getfield 305, 76, 0, 3, 4), (76, .getfield 216, 79, 0, 2, 2), (79, .iload_n 2, 80, 0, 0, 0), (80, .iaload, 81, 0, 0, 0), (81, .ireturn, 82, 0, 0, 0)]
theorem pk_W_item : okP m_W_item.1.cls m_W_item.2.1 p_W_item := ⟨fl_W, ct_W, fl_W_ok, ct_W_ok, by decide +kernel⟩
def p_W_rest : List Rw := [(0, .iload_n 1, 1, 0, 0, 0), (1, .invokestatic 293, 4, 0, 0, 0), (4, .ifCond .ne 6, 7, 0, 10, 0), (7, .ldc 76, 9, -1000000001, 0, 0), (9, .ireturn, 10, 0, 0, 0), (10, .aload_n 0, 11, 0, 0, 0), (11, .getfield 51, 14, 0, 7, 8), (14, .iload_n 1, 15, 0, 0, 0), (15, .aaload, 16, 0, 0, 0), (16, .astore_n 3, 17, 0, 0, 0), (17, .aload_n 3, 18, 0, 0, 0), (18, .getfield 296, 21, 0, 3, 0), (21, .ifCond .ne 6, 24, 0, 27, 0), (24, .ldc 212, 26, -1000000011, 0, 0), (26, .ireturn, 27, 0, 0, 0), (27, .aload_n 3, 28, 0, 0, 0), (28, .getfield 296, 31, 0, 3, 0), (31, .iconst 3, 32, 3, 0, 0), (32, .if_icmp .eq 6, 35, 0, 38, 0), (35, .ldc 119, 37, -1000000012, 0, 0), (37, .ireturn, 38, 0, 0, 0), (38, .iload_n 2, 39, 0, 0, 0), (39, .ifCond .ne 9, 42, 0, 48, 0), (42, .ldc_w 315, 45, -1000000002, 0, 0), (45, .goto 9, 48, 0, 54, 0), (48, .aload_n 3, 49, 0, 0, 0), (49, .getfield 312, 52, 0, 3, 3), (52, .iload_n 2, 53, 0, 0, 0), (53, .irem, 54, 0, 0, 0), (54, .ireturn, 55, 0, 0, 0)]
theorem pk_W_rest : okP m_W_rest.1.cls m_W_rest.2.1 p_W_rest := ⟨fl_W, ct_W, fl_W_ok, ct_W_ok, by decide +kernel⟩
def p_W_tell : List Rw := [(0, .aload_n 0, 1, 0, 0, 0), (1, .getfield 316, 4, 0, 7, 10), (4, .bipush 60, 6, 60, 0, 0), (6, .if_icmp .lt 6, 9, 0, 12, 0), (9, .ldc 81, 11, -1000000003, 0, 0), (11, .ireturn, 12, 0, 0, 0), (12, .aload_n 0, 13, 0, 0, 0), (13, .getfield 55, 16, 0, 7, 9), (16, .aload_n 0, 17, 0, 0, 0), (17, .getfield 316, 20, 0, 7, 10), (20, .iload_n 1, 21, 0, 0, 0), (21, .iastore, 22, 0, 0, 0), (22, .aload_n 0, 23, 0, 0, 0), (23, .dup, 24, 0, 0, 0), (24, .getfield 316, 27, 0, 7, 10), (27, .iconst 1, 28, 1, 0, 0), (28, .iadd, 29, 0, 0, 0), (29, .putfield 316, 32, 0, 7, 10), (32, .aload_n 0, 33, 0, 0, 0), (33, .getfield 316, 36, 0, 7, 10), (36, .ireturn, 37, 0, 0, 0)]
theorem pk_W_tell : okP m_W_tell.1.cls m_W_tell.2.1 p_W_tell := ⟨fl_W, ct_W, fl_W_ok, ct_W_ok, by decide +kernel⟩
def p_W_check : List Rw := [(0, .aload_n 0, 1, 0, 0, 0), (1, .getfield 316, 4, 0, 7, 10), (4, .istore_n 2, 5, 0, 0, 0), (5, .aload_n 0, 6, 0, 0, 0), (6, .iconst 0, 7, 0, 0, 0), (7, .putfield 316, 10, 0, 7, 10), (10, .iload_n 1, 11, 0, 0, 0), (11, .iconst 1, 12, 1, 0, 0), (12, .if_icmp .lt 9, 15, 0, 21, 0), (15, .iload_n 1, 16, 0, 0, 0), (16, .bipush 30, 18, 30, 0, 0), (18, .if_icmp .le 6, 21, 0, 24, 0), (21, .ldc 76, 23, -1000000001, 0, 0), (23, .ireturn, 24, 0, 0, 0), (24, .aload_n 0, 25, 0, 0, 0), (25, .getfield 319, 28, 0, 7, 4), (28, .ifCond .ne 7, 31, 0, 35, 0), (31, .ldc_w 315, 34, -1000000002, 0, 0), (34, .ireturn, 35, 0, 0, 0), (35, .aload_n 0, 36, 0, 0, 0), (36, .getfield 26, 39, 0, 7, 3), (39, .aload_n 0, 40, 0, 0, 0), (40, .getfield 23, 43, 0, 7, 2), (43, .invokevirtual 200, 46, 0, 0, 0), (46, .iload_n 1, 47, 0, 0, 0), (47, .sipush 9999, 50, 9999, 0, 0), (50, .aload_n 0, 51, 0, 0, 0), (51, .getfield 23, 54, 0, 7, 2), (54, .getfield 101, 57, 0, 6, 9), (57, .isub, 58, 0, 0, 0), (58, .invokestatic 148, 61, 0, 0, 0), (61, .istore_n 3, 62, 0, 0, 0), (62, .iconst 0, 63, 0, 0, 0), (63, .istore 4, 65, 0, 0, 0), (65, .iconst 0, 66, 0, 0, 0), (66, .istore 5, 68, 0, 0, 0), (68, .iload 5, 70, 0, 0, 0), (70, .iload_n 3, 71, 0, 0, 0), (71, .if_icmp .ge 71, 74, 0, 142, 0), (74, .aload_n 0, 75, 0, 0, 0), (75, .getfield 26, 78, 0, 7, 3), (78, .aload_n 0, 79, 0, 0, 0), (79, .getfield 10, 82, 0, 7, 0), (82, .invokevirtual 196, 85, 0, 0, 0), (85, .pop, 86, 0, 0, 0), (86, .aload_n 0, 87, 0, 0, 0), (87, .iload 4, 89, 0, 0, 0), (89, .iload_n 2, 90, 0, 0, 0), (90, .aload_n 0, 91, 0, 0, 0), (91, .getfield 26, 94, 0, 7, 3), (94, .invokevirtual 203, 97, 0, 0, 0), (97, .invokevirtual 323, 100, 0, 0, 0), (100, .ifCond .ne 8, 103, 0, 108, 0), (103, .iconst 1, 104, 1, 0, 0), (104, .iload 4, 106, 0, 0, 0), (106, .iadd, 107, 0, 0, 0), (107, .ireturn, 108, 0, 0, 0), (108, .iinc 4 1, 111, 1, 0, 0), (111, .aload_n 0, 112, 0, 0, 0), (112, .iload 4, 114, 0, 0, 0), (114, .iload_n 2, 115, 0, 0, 0), (115, .aload_n 0, 116, 0, 0, 0), (116, .getfield 26, 119, 0, 7, 3), (119, .invokevirtual 166, 122, 0, 0, 0), (122, .invokevirtual 323, 125, 0, 0, 0), (125, .ifCond .ne 8, 128, 0, 133, 0), (128, .iconst 1, 129, 1, 0, 0), (129, .iload 4, 131, 0, 0, 0), (131, .iadd, 132, 0, 0, 0), (132, .ireturn, 133, 0, 0, 0), (133, .iinc 4 1, 136, 1, 0, 0), (136, .iinc 5 1, 139, 1, 0, 0), (139, .goto (-71), 142, 0, 68, 0), (142, .iload 4, 144, 0, 0, 0), (144, .iload_n 2, 145, 0, 0, 0), (145, .if_icmp .ne 7, 148, 0, 152, 0), (148, .iconst 0, 149, 0, 0, 0), (149, .goto 7, 152, 0, 156, 0), (152, .iconst 1, 153, 1, 0, 0), (153, .iload 4, 155, 0, 0, 0), (155, .iadd, 156, 0, 0, 0), (156, .ireturn, 157, 0, 0, 0)]
theorem pk_W_check : okP m_W_check.1.cls m_W_check.2.1 p_W_check := ⟨fl_W, ct_W, fl_W_ok, ct_W_ok, by decide +kernel⟩
def p_W_keep : List Rw := [(0, .aload_n 0, 1, 0, 0, 0), (1, .getfield 23, 4, 0, 7, 2), (4, .aload_n 0, 5, 0, 0, 0), (5, .getfield 19, 8, 0, 7, 1), (8, .invokevirtual 200, 11, 0, 0, 0), (11, .aload_n 0, 12, 0, 0, 0), (12, .iconst 1, 13, 1, 0, 0), (13, .putfield 319, 16, 0, 7, 4), (16, .aload_n 0, 17, 0, 0, 0), (17, .getfield 23, 20, 0, 7, 2), (20, .getfield 77, 23, 0, 6, 4), (23, .ireturn, 24, 0, 0, 0)]
theorem pk_W_keep : okP m_W_keep.1.cls m_W_keep.2.1 p_W_keep := ⟨fl_W, ct_W, fl_W_ok, ct_W_ok, by decide +kernel⟩
def p_W_back : List Rw := [(0, .aload_n 0, 1, 0, 0, 0), (1, .getfield 319, 4, 0, 7, 4), (4, .ifCond .ne 7, 7, 0, 11, 0), (7, .ldc_w 315, 10, -1000000002, 0, 0), (10, .ireturn, 11, 0, 0, 0), (11, .aload_n 0, 12, 0, 0, 0), (12, .getfield 19, 15, 0, 7, 1), (15, .aload_n 0, 16, 0, 0, 0), (16, .getfield 23, 19, 0, 7, 2), (19, .invokevirtual 200, 22, 0, 0, 0), (22, .aload_n 0, 23, 0, 0, 0), (23, .getfield 19, 26, 0, 7, 1), (26, .getfield 77, 29, 0, 6, 4), (29, .ireturn, 30, 0, 0, 0)]
theorem pk_W_back : okP m_W_back.1.cls m_W_back.2.1 p_W_back := ⟨fl_W, ct_W, fl_W_ok, ct_W_ok, by decide +kernel⟩
def p_W_count : List Rw := [(0, .iload_n 1, 1, 0, 0, 0), (1, .tableswitch 120 0 8 #[51, 59, 67, 75, 83, 91, 99, 104, 112], 52, 0, 0, 0), (52, .aload_n 0, 53, 0, 0, 0), (53, .getfield 19, 56, 0, 7, 1), (56, .getfield 77, 59, 0, 6, 4), (59, .ireturn, 60, 0, 0, 0), (60, .aload_n 0, 61, 0, 0, 0), (61, .getfield 19, 64, 0, 7, 1), (64, .invokevirtual 203, 67, 0, 0, 0), (67, .ireturn, 68, 0, 0, 0), (68, .aload_n 0, 69, 0, 0, 0), (69, .getfield 19, 72, 0, 7, 1), (72, .getfield 174, 75, 0, 6, 7), (75, .ireturn, 76, 0, 0, 0), (76, .aload_n 0, 77, 0, 0, 0), (77, .getfield 19, 80, 0, 7, 1), (80, .getfield 101, 83, 0, 6, 9), (83, .ireturn, 84, 0, 0, 0), (84, .aload_n 0, 85, 0, 0, 0), (85, .getfield 19, 88, 0, 7, 1), (88, .getfield 145, 91, 0, 6, 8), (91, .ireturn, 92, 0, 0, 0), (92, .aload_n 0, 93, 0, 0, 0), (93, .getfield 19, 96, 0, 7, 1), (96, .getfield 242, 99, 0, 6, 11), (99, .ireturn, 100, 0, 0, 0), (100, .aload_n 0, 101, 0, 0, 0), (101, .getfield 316, 104, 0, 7, 10), (104, .ireturn, 105, 0, 0, 0), (105, .aload_n 0, 106, 0, 0, 0), (106, .getfield 39, 109, 0, 7, 6), (109, .getfield 229, 112, 0, 4, 1), (112, .ireturn, 113, 0, 0, 0), (113, .aload_n 0, 114, 0, 0, 0), (114, .getfield 19, 117, 0, 7, 1), (117, .getfield 156, 120, 0, 6, 10), (120, .ireturn, 121, 0, 0, 0), (121, .ldc 76, 123, -1000000001, 0, 0), (123, .ireturn, 124, 0, 0, 0)]
theorem pk_W_count : okP m_W_count.1.cls m_W_count.2.1 p_W_count := ⟨fl_W, ct_W, fl_W_ok, ct_W_ok, by decide +kernel⟩
def p_W_isPerson : List Rw := [(0, .iload_n 1, 1, 0, 0, 0), (1, .ifCond .lt 18, 4, 0, 19, 0), (4, .iload_n 1, 5, 0, 0, 0), (5, .aload_n 0, 6, 0, 0, 0), (6, .getfield 19, 9, 0, 7, 1), (9, .getfield 77, 12, 0, 6, 4), (12, .if_icmp .ge 7, 15, 0, 19, 0), (15, .iconst 1, 16, 1, 0, 0), (16, .goto 4, 19, 0, 20, 0), (19, .iconst 0, 20, 0, 0, 0), (20, .ireturn, 21, 0, 0, 0)]
theorem pk_W_isPerson : okP m_W_isPerson.1.cls m_W_isPerson.2.1 p_W_isPerson := ⟨fl_W, ct_W, fl_W_ok, ct_W_ok, by decide +kernel⟩
def p_W_isText : List Rw := [(0, .iload_n 1, 1, 0, 0, 0), (1, .ifCond .lt 18, 4, 0, 19, 0), (4, .iload_n 1, 5, 0, 0, 0), (5, .aload_n 0, 6, 0, 0, 0), (6, .getfield 19, 9, 0, 7, 1), (9, .getfield 242, 12, 0, 6, 11), (12, .if_icmp .ge 7, 15, 0, 19, 0), (15, .iconst 1, 16, 1, 0, 0), (16, .goto 4, 19, 0, 20, 0), (19, .iconst 0, 20, 0, 0, 0), (20, .ireturn, 21, 0, 0, 0)]
theorem pk_W_isText : okP m_W_isText.1.cls m_W_isText.2.1 p_W_isText := ⟨fl_W, ct_W, fl_W_ok, ct_W_ok, by decide +kernel⟩
def p_W_isBirth : List Rw := [(0, .iload_n 1, 1, 0, 0, 0), (1, .sipush (-999), 4, -999, 0, 0), (4, .if_icmp .lt 18, 7, 0, 22, 0), (7, .iload_n 1, 8, 0, 0, 0), (8, .aload_n 0, 9, 0, 0, 0), (9, .getfield 19, 12, 0, 7, 1), (12, .getfield 101, 15, 0, 6, 9), (15, .if_icmp .gt 7, 18, 0, 22, 0), (18, .iconst 1, 19, 1, 0, 0), (19, .goto 4, 22, 0, 23, 0), (22, .iconst 0, 23, 0, 0, 0), (23, .ireturn, 24, 0, 0, 0)]
theorem pk_W_isBirth : okP m_W_isBirth.1.cls m_W_isBirth.2.1 p_W_isBirth := ⟨fl_W, ct_W, fl_W_ok, ct_W_ok, by decide +kernel⟩
def p_W_canBeBorn : List Rw := [(0, .aload_n 0, 1, 0, 0, 0), (1, .iload_n 2, 2, 0, 0, 0), (2, .invokevirtual 73, 5, 0, 0, 0), (5, .ifCond .eq 31, 8, 0, 36, 0), (8, .aload_n 0, 9, 0, 0, 0), (9, .getfield 19, 12, 0, 7, 1), (12, .iload_n 1, 13, 0, 0, 0), (13, .invokevirtual 193, 16, 0, 0, 0), (16, .ifCond .ne 16, 19, 0, 32, 0), (19, .iload_n 2, 20, 0, 0, 0), (20, .aload_n 0, 21, 0, 0, 0), (21, .getfield 19, 24, 0, 7, 1), (24, .getfield 98, 27, 0, 6, 3), (27, .iload_n 1, 28, 0, 0, 0), (28, .iaload, 29, 0, 0, 0), (29, .if_icmp .gt 7, 32, 0, 36, 0), (32, .iconst 1, 33, 1, 0, 0), (33, .goto 4, 36, 0, 37, 0), (36, .iconst 0, 37, 0, 0, 0), (37, .ireturn, 38, 0, 0, 0)]
theorem pk_W_canBeBorn : okP m_W_canBeBorn.1.cls m_W_canBeBorn.2.1 p_W_canBeBorn := ⟨fl_W, ct_W, fl_W_ok, ct_W_ok, by decide +kernel⟩
def p_W_canHaveDied : List Rw := [(0, .iload_n 2, 1, 0, 0, 0), (1, .ldc 173, 3, -1000000005, 0, 0), (3, .if_icmp .eq 27, 6, 0, 30, 0), (6, .iload_n 2, 7, 0, 0, 0), (7, .aload_n 0, 8, 0, 0, 0), (8, .getfield 19, 11, 0, 7, 1), (11, .getfield 95, 14, 0, 6, 2), (14, .iload_n 1, 15, 0, 0, 0), (15, .iaload, 16, 0, 0, 0), (16, .if_icmp .lt 18, 19, 0, 34, 0), (19, .iload_n 2, 20, 0, 0, 0), (20, .aload_n 0, 21, 0, 0, 0), (21, .getfield 19, 24, 0, 7, 1), (24, .getfield 101, 27, 0, 6, 9), (27, .if_icmp .gt 7, 30, 0, 34, 0), (30, .iconst 1, 31, 1, 0, 0), (31, .goto 4, 34, 0, 35, 0), (34, .iconst 0, 35, 0, 0, 0), (35, .ireturn, 36, 0, 0, 0)]
theorem pk_W_canHaveDied : okP m_W_canHaveDied.1.cls m_W_canHaveDied.2.1 p_W_canHaveDied := ⟨fl_W, ct_W, fl_W_ok, ct_W_ok, by decide +kernel⟩
def p_W_isName : List Rw := [(0, .iload_n 0, 1, 0, 0, 0), (1, .ifCond .lt 13, 4, 0, 14, 0), (4, .iload_n 0, 5, 0, 0, 0), (5, .bipush 125, 7, 125, 0, 0), (7, .if_icmp .ge 7, 10, 0, 14, 0), (10, .iconst 1, 11, 1, 0, 0), (11, .goto 4, 14, 0, 15, 0), (14, .iconst 0, 15, 0, 0, 0), (15, .ireturn, 16, 0, 0, 0)]
theorem pk_W_isName : okP m_W_isName.1.cls m_W_isName.2.1 p_W_isName := ⟨fl_W, ct_W, fl_W_ok, ct_W_ok, by decide +kernel⟩
def p_W_isAskedYear : List Rw := [(0, .iload_n 0, 1, 0, 0, 0), (1, .sipush (-999), 4, -999, 0, 0), (4, .if_icmp .lt 14, 7, 0, 18, 0), (7, .iload_n 0, 8, 0, 0, 0), (8, .ldc_w 280, 11, 99999, 0, 0), (11, .if_icmp .gt 7, 14, 0, 18, 0), (14, .iconst 1, 15, 1, 0, 0), (15, .goto 4, 18, 0, 19, 0), (18, .iconst 0, 19, 0, 0, 0), (19, .ireturn, 20, 0, 0, 0)]
theorem pk_W_isAskedYear : okP m_W_isAskedYear.1.cls m_W_isAskedYear.2.1 p_W_isAskedYear := ⟨fl_W, ct_W, fl_W_ok, ct_W_ok, by decide +kernel⟩
def p_W_isSheet : List Rw := [(0, .iload_n 0, 1, 0, 0, 0), (1, .ifCond .lt 12, 4, 0, 13, 0), (4, .iload_n 0, 5, 0, 0, 0), (5, .iconst 4, 6, 4, 0, 0), (6, .if_icmp .ge 7, 9, 0, 13, 0), (9, .iconst 1, 10, 1, 0, 0), (10, .goto 4, 13, 0, 14, 0), (13, .iconst 0, 14, 0, 0, 0), (14, .ireturn, 15, 0, 0, 0)]
theorem pk_W_isSheet : okP m_W_isSheet.1.cls m_W_isSheet.2.1 p_W_isSheet := ⟨fl_W, ct_W, fl_W_ok, ct_W_ok, by decide +kernel⟩
def p_W_isSlot : List Rw := [(0, .iload_n 0, 1, 0, 0, 0), (1, .ifCond .lt 12, 4, 0, 13, 0), (4, .iload_n 0, 5, 0, 0, 0), (5, .iconst 5, 6, 5, 0, 0), (6, .if_icmp .ge 7, 9, 0, 13, 0), (9, .iconst 1, 10, 1, 0, 0), (10, .goto 4, 13, 0, 14, 0), (13, .iconst 0, 14, 0, 0, 0), (14, .ireturn, 15, 0, 0, 0)]
theorem pk_W_isSlot : okP m_W_isSlot.1.cls m_W_isSlot.2.1 p_W_isSlot := ⟨fl_W, ct_W, fl_W_ok, ct_W_ok, by decide +kernel⟩
def p_W_bit : List Rw := [(0, .iload_n 0, 1, 0, 0, 0), (1, .ifCond .eq 7, 4, 0, 8, 0), (4, .iconst 1, 5, 1, 0, 0), (5, .goto 4, 8, 0, 9, 0), (8, .iconst 0, 9, 0, 0, 0), (9, .ireturn, 10, 0, 0, 0)]
theorem pk_W_bit : okP m_W_bit.1.cls m_W_bit.2.1 p_W_bit := ⟨fl_W, ct_W, fl_W_ok, ct_W_ok, by decide +kernel⟩
def p_W_replace : List Rw := [(0, .aload_n 0, 1, 0, 0, 0), (1, .iload_n 1, 2, 0, 0, 0), (2, .iaload, 3, 0, 0, 0), (3, .istore_n 3, 4, 0, 0, 0), (4, .aload_n 0, 5, 0, 0, 0), (5, .iload_n 1, 6, 0, 0, 0), (6, .iload_n 2, 7, 0, 0, 0), (7, .iastore, 8, 0, 0, 0), (8, .iload_n 3, 9, 0, 0, 0), (9, .ireturn, 10, 0, 0, 0)]
theorem pk_W_replace : okP m_W_replace.1.cls m_W_replace.2.1 p_W_replace := ⟨fl_W, ct_W, fl_W_ok, ct_W_ok, by decide +kernel⟩
def p_W_isNearGiven : List Rw := [(0, .iconst 0, 1, 0, 0, 0), (1, .istore_n 3, 2, 0, 0, 0), (2, .iload_n 3, 3, 0, 0, 0), (3, .iload_n 2, 4, 0, 0, 0), (4, .if_icmp .ge 28, 7, 0, 32, 0), (7, .aload_n 0, 8, 0, 0, 0), (8, .getfield 19, 11, 0, 7, 1), (11, .iload_n 1, 12, 0, 0, 0), (12, .aload_n 0, 13, 0, 0, 0), (13, .getfield 59, 16, 0, 7, 11), (16, .iload_n 3, 17, 0, 0, 0), (17, .iaload, 18, 0, 0, 0), (18, .invokevirtual 142, 21, 0, 0, 0), (21, .ifCond .eq 5, 24, 0, 26, 0), (24, .iconst 1, 25, 1, 0, 0), (25, .ireturn, 26, 0, 0, 0), (26, .iinc 3 1, 29, 1, 0, 0), (29, .goto (-27), 32, 0, 2, 0), (32, .iconst 0, 33, 0, 0, 0), (33, .ireturn, 34, 0, 0, 0)]
theorem pk_W_isNearGiven : okP m_W_isNearGiven.1.cls m_W_isNearGiven.2.1 p_W_isNearGiven := ⟨fl_W, ct_W, fl_W_ok, ct_W_ok, by decide +kernel⟩
def p_W_waitedAt : List Rw := [(0, .iload_n 1, 1, 0, 0, 0), (1, .iload_n 2, 2, 0, 0, 0), (2, .if_icmp .ge 23, 5, 0, 25, 0), (5, .iload_n 1, 6, 0, 0, 0), (6, .bipush 60, 8, 60, 0, 0), (8, .if_icmp .ge 17, 11, 0, 25, 0), (11, .aload_n 0, 12, 0, 0, 0), (12, .getfield 55, 15, 0, 7, 9), (15, .iload_n 1, 16, 0, 0, 0), (16, .iaload, 17, 0, 0, 0), (17, .iload_n 3, 18, 0, 0, 0), (18, .if_icmp .ne 7, 21, 0, 25, 0), (21, .iconst 1, 22, 1, 0, 0), (22, .goto 4, 25, 0, 26, 0), (25, .iconst 0, 26, 0, 0, 0), (26, .ireturn, 27, 0, 0, 0)]
theorem pk_W_waitedAt : okP m_W_waitedAt.1.cls m_W_waitedAt.2.1 p_W_waitedAt := ⟨fl_W, ct_W, fl_W_ok, ct_W_ok, by decide +kernel⟩
end
section
def p_M_in : List Rw := [(0, .iload_n 0, 1, 0, 0, 0), (1, .iload_n 1, 2, 0, 0, 0), (2, .if_icmp .lt 12, 5, 0, 14, 0), (5, .iload_n 0, 6, 0, 0, 0), (6, .iload_n 2, 7, 0, 0, 0), (7, .if_icmp .gt 7, 10, 0, 14, 0), (10, .iconst 1, 11, 1, 0, 0), (11, .goto 4, 14, 0, 15, 0), (14, .iconst 0, 15, 0, 0, 0), (15, .ireturn, 16, 0, 0, 0)]
theorem pk_M_in : okP m_M_in.1.cls m_M_in.2.1 p_M_in := ⟨fl_M, ct_M, fl_M_ok, ct_M_ok, by decide +kernel⟩
def p_M_within : List Rw := [(0, .iload_n 0, 1, 0, 0, 0), (1, .iload_n 1, 2, 0, 0, 0), (2, .if_icmp .ge 7, 5, 0, 9, 0), (5, .iload_n 1, 6, 0, 0, 0), (6, .goto 13, 9, 0, 19, 0), (9, .iload_n 0, 10, 0, 0, 0), (10, .iload_n 2, 11, 0, 0, 0), (11, .if_icmp .le 7, 14, 0, 18, 0), (14, .iload_n 2, 15, 0, 0, 0), (15, .goto 4, 18, 0, 19, 0), (18, .iload_n 0, 19, 0, 0, 0), (19, .ireturn, 20, 0, 0, 0)]
theorem pk_M_within : okP m_M_within.1.cls m_M_within.2.1 p_M_within := ⟨fl_M, ct_M, fl_M_ok, ct_M_ok, by decide +kernel⟩
def p_M_copyAll : List Rw := [(0, .iconst 0, 1, 0, 0, 0), (1, .istore_n 2, 2, 0, 0, 0), (2, .iload_n 2, 3, 0, 0, 0), (3, .sipush 1430, 6, 1430, 0, 0), (6, .if_icmp .ge 15, 9, 0, 21, 0), (9, .aload_n 1, 10, 0, 0, 0), (10, .iload_n 2, 11, 0, 0, 0), (11, .aload_n 0, 12, 0, 0, 0), (12, .iload_n 2, 13, 0, 0, 0), (13, .iaload, 14, 0, 0, 0), (14, .iastore, 15, 0, 0, 0), (15, .iinc 2 1, 18, 1, 0, 0), (18, .goto (-16), 21, 0, 2, 0), (21, .return_, 22, 0, 0, 0)]
theorem pk_M_copyAll : okP m_M_copyAll.1.cls m_M_copyAll.2.1 p_M_copyAll := ⟨fl_M, ct_M, fl_M_ok, ct_M_ok, by decide +kernel⟩
def p_M_isOne : List Rw := [(0, .iload_n 1, 1, 0, 0, 0), (1, .iconst 0, 2, 0, 0, 0), (2, .aload_n 0, 3, 0, 0, 0), (3, .getfield 9, 6, 0, 8, 0), (6, .iconst 1, 7, 1, 0, 0), (7, .iaload, 8, 0, 0, 0), (8, .iconst 1, 9, 1, 0, 0), (9, .isub, 10, 0, 0, 0), (10, .invokestatic 84, 13, 0, 0, 0), (13, .ireturn, 14, 0, 0, 0)]
theorem pk_M_isOne : okP m_M_isOne.1.cls m_M_isOne.2.1 p_M_isOne := ⟨fl_M, ct_M, fl_M_ok, ct_M_ok, by decide +kernel⟩
def p_M_isCalled : List Rw := [(0, .iload_n 0, 1, 0, 0, 0), (1, .iconst 0, 2, 0, 0, 0), (2, .bipush 124, 4, 124, 0, 0), (4, .invokestatic 84, 7, 0, 0, 0), (7, .ireturn, 8, 0, 0, 0)]
theorem pk_M_isCalled : okP m_M_isCalled.1.cls m_M_isCalled.2.1 p_M_isCalled := ⟨fl_M, ct_M, fl_M_ok, ct_M_ok, by decide +kernel⟩
def p_M_of : List Rw := [(0, .aload_n 0, 1, 0, 0, 0), (1, .getfield 9, 4, 0, 8, 0), (4, .bipush 18, 6, 18, 0, 0), (6, .iconst 4, 7, 4, 0, 0), (7, .iload_n 1, 8, 0, 0, 0), (8, .imul, 9, 0, 0, 0), (9, .iadd, 10, 0, 0, 0), (10, .iload_n 2, 11, 0, 0, 0), (11, .iadd, 12, 0, 0, 0), (12, .iaload, 13, 0, 0, 0), (13, .ireturn, 14, 0, 0, 0)]
theorem pk_M_of : okP m_M_of.1.cls m_M_of.2.1 p_M_of := ⟨fl_M, ct_M, fl_M_ok, ct_M_ok, by decide +kernel⟩
def p_M_isAlive : List Rw := [(0, .aload_n 0, 1, 0, 0, 0), (1, .iload_n 1, 2, 0, 0, 0), (2, .iconst 3, 3, 3, 0, 0), (3, .invokevirtual 88, 6, 0, 0, 0), (6, .ldc 92, 8, -1000000005, 0, 0), (8, .if_icmp .ne 7, 11, 0, 15, 0), (11, .iconst 1, 12, 1, 0, 0), (12, .goto 4, 15, 0, 16, 0), (15, .iconst 0, 16, 0, 0, 0), (16, .ireturn, 17, 0, 0, 0)]
theorem pk_M_isAlive : okP m_M_isAlive.1.cls m_M_isAlive.2.1 p_M_isAlive := ⟨fl_M, ct_M, fl_M_ok, ct_M_ok, by decide +kernel⟩
def p_M_becomes : List Rw := [(0, .aload_n 0, 1, 0, 0, 0), (1, .getfield 9, 4, 0, 8, 0), (4, .iload_n 1, 5, 0, 0, 0), (5, .iaload, 6, 0, 0, 0), (6, .istore_n 3, 7, 0, 0, 0), (7, .aload_n 0, 8, 0, 0, 0), (8, .getfield 9, 11, 0, 8, 0), (11, .iload_n 1, 12, 0, 0, 0), (12, .iload_n 2, 13, 0, 0, 0), (13, .iastore, 14, 0, 0, 0), (14, .iload_n 3, 15, 0, 0, 0), (15, .ireturn, 16, 0, 0, 0)]
theorem pk_M_becomes : okP m_M_becomes.1.cls m_M_becomes.2.1 p_M_becomes := ⟨fl_M, ct_M, fl_M_ok, ct_M_ok, by decide +kernel⟩
def p_M_comes : List Rw := [(0, .bipush 18, 2, 18, 0, 0), (2, .iconst 4, 3, 4, 0, 0), (3, .aload_n 0, 4, 0, 0, 0), (4, .getfield 9, 7, 0, 8, 0), (7, .iconst 1, 8, 1, 0, 0), (8, .iaload, 9, 0, 0, 0), (9, .imul, 10, 0, 0, 0), (10, .iadd, 11, 0, 0, 0), (11, .istore 4, 13, 0, 0, 0), (13, .aload_n 0, 14, 0, 0, 0), (14, .getfield 9, 17, 0, 8, 0), (17, .iload 4, 19, 0, 0, 0), (19, .iload_n 1, 20, 0, 0, 0), (20, .iastore, 21, 0, 0, 0), (21, .aload_n 0, 22, 0, 0, 0), (22, .getfield 9, 25, 0, 8, 0), (25, .iload 4, 27, 0, 0, 0), (27, .iconst 1, 28, 1, 0, 0), (28, .iadd, 29, 0, 0, 0), (29, .iload_n 2, 30, 0, 0, 0), (30, .iastore, 31, 0, 0, 0), (31, .aload_n 0, 32, 0, 0, 0), (32, .getfield 9, 35, 0, 8, 0), (35, .iload 4, 37, 0, 0, 0), (37, .iconst 2, 38, 2, 0, 0), (38, .iadd, 39, 0, 0, 0), (39, .iload_n 3, 40, 0, 0, 0), (40, .iastore, 41, 0, 0, 0), (41, .aload_n 0, 42, 0, 0, 0), (42, .getfield 9, 45, 0, 8, 0), (45, .iload 4, 47, 0, 0, 0), (47, .iconst 3, 48, 3, 0, 0), (48, .iadd, 49, 0, 0, 0), (49, .ldc 92, 51, -1000000005, 0, 0), (51, .iastore, 52, 0, 0, 0), (52, .aload_n 0, 53, 0, 0, 0), (53, .getfield 9, 56, 0, 8, 0), (56, .iconst 1, 57, 1, 0, 0), (57, .dup2, 58, 0, 0, 0), (58, .iaload, 59, 0, 0, 0), (59, .iconst 1, 60, 1, 0, 0), (60, .iadd, 61, 0, 0, 0), (61, .iastore, 62, 0, 0, 0), (62, .aload_n 0, 63, 0, 0, 0), (63, .getfield 9, 66, 0, 8, 0), (66, .iconst 1, 67, 1, 0, 0), (67, .iaload, 68, 0, 0, 0), (68, .iconst 1, 69, 1, 0, 0), (69, .isub, 70, 0, 0, 0), (70, .ireturn, 71, 0, 0, 0)]
theorem pk_M_comes : okP m_M_comes.1.cls m_M_comes.2.1 p_M_comes := ⟨fl_M, ct_M, fl_M_ok, ct_M_ok, by decide +kernel⟩
def p_M_person : List Rw := [(0, .iload_n 1, 1, 0, 0, 0), (1, .iconst 0, 2, 0, 0, 0), (2, .iconst 5, 3, 5, 0, 0), (3, .invokestatic 84, 6, 0, 0, 0), (6, .ifCond .eq 26, 9, 0, 32, 0), (9, .iload_n 2, 10, 0, 0, 0), (10, .invokestatic 93, 13, 0, 0, 0), (13, .ifCond .eq 19, 16, 0, 32, 0), (16, .iload_n 3, 17, 0, 0, 0), (17, .sipush (-999), 20, -999, 0, 0), (20, .aload_n 0, 21, 0, 0, 0), (21, .getfield 9, 24, 0, 8, 0), (24, .iconst 2, 25, 2, 0, 0), (25, .iaload, 26, 0, 0, 0), (26, .invokestatic 84, 29, 0, 0, 0), (29, .ifCond .ne 6, 32, 0, 35, 0), (32, .ldc 97, 34, -1000000001, 0, 0), (34, .ireturn, 35, 0, 0, 0), (35, .aload_n 0, 36, 0, 0, 0), (36, .getfield 9, 39, 0, 8, 0), (39, .iconst 1, 40, 1, 0, 0), (40, .iaload, 41, 0, 0, 0), (41, .bipush 10, 43, 10, 0, 0), (43, .if_icmp .ne 8, 46, 0, 51, 0), (46, .ldc 98, 48, -1000000003, 0, 0), (48, .goto 10, 51, 0, 58, 0), (51, .aload_n 0, 52, 0, 0, 0), (52, .iload_n 1, 53, 0, 0, 0), (53, .iload_n 2, 54, 0, 0, 0), (54, .iload_n 3, 55, 0, 0, 0), (55, .invokevirtual 99, 58, 0, 0, 0), (58, .ireturn, 59, 0, 0, 0)]
theorem pk_M_person : okP m_M_person.1.cls m_M_person.2.1 p_M_person := ⟨fl_M, ct_M, fl_M_ok, ct_M_ok, by decide +kernel⟩
def p_M_doesHold : List Rw := [(0, .aload_n 0, 1, 0, 0, 0), (1, .iload_n 1, 2, 0, 0, 0), (2, .invokevirtual 103, 5, 0, 0, 0), (5, .istore_n 3, 6, 0, 0, 0), (6, .iload_n 3, 7, 0, 0, 0), (7, .ifCond .eq 7, 10, 0, 14, 0), (10, .iconst 0, 11, 0, 0, 0), (11, .goto 11, 14, 0, 22, 0), (14, .iload_n 2, 15, 0, 0, 0), (15, .aload_n 0, 16, 0, 0, 0), (16, .iload_n 1, 17, 0, 0, 0), (17, .iconst 3, 18, 3, 0, 0), (18, .invokevirtual 88, 21, 0, 0, 0), (21, .isub, 22, 0, 0, 0), (22, .istore 4, 24, 0, 0, 0), (24, .iload_n 2, 25, 0, 0, 0), (25, .aload_n 0, 26, 0, 0, 0), (26, .iload_n 1, 27, 0, 0, 0), (27, .iconst 2, 28, 2, 0, 0), (28, .invokevirtual 88, 31, 0, 0, 0), (31, .isub, 32, 0, 0, 0), (32, .istore 5, 34, 0, 0, 0), (34, .iload_n 3, 35, 0, 0, 0), (35, .ifCond .ne 14, 38, 0, 49, 0), (38, .iload 4, 40, 0, 0, 0), (40, .aload_n 0, 41, 0, 0, 0), (41, .getfield 9, 44, 0, 8, 0), (44, .iconst 3, 45, 3, 0, 0), (45, .iaload, 46, 0, 0, 0), (46, .if_icmp .ge 7, 49, 0, 53, 0), (49, .iconst 1, 50, 1, 0, 0), (50, .goto 4, 53, 0, 54, 0), (53, .iconst 0, 54, 0, 0, 0), (54, .istore 6, 56, 0, 0, 0), (56, .iload 6, 58, 0, 0, 0), (58, .ifCond .ne 11, 61, 0, 69, 0), (61, .iload 4, 63, 0, 0, 0), (63, .sipush 200, 66, 200, 0, 0), (66, .if_icmp .ge 7, 69, 0, 73, 0), (69, .iconst 1, 70, 1, 0, 0), (70, .goto 4, 73, 0, 74, 0), (73, .iconst 0, 74, 0, 0, 0), (74, .istore 7, 76, 0, 0, 0), (76, .aload_n 0, 77, 0, 0, 0), (77, .iload_n 1, 78, 0, 0, 0), (78, .iconst 0, 79, 0, 0, 0), (79, .invokevirtual 88, 82, 0, 0, 0), (82, .tableswitch 104 1 5 #[34, 52, 55, 83, 102], 116, 0, 0, 0), (116, .iload 6, 118, 0, 0, 0), (118, .ifCond .eq 14, 121, 0, 132, 0), (121, .iload 5, 123, 0, 0, 0), (123, .bipush 100, 125, 100, 0, 0), (125, .if_icmp .ge 7, 128, 0, 132, 0), (128, .iconst 1, 129, 1, 0, 0), (129, .goto 4, 132, 0, 133, 0), (132, .iconst 0, 133, 0, 0, 0), (133, .ireturn, 134, 0, 0, 0), (134, .iload 7, 136, 0, 0, 0), (136, .ireturn, 137, 0, 0, 0), (137, .iload 6, 139, 0, 0, 0), (139, .ifCond .eq 24, 142, 0, 163, 0), (142, .iload 5, 144, 0, 0, 0), (144, .bipush 100, 146, 100, 0, 0), (146, .if_icmp .ge 17, 149, 0, 163, 0), (149, .iload_n 3, 150, 0, 0, 0), (150, .ifCond .eq 9, 153, 0, 159, 0), (153, .iload_n 2, 154, 0, 0, 0), (154, .iconst 2, 155, 2, 0, 0), (155, .irem, 156, 0, 0, 0), (156, .ifCond .ne 7, 159, 0, 163, 0), (159, .iconst 1, 160, 1, 0, 0), (160, .goto 4, 163, 0, 164, 0), (163, .iconst 0, 164, 0, 0, 0), (164, .ireturn, 165, 0, 0, 0), (165, .iload 7, 167, 0, 0, 0), (167, .ifCond .ne 11, 170, 0, 178, 0), (170, .iload 5, 172, 0, 0, 0), (172, .sipush 500, 175, 500, 0, 0), (175, .if_icmp .ge 7, 178, 0, 182, 0), (178, .iconst 1, 179, 1, 0, 0), (179, .goto 4, 182, 0, 183, 0), (182, .iconst 0, 183, 0, 0, 0), (183, .ireturn, 184, 0, 0, 0), (184, .iload_n 3, 185, 0, 0, 0), (185, .ireturn, 186, 0, 0, 0), (186, .iload 6, 188, 0, 0, 0), (188, .ireturn, 189, 0, 0, 0)]
theorem pk_M_doesHold : okP m_M_doesHold.1.cls m_M_doesHold.2.1 p_M_doesHold := ⟨fl_M, ct_M, fl_M_ok, ct_M_ok, by decide +kernel⟩
def p_M_worthOf : List Rw := [(0, .aload_n 0, 1, 0, 0, 0), (1, .iload_n 1, 2, 0, 0, 0), (2, .iconst 1, 3, 1, 0, 0), (3, .invokevirtual 88, 6, 0, 0, 0), (6, .istore_n 2, 7, 0, 0, 0), (7, .aload_n 0, 8, 0, 0, 0), (8, .iload_n 1, 9, 0, 0, 0), (9, .iconst 0, 10, 0, 0, 0), (10, .invokevirtual 88, 13, 0, 0, 0), (13, .tableswitch 61 1 5 #[35, 40, 46, 53, 59], 48, 0, 0, 0), (48, .iload_n 2, 49, 0, 0, 0), (49, .bipush 7, 51, 7, 0, 0), (51, .iadd, 52, 0, 0, 0), (52, .ireturn, 53, 0, 0, 0), (53, .sipush 200, 56, 200, 0, 0), (56, .iload_n 2, 57, 0, 0, 0), (57, .isub, 58, 0, 0, 0), (58, .ireturn, 59, 0, 0, 0), (59, .iconst 2, 60, 2, 0, 0), (60, .iload_n 2, 61, 0, 0, 0), (61, .bipush 7, 63, 7, 0, 0), (63, .iadd, 64, 0, 0, 0), (64, .imul, 65, 0, 0, 0), (65, .ireturn, 66, 0, 0, 0), (66, .sipush 191, 69, 191, 0, 0), (69, .iload_n 2, 70, 0, 0, 0), (70, .isub, 71, 0, 0, 0), (71, .ireturn, 72, 0, 0, 0), (72, .iconst 3, 73, 3, 0, 0), (73, .ireturn, 74, 0, 0, 0), (74, .iload_n 2, 75, 0, 0, 0), (75, .ireturn, 76, 0, 0, 0)]
theorem pk_M_worthOf : okP m_M_worthOf.1.cls m_M_worthOf.2.1 p_M_worthOf := ⟨fl_M, ct_M, fl_M_ok, ct_M_ok, by decide +kernel⟩
def p_M_told : List Rw := [(0, .aload_n 0, 1, 0, 0, 0), (1, .iload_n 1, 2, 0, 0, 0), (2, .invokevirtual 106, 5, 0, 0, 0), (5, .ifCond .eq 12, 8, 0, 17, 0), (8, .iload_n 2, 9, 0, 0, 0), (9, .iconst 0, 10, 0, 0, 0), (10, .iconst 5, 11, 5, 0, 0), (11, .invokestatic 84, 14, 0, 0, 0), (14, .ifCond .ne 6, 17, 0, 20, 0), (17, .ldc 97, 19, -1000000001, 0, 0), (19, .ireturn, 20, 0, 0, 0), (20, .iload_n 2, 21, 0, 0, 0), (21, .iconst 4, 22, 4, 0, 0), (22, .if_icmp .ge 12, 25, 0, 34, 0), (25, .aload_n 0, 26, 0, 0, 0), (26, .iload_n 1, 27, 0, 0, 0), (27, .iload_n 2, 28, 0, 0, 0), (28, .invokevirtual 88, 31, 0, 0, 0), (31, .goto 35, 34, 0, 66, 0), (34, .iload_n 2, 35, 0, 0, 0), (35, .iconst 4, 36, 4, 0, 0), (36, .if_icmp .ne 25, 39, 0, 61, 0), (39, .aload_n 0, 40, 0, 0, 0), (40, .iload_n 1, 41, 0, 0, 0), (41, .aload_n 0, 42, 0, 0, 0), (42, .getfield 9, 45, 0, 8, 0), (45, .iconst 2, 46, 2, 0, 0), (46, .iaload, 47, 0, 0, 0), (47, .invokevirtual 109, 50, 0, 0, 0), (50, .ifCond .eq 7, 53, 0, 57, 0), (53, .iconst 1, 54, 1, 0, 0), (54, .goto 12, 57, 0, 66, 0), (57, .iconst 0, 58, 0, 0, 0), (58, .goto 8, 61, 0, 66, 0), (61, .aload_n 0, 62, 0, 0, 0), (62, .iload_n 1, 63, 0, 0, 0), (63, .invokevirtual 113, 66, 0, 0, 0), (66, .ireturn, 67, 0, 0, 0)]
theorem pk_M_told : okP m_M_told.1.cls m_M_told.2.1 p_M_told := ⟨fl_M, ct_M, fl_M_ok, ct_M_ok, by decide +kernel⟩
def p_M_isUnder : List Rw := [(0, .iload_n 1, 1, 0, 0, 0), (1, .ifCond .eq 28, 4, 0, 29, 0), (4, .iload_n 0, 5, 0, 0, 0), (5, .iload_n 1, 6, 0, 0, 0), (6, .if_icmp .eq 23, 9, 0, 29, 0), (9, .iload_n 1, 10, 0, 0, 0), (10, .iconst 1, 11, 1, 0, 0), (11, .if_icmp .ne 8, 14, 0, 19, 0), (14, .iload_n 0, 15, 0, 0, 0), (15, .iconst 3, 16, 3, 0, 0), (16, .if_icmp .eq 13, 19, 0, 29, 0), (19, .iload_n 1, 20, 0, 0, 0), (20, .iconst 2, 21, 2, 0, 0), (21, .if_icmp .ne 12, 24, 0, 33, 0), (24, .iload_n 0, 25, 0, 0, 0), (25, .iconst 4, 26, 4, 0, 0), (26, .if_icmp .ne 7, 29, 0, 33, 0), (29, .iconst 1, 30, 1, 0, 0), (30, .goto 4, 33, 0, 34, 0), (33, .iconst 0, 34, 0, 0, 0), (34, .ireturn, 35, 0, 0, 0)]
theorem pk_M_isUnder : okP m_M_isUnder.1.cls m_M_isUnder.2.1 p_M_isUnder := ⟨fl_M, ct_M, fl_M_ok, ct_M_ok, by decide +kernel⟩
def p_M_as : List Rw := [(0, .aload_n 0, 1, 0, 0, 0), (1, .iload_n 1, 2, 0, 0, 0), (2, .invokevirtual 106, 5, 0, 0, 0), (5, .ifCond .eq 12, 8, 0, 17, 0), (8, .iload_n 2, 9, 0, 0, 0), (9, .iconst 0, 10, 0, 0, 0), (10, .iconst 5, 11, 5, 0, 0), (11, .invokestatic 84, 14, 0, 0, 0), (14, .ifCond .ne 6, 17, 0, 20, 0), (17, .ldc 97, 19, -1000000001, 0, 0), (19, .ireturn, 20, 0, 0, 0), (20, .aload_n 0, 21, 0, 0, 0), (21, .iload_n 1, 22, 0, 0, 0), (22, .iconst 0, 23, 0, 0, 0), (23, .invokevirtual 88, 26, 0, 0, 0), (26, .iload_n 2, 27, 0, 0, 0), (27, .invokestatic 117, 30, 0, 0, 0), (30, .ifCond .eq 12, 33, 0, 42, 0), (33, .aload_n 0, 34, 0, 0, 0), (34, .iload_n 1, 35, 0, 0, 0), (35, .iconst 1, 36, 1, 0, 0), (36, .invokevirtual 88, 39, 0, 0, 0), (39, .goto 5, 42, 0, 44, 0), (42, .ldc 120, 44, -1000000012, 0, 0), (44, .ireturn, 45, 0, 0, 0)]
theorem pk_M_as : okP m_M_as.1.cls m_M_as.2.1 p_M_as := ⟨fl_M, ct_M, fl_M_ok, ct_M_ok, by decide +kernel⟩
def p_M_turns : List Rw := [(0, .aload_n 0, 1, 0, 0, 0), (1, .iload_n 1, 2, 0, 0, 0), (2, .invokevirtual 106, 5, 0, 0, 0), (5, .ifCond .eq 26, 8, 0, 31, 0), (8, .iload_n 2, 9, 0, 0, 0), (9, .iconst 0, 10, 0, 0, 0), (10, .iconst 5, 11, 5, 0, 0), (11, .invokestatic 84, 14, 0, 0, 0), (14, .ifCond .eq 17, 17, 0, 31, 0), (17, .aload_n 0, 18, 0, 0, 0), (18, .bipush 18, 20, 18, 0, 0), (20, .iconst 4, 21, 4, 0, 0), (21, .iload_n 1, 22, 0, 0, 0), (22, .imul, 23, 0, 0, 0), (23, .iadd, 24, 0, 0, 0), (24, .iload_n 2, 25, 0, 0, 0), (25, .invokevirtual 121, 28, 0, 0, 0), (28, .goto 5, 31, 0, 33, 0), (31, .ldc 97, 33, -1000000001, 0, 0), (33, .ireturn, 34, 0, 0, 0)]
theorem pk_M_turns : okP m_M_turns.1.cls m_M_turns.2.1 p_M_turns := ⟨fl_M, ct_M, fl_M_ok, ct_M_ok, by decide +kernel⟩
def p_M_set : List Rw := [(0, .aload_n 0, 1, 0, 0, 0), (1, .iload_n 1, 2, 0, 0, 0), (2, .invokevirtual 106, 5, 0, 0, 0), (5, .ifCond .eq 12, 8, 0, 17, 0), (8, .iload_n 2, 9, 0, 0, 0), (9, .iconst 1, 10, 1, 0, 0), (10, .iconst 3, 11, 3, 0, 0), (11, .invokestatic 84, 14, 0, 0, 0), (14, .ifCond .ne 6, 17, 0, 20, 0), (17, .ldc 97, 19, -1000000001, 0, 0), (19, .ireturn, 20, 0, 0, 0), (20, .iload_n 2, 21, 0, 0, 0), (21, .iconst 1, 22, 1, 0, 0), (22, .if_icmp .ne 10, 25, 0, 32, 0), (25, .iload_n 3, 26, 0, 0, 0), (26, .invokestatic 93, 29, 0, 0, 0), (29, .goto 71, 32, 0, 100, 0), (32, .iload_n 2, 33, 0, 0, 0), (33, .iconst 2, 34, 2, 0, 0), (34, .if_icmp .ne 36, 37, 0, 70, 0), (37, .iload_n 3, 38, 0, 0, 0), (38, .sipush (-999), 41, -999, 0, 0), (41, .aload_n 0, 42, 0, 0, 0), (42, .iload_n 1, 43, 0, 0, 0), (43, .invokevirtual 103, 46, 0, 0, 0), (46, .ifCond .eq 12, 49, 0, 58, 0), (49, .aload_n 0, 50, 0, 0, 0), (50, .getfield 9, 53, 0, 8, 0), (53, .iconst 2, 54, 2, 0, 0), (54, .iaload, 55, 0, 0, 0), (55, .goto 9, 58, 0, 64, 0), (58, .aload_n 0, 59, 0, 0, 0), (59, .iload_n 1, 60, 0, 0, 0), (60, .iconst 3, 61, 3, 0, 0), (61, .invokevirtual 88, 64, 0, 0, 0), (64, .invokestatic 84, 67, 0, 0, 0), (67, .goto 33, 70, 0, 100, 0), (70, .iload_n 3, 71, 0, 0, 0), (71, .ldc 92, 73, -1000000005, 0, 0), (73, .if_icmp .eq 22, 76, 0, 95, 0), (76, .iload_n 3, 77, 0, 0, 0), (77, .aload_n 0, 78, 0, 0, 0), (78, .iload_n 1, 79, 0, 0, 0), (79, .iconst 2, 80, 2, 0, 0), (80, .invokevirtual 88, 83, 0, 0, 0), (83, .aload_n 0, 84, 0, 0, 0), (84, .getfield 9, 87, 0, 8, 0), (87, .iconst 2, 88, 2, 0, 0), (88, .iaload, 89, 0, 0, 0), (89, .invokestatic 84, 92, 0, 0, 0), (92, .ifCond .eq 7, 95, 0, 99, 0), (95, .iconst 1, 96, 1, 0, 0), (96, .goto 4, 99, 0, 100, 0), (99, .iconst 0, 100, 0, 0, 0), (100, .istore 4, 102, 0, 0, 0), (102, .iload 4, 104, 0, 0, 0), (104, .ifCond .eq 19, 107, 0, 123, 0), (107, .aload_n 0, 108, 0, 0, 0), (108, .bipush 18, 110, 18, 0, 0), (110, .iconst 4, 111, 4, 0, 0), (111, .iload_n 1, 112, 0, 0, 0), (112, .imul, 113, 0, 0, 0), (113, .iadd, 114, 0, 0, 0), (114, .iload_n 2, 115, 0, 0, 0), (115, .iadd, 116, 0, 0, 0), (116, .iload_n 3, 117, 0, 0, 0), (117, .invokevirtual 121, 120, 0, 0, 0), (120, .goto 5, 123, 0, 125, 0), (123, .ldc 97, 125, -1000000001, 0, 0), (125, .ireturn, 126, 0, 0, 0)]
theorem pk_M_set : okP m_M_set.1.cls m_M_set.2.1 p_M_set := ⟨fl_M, ct_M, fl_M_ok, ct_M_ok, by decide +kernel⟩
def p_M_isYear : List Rw := [(0, .iload_n 0, 1, 0, 0, 0), (1, .sipush (-999), 4, -999, 0, 0), (4, .ldc 124, 6, 99999, 0, 0), (6, .invokestatic 84, 9, 0, 0, 0), (9, .ireturn, 10, 0, 0, 0)]
theorem pk_M_isYear : okP m_M_isYear.1.cls m_M_isYear.2.1 p_M_isYear := ⟨fl_M, ct_M, fl_M_ok, ct_M_ok, by decide +kernel⟩
def p_M_holds : List Rw := [(0, .aload_n 0, 1, 0, 0, 0), (1, .iload_n 1, 2, 0, 0, 0), (2, .invokevirtual 106, 5, 0, 0, 0), (5, .ifCond .eq 10, 8, 0, 15, 0), (8, .iload_n 2, 9, 0, 0, 0), (9, .invokestatic 125, 12, 0, 0, 0), (12, .ifCond .ne 6, 15, 0, 18, 0), (15, .ldc 97, 17, -1000000001, 0, 0), (17, .ireturn, 18, 0, 0, 0), (18, .aload_n 0, 19, 0, 0, 0), (19, .iload_n 1, 20, 0, 0, 0), (20, .iload_n 2, 21, 0, 0, 0), (21, .invokevirtual 109, 24, 0, 0, 0), (24, .ifCond .eq 7, 27, 0, 31, 0), (27, .iconst 1, 28, 1, 0, 0), (28, .goto 4, 31, 0, 32, 0), (31, .iconst 0, 32, 0, 0, 0), (32, .ireturn, 33, 0, 0, 0)]
theorem pk_M_holds : okP m_M_holds.1.cls m_M_holds.2.1 p_M_holds := ⟨fl_M, ct_M, fl_M_ok, ct_M_ok, by decide +kernel⟩
def p_M_apartOf : List Rw := [(0, .iload_n 0, 1, 0, 0, 0), (1, .bipush 25, 3, 25, 0, 0), (3, .idiv, 4, 0, 0, 0), (4, .iload_n 1, 5, 0, 0, 0), (5, .bipush 25, 7, 25, 0, 0), (7, .idiv, 8, 0, 0, 0), (8, .if_icmp .ne 7, 11, 0, 15, 0), (11, .iconst 0, 12, 0, 0, 0), (12, .goto 4, 15, 0, 16, 0), (15, .iconst 1, 16, 1, 0, 0), (16, .iload_n 0, 17, 0, 0, 0), (17, .iconst 5, 18, 5, 0, 0), (18, .idiv, 19, 0, 0, 0), (19, .iconst 5, 20, 5, 0, 0), (20, .irem, 21, 0, 0, 0), (21, .iload_n 1, 22, 0, 0, 0), (22, .iconst 5, 23, 5, 0, 0), (23, .idiv, 24, 0, 0, 0), (24, .iconst 5, 25, 5, 0, 0), (25, .irem, 26, 0, 0, 0), (26, .if_icmp .ne 7, 29, 0, 33, 0), (29, .iconst 0, 30, 0, 0, 0), (30, .goto 4, 33, 0, 34, 0), (33, .iconst 1, 34, 1, 0, 0), (34, .iadd, 35, 0, 0, 0), (35, .iload_n 0, 36, 0, 0, 0), (36, .iconst 5, 37, 5, 0, 0), (37, .irem, 38, 0, 0, 0), (38, .iload_n 1, 39, 0, 0, 0), (39, .iconst 5, 40, 5, 0, 0), (40, .irem, 41, 0, 0, 0), (41, .if_icmp .ne 7, 44, 0, 48, 0), (44, .iconst 0, 45, 0, 0, 0), (45, .goto 4, 48, 0, 49, 0), (48, .iconst 1, 49, 1, 0, 0), (49, .iadd, 50, 0, 0, 0), (50, .ireturn, 51, 0, 0, 0)]
theorem pk_M_apartOf : okP m_M_apartOf.1.cls m_M_apartOf.2.1 p_M_apartOf := ⟨fl_M, ct_M, fl_M_ok, ct_M_ok, by decide +kernel⟩
def p_M_apart : List Rw := [(0, .iload_n 1, 1, 0, 0, 0), (1, .invokestatic 93, 4, 0, 0, 0), (4, .ifCond .eq 18, 7, 0, 22, 0), (7, .iload_n 2, 8, 0, 0, 0), (8, .invokestatic 93, 11, 0, 0, 0), (11, .ifCond .eq 11, 14, 0, 22, 0), (14, .iload_n 1, 15, 0, 0, 0), (15, .iload_n 2, 16, 0, 0, 0), (16, .invokestatic 128, 19, 0, 0, 0), (19, .goto 5, 22, 0, 24, 0), (22, .ldc 97, 24, -1000000001, 0, 0), (24, .ireturn, 25, 0, 0, 0)]
theorem pk_M_apart : okP m_M_apart.1.cls m_M_apart.2.1 p_M_apart := ⟨fl_M, ct_M, fl_M_ok, ct_M_ok, by decide +kernel⟩
def p_M_findNears : List Rw := [(0, .aload_n 0, 1, 0, 0, 0), (1, .iconst 0, 2, 0, 0, 0), (2, .invokevirtual 131, 5, 0, 0, 0), (5, .istore_n 1, 6, 0, 0, 0), (6, .iconst 0, 7, 0, 0, 0), (7, .istore_n 2, 8, 0, 0, 0), (8, .iload_n 2, 9, 0, 0, 0), (9, .bipush 16, 11, 16, 0, 0), (11, .if_icmp .ge 75, 14, 0, 86, 0), (14, .aload_n 0, 15, 0, 0, 0), (15, .getfield 54, 18, 0, 8, 27), (18, .iconst 0, 19, 0, 0, 0), (19, .iload_n 2, 20, 0, 0, 0), (20, .iconst 4, 21, 4, 0, 0), (21, .idiv, 22, 0, 0, 0), (22, .iastore, 23, 0, 0, 0), (23, .aload_n 0, 24, 0, 0, 0), (24, .getfield 54, 27, 0, 8, 27), (27, .iconst 1, 28, 1, 0, 0), (28, .iload_n 2, 29, 0, 0, 0), (29, .iconst 2, 30, 2, 0, 0), (30, .idiv, 31, 0, 0, 0), (31, .iconst 2, 32, 2, 0, 0), (32, .irem, 33, 0, 0, 0), (33, .iastore, 34, 0, 0, 0), (34, .aload_n 0, 35, 0, 0, 0), (35, .getfield 54, 38, 0, 8, 27), (38, .iconst 2, 39, 2, 0, 0), (39, .iload_n 2, 40, 0, 0, 0), (40, .iconst 2, 41, 2, 0, 0), (41, .irem, 42, 0, 0, 0), (42, .iastore, 43, 0, 0, 0), (43, .aload_n 0, 44, 0, 0, 0), (44, .getfield 19, 47, 0, 8, 4), (47, .iload_n 2, 48, 0, 0, 0), (48, .iload_n 1, 49, 0, 0, 0), (49, .ifCond .ge 17, 52, 0, 66, 0), (52, .iload_n 2, 53, 0, 0, 0), (53, .iconst 4, 54, 4, 0, 0), (54, .idiv, 55, 0, 0, 0), (55, .ifCond .ne 7, 58, 0, 62, 0), (58, .iconst 1, 59, 1, 0, 0), (59, .goto 20, 62, 0, 79, 0), (62, .iconst 0, 63, 0, 0, 0), (63, .goto 16, 66, 0, 79, 0), (66, .aload_n 0, 67, 0, 0, 0), (67, .iload_n 1, 68, 0, 0, 0), (68, .invokevirtual 134, 71, 0, 0, 0), (71, .ifCond .eq 7, 74, 0, 78, 0), (74, .iconst 1, 75, 1, 0, 0), (75, .goto 4, 78, 0, 79, 0), (78, .iconst 0, 79, 0, 0, 0), (79, .bastore, 80, 0, 0, 0), (80, .iinc 2 1, 83, 1, 0, 0), (83, .goto (-75), 86, 0, 8, 0), (86, .return_, 87, 0, 0, 0)]
theorem pk_M_findNears : okP m_M_findNears.1.cls m_M_findNears.2.1 p_M_findNears := ⟨fl_M, ct_M, fl_M_ok, ct_M_ok, by decide +kernel⟩
def p_M_areNear : List Rw := [(0, .aload_n 0, 1, 0, 0, 0), (1, .getfield 19, 4, 0, 8, 4), (4, .iconst 4, 5, 4, 0, 0), (5, .iload_n 1, 6, 0, 0, 0), (6, .iload_n 2, 7, 0, 0, 0), (7, .invokestatic 128, 10, 0, 0, 0), (10, .imul, 11, 0, 0, 0), (11, .iload_n 1, 12, 0, 0, 0), (12, .bipush 25, 14, 25, 0, 0), (14, .idiv, 15, 0, 0, 0), (15, .iload_n 2, 16, 0, 0, 0), (16, .bipush 25, 18, 25, 0, 0), (18, .idiv, 19, 0, 0, 0), (19, .if_icmp .ne 7, 22, 0, 26, 0), (22, .iconst 2, 23, 2, 0, 0), (23, .goto 4, 26, 0, 27, 0), (26, .iconst 0, 27, 0, 0, 0), (27, .iadd, 28, 0, 0, 0), (28, .iload_n 1, 29, 0, 0, 0), (29, .iconst 5, 30, 5, 0, 0), (30, .irem, 31, 0, 0, 0), (31, .iload_n 2, 32, 0, 0, 0), (32, .iconst 5, 33, 5, 0, 0), (33, .irem, 34, 0, 0, 0), (34, .if_icmp .ne 7, 37, 0, 41, 0), (37, .iconst 1, 38, 1, 0, 0), (38, .goto 4, 41, 0, 42, 0), (41, .iconst 0, 42, 0, 0, 0), (42, .iadd, 43, 0, 0, 0), (43, .baload, 44, 0, 0, 0), (44, .ireturn, 45, 0, 0, 0)]
theorem pk_M_areNear : okP m_M_areNear.1.cls m_M_areNear.2.1 p_M_areNear := ⟨fl_M, ct_M, fl_M_ok, ct_M_ok, by decide +kernel⟩
def p_M_near : List Rw := [(0, .iload_n 1, 1, 0, 0, 0), (1, .invokestatic 93, 4, 0, 0, 0), (4, .ifCond .eq 10, 7, 0, 14, 0), (7, .iload_n 2, 8, 0, 0, 0), (8, .invokestatic 93, 11, 0, 0, 0), (11, .ifCond .ne 6, 14, 0, 17, 0), (14, .ldc 97, 16, -1000000001, 0, 0), (16, .ireturn, 17, 0, 0, 0), (17, .aload_n 0, 18, 0, 0, 0), (18, .invokevirtual 137, 21, 0, 0, 0), (21, .aload_n 0, 22, 0, 0, 0), (22, .iload_n 1, 23, 0, 0, 0), (23, .iload_n 2, 24, 0, 0, 0), (24, .invokevirtual 140, 27, 0, 0, 0), (27, .ifCond .eq 7, 30, 0, 34, 0), (30, .iconst 1, 31, 1, 0, 0), (31, .goto 4, 34, 0, 35, 0), (34, .iconst 0, 35, 0, 0, 0), (35, .ireturn, 36, 0, 0, 0)]
theorem pk_M_near : okP m_M_near.1.cls m_M_near.2.1 p_M_near := ⟨fl_M, ct_M, fl_M_ok, ct_M_ok, by decide +kernel⟩
def p_M_lifetime : List Rw := [(0, .iload_n 1, 1, 0, 0, 0), (1, .iconst 0, 2, 0, 0, 0), (2, .sipush 200, 5, 200, 0, 0), (5, .invokestatic 84, 8, 0, 0, 0), (8, .ifCond .eq 12, 11, 0, 20, 0), (11, .aload_n 0, 12, 0, 0, 0), (12, .iconst 3, 13, 3, 0, 0), (13, .iload_n 1, 14, 0, 0, 0), (14, .invokevirtual 121, 17, 0, 0, 0), (17, .goto 5, 20, 0, 22, 0), (20, .ldc 97, 22, -1000000001, 0, 0), (22, .ireturn, 23, 0, 0, 0)]
theorem pk_M_lifetime : okP m_M_lifetime.1.cls m_M_lifetime.2.1 p_M_lifetime := ⟨fl_M, ct_M, fl_M_ok, ct_M_ok, by decide +kernel⟩
def p_M_draw : List Rw := [(0, .aload_n 0, 1, 0, 0, 0), (1, .getfield 9, 4, 0, 8, 0), (4, .iconst 0, 5, 0, 0, 0), (5, .aload_n 0, 6, 0, 0, 0), (6, .getfield 9, 9, 0, 8, 0), (9, .iconst 0, 10, 0, 0, 0), (10, .iaload, 11, 0, 0, 0), (11, .ldc 143, 13, 1103515245, 0, 0), (13, .imul, 14, 0, 0, 0), (14, .sipush 12345, 17, 12345, 0, 0), (17, .iadd, 18, 0, 0, 0), (18, .iastore, 19, 0, 0, 0), (19, .aload_n 0, 20, 0, 0, 0), (20, .getfield 9, 23, 0, 8, 0), (23, .iconst 0, 24, 0, 0, 0), (24, .iaload, 25, 0, 0, 0), (25, .bipush 8, 27, 8, 0, 0), (27, .iushr, 28, 0, 0, 0), (28, .ireturn, 29, 0, 0, 0)]
theorem pk_M_draw : okP m_M_draw.1.cls m_M_draw.2.1 p_M_draw := ⟨fl_M, ct_M, fl_M_ok, ct_M_ok, by decide +kernel⟩
def p_M_deal : List Rw := [(0, .iload_n 1, 1, 0, 0, 0), (1, .iconst 1, 2, 1, 0, 0), (2, .bipush 10, 4, 10, 0, 0), (4, .invokestatic 84, 7, 0, 0, 0), (7, .ifCond .ne 6, 10, 0, 13, 0), (10, .ldc 97, 12, -1000000001, 0, 0), (12, .ireturn, 13, 0, 0, 0), (13, .iconst 0, 14, 0, 0, 0), (14, .istore_n 2, 15, 0, 0, 0), (15, .iload_n 2, 16, 0, 0, 0), (16, .iload_n 1, 17, 0, 0, 0), (17, .if_icmp .ge 60, 20, 0, 77, 0), (20, .aload_n 0, 21, 0, 0, 0), (21, .getfield 9, 24, 0, 8, 0), (24, .iconst 1, 25, 1, 0, 0), (25, .iaload, 26, 0, 0, 0), (26, .bipush 10, 28, 10, 0, 0), (28, .if_icmp .ge 49, 31, 0, 77, 0), (31, .aload_n 0, 32, 0, 0, 0), (32, .invokevirtual 144, 35, 0, 0, 0), (35, .bipush 6, 37, 6, 0, 0), (37, .irem, 38, 0, 0, 0), (38, .istore_n 3, 39, 0, 0, 0), (39, .aload_n 0, 40, 0, 0, 0), (40, .invokevirtual 144, 43, 0, 0, 0), (43, .bipush 125, 45, 125, 0, 0), (45, .irem, 46, 0, 0, 0), (46, .istore 4, 48, 0, 0, 0), (48, .aload_n 0, 49, 0, 0, 0), (49, .iload_n 3, 50, 0, 0, 0), (50, .iload 4, 52, 0, 0, 0), (52, .aload_n 0, 53, 0, 0, 0), (53, .getfield 9, 56, 0, 8, 0), (56, .iconst 2, 57, 2, 0, 0), (57, .iaload, 58, 0, 0, 0), (58, .aload_n 0, 59, 0, 0, 0), (59, .invokevirtual 144, 62, 0, 0, 0), (62, .bipush 90, 64, 90, 0, 0), (64, .irem, 65, 0, 0, 0), (65, .isub, 66, 0, 0, 0), (66, .invokevirtual 99, 69, 0, 0, 0), (69, .istore 5, 71, 0, 0, 0), (71, .iinc 2 1, 74, 1, 0, 0), (74, .goto (-59), 77, 0, 15, 0), (77, .iload_n 2, 78, 0, 0, 0), (78, .ireturn, 79, 0, 0, 0)]
theorem pk_M_deal : okP m_M_deal.1.cls m_M_deal.2.1 p_M_deal := ⟨fl_M, ct_M, fl_M_ok, ct_M_ok, by decide +kernel⟩
def p_M_seed : List Rw := [(0, .aload_n 0, 1, 0, 0, 0), (1, .iconst 0, 2, 0, 0, 0), (2, .iload_n 1, 3, 0, 0, 0), (3, .invokevirtual 121, 6, 0, 0, 0), (6, .ireturn, 7, 0, 0, 0)]
theorem pk_M_seed : okP m_M_seed.1.cls m_M_seed.2.1 p_M_seed := ⟨fl_M, ct_M, fl_M_ok, ct_M_ok, by decide +kernel⟩
def p_M_isFree : List Rw := [(0, .iconst 0, 1, 0, 0, 0), (1, .istore_n 3, 2, 0, 0, 0), (2, .iload_n 3, 3, 0, 0, 0), (3, .aload_n 0, 4, 0, 0, 0), (4, .getfield 9, 7, 0, 8, 0), (7, .iconst 1, 8, 1, 0, 0), (8, .iaload, 9, 0, 0, 0), (9, .if_icmp .ge 34, 12, 0, 43, 0), (12, .aload_n 0, 13, 0, 0, 0), (13, .iload_n 1, 14, 0, 0, 0), (14, .aload_n 0, 15, 0, 0, 0), (15, .iload_n 3, 16, 0, 0, 0), (16, .iconst 1, 17, 1, 0, 0), (17, .invokevirtual 88, 20, 0, 0, 0), (20, .invokevirtual 140, 23, 0, 0, 0), (23, .ifCond .eq 14, 26, 0, 37, 0), (26, .aload_n 0, 27, 0, 0, 0), (27, .iload_n 3, 28, 0, 0, 0), (28, .iload_n 2, 29, 0, 0, 0), (29, .invokevirtual 109, 32, 0, 0, 0), (32, .ifCond .eq 5, 35, 0, 37, 0), (35, .iconst 0, 36, 0, 0, 0), (36, .ireturn, 37, 0, 0, 0), (37, .iinc 3 1, 40, 1, 0, 0), (40, .goto (-38), 43, 0, 2, 0), (43, .iconst 1, 44, 1, 0, 0), (44, .ireturn, 45, 0, 0, 0)]
theorem pk_M_isFree : okP m_M_isFree.1.cls m_M_isFree.2.1 p_M_isFree := ⟨fl_M, ct_M, fl_M_ok, ct_M_ok, by decide +kernel⟩
def p_M_free : List Rw := [(0, .iload_n 1, 1, 0, 0, 0), (1, .invokestatic 93, 4, 0, 0, 0), (4, .ifCond .eq 10, 7, 0, 14, 0), (7, .iload_n 2, 8, 0, 0, 0), (8, .invokestatic 125, 11, 0, 0, 0), (11, .ifCond .ne 6, 14, 0, 17, 0), (14, .ldc 97, 16, -1000000001, 0, 0), (16, .ireturn, 17, 0, 0, 0), (17, .aload_n 0, 18, 0, 0, 0), (18, .invokevirtual 137, 21, 0, 0, 0), (21, .aload_n 0, 22, 0, 0, 0), (22, .iload_n 1, 23, 0, 0, 0), (23, .iload_n 2, 24, 0, 0, 0), (24, .invokevirtual 148, 27, 0, 0, 0), (27, .ifCond .eq 7, 30, 0, 34, 0), (30, .iconst 1, 31, 1, 0, 0), (31, .goto 4, 34, 0, 35, 0), (34, .iconst 0, 35, 0, 0, 0), (35, .ireturn, 36, 0, 0, 0)]
theorem pk_M_free : okP m_M_free.1.cls m_M_free.2.1 p_M_free := ⟨fl_M, ct_M, fl_M_ok, ct_M_ok, by decide +kernel⟩
def p_M_freeMany : List Rw := [(0, .iconst 0, 1, 0, 0, 0), (1, .istore_n 1, 2, 0, 0, 0), (2, .iconst 0, 3, 0, 0, 0), (3, .istore_n 2, 4, 0, 0, 0), (4, .iload_n 2, 5, 0, 0, 0), (5, .bipush 125, 7, 125, 0, 0), (7, .if_icmp .ge 31, 10, 0, 38, 0), (10, .iload_n 1, 11, 0, 0, 0), (11, .aload_n 0, 12, 0, 0, 0), (12, .iload_n 2, 13, 0, 0, 0), (13, .aload_n 0, 14, 0, 0, 0), (14, .getfield 9, 17, 0, 8, 0), (17, .iconst 2, 18, 2, 0, 0), (18, .iaload, 19, 0, 0, 0), (19, .invokevirtual 148, 22, 0, 0, 0), (22, .ifCond .eq 7, 25, 0, 29, 0), (25, .iconst 1, 26, 1, 0, 0), (26, .goto 4, 29, 0, 30, 0), (29, .iconst 0, 30, 0, 0, 0), (30, .iadd, 31, 0, 0, 0), (31, .istore_n 1, 32, 0, 0, 0), (32, .iinc 2 1, 35, 1, 0, 0), (35, .goto (-31), 38, 0, 4, 0), (38, .iload_n 1, 39, 0, 0, 0), (39, .ireturn, 40, 0, 0, 0)]
theorem pk_M_freeMany : okP m_M_freeMany.1.cls m_M_freeMany.2.1 p_M_freeMany := ⟨fl_M, ct_M, fl_M_ok, ct_M_ok, by decide +kernel⟩
def p_M_leastFree : List Rw := [(0, .iconst 0, 1, 0, 0, 0), (1, .istore_n 1, 2, 0, 0, 0), (2, .iload_n 1, 3, 0, 0, 0), (3, .bipush 125, 5, 125, 0, 0), (5, .if_icmp .ge 25, 8, 0, 30, 0), (8, .aload_n 0, 9, 0, 0, 0), (9, .iload_n 1, 10, 0, 0, 0), (10, .aload_n 0, 11, 0, 0, 0), (11, .getfield 9, 14, 0, 8, 0), (14, .iconst 2, 15, 2, 0, 0), (15, .iaload, 16, 0, 0, 0), (16, .invokevirtual 148, 19, 0, 0, 0), (19, .ifCond .eq 5, 22, 0, 24, 0), (22, .iload_n 1, 23, 0, 0, 0), (23, .ireturn, 24, 0, 0, 0), (24, .iinc 1 1, 27, 1, 0, 0), (27, .goto (-25), 30, 0, 2, 0), (30, .ldc 92, 32, -1000000005, 0, 0), (32, .ireturn, 33, 0, 0, 0)]
theorem pk_M_leastFree : okP m_M_leastFree.1.cls m_M_leastFree.2.1 p_M_leastFree := ⟨fl_M, ct_M, fl_M_ok, ct_M_ok, by decide +kernel⟩
def p_M_frees : List Rw := [(0, .iload_n 1, 1, 0, 0, 0), (1, .iconst 0, 2, 0, 0, 0), (2, .iconst 1, 3, 1, 0, 0), (3, .invokestatic 84, 6, 0, 0, 0), (6, .ifCond .ne 6, 9, 0, 12, 0), (9, .ldc 97, 11, -1000000001, 0, 0), (11, .ireturn, 12, 0, 0, 0), (12, .aload_n 0, 13, 0, 0, 0), (13, .invokevirtual 137, 16, 0, 0, 0), (16, .iload_n 1, 17, 0, 0, 0), (17, .ifCond .ne 10, 20, 0, 27, 0), (20, .aload_n 0, 21, 0, 0, 0), (21, .invokevirtual 151, 24, 0, 0, 0), (24, .goto 7, 27, 0, 31, 0), (27, .aload_n 0, 28, 0, 0, 0), (28, .invokevirtual 154, 31, 0, 0, 0), (31, .ireturn, 32, 0, 0, 0)]
theorem pk_M_frees : okP m_M_frees.1.cls m_M_frees.2.1 p_M_frees := ⟨fl_M, ct_M, fl_M_ok, ct_M_ok, by decide +kernel⟩
def p_M_soonest : List Rw := [(0, .iload_n 1, 1, 0, 0, 0), (1, .invokestatic 93, 4, 0, 0, 0), (4, .ifCond .ne 6, 7, 0, 10, 0), (7, .ldc 97, 9, -1000000001, 0, 0), (9, .ireturn, 10, 0, 0, 0), (10, .aload_n 0, 11, 0, 0, 0), (11, .invokevirtual 137, 14, 0, 0, 0), (14, .aload_n 0, 15, 0, 0, 0), (15, .getfield 9, 18, 0, 8, 0), (18, .iconst 2, 19, 2, 0, 0), (19, .iaload, 20, 0, 0, 0), (20, .istore_n 2, 21, 0, 0, 0), (21, .iload_n 2, 22, 0, 0, 0), (22, .aload_n 0, 23, 0, 0, 0), (23, .getfield 9, 26, 0, 8, 0), (26, .iconst 2, 27, 2, 0, 0), (27, .iaload, 28, 0, 0, 0), (28, .sipush 300, 31, 300, 0, 0), (31, .iadd, 32, 0, 0, 0), (32, .if_icmp .gt 20, 35, 0, 52, 0), (35, .aload_n 0, 36, 0, 0, 0), (36, .iload_n 1, 37, 0, 0, 0), (37, .iload_n 2, 38, 0, 0, 0), (38, .invokevirtual 148, 41, 0, 0, 0), (41, .ifCond .eq 5, 44, 0, 46, 0), (44, .iload_n 2, 45, 0, 0, 0), (45, .ireturn, 46, 0, 0, 0), (46, .iinc 2 1, 49, 1, 0, 0), (49, .goto (-28), 52, 0, 21, 0), (52, .ldc 92, 54, -1000000005, 0, 0), (54, .ireturn, 55, 0, 0, 0)]
theorem pk_M_soonest : okP m_M_soonest.1.cls m_M_soonest.2.1 p_M_soonest := ⟨fl_M, ct_M, fl_M_ok, ct_M_ok, by decide +kernel⟩
def p_M_child : List Rw := [(0, .iload_n 1, 1, 0, 0, 0), (1, .invokestatic 93, 4, 0, 0, 0), (4, .ifCond .eq 10, 7, 0, 14, 0), (7, .iload_n 2, 8, 0, 0, 0), (8, .invokestatic 93, 11, 0, 0, 0), (11, .ifCond .ne 6, 14, 0, 17, 0), (14, .ldc 97, 16, -1000000001, 0, 0), (16, .ireturn, 17, 0, 0, 0), (17, .aload_n 0, 18, 0, 0, 0), (18, .getfield 9, 21, 0, 8, 0), (21, .iconst 4, 22, 4, 0, 0), (22, .iaload, 23, 0, 0, 0), (23, .bipush 6, 25, 6, 0, 0), (25, .if_icmp .ne 6, 28, 0, 31, 0), (28, .ldc 98, 30, -1000000003, 0, 0), (30, .ireturn, 31, 0, 0, 0), (31, .aload_n 0, 32, 0, 0, 0), (32, .getfield 9, 35, 0, 8, 0), (35, .bipush 6, 37, 6, 0, 0), (37, .iconst 2, 38, 2, 0, 0), (38, .aload_n 0, 39, 0, 0, 0), (39, .getfield 9, 42, 0, 8, 0), (42, .iconst 4, 43, 4, 0, 0), (43, .iaload, 44, 0, 0, 0), (44, .imul, 45, 0, 0, 0), (45, .iadd, 46, 0, 0, 0), (46, .iload_n 1, 47, 0, 0, 0), (47, .iastore, 48, 0, 0, 0), (48, .aload_n 0, 49, 0, 0, 0), (49, .getfield 9, 52, 0, 8, 0), (52, .bipush 6, 54, 6, 0, 0), (54, .iconst 2, 55, 2, 0, 0), (55, .aload_n 0, 56, 0, 0, 0), (56, .getfield 9, 59, 0, 8, 0), (59, .iconst 4, 60, 4, 0, 0), (60, .iaload, 61, 0, 0, 0), (61, .imul, 62, 0, 0, 0), (62, .iadd, 63, 0, 0, 0), (63, .iconst 1, 64, 1, 0, 0), (64, .iadd, 65, 0, 0, 0), (65, .iload_n 2, 66, 0, 0, 0), (66, .iastore, 67, 0, 0, 0), (67, .aload_n 0, 68, 0, 0, 0), (68, .getfield 9, 71, 0, 8, 0), (71, .iconst 4, 72, 4, 0, 0), (72, .dup2, 73, 0, 0, 0), (73, .iaload, 74, 0, 0, 0), (74, .iconst 1, 75, 1, 0, 0), (75, .iadd, 76, 0, 0, 0), (76, .iastore, 77, 0, 0, 0), (77, .aload_n 0, 78, 0, 0, 0), (78, .getfield 9, 81, 0, 8, 0), (81, .iconst 4, 82, 4, 0, 0), (82, .iaload, 83, 0, 0, 0), (83, .iconst 1, 84, 1, 0, 0), (84, .isub, 85, 0, 0, 0), (85, .ireturn, 86, 0, 0, 0)]
theorem pk_M_child : okP m_M_child.1.cls m_M_child.2.1 p_M_child := ⟨fl_M, ct_M, fl_M_ok, ct_M_ok, by decide +kernel⟩
def p_M_forget : List Rw := [(0, .aload_n 0, 1, 0, 0, 0), (1, .iconst 4, 2, 4, 0, 0), (2, .iconst 0, 3, 0, 0, 0), (3, .invokevirtual 121, 6, 0, 0, 0), (6, .ireturn, 7, 0, 0, 0)]
theorem pk_M_forget : okP m_M_forget.1.cls m_M_forget.2.1 p_M_forget := ⟨fl_M, ct_M, fl_M_ok, ct_M_ok, by decide +kernel⟩
def p_M_mayHave : List Rw := [(0, .aload_n 0, 1, 0, 0, 0), (1, .iload_n 2, 2, 0, 0, 0), (2, .aload_n 0, 3, 0, 0, 0), (3, .getfield 9, 6, 0, 8, 0), (6, .iconst 2, 7, 2, 0, 0), (7, .iaload, 8, 0, 0, 0), (8, .invokevirtual 148, 11, 0, 0, 0), (11, .ifCond .ne 5, 14, 0, 16, 0), (14, .iconst 0, 15, 0, 0, 0), (15, .ireturn, 16, 0, 0, 0), (16, .iconst 0, 17, 0, 0, 0), (17, .istore_n 3, 18, 0, 0, 0), (18, .iload_n 3, 19, 0, 0, 0), (19, .iload_n 1, 20, 0, 0, 0), (20, .if_icmp .ge 34, 23, 0, 54, 0), (23, .aload_n 0, 24, 0, 0, 0), (24, .getfield 23, 27, 0, 8, 5), (27, .iload_n 3, 28, 0, 0, 0), (28, .iaload, 29, 0, 0, 0), (29, .ifCond .lt 19, 32, 0, 48, 0), (32, .aload_n 0, 33, 0, 0, 0), (33, .aload_n 0, 34, 0, 0, 0), (34, .getfield 23, 37, 0, 8, 5), (37, .iload_n 3, 38, 0, 0, 0), (38, .iaload, 39, 0, 0, 0), (39, .iload_n 2, 40, 0, 0, 0), (40, .invokevirtual 140, 43, 0, 0, 0), (43, .ifCond .eq 5, 46, 0, 48, 0), (46, .iconst 0, 47, 0, 0, 0), (47, .ireturn, 48, 0, 0, 0), (48, .iinc 3 1, 51, 1, 0, 0), (51, .goto (-33), 54, 0, 18, 0), (54, .iconst 1, 55, 1, 0, 0), (55, .ireturn, 56, 0, 0, 0)]
theorem pk_M_mayHave : okP m_M_mayHave.1.cls m_M_mayHave.2.1 p_M_mayHave := ⟨fl_M, ct_M, fl_M_ok, ct_M_ok, by decide +kernel⟩
def p_M_deals : List Rw := [(0, .iload_n 1, 1, 0, 0, 0), (1, .aload_n 0, 2, 0, 0, 0), (2, .getfield 9, 5, 0, 8, 0), (5, .iconst 4, 6, 4, 0, 0), (6, .iaload, 7, 0, 0, 0), (7, .if_icmp .ne 67, 10, 0, 74, 0), (10, .iload_n 2, 11, 0, 0, 0), (11, .aload_n 0, 12, 0, 0, 0), (12, .getfield 157, 15, 0, 8, 7), (15, .if_icmp .gt 19, 18, 0, 34, 0), (18, .iload_n 2, 19, 0, 0, 0), (19, .aload_n 0, 20, 0, 0, 0), (20, .getfield 157, 23, 0, 8, 7), (23, .if_icmp .ne 50, 26, 0, 73, 0), (26, .iload_n 3, 27, 0, 0, 0), (27, .aload_n 0, 28, 0, 0, 0), (28, .getfield 161, 31, 0, 8, 8), (31, .if_icmp .le 42, 34, 0, 73, 0), (34, .aload_n 0, 35, 0, 0, 0), (35, .iload_n 2, 36, 0, 0, 0), (36, .putfield 157, 39, 0, 8, 7), (39, .aload_n 0, 40, 0, 0, 0), (40, .iload_n 3, 41, 0, 0, 0), (41, .putfield 161, 44, 0, 8, 8), (44, .iconst 0, 45, 0, 0, 0), (45, .istore 4, 47, 0, 0, 0), (47, .iload 4, 49, 0, 0, 0), (49, .iload_n 1, 50, 0, 0, 0), (50, .if_icmp .ge 23, 53, 0, 73, 0), (53, .aload_n 0, 54, 0, 0, 0), (54, .getfield 26, 57, 0, 8, 6), (57, .iload 4, 59, 0, 0, 0), (59, .aload_n 0, 60, 0, 0, 0), (60, .getfield 23, 63, 0, 8, 5), (63, .iload 4, 65, 0, 0, 0), (65, .iaload, 66, 0, 0, 0), (66, .iastore, 67, 0, 0, 0), (67, .iinc 4 1, 70, 1, 0, 0), (70, .goto (-23), 73, 0, 47, 0), (73, .return_, 74, 0, 0, 0), (74, .iconst 0, 75, 0, 0, 0), (75, .istore 4, 77, 0, 0, 0), (77, .iload 4, 79, 0, 0, 0), (79, .iconst 2, 80, 2, 0, 0), (80, .if_icmp .ge 59, 83, 0, 139, 0), (83, .aload_n 0, 84, 0, 0, 0), (84, .getfield 9, 87, 0, 8, 0), (87, .bipush 6, 89, 6, 0, 0), (89, .iconst 2, 90, 2, 0, 0), (90, .iload_n 1, 91, 0, 0, 0), (91, .imul, 92, 0, 0, 0), (92, .iadd, 93, 0, 0, 0), (93, .iload 4, 95, 0, 0, 0), (95, .iadd, 96, 0, 0, 0), (96, .iaload, 97, 0, 0, 0), (97, .istore 5, 99, 0, 0, 0), (99, .aload_n 0, 100, 0, 0, 0), (100, .iload_n 1, 101, 0, 0, 0), (101, .iload 5, 103, 0, 0, 0), (103, .invokevirtual 164, 106, 0, 0, 0), (106, .ifCond .eq 27, 109, 0, 133, 0), (109, .aload_n 0, 110, 0, 0, 0), (110, .getfield 23, 113, 0, 8, 5), (113, .iload_n 1, 114, 0, 0, 0), (114, .iload 5, 116, 0, 0, 0), (116, .iastore, 117, 0, 0, 0), (117, .aload_n 0, 118, 0, 0, 0), (118, .iload_n 1, 119, 0, 0, 0), (119, .iconst 1, 120, 1, 0, 0), (120, .iadd, 121, 0, 0, 0), (121, .iload_n 2, 122, 0, 0, 0), (122, .iconst 1, 123, 1, 0, 0), (123, .iadd, 124, 0, 0, 0), (124, .iload_n 3, 125, 0, 0, 0), (125, .iconst 1, 126, 1, 0, 0), (126, .iadd, 127, 0, 0, 0), (127, .iload 4, 129, 0, 0, 0), (129, .isub, 130, 0, 0, 0), (130, .invokevirtual 167, 133, 0, 0, 0), (133, .iinc 4 1, 136, 1, 0, 0), (136, .goto (-59), 139, 0, 77, 0), (139, .aload_n 0, 140, 0, 0, 0), (140, .getfield 23, 143, 0, 8, 5), (143, .iload_n 1, 144, 0, 0, 0), (144, .iconst (-1), 145, -1, 0, 0), (145, .iastore, 146, 0, 0, 0), (146, .aload_n 0, 147, 0, 0, 0), (147, .iload_n 1, 148, 0, 0, 0), (148, .iconst 1, 149, 1, 0, 0), (149, .iadd, 150, 0, 0, 0), (150, .iload_n 2, 151, 0, 0, 0), (151, .iload_n 3, 152, 0, 0, 0), (152, .invokevirtual 167, 155, 0, 0, 0), (155, .return_, 156, 0, 0, 0)]
theorem pk_M_deals : okP m_M_deals.1.cls m_M_deals.2.1 p_M_deals := ⟨fl_M, ct_M, fl_M_ok, ct_M_ok, by decide +kernel⟩
def p_M_findDealing : List Rw := [(0, .aload_n 0, 1, 0, 0, 0), (1, .invokevirtual 137, 4, 0, 0, 0), (4, .aload_n 0, 5, 0, 0, 0), (5, .iconst (-1), 6, -1, 0, 0), (6, .putfield 157, 9, 0, 8, 7), (9, .aload_n 0, 10, 0, 0, 0), (10, .iconst (-1), 11, -1, 0, 0), (11, .putfield 161, 14, 0, 8, 8), (14, .aload_n 0, 15, 0, 0, 0), (15, .iconst 0, 16, 0, 0, 0), (16, .iconst 0, 17, 0, 0, 0), (17, .iconst 0, 18, 0, 0, 0), (18, .invokevirtual 167, 21, 0, 0, 0), (21, .return_, 22, 0, 0, 0)]
theorem pk_M_findDealing : okP m_M_findDealing.1.cls m_M_findDealing.2.1 p_M_findDealing := ⟨fl_M, ct_M, fl_M_ok, ct_M_ok, by decide +kernel⟩
def p_M_dealing : List Rw := [(0, .iload_n 1, 1, 0, 0, 0), (1, .iconst 0, 2, 0, 0, 0), (2, .iconst 1, 3, 1, 0, 0), (3, .aload_n 0, 4, 0, 0, 0), (4, .getfield 9, 7, 0, 8, 0), (7, .iconst 4, 8, 4, 0, 0), (8, .iaload, 9, 0, 0, 0), (9, .iadd, 10, 0, 0, 0), (10, .invokestatic 84, 13, 0, 0, 0), (13, .ifCond .ne 6, 16, 0, 19, 0), (16, .ldc 97, 18, -1000000001, 0, 0), (18, .ireturn, 19, 0, 0, 0), (19, .aload_n 0, 20, 0, 0, 0), (20, .invokevirtual 171, 23, 0, 0, 0), (23, .iload_n 1, 24, 0, 0, 0), (24, .ifCond .ne 10, 27, 0, 34, 0), (27, .aload_n 0, 28, 0, 0, 0), (28, .getfield 157, 31, 0, 8, 7), (31, .goto 39, 34, 0, 70, 0), (34, .iload_n 1, 35, 0, 0, 0), (35, .iconst 1, 36, 1, 0, 0), (36, .if_icmp .ne 10, 39, 0, 46, 0), (39, .aload_n 0, 40, 0, 0, 0), (40, .getfield 161, 43, 0, 8, 8), (43, .goto 27, 46, 0, 70, 0), (46, .aload_n 0, 47, 0, 0, 0), (47, .getfield 26, 50, 0, 8, 6), (50, .iload_n 1, 51, 0, 0, 0), (51, .iconst 2, 52, 2, 0, 0), (52, .isub, 53, 0, 0, 0), (53, .iaload, 54, 0, 0, 0), (54, .ifCond .ge 8, 57, 0, 62, 0), (57, .ldc 92, 59, -1000000005, 0, 0), (59, .goto 11, 62, 0, 70, 0), (62, .aload_n 0, 63, 0, 0, 0), (63, .getfield 26, 66, 0, 8, 6), (66, .iload_n 1, 67, 0, 0, 0), (67, .iconst 2, 68, 2, 0, 0), (68, .isub, 69, 0, 0, 0), (69, .iaload, 70, 0, 0, 0), (70, .ireturn, 71, 0, 0, 0)]
theorem pk_M_dealing : okP m_M_dealing.1.cls m_M_dealing.2.1 p_M_dealing := ⟨fl_M, ct_M, fl_M_ok, ct_M_ok, by decide +kernel⟩
def p_M_christen : List Rw := [(0, .aload_n 0, 1, 0, 0, 0), (1, .invokevirtual 171, 4, 0, 0, 0), (4, .iconst 0, 5, 0, 0, 0), (5, .istore_n 1, 6, 0, 0, 0), (6, .iload_n 1, 7, 0, 0, 0), (7, .aload_n 0, 8, 0, 0, 0), (8, .getfield 9, 11, 0, 8, 0), (11, .iconst 4, 12, 4, 0, 0), (12, .iaload, 13, 0, 0, 0), (13, .if_icmp .ge 47, 16, 0, 60, 0), (16, .aload_n 0, 17, 0, 0, 0), (17, .getfield 26, 20, 0, 8, 6), (20, .iload_n 1, 21, 0, 0, 0), (21, .iaload, 22, 0, 0, 0), (22, .ifCond .lt 32, 25, 0, 54, 0), (25, .aload_n 0, 26, 0, 0, 0), (26, .getfield 9, 29, 0, 8, 0), (29, .iconst 1, 30, 1, 0, 0), (30, .iaload, 31, 0, 0, 0), (31, .bipush 10, 33, 10, 0, 0), (33, .if_icmp .ge 21, 36, 0, 54, 0), (36, .aload_n 0, 37, 0, 0, 0), (37, .iconst 0, 38, 0, 0, 0), (38, .aload_n 0, 39, 0, 0, 0), (39, .getfield 26, 42, 0, 8, 6), (42, .iload_n 1, 43, 0, 0, 0), (43, .iaload, 44, 0, 0, 0), (44, .aload_n 0, 45, 0, 0, 0), (45, .getfield 9, 48, 0, 8, 0), (48, .iconst 2, 49, 2, 0, 0), (49, .iaload, 50, 0, 0, 0), (50, .invokevirtual 99, 53, 0, 0, 0), (53, .istore_n 2, 54, 0, 0, 0), (54, .iinc 1 1, 57, 1, 0, 0), (57, .goto (-51), 60, 0, 6, 0), (60, .aload_n 0, 61, 0, 0, 0), (61, .getfield 9, 64, 0, 8, 0), (64, .iconst 4, 65, 4, 0, 0), (65, .iconst 0, 66, 0, 0, 0), (66, .iastore, 67, 0, 0, 0), (67, .aload_n 0, 68, 0, 0, 0), (68, .getfield 9, 71, 0, 8, 0), (71, .iconst 1, 72, 1, 0, 0), (72, .iaload, 73, 0, 0, 0), (73, .ireturn, 74, 0, 0, 0)]
theorem pk_M_christen : okP m_M_christen.1.cls m_M_christen.2.1 p_M_christen := ⟨fl_M, ct_M, fl_M_ok, ct_M_ok, by decide +kernel⟩
def p_M_yields : List Rw := [(0, .aload_n 0, 1, 0, 0, 0), (1, .iload_n 1, 2, 0, 0, 0), (2, .invokevirtual 106, 5, 0, 0, 0), (5, .ifCond .ne 6, 8, 0, 11, 0), (8, .ldc 97, 10, -1000000001, 0, 0), (10, .ireturn, 11, 0, 0, 0), (11, .aload_n 0, 12, 0, 0, 0), (12, .invokevirtual 137, 15, 0, 0, 0), (15, .iconst 0, 16, 0, 0, 0), (16, .istore_n 2, 17, 0, 0, 0), (17, .iconst 0, 18, 0, 0, 0), (18, .istore_n 3, 19, 0, 0, 0), (19, .iload_n 3, 20, 0, 0, 0), (20, .aload_n 0, 21, 0, 0, 0), (21, .getfield 9, 24, 0, 8, 0), (24, .iconst 1, 25, 1, 0, 0), (25, .iaload, 26, 0, 0, 0), (26, .if_icmp .ge 51, 29, 0, 77, 0), (29, .iload_n 2, 30, 0, 0, 0), (30, .iload_n 3, 31, 0, 0, 0), (31, .iload_n 1, 32, 0, 0, 0), (32, .if_icmp .eq 36, 35, 0, 68, 0), (35, .aload_n 0, 36, 0, 0, 0), (36, .iload_n 3, 37, 0, 0, 0), (37, .invokevirtual 103, 40, 0, 0, 0), (40, .ifCond .eq 28, 43, 0, 68, 0), (43, .aload_n 0, 44, 0, 0, 0), (44, .aload_n 0, 45, 0, 0, 0), (45, .iload_n 1, 46, 0, 0, 0), (46, .iconst 1, 47, 1, 0, 0), (47, .invokevirtual 88, 50, 0, 0, 0), (50, .aload_n 0, 51, 0, 0, 0), (51, .iload_n 3, 52, 0, 0, 0), (52, .iconst 1, 53, 1, 0, 0), (53, .invokevirtual 88, 56, 0, 0, 0), (56, .invokevirtual 140, 59, 0, 0, 0), (59, .ifCond .eq 9, 62, 0, 68, 0), (62, .iconst 1, 63, 1, 0, 0), (63, .iload_n 3, 64, 0, 0, 0), (64, .ishl, 65, 0, 0, 0), (65, .goto 4, 68, 0, 69, 0), (68, .iconst 0, 69, 0, 0, 0), (69, .ior, 70, 0, 0, 0), (70, .istore_n 2, 71, 0, 0, 0), (71, .iinc 3 1, 74, 1, 0, 0), (74, .goto (-55), 77, 0, 19, 0), (77, .iload_n 2, 78, 0, 0, 0), (78, .ireturn, 79, 0, 0, 0)]
theorem pk_M_yields : okP m_M_yields.1.cls m_M_yields.2.1 p_M_yields := ⟨fl_M, ct_M, fl_M_ok, ct_M_ok, by decide +kernel⟩
def p_M_diesBy : List Rw := [(0, .aload_n 0, 1, 0, 0, 0), (1, .getfield 9, 4, 0, 8, 0), (4, .iconst 2, 5, 2, 0, 0), (5, .iaload, 6, 0, 0, 0), (6, .aload_n 0, 7, 0, 0, 0), (7, .iload_n 1, 8, 0, 0, 0), (8, .iconst 2, 9, 2, 0, 0), (9, .invokevirtual 88, 12, 0, 0, 0), (12, .isub, 13, 0, 0, 0), (13, .istore_n 2, 14, 0, 0, 0), (14, .aload_n 0, 15, 0, 0, 0), (15, .iconst 1, 16, 1, 0, 0), (16, .invokevirtual 131, 19, 0, 0, 0), (19, .istore_n 3, 20, 0, 0, 0), (20, .aload_n 0, 21, 0, 0, 0), (21, .getfield 54, 24, 0, 8, 27), (24, .iconst 0, 25, 0, 0, 0), (25, .iload_n 2, 26, 0, 0, 0), (26, .iastore, 27, 0, 0, 0), (27, .aload_n 0, 28, 0, 0, 0), (28, .getfield 54, 31, 0, 8, 27), (31, .iconst 1, 32, 1, 0, 0), (32, .aload_n 0, 33, 0, 0, 0), (33, .iload_n 1, 34, 0, 0, 0), (34, .iconst 0, 35, 0, 0, 0), (35, .invokevirtual 88, 38, 0, 0, 0), (38, .iastore, 39, 0, 0, 0), (39, .iload_n 3, 40, 0, 0, 0), (40, .ifCond .ge 9, 43, 0, 49, 0), (43, .iload_n 2, 44, 0, 0, 0), (44, .iconst 2, 45, 2, 0, 0), (45, .idiv, 46, 0, 0, 0), (46, .goto 14, 49, 0, 60, 0), (49, .aload_n 0, 50, 0, 0, 0), (50, .iload_n 3, 51, 0, 0, 0), (51, .invokevirtual 134, 54, 0, 0, 0), (54, .iconst 0, 55, 0, 0, 0), (55, .bipush 100, 57, 100, 0, 0), (57, .invokestatic 174, 60, 0, 0, 0), (60, .ireturn, 61, 0, 0, 0)]
theorem pk_M_diesBy : okP m_M_diesBy.1.cls m_M_diesBy.2.1 p_M_diesBy := ⟨fl_M, ct_M, fl_M_ok, ct_M_ok, by decide +kernel⟩
def p_M_year : List Rw := [(0, .iconst 0, 1, 0, 0, 0), (1, .istore_n 1, 2, 0, 0, 0), (2, .iconst 0, 3, 0, 0, 0), (3, .istore_n 2, 4, 0, 0, 0), (4, .iload_n 2, 5, 0, 0, 0), (5, .aload_n 0, 6, 0, 0, 0), (6, .getfield 9, 9, 0, 8, 0), (9, .iconst 1, 10, 1, 0, 0), (10, .iaload, 11, 0, 0, 0), (11, .if_icmp .ge 54, 14, 0, 65, 0), (14, .aload_n 0, 15, 0, 0, 0), (15, .iload_n 2, 16, 0, 0, 0), (16, .invokevirtual 103, 19, 0, 0, 0), (19, .ifCond .eq 40, 22, 0, 59, 0), (22, .aload_n 0, 23, 0, 0, 0), (23, .invokevirtual 144, 26, 0, 0, 0), (26, .bipush 100, 28, 100, 0, 0), (28, .irem, 29, 0, 0, 0), (29, .aload_n 0, 30, 0, 0, 0), (30, .iload_n 2, 31, 0, 0, 0), (31, .invokevirtual 177, 34, 0, 0, 0), (34, .if_icmp .ge 25, 37, 0, 59, 0), (37, .aload_n 0, 38, 0, 0, 0), (38, .getfield 9, 41, 0, 8, 0), (41, .bipush 18, 43, 18, 0, 0), (43, .iconst 4, 44, 4, 0, 0), (44, .iload_n 2, 45, 0, 0, 0), (45, .imul, 46, 0, 0, 0), (46, .iadd, 47, 0, 0, 0), (47, .iconst 3, 48, 3, 0, 0), (48, .iadd, 49, 0, 0, 0), (49, .aload_n 0, 50, 0, 0, 0), (50, .getfield 9, 53, 0, 8, 0), (53, .iconst 2, 54, 2, 0, 0), (54, .iaload, 55, 0, 0, 0), (55, .iastore, 56, 0, 0, 0), (56, .iinc 1 1, 59, 1, 0, 0), (59, .iinc 2 1, 62, 1, 0, 0), (62, .goto (-58), 65, 0, 4, 0), (65, .aload_n 0, 66, 0, 0, 0), (66, .getfield 9, 69, 0, 8, 0), (69, .iconst 2, 70, 2, 0, 0), (70, .dup2, 71, 0, 0, 0), (71, .iaload, 72, 0, 0, 0), (72, .iconst 1, 73, 1, 0, 0), (73, .iadd, 74, 0, 0, 0), (74, .iastore, 75, 0, 0, 0), (75, .iload_n 1, 76, 0, 0, 0), (76, .ireturn, 77, 0, 0, 0)]
theorem pk_M_year : okP m_M_year.1.cls m_M_year.2.1 p_M_year := ⟨fl_M, ct_M, fl_M_ok, ct_M_ok, by decide +kernel⟩
def p_M_years : List Rw := [(0, .iload_n 1, 1, 0, 0, 0), (1, .iconst 1, 2, 1, 0, 0), (2, .bipush 100, 4, 100, 0, 0), (4, .invokestatic 84, 7, 0, 0, 0), (7, .ifCond .ne 6, 10, 0, 13, 0), (10, .ldc 97, 12, -1000000001, 0, 0), (12, .ireturn, 13, 0, 0, 0), (13, .iconst 0, 14, 0, 0, 0), (14, .istore_n 2, 15, 0, 0, 0), (15, .iconst 0, 16, 0, 0, 0), (16, .istore_n 3, 17, 0, 0, 0), (17, .iload_n 3, 18, 0, 0, 0), (18, .iload_n 1, 19, 0, 0, 0), (19, .if_icmp .ge 28, 22, 0, 47, 0), (22, .aload_n 0, 23, 0, 0, 0), (23, .getfield 9, 26, 0, 8, 0), (26, .iconst 2, 27, 2, 0, 0), (27, .iaload, 28, 0, 0, 0), (28, .sipush 9999, 31, 9999, 0, 0), (31, .if_icmp .ge 16, 34, 0, 47, 0), (34, .iload_n 2, 35, 0, 0, 0), (35, .aload_n 0, 36, 0, 0, 0), (36, .invokevirtual 180, 39, 0, 0, 0), (39, .iadd, 40, 0, 0, 0), (40, .istore_n 2, 41, 0, 0, 0), (41, .iinc 3 1, 44, 1, 0, 0), (44, .goto (-27), 47, 0, 17, 0), (47, .iload_n 2, 48, 0, 0, 0), (48, .ireturn, 49, 0, 0, 0)]
theorem pk_M_years : okP m_M_years.1.cls m_M_years.2.1 p_M_years := ⟨fl_M, ct_M, fl_M_ok, ct_M_ok, by decide +kernel⟩
def p_M_aliveMany : List Rw := [(0, .iconst 0, 1, 0, 0, 0), (1, .istore_n 1, 2, 0, 0, 0), (2, .iconst 0, 3, 0, 0, 0), (3, .istore_n 2, 4, 0, 0, 0), (4, .iload_n 2, 5, 0, 0, 0), (5, .aload_n 0, 6, 0, 0, 0), (6, .getfield 9, 9, 0, 8, 0), (9, .iconst 1, 10, 1, 0, 0), (10, .iaload, 11, 0, 0, 0), (11, .if_icmp .ge 25, 14, 0, 36, 0), (14, .iload_n 1, 15, 0, 0, 0), (15, .aload_n 0, 16, 0, 0, 0), (16, .iload_n 2, 17, 0, 0, 0), (17, .invokevirtual 103, 20, 0, 0, 0), (20, .ifCond .eq 7, 23, 0, 27, 0), (23, .iconst 1, 24, 1, 0, 0), (24, .goto 4, 27, 0, 28, 0), (27, .iconst 0, 28, 0, 0, 0), (28, .iadd, 29, 0, 0, 0), (29, .istore_n 1, 30, 0, 0, 0), (30, .iinc 2 1, 33, 1, 0, 0), (33, .goto (-29), 36, 0, 4, 0), (36, .iload_n 1, 37, 0, 0, 0), (37, .ireturn, 38, 0, 0, 0)]
theorem pk_M_aliveMany : okP m_M_aliveMany.1.cls m_M_aliveMany.2.1 p_M_aliveMany := ⟨fl_M, ct_M, fl_M_ok, ct_M_ok, by decide +kernel⟩
def p_M_thinks : List Rw := [(0, .iconst 0, 1, 0, 0, 0), (1, .istore_n 1, 2, 0, 0, 0), (2, .iload_n 1, 3, 0, 0, 0), (3, .bipush 58, 5, 58, 0, 0), (5, .if_icmp .ge 21, 8, 0, 26, 0), (8, .aload_n 0, 9, 0, 0, 0), (9, .getfield 29, 12, 0, 8, 9), (12, .iload_n 1, 13, 0, 0, 0), (13, .aload_n 0, 14, 0, 0, 0), (14, .getfield 9, 17, 0, 8, 0), (17, .iload_n 1, 18, 0, 0, 0), (18, .iaload, 19, 0, 0, 0), (19, .iastore, 20, 0, 0, 0), (20, .iinc 1 1, 23, 1, 0, 0), (23, .goto (-21), 26, 0, 2, 0), (26, .return_, 27, 0, 0, 0)]
theorem pk_M_thinks : okP m_M_thinks.1.cls m_M_thinks.2.1 p_M_thinks := ⟨fl_M, ct_M, fl_M_ok, ct_M_ok, by decide +kernel⟩
def p_M_putsBack : List Rw := [(0, .iconst 0, 1, 0, 0, 0), (1, .istore_n 1, 2, 0, 0, 0), (2, .iload_n 1, 3, 0, 0, 0), (3, .bipush 58, 5, 58, 0, 0), (5, .if_icmp .ge 21, 8, 0, 26, 0), (8, .aload_n 0, 9, 0, 0, 0), (9, .getfield 9, 12, 0, 8, 0), (12, .iload_n 1, 13, 0, 0, 0), (13, .aload_n 0, 14, 0, 0, 0), (14, .getfield 29, 17, 0, 8, 9), (17, .iload_n 1, 18, 0, 0, 0), (18, .iaload, 19, 0, 0, 0), (19, .iastore, 20, 0, 0, 0), (20, .iinc 1 1, 23, 1, 0, 0), (23, .goto (-21), 26, 0, 2, 0), (26, .return_, 27, 0, 0, 0)]
theorem pk_M_putsBack : okP m_M_putsBack.1.cls m_M_putsBack.2.1 p_M_putsBack := ⟨fl_M, ct_M, fl_M_ok, ct_M_ok, by decide +kernel⟩
def p_M_behind : List Rw := [(0, .iload_n 1, 1, 0, 0, 0), (1, .iconst 0, 2, 0, 0, 0), (2, .bipush 100, 4, 100, 0, 0), (4, .invokestatic 84, 7, 0, 0, 0), (7, .ifCond .eq 12, 10, 0, 19, 0), (10, .iload_n 2, 11, 0, 0, 0), (11, .iconst 0, 12, 0, 0, 0), (12, .iconst 2, 13, 2, 0, 0), (13, .invokestatic 84, 16, 0, 0, 0), (16, .ifCond .ne 6, 19, 0, 22, 0), (19, .ldc 97, 21, -1000000001, 0, 0), (21, .ireturn, 22, 0, 0, 0), (22, .aload_n 0, 23, 0, 0, 0), (23, .invokevirtual 183, 26, 0, 0, 0), (26, .iconst 0, 27, 0, 0, 0), (27, .istore_n 3, 28, 0, 0, 0), (28, .iload_n 3, 29, 0, 0, 0), (29, .iload_n 1, 30, 0, 0, 0), (30, .if_icmp .ge 15, 33, 0, 45, 0), (33, .aload_n 0, 34, 0, 0, 0), (34, .invokevirtual 180, 37, 0, 0, 0), (37, .istore 4, 39, 0, 0, 0), (39, .iinc 3 1, 42, 1, 0, 0), (42, .goto (-14), 45, 0, 28, 0), (45, .aload_n 0, 46, 0, 0, 0), (46, .invokevirtual 137, 49, 0, 0, 0), (49, .iload_n 2, 50, 0, 0, 0), (50, .ifCond .ne 10, 53, 0, 60, 0), (53, .aload_n 0, 54, 0, 0, 0), (54, .invokevirtual 151, 57, 0, 0, 0), (57, .goto 19, 60, 0, 76, 0), (60, .iload_n 2, 61, 0, 0, 0), (61, .iconst 1, 62, 1, 0, 0), (62, .if_icmp .ne 10, 65, 0, 72, 0), (65, .aload_n 0, 66, 0, 0, 0), (66, .invokevirtual 186, 69, 0, 0, 0), (69, .goto 7, 72, 0, 76, 0), (72, .aload_n 0, 73, 0, 0, 0), (73, .invokevirtual 154, 76, 0, 0, 0), (76, .istore_n 3, 77, 0, 0, 0), (77, .aload_n 0, 78, 0, 0, 0), (78, .invokevirtual 189, 81, 0, 0, 0), (81, .iload_n 3, 82, 0, 0, 0), (82, .ireturn, 83, 0, 0, 0)]
theorem pk_M_behind : okP m_M_behind.1.cls m_M_behind.2.1 p_M_behind := ⟨fl_M, ct_M, fl_M_ok, ct_M_ok, by decide +kernel⟩
def p_M_ends : List Rw := [(0, .aload_n 0, 1, 0, 0, 0), (1, .invokevirtual 183, 4, 0, 0, 0), (4, .aload_n 0, 5, 0, 0, 0), (5, .invokevirtual 137, 8, 0, 0, 0), (8, .iconst 0, 9, 0, 0, 0), (9, .istore_n 1, 10, 0, 0, 0), (10, .iload_n 1, 11, 0, 0, 0), (11, .sipush 200, 14, 200, 0, 0), (14, .if_icmp .gt 23, 17, 0, 37, 0), (17, .aload_n 0, 18, 0, 0, 0), (18, .invokevirtual 154, 21, 0, 0, 0), (21, .ldc 92, 23, -1000000005, 0, 0), (23, .if_icmp .eq 14, 26, 0, 37, 0), (26, .aload_n 0, 27, 0, 0, 0), (27, .invokevirtual 180, 30, 0, 0, 0), (30, .istore_n 2, 31, 0, 0, 0), (31, .iinc 1 1, 34, 1, 0, 0), (34, .goto (-24), 37, 0, 10, 0), (37, .aload_n 0, 38, 0, 0, 0), (38, .invokevirtual 189, 41, 0, 0, 0), (41, .iload_n 1, 42, 0, 0, 0), (42, .sipush 200, 45, 200, 0, 0), (45, .if_icmp .gt 7, 48, 0, 52, 0), (48, .iload_n 1, 49, 0, 0, 0), (49, .goto 5, 52, 0, 54, 0), (52, .ldc 92, 54, -1000000005, 0, 0), (54, .ireturn, 55, 0, 0, 0)]
theorem pk_M_ends : okP m_M_ends.1.cls m_M_ends.2.1 p_M_ends := ⟨fl_M, ct_M, fl_M_ok, ct_M_ok, by decide +kernel⟩
def p_M_stays : List Rw := [(0, .iload_n 1, 1, 0, 0, 0), (1, .invokestatic 93, 4, 0, 0, 0), (4, .ifCond .eq 13, 7, 0, 17, 0), (7, .iload_n 2, 8, 0, 0, 0), (8, .iconst 0, 9, 0, 0, 0), (9, .bipush 100, 11, 100, 0, 0), (11, .invokestatic 84, 14, 0, 0, 0), (14, .ifCond .ne 6, 17, 0, 20, 0), (17, .ldc 97, 19, -1000000001, 0, 0), (19, .ireturn, 20, 0, 0, 0), (20, .aload_n 0, 21, 0, 0, 0), (21, .invokevirtual 183, 24, 0, 0, 0), (24, .aload_n 0, 25, 0, 0, 0), (25, .invokevirtual 137, 28, 0, 0, 0), (28, .aload_n 0, 29, 0, 0, 0), (29, .iload_n 1, 30, 0, 0, 0), (30, .aload_n 0, 31, 0, 0, 0), (31, .getfield 9, 34, 0, 8, 0), (34, .iconst 2, 35, 2, 0, 0), (35, .iaload, 36, 0, 0, 0), (36, .invokevirtual 148, 39, 0, 0, 0), (39, .ifCond .eq 7, 42, 0, 46, 0), (42, .iconst 1, 43, 1, 0, 0), (43, .goto 4, 46, 0, 47, 0), (46, .iconst 0, 47, 0, 0, 0), (47, .istore_n 3, 48, 0, 0, 0), (48, .iconst 0, 49, 0, 0, 0), (49, .istore 4, 51, 0, 0, 0), (51, .iload 4, 53, 0, 0, 0), (53, .iload_n 2, 54, 0, 0, 0), (54, .if_icmp .ge 37, 57, 0, 91, 0), (57, .aload_n 0, 58, 0, 0, 0), (58, .invokevirtual 180, 61, 0, 0, 0), (61, .istore 5, 63, 0, 0, 0), (63, .iload_n 3, 64, 0, 0, 0), (64, .aload_n 0, 65, 0, 0, 0), (65, .iload_n 1, 66, 0, 0, 0), (66, .aload_n 0, 67, 0, 0, 0), (67, .getfield 9, 70, 0, 8, 0), (70, .iconst 2, 71, 2, 0, 0), (71, .iaload, 72, 0, 0, 0), (72, .invokevirtual 148, 75, 0, 0, 0), (75, .ifCond .eq 7, 78, 0, 82, 0), (78, .iconst 1, 79, 1, 0, 0), (79, .goto 4, 82, 0, 83, 0), (82, .iconst 0, 83, 0, 0, 0), (83, .iadd, 84, 0, 0, 0), (84, .istore_n 3, 85, 0, 0, 0), (85, .iinc 4 1, 88, 1, 0, 0), (88, .goto (-37), 91, 0, 51, 0), (91, .aload_n 0, 92, 0, 0, 0), (92, .invokevirtual 189, 95, 0, 0, 0), (95, .iload_n 3, 96, 0, 0, 0), (96, .ireturn, 97, 0, 0, 0)]
theorem pk_M_stays : okP m_M_stays.1.cls m_M_stays.2.1 p_M_stays := ⟨fl_M, ct_M, fl_M_ok, ct_M_ok, by decide +kernel⟩
def p_M_isNearEarlier : List Rw := [(0, .aload_n 0, 1, 0, 0, 0), (1, .getfield 63, 4, 0, 8, 30), (4, .bipush 24, 6, 24, 0, 0), (6, .iload_n 1, 7, 0, 0, 0), (7, .imul, 8, 0, 0, 0), (8, .iload_n 2, 9, 0, 0, 0), (9, .iadd, 10, 0, 0, 0), (10, .iaload, 11, 0, 0, 0), (11, .istore_n 3, 12, 0, 0, 0), (12, .iconst 0, 13, 0, 0, 0), (13, .istore 4, 15, 0, 0, 0), (15, .iload 4, 17, 0, 0, 0), (17, .iload_n 2, 18, 0, 0, 0), (18, .if_icmp .ge 43, 21, 0, 61, 0), (21, .aload_n 0, 22, 0, 0, 0), (22, .getfield 63, 25, 0, 8, 30), (25, .bipush 24, 27, 24, 0, 0), (27, .iload_n 1, 28, 0, 0, 0), (28, .imul, 29, 0, 0, 0), (29, .iload 4, 31, 0, 0, 0), (31, .iadd, 32, 0, 0, 0), (32, .iaload, 33, 0, 0, 0), (33, .istore 5, 35, 0, 0, 0), (35, .iload 5, 37, 0, 0, 0), (37, .invokestatic 93, 40, 0, 0, 0), (40, .ifCond .eq 15, 43, 0, 55, 0), (43, .aload_n 0, 44, 0, 0, 0), (44, .iload_n 3, 45, 0, 0, 0), (45, .iload 5, 47, 0, 0, 0), (47, .invokevirtual 140, 50, 0, 0, 0), (50, .ifCond .eq 5, 53, 0, 55, 0), (53, .iconst 1, 54, 1, 0, 0), (54, .ireturn, 55, 0, 0, 0), (55, .iinc 4 1, 58, 1, 0, 0), (58, .goto (-43), 61, 0, 15, 0), (61, .iconst 0, 62, 0, 0, 0), (62, .ireturn, 63, 0, 0, 0)]
theorem pk_M_isNearEarlier : okP m_M_isNearEarlier.1.cls m_M_isNearEarlier.2.1 p_M_isNearEarlier := ⟨fl_M, ct_M, fl_M_ok, ct_M_ok, by decide +kernel⟩
def p_M_line : List Rw := [(0, .iload_n 1, 1, 0, 0, 0), (1, .invokestatic 192, 4, 0, 0, 0), (4, .ifCond .ne 6, 7, 0, 10, 0), (7, .ldc 97, 9, -1000000001, 0, 0), (9, .ireturn, 10, 0, 0, 0), (10, .aload_n 0, 11, 0, 0, 0), (11, .getfield 57, 14, 0, 8, 28), (14, .iload_n 1, 15, 0, 0, 0), (15, .iaload, 16, 0, 0, 0), (16, .ifCond .ge 6, 19, 0, 22, 0), (19, .ldc 195, 21, -1000000011, 0, 0), (21, .ireturn, 22, 0, 0, 0), (22, .aload_n 0, 23, 0, 0, 0), (23, .invokevirtual 137, 26, 0, 0, 0), (26, .iconst 0, 27, 0, 0, 0), (27, .istore_n 2, 28, 0, 0, 0), (28, .iload_n 2, 29, 0, 0, 0), (29, .aload_n 0, 30, 0, 0, 0), (30, .getfield 60, 33, 0, 8, 29), (33, .iload_n 1, 34, 0, 0, 0), (34, .iaload, 35, 0, 0, 0), (35, .if_icmp .ge 53, 38, 0, 88, 0), (38, .aload_n 0, 39, 0, 0, 0), (39, .getfield 63, 42, 0, 8, 30), (42, .bipush 24, 44, 24, 0, 0), (44, .iload_n 1, 45, 0, 0, 0), (45, .imul, 46, 0, 0, 0), (46, .iload_n 2, 47, 0, 0, 0), (47, .iadd, 48, 0, 0, 0), (48, .iaload, 49, 0, 0, 0), (49, .istore_n 3, 50, 0, 0, 0), (50, .iload_n 3, 51, 0, 0, 0), (51, .invokestatic 93, 54, 0, 0, 0), (54, .ifCond .eq 28, 57, 0, 82, 0), (57, .aload_n 0, 58, 0, 0, 0), (58, .iload_n 3, 59, 0, 0, 0), (59, .aload_n 0, 60, 0, 0, 0), (60, .getfield 9, 63, 0, 8, 0), (63, .iconst 2, 64, 2, 0, 0), (64, .iaload, 65, 0, 0, 0), (65, .invokevirtual 148, 68, 0, 0, 0), (68, .ifCond .eq 12, 71, 0, 80, 0), (71, .aload_n 0, 72, 0, 0, 0), (72, .iload_n 1, 73, 0, 0, 0), (73, .iload_n 2, 74, 0, 0, 0), (74, .invokevirtual 196, 77, 0, 0, 0), (77, .ifCond .eq 5, 80, 0, 82, 0), (80, .iload_n 2, 81, 0, 0, 0), (81, .ireturn, 82, 0, 0, 0), (82, .iinc 2 1, 85, 1, 0, 0), (85, .goto (-57), 88, 0, 28, 0), (88, .ldc 92, 90, -1000000005, 0, 0), (90, .ireturn, 91, 0, 0, 0)]
theorem pk_M_line : okP m_M_line.1.cls m_M_line.2.1 p_M_line := ⟨fl_M, ct_M, fl_M_ok, ct_M_ok, by decide +kernel⟩
def p_M_fine : List Rw := [(0, .aload_n 0, 1, 0, 0, 0), (1, .iconst 2, 2, 2, 0, 0), (2, .invokevirtual 131, 5, 0, 0, 0), (5, .istore_n 1, 6, 0, 0, 0), (6, .aload_n 0, 7, 0, 0, 0), (7, .getfield 54, 10, 0, 8, 27), (10, .iconst 0, 11, 0, 0, 0), (11, .aload_n 0, 12, 0, 0, 0), (12, .getfield 9, 15, 0, 8, 0), (15, .iconst 2, 16, 2, 0, 0), (16, .iaload, 17, 0, 0, 0), (17, .iastore, 18, 0, 0, 0), (18, .aload_n 0, 19, 0, 0, 0), (19, .getfield 54, 22, 0, 8, 27), (22, .iconst 1, 23, 1, 0, 0), (23, .aload_n 0, 24, 0, 0, 0), (24, .invokevirtual 186, 27, 0, 0, 0), (27, .iastore, 28, 0, 0, 0), (28, .iload_n 1, 29, 0, 0, 0), (29, .ifCond .ge 7, 32, 0, 36, 0), (32, .iconst 0, 33, 0, 0, 0), (33, .goto 8, 36, 0, 41, 0), (36, .aload_n 0, 37, 0, 0, 0), (37, .iload_n 1, 38, 0, 0, 0), (38, .invokevirtual 134, 41, 0, 0, 0), (41, .ireturn, 42, 0, 0, 0)]
theorem pk_M_fine : okP m_M_fine.1.cls m_M_fine.2.1 p_M_fine := ⟨fl_M, ct_M, fl_M_ok, ct_M_ok, by decide +kernel⟩
def p_M_feed : List Rw := [(0, .aload_n 0, 1, 0, 0, 0), (1, .getfield 199, 4, 0, 8, 11), (4, .bipush 12, 6, 12, 0, 0), (6, .iadd, 7, 0, 0, 0), (7, .bipush 96, 9, 96, 0, 0), (9, .if_icmp .le 6, 12, 0, 15, 0), (12, .ldc 98, 14, -1000000003, 0, 0), (14, .ireturn, 15, 0, 0, 0), (15, .iconst 0, 16, 0, 0, 0), (16, .istore 4, 18, 0, 0, 0), (18, .iload 4, 20, 0, 0, 0), (20, .bipush 12, 22, 12, 0, 0), (22, .if_icmp .ge 62, 25, 0, 84, 0), (25, .iload 4, 27, 0, 0, 0), (27, .iconst 4, 28, 4, 0, 0), (28, .if_icmp .ge 7, 31, 0, 35, 0), (31, .iload_n 1, 32, 0, 0, 0), (32, .goto 15, 35, 0, 47, 0), (35, .iload 4, 37, 0, 0, 0), (37, .bipush 8, 39, 8, 0, 0), (39, .if_icmp .ge 7, 42, 0, 46, 0), (42, .iload_n 2, 43, 0, 0, 0), (43, .goto 4, 46, 0, 47, 0), (46, .iload_n 3, 47, 0, 0, 0), (47, .istore 5, 49, 0, 0, 0), (49, .aload_n 0, 50, 0, 0, 0), (50, .getfield 32, 53, 0, 8, 10), (53, .aload_n 0, 54, 0, 0, 0), (54, .getfield 199, 57, 0, 8, 11), (57, .iload 4, 59, 0, 0, 0), (59, .iadd, 60, 0, 0, 0), (60, .iload 5, 62, 0, 0, 0), (62, .bipush 24, 64, 24, 0, 0), (64, .bipush 8, 66, 8, 0, 0), (66, .iload 4, 68, 0, 0, 0), (68, .iconst 4, 69, 4, 0, 0), (69, .irem, 70, 0, 0, 0), (70, .imul, 71, 0, 0, 0), (71, .isub, 72, 0, 0, 0), (72, .ishr, 73, 0, 0, 0), (73, .sipush 255, 76, 255, 0, 0), (76, .iand, 77, 0, 0, 0), (77, .iastore, 78, 0, 0, 0), (78, .iinc 4 1, 81, 1, 0, 0), (81, .goto (-63), 84, 0, 18, 0), (84, .aload_n 0, 85, 0, 0, 0), (85, .dup, 86, 0, 0, 0), (86, .getfield 199, 89, 0, 8, 11), (89, .bipush 12, 91, 12, 0, 0), (91, .iadd, 92, 0, 0, 0), (92, .putfield 199, 95, 0, 8, 11), (95, .aload_n 0, 96, 0, 0, 0), (96, .getfield 199, 99, 0, 8, 11), (99, .ireturn, 100, 0, 0, 0)]
theorem pk_M_feed : okP m_M_feed.1.cls m_M_feed.2.1 p_M_feed := ⟨fl_M, ct_M, fl_M_ok, ct_M_ok, by decide +kernel⟩
def p_M_trim : List Rw := [(0, .iload_n 1, 1, 0, 0, 0), (1, .iconst 0, 2, 0, 0, 0), (2, .aload_n 0, 3, 0, 0, 0), (3, .getfield 199, 6, 0, 8, 11), (6, .invokestatic 84, 9, 0, 0, 0), (9, .ifCond .ne 6, 12, 0, 15, 0), (12, .ldc 97, 14, -1000000001, 0, 0), (14, .ireturn, 15, 0, 0, 0), (15, .aload_n 0, 16, 0, 0, 0), (16, .iload_n 1, 17, 0, 0, 0), (17, .putfield 199, 20, 0, 8, 11), (20, .iload_n 1, 21, 0, 0, 0), (21, .ireturn, 22, 0, 0, 0)]
theorem pk_M_trim : okP m_M_trim.1.cls m_M_trim.2.1 p_M_trim := ⟨fl_M, ct_M, fl_M_ok, ct_M_ok, by decide +kernel⟩
def p_M_isLetter : List Rw := [(0, .iload_n 1, 1, 0, 0, 0), (1, .aload_n 0, 2, 0, 0, 0), (2, .getfield 199, 5, 0, 8, 11), (5, .if_icmp .ge 29, 8, 0, 34, 0), (8, .aload_n 0, 9, 0, 0, 0), (9, .getfield 32, 12, 0, 8, 10), (12, .iload_n 1, 13, 0, 0, 0), (13, .iaload, 14, 0, 0, 0), (14, .bipush 97, 16, 97, 0, 0), (16, .if_icmp .lt 18, 19, 0, 34, 0), (19, .aload_n 0, 20, 0, 0, 0), (20, .getfield 32, 23, 0, 8, 10), (23, .iload_n 1, 24, 0, 0, 0), (24, .iaload, 25, 0, 0, 0), (25, .bipush 122, 27, 122, 0, 0), (27, .if_icmp .gt 7, 30, 0, 34, 0), (30, .iconst 1, 31, 1, 0, 0), (31, .goto 4, 34, 0, 35, 0), (34, .iconst 0, 35, 0, 0, 0), (35, .ireturn, 36, 0, 0, 0)]
theorem pk_M_isLetter : okP m_M_isLetter.1.cls m_M_isLetter.2.1 p_M_isLetter := ⟨fl_M, ct_M, fl_M_ok, ct_M_ok, by decide +kernel⟩
def p_M_isFigure : List Rw := [(0, .iload_n 1, 1, 0, 0, 0), (1, .aload_n 0, 2, 0, 0, 0), (2, .getfield 199, 5, 0, 8, 11), (5, .if_icmp .ge 29, 8, 0, 34, 0), (8, .aload_n 0, 9, 0, 0, 0), (9, .getfield 32, 12, 0, 8, 10), (12, .iload_n 1, 13, 0, 0, 0), (13, .iaload, 14, 0, 0, 0), (14, .bipush 48, 16, 48, 0, 0), (16, .if_icmp .lt 18, 19, 0, 34, 0), (19, .aload_n 0, 20, 0, 0, 0), (20, .getfield 32, 23, 0, 8, 10), (23, .iload_n 1, 24, 0, 0, 0), (24, .iaload, 25, 0, 0, 0), (25, .bipush 57, 27, 57, 0, 0), (27, .if_icmp .gt 7, 30, 0, 34, 0), (30, .iconst 1, 31, 1, 0, 0), (31, .goto 4, 34, 0, 35, 0), (34, .iconst 0, 35, 0, 0, 0), (35, .ireturn, 36, 0, 0, 0)]
theorem pk_M_isFigure : okP m_M_isFigure.1.cls m_M_isFigure.2.1 p_M_isFigure := ⟨fl_M, ct_M, fl_M_ok, ct_M_ok, by decide +kernel⟩
def p_M_go : List Rw := [(0, .aload_n 0, 1, 0, 0, 0), (1, .getfield 202, 4, 0, 8, 12), (4, .aload_n 0, 5, 0, 0, 0), (5, .getfield 199, 8, 0, 8, 11), (8, .if_icmp .ge 30, 11, 0, 38, 0), (11, .aload_n 0, 12, 0, 0, 0), (12, .getfield 32, 15, 0, 8, 10), (15, .aload_n 0, 16, 0, 0, 0), (16, .getfield 202, 19, 0, 8, 12), (19, .iaload, 20, 0, 0, 0), (20, .bipush 32, 22, 32, 0, 0), (22, .if_icmp .ne 16, 25, 0, 38, 0), (25, .aload_n 0, 26, 0, 0, 0), (26, .dup, 27, 0, 0, 0), (27, .getfield 202, 30, 0, 8, 12), (30, .iconst 1, 31, 1, 0, 0), (31, .iadd, 32, 0, 0, 0), (32, .putfield 202, 35, 0, 8, 12), (35, .goto (-35), 38, 0, 0, 0), (38, .aload_n 0, 39, 0, 0, 0), (39, .aload_n 0, 40, 0, 0, 0), (40, .getfield 202, 43, 0, 8, 12), (43, .putfield 205, 46, 0, 8, 13), (46, .aload_n 0, 47, 0, 0, 0), (47, .getfield 205, 50, 0, 8, 13), (50, .aload_n 0, 51, 0, 0, 0), (51, .getfield 208, 54, 0, 8, 16), (54, .if_icmp .ne 7, 57, 0, 61, 0), (57, .iconst 1, 58, 1, 0, 0), (58, .goto 4, 61, 0, 62, 0), (61, .iconst 0, 62, 0, 0, 0), (62, .istore_n 1, 63, 0, 0, 0), (63, .aload_n 0, 64, 0, 0, 0), (64, .getfield 205, 67, 0, 8, 13), (67, .aload_n 0, 68, 0, 0, 0), (68, .getfield 199, 71, 0, 8, 11), (71, .if_icmp .ne 11, 74, 0, 82, 0), (74, .aload_n 0, 75, 0, 0, 0), (75, .iconst 0, 76, 0, 0, 0), (76, .putfield 211, 79, 0, 8, 14), (79, .goto 224, 82, 0, 303, 0), (82, .aload_n 0, 83, 0, 0, 0), (83, .aload_n 0, 84, 0, 0, 0), (84, .getfield 205, 87, 0, 8, 13), (87, .invokevirtual 214, 90, 0, 0, 0), (90, .ifCond .eq 64, 93, 0, 154, 0), (93, .aload_n 0, 94, 0, 0, 0), (94, .aload_n 0, 95, 0, 0, 0), (95, .getfield 202, 98, 0, 8, 12), (98, .invokevirtual 214, 101, 0, 0, 0), (101, .ifCond .eq 16, 104, 0, 117, 0), (104, .aload_n 0, 105, 0, 0, 0), (105, .dup, 106, 0, 0, 0), (106, .getfield 202, 109, 0, 8, 12), (109, .iconst 1, 110, 1, 0, 0), (110, .iadd, 111, 0, 0, 0), (111, .putfield 202, 114, 0, 8, 12), (114, .goto (-21), 117, 0, 93, 0), (117, .aload_n 0, 118, 0, 0, 0), (118, .iload_n 1, 119, 0, 0, 0), (119, .ifCond .eq 7, 122, 0, 126, 0), (122, .iconst 4, 123, 4, 0, 0), (123, .goto 4, 126, 0, 127, 0), (126, .iconst 1, 127, 1, 0, 0), (127, .putfield 211, 130, 0, 8, 14), (130, .aload_n 0, 131, 0, 0, 0), (131, .aload_n 0, 132, 0, 0, 0), (132, .getfield 32, 135, 0, 8, 10), (135, .aload_n 0, 136, 0, 0, 0), (136, .getfield 205, 139, 0, 8, 13), (139, .iaload, 140, 0, 0, 0), (140, .putfield 217, 143, 0, 8, 15), (143, .aload_n 0, 144, 0, 0, 0), (144, .aload_n 0, 145, 0, 0, 0), (145, .getfield 202, 148, 0, 8, 12), (148, .putfield 208, 151, 0, 8, 16), (151, .goto 152, 154, 0, 303, 0), (154, .aload_n 0, 155, 0, 0, 0), (155, .aload_n 0, 156, 0, 0, 0), (156, .getfield 205, 159, 0, 8, 13), (159, .invokevirtual 220, 162, 0, 0, 0), (162, .ifCond .eq 113, 165, 0, 275, 0), (165, .aload_n 0, 166, 0, 0, 0), (166, .iconst 0, 167, 0, 0, 0), (167, .putfield 217, 170, 0, 8, 15), (170, .aload_n 0, 171, 0, 0, 0), (171, .aload_n 0, 172, 0, 0, 0), (172, .getfield 202, 175, 0, 8, 12), (175, .invokevirtual 220, 178, 0, 0, 0), (178, .ifCond .eq 60, 181, 0, 238, 0), (181, .aload_n 0, 182, 0, 0, 0), (182, .aload_n 0, 183, 0, 0, 0), (183, .getfield 202, 186, 0, 8, 12), (186, .aload_n 0, 187, 0, 0, 0), (187, .getfield 205, 190, 0, 8, 13), (190, .isub, 191, 0, 0, 0), (191, .iconst 4, 192, 4, 0, 0), (192, .if_icmp .ge 26, 195, 0, 218, 0), (195, .bipush 10, 197, 10, 0, 0), (197, .aload_n 0, 198, 0, 0, 0), (198, .getfield 217, 201, 0, 8, 15), (201, .imul, 202, 0, 0, 0), (202, .aload_n 0, 203, 0, 0, 0), (203, .getfield 32, 206, 0, 8, 10), (206, .aload_n 0, 207, 0, 0, 0), (207, .getfield 202, 210, 0, 8, 12), (210, .iaload, 211, 0, 0, 0), (211, .iadd, 212, 0, 0, 0), (212, .bipush 48, 214, 48, 0, 0), (214, .isub, 215, 0, 0, 0), (215, .goto 7, 218, 0, 222, 0), (218, .aload_n 0, 219, 0, 0, 0), (219, .getfield 217, 222, 0, 8, 15), (222, .putfield 217, 225, 0, 8, 15), (225, .aload_n 0, 226, 0, 0, 0), (226, .dup, 227, 0, 0, 0), (227, .getfield 202, 230, 0, 8, 12), (230, .iconst 1, 231, 1, 0, 0), (231, .iadd, 232, 0, 0, 0), (232, .putfield 202, 235, 0, 8, 12), (235, .goto (-65), 238, 0, 170, 0), (238, .aload_n 0, 239, 0, 0, 0), (239, .iload_n 1, 240, 0, 0, 0), (240, .ifCond .ne 16, 243, 0, 256, 0), (243, .aload_n 0, 244, 0, 0, 0), (244, .getfield 202, 247, 0, 8, 12), (247, .aload_n 0, 248, 0, 0, 0), (248, .getfield 205, 251, 0, 8, 13), (251, .isub, 252, 0, 0, 0), (252, .iconst 4, 253, 4, 0, 0), (253, .if_icmp .le 7, 256, 0, 260, 0), (256, .iconst 4, 257, 4, 0, 0), (257, .goto 4, 260, 0, 261, 0), (260, .iconst 2, 261, 2, 0, 0), (261, .putfield 211, 264, 0, 8, 14), (264, .aload_n 0, 265, 0, 0, 0), (265, .aload_n 0, 266, 0, 0, 0), (266, .getfield 202, 269, 0, 8, 12), (269, .putfield 208, 272, 0, 8, 16), (272, .goto 31, 275, 0, 303, 0), (275, .aload_n 0, 276, 0, 0, 0), (276, .iconst 3, 277, 3, 0, 0), (277, .putfield 211, 280, 0, 8, 14), (280, .aload_n 0, 281, 0, 0, 0), (281, .aload_n 0, 282, 0, 0, 0), (282, .getfield 32, 285, 0, 8, 10), (285, .aload_n 0, 286, 0, 0, 0), (286, .getfield 205, 289, 0, 8, 13), (289, .iaload, 290, 0, 0, 0), (290, .putfield 217, 293, 0, 8, 15), (293, .aload_n 0, 294, 0, 0, 0), (294, .dup, 295, 0, 0, 0), (295, .getfield 202, 298, 0, 8, 12), (298, .iconst 1, 299, 1, 0, 0), (299, .iadd, 300, 0, 0, 0), (300, .putfield 202, 303, 0, 8, 12), (303, .return_, 304, 0, 0, 0)]
theorem pk_M_go : okP m_M_go.1.cls m_M_go.2.1 p_M_go := ⟨fl_M, ct_M, fl_M_ok, ct_M_ok, by decide +kernel⟩
def p_M_takesKey : List Rw := [(0, .aload_n 0, 1, 0, 0, 0), (1, .getfield 211, 4, 0, 8, 14), (4, .iconst 1, 5, 1, 0, 0), (5, .if_icmp .eq 5, 8, 0, 10, 0), (8, .iconst 0, 9, 0, 0, 0), (9, .ireturn, 10, 0, 0, 0), (10, .iconst 0, 11, 0, 0, 0), (11, .istore_n 1, 12, 0, 0, 0), (12, .iload_n 1, 13, 0, 0, 0), (13, .iconst 3, 14, 3, 0, 0), (14, .if_icmp .ge 113, 17, 0, 127, 0), (17, .aload_n 0, 18, 0, 0, 0), (18, .getfield 39, 21, 0, 8, 19), (21, .iload_n 1, 22, 0, 0, 0), (22, .iconst 1, 23, 1, 0, 0), (23, .iadd, 24, 0, 0, 0), (24, .iaload, 25, 0, 0, 0), (25, .aload_n 0, 26, 0, 0, 0), (26, .getfield 39, 29, 0, 8, 19), (29, .iload_n 1, 30, 0, 0, 0), (30, .iaload, 31, 0, 0, 0), (31, .isub, 32, 0, 0, 0), (32, .istore_n 2, 33, 0, 0, 0), (33, .iload_n 2, 34, 0, 0, 0), (34, .aload_n 0, 35, 0, 0, 0), (35, .getfield 202, 38, 0, 8, 12), (38, .aload_n 0, 39, 0, 0, 0), (39, .getfield 205, 42, 0, 8, 13), (42, .isub, 43, 0, 0, 0), (43, .if_icmp .ne 7, 46, 0, 50, 0), (46, .iconst 1, 47, 1, 0, 0), (47, .goto 4, 50, 0, 51, 0), (50, .iconst 0, 51, 0, 0, 0), (51, .istore_n 3, 52, 0, 0, 0), (52, .iconst 0, 53, 0, 0, 0), (53, .istore 4, 55, 0, 0, 0), (55, .iload 4, 57, 0, 0, 0), (57, .iload_n 2, 58, 0, 0, 0), (58, .if_icmp .ge 48, 61, 0, 106, 0), (61, .iload_n 3, 62, 0, 0, 0), (62, .ifCond .eq 44, 65, 0, 106, 0), (65, .aload_n 0, 66, 0, 0, 0), (66, .getfield 32, 69, 0, 8, 10), (69, .aload_n 0, 70, 0, 0, 0), (70, .getfield 205, 73, 0, 8, 13), (73, .iload 4, 75, 0, 0, 0), (75, .iadd, 76, 0, 0, 0), (76, .iaload, 77, 0, 0, 0), (77, .aload_n 0, 78, 0, 0, 0), (78, .getfield 35, 81, 0, 8, 18), (81, .aload_n 0, 82, 0, 0, 0), (82, .getfield 39, 85, 0, 8, 19), (85, .iload_n 1, 86, 0, 0, 0), (86, .iaload, 87, 0, 0, 0), (87, .iload 4, 89, 0, 0, 0), (89, .iadd, 90, 0, 0, 0), (90, .caload, 91, 0, 0, 0), (91, .if_icmp .ne 7, 94, 0, 98, 0), (94, .iconst 1, 95, 1, 0, 0), (95, .goto 4, 98, 0, 99, 0), (98, .iconst 0, 99, 0, 0, 0), (99, .istore_n 3, 100, 0, 0, 0), (100, .iinc 4 1, 103, 1, 0, 0), (103, .goto (-48), 106, 0, 55, 0), (106, .iload_n 3, 107, 0, 0, 0), (107, .ifCond .eq 14, 110, 0, 121, 0), (110, .aload_n 0, 111, 0, 0, 0), (111, .iload_n 1, 112, 0, 0, 0), (112, .putfield 223, 115, 0, 8, 17), (115, .aload_n 0, 116, 0, 0, 0), (116, .invokevirtual 226, 119, 0, 0, 0), (119, .iconst 1, 120, 1, 0, 0), (120, .ireturn, 121, 0, 0, 0), (121, .iinc 1 1, 124, 1, 0, 0), (124, .goto (-112), 127, 0, 12, 0), (127, .iconst 0, 128, 0, 0, 0), (128, .ireturn, 129, 0, 0, 0)]
theorem pk_M_takesKey : okP m_M_takesKey.1.cls m_M_takesKey.2.1 p_M_takesKey := ⟨fl_M, ct_M, fl_M_ok, ct_M_ok, by decide +kernel⟩
def p_M_nameOf : List Rw := [(0, .aload_n 0, 1, 0, 0, 0), (1, .getfield 223, 4, 0, 8, 17), (4, .lookupswitch 82 #[(0, 28), (1, 60)], 32, 0, 0, 0), (32, .iload_n 1, 33, 0, 0, 0), (33, .bipush 100, 35, 100, 0, 0), (35, .if_icmp .ne 7, 38, 0, 42, 0), (38, .iconst 0, 39, 0, 0, 0), (39, .goto 24, 42, 0, 63, 0), (42, .iload_n 1, 43, 0, 0, 0), (43, .bipush 102, 45, 102, 0, 0), (45, .if_icmp .ne 7, 48, 0, 52, 0), (48, .iconst 1, 49, 1, 0, 0), (49, .goto 14, 52, 0, 63, 0), (52, .iload_n 1, 53, 0, 0, 0), (53, .bipush 108, 55, 108, 0, 0), (55, .if_icmp .ne 7, 58, 0, 62, 0), (58, .iconst 2, 59, 2, 0, 0), (59, .goto 4, 62, 0, 63, 0), (62, .iconst (-1), 63, -1, 0, 0), (63, .ireturn, 64, 0, 0, 0), (64, .iload_n 1, 65, 0, 0, 0), (65, .bipush 97, 67, 97, 0, 0), (67, .if_icmp .ne 7, 70, 0, 74, 0), (70, .iconst 0, 71, 0, 0, 0), (71, .goto 14, 74, 0, 85, 0), (74, .iload_n 1, 75, 0, 0, 0), (75, .bipush 107, 77, 107, 0, 0), (77, .if_icmp .ne 7, 80, 0, 84, 0), (80, .iconst 1, 81, 1, 0, 0), (81, .goto 4, 84, 0, 85, 0), (84, .iconst (-1), 85, -1, 0, 0), (85, .ireturn, 86, 0, 0, 0), (86, .iload_n 1, 87, 0, 0, 0), (87, .bipush 121, 89, 121, 0, 0), (89, .if_icmp .ne 7, 92, 0, 96, 0), (92, .iconst 0, 93, 0, 0, 0), (93, .goto 14, 96, 0, 107, 0), (96, .iload_n 1, 97, 0, 0, 0), (97, .bipush 112, 99, 112, 0, 0), (99, .if_icmp .ne 7, 102, 0, 106, 0), (102, .iconst 1, 103, 1, 0, 0), (103, .goto 4, 106, 0, 107, 0), (106, .iconst (-1), 107, -1, 0, 0), (107, .ireturn, 108, 0, 0, 0)]
theorem pk_M_nameOf : okP m_M_nameOf.1.cls m_M_nameOf.2.1 p_M_nameOf := ⟨fl_M, ct_M, fl_M_ok, ct_M_ok, by decide +kernel⟩
def p_M_rank : List Rw := [(0, .iload_n 0, 1, 0, 0, 0), (1, .iconst (-1), 2, -1, 0, 0), (2, .if_icmp .ne 7, 5, 0, 9, 0), (5, .iconst 1, 6, 1, 0, 0), (6, .goto 45, 9, 0, 51, 0), (9, .iload_n 0, 10, 0, 0, 0), (10, .bipush (-2), 12, -2, 0, 0), (12, .if_icmp .ne 7, 15, 0, 19, 0), (15, .iconst 2, 16, 2, 0, 0), (16, .goto 35, 19, 0, 51, 0), (19, .iload_n 0, 20, 0, 0, 0), (20, .bipush (-5), 22, -5, 0, 0), (22, .if_icmp .lt 7, 25, 0, 29, 0), (25, .iconst 3, 26, 3, 0, 0), (26, .goto 25, 29, 0, 51, 0), (29, .iload_n 0, 30, 0, 0, 0), (30, .bipush (-7), 32, -7, 0, 0), (32, .if_icmp .lt 7, 35, 0, 39, 0), (35, .iconst 4, 36, 4, 0, 0), (36, .goto 15, 39, 0, 51, 0), (39, .iload_n 0, 40, 0, 0, 0), (40, .bipush (-9), 42, -9, 0, 0), (42, .if_icmp .lt 7, 45, 0, 49, 0), (45, .iconst 5, 46, 5, 0, 0), (46, .goto 5, 49, 0, 51, 0), (49, .bipush 6, 51, 6, 0, 0), (51, .ireturn, 52, 0, 0, 0)]
theorem pk_M_rank : okP m_M_rank.1.cls m_M_rank.2.1 p_M_rank := ⟨fl_M, ct_M, fl_M_ok, ct_M_ok, by decide +kernel⟩
def p_M_settle : List Rw := [(0, .aload_n 0, 1, 0, 0, 0), (1, .getfield 229, 4, 0, 8, 24), (4, .ifCond .le 78, 7, 0, 82, 0), (7, .aload_n 0, 8, 0, 0, 0), (8, .getfield 45, 11, 0, 8, 23), (11, .aload_n 0, 12, 0, 0, 0), (12, .getfield 229, 15, 0, 8, 24), (15, .iconst 1, 16, 1, 0, 0), (16, .isub, 17, 0, 0, 0), (17, .iaload, 18, 0, 0, 0), (18, .bipush (-11), 20, -11, 0, 0), (20, .if_icmp .eq 62, 23, 0, 82, 0), (23, .aload_n 0, 24, 0, 0, 0), (24, .getfield 45, 27, 0, 8, 23), (27, .aload_n 0, 28, 0, 0, 0), (28, .getfield 229, 31, 0, 8, 24), (31, .iconst 1, 32, 1, 0, 0), (32, .isub, 33, 0, 0, 0), (33, .iaload, 34, 0, 0, 0), (34, .invokestatic 232, 37, 0, 0, 0), (37, .iload_n 1, 38, 0, 0, 0), (38, .if_icmp .lt 44, 41, 0, 82, 0), (41, .aload_n 0, 42, 0, 0, 0), (42, .dup, 43, 0, 0, 0), (43, .getfield 229, 46, 0, 8, 24), (46, .iconst 1, 47, 1, 0, 0), (47, .isub, 48, 0, 0, 0), (48, .putfield 229, 51, 0, 8, 24), (51, .aload_n 0, 52, 0, 0, 0), (52, .getfield 42, 55, 0, 8, 20), (55, .aload_n 0, 56, 0, 0, 0), (56, .getfield 235, 59, 0, 8, 21), (59, .aload_n 0, 60, 0, 0, 0), (60, .getfield 45, 63, 0, 8, 23), (63, .aload_n 0, 64, 0, 0, 0), (64, .getfield 229, 67, 0, 8, 24), (67, .iaload, 68, 0, 0, 0), (68, .iastore, 69, 0, 0, 0), (69, .aload_n 0, 70, 0, 0, 0), (70, .dup, 71, 0, 0, 0), (71, .getfield 235, 74, 0, 8, 21), (74, .iconst 1, 75, 1, 0, 0), (75, .iadd, 76, 0, 0, 0), (76, .putfield 235, 79, 0, 8, 21), (79, .goto (-79), 82, 0, 0, 0), (82, .return_, 83, 0, 0, 0)]
theorem pk_M_settle : okP m_M_settle.1.cls m_M_settle.2.1 p_M_settle := ⟨fl_M, ct_M, fl_M_ok, ct_M_ok, by decide +kernel⟩
def p_M_signHere : List Rw := [(0, .aload_n 0, 1, 0, 0, 0), (1, .getfield 211, 4, 0, 8, 14), (4, .iconst 3, 5, 3, 0, 0), (5, .if_icmp .eq 5, 8, 0, 10, 0), (8, .iconst 0, 9, 0, 0, 0), (9, .ireturn, 10, 0, 0, 0), (10, .aload_n 0, 11, 0, 0, 0), (11, .getfield 217, 14, 0, 8, 15), (14, .lookupswitch 108 #[(38, 84), (42, 102), (43, 96), (45, 99), (47, 105), (60, 87), (61, 90), (62, 93), (124, 82)], 96, 0, 0, 0), (96, .iconst (-1), 97, -1, 0, 0), (97, .ireturn, 98, 0, 0, 0), (98, .bipush (-2), 100, -2, 0, 0), (100, .ireturn, 101, 0, 0, 0), (101, .bipush (-3), 103, -3, 0, 0), (103, .ireturn, 104, 0, 0, 0), (104, .bipush (-4), 106, -4, 0, 0), (106, .ireturn, 107, 0, 0, 0), (107, .bipush (-5), 109, -5, 0, 0), (109, .ireturn, 110, 0, 0, 0), (110, .bipush (-6), 112, -6, 0, 0), (112, .ireturn, 113, 0, 0, 0), (113, .bipush (-7), 115, -7, 0, 0), (115, .ireturn, 116, 0, 0, 0), (116, .bipush (-8), 118, -8, 0, 0), (118, .ireturn, 119, 0, 0, 0), (119, .bipush (-9), 121, -9, 0, 0), (121, .ireturn, 122, 0, 0, 0), (122, .iconst 0, 123, 0, 0, 0), (123, .ireturn, 124, 0, 0, 0)]
theorem pk_M_signHere : okP m_M_signHere.1.cls m_M_signHere.2.1 p_M_signHere := ⟨fl_M, ct_M, fl_M_ok, ct_M_ok, by decide +kernel⟩
def p_M_takesPart : List Rw := [(0, .aload_n 0, 1, 0, 0, 0), (1, .getfield 211, 4, 0, 8, 14), (4, .iconst 1, 5, 1, 0, 0), (5, .if_icmp .ne 31, 8, 0, 36, 0), (8, .aload_n 0, 9, 0, 0, 0), (9, .getfield 202, 12, 0, 8, 12), (12, .aload_n 0, 13, 0, 0, 0), (13, .getfield 205, 16, 0, 8, 13), (16, .isub, 17, 0, 0, 0), (17, .iconst 1, 18, 1, 0, 0), (18, .if_icmp .ne 18, 21, 0, 36, 0), (21, .aload_n 0, 22, 0, 0, 0), (22, .aload_n 0, 23, 0, 0, 0), (23, .getfield 217, 26, 0, 8, 15), (26, .invokevirtual 238, 29, 0, 0, 0), (29, .ifCond .lt 7, 32, 0, 36, 0), (32, .iconst 1, 33, 1, 0, 0), (33, .goto 4, 36, 0, 37, 0), (36, .iconst 0, 37, 0, 0, 0), (37, .istore_n 1, 38, 0, 0, 0), (38, .aload_n 0, 39, 0, 0, 0), (39, .getfield 211, 42, 0, 8, 14), (42, .iconst 2, 43, 2, 0, 0), (43, .if_icmp .eq 9, 46, 0, 52, 0), (46, .iload_n 1, 47, 0, 0, 0), (47, .ifCond .ne 5, 50, 0, 52, 0), (50, .iconst 0, 51, 0, 0, 0), (51, .ireturn, 52, 0, 0, 0), (52, .aload_n 0, 53, 0, 0, 0), (53, .getfield 42, 56, 0, 8, 20), (56, .aload_n 0, 57, 0, 0, 0), (57, .getfield 235, 60, 0, 8, 21), (60, .aload_n 0, 61, 0, 0, 0), (61, .getfield 211, 64, 0, 8, 14), (64, .iconst 2, 65, 2, 0, 0), (65, .if_icmp .ne 10, 68, 0, 75, 0), (68, .aload_n 0, 69, 0, 0, 0), (69, .getfield 217, 72, 0, 8, 15), (72, .goto 15, 75, 0, 87, 0), (75, .sipush 10000, 78, 10000, 0, 0), (78, .aload_n 0, 79, 0, 0, 0), (79, .aload_n 0, 80, 0, 0, 0), (80, .getfield 217, 83, 0, 8, 15), (83, .invokevirtual 238, 86, 0, 0, 0), (86, .iadd, 87, 0, 0, 0), (87, .iastore, 88, 0, 0, 0), (88, .aload_n 0, 89, 0, 0, 0), (89, .dup, 90, 0, 0, 0), (90, .getfield 235, 93, 0, 8, 21), (93, .iconst 1, 94, 1, 0, 0), (94, .iadd, 95, 0, 0, 0), (95, .putfield 235, 98, 0, 8, 21), (98, .aload_n 0, 99, 0, 0, 0), (99, .dup, 100, 0, 0, 0), (100, .getfield 241, 103, 0, 8, 22), (103, .iconst 1, 104, 1, 0, 0), (104, .iadd, 105, 0, 0, 0), (105, .putfield 241, 108, 0, 8, 22), (108, .aload_n 0, 109, 0, 0, 0), (109, .bipush 6, 111, 6, 0, 0), (111, .invokevirtual 244, 114, 0, 0, 0), (114, .aload_n 0, 115, 0, 0, 0), (115, .invokevirtual 226, 118, 0, 0, 0), (118, .iconst 1, 119, 1, 0, 0), (119, .ireturn, 120, 0, 0, 0)]
theorem pk_M_takesPart : okP m_M_takesPart.1.cls m_M_takesPart.2.1 p_M_takesPart := ⟨fl_M, ct_M, fl_M_ok, ct_M_ok, by decide +kernel⟩
def p_M_takesE : List Rw := [(0, .iconst 0, 1, 0, 0, 0), (1, .istore_n 1, 2, 0, 0, 0), (2, .iconst 0, 3, 0, 0, 0), (3, .istore_n 2, 4, 0, 0, 0), (4, .iconst 1, 5, 1, 0, 0), (5, .istore_n 3, 6, 0, 0, 0), (6, .aload_n 0, 7, 0, 0, 0), (7, .iconst 0, 8, 0, 0, 0), (8, .putfield 235, 11, 0, 8, 21), (11, .aload_n 0, 12, 0, 0, 0), (12, .iconst 0, 13, 0, 0, 0), (13, .putfield 241, 16, 0, 8, 22), (16, .aload_n 0, 17, 0, 0, 0), (17, .iconst 0, 18, 0, 0, 0), (18, .putfield 229, 21, 0, 8, 24), (21, .aload_n 0, 22, 0, 0, 0), (22, .getfield 48, 25, 0, 8, 25), (25, .iconst 0, 26, 0, 0, 0), (26, .iconst 0, 27, 0, 0, 0), (27, .bastore, 28, 0, 0, 0), (28, .iload_n 3, 29, 0, 0, 0), (29, .ifCond .ne 10, 32, 0, 39, 0), (32, .aload_n 0, 33, 0, 0, 0), (33, .getfield 211, 36, 0, 8, 14), (36, .ifCond .eq 309, 39, 0, 345, 0), (39, .iload_n 3, 40, 0, 0, 0), (40, .ifCond .eq 140, 43, 0, 180, 0), (43, .aload_n 0, 44, 0, 0, 0), (44, .getfield 211, 47, 0, 8, 14), (47, .iconst 3, 48, 3, 0, 0), (48, .if_icmp .ne 49, 51, 0, 97, 0), (51, .aload_n 0, 52, 0, 0, 0), (52, .getfield 217, 55, 0, 8, 15), (55, .bipush 33, 57, 33, 0, 0), (57, .if_icmp .ne 40, 60, 0, 97, 0), (60, .iload_n 2, 61, 0, 0, 0), (61, .bipush 8, 63, 8, 0, 0), (63, .if_icmp .ge 34, 66, 0, 97, 0), (66, .aload_n 0, 67, 0, 0, 0), (67, .getfield 45, 70, 0, 8, 23), (70, .aload_n 0, 71, 0, 0, 0), (71, .getfield 229, 74, 0, 8, 24), (74, .bipush (-10), 76, -10, 0, 0), (76, .iastore, 77, 0, 0, 0), (77, .aload_n 0, 78, 0, 0, 0), (78, .dup, 79, 0, 0, 0), (79, .getfield 229, 82, 0, 8, 24), (82, .iconst 1, 83, 1, 0, 0), (83, .iadd, 84, 0, 0, 0), (84, .putfield 229, 87, 0, 8, 24), (87, .iinc 2 1, 90, 1, 0, 0), (90, .aload_n 0, 91, 0, 0, 0), (91, .invokevirtual 226, 94, 0, 0, 0), (94, .goto 78, 97, 0, 172, 0), (97, .aload_n 0, 98, 0, 0, 0), (98, .getfield 211, 101, 0, 8, 14), (101, .iconst 3, 102, 3, 0, 0), (102, .if_icmp .ne 56, 105, 0, 158, 0), (105, .aload_n 0, 106, 0, 0, 0), (106, .getfield 217, 109, 0, 8, 15), (109, .bipush 40, 111, 40, 0, 0), (111, .if_icmp .ne 47, 114, 0, 158, 0), (114, .iload_n 1, 115, 0, 0, 0), (115, .bipush 8, 117, 8, 0, 0), (117, .if_icmp .ge 41, 120, 0, 158, 0), (120, .aload_n 0, 121, 0, 0, 0), (121, .getfield 45, 124, 0, 8, 23), (124, .aload_n 0, 125, 0, 0, 0), (125, .getfield 229, 128, 0, 8, 24), (128, .bipush (-11), 130, -11, 0, 0), (130, .iastore, 131, 0, 0, 0), (131, .aload_n 0, 132, 0, 0, 0), (132, .dup, 133, 0, 0, 0), (133, .getfield 229, 136, 0, 8, 24), (136, .iconst 1, 137, 1, 0, 0), (137, .iadd, 138, 0, 0, 0), (138, .putfield 229, 141, 0, 8, 24), (141, .iinc 1 1, 144, 1, 0, 0), (144, .aload_n 0, 145, 0, 0, 0), (145, .getfield 48, 148, 0, 8, 25), (148, .iload_n 1, 149, 0, 0, 0), (149, .iconst 0, 150, 0, 0, 0), (150, .bastore, 151, 0, 0, 0), (151, .aload_n 0, 152, 0, 0, 0), (152, .invokevirtual 226, 155, 0, 0, 0), (155, .goto 17, 158, 0, 172, 0), (158, .aload_n 0, 159, 0, 0, 0), (159, .invokevirtual 248, 162, 0, 0, 0), (162, .ifCond .eq 8, 165, 0, 170, 0), (165, .iconst 0, 166, 0, 0, 0), (166, .istore_n 3, 167, 0, 0, 0), (167, .goto 5, 170, 0, 172, 0), (170, .iconst 0, 171, 0, 0, 0), (171, .ireturn, 172, 0, 0, 0), (172, .aload_n 0, 173, 0, 0, 0), (173, .invokevirtual 252, 176, 0, 0, 0), (176, .istore_n 2, 177, 0, 0, 0), (177, .goto (-149), 180, 0, 28, 0), (180, .aload_n 0, 181, 0, 0, 0), (181, .getfield 211, 184, 0, 8, 14), (184, .iconst 3, 185, 3, 0, 0), (185, .if_icmp .ne 52, 188, 0, 237, 0), (188, .aload_n 0, 189, 0, 0, 0), (189, .getfield 217, 192, 0, 8, 15), (192, .bipush 41, 194, 41, 0, 0), (194, .if_icmp .ne 43, 197, 0, 237, 0), (197, .iload_n 1, 198, 0, 0, 0), (198, .ifCond .le 39, 201, 0, 237, 0), (201, .aload_n 0, 202, 0, 0, 0), (202, .iconst 0, 203, 0, 0, 0), (203, .invokevirtual 244, 206, 0, 0, 0), (206, .aload_n 0, 207, 0, 0, 0), (207, .dup, 208, 0, 0, 0), (208, .getfield 229, 211, 0, 8, 24), (211, .iconst 1, 212, 1, 0, 0), (212, .isub, 213, 0, 0, 0), (213, .putfield 229, 216, 0, 8, 24), (216, .iinc 1 (-1), 219, -1, 0, 0), (219, .aload_n 0, 220, 0, 0, 0), (220, .bipush 6, 222, 6, 0, 0), (222, .invokevirtual 244, 225, 0, 0, 0), (225, .aload_n 0, 226, 0, 0, 0), (226, .invokevirtual 252, 229, 0, 0, 0), (229, .istore_n 2, 230, 0, 0, 0), (230, .aload_n 0, 231, 0, 0, 0), (231, .invokevirtual 226, 234, 0, 0, 0), (234, .goto (-206), 237, 0, 28, 0), (237, .aload_n 0, 238, 0, 0, 0), (238, .invokevirtual 255, 241, 0, 0, 0), (241, .istore 4, 243, 0, 0, 0), (243, .iload 4, 245, 0, 0, 0), (245, .ifCond .eq 21, 248, 0, 266, 0), (248, .iload 4, 250, 0, 0, 0), (250, .invokestatic 232, 253, 0, 0, 0), (253, .iconst 3, 254, 3, 0, 0), (254, .if_icmp .ne 14, 257, 0, 268, 0), (257, .aload_n 0, 258, 0, 0, 0), (258, .getfield 48, 261, 0, 8, 25), (261, .iload_n 1, 262, 0, 0, 0), (262, .baload, 263, 0, 0, 0), (263, .ifCond .eq 5, 266, 0, 268, 0), (266, .iconst 0, 267, 0, 0, 0), (267, .ireturn, 268, 0, 0, 0), (268, .aload_n 0, 269, 0, 0, 0), (269, .getfield 48, 272, 0, 8, 25), (272, .iload_n 1, 273, 0, 0, 0), (273, .iload 4, 275, 0, 0, 0), (275, .invokestatic 232, 278, 0, 0, 0), (278, .iconst 3, 279, 3, 0, 0), (279, .if_icmp .eq 21, 282, 0, 300, 0), (282, .iload 4, 284, 0, 0, 0), (284, .invokestatic 232, 287, 0, 0, 0), (287, .iconst 3, 288, 3, 0, 0), (288, .if_icmp .le 16, 291, 0, 304, 0), (291, .aload_n 0, 292, 0, 0, 0), (292, .getfield 48, 295, 0, 8, 25), (295, .iload_n 1, 296, 0, 0, 0), (296, .baload, 297, 0, 0, 0), (297, .ifCond .eq 7, 300, 0, 304, 0), (300, .iconst 1, 301, 1, 0, 0), (301, .goto 4, 304, 0, 305, 0), (304, .iconst 0, 305, 0, 0, 0), (305, .bastore, 306, 0, 0, 0), (306, .aload_n 0, 307, 0, 0, 0), (307, .iload 4, 309, 0, 0, 0), (309, .invokestatic 232, 312, 0, 0, 0), (312, .invokevirtual 244, 315, 0, 0, 0), (315, .aload_n 0, 316, 0, 0, 0), (316, .getfield 45, 319, 0, 8, 23), (319, .aload_n 0, 320, 0, 0, 0), (320, .getfield 229, 323, 0, 8, 24), (323, .iload 4, 325, 0, 0, 0), (325, .iastore, 326, 0, 0, 0), (326, .aload_n 0, 327, 0, 0, 0), (327, .dup, 328, 0, 0, 0), (328, .getfield 229, 331, 0, 8, 24), (331, .iconst 1, 332, 1, 0, 0), (332, .iadd, 333, 0, 0, 0), (333, .putfield 229, 336, 0, 8, 24), (336, .iconst 1, 337, 1, 0, 0), (337, .istore_n 3, 338, 0, 0, 0), (338, .aload_n 0, 339, 0, 0, 0), (339, .invokevirtual 226, 342, 0, 0, 0), (342, .goto (-314), 345, 0, 28, 0), (345, .aload_n 0, 346, 0, 0, 0), (346, .iconst 0, 347, 0, 0, 0), (347, .invokevirtual 244, 350, 0, 0, 0), (350, .iload_n 1, 351, 0, 0, 0), (351, .ifCond .ne 7, 354, 0, 358, 0), (354, .iconst 1, 355, 1, 0, 0), (355, .goto 4, 358, 0, 359, 0), (358, .iconst 0, 359, 0, 0, 0), (359, .ireturn, 360, 0, 0, 0)]
theorem pk_M_takesE : okP m_M_takesE.1.cls m_M_takesE.2.1 p_M_takesE := ⟨fl_M, ct_M, fl_M_ok, ct_M_ok, by decide +kernel⟩
def p_M_notsOpen : List Rw := [(0, .iconst 0, 1, 0, 0, 0), (1, .istore_n 1, 2, 0, 0, 0), (2, .iconst 0, 3, 0, 0, 0), (3, .istore_n 2, 4, 0, 0, 0), (4, .iload_n 2, 5, 0, 0, 0), (5, .aload_n 0, 6, 0, 0, 0), (6, .getfield 229, 9, 0, 8, 24), (9, .if_icmp .ge 28, 12, 0, 37, 0), (12, .iload_n 1, 13, 0, 0, 0), (13, .aload_n 0, 14, 0, 0, 0), (14, .getfield 45, 17, 0, 8, 23), (17, .iload_n 2, 18, 0, 0, 0), (18, .iaload, 19, 0, 0, 0), (19, .bipush (-10), 21, -10, 0, 0), (21, .if_icmp .ne 7, 24, 0, 28, 0), (24, .iconst 1, 25, 1, 0, 0), (25, .goto 4, 28, 0, 29, 0), (28, .iconst 0, 29, 0, 0, 0), (29, .iadd, 30, 0, 0, 0), (30, .istore_n 1, 31, 0, 0, 0), (31, .iinc 2 1, 34, 1, 0, 0), (34, .goto (-30), 37, 0, 4, 0), (37, .iload_n 1, 38, 0, 0, 0), (38, .ireturn, 39, 0, 0, 0)]
theorem pk_M_notsOpen : okP m_M_notsOpen.1.cls m_M_notsOpen.2.1 p_M_notsOpen := ⟨fl_M, ct_M, fl_M_ok, ct_M_ok, by decide +kernel⟩
def p_M_text : List Rw := [(0, .aload_n 0, 1, 0, 0, 0), (1, .iconst 0, 2, 0, 0, 0), (2, .putfield 202, 5, 0, 8, 12), (5, .aload_n 0, 6, 0, 0, 0), (6, .iconst (-1), 7, -1, 0, 0), (7, .putfield 208, 10, 0, 8, 16), (10, .aload_n 0, 11, 0, 0, 0), (11, .invokevirtual 226, 14, 0, 0, 0), (14, .aload_n 0, 15, 0, 0, 0), (15, .invokevirtual 258, 18, 0, 0, 0), (18, .ifCond .eq 14, 21, 0, 32, 0), (21, .aload_n 0, 22, 0, 0, 0), (22, .invokevirtual 261, 25, 0, 0, 0), (25, .ifCond .eq 7, 28, 0, 32, 0), (28, .iconst 1, 29, 1, 0, 0), (29, .goto 4, 32, 0, 33, 0), (32, .iconst 0, 33, 0, 0, 0), (33, .istore_n 1, 34, 0, 0, 0), (34, .aload_n 0, 35, 0, 0, 0), (35, .iconst 0, 36, 0, 0, 0), (36, .putfield 199, 39, 0, 8, 11), (39, .iload_n 1, 40, 0, 0, 0), (40, .ifCond .ne 11, 43, 0, 51, 0), (43, .bipush (-100), 45, -100, 0, 0), (45, .aload_n 0, 46, 0, 0, 0), (46, .getfield 205, 49, 0, 8, 13), (49, .isub, 50, 0, 0, 0), (50, .ireturn, 51, 0, 0, 0), (51, .aload_n 0, 52, 0, 0, 0), (52, .getfield 9, 55, 0, 8, 0), (55, .iconst 5, 56, 5, 0, 0), (56, .iaload, 57, 0, 0, 0), (57, .bipush 14, 59, 14, 0, 0), (59, .if_icmp .ne 6, 62, 0, 65, 0), (62, .ldc 98, 64, -1000000003, 0, 0), (64, .ireturn, 65, 0, 0, 0), (65, .aload_n 0, 66, 0, 0, 0), (66, .getfield 9, 69, 0, 8, 0), (69, .iconst 5, 70, 5, 0, 0), (70, .iaload, 71, 0, 0, 0), (71, .istore_n 2, 72, 0, 0, 0), (72, .aload_n 0, 73, 0, 0, 0), (73, .getfield 9, 76, 0, 8, 0), (76, .bipush 58, 78, 58, 0, 0), (78, .iconst 2, 79, 2, 0, 0), (79, .iload_n 2, 80, 0, 0, 0), (80, .imul, 81, 0, 0, 0), (81, .iadd, 82, 0, 0, 0), (82, .sipush 1000, 85, 1000, 0, 0), (85, .aload_n 0, 86, 0, 0, 0), (86, .getfield 223, 89, 0, 8, 17), (89, .imul, 90, 0, 0, 0), (90, .aload_n 0, 91, 0, 0, 0), (91, .getfield 235, 94, 0, 8, 21), (94, .iadd, 95, 0, 0, 0), (95, .iastore, 96, 0, 0, 0), (96, .aload_n 0, 97, 0, 0, 0), (97, .getfield 9, 100, 0, 8, 0), (100, .bipush 58, 102, 58, 0, 0), (102, .iconst 2, 103, 2, 0, 0), (103, .iload_n 2, 104, 0, 0, 0), (104, .imul, 105, 0, 0, 0), (105, .iadd, 106, 0, 0, 0), (106, .iconst 1, 107, 1, 0, 0), (107, .iadd, 108, 0, 0, 0), (108, .aload_n 0, 109, 0, 0, 0), (109, .getfield 241, 112, 0, 8, 22), (112, .iastore, 113, 0, 0, 0), (113, .iconst 0, 114, 0, 0, 0), (114, .istore_n 3, 115, 0, 0, 0), (115, .iload_n 3, 116, 0, 0, 0), (116, .aload_n 0, 117, 0, 0, 0), (117, .getfield 235, 120, 0, 8, 21), (120, .if_icmp .ge 29, 123, 0, 149, 0), (123, .aload_n 0, 124, 0, 0, 0), (124, .getfield 9, 127, 0, 8, 0), (127, .bipush 86, 129, 86, 0, 0), (129, .bipush 96, 131, 96, 0, 0), (131, .iload_n 2, 132, 0, 0, 0), (132, .imul, 133, 0, 0, 0), (133, .iadd, 134, 0, 0, 0), (134, .iload_n 3, 135, 0, 0, 0), (135, .iadd, 136, 0, 0, 0), (136, .aload_n 0, 137, 0, 0, 0), (137, .getfield 42, 140, 0, 8, 20), (140, .iload_n 3, 141, 0, 0, 0), (141, .iaload, 142, 0, 0, 0), (142, .iastore, 143, 0, 0, 0), (143, .iinc 3 1, 146, 1, 0, 0), (146, .goto (-31), 149, 0, 115, 0), (149, .aload_n 0, 150, 0, 0, 0), (150, .getfield 9, 153, 0, 8, 0), (153, .iconst 5, 154, 5, 0, 0), (154, .dup2, 155, 0, 0, 0), (155, .iaload, 156, 0, 0, 0), (156, .iconst 1, 157, 1, 0, 0), (157, .iadd, 158, 0, 0, 0), (158, .iastore, 159, 0, 0, 0), (159, .iload_n 2, 160, 0, 0, 0), (160, .ireturn, 161, 0, 0, 0)]
theorem pk_M_text : okP m_M_text.1.cls m_M_text.2.1 p_M_text := ⟨fl_M, ct_M, fl_M_ok, ct_M_ok, by decide +kernel⟩
def p_M_textTold : List Rw := [(0, .iload_n 1, 1, 0, 0, 0), (1, .iconst 0, 2, 0, 0, 0), (2, .aload_n 0, 3, 0, 0, 0), (3, .getfield 9, 6, 0, 8, 0), (6, .iconst 5, 7, 5, 0, 0), (7, .iaload, 8, 0, 0, 0), (8, .iconst 1, 9, 1, 0, 0), (9, .isub, 10, 0, 0, 0), (10, .invokestatic 84, 13, 0, 0, 0), (13, .ifCond .eq 12, 16, 0, 25, 0), (16, .iload_n 2, 17, 0, 0, 0), (17, .iconst 0, 18, 0, 0, 0), (18, .iconst 1, 19, 1, 0, 0), (19, .invokestatic 84, 22, 0, 0, 0), (22, .ifCond .ne 6, 25, 0, 28, 0), (25, .ldc 97, 27, -1000000001, 0, 0), (27, .ireturn, 28, 0, 0, 0), (28, .iload_n 2, 29, 0, 0, 0), (29, .ifCond .ne 21, 32, 0, 50, 0), (32, .aload_n 0, 33, 0, 0, 0), (33, .getfield 9, 36, 0, 8, 0), (36, .bipush 58, 38, 58, 0, 0), (38, .iconst 2, 39, 2, 0, 0), (39, .iload_n 1, 40, 0, 0, 0), (40, .imul, 41, 0, 0, 0), (41, .iadd, 42, 0, 0, 0), (42, .iaload, 43, 0, 0, 0), (43, .sipush 1000, 46, 1000, 0, 0), (46, .idiv, 47, 0, 0, 0), (47, .goto 16, 50, 0, 63, 0), (50, .aload_n 0, 51, 0, 0, 0), (51, .getfield 9, 54, 0, 8, 0), (54, .bipush 58, 56, 58, 0, 0), (56, .iconst 2, 57, 2, 0, 0), (57, .iload_n 1, 58, 0, 0, 0), (58, .imul, 59, 0, 0, 0), (59, .iadd, 60, 0, 0, 0), (60, .iconst 1, 61, 1, 0, 0), (61, .iadd, 62, 0, 0, 0), (62, .iaload, 63, 0, 0, 0), (63, .ireturn, 64, 0, 0, 0)]
theorem pk_M_textTold : okP m_M_textTold.1.cls m_M_textTold.2.1 p_M_textTold := ⟨fl_M, ct_M, fl_M_ok, ct_M_ok, by decide +kernel⟩
def p_M_counts : List Rw := [(0, .aload_n 0, 1, 0, 0, 0), (1, .getfield 9, 4, 0, 8, 0), (4, .iconst 5, 5, 5, 0, 0), (5, .iaload, 6, 0, 0, 0), (6, .iconst 1, 7, 1, 0, 0), (7, .isub, 8, 0, 0, 0), (8, .istore_n 2, 9, 0, 0, 0), (9, .iload_n 2, 10, 0, 0, 0), (10, .ifCond .lt 30, 13, 0, 40, 0), (13, .aload_n 0, 14, 0, 0, 0), (14, .getfield 9, 17, 0, 8, 0), (17, .bipush 58, 19, 58, 0, 0), (19, .iconst 2, 20, 2, 0, 0), (20, .iload_n 2, 21, 0, 0, 0), (21, .imul, 22, 0, 0, 0), (22, .iadd, 23, 0, 0, 0), (23, .iaload, 24, 0, 0, 0), (24, .sipush 1000, 27, 1000, 0, 0), (27, .idiv, 28, 0, 0, 0), (28, .iload_n 1, 29, 0, 0, 0), (29, .if_icmp .ne 5, 32, 0, 34, 0), (32, .iload_n 2, 33, 0, 0, 0), (33, .ireturn, 34, 0, 0, 0), (34, .iinc 2 (-1), 37, -1, 0, 0), (37, .goto (-28), 40, 0, 9, 0), (40, .iconst (-1), 41, -1, 0, 0), (41, .ireturn, 42, 0, 0, 0)]
theorem pk_M_counts : okP m_M_counts.1.cls m_M_counts.2.1 p_M_counts := ⟨fl_M, ct_M, fl_M_ok, ct_M_ok, by decide +kernel⟩
def p_M_why : List Rw := [(0, .iload_n 1, 1, 0, 0, 0), (1, .iconst 0, 2, 0, 0, 0), (2, .iconst 2, 3, 2, 0, 0), (3, .invokestatic 84, 6, 0, 0, 0), (6, .ifCond .ne 6, 9, 0, 12, 0), (9, .ldc 97, 11, -1000000001, 0, 0), (11, .ireturn, 12, 0, 0, 0), (12, .aload_n 0, 13, 0, 0, 0), (13, .iload_n 1, 14, 0, 0, 0), (14, .invokevirtual 131, 17, 0, 0, 0), (17, .istore_n 2, 18, 0, 0, 0), (18, .iload_n 2, 19, 0, 0, 0), (19, .ifCond .ge 8, 22, 0, 27, 0), (22, .ldc 92, 24, -1000000005, 0, 0), (24, .goto 4, 27, 0, 28, 0), (27, .iload_n 2, 28, 0, 0, 0), (28, .ireturn, 29, 0, 0, 0)]
theorem pk_M_why : okP m_M_why.1.cls m_M_why.2.1 p_M_why := ⟨fl_M, ct_M, fl_M_ok, ct_M_ok, by decide +kernel⟩
def p_M_two : List Rw := [(0, .iload_n 0, 1, 0, 0, 0), (1, .tableswitch 120 (-8) (-1) #[116, 112, 108, 97, 86, 75, 61, 47], 48, 0, 0, 0), (48, .iload_n 1, 49, 0, 0, 0), (49, .ifCond .ne 7, 52, 0, 56, 0), (52, .iload_n 2, 53, 0, 0, 0), (53, .ifCond .eq 7, 56, 0, 60, 0), (56, .iconst 1, 57, 1, 0, 0), (57, .goto 4, 60, 0, 61, 0), (60, .iconst 0, 61, 0, 0, 0), (61, .ireturn, 62, 0, 0, 0), (62, .iload_n 1, 63, 0, 0, 0), (63, .ifCond .eq 11, 66, 0, 74, 0), (66, .iload_n 2, 67, 0, 0, 0), (67, .ifCond .eq 7, 70, 0, 74, 0), (70, .iconst 1, 71, 1, 0, 0), (71, .goto 4, 74, 0, 75, 0), (74, .iconst 0, 75, 0, 0, 0), (75, .ireturn, 76, 0, 0, 0), (76, .iload_n 1, 77, 0, 0, 0), (77, .iload_n 2, 78, 0, 0, 0), (78, .if_icmp .ge 7, 81, 0, 85, 0), (81, .iconst 1, 82, 1, 0, 0), (82, .goto 4, 85, 0, 86, 0), (85, .iconst 0, 86, 0, 0, 0), (86, .ireturn, 87, 0, 0, 0), (87, .iload_n 1, 88, 0, 0, 0), (88, .iload_n 2, 89, 0, 0, 0), (89, .if_icmp .ne 7, 92, 0, 96, 0), (92, .iconst 1, 93, 1, 0, 0), (93, .goto 4, 96, 0, 97, 0), (96, .iconst 0, 97, 0, 0, 0), (97, .ireturn, 98, 0, 0, 0), (98, .iload_n 1, 99, 0, 0, 0), (99, .iload_n 2, 100, 0, 0, 0), (100, .if_icmp .le 7, 103, 0, 107, 0), (103, .iconst 1, 104, 1, 0, 0), (104, .goto 4, 107, 0, 108, 0), (107, .iconst 0, 108, 0, 0, 0), (108, .ireturn, 109, 0, 0, 0), (109, .iload_n 1, 110, 0, 0, 0), (110, .iload_n 2, 111, 0, 0, 0), (111, .iadd, 112, 0, 0, 0), (112, .ireturn, 113, 0, 0, 0), (113, .iload_n 1, 114, 0, 0, 0), (114, .iload_n 2, 115, 0, 0, 0), (115, .isub, 116, 0, 0, 0), (116, .ireturn, 117, 0, 0, 0), (117, .iload_n 1, 118, 0, 0, 0), (118, .iload_n 2, 119, 0, 0, 0), (119, .imul, 120, 0, 0, 0), (120, .ireturn, 121, 0, 0, 0), (121, .iload_n 2, 122, 0, 0, 0), (122, .ifCond .ne 7, 125, 0, 129, 0), (125, .iconst 0, 126, 0, 0, 0), (126, .goto 6, 129, 0, 132, 0), (129, .iload_n 1, 130, 0, 0, 0), (130, .iload_n 2, 131, 0, 0, 0), (131, .idiv, 132, 0, 0, 0), (132, .ireturn, 133, 0, 0, 0)]
theorem pk_M_two : okP m_M_two.1.cls m_M_two.2.1 p_M_two := ⟨fl_M, ct_M, fl_M_ok, ct_M_ok, by decide +kernel⟩
def p_M_worksOut : List Rw := [(0, .iconst 0, 1, 0, 0, 0), (1, .istore_n 2, 2, 0, 0, 0), (2, .aload_n 0, 3, 0, 0, 0), (3, .getfield 9, 6, 0, 8, 0), (6, .bipush 58, 8, 58, 0, 0), (8, .iconst 2, 9, 2, 0, 0), (9, .iload_n 1, 10, 0, 0, 0), (10, .imul, 11, 0, 0, 0), (11, .iadd, 12, 0, 0, 0), (12, .iaload, 13, 0, 0, 0), (13, .sipush 1000, 16, 1000, 0, 0), (16, .irem, 17, 0, 0, 0), (17, .istore_n 3, 18, 0, 0, 0), (18, .iconst 0, 19, 0, 0, 0), (19, .istore 4, 21, 0, 0, 0), (21, .iload 4, 23, 0, 0, 0), (23, .iload_n 3, 24, 0, 0, 0), (24, .if_icmp .ge 131, 27, 0, 155, 0), (27, .aload_n 0, 28, 0, 0, 0), (28, .getfield 9, 31, 0, 8, 0), (31, .bipush 86, 33, 86, 0, 0), (33, .bipush 96, 35, 96, 0, 0), (35, .iload_n 1, 36, 0, 0, 0), (36, .imul, 37, 0, 0, 0), (37, .iadd, 38, 0, 0, 0), (38, .iload 4, 40, 0, 0, 0), (40, .iadd, 41, 0, 0, 0), (41, .iaload, 42, 0, 0, 0), (42, .istore 5, 44, 0, 0, 0), (44, .iload 5, 46, 0, 0, 0), (46, .ifCond .lt 39, 49, 0, 85, 0), (49, .aload_n 0, 50, 0, 0, 0), (50, .getfield 51, 53, 0, 8, 26), (53, .iload_n 2, 54, 0, 0, 0), (54, .iload 5, 56, 0, 0, 0), (56, .sipush 10000, 59, 10000, 0, 0), (59, .if_icmp .ge 8, 62, 0, 67, 0), (62, .iload 5, 64, 0, 0, 0), (64, .goto 14, 67, 0, 78, 0), (67, .aload_n 0, 68, 0, 0, 0), (68, .getfield 54, 71, 0, 8, 27), (71, .iload 5, 73, 0, 0, 0), (73, .sipush 10000, 76, 10000, 0, 0), (76, .isub, 77, 0, 0, 0), (77, .iaload, 78, 0, 0, 0), (78, .iastore, 79, 0, 0, 0), (79, .iinc 2 1, 82, 1, 0, 0), (82, .goto 67, 85, 0, 149, 0), (85, .iload 5, 87, 0, 0, 0), (87, .bipush (-10), 89, -10, 0, 0), (89, .if_icmp .ne 30, 92, 0, 119, 0), (92, .aload_n 0, 93, 0, 0, 0), (93, .getfield 51, 96, 0, 8, 26), (96, .iload_n 2, 97, 0, 0, 0), (97, .iconst 1, 98, 1, 0, 0), (98, .isub, 99, 0, 0, 0), (99, .aload_n 0, 100, 0, 0, 0), (100, .getfield 51, 103, 0, 8, 26), (103, .iload_n 2, 104, 0, 0, 0), (104, .iconst 1, 105, 1, 0, 0), (105, .isub, 106, 0, 0, 0), (106, .iaload, 107, 0, 0, 0), (107, .ifCond .ne 7, 110, 0, 114, 0), (110, .iconst 1, 111, 1, 0, 0), (111, .goto 4, 114, 0, 115, 0), (114, .iconst 0, 115, 0, 0, 0), (115, .iastore, 116, 0, 0, 0), (116, .goto 33, 119, 0, 149, 0), (119, .iinc 2 (-1), 122, -1, 0, 0), (122, .aload_n 0, 123, 0, 0, 0), (123, .getfield 51, 126, 0, 8, 26), (126, .iload_n 2, 127, 0, 0, 0), (127, .iconst 1, 128, 1, 0, 0), (128, .isub, 129, 0, 0, 0), (129, .iload 5, 131, 0, 0, 0), (131, .aload_n 0, 132, 0, 0, 0), (132, .getfield 51, 135, 0, 8, 26), (135, .iload_n 2, 136, 0, 0, 0), (136, .iconst 1, 137, 1, 0, 0), (137, .isub, 138, 0, 0, 0), (138, .iaload, 139, 0, 0, 0), (139, .aload_n 0, 140, 0, 0, 0), (140, .getfield 51, 143, 0, 8, 26), (143, .iload_n 2, 144, 0, 0, 0), (144, .iaload, 145, 0, 0, 0), (145, .invokestatic 264, 148, 0, 0, 0), (148, .iastore, 149, 0, 0, 0), (149, .iinc 4 1, 152, 1, 0, 0), (152, .goto (-131), 155, 0, 21, 0), (155, .aload_n 0, 156, 0, 0, 0), (156, .getfield 51, 159, 0, 8, 26), (159, .iconst 0, 160, 0, 0, 0), (160, .iaload, 161, 0, 0, 0), (161, .ireturn, 162, 0, 0, 0)]
theorem pk_M_worksOut : okP m_M_worksOut.1.cls m_M_worksOut.2.1 p_M_worksOut := ⟨fl_M, ct_M, fl_M_ok, ct_M_ok, by decide +kernel⟩
def p_M_isSheet : List Rw := [(0, .iload_n 0, 1, 0, 0, 0), (1, .iconst 0, 2, 0, 0, 0), (2, .iconst 3, 3, 3, 0, 0), (3, .invokestatic 84, 6, 0, 0, 0), (6, .ireturn, 7, 0, 0, 0)]
theorem pk_M_isSheet : okP m_M_isSheet.1.cls m_M_isSheet.2.1 p_M_isSheet := ⟨fl_M, ct_M, fl_M_ok, ct_M_ok, by decide +kernel⟩
def p_M_isSlot : List Rw := [(0, .iload_n 0, 1, 0, 0, 0), (1, .iconst 0, 2, 0, 0, 0), (2, .iconst 4, 3, 4, 0, 0), (3, .invokestatic 84, 6, 0, 0, 0), (6, .ireturn, 7, 0, 0, 0)]
theorem pk_M_isSlot : okP m_M_isSlot.1.cls m_M_isSlot.2.1 p_M_isSlot := ⟨fl_M, ct_M, fl_M_ok, ct_M_ok, by decide +kernel⟩
def p_M_sheet : List Rw := [(0, .iload_n 1, 1, 0, 0, 0), (1, .invokestatic 192, 4, 0, 0, 0), (4, .ifCond .eq 22, 7, 0, 26, 0), (7, .iload_n 2, 8, 0, 0, 0), (8, .iconst (-1), 9, -1, 0, 0), (9, .iconst 1, 10, 1, 0, 0), (10, .invokestatic 84, 13, 0, 0, 0), (13, .ifCond .eq 13, 16, 0, 26, 0), (16, .iload_n 2, 17, 0, 0, 0), (17, .ifCond .lt 12, 20, 0, 29, 0), (20, .iload_n 3, 21, 0, 0, 0), (21, .bipush 24, 23, 24, 0, 0), (23, .if_icmp .le 6, 26, 0, 29, 0), (26, .ldc 97, 28, -1000000001, 0, 0), (28, .ireturn, 29, 0, 0, 0), (29, .iload_n 2, 30, 0, 0, 0), (30, .ifCond .lt 11, 33, 0, 41, 0), (33, .iload_n 3, 34, 0, 0, 0), (34, .ifCond .ge 7, 37, 0, 41, 0), (37, .ldc_w 267, 40, -1000000014, 0, 0), (40, .ireturn, 41, 0, 0, 0), (41, .aload_n 0, 42, 0, 0, 0), (42, .getfield 57, 45, 0, 8, 28), (45, .iload_n 1, 46, 0, 0, 0), (46, .iload_n 2, 47, 0, 0, 0), (47, .iastore, 48, 0, 0, 0), (48, .aload_n 0, 49, 0, 0, 0), (49, .getfield 60, 52, 0, 8, 29), (52, .iload_n 1, 53, 0, 0, 0), (53, .iload_n 2, 54, 0, 0, 0), (54, .ifCond .ge 7, 57, 0, 61, 0), (57, .iconst 0, 58, 0, 0, 0), (58, .goto 4, 61, 0, 62, 0), (61, .iload_n 3, 62, 0, 0, 0), (62, .iastore, 63, 0, 0, 0), (63, .iconst 0, 64, 0, 0, 0), (64, .istore 4, 66, 0, 0, 0), (66, .iload 4, 68, 0, 0, 0), (68, .bipush 24, 70, 24, 0, 0), (70, .if_icmp .ge 22, 73, 0, 92, 0), (73, .aload_n 0, 74, 0, 0, 0), (74, .getfield 63, 77, 0, 8, 30), (77, .bipush 24, 79, 24, 0, 0), (79, .iload_n 1, 80, 0, 0, 0), (80, .imul, 81, 0, 0, 0), (81, .iload 4, 83, 0, 0, 0), (83, .iadd, 84, 0, 0, 0), (84, .iconst 0, 85, 0, 0, 0), (85, .iastore, 86, 0, 0, 0), (86, .iinc 4 1, 89, 1, 0, 0), (89, .goto (-23), 92, 0, 66, 0), (92, .aload_n 0, 93, 0, 0, 0), (93, .getfield 60, 96, 0, 8, 29), (96, .iload_n 1, 97, 0, 0, 0), (97, .iaload, 98, 0, 0, 0), (98, .ireturn, 99, 0, 0, 0)]
theorem pk_M_sheet : okP m_M_sheet.1.cls m_M_sheet.2.1 p_M_sheet := ⟨fl_M, ct_M, fl_M_ok, ct_M_ok, by decide +kernel⟩
def p_M_mark : List Rw := [(0, .iload_n 1, 1, 0, 0, 0), (1, .invokestatic 192, 4, 0, 0, 0), (4, .ifCond .ne 6, 7, 0, 10, 0), (7, .ldc 97, 9, -1000000001, 0, 0), (9, .ireturn, 10, 0, 0, 0), (10, .aload_n 0, 11, 0, 0, 0), (11, .getfield 57, 14, 0, 8, 28), (14, .iload_n 1, 15, 0, 0, 0), (15, .iaload, 16, 0, 0, 0), (16, .ifCond .ge 6, 19, 0, 22, 0), (19, .ldc 195, 21, -1000000011, 0, 0), (21, .ireturn, 22, 0, 0, 0), (22, .iload_n 2, 23, 0, 0, 0), (23, .iconst 0, 24, 0, 0, 0), (24, .aload_n 0, 25, 0, 0, 0), (25, .getfield 60, 28, 0, 8, 29), (28, .iload_n 1, 29, 0, 0, 0), (29, .iaload, 30, 0, 0, 0), (30, .iconst 1, 31, 1, 0, 0), (31, .isub, 32, 0, 0, 0), (32, .invokestatic 84, 35, 0, 0, 0), (35, .ifCond .ne 7, 38, 0, 42, 0), (38, .ldc_w 268, 41, -1000000013, 0, 0), (41, .ireturn, 42, 0, 0, 0), (42, .aload_n 0, 43, 0, 0, 0), (43, .getfield 57, 46, 0, 8, 28), (46, .iload_n 1, 47, 0, 0, 0), (47, .iaload, 48, 0, 0, 0), (48, .ifCond .ne 12, 51, 0, 60, 0), (51, .iload_n 3, 52, 0, 0, 0), (52, .ldc 92, 54, -1000000005, 0, 0), (54, .if_icmp .ne 6, 57, 0, 60, 0), (57, .ldc 120, 59, -1000000012, 0, 0), (59, .ireturn, 60, 0, 0, 0), (60, .aload_n 0, 61, 0, 0, 0), (61, .getfield 57, 64, 0, 8, 28), (64, .iload_n 1, 65, 0, 0, 0), (65, .iaload, 66, 0, 0, 0), (66, .iconst 1, 67, 1, 0, 0), (67, .if_icmp .ne 24, 70, 0, 91, 0), (70, .iload_n 3, 71, 0, 0, 0), (71, .ldc 92, 73, -1000000005, 0, 0), (73, .if_icmp .eq 18, 76, 0, 91, 0), (76, .iload_n 3, 77, 0, 0, 0), (77, .ldc_w 269, 80, -99999, 0, 0), (80, .ldc 124, 82, 99999, 0, 0), (82, .invokestatic 84, 85, 0, 0, 0), (85, .ifCond .ne 6, 88, 0, 91, 0), (88, .ldc 97, 90, -1000000001, 0, 0), (90, .ireturn, 91, 0, 0, 0), (91, .aload_n 0, 92, 0, 0, 0), (92, .getfield 63, 95, 0, 8, 30), (95, .bipush 24, 97, 24, 0, 0), (97, .iload_n 1, 98, 0, 0, 0), (98, .imul, 99, 0, 0, 0), (99, .iload_n 2, 100, 0, 0, 0), (100, .iadd, 101, 0, 0, 0), (101, .aload_n 0, 102, 0, 0, 0), (102, .getfield 57, 105, 0, 8, 28), (105, .iload_n 1, 106, 0, 0, 0), (106, .iaload, 107, 0, 0, 0), (107, .ifCond .ne 8, 110, 0, 115, 0), (110, .iload_n 3, 111, 0, 0, 0), (111, .i2s, 112, 0, 0, 0), (112, .goto 4, 115, 0, 116, 0), (115, .iload_n 3, 116, 0, 0, 0), (116, .iastore, 117, 0, 0, 0), (117, .iconst 1, 118, 1, 0, 0), (118, .ireturn, 119, 0, 0, 0)]
theorem pk_M_mark : okP m_M_mark.1.cls m_M_mark.2.1 p_M_mark := ⟨fl_M, ct_M, fl_M_ok, ct_M_ok, by decide +kernel⟩
def p_M_pour : List Rw := [(0, .iload_n 1, 1, 0, 0, 0), (1, .invokestatic 192, 4, 0, 0, 0), (4, .ifCond .ne 6, 7, 0, 10, 0), (7, .ldc 97, 9, -1000000001, 0, 0), (9, .ireturn, 10, 0, 0, 0), (10, .aload_n 0, 11, 0, 0, 0), (11, .getfield 57, 14, 0, 8, 28), (14, .iload_n 1, 15, 0, 0, 0), (15, .iaload, 16, 0, 0, 0), (16, .ifCond .ge 6, 19, 0, 22, 0), (19, .ldc 195, 21, -1000000011, 0, 0), (21, .ireturn, 22, 0, 0, 0), (22, .iconst 0, 23, 0, 0, 0), (23, .istore_n 2, 24, 0, 0, 0), (24, .iconst 0, 25, 0, 0, 0), (25, .istore_n 3, 26, 0, 0, 0), (26, .iload_n 3, 27, 0, 0, 0), (27, .aload_n 0, 28, 0, 0, 0), (28, .getfield 60, 31, 0, 8, 29), (31, .iload_n 1, 32, 0, 0, 0), (32, .iaload, 33, 0, 0, 0), (33, .if_icmp .ge 85, 36, 0, 118, 0), (36, .iload_n 3, 37, 0, 0, 0), (37, .aload_n 0, 38, 0, 0, 0), (38, .getfield 9, 41, 0, 8, 0), (41, .iconst 1, 42, 1, 0, 0), (42, .iaload, 43, 0, 0, 0), (43, .if_icmp .ge 75, 46, 0, 118, 0), (46, .aload_n 0, 47, 0, 0, 0), (47, .getfield 63, 50, 0, 8, 30), (50, .bipush 24, 52, 24, 0, 0), (52, .iload_n 1, 53, 0, 0, 0), (53, .imul, 54, 0, 0, 0), (54, .iload_n 3, 55, 0, 0, 0), (55, .iadd, 56, 0, 0, 0), (56, .iaload, 57, 0, 0, 0), (57, .istore 4, 59, 0, 0, 0), (59, .iload 4, 61, 0, 0, 0), (61, .ldc 92, 63, -1000000005, 0, 0), (63, .if_icmp .ne 12, 66, 0, 75, 0), (66, .aload_n 0, 67, 0, 0, 0), (67, .iload_n 3, 68, 0, 0, 0), (68, .iconst 1, 69, 1, 0, 0), (69, .invokevirtual 88, 72, 0, 0, 0), (72, .goto 11, 75, 0, 83, 0), (75, .iload 4, 77, 0, 0, 0), (77, .iconst 0, 78, 0, 0, 0), (78, .bipush 124, 80, 124, 0, 0), (80, .invokestatic 174, 83, 0, 0, 0), (83, .istore 5, 85, 0, 0, 0), (85, .iload_n 2, 86, 0, 0, 0), (86, .aload_n 0, 87, 0, 0, 0), (87, .bipush 18, 89, 18, 0, 0), (89, .iconst 4, 90, 4, 0, 0), (90, .iload_n 3, 91, 0, 0, 0), (91, .imul, 92, 0, 0, 0), (92, .iadd, 93, 0, 0, 0), (93, .iconst 1, 94, 1, 0, 0), (94, .iadd, 95, 0, 0, 0), (95, .iload 5, 97, 0, 0, 0), (97, .invokevirtual 121, 100, 0, 0, 0), (100, .iload 5, 102, 0, 0, 0), (102, .if_icmp .ne 7, 105, 0, 109, 0), (105, .iconst 0, 106, 0, 0, 0), (106, .goto 4, 109, 0, 110, 0), (109, .iconst 1, 110, 1, 0, 0), (110, .iadd, 111, 0, 0, 0), (111, .istore_n 2, 112, 0, 0, 0), (112, .iinc 3 1, 115, 1, 0, 0), (115, .goto (-89), 118, 0, 26, 0), (118, .iload_n 2, 119, 0, 0, 0), (119, .ireturn, 120, 0, 0, 0)]
theorem pk_M_pour : okP m_M_pour.1.cls m_M_pour.2.1 p_M_pour := ⟨fl_M, ct_M, fl_M_ok, ct_M_ok, by decide +kernel⟩
def p_M_reads : List Rw := [(0, .iload_n 1, 1, 0, 0, 0), (1, .invokestatic 192, 4, 0, 0, 0), (4, .ifCond .ne 6, 7, 0, 10, 0), (7, .ldc 97, 9, -1000000001, 0, 0), (9, .ireturn, 10, 0, 0, 0), (10, .aload_n 0, 11, 0, 0, 0), (11, .getfield 57, 14, 0, 8, 28), (14, .iload_n 1, 15, 0, 0, 0), (15, .iaload, 16, 0, 0, 0), (16, .ifCond .ge 6, 19, 0, 22, 0), (19, .ldc 195, 21, -1000000011, 0, 0), (21, .ireturn, 22, 0, 0, 0), (22, .iconst 0, 23, 0, 0, 0), (23, .istore_n 2, 24, 0, 0, 0), (24, .iload_n 2, 25, 0, 0, 0), (25, .aload_n 0, 26, 0, 0, 0), (26, .getfield 60, 29, 0, 8, 29), (29, .iload_n 1, 30, 0, 0, 0), (30, .iaload, 31, 0, 0, 0), (31, .if_icmp .ge 47, 34, 0, 78, 0), (34, .aload_n 0, 35, 0, 0, 0), (35, .getfield 63, 38, 0, 8, 30), (38, .bipush 24, 40, 24, 0, 0), (40, .iload_n 1, 41, 0, 0, 0), (41, .imul, 42, 0, 0, 0), (42, .iload_n 2, 43, 0, 0, 0), (43, .iadd, 44, 0, 0, 0), (44, .iaload, 45, 0, 0, 0), (45, .istore_n 3, 46, 0, 0, 0), (46, .iload_n 3, 47, 0, 0, 0), (47, .ldc 92, 49, -1000000005, 0, 0), (49, .if_icmp .eq 23, 52, 0, 72, 0), (52, .aload_n 0, 53, 0, 0, 0), (53, .iload_n 2, 54, 0, 0, 0), (54, .invokevirtual 106, 57, 0, 0, 0), (57, .ifCond .eq 13, 60, 0, 70, 0), (60, .iload_n 3, 61, 0, 0, 0), (61, .aload_n 0, 62, 0, 0, 0), (62, .iload_n 2, 63, 0, 0, 0), (63, .iconst 1, 64, 1, 0, 0), (64, .invokevirtual 88, 67, 0, 0, 0), (67, .if_icmp .eq 5, 70, 0, 72, 0), (70, .iload_n 2, 71, 0, 0, 0), (71, .ireturn, 72, 0, 0, 0), (72, .iinc 2 1, 75, 1, 0, 0), (75, .goto (-51), 78, 0, 24, 0), (78, .ldc 92, 80, -1000000005, 0, 0), (80, .ireturn, 81, 0, 0, 0)]
theorem pk_M_reads : okP m_M_reads.1.cls m_M_reads.2.1 p_M_reads := ⟨fl_M, ct_M, fl_M_ok, ct_M_ok, by decide +kernel⟩
def p_M_copy : List Rw := [(0, .iload_n 1, 1, 0, 0, 0), (1, .invokestatic 192, 4, 0, 0, 0), (4, .ifCond .eq 10, 7, 0, 14, 0), (7, .iload_n 3, 8, 0, 0, 0), (8, .invokestatic 192, 11, 0, 0, 0), (11, .ifCond .ne 6, 14, 0, 17, 0), (14, .ldc 97, 16, -1000000001, 0, 0), (16, .ireturn, 17, 0, 0, 0), (17, .aload_n 0, 18, 0, 0, 0), (18, .getfield 57, 21, 0, 8, 28), (21, .iload_n 1, 22, 0, 0, 0), (22, .iaload, 23, 0, 0, 0), (23, .ifCond .lt 12, 26, 0, 35, 0), (26, .aload_n 0, 27, 0, 0, 0), (27, .getfield 57, 30, 0, 8, 28), (30, .iload_n 3, 31, 0, 0, 0), (31, .iaload, 32, 0, 0, 0), (32, .ifCond .ge 6, 35, 0, 38, 0), (35, .ldc 195, 37, -1000000011, 0, 0), (37, .ireturn, 38, 0, 0, 0), (38, .aload_n 0, 39, 0, 0, 0), (39, .getfield 57, 42, 0, 8, 28), (42, .iload_n 1, 43, 0, 0, 0), (43, .iaload, 44, 0, 0, 0), (44, .aload_n 0, 45, 0, 0, 0), (45, .getfield 57, 48, 0, 8, 28), (48, .iload_n 3, 49, 0, 0, 0), (49, .iaload, 50, 0, 0, 0), (50, .if_icmp .eq 6, 53, 0, 56, 0), (53, .ldc 120, 55, -1000000012, 0, 0), (55, .ireturn, 56, 0, 0, 0), (56, .iload_n 2, 57, 0, 0, 0), (57, .ifCond .lt 40, 60, 0, 97, 0), (60, .iload 4, 62, 0, 0, 0), (62, .ifCond .lt 35, 65, 0, 97, 0), (65, .iload 5, 67, 0, 0, 0), (67, .ifCond .lt 30, 70, 0, 97, 0), (70, .iload_n 2, 71, 0, 0, 0), (71, .aload_n 0, 72, 0, 0, 0), (72, .getfield 60, 75, 0, 8, 29), (75, .iload_n 1, 76, 0, 0, 0), (76, .iaload, 77, 0, 0, 0), (77, .iload 5, 79, 0, 0, 0), (79, .isub, 80, 0, 0, 0), (80, .if_icmp .gt 17, 83, 0, 97, 0), (83, .iload 4, 85, 0, 0, 0), (85, .aload_n 0, 86, 0, 0, 0), (86, .getfield 60, 89, 0, 8, 29), (89, .iload_n 3, 90, 0, 0, 0), (90, .iaload, 91, 0, 0, 0), (91, .iload 5, 93, 0, 0, 0), (93, .isub, 94, 0, 0, 0), (94, .if_icmp .le 7, 97, 0, 101, 0), (97, .ldc_w 268, 100, -1000000013, 0, 0), (100, .ireturn, 101, 0, 0, 0), (101, .iconst 0, 102, 0, 0, 0), (102, .istore 6, 104, 0, 0, 0), (104, .iload 6, 106, 0, 0, 0), (106, .iload 5, 108, 0, 0, 0), (108, .if_icmp .ge 30, 111, 0, 138, 0), (111, .aload_n 0, 112, 0, 0, 0), (112, .getfield 78, 115, 0, 8, 35), (115, .iload 6, 117, 0, 0, 0), (117, .aload_n 0, 118, 0, 0, 0), (118, .getfield 63, 121, 0, 8, 30), (121, .bipush 24, 123, 24, 0, 0), (123, .iload_n 1, 124, 0, 0, 0), (124, .imul, 125, 0, 0, 0), (125, .iload_n 2, 126, 0, 0, 0), (126, .iadd, 127, 0, 0, 0), (127, .iload 6, 129, 0, 0, 0), (129, .iadd, 130, 0, 0, 0), (130, .iaload, 131, 0, 0, 0), (131, .iastore, 132, 0, 0, 0), (132, .iinc 6 1, 135, 1, 0, 0), (135, .goto (-31), 138, 0, 104, 0), (138, .iconst 0, 139, 0, 0, 0), (139, .istore 6, 141, 0, 0, 0), (141, .iload 6, 143, 0, 0, 0), (143, .iload 5, 145, 0, 0, 0), (145, .if_icmp .ge 31, 148, 0, 176, 0), (148, .aload_n 0, 149, 0, 0, 0), (149, .getfield 63, 152, 0, 8, 30), (152, .bipush 24, 154, 24, 0, 0), (154, .iload_n 3, 155, 0, 0, 0), (155, .imul, 156, 0, 0, 0), (156, .iload 4, 158, 0, 0, 0), (158, .iadd, 159, 0, 0, 0), (159, .iload 6, 161, 0, 0, 0), (161, .iadd, 162, 0, 0, 0), (162, .aload_n 0, 163, 0, 0, 0), (163, .getfield 78, 166, 0, 8, 35), (166, .iload 6, 168, 0, 0, 0), (168, .iaload, 169, 0, 0, 0), (169, .iastore, 170, 0, 0, 0), (170, .iinc 6 1, 173, 1, 0, 0), (173, .goto (-32), 176, 0, 141, 0), (176, .iload 5, 178, 0, 0, 0), (178, .ireturn, 179, 0, 0, 0)]
theorem pk_M_copy : okP m_M_copy.1.cls m_M_copy.2.1 p_M_copy := ⟨fl_M, ct_M, fl_M_ok, ct_M_ok, by decide +kernel⟩
def p_M_lay : List Rw := [(0, .iload_n 1, 1, 0, 0, 0), (1, .invokestatic 270, 4, 0, 0, 0), (4, .ifCond .eq 37, 7, 0, 41, 0), (7, .iload_n 2, 8, 0, 0, 0), (8, .iconst 0, 9, 0, 0, 0), (9, .iconst 3, 10, 3, 0, 0), (10, .invokestatic 84, 13, 0, 0, 0), (13, .ifCond .eq 28, 16, 0, 41, 0), (16, .iload_n 2, 17, 0, 0, 0), (17, .iconst 1, 18, 1, 0, 0), (18, .if_icmp .ne 11, 21, 0, 29, 0), (21, .aload_n 0, 22, 0, 0, 0), (22, .iload_n 3, 23, 0, 0, 0), (23, .invokevirtual 106, 26, 0, 0, 0), (26, .ifCond .eq 15, 29, 0, 41, 0), (29, .iload_n 2, 30, 0, 0, 0), (30, .iconst 2, 31, 2, 0, 0), (31, .if_icmp .ne 13, 34, 0, 44, 0), (34, .iload_n 3, 35, 0, 0, 0), (35, .invokestatic 192, 38, 0, 0, 0), (38, .ifCond .ne 6, 41, 0, 44, 0), (41, .ldc 97, 43, -1000000001, 0, 0), (43, .ireturn, 44, 0, 0, 0), (44, .iload_n 2, 45, 0, 0, 0), (45, .iconst 2, 46, 2, 0, 0), (46, .if_icmp .ne 15, 49, 0, 61, 0), (49, .aload_n 0, 50, 0, 0, 0), (50, .getfield 57, 53, 0, 8, 28), (53, .iload_n 3, 54, 0, 0, 0), (54, .iaload, 55, 0, 0, 0), (55, .ifCond .ge 6, 58, 0, 61, 0), (58, .ldc 195, 60, -1000000011, 0, 0), (60, .ireturn, 61, 0, 0, 0), (61, .aload_n 0, 62, 0, 0, 0), (62, .getfield 66, 65, 0, 8, 31), (65, .iload_n 1, 66, 0, 0, 0), (66, .iaload, 67, 0, 0, 0), (67, .istore 4, 69, 0, 0, 0), (69, .aload_n 0, 70, 0, 0, 0), (70, .getfield 66, 73, 0, 8, 31), (73, .iload_n 1, 74, 0, 0, 0), (74, .iload_n 2, 75, 0, 0, 0), (75, .iastore, 76, 0, 0, 0), (76, .aload_n 0, 77, 0, 0, 0), (77, .getfield 69, 80, 0, 8, 32), (80, .iload_n 1, 81, 0, 0, 0), (81, .iload_n 2, 82, 0, 0, 0), (82, .iconst 1, 83, 1, 0, 0), (83, .if_icmp .ne 12, 86, 0, 95, 0), (86, .aload_n 0, 87, 0, 0, 0), (87, .iload_n 3, 88, 0, 0, 0), (88, .iconst 0, 89, 0, 0, 0), (89, .invokevirtual 88, 92, 0, 0, 0), (92, .goto 18, 95, 0, 110, 0), (95, .iload_n 2, 96, 0, 0, 0), (96, .iconst 2, 97, 2, 0, 0), (97, .if_icmp .ne 12, 100, 0, 109, 0), (100, .aload_n 0, 101, 0, 0, 0), (101, .getfield 60, 104, 0, 8, 29), (104, .iload_n 3, 105, 0, 0, 0), (105, .iaload, 106, 0, 0, 0), (106, .goto 4, 109, 0, 110, 0), (109, .iload_n 3, 110, 0, 0, 0), (110, .iastore, 111, 0, 0, 0), (111, .aload_n 0, 112, 0, 0, 0), (112, .getfield 72, 115, 0, 8, 33), (115, .iload_n 1, 116, 0, 0, 0), (116, .iload_n 2, 117, 0, 0, 0), (117, .iconst 1, 118, 1, 0, 0), (118, .if_icmp .ne 11, 121, 0, 129, 0), (121, .aload_n 0, 122, 0, 0, 0), (122, .iload_n 3, 123, 0, 0, 0), (123, .invokevirtual 113, 126, 0, 0, 0), (126, .goto 4, 129, 0, 130, 0), (129, .iconst 0, 130, 0, 0, 0), (130, .iastore, 131, 0, 0, 0), (131, .iconst 0, 132, 0, 0, 0), (132, .istore 5, 134, 0, 0, 0), (134, .iload 5, 136, 0, 0, 0), (136, .bipush 24, 138, 24, 0, 0), (138, .if_icmp .ge 38, 141, 0, 176, 0), (141, .iload_n 2, 142, 0, 0, 0), (142, .iconst 2, 143, 2, 0, 0), (143, .if_icmp .ne 33, 146, 0, 176, 0), (146, .aload_n 0, 147, 0, 0, 0), (147, .getfield 75, 150, 0, 8, 34), (150, .bipush 24, 152, 24, 0, 0), (152, .iload_n 1, 153, 0, 0, 0), (153, .imul, 154, 0, 0, 0), (154, .iload 5, 156, 0, 0, 0), (156, .iadd, 157, 0, 0, 0), (157, .aload_n 0, 158, 0, 0, 0), (158, .getfield 63, 161, 0, 8, 30), (161, .bipush 24, 163, 24, 0, 0), (163, .iload_n 3, 164, 0, 0, 0), (164, .imul, 165, 0, 0, 0), (165, .iload 5, 167, 0, 0, 0), (167, .iadd, 168, 0, 0, 0), (168, .iaload, 169, 0, 0, 0), (169, .iastore, 170, 0, 0, 0), (170, .iinc 5 1, 173, 1, 0, 0), (173, .goto (-39), 176, 0, 134, 0), (176, .iload 4, 178, 0, 0, 0), (178, .ireturn, 179, 0, 0, 0)]
theorem pk_M_lay : okP m_M_lay.1.cls m_M_lay.2.1 p_M_lay := ⟨fl_M, ct_M, fl_M_ok, ct_M_ok, by decide +kernel⟩
def p_M_ask : List Rw := [(0, .iload_n 1, 1, 0, 0, 0), (1, .invokestatic 270, 4, 0, 0, 0), (4, .ifCond .eq 12, 7, 0, 16, 0), (7, .iload_n 2, 8, 0, 0, 0), (8, .iconst 0, 9, 0, 0, 0), (9, .iconst 5, 10, 5, 0, 0), (10, .invokestatic 84, 13, 0, 0, 0), (13, .ifCond .ne 6, 16, 0, 19, 0), (16, .ldc 97, 18, -1000000001, 0, 0), (18, .ireturn, 19, 0, 0, 0), (19, .aload_n 0, 20, 0, 0, 0), (20, .getfield 66, 23, 0, 8, 31), (23, .iload_n 1, 24, 0, 0, 0), (24, .iaload, 25, 0, 0, 0), (25, .ifCond .ne 6, 28, 0, 31, 0), (28, .ldc 195, 30, -1000000011, 0, 0), (30, .ireturn, 31, 0, 0, 0), (31, .aload_n 0, 32, 0, 0, 0), (32, .getfield 66, 35, 0, 8, 31), (35, .iload_n 1, 36, 0, 0, 0), (36, .iaload, 37, 0, 0, 0), (37, .iconst 1, 38, 1, 0, 0), (38, .if_icmp .ne 25, 41, 0, 63, 0), (41, .aload_n 0, 42, 0, 0, 0), (42, .getfield 69, 45, 0, 8, 32), (45, .iload_n 1, 46, 0, 0, 0), (46, .iaload, 47, 0, 0, 0), (47, .iload_n 2, 48, 0, 0, 0), (48, .invokestatic 117, 51, 0, 0, 0), (51, .ifCond .eq 12, 54, 0, 63, 0), (54, .aload_n 0, 55, 0, 0, 0), (55, .getfield 72, 58, 0, 8, 33), (58, .iload_n 1, 59, 0, 0, 0), (59, .iaload, 60, 0, 0, 0), (60, .goto 5, 63, 0, 65, 0), (63, .ldc 120, 65, -1000000012, 0, 0), (65, .ireturn, 66, 0, 0, 0)]
theorem pk_M_ask : okP m_M_ask.1.cls m_M_ask.2.1 p_M_ask := ⟨fl_M, ct_M, fl_M_ok, ct_M_ok, by decide +kernel⟩
def p_M_item : List Rw := [(0, .iload_n 1, 1, 0, 0, 0), (1, .invokestatic 270, 4, 0, 0, 0), (4, .ifCond .ne 6, 7, 0, 10, 0), (7, .ldc 97, 9, -1000000001, 0, 0), (9, .ireturn, 10, 0, 0, 0), (10, .aload_n 0, 11, 0, 0, 0), (11, .getfield 66, 14, 0, 8, 31), (14, .iload_n 1, 15, 0, 0, 0), (15, .iaload, 16, 0, 0, 0), (16, .ifCond .ne 6, 19, 0, 22, 0), (19, .ldc 195, 21, -1000000011, 0, 0), (21, .ireturn, 22, 0, 0, 0), (22, .aload_n 0, 23, 0, 0, 0), (23, .getfield 66, 26, 0, 8, 31), (26, .iload_n 1, 27, 0, 0, 0), (27, .iaload, 28, 0, 0, 0), (28, .iconst 2, 29, 2, 0, 0), (29, .if_icmp .eq 6, 32, 0, 35, 0), (32, .ldc 120, 34, -1000000012, 0, 0), (34, .ireturn, 35, 0, 0, 0), (35, .iload_n 2, 36, 0, 0, 0), (36, .iconst 0, 37, 0, 0, 0), (37, .aload_n 0, 38, 0, 0, 0), (38, .getfield 69, 41, 0, 8, 32), (41, .iload_n 1, 42, 0, 0, 0), (42, .iaload, 43, 0, 0, 0), (43, .iconst 1, 44, 1, 0, 0), (44, .isub, 45, 0, 0, 0), (45, .invokestatic 84, 48, 0, 0, 0), (48, .ifCond .ne 7, 51, 0, 55, 0), (51, .ldc_w 268, 54, -1000000013, 0, 0), (54, .ireturn, 55, 0, 0, 0), (55, .aload_n 0, 56, 0, 0, 0), (56, .getfield 75, 59, 0, 8, 34), (59, .bipush 24, 61, 24, 0, 0), (61, .iload_n 1, 62, 0, 0, 0), (62, .imul, 63, 0, 0, 0), (63, .iload_n 2, 64, 0, 0, 0), (64, .iadd, 65, 0, 0, 0), (65, .iaload, 66, 0, 0, 0), (66, .istore_n 3, 67, 0, 0, 0), (67, .iload_n 3, 68, 0, 0, 0), (68, .ldc 92, 70, -1000000005, 0, 0), (70, .if_icmp .ne 8, 73, 0, 78, 0), (73, .ldc 120, 75, -1000000012, 0, 0), (75, .goto 4, 78, 0, 79, 0), (78, .iload_n 3, 79, 0, 0, 0), (79, .ireturn, 80, 0, 0, 0)]
theorem pk_M_item : okP m_M_item.1.cls m_M_item.2.1 p_M_item := ⟨fl_M, ct_M, fl_M_ok, ct_M_ok, by decide +kernel⟩
def p_M_rest : List Rw := [(0, .iload_n 1, 1, 0, 0, 0), (1, .invokestatic 270, 4, 0, 0, 0), (4, .ifCond .ne 6, 7, 0, 10, 0), (7, .ldc 97, 9, -1000000001, 0, 0), (9, .ireturn, 10, 0, 0, 0), (10, .aload_n 0, 11, 0, 0, 0), (11, .getfield 66, 14, 0, 8, 31), (14, .iload_n 1, 15, 0, 0, 0), (15, .iaload, 16, 0, 0, 0), (16, .ifCond .ne 6, 19, 0, 22, 0), (19, .ldc 195, 21, -1000000011, 0, 0), (21, .ireturn, 22, 0, 0, 0), (22, .aload_n 0, 23, 0, 0, 0), (23, .getfield 66, 26, 0, 8, 31), (26, .iload_n 1, 27, 0, 0, 0), (27, .iaload, 28, 0, 0, 0), (28, .iconst 3, 29, 3, 0, 0), (29, .if_icmp .eq 6, 32, 0, 35, 0), (32, .ldc 120, 34, -1000000012, 0, 0), (34, .ireturn, 35, 0, 0, 0), (35, .iload_n 2, 36, 0, 0, 0), (36, .ifCond .ne 9, 39, 0, 45, 0), (39, .ldc_w 273, 42, -1000000002, 0, 0), (42, .goto 20, 45, 0, 62, 0), (45, .iload_n 2, 46, 0, 0, 0), (46, .iconst (-1), 47, -1, 0, 0), (47, .if_icmp .ne 7, 50, 0, 54, 0), (50, .iconst 0, 51, 0, 0, 0), (51, .goto 11, 54, 0, 62, 0), (54, .aload_n 0, 55, 0, 0, 0), (55, .getfield 69, 58, 0, 8, 32), (58, .iload_n 1, 59, 0, 0, 0), (59, .iaload, 60, 0, 0, 0), (60, .iload_n 2, 61, 0, 0, 0), (61, .irem, 62, 0, 0, 0), (62, .ireturn, 63, 0, 0, 0)]
theorem pk_M_rest : okP m_M_rest.1.cls m_M_rest.2.1 p_M_rest := ⟨fl_M, ct_M, fl_M_ok, ct_M_ok, by decide +kernel⟩
def p_M_tell : List Rw := [(0, .aload_n 0, 1, 0, 0, 0), (1, .getfield 274, 4, 0, 8, 37), (4, .bipush 60, 6, 60, 0, 0), (6, .if_icmp .ne 6, 9, 0, 12, 0), (9, .ldc 98, 11, -1000000003, 0, 0), (11, .ireturn, 12, 0, 0, 0), (12, .aload_n 0, 13, 0, 0, 0), (13, .getfield 81, 16, 0, 8, 36), (16, .aload_n 0, 17, 0, 0, 0), (17, .getfield 274, 20, 0, 8, 37), (20, .iload_n 1, 21, 0, 0, 0), (21, .iastore, 22, 0, 0, 0), (22, .aload_n 0, 23, 0, 0, 0), (23, .dup, 24, 0, 0, 0), (24, .getfield 274, 27, 0, 8, 37), (27, .iconst 1, 28, 1, 0, 0), (28, .iadd, 29, 0, 0, 0), (29, .putfield 274, 32, 0, 8, 37), (32, .aload_n 0, 33, 0, 0, 0), (33, .getfield 274, 36, 0, 8, 37), (36, .ireturn, 37, 0, 0, 0)]
theorem pk_M_tell : okP m_M_tell.1.cls m_M_tell.2.1 p_M_tell := ⟨fl_M, ct_M, fl_M_ok, ct_M_ok, by decide +kernel⟩
def p_M_check : List Rw := [(0, .aload_n 0, 1, 0, 0, 0), (1, .getfield 274, 4, 0, 8, 37), (4, .istore_n 2, 5, 0, 0, 0), (5, .aload_n 0, 6, 0, 0, 0), (6, .iconst 0, 7, 0, 0, 0), (7, .putfield 274, 10, 0, 8, 37), (10, .iload_n 1, 11, 0, 0, 0), (11, .iconst 1, 12, 1, 0, 0), (12, .bipush 30, 14, 30, 0, 0), (14, .invokestatic 84, 17, 0, 0, 0), (17, .ifCond .ne 6, 20, 0, 23, 0), (20, .ldc 97, 22, -1000000001, 0, 0), (22, .ireturn, 23, 0, 0, 0), (23, .aload_n 0, 24, 0, 0, 0), (24, .getfield 277, 27, 0, 8, 3), (27, .ifCond .ne 7, 30, 0, 34, 0), (30, .ldc_w 273, 33, -1000000002, 0, 0), (33, .ireturn, 34, 0, 0, 0), (34, .aload_n 0, 35, 0, 0, 0), (35, .getfield 9, 38, 0, 8, 0), (38, .aload_n 0, 39, 0, 0, 0), (39, .getfield 16, 42, 0, 8, 2), (42, .invokestatic 281, 45, 0, 0, 0), (45, .aload_n 0, 46, 0, 0, 0), (46, .getfield 13, 49, 0, 8, 1), (49, .aload_n 0, 50, 0, 0, 0), (50, .getfield 9, 53, 0, 8, 0), (53, .invokestatic 281, 56, 0, 0, 0), (56, .aload_n 0, 57, 0, 0, 0), (57, .invokevirtual 137, 60, 0, 0, 0), (60, .iconst 2, 61, 2, 0, 0), (61, .sipush 9999, 64, 9999, 0, 0), (64, .aload_n 0, 65, 0, 0, 0), (65, .getfield 9, 68, 0, 8, 0), (68, .iconst 2, 69, 2, 0, 0), (69, .iaload, 70, 0, 0, 0), (70, .isub, 71, 0, 0, 0), (71, .iconst 0, 72, 0, 0, 0), (72, .iload_n 1, 73, 0, 0, 0), (73, .invokestatic 174, 76, 0, 0, 0), (76, .imul, 77, 0, 0, 0), (77, .istore_n 3, 78, 0, 0, 0), (78, .iconst 0, 79, 0, 0, 0), (79, .istore 4, 81, 0, 0, 0), (81, .iconst 0, 82, 0, 0, 0), (82, .istore 5, 84, 0, 0, 0), (84, .iconst 2, 85, 2, 0, 0), (85, .iload 5, 87, 0, 0, 0), (87, .imul, 88, 0, 0, 0), (88, .iload_n 3, 89, 0, 0, 0), (89, .if_icmp .ge 95, 92, 0, 184, 0), (92, .iload 4, 94, 0, 0, 0), (94, .iconst 2, 95, 2, 0, 0), (95, .iload 5, 97, 0, 0, 0), (97, .imul, 98, 0, 0, 0), (98, .if_icmp .ne 86, 101, 0, 184, 0), (101, .aload_n 0, 102, 0, 0, 0), (102, .invokevirtual 180, 105, 0, 0, 0), (105, .istore 6, 107, 0, 0, 0), (107, .iload 4, 109, 0, 0, 0), (109, .iload 4, 111, 0, 0, 0), (111, .iload_n 2, 112, 0, 0, 0), (112, .if_icmp .ge 21, 115, 0, 133, 0), (115, .aload_n 0, 116, 0, 0, 0), (116, .getfield 81, 119, 0, 8, 36), (119, .iload 4, 121, 0, 0, 0), (121, .iaload, 122, 0, 0, 0), (122, .aload_n 0, 123, 0, 0, 0), (123, .invokevirtual 186, 126, 0, 0, 0), (126, .if_icmp .ne 7, 129, 0, 133, 0), (129, .iconst 1, 130, 1, 0, 0), (130, .goto 4, 133, 0, 134, 0), (133, .iconst 0, 134, 0, 0, 0), (134, .iadd, 135, 0, 0, 0), (135, .istore 4, 137, 0, 0, 0), (137, .iload 4, 139, 0, 0, 0), (139, .iload 4, 141, 0, 0, 0), (141, .iconst 2, 142, 2, 0, 0), (142, .iload 5, 144, 0, 0, 0), (144, .imul, 145, 0, 0, 0), (145, .iconst 1, 146, 1, 0, 0), (146, .iadd, 147, 0, 0, 0), (147, .if_icmp .ne 27, 150, 0, 174, 0), (150, .iload 4, 152, 0, 0, 0), (152, .iload_n 2, 153, 0, 0, 0), (153, .if_icmp .ge 21, 156, 0, 174, 0), (156, .aload_n 0, 157, 0, 0, 0), (157, .getfield 81, 160, 0, 8, 36), (160, .iload 4, 162, 0, 0, 0), (162, .iaload, 163, 0, 0, 0), (163, .aload_n 0, 164, 0, 0, 0), (164, .invokevirtual 151, 167, 0, 0, 0), (167, .if_icmp .ne 7, 170, 0, 174, 0), (170, .iconst 1, 171, 1, 0, 0), (171, .goto 4, 174, 0, 175, 0), (174, .iconst 0, 175, 0, 0, 0), (175, .iadd, 176, 0, 0, 0), (176, .istore 4, 178, 0, 0, 0), (178, .iinc 5 1, 181, 1, 0, 0), (181, .goto (-97), 184, 0, 84, 0), (184, .aload_n 0, 185, 0, 0, 0), (185, .getfield 16, 188, 0, 8, 2), (188, .aload_n 0, 189, 0, 0, 0), (189, .getfield 9, 192, 0, 8, 0), (192, .invokestatic 281, 195, 0, 0, 0), (195, .iload 4, 197, 0, 0, 0), (197, .iload_n 2, 198, 0, 0, 0), (198, .if_icmp .ne 13, 201, 0, 211, 0), (201, .iload 4, 203, 0, 0, 0), (203, .iload_n 3, 204, 0, 0, 0), (204, .if_icmp .ne 7, 207, 0, 211, 0), (207, .iconst 0, 208, 0, 0, 0), (208, .goto 7, 211, 0, 215, 0), (211, .iconst 1, 212, 1, 0, 0), (212, .iload 4, 214, 0, 0, 0), (214, .iadd, 215, 0, 0, 0), (215, .ireturn, 216, 0, 0, 0)]
theorem pk_M_check : okP m_M_check.1.cls m_M_check.2.1 p_M_check := ⟨fl_M, ct_M, fl_M_ok, ct_M_ok, by decide +kernel⟩
def p_M_keep : List Rw := [(0, .aload_n 0, 1, 0, 0, 0), (1, .getfield 9, 4, 0, 8, 0), (4, .aload_n 0, 5, 0, 0, 0), (5, .getfield 13, 8, 0, 8, 1), (8, .invokestatic 281, 11, 0, 0, 0), (11, .aload_n 0, 12, 0, 0, 0), (12, .iconst 1, 13, 1, 0, 0), (13, .putfield 277, 16, 0, 8, 3), (16, .aload_n 0, 17, 0, 0, 0), (17, .getfield 9, 20, 0, 8, 0), (20, .iconst 1, 21, 1, 0, 0), (21, .iaload, 22, 0, 0, 0), (22, .ireturn, 23, 0, 0, 0)]
theorem pk_M_keep : okP m_M_keep.1.cls m_M_keep.2.1 p_M_keep := ⟨fl_M, ct_M, fl_M_ok, ct_M_ok, by decide +kernel⟩
def p_M_back : List Rw := [(0, .aload_n 0, 1, 0, 0, 0), (1, .getfield 277, 4, 0, 8, 3), (4, .ifCond .ne 7, 7, 0, 11, 0), (7, .ldc_w 273, 10, -1000000002, 0, 0), (10, .ireturn, 11, 0, 0, 0), (11, .aload_n 0, 12, 0, 0, 0), (12, .getfield 13, 15, 0, 8, 1), (15, .aload_n 0, 16, 0, 0, 0), (16, .getfield 9, 19, 0, 8, 0), (19, .invokestatic 281, 22, 0, 0, 0), (22, .aload_n 0, 23, 0, 0, 0), (23, .getfield 9, 26, 0, 8, 0), (26, .iconst 1, 27, 1, 0, 0), (27, .iaload, 28, 0, 0, 0), (28, .ireturn, 29, 0, 0, 0)]
theorem pk_M_back : okP m_M_back.1.cls m_M_back.2.1 p_M_back := ⟨fl_M, ct_M, fl_M_ok, ct_M_ok, by decide +kernel⟩
def p_M_count : List Rw := [(0, .iload_n 1, 1, 0, 0, 0), (1, .tableswitch 108 0 8 #[51, 58, 63, 70, 77, 84, 91, 96, 101], 52, 0, 0, 0), (52, .aload_n 0, 53, 0, 0, 0), (53, .getfield 9, 56, 0, 8, 0), (56, .iconst 1, 57, 1, 0, 0), (57, .iaload, 58, 0, 0, 0), (58, .ireturn, 59, 0, 0, 0), (59, .aload_n 0, 60, 0, 0, 0), (60, .invokevirtual 186, 63, 0, 0, 0), (63, .ireturn, 64, 0, 0, 0), (64, .aload_n 0, 65, 0, 0, 0), (65, .getfield 9, 68, 0, 8, 0), (68, .iconst 4, 69, 4, 0, 0), (69, .iaload, 70, 0, 0, 0), (70, .ireturn, 71, 0, 0, 0), (71, .aload_n 0, 72, 0, 0, 0), (72, .getfield 9, 75, 0, 8, 0), (75, .iconst 2, 76, 2, 0, 0), (76, .iaload, 77, 0, 0, 0), (77, .ireturn, 78, 0, 0, 0), (78, .aload_n 0, 79, 0, 0, 0), (79, .getfield 9, 82, 0, 8, 0), (82, .iconst 3, 83, 3, 0, 0), (83, .iaload, 84, 0, 0, 0), (84, .ireturn, 85, 0, 0, 0), (85, .aload_n 0, 86, 0, 0, 0), (86, .getfield 9, 89, 0, 8, 0), (89, .iconst 5, 90, 5, 0, 0), (90, .iaload, 91, 0, 0, 0), (91, .ireturn, 92, 0, 0, 0), (92, .aload_n 0, 93, 0, 0, 0), (93, .getfield 274, 96, 0, 8, 37), (96, .ireturn, 97, 0, 0, 0), (97, .aload_n 0, 98, 0, 0, 0), (98, .getfield 199, 101, 0, 8, 11), (101, .ireturn, 102, 0, 0, 0), (102, .aload_n 0, 103, 0, 0, 0), (103, .getfield 9, 106, 0, 8, 0), (106, .iconst 0, 107, 0, 0, 0), (107, .iaload, 108, 0, 0, 0), (108, .ireturn, 109, 0, 0, 0), (109, .ldc 97, 111, -1000000001, 0, 0), (111, .ireturn, 112, 0, 0, 0)]
theorem pk_M_count : okP m_M_count.1.cls m_M_count.2.1 p_M_count := ⟨fl_M, ct_M, fl_M_ok, ct_M_ok, by decide +kernel⟩
end
section
theorem nb {a b : Nat} (h : Nat.ble a b = true) : a ≤ b := Nat.le_of_ble_eq_true h
def bi (b : Bool) : Int32 := match b with
  | true => 1
  | false => 0
theorem bi_01 (b : Bool) : bi b = 0 ∨ bi b = 1 := by cases b <;> simp [bi]
theorem bi_t : bi true = 1 := rfl
theorem bi_f : bi false = 0 := rfl
theorem bi_eq0 {b : Bool} : bi b = 0 ↔ b = false := by cases b <;> simp [bi]
theorem bi_ne0 {b : Bool} : ¬ bi b = 0 ↔ b = true := by cases b <;> simp [bi]
theorem bi_inj {a b : Bool} : bi a = bi b ↔ a = b := by cases a <;> cases b <;> simp [bi]
theorem lit_nI (n : Nat) : (OfNat.ofNat n : Int32) = nI n := rfl
/-- the two sides of a branch -/
def cnd (i : Instr) (st : List AV) : Option (Prop × Prop × List AV) := match i with
  | .ifCond c _ => match st with
    | .inl x :: r => match c with
      | .eq => some (x = 0, ¬ x = 0, r)
      | .ne => some (¬ x = 0, x = 0, r)
      | .lt => some (x < 0, ¬ x < 0, r)
      | .ge => some (0 ≤ x, ¬ 0 ≤ x, r)
      | .gt => some (0 < x, ¬ 0 < x, r)
      | .le => some (x ≤ 0, ¬ x ≤ 0, r)
    | _ => none
  | .if_icmp c _ => match st with
    | .inl y :: .inl x :: r => match c with
      | .eq => some (x = y, ¬ x = y, r)
      | .ne => some (¬ x = y, x = y, r)
      | .lt => some (x < y, ¬ x < y, r)
      | .ge => some (y ≤ x, ¬ y ≤ x, r)
      | .gt => some (y < x, ¬ y < x, r)
      | .le => some (x ≤ y, ¬ x ≤ y, r)
    | _ => none
  | _ => none
def ldk (i : Instr) : Option Nat := match i with
  | .iaload => some 0
  | .baload => some 1
  | .caload => some 2
  | _ => none
def stk (i : Instr) : Option Nat := match i with
  | .iastore => some 0
  | .bastore => some 1
  | _ => none
section Rows2
variable {Γ : Cx} {l : Launch} {θ : Th} {d : Nat} {M : MI} {pg : List Rw} {pc pc' p1 a1 a2 : Nat} {v : Int32} {L L1 : Lc} {st st1 r : List AV} {σ σ1 : Sg} {i : Instr}
theorem Md.br0 (hG : Md Γ l θ d M pg) (hq : lkp pc pg = some (i, pc', v, a1, a2)) {ct cf : Prop} (hc : cnd i st = some (ct, cf, r)) (kt : ct → X Γ a1 L r σ) (kf : cf → X Γ pc' L r σ) : X Γ pc L st σ := by
  unfold cnd at hc
  split at hc
  · split at hc
    · split at hc <;> cases hc
      · exact hG.ifeq hq kt kf
      · exact hG.ifne hq kt kf
      · exact hG.iflt hq kt kf
      · exact hG.ifge hq kt kf
      · exact hG.ifgt hq kt kf
      · exact hG.ifle hq kt kf
    · cases hc
  · split at hc
    · split at hc <;> cases hc
      · exact hG.icmpeq hq kt kf
      · exact hG.icmpne hq kt kf
      · exact hG.icmplt hq kt kf
      · exact hG.icmpge hq kt kf
      · exact hG.icmpgt hq kt kf
      · exact hG.icmple hq kt kf
    · cases hc
  · cases hc
theorem Md.br (hG : Md Γ l θ d M pg) (hL : L.length = M.2.2.1) (hr : run pg 99 pc L st σ = (p1, L1, st1, σ1)) (hq : lkp p1 pg = some (i, pc', v, a1, a2)) {ct cf : Prop} (hc : cnd i st1 = some (ct, cf, r)) (kt : ct → X Γ a1 L1 r σ1) (kf : cf → X Γ pc' L1 r σ1) : X Γ pc L st σ := hG.go 99 hL hr (hG.br0 hq hc kt kf)
theorem Md.ld (hG : Md Γ l θ d M pg) (hL : L.length = M.2.2.1) {j : Int32} {c0 kd n : Nat} {rs : List Nat} (k : Nat) (hr : run pg 99 pc L st σ = (p1, L1, .inl j :: .inr c0 :: r, σ1)) (hq : lkp p1 pg = some (i, pc', v, a1, a2)) (hi : ldk i = some kd) (hl0 : lay[c0]? = some (.inr (kd, n, rs))) (hj : j = nI k) (hk : k < n) (kk : X Γ pc' L1 (.inl (σ1 c0 k) :: r) σ1) : X Γ pc L st σ := by
  refine hG.go 99 hL hr ?_
  unfold ldk at hi
  split at hi <;> cases hi
  · exact hG.iald hq hl0 hj hk kk
  · exact hG.zald hq hl0 hj hk kk
  · exact hG.cald hq hl0 hj hk kk
theorem Md.sti (hG : Md Γ l θ d M pg) (hL : L.length = M.2.2.1) {j x : Int32} {c0 n : Nat} {rs : List Nat} (k : Nat) (hr : run pg 99 pc L st σ = (p1, L1, .inl x :: .inl j :: .inr c0 :: r, σ1)) (hq : lkp p1 pg = some (.iastore, pc', v, a1, a2)) (hl0 : lay[c0]? = some (.inr (0, n, rs))) (hj : j = nI k) (hk : k < n) (kk : X Γ pc' L1 r (up σ1 c0 k x)) : X Γ pc L st σ :=
  hG.go 99 hL hr (hG.iast hq hl0 hj hk kk)
theorem Md.stz (hG : Md Γ l θ d M pg) (hL : L.length = M.2.2.1) {j x : Int32} {c0 n : Nat} {rs : List Nat} (k : Nat) (hr : run pg 99 pc L st σ = (p1, L1, .inl x :: .inl j :: .inr c0 :: r, σ1)) (hq : lkp p1 pg = some (.bastore, pc', v, a1, a2)) (hl0 : lay[c0]? = some (.inr (1, n, rs))) (hj : j = nI k) (hk : k < n) (hx : x = 0 ∨ x = 1) (kk : X Γ pc' L1 r (up σ1 c0 k x)) : X Γ pc L st σ :=
  hG.go 99 hL hr (hG.zast hq hl0 hj hk hx kk)
theorem Md.lda (hG : Md Γ l θ d M pg) (hL : L.length = M.2.2.1) {j : Int32} {c0 kd n z : Nat} {rs : List Nat} (k : Nat) (hr : run pg 99 pc L st σ = (p1, L1, .inl j :: .inr c0 :: r, σ1)) (hq : lkp p1 pg = some (.aaload, pc', v, a1, a2)) (hl0 : lay[c0]? = some (.inr (kd, n, rs))) (hkd : kd = 3 ∨ kd = 4 ∨ kd = 5) (hj : j = nI k) (hk : k < n) (hz : rs[k]? = some z) (kk : X Γ pc' L1 (.inr z :: r) σ1) : X Γ pc L st σ :=
  hG.go 99 hL hr (hG.aald hq hl0 hkd hj hk hz kk)
theorem Md.dv (hG : Md Γ l θ d M pg) (hL : L.length = M.2.2.1) {x y : Int32} (hr : run pg 99 pc L st σ = (p1, L1, .inl y :: .inl x :: r, σ1)) (hq : lkp p1 pg = some (.idiv, pc', v, a1, a2)) (hy : ¬ y = 0) (kk : X Γ pc' L1 (.inl (x / y) :: r) σ1) : X Γ pc L st σ := hG.go 99 hL hr (hG.idiv hq hy kk)
theorem Md.rm (hG : Md Γ l θ d M pg) (hL : L.length = M.2.2.1) {x y : Int32} (hr : run pg 99 pc L st σ = (p1, L1, .inl y :: .inl x :: r, σ1)) (hq : lkp p1 pg = some (.irem, pc', v, a1, a2)) (hy : ¬ y = 0) (kk : X Γ pc' L1 (.inl (x - x / y * y) :: r) σ1) : X Γ pc L st σ := hG.go 99 hL hr (hG.irem hq hy kk)
/-- back to a loop's head -/
theorem Md.jp (hG : Md Γ l θ d M pg) (hL : L.length = M.2.2.1) {o : Int} (hr : run pg 99 pc L st σ = (p1, L1, st1, σ1)) (hq : lkp p1 pg = some (.goto o, pc', v, a1, a2)) (kk : X Γ a1 L1 st1 σ1) : X Γ pc L st σ := hG.go 99 hL hr (hG.goto hq kk)
theorem Md.rt {post : Int32 → Sg → Prop} (hG : Md Γ l θ d M pg) (hR : RtI Γ M post) (hL : L.length = M.2.2.1) {x : Int32} (hr : run pg 99 pc L st σ = (p1, L1, [.inl x], σ1)) (hq : lkp p1 pg = some (.ireturn, pc', v, a1, a2)) (hi : M.2.2.2 = some .int) (hpost : post x σ1) : X Γ pc L st σ := hG.go 99 hL hr (hG.ret hR hq hi hpost)
theorem Md.rz {post : Int32 → Sg → Prop} (hG : Md Γ l θ d M pg) (hR : RtI Γ M post) (hL : L.length = M.2.2.1) {x : Int32} (hr : run pg 99 pc L st σ = (p1, L1, [.inl x], σ1)) (hq : lkp p1 pg = some (.ireturn, pc', v, a1, a2)) (hi : M.2.2.2 = some .boolean) (hx : x = 0 ∨ x = 1) (hpost : post x σ1) : X Γ pc L st σ := hG.go 99 hL hr (hG.retz hR hq hi hx hpost)
theorem Md.rv {post : Sg → Prop} (hG : Md Γ l θ d M pg) (hR : RtV Γ M post) (hL : L.length = M.2.2.1) (hr : run pg 99 pc L st σ = (p1, L1, [], σ1)) (hq : lkp p1 pg = some (.return_, pc', v, a1, a2)) (hpost : post σ1) : X Γ pc L st σ := hG.go 99 hL hr (hG.retv hR hq hpost)
theorem Md.cV {N : MI} {n d' idx o ci : Nat} {av rest : List AV} {fds : List (Option Nat)} {post : Int32 → Sg → Prop} (hG : Md Γ l θ d M pg) (hlk : LK M.1.cls idx N.1) (hN : MV N n) (hL : L.length = M.2.2.1) (hr : run pg 99 pc L st σ = (p1, L1, st1, σ1)) (hC : Ci l θ d' N (.inr o :: av) σ1 post) (hL1 : L1.length = M.2.2.1) (hq : lkp p1 pg = some (.invokevirtual idx, pc', v, a1, a2)) (hd' : Nat.ble (d' + 1) d = true) (hn : av.length = n) (hst : st1 = av.reverse ++ .inr o :: rest) (hlo : lay[o]? = some (.inl (ci, fds))) (hcl : (classes[ci]?).map (fun q => q.1) = some N.1.cls) (hre : Nat.ble rest.length 8 = true) (kk : ∀ (x : Int32) (σ' : Sg), post x σ' → X Γ pc' L1 (.inl x :: rest) σ') : X Γ pc L st σ :=
  hG.go 99 hL hr (hG.callV hq hlk hN hC (nb hd') hn hst hlo hcl (nb hre) hL1 kk)
theorem Md.cVv {N : MI} {n d' idx o ci : Nat} {av rest : List AV} {fds : List (Option Nat)} {post : Sg → Prop} (hG : Md Γ l θ d M pg) (hlk : LK M.1.cls idx N.1) (hN : MV N n) (hL : L.length = M.2.2.1) (hr : run pg 99 pc L st σ = (p1, L1, st1, σ1)) (hC : Cv l θ d' N (.inr o :: av) σ1 post) (hL1 : L1.length = M.2.2.1) (hq : lkp p1 pg = some (.invokevirtual idx, pc', v, a1, a2)) (hd' : Nat.ble (d' + 1) d = true) (hn : av.length = n) (hst : st1 = av.reverse ++ .inr o :: rest) (hlo : lay[o]? = some (.inl (ci, fds))) (hcl : (classes[ci]?).map (fun q => q.1) = some N.1.cls) (hre : Nat.ble rest.length 8 = true) (kk : ∀ (σ' : Sg), post σ' → X Γ pc' L1 rest σ') : X Γ pc L st σ :=
  hG.go 99 hL hr (hG.callVv hq hlk hN hC (nb hd') hn hst hlo hcl (nb hre) hL1 kk)
theorem Md.cS {N : MI} {n d' idx : Nat} {av rest : List AV} {post : Int32 → Sg → Prop} (hG : Md Γ l θ d M pg) (hlk : LK M.1.cls idx N.1) (hN : MS N n) (hL : L.length = M.2.2.1) (hr : run pg 99 pc L st σ = (p1, L1, st1, σ1)) (hC : Ci l θ d' N av σ1 post) (hL1 : L1.length = M.2.2.1) (hq : lkp p1 pg = some (.invokestatic idx, pc', v, a1, a2)) (hd' : Nat.ble (d' + 1) d = true) (hn : av.length = n) (hst : st1 = av.reverse ++ rest) (hre : Nat.ble rest.length 8 = true) (kk : ∀ (x : Int32) (σ' : Sg), post x σ' → X Γ pc' L1 (.inl x :: rest) σ') : X Γ pc L st σ :=
  hG.go 99 hL hr (hG.callS hq hlk hN hC (nb hd') hn hst (nb hre) hL1 kk)
theorem Md.cSv {N : MI} {n d' idx : Nat} {av rest : List AV} {post : Sg → Prop} (hG : Md Γ l θ d M pg) (hlk : LK M.1.cls idx N.1) (hN : MS N n) (hL : L.length = M.2.2.1) (hr : run pg 99 pc L st σ = (p1, L1, st1, σ1)) (hC : Cv l θ d' N av σ1 post) (hL1 : L1.length = M.2.2.1) (hq : lkp p1 pg = some (.invokestatic idx, pc', v, a1, a2)) (hd' : Nat.ble (d' + 1) d = true) (hn : av.length = n) (hst : st1 = av.reverse ++ rest) (hre : Nat.ble rest.length 8 = true) (kk : ∀ (σ' : Sg), post σ' → X Γ pc' L1 rest σ') : X Γ pc L st σ :=
  hG.go 99 hL hr (hG.callSv hq hlk hN hC (nb hd') hn hst (nb hre) hL1 kk)
/-- a table switch: the targets are told, and looked at by the kernel -/
def tswOk (pc : Nat) (dflt lo hi : Int) (offs : Array Int) (tg : List Nat) (td : Nat) : Bool := decide ((pc : Int) + dflt = (td : Int)) && decide (offs.toList.map (fun o => (pc : Int) + o) = tg.map (fun t : Nat => (t : Int))) && decide (hi = lo + (tg.length : Int) - 1)
theorem Md.tsw (hG : Md Γ l θ d M pg) (tg : List Nat) (td : Nat) (hL : L.length = M.2.2.1) {x : Int32} {dflt lo hi : Int} {offs : Array Int} (hr : run pg 99 pc L st σ = (p1, L1, .inl x :: r, σ1)) (hq : lkp p1 pg = some (.tableswitch dflt lo hi offs, pc', v, a1, a2)) (hk : tswOk p1 dflt lo hi offs tg td = true) (kin : ∀ (k t : Nat), tg[k]? = some t → x.toInt = lo + (k : Int) → X Γ t L1 r σ1) (kout : (∀ k : Nat, k < tg.length → ¬ x.toInt = lo + (k : Int)) → X Γ td L1 r σ1) : X Γ pc L st σ := by
  refine hG.go 99 hL hr ?_
  obtain ⟨fl, ct, -, -, hd, -, -, -⟩ := okP_row hG.2.1 hq
  simp only [tswOk, Bool.and_eq_true, decide_eq_true_eq] at hk
  obtain ⟨⟨h1, h2⟩, h3⟩ := hk
  by_cases hlo : x.toInt < lo ∨ hi < x.toInt
  · have hX := kout (fun k hk h => by rcases hlo with h | h <;> omega)
    obtain ⟨θ, ⟨p, l, e, R, s, m, args, below, meth, c⟩, A, ⟨kc, ks⟩, Q⟩ := Γ
    intro H locs ls hP hS hl
    exact lv_tableOut hG.1.1 hG.1.2.1 hd hlo h1 (hX H locs ls hP hS hl)
  · have hlo1 : ¬ x.toInt < lo := fun h => hlo (Or.inl h)
    have hhi1 : ¬ hi < x.toInt := fun h => hlo (Or.inr h)
    have hkl : (x.toInt - lo).toNat < tg.length := by omega
    have ht : tg[(x.toInt - lo).toNat]? = some tg[(x.toInt - lo).toNat] := List.getElem?_eq_getElem hkl
    have hX := kin (x.toInt - lo).toNat _ ht (by omega)
    have ho : (offs.toList.map (fun o => (p1 : Int) + o))[(x.toInt - lo).toNat]? = some ((tg[(x.toInt - lo).toNat] : Nat) : Int) := by
      rw [h2, List.getElem?_map, ht]; rfl
    rw [List.getElem?_map] at ho
    cases hoo : offs.toList[(x.toInt - lo).toNat]? with
    | none => rw [hoo] at ho; cases ho
    | some off =>
      rw [hoo] at ho
      have hoff : (p1 : Int) + off = ((tg[(x.toInt - lo).toNat] : Nat) : Int) := Option.some.inj ho
      rw [Array.getElem?_toList] at hoo
      obtain ⟨θ, ⟨p, l, e, R, s, m, args, below, meth, c⟩, A, ⟨kc, ks⟩, Q⟩ := Γ
      intro H locs ls hP hS hl
      exact lv_tableIn hG.1.1 hG.1.2.1 hd hlo1 hhi1 hoo hoff (hX H locs ls hP hS hl)
end Rows2
end
section
/-! switches by value, library calls, statics, the nest's static, booleans -/
def lswOk (pc : Nat) (dflt : Int) (ps : Array (Int × Int)) (tg : List (Int × Nat)) (td : Nat) : Bool := decide ((pc : Int) + dflt = (td : Int)) && decide (ps.toList.map (fun q => (q.1, (pc : Int) + q.2)) = tg.map (fun q : Int × Nat => (q.1, (q.2 : Int)))) && (ps.toList.zip (ps.toList.drop 1)).all (fun (a, next) => decide (a.1 < next.1))
theorem lsw_find (pc : Nat) (dflt : Int) (td : Nat) (hd : (pc : Int) + dflt = (td : Int)) (x : Int) : ∀ (l : List (Int × Int)) (tg : List (Int × Nat)), l.map (fun q => (q.1, (pc : Int) + q.2)) = tg.map (fun q : Int × Nat => (q.1, (q.2 : Int))) → (∃ k t, (k, t) ∈ tg ∧ x = k ∧ (pc : Int) + Op.lookupswitch.offset l dflt x = (t : Int)) ∨ ((∀ q ∈ tg, ¬ x = q.1) ∧ (pc : Int) + Op.lookupswitch.offset l dflt x = (td : Int))
  | [], [], _ => Or.inr ⟨fun q h => absurd h List.not_mem_nil, hd⟩
  | [], q :: r, h => by simp at h
  | a :: l, [], h => by simp at h
  | (a, o) :: l, (k, t) :: r, h => by
    simp only [List.map_cons, List.cons.injEq, Prod.mk.injEq] at h
    obtain ⟨⟨h1, h2⟩, h3⟩ := h
    by_cases hx : a = x
    · refine Or.inl ⟨k, t, List.mem_cons_self, by rw [← hx, h1], ?_⟩
      rw [Op.lookupswitch.offset_cons, if_pos hx]; exact h2
    · rw [Op.lookupswitch.offset_cons, if_neg hx]
      rcases lsw_find pc dflt td hd x l r h3 with ⟨k', t', h4, h5, h6⟩ | ⟨h4, h5⟩
      · exact Or.inl ⟨k', t', List.mem_cons_of_mem _ h4, h5, h6⟩
      · refine Or.inr ⟨fun q hq => ?_, h5⟩
        rcases List.mem_cons.mp hq with rfl | hq
        · intro h; exact hx (by rw [h1]; exact h.symm)
        · exact h4 q hq
theorem acp_ok : ∀ w ∈ ([.native arraycopyName, .static arraycopyName, .initialized "java/lang/System"] : List Cond), w ∈ TB := memTB _ [539, 538, 72] (by decide +kernel) (by decide +kernel)
theorem max_ok : ∀ w ∈ ([.static Lib.Math.max.name, .initialized "java/lang/Math", .code Lib.Math.max.name Lib.Math.max.code 2 (some .int)] : List Cond), w ∈ TB := memTB _ [580, 71, 581] (by decide +kernel) (by decide +kernel)
theorem min_ok : ∀ w ∈ ([.static Lib.Math.min.name, .initialized "java/lang/Math", .code Lib.Math.min.name Lib.Math.min.code 2 (some .int)] : List Cond), w ∈ TB := memTB _ [459, 71, 460] (by decide +kernel) (by decide +kernel)
theorem abv_ok : ∀ w ∈ ([.fieldLink "NotWorn$Kinds" 15 "NotWorn$Kinds" "ABOVE" "[I"] : List Cond), w ∈ TB := memTB _ [390] (by decide +kernel) (by decide +kernel)
section Rows3
variable {Γ : Cx} {l : Launch} {θ : Th} {d : Nat} {M : MI} {pg : List Rw} {pc pc' p1 a1 a2 : Nat} {v : Int32} {L L1 : Lc} {st st1 r : List AV} {σ σ1 : Sg} {i : Instr}
theorem Md.lsw (hG : Md Γ l θ d M pg) (tg : List (Int × Nat)) (td : Nat) (hL : L.length = M.2.2.1) {x : Int32} {dflt : Int} {ps : Array (Int × Int)} (hr : run pg 99 pc L st σ = (p1, L1, .inl x :: r, σ1)) (hq : lkp p1 pg = some (.lookupswitch dflt ps, pc', v, a1, a2)) (hk : lswOk p1 dflt ps tg td = true) (kin : ∀ (k : Int) (t : Nat), (k, t) ∈ tg → x.toInt = k → X Γ t L1 r σ1) (kout : (∀ q ∈ tg, ¬ x.toInt = q.1) → X Γ td L1 r σ1) : X Γ pc L st σ := by
  refine hG.go 99 hL hr ?_
  obtain ⟨fl, ct, -, -, hd, -, -, -⟩ := okP_row hG.2.1 hq
  simp only [lswOk, Bool.and_eq_true, decide_eq_true_eq] at hk
  obtain ⟨⟨h1, h2⟩, h3⟩ := hk
  rcases lsw_find p1 dflt td h1 x.toInt ps.toList tg h2 with ⟨k, t, h4, h5, h6⟩ | ⟨h4, h6⟩
  · have hX := kin k t h4 h5
    obtain ⟨θ, ⟨p, l, e, R, s, m, args, below, meth, c⟩, A, ⟨kc, ks⟩, Q⟩ := Γ
    intro H locs ls hP hS hl
    exact lv_lookup hG.1.1 hG.1.2.1 hd h3 rfl h6 (hX H locs ls hP hS hl)
  · have hX := kout h4
    obtain ⟨θ, ⟨p, l, e, R, s, m, args, below, meth, c⟩, A, ⟨kc, ks⟩, Q⟩ := Γ
    intro H locs ls hP hS hl
    exact lv_lookup hG.1.1 hG.1.2.1 hd h3 rfl h6 (hX H locs ls hP hS hl)
theorem Md.acp {idx : Nat} (hG : Md Γ l θ d M pg) (hd0 : Nat.ble 1 d = true) (hlk : LK M.1.cls idx arraycopyName) (hL : L.length = M.2.2.1) {sp dp n : Int32} {c0 c1 n0 n1 : Nat} {rs0 rs1 : List Nat} (a b k : Nat) (hr : run pg 99 pc L st σ = (p1, L1, .inl n :: .inl dp :: .inr c1 :: .inl sp :: .inr c0 :: r, σ1)) (hL1 : L1.length = M.2.2.1) (hq : lkp p1 pg = some (.invokestatic idx, pc', v, a1, a2)) (hl0 : lay[c0]? = some (.inr (0, n0, rs0))) (hl1 : lay[c1]? = some (.inr (0, n1, rs1))) (hre : Nat.ble r.length 8 = true) (e1 : sp = nI a) (e2 : dp = nI b) (e3 : n = nI k) (h4 : a + k ≤ n0) (h5 : b + k ≤ n1) (kk : X Γ pc' L1 r (upc σ1 c1 (va_cpy (σ1 c0) (σ1 c1) a b k))) : X Γ pc L st σ := by
  refine hG.go 99 hL hr ?_
  obtain ⟨hd, he⟩ := okP_dec hG.2.1 hq (by simp [lenI])
  have hn0 := layN hl0
  have hn1 := layN hl1
  obtain ⟨θ', ⟨p, l', e, R, s, m, args, below, meth, c⟩, A, ⟨kc, ks⟩, Q⟩ := Γ
  obtain ⟨⟨hx, hb, hml, hown, hts, hE, hI, hA⟩, hp, q1, q2, hf1, hf2, hf3, hf4⟩ := hG
  subst q1; subst q2; subst he; subst e1; subst e2; subst e3
  have ca : (nI a).toNatClampNeg = a := nI_clamp (by omega)
  have cb : (nI b).toNatClampNeg = b := nI_clamp (by omega)
  have ck : (nI k).toNatClampNeg = k := nI_clamp (by omega)
  have hd1 : 1 ≤ d := nb hd0
  have hr8 : r.length ≤ 8 := nb hre
  intro H locs ls hP hS hl
  refine va_copyi (ty := .int) (f := σ1 c0) (g := σ1 c1) hx hb (by rw [hml, hl.1]; exact hL1.symm) hown (hts _ hlk) (hts _ (acp_ok _ (by simp))) (hts _ (acp_ok _ (by simp))) (hts _ (acp_ok _ (by simp))) hE.1 hP (wsOf_D hI hA σ1) hS c0 c1 0 0 (wsOf_get hl0) (wsOf_get hl1) rfl rfl rfl (nI_pos (by omega)) (nI_pos (by omega)) (nI_pos (by omega)) (by rw [ca, ck]; exact h4) (by rw [cb, ck]; exact h5) (fun i _ => rfl) (by omega) (by rw [cat_sum, show nativeFrameWords "java/lang/System" "arraycopy" 5 = 7 by decide +kernel]; omega) hd ?_
  intro H1 locs1 hP1 _ hS1
  rw [ca, cb, ck] at hP1
  exact kk H1 locs1 ls (by rw [← wsOf_upc hl1]; exact hP1) hS1 hl
theorem Md.mx {idx : Nat} (hG : Md Γ l θ d M pg) (hd0 : Nat.ble 1 d = true) (hlk : LK M.1.cls idx Lib.Math.max.name) (hL : L.length = M.2.2.1) {x y : Int32} (hr : run pg 99 pc L st σ = (p1, L1, .inl y :: .inl x :: r, σ1)) (hL1 : L1.length = M.2.2.1) (hq : lkp p1 pg = some (.invokestatic idx, pc', v, a1, a2)) (hre : Nat.ble r.length 8 = true) (kk : X Γ pc' L1 (.inl (if x < y then y else x) :: r) σ1) : X Γ pc L st σ := by
  refine hG.go 99 hL hr ?_
  obtain ⟨hd, he⟩ := okP_dec hG.2.1 hq (by simp [lenI])
  obtain ⟨θ', ⟨p, l', e, R, s, m, args, below, meth, c⟩, A, ⟨kc, ks⟩, Q⟩ := Γ
  obtain ⟨⟨hx, hb, hml, hown, hts, hE, hI, hA⟩, hp, q1, q2, hf1, hf2, hf3, hf4⟩ := hG
  subst q1; subst q2; subst he
  have hd1 : 1 ≤ d := nb hd0
  have hr8 : r.length ≤ 8 := nb hre
  intro H locs ls hP hS hl
  exact va_mmax hx hb (by rw [hml, hl.1]; exact hL1.symm) hown (hts _ hlk) (hts _ (max_ok _ (by simp))) (hts _ (max_ok _ (by simp))) (hts _ (max_ok _ (by simp))) (by omega) (by rw [cat_sum]; omega) hf3 hf4 hd (kk H locs ls hP hS hl)
theorem Md.mn {idx : Nat} (hG : Md Γ l θ d M pg) (hd0 : Nat.ble 1 d = true) (hlk : LK M.1.cls idx Lib.Math.min.name) (hL : L.length = M.2.2.1) {x y : Int32} (hr : run pg 99 pc L st σ = (p1, L1, .inl y :: .inl x :: r, σ1)) (hL1 : L1.length = M.2.2.1) (hq : lkp p1 pg = some (.invokestatic idx, pc', v, a1, a2)) (hre : Nat.ble r.length 8 = true) (kk : X Γ pc' L1 (.inl (if y < x then y else x) :: r) σ1) : X Γ pc L st σ := by
  refine hG.go 99 hL hr ?_
  obtain ⟨hd, he⟩ := okP_dec hG.2.1 hq (by simp [lenI])
  obtain ⟨θ', ⟨p, l', e, R, s, m, args, below, meth, c⟩, A, ⟨kc, ks⟩, Q⟩ := Γ
  obtain ⟨⟨hx, hb, hml, hown, hts, hE, hI, hA⟩, hp, q1, q2, hf1, hf2, hf3, hf4⟩ := hG
  subst q1; subst q2; subst he
  have hd1 : 1 ≤ d := nb hd0
  have hr8 : r.length ≤ 8 := nb hre
  intro H locs ls hP hS hl
  refine va_mmin hx hb (by rw [hml, hl.1]; exact hL1.symm) hown (hts _ hlk) (hts _ (min_ok _ (by simp))) (hts _ (min_ok _ (by simp))) (hts _ (min_ok _ (by simp))) (by omega) (by rw [cat_sum]; omega) hf3 hf4 hd ?_
  exact (kk H locs ls hP hS hl)
/-- the table of kinds -/
theorem Md.gabv (hG : Md Γ l θ d M pg) (hM : M.1.cls = "NotWorn$Kinds") (hL : L.length = M.2.2.1) (hr : run pg 99 pc L st σ = (p1, L1, st1, σ1)) (hq : lkp p1 pg = some (.getstatic 15, pc', v, a1, a2)) (kk : X Γ pc' L1 (.inr 900 :: st1) σ1) : X Γ pc L st σ := by
  refine hG.go 99 hL hr ?_
  obtain ⟨hd, he⟩ := okP_dec hG.2.1 hq (by simp [lenI])
  obtain ⟨θ', ⟨p, l', e, R, s, m, args, below, meth, c⟩, A, ⟨kc, ks⟩, Q⟩ := Γ
  obtain ⟨⟨hx, hb, hml, hown, hts, hE, hI, hA⟩, hp, q1, q2, hf1, hf2, hf3, hf4⟩ := hG
  subst q1; subst q2; subst he
  rw [hM] at hown
  intro H locs ls hP hS hl
  exact va_gets hx hb hE.2.2.1.1 hS hown (hts _ (abv_ok _ (by simp))) (fun _ h => h) hd (kk H locs ls hP hS hl)
theorem Md.gabvld (hG : Md Γ l θ d M pg) (hL : L.length = M.2.2.1) {j : Int32} (k : Nat) (hr : run pg 99 pc L st σ = (p1, L1, .inl j :: .inr 900 :: r, σ1)) (hq : lkp p1 pg = some (.iaload, pc', v, a1, a2)) (hj : j = nI k) (hk : k < 6) (kk : X Γ pc' L1 (.inl (abv k) :: r) σ1) : X Γ pc L st σ := by
  refine hG.go 99 hL hr ?_
  obtain ⟨hd, he⟩ := okP_dec hG.2.1 hq (by simp [lenI])
  obtain ⟨θ', ⟨p, l', e, R, s, m, args, below, meth, c⟩, A, ⟨kc, ks⟩, Q⟩ := Γ
  obtain ⟨⟨hx, hb, hml, hown, hts, hE, hI, hA⟩, hp, q1, q2, hf1, hf2, hf3, hf4⟩ := hG
  obtain ⟨h1, h2⟩ := vp_inN hk (by decide)
  subst q1; subst q2; subst he; subst hj
  intro H locs ls hP hS hl
  exact va_ti hx hb hE.2.2.1.2 hS h1 (v := .int (abv k)) (by rw [h2]) hd (kk H locs ls hP hS hl)
theorem Md.bit {N : MI} {n d' idx : Nat} {av rest : List AV} {post : Int32 → Sg → Prop} (hG : Md Γ l θ d M pg) (hM : M.1.cls = "NotWorn$Laws" ∧ idx = 33 ∨ M.1.cls = "NotWorn$Valley" ∧ idx = 128) (hN : MS N n) (hL : L.length = M.2.2.1) (hr : run pg 99 pc L st σ = (p1, L1, st1, σ1)) (hC : Ci l θ d' N av σ1 post) (hy : N.1 = y_bit) (hL1 : L1.length = M.2.2.1) (hq : lkp p1 pg = some (.invokestatic idx, pc', v, a1, a2)) (hd' : Nat.ble (d' + 1) d = true) (hn : av.length = n) (hst : st1 = av.reverse ++ rest) (hre : Nat.ble rest.length 8 = true) (kk : ∀ (x : Int32) (σ' : Sg), post x σ' → X Γ pc' L1 (.inl x :: rest) σ') : X Γ pc L st σ := by
  refine hG.go 99 hL hr ?_
  obtain ⟨hd, he⟩ := okP_dec hG.2.1 hq (by simp [lenI])
  have hG1 := hG.1
  obtain ⟨θ', ⟨p, l', e, R, s, m, args, below, meth, c⟩, A, ⟨kc, ks⟩, Q⟩ := Γ
  obtain ⟨⟨hx, hb, hml, hown, hts, hE, hI, hA⟩, hp, q1, q2, hf1, hf2, hf3, hf4⟩ := hG
  subst q1; subst q2; subst he; subst hst
  obtain ⟨hw, -, hcl2, hdesc, hmx⟩ := hN
  intro H locs ls hP hS hl
  have hcode : Cond.code N.1 N.2.1 N.2.2.1 N.2.2.2 ∈ TB := hw _ (by simp)
  have hpre := Ok.preS hG1 (av := av) hP hS
  have hnw : va_Nw (.methodLinkNest M.1.cls idx N.1 "NotWorn") s := by
    rcases hM with ⟨h1, h2⟩ | ⟨h1, h2⟩
    · rw [h1, h2, hy]; exact hE.2.1.1
    · rw [h1, h2, hy]; exact hE.2.1.2
  refine va_calli (A1 := AA θ') (va_runSN (As := av.map (conc θ'.1)) (rest := rest.map (conc θ'.1)) ⟨hx, hb, hml, hown, hts⟩ hC ⟨va_cnB n hts (goodIn_TB (Ws_TB hcode)) rfl rfl rfl hnw (hts _ (hw _ (by simp))) ⟨hcl2.1, hcl2.2, hdesc⟩ (room_le (nb hd') hmx hf1 hf2), hts _ (hw _ (by simp)), trivial⟩ hpre rfl (by rw [List.length_map]; exact hn) (by rw [hl.1]; exact hL1) (by simp) (lv_room (by rw [cat_sum]; exact nb hre)) hd ⟨hf3, hf4⟩) hS (fun q _ h => hA q h) hA ?_
  intro x u t H1 locs1 ht _ hpo hB _ _ hS1
  rw [ht] at hB
  exact kk x u hpo H1 locs1 ls hB hS1 hl
/-- a boolean field becomes true -/
theorem Md.ptz (hG : Md Γ l θ d M pg) (hL : L.length = M.2.2.1) {k c0 ci : Nat} {fds : List (Option Nat)} (hr : run pg 99 pc L st σ = (p1, L1, .inl 1 :: .inr c0 :: r, σ1)) (hq : lkp p1 pg = some (.putfield k, pc', v, a1, a2)) (hl0 : lay[c0]? = some (.inl (ci, fds))) (hci : ci = a1) (hw : fds[a2]? = some none) (hf : (classes[a1]?).map (fun q => (!(q.2.1 a2).2.2.2 && (q.2.1 a2).2.2.1 == "Z" && decide (a2 < q.2.2))) = some true) (kk : X Γ pc' L1 r (up σ1 c0 a2 1)) : X Γ pc L st σ := by
  refine hG.go 99 hL hr ?_
  obtain ⟨hd, he⟩ := okP_dec hG.2.1 hq (by simp [lenI])
  obtain ⟨fl, ct, h1, -, h3⟩ := okAux_of hG.2.1 hq
  simp only [okAux, decide_eq_true_eq] at h3
  obtain ⟨θ', ⟨p, l', e, R, s, m, args, below, meth, c⟩, A, ⟨kc, ks⟩, Q⟩ := Γ
  obtain ⟨⟨hx, hb, hml, hown, hts, hE, hI, hA⟩, hp, q1, q2, hf1, hf2, hf3, hf4⟩ := hG
  subst q1; subst q2; subst he; subst hci
  obtain ⟨⟨C, T, N⟩, hcq, hlen⟩ := layOk hl0
  have hlink := h1 _ h3
  have hgd : classes.getD ci ("", FT0, 0) = (C, T, N) := by rw [List.getD_eq_getElem?_getD, hcq]; rfl
  simp only [FLc, hgd] at hlink
  obtain ⟨hw1, ⟨ty0, hty⟩, hnm, hcl⟩ := cl_ok _ (List.mem_of_getElem? hcq)
  dsimp only at hw1 hty hnm hcl hlen
  rw [hcq] at hf
  simp only [Option.map_some, Option.some.injEq, Bool.and_eq_true, Bool.not_eq_true', beq_iff_eq, decide_eq_true_eq] at hf
  obtain ⟨⟨g1, g2⟩, hk⟩ := hf
  intro H locs ls hP hS hl
  refine va_put (C := C) (T := T) (N := N) (ci := ci) (ref := (T a2).1) (index := k) (Ts := TB) (ty := .boolean) (v := .int 1) hx hb hts hw1 ty0 hty hnm hown hE.1 hP (wsOf_D hI hA σ1) hS c0 (wsOf_get hl0) hcq a2 hk (hts _ hlink) (fun _ h => h) g1 (by rw [g2]; decide +kernel) (by decide +kernel) (by decide +kernel) (by rw [conF_len]; exact (List.getElem?_eq_some_iff.mp hw).1) hd ?_
  intro H1 locs1 hP1 hD1 hS1
  refine kk H1 locs1 ls ?_ hS1 hl
  have e1 : (conF θ'.1 (σ1 c0) fds 0).set a2 (.int 1) = conF θ'.1 (upd (σ1 c0) a2 1) fds 0 := by
    have := conF_set (a := θ'.1) (f := σ1 c0) (v := 1) (l := fds) (j0 := 0) (j := a2) hw
    rw [Nat.zero_add] at this
    exact this.symm
  rw [e1] at hP1
  rw [up, ← wsOf_upc hl0]
  exact hP1
end Rows3
end
section
/-! plain functions to which both programs are tied -/
def Sm (cs : List Nat) (σ σ' : Sg) : Prop := ∀ c, c ∉ cs → σ' c = σ c
theorem Sm.rf {cs : List Nat} {σ : Sg} : Sm cs σ σ := fun _ _ => rfl
theorem Sm.tr {cs : List Nat} {σ σ1 σ2 : Sg} (h : Sm cs σ σ1) (h2 : Sm cs σ1 σ2) : Sm cs σ σ2 := fun c hc => (h2 c hc).trans (h c hc)
theorem Sm.up {cs : List Nat} {σ σ1 : Sg} (h : Sm cs σ σ1) {c j : Nat} {v : Int32} (hc : c ∈ cs) : Sm cs σ (up σ1 c j v) := fun x hx => by rw [up_c _ _ _ _ (c' := x) (fun e => hx (by rw [e]; exact hc))]; exact h x hx
theorem Sm.upc {cs : List Nat} {σ σ1 : Sg} (h : Sm cs σ σ1) {c : Nat} {f : Nat → Int32} (hc : c ∈ cs) : Sm cs σ (upc σ1 c f) := fun x hx => by rw [upc_c _ _ _ (c' := x) (fun e => hx (by rw [e]; exact hc))]; exact h x hx
theorem Sm.mono {cs ds : List Nat} {σ σ1 : Sg} (h : Sm cs σ σ1) (hs : ∀ c ∈ cs, c ∈ ds) : Sm ds σ σ1 := fun c hc => h c (fun h1 => hc (hs c h1))
-- loops over Bool functions, from i, n left
def allB (P : Nat → Bool) : Nat → Nat → Bool
  | _, 0 => true
  | i, n + 1 => P i && allB P (i + 1) n
def sumB (P : Nat → Bool) : Nat → Nat → Nat
  | _, 0 => 0
  | i, n + 1 => (if P i then 1 else 0) + sumB P (i + 1) n
def fndB (P : Nat → Bool) : Nat → Nat → Option Nat
  | _, 0 => none
  | i, n + 1 => if P i then some i else fndB P (i + 1) n
theorem allB_congr {P Q : Nat → Bool} : ∀ (n i : Nat), (∀ k, i ≤ k → k < i + n → P k = Q k) → allB P i n = allB Q i n
  | 0, _, _ => rfl
  | n + 1, i, h => by rw [allB, allB, h i (Nat.le_refl _) (by omega), allB_congr n (i + 1) (fun k h1 h2 => h k (by omega) (by omega))]
theorem sumB_congr {P Q : Nat → Bool} : ∀ (n i : Nat), (∀ k, i ≤ k → k < i + n → P k = Q k) → sumB P i n = sumB Q i n
  | 0, _, _ => rfl
  | n + 1, i, h => by rw [sumB, sumB, h i (Nat.le_refl _) (by omega), sumB_congr n (i + 1) (fun k h1 h2 => h k (by omega) (by omega))]
theorem fndB_congr {P Q : Nat → Bool} : ∀ (n i : Nat), (∀ k, i ≤ k → k < i + n → P k = Q k) → fndB P i n = fndB Q i n
  | 0, _, _ => rfl
  | n + 1, i, h => by rw [fndB, fndB, h i (Nat.le_refl _) (by omega), fndB_congr n (i + 1) (fun k h1 h2 => h k (by omega) (by omega))]
theorem sumB_le (P : Nat → Bool) : ∀ (n i : Nat), sumB P i n ≤ n
  | 0, _ => Nat.le_refl _
  | n + 1, i => by
    have := sumB_le P n (i + 1)
    rw [sumB]; split <;> omega
theorem fndB_some {P : Nat → Bool} : ∀ {n i k : Nat}, fndB P i n = some k → i ≤ k ∧ k < i + n ∧ P k = true
  | 0, _, _, h => by simp [fndB] at h
  | n + 1, i, k, h => by
    rw [fndB] at h
    split at h
    · cases h; rename_i hp; exact ⟨Nat.le_refl _, by omega, hp⟩
    · obtain ⟨h1, h2, h3⟩ := fndB_some h
      exact ⟨by omega, by omega, h3⟩
def optN (d : Int32) (o : Option Nat) : Int32 := match o with
  | none => d
  | some k => nI k
-- texts
def cntO (f : Nat → Int32) (key : Int32) : Nat → Option Nat
  | 0 => none
  | t + 1 => if f (58 + 2 * t) / 1000 = key then some t else cntO f key t
theorem cntO_lt {f : Nat → Int32} {key : Int32} : ∀ {t i : Nat}, cntO f key t = some i → i < t ∧ f (58 + 2 * i) / 1000 = key
  | 0, _, h => by simp [cntO] at h
  | t + 1, i, h => by
    rw [cntO] at h
    split at h
    · cases h; rename_i hp; exact ⟨by omega, hp⟩
    · obtain ⟨h1, h2⟩ := cntO_lt h
      exact ⟨by omega, h2⟩
theorem cntO_congr {f g : Nat → Int32} {key : Int32} : ∀ (t : Nat), (∀ i, i < t → g (58 + 2 * i) = f (58 + 2 * i)) → cntO g key t = cntO f key t
  | 0, _ => rfl
  | t + 1, h => by rw [cntO, cntO, h t (by omega), cntO_congr t (fun i hi => h i (by omega))]
def twoK (s a b : Int32) : Int32 := if s = -1 then bi (decide (¬ a = 0) || decide (¬ b = 0)) else if s = -2 then bi (decide (¬ a = 0) && decide (¬ b = 0)) else if s = -3 then bi (decide (a < b)) else if s = -4 then bi (decide (a = b)) else if s = -5 then bi (decide (b < a)) else if s = -6 then a + b else if s = -7 then a - b else if s = -8 then a * b else if b = 0 then 0 else a / b
def ev1 (fa : Nat → Int32) (c : Int32) (s : List Int32) : List Int32 :=
  if 0 ≤ c then (if c < 10000 then c else fa (c - 10000).toNatClampNeg) :: s
  else if c = -10 then (match s with
    | x :: r => bi (decide (x = 0)) :: r
    | [] => [])
  else match s with
    | y :: x :: r => twoK c x y :: r
    | _ => []
def evl (fa f : Nat → Int32) (b : Nat) : Nat → List Int32
  | 0 => []
  | k + 1 => ev1 fa (f (b + k)) (evl fa f b k)
def dpth (f : Nat → Int32) (b : Nat) : Nat → Nat
  | 0 => 0
  | k + 1 => if 0 ≤ f (b + k) then dpth f b k + 1 else if f (b + k) = -10 then dpth f b k else dpth f b k - 1
/-- a code of ln numbers from b on that a stack can work out; names below m -/
def CdOk (f : Nat → Int32) (b m ln : Nat) : Prop := ln ≤ 96 ∧ dpth f b ln = 1 ∧ ∀ k, k < ln → (0 ≤ f (b + k) → f (b + k) < nI (10000 + m)) ∧ (¬ 0 ≤ f (b + k) → f (b + k) = -10 → 1 ≤ dpth f b k) ∧ (¬ 0 ≤ f (b + k) → ¬ f (b + k) = -10 → 2 ≤ dpth f b k ∧ -10 ≤ f (b + k))
def nmK (ky : Nat) : Nat := if ky = 0 then 3 else 2
def TxOk (f : Nat → Int32) (i ky ln : Nat) : Prop := f (58 + 2 * i) = nI (1000 * ky + ln) ∧ ky < 3 ∧ CdOk f (86 + 96 * i) (nmK ky) ln
def evT (f : Nat → Int32) (i : Nat) (fa : Nat → Int32) : Int32 := (evl fa f (86 + 96 * i) ((f (58 + 2 * i)).toNatClampNeg % 1000)).headD 0
theorem evl_len {fa f : Nat → Int32} {b m ln : Nat} (h : CdOk f b m ln) : ∀ k, k ≤ ln → (evl fa f b k).length = dpth f b k
  | 0, _ => rfl
  | k + 1, hk => by
    have ih := evl_len (fa := fa) h k (by omega)
    obtain ⟨h1, h2, h3⟩ := h.2.2 k (by omega)
    rw [evl, dpth]
    unfold ev1
    by_cases c1 : 0 ≤ f (b + k)
    · simp [c1, ih]
    · rw [if_neg c1, if_neg c1]
      by_cases c2 : f (b + k) = -10
      · rw [if_pos c2, if_pos c2]
        have h4 := h2 c1 c2
        cases he : evl fa f b k with
        | nil => rw [he] at ih; simp at ih; omega
        | cons x r => rw [he] at ih; simpa using ih
      · rw [if_neg c2, if_neg c2]
        have h4 := (h3 c1 c2).1
        cases he : evl fa f b k with
        | nil => rw [he] at ih; simp at ih; omega
        | cons x r =>
          cases r with
          | nil => rw [he] at ih; simp at ih; omega
          | cons y r => rw [he] at ih; simp at ih ⊢; omega
theorem dpth_le (f : Nat → Int32) (b : Nat) : ∀ k, dpth f b k ≤ k
  | 0 => Nat.le_refl _
  | k + 1 => by
    have := dpth_le f b k
    rw [dpth]; split
    · omega
    · split <;> omega
theorem nI_of_range {x : Int32} {a b : Nat} (hb : b < 2 ^ 31) (ha : a < 2 ^ 31) (h1 : nI a ≤ x) (h2 : x < nI b) : ∃ j, a ≤ j ∧ j < b ∧ x = nI j := by
  have h0 : ¬ x < 0 := fun h => Int32.lt_irrefl (Int32.lt_of_lt_of_le (Int32.lt_of_lt_of_le h (nI_pos' ha)) h1)
  obtain ⟨j, hj, rfl⟩ := nI_of h0
  exact ⟨j, (nI_leI ha hj).mp h1, (nI_ltI hj hb).mp h2, rfl⟩
end
section
def fa3 (a b c : Int32) : Nat → Int32 := fun j => if j = 0 then a else if j = 1 then b else c
theorem evl_congr {fa fb f : Nat → Int32} {b m ln : Nat} (h : CdOk f b m ln) (hm : m ≤ 4) (he : ∀ j, j < m → fa j = fb j) : ∀ k, k ≤ ln → evl fa f b k = evl fb f b k
  | 0, _ => rfl
  | k + 1, hk => by
    have ih := evl_congr h hm he k (by omega)
    obtain ⟨h1, -, -⟩ := h.2.2 k (by omega)
    rw [evl, evl, ih]
    unfold ev1
    by_cases c1 : 0 ≤ f (b + k)
    · rw [if_pos c1, if_pos c1]
      by_cases c2 : f (b + k) < 10000
      · rw [if_pos c2, if_pos c2]
      · rw [if_neg c2, if_neg c2]
        obtain ⟨j, hj1, hj2, hj3⟩ := nI_of_range (a := 10000) (b := 10000 + m) (by omega) (by omega) (Int32.not_lt.mp c2) (h1 c1)
        have ej : f (b + k) - 10000 = nI (j - 10000) := by rw [hj3]; exact pk_sub hj1
        rw [ej, nI_clamp (by omega), he (j - 10000) (by omega)]
    · rw [if_neg c1, if_neg c1]
theorem evl_congr2 {fa f g : Nat → Int32} {b : Nat} : ∀ k, (∀ j, j < k → g (b + j) = f (b + j)) → evl fa g b k = evl fa f b k
  | 0, _ => rfl
  | k + 1, h => by rw [evl, evl, h k (by omega), evl_congr2 k (fun j hj => h j (by omega))]
theorem dpth_congr {f g : Nat → Int32} {b : Nat} : ∀ k, (∀ j, j < k → g (b + j) = f (b + j)) → dpth g b k = dpth f b k
  | 0, _ => rfl
  | k + 1, h => by rw [dpth, dpth, h k (by omega), dpth_congr k (fun j hj => h j (by omega))]
theorem CdOk_congr {f g : Nat → Int32} {b m ln : Nat} (h : CdOk f b m ln) (he : ∀ j, j < ln → g (b + j) = f (b + j)) : CdOk g b m ln := by
  obtain ⟨h1, h2, h3⟩ := h
  refine ⟨h1, by rw [dpth_congr ln he]; exact h2, fun k hk => ?_⟩
  rw [he k hk, dpth_congr k (fun j hj => he j (by omega))]
  exact h3 k hk
theorem TxOk_congr {f g : Nat → Int32} {i ky ln : Nat} (h : TxOk f i ky ln) (he : ∀ j, 58 ≤ j → g j = f j) : TxOk g i ky ln := by
  obtain ⟨h1, h2, h3⟩ := h
  exact ⟨by rw [he _ (by omega)]; exact h1, h2, CdOk_congr h3 (fun j _ => he _ (by omega))⟩
def TxsOk (f : Nat → Int32) (t : Nat) : Prop := ∀ i, i < t → ∃ ky ln, TxOk f i ky ln
theorem TxsOk_congr {f g : Nat → Int32} {t : Nat} (h : TxsOk f t) (he : ∀ j, 58 ≤ j → g j = f j) : TxsOk g t := fun i hi => by
  obtain ⟨ky, ln, h1⟩ := h i hi
  exact ⟨ky, ln, TxOk_congr h1 he⟩
theorem TxOk_key {f : Nat → Int32} {i ky ln : Nat} (h : TxOk f i ky ln) : f (58 + 2 * i) / 1000 = nI ky := by
  obtain ⟨h1, h2, h3⟩ := h
  have := h3.1
  rw [h1]
  have e := pk_div (a := 1000 * ky + ln) (d := 1000) (by omega) (by omega) (by omega)
  rw [show (1000 * ky + ln) / 1000 = ky by omega] at e
  exact e
theorem evT_eq {f fa : Nat → Int32} {i ky ln : Nat} (h : TxOk f i ky ln) : evT f i fa = (evl fa f (86 + 96 * i) ln).headD 0 := by
  obtain ⟨h1, h2, h3⟩ := h
  have := h3.1
  rw [evT, h1, nI_clamp (by omega), show (1000 * ky + ln) % 1000 = ln by omega]
theorem evT_congr {f g fa : Nat → Int32} {i ky ln : Nat} (h : TxOk f i ky ln) (he : ∀ j, 58 ≤ j → g j = f j) : evT g i fa = evT f i fa := by
  rw [evT_eq h, evT_eq (TxOk_congr h he), evl_congr2 ln (fun j _ => he _ (by omega))]
/-- the text that counts for a key has that key -/
theorem cntO_ok {f : Nat → Int32} {t i k : Nat} (ht : TxsOk f t) (hk : k < 3) (h : cntO f (nI k) t = some i) : i < t ∧ ∃ ln, TxOk f i k ln := by
  obtain ⟨h1, h2⟩ := cntO_lt h
  obtain ⟨ky, ln, h3⟩ := ht i h1
  rw [TxOk_key h3] at h2
  have h4 := h3.2.1
  have e : ky = k := (nI_eq (by omega) (by omega)).mp h2
  subst e
  exact ⟨h1, ln, h3⟩
def nearT (f : Nat → Int32) (t k : Nat) : Bool := match cntO f 0 t with
  | none => decide (k / 4 = 0)
  | some i => decide (¬ evT f i (fa3 (nI (k / 4)) (nI (k / 2 % 2)) (nI (k % 2))) = 0)
theorem nearT_congr {f g : Nat → Int32} {t : Nat} (ht : TxsOk f t) (he : ∀ j, 58 ≤ j → g j = f j) (k : Nat) : nearT g t k = nearT f t k := by
  unfold nearT
  rw [cntO_congr (f := f) (g := g) t (fun i _ => he _ (by omega))]
  cases h : cntO f 0 t with
  | none => rfl
  | some i =>
    obtain ⟨h1, ln, h2⟩ := cntO_ok (k := 0) ht (by omega) h
    dsimp only
    rw [evT_congr h2 he]
def apN (a b : Int32) : Nat := (if a / 25 = b / 25 then 0 else 1) + (if a / 5 - a / 5 / 5 * 5 = b / 5 - b / 5 / 5 * 5 then 0 else 1) + (if a - a / 5 * 5 = b - b / 5 * 5 then 0 else 1)
def nrIx (a b : Int32) : Nat := 4 * apN a b + (if a / 25 = b / 25 then 2 else 0) + (if a - a / 5 * 5 = b - b / 5 * 5 then 1 else 0)
theorem apN_le (a b : Int32) : apN a b ≤ 3 := by unfold apN; split <;> split <;> split <;> omega
theorem nrIx_lt (a b : Int32) : nrIx a b < 16 := by
  have := apN_le a b
  unfold nrIx; split <;> split <;> omega
theorem allB_s (P : Nat → Bool) (i n : Nat) : allB P i (n + 1) = (P i && allB P (i + 1) n) := rfl
theorem sumB_s (P : Nat → Bool) (i n : Nat) : sumB P i (n + 1) = (if P i then 1 else 0) + sumB P (i + 1) n := rfl
theorem fndB_s (P : Nat → Bool) (i n : Nat) : fndB P i (n + 1) = if P i then some i else fndB P (i + 1) n := rfl
end
section
/-! the dealing -/
abbrev Bst : Type := Option (Nat × Nat × List (Option Nat))
def gvA (d : Int32) (gv : List (Option Nat)) (a : Nat → Int32) : Prop := ∀ (i : Nat) (x : Option Nat), gv[i]? = some x → a i = optN d x
def gvOk (gv : List (Option Nat)) : Prop := ∀ v, some v ∈ gv → v < 125
def gvP (g : Nat → Bool) (nm : Nat) (x : Option Nat) : Bool := match x with
  | none => true
  | some v => !g (nrIx (nI v) (nI nm))
def mayB (g F : Nat → Bool) (gv : List (Option Nat)) (nm : Nat) : Bool := F nm && gv.all (gvP g nm)
def btr (m fs : Nat) (B : Bst) : Bool := match B with
  | none => true
  | some (bm, bf, _) => decide (bm < m) || (decide (m = bm) && decide (bf < fs))
def dl (g F : Nat → Bool) (W : Nat → Nat → Nat) : Nat → Nat → List (Option Nat) → Nat → Nat → Bst → Bst
  | 0, _, gv, m, fs, B => if btr m fs B then some (m, fs, gv) else B
  | r + 1, c, gv, m, fs, B => dl g F W r (c + 1) (gv ++ [none]) m fs (if mayB g F gv (W c 1) then dl g F W r (c + 1) (gv ++ [some (W c 1)]) (m + 1) fs (if mayB g F gv (W c 0) then dl g F W r (c + 1) (gv ++ [some (W c 0)]) (m + 1) (fs + 1) B else B) else (if mayB g F gv (W c 0) then dl g F W r (c + 1) (gv ++ [some (W c 0)]) (m + 1) (fs + 1) B else B))
def BOk (cN : Nat) (B : Bst) : Prop := ∀ bm bf bl, B = some (bm, bf, bl) → bl.length = cN ∧ gvOk bl ∧ bm ≤ cN ∧ bf ≤ cN
theorem gvOk_app {gv : List (Option Nat)} {x : Option Nat} (h : gvOk gv) (hx : ∀ v, x = some v → v < 125) : gvOk (gv ++ [x]) := by
  intro v hv
  rcases List.mem_append.mp hv with h1 | h1
  · exact h v h1
  · exact hx v (List.mem_singleton.mp h1).symm
theorem dl_ok {g F : Nat → Bool} {W : Nat → Nat → Nat} {cN : Nat} (hW : ∀ i w, i < cN → w < 2 → W i w < 125) : ∀ (r c : Nat) (gv : List (Option Nat)) (m fs : Nat) (B : Bst), c + r = cN → gv.length = c → gvOk gv → m ≤ c → fs ≤ c → BOk cN B → BOk cN (dl g F W r c gv m fs B)
  | 0, c, gv, m, fs, B, hc, hl, hg, hm, hfs, hB => by
    rw [dl]
    split
    · intro bm bf bl h
      cases h
      exact ⟨by omega, hg, by omega, by omega⟩
    · exact hB
  | r + 1, c, gv, m, fs, B, hc, hl, hg, hm, hfs, hB => by
    rw [dl]
    have h1 : BOk cN (if mayB g F gv (W c 0) then dl g F W r (c + 1) (gv ++ [some (W c 0)]) (m + 1) (fs + 1) B else B) := by
      split
      · exact dl_ok hW r (c + 1) _ _ _ _ (by omega) (by simp [hl]) (gvOk_app hg (fun v h => by cases h; exact hW c 0 (by omega) (by omega))) (by omega) (by omega) hB
      · exact hB
    refine dl_ok hW r (c + 1) _ _ _ _ (by omega) (by simp [hl]) (gvOk_app hg (fun v h => by cases h)) (by omega) (by omega) ?_
    split
    · exact dl_ok hW r (c + 1) _ _ _ _ (by omega) (by simp [hl]) (gvOk_app hg (fun v h => by cases h; exact hW c 1 (by omega) (by omega))) (by omega) (by omega) h1
    · exact h1
/-- something is always dealt -/
theorem dl_some {g F : Nat → Bool} {W : Nat → Nat → Nat} : ∀ (r c : Nat) (gv : List (Option Nat)) (m fs : Nat) (B : Bst), ∃ q, dl g F W r c gv m fs B = some q
  | 0, c, gv, m, fs, B => by
    rw [dl]
    cases B with
    | none => exact ⟨_, rfl⟩
    | some q => split <;> exact ⟨_, rfl⟩
  | r + 1, c, gv, m, fs, B => by
    rw [dl]
    exact dl_some r (c + 1) _ _ _ _
theorem gvA_app {d : Int32} {gv : List (Option Nat)} {a : Nat → Int32} {x : Option Nat} (h : gvA d gv a) : gvA d (gv ++ [x]) (upd a gv.length (optN d x)) := by
  intro i z hz
  by_cases hi : i < gv.length
  · rw [List.getElem?_append_left hi] at hz
    rw [show upd a gv.length (optN d x) i = a i by simp [upd]; omega]
    exact h i z hz
  · rw [List.getElem?_append_right (by omega)] at hz
    have hi2 : i - gv.length = 0 := by
      cases hq : i - gv.length with
      | zero => rfl
      | succ k => rw [hq] at hz; simp at hz
    rw [hi2] at hz
    have e : i = gv.length := by omega
    simp at hz
    rw [e, hz]
    simp [upd]
theorem gvA_pre {d : Int32} {gv : List (Option Nat)} {a : Nat → Int32} {x : Option Nat} (h : gvA d (gv ++ [x]) a) : gvA d gv a := by
  intro i z hz
  have hi : i < gv.length := (List.getElem?_eq_some_iff.mp hz).1
  exact h i z (by rw [List.getElem?_append_left hi]; exact hz)
theorem gvA_upd {d : Int32} {gv : List (Option Nat)} {a : Nat → Int32} {j : Nat} {v : Int32} (h : gvA d gv a) (hj : gv.length ≤ j) : gvA d gv (upd a j v) := by
  intro i z hz
  have hi : i < gv.length := (List.getElem?_eq_some_iff.mp hz).1
  rw [show upd a j v i = a i by simp [upd]; omega]
  exact h i z hz
def wshN (f : Nat → Int32) (c w : Nat) : Nat := (f (6 + 2 * c + w)).toNatClampNeg
end
section
/-! the reference, first part. The row 'now' (cell 96) is the abstract state, f. -/
theorem upc_upc (σ : Sg) (c : Nat) (f g : Nat → Int32) : upc (upc σ c f) c g = upc σ c g := by funext x; simp only [upc]; split <;> rfl
theorem upc_self (σ : Sg) (c : Nat) : upc σ c (σ c) = σ := by funext x; simp only [upc]; split <;> simp_all
theorem up_upc (σ : Sg) (c : Nat) (f : Nat → Int32) (j : Nat) (v : Int32) : up (upc σ c f) c j v = upc σ c (upd f j v) := by rw [up, upc_upc, upc_same]
theorem upd_same (f : Nat → Int32) (j : Nat) (v : Int32) : upd f j v j = v := by simp [upd]
theorem upd_ne {f : Nat → Int32} {j k : Nat} {v : Int32} (h : k ≠ j) : upd f j v k = f k := by simp [upd, h]
theorem upd_upd (f : Nat → Int32) (j : Nat) (v w : Int32) : upd (upd f j v) j w = upd f j w := by funext x; simp only [upd]; split <;> rfl
theorem i32_nlt {a b : Int32} : ¬ a < b ↔ b ≤ a := Int32.not_lt
theorem i32_nle {a b : Int32} : ¬ a ≤ b ↔ b < a := Int32.not_le
def inB (a b c : Int32) : Bool := decide (b ≤ a) && decide (a ≤ c)
section
variable {l : Launch} {θ : Th} {σ : Sg}
theorem c_M_in (a b c : Int32) : Ci l θ 1 m_M_in [.inl a, .inl b, .inl c] σ (fun r σ' => σ' = σ ∧ r = bi (inB a b c)) := by
  refine Ci.of (Or.inr mi_M_in) pk_M_in (nb rfl) (Or.inr rfl) [some (.inl a), some (.inl b), some (.inl c)] rfl fun Γ hG hR => ?_
  refine hG.br rfl rfl rfl rfl (fun h1 => ?_) (fun h1 => ?_)
  · refine hG.rz hR rfl rfl rfl rfl (Or.inl rfl) ?_
    exact ⟨rfl, by simp [bi, inB, i32_nle.mpr h1]⟩
  · refine hG.br rfl rfl rfl rfl (fun h2 => ?_) (fun h2 => ?_)
    · refine hG.rz hR rfl rfl rfl rfl (Or.inl rfl) ?_
      exact ⟨rfl, by simp [bi, inB, i32_nle.mpr h2]⟩
    · refine hG.rz hR rfl rfl rfl rfl (Or.inr rfl) ?_
      exact ⟨rfl, by simp [bi, inB, i32_nlt.mp h1, i32_nlt.mp h2]⟩
def withinF (v a b : Int32) : Int32 := if v < a then a else if b < v then b else v
theorem c_M_within (v a b : Int32) : Ci l θ 1 m_M_within [.inl v, .inl a, .inl b] σ (fun r σ' => σ' = σ ∧ r = withinF v a b) := by
  refine Ci.of (Or.inr mi_M_within) pk_M_within (nb rfl) (Or.inl rfl) [some (.inl v), some (.inl a), some (.inl b)] rfl fun Γ hG hR => ?_
  refine hG.br rfl rfl rfl rfl (fun h1 => ?_) (fun h1 => ?_)
  · refine hG.br rfl rfl rfl rfl (fun h2 => ?_) (fun h2 => ?_)
    · refine hG.rt hR rfl rfl rfl rfl ?_
      exact ⟨rfl, by simp [withinF, i32_nlt.mpr h1, i32_nlt.mpr h2]⟩
    · refine hG.rt hR rfl rfl rfl rfl ?_
      exact ⟨rfl, by simp [withinF, i32_nlt.mpr h1, i32_nle.mp h2]⟩
  · refine hG.rt hR rfl rfl rfl rfl ?_
    exact ⟨rfl, by simp [withinF, i32_nle.mp h1]⟩
theorem c_M_copyAll (c0 c1 : Nat) (h0 : lay[c0]? = some (sh_ints 1430)) (h1 : lay[c1]? = some (sh_ints 1430)) (hne : c0 ≠ c1) : Cv l θ 1 m_M_copyAll [.inr c0, .inr c1] σ (fun σ' => σ' = upc σ c1 (fun k => if k < 1430 then σ c0 k else σ c1 k)) := by
  refine Cv.of (Or.inr mi_M_copyAll) pk_M_copyAll (nb rfl) rfl [some (.inr c0), some (.inr c1), none] rfl fun Γ hG hR => ?_
  have loop : ∀ n i, i + n = 1430 → X Γ 2 [some (.inr c0), some (.inr c1), some (.inl (nI i))] [] (upc σ c1 (fun k => if k < i then σ c0 k else σ c1 k)) := by
    intro n
    induction n with
    | zero =>
      intro i hi
      have hi : i = 1430 := by omega
      subst hi
      refine hG.br rfl rfl rfl rfl (fun h => ?_) (fun h => ?_)
      · refine hG.rv hR rfl rfl rfl ?_
        rfl
      · exact absurd (show nI 1430 ≤ nI 1430 from nI_le (Nat.le_refl 1430) (by omega)) h
    | succ n ih =>
      intro i hi
      refine hG.br rfl rfl rfl rfl (fun h => ?_) (fun h => ?_)
      · exact absurd (show nI 1430 ≤ nI i from h) (nI_ge (by omega) (by omega))
      · refine hG.ld rfl i rfl rfl rfl h0 rfl (by omega) ?_
        refine hG.sti rfl i rfl rfl h1 rfl (by omega) ?_
        refine hG.jp rfl rfl rfl ?_
        have e : up (upc σ c1 (fun k => if k < i then σ c0 k else σ c1 k)) c1 i (upc σ c1 (fun k => if k < i then σ c0 k else σ c1 k) c0 i) = upc σ c1 (fun k => if k < i + 1 then σ c0 k else σ c1 k) := by
          rw [up_upc, upc_c _ _ _ hne]
          congr 1
          funext k
          simp only [upd]
          by_cases hk : k = i
          · subst hk; simp
          · have : k < i + 1 ↔ k < i := by omega
            simp [hk, this]
        rw [e, show nI i + 1 = nI (i + 1) from nI_1 i]
        exact ih (i + 1) (by omega)
  refine hG.go 2 rfl rfl ?_
  have := loop 1430 0 rfl
  simp only [Nat.not_lt_zero, if_false, upc_self] at this
  exact this
theorem c_M_isCalled (a : Int32) : Ci l θ 2 m_M_isCalled [.inl a] σ (fun r σ' => σ' = σ ∧ r = bi (inB a 0 124)) := by
  refine Ci.of (Or.inr mi_M_isCalled) pk_M_isCalled (nb rfl) (Or.inr rfl) [some (.inl a)] rfl fun Γ hG hR => ?_
  refine hG.cS lk_M_84 mi_M_in rfl rfl (c_M_in a 0 124) rfl rfl rfl rfl rfl rfl ?_
  rintro x σ' ⟨rfl, rfl⟩
  refine hG.rz hR rfl rfl rfl rfl (bi_01 _) ?_
  exact ⟨rfl, rfl⟩
theorem c_M_isYear (a : Int32) : Ci l θ 2 m_M_isYear [.inl a] σ (fun r σ' => σ' = σ ∧ r = bi (inB a (-999) 99999)) := by
  refine Ci.of (Or.inr mi_M_isYear) pk_M_isYear (nb rfl) (Or.inr rfl) [some (.inl a)] rfl fun Γ hG hR => ?_
  refine hG.cS lk_M_84 mi_M_in rfl rfl (c_M_in a (-999) 99999) rfl rfl rfl rfl rfl rfl ?_
  rintro x σ' ⟨rfl, rfl⟩
  refine hG.rz hR rfl rfl rfl rfl (bi_01 _) ?_
  exact ⟨rfl, rfl⟩
theorem c_M_isSheet (a : Int32) : Ci l θ 2 m_M_isSheet [.inl a] σ (fun r σ' => σ' = σ ∧ r = bi (inB a 0 3)) := by
  refine Ci.of (Or.inr mi_M_isSheet) pk_M_isSheet (nb rfl) (Or.inr rfl) [some (.inl a)] rfl fun Γ hG hR => ?_
  refine hG.cS lk_M_84 mi_M_in rfl rfl (c_M_in a 0 3) rfl rfl rfl rfl rfl rfl ?_
  rintro x σ' ⟨rfl, rfl⟩
  refine hG.rz hR rfl rfl rfl rfl (bi_01 _) ?_
  exact ⟨rfl, rfl⟩
theorem c_M_isSlot (a : Int32) : Ci l θ 2 m_M_isSlot [.inl a] σ (fun r σ' => σ' = σ ∧ r = bi (inB a 0 4)) := by
  refine Ci.of (Or.inr mi_M_isSlot) pk_M_isSlot (nb rfl) (Or.inr rfl) [some (.inl a)] rfl fun Γ hG hR => ?_
  refine hG.cS lk_M_84 mi_M_in rfl rfl (c_M_in a 0 4) rfl rfl rfl rfl rfl rfl ?_
  rintro x σ' ⟨rfl, rfl⟩
  refine hG.rz hR rfl rfl rfl rfl (bi_01 _) ?_
  exact ⟨rfl, rfl⟩
theorem c_M_isOne (p : Int32) : Ci l θ 2 m_M_isOne [.inr 95, .inl p] σ (fun r σ' => σ' = σ ∧ r = bi (inB p 0 (σ 96 1 - 1))) := by
  refine Ci.of (Or.inl mi_M_isOne) pk_M_isOne (nb rfl) (Or.inr rfl) [some (.inr 95), some (.inl p)] rfl fun Γ hG hR => ?_
  refine hG.ld rfl 1 rfl rfl rfl rfl rfl (by decide) ?_
  refine hG.cS lk_M_84 mi_M_in rfl rfl (c_M_in p 0 (σ 96 1 - 1)) rfl rfl rfl rfl rfl rfl ?_
  rintro x σ' ⟨rfl, rfl⟩
  refine hG.rz hR rfl rfl rfl rfl (bi_01 _) ?_
  exact ⟨rfl, rfl⟩
theorem c_M_of (p w : Nat) (h : 18 + 4 * p + w < 1430) : Ci l θ 1 m_M_of [.inr 95, .inl (nI p), .inl (nI w)] σ (fun r σ' => σ' = σ ∧ r = σ 96 (18 + 4 * p + w)) := by
  refine Ci.of (Or.inl mi_M_of) pk_M_of (nb rfl) (Or.inl rfl) [some (.inr 95), some (.inl (nI p)), some (.inl (nI w))] rfl fun Γ hG hR => ?_
  refine hG.ld rfl (18 + 4 * p + w) rfl rfl rfl rfl (by simp only [lit_nI, pk_mul, nI_add, nI_1]; first | done | rfl | (congr 1; omega)) h ?_
  refine hG.rt hR rfl rfl rfl rfl ?_
  exact ⟨rfl, rfl⟩
def aliveF (f : Nat → Int32) (p : Nat) : Bool := decide (f (18 + 4 * p + 3) = -1000000005)
theorem c_M_isAlive (p : Nat) (h : p < 10) : Ci l θ 2 m_M_isAlive [.inr 95, .inl (nI p)] σ (fun r σ' => σ' = σ ∧ r = bi (aliveF (σ 96) p)) := by
  refine Ci.of (Or.inl mi_M_isAlive) pk_M_isAlive (nb rfl) (Or.inr rfl) [some (.inr 95), some (.inl (nI p))] rfl fun Γ hG hR => ?_
  refine hG.cV lk_M_88 mi_M_of rfl rfl (c_M_of p 3 (by omega)) rfl rfl rfl rfl rfl rfl rfl rfl ?_
  rintro x σ' ⟨rfl, rfl⟩
  refine hG.br rfl rfl rfl rfl (fun h1 => ?_) (fun h1 => ?_)
  · refine hG.rz hR rfl rfl rfl rfl (Or.inl rfl) ?_
    exact ⟨rfl, by simp [aliveF, h1, bi]⟩
  · refine hG.rz hR rfl rfl rfl rfl (Or.inr rfl) ?_
    exact ⟨rfl, by simp [aliveF, h1, bi]⟩
theorem c_M_becomes (k : Nat) (v : Int32) (h : k < 1430) : Ci l θ 1 m_M_becomes [.inr 95, .inl (nI k), .inl v] σ (fun r σ' => σ' = up σ 96 k v ∧ r = σ 96 k) := by
  refine Ci.of (Or.inl mi_M_becomes) pk_M_becomes (nb rfl) (Or.inl rfl) [some (.inr 95), some (.inl (nI k)), some (.inl v), none] rfl fun Γ hG hR => ?_
  refine hG.ld rfl k rfl rfl rfl rfl rfl h ?_
  refine hG.sti rfl k rfl rfl rfl rfl h ?_
  refine hG.rt hR rfl rfl rfl rfl ?_
  exact ⟨rfl, rfl⟩
def comesF (f : Nat → Int32) (n : Nat) (k nm b : Int32) : Nat → Int32 := upd (upd (upd (upd (upd f (18 + 4 * n) k) (19 + 4 * n) nm) (20 + 4 * n) b) (21 + 4 * n) (-1000000005)) 1 (nI (n + 1))
theorem c_M_comes (n : Nat) (k nm b : Int32) (hn : n < 10) (hf : σ 96 1 = nI n) : Ci l θ 1 m_M_comes [.inr 95, .inl k, .inl nm, .inl b] σ (fun r σ' => σ' = upc σ 96 (comesF (σ 96) n k nm b) ∧ r = nI n) := by
  refine Ci.of (Or.inl mi_M_comes) pk_M_comes (nb rfl) (Or.inl rfl) [some (.inr 95), some (.inl k), some (.inl nm), some (.inl b), none] rfl fun Γ hG hR => ?_
  refine hG.ld rfl 1 rfl rfl rfl rfl rfl (by decide) ?_
  rw [hf]
  refine hG.sti rfl (18 + 4 * n) rfl rfl rfl (by simp only [lit_nI, pk_mul, nI_add, nI_1]; first | done | rfl | (congr 1; omega)) (by omega) ?_
  refine hG.sti rfl (19 + 4 * n) rfl rfl rfl (by simp only [lit_nI, pk_mul, nI_add, nI_1]; first | done | rfl | (congr 1; omega)) (by omega) ?_
  refine hG.sti rfl (20 + 4 * n) rfl rfl rfl (by simp only [lit_nI, pk_mul, nI_add, nI_1]; first | done | rfl | (congr 1; omega)) (by omega) ?_
  refine hG.sti rfl (21 + 4 * n) rfl rfl rfl (by simp only [lit_nI, pk_mul, nI_add, nI_1]; first | done | rfl | (congr 1; omega)) (by omega) ?_
  refine hG.ld rfl 1 rfl rfl rfl rfl rfl (by decide) ?_
  refine hG.sti rfl 1 rfl rfl rfl rfl (by decide) ?_
  refine hG.ld rfl 1 rfl rfl rfl rfl rfl (by decide) ?_
  refine hG.rt hR rfl rfl rfl rfl ?_
  have e : up (up (up (up σ 96 (18 + 4 * n) k) 96 (19 + 4 * n) nm) 96 (20 + 4 * n) b) 96 (21 + 4 * n) (-1000000005) = upc σ 96 (upd (upd (upd (upd (σ 96) (18 + 4 * n) k) (19 + 4 * n) nm) (20 + 4 * n) b) (21 + 4 * n) (-1000000005)) := by
    rw [show up σ 96 (18 + 4 * n) k = upc σ 96 (upd (σ 96) (18 + 4 * n) k) from rfl]
    rw [up_upc, up_upc, up_upc]
  rw [e, up_upc, upc_same, upc_same, upd_same]
  have e1 : upd (upd (upd (upd (σ 96) (18 + 4 * n) k) (19 + 4 * n) nm) (20 + 4 * n) b) (21 + 4 * n) (-1000000005) 1 = nI n := by
    rw [upd_ne (by omega), upd_ne (by omega), upd_ne (by omega), upd_ne (by omega), hf]
  rw [e1]
  refine ⟨?_, ?_⟩
  · rw [show nI n + 1 = nI (n + 1) from nI_1 n]; rfl
  · rw [nI_1, nI_pred]
theorem c_M_draw : Ci l θ 1 m_M_draw [.inr 95] σ (fun r σ' => σ' = up σ 96 0 (σ 96 0 * 1103515245 + 12345) ∧ r = ((σ 96 0 * 1103515245 + 12345).toUInt32 >>> ((8 : Int32).toUInt32 &&& Int32.toUInt32 31)).toInt32) := by
  refine Ci.of (Or.inl mi_M_draw) pk_M_draw (nb rfl) (Or.inl rfl) [some (.inr 95)] rfl fun Γ hG hR => ?_
  refine hG.ld rfl 0 rfl rfl rfl rfl rfl (by decide) ?_
  refine hG.sti rfl 0 rfl rfl rfl rfl (by decide) ?_
  refine hG.ld rfl 0 rfl rfl rfl rfl rfl (by decide) ?_
  refine hG.rt hR rfl rfl rfl rfl ?_
  rw [up_self]
  exact ⟨rfl, rfl⟩
end
end
section
theorem tsw_x {x w : Int32} {n : Int} (h : x.toInt = n) (hw : w.toInt = n) : x = w := Int32.toInt_inj.mp (h.trans hw.symm)
def holdK (k : Int32) (al one saint : Bool) (old y : Int32) : Bool := if k = 1 then one && decide (old < 100) else if k = 2 then saint else if k = 3 then one && decide (old < 100) && (!al || decide (y - y / 2 * 2 = 0)) else if k = 4 then saint || decide (old < 500) else if k = 5 then al else one
def deadF (f : Nat → Int32) (p : Nat) (y : Int32) : Int32 := if aliveF f p then 0 else y - f (18 + 4 * p + 3)
def oneF (f : Nat → Int32) (p : Nat) (y : Int32) : Bool := aliveF f p || decide (deadF f p y < f 3)
def saintF (f : Nat → Int32) (p : Nat) (y : Int32) : Bool := oneF f p y || decide (deadF f p y < 200)
def holdF (f : Nat → Int32) (p : Nat) (y : Int32) : Bool := holdK (f (18 + 4 * p)) (aliveF f p) (oneF f p y) (saintF f p y) (y - f (18 + 4 * p + 2)) y
def worthK (k nm : Int32) : Int32 := if k = 1 then nm + 7 else if k = 2 then 200 - nm else if k = 3 then 2 * (nm + 7) else if k = 4 then 191 - nm else if k = 5 then 3 else nm
def underK (k o : Int32) : Bool := decide (o = 0) || decide (k = o) || (decide (o = 1) && decide (k = 3)) || (decide (o = 2) && decide (k = 4))
section
variable {l : Launch} {θ : Th} {σ : Sg}
theorem c_M_doesHold (p : Nat) (y : Int32) (hp : p < 10) : Ci l θ 3 m_M_doesHold [.inr 95, .inl (nI p), .inl y] σ (fun r σ' => σ' = σ ∧ r = bi (holdF (σ 96) p y)) := by
  refine Ci.of (Or.inl mi_M_doesHold) pk_M_doesHold (nb rfl) (Or.inr rfl) [some (.inr 95), some (.inl (nI p)), some (.inl y), none, none, none, none, none] rfl fun Γ hG hR => ?_
  refine hG.cV lk_M_103 mi_M_isAlive rfl rfl (c_M_isAlive p hp) rfl rfl rfl rfl rfl rfl rfl rfl ?_
  rintro x σ' ⟨rfl, rfl⟩
  have j22 : X Γ 22 [some (.inr 95), some (.inl (nI p)), some (.inl y), some (.inl (bi (aliveF (σ' 96) p))), none, none, none, none] [.inl (deadF (σ' 96) p y)] σ' := by
    refine hG.cV lk_M_88 mi_M_of rfl rfl (c_M_of p 2 (by omega)) rfl rfl rfl rfl rfl rfl rfl rfl ?_
    rintro x σ' ⟨rfl, rfl⟩
    have j54 : X Γ 54 [some (.inr 95), some (.inl (nI p)), some (.inl y), some (.inl (bi (aliveF (σ' 96) p))), some (.inl (deadF (σ' 96) p y)), some (.inl (y - σ' 96 (18 + 4 * p + 2))), none, none] [.inl (bi (oneF (σ' 96) p y))] σ' := by
      have j74 : X Γ 74 [some (.inr 95), some (.inl (nI p)), some (.inl y), some (.inl (bi (aliveF (σ' 96) p))), some (.inl (deadF (σ' 96) p y)), some (.inl (y - σ' 96 (18 + 4 * p + 2))), some (.inl (bi (oneF (σ' 96) p y))), none] [.inl (bi (saintF (σ' 96) p y))] σ' := by
        refine hG.cV lk_M_88 mi_M_of rfl rfl (c_M_of p 0 (by omega)) rfl rfl rfl rfl rfl rfl rfl rfl ?_
        rintro x σ' ⟨rfl, rfl⟩
        rw [show 18 + 4 * p + 0 = 18 + 4 * p from rfl]
        refine hG.tsw [116, 134, 137, 165, 184] 186 rfl rfl rfl (by decide +kernel) ?_ ?_
        · intro k t hk hx
          match k, hk, hx with
          | 0, hk, hx =>
            cases hk
            have e : σ' 96 (18 + 4 * p) = 1 := tsw_x hx rfl
            refine hG.br rfl rfl rfl rfl (fun h1 => ?_) (fun h1 => ?_)
            · refine hG.rz hR rfl rfl rfl rfl (Or.inl rfl) ?_
              exact ⟨rfl, by simp [holdF, holdK, e, bi_eq0.mp h1, bi]⟩
            · refine hG.br rfl rfl rfl rfl (fun h2 => ?_) (fun h2 => ?_)
              · refine hG.rz hR rfl rfl rfl rfl (Or.inl rfl) ?_
                exact ⟨rfl, by simp [holdF, holdK, e, i32_nlt.mpr h2, bi]⟩
              · refine hG.rz hR rfl rfl rfl rfl (Or.inr rfl) ?_
                exact ⟨rfl, by simp [holdF, holdK, e, bi_ne0.mp h1, i32_nle.mp h2, bi]⟩
          | 1, hk, hx =>
            cases hk
            have e : σ' 96 (18 + 4 * p) = 2 := tsw_x hx rfl
            refine hG.rz hR rfl rfl rfl rfl (bi_01 _) ?_
            exact ⟨rfl, by simp [holdF, holdK, e]⟩
          | 2, hk, hx =>
            cases hk
            have e : σ' 96 (18 + 4 * p) = 3 := tsw_x hx rfl
            refine hG.br rfl rfl rfl rfl (fun h1 => ?_) (fun h1 => ?_)
            · refine hG.rz hR rfl rfl rfl rfl (Or.inl rfl) ?_
              exact ⟨rfl, by simp [holdF, holdK, e, bi_eq0.mp h1, bi]⟩
            · refine hG.br rfl rfl rfl rfl (fun h2 => ?_) (fun h2 => ?_)
              · refine hG.rz hR rfl rfl rfl rfl (Or.inl rfl) ?_
                exact ⟨rfl, by simp [holdF, holdK, e, i32_nlt.mpr h2, bi]⟩
              · refine hG.br rfl rfl rfl rfl (fun h3 => ?_) (fun h3 => ?_)
                · refine hG.rz hR rfl rfl rfl rfl (Or.inr rfl) ?_
                  exact ⟨rfl, by simp [holdF, holdK, e, bi_ne0.mp h1, i32_nle.mp h2, bi_eq0.mp h3, bi]⟩
                · refine hG.rm rfl rfl rfl (by decide) ?_
                  refine hG.br rfl rfl rfl rfl (fun h4 => ?_) (fun h4 => ?_)
                  · refine hG.rz hR rfl rfl rfl rfl (Or.inl rfl) ?_
                    exact ⟨rfl, by simp [holdF, holdK, e, bi_ne0.mp h3, h4, bi]⟩
                  · refine hG.rz hR rfl rfl rfl rfl (Or.inr rfl) ?_
                    exact ⟨rfl, by simp [holdF, holdK, e, bi_ne0.mp h1, i32_nle.mp h2, h4, bi]⟩
          | 3, hk, hx =>
            cases hk
            have e : σ' 96 (18 + 4 * p) = 4 := tsw_x hx rfl
            refine hG.br rfl rfl rfl rfl (fun h1 => ?_) (fun h1 => ?_)
            · refine hG.rz hR rfl rfl rfl rfl (Or.inr rfl) ?_
              exact ⟨rfl, by simp [holdF, holdK, e, bi_ne0.mp h1, bi]⟩
            · refine hG.br rfl rfl rfl rfl (fun h2 => ?_) (fun h2 => ?_)
              · refine hG.rz hR rfl rfl rfl rfl (Or.inl rfl) ?_
                exact ⟨rfl, by simp [holdF, holdK, e, bi_eq0.mp h1, i32_nlt.mpr h2, bi]⟩
              · refine hG.rz hR rfl rfl rfl rfl (Or.inr rfl) ?_
                exact ⟨rfl, by simp [holdF, holdK, e, i32_nle.mp h2, bi]⟩
          | 4, hk, hx =>
            cases hk
            have e : σ' 96 (18 + 4 * p) = 5 := tsw_x hx rfl
            refine hG.rz hR rfl rfl rfl rfl (bi_01 _) ?_
            exact ⟨rfl, by simp [holdF, holdK, e]⟩
          | k + 5, hk, hx => simp at hk
        · intro hx
          have e1 : ¬ σ' 96 (18 + 4 * p) = 1 := fun e => hx 0 (by decide) (by rw [e]; rfl)
          have e2 : ¬ σ' 96 (18 + 4 * p) = 2 := fun e => hx 1 (by decide) (by rw [e]; rfl)
          have e3 : ¬ σ' 96 (18 + 4 * p) = 3 := fun e => hx 2 (by decide) (by rw [e]; rfl)
          have e4 : ¬ σ' 96 (18 + 4 * p) = 4 := fun e => hx 3 (by decide) (by rw [e]; rfl)
          have e5 : ¬ σ' 96 (18 + 4 * p) = 5 := fun e => hx 4 (by decide) (by rw [e]; rfl)
          refine hG.rz hR rfl rfl rfl rfl (bi_01 _) ?_
          exact ⟨rfl, by simp [holdF, holdK, e1, e2, e3, e4, e5]⟩
      refine hG.br rfl rfl rfl rfl (fun h1 => ?_) (fun h1 => ?_)
      · refine hG.go 1 rfl rfl ?_
        have e : saintF (σ' 96) p y = true := by simp [saintF, bi_ne0.mp h1]
        rw [e] at j74
        exact hG.go 1 rfl rfl j74
      · refine hG.br rfl rfl rfl rfl (fun h2 => ?_) (fun h2 => ?_)
        · have e : saintF (σ' 96) p y = false := by simp [saintF, bi_eq0.mp h1, i32_nlt.mpr h2]
          rw [e] at j74
          exact hG.go 1 rfl rfl j74
        · have e : saintF (σ' 96) p y = true := by simp [saintF, i32_nle.mp h2]
          rw [e] at j74
          exact hG.go 2 rfl rfl j74
    refine hG.br rfl rfl rfl rfl (fun h1 => ?_) (fun h1 => ?_)
    · have e : oneF (σ' 96) p y = true := by simp [oneF, bi_ne0.mp h1]
      rw [e] at j54
      exact hG.go 2 rfl rfl j54
    · refine hG.ld rfl 3 rfl rfl rfl rfl rfl (by decide) ?_
      refine hG.br rfl rfl rfl rfl (fun h2 => ?_) (fun h2 => ?_)
      · have e : oneF (σ' 96) p y = false := by simp [oneF, bi_eq0.mp h1, i32_nlt.mpr h2]
        rw [e] at j54
        exact hG.go 1 rfl rfl j54
      · have e : oneF (σ' 96) p y = true := by simp [oneF, i32_nle.mp h2]
        rw [e] at j54
        exact hG.go 2 rfl rfl j54
  refine hG.br rfl rfl rfl rfl (fun h1 => ?_) (fun h1 => ?_)
  · refine hG.cV lk_M_88 mi_M_of rfl rfl (c_M_of p 3 (by omega)) rfl rfl rfl rfl rfl rfl rfl rfl ?_
    rintro x σ' ⟨rfl, rfl⟩
    have e : deadF (σ' 96) p y = y - σ' 96 (18 + 4 * p + 3) := by simp [deadF, bi_eq0.mp h1]
    rw [e] at j22
    exact hG.go 1 rfl rfl j22
  · have e : deadF (σ' 96) p y = 0 := by simp [deadF, bi_ne0.mp h1]
    rw [e] at j22
    exact hG.go 2 rfl rfl j22
theorem c_M_worthOf (p : Nat) (hp : p < 10) : Ci l θ 2 m_M_worthOf [.inr 95, .inl (nI p)] σ (fun r σ' => σ' = σ ∧ r = worthK (σ 96 (18 + 4 * p)) (σ 96 (18 + 4 * p + 1))) := by
  refine Ci.of (Or.inl mi_M_worthOf) pk_M_worthOf (nb rfl) (Or.inl rfl) [some (.inr 95), some (.inl (nI p)), none] rfl fun Γ hG hR => ?_
  refine hG.cV lk_M_88 mi_M_of rfl rfl (c_M_of p 1 (by omega)) rfl rfl rfl rfl rfl rfl rfl rfl ?_
  rintro x σ' ⟨rfl, rfl⟩
  refine hG.cV lk_M_88 mi_M_of rfl rfl (c_M_of p 0 (by omega)) rfl rfl rfl rfl rfl rfl rfl rfl ?_
  rintro x σ' ⟨rfl, rfl⟩
  rw [show 18 + 4 * p + 0 = 18 + 4 * p from rfl]
  refine hG.tsw [48, 53, 59, 66, 72] 74 rfl rfl rfl (by decide +kernel) ?_ ?_
  · intro k t hk hx
    match k, hk, hx with
    | 0, hk, hx =>
      cases hk
      have e : σ' 96 (18 + 4 * p) = 1 := tsw_x hx rfl
      refine hG.rt hR rfl rfl rfl rfl ?_
      exact ⟨rfl, by simp [worthK, e]⟩
    | 1, hk, hx =>
      cases hk
      have e : σ' 96 (18 + 4 * p) = 2 := tsw_x hx rfl
      refine hG.rt hR rfl rfl rfl rfl ?_
      exact ⟨rfl, by simp [worthK, e]⟩
    | 2, hk, hx =>
      cases hk
      have e : σ' 96 (18 + 4 * p) = 3 := tsw_x hx rfl
      refine hG.rt hR rfl rfl rfl rfl ?_
      exact ⟨rfl, by simp [worthK, e]⟩
    | 3, hk, hx =>
      cases hk
      have e : σ' 96 (18 + 4 * p) = 4 := tsw_x hx rfl
      refine hG.rt hR rfl rfl rfl rfl ?_
      exact ⟨rfl, by simp [worthK, e]⟩
    | 4, hk, hx =>
      cases hk
      have e : σ' 96 (18 + 4 * p) = 5 := tsw_x hx rfl
      refine hG.rt hR rfl rfl rfl rfl ?_
      exact ⟨rfl, by simp [worthK, e]⟩
    | k + 5, hk, hx => simp at hk
  · intro hx
    have e1 : ¬ σ' 96 (18 + 4 * p) = 1 := fun e => hx 0 (by decide) (by rw [e]; rfl)
    have e2 : ¬ σ' 96 (18 + 4 * p) = 2 := fun e => hx 1 (by decide) (by rw [e]; rfl)
    have e3 : ¬ σ' 96 (18 + 4 * p) = 3 := fun e => hx 2 (by decide) (by rw [e]; rfl)
    have e4 : ¬ σ' 96 (18 + 4 * p) = 4 := fun e => hx 3 (by decide) (by rw [e]; rfl)
    have e5 : ¬ σ' 96 (18 + 4 * p) = 5 := fun e => hx 4 (by decide) (by rw [e]; rfl)
    refine hG.rt hR rfl rfl rfl rfl ?_
    exact ⟨rfl, by simp [worthK, e1, e2, e3, e4, e5]⟩
theorem c_M_isUnder (k o : Int32) : Ci l θ 1 m_M_isUnder [.inl k, .inl o] σ (fun r σ' => σ' = σ ∧ r = bi (underK k o)) := by
  refine Ci.of (Or.inr mi_M_isUnder) pk_M_isUnder (nb rfl) (Or.inr rfl) [some (.inl k), some (.inl o)] rfl fun Γ hG hR => ?_
  refine hG.br rfl rfl rfl rfl (fun h1 => ?_) (fun h1 => ?_)
  · refine hG.rz hR rfl rfl rfl rfl (Or.inr rfl) ?_
    exact ⟨rfl, by simp [underK, h1, bi]⟩
  · refine hG.br rfl rfl rfl rfl (fun h2 => ?_) (fun h2 => ?_)
    · refine hG.rz hR rfl rfl rfl rfl (Or.inr rfl) ?_
      exact ⟨rfl, by simp [underK, h2, bi]⟩
    · refine hG.br rfl rfl rfl rfl (fun h3 => ?_) (fun h3 => ?_)
      · refine hG.br rfl rfl rfl rfl (fun h4 => ?_) (fun h4 => ?_)
        · refine hG.rz hR rfl rfl rfl rfl (Or.inl rfl) ?_
          exact ⟨rfl, by simp [underK, h1, h2, h3, h4, bi]⟩
        · refine hG.br rfl rfl rfl rfl (fun h5 => ?_) (fun h5 => ?_)
          · refine hG.rz hR rfl rfl rfl rfl (Or.inl rfl) ?_
            exact ⟨rfl, by simp_all [underK, bi]⟩
          · refine hG.rz hR rfl rfl rfl rfl (Or.inr rfl) ?_
            exact ⟨rfl, by simp [underK, h4, h5, bi]⟩
      · refine hG.br rfl rfl rfl rfl (fun h4 => ?_) (fun h4 => ?_)
        · refine hG.rz hR rfl rfl rfl rfl (Or.inr rfl) ?_
          exact ⟨rfl, by simp [underK, h3, h4, bi]⟩
        · refine hG.br rfl rfl rfl rfl (fun h5 => ?_) (fun h5 => ?_)
          · refine hG.rz hR rfl rfl rfl rfl (Or.inl rfl) ?_
            exact ⟨rfl, by simp_all [underK, bi]⟩
          · exact absurd (h3.symm.trans h5) (by decide)
def apF (a b : Int32) : Int32 := bi (decide (¬ a / 25 = b / 25)) + bi (decide (¬ a / 5 - a / 5 / 5 * 5 = b / 5 - b / 5 / 5 * 5)) + bi (decide (¬ a - a / 5 * 5 = b - b / 5 * 5))
theorem c_M_apartOf (a b : Int32) : Ci l θ 1 m_M_apartOf [.inl a, .inl b] σ (fun r σ' => σ' = σ ∧ r = apF a b) := by
  refine Ci.of (Or.inr mi_M_apartOf) pk_M_apartOf (nb rfl) (Or.inl rfl) [some (.inl a), some (.inl b)] rfl fun Γ hG hR => ?_
  refine hG.dv rfl rfl rfl (by decide) ?_
  refine hG.dv rfl rfl rfl (by decide) ?_
  have j16 : X Γ 16 [some (.inl a), some (.inl b)] [.inl (bi (decide (¬ a / 25 = b / 25)))] σ := by
    refine hG.dv rfl rfl rfl (by decide) ?_
    refine hG.rm rfl rfl rfl (by decide) ?_
    refine hG.dv rfl rfl rfl (by decide) ?_
    refine hG.rm rfl rfl rfl (by decide) ?_
    have j34 : X Γ 34 [some (.inl a), some (.inl b)] [.inl (bi (decide (¬ a / 5 - a / 5 / 5 * 5 = b / 5 - b / 5 / 5 * 5))), .inl (bi (decide (¬ a / 25 = b / 25)))] σ := by
      refine hG.rm rfl rfl rfl (by decide) ?_
      refine hG.rm rfl rfl rfl (by decide) ?_
      have j49 : X Γ 49 [some (.inl a), some (.inl b)] [.inl (bi (decide (¬ a - a / 5 * 5 = b - b / 5 * 5))), .inl (bi (decide (¬ a / 25 = b / 25)) + bi (decide (¬ a / 5 - a / 5 / 5 * 5 = b / 5 - b / 5 / 5 * 5)))] σ := by
        refine hG.rt hR rfl rfl rfl rfl ?_
        exact ⟨rfl, rfl⟩
      refine hG.br rfl rfl rfl rfl (fun h => ?_) (fun h => ?_)
      · rw [show decide (¬ a - a / 5 * 5 = b - b / 5 * 5) = true by simp [h]] at j49
        exact hG.go 1 rfl rfl j49
      · rw [show decide (¬ a - a / 5 * 5 = b - b / 5 * 5) = false by simp [h]] at j49
        exact hG.go 2 rfl rfl j49
    refine hG.br rfl rfl rfl rfl (fun h => ?_) (fun h => ?_)
    · rw [show decide (¬ a / 5 - a / 5 / 5 * 5 = b / 5 - b / 5 / 5 * 5) = true by simp [h]] at j34
      exact hG.go 1 rfl rfl j34
    · rw [show decide (¬ a / 5 - a / 5 / 5 * 5 = b / 5 - b / 5 / 5 * 5) = false by simp [h]] at j34
      exact hG.go 2 rfl rfl j34
  refine hG.br rfl rfl rfl rfl (fun h => ?_) (fun h => ?_)
  · rw [show decide (¬ a / 25 = b / 25) = true by simp [h]] at j16
    exact hG.go 1 rfl rfl j16
  · rw [show decide (¬ a / 25 = b / 25) = false by simp [h]] at j16
    exact hG.go 2 rfl rfl j16
end
end
section
section
variable {l : Launch} {θ : Th} {σ : Sg}
theorem i32_sub1 (x : Int32) : x + -1 = x - 1 := (Int32.sub_eq_add_neg x 1).symm
theorem c_M_counts (key : Int32) (t : Nat) (h : σ 96 5 = nI t) (ht : t ≤ 14) : Ci l θ 1 m_M_counts [.inr 95, .inl key] σ (fun r σ' => σ' = σ ∧ r = optN (-1) (cntO (σ 96) key t)) := by
  refine Ci.of (Or.inl mi_M_counts) pk_M_counts (nb rfl) (Or.inl rfl) [some (.inr 95), some (.inl key), none] rfl fun Γ hG hR => ?_
  have loop : ∀ k, k ≤ 14 → cntO (σ 96) key t = cntO (σ 96) key k → X Γ 9 [some (.inr 95), some (.inl key), some (.inl (nI k - 1))] [] σ := by
    intro k
    induction k with
    | zero =>
      intro _ he
      refine hG.br rfl rfl rfl rfl (fun h1 => ?_) (fun h1 => ?_)
      · refine hG.rt hR rfl rfl rfl rfl ?_
        exact ⟨rfl, by rw [he]; rfl⟩
      · exact absurd (by decide) h1
    | succ k ih =>
      intro hk he
      rw [nI_pred]
      refine hG.br rfl rfl rfl rfl (fun h1 => ?_) (fun h1 => ?_)
      · exact absurd h1 (nI_pos (by omega))
      · refine hG.ld rfl (58 + 2 * k) rfl rfl rfl rfl (by simp only [lit_nI, pk_mul, nI_add, nI_1]; first | done | rfl | (congr 1; omega)) (by omega) ?_
        refine hG.dv rfl rfl rfl (by decide) ?_
        refine hG.br rfl rfl rfl rfl (fun h2 => ?_) (fun h2 => ?_)
        · refine hG.jp rfl rfl rfl ?_
          rw [i32_sub1]
          exact ih (by omega) (by rw [he, cntO, if_neg h2])
        · refine hG.rt hR rfl rfl rfl rfl ?_
          exact ⟨rfl, by rw [he, cntO, if_pos h2]; rfl⟩
  refine hG.ld rfl 5 rfl rfl rfl rfl rfl (by decide) ?_
  rw [h]
  exact hG.go 3 rfl rfl (loop t ht rfl)
theorem c_M_two (s a b : Int32) : Ci l θ 1 m_M_two [.inl s, .inl a, .inl b] σ (fun r σ' => σ' = σ ∧ r = twoK s a b) := by
  refine Ci.of (Or.inr mi_M_two) pk_M_two (nb rfl) (Or.inl rfl) [some (.inl s), some (.inl a), some (.inl b)] rfl fun Γ hG hR => ?_
  refine hG.tsw [117, 113, 109, 98, 87, 76, 62, 48] 121 rfl rfl rfl (by decide +kernel) ?_ ?_
  · intro k t hk hx
    match k, hk, hx with
    | 0, hk, hx =>
      cases hk
      have e : s = -8 := tsw_x hx rfl
      refine hG.rt hR rfl rfl rfl rfl ?_
      exact ⟨rfl, by rw [e]; rfl⟩
    | 1, hk, hx =>
      cases hk
      have e : s = -7 := tsw_x hx rfl
      refine hG.rt hR rfl rfl rfl rfl ?_
      exact ⟨rfl, by rw [e]; rfl⟩
    | 2, hk, hx =>
      cases hk
      have e : s = -6 := tsw_x hx rfl
      refine hG.rt hR rfl rfl rfl rfl ?_
      exact ⟨rfl, by rw [e]; rfl⟩
    | 3, hk, hx =>
      cases hk
      have e : s = -5 := tsw_x hx rfl
      subst e
      have e : twoK (-5) a b = bi (decide (b < a)) := rfl
      refine hG.br rfl rfl rfl rfl (fun h => ?_) (fun h => ?_)
      · refine hG.rt hR rfl rfl rfl rfl ?_
        exact ⟨rfl, by rw [e]; simp [i32_nlt.mpr h, bi]⟩
      · refine hG.rt hR rfl rfl rfl rfl ?_
        exact ⟨rfl, by rw [e]; simp [i32_nle.mp h, bi]⟩
    | 4, hk, hx =>
      cases hk
      have e : s = -4 := tsw_x hx rfl
      subst e
      have e : twoK (-4) a b = bi (decide (a = b)) := rfl
      refine hG.br rfl rfl rfl rfl (fun h => ?_) (fun h => ?_)
      · refine hG.rt hR rfl rfl rfl rfl ?_
        exact ⟨rfl, by rw [e]; simp [h, bi]⟩
      · refine hG.rt hR rfl rfl rfl rfl ?_
        exact ⟨rfl, by rw [e]; simp [h, bi]⟩
    | 5, hk, hx =>
      cases hk
      have e : s = -3 := tsw_x hx rfl
      subst e
      have e : twoK (-3) a b = bi (decide (a < b)) := rfl
      refine hG.br rfl rfl rfl rfl (fun h => ?_) (fun h => ?_)
      · refine hG.rt hR rfl rfl rfl rfl ?_
        exact ⟨rfl, by rw [e]; simp [i32_nlt.mpr h, bi]⟩
      · refine hG.rt hR rfl rfl rfl rfl ?_
        exact ⟨rfl, by rw [e]; simp [i32_nle.mp h, bi]⟩
    | 6, hk, hx =>
      cases hk
      have e : s = -2 := tsw_x hx rfl
      subst e
      have e : twoK (-2) a b = bi (decide (¬ a = 0) && decide (¬ b = 0)) := rfl
      refine hG.br rfl rfl rfl rfl (fun h => ?_) (fun h => ?_)
      · refine hG.rt hR rfl rfl rfl rfl ?_
        exact ⟨rfl, by rw [e]; simp [h, bi]⟩
      · refine hG.br rfl rfl rfl rfl (fun h2 => ?_) (fun h2 => ?_)
        · refine hG.rt hR rfl rfl rfl rfl ?_
          exact ⟨rfl, by rw [e]; simp [h2, bi]⟩
        · refine hG.rt hR rfl rfl rfl rfl ?_
          exact ⟨rfl, by rw [e]; simp [h, h2, bi]⟩
    | 7, hk, hx =>
      cases hk
      have e : s = -1 := tsw_x hx rfl
      subst e
      have e : twoK (-1) a b = bi (decide (¬ a = 0) || decide (¬ b = 0)) := rfl
      refine hG.br rfl rfl rfl rfl (fun h => ?_) (fun h => ?_)
      · refine hG.rt hR rfl rfl rfl rfl ?_
        exact ⟨rfl, by rw [e]; simp [h, bi]⟩
      · refine hG.br rfl rfl rfl rfl (fun h2 => ?_) (fun h2 => ?_)
        · refine hG.rt hR rfl rfl rfl rfl ?_
          exact ⟨rfl, by rw [e]; simp [h, h2, bi]⟩
        · refine hG.rt hR rfl rfl rfl rfl ?_
          exact ⟨rfl, by rw [e]; simp [h, h2, bi]⟩
    | k + 8, hk, hx => simp at hk
  · intro hx
    have e : twoK s a b = if b = 0 then 0 else a / b := by
      have e1 : ¬ s = -8 := fun e => hx 0 (by decide) (by rw [e]; rfl)
      have e2 : ¬ s = -7 := fun e => hx 1 (by decide) (by rw [e]; rfl)
      have e3 : ¬ s = -6 := fun e => hx 2 (by decide) (by rw [e]; rfl)
      have e4 : ¬ s = -5 := fun e => hx 3 (by decide) (by rw [e]; rfl)
      have e5 : ¬ s = -4 := fun e => hx 4 (by decide) (by rw [e]; rfl)
      have e6 : ¬ s = -3 := fun e => hx 5 (by decide) (by rw [e]; rfl)
      have e7 : ¬ s = -2 := fun e => hx 6 (by decide) (by rw [e]; rfl)
      have e8 : ¬ s = -1 := fun e => hx 7 (by decide) (by rw [e]; rfl)
      simp only [twoK, e1, e2, e3, e4, e5, e6, e7, e8, if_false]
    refine hG.br rfl rfl rfl rfl (fun h => ?_) (fun h => ?_)
    · refine hG.dv rfl rfl rfl h ?_
      refine hG.rt hR rfl rfl rfl rfl ?_
      exact ⟨rfl, by rw [e, if_neg h]⟩
    · refine hG.rt hR rfl rfl rfl rfl ?_
      exact ⟨rfl, by rw [e, if_pos h]⟩
end
/-- a row of ints holds a stack, its top first in the list -/
def StkR (g : Nat → Int32) : List Int32 → Prop
  | [] => True
  | x :: s => g s.length = x ∧ StkR g s
theorem StkR_upd {g : Nat → Int32} {j : Nat} {v : Int32} : ∀ {s : List Int32}, StkR g s → s.length ≤ j → StkR (upd g j v) s
  | [], _, _ => trivial
  | x :: s, h, hj => by
    simp only [List.length_cons] at hj
    exact ⟨by rw [upd_ne (by omega)]; exact h.1, StkR_upd h.2 (by omega)⟩
section
variable {l : Launch} {θ : Th} {σ : Sg}
theorem c_M_worksOut (i ky ln : Nat) (hi : i < 14) (ht : TxOk (σ 96) i ky ln) : Ci l θ 2 m_M_worksOut [.inr 95, .inl (nI i)] σ (fun r σ' => Sm [109] σ σ' ∧ r = (evl (σ 110) (σ 96) (86 + 96 * i) ln).headD 0) := by
  refine Ci.of (Or.inl mi_M_worksOut) pk_M_worksOut (nb rfl) (Or.inl rfl) [some (.inr 95), some (.inl (nI i)), none, none, none, none] rfl fun Γ hG hR => ?_
  obtain ⟨ht1, ht2, hcd⟩ := ht
  have hm : nmK ky ≤ 3 := by unfold nmK; split <;> omega
  have hln := hcd.1
  have loop : ∀ n k, k + n = ln → ∀ (τ : Sg) (w : Option AV), Sm [109] σ τ → StkR (τ 109) (evl (σ 110) (σ 96) (86 + 96 * i) k) → X Γ 21 [some (.inr 95), some (.inl (nI i)), some (.inl (nI (dpth (σ 96) (86 + 96 * i) k))), some (.inl (nI ln)), some (.inl (nI k)), w] [] τ := by
    intro n
    induction n with
    | zero =>
      intro k hk τ w hS hR1
      have hk : k = ln := by omega
      subst hk
      refine hG.br rfl rfl rfl rfl (fun h1 => ?_) (fun h1 => ?_)
      · refine hG.ld rfl 0 rfl rfl rfl rfl rfl (by decide) ?_
        refine hG.rt hR rfl rfl rfl rfl ?_
        refine ⟨hS, ?_⟩
        have hlen := evl_len (fa := σ 110) hcd k (Nat.le_refl _)
        rw [hcd.2.1] at hlen
        cases he : evl (σ 110) (σ 96) (86 + 96 * i) k with
        | nil => rw [he] at hlen; simp at hlen
        | cons x r =>
          rw [he] at hlen hR1
          have hr : r = [] := by cases r with
            | nil => rfl
            | cons y r => simp at hlen
          subst hr
          exact hR1.1
      · exact absurd (show nI k ≤ nI k from nI_le (Nat.le_refl k) (by omega)) h1
    | succ n ih =>
      intro k hk τ w hS hR1
      have e96 : τ 96 = σ 96 := hS 96 (by decide)
      have e110 : τ 110 = σ 110 := hS 110 (by decide)
      have hlen := evl_len (fa := σ 110) hcd k (by omega)
      have hdl := dpth_le (σ 96) (86 + 96 * i) k
      obtain ⟨q1, q2, q3⟩ := hcd.2.2 k (by omega)
      have hev : evl (σ 110) (σ 96) (86 + 96 * i) (k + 1) = ev1 (σ 110) (σ 96 (86 + 96 * i + k)) (evl (σ 110) (σ 96) (86 + 96 * i) k) := rfl
      have hdp : dpth (σ 96) (86 + 96 * i) (k + 1) = if 0 ≤ σ 96 (86 + 96 * i + k) then dpth (σ 96) (86 + 96 * i) k + 1 else if σ 96 (86 + 96 * i + k) = -10 then dpth (σ 96) (86 + 96 * i) k else dpth (σ 96) (86 + 96 * i) k - 1 := rfl
      refine hG.br rfl rfl rfl rfl (fun h1 => ?_) (fun h1 => ?_)
      · exact absurd (show nI ln ≤ nI k from h1) (nI_ge (by omega) (by omega))
      · refine hG.ld rfl (86 + 96 * i + k) rfl rfl rfl rfl (by simp only [lit_nI, pk_mul, nI_add, nI_1]; first | done | rfl | (congr 1; omega)) (by omega) ?_
        rw [e96]
        generalize hc : σ 96 (86 + 96 * i + k) = c at *
        generalize hs : evl (σ 110) (σ 96) (86 + 96 * i) k = s at *
        generalize hd : dpth (σ 96) (86 + 96 * i) k = dp at *
        refine hG.br rfl rfl rfl rfl (fun h2 => ?_) (fun h2 => ?_)
        · have h0 : ¬ 0 ≤ c := i32_nle.mpr h2
          rw [if_neg h0] at hdp
          refine hG.br rfl rfl rfl rfl (fun h3 => ?_) (fun h3 => ?_)
          · rw [if_neg h3] at hdp
            obtain ⟨q4, q5⟩ := q3 h0 h3
            obtain ⟨d2, rfl⟩ : ∃ d2, dp = d2 + 2 := ⟨dp - 2, by omega⟩
            match s, hlen, hR1, hs, hev with
            | y :: x :: r, hlen, hR1, hs, hev =>
              have hrl : r.length = d2 := by simpa using hlen
              refine hG.ld rfl d2 rfl rfl rfl rfl (by rw [pk_m1, nI_pred]) (by omega) ?_
              refine hG.ld rfl (d2 + 1) rfl rfl rfl rfl (by rw [pk_m1]) (by omega) ?_
              have ex : τ 109 d2 = x := by rw [← hrl]; exact hR1.2.1
              have ey : τ 109 (d2 + 1) = y := by rw [← hrl]; exact hR1.1
              rw [ex, ey]
              refine hG.cS lk_M_264 mi_M_two rfl rfl (c_M_two c x y) rfl rfl rfl rfl rfl rfl ?_
              rintro z τ' ⟨rfl, rfl⟩
              refine hG.sti rfl d2 rfl rfl rfl (by rw [pk_m1, nI_pred]) (by omega) ?_
              refine hG.jp rfl rfl rfl ?_
              rw [nI_1, pk_m1]
              have := ih (k + 1) (by omega) (up τ' 109 d2 (twoK c x y)) (some (.inl c)) (hS.up (by decide)) (by
                rw [hev, up_same]; unfold ev1; rw [if_neg h0, if_neg h3]
                exact ⟨by rw [hrl, upd_same], StkR_upd hR1.2.2 (by omega)⟩)
              rw [hdp] at this
              exact this
            | [], hlen, _, _, _ => simp at hlen
            | [y], hlen, _, _, _ => simp at hlen
          · rw [if_pos h3] at hdp
            have q4 := q2 h0 h3
            obtain ⟨d1, rfl⟩ : ∃ d1, dp = d1 + 1 := ⟨dp - 1, by omega⟩
            match s, hlen, hR1, hs, hev with
            | x :: r, hlen, hR1, hs, hev =>
              have hrl : r.length = d1 := by simpa using hlen
              refine hG.ld rfl d1 rfl rfl rfl rfl (nI_pred d1) (by omega) ?_
              have ex : τ 109 d1 = x := by rw [← hrl]; exact hR1.1
              rw [ex]
              have j115 : X Γ 115 [some (.inr 95), some (.inl (nI i)), some (.inl (nI (d1 + 1))), some (.inl (nI ln)), some (.inl (nI k)), some (.inl c)] [.inl (bi (decide (x = 0))), .inl (nI (d1 + 1) - 1), .inr 109] τ := by
                refine hG.sti rfl d1 rfl rfl rfl (nI_pred d1) (by omega) ?_
                refine hG.jp rfl rfl rfl ?_
                rw [nI_1]
                have := ih (k + 1) (by omega) (up τ 109 d1 (bi (decide (x = 0)))) (some (.inl c)) (hS.up (by decide)) (by
                  rw [hev, up_same]; unfold ev1; rw [if_neg h0, if_pos h3]
                  exact ⟨by rw [hrl, upd_same], StkR_upd hR1.2 (by omega)⟩)
                rw [hdp] at this
                exact this
              refine hG.br rfl rfl rfl rfl (fun h4 => ?_) (fun h4 => ?_)
              · rw [show decide (x = 0) = false by simp [h4]] at j115
                exact hG.go 1 rfl rfl j115
              · rw [show decide (x = 0) = true by simp [h4]] at j115
                exact hG.go 2 rfl rfl j115
            | [], hlen, _, _, _ => simp at hlen
        · have h0 : 0 ≤ c := i32_nlt.mp h2
          rw [if_pos h0] at hdp
          have hst : ∀ (v : Int32), v = (if c < 10000 then c else σ 110 (c - 10000).toNatClampNeg) → X Γ 78 [some (.inr 95), some (.inl (nI i)), some (.inl (nI dp)), some (.inl (nI ln)), some (.inl (nI k)), some (.inl c)] [.inl v, .inl (nI dp), .inr 109] τ := by
            intro v hv
            refine hG.sti rfl dp rfl rfl rfl rfl (by omega) ?_
            refine hG.jp rfl rfl rfl ?_
            rw [nI_1, nI_1]
            have := ih (k + 1) (by omega) (up τ 109 dp v) (some (.inl c)) (hS.up (by decide)) (by
              rw [hev, up_same]; unfold ev1; rw [if_pos h0]
              exact ⟨by rw [hlen, upd_same, hv], StkR_upd hR1 (by omega)⟩)
            rw [hdp] at this
            exact this
          refine hG.br rfl rfl rfl rfl (fun h3 => ?_) (fun h3 => ?_)
          · obtain ⟨j, hj1, hj2, hj3⟩ := nI_of_range (a := 10000) (b := 10000 + nmK ky) (by omega) (by omega) h3 (q1 h0)
            have ej : c - 10000 = nI (j - 10000) := by rw [hj3]; exact pk_sub hj1
            refine hG.ld rfl (j - 10000) rfl rfl rfl rfl ej (by omega) ?_
            rw [e110]
            exact hst _ (by rw [if_neg (i32_nlt.mpr h3), ej, nI_clamp (by omega)])
          · exact hG.go 2 rfl rfl (hst c (by rw [if_pos (i32_nle.mp h3)]))
  refine hG.ld rfl (58 + 2 * i) rfl rfl rfl rfl (by simp only [lit_nI, pk_mul, nI_add, nI_1]; first | done | rfl | (congr 1; omega)) (by omega) ?_
  rw [ht1]
  refine hG.rm rfl rfl rfl (by decide) ?_
  have er : nI (1000 * ky + ln) - nI (1000 * ky + ln) / 1000 * 1000 = nI ln := by
    have := pk_rem (a := 1000 * ky + ln) (d := 1000) (by omega) (by omega) (by omega)
    rw [show (1000 * ky + ln) % 1000 = ln by omega] at this
    exact this
  rw [er]
  exact hG.go 3 rfl rfl (loop ln 0 (by omega) σ none Sm.rf trivial)
end
end
section
def freeG (g : Nat → Bool) (f : Nat → Int32) (n : Nat) (nm y : Int32) : Bool := allB (fun p => !(g (nrIx nm (f (18 + 4 * p + 1))) && holdF f p y)) 0 n
def NT (g : Nat → Bool) (σ : Sg) : Prop := ∀ k, k < 16 → σ 99 k = bi (g k)
theorem apF_eq (a b : Int32) : apF a b = nI (apN a b) := by
  unfold apF apN
  by_cases h1 : a / 25 = b / 25 <;> by_cases h2 : a / 5 - a / 5 / 5 * 5 = b / 5 - b / 5 / 5 * 5 <;> by_cases h3 : a - a / 5 * 5 = b - b / 5 * 5 <;> simp only [h1, h2, h3, not_true, not_false_eq_true, decide_true, decide_false, if_true, if_false, bi] <;> decide
section
variable {l : Launch} {θ : Th} {σ : Sg}
theorem c_M_findNears (t : Nat) (h5 : σ 96 5 = nI t) (ht : t ≤ 14) (hT : TxsOk (σ 96) t) : Cv l θ 3 m_M_findNears [.inr 95] σ (fun σ' => Sm [99, 109, 110] σ σ' ∧ NT (nearT (σ 96) t) σ') := by
  refine Cv.of (Or.inl mi_M_findNears) pk_M_findNears (nb rfl) rfl [some (.inr 95), none, none] rfl fun Γ hG hR => ?_
  refine hG.cV lk_M_131 mi_M_counts rfl rfl (c_M_counts 0 t h5 ht) rfl rfl rfl rfl rfl rfl rfl rfl ?_
  rintro x σ' ⟨rfl, rfl⟩
  have loop : ∀ n k, k + n = 16 → ∀ τ : Sg, Sm [99, 109, 110] σ' τ → (∀ j, j < k → τ 99 j = bi (nearT (σ' 96) t j)) → X Γ 8 [some (.inr 95), some (.inl (optN (-1) (cntO (σ' 96) 0 t))), some (.inl (nI k))] [] τ := by
    intro n
    induction n with
    | zero =>
      intro k hk τ hS hN
      have hk : k = 16 := by omega
      subst hk
      refine hG.br rfl rfl rfl rfl (fun h1 => ?_) (fun h1 => ?_)
      · refine hG.rv hR rfl rfl rfl ?_
        exact ⟨hS, hN⟩
      · exact absurd (show nI 16 ≤ nI 16 from nI_le (Nat.le_refl 16) (by omega)) h1
    | succ n ih =>
      intro k hk τ hS hN
      have e96 : τ 96 = σ' 96 := hS 96 (by decide)
      refine hG.br rfl rfl rfl rfl (fun h1 => ?_) (fun h1 => ?_)
      · exact absurd (show nI 16 ≤ nI k from h1) (nI_ge (by omega) (by omega))
      · refine hG.dv rfl rfl rfl (by decide) ?_
        rw [show nI k / 4 = nI (k / 4) from pk_div (d := 4) (by omega) (by omega) (by omega)]
        refine hG.sti rfl 0 rfl rfl rfl rfl (by decide) ?_
        refine hG.dv rfl rfl rfl (by decide) ?_
        rw [show nI k / 2 = nI (k / 2) from pk_div (d := 2) (by omega) (by omega) (by omega)]
        refine hG.rm rfl rfl rfl (by decide) ?_
        rw [show nI (k / 2) - nI (k / 2) / 2 * 2 = nI (k / 2 % 2) from pk_rem (d := 2) (by omega) (by omega) (by omega)]
        refine hG.sti rfl 1 rfl rfl rfl rfl (by decide) ?_
        refine hG.rm rfl rfl rfl (by decide) ?_
        rw [show nI k - nI k / 2 * 2 = nI (k % 2) from pk_rem (d := 2) (by omega) (by omega) (by omega)]
        refine hG.sti rfl 2 rfl rfl rfl rfl (by decide) ?_
        generalize hτ1 : up (up (up τ 110 0 (nI (k / 4))) 110 1 (nI (k / 2 % 2))) 110 2 (nI (k % 2)) = τ1
        have hS1 : Sm [99, 109, 110] σ' τ1 := by rw [← hτ1]; exact ((hS.up (by decide)).up (by decide)).up (by decide)
        have e99 : τ1 99 = τ 99 := by rw [← hτ1, up_c _ _ _ _ (by decide), up_c _ _ _ _ (by decide), up_c _ _ _ _ (by decide)]
        have e110 : ∀ j, j < 3 → τ1 110 j = fa3 (nI (k / 4)) (nI (k / 2 % 2)) (nI (k % 2)) j := by
          intro j hj
          rw [← hτ1]
          simp only [up_same, upd, fa3]
          rcases (show j = 0 ∨ j = 1 ∨ j = 2 by omega) with rfl | rfl | rfl <;> simp
        have e961 : τ1 96 = σ' 96 := hS1 96 (by decide)
        have fin : ∀ τ2 : Sg, Sm [99, 109, 110] σ' τ2 → τ2 99 = τ 99 → X Γ 79 [some (.inr 95), some (.inl (optN (-1) (cntO (σ' 96) 0 t))), some (.inl (nI k))] [.inl (bi (nearT (σ' 96) t k)), .inl (nI k), .inr 99] τ2 := by
          intro τ2 hS2 e2
          refine hG.stz rfl k rfl rfl rfl rfl (by omega) (bi_01 _) ?_
          refine hG.jp rfl rfl rfl ?_
          rw [nI_1]
          refine ih (k + 1) (by omega) _ (hS2.up (by decide)) (fun j hj => ?_)
          rw [up_same, e2]
          by_cases hjk : j = k
          · subst hjk; rw [upd_same]
          · rw [upd_ne hjk]; exact hN j (by omega)
        cases hc : cntO (σ' 96) 0 t with
        | none =>
          rw [hc] at fin
          have hn : nearT (σ' 96) t k = decide (k / 4 = 0) := by rw [nearT, hc]
          rw [hn] at fin
          have fin := fin τ1 hS1 e99
          refine hG.br rfl rfl rfl rfl (fun h2 => ?_) (fun h2 => ?_)
          · exact absurd h2 (by decide)
          · refine hG.dv rfl rfl rfl (by decide) ?_
            rw [show nI k / 4 = nI (k / 4) from pk_div (d := 4) (by omega) (by omega) (by omega)]
            refine hG.br rfl rfl rfl rfl (fun h3 => ?_) (fun h3 => ?_)
            · rw [show decide (k / 4 = 0) = false from decide_eq_false (fun e => h3 (by rw [e]; rfl))] at fin
              exact hG.go 2 rfl rfl fin
            · rw [show decide (k / 4 = 0) = true from decide_eq_true ((nI_eq (by omega) (by omega)).mp (show nI (k / 4) = nI 0 from h3))] at fin
              exact hG.go 2 rfl rfl fin
        | some i =>
          obtain ⟨hi, ln, htx⟩ := cntO_ok (k := 0) hT (by omega) hc
          rw [hc] at fin
          have hn : nearT (σ' 96) t k = decide (¬ evT (σ' 96) i (fa3 (nI (k / 4)) (nI (k / 2 % 2)) (nI (k % 2))) = 0) := by rw [nearT, hc]
          rw [hn, evT_eq htx] at fin
          refine hG.br rfl rfl rfl rfl (fun h2 => ?_) (fun h2 => ?_)
          · refine hG.cV lk_M_134 mi_M_worksOut rfl rfl (c_M_worksOut i 0 ln (by omega) (by rw [e961]; exact htx)) rfl rfl rfl rfl rfl rfl rfl rfl ?_
            rintro x τ2 ⟨hS2, rfl⟩
            have fin := fin τ2 (hS1.tr (hS2.mono (by decide))) (by rw [hS2 99 (by decide), e99])
            rw [e961, evl_congr htx.2.2 (by decide) e110 ln (Nat.le_refl _)]
            refine hG.br rfl rfl rfl rfl (fun h3 => ?_) (fun h3 => ?_)
            · rw [show decide (¬ (evl (fa3 (nI (k / 4)) (nI (k / 2 % 2)) (nI (k % 2))) (σ' 96) (86 + 96 * i) ln).headD 0 = 0) = false by simp only [h3]; decide] at fin
              exact hG.go 1 rfl rfl fin
            · rw [show decide (¬ (evl (fa3 (nI (k / 4)) (nI (k / 2 % 2)) (nI (k % 2))) (σ' 96) (86 + 96 * i) ln).headD 0 = 0) = true from decide_eq_true h3] at fin
              exact hG.go 2 rfl rfl fin
          · exact absurd (show 0 ≤ nI i from nI_pos' (by omega)) h2
  exact hG.go 3 rfl rfl (loop 16 0 rfl σ' Sm.rf (fun j hj => by omega))
theorem c_M_areNear (g : Nat → Bool) (a b : Int32) (hN : NT g σ) : Ci l θ 2 m_M_areNear [.inr 95, .inl a, .inl b] σ (fun r σ' => σ' = σ ∧ r = bi (g (nrIx a b))) := by
  refine Ci.of (Or.inl mi_M_areNear) pk_M_areNear (nb rfl) (Or.inr rfl) [some (.inr 95), some (.inl a), some (.inl b)] rfl fun Γ hG hR => ?_
  refine hG.cS lk_M_128 mi_M_apartOf rfl rfl (c_M_apartOf a b) rfl rfl rfl rfl rfl rfl ?_
  rintro x σ' ⟨rfl, rfl⟩
  rw [apF_eq]
  refine hG.dv rfl rfl rfl (by decide) ?_
  refine hG.dv rfl rfl rfl (by decide) ?_
  have j27 : X Γ 27 [some (.inr 95), some (.inl a), some (.inl b)] [.inl (nI (if a / 25 = b / 25 then 2 else 0)), .inl (4 * nI (apN a b)), .inr 99] σ' := by
    refine hG.rm rfl rfl rfl (by decide) ?_
    refine hG.rm rfl rfl rfl (by decide) ?_
    have j42 : X Γ 42 [some (.inr 95), some (.inl a), some (.inl b)] [.inl (nI (if a - a / 5 * 5 = b - b / 5 * 5 then 1 else 0)), .inl (4 * nI (apN a b) + nI (if a / 25 = b / 25 then 2 else 0)), .inr 99] σ' := by
      refine hG.ld rfl (nrIx a b) rfl rfl rfl rfl (by simp only [lit_nI, pk_mul, nI_add, nI_1]; first | done | rfl | (congr 1; omega)) (nrIx_lt a b) ?_
      rw [hN _ (nrIx_lt a b)]
      refine hG.rz hR rfl rfl rfl rfl (bi_01 _) ?_
      exact ⟨rfl, rfl⟩
    refine hG.br rfl rfl rfl rfl (fun h => ?_) (fun h => ?_)
    · rw [if_neg h] at j42
      exact hG.go 1 rfl rfl j42
    · rw [if_pos h] at j42
      exact hG.go 2 rfl rfl j42
  refine hG.br rfl rfl rfl rfl (fun h => ?_) (fun h => ?_)
  · rw [if_neg h] at j27
    exact hG.go 1 rfl rfl j27
  · rw [if_pos h] at j27
    exact hG.go 2 rfl rfl j27
theorem c_M_isFree (g : Nat → Bool) (n : Nat) (nm y : Int32) (hN : NT g σ) (hn : σ 96 1 = nI n) (hn10 : n ≤ 10) : Ci l θ 4 m_M_isFree [.inr 95, .inl nm, .inl y] σ (fun r σ' => σ' = σ ∧ r = bi (freeG g (σ 96) n nm y)) := by
  refine Ci.of (Or.inl mi_M_isFree) pk_M_isFree (nb rfl) (Or.inr rfl) [some (.inr 95), some (.inl nm), some (.inl y), none] rfl fun Γ hG hR => ?_
  have loop : ∀ m p, p + m = n → freeG g (σ 96) n nm y = allB (fun p => !(g (nrIx nm (σ 96 (18 + 4 * p + 1))) && holdF (σ 96) p y)) p m → X Γ 2 [some (.inr 95), some (.inl nm), some (.inl y), some (.inl (nI p))] [] σ := by
    intro m
    induction m with
    | zero =>
      intro p hp he
      have hp : p = n := by omega
      subst hp
      refine hG.ld rfl 1 rfl rfl rfl rfl rfl (by decide) ?_
      rw [hn]
      refine hG.br rfl rfl rfl rfl (fun h1 => ?_) (fun h1 => ?_)
      · refine hG.rz hR rfl rfl rfl rfl (Or.inr rfl) ?_
        exact ⟨rfl, by rw [he]; rfl⟩
      · exact absurd (nI_le (Nat.le_refl _) (by omega)) h1
    | succ m ih =>
      intro p hp he
      rw [allB_s _ _ m] at he
      refine hG.ld rfl 1 rfl rfl rfl rfl rfl (by decide) ?_
      rw [hn]
      refine hG.br rfl rfl rfl rfl (fun h1 => ?_) (fun h1 => ?_)
      · exact absurd h1 (nI_ge (by omega) (by omega))
      · refine hG.cV lk_M_88 mi_M_of rfl rfl (c_M_of p 1 (by omega)) rfl rfl rfl rfl rfl rfl rfl rfl ?_
        rintro x σ' ⟨rfl, rfl⟩
        refine hG.cV lk_M_140 mi_M_areNear rfl rfl (c_M_areNear g nm (σ' 96 (18 + 4 * p + 1)) hN) rfl rfl rfl rfl rfl rfl rfl rfl ?_
        rintro x σ' ⟨rfl, rfl⟩
        refine hG.br rfl rfl rfl rfl (fun h2 => ?_) (fun h2 => ?_)
        · refine hG.jp rfl rfl rfl ?_
          rw [nI_1]
          exact ih (p + 1) (by omega) (by rw [he, bi_eq0.mp h2]; rfl)
        · refine hG.cV lk_M_109 mi_M_doesHold rfl rfl (c_M_doesHold p y (by omega)) rfl rfl rfl rfl rfl rfl rfl rfl ?_
          rintro x σ' ⟨rfl, rfl⟩
          refine hG.br rfl rfl rfl rfl (fun h3 => ?_) (fun h3 => ?_)
          · refine hG.jp rfl rfl rfl ?_
            rw [nI_1]
            exact ih (p + 1) (by omega) (by rw [he, bi_eq0.mp h3]; simp)
          · refine hG.rz hR rfl rfl rfl rfl (Or.inl rfl) ?_
            exact ⟨rfl, by rw [he, bi_ne0.mp h2, bi_ne0.mp h3]; rfl⟩
  exact hG.go 2 rfl rfl (loop n 0 (by omega) rfl)
theorem c_M_freeMany (g : Nat → Bool) (n : Nat) (hN : NT g σ) (hn : σ 96 1 = nI n) (hn10 : n ≤ 10) : Ci l θ 5 m_M_freeMany [.inr 95] σ (fun r σ' => σ' = σ ∧ r = nI (sumB (fun k => freeG g (σ 96) n (nI k) (σ 96 2)) 0 125)) := by
  refine Ci.of (Or.inl mi_M_freeMany) pk_M_freeMany (nb rfl) (Or.inl rfl) [some (.inr 95), none, none] rfl fun Γ hG hR => ?_
  have loop : ∀ m k acc, k + m = 125 → sumB (fun k => freeG g (σ 96) n (nI k) (σ 96 2)) 0 125 = acc + sumB (fun k => freeG g (σ 96) n (nI k) (σ 96 2)) k m → X Γ 4 [some (.inr 95), some (.inl (nI acc)), some (.inl (nI k))] [] σ := by
    intro m
    induction m with
    | zero =>
      intro k acc hk he
      have hk : k = 125 := by omega
      subst hk
      refine hG.br rfl rfl rfl rfl (fun h1 => ?_) (fun h1 => ?_)
      · refine hG.rt hR rfl rfl rfl rfl ?_
        exact ⟨rfl, by rw [he]; rfl⟩
      · exact absurd (show nI 125 ≤ nI 125 from nI_le (Nat.le_refl _) (by omega)) h1
    | succ m ih =>
      intro k acc hk he
      rw [sumB_s _ _ m] at he
      refine hG.br rfl rfl rfl rfl (fun h1 => ?_) (fun h1 => ?_)
      · exact absurd (show nI 125 ≤ nI k from h1) (nI_ge (by omega) (by omega))
      · refine hG.ld rfl 2 rfl rfl rfl rfl rfl (by decide) ?_
        refine hG.cV lk_M_148 mi_M_isFree rfl rfl (c_M_isFree g n (nI k) (σ 96 2) hN hn hn10) rfl rfl rfl rfl rfl rfl rfl rfl ?_
        rintro x σ' ⟨rfl, rfl⟩
        refine hG.br rfl rfl rfl rfl (fun h2 => ?_) (fun h2 => ?_)
        · refine hG.jp rfl rfl rfl ?_
          rw [nI_1, show nI acc + 0 = nI (acc + 0) from nI_add acc 0]
          exact ih (k + 1) (acc + 0) (by omega) (by rw [he, bi_eq0.mp h2]; simp)
        · refine hG.jp rfl rfl rfl ?_
          rw [nI_1, nI_1]
          exact ih (k + 1) (acc + 1) (by omega) (by rw [he, bi_ne0.mp h2]; simp; omega)
  exact hG.go 4 rfl rfl (loop 125 0 0 rfl (by omega))
theorem c_M_leastFree (g : Nat → Bool) (n : Nat) (hN : NT g σ) (hn : σ 96 1 = nI n) (hn10 : n ≤ 10) : Ci l θ 5 m_M_leastFree [.inr 95] σ (fun r σ' => σ' = σ ∧ r = optN (-1000000005) (fndB (fun k => freeG g (σ 96) n (nI k) (σ 96 2)) 0 125)) := by
  refine Ci.of (Or.inl mi_M_leastFree) pk_M_leastFree (nb rfl) (Or.inl rfl) [some (.inr 95), none] rfl fun Γ hG hR => ?_
  have loop : ∀ m k, k + m = 125 → fndB (fun k => freeG g (σ 96) n (nI k) (σ 96 2)) 0 125 = fndB (fun k => freeG g (σ 96) n (nI k) (σ 96 2)) k m → X Γ 2 [some (.inr 95), some (.inl (nI k))] [] σ := by
    intro m
    induction m with
    | zero =>
      intro k hk he
      have hk : k = 125 := by omega
      subst hk
      refine hG.br rfl rfl rfl rfl (fun h1 => ?_) (fun h1 => ?_)
      · refine hG.rt hR rfl rfl rfl rfl ?_
        exact ⟨rfl, by rw [he]; rfl⟩
      · exact absurd (show nI 125 ≤ nI 125 from nI_le (Nat.le_refl _) (by omega)) h1
    | succ m ih =>
      intro k hk he
      rw [fndB_s _ _ m] at he
      refine hG.br rfl rfl rfl rfl (fun h1 => ?_) (fun h1 => ?_)
      · exact absurd (show nI 125 ≤ nI k from h1) (nI_ge (by omega) (by omega))
      · refine hG.ld rfl 2 rfl rfl rfl rfl rfl (by decide) ?_
        refine hG.cV lk_M_148 mi_M_isFree rfl rfl (c_M_isFree g n (nI k) (σ 96 2) hN hn hn10) rfl rfl rfl rfl rfl rfl rfl rfl ?_
        rintro x σ' ⟨rfl, rfl⟩
        refine hG.br rfl rfl rfl rfl (fun h2 => ?_) (fun h2 => ?_)
        · refine hG.jp rfl rfl rfl ?_
          rw [nI_1]
          exact ih (k + 1) (by omega) (by rw [he, bi_eq0.mp h2]; rfl)
        · refine hG.rt hR rfl rfl rfl rfl ?_
          exact ⟨rfl, by rw [he, bi_ne0.mp h2]; rfl⟩
  exact hG.go 2 rfl rfl (loop 125 0 rfl rfl)
theorem c_M_aliveMany (n : Nat) (hn : σ 96 1 = nI n) (hn10 : n ≤ 10) : Ci l θ 3 m_M_aliveMany [.inr 95] σ (fun r σ' => σ' = σ ∧ r = nI (sumB (aliveF (σ 96)) 0 n)) := by
  refine Ci.of (Or.inl mi_M_aliveMany) pk_M_aliveMany (nb rfl) (Or.inl rfl) [some (.inr 95), none, none] rfl fun Γ hG hR => ?_
  have loop : ∀ m p acc, p + m = n → sumB (aliveF (σ 96)) 0 n = acc + sumB (aliveF (σ 96)) p m → X Γ 4 [some (.inr 95), some (.inl (nI acc)), some (.inl (nI p))] [] σ := by
    intro m
    induction m with
    | zero =>
      intro p acc hp he
      have hp : p = n := by omega
      subst hp
      refine hG.ld rfl 1 rfl rfl rfl rfl rfl (by decide) ?_
      rw [hn]
      refine hG.br rfl rfl rfl rfl (fun h1 => ?_) (fun h1 => ?_)
      · refine hG.rt hR rfl rfl rfl rfl ?_
        exact ⟨rfl, by rw [he]; rfl⟩
      · exact absurd (nI_le (Nat.le_refl _) (by omega)) h1
    | succ m ih =>
      intro p acc hp he
      rw [sumB_s _ _ m] at he
      refine hG.ld rfl 1 rfl rfl rfl rfl rfl (by decide) ?_
      rw [hn]
      refine hG.br rfl rfl rfl rfl (fun h1 => ?_) (fun h1 => ?_)
      · exact absurd h1 (nI_ge (by omega) (by omega))
      · refine hG.cV lk_M_103 mi_M_isAlive rfl rfl (c_M_isAlive p (by omega)) rfl rfl rfl rfl rfl rfl rfl rfl ?_
        rintro x σ' ⟨rfl, rfl⟩
        refine hG.br rfl rfl rfl rfl (fun h2 => ?_) (fun h2 => ?_)
        · refine hG.jp rfl rfl rfl ?_
          rw [nI_1, show nI acc + 0 = nI (acc + 0) from nI_add acc 0]
          exact ih (p + 1) (acc + 0) (by omega) (by rw [he, bi_eq0.mp h2]; simp)
        · refine hG.jp rfl rfl rfl ?_
          rw [nI_1, nI_1]
          exact ih (p + 1) (acc + 1) (by omega) (by rw [he, bi_ne0.mp h2]; simp; omega)
  exact hG.go 4 rfl rfl (loop n 0 0 (by omega) (by omega))
end
end
section
/-! the calls' own answers, as plain functions of the row f; and the reference's calls -/
def WOk (f : Nat → Int32) (c : Nat) : Prop := ∀ i, i < 2 * c → ∃ k, k < 125 ∧ f (6 + i) = nI k
def FOk (f : Nat → Int32) (n c t y : Nat) : Prop := f 1 = nI n ∧ n ≤ 10 ∧ f 4 = nI c ∧ c ≤ 6 ∧ f 5 = nI t ∧ t ≤ 14 ∧ f 2 = nI y ∧ y ≤ 20000 ∧ TxsOk f t ∧ WOk f c
theorem inB_nI {x : Int32} {m : Nat} (hm : m < 2 ^ 31) : inB x 0 (nI m) = true ↔ ∃ k, k ≤ m ∧ x = nI k := by
  simp only [inB, Bool.and_eq_true, decide_eq_true_eq]
  constructor
  · rintro ⟨h1, h2⟩
    obtain ⟨j, hj, rfl⟩ := nI_of (i32_nlt.mpr h1)
    exact ⟨j, (nI_leI hj hm).mp h2, rfl⟩
  · rintro ⟨k, hk, rfl⟩
    exact ⟨nI_pos' (by omega), nI_le hk hm⟩
theorem inB_one {x : Int32} {n : Nat} (hn : n ≤ 10) : inB x 0 (nI n - 1) = true ↔ ∃ k, k < n ∧ x = nI k := by
  cases n with
  | zero =>
    constructor
    · intro h
      simp only [inB, Bool.and_eq_true, decide_eq_true_eq] at h
      have h2 : x ≤ (0 : Int32) - 1 := h.2
      exact absurd (Int32.le_trans h.1 h2) (by decide)
    · rintro ⟨k, hk, -⟩; omega
  | succ n =>
    rw [nI_pred, inB_nI (by omega)]
    constructor
    · rintro ⟨k, hk, rfl⟩; exact ⟨k, by omega, rfl⟩
    · rintro ⟨k, hk, rfl⟩; exact ⟨k, by omega, rfl⟩
theorem inB_f {a b c : Int32} (h : ¬ inB a b c = true) : inB a b c = false := by simpa using h
def persF (f : Nat → Int32) (n : Nat) (k nm b : Int32) : Int32 × (Nat → Int32) := if inB k 0 5 && inB nm 0 124 && inB b (-999) (f 2) then (if n = 10 then (-1000000003, f) else (nI n, comesF f n k nm b)) else (-1000000001, f)
def toldR (f : Nat → Int32) (n : Nat) (p w : Int32) : Int32 := if inB p 0 (nI n - 1) && inB w 0 5 then (if w < 4 then f (18 + 4 * p.toNatClampNeg + w.toNatClampNeg) else if w = 4 then bi (holdF f p.toNatClampNeg (f 2)) else worthK (f (18 + 4 * p.toNatClampNeg)) (f (18 + 4 * p.toNatClampNeg + 1))) else -1000000001
def asR (f : Nat → Int32) (n : Nat) (p k : Int32) : Int32 := if inB p 0 (nI n - 1) && inB k 0 5 then (if underK (f (18 + 4 * p.toNatClampNeg)) k then f (18 + 4 * p.toNatClampNeg + 1) else -1000000012) else -1000000001
def turnF (f : Nat → Int32) (n : Nat) (p k : Int32) : Int32 × (Nat → Int32) := if inB p 0 (nI n - 1) && inB k 0 5 then (f (18 + 4 * p.toNatClampNeg), upd f (18 + 4 * p.toNatClampNeg) k) else (-1000000001, f)
def setK2 (f : Nat → Int32) (P : Nat) (w v : Int32) : Bool := if w = 1 then inB v 0 124 else if w = 2 then inB v (-999) (if aliveF f P then f 2 else f (18 + 4 * P + 3)) else decide (v = -1000000005) || inB v (f (18 + 4 * P + 2)) (f 2)
def setF (f : Nat → Int32) (n : Nat) (p w v : Int32) : Int32 × (Nat → Int32) := if inB p 0 (nI n - 1) && inB w 1 3 && setK2 f p.toNatClampNeg w v then (f (18 + 4 * p.toNatClampNeg + w.toNatClampNeg), upd f (18 + 4 * p.toNatClampNeg + w.toNatClampNeg) v) else (-1000000001, f)
def holdsR (f : Nat → Int32) (n : Nat) (p y : Int32) : Int32 := if inB p 0 (nI n - 1) && inB y (-999) 99999 then bi (holdF f p.toNatClampNeg y) else -1000000001
def apartR (a b : Int32) : Int32 := if inB a 0 124 && inB b 0 124 then nI (apN a b) else -1000000001
def nearR (f : Nat → Int32) (t : Nat) (a b : Int32) : Int32 := if inB a 0 124 && inB b 0 124 then bi (nearT f t (nrIx a b)) else -1000000001
def lifeF (f : Nat → Int32) (v : Int32) : Int32 × (Nat → Int32) := if inB v 0 200 then (f 3, upd f 3 v) else (-1000000001, f)
def seedF (f : Nat → Int32) (v : Int32) : Int32 × (Nat → Int32) := (f 0, upd f 0 v)
def freeR (f : Nat → Int32) (n t : Nat) (nm y : Int32) : Int32 := if inB nm 0 124 && inB y (-999) 99999 then bi (freeG (nearT f t) f n nm y) else -1000000001
def manyF (f : Nat → Int32) (n t : Nat) : Int32 := nI (sumB (fun k => freeG (nearT f t) f n (nI k) (f 2)) 0 125)
def leastF (f : Nat → Int32) (n t : Nat) : Int32 := optN (-1000000005) (fndB (fun k => freeG (nearT f t) f n (nI k) (f 2)) 0 125)
def freesR (f : Nat → Int32) (n t : Nat) (w : Int32) : Int32 := if inB w 0 1 then (if w = 0 then manyF f n t else leastF f n t) else -1000000001
def soonR (f : Nat → Int32) (n t y : Nat) (nm : Int32) : Int32 := if inB nm 0 124 then (match fndB (fun a => freeG (nearT f t) f n nm (nI (y + a))) 0 301 with
  | none => -1000000005
  | some a => nI (y + a)) else -1000000001
def chldF (f : Nat → Int32) (c : Nat) (a b : Int32) : Int32 × (Nat → Int32) := if inB a 0 124 && inB b 0 124 then (if c = 6 then (-1000000003, f) else (nI c, upd (upd (upd f (6 + 2 * c) a) (6 + 2 * c + 1) b) 4 (nI (c + 1)))) else (-1000000001, f)
def forgF (f : Nat → Int32) : Int32 × (Nat → Int32) := (f 4, upd f 4 0)
section
variable {l : Launch} {θ : Th} {σ : Sg} {n c t y : Nat}
theorem o_M_person (k nm b : Int32) (hf : FOk (σ 96) n c t y) : Ci l θ 5 m_M_person [.inr 95, .inl k, .inl nm, .inl b] σ (fun r σ' => r = (persF (σ 96) n k nm b).1 ∧ σ' = upc σ 96 (persF (σ 96) n k nm b).2) := by
  obtain ⟨h1, hn, -⟩ := hf
  refine Ci.of (Or.inl mi_M_person) pk_M_person (nb rfl) (Or.inl rfl) [some (.inr 95), some (.inl k), some (.inl nm), some (.inl b)] rfl fun Γ hG hR => ?_
  have bad : (inB k 0 5 && inB nm 0 124 && inB b (-999) (σ 96 2)) = false → X Γ 32 [some (.inr 95), some (.inl k), some (.inl nm), some (.inl b)] [] σ := by
    intro hb
    refine hG.rt hR rfl rfl rfl rfl ?_
    exact ⟨by rw [persF, hb]; rfl, by rw [persF, hb]; exact (upc_self σ 96).symm⟩
  refine hG.cS lk_M_84 mi_M_in rfl rfl (c_M_in k 0 5) rfl rfl rfl rfl rfl rfl ?_
  rintro x σ' ⟨rfl, rfl⟩
  refine hG.br rfl rfl rfl rfl (fun h2 => ?_) (fun h2 => ?_)
  · exact bad (by rw [bi_eq0.mp h2]; rfl)
  · refine hG.cS lk_M_93 mi_M_isCalled rfl rfl (c_M_isCalled nm) rfl rfl rfl rfl rfl rfl ?_
    rintro x σ' ⟨rfl, rfl⟩
    refine hG.br rfl rfl rfl rfl (fun h3 => ?_) (fun h3 => ?_)
    · exact bad (by rw [bi_eq0.mp h3]; simp)
    · refine hG.ld rfl 2 rfl rfl rfl rfl rfl (by decide) ?_
      refine hG.cS lk_M_84 mi_M_in rfl rfl (c_M_in b (-999) (σ' 96 2)) rfl rfl rfl rfl rfl rfl ?_
      rintro x σ' ⟨rfl, rfl⟩
      refine hG.br rfl rfl rfl rfl (fun h4 => ?_) (fun h4 => ?_)
      · have hg : (inB k 0 5 && inB nm 0 124 && inB b (-999) (σ' 96 2)) = true := by rw [bi_ne0.mp h2, bi_ne0.mp h3, bi_ne0.mp h4]; rfl
        refine hG.ld rfl 1 rfl rfl rfl rfl rfl (by decide) ?_
        rw [h1]
        refine hG.br rfl rfl rfl rfl (fun h5 => ?_) (fun h5 => ?_)
        · have hn10 : n ≠ 10 := fun e => h5 (by rw [e]; rfl)
          refine hG.cV lk_M_99 mi_M_comes rfl rfl (c_M_comes n k nm b (by omega) h1) rfl rfl rfl rfl rfl rfl rfl rfl ?_
          rintro x σ'' ⟨rfl, rfl⟩
          refine hG.rt hR rfl rfl rfl rfl ?_
          rw [persF, hg, if_pos rfl, if_neg hn10]
          exact ⟨rfl, rfl⟩
        · have hn10 : n = 10 := (nI_eq (by omega) (by omega)).mp (show nI n = nI 10 from h5)
          refine hG.rt hR rfl rfl rfl rfl ?_
          rw [persF, hg, if_pos rfl, if_pos hn10]
          exact ⟨rfl, (upc_self σ' 96).symm⟩
      · exact bad (by rw [bi_eq0.mp h4]; simp)
theorem o_M_told (p w : Int32) (hf : FOk (σ 96) n c t y) : Ci l θ 5 m_M_told [.inr 95, .inl p, .inl w] σ (fun r σ' => r = toldR (σ 96) n p w ∧ σ' = σ) := by
  obtain ⟨h1, hn, -⟩ := hf
  refine Ci.of (Or.inl mi_M_told) pk_M_told (nb rfl) (Or.inl rfl) [some (.inr 95), some (.inl p), some (.inl w)] rfl fun Γ hG hR => ?_
  have bad : (inB p 0 (nI n - 1) && inB w 0 5) = false → X Γ 17 [some (.inr 95), some (.inl p), some (.inl w)] [] σ := by
    intro hb
    refine hG.rt hR rfl rfl rfl rfl ?_
    exact ⟨by rw [toldR, hb]; rfl, rfl⟩
  refine hG.cV lk_M_106 mi_M_isOne rfl rfl (c_M_isOne p) rfl rfl rfl rfl rfl rfl rfl rfl ?_
  rintro x σ' ⟨rfl, rfl⟩
  rw [h1]
  refine hG.br rfl rfl rfl rfl (fun h2 => ?_) (fun h2 => ?_)
  · exact bad (by rw [bi_eq0.mp h2]; rfl)
  · refine hG.cS lk_M_84 mi_M_in rfl rfl (c_M_in w 0 5) rfl rfl rfl rfl rfl rfl ?_
    rintro x σ' ⟨rfl, rfl⟩
    refine hG.br rfl rfl rfl rfl (fun h3 => ?_) (fun h3 => ?_)
    · obtain ⟨P, hP, rfl⟩ := (inB_one hn).mp (bi_ne0.mp h2)
      obtain ⟨W, hW, rfl⟩ := (inB_nI (m := 5) (by omega)).mp (bi_ne0.mp h3)
      have hg : toldR (σ' 96) n (nI P) (nI W) = if nI W < 4 then σ' 96 (18 + 4 * P + W) else if nI W = 4 then bi (holdF (σ' 96) P (σ' 96 2)) else worthK (σ' 96 (18 + 4 * P)) (σ' 96 (18 + 4 * P + 1)) := by
        rw [toldR, bi_ne0.mp h2, bi_ne0.mp h3, nI_clamp (by omega), nI_clamp (by omega)]; rfl
      refine hG.br rfl rfl rfl rfl (fun h4 => ?_) (fun h4 => ?_)
      · refine hG.br rfl rfl rfl rfl (fun h5 => ?_) (fun h5 => ?_)
        · refine hG.cV lk_M_113 mi_M_worthOf rfl rfl (c_M_worthOf P (by omega)) rfl rfl rfl rfl rfl rfl rfl rfl ?_
          rintro x σ' ⟨rfl, rfl⟩
          refine hG.rt hR rfl rfl rfl rfl ?_
          exact ⟨by rw [hg, if_neg (i32_nlt.mpr h4), if_neg h5], rfl⟩
        · refine hG.ld rfl 2 rfl rfl rfl rfl rfl (by decide) ?_
          refine hG.cV lk_M_109 mi_M_doesHold rfl rfl (c_M_doesHold P (σ' 96 2) (by omega)) rfl rfl rfl rfl rfl rfl rfl rfl ?_
          rintro x σ' ⟨rfl, rfl⟩
          refine hG.br rfl rfl rfl rfl (fun h6 => ?_) (fun h6 => ?_)
          · refine hG.rt hR rfl rfl rfl rfl ?_
            exact ⟨by rw [hg, if_neg (i32_nlt.mpr h4), if_pos h5, bi_eq0.mp h6]; rfl, rfl⟩
          · refine hG.rt hR rfl rfl rfl rfl ?_
            exact ⟨by rw [hg, if_neg (i32_nlt.mpr h4), if_pos h5, bi_ne0.mp h6]; rfl, rfl⟩
      · refine hG.cV lk_M_88 mi_M_of rfl rfl (c_M_of P W (by omega)) rfl rfl rfl rfl rfl rfl rfl rfl ?_
        rintro x σ' ⟨rfl, rfl⟩
        refine hG.rt hR rfl rfl rfl rfl ?_
        exact ⟨by rw [hg, if_pos (i32_nle.mp h4)], rfl⟩
    · exact bad (by rw [bi_eq0.mp h3]; simp)
theorem o_M_as (p k : Int32) (hf : FOk (σ 96) n c t y) : Ci l θ 5 m_M_as [.inr 95, .inl p, .inl k] σ (fun r σ' => r = asR (σ 96) n p k ∧ σ' = σ) := by
  obtain ⟨h1, hn, -⟩ := hf
  refine Ci.of (Or.inl mi_M_as) pk_M_as (nb rfl) (Or.inl rfl) [some (.inr 95), some (.inl p), some (.inl k)] rfl fun Γ hG hR => ?_
  have bad : (inB p 0 (nI n - 1) && inB k 0 5) = false → X Γ 17 [some (.inr 95), some (.inl p), some (.inl k)] [] σ := by
    intro hb
    refine hG.rt hR rfl rfl rfl rfl ?_
    exact ⟨by rw [asR, hb]; rfl, rfl⟩
  refine hG.cV lk_M_106 mi_M_isOne rfl rfl (c_M_isOne p) rfl rfl rfl rfl rfl rfl rfl rfl ?_
  rintro x σ' ⟨rfl, rfl⟩
  rw [h1]
  refine hG.br rfl rfl rfl rfl (fun h2 => ?_) (fun h2 => ?_)
  · exact bad (by rw [bi_eq0.mp h2]; rfl)
  · refine hG.cS lk_M_84 mi_M_in rfl rfl (c_M_in k 0 5) rfl rfl rfl rfl rfl rfl ?_
    rintro x σ' ⟨rfl, rfl⟩
    refine hG.br rfl rfl rfl rfl (fun h3 => ?_) (fun h3 => ?_)
    · obtain ⟨P, hP, rfl⟩ := (inB_one hn).mp (bi_ne0.mp h2)
      have hg : asR (σ' 96) n (nI P) k = if underK (σ' 96 (18 + 4 * P)) k then σ' 96 (18 + 4 * P + 1) else -1000000012 := by
        rw [asR, bi_ne0.mp h2, bi_ne0.mp h3, nI_clamp (by omega)]; rfl
      refine hG.cV lk_M_88 mi_M_of rfl rfl (c_M_of P 0 (by omega)) rfl rfl rfl rfl rfl rfl rfl rfl ?_
      rintro x σ' ⟨rfl, rfl⟩
      rw [show 18 + 4 * P + 0 = 18 + 4 * P from rfl]
      refine hG.cS lk_M_117 mi_M_isUnder rfl rfl (c_M_isUnder (σ' 96 (18 + 4 * P)) k) rfl rfl rfl rfl rfl rfl ?_
      rintro x σ' ⟨rfl, rfl⟩
      refine hG.br rfl rfl rfl rfl (fun h4 => ?_) (fun h4 => ?_)
      · refine hG.rt hR rfl rfl rfl rfl ?_
        exact ⟨by rw [hg, bi_eq0.mp h4]; rfl, rfl⟩
      · refine hG.cV lk_M_88 mi_M_of rfl rfl (c_M_of P 1 (by omega)) rfl rfl rfl rfl rfl rfl rfl rfl ?_
        rintro x σ' ⟨rfl, rfl⟩
        refine hG.rt hR rfl rfl rfl rfl ?_
        exact ⟨by rw [hg, bi_ne0.mp h4]; rfl, rfl⟩
    · exact bad (by rw [bi_eq0.mp h3]; simp)
theorem o_M_turns (p k : Int32) (hf : FOk (σ 96) n c t y) : Ci l θ 5 m_M_turns [.inr 95, .inl p, .inl k] σ (fun r σ' => r = (turnF (σ 96) n p k).1 ∧ σ' = upc σ 96 (turnF (σ 96) n p k).2) := by
  obtain ⟨h1, hn, -⟩ := hf
  refine Ci.of (Or.inl mi_M_turns) pk_M_turns (nb rfl) (Or.inl rfl) [some (.inr 95), some (.inl p), some (.inl k)] rfl fun Γ hG hR => ?_
  have bad : (inB p 0 (nI n - 1) && inB k 0 5) = false → X Γ 31 [some (.inr 95), some (.inl p), some (.inl k)] [] σ := by
    intro hb
    refine hG.rt hR rfl rfl rfl rfl ?_
    exact ⟨by rw [turnF, hb]; rfl, by rw [turnF, hb]; exact (upc_self σ 96).symm⟩
  refine hG.cV lk_M_106 mi_M_isOne rfl rfl (c_M_isOne p) rfl rfl rfl rfl rfl rfl rfl rfl ?_
  rintro x σ' ⟨rfl, rfl⟩
  rw [h1]
  refine hG.br rfl rfl rfl rfl (fun h2 => ?_) (fun h2 => ?_)
  · exact bad (by rw [bi_eq0.mp h2]; rfl)
  · refine hG.cS lk_M_84 mi_M_in rfl rfl (c_M_in k 0 5) rfl rfl rfl rfl rfl rfl ?_
    rintro x σ' ⟨rfl, rfl⟩
    refine hG.br rfl rfl rfl rfl (fun h3 => ?_) (fun h3 => ?_)
    · exact bad (by rw [bi_eq0.mp h3]; simp)
    · obtain ⟨P, hP, rfl⟩ := (inB_one hn).mp (bi_ne0.mp h2)
      have hg : turnF (σ' 96) n (nI P) k = (σ' 96 (18 + 4 * P), upd (σ' 96) (18 + 4 * P) k) := by
        rw [turnF, bi_ne0.mp h2, bi_ne0.mp h3, nI_clamp (by omega)]; rfl
      have e : 18 + 4 * nI P = nI (18 + 4 * P) := (by simp only [lit_nI, pk_mul, nI_add, nI_1]; first | done | rfl | (congr 1; omega))
      refine hG.go 8 rfl rfl ?_
      rw [e]
      refine hG.cV lk_M_121 mi_M_becomes rfl rfl (c_M_becomes (18 + 4 * P) k (by omega)) rfl rfl rfl rfl rfl rfl rfl rfl ?_
      rintro x σ'' ⟨rfl, rfl⟩
      refine hG.rt hR rfl rfl rfl rfl ?_
      rw [hg]
      exact ⟨rfl, rfl⟩
theorem o_M_set (p w v : Int32) (hf : FOk (σ 96) n c t y) : Ci l θ 5 m_M_set [.inr 95, .inl p, .inl w, .inl v] σ (fun r σ' => r = (setF (σ 96) n p w v).1 ∧ σ' = upc σ 96 (setF (σ 96) n p w v).2) := by
  obtain ⟨h1, hn, -⟩ := hf
  refine Ci.of (Or.inl mi_M_set) pk_M_set (nb rfl) (Or.inl rfl) [some (.inr 95), some (.inl p), some (.inl w), some (.inl v), none] rfl fun Γ hG hR => ?_
  have bad : (inB p 0 (nI n - 1) && inB w 1 3) = false → X Γ 17 [some (.inr 95), some (.inl p), some (.inl w), some (.inl v), none] [] σ := by
    intro hb
    refine hG.rt hR rfl rfl rfl rfl ?_
    exact ⟨by rw [setF, hb]; rfl, by rw [setF, hb]; exact (upc_self σ 96).symm⟩
  refine hG.cV lk_M_106 mi_M_isOne rfl rfl (c_M_isOne p) rfl rfl rfl rfl rfl rfl rfl rfl ?_
  rintro x σ' ⟨rfl, rfl⟩
  rw [h1]
  refine hG.br rfl rfl rfl rfl (fun h2 => ?_) (fun h2 => ?_)
  · exact bad (by rw [bi_eq0.mp h2]; rfl)
  · refine hG.cS lk_M_84 mi_M_in rfl rfl (c_M_in w 1 3) rfl rfl rfl rfl rfl rfl ?_
    rintro x σ' ⟨rfl, rfl⟩
    refine hG.br rfl rfl rfl rfl (fun h3 => ?_) (fun h3 => ?_)
    · obtain ⟨P, hP, rfl⟩ := (inB_one hn).mp (bi_ne0.mp h2)
      have h3' := bi_ne0.mp h3
      obtain ⟨W, hW1, hW2, rfl⟩ : ∃ W, 1 ≤ W ∧ W < 4 ∧ w = nI W := by
        simp only [inB, Bool.and_eq_true, decide_eq_true_eq] at h3'
        exact nI_of_range (a := 1) (b := 4) (by omega) (by omega) h3'.1 (Int32.lt_of_le_of_lt h3'.2 (by decide))
      have hg : setF (σ' 96) n (nI P) (nI W) v = if setK2 (σ' 96) P (nI W) v then (σ' 96 (18 + 4 * P + W), upd (σ' 96) (18 + 4 * P + W) v) else (-1000000001, σ' 96) := by
        rw [setF, bi_ne0.mp h2, h3', nI_clamp (by omega), nI_clamp (by omega)]; rfl
      have j100 : ∀ b : Bool, b = setK2 (σ' 96) P (nI W) v → X Γ 100 [some (.inr 95), some (.inl (nI P)), some (.inl (nI W)), some (.inl v), none] [.inl (bi b)] σ' := by
        rintro b rfl
        refine hG.br rfl rfl rfl rfl (fun h4 => ?_) (fun h4 => ?_)
        · refine hG.rt hR rfl rfl rfl rfl ?_
          rw [hg, bi_eq0.mp h4]
          exact ⟨rfl, (upc_self σ' 96).symm⟩
        · have e : 18 + 4 * nI P + nI W = nI (18 + 4 * P + W) := (by simp only [lit_nI, pk_mul, nI_add, nI_1]; first | done | rfl | (congr 1; omega))
          refine hG.go 9 rfl rfl ?_
          rw [e]
          refine hG.cV lk_M_121 mi_M_becomes rfl rfl (c_M_becomes (18 + 4 * P + W) v (by omega)) rfl rfl rfl rfl rfl rfl rfl rfl ?_
          rintro x σ'' ⟨rfl, rfl⟩
          refine hG.rt hR rfl rfl rfl rfl ?_
          rw [hg, bi_ne0.mp h4]
          exact ⟨rfl, rfl⟩
      refine hG.br rfl rfl rfl rfl (fun h4 => ?_) (fun h4 => ?_)
      · refine hG.br rfl rfl rfl rfl (fun h5 => ?_) (fun h5 => ?_)
        · have hs : setK2 (σ' 96) P (nI W) v = (decide (v = -1000000005) || inB v (σ' 96 (18 + 4 * P + 2)) (σ' 96 2)) := by rw [setK2, if_neg h4, if_neg h5]
          refine hG.br rfl rfl rfl rfl (fun h6 => ?_) (fun h6 => ?_)
          · exact hG.go 2 rfl rfl (j100 true (by rw [hs, h6]; rfl))
          · refine hG.cV lk_M_88 mi_M_of rfl rfl (c_M_of P 2 (by omega)) rfl rfl rfl rfl rfl rfl rfl rfl ?_
            rintro x σ' ⟨rfl, rfl⟩
            refine hG.ld rfl 2 rfl rfl rfl rfl rfl (by decide) ?_
            refine hG.cS lk_M_84 mi_M_in rfl rfl (c_M_in v (σ' 96 (18 + 4 * P + 2)) (σ' 96 2)) rfl rfl rfl rfl rfl rfl ?_
            rintro x σ' ⟨rfl, rfl⟩
            refine hG.br rfl rfl rfl rfl (fun h7 => ?_) (fun h7 => ?_)
            · exact hG.go 1 rfl rfl (j100 false (by rw [hs, bi_eq0.mp h7]; simp [h6]))
            · exact hG.go 2 rfl rfl (j100 true (by rw [hs, bi_ne0.mp h7]; simp))
        · have hs : setK2 (σ' 96) P (nI W) v = inB v (-999) (if aliveF (σ' 96) P then σ' 96 2 else σ' 96 (18 + 4 * P + 3)) := by rw [setK2, if_neg h4, if_pos h5]
          refine hG.cV lk_M_103 mi_M_isAlive rfl rfl (c_M_isAlive P (by omega)) rfl rfl rfl rfl rfl rfl rfl rfl ?_
          rintro x σ' ⟨rfl, rfl⟩
          refine hG.br rfl rfl rfl rfl (fun h6 => ?_) (fun h6 => ?_)
          · refine hG.cV lk_M_88 mi_M_of rfl rfl (c_M_of P 3 (by omega)) rfl rfl rfl rfl rfl rfl rfl rfl ?_
            rintro x σ' ⟨rfl, rfl⟩
            refine hG.cS lk_M_84 mi_M_in rfl rfl (c_M_in v (-999) (σ' 96 (18 + 4 * P + 3))) rfl rfl rfl rfl rfl rfl ?_
            rintro x σ' ⟨rfl, rfl⟩
            exact hG.go 1 rfl rfl (j100 _ (by rw [hs, bi_eq0.mp h6]; rfl))
          · refine hG.ld rfl 2 rfl rfl rfl rfl rfl (by decide) ?_
            refine hG.cS lk_M_84 mi_M_in rfl rfl (c_M_in v (-999) (σ' 96 2)) rfl rfl rfl rfl rfl rfl ?_
            rintro x σ' ⟨rfl, rfl⟩
            exact hG.go 1 rfl rfl (j100 _ (by rw [hs, bi_ne0.mp h6]; rfl))
      · have hs : setK2 (σ' 96) P (nI W) v = inB v 0 124 := by rw [setK2, if_pos h4]
        refine hG.cS lk_M_93 mi_M_isCalled rfl rfl (c_M_isCalled v) rfl rfl rfl rfl rfl rfl ?_
        rintro x σ' ⟨rfl, rfl⟩
        exact hG.go 1 rfl rfl (j100 _ hs.symm)
    · exact bad (by rw [bi_eq0.mp h3]; simp)
theorem o_M_holds (p yr : Int32) (hf : FOk (σ 96) n c t y) : Ci l θ 5 m_M_holds [.inr 95, .inl p, .inl yr] σ (fun r σ' => r = holdsR (σ 96) n p yr ∧ σ' = σ) := by
  obtain ⟨h1, hn, -⟩ := hf
  refine Ci.of (Or.inl mi_M_holds) pk_M_holds (nb rfl) (Or.inl rfl) [some (.inr 95), some (.inl p), some (.inl yr)] rfl fun Γ hG hR => ?_
  have bad : (inB p 0 (nI n - 1) && inB yr (-999) 99999) = false → X Γ 15 [some (.inr 95), some (.inl p), some (.inl yr)] [] σ := by
    intro hb
    refine hG.rt hR rfl rfl rfl rfl ?_
    exact ⟨by rw [holdsR, hb]; rfl, rfl⟩
  refine hG.cV lk_M_106 mi_M_isOne rfl rfl (c_M_isOne p) rfl rfl rfl rfl rfl rfl rfl rfl ?_
  rintro x σ' ⟨rfl, rfl⟩
  rw [h1]
  refine hG.br rfl rfl rfl rfl (fun h2 => ?_) (fun h2 => ?_)
  · exact bad (by rw [bi_eq0.mp h2]; rfl)
  · refine hG.cS lk_M_125 mi_M_isYear rfl rfl (c_M_isYear yr) rfl rfl rfl rfl rfl rfl ?_
    rintro x σ' ⟨rfl, rfl⟩
    refine hG.br rfl rfl rfl rfl (fun h3 => ?_) (fun h3 => ?_)
    · obtain ⟨P, hP, rfl⟩ := (inB_one hn).mp (bi_ne0.mp h2)
      have hg : holdsR (σ' 96) n (nI P) yr = bi (holdF (σ' 96) P yr) := by
        rw [holdsR, bi_ne0.mp h2, bi_ne0.mp h3, nI_clamp (by omega)]; rfl
      refine hG.cV lk_M_109 mi_M_doesHold rfl rfl (c_M_doesHold P yr (by omega)) rfl rfl rfl rfl rfl rfl rfl rfl ?_
      rintro x σ' ⟨rfl, rfl⟩
      refine hG.br rfl rfl rfl rfl (fun h4 => ?_) (fun h4 => ?_)
      · refine hG.rt hR rfl rfl rfl rfl ?_
        exact ⟨by rw [hg, bi_eq0.mp h4]; rfl, rfl⟩
      · refine hG.rt hR rfl rfl rfl rfl ?_
        exact ⟨by rw [hg, bi_ne0.mp h4]; rfl, rfl⟩
    · exact bad (by rw [bi_eq0.mp h3]; simp)
theorem o_M_apart (a b : Int32) : Ci l θ 5 m_M_apart [.inr 95, .inl a, .inl b] σ (fun r σ' => r = apartR a b ∧ σ' = σ) := by
  refine Ci.of (Or.inl mi_M_apart) pk_M_apart (nb rfl) (Or.inl rfl) [some (.inr 95), some (.inl a), some (.inl b)] rfl fun Γ hG hR => ?_
  have bad : (inB a 0 124 && inB b 0 124) = false → X Γ 22 [some (.inr 95), some (.inl a), some (.inl b)] [] σ := by
    intro hb
    refine hG.rt hR rfl rfl rfl rfl ?_
    exact ⟨by rw [apartR, hb]; rfl, rfl⟩
  refine hG.cS lk_M_93 mi_M_isCalled rfl rfl (c_M_isCalled a) rfl rfl rfl rfl rfl rfl ?_
  rintro x σ' ⟨rfl, rfl⟩
  refine hG.br rfl rfl rfl rfl (fun h2 => ?_) (fun h2 => ?_)
  · exact bad (by rw [bi_eq0.mp h2]; rfl)
  · refine hG.cS lk_M_93 mi_M_isCalled rfl rfl (c_M_isCalled b) rfl rfl rfl rfl rfl rfl ?_
    rintro x σ' ⟨rfl, rfl⟩
    refine hG.br rfl rfl rfl rfl (fun h3 => ?_) (fun h3 => ?_)
    · exact bad (by rw [bi_eq0.mp h3]; simp)
    · refine hG.cS lk_M_128 mi_M_apartOf rfl rfl (c_M_apartOf a b) rfl rfl rfl rfl rfl rfl ?_
      rintro x σ' ⟨rfl, rfl⟩
      refine hG.rt hR rfl rfl rfl rfl ?_
      exact ⟨by rw [apartR, bi_ne0.mp h2, bi_ne0.mp h3, apF_eq]; rfl, rfl⟩
theorem o_M_lifetime (v : Int32) : Ci l θ 5 m_M_lifetime [.inr 95, .inl v] σ (fun r σ' => r = (lifeF (σ 96) v).1 ∧ σ' = upc σ 96 (lifeF (σ 96) v).2) := by
  refine Ci.of (Or.inl mi_M_lifetime) pk_M_lifetime (nb rfl) (Or.inl rfl) [some (.inr 95), some (.inl v)] rfl fun Γ hG hR => ?_
  refine hG.cS lk_M_84 mi_M_in rfl rfl (c_M_in v 0 200) rfl rfl rfl rfl rfl rfl ?_
  rintro x σ' ⟨rfl, rfl⟩
  refine hG.br rfl rfl rfl rfl (fun h2 => ?_) (fun h2 => ?_)
  · refine hG.rt hR rfl rfl rfl rfl ?_
    rw [lifeF, bi_eq0.mp h2]
    exact ⟨rfl, (upc_self σ' 96).symm⟩
  · refine hG.cV lk_M_121 mi_M_becomes rfl rfl (c_M_becomes 3 v (by omega)) rfl rfl rfl rfl rfl rfl rfl rfl ?_
    rintro x σ'' ⟨rfl, rfl⟩
    refine hG.rt hR rfl rfl rfl rfl ?_
    rw [lifeF, bi_ne0.mp h2]
    exact ⟨rfl, rfl⟩
theorem o_M_seed (v : Int32) : Ci l θ 5 m_M_seed [.inr 95, .inl v] σ (fun r σ' => r = (seedF (σ 96) v).1 ∧ σ' = upc σ 96 (seedF (σ 96) v).2) := by
  refine Ci.of (Or.inl mi_M_seed) pk_M_seed (nb rfl) (Or.inl rfl) [some (.inr 95), some (.inl v)] rfl fun Γ hG hR => ?_
  refine hG.cV lk_M_121 mi_M_becomes rfl rfl (c_M_becomes 0 v (by omega)) rfl rfl rfl rfl rfl rfl rfl rfl ?_
  rintro x σ'' ⟨rfl, rfl⟩
  refine hG.rt hR rfl rfl rfl rfl ?_
  exact ⟨rfl, rfl⟩
theorem o_M_forget : Ci l θ 5 m_M_forget [.inr 95] σ (fun r σ' => r = (forgF (σ 96)).1 ∧ σ' = upc σ 96 (forgF (σ 96)).2) := by
  refine Ci.of (Or.inl mi_M_forget) pk_M_forget (nb rfl) (Or.inl rfl) [some (.inr 95)] rfl fun Γ hG hR => ?_
  refine hG.cV lk_M_121 mi_M_becomes rfl rfl (c_M_becomes 4 0 (by omega)) rfl rfl rfl rfl rfl rfl rfl rfl ?_
  rintro x σ'' ⟨rfl, rfl⟩
  refine hG.rt hR rfl rfl rfl rfl ?_
  exact ⟨rfl, rfl⟩
end
end
section
def rmI (a d : Int32) : Int32 := a - a / d * d
def drawZ (z : Int32) : Int32 := z * 1103515245 + 12345
def drawV (z : Int32) : Int32 := (z.toUInt32 >>> ((8 : Int32).toUInt32 &&& Int32.toUInt32 31)).toInt32
def drawP (f : Nat → Int32) (n : Nat) : Nat → Int32 := comesF (upd f 0 (drawZ (drawZ (drawZ (f 0))))) n (rmI (drawV (drawZ (f 0))) 6) (rmI (drawV (drawZ (drawZ (f 0)))) 125) (f 2 - rmI (drawV (drawZ (drawZ (drawZ (f 0))))) 90)
def dealL (f : Nat → Int32) (n : Nat) : Nat → Nat → Int32
  | 0 => f
  | m + 1 => dealL (drawP f n) (n + 1) m
def dealF (f : Nat → Int32) (n : Nat) (k : Int32) : Int32 × (Nat → Int32) := if inB k 1 10 then (nI (min k.toNatClampNeg (10 - n)), dealL f n (min k.toNatClampNeg (10 - n))) else (-1000000001, f)
def diesF (f : Nat → Int32) (t p : Nat) : Int32 := match cntO f 1 t with
  | none => (f 2 - f (18 + 4 * p + 2)) / 2
  | some i => withinF (evT f i (fa3 (f 2 - f (18 + 4 * p + 2)) (f (18 + 4 * p)) 0)) 0 100
def yrS (f : Nat → Int32) (t p d : Nat) : (Nat → Int32) × Nat := if aliveF f p then (if rmI (drawV (drawZ (f 0))) 100 < diesF (upd f 0 (drawZ (f 0))) t p then (upd (upd f 0 (drawZ (f 0))) (18 + 4 * p + 3) (f 2), d + 1) else (upd f 0 (drawZ (f 0)), d)) else (f, d)
def yrL (f : Nat → Int32) (t p : Nat) : Nat → Nat → (Nat → Int32) × Nat
  | 0, d => (f, d)
  | m + 1, d => yrL (yrS f t p d).1 t (p + 1) m (yrS f t p d).2
def yearF (f : Nat → Int32) (n t : Nat) : (Nat → Int32) × Nat := (upd (yrL f t 0 n 0).1 2 ((yrL f t 0 n 0).1 2 + 1), (yrL f t 0 n 0).2)
def yrsL (f : Nat → Int32) (n t : Nat) : Nat → (Nat → Int32) × Nat
  | 0 => (f, 0)
  | k + 1 => ((yrsL (yearF f n t).1 n t k).1, (yearF f n t).2 + (yrsL (yearF f n t).1 n t k).2)
def yrsF (f : Nat → Int32) (n t y : Nat) (k : Int32) : Int32 × (Nat → Int32) := if inB k 1 100 then (nI (yrsL f n t (min k.toNatClampNeg (9999 - y))).2, (yrsL f n t (min k.toNatClampNeg (9999 - y))).1) else (-1000000001, f)
def behR (f : Nat → Int32) (n t : Nat) (k w : Int32) : Int32 := if inB k 0 100 && inB w 0 2 then (if w = 0 then manyF (yrsL f n t k.toNatClampNeg).1 n t else if w = 1 then nI (sumB (aliveF (yrsL f n t k.toNatClampNeg).1) 0 n) else leastF (yrsL f n t k.toNatClampNeg).1 n t) else -1000000001
def endsL (f : Nat → Int32) (n t : Nat) : Nat → Nat → Option Nat
  | _, 0 => none
  | k, m + 1 => if leastF f n t = -1000000005 then some k else endsL (yearF f n t).1 n t (k + 1) m
def endsR (f : Nat → Int32) (n t : Nat) : Int32 := optN (-1000000005) (endsL f n t 0 201)
def stayL (f : Nat → Int32) (n t : Nat) (nm : Int32) : Nat → Nat
  | 0 => if freeG (nearT f t) f n nm (f 2) then 1 else 0
  | m + 1 => (if freeG (nearT f t) f n nm (f 2) then 1 else 0) + stayL (yearF f n t).1 n t nm m
def stayR (f : Nat → Int32) (n t : Nat) (nm k : Int32) : Int32 := if inB nm 0 124 && inB k 0 100 then nI (stayL f n t nm k.toNatClampNeg) else -1000000001
def fineR (f : Nat → Int32) (n t : Nat) : Int32 := match cntO f 2 t with
  | none => 0
  | some i => evT f i (fa3 (f 2) (nI (sumB (aliveF f) 0 n)) 0)
def whyR (f : Nat → Int32) (t : Nat) (k : Int32) : Int32 := if inB k 0 2 then optN (-1000000005) (cntO f k t) else -1000000001
def ttlR (f : Nat → Int32) (t : Nat) (x w : Int32) : Int32 := if inB x 0 (nI t - 1) && inB w 0 1 then (if w = 0 then f (58 + 2 * x.toNatClampNeg) / 1000 else f (58 + 2 * x.toNatClampNeg + 1)) else -1000000001
def yldS (P : Nat → Bool) : Nat → Nat → Int32 → Int32
  | _, 0, a => a
  | p, m + 1, a => yldS P (p + 1) m (a ||| if P p then (1 : Int32) <<< (nI p &&& 31) else 0)
def yldR (f : Nat → Int32) (n t : Nat) (p : Int32) : Int32 := if inB p 0 (nI n - 1) then yldS (fun q => decide (¬ q = p.toNatClampNeg) && aliveF f q && nearT f t (nrIx (f (18 + 4 * p.toNatClampNeg + 1)) (f (18 + 4 * q + 1)))) 0 n 0 else -1000000001
-- a year changes only the draw's number, who has died, and the year
theorem yrS_keep {f : Nat → Int32} {t p d j : Nat} (h0 : j ≠ 0) (hp : j ≠ 18 + 4 * p + 3) : (yrS f t p d).1 j = f j := by
  unfold yrS
  split
  · split
    · dsimp only; rw [upd_ne hp, upd_ne h0]
    · dsimp only; rw [upd_ne h0]
  · rfl
theorem yrL_keep {t j : Nat} (h0 : j ≠ 0) : ∀ (m p d : Nat) (f : Nat → Int32), (∀ q, p ≤ q → q < p + m → j ≠ 18 + 4 * q + 3) → (yrL f t p m d).1 j = f j
  | 0, _, _, _, _ => rfl
  | m + 1, p, d, f, h => by
    rw [yrL, yrL_keep h0 m (p + 1) _ _ (fun q h1 h2 => h q (by omega) (by omega)), yrS_keep h0 (h p (by omega) (by omega))]
theorem yrS_le {f : Nat → Int32} {t p d : Nat} : (yrS f t p d).2 ≤ d + 1 := by
  unfold yrS
  split
  · split <;> dsimp only <;> omega
  · dsimp only; omega
theorem yrL_le {t : Nat} : ∀ (m p d : Nat) (f : Nat → Int32), (yrL f t p m d).2 ≤ d + m
  | 0, _, _, _ => Nat.le_refl _
  | m + 1, p, d, f => by
    rw [yrL]
    have h1 := yrL_le (t := t) m (p + 1) (yrS f t p d).2 (yrS f t p d).1
    have h2 := yrS_le (f := f) (t := t) (p := p) (d := d)
    omega
theorem yearF_keep {f : Nat → Int32} {n t j : Nat} (h0 : j ≠ 0) (h2 : j ≠ 2) (hn : n ≤ 10) (hj : j < 18 ∨ 58 ≤ j) : (yearF f n t).1 j = f j := by
  rw [yearF]; dsimp only
  rw [upd_ne h2, yrL_keep h0 n 0 0 f (fun q _ hq => by omega)]
theorem yearF_2 {f : Nat → Int32} {n t : Nat} : (yearF f n t).1 2 = f 2 + 1 := by
  rw [yearF]; dsimp only
  rw [upd_same, yrL_keep (by decide) n 0 0 f (fun q _ hq => by omega)]
theorem yearF_nm {f : Nat → Int32} {n t p : Nat} (k : Nat) (hk : k < 3) : (yearF f n t).1 (18 + 4 * p + k) = f (18 + 4 * p + k) := by
  rw [yearF]; dsimp only
  rw [upd_ne (by omega), yrL_keep (by omega) n 0 0 f (fun q _ hq => by omega)]
theorem yearF_le {f : Nat → Int32} {n t : Nat} : (yearF f n t).2 ≤ n := by
  have := yrL_le (t := t) n 0 0 f
  rw [yearF]; dsimp only; omega
theorem FOk_year {f : Nat → Int32} {n c t y : Nat} (h : FOk f n c t y) (hy : y < 20000) : FOk (yearF f n t).1 n c t (y + 1) := by
  obtain ⟨h1, hn, h4, hc, h5, ht, h2, h2y, hT, hW⟩ := h
  refine ⟨by rw [yearF_keep (by decide) (by decide) hn (by omega)]; exact h1, hn, by rw [yearF_keep (by decide) (by decide) hn (by omega)]; exact h4, hc, by rw [yearF_keep (by decide) (by decide) hn (by omega)]; exact h5, ht, by rw [yearF_2, h2, nI_1], by omega, TxsOk_congr hT (fun j hj => yearF_keep (by omega) (by omega) hn (by omega)), fun i hi => ?_⟩
  rw [yearF_keep (by omega) (by omega) hn (by omega)]
  exact hW i hi
theorem nearT_year {f : Nat → Int32} {n c t y : Nat} (h : FOk f n c t y) : nearT (yearF f n t).1 t = nearT f t := by
  obtain ⟨h1, hn, h4, hc, h5, ht, h2, h2y, hT, hW⟩ := h
  funext k
  exact nearT_congr hT (fun j hj => yearF_keep (by omega) (by omega) hn (by omega)) k
theorem yearF_hi {f : Nat → Int32} {n t j : Nat} (hn : n ≤ 10) (hj : 58 ≤ j) : (yearF f n t).1 j = f j := yearF_keep (by omega) (by omega) hn (by omega)
theorem yrsL_hi {n t j : Nat} (hn : n ≤ 10) (hj : 58 ≤ j) : ∀ (k : Nat) (f : Nat → Int32), (yrsL f n t k).1 j = f j
  | 0, _ => rfl
  | k + 1, f => by rw [yrsL]; dsimp only; rw [yrsL_hi hn hj k, yearF_hi hn hj]
theorem yrsL_le {n t : Nat} : ∀ (k : Nat) (f : Nat → Int32), (yrsL f n t k).2 ≤ k * n
  | 0, _ => by simp [yrsL]
  | k + 1, f => by
    have h1 := yrsL_le (n := n) (t := t) k (yearF f n t).1
    have h2 := yearF_le (f := f) (n := n) (t := t)
    rw [yrsL]; dsimp only
    rw [Nat.succ_mul]; omega
theorem FOk_years {n c t : Nat} : ∀ (k y : Nat) (f : Nat → Int32), FOk f n c t y → y + k ≤ 20000 → FOk (yrsL f n t k).1 n c t (y + k)
  | 0, _, _, h, _ => h
  | k + 1, y, f, h, hy => by
    have := FOk_years k (y + 1) _ (FOk_year h (by omega)) (by omega)
    rw [show y + (k + 1) = y + 1 + k by omega]
    exact this
theorem inB_lt {x : Int32} {n : Nat} (hn : n ≤ 1000) : inB x 0 (nI n - 1) = true ↔ ∃ k, k < n ∧ x = nI k := by
  cases n with
  | zero =>
    constructor
    · intro h
      simp only [inB, Bool.and_eq_true, decide_eq_true_eq] at h
      have h2 : x ≤ (0 : Int32) - 1 := h.2
      exact absurd (Int32.le_trans h.1 h2) (by decide)
    · rintro ⟨k, hk, -⟩; omega
  | succ n =>
    rw [nI_pred, inB_nI (by omega)]
    constructor
    · rintro ⟨k, hk, rfl⟩; exact ⟨k, by omega, rfl⟩
    · rintro ⟨k, hk, rfl⟩; exact ⟨k, by omega, rfl⟩
theorem inB_ab {x : Int32} (a b : Nat) (hb : b < 2 ^ 30) (ha : a < 2 ^ 30) (h : inB x (nI a) (nI b) = true) : ∃ k, a ≤ k ∧ k ≤ b ∧ x = nI k := by
  simp only [inB, Bool.and_eq_true, decide_eq_true_eq] at h
  obtain ⟨k, h1, h2, h3⟩ := nI_of_range (a := a) (b := b + 1) (by omega) (by omega) h.1 (Int32.lt_of_le_of_lt h.2 (nI_lt (by omega) (by omega)))
  exact ⟨k, h1, by omega, h3⟩
section
variable {l : Launch} {θ : Th} {σ : Sg} {n c t y : Nat}
theorem o_M_near (a b : Int32) (hf : FOk (σ 96) n c t y) : Ci l θ 5 m_M_near [.inr 95, .inl a, .inl b] σ (fun r σ' => r = nearR (σ 96) t a b ∧ Sm [99, 109, 110] σ σ') := by
  obtain ⟨h1, hn, h4, hc, h5, ht, h2, h2y, hT, hW⟩ := hf
  refine Ci.of (Or.inl mi_M_near) pk_M_near (nb rfl) (Or.inl rfl) [some (.inr 95), some (.inl a), some (.inl b)] rfl fun Γ hG hR => ?_
  have bad : (inB a 0 124 && inB b 0 124) = false → X Γ 14 [some (.inr 95), some (.inl a), some (.inl b)] [] σ := by
    intro hb
    refine hG.rt hR rfl rfl rfl rfl ?_
    exact ⟨by rw [nearR, hb]; rfl, Sm.rf⟩
  refine hG.cS lk_M_93 mi_M_isCalled rfl rfl (c_M_isCalled a) rfl rfl rfl rfl rfl rfl ?_
  rintro x σ' ⟨rfl, rfl⟩
  refine hG.br rfl rfl rfl rfl (fun k1 => ?_) (fun k1 => ?_)
  · exact bad (by rw [bi_eq0.mp k1]; rfl)
  · refine hG.cS lk_M_93 mi_M_isCalled rfl rfl (c_M_isCalled b) rfl rfl rfl rfl rfl rfl ?_
    rintro x σ' ⟨rfl, rfl⟩
    refine hG.br rfl rfl rfl rfl (fun k2 => ?_) (fun k2 => ?_)
    · refine hG.cVv lk_M_137 mi_M_findNears rfl rfl (c_M_findNears t h5 ht hT) rfl rfl rfl rfl rfl rfl rfl rfl ?_
      rintro τ ⟨hS, hN⟩
      refine hG.cV lk_M_140 mi_M_areNear rfl rfl (c_M_areNear (nearT (σ' 96) t) a b hN) rfl rfl rfl rfl rfl rfl rfl rfl ?_
      rintro x τ ⟨rfl, rfl⟩
      have hg : nearR (σ' 96) t a b = bi (nearT (σ' 96) t (nrIx a b)) := by rw [nearR, bi_ne0.mp k1, bi_ne0.mp k2]; rfl
      refine hG.br rfl rfl rfl rfl (fun k3 => ?_) (fun k3 => ?_)
      · refine hG.rt hR rfl rfl rfl rfl ?_
        exact ⟨by rw [hg, bi_eq0.mp k3]; rfl, hS⟩
      · refine hG.rt hR rfl rfl rfl rfl ?_
        exact ⟨by rw [hg, bi_ne0.mp k3]; rfl, hS⟩
    · exact bad (by rw [bi_eq0.mp k2]; simp)
theorem o_M_free (nm yr : Int32) (hf : FOk (σ 96) n c t y) : Ci l θ 6 m_M_free [.inr 95, .inl nm, .inl yr] σ (fun r σ' => r = freeR (σ 96) n t nm yr ∧ Sm [99, 109, 110] σ σ') := by
  obtain ⟨h1, hn, h4, hc, h5, ht, h2, h2y, hT, hW⟩ := hf
  refine Ci.of (Or.inl mi_M_free) pk_M_free (nb rfl) (Or.inl rfl) [some (.inr 95), some (.inl nm), some (.inl yr)] rfl fun Γ hG hR => ?_
  have bad : (inB nm 0 124 && inB yr (-999) 99999) = false → X Γ 14 [some (.inr 95), some (.inl nm), some (.inl yr)] [] σ := by
    intro hb
    refine hG.rt hR rfl rfl rfl rfl ?_
    exact ⟨by rw [freeR, hb]; rfl, Sm.rf⟩
  refine hG.cS lk_M_93 mi_M_isCalled rfl rfl (c_M_isCalled nm) rfl rfl rfl rfl rfl rfl ?_
  rintro x σ' ⟨rfl, rfl⟩
  refine hG.br rfl rfl rfl rfl (fun k1 => ?_) (fun k1 => ?_)
  · exact bad (by rw [bi_eq0.mp k1]; rfl)
  · refine hG.cS lk_M_125 mi_M_isYear rfl rfl (c_M_isYear yr) rfl rfl rfl rfl rfl rfl ?_
    rintro x σ' ⟨rfl, rfl⟩
    refine hG.br rfl rfl rfl rfl (fun k2 => ?_) (fun k2 => ?_)
    · refine hG.cVv lk_M_137 mi_M_findNears rfl rfl (c_M_findNears t h5 ht hT) rfl rfl rfl rfl rfl rfl rfl rfl ?_
      rintro τ ⟨hS, hN⟩
      have e96 : τ 96 = σ' 96 := hS 96 (by decide)
      refine hG.cV lk_M_148 mi_M_isFree rfl rfl (c_M_isFree (nearT (σ' 96) t) n nm yr hN (by rw [e96]; exact h1) hn) rfl rfl rfl rfl rfl rfl rfl rfl ?_
      rintro x τ ⟨rfl, rfl⟩
      rw [e96]
      have hg : freeR (σ' 96) n t nm yr = bi (freeG (nearT (σ' 96) t) (σ' 96) n nm yr) := by rw [freeR, bi_ne0.mp k1, bi_ne0.mp k2]; rfl
      refine hG.br rfl rfl rfl rfl (fun k3 => ?_) (fun k3 => ?_)
      · refine hG.rt hR rfl rfl rfl rfl ?_
        exact ⟨by rw [hg, bi_eq0.mp k3]; rfl, hS⟩
      · refine hG.rt hR rfl rfl rfl rfl ?_
        exact ⟨by rw [hg, bi_ne0.mp k3]; rfl, hS⟩
    · exact bad (by rw [bi_eq0.mp k2]; simp)
theorem o_M_frees (w : Int32) (hf : FOk (σ 96) n c t y) : Ci l θ 6 m_M_frees [.inr 95, .inl w] σ (fun r σ' => r = freesR (σ 96) n t w ∧ Sm [99, 109, 110] σ σ') := by
  obtain ⟨h1, hn, h4, hc, h5, ht, h2, h2y, hT, hW⟩ := hf
  refine Ci.of (Or.inl mi_M_frees) pk_M_frees (nb rfl) (Or.inl rfl) [some (.inr 95), some (.inl w)] rfl fun Γ hG hR => ?_
  refine hG.cS lk_M_84 mi_M_in rfl rfl (c_M_in w 0 1) rfl rfl rfl rfl rfl rfl ?_
  rintro x σ' ⟨rfl, rfl⟩
  refine hG.br rfl rfl rfl rfl (fun k1 => ?_) (fun k1 => ?_)
  · refine hG.cVv lk_M_137 mi_M_findNears rfl rfl (c_M_findNears t h5 ht hT) rfl rfl rfl rfl rfl rfl rfl rfl ?_
    rintro τ ⟨hS, hN⟩
    have e96 : τ 96 = σ' 96 := hS 96 (by decide)
    refine hG.br rfl rfl rfl rfl (fun k2 => ?_) (fun k2 => ?_)
    · refine hG.cV lk_M_154 mi_M_leastFree rfl rfl (c_M_leastFree (nearT (σ' 96) t) n hN (by rw [e96]; exact h1) hn) rfl rfl rfl rfl rfl rfl rfl rfl ?_
      rintro x τ ⟨rfl, rfl⟩
      refine hG.rt hR rfl rfl rfl rfl ?_
      exact ⟨by rw [freesR, bi_ne0.mp k1, if_pos rfl, if_neg k2, leastF, e96], hS⟩
    · refine hG.cV lk_M_151 mi_M_freeMany rfl rfl (c_M_freeMany (nearT (σ' 96) t) n hN (by rw [e96]; exact h1) hn) rfl rfl rfl rfl rfl rfl rfl rfl ?_
      rintro x τ ⟨rfl, rfl⟩
      refine hG.rt hR rfl rfl rfl rfl ?_
      exact ⟨by rw [freesR, bi_ne0.mp k1, if_pos rfl, if_pos k2, manyF, e96], hS⟩
  · refine hG.rt hR rfl rfl rfl rfl ?_
    exact ⟨by rw [freesR, bi_eq0.mp k1]; rfl, Sm.rf⟩
theorem o_M_soonest (nm : Int32) (hf : FOk (σ 96) n c t y) : Ci l θ 6 m_M_soonest [.inr 95, .inl nm] σ (fun r σ' => r = soonR (σ 96) n t y nm ∧ Sm [99, 109, 110] σ σ') := by
  obtain ⟨h1, hn, h4, hc, h5, ht, h2, h2y, hT, hW⟩ := hf
  refine Ci.of (Or.inl mi_M_soonest) pk_M_soonest (nb rfl) (Or.inl rfl) [some (.inr 95), some (.inl nm), none] rfl fun Γ hG hR => ?_
  refine hG.cS lk_M_93 mi_M_isCalled rfl rfl (c_M_isCalled nm) rfl rfl rfl rfl rfl rfl ?_
  rintro x σ' ⟨rfl, rfl⟩
  refine hG.br rfl rfl rfl rfl (fun k1 => ?_) (fun k1 => ?_)
  · refine hG.cVv lk_M_137 mi_M_findNears rfl rfl (c_M_findNears t h5 ht hT) rfl rfl rfl rfl rfl rfl rfl rfl ?_
    rintro τ ⟨hS, hN⟩
    have e96 : τ 96 = σ' 96 := hS 96 (by decide)
    have hg : soonR (σ' 96) n t y nm = match fndB (fun a => freeG (nearT (σ' 96) t) (σ' 96) n nm (nI (y + a))) 0 301 with
        | none => -1000000005
        | some a => nI (y + a) := by rw [soonR, bi_ne0.mp k1]; rfl
    have loop : ∀ m a, a + m = 301 → fndB (fun a => freeG (nearT (σ' 96) t) (σ' 96) n nm (nI (y + a))) 0 301 = fndB (fun a => freeG (nearT (σ' 96) t) (σ' 96) n nm (nI (y + a))) a m → X Γ 21 [some (.inr 95), some (.inl nm), some (.inl (nI (y + a)))] [] τ := by
      intro m
      induction m with
      | zero =>
        intro a ha he
        refine hG.ld rfl 2 rfl rfl rfl rfl rfl (by decide) ?_
        rw [e96, h2]
        refine hG.br rfl rfl rfl rfl (fun k2 => ?_) (fun k2 => ?_)
        · refine hG.rt hR rfl rfl rfl rfl ?_
          exact ⟨by rw [hg, he]; rfl, hS⟩
        · exact absurd (show nI y + 300 < nI (y + a) by rw [show nI y + 300 = nI (y + 300) from nI_add y 300]; exact nI_lt (show y + 300 < y + a by omega) (by omega)) k2
      | succ m ih =>
        intro a ha he
        rw [fndB_s _ _ m] at he
        refine hG.ld rfl 2 rfl rfl rfl rfl rfl (by decide) ?_
        rw [e96, h2]
        refine hG.br rfl rfl rfl rfl (fun k2 => ?_) (fun k2 => ?_)
        · rw [show nI y + 300 = nI (y + 300) from nI_add y 300] at k2; exact absurd k2 (nI_nlt (show y + a ≤ y + 300 by omega) (by omega))
        · refine hG.cV lk_M_148 mi_M_isFree rfl rfl (c_M_isFree (nearT (σ' 96) t) n nm (nI (y + a)) hN (by rw [e96]; exact h1) hn) rfl rfl rfl rfl rfl rfl rfl rfl ?_
          rintro x τ ⟨rfl, rfl⟩
          rw [e96]
          refine hG.br rfl rfl rfl rfl (fun k3 => ?_) (fun k3 => ?_)
          · refine hG.jp rfl rfl rfl ?_
            rw [nI_1]
            exact ih (a + 1) (by omega) (by rw [he, bi_eq0.mp k3]; rfl)
          · refine hG.rt hR rfl rfl rfl rfl ?_
            exact ⟨by rw [hg, he, bi_ne0.mp k3]; rfl, hS⟩
    refine hG.ld rfl 2 rfl rfl rfl rfl rfl (by decide) ?_
    rw [e96, h2]
    exact hG.go 1 rfl rfl (loop 301 0 rfl rfl)
  · refine hG.rt hR rfl rfl rfl rfl ?_
    exact ⟨by rw [soonR, bi_eq0.mp k1]; rfl, Sm.rf⟩
theorem o_M_child (a b : Int32) (hf : FOk (σ 96) n c t y) : Ci l θ 5 m_M_child [.inr 95, .inl a, .inl b] σ (fun r σ' => r = (chldF (σ 96) c a b).1 ∧ σ' = upc σ 96 (chldF (σ 96) c a b).2) := by
  obtain ⟨h1, hn, h4, hc, h5, ht, h2, h2y, hT, hW⟩ := hf
  refine Ci.of (Or.inl mi_M_child) pk_M_child (nb rfl) (Or.inl rfl) [some (.inr 95), some (.inl a), some (.inl b)] rfl fun Γ hG hR => ?_
  have bad : (inB a 0 124 && inB b 0 124) = false → X Γ 14 [some (.inr 95), some (.inl a), some (.inl b)] [] σ := by
    intro hb
    refine hG.rt hR rfl rfl rfl rfl ?_
    exact ⟨by rw [chldF, hb]; rfl, by rw [chldF, hb]; exact (upc_self σ 96).symm⟩
  refine hG.cS lk_M_93 mi_M_isCalled rfl rfl (c_M_isCalled a) rfl rfl rfl rfl rfl rfl ?_
  rintro x σ' ⟨rfl, rfl⟩
  refine hG.br rfl rfl rfl rfl (fun k1 => ?_) (fun k1 => ?_)
  · exact bad (by rw [bi_eq0.mp k1]; rfl)
  · refine hG.cS lk_M_93 mi_M_isCalled rfl rfl (c_M_isCalled b) rfl rfl rfl rfl rfl rfl ?_
    rintro x σ' ⟨rfl, rfl⟩
    refine hG.br rfl rfl rfl rfl (fun k2 => ?_) (fun k2 => ?_)
    · have hg : chldF (σ' 96) c a b = if c = 6 then (-1000000003, σ' 96) else (nI c, upd (upd (upd (σ' 96) (6 + 2 * c) a) (6 + 2 * c + 1) b) 4 (nI (c + 1))) := by rw [chldF, bi_ne0.mp k1, bi_ne0.mp k2, Bool.and_self, if_pos rfl]
      refine hG.ld rfl 4 rfl rfl rfl rfl rfl (by decide) ?_
      rw [h4]
      refine hG.br rfl rfl rfl rfl (fun k3 => ?_) (fun k3 => ?_)
      · have hc6 : c ≠ 6 := fun e => k3 (by rw [e]; rfl)
        refine hG.ld rfl 4 rfl rfl rfl rfl rfl (by decide) ?_
        rw [h4]
        refine hG.sti rfl (6 + 2 * c) rfl rfl rfl (by simp only [lit_nI, pk_mul, nI_add, nI_1]; first | done | rfl | (congr 1; omega)) (by omega) ?_
        refine hG.ld rfl 4 rfl rfl rfl rfl rfl (by decide) ?_
        rw [up_same, upd_ne (show 4 ≠ 6 + 2 * c by omega), h4]
        refine hG.sti rfl (6 + 2 * c + 1) rfl rfl rfl (by simp only [lit_nI, pk_mul, nI_add, nI_1]; first | done | rfl | (congr 1; omega)) (by omega) ?_
        refine hG.ld rfl 4 rfl rfl rfl rfl rfl (by decide) ?_
        refine hG.sti rfl 4 rfl rfl rfl rfl (by decide) ?_
        refine hG.ld rfl 4 rfl rfl rfl rfl rfl (by decide) ?_
        refine hG.rt hR rfl rfl rfl rfl ?_
        rw [hg, if_neg hc6]
        have e : up (up σ' 96 (6 + 2 * c) a) 96 (6 + 2 * c + 1) b = upc σ' 96 (upd (upd (σ' 96) (6 + 2 * c) a) (6 + 2 * c + 1) b) := by
          rw [show up σ' 96 (6 + 2 * c) a = upc σ' 96 (upd (σ' 96) (6 + 2 * c) a) from rfl, up_upc]
        rw [e, up_upc, upc_same, upc_same, upd_same, upd_ne (show 4 ≠ 6 + 2 * c + 1 by omega), upd_ne (show 4 ≠ 6 + 2 * c by omega), h4, nI_1]
        exact ⟨nI_pred c, rfl⟩
      · have hc6 : c = 6 := (nI_eq (by omega) (by omega)).mp (show nI c = nI 6 from k3)
        refine hG.rt hR rfl rfl rfl rfl ?_
        rw [hg, if_pos hc6]
        exact ⟨rfl, (upc_self σ' 96).symm⟩
    · exact bad (by rw [bi_eq0.mp k2]; simp)
theorem o_M_yields (p : Int32) (hf : FOk (σ 96) n c t y) : Ci l θ 6 m_M_yields [.inr 95, .inl p] σ (fun r σ' => r = yldR (σ 96) n t p ∧ Sm [99, 109, 110] σ σ') := by
  obtain ⟨h1, hn, h4, hc, h5, ht, h2, h2y, hT, hW⟩ := hf
  refine Ci.of (Or.inl mi_M_yields) pk_M_yields (nb rfl) (Or.inl rfl) [some (.inr 95), some (.inl p), none, none] rfl fun Γ hG hR => ?_
  refine hG.cV lk_M_106 mi_M_isOne rfl rfl (c_M_isOne p) rfl rfl rfl rfl rfl rfl rfl rfl ?_
  rintro x σ' ⟨rfl, rfl⟩
  rw [h1]
  refine hG.br rfl rfl rfl rfl (fun k1 => ?_) (fun k1 => ?_)
  · obtain ⟨P, hP, rfl⟩ := (inB_one hn).mp (bi_ne0.mp k1)
    refine hG.cVv lk_M_137 mi_M_findNears rfl rfl (c_M_findNears t h5 ht hT) rfl rfl rfl rfl rfl rfl rfl rfl ?_
    rintro τ ⟨hS, hN⟩
    have e96 : τ 96 = σ' 96 := hS 96 (by decide)
    have hg : yldR (σ' 96) n t (nI P) = yldS (fun q => decide (¬ q = P) && aliveF (σ' 96) q && nearT (σ' 96) t (nrIx (σ' 96 (18 + 4 * P + 1)) (σ' 96 (18 + 4 * q + 1)))) 0 n 0 := by rw [yldR, bi_ne0.mp k1, nI_clamp (by omega)]; rfl
    generalize hPq : (fun q => decide (¬ q = P) && aliveF (σ' 96) q && nearT (σ' 96) t (nrIx (σ' 96 (18 + 4 * P + 1)) (σ' 96 (18 + 4 * q + 1)))) = PB at hg
    have loop : ∀ m q a, q + m = n → yldR (σ' 96) n t (nI P) = yldS PB q m a → X Γ 19 [some (.inr 95), some (.inl (nI P)), some (.inl a), some (.inl (nI q))] [] τ := by
      intro m
      induction m with
      | zero =>
        intro q a hq he
        have hq : q = n := by omega
        subst hq
        refine hG.ld rfl 1 rfl rfl rfl rfl rfl (by decide) ?_
        rw [e96, h1]
        refine hG.br rfl rfl rfl rfl (fun k2 => ?_) (fun k2 => ?_)
        · refine hG.rt hR rfl rfl rfl rfl ?_
          exact ⟨by rw [he]; rfl, hS⟩
        · exact absurd (nI_le (Nat.le_refl _) (by omega)) k2
      | succ m ih =>
        intro q a hq he
        have he : yldR (σ' 96) n t (nI P) = yldS PB (q + 1) m (a ||| if PB q then (1 : Int32) <<< (nI q &&& 31) else 0) := he
        have j69 : X Γ 69 [some (.inr 95), some (.inl (nI P)), some (.inl a), some (.inl (nI q))] [.inl (if PB q then (1 : Int32) <<< (nI q &&& 31) else 0), .inl a] τ := by
          refine hG.jp rfl rfl rfl ?_
          rw [nI_1]
          exact ih (q + 1) _ (by omega) he
        have hPB : PB q = (decide (¬ q = P) && aliveF (σ' 96) q && nearT (σ' 96) t (nrIx (σ' 96 (18 + 4 * P + 1)) (σ' 96 (18 + 4 * q + 1)))) := by rw [← hPq]
        refine hG.ld rfl 1 rfl rfl rfl rfl rfl (by decide) ?_
        rw [e96, h1]
        refine hG.br rfl rfl rfl rfl (fun k2 => ?_) (fun k2 => ?_)
        · exact absurd k2 (nI_ge (by omega) (by omega))
        · refine hG.br rfl rfl rfl rfl (fun k3 => ?_) (fun k3 => ?_)
          · have e : PB q = false := by rw [hPB, decide_eq_false (fun h => h ((nI_eq (by omega) (by omega)).mp k3))]; rfl
            rw [e] at j69
            exact hG.go 1 rfl rfl j69
          · have hne : ¬ q = P := fun e => k3 (by rw [e])
            refine hG.cV lk_M_103 mi_M_isAlive rfl rfl (c_M_isAlive q (by omega)) rfl rfl rfl rfl rfl rfl rfl rfl ?_
            rintro x τ ⟨rfl, rfl⟩
            rw [e96]
            refine hG.br rfl rfl rfl rfl (fun k4 => ?_) (fun k4 => ?_)
            · have e : PB q = false := by rw [hPB, bi_eq0.mp k4]; simp
              rw [e] at j69
              exact hG.go 1 rfl rfl j69
            · refine hG.cV lk_M_88 mi_M_of rfl rfl (c_M_of P 1 (by omega)) rfl rfl rfl rfl rfl rfl rfl rfl ?_
              rintro x τ ⟨rfl, rfl⟩
              refine hG.cV lk_M_88 mi_M_of rfl rfl (c_M_of q 1 (by omega)) rfl rfl rfl rfl rfl rfl rfl rfl ?_
              rintro x τ ⟨rfl, rfl⟩
              rw [e96]
              refine hG.cV lk_M_140 mi_M_areNear rfl rfl (c_M_areNear (nearT (σ' 96) t) _ _ hN) rfl rfl rfl rfl rfl rfl rfl rfl ?_
              rintro x τ ⟨rfl, rfl⟩
              refine hG.br rfl rfl rfl rfl (fun k5 => ?_) (fun k5 => ?_)
              · have e : PB q = false := by rw [hPB, bi_eq0.mp k5]; simp
                rw [e] at j69
                exact hG.go 1 rfl rfl j69
              · have e : PB q = true := by rw [hPB, bi_ne0.mp k5, bi_ne0.mp k4]; simp [hne]
                rw [e] at j69
                exact hG.go 4 rfl rfl j69
    exact hG.go 4 rfl rfl (loop n 0 0 (by omega) hg)
  · refine hG.rt hR rfl rfl rfl rfl ?_
    exact ⟨by rw [yldR, bi_eq0.mp k1]; rfl, Sm.rf⟩
end
end
section
section
variable {l : Launch} {θ : Th} {σ : Sg} {n c t y : Nat}
theorem o_M_deal (k : Int32) (hf : FOk (σ 96) n c t y) : Ci l θ 6 m_M_deal [.inr 95, .inl k] σ (fun r σ' => r = (dealF (σ 96) n k).1 ∧ σ' = upc σ 96 (dealF (σ 96) n k).2) := by
  obtain ⟨h1, hn, h4, hc, h5, ht, h2, h2y, hT, hW⟩ := hf
  refine Ci.of (Or.inl mi_M_deal) pk_M_deal (nb rfl) (Or.inl rfl) [some (.inr 95), some (.inl k), none, none, none, none] rfl fun Γ hG hR => ?_
  refine hG.cS lk_M_84 mi_M_in rfl rfl (c_M_in k 1 10) rfl rfl rfl rfl rfl rfl ?_
  rintro x σ' ⟨rfl, rfl⟩
  refine hG.br rfl rfl rfl rfl (fun k1 => ?_) (fun k1 => ?_)
  · obtain ⟨K, hK1, hK2, rfl⟩ := inB_ab 1 10 (by omega) (by omega) (bi_ne0.mp k1)
    have hg : dealF (σ' 96) n (nI K) = (nI (min K (10 - n)), dealL (σ' 96) n (min K (10 - n))) := by rw [dealF, bi_ne0.mp k1, if_pos rfl, nI_clamp (by omega)]
    have loop : ∀ m j, j + m = min K (10 - n) → ∀ (τ : Sg) (w3 w4 w5 : Option AV), τ = upc σ' 96 (τ 96) → τ 96 1 = nI (n + j) → dealL (σ' 96) n (min K (10 - n)) = dealL (τ 96) (n + j) m → X Γ 15 [some (.inr 95), some (.inl (nI K)), some (.inl (nI j)), w3, w4, w5] [] τ := by
      intro m
      induction m with
      | zero =>
        intro j hj τ w3 w4 w5 hτ hp he
        have fin : X Γ 77 [some (.inr 95), some (.inl (nI K)), some (.inl (nI j)), w3, w4, w5] [] τ := by
          refine hG.rt hR rfl rfl rfl rfl ?_
          rw [hg]
          refine ⟨by rw [show j = min K (10 - n) by omega], ?_⟩
          dsimp only
          rw [he]
          exact hτ
        refine hG.br rfl rfl rfl rfl (fun k2 => ?_) (fun k2 => ?_)
        · exact fin
        · refine hG.ld rfl 1 rfl rfl rfl rfl rfl (by decide) ?_
          rw [hp]
          refine hG.br rfl rfl rfl rfl (fun k3 => ?_) (fun k3 => ?_)
          · exact fin
          · exfalso
            have q1 : ¬ K ≤ j := fun q => k2 (nI_le q (by omega))
            have q2 : ¬ 10 ≤ n + j := fun q => k3 (show nI 10 ≤ nI (n + j) from nI_le q (by omega))
            omega
      | succ m ih =>
        intro j hj τ w3 w4 w5 hτ hp he
        refine hG.br rfl rfl rfl rfl (fun k2 => ?_) (fun k2 => ?_)
        · exact absurd k2 (nI_ge (by omega) (by omega))
        · refine hG.ld rfl 1 rfl rfl rfl rfl rfl (by decide) ?_
          rw [hp]
          refine hG.br rfl rfl rfl rfl (fun k3 => ?_) (fun k3 => ?_)
          · exact absurd (show nI 10 ≤ nI (n + j) from k3) (nI_ge (by omega) (by omega))
          · refine hG.cV lk_M_144 mi_M_draw rfl rfl c_M_draw rfl rfl rfl rfl rfl rfl rfl rfl ?_
            rintro x τ1 ⟨rfl, rfl⟩
            refine hG.rm rfl rfl rfl (by decide) ?_
            refine hG.cV lk_M_144 mi_M_draw rfl rfl c_M_draw rfl rfl rfl rfl rfl rfl rfl rfl ?_
            rintro x τ1 ⟨rfl, rfl⟩
            refine hG.rm rfl rfl rfl (by decide) ?_
            refine hG.ld rfl 2 rfl rfl rfl rfl rfl (by decide) ?_
            refine hG.cV lk_M_144 mi_M_draw rfl rfl c_M_draw rfl rfl rfl rfl rfl rfl rfl rfl ?_
            rintro x τ1 ⟨rfl, rfl⟩
            refine hG.rm rfl rfl rfl (by decide) ?_
            have e : up (up (up τ 96 0 (τ 96 0 * 1103515245 + 12345)) 96 0 (up τ 96 0 (τ 96 0 * 1103515245 + 12345) 96 0 * 1103515245 + 12345)) 96 0 (up (up τ 96 0 (τ 96 0 * 1103515245 + 12345)) 96 0 (up τ 96 0 (τ 96 0 * 1103515245 + 12345) 96 0 * 1103515245 + 12345) 96 0 * 1103515245 + 12345) = upc τ 96 (upd (τ 96) 0 (drawZ (drawZ (drawZ (τ 96 0))))) := by
              rw [up_self, up_self]
              rw [show up τ 96 0 (τ 96 0 * 1103515245 + 12345) = upc τ 96 (upd (τ 96) 0 (drawZ (τ 96 0))) from rfl, up_upc, up_upc, upd_upd, upd_upd]
              rfl
            rw [e, up_self, up_self, up_j _ _ _ _ (by decide), up_j _ _ _ _ (by decide)]
            refine hG.cV lk_M_99 mi_M_comes rfl rfl (c_M_comes (n + j) _ _ _ (by omega) (by rw [upc_same, upd_ne (by decide)]; exact hp)) rfl rfl rfl rfl rfl rfl rfl rfl ?_
            rintro x τ1 ⟨rfl, rfl⟩
            refine hG.jp rfl rfl rfl ?_
            rw [nI_1, upc_upc, upc_same]
            refine ih (j + 1) (by omega) _ _ _ _ ?_ ?_ ?_
            · rw [upc_same]
              exact (congrArg (fun z => upc z 96 _) hτ).trans (upc_upc _ _ _ _)
            · rw [upc_same, comesF, upd_same]; rfl
            · rw [he, upc_same]; rfl
    exact hG.go 2 rfl rfl (loop (min K (10 - n)) 0 (by omega) σ' none none none (upc_self σ' 96).symm h1 rfl)
  · refine hG.rt hR rfl rfl rfl rfl ?_
    rw [dealF, bi_eq0.mp k1]
    exact ⟨rfl, (upc_self σ' 96).symm⟩
theorem c_M_diesBy (p : Nat) (hp : p < 10) (h5 : σ 96 5 = nI t) (ht : t ≤ 14) (hT : TxsOk (σ 96) t) : Ci l θ 4 m_M_diesBy [.inr 95, .inl (nI p)] σ (fun r σ' => r = diesF (σ 96) t p ∧ Sm [109, 110] σ σ') := by
  refine Ci.of (Or.inl mi_M_diesBy) pk_M_diesBy (nb rfl) (Or.inl rfl) [some (.inr 95), some (.inl (nI p)), none, none] rfl fun Γ hG hR => ?_
  refine hG.ld rfl 2 rfl rfl rfl rfl rfl (by decide) ?_
  refine hG.cV lk_M_88 mi_M_of rfl rfl (c_M_of p 2 (by omega)) rfl rfl rfl rfl rfl rfl rfl rfl ?_
  rintro x σ' ⟨rfl, rfl⟩
  refine hG.cV lk_M_131 mi_M_counts rfl rfl (c_M_counts 1 t h5 ht) rfl rfl rfl rfl rfl rfl rfl rfl ?_
  rintro x σ' ⟨rfl, rfl⟩
  refine hG.sti rfl 0 rfl rfl rfl rfl (by decide) ?_
  refine hG.cV lk_M_88 mi_M_of rfl rfl (c_M_of p 0 (by omega)) rfl rfl rfl rfl rfl rfl rfl rfl ?_
  rintro x τ ⟨rfl, rfl⟩
  rw [up_c _ _ _ _ (show 96 ≠ 110 by decide), show 18 + 4 * p + 0 = 18 + 4 * p from rfl]
  refine hG.sti rfl 1 rfl rfl rfl rfl (by decide) ?_
  generalize hτ : up (up σ' 110 0 (σ' 96 2 - σ' 96 (18 + 4 * p + 2))) 110 1 (σ' 96 (18 + 4 * p)) = τ
  have hS : Sm [109, 110] σ' τ := by rw [← hτ]; exact (Sm.rf.up (by decide)).up (by decide)
  have e110 : ∀ j, j < 2 → τ 110 j = fa3 (σ' 96 2 - σ' 96 (18 + 4 * p + 2)) (σ' 96 (18 + 4 * p)) 0 j := by
    intro j hj
    rw [← hτ]
    simp only [up_same, upd, fa3]
    rcases (show j = 0 ∨ j = 1 by omega) with rfl | rfl <;> simp
  have e96 : τ 96 = σ' 96 := hS 96 (by decide)
  cases hc : cntO (σ' 96) 1 t with
  | none =>
    refine hG.br rfl rfl rfl rfl (fun k1 => ?_) (fun k1 => ?_)
    · exact absurd k1 (by decide)
    · refine hG.dv rfl rfl rfl (by decide) ?_
      refine hG.rt hR rfl rfl rfl rfl ?_
      exact ⟨by rw [diesF, hc], hS⟩
  | some i =>
    obtain ⟨hi, ln, htx⟩ := cntO_ok (k := 1) hT (by omega) hc
    refine hG.br rfl rfl rfl rfl (fun k1 => ?_) (fun k1 => ?_)
    · refine hG.cV lk_M_134 mi_M_worksOut rfl rfl (c_M_worksOut i 1 ln (by omega) (by rw [e96]; exact htx)) rfl rfl rfl rfl rfl rfl rfl rfl ?_
      rintro x τ2 ⟨hS2, rfl⟩
      rw [e96, evl_congr htx.2.2 (by decide) e110 ln (Nat.le_refl _)]
      refine hG.cS lk_M_174 mi_M_within rfl rfl (c_M_within _ 0 100) rfl rfl rfl rfl rfl rfl ?_
      rintro x τ3 ⟨rfl, rfl⟩
      refine hG.rt hR rfl rfl rfl rfl ?_
      exact ⟨by rw [diesF, hc]; dsimp only; rw [evT_eq htx], hS.tr (hS2.mono (by decide))⟩
    · exact absurd (show 0 ≤ nI i from nI_pos' (by omega)) k1
theorem c_M_year (h1 : σ 96 1 = nI n) (hn : n ≤ 10) (h5 : σ 96 5 = nI t) (ht : t ≤ 14) (hT : TxsOk (σ 96) t) : Ci l θ 5 m_M_year [.inr 95] σ (fun r σ' => r = nI (yearF (σ 96) n t).2 ∧ σ' 96 = (yearF (σ 96) n t).1 ∧ Sm [96, 109, 110] σ σ') := by
  refine Ci.of (Or.inl mi_M_year) pk_M_year (nb rfl) (Or.inl rfl) [some (.inr 95), none, none] rfl fun Γ hG hR => ?_
  have loop : ∀ m p d, p + m = n → ∀ τ : Sg, Sm [96, 109, 110] σ τ → τ 96 1 = nI n → τ 96 5 = nI t → TxsOk (τ 96) t → yrL (σ 96) t 0 n 0 = yrL (τ 96) t p m d → X Γ 4 [some (.inr 95), some (.inl (nI d)), some (.inl (nI p))] [] τ := by
    intro m
    induction m with
    | zero =>
      intro p d hp τ hS g1 g5 gT he
      have hp : p = n := by omega
      subst hp
      refine hG.ld rfl 1 rfl rfl rfl rfl rfl (by decide) ?_
      rw [g1]
      refine hG.br rfl rfl rfl rfl (fun k1 => ?_) (fun k1 => ?_)
      · refine hG.ld rfl 2 rfl rfl rfl rfl rfl (by decide) ?_
        refine hG.sti rfl 2 rfl rfl rfl rfl (by decide) ?_
        refine hG.rt hR rfl rfl rfl rfl ?_
        rw [up_same]
        refine ⟨?_, ?_, hS.up (by decide)⟩
        · rw [yearF, he]; rfl
        · rw [yearF, he]; rfl
      · exact absurd (nI_le (Nat.le_refl _) (by omega)) k1
    | succ m ih =>
      intro p d hp τ hS g1 g5 gT he
      have he : yrL (σ 96) t 0 n 0 = yrL (yrS (τ 96) t p d).1 t (p + 1) m (yrS (τ 96) t p d).2 := he
      refine hG.ld rfl 1 rfl rfl rfl rfl rfl (by decide) ?_
      rw [g1]
      refine hG.br rfl rfl rfl rfl (fun k1 => ?_) (fun k1 => ?_)
      · exact absurd k1 (nI_ge (by omega) (by omega))
      · refine hG.cV lk_M_103 mi_M_isAlive rfl rfl (c_M_isAlive p (by omega)) rfl rfl rfl rfl rfl rfl rfl rfl ?_
        rintro x τ ⟨rfl, rfl⟩
        refine hG.br rfl rfl rfl rfl (fun k2 => ?_) (fun k2 => ?_)
        · refine hG.jp rfl rfl rfl ?_
          rw [nI_1]
          rw [yrS, bi_eq0.mp k2] at he
          exact ih (p + 1) d (by omega) τ hS g1 g5 gT he
        · rw [yrS, bi_ne0.mp k2, if_pos rfl] at he
          refine hG.cV lk_M_144 mi_M_draw rfl rfl c_M_draw rfl rfl rfl rfl rfl rfl rfl rfl ?_
          rintro x τ1 ⟨rfl, rfl⟩
          refine hG.rm rfl rfl rfl (by decide) ?_
          have e96 : up τ 96 0 (τ 96 0 * 1103515245 + 12345) 96 = upd (τ 96) 0 (drawZ (τ 96 0)) := by rw [up_same]; rfl
          have hTu : TxsOk (upd (τ 96) 0 (drawZ (τ 96 0))) t := TxsOk_congr gT (fun j hj => upd_ne (by omega))
          refine hG.cV lk_M_177 mi_M_diesBy rfl rfl (c_M_diesBy (t := t) p (by omega) (by rw [e96, upd_ne (by decide)]; exact g5) ht (by rw [e96]; exact hTu)) rfl rfl rfl rfl rfl rfl rfl rfl ?_
          rintro x τ1 ⟨rfl, hS1⟩
          rw [e96]
          have e961 : τ1 96 = upd (τ 96) 0 (drawZ (τ 96 0)) := by rw [hS1 96 (by decide), e96]
          have hS2 : Sm [96, 109, 110] σ τ1 := (hS.up (by decide)).tr (hS1.mono (by decide))
          refine hG.br rfl rfl rfl rfl (fun k3 => ?_) (fun k3 => ?_)
          · rw [if_neg (show ¬ rmI (drawV (drawZ (τ 96 0))) 100 < diesF (upd (τ 96) 0 (drawZ (τ 96 0))) t p from i32_nlt.mpr k3)] at he
            refine hG.jp rfl rfl rfl ?_
            rw [nI_1]
            exact ih (p + 1) d (by omega) τ1 hS2 (by rw [e961, upd_ne (by decide)]; exact g1) (by rw [e961, upd_ne (by decide)]; exact g5) (by rw [e961]; exact hTu) (by rw [e961]; exact he)
          · rw [if_pos (show rmI (drawV (drawZ (τ 96 0))) 100 < diesF (upd (τ 96) 0 (drawZ (τ 96 0))) t p from i32_nle.mp k3)] at he
            refine hG.ld rfl 2 rfl rfl rfl rfl rfl (by decide) ?_
            refine hG.sti rfl (18 + 4 * p + 3) rfl rfl rfl (by simp only [lit_nI, pk_mul, nI_add, nI_1]; first | done | rfl | (congr 1; omega)) (by omega) ?_
            refine hG.jp rfl rfl rfl ?_
            rw [nI_1, nI_1, e961, upd_ne (show 2 ≠ 0 by decide)]
            have e962 : up τ1 96 (18 + 4 * p + 3) (τ 96 2) 96 = upd (upd (τ 96) 0 (drawZ (τ 96 0))) (18 + 4 * p + 3) (τ 96 2) := by rw [up_same, e961]
            exact ih (p + 1) (d + 1) (by omega) _ (hS2.up (by decide)) (by rw [e962, upd_ne (by omega), upd_ne (by decide)]; exact g1) (by rw [e962, upd_ne (by omega), upd_ne (by decide)]; exact g5) (by rw [e962]; exact TxsOk_congr hTu (fun j hj => upd_ne (by omega))) (by rw [e962]; exact he)
  exact hG.go 4 rfl rfl (loop n 0 0 (by omega) σ Sm.rf h1 h5 hT rfl)
theorem c_M_yearF (hf : FOk (σ 96) n c t y) : Ci l θ 5 m_M_year [.inr 95] σ (fun r σ' => r = nI (yearF (σ 96) n t).2 ∧ σ' 96 = (yearF (σ 96) n t).1 ∧ Sm [96, 109, 110] σ σ') := by
  obtain ⟨h1, hn, h4, hc, h5, ht, h2, h2y, hT, hW⟩ := hf
  exact c_M_year h1 hn h5 ht hT
theorem o_M_years (k : Int32) (hf : FOk (σ 96) n c t y) (hy : y ≤ 9999) : Ci l θ 6 m_M_years [.inr 95, .inl k] σ (fun r σ' => r = (yrsF (σ 96) n t y k).1 ∧ σ' 96 = (yrsF (σ 96) n t y k).2 ∧ Sm [96, 109, 110] σ σ') := by
  refine Ci.of (Or.inl mi_M_years) pk_M_years (nb rfl) (Or.inl rfl) [some (.inr 95), some (.inl k), none, none] rfl fun Γ hG hR => ?_
  refine hG.cS lk_M_84 mi_M_in rfl rfl (c_M_in k 1 100) rfl rfl rfl rfl rfl rfl ?_
  rintro x σ' ⟨rfl, rfl⟩
  refine hG.br rfl rfl rfl rfl (fun k1 => ?_) (fun k1 => ?_)
  · obtain ⟨K, hK1, hK2, rfl⟩ := inB_ab 1 100 (by omega) (by omega) (bi_ne0.mp k1)
    have hg : yrsF (σ' 96) n t y (nI K) = (nI (yrsL (σ' 96) n t (min K (9999 - y))).2, (yrsL (σ' 96) n t (min K (9999 - y))).1) := by rw [yrsF, bi_ne0.mp k1, if_pos rfl, nI_clamp (by omega)]
    have loop : ∀ m j s, j + m = min K (9999 - y) → ∀ τ : Sg, Sm [96, 109, 110] σ' τ → FOk (τ 96) n c t (y + j) → (yrsL (σ' 96) n t (min K (9999 - y))).1 = (yrsL (τ 96) n t m).1 → (yrsL (σ' 96) n t (min K (9999 - y))).2 = s + (yrsL (τ 96) n t m).2 → X Γ 17 [some (.inr 95), some (.inl (nI K)), some (.inl (nI s)), some (.inl (nI j))] [] τ := by
      intro m
      induction m with
      | zero =>
        intro j s hj τ hS hF e1 e2
        have fin : X Γ 47 [some (.inr 95), some (.inl (nI K)), some (.inl (nI s)), some (.inl (nI j))] [] τ := by
          refine hG.rt hR rfl rfl rfl rfl ?_
          rw [hg]
          exact ⟨by dsimp only; rw [e2]; rfl, by dsimp only; rw [e1]; rfl, hS⟩
        refine hG.br rfl rfl rfl rfl (fun k2 => ?_) (fun k2 => ?_)
        · exact fin
        · refine hG.ld rfl 2 rfl rfl rfl rfl rfl (by decide) ?_
          rw [hF.2.2.2.2.2.2.1]
          refine hG.br rfl rfl rfl rfl (fun k3 => ?_) (fun k3 => ?_)
          · exact fin
          · exfalso
            have q1 : ¬ K ≤ j := fun q => k2 (nI_le q (by omega))
            have q2 : ¬ 9999 ≤ y + j := fun q => k3 (show nI 9999 ≤ nI (y + j) from nI_le q (by omega))
            omega
      | succ m ih =>
        intro j s hj τ hS hF e1 e2
        refine hG.br rfl rfl rfl rfl (fun k2 => ?_) (fun k2 => ?_)
        · exact absurd k2 (nI_ge (by omega) (by omega))
        · refine hG.ld rfl 2 rfl rfl rfl rfl rfl (by decide) ?_
          rw [hF.2.2.2.2.2.2.1]
          refine hG.br rfl rfl rfl rfl (fun k3 => ?_) (fun k3 => ?_)
          · exact absurd (show nI 9999 ≤ nI (y + j) from k3) (nI_ge (by omega) (by omega))
          · refine hG.cV lk_M_180 mi_M_year rfl rfl (c_M_yearF hF) rfl rfl rfl rfl rfl rfl rfl rfl ?_
            rintro x τ1 ⟨rfl, g1, hS1⟩
            refine hG.jp rfl rfl rfl ?_
            rw [nI_1, nI_add]
            have hF1 := FOk_year hF (by omega)
            exact ih (j + 1) _ (by omega) τ1 (hS.tr hS1) (by rw [g1]; exact hF1) (by rw [e1, g1]; rfl) (by rw [e2, g1, yrsL]; dsimp only; omega)
    exact hG.go 4 rfl rfl (loop (min K (9999 - y)) 0 0 (by omega) σ' Sm.rf hf rfl (by omega))
  · refine hG.rt hR rfl rfl rfl rfl ?_
    rw [yrsF, bi_eq0.mp k1]
    exact ⟨rfl, rfl, Sm.rf⟩
theorem c_M_thinks : Cv l θ 1 m_M_thinks [.inr 95] σ (fun σ' => σ' = upc σ 102 (fun k => if k < 58 then σ 96 k else σ 102 k)) := by
  refine Cv.of (Or.inl mi_M_thinks) pk_M_thinks (nb rfl) rfl [some (.inr 95), none] rfl fun Γ hG hR => ?_
  have loop : ∀ m i, i + m = 58 → X Γ 2 [some (.inr 95), some (.inl (nI i))] [] (upc σ 102 (fun k => if k < i then σ 96 k else σ 102 k)) := by
    intro m
    induction m with
    | zero =>
      intro i hi
      have hi : i = 58 := by omega
      subst hi
      refine hG.br rfl rfl rfl rfl (fun h => ?_) (fun h => ?_)
      · refine hG.rv hR rfl rfl rfl ?_
        rfl
      · exact absurd (show nI 58 ≤ nI 58 from nI_le (Nat.le_refl _) (by omega)) h
    | succ m ih =>
      intro i hi
      refine hG.br rfl rfl rfl rfl (fun h => ?_) (fun h => ?_)
      · exact absurd (show nI 58 ≤ nI i from h) (nI_ge (by omega) (by omega))
      · refine hG.ld rfl i rfl rfl rfl rfl rfl (by omega) ?_
        refine hG.sti rfl i rfl rfl rfl rfl (by omega) ?_
        refine hG.jp rfl rfl rfl ?_
        rw [nI_1, up_upc, upc_c _ _ _ (show 96 ≠ 102 by decide)]
        have e : upd (fun k => if k < i then σ 96 k else σ 102 k) i (σ 96 i) = (fun k => if k < i + 1 then σ 96 k else σ 102 k) := by
          funext k
          simp only [upd]
          by_cases hk : k = i
          · subst hk; simp
          · have : k < i + 1 ↔ k < i := by omega
            simp [hk, this]
        rw [e]
        exact ih (i + 1) (by omega)
  have := loop 58 0 rfl
  simp only [Nat.not_lt_zero, if_false, upc_self] at this
  exact hG.go 2 rfl rfl this
theorem c_M_putsBack : Cv l θ 1 m_M_putsBack [.inr 95] σ (fun σ' => σ' = upc σ 96 (fun k => if k < 58 then σ 102 k else σ 96 k)) := by
  refine Cv.of (Or.inl mi_M_putsBack) pk_M_putsBack (nb rfl) rfl [some (.inr 95), none] rfl fun Γ hG hR => ?_
  have loop : ∀ m i, i + m = 58 → X Γ 2 [some (.inr 95), some (.inl (nI i))] [] (upc σ 96 (fun k => if k < i then σ 102 k else σ 96 k)) := by
    intro m
    induction m with
    | zero =>
      intro i hi
      have hi : i = 58 := by omega
      subst hi
      refine hG.br rfl rfl rfl rfl (fun h => ?_) (fun h => ?_)
      · refine hG.rv hR rfl rfl rfl ?_
        rfl
      · exact absurd (show nI 58 ≤ nI 58 from nI_le (Nat.le_refl _) (by omega)) h
    | succ m ih =>
      intro i hi
      refine hG.br rfl rfl rfl rfl (fun h => ?_) (fun h => ?_)
      · exact absurd (show nI 58 ≤ nI i from h) (nI_ge (by omega) (by omega))
      · refine hG.ld rfl i rfl rfl rfl rfl rfl (by omega) ?_
        refine hG.sti rfl i rfl rfl rfl rfl (by omega) ?_
        refine hG.jp rfl rfl rfl ?_
        rw [nI_1, up_upc, upc_c _ _ _ (show 102 ≠ 96 by decide)]
        have e : upd (fun k => if k < i then σ 102 k else σ 96 k) i (σ 102 i) = (fun k => if k < i + 1 then σ 102 k else σ 96 k) := by
          funext k
          simp only [upd]
          by_cases hk : k = i
          · subst hk; simp
          · have : k < i + 1 ↔ k < i := by omega
            simp [hk, this]
        rw [e]
        exact ih (i + 1) (by omega)
  have := loop 58 0 rfl
  simp only [Nat.not_lt_zero, if_false, upc_self] at this
  exact hG.go 2 rfl rfl this
theorem o_M_fine (hf : FOk (σ 96) n c t y) : Ci l θ 5 m_M_fine [.inr 95] σ (fun r σ' => r = fineR (σ 96) n t ∧ Sm [109, 110] σ σ') := by
  obtain ⟨h1, hn, h4, hc, h5, ht, h2, h2y, hT, hW⟩ := hf
  refine Ci.of (Or.inl mi_M_fine) pk_M_fine (nb rfl) (Or.inl rfl) [some (.inr 95), none] rfl fun Γ hG hR => ?_
  refine hG.cV lk_M_131 mi_M_counts rfl rfl (c_M_counts 2 t h5 ht) rfl rfl rfl rfl rfl rfl rfl rfl ?_
  rintro x σ' ⟨rfl, rfl⟩
  refine hG.ld rfl 2 rfl rfl rfl rfl rfl (by decide) ?_
  refine hG.sti rfl 0 rfl rfl rfl rfl (by decide) ?_
  refine hG.cV lk_M_186 mi_M_aliveMany rfl rfl (c_M_aliveMany n (by rw [up_c _ _ _ _ (show 96 ≠ 110 by decide)]; exact h1) hn) rfl rfl rfl rfl rfl rfl rfl rfl ?_
  rintro x τ ⟨rfl, rfl⟩
  rw [up_c _ _ _ _ (show 96 ≠ 110 by decide)]
  refine hG.sti rfl 1 rfl rfl rfl rfl (by decide) ?_
  generalize hτ : up (up σ' 110 0 (σ' 96 2)) 110 1 (nI (sumB (aliveF (σ' 96)) 0 n)) = τ
  have hS : Sm [109, 110] σ' τ := by rw [← hτ]; exact (Sm.rf.up (by decide)).up (by decide)
  have e110 : ∀ j, j < 2 → τ 110 j = fa3 (σ' 96 2) (nI (sumB (aliveF (σ' 96)) 0 n)) 0 j := by
    intro j hj
    rw [← hτ]
    simp only [up_same, upd, fa3]
    rcases (show j = 0 ∨ j = 1 by omega) with rfl | rfl <;> simp
  have e96 : τ 96 = σ' 96 := hS 96 (by decide)
  cases hc2 : cntO (σ' 96) 2 t with
  | none =>
    refine hG.br rfl rfl rfl rfl (fun k1 => ?_) (fun k1 => ?_)
    · exact absurd k1 (by decide)
    · refine hG.rt hR rfl rfl rfl rfl ?_
      exact ⟨by rw [fineR, hc2], hS⟩
  | some i =>
    obtain ⟨hi, ln, htx⟩ := cntO_ok (k := 2) hT (by omega) hc2
    refine hG.br rfl rfl rfl rfl (fun k1 => ?_) (fun k1 => ?_)
    · refine hG.cV lk_M_134 mi_M_worksOut rfl rfl (c_M_worksOut i 2 ln (by omega) (by rw [e96]; exact htx)) rfl rfl rfl rfl rfl rfl rfl rfl ?_
      rintro x τ2 ⟨hS2, rfl⟩
      rw [e96, evl_congr htx.2.2 (by decide) e110 ln (Nat.le_refl _)]
      refine hG.rt hR rfl rfl rfl rfl ?_
      exact ⟨by rw [fineR, hc2]; dsimp only; rw [evT_eq htx], hS.tr (hS2.mono (by decide))⟩
    · exact absurd (show 0 ≤ nI i from nI_pos' (by omega)) k1
theorem o_M_why (k : Int32) (hf : FOk (σ 96) n c t y) : Ci l θ 5 m_M_why [.inr 95, .inl k] σ (fun r σ' => r = whyR (σ 96) t k ∧ σ' = σ) := by
  obtain ⟨h1, hn, h4, hc, h5, ht, h2, h2y, hT, hW⟩ := hf
  refine Ci.of (Or.inl mi_M_why) pk_M_why (nb rfl) (Or.inl rfl) [some (.inr 95), some (.inl k), none] rfl fun Γ hG hR => ?_
  refine hG.cS lk_M_84 mi_M_in rfl rfl (c_M_in k 0 2) rfl rfl rfl rfl rfl rfl ?_
  rintro x σ' ⟨rfl, rfl⟩
  refine hG.br rfl rfl rfl rfl (fun k1 => ?_) (fun k1 => ?_)
  · refine hG.cV lk_M_131 mi_M_counts rfl rfl (c_M_counts k t h5 ht) rfl rfl rfl rfl rfl rfl rfl rfl ?_
    rintro x σ' ⟨rfl, rfl⟩
    have hg : whyR (σ' 96) t k = optN (-1000000005) (cntO (σ' 96) k t) := by rw [whyR, bi_ne0.mp k1, if_pos rfl]
    cases hcn : cntO (σ' 96) k t with
    | none =>
      refine hG.br rfl rfl rfl rfl (fun k2 => ?_) (fun k2 => ?_)
      · exact absurd k2 (by decide)
      · refine hG.rt hR rfl rfl rfl rfl ?_
        exact ⟨by rw [hg, hcn]; rfl, rfl⟩
    | some i =>
      have hi := (cntO_lt hcn).1
      refine hG.br rfl rfl rfl rfl (fun k2 => ?_) (fun k2 => ?_)
      · refine hG.rt hR rfl rfl rfl rfl ?_
        exact ⟨by rw [hg, hcn]; rfl, rfl⟩
      · exact absurd (show 0 ≤ nI i from nI_pos' (by omega)) k2
  · refine hG.rt hR rfl rfl rfl rfl ?_
    exact ⟨by rw [whyR, bi_eq0.mp k1]; rfl, rfl⟩
theorem o_M_textTold (x w : Int32) (hf : FOk (σ 96) n c t y) : Ci l θ 5 m_M_textTold [.inr 95, .inl x, .inl w] σ (fun r σ' => r = ttlR (σ 96) t x w ∧ σ' = σ) := by
  obtain ⟨h1, hn, h4, hc, h5, ht, h2, h2y, hT, hW⟩ := hf
  refine Ci.of (Or.inl mi_M_textTold) pk_M_textTold (nb rfl) (Or.inl rfl) [some (.inr 95), some (.inl x), some (.inl w)] rfl fun Γ hG hR => ?_
  have bad : (inB x 0 (nI t - 1) && inB w 0 1) = false → X Γ 25 [some (.inr 95), some (.inl x), some (.inl w)] [] σ := by
    intro hb
    refine hG.rt hR rfl rfl rfl rfl ?_
    exact ⟨by rw [ttlR, hb]; rfl, rfl⟩
  refine hG.ld rfl 5 rfl rfl rfl rfl rfl (by decide) ?_
  rw [h5]
  refine hG.cS lk_M_84 mi_M_in rfl rfl (c_M_in x 0 (nI t - 1)) rfl rfl rfl rfl rfl rfl ?_
  rintro z σ' ⟨rfl, rfl⟩
  refine hG.br rfl rfl rfl rfl (fun k1 => ?_) (fun k1 => ?_)
  · exact bad (by rw [bi_eq0.mp k1]; rfl)
  · refine hG.cS lk_M_84 mi_M_in rfl rfl (c_M_in w 0 1) rfl rfl rfl rfl rfl rfl ?_
    rintro z σ' ⟨rfl, rfl⟩
    refine hG.br rfl rfl rfl rfl (fun k2 => ?_) (fun k2 => ?_)
    · obtain ⟨P, hP, rfl⟩ := (inB_lt (by omega)).mp (bi_ne0.mp k1)
      have hg : ttlR (σ' 96) t (nI P) w = if w = 0 then σ' 96 (58 + 2 * P) / 1000 else σ' 96 (58 + 2 * P + 1) := by
        rw [ttlR, bi_ne0.mp k1, bi_ne0.mp k2, nI_clamp (by omega), Bool.and_self, if_pos rfl]
      refine hG.br rfl rfl rfl rfl (fun k3 => ?_) (fun k3 => ?_)
      · refine hG.ld rfl (58 + 2 * P + 1) rfl rfl rfl rfl (by simp only [lit_nI, pk_mul, nI_add, nI_1]; first | done | rfl | (congr 1; omega)) (by omega) ?_
        refine hG.rt hR rfl rfl rfl rfl ?_
        exact ⟨by rw [hg, if_neg k3], rfl⟩
      · refine hG.ld rfl (58 + 2 * P) rfl rfl rfl rfl (by simp only [lit_nI, pk_mul, nI_add, nI_1]; first | done | rfl | (congr 1; omega)) (by omega) ?_
        refine hG.dv rfl rfl rfl (by decide) ?_
        refine hG.rt hR rfl rfl rfl rfl ?_
        exact ⟨by rw [hg, if_pos k3], rfl⟩
    · exact bad (by rw [bi_eq0.mp k2]; simp)
end
end
section
theorem back58 {f g h s : Nat → Int32} (hs : s = fun k => if k < 58 then f k else g k) (hh : ∀ j, 58 ≤ j → h j = f j) : (fun k => if k < 58 then s k else h k) = f := by
  funext k
  subst hs
  by_cases hk : k < 58
  · simp [hk]
  · simp [hk, hh k (by omega)]
theorem Sm.fix {cs : List Nat} {σ τ : Sg} (c0 : Nat) (h : Sm (c0 :: cs) σ τ) (hc : τ c0 = σ c0) : Sm cs σ τ := fun c hcs => by
  by_cases e : c = c0
  · subst e; exact hc
  · exact h c (by simp [e, hcs])
/-- the first place of a row at which a name can't be given -/
def erlB (g : Nat → Bool) (cs : Nat → Int32) (p : Nat) : Bool := !allB (fun k => !(inB (cs k) 0 124 && g (nrIx (cs p) (cs k)))) 0 p
def lineF (f : Nat → Int32) (n t : Nat) (cs : Nat → Int32) (sz : Nat) : Int32 := optN (-1000000005) (fndB (fun k => inB (cs k) 0 124 && (!freeG (nearT f t) f n (cs k) (f 2) || erlB (nearT f t) cs k)) 0 sz)
def SOk (so sz : Nat → Int32) : Prop := ∀ s, s < 4 → (so s = -1 ∨ so s = 0 ∨ so s = 1) ∧ ∃ k, k ≤ 24 ∧ sz s = nI k
def lineR (f so sz ce : Nat → Int32) (n t : Nat) (s : Int32) : Int32 := if inB s 0 3 then (if so s.toNatClampNeg < 0 then -1000000011 else lineF f n t (fun k => ce (24 * s.toNatClampNeg + k)) (sz s.toNatClampNeg).toNatClampNeg) else -1000000001
section
variable {l : Launch} {θ : Th} {σ : Sg} {n c t y : Nat}
theorem o_M_behind (k w : Int32) (hf : FOk (σ 96) n c t y) (hy : y ≤ 9999) : Ci l θ 7 m_M_behind [.inr 95, .inl k, .inl w] σ (fun r σ' => r = behR (σ 96) n t k w ∧ Sm [99, 102, 109, 110] σ σ') := by
  refine Ci.of (Or.inl mi_M_behind) pk_M_behind (nb rfl) (Or.inl rfl) [some (.inr 95), some (.inl k), some (.inl w), none, none] rfl fun Γ hG hR => ?_
  have bad : (inB k 0 100 && inB w 0 2) = false → X Γ 19 [some (.inr 95), some (.inl k), some (.inl w), none, none] [] σ := by
    intro hb
    refine hG.rt hR rfl rfl rfl rfl ?_
    exact ⟨by rw [behR, hb]; rfl, Sm.rf⟩
  refine hG.cS lk_M_84 mi_M_in rfl rfl (c_M_in k 0 100) rfl rfl rfl rfl rfl rfl ?_
  rintro x σ' ⟨rfl, rfl⟩
  refine hG.br rfl rfl rfl rfl (fun k1 => ?_) (fun k1 => ?_)
  · exact bad (by rw [bi_eq0.mp k1]; rfl)
  · refine hG.cS lk_M_84 mi_M_in rfl rfl (c_M_in w 0 2) rfl rfl rfl rfl rfl rfl ?_
    rintro x σ' ⟨rfl, rfl⟩
    refine hG.br rfl rfl rfl rfl (fun k2 => ?_) (fun k2 => ?_)
    · obtain ⟨K, hK1, hK2, rfl⟩ := inB_ab 0 100 (by omega) (by omega) (bi_ne0.mp k1)
      have hg : behR (σ' 96) n t (nI K) w = if w = 0 then manyF (yrsL (σ' 96) n t K).1 n t else if w = 1 then nI (sumB (aliveF (yrsL (σ' 96) n t K).1) 0 n) else leastF (yrsL (σ' 96) n t K).1 n t := by
        rw [behR, bi_ne0.mp k1, bi_ne0.mp k2, nI_clamp (by omega), Bool.and_self, if_pos rfl]
      refine hG.cVv lk_M_183 mi_M_thinks rfl rfl c_M_thinks rfl rfl rfl rfl rfl rfl rfl rfl ?_
      rintro τ0 rfl
      have loop : ∀ m j, j + m = K → ∀ (τ : Sg) (w4 : Option AV), Sm [96, 99, 102, 109, 110] σ' τ → τ 102 = (fun k => if k < 58 then σ' 96 k else σ' 102 k) → FOk (τ 96) n c t (y + j) → (∀ i, 58 ≤ i → τ 96 i = σ' 96 i) → (yrsL (σ' 96) n t K).1 = (yrsL (τ 96) n t m).1 → X Γ 28 [some (.inr 95), some (.inl (nI K)), some (.inl w), some (.inl (nI j)), w4] [] τ := by
        intro m
        induction m with
        | zero =>
          intro j hj τ w4 hS h102 hF hhi he
          have he : (yrsL (σ' 96) n t K).1 = τ 96 := he
          obtain ⟨h1, hn, h4, hc, h5, ht, h2, h2y, hT, hW⟩ := hF
          refine hG.br rfl rfl rfl rfl (fun k3 => ?_) (fun k3 => ?_)
          · refine hG.cVv lk_M_137 mi_M_findNears rfl rfl (c_M_findNears t h5 ht hT) rfl rfl rfl rfl rfl rfl rfl rfl ?_
            rintro τ1 ⟨hS1, hN⟩
            have e96 : τ1 96 = τ 96 := hS1 96 (by decide)
            have fin : ∀ v : Int32, v = behR (σ' 96) n t (nI K) w → X Γ 76 [some (.inr 95), some (.inl (nI K)), some (.inl w), some (.inl (nI j)), w4] [.inl v] τ1 := by
              rintro v rfl
              refine hG.cVv lk_M_189 mi_M_putsBack rfl rfl c_M_putsBack rfl rfl rfl rfl rfl rfl rfl rfl ?_
              rintro τ2 rfl
              refine hG.rt hR rfl rfl rfl rfl ?_
              refine ⟨rfl, Sm.fix 96 ((hS.tr (hS1.mono (by decide))).upc (by decide)) ?_⟩
              rw [upc_same, e96, hS1 102 (by decide)]
              exact back58 h102 hhi
            rw [hg, he] at fin
            refine hG.br rfl rfl rfl rfl (fun k4 => ?_) (fun k4 => ?_)
            · refine hG.br rfl rfl rfl rfl (fun k5 => ?_) (fun k5 => ?_)
              · refine hG.cV lk_M_154 mi_M_leastFree rfl rfl (c_M_leastFree (nearT (τ 96) t) n hN (by rw [e96]; exact h1) hn) rfl rfl rfl rfl rfl rfl rfl rfl ?_
                rintro x τ2 ⟨rfl, rfl⟩
                exact fin _ (by rw [if_neg k4, if_neg k5, leastF, e96])
              · refine hG.cV lk_M_186 mi_M_aliveMany rfl rfl (c_M_aliveMany n (by rw [e96]; exact h1) hn) rfl rfl rfl rfl rfl rfl rfl rfl ?_
                rintro x τ2 ⟨rfl, rfl⟩
                exact hG.go 1 rfl rfl (fin _ (by rw [if_neg k4, if_pos k5, e96]))
            · refine hG.cV lk_M_151 mi_M_freeMany rfl rfl (c_M_freeMany (nearT (τ 96) t) n hN (by rw [e96]; exact h1) hn) rfl rfl rfl rfl rfl rfl rfl rfl ?_
              rintro x τ2 ⟨rfl, rfl⟩
              exact hG.go 1 rfl rfl (fin _ (by rw [if_pos k4, manyF, e96]))
          · exact absurd (nI_le (show K ≤ j by omega) (by omega)) k3
        | succ m ih =>
          intro j hj τ w4 hS h102 hF hhi he
          refine hG.br rfl rfl rfl rfl (fun k3 => ?_) (fun k3 => ?_)
          · exact absurd k3 (nI_ge (by omega) (by omega))
          · refine hG.cV lk_M_180 mi_M_year rfl rfl (c_M_yearF hF) rfl rfl rfl rfl rfl rfl rfl rfl ?_
            rintro x τ1 ⟨rfl, g1, hS1⟩
            refine hG.jp rfl rfl rfl ?_
            rw [nI_1]
            exact ih (j + 1) (by omega) τ1 _ (hS.tr (hS1.mono (by decide))) (by rw [hS1 102 (by decide)]; exact h102) (by rw [g1]; exact FOk_year (y := y + j) hF (by omega)) (fun i hi => by rw [g1, yearF_hi hF.2.1 hi]; exact hhi i hi) (by rw [he, g1]; rfl)
      refine hG.go 2 rfl rfl (loop K 0 (by omega) _ none (Sm.rf.upc (by decide)) (by rw [upc_same]) (by rw [upc_c _ _ _ (by decide)]; exact hf) (fun i _ => by rw [upc_c _ _ _ (by decide)]) (by rw [upc_c _ _ _ (by decide)]))
    · exact bad (by rw [bi_eq0.mp k2]; simp)
theorem o_M_ends (hf : FOk (σ 96) n c t y) (hy : y ≤ 9999) : Ci l θ 7 m_M_ends [.inr 95] σ (fun r σ' => r = endsR (σ 96) n t ∧ Sm [99, 102, 109, 110] σ σ') := by
  refine Ci.of (Or.inl mi_M_ends) pk_M_ends (nb rfl) (Or.inl rfl) [some (.inr 95), none, none] rfl fun Γ hG hR => ?_
  refine hG.cVv lk_M_183 mi_M_thinks rfl rfl c_M_thinks rfl rfl rfl rfl rfl rfl rfl rfl ?_
  rintro τ0 rfl
  have hf0 := hf
  obtain ⟨h1, hn, h4, hc, h5, ht, h2, h2y, hT, hW⟩ := hf
  have e960 : upc σ 102 (fun k => if k < 58 then σ 96 k else σ 102 k) 96 = σ 96 := upc_c _ _ _ (by decide)
  refine hG.cVv lk_M_137 mi_M_findNears rfl rfl (c_M_findNears t (by rw [e960]; exact h5) ht (by rw [e960]; exact hT)) rfl rfl rfl rfl rfl rfl rfl rfl ?_
  rintro τ1 ⟨hS1, hN⟩
  rw [e960] at hN
  have e961 : τ1 96 = σ 96 := by rw [hS1 96 (by decide), e960]
  have loop : ∀ m j, j + m = 201 → ∀ (τ : Sg) (w2 : Option AV), Sm [96, 99, 102, 109, 110] σ τ → τ 102 = (fun k => if k < 58 then σ 96 k else σ 102 k) → NT (nearT (τ 96) t) τ → FOk (τ 96) n c t (y + j) → (∀ i, 58 ≤ i → τ 96 i = σ 96 i) → endsL (σ 96) n t 0 201 = endsL (τ 96) n t j m → X Γ 10 [some (.inr 95), some (.inl (nI j)), w2] [] τ := by
    intro m
    induction m with
    | zero =>
      intro j hj τ w2 hS h102 hN hF hhi he
      have hj : j = 201 := by omega
      subst hj
      refine hG.br rfl rfl rfl rfl (fun k3 => ?_) (fun k3 => ?_)
      · refine hG.cVv lk_M_189 mi_M_putsBack rfl rfl c_M_putsBack rfl rfl rfl rfl rfl rfl rfl rfl ?_
        rintro τ2 rfl
        have hS2 : Sm [99, 102, 109, 110] σ (upc τ 96 (fun k => if k < 58 then τ 102 k else τ 96 k)) := Sm.fix 96 (hS.upc (by decide)) (by rw [upc_same]; exact back58 h102 hhi)
        refine hG.br rfl rfl rfl rfl (fun k4 => ?_) (fun k4 => ?_)
        · refine hG.rt hR rfl rfl rfl rfl ?_
          exact ⟨by rw [endsR, he]; rfl, hS2⟩
        · exact absurd (show nI 200 < nI 201 from nI_lt (by omega) (by omega)) k4
      · exact absurd (show nI 200 < nI 201 from nI_lt (by omega) (by omega)) k3
    | succ m ih =>
      intro j hj τ w2 hS h102 hN hF hhi he
      have he : endsL (σ 96) n t 0 201 = if leastF (τ 96) n t = -1000000005 then some j else endsL (yearF (τ 96) n t).1 n t (j + 1) m := he
      refine hG.br rfl rfl rfl rfl (fun k3 => ?_) (fun k3 => ?_)
      · exact absurd (show nI 200 < nI j from k3) (nI_nlt (by omega) (by omega))
      · refine hG.cV lk_M_154 mi_M_leastFree rfl rfl (c_M_leastFree (nearT (τ 96) t) n hN hF.1 hn) rfl rfl rfl rfl rfl rfl rfl rfl ?_
        rintro x τ ⟨rfl, rfl⟩
        refine hG.br rfl rfl rfl rfl (fun k4 => ?_) (fun k4 => ?_)
        · rw [if_pos (show leastF (τ 96) n t = -1000000005 from k4)] at he
          refine hG.cVv lk_M_189 mi_M_putsBack rfl rfl c_M_putsBack rfl rfl rfl rfl rfl rfl rfl rfl ?_
          rintro τ2 rfl
          have hS2 : Sm [99, 102, 109, 110] σ (upc τ 96 (fun k => if k < 58 then τ 102 k else τ 96 k)) := Sm.fix 96 (hS.upc (by decide)) (by rw [upc_same]; exact back58 h102 hhi)
          refine hG.br rfl rfl rfl rfl (fun k5 => ?_) (fun k5 => ?_)
          · exact absurd (show nI 200 < nI j from k5) (nI_nlt (by omega) (by omega))
          · refine hG.rt hR rfl rfl rfl rfl ?_
            exact ⟨by rw [endsR, he]; rfl, hS2⟩
        · rw [if_neg (show ¬ leastF (τ 96) n t = -1000000005 from k4)] at he
          refine hG.cV lk_M_180 mi_M_year rfl rfl (c_M_yearF hF) rfl rfl rfl rfl rfl rfl rfl rfl ?_
          rintro x τ1 ⟨rfl, g1, hS1⟩
          refine hG.jp rfl rfl rfl ?_
          rw [nI_1]
          exact ih (j + 1) (by omega) τ1 _ (hS.tr (hS1.mono (by decide))) (by rw [hS1 102 (by decide)]; exact h102) (by rw [g1, nearT_year hF]; intro q hq; rw [hS1 99 (by decide)]; exact hN q hq) (by rw [g1]; exact FOk_year (y := y + j) hF (by omega)) (fun i hi => by rw [g1, yearF_hi hF.2.1 hi]; exact hhi i hi) (by rw [he, g1])
  exact hG.go 2 rfl rfl (loop 201 0 rfl τ1 none ((Sm.rf.upc (by decide)).tr (hS1.mono (by decide))) (by rw [hS1 102 (by decide), upc_same]) (by rw [e961]; exact hN) (by rw [e961]; exact hf0) (fun i _ => by rw [e961]) (by rw [e961]))
theorem o_M_stays (nm k : Int32) (hf : FOk (σ 96) n c t y) (hy : y ≤ 9999) : Ci l θ 7 m_M_stays [.inr 95, .inl nm, .inl k] σ (fun r σ' => r = stayR (σ 96) n t nm k ∧ Sm [99, 102, 109, 110] σ σ') := by
  refine Ci.of (Or.inl mi_M_stays) pk_M_stays (nb rfl) (Or.inl rfl) [some (.inr 95), some (.inl nm), some (.inl k), none, none, none] rfl fun Γ hG hR => ?_
  have bad : (inB nm 0 124 && inB k 0 100) = false → X Γ 17 [some (.inr 95), some (.inl nm), some (.inl k), none, none, none] [] σ := by
    intro hb
    refine hG.rt hR rfl rfl rfl rfl ?_
    exact ⟨by rw [stayR, hb]; rfl, Sm.rf⟩
  refine hG.cS lk_M_93 mi_M_isCalled rfl rfl (c_M_isCalled nm) rfl rfl rfl rfl rfl rfl ?_
  rintro x σ' ⟨rfl, rfl⟩
  refine hG.br rfl rfl rfl rfl (fun k1 => ?_) (fun k1 => ?_)
  · exact bad (by rw [bi_eq0.mp k1]; rfl)
  · refine hG.cS lk_M_84 mi_M_in rfl rfl (c_M_in k 0 100) rfl rfl rfl rfl rfl rfl ?_
    rintro x σ' ⟨rfl, rfl⟩
    refine hG.br rfl rfl rfl rfl (fun k2 => ?_) (fun k2 => ?_)
    · obtain ⟨K, hK1, hK2, rfl⟩ := inB_ab 0 100 (by omega) (by omega) (bi_ne0.mp k2)
      have hg : stayR (σ' 96) n t nm (nI K) = nI (stayL (σ' 96) n t nm K) := by
        rw [stayR, bi_ne0.mp k1, bi_ne0.mp k2, nI_clamp (by omega), Bool.and_self, if_pos rfl]
      refine hG.cVv lk_M_183 mi_M_thinks rfl rfl c_M_thinks rfl rfl rfl rfl rfl rfl rfl rfl ?_
      rintro τ0 rfl
      have hf0 := hf
      obtain ⟨h1, hn, h4, hc, h5, ht, h2, h2y, hT, hW⟩ := hf
      have e960 : upc σ' 102 (fun k => if k < 58 then σ' 96 k else σ' 102 k) 96 = σ' 96 := upc_c _ _ _ (by decide)
      refine hG.cVv lk_M_137 mi_M_findNears rfl rfl (c_M_findNears t (by rw [e960]; exact h5) ht (by rw [e960]; exact hT)) rfl rfl rfl rfl rfl rfl rfl rfl ?_
      rintro τ1 ⟨hS1, hN⟩
      rw [e960] at hN
      have e961 : τ1 96 = σ' 96 := by rw [hS1 96 (by decide), e960]
      have loop : ∀ m j s, j + m = K → ∀ (τ : Sg) (w5 : Option AV), Sm [96, 99, 102, 109, 110] σ' τ → τ 102 = (fun k => if k < 58 then σ' 96 k else σ' 102 k) → NT (nearT (τ 96) t) τ → FOk (τ 96) n c t (y + j) → (∀ i, 58 ≤ i → τ 96 i = σ' 96 i) → (∃ b : Nat, b = (if freeG (nearT (τ 96) t) (τ 96) n nm (τ 96 2) then 1 else 0) ∧ stayL (σ' 96) n t nm K + b = s + stayL (τ 96) n t nm m) → X Γ 51 [some (.inr 95), some (.inl nm), some (.inl (nI K)), some (.inl (nI s)), some (.inl (nI j)), w5] [] τ := by
        intro m
        induction m with
        | zero =>
          intro j s hj τ w5 hS h102 hN hF hhi he
          obtain ⟨b, hb, he⟩ := he
          rw [stayL, ← hb] at he
          refine hG.br rfl rfl rfl rfl (fun k3 => ?_) (fun k3 => ?_)
          · refine hG.cVv lk_M_189 mi_M_putsBack rfl rfl c_M_putsBack rfl rfl rfl rfl rfl rfl rfl rfl ?_
            rintro τ2 rfl
            refine hG.rt hR rfl rfl rfl rfl ?_
            exact ⟨by rw [hg, show stayL (σ' 96) n t nm K = s by omega], Sm.fix 96 (hS.upc (by decide)) (by rw [upc_same]; exact back58 h102 hhi)⟩
          · exact absurd (nI_le (show K ≤ j by omega) (by omega)) k3
        | succ m ih =>
          intro j s hj τ w5 hS h102 hN hF hhi he
          obtain ⟨b, hb, he⟩ := he
          rw [stayL, ← hb] at he
          refine hG.br rfl rfl rfl rfl (fun k3 => ?_) (fun k3 => ?_)
          · exact absurd k3 (nI_ge (by omega) (by omega))
          · refine hG.cV lk_M_180 mi_M_year rfl rfl (c_M_yearF hF) rfl rfl rfl rfl rfl rfl rfl rfl ?_
            rintro x τ1 ⟨rfl, g1, hS1⟩
            have hF1 : FOk (τ1 96) n c t (y + (j + 1)) := by rw [g1]; exact FOk_year (y := y + j) hF (by omega)
            have hN1 : NT (nearT (τ1 96) t) τ1 := by rw [g1, nearT_year hF]; intro q hq; rw [hS1 99 (by decide)]; exact hN q hq
            have hS2 := hS.tr (hS1.mono (ds := [96, 99, 102, 109, 110]) (by decide))
            have hhi1 : ∀ i, 58 ≤ i → τ1 96 i = σ' 96 i := fun i hi => by rw [g1, yearF_hi hF.2.1 hi]; exact hhi i hi
            refine hG.ld rfl 2 rfl rfl rfl rfl rfl (by decide) ?_
            refine hG.cV lk_M_148 mi_M_isFree rfl rfl (c_M_isFree (nearT (τ1 96) t) n nm (τ1 96 2) hN1 hF1.1 hn) rfl rfl rfl rfl rfl rfl rfl rfl ?_
            rintro x τ2 ⟨rfl, rfl⟩
            rw [← g1] at he
            refine hG.br rfl rfl rfl rfl (fun k4 => ?_) (fun k4 => ?_)
            · refine hG.jp rfl rfl rfl ?_
              rw [nI_1, show nI s + 0 = nI (s + 0) from nI_add s 0]
              exact ih (j + 1) (s + 0) (by omega) τ2 _ hS2 (by rw [hS1 102 (by decide)]; exact h102) hN1 hF1 hhi1 ⟨0, by rw [bi_eq0.mp k4]; rfl, by omega⟩
            · refine hG.jp rfl rfl rfl ?_
              rw [nI_1, nI_1]
              exact ih (j + 1) (s + 1) (by omega) τ2 _ hS2 (by rw [hS1 102 (by decide)]; exact h102) hN1 hF1 hhi1 ⟨1, by rw [bi_ne0.mp k4]; rfl, by omega⟩
      refine hG.ld rfl 2 rfl rfl rfl rfl rfl (by decide) ?_
      refine hG.cV lk_M_148 mi_M_isFree rfl rfl (c_M_isFree (nearT (σ' 96) t) n nm (τ1 96 2) hN (by rw [e961]; exact h1) hn) rfl rfl rfl rfl rfl rfl rfl rfl ?_
      rintro x τ2 ⟨rfl, rfl⟩
      have hNx : NT (nearT (τ2 96) t) τ2 := by rw [e961]; exact hN
      have hFx : FOk (τ2 96) n c t (y + 0) := by rw [e961]; exact hf0
      have hSx : Sm [96, 99, 102, 109, 110] σ' τ2 := (Sm.rf.upc (by decide)).tr (hS1.mono (by decide))
      have h102x : τ2 102 = (fun k => if k < 58 then σ' 96 k else σ' 102 k) := by rw [hS1 102 (by decide), upc_same]
      refine hG.br rfl rfl rfl rfl (fun k3 => ?_) (fun k3 => ?_)
      · exact hG.go 4 rfl rfl (loop K 0 0 (by omega) τ2 none hSx h102x hNx hFx (fun i _ => by rw [e961]) ⟨0, by rw [e961]; rw [e961] at k3; rw [bi_eq0.mp k3]; rfl, by rw [e961]; omega⟩)
      · exact hG.go 5 rfl rfl (loop K 0 1 (by omega) τ2 none hSx h102x hNx hFx (fun i _ => by rw [e961]) ⟨1, by rw [e961]; rw [e961] at k3; rw [bi_ne0.mp k3]; rfl, by rw [e961]; omega⟩)
    · exact bad (by rw [bi_eq0.mp k2]; simp)
theorem c_M_isNearEarlier (g : Nat → Bool) (s p : Nat) (hs : s < 4) (hp : p < 24) (hN : NT g σ) : Ci l θ 3 m_M_isNearEarlier [.inr 95, .inl (nI s), .inl (nI p)] σ (fun r σ' => σ' = σ ∧ r = bi (erlB g (fun k => σ 113 (24 * s + k)) p)) := by
  refine Ci.of (Or.inl mi_M_isNearEarlier) pk_M_isNearEarlier (nb rfl) (Or.inr rfl) [some (.inr 95), some (.inl (nI s)), some (.inl (nI p)), none, none, none] rfl fun Γ hG hR => ?_
  have loop : ∀ m k, k + m = p → ∀ w : Option AV, erlB g (fun k => σ 113 (24 * s + k)) p = !allB (fun k => !(inB (σ 113 (24 * s + k)) 0 124 && g (nrIx (σ 113 (24 * s + p)) (σ 113 (24 * s + k))))) k m → X Γ 15 [some (.inr 95), some (.inl (nI s)), some (.inl (nI p)), some (.inl (σ 113 (24 * s + p))), some (.inl (nI k)), w] [] σ := by
    intro m
    induction m with
    | zero =>
      intro k hk w he
      refine hG.br rfl rfl rfl rfl (fun k1 => ?_) (fun k1 => ?_)
      · refine hG.rz hR rfl rfl rfl rfl (Or.inl rfl) ?_
        exact ⟨rfl, by rw [he]; rfl⟩
      · exact absurd (nI_le (show p ≤ k by omega) (by omega)) k1
    | succ m ih =>
      intro k hk w he
      rw [allB_s _ _ m] at he
      refine hG.br rfl rfl rfl rfl (fun k1 => ?_) (fun k1 => ?_)
      · exact absurd k1 (nI_ge (by omega) (by omega))
      · refine hG.ld rfl (24 * s + k) rfl rfl rfl rfl (by simp only [lit_nI, pk_mul, nI_add, nI_1]; first | done | rfl | (congr 1; omega)) (by omega) ?_
        refine hG.cS lk_M_93 mi_M_isCalled rfl rfl (c_M_isCalled _) rfl rfl rfl rfl rfl rfl ?_
        rintro x σ' ⟨rfl, rfl⟩
        refine hG.br rfl rfl rfl rfl (fun k2 => ?_) (fun k2 => ?_)
        · refine hG.jp rfl rfl rfl ?_
          rw [nI_1]
          exact ih (k + 1) (by omega) _ (by rw [he, bi_eq0.mp k2]; rfl)
        · refine hG.cV lk_M_140 mi_M_areNear rfl rfl (c_M_areNear g _ _ hN) rfl rfl rfl rfl rfl rfl rfl rfl ?_
          rintro x σ' ⟨rfl, rfl⟩
          refine hG.br rfl rfl rfl rfl (fun k3 => ?_) (fun k3 => ?_)
          · refine hG.jp rfl rfl rfl ?_
            rw [nI_1]
            exact ih (k + 1) (by omega) _ (by rw [he, bi_eq0.mp k3]; simp)
          · refine hG.rz hR rfl rfl rfl rfl (Or.inr rfl) ?_
            exact ⟨rfl, by rw [he, bi_ne0.mp k2, bi_ne0.mp k3]; rfl⟩
  refine hG.ld rfl (24 * s + p) rfl rfl rfl rfl (by simp only [lit_nI, pk_mul, nI_add, nI_1]; first | done | rfl | (congr 1; omega)) (by omega) ?_
  exact hG.go 3 rfl rfl (loop p 0 (by omega) none rfl)
theorem o_M_line (s : Int32) (hf : FOk (σ 96) n c t y) (hs : SOk (σ 111) (σ 112)) : Ci l θ 6 m_M_line [.inr 95, .inl s] σ (fun r σ' => r = lineR (σ 96) (σ 111) (σ 112) (σ 113) n t s ∧ Sm [99, 109, 110] σ σ') := by
  obtain ⟨h1, hn, h4, hc, h5, ht, h2, h2y, hT, hW⟩ := hf
  refine Ci.of (Or.inl mi_M_line) pk_M_line (nb rfl) (Or.inl rfl) [some (.inr 95), some (.inl s), none, none] rfl fun Γ hG hR => ?_
  refine hG.cS lk_M_192 mi_M_isSheet rfl rfl (c_M_isSheet s) rfl rfl rfl rfl rfl rfl ?_
  rintro x σ' ⟨rfl, rfl⟩
  refine hG.br rfl rfl rfl rfl (fun k1 => ?_) (fun k1 => ?_)
  · obtain ⟨S, hS1, hS2, rfl⟩ := inB_ab 0 3 (by omega) (by omega) (bi_ne0.mp k1)
    obtain ⟨hso, Z, hZ, hsz⟩ := hs S (by omega)
    refine hG.ld rfl S rfl rfl rfl rfl rfl (by omega) ?_
    refine hG.br rfl rfl rfl rfl (fun k2 => ?_) (fun k2 => ?_)
    · have hg : lineR (σ' 96) (σ' 111) (σ' 112) (σ' 113) n t (nI S) = lineF (σ' 96) n t (fun k => σ' 113 (24 * S + k)) Z := by
        rw [lineR, bi_ne0.mp k1, if_pos rfl, nI_clamp (by omega), if_neg (i32_nlt.mpr k2), hsz, nI_clamp (by omega)]
      refine hG.cVv lk_M_137 mi_M_findNears rfl rfl (c_M_findNears t h5 ht hT) rfl rfl rfl rfl rfl rfl rfl rfl ?_
      rintro τ ⟨hS, hN⟩
      have e96 : τ 96 = σ' 96 := hS 96 (by decide)
      have e112 : τ 112 = σ' 112 := hS 112 (by decide)
      have e113 : τ 113 = σ' 113 := hS 113 (by decide)
      generalize hP : (fun k => inB (σ' 113 (24 * S + k)) 0 124 && (!freeG (nearT (σ' 96) t) (σ' 96) n (σ' 113 (24 * S + k)) (σ' 96 2) || erlB (nearT (σ' 96) t) (fun k => σ' 113 (24 * S + k)) k)) = P
      have hg2 : lineF (σ' 96) n t (fun k => σ' 113 (24 * S + k)) Z = optN (-1000000005) (fndB P 0 Z) := by rw [lineF, ← hP]
      have loop : ∀ m k, k + m = Z → ∀ w : Option AV, fndB P 0 Z = fndB P k m → X Γ 28 [some (.inr 95), some (.inl (nI S)), some (.inl (nI k)), w] [] τ := by
        intro m
        induction m with
        | zero =>
          intro k hk w he
          refine hG.ld rfl S rfl rfl rfl rfl rfl (by omega) ?_
          rw [e112, hsz]
          refine hG.br rfl rfl rfl rfl (fun k3 => ?_) (fun k3 => ?_)
          · refine hG.rt hR rfl rfl rfl rfl ?_
            exact ⟨by rw [hg, hg2, he]; rfl, hS⟩
          · exact absurd (nI_le (show Z ≤ k by omega) (by omega)) k3
        | succ m ih =>
          intro k hk w he
          rw [fndB_s _ _ m] at he
          have hPk : P k = (inB (σ' 113 (24 * S + k)) 0 124 && (!freeG (nearT (σ' 96) t) (σ' 96) n (σ' 113 (24 * S + k)) (σ' 96 2) || erlB (nearT (σ' 96) t) (fun k => σ' 113 (24 * S + k)) k)) := by rw [← hP]
          refine hG.ld rfl S rfl rfl rfl rfl rfl (by omega) ?_
          rw [e112, hsz]
          refine hG.br rfl rfl rfl rfl (fun k3 => ?_) (fun k3 => ?_)
          · exact absurd k3 (nI_ge (by omega) (by omega))
          · refine hG.ld rfl (24 * S + k) rfl rfl rfl rfl (by simp only [lit_nI, pk_mul, nI_add, nI_1]; first | done | rfl | (congr 1; omega)) (by omega) ?_
            rw [e113]
            refine hG.cS lk_M_93 mi_M_isCalled rfl rfl (c_M_isCalled _) rfl rfl rfl rfl rfl rfl ?_
            rintro x τ ⟨rfl, rfl⟩
            refine hG.br rfl rfl rfl rfl (fun k4 => ?_) (fun k4 => ?_)
            · refine hG.jp rfl rfl rfl ?_
              rw [nI_1]
              exact ih (k + 1) (by omega) _ (by rw [he, hPk, bi_eq0.mp k4]; rfl)
            · refine hG.ld rfl 2 rfl rfl rfl rfl rfl (by decide) ?_
              rw [e96]
              refine hG.cV lk_M_148 mi_M_isFree rfl rfl (c_M_isFree (nearT (σ' 96) t) n _ _ hN (by rw [e96]; exact h1) hn) rfl rfl rfl rfl rfl rfl rfl rfl ?_
              rintro x τ ⟨rfl, rfl⟩
              rw [e96]
              have found : P k = true → X Γ 80 [some (.inr 95), some (.inl (nI S)), some (.inl (nI k)), some (.inl (σ' 113 (24 * S + k)))] [] τ := by
                intro hp
                refine hG.rt hR rfl rfl rfl rfl ?_
                exact ⟨by rw [hg, hg2, he, hp]; rfl, hS⟩
              refine hG.br rfl rfl rfl rfl (fun k5 => ?_) (fun k5 => ?_)
              · exact found (by rw [hPk, bi_ne0.mp k4, bi_eq0.mp k5]; rfl)
              · refine hG.cV lk_M_196 mi_M_isNearEarlier rfl rfl (c_M_isNearEarlier (nearT (σ' 96) t) S k (by omega) (by omega) hN) rfl rfl rfl rfl rfl rfl rfl rfl ?_
                rintro x τ ⟨rfl, rfl⟩
                rw [e113]
                refine hG.br rfl rfl rfl rfl (fun k6 => ?_) (fun k6 => ?_)
                · refine hG.jp rfl rfl rfl ?_
                  rw [nI_1]
                  exact ih (k + 1) (by omega) _ (by rw [he, hPk, bi_ne0.mp k5, bi_eq0.mp k6]; simp)
                · exact found (by rw [hPk, bi_ne0.mp k4, bi_ne0.mp k6]; simp)
      exact hG.go 2 rfl rfl (loop Z 0 (by omega) none rfl)
    · refine hG.rt hR rfl rfl rfl rfl ?_
      exact ⟨by rw [lineR, bi_ne0.mp k1, if_pos rfl, nI_clamp (by omega), if_pos (i32_nle.mp k2)], Sm.rf⟩
  · refine hG.rt hR rfl rfl rfl rfl ?_
    exact ⟨by rw [lineR, bi_eq0.mp k1]; rfl, Sm.rf⟩
end
end
section
def mix (f g : Nat → Int32) : Nat → Int32 := fun k => if k < 1430 then f k else g k
theorem mix_lt {f g : Nat → Int32} {k : Nat} (h : k < 1430) : mix f g k = f k := by simp [mix, h]
def countR (f : Nat → Int32) (n : Nat) (wt tp w : Int32) : Int32 := if w = 0 then f 1 else if w = 1 then nI (sumB (aliveF f) 0 n) else if w = 2 then f 4 else if w = 3 then f 2 else if w = 4 then f 3 else if w = 5 then f 5 else if w = 6 then wt else if w = 7 then tp else if w = 8 then f 0 else -1000000001
def fedB (a b c : Int32) (k : Nat) : Int32 := ((if k < 4 then a else if k < 8 then b else c) >>> ((24 - 8 * nI (k % 4)) &&& 31)) &&& 255
def fedF (tp : Nat → Int32) (T : Nat) (a b c : Int32) : Nat → Int32 := fun j => if T ≤ j ∧ j < T + 12 then fedB a b c (j - T) else tp j
def zr24 (ce : Nat → Int32) (S : Nat) : Nat → Int32 := fun j => if 24 * S ≤ j ∧ j < 24 * S + 24 then 0 else ce j
def shtG (s so n : Int32) : Bool := inB s 0 3 && inB so (-1) 1 && !(decide (0 ≤ so) && decide (24 < n))
def shtZ (so n : Int32) : Bool := decide (0 ≤ so) && decide (n < 0)
def mrkG (so : Int32) (v : Int32) : Option Int32 := if so = 0 ∧ v = -1000000005 then some (-1000000012) else if so = 1 ∧ ¬ v = -1000000005 ∧ inB v (-99999) 99999 = false then some (-1000000001) else none
def mrkF (so sz ce : Nat → Int32) (s p v : Int32) : Int32 × (Nat → Int32) := if inB s 0 3 then (if so s.toNatClampNeg < 0 then (-1000000011, ce) else if inB p 0 (sz s.toNatClampNeg - 1) then (match mrkG (so s.toNatClampNeg) v with
  | some r => (r, ce)
  | none => (1, upd ce (24 * s.toNatClampNeg + p.toNatClampNeg) (if so s.toNatClampNeg = 0 then v.toInt16.toInt32 else v))) else (-1000000013, ce)) else (-1000000001, ce)
section
variable {l : Launch} {θ : Th} {σ : Sg} {n c t y : Nat}
theorem o_M_keep (hf : FOk (σ 96) n c t y) : Ci l θ 5 m_M_keep [.inr 95] σ (fun r σ' => r = nI n ∧ σ' = up (upc σ 97 (mix (σ 96) (σ 97))) 95 3 1) := by
  refine Ci.of (Or.inl mi_M_keep) pk_M_keep (nb rfl) (Or.inl rfl) [some (.inr 95)] rfl fun Γ hG hR => ?_
  refine hG.cSv lk_M_281 mi_M_copyAll rfl rfl (c_M_copyAll 96 97 rfl rfl (by decide)) rfl rfl rfl rfl rfl rfl ?_
  rintro τ rfl
  refine hG.ptz rfl rfl rfl rfl rfl rfl (by decide +kernel) ?_
  refine hG.ld rfl 1 rfl rfl rfl rfl rfl (by decide) ?_
  refine hG.rt hR rfl rfl rfl rfl ?_
  refine ⟨?_, rfl⟩
  rw [up_c _ _ _ _ (show 96 ≠ 95 by decide), upc_c _ _ _ (show 96 ≠ 97 by decide)]
  exact hf.1
theorem o_M_back (h : Bool) (hh : σ 95 3 = bi h) : Ci l θ 5 m_M_back [.inr 95] σ (fun r σ' => (h = false → r = -1000000002 ∧ σ' = σ) ∧ (h = true → r = σ 97 1 ∧ σ' = upc σ 96 (mix (σ 97) (σ 96)))) := by
  refine Ci.of (Or.inl mi_M_back) pk_M_back (nb rfl) (Or.inl rfl) [some (.inr 95)] rfl fun Γ hG hR => ?_
  refine hG.br rfl rfl rfl rfl (fun k1 => ?_) (fun k1 => ?_)
  · rw [hh] at k1
    have hb := bi_ne0.mp k1
    refine hG.cSv lk_M_281 mi_M_copyAll rfl rfl (c_M_copyAll 97 96 rfl rfl (by decide)) rfl rfl rfl rfl rfl rfl ?_
    rintro τ rfl
    refine hG.ld rfl 1 rfl rfl rfl rfl rfl (by decide) ?_
    refine hG.rt hR rfl rfl rfl rfl ?_
    refine ⟨fun e => (by rw [hb] at e; cases e), fun _ => ⟨?_, rfl⟩⟩
    rw [upc_same]; rfl
  · rw [hh] at k1
    have hb := bi_eq0.mp k1
    refine hG.rt hR rfl rfl rfl rfl ?_
    exact ⟨fun _ => ⟨rfl, rfl⟩, fun e => (by rw [hb] at e; cases e)⟩
theorem o_M_count (w : Int32) (hf : FOk (σ 96) n c t y) : Ci l θ 5 m_M_count [.inr 95, .inl w] σ (fun r σ' => r = countR (σ 96) n (σ 95 37) (σ 95 11) w ∧ σ' = σ) := by
  refine Ci.of (Or.inl mi_M_count) pk_M_count (nb rfl) (Or.inl rfl) [some (.inr 95), some (.inl w)] rfl fun Γ hG hR => ?_
  refine hG.tsw [52, 59, 64, 71, 78, 85, 92, 97, 102] 109 rfl rfl rfl (by decide +kernel) ?_ ?_
  · intro k t hk hx
    match k, hk, hx with
    | 0, hk, hx =>
      cases hk
      have e : w = 0 := tsw_x hx rfl
      refine hG.ld rfl 1 rfl rfl rfl rfl rfl (by decide) ?_
      refine hG.rt hR rfl rfl rfl rfl ?_
      exact ⟨by rw [e]; rfl, rfl⟩
    | 1, hk, hx =>
      cases hk
      have e : w = 1 := tsw_x hx rfl
      refine hG.cV lk_M_186 mi_M_aliveMany rfl rfl (c_M_aliveMany n hf.1 hf.2.1) rfl rfl rfl rfl rfl rfl rfl rfl ?_
      rintro x σ' ⟨rfl, rfl⟩
      refine hG.rt hR rfl rfl rfl rfl ?_
      exact ⟨by rw [e]; rfl, rfl⟩
    | 2, hk, hx =>
      cases hk
      have e : w = 2 := tsw_x hx rfl
      refine hG.ld rfl 4 rfl rfl rfl rfl rfl (by decide) ?_
      refine hG.rt hR rfl rfl rfl rfl ?_
      exact ⟨by rw [e]; rfl, rfl⟩
    | 3, hk, hx =>
      cases hk
      have e : w = 3 := tsw_x hx rfl
      refine hG.ld rfl 2 rfl rfl rfl rfl rfl (by decide) ?_
      refine hG.rt hR rfl rfl rfl rfl ?_
      exact ⟨by rw [e]; rfl, rfl⟩
    | 4, hk, hx =>
      cases hk
      have e : w = 4 := tsw_x hx rfl
      refine hG.ld rfl 3 rfl rfl rfl rfl rfl (by decide) ?_
      refine hG.rt hR rfl rfl rfl rfl ?_
      exact ⟨by rw [e]; rfl, rfl⟩
    | 5, hk, hx =>
      cases hk
      have e : w = 5 := tsw_x hx rfl
      refine hG.ld rfl 5 rfl rfl rfl rfl rfl (by decide) ?_
      refine hG.rt hR rfl rfl rfl rfl ?_
      exact ⟨by rw [e]; rfl, rfl⟩
    | 6, hk, hx =>
      cases hk
      have e : w = 6 := tsw_x hx rfl
      refine hG.rt hR rfl rfl rfl rfl ?_
      exact ⟨by rw [e]; rfl, rfl⟩
    | 7, hk, hx =>
      cases hk
      have e : w = 7 := tsw_x hx rfl
      refine hG.rt hR rfl rfl rfl rfl ?_
      exact ⟨by rw [e]; rfl, rfl⟩
    | 8, hk, hx =>
      cases hk
      have e : w = 8 := tsw_x hx rfl
      refine hG.ld rfl 0 rfl rfl rfl rfl rfl (by decide) ?_
      refine hG.rt hR rfl rfl rfl rfl ?_
      exact ⟨by rw [e]; rfl, rfl⟩
    | k + 9, hk, hx => simp at hk
  · intro hx
    have e0 : ¬ w = 0 := fun e => hx 0 (by decide) (by rw [e]; rfl)
    have e1 : ¬ w = 1 := fun e => hx 1 (by decide) (by rw [e]; rfl)
    have e2 : ¬ w = 2 := fun e => hx 2 (by decide) (by rw [e]; rfl)
    have e3 : ¬ w = 3 := fun e => hx 3 (by decide) (by rw [e]; rfl)
    have e4 : ¬ w = 4 := fun e => hx 4 (by decide) (by rw [e]; rfl)
    have e5 : ¬ w = 5 := fun e => hx 5 (by decide) (by rw [e]; rfl)
    have e6 : ¬ w = 6 := fun e => hx 6 (by decide) (by rw [e]; rfl)
    have e7 : ¬ w = 7 := fun e => hx 7 (by decide) (by rw [e]; rfl)
    have e8 : ¬ w = 8 := fun e => hx 8 (by decide) (by rw [e]; rfl)
    refine hG.rt hR rfl rfl rfl rfl ?_
    exact ⟨by simp only [countR, e0, e1, e2, e3, e4, e5, e6, e7, e8, if_false], rfl⟩
theorem o_M_tell (v : Int32) (W : Nat) (hW : σ 95 37 = nI W) (hW60 : W ≤ 60) : Ci l θ 5 m_M_tell [.inr 95, .inl v] σ (fun r σ' => (W = 60 → r = -1000000003 ∧ σ' = σ) ∧ (W ≠ 60 → r = nI (W + 1) ∧ σ' = up (up σ 119 W v) 95 37 (nI (W + 1)))) := by
  refine Ci.of (Or.inl mi_M_tell) pk_M_tell (nb rfl) (Or.inl rfl) [some (.inr 95), some (.inl v)] rfl fun Γ hG hR => ?_
  refine hG.br rfl rfl rfl rfl (fun k1 => ?_) (fun k1 => ?_)
  · rw [hW] at k1
    have hne : W ≠ 60 := fun e => k1 (by rw [e]; rfl)
    refine hG.sti rfl W rfl rfl rfl hW (by omega) ?_
    refine hG.rt hR rfl rfl rfl rfl ?_
    refine ⟨fun e => absurd e hne, fun _ => ?_⟩
    rw [up_self, up_c _ _ _ _ (show 95 ≠ 119 by decide), hW, nI_1]
    exact ⟨rfl, rfl⟩
  · rw [hW] at k1
    have he : W = 60 := (nI_eq (by omega) (by omega)).mp (show nI W = nI 60 from k1)
    refine hG.rt hR rfl rfl rfl rfl ?_
    exact ⟨fun _ => ⟨rfl, rfl⟩, fun e => absurd he e⟩
theorem o_M_trim (v : Int32) (T : Nat) (hT : σ 95 11 = nI T) (hT96 : T ≤ 96) : Ci l θ 5 m_M_trim [.inr 95, .inl v] σ (fun r σ' => (inB v 0 (nI T) = false → r = -1000000001 ∧ σ' = σ) ∧ (inB v 0 (nI T) = true → r = v ∧ σ' = up σ 95 11 v)) := by
  refine Ci.of (Or.inl mi_M_trim) pk_M_trim (nb rfl) (Or.inl rfl) [some (.inr 95), some (.inl v)] rfl fun Γ hG hR => ?_
  refine hG.cS lk_M_84 mi_M_in rfl rfl (c_M_in v 0 (σ 95 11)) rfl rfl rfl rfl rfl rfl ?_
  rintro x σ' ⟨rfl, rfl⟩
  rw [hT]
  refine hG.br rfl rfl rfl rfl (fun k1 => ?_) (fun k1 => ?_)
  · have hb := bi_ne0.mp k1
    refine hG.rt hR rfl rfl rfl rfl ?_
    exact ⟨fun e => (by rw [hb] at e; cases e), fun _ => ⟨rfl, rfl⟩⟩
  · have hb := bi_eq0.mp k1
    refine hG.rt hR rfl rfl rfl rfl ?_
    exact ⟨fun _ => ⟨rfl, rfl⟩, fun e => (by rw [hb] at e; cases e)⟩
theorem o_M_feed (a b cc : Int32) (T : Nat) (hT : σ 95 11 = nI T) (hT96 : T ≤ 96) : Ci l θ 5 m_M_feed [.inr 95, .inl a, .inl b, .inl cc] σ (fun r σ' => (96 < T + 12 → r = -1000000003 ∧ σ' = σ) ∧ (¬ 96 < T + 12 → r = nI (T + 12) ∧ σ' = up (upc σ 103 (fedF (σ 103) T a b cc)) 95 11 (nI (T + 12)))) := by
  refine Ci.of (Or.inl mi_M_feed) pk_M_feed (nb rfl) (Or.inl rfl) [some (.inr 95), some (.inl a), some (.inl b), some (.inl cc), none, none] rfl fun Γ hG hR => ?_
  refine hG.br rfl rfl rfl rfl (fun k1 => ?_) (fun k1 => ?_)
  · rw [hT, show nI T + 12 = nI (T + 12) from nI_add T 12] at k1
    have hle : ¬ 96 < T + 12 := Nat.not_lt.mpr ((nI_leI (by omega) (by omega)).mp (show nI (T + 12) ≤ nI 96 from k1))
    have loop : ∀ m k, k + m = 12 → ∀ w : Option AV, X Γ 18 [some (.inr 95), some (.inl a), some (.inl b), some (.inl cc), some (.inl (nI k)), w] [] (upc σ 103 (fun j => if T ≤ j ∧ j < T + k then fedB a b cc (j - T) else σ 103 j)) := by
      intro m
      induction m with
      | zero =>
        intro k hk w
        have hk : k = 12 := by omega
        subst hk
        refine hG.br rfl rfl rfl rfl (fun k2 => ?_) (fun k2 => ?_)
        · refine hG.rt hR rfl rfl rfl rfl ?_
          refine ⟨fun e => absurd e hle, fun _ => ?_⟩
          rw [up_self, upc_c _ _ _ (show 95 ≠ 103 by decide), hT, show nI T + 12 = nI (T + 12) from nI_add T 12]
          exact ⟨rfl, rfl⟩
        · exact absurd (show nI 12 ≤ nI 12 from nI_le (Nat.le_refl _) (by omega)) k2
      | succ m ih =>
        intro k hk w
        have j47 : ∀ z : Int32, z = (if k < 4 then a else if k < 8 then b else cc) → X Γ 47 [some (.inr 95), some (.inl a), some (.inl b), some (.inl cc), some (.inl (nI k)), w] [.inl z] (upc σ 103 (fun j => if T ≤ j ∧ j < T + k then fedB a b cc (j - T) else σ 103 j)) := by
          intro z hz
          refine hG.rm rfl rfl rfl (by decide) ?_
          rw [show nI k - nI k / 4 * 4 = nI (k % 4) from pk_rem (d := 4) (by omega) (by omega) (by omega)]
          refine hG.sti rfl (T + k) rfl rfl rfl (by rw [upc_c _ _ _ (show 95 ≠ 103 by decide), hT, nI_add]) (by omega) ?_
          refine hG.jp rfl rfl rfl ?_
          rw [nI_1, up_upc]
          have e : upd (fun j => if T ≤ j ∧ j < T + k then fedB a b cc (j - T) else σ 103 j) (T + k) (z >>> ((24 - 8 * nI (k % 4)) &&& 31) &&& 255) = (fun j => if T ≤ j ∧ j < T + (k + 1) then fedB a b cc (j - T) else σ 103 j) := by
            funext j
            simp only [upd]
            by_cases hj : j = T + k
            · subst hj
              rw [if_pos rfl, if_pos ⟨by omega, by omega⟩, show T + k - T = k by omega, fedB, hz]
            · rw [if_neg hj]
              by_cases hq : T ≤ j ∧ j < T + k
              · rw [if_pos hq, if_pos ⟨hq.1, by omega⟩]
              · rw [if_neg hq, if_neg (fun q => hq ⟨q.1, by omega⟩)]
          rw [e]
          exact ih (k + 1) (by omega) _
        refine hG.br rfl rfl rfl rfl (fun k2 => ?_) (fun k2 => ?_)
        · exact absurd (show nI 12 ≤ nI k from k2) (nI_ge (by omega) (by omega))
        · refine hG.br rfl rfl rfl rfl (fun k3 => ?_) (fun k3 => ?_)
          · have q3 : ¬ k < 4 := Nat.not_lt.mpr ((nI_leI (by omega) (by omega)).mp (show nI 4 ≤ nI k from k3))
            refine hG.br rfl rfl rfl rfl (fun k4 => ?_) (fun k4 => ?_)
            · have q4 : ¬ k < 8 := Nat.not_lt.mpr ((nI_leI (by omega) (by omega)).mp (show nI 8 ≤ nI k from k4))
              exact hG.go 1 rfl rfl (j47 cc (by rw [if_neg q3, if_neg q4]))
            · have q4 : k < 8 := Nat.not_le.mp (fun q => k4 (show nI 8 ≤ nI k from nI_le q (by omega)))
              exact hG.go 2 rfl rfl (j47 b (by rw [if_neg q3, if_pos q4]))
          · have q3 : k < 4 := Nat.not_le.mp (fun q => k3 (show nI 4 ≤ nI k from nI_le q (by omega)))
            exact hG.go 2 rfl rfl (j47 a (by rw [if_pos q3]))
    have := loop 12 0 rfl none
    rw [show (fun j => if T ≤ j ∧ j < T + 0 then fedB a b cc (j - T) else σ 103 j) = σ 103 by funext j; rw [if_neg (by omega)], upc_self] at this
    exact hG.go 2 rfl rfl this
  · rw [hT, show nI T + 12 = nI (T + 12) from nI_add T 12] at k1
    have hgt : 96 < T + 12 := Nat.not_le.mp (fun q => k1 (show nI (T + 12) ≤ nI 96 from nI_le q (by omega)))
    refine hG.rt hR rfl rfl rfl rfl ?_
    exact ⟨fun _ => ⟨rfl, rfl⟩, fun e => absurd hgt e⟩
theorem o_M_sheet (s so nn : Int32) : Ci l θ 5 m_M_sheet [.inr 95, .inl s, .inl so, .inl nn] σ (fun r σ' => (shtG s so nn = false → r = -1000000001 ∧ σ' = σ) ∧ (shtG s so nn = true → shtZ so nn = true → r = -1000000014 ∧ σ' = σ) ∧ (shtG s so nn = true → shtZ so nn = false → r = (if so < 0 then 0 else nn) ∧ σ' = upc (up (up σ 111 s.toNatClampNeg so) 112 s.toNatClampNeg (if so < 0 then 0 else nn)) 113 (zr24 (σ 113) s.toNatClampNeg))) := by
  refine Ci.of (Or.inl mi_M_sheet) pk_M_sheet (nb rfl) (Or.inl rfl) [some (.inr 95), some (.inl s), some (.inl so), some (.inl nn), none] rfl fun Γ hG hR => ?_
  have bad : shtG s so nn = false → X Γ 26 [some (.inr 95), some (.inl s), some (.inl so), some (.inl nn), none] [] σ := by
    intro hb
    refine hG.rt hR rfl rfl rfl rfl ?_
    exact ⟨fun _ => ⟨rfl, rfl⟩, fun e => (by rw [hb] at e; cases e), fun e => (by rw [hb] at e; cases e)⟩
  refine hG.cS lk_M_192 mi_M_isSheet rfl rfl (c_M_isSheet s) rfl rfl rfl rfl rfl rfl ?_
  rintro x σ' ⟨rfl, rfl⟩
  refine hG.br rfl rfl rfl rfl (fun k1 => ?_) (fun k1 => ?_)
  · exact bad (by rw [shtG, bi_eq0.mp k1]; rfl)
  · obtain ⟨S, hS1, hS2, rfl⟩ := inB_ab 0 3 (by omega) (by omega) (bi_ne0.mp k1)
    rw [nI_clamp (show S < 2 ^ 31 by omega)] at hR
    refine hG.cS lk_M_84 mi_M_in rfl rfl (c_M_in so (-1) 1) rfl rfl rfl rfl rfl rfl ?_
    rintro x σ' ⟨rfl, rfl⟩
    refine hG.br rfl rfl rfl rfl (fun k2 => ?_) (fun k2 => ?_)
    · exact bad (by rw [shtG, bi_eq0.mp k2]; simp)
    · have main : shtG (nI S) so nn = true → shtZ so nn = false → X Γ 41 [some (.inr 95), some (.inl (nI S)), some (.inl so), some (.inl nn), none] [] σ' := by
        intro hg hz
        refine hG.sti rfl S rfl rfl rfl rfl (by omega) ?_
        have j62 : X Γ 62 [some (.inr 95), some (.inl (nI S)), some (.inl so), some (.inl nn), none] [.inl (if so < 0 then 0 else nn), .inl (nI S), .inr 112] (up σ' 111 S so) := by
          refine hG.sti rfl S rfl rfl rfl rfl (by omega) ?_
          generalize hτ : up (up σ' 111 S so) 112 S (if so < 0 then 0 else nn) = τ
          have e113 : τ 113 = σ' 113 := by rw [← hτ, up_c _ _ _ _ (by decide), up_c _ _ _ _ (by decide)]
          have e112 : τ 112 S = if so < 0 then 0 else nn := by rw [← hτ, up_self]
          have loop : ∀ m k, k + m = 24 → X Γ 66 [some (.inr 95), some (.inl (nI S)), some (.inl so), some (.inl nn), some (.inl (nI k))] [] (upc τ 113 (fun j => if 24 * S ≤ j ∧ j < 24 * S + k then 0 else τ 113 j)) := by
            intro m
            induction m with
            | zero =>
              intro k hk
              have hk : k = 24 := by omega
              subst hk
              refine hG.br rfl rfl rfl rfl (fun k3 => ?_) (fun k3 => ?_)
              · refine hG.ld rfl S rfl rfl rfl rfl rfl (by omega) ?_
                refine hG.rt hR rfl rfl rfl rfl ?_
                refine ⟨fun e => (by rw [hg] at e; cases e), fun _ e => (by rw [hz] at e; cases e), fun _ _ => ⟨?_, ?_⟩⟩
                · rw [upc_c _ _ _ (show 112 ≠ 113 by decide), e112]
                · rw [e113, ← hτ]; rfl
              · exact absurd (show nI 24 ≤ nI 24 from nI_le (Nat.le_refl _) (by omega)) k3
            | succ m ih =>
              intro k hk
              refine hG.br rfl rfl rfl rfl (fun k3 => ?_) (fun k3 => ?_)
              · exact absurd (show nI 24 ≤ nI k from k3) (nI_ge (by omega) (by omega))
              · refine hG.sti rfl (24 * S + k) rfl rfl rfl (by simp only [lit_nI, pk_mul, nI_add, nI_1]; first | done | rfl | (congr 1; omega)) (by omega) ?_
                refine hG.jp rfl rfl rfl ?_
                rw [nI_1, up_upc]
                have e : upd (fun j => if 24 * S ≤ j ∧ j < 24 * S + k then 0 else τ 113 j) (24 * S + k) 0 = (fun j => if 24 * S ≤ j ∧ j < 24 * S + (k + 1) then 0 else τ 113 j) := by
                  funext j
                  simp only [upd]
                  by_cases hj : j = 24 * S + k
                  · subst hj
                    rw [if_pos rfl, if_pos ⟨by omega, by omega⟩]
                  · rw [if_neg hj]
                    by_cases hq : 24 * S ≤ j ∧ j < 24 * S + k
                    · rw [if_pos hq, if_pos ⟨hq.1, by omega⟩]
                    · rw [if_neg hq, if_neg (fun q => hq ⟨q.1, by omega⟩)]
                rw [e]
                exact ih (k + 1) (by omega)
          have := loop 24 0 rfl
          rw [show (fun j => if 24 * S ≤ j ∧ j < 24 * S + 0 then 0 else τ 113 j) = τ 113 by funext j; rw [if_neg (by omega)], upc_self] at this
          exact hG.go 2 rfl rfl this
        refine hG.br rfl rfl rfl rfl (fun k3 => ?_) (fun k3 => ?_)
        · rw [if_neg (i32_nlt.mpr k3)] at j62
          exact hG.go 1 rfl rfl j62
        · rw [if_pos (i32_nle.mp k3)] at j62
          exact hG.go 2 rfl rfl j62
      have next : shtG (nI S) so nn = true → X Γ 29 [some (.inr 95), some (.inl (nI S)), some (.inl so), some (.inl nn), none] [] σ' := by
        intro hg
        refine hG.br rfl rfl rfl rfl (fun k3 => ?_) (fun k3 => ?_)
        · exact main hg (by simp [shtZ, i32_nle.mpr k3])
        · refine hG.br rfl rfl rfl rfl (fun k4 => ?_) (fun k4 => ?_)
          · exact main hg (by simp [shtZ, i32_nlt.mpr k4])
          · have hz : shtZ so nn = true := by simp [shtZ, i32_nlt.mp k3, i32_nle.mp k4]
            refine hG.rt hR rfl rfl rfl rfl ?_
            exact ⟨fun e => (by rw [hg] at e; cases e), fun _ _ => ⟨rfl, rfl⟩, fun _ e => (by rw [hz] at e; cases e)⟩
      refine hG.br rfl rfl rfl rfl (fun k3 => ?_) (fun k3 => ?_)
      · exact next (by rw [shtG, bi_ne0.mp k1, bi_ne0.mp k2]; simp [i32_nle.mpr k3])
      · refine hG.br rfl rfl rfl rfl (fun k4 => ?_) (fun k4 => ?_)
        · exact next (by rw [shtG, bi_ne0.mp k1, bi_ne0.mp k2]; simp [i32_nlt.mpr k4])
        · exact bad (by rw [shtG, bi_ne0.mp k1, bi_ne0.mp k2]; simp [i32_nlt.mp k3, i32_nle.mp k4])
theorem o_M_mark (s p v : Int32) (hs : SOk (σ 111) (σ 112)) : Ci l θ 5 m_M_mark [.inr 95, .inl s, .inl p, .inl v] σ (fun r σ' => r = (mrkF (σ 111) (σ 112) (σ 113) s p v).1 ∧ σ' = upc σ 113 (mrkF (σ 111) (σ 112) (σ 113) s p v).2) := by
  refine Ci.of (Or.inl mi_M_mark) pk_M_mark (nb rfl) (Or.inl rfl) [some (.inr 95), some (.inl s), some (.inl p), some (.inl v)] rfl fun Γ hG hR => ?_
  refine hG.cS lk_M_192 mi_M_isSheet rfl rfl (c_M_isSheet s) rfl rfl rfl rfl rfl rfl ?_
  rintro x σ' ⟨rfl, rfl⟩
  refine hG.br rfl rfl rfl rfl (fun k1 => ?_) (fun k1 => ?_)
  · obtain ⟨S, hS1, hS2, rfl⟩ := inB_ab 0 3 (by omega) (by omega) (bi_ne0.mp k1)
    obtain ⟨hso, Z, hZ, hsz⟩ := hs S (by omega)
    refine hG.ld rfl S rfl rfl rfl rfl rfl (by omega) ?_
    refine hG.br rfl rfl rfl rfl (fun k2 => ?_) (fun k2 => ?_)
    · refine hG.ld rfl S rfl rfl rfl rfl rfl (by omega) ?_
      rw [hsz]
      refine hG.cS lk_M_84 mi_M_in rfl rfl (c_M_in p 0 (nI Z - 1)) rfl rfl rfl rfl rfl rfl ?_
      rintro x σ' ⟨rfl, rfl⟩
      refine hG.br rfl rfl rfl rfl (fun k3 => ?_) (fun k3 => ?_)
      · obtain ⟨P, hP, rfl⟩ := (inB_lt (by omega)).mp (bi_ne0.mp k3)
        have hg : mrkF (σ' 111) (σ' 112) (σ' 113) (nI S) (nI P) v = (match mrkG (σ' 111 S) v with
            | some r => (r, σ' 113)
            | none => (1, upd (σ' 113) (24 * S + P) (if σ' 111 S = 0 then v.toInt16.toInt32 else v))) := by
          rw [mrkF, bi_ne0.mp k1, if_pos rfl, nI_clamp (by omega), if_neg (i32_nlt.mpr k2), hsz, bi_ne0.mp k3, if_pos rfl, nI_clamp (by omega)]
        have fin : mrkG (σ' 111 S) v = none → X Γ 91 [some (.inr 95), some (.inl (nI S)), some (.inl (nI P)), some (.inl v)] [] σ' := by
          intro hm
          rw [hm] at hg
          dsimp only at hg
          refine hG.ld rfl S rfl rfl rfl rfl rfl (by omega) ?_
          refine hG.br rfl rfl rfl rfl (fun k4 => ?_) (fun k4 => ?_)
          · refine hG.sti rfl (24 * S + P) rfl rfl rfl (by simp only [lit_nI, pk_mul, nI_add, nI_1]; first | done | rfl | (congr 1; omega)) (by omega) ?_
            refine hG.rt hR rfl rfl rfl rfl ?_
            rw [hg, if_neg k4]
            exact ⟨rfl, rfl⟩
          · refine hG.sti rfl (24 * S + P) rfl rfl rfl (by simp only [lit_nI, pk_mul, nI_add, nI_1]; first | done | rfl | (congr 1; omega)) (by omega) ?_
            refine hG.rt hR rfl rfl rfl rfl ?_
            rw [hg, if_pos k4]
            exact ⟨rfl, rfl⟩
        have next : ¬ (σ' 111 S = 0 ∧ v = -1000000005) → X Γ 60 [some (.inr 95), some (.inl (nI S)), some (.inl (nI P)), some (.inl v)] [] σ' := by
          intro h0
          refine hG.ld rfl S rfl rfl rfl rfl rfl (by omega) ?_
          refine hG.br rfl rfl rfl rfl (fun k4 => ?_) (fun k4 => ?_)
          · exact fin (by rw [mrkG, if_neg h0, if_neg (fun q => k4 q.1)])
          · refine hG.br rfl rfl rfl rfl (fun k5 => ?_) (fun k5 => ?_)
            · exact fin (by rw [mrkG, if_neg h0, if_neg (fun q => q.2.1 k5)])
            · refine hG.cS lk_M_84 mi_M_in rfl rfl (c_M_in v (-99999) 99999) rfl rfl rfl rfl rfl rfl ?_
              rintro x σ' ⟨rfl, rfl⟩
              refine hG.br rfl rfl rfl rfl (fun k6 => ?_) (fun k6 => ?_)
              · exact fin (by rw [mrkG, if_neg h0, if_neg (fun q => by rw [bi_ne0.mp k6] at q; cases q.2.2)])
              · have hm : mrkG (σ' 111 S) v = some (-1000000001) := by rw [mrkG, if_neg h0, if_pos ⟨k4, k5, bi_eq0.mp k6⟩]
                rw [hm] at hg
                refine hG.rt hR rfl rfl rfl rfl ?_
                rw [hg]
                exact ⟨rfl, (upc_self σ' 113).symm⟩
        refine hG.ld rfl S rfl rfl rfl rfl rfl (by omega) ?_
        refine hG.br rfl rfl rfl rfl (fun k4 => ?_) (fun k4 => ?_)
        · exact next (fun q => k4 q.1)
        · refine hG.br rfl rfl rfl rfl (fun k5 => ?_) (fun k5 => ?_)
          · exact next (fun q => k5 q.2)
          · have hm : mrkG (σ' 111 S) v = some (-1000000012) := by rw [mrkG, if_pos ⟨k4, k5⟩]
            rw [hm] at hg
            refine hG.rt hR rfl rfl rfl rfl ?_
            rw [hg]
            exact ⟨rfl, (upc_self σ' 113).symm⟩
      · refine hG.rt hR rfl rfl rfl rfl ?_
        rw [mrkF, bi_ne0.mp k1, if_pos rfl, nI_clamp (by omega), if_neg (i32_nlt.mpr k2), hsz, bi_eq0.mp k3]
        exact ⟨rfl, (upc_self σ' 113).symm⟩
    · refine hG.rt hR rfl rfl rfl rfl ?_
      rw [mrkF, bi_ne0.mp k1, if_pos rfl, nI_clamp (by omega), if_pos (i32_nle.mp k2)]
      exact ⟨rfl, (upc_self σ' 113).symm⟩
  · refine hG.rt hR rfl rfl rfl rfl ?_
    rw [mrkF, bi_eq0.mp k1]
    exact ⟨rfl, (upc_self σ' 113).symm⟩
end
end
section
def porT (f cs : Nat → Int32) (p : Nat) : Int32 := if cs p = -1000000005 then f (18 + 4 * p + 1) else withinF (cs p) 0 124
def porL (cs : Nat → Int32) (f : Nat → Int32) (p : Nat) : Nat → Nat → (Nat → Int32) × Nat
  | 0, a => (f, a)
  | m + 1, a => porL cs (upd f (18 + 4 * p + 1) (porT f cs p)) (p + 1) m (a + if f (18 + 4 * p + 1) = porT f cs p then 0 else 1)
def porF (f so sz ce : Nat → Int32) (n : Nat) (s : Int32) : Int32 × (Nat → Int32) := if inB s 0 3 then (if so s.toNatClampNeg < 0 then (-1000000011, f) else (nI (porL (fun k => ce (24 * s.toNatClampNeg + k)) f 0 (min (sz s.toNatClampNeg).toNatClampNeg n) 0).2, (porL (fun k => ce (24 * s.toNatClampNeg + k)) f 0 (min (sz s.toNatClampNeg).toNatClampNeg n) 0).1)) else (-1000000001, f)
def rdsF (f cs : Nat → Int32) (n Z : Nat) : Int32 := optN (-1000000005) (fndB (fun k => decide (¬ cs k = -1000000005) && (!decide (k < n) || decide (¬ cs k = f (18 + 4 * k + 1)))) 0 Z)
def rdsR (f so sz ce : Nat → Int32) (n : Nat) (s : Int32) : Int32 := if inB s 0 3 then (if so s.toNatClampNeg < 0 then -1000000011 else rdsF f (fun k => ce (24 * s.toNatClampNeg + k)) n (sz s.toNatClampNeg).toNatClampNeg) else -1000000001
def cpyG (pl at_ many zf zt : Int32) : Bool := decide (0 ≤ pl) && decide (0 ≤ at_) && decide (0 ≤ many) && decide (pl ≤ zf - many) && decide (at_ ≤ zt - many)
def cpyF (so sz ce : Nat → Int32) (fr pl to at_ many : Int32) : Int32 × (Nat → Int32) := if inB fr 0 3 && inB to 0 3 then (if so fr.toNatClampNeg < 0 ∨ so to.toNatClampNeg < 0 then (-1000000011, ce) else if so fr.toNatClampNeg = so to.toNatClampNeg then (if cpyG pl at_ many (sz fr.toNatClampNeg) (sz to.toNatClampNeg) then (many, va_cpy ce ce (24 * fr.toNatClampNeg + pl.toNatClampNeg) (24 * to.toNatClampNeg + at_.toNatClampNeg) many.toNatClampNeg) else (-1000000013, ce)) else (-1000000012, ce)) else (-1000000001, ce)
def layG (s th k : Int32) (n : Nat) : Bool := inB s 0 4 && inB th 0 3 && !(decide (th = 1) && !inB k 0 (nI n - 1)) && !(decide (th = 2) && !inB k 0 3)
def layA (f sz : Nat → Int32) (th k : Int32) : Int32 := if th = 1 then f (18 + 4 * k.toNatClampNeg) else if th = 2 then sz k.toNatClampNeg else k
def layB (f : Nat → Int32) (th k : Int32) : Int32 := if th = 1 then worthK (f (18 + 4 * k.toNatClampNeg)) (f (18 + 4 * k.toNatClampNeg + 1)) else 0
def layC (hc ce : Nat → Int32) (S : Nat) (th k : Int32) : Nat → Int32 := if th = 2 then va_cpy ce hc (24 * k.toNatClampNeg) (24 * S) 24 else hc
def LOk (sl ha : Nat → Int32) : Prop := ∀ s, s < 5 → (sl s = 0 ∨ sl s = 1 ∨ sl s = 2 ∨ sl s = 3) ∧ (sl s = 2 → ∃ k, k ≤ 24 ∧ ha s = nI k)
def askR (sl ha hb : Nat → Int32) (s k : Int32) : Int32 := if inB s 0 4 && inB k 0 5 then (if sl s.toNatClampNeg = 0 then -1000000011 else if sl s.toNatClampNeg = 1 ∧ underK (ha s.toNatClampNeg) k = true then hb s.toNatClampNeg else -1000000012) else -1000000001
def itmR (sl ha hc : Nat → Int32) (s p : Int32) : Int32 := if inB s 0 4 then (if sl s.toNatClampNeg = 0 then -1000000011 else if ¬ sl s.toNatClampNeg = 2 then -1000000012 else if inB p 0 (ha s.toNatClampNeg - 1) then (if hc (24 * s.toNatClampNeg + p.toNatClampNeg) = -1000000005 then -1000000012 else hc (24 * s.toNatClampNeg + p.toNatClampNeg)) else -1000000013) else -1000000001
def rstR (sl ha : Nat → Int32) (s k : Int32) : Int32 := if inB s 0 4 then (if sl s.toNatClampNeg = 0 then -1000000011 else if ¬ sl s.toNatClampNeg = 3 then -1000000012 else if k = 0 then -1000000002 else if k = -1 then 0 else rmI (ha s.toNatClampNeg) k) else -1000000001
theorem cpyG_ok {pl at_ many : Int32} {zf zt : Nat} (h1 : zf ≤ 24) (h2 : zt ≤ 24) (h : cpyG pl at_ many (nI zf) (nI zt) = true) : ∃ P A m : Nat, pl = nI P ∧ at_ = nI A ∧ many = nI m ∧ P + m ≤ zf ∧ A + m ≤ zt := by
  simp only [cpyG, Bool.and_eq_true, decide_eq_true_eq] at h
  obtain ⟨⟨⟨⟨a1, a2⟩, a3⟩, a4⟩, a5⟩ := h
  obtain ⟨P, hP, rfl⟩ := nI_of (i32_nlt.mpr a1)
  obtain ⟨A, hA, rfl⟩ := nI_of (i32_nlt.mpr a2)
  obtain ⟨m, hm, rfl⟩ := nI_of (i32_nlt.mpr a3)
  have key : ∀ z q : Nat, z ≤ 24 → q < 2 ^ 31 → nI q ≤ nI z - nI m → q + m ≤ z := by
    intro z q hz hq hle
    by_cases hmz : m ≤ z
    · rw [pk_sub hmz] at hle
      have := (nI_leI hq (by omega)).mp hle
      omega
    · exfalso
      have h3 := Int32.le_iff_toInt_le.mp hle
      have h4 : (nI z - nI m).toInt = (z : Int) - m := by
        rw [Int32.toInt_sub, nI_toInt (show z < 2 ^ 31 by omega), nI_toInt hm]
        apply Int.bmod_eq_of_le <;> omega
      rw [h4, nI_toInt hq] at h3
      omega
  exact ⟨P, A, m, rfl, rfl, rfl, key zf P h1 hP a4, key zt A h2 hA a5⟩
section
variable {l : Launch} {θ : Th} {σ : Sg} {n c t y : Nat}
theorem o_M_pour (s : Int32) (hf : FOk (σ 96) n c t y) (hs : SOk (σ 111) (σ 112)) : Ci l θ 5 m_M_pour [.inr 95, .inl s] σ (fun r σ' => r = (porF (σ 96) (σ 111) (σ 112) (σ 113) n s).1 ∧ σ' = upc σ 96 (porF (σ 96) (σ 111) (σ 112) (σ 113) n s).2) := by
  obtain ⟨h1, hn, h4, hc, h5, ht, h2, h2y, hT, hW⟩ := hf
  refine Ci.of (Or.inl mi_M_pour) pk_M_pour (nb rfl) (Or.inl rfl) [some (.inr 95), some (.inl s), none, none, none, none] rfl fun Γ hG hR => ?_
  refine hG.cS lk_M_192 mi_M_isSheet rfl rfl (c_M_isSheet s) rfl rfl rfl rfl rfl rfl ?_
  rintro x σ' ⟨rfl, rfl⟩
  refine hG.br rfl rfl rfl rfl (fun k1 => ?_) (fun k1 => ?_)
  · obtain ⟨S, hS1, hS2, rfl⟩ := inB_ab 0 3 (by omega) (by omega) (bi_ne0.mp k1)
    obtain ⟨hso, Z, hZ, hsz⟩ := hs S (by omega)
    refine hG.ld rfl S rfl rfl rfl rfl rfl (by omega) ?_
    refine hG.br rfl rfl rfl rfl (fun k2 => ?_) (fun k2 => ?_)
    · have hg : porF (σ' 96) (σ' 111) (σ' 112) (σ' 113) n (nI S) = (nI (porL (fun k => σ' 113 (24 * S + k)) (σ' 96) 0 (min Z n) 0).2, (porL (fun k => σ' 113 (24 * S + k)) (σ' 96) 0 (min Z n) 0).1) := by
        rw [porF, bi_ne0.mp k1, if_pos rfl, nI_clamp (by omega), if_neg (i32_nlt.mpr k2), hsz, nI_clamp (by omega)]
      have loop : ∀ m p a, p + m = min Z n → ∀ (g : Nat → Int32) (w4 w5 : Option AV), g 1 = nI n → porL (fun k => σ' 113 (24 * S + k)) (σ' 96) 0 (min Z n) 0 = porL (fun k => σ' 113 (24 * S + k)) g p m a → X Γ 26 [some (.inr 95), some (.inl (nI S)), some (.inl (nI a)), some (.inl (nI p)), w4, w5] [] (upc σ' 96 g) := by
        intro m
        induction m with
        | zero =>
          intro p a hp g w4 w5 g1 he
          have fin : X Γ 118 [some (.inr 95), some (.inl (nI S)), some (.inl (nI a)), some (.inl (nI p)), w4, w5] [] (upc σ' 96 g) := by
            refine hG.rt hR rfl rfl rfl rfl ?_
            rw [hg, he]
            exact ⟨rfl, rfl⟩
          refine hG.ld rfl S rfl rfl rfl rfl rfl (by omega) ?_
          rw [upc_c _ _ _ (show 112 ≠ 96 by decide), hsz]
          refine hG.br rfl rfl rfl rfl (fun k3 => ?_) (fun k3 => ?_)
          · exact fin
          · refine hG.ld rfl 1 rfl rfl rfl rfl rfl (by decide) ?_
            rw [upc_same, g1]
            refine hG.br rfl rfl rfl rfl (fun k4 => ?_) (fun k4 => ?_)
            · exact fin
            · exfalso
              have q1 : ¬ Z ≤ p := fun q => k3 (nI_le q (by omega))
              have q2 : ¬ n ≤ p := fun q => k4 (nI_le q (by omega))
              omega
        | succ m ih =>
          intro p a hp g w4 w5 g1 he
          have he : porL (fun k => σ' 113 (24 * S + k)) (σ' 96) 0 (min Z n) 0 = porL (fun k => σ' 113 (24 * S + k)) (upd g (18 + 4 * p + 1) (porT g (fun k => σ' 113 (24 * S + k)) p)) (p + 1) m (a + if g (18 + 4 * p + 1) = porT g (fun k => σ' 113 (24 * S + k)) p then 0 else 1) := he
          have j83 : X Γ 83 [some (.inr 95), some (.inl (nI S)), some (.inl (nI a)), some (.inl (nI p)), some (.inl (σ' 113 (24 * S + p))), w5] [.inl (porT g (fun k => σ' 113 (24 * S + k)) p)] (upc σ' 96 g) := by
            generalize porT g (fun k => σ' 113 (24 * S + k)) p = z at he
            have e : 18 + 4 * nI p + 1 = nI (18 + 4 * p + 1) := (by simp only [lit_nI, pk_mul, nI_add, nI_1]; first | done | rfl | (congr 1; omega))
            refine hG.go 11 rfl rfl ?_
            rw [e]
            refine hG.cV lk_M_121 mi_M_becomes rfl rfl (c_M_becomes (18 + 4 * p + 1) z (by omega)) rfl rfl rfl rfl rfl rfl rfl rfl ?_
            rintro x τ ⟨rfl, rfl⟩
            rw [up_upc, upc_same]
            refine hG.br rfl rfl rfl rfl (fun k5 => ?_) (fun k5 => ?_)
            · rw [if_neg k5] at he
              refine hG.jp rfl rfl rfl ?_
              rw [nI_1, nI_1]
              exact ih (p + 1) (a + 1) (by omega) _ _ _ (by rw [upd_ne (by omega)]; exact g1) he
            · rw [if_pos k5] at he
              refine hG.jp rfl rfl rfl ?_
              rw [nI_1, show nI a + 0 = nI (a + 0) from nI_add a 0]
              exact ih (p + 1) (a + 0) (by omega) _ _ _ (by rw [upd_ne (by omega)]; exact g1) he
          refine hG.ld rfl S rfl rfl rfl rfl rfl (by omega) ?_
          rw [upc_c _ _ _ (show 112 ≠ 96 by decide), hsz]
          refine hG.br rfl rfl rfl rfl (fun k3 => ?_) (fun k3 => ?_)
          · exact absurd k3 (nI_ge (by omega) (by omega))
          · refine hG.ld rfl 1 rfl rfl rfl rfl rfl (by decide) ?_
            rw [upc_same, g1]
            refine hG.br rfl rfl rfl rfl (fun k4 => ?_) (fun k4 => ?_)
            · exact absurd k4 (nI_ge (by omega) (by omega))
            · refine hG.ld rfl (24 * S + p) rfl rfl rfl rfl (by simp only [lit_nI, pk_mul, nI_add, nI_1]; first | done | rfl | (congr 1; omega)) (by omega) ?_
              rw [upc_c _ _ _ (show 113 ≠ 96 by decide)]
              refine hG.br rfl rfl rfl rfl (fun k5 => ?_) (fun k5 => ?_)
              · refine hG.cS lk_M_174 mi_M_within rfl rfl (c_M_within _ 0 124) rfl rfl rfl rfl rfl rfl ?_
                rintro x τ ⟨rfl, rfl⟩
                rw [porT, if_neg k5] at j83
                exact j83
              · refine hG.cV lk_M_88 mi_M_of rfl rfl (c_M_of p 1 (by omega)) rfl rfl rfl rfl rfl rfl rfl rfl ?_
                rintro x τ ⟨rfl, rfl⟩
                rw [upc_same]
                rw [porT, if_pos k5] at j83
                exact hG.go 1 rfl rfl j83
      have := loop (min Z n) 0 0 (by omega) (σ' 96) none none h1 rfl
      rw [upc_self] at this
      exact hG.go 4 rfl rfl this
    · refine hG.rt hR rfl rfl rfl rfl ?_
      rw [porF, bi_ne0.mp k1, if_pos rfl, nI_clamp (by omega), if_pos (i32_nle.mp k2)]
      exact ⟨rfl, (upc_self σ' 96).symm⟩
  · refine hG.rt hR rfl rfl rfl rfl ?_
    rw [porF, bi_eq0.mp k1]
    exact ⟨rfl, (upc_self σ' 96).symm⟩
theorem o_M_reads (s : Int32) (hf : FOk (σ 96) n c t y) (hs : SOk (σ 111) (σ 112)) : Ci l θ 5 m_M_reads [.inr 95, .inl s] σ (fun r σ' => r = rdsR (σ 96) (σ 111) (σ 112) (σ 113) n s ∧ σ' = σ) := by
  obtain ⟨h1, hn, h4, hc, h5, ht, h2, h2y, hT, hW⟩ := hf
  refine Ci.of (Or.inl mi_M_reads) pk_M_reads (nb rfl) (Or.inl rfl) [some (.inr 95), some (.inl s), none, none] rfl fun Γ hG hR => ?_
  refine hG.cS lk_M_192 mi_M_isSheet rfl rfl (c_M_isSheet s) rfl rfl rfl rfl rfl rfl ?_
  rintro x σ' ⟨rfl, rfl⟩
  refine hG.br rfl rfl rfl rfl (fun k1 => ?_) (fun k1 => ?_)
  · obtain ⟨S, hS1, hS2, rfl⟩ := inB_ab 0 3 (by omega) (by omega) (bi_ne0.mp k1)
    obtain ⟨hso, Z, hZ, hsz⟩ := hs S (by omega)
    refine hG.ld rfl S rfl rfl rfl rfl rfl (by omega) ?_
    refine hG.br rfl rfl rfl rfl (fun k2 => ?_) (fun k2 => ?_)
    · have hg : rdsR (σ' 96) (σ' 111) (σ' 112) (σ' 113) n (nI S) = rdsF (σ' 96) (fun k => σ' 113 (24 * S + k)) n Z := by
        rw [rdsR, bi_ne0.mp k1, if_pos rfl, nI_clamp (by omega), if_neg (i32_nlt.mpr k2), hsz, nI_clamp (by omega)]
      generalize hP : (fun k => decide (¬ σ' 113 (24 * S + k) = -1000000005) && (!decide (k < n) || decide (¬ σ' 113 (24 * S + k) = σ' 96 (18 + 4 * k + 1)))) = P
      have hg2 : rdsF (σ' 96) (fun k => σ' 113 (24 * S + k)) n Z = optN (-1000000005) (fndB P 0 Z) := by rw [rdsF, ← hP]
      have loop : ∀ m k, k + m = Z → ∀ w : Option AV, fndB P 0 Z = fndB P k m → X Γ 24 [some (.inr 95), some (.inl (nI S)), some (.inl (nI k)), w] [] σ' := by
        intro m
        induction m with
        | zero =>
          intro k hk w he
          refine hG.ld rfl S rfl rfl rfl rfl rfl (by omega) ?_
          rw [hsz]
          refine hG.br rfl rfl rfl rfl (fun k3 => ?_) (fun k3 => ?_)
          · refine hG.rt hR rfl rfl rfl rfl ?_
            exact ⟨by rw [hg, hg2, he]; rfl, rfl⟩
          · exact absurd (nI_le (show Z ≤ k by omega) (by omega)) k3
        | succ m ih =>
          intro k hk w he
          rw [fndB_s _ _ m] at he
          have hPk : P k = (decide (¬ σ' 113 (24 * S + k) = -1000000005) && (!decide (k < n) || decide (¬ σ' 113 (24 * S + k) = σ' 96 (18 + 4 * k + 1)))) := by rw [← hP]
          have found : P k = true → X Γ 70 [some (.inr 95), some (.inl (nI S)), some (.inl (nI k)), some (.inl (σ' 113 (24 * S + k)))] [] σ' := by
            intro hp
            refine hG.rt hR rfl rfl rfl rfl ?_
            exact ⟨by rw [hg, hg2, he, hp]; rfl, rfl⟩
          have next : P k = false → X Γ 72 [some (.inr 95), some (.inl (nI S)), some (.inl (nI k)), some (.inl (σ' 113 (24 * S + k)))] [] σ' := by
            intro hp
            refine hG.jp rfl rfl rfl ?_
            rw [nI_1]
            exact ih (k + 1) (by omega) _ (by rw [he, hp]; rfl)
          refine hG.ld rfl S rfl rfl rfl rfl rfl (by omega) ?_
          rw [hsz]
          refine hG.br rfl rfl rfl rfl (fun k3 => ?_) (fun k3 => ?_)
          · exact absurd k3 (nI_ge (by omega) (by omega))
          · refine hG.ld rfl (24 * S + k) rfl rfl rfl rfl (by simp only [lit_nI, pk_mul, nI_add, nI_1]; first | done | rfl | (congr 1; omega)) (by omega) ?_
            refine hG.br rfl rfl rfl rfl (fun k4 => ?_) (fun k4 => ?_)
            · exact next (by rw [hPk]; simp [k4])
            · refine hG.cV lk_M_106 mi_M_isOne rfl rfl (c_M_isOne (nI k)) rfl rfl rfl rfl rfl rfl rfl rfl ?_
              rintro x σ' ⟨rfl, rfl⟩
              rw [h1]
              refine hG.br rfl rfl rfl rfl (fun k5 => ?_) (fun k5 => ?_)
              · have hkn : ¬ k < n := fun q => by
                  have := (inB_one hn).mpr ⟨k, q, rfl⟩
                  rw [this] at k5; exact absurd k5 (by decide)
                exact found (by rw [hPk]; simp [k4, hkn])
              · obtain ⟨q, hq1, hq2⟩ := (inB_one hn).mp (bi_ne0.mp k5)
                have hkn : k < n := by rw [(nI_eq (by omega) (by omega)).mp hq2]; exact hq1
                refine hG.cV lk_M_88 mi_M_of rfl rfl (c_M_of k 1 (by omega)) rfl rfl rfl rfl rfl rfl rfl rfl ?_
                rintro x σ' ⟨rfl, rfl⟩
                refine hG.br rfl rfl rfl rfl (fun k6 => ?_) (fun k6 => ?_)
                · exact next (by rw [hPk]; simp [hkn, k6])
                · exact found (by rw [hPk]; simp [k4, k6])
      exact hG.go 2 rfl rfl (loop Z 0 (by omega) none rfl)
    · refine hG.rt hR rfl rfl rfl rfl ?_
      exact ⟨by rw [rdsR, bi_ne0.mp k1, if_pos rfl, nI_clamp (by omega), if_pos (i32_nle.mp k2)], rfl⟩
  · refine hG.rt hR rfl rfl rfl rfl ?_
    exact ⟨by rw [rdsR, bi_eq0.mp k1]; rfl, rfl⟩
theorem o_M_copy (fr pl to at_ many : Int32) (hs : SOk (σ 111) (σ 112)) : Ci l θ 5 m_M_copy [.inr 95, .inl fr, .inl pl, .inl to, .inl at_, .inl many] σ (fun r σ' => r = (cpyF (σ 111) (σ 112) (σ 113) fr pl to at_ many).1 ∧ σ' 113 = (cpyF (σ 111) (σ 112) (σ 113) fr pl to at_ many).2 ∧ Sm [113, 118] σ σ') := by
  refine Ci.of (Or.inl mi_M_copy) pk_M_copy (nb rfl) (Or.inl rfl) [some (.inr 95), some (.inl fr), some (.inl pl), some (.inl to), some (.inl at_), some (.inl many), none] rfl fun Γ hG hR => ?_
  have bad : (inB fr 0 3 && inB to 0 3) = false → X Γ 14 [some (.inr 95), some (.inl fr), some (.inl pl), some (.inl to), some (.inl at_), some (.inl many), none] [] σ := by
    intro hb
    refine hG.rt hR rfl rfl rfl rfl ?_
    rw [cpyF, hb]
    exact ⟨rfl, rfl, Sm.rf⟩
  refine hG.cS lk_M_192 mi_M_isSheet rfl rfl (c_M_isSheet fr) rfl rfl rfl rfl rfl rfl ?_
  rintro x σ' ⟨rfl, rfl⟩
  refine hG.br rfl rfl rfl rfl (fun k1 => ?_) (fun k1 => ?_)
  · exact bad (by rw [bi_eq0.mp k1]; rfl)
  · refine hG.cS lk_M_192 mi_M_isSheet rfl rfl (c_M_isSheet to) rfl rfl rfl rfl rfl rfl ?_
    rintro x σ' ⟨rfl, rfl⟩
    refine hG.br rfl rfl rfl rfl (fun k2 => ?_) (fun k2 => ?_)
    · obtain ⟨F, hF1, hF2, rfl⟩ := inB_ab 0 3 (by omega) (by omega) (bi_ne0.mp k1)
      obtain ⟨T, hT1, hT2, rfl⟩ := inB_ab 0 3 (by omega) (by omega) (bi_ne0.mp k2)
      obtain ⟨-, zf, hzf, hszf⟩ := hs F (by omega)
      obtain ⟨-, zt, hzt, hszt⟩ := hs T (by omega)
      have hg : cpyF (σ' 111) (σ' 112) (σ' 113) (nI F) pl (nI T) at_ many = if σ' 111 F < 0 ∨ σ' 111 T < 0 then (-1000000011, σ' 113) else if σ' 111 F = σ' 111 T then (if cpyG pl at_ many (nI zf) (nI zt) then (many, va_cpy (σ' 113) (σ' 113) (24 * F + pl.toNatClampNeg) (24 * T + at_.toNatClampNeg) many.toNatClampNeg) else (-1000000013, σ' 113)) else (-1000000012, σ' 113) := by
        rw [cpyF, bi_ne0.mp k1, bi_ne0.mp k2, Bool.and_self, if_pos rfl, nI_clamp (by omega), nI_clamp (by omega), hszf, hszt]
      have noth : σ' 111 F < 0 ∨ σ' 111 T < 0 → X Γ 35 [some (.inr 95), some (.inl (nI F)), some (.inl pl), some (.inl (nI T)), some (.inl at_), some (.inl many), none] [] σ' := by
        intro h
        refine hG.rt hR rfl rfl rfl rfl ?_
        rw [hg, if_pos h]
        exact ⟨rfl, rfl, Sm.rf⟩
      refine hG.ld rfl F rfl rfl rfl rfl rfl (by omega) ?_
      refine hG.br rfl rfl rfl rfl (fun k3 => ?_) (fun k3 => ?_)
      · exact noth (Or.inl k3)
      · refine hG.ld rfl T rfl rfl rfl rfl rfl (by omega) ?_
        refine hG.br rfl rfl rfl rfl (fun k4 => ?_) (fun k4 => ?_)
        · have hno : ¬ (σ' 111 F < 0 ∨ σ' 111 T < 0) := fun q => q.elim k3 (i32_nlt.mpr k4)
          rw [if_neg hno] at hg
          refine hG.ld rfl F rfl rfl rfl rfl rfl (by omega) ?_
          refine hG.ld rfl T rfl rfl rfl rfl rfl (by omega) ?_
          refine hG.br rfl rfl rfl rfl (fun k5 => ?_) (fun k5 => ?_)
          · rw [if_pos k5] at hg
            have idx : cpyG pl at_ many (nI zf) (nI zt) = false → X Γ 97 [some (.inr 95), some (.inl (nI F)), some (.inl pl), some (.inl (nI T)), some (.inl at_), some (.inl many), none] [] σ' := by
              intro h
              refine hG.rt hR rfl rfl rfl rfl ?_
              rw [hg, h]
              exact ⟨rfl, rfl, Sm.rf⟩
            refine hG.br rfl rfl rfl rfl (fun q1 => ?_) (fun q1 => ?_)
            · exact idx (by simp [cpyG, i32_nle.mpr q1])
            · refine hG.br rfl rfl rfl rfl (fun q2 => ?_) (fun q2 => ?_)
              · exact idx (by simp [cpyG, i32_nle.mpr q2])
              · refine hG.br rfl rfl rfl rfl (fun q3 => ?_) (fun q3 => ?_)
                · exact idx (by simp [cpyG, i32_nle.mpr q3])
                · refine hG.ld rfl F rfl rfl rfl rfl rfl (by omega) ?_
                  rw [hszf]
                  refine hG.br rfl rfl rfl rfl (fun q4 => ?_) (fun q4 => ?_)
                  · exact idx (by simp [cpyG, i32_nle.mpr q4])
                  · refine hG.ld rfl T rfl rfl rfl rfl rfl (by omega) ?_
                    rw [hszt]
                    refine hG.br rfl rfl rfl rfl (fun q5 => ?_) (fun q5 => ?_)
                    · have hok : cpyG pl at_ many (nI zf) (nI zt) = true := by simp [cpyG, i32_nlt.mp q1, i32_nlt.mp q2, i32_nlt.mp q3, i32_nlt.mp q4, q5]
                      obtain ⟨P, A, m0, rfl, rfl, rfl, hPm, hAm⟩ := cpyG_ok hzf hzt hok
                      rw [hok, if_pos rfl, nI_clamp (by omega), nI_clamp (by omega), nI_clamp (by omega)] at hg
                      have loop2 : ∀ m k, k + m = m0 → ∀ τ : Sg, Sm [113, 118] σ' τ → (∀ j, j < m0 → τ 118 j = σ' 113 (24 * F + P + j)) → τ 113 = va_cpy (σ' 113) (σ' 113) (24 * F + P) (24 * T + A) k → X Γ 141 [some (.inr 95), some (.inl (nI F)), some (.inl (nI P)), some (.inl (nI T)), some (.inl (nI A)), some (.inl (nI m0)), some (.inl (nI k))] [] τ := by
                        intro m
                        induction m with
                        | zero =>
                          intro k hk τ hS e118 e113
                          have hk : k = m0 := by omega
                          subst hk
                          refine hG.br rfl rfl rfl rfl (fun k6 => ?_) (fun k6 => ?_)
                          · refine hG.rt hR rfl rfl rfl rfl ?_
                            rw [hg]
                            exact ⟨rfl, e113, hS⟩
                          · exact absurd (nI_le (Nat.le_refl _) (by omega)) k6
                        | succ m ih =>
                          intro k hk τ hS e118 e113
                          refine hG.br rfl rfl rfl rfl (fun k6 => ?_) (fun k6 => ?_)
                          · exact absurd k6 (nI_ge (by omega) (by omega))
                          · refine hG.ld rfl k rfl rfl rfl rfl rfl (by omega) ?_
                            rw [e118 k (by omega)]
                            refine hG.sti rfl (24 * T + A + k) rfl rfl rfl (by simp only [lit_nI, pk_mul, nI_add, nI_1]; first | done | rfl | (congr 1; omega)) (by omega) ?_
                            refine hG.jp rfl rfl rfl ?_
                            rw [nI_1]
                            refine ih (k + 1) (by omega) _ (hS.up (by decide)) (fun j hj => by rw [up_c _ _ _ _ (show 118 ≠ 113 by decide)]; exact e118 j hj) ?_
                            rw [up_same, e113]
                            funext j
                            simp only [upd, va_cpy]
                            by_cases hj : j = 24 * T + A + k
                            · subst hj
                              rw [if_pos rfl, if_pos ⟨by omega, by omega⟩, show 24 * T + A + k - (24 * T + A) = k by omega]
                            · rw [if_neg hj]
                              by_cases hq : 24 * T + A ≤ j ∧ j < 24 * T + A + k
                              · rw [if_pos hq, if_pos ⟨hq.1, by omega⟩]
                              · rw [if_neg hq, if_neg (fun q => hq ⟨q.1, by omega⟩)]
                      have loop1 : ∀ m k, k + m = m0 → ∀ τ : Sg, Sm [118] σ' τ → (∀ j, j < k → τ 118 j = σ' 113 (24 * F + P + j)) → X Γ 104 [some (.inr 95), some (.inl (nI F)), some (.inl (nI P)), some (.inl (nI T)), some (.inl (nI A)), some (.inl (nI m0)), some (.inl (nI k))] [] τ := by
                        intro m
                        induction m with
                        | zero =>
                          intro k hk τ hS e118
                          have hk : k = m0 := by omega
                          subst hk
                          refine hG.br rfl rfl rfl rfl (fun k6 => ?_) (fun k6 => ?_)
                          · refine hG.go 2 rfl rfl (loop2 k 0 (by omega) τ (hS.mono (by decide)) e118 ?_)
                            rw [hS 113 (by decide)]
                            funext j
                            simp only [va_cpy]
                            rw [if_neg (by omega)]
                          · exact absurd (nI_le (Nat.le_refl _) (by omega)) k6
                        | succ m ih =>
                          intro k hk τ hS e118
                          refine hG.br rfl rfl rfl rfl (fun k6 => ?_) (fun k6 => ?_)
                          · exact absurd k6 (nI_ge (by omega) (by omega))
                          · refine hG.ld rfl (24 * F + P + k) rfl rfl rfl rfl (by simp only [lit_nI, pk_mul, nI_add, nI_1]; first | done | rfl | (congr 1; omega)) (by omega) ?_
                            rw [hS 113 (by decide)]
                            refine hG.sti rfl k rfl rfl rfl rfl (by omega) ?_
                            refine hG.jp rfl rfl rfl ?_
                            rw [nI_1]
                            refine ih (k + 1) (by omega) _ (hS.up (by decide)) (fun j hj => ?_)
                            rw [up_same]
                            by_cases hjk : j = k
                            · subst hjk; rw [upd_same]
                            · rw [upd_ne hjk]; exact e118 j (by omega)
                      exact hG.go 2 rfl rfl (loop1 m0 0 (by omega) σ' Sm.rf (fun j hj => by omega))
                    · exact idx (by simp [cpyG, q5])
          · refine hG.rt hR rfl rfl rfl rfl ?_
            rw [hg, if_neg k5]
            exact ⟨rfl, rfl, Sm.rf⟩
        · exact noth (Or.inr (i32_nle.mp k4))
    · exact bad (by rw [bi_eq0.mp k2]; simp)
end
end
section
def chkL (te : Nat → Int32) (many : Nat) (n t : Nat) (f : Nat → Int32) (k : Nat) : Nat → Nat
  | 0 => 2 * k
  | m + 1 => if 2 * k < many ∧ te (2 * k) = nI (sumB (aliveF (yearF f n t).1) 0 n) then (if 2 * k + 1 < many ∧ te (2 * k + 1) = manyF (yearF f n t).1 n t then chkL te many n t (yearF f n t).1 (k + 1) m else 2 * k + 1) else 2 * k
def chkR (te : Nat → Int32) (many n t y : Nat) (f : Nat → Int32) (h : Bool) (k : Int32) : Int32 := if inB k 1 30 then (if h then (if chkL te many n t f 0 (min k.toNatClampNeg (9999 - y)) = many ∧ chkL te many n t f 0 (min k.toNatClampNeg (9999 - y)) = 2 * min k.toNatClampNeg (9999 - y) then 0 else nI (1 + chkL te many n t f 0 (min k.toNatClampNeg (9999 - y)))) else -1000000002) else -1000000001
theorem FOk_congr {f g : Nat → Int32} {n c t y : Nat} (h : FOk f n c t y) (he : ∀ k, k < 1430 → g k = f k) : FOk g n c t y := by
  obtain ⟨h1, hn, h4, hc, h5, ht, h2, h2y, hT, hW⟩ := h
  refine ⟨by rw [he _ (by omega)]; exact h1, hn, by rw [he _ (by omega)]; exact h4, hc, by rw [he _ (by omega)]; exact h5, ht, by rw [he _ (by omega)]; exact h2, h2y, fun i hi => ?_, fun i hi => ?_⟩
  · obtain ⟨ky, ln, a1, a2, a3⟩ := hT i hi
    refine ⟨ky, ln, by rw [he _ (by omega)]; exact a1, a2, CdOk_congr a3 (fun j hj => ?_)⟩
    have := a3.1
    exact he _ (by omega)
  · rw [he _ (by omega)]; exact hW i hi
section
variable {l : Launch} {θ : Th} {σ : Sg} {n c t y : Nat}
theorem o_M_lay (s th k : Int32) (hf : FOk (σ 96) n c t y) : Ci l θ 5 m_M_lay [.inr 95, .inl s, .inl th, .inl k] σ (fun r σ' => (layG s th k n = false → r = -1000000001 ∧ σ' = σ) ∧ (layG s th k n = true → (th = 2 ∧ σ 111 k.toNatClampNeg < 0) → r = -1000000011 ∧ σ' = σ) ∧ (layG s th k n = true → ¬ (th = 2 ∧ σ 111 k.toNatClampNeg < 0) → r = σ 114 s.toNatClampNeg ∧ σ' = upc (up (up (up σ 114 s.toNatClampNeg th) 115 s.toNatClampNeg (layA (σ 96) (σ 112) th k)) 116 s.toNatClampNeg (layB (σ 96) th k)) 117 (layC (σ 117) (σ 113) s.toNatClampNeg th k))) := by
  obtain ⟨h1, hn, -⟩ := hf
  refine Ci.of (Or.inl mi_M_lay) pk_M_lay (nb rfl) (Or.inl rfl) [some (.inr 95), some (.inl s), some (.inl th), some (.inl k), none, none] rfl fun Γ hG hR => ?_
  have bad : layG s th k n = false → X Γ 41 [some (.inr 95), some (.inl s), some (.inl th), some (.inl k), none, none] [] σ := by
    intro hb
    refine hG.rt hR rfl rfl rfl rfl ?_
    exact ⟨fun _ => ⟨rfl, rfl⟩, fun e => (by rw [hb] at e; cases e), fun e => (by rw [hb] at e; cases e)⟩
  refine hG.cS lk_M_270 mi_M_isSlot rfl rfl (c_M_isSlot s) rfl rfl rfl rfl rfl rfl ?_
  rintro x σ' ⟨rfl, rfl⟩
  refine hG.br rfl rfl rfl rfl (fun k1 => ?_) (fun k1 => ?_)
  · exact bad (by rw [layG, bi_eq0.mp k1]; rfl)
  · obtain ⟨S, hS1, hS2, rfl⟩ := inB_ab 0 4 (by omega) (by omega) (bi_ne0.mp k1)
    rw [nI_clamp (show S < 2 ^ 31 by omega)] at hR
    refine hG.cS lk_M_84 mi_M_in rfl rfl (c_M_in th 0 3) rfl rfl rfl rfl rfl rfl ?_
    rintro x σ' ⟨rfl, rfl⟩
    refine hG.br rfl rfl rfl rfl (fun k2 => ?_) (fun k2 => ?_)
    · exact bad (by rw [layG, bi_eq0.mp k2]; simp)
    · -- from 61 on
      have main : layG (nI S) th k n = true → ¬ (th = 2 ∧ σ' 111 k.toNatClampNeg < 0) → X Γ 61 [some (.inr 95), some (.inl (nI S)), some (.inl th), some (.inl k), none, none] [] σ' := by
        intro hg hno
        refine hG.ld rfl S rfl rfl rfl rfl rfl (by omega) ?_
        refine hG.sti rfl S rfl rfl rfl rfl (by omega) ?_
        have j110 : X Γ 110 [some (.inr 95), some (.inl (nI S)), some (.inl th), some (.inl k), some (.inl (σ' 114 S)), none] [.inl (layA (σ' 96) (σ' 112) th k), .inl (nI S), .inr 115] (up σ' 114 S th) := by
          refine hG.sti rfl S rfl rfl rfl rfl (by omega) ?_
          have j130 : X Γ 130 [some (.inr 95), some (.inl (nI S)), some (.inl th), some (.inl k), some (.inl (σ' 114 S)), none] [.inl (layB (σ' 96) th k), .inl (nI S), .inr 116] (up (up σ' 114 S th) 115 S (layA (σ' 96) (σ' 112) th k)) := by
            refine hG.sti rfl S rfl rfl rfl rfl (by omega) ?_
            generalize hτ : up (up (up σ' 114 S th) 115 S (layA (σ' 96) (σ' 112) th k)) 116 S (layB (σ' 96) th k) = τ
            have e117 : τ 117 = σ' 117 := by rw [← hτ, up_c _ _ _ _ (by decide), up_c _ _ _ _ (by decide), up_c _ _ _ _ (by decide)]
            have e113 : τ 113 = σ' 113 := by rw [← hτ, up_c _ _ _ _ (by decide), up_c _ _ _ _ (by decide), up_c _ _ _ _ (by decide)]
            have fin : ∀ (g : Nat → Int32) (w5 : Option AV), g = layC (σ' 117) (σ' 113) S th k → X Γ 176 [some (.inr 95), some (.inl (nI S)), some (.inl th), some (.inl k), some (.inl (σ' 114 S)), w5] [] (upc τ 117 g) := by
              rintro g w5 rfl
              refine hG.rt hR rfl rfl rfl rfl ?_
              exact ⟨fun e => (by rw [hg] at e; cases e), fun _ e => absurd e hno, fun _ _ => ⟨rfl, by rw [hτ]⟩⟩
            by_cases hth : th = 2
            · subst hth
              have hK : inB k 0 3 = true := by
                cases hk3 : inB k 0 3 with
                | true => rfl
                | false => rw [layG, hk3] at hg; simp at hg
              obtain ⟨K, hK1, hK2, rfl⟩ := inB_ab 0 3 (by omega) (by omega) hK
              have hlc : layC (σ' 117) (σ' 113) S 2 (nI K) = va_cpy (σ' 113) (σ' 117) (24 * K) (24 * S) 24 := by rw [layC, if_pos rfl, nI_clamp (by omega)]
              rw [hlc] at fin
              have loop : ∀ m j, j + m = 24 → X Γ 134 [some (.inr 95), some (.inl (nI S)), some (.inl 2), some (.inl (nI K)), some (.inl (σ' 114 S)), some (.inl (nI j))] [] (upc τ 117 (va_cpy (σ' 113) (σ' 117) (24 * K) (24 * S) j)) := by
                intro m
                induction m with
                | zero =>
                  intro j hj
                  have hj : j = 24 := by omega
                  subst hj
                  refine hG.br rfl rfl rfl rfl (fun k3 => ?_) (fun k3 => ?_)
                  · exact fin _ _ rfl
                  · exact absurd (show nI 24 ≤ nI 24 from nI_le (Nat.le_refl _) (by omega)) k3
                | succ m ih =>
                  intro j hj
                  refine hG.br rfl rfl rfl rfl (fun k3 => ?_) (fun k3 => ?_)
                  · exact absurd (show nI 24 ≤ nI j from k3) (nI_ge (by omega) (by omega))
                  · refine hG.br rfl rfl rfl rfl (fun k4 => ?_) (fun k4 => ?_)
                    · exact absurd rfl k4
                    · refine hG.ld rfl (24 * K + j) rfl rfl rfl rfl (by simp only [lit_nI, pk_mul, nI_add, nI_1]; first | done | rfl | (congr 1; omega)) (by omega) ?_
                      rw [upc_c _ _ _ (show 113 ≠ 117 by decide), e113]
                      refine hG.sti rfl (24 * S + j) rfl rfl rfl (by simp only [lit_nI, pk_mul, nI_add, nI_1]; first | done | rfl | (congr 1; omega)) (by omega) ?_
                      refine hG.jp rfl rfl rfl ?_
                      rw [nI_1, up_upc]
                      have e : upd (va_cpy (σ' 113) (σ' 117) (24 * K) (24 * S) j) (24 * S + j) (σ' 113 (24 * K + j)) = va_cpy (σ' 113) (σ' 117) (24 * K) (24 * S) (j + 1) := by
                        funext q
                        simp only [upd, va_cpy]
                        by_cases hq : q = 24 * S + j
                        · subst hq
                          rw [if_pos rfl, if_pos ⟨by omega, by omega⟩, show 24 * S + j - 24 * S = j by omega]
                        · rw [if_neg hq]
                          by_cases hr : 24 * S ≤ q ∧ q < 24 * S + j
                          · rw [if_pos hr, if_pos ⟨hr.1, by omega⟩]
                          · rw [if_neg hr, if_neg (fun z => hr ⟨z.1, by omega⟩)]
                      rw [e]
                      exact ih (j + 1) (by omega)
              have := loop 24 0 rfl
              rw [show va_cpy (σ' 113) (σ' 117) (24 * K) (24 * S) 0 = τ 117 by rw [e117]; funext q; simp only [va_cpy]; rw [if_neg (by omega)], upc_self] at this
              exact hG.go 2 rfl rfl this
            · have hlc : layC (σ' 117) (σ' 113) S th k = τ 117 := by rw [layC, if_neg hth, e117]
              have fin := fin (τ 117) (some (.inl 0)) hlc.symm
              rw [upc_self] at fin
              refine hG.br rfl rfl rfl rfl (fun k3 => ?_) (fun k3 => ?_)
              · exact absurd k3 (by decide)
              · refine hG.br rfl rfl rfl rfl (fun k4 => ?_) (fun k4 => ?_)
                · exact fin
                · exact absurd k4 hth
          refine hG.br rfl rfl rfl rfl (fun k3 => ?_) (fun k3 => ?_)
          · rw [layB, if_neg k3] at j130
            exact hG.go 1 rfl rfl j130
          · subst k3
            have hK : inB k 0 (nI n - 1) = true := by
              cases hk3 : inB k 0 (nI n - 1) with
              | true => rfl
              | false => rw [layG, hk3] at hg; simp at hg
            obtain ⟨K, hK1, rfl⟩ := (inB_one hn).mp hK
            refine hG.cV lk_M_113 mi_M_worthOf rfl rfl (c_M_worthOf K (by omega)) rfl rfl rfl rfl rfl rfl rfl rfl ?_
            rintro x τ ⟨rfl, rfl⟩
            rw [up_c _ _ _ _ (show 96 ≠ 115 by decide), up_c _ _ _ _ (show 96 ≠ 114 by decide)]
            rw [layB, if_pos rfl, nI_clamp (by omega)] at j130
            exact hG.go 1 rfl rfl j130
        refine hG.br rfl rfl rfl rfl (fun k3 => ?_) (fun k3 => ?_)
        · refine hG.br rfl rfl rfl rfl (fun k4 => ?_) (fun k4 => ?_)
          · rw [layA, if_neg k3, if_neg k4] at j110
            exact hG.go 1 rfl rfl j110
          · subst k4
            have hK : inB k 0 3 = true := by
              cases hk3 : inB k 0 3 with
              | true => rfl
              | false => rw [layG, hk3] at hg; simp at hg
            obtain ⟨K, hK1, hK2, rfl⟩ := inB_ab 0 3 (by omega) (by omega) hK
            refine hG.ld rfl K rfl rfl rfl rfl rfl (by omega) ?_
            rw [up_c _ _ _ _ (show 112 ≠ 114 by decide)]
            rw [layA, if_neg k3, if_pos rfl, nI_clamp (by omega)] at j110
            exact hG.go 1 rfl rfl j110
        · subst k3
          have hK : inB k 0 (nI n - 1) = true := by
            cases hk3 : inB k 0 (nI n - 1) with
            | true => rfl
            | false => rw [layG, hk3] at hg; simp at hg
          obtain ⟨K, hK1, rfl⟩ := (inB_one hn).mp hK
          refine hG.cV lk_M_88 mi_M_of rfl rfl (c_M_of K 0 (by omega)) rfl rfl rfl rfl rfl rfl rfl rfl ?_
          rintro x τ ⟨rfl, rfl⟩
          rw [up_c _ _ _ _ (show 96 ≠ 114 by decide)]
          rw [layA, if_pos rfl, nI_clamp (by omega)] at j110
          exact hG.go 1 rfl rfl j110
      have next2 : layG (nI S) th k n = true → X Γ 44 [some (.inr 95), some (.inl (nI S)), some (.inl th), some (.inl k), none, none] [] σ' := by
        intro hg
        refine hG.br rfl rfl rfl rfl (fun k3 => ?_) (fun k3 => ?_)
        · exact main hg (fun q => k3 q.1)
        · subst k3
          have hK : inB k 0 3 = true := by
            cases hk3 : inB k 0 3 with
            | true => rfl
            | false => rw [layG, hk3] at hg; simp at hg
          obtain ⟨K, hK1, hK2, rfl⟩ := inB_ab 0 3 (by omega) (by omega) hK
          refine hG.ld rfl K rfl rfl rfl rfl rfl (by omega) ?_
          refine hG.br rfl rfl rfl rfl (fun k4 => ?_) (fun k4 => ?_)
          · exact main hg (fun q => by rw [nI_clamp (by omega)] at q; exact i32_nlt.mpr k4 q.2)
          · refine hG.rt hR rfl rfl rfl rfl ?_
            have hy : (2 : Int32) = 2 ∧ σ' 111 (nI K).toNatClampNeg < 0 := ⟨rfl, by rw [nI_clamp (by omega)]; exact i32_nle.mp k4⟩
            exact ⟨fun e => (by rw [hg] at e; cases e), fun _ _ => ⟨rfl, rfl⟩, fun _ e => absurd hy e⟩
      have next1 : (decide (th = 1) && !inB k 0 (nI n - 1)) = false → X Γ 29 [some (.inr 95), some (.inl (nI S)), some (.inl th), some (.inl k), none, none] [] σ' := by
        intro ha
        refine hG.br rfl rfl rfl rfl (fun k3 => ?_) (fun k3 => ?_)
        · exact next2 (by rw [layG, bi_ne0.mp k1, bi_ne0.mp k2, ha]; simp [k3])
        · refine hG.cS lk_M_192 mi_M_isSheet rfl rfl (c_M_isSheet k) rfl rfl rfl rfl rfl rfl ?_
          rintro x σ' ⟨rfl, rfl⟩
          refine hG.br rfl rfl rfl rfl (fun k4 => ?_) (fun k4 => ?_)
          · exact next2 (by rw [layG, bi_ne0.mp k1, bi_ne0.mp k2, ha, bi_ne0.mp k4]; simp)
          · exact bad (by rw [layG, bi_eq0.mp k4]; simp [k3])
      refine hG.br rfl rfl rfl rfl (fun k3 => ?_) (fun k3 => ?_)
      · exact next1 (by simp [k3])
      · refine hG.cV lk_M_106 mi_M_isOne rfl rfl (c_M_isOne k) rfl rfl rfl rfl rfl rfl rfl rfl ?_
        rintro x σ' ⟨rfl, rfl⟩
        rw [h1]
        refine hG.br rfl rfl rfl rfl (fun k4 => ?_) (fun k4 => ?_)
        · exact bad (by rw [layG, bi_eq0.mp k4]; simp [k3])
        · exact next1 (by rw [bi_ne0.mp k4]; simp)
theorem o_M_ask (s k : Int32) : Ci l θ 5 m_M_ask [.inr 95, .inl s, .inl k] σ (fun r σ' => r = askR (σ 114) (σ 115) (σ 116) s k ∧ σ' = σ) := by
  refine Ci.of (Or.inl mi_M_ask) pk_M_ask (nb rfl) (Or.inl rfl) [some (.inr 95), some (.inl s), some (.inl k)] rfl fun Γ hG hR => ?_
  have bad : (inB s 0 4 && inB k 0 5) = false → X Γ 16 [some (.inr 95), some (.inl s), some (.inl k)] [] σ := by
    intro hb
    refine hG.rt hR rfl rfl rfl rfl ?_
    exact ⟨by rw [askR, hb]; rfl, rfl⟩
  refine hG.cS lk_M_270 mi_M_isSlot rfl rfl (c_M_isSlot s) rfl rfl rfl rfl rfl rfl ?_
  rintro x σ' ⟨rfl, rfl⟩
  refine hG.br rfl rfl rfl rfl (fun k1 => ?_) (fun k1 => ?_)
  · exact bad (by rw [bi_eq0.mp k1]; rfl)
  · refine hG.cS lk_M_84 mi_M_in rfl rfl (c_M_in k 0 5) rfl rfl rfl rfl rfl rfl ?_
    rintro x σ' ⟨rfl, rfl⟩
    refine hG.br rfl rfl rfl rfl (fun k2 => ?_) (fun k2 => ?_)
    · obtain ⟨S, hS1, hS2, rfl⟩ := inB_ab 0 4 (by omega) (by omega) (bi_ne0.mp k1)
      have hg : askR (σ' 114) (σ' 115) (σ' 116) (nI S) k = if σ' 114 S = 0 then -1000000011 else if σ' 114 S = 1 ∧ underK (σ' 115 S) k = true then σ' 116 S else -1000000012 := by
        rw [askR, bi_ne0.mp k1, bi_ne0.mp k2, Bool.and_self, if_pos rfl, nI_clamp (by omega)]
      refine hG.ld rfl S rfl rfl rfl rfl rfl (by omega) ?_
      refine hG.br rfl rfl rfl rfl (fun k3 => ?_) (fun k3 => ?_)
      · refine hG.ld rfl S rfl rfl rfl rfl rfl (by omega) ?_
        refine hG.br rfl rfl rfl rfl (fun k4 => ?_) (fun k4 => ?_)
        · refine hG.rt hR rfl rfl rfl rfl ?_
          exact ⟨by rw [hg, if_neg k3, if_neg (fun q => k4 q.1)], rfl⟩
        · refine hG.ld rfl S rfl rfl rfl rfl rfl (by omega) ?_
          refine hG.cS lk_M_117 mi_M_isUnder rfl rfl (c_M_isUnder _ k) rfl rfl rfl rfl rfl rfl ?_
          rintro x σ' ⟨rfl, rfl⟩
          refine hG.br rfl rfl rfl rfl (fun k5 => ?_) (fun k5 => ?_)
          · refine hG.rt hR rfl rfl rfl rfl ?_
            exact ⟨by rw [hg, if_neg k3, if_neg (fun q => by rw [bi_eq0.mp k5] at q; cases q.2)], rfl⟩
          · refine hG.ld rfl S rfl rfl rfl rfl rfl (by omega) ?_
            refine hG.rt hR rfl rfl rfl rfl ?_
            exact ⟨by rw [hg, if_neg k3, if_pos ⟨k4, bi_ne0.mp k5⟩], rfl⟩
      · refine hG.rt hR rfl rfl rfl rfl ?_
        exact ⟨by rw [hg, if_pos k3], rfl⟩
    · exact bad (by rw [bi_eq0.mp k2]; simp)
theorem o_M_item (s p : Int32) (hl : LOk (σ 114) (σ 115)) : Ci l θ 5 m_M_item [.inr 95, .inl s, .inl p] σ (fun r σ' => r = itmR (σ 114) (σ 115) (σ 117) s p ∧ σ' = σ) := by
  refine Ci.of (Or.inl mi_M_item) pk_M_item (nb rfl) (Or.inl rfl) [some (.inr 95), some (.inl s), some (.inl p), none] rfl fun Γ hG hR => ?_
  refine hG.cS lk_M_270 mi_M_isSlot rfl rfl (c_M_isSlot s) rfl rfl rfl rfl rfl rfl ?_
  rintro x σ' ⟨rfl, rfl⟩
  refine hG.br rfl rfl rfl rfl (fun k1 => ?_) (fun k1 => ?_)
  · obtain ⟨S, hS1, hS2, rfl⟩ := inB_ab 0 4 (by omega) (by omega) (bi_ne0.mp k1)
    have hg : itmR (σ' 114) (σ' 115) (σ' 117) (nI S) p = if σ' 114 S = 0 then -1000000011 else if ¬ σ' 114 S = 2 then -1000000012 else if inB p 0 (σ' 115 S - 1) then (if σ' 117 (24 * S + p.toNatClampNeg) = -1000000005 then -1000000012 else σ' 117 (24 * S + p.toNatClampNeg)) else -1000000013 := by
      rw [itmR, bi_ne0.mp k1, if_pos rfl, nI_clamp (by omega)]
    refine hG.ld rfl S rfl rfl rfl rfl rfl (by omega) ?_
    refine hG.br rfl rfl rfl rfl (fun k2 => ?_) (fun k2 => ?_)
    · refine hG.ld rfl S rfl rfl rfl rfl rfl (by omega) ?_
      refine hG.br rfl rfl rfl rfl (fun k3 => ?_) (fun k3 => ?_)
      · obtain ⟨Z, hZ, hsz⟩ := (hl S (by omega)).2 k3
        refine hG.ld rfl S rfl rfl rfl rfl rfl (by omega) ?_
        refine hG.cS lk_M_84 mi_M_in rfl rfl (c_M_in p 0 _) rfl rfl rfl rfl rfl rfl ?_
        rintro x σ' ⟨rfl, rfl⟩
        rw [if_neg k2, if_neg (fun q => q k3)] at hg
        refine hG.br rfl rfl rfl rfl (fun k4 => ?_) (fun k4 => ?_)
        · rw [bi_ne0.mp k4, if_pos rfl] at hg
          have k4' := bi_ne0.mp k4
          rw [hsz] at k4'
          obtain ⟨P, hP, rfl⟩ := (inB_lt (by omega)).mp k4'
          rw [nI_clamp (by omega)] at hg
          refine hG.ld rfl (24 * S + P) rfl rfl rfl rfl (by simp only [lit_nI, pk_mul, nI_add, nI_1]; first | done | rfl | (congr 1; omega)) (by omega) ?_
          refine hG.br rfl rfl rfl rfl (fun k5 => ?_) (fun k5 => ?_)
          · refine hG.rt hR rfl rfl rfl rfl ?_
            exact ⟨by rw [hg, if_neg k5], rfl⟩
          · refine hG.rt hR rfl rfl rfl rfl ?_
            exact ⟨by rw [hg, if_pos k5], rfl⟩
        · rw [bi_eq0.mp k4] at hg
          refine hG.rt hR rfl rfl rfl rfl ?_
          exact ⟨by rw [hg]; rfl, rfl⟩
      · refine hG.rt hR rfl rfl rfl rfl ?_
        exact ⟨by rw [hg, if_neg k2, if_pos k3], rfl⟩
    · refine hG.rt hR rfl rfl rfl rfl ?_
      exact ⟨by rw [hg, if_pos k2], rfl⟩
  · refine hG.rt hR rfl rfl rfl rfl ?_
    exact ⟨by rw [itmR, bi_eq0.mp k1]; rfl, rfl⟩
theorem o_M_rest (s k : Int32) : Ci l θ 5 m_M_rest [.inr 95, .inl s, .inl k] σ (fun r σ' => r = rstR (σ 114) (σ 115) s k ∧ σ' = σ) := by
  refine Ci.of (Or.inl mi_M_rest) pk_M_rest (nb rfl) (Or.inl rfl) [some (.inr 95), some (.inl s), some (.inl k)] rfl fun Γ hG hR => ?_
  refine hG.cS lk_M_270 mi_M_isSlot rfl rfl (c_M_isSlot s) rfl rfl rfl rfl rfl rfl ?_
  rintro x σ' ⟨rfl, rfl⟩
  refine hG.br rfl rfl rfl rfl (fun k1 => ?_) (fun k1 => ?_)
  · obtain ⟨S, hS1, hS2, rfl⟩ := inB_ab 0 4 (by omega) (by omega) (bi_ne0.mp k1)
    have hg : rstR (σ' 114) (σ' 115) (nI S) k = if σ' 114 S = 0 then -1000000011 else if ¬ σ' 114 S = 3 then -1000000012 else if k = 0 then -1000000002 else if k = -1 then 0 else rmI (σ' 115 S) k := by
      rw [rstR, bi_ne0.mp k1, if_pos rfl, nI_clamp (by omega)]
    refine hG.ld rfl S rfl rfl rfl rfl rfl (by omega) ?_
    refine hG.br rfl rfl rfl rfl (fun k2 => ?_) (fun k2 => ?_)
    · refine hG.ld rfl S rfl rfl rfl rfl rfl (by omega) ?_
      refine hG.br rfl rfl rfl rfl (fun k3 => ?_) (fun k3 => ?_)
      · refine hG.br rfl rfl rfl rfl (fun k4 => ?_) (fun k4 => ?_)
        · refine hG.br rfl rfl rfl rfl (fun k5 => ?_) (fun k5 => ?_)
          · refine hG.ld rfl S rfl rfl rfl rfl rfl (by omega) ?_
            refine hG.rm rfl rfl rfl k4 ?_
            refine hG.rt hR rfl rfl rfl rfl ?_
            exact ⟨by rw [hg, if_neg k2, if_neg (fun q => q k3), if_neg k4, if_neg k5]; rfl, rfl⟩
          · refine hG.rt hR rfl rfl rfl rfl ?_
            exact ⟨by rw [hg, if_neg k2, if_neg (fun q => q k3), if_neg k4, if_pos k5], rfl⟩
        · refine hG.rt hR rfl rfl rfl rfl ?_
          exact ⟨by rw [hg, if_neg k2, if_neg (fun q => q k3), if_pos k4], rfl⟩
      · refine hG.rt hR rfl rfl rfl rfl ?_
        exact ⟨by rw [hg, if_neg k2, if_pos k3], rfl⟩
    · refine hG.rt hR rfl rfl rfl rfl ?_
      exact ⟨by rw [hg, if_pos k2], rfl⟩
  · refine hG.rt hR rfl rfl rfl rfl ?_
    exact ⟨by rw [rstR, bi_eq0.mp k1]; rfl, rfl⟩
end
end
section
theorem chkL_le (te : Nat → Int32) (many n t : Nat) : ∀ (m k : Nat) (f : Nat → Int32), 2 * k ≤ chkL te many n t f k m ∧ chkL te many n t f k m ≤ 2 * (k + m)
  | 0, k, f => by simp [chkL]
  | m + 1, k, f => by
    have ih := chkL_le te many n t m (k + 1) (yearF f n t).1
    rw [chkL]
    split
    · split <;> omega
    · omega
theorem i32_p0 (x : Int32) : x + 0 = x := Int32.add_zero x
section
variable {l : Launch} {θ : Th} {σ : Sg} {n c t y : Nat}
theorem o_M_check (k : Int32) (W : Nat) (h : Bool) (hW : σ 95 37 = nI W) (hW60 : W ≤ 60) (hh : σ 95 3 = bi h) (hf : h = true → FOk (σ 97) n c t y ∧ y ≤ 9999) : Ci l θ 7 m_M_check [.inr 95, .inl k] σ (fun r σ' => r = chkR (σ 119) W n t y (mix (σ 97) (σ 96)) h k ∧ Sm [98, 99, 109, 110] (up σ 95 37 0) σ') := by
  refine Ci.of (Or.inl mi_M_check) pk_M_check (nb rfl) (Or.inl rfl) [some (.inr 95), some (.inl k), none, none, none, none, none] rfl fun Γ hG hR => ?_
  refine hG.cS lk_M_84 mi_M_in rfl rfl (c_M_in k 1 30) rfl rfl rfl rfl rfl rfl ?_
  rintro x σ0 ⟨rfl, rfl⟩
  rw [hW]
  refine hG.br rfl rfl rfl rfl (fun k1 => ?_) (fun k1 => ?_)
  · obtain ⟨K, hK1, hK2, rfl⟩ := inB_ab 1 30 (by omega) (by omega) (bi_ne0.mp k1)
    refine hG.br rfl rfl rfl rfl (fun k2 => ?_) (fun k2 => ?_)
    · rw [up_j _ _ _ _ (show 3 ≠ 37 by decide), hh] at k2
      have hb := bi_ne0.mp k2
      obtain ⟨hf, hy⟩ := hf hb
      generalize hM : min K (9999 - y) = M
      have hg : chkR (σ 119) W n t y (mix (σ 97) (σ 96)) h (nI K) = if chkL (σ 119) W n t (mix (σ 97) (σ 96)) 0 M = W ∧ chkL (σ 119) W n t (mix (σ 97) (σ 96)) 0 M = 2 * M then 0 else nI (1 + chkL (σ 119) W n t (mix (σ 97) (σ 96)) 0 M) := by
        rw [chkR, bi_ne0.mp k1, if_pos rfl, hb, if_pos rfl, nI_clamp (by omega), hM]
      refine hG.cSv lk_M_281 mi_M_copyAll rfl rfl (c_M_copyAll 96 98 rfl rfl (by decide)) rfl rfl rfl rfl rfl rfl ?_
      rintro τ1 rfl
      refine hG.cSv lk_M_281 mi_M_copyAll rfl rfl (c_M_copyAll 97 96 rfl rfl (by decide)) rfl rfl rfl rfl rfl rfl ?_
      rintro τ2 rfl
      generalize hτ1 : upc (up σ 95 37 0) 98 (fun k => if k < 1430 then up σ 95 37 0 96 k else up σ 95 37 0 98 k) = τ1
      have e197 : τ1 97 = σ 97 := by rw [← hτ1, upc_c _ _ _ (by decide), up_c _ _ _ _ (by decide)]
      have e196 : τ1 96 = σ 96 := by rw [← hτ1, upc_c _ _ _ (by decide), up_c _ _ _ _ (by decide)]
      have e198 : τ1 98 = mix (σ 96) (σ 98) := by rw [← hτ1, upc_same, up_c _ _ _ _ (by decide), up_c _ _ _ _ (by decide)]; rfl
      have hS1 : Sm [96, 98, 99, 109, 110] (up σ 95 37 0) τ1 := by rw [← hτ1]; exact Sm.rf.upc (by decide)
      have e2 : upc τ1 96 (fun k => if k < 1430 then τ1 97 k else τ1 96 k) = upc τ1 96 (mix (σ 97) (σ 96)) := by rw [e197, e196]; rfl
      rw [e2]
      have hf2 : FOk (mix (σ 97) (σ 96)) n c t y := FOk_congr hf (fun k hk => mix_lt hk)
      have hS2 : Sm [96, 98, 99, 109, 110] (up σ 95 37 0) (upc τ1 96 (mix (σ 97) (σ 96))) := hS1.upc (by decide)
      refine hG.cVv lk_M_137 mi_M_findNears rfl rfl (c_M_findNears t (by rw [upc_same]; exact hf2.2.2.2.2.1) hf2.2.2.2.2.2.1 (by rw [upc_same]; exact hf2.2.2.2.2.2.2.2.2.1)) rfl rfl rfl rfl rfl rfl rfl rfl ?_
      rintro τ3 ⟨hS3, hN3⟩
      rw [upc_same] at hN3
      have e396 : τ3 96 = mix (σ 97) (σ 96) := by rw [hS3 96 (by decide), upc_same]
      have e398 : τ3 98 = mix (σ 96) (σ 98) := by rw [hS3 98 (by decide), upc_c _ _ _ (by decide), e198]
      have hS4 : Sm [96, 98, 99, 109, 110] (up σ 95 37 0) τ3 := hS2.tr (hS3.mono (by decide))
      have fin : ∀ (R j : Nat) (w : Option AV) (τ : Sg), R = chkL (σ 119) W n t (mix (σ 97) (σ 96)) 0 M → Sm [96, 98, 99, 109, 110] (up σ 95 37 0) τ → τ 98 = mix (σ 96) (σ 98) → (∀ i, 58 ≤ i → τ 96 i = mix (σ 97) (σ 96) i) → X Γ 184 [some (.inr 95), some (.inl (nI K)), some (.inl (nI W)), some (.inl (nI (2 * M))), some (.inl (nI R)), some (.inl (nI j)), w] [] τ := by
        intro R j w τ hR1 hS h98 hhi
        have hRle := (chkL_le (σ 119) W n t M 0 (mix (σ 97) (σ 96))).2
        refine hG.cSv lk_M_281 mi_M_copyAll rfl rfl (c_M_copyAll 98 96 rfl rfl (by decide)) rfl rfl rfl rfl rfl rfl ?_
        rintro τ4 rfl
        have hS5 : Sm [98, 99, 109, 110] (up σ 95 37 0) (upc τ 96 (fun k => if k < 1430 then τ 98 k else τ 96 k)) := Sm.fix 96 (hS.upc (by decide)) (by
          rw [upc_same, up_c _ _ _ _ (show 96 ≠ 95 by decide)]
          funext q
          by_cases hq : q < 1430
          · rw [if_pos hq, h98, mix_lt hq]
          · rw [if_neg hq, hhi q (by omega)]; simp [mix, hq])
        rw [← hR1] at hg
        refine hG.br rfl rfl rfl rfl (fun k3 => ?_) (fun k3 => ?_)
        · rw [if_neg (fun q => k3 (by rw [q.1]))] at hg
          refine hG.rt hR rfl rfl rfl rfl ?_
          exact ⟨by rw [hg]; exact nI_add 1 R, hS5⟩
        · have eR : R = W := (nI_eq (by omega) (by omega)).mp k3
          refine hG.br rfl rfl rfl rfl (fun k4 => ?_) (fun k4 => ?_)
          · rw [if_neg (fun q => k4 (by rw [q.2]))] at hg
            refine hG.rt hR rfl rfl rfl rfl ?_
            exact ⟨by rw [hg]; exact nI_add 1 R, hS5⟩
          · have eM : R = 2 * M := (nI_eq (by omega) (by omega)).mp k4
            rw [if_pos ⟨eR, eM⟩] at hg
            refine hG.rt hR rfl rfl rfl rfl ?_
            exact ⟨hg.symm, hS5⟩
      have loop : ∀ m j, j + m = M → ∀ (τ : Sg) (w : Option AV), Sm [96, 98, 99, 109, 110] (up σ 95 37 0) τ → τ 98 = mix (σ 96) (σ 98) → NT (nearT (τ 96) t) τ → FOk (τ 96) n c t (y + j) → (∀ i, 58 ≤ i → τ 96 i = mix (σ 97) (σ 96) i) → chkL (σ 119) W n t (mix (σ 97) (σ 96)) 0 M = chkL (σ 119) W n t (τ 96) j m → X Γ 84 [some (.inr 95), some (.inl (nI K)), some (.inl (nI W)), some (.inl (nI (2 * M))), some (.inl (nI (2 * j))), some (.inl (nI j)), w] [] τ := by
        intro m
        induction m with
        | zero =>
          intro j hj τ w hS h98 hN hF hhi he
          have he : chkL (σ 119) W n t (mix (σ 97) (σ 96)) 0 M = 2 * j := he
          refine hG.br rfl rfl rfl rfl (fun k3 => ?_) (fun k3 => ?_)
          · exact fin (2 * j) j w τ he.symm hS h98 hhi
          · exact absurd (show nI (2 * M) ≤ 2 * nI j by rw [show (2 : Int32) * nI j = nI (2 * j) from pk_mul 2 j]; exact nI_le (by omega) (by omega)) k3
        | succ m ih =>
          intro j hj τ w hS h98 hN hF hhi he
          rw [show chkL (σ 119) W n t (τ 96) j (m + 1) = if 2 * j < W ∧ σ 119 (2 * j) = nI (sumB (aliveF (yearF (τ 96) n t).1) 0 n) then (if 2 * j + 1 < W ∧ σ 119 (2 * j + 1) = manyF (yearF (τ 96) n t).1 n t then chkL (σ 119) W n t (yearF (τ 96) n t).1 (j + 1) m else 2 * j + 1) else 2 * j from rfl] at he
          refine hG.br rfl rfl rfl rfl (fun k3 => ?_) (fun k3 => ?_)
          · rw [show (2 : Int32) * nI j = nI (2 * j) from pk_mul 2 j] at k3
            exact absurd k3 (nI_ge (by omega) (by omega))
          · refine hG.br rfl rfl rfl rfl (fun k4 => ?_) (fun k4 => ?_)
            · exact absurd (show nI (2 * j) = 2 * nI j from (pk_mul 2 j).symm) k4
            · refine hG.cV lk_M_180 mi_M_year rfl rfl (c_M_yearF hF) rfl rfl rfl rfl rfl rfl rfl rfl ?_
              rintro x τ5 ⟨rfl, g1, hS5⟩
              have hF5 : FOk (τ5 96) n c t (y + (j + 1)) := by rw [g1]; exact FOk_year (y := y + j) hF (by omega)
              have hN5 : NT (nearT (τ5 96) t) τ5 := by rw [g1, nearT_year hF]; intro q hq; rw [hS5 99 (by decide)]; exact hN q hq
              have hS6 := hS.tr (hS5.mono (ds := [96, 98, 99, 109, 110]) (by decide))
              have hhi5 : ∀ i, 58 ≤ i → τ5 96 i = mix (σ 97) (σ 96) i := fun i hi => by rw [g1, yearF_hi hF.2.1 hi]; exact hhi i hi
              have h985 : τ5 98 = mix (σ 96) (σ 98) := by rw [hS5 98 (by decide)]; exact h98
              have e119 : τ5 119 = σ 119 := by rw [hS6 119 (by decide), up_c _ _ _ _ (by decide)]
              rw [← g1] at he
              -- a step that stops
              have stop : ∀ (R : Nat) (w : Option AV), R ≠ 2 * (j + 1) → R ≤ 200 → chkL (σ 119) W n t (mix (σ 97) (σ 96)) 0 M = R → X Γ 84 [some (.inr 95), some (.inl (nI K)), some (.inl (nI W)), some (.inl (nI (2 * M))), some (.inl (nI R)), some (.inl (nI (j + 1))), w] [] τ5 := by
                intro R w hne hle hr
                refine hG.br rfl rfl rfl rfl (fun q3 => ?_) (fun q3 => ?_)
                · exact fin R (j + 1) w τ5 hr.symm hS6 h985 hhi5
                · refine hG.br rfl rfl rfl rfl (fun q4 => ?_) (fun q4 => ?_)
                  · exact fin R (j + 1) w τ5 hr.symm hS6 h985 hhi5
                  · exfalso
                    rw [show (2 : Int32) * nI (j + 1) = nI (2 * (j + 1)) from pk_mul 2 (j + 1)] at q4
                    exact hne ((nI_eq (by omega) (by omega)).mp q4)
              -- the second of the pair
              have j137a : 2 * j < W ∧ σ 119 (2 * j) = nI (sumB (aliveF (τ5 96)) 0 n) → X Γ 134 [some (.inr 95), some (.inl (nI K)), some (.inl (nI W)), some (.inl (nI (2 * M))), some (.inl (nI (2 * j))), some (.inl (nI j)), some (.inl (nI (yearF (τ 96) n t).2))] [.inl 1, .inl (nI (2 * j))] τ5 := by
                intro h1
                rw [if_pos h1] at he
                have no : ¬ (2 * j + 1 < W ∧ σ 119 (2 * j + 1) = manyF (τ5 96) n t) → X Γ 174 [some (.inr 95), some (.inl (nI K)), some (.inl (nI W)), some (.inl (nI (2 * M))), some (.inl (nI (2 * j + 1))), some (.inl (nI j)), some (.inl (nI (yearF (τ 96) n t).2))] [.inl (nI (2 * j + 1))] τ5 := by
                  intro h2
                  rw [if_neg h2] at he
                  refine hG.jp rfl rfl rfl ?_
                  rw [nI_1, show nI (2 * j + 1) + 0 = nI (2 * j + 1 + 0) from nI_add _ 0]
                  exact stop (2 * j + 1) _ (by omega) (by omega) he
                refine hG.br rfl rfl rfl rfl (fun q1 => ?_) (fun q1 => ?_)
                · exact absurd (show nI (2 * j) + 1 = 2 * nI j + 1 by rw [show (2 : Int32) * nI j = nI (2 * j) from pk_mul 2 j]) q1
                · rw [nI_1]
                  refine hG.br rfl rfl rfl rfl (fun q2 => ?_) (fun q2 => ?_)
                  · exact no (fun q => absurd q2 (nI_ge q.1 (by omega)))
                  · have hlt : 2 * j + 1 < W := Nat.not_le.mp (fun q => q2 (nI_le q (by omega)))
                    refine hG.ld rfl (2 * j + 1) rfl rfl rfl rfl rfl (by omega) ?_
                    rw [e119]
                    refine hG.cV lk_M_151 mi_M_freeMany rfl rfl (c_M_freeMany (nearT (τ5 96) t) n hN5 hF5.1 hF5.2.1) rfl rfl rfl rfl rfl rfl rfl rfl ?_
                    rintro x τ6 ⟨rfl, rfl⟩
                    refine hG.br rfl rfl rfl rfl (fun q3 => ?_) (fun q3 => ?_)
                    · exact no (fun q => q3 q.2)
                    · rw [if_pos ⟨hlt, q3⟩] at he
                      refine hG.jp rfl rfl rfl ?_
                      rw [nI_1, nI_1, show 2 * j + 1 + 1 = 2 * (j + 1) by omega]
                      exact ih (j + 1) (by omega) τ6 _ hS6 h985 hN5 hF5 hhi5 he
              have no1 : ¬ (2 * j < W ∧ σ 119 (2 * j) = nI (sumB (aliveF (τ5 96)) 0 n)) → X Γ 133 [some (.inr 95), some (.inl (nI K)), some (.inl (nI W)), some (.inl (nI (2 * M))), some (.inl (nI (2 * j))), some (.inl (nI j)), some (.inl (nI (yearF (τ 96) n t).2))] [.inl (nI (2 * j))] τ5 := by
                intro h1
                rw [if_neg h1] at he
                refine hG.br rfl rfl rfl rfl (fun q1 => ?_) (fun q1 => ?_)
                · refine hG.jp rfl rfl rfl ?_
                  rw [nI_1, i32_p0, i32_p0]
                  exact stop (2 * j) _ (by omega) (by omega) he
                · exfalso
                  rw [show nI (2 * j) + 0 = nI (2 * j + 0) from nI_add _ 0, show (2 : Int32) * nI j = nI (2 * j) from pk_mul 2 j, nI_1] at q1
                  have := (nI_eq (by omega) (by omega)).mp q1
                  omega
              refine hG.br rfl rfl rfl rfl (fun k5 => ?_) (fun k5 => ?_)
              · exact no1 (fun q => absurd k5 (nI_ge q.1 (by omega)))
              · have hlt : 2 * j < W := Nat.not_le.mp (fun q => k5 (nI_le q (by omega)))
                refine hG.ld rfl (2 * j) rfl rfl rfl rfl rfl (by omega) ?_
                rw [e119]
                refine hG.cV lk_M_186 mi_M_aliveMany rfl rfl (c_M_aliveMany n hF5.1 hF5.2.1) rfl rfl rfl rfl rfl rfl rfl rfl ?_
                rintro x τ6 ⟨rfl, rfl⟩
                refine hG.br rfl rfl rfl rfl (fun k6 => ?_) (fun k6 => ?_)
                · exact no1 (fun q => k6 q.2)
                · exact hG.go 2 rfl rfl (j137a ⟨hlt, k6⟩)
      refine hG.ld rfl 2 rfl rfl rfl rfl rfl (by decide) ?_
      rw [e396, hf2.2.2.2.2.2.2.1]
      refine hG.go 3 rfl rfl ?_
      rw [show (9999 : Int32) - nI y = nI (9999 - y) from pk_sub (a := 9999) hy]
      refine hG.cS lk_M_174 mi_M_within rfl rfl (c_M_within (nI (9999 - y)) 0 (nI K)) rfl rfl rfl rfl rfl rfl ?_
      rintro x τ6 ⟨rfl, rfl⟩
      have ew : withinF (nI (9999 - y)) 0 (nI K) = nI M := by
        rw [withinF, if_neg (nI_pos (by omega))]
        by_cases hq : K < 9999 - y
        · rw [if_pos (nI_lt hq (by omega)), show M = K by omega]
        · rw [if_neg (nI_nlt (by omega) (by omega)), show M = 9999 - y by omega]
      rw [ew]
      refine hG.go 6 rfl rfl ?_
      rw [show (2 : Int32) * nI M = nI (2 * M) from pk_mul 2 M]
      exact loop M 0 (by omega) τ6 none hS4 e398 (by rw [e396]; exact hN3) (by rw [e396]; exact hf2) (fun i _ => by rw [e396]) (by rw [e396])
    · rw [up_j _ _ _ _ (show 3 ≠ 37 by decide), hh] at k2
      refine hG.rt hR rfl rfl rfl rfl ?_
      exact ⟨by rw [chkR, bi_ne0.mp k1, if_pos rfl, bi_eq0.mp k2]; rfl, Sm.rf⟩
  · refine hG.rt hR rfl rfl rfl rfl ?_
    exact ⟨by rw [chkR, bi_eq0.mp k1]; rfl, Sm.rf⟩
end
end
section
def BstR (σ : Sg) (B : Bst) : Prop := match B with
  | none => σ 95 7 = -1 ∧ σ 95 8 = -1
  | some (bm, bf, bl) => σ 95 7 = nI bm ∧ σ 95 8 = nI bf ∧ gvA (-1) bl (σ 101)
def dealG (f : Nat → Int32) (n c t : Nat) : Bst := dl (nearT f t) (fun k => freeG (nearT f t) f n (nI k) (f 2)) (wshN f) c 0 [] 0 0 none
def dlgR (f : Nat → Int32) (n c t : Nat) (w : Int32) : Int32 := if inB w 0 (nI (1 + c)) then (match dealG f n c t with
  | none => 0
  | some (bm, bf, bl) => if w = 0 then nI bm else if w = 1 then nI bf else optN (-1000000005) (bl.getD (w.toNatClampNeg - 2) none)) else -1000000001
def chrL (f : Nat → Int32) (n : Nat) : List (Option Nat) → (Nat → Int32) × Nat
  | [] => (f, n)
  | none :: r => chrL f n r
  | some v :: r => if n < 10 then chrL (comesF f n 0 (nI v) (f 2)) (n + 1) r else chrL f n r
def chrF (f : Nat → Int32) (n c t : Nat) : Int32 × (Nat → Int32) := match dealG f n c t with
  | none => (0, f)
  | some (_, _, bl) => (nI (chrL f n bl).2, upd (chrL f n bl).1 4 0)
theorem WOk_wsh {f : Nat → Int32} {c i w : Nat} (h : WOk f c) (hi : i < c) (hw : w < 2) : wshN f i w < 125 ∧ f (6 + 2 * i + w) = nI (wshN f i w) := by
  obtain ⟨k, hk, e⟩ := h (2 * i + w) (by omega)
  rw [← Nat.add_assoc] at e
  have : wshN f i w = k := by rw [wshN, e, nI_clamp (by omega)]
  rw [this]
  exact ⟨hk, e⟩
section
variable {l : Launch} {θ : Th} {σ : Sg} {n c t y : Nat}
theorem c_M_mayHave (g : Nat → Bool) (gv : List (Option Nat)) (nm : Nat) (hnm : nm < 125) (hN : NT g σ) (h1 : σ 96 1 = nI n) (hn : n ≤ 10) (hgv : gvA (-1) gv (σ 100)) (hok : gvOk gv) (hlen : gv.length ≤ 6) : Ci l θ 5 m_M_mayHave [.inr 95, .inl (nI gv.length), .inl (nI nm)] σ (fun r σ' => σ' = σ ∧ r = bi (mayB g (fun k => freeG g (σ 96) n (nI k) (σ 96 2)) gv nm)) := by
  refine Ci.of (Or.inl mi_M_mayHave) pk_M_mayHave (nb rfl) (Or.inr rfl) [some (.inr 95), some (.inl (nI gv.length)), some (.inl (nI nm)), none] rfl fun Γ hG hR => ?_
  refine hG.ld rfl 2 rfl rfl rfl rfl rfl (by decide) ?_
  refine hG.cV lk_M_148 mi_M_isFree rfl rfl (c_M_isFree g n (nI nm) _ hN h1 hn) rfl rfl rfl rfl rfl rfl rfl rfl ?_
  rintro x σ' ⟨rfl, rfl⟩
  refine hG.br rfl rfl rfl rfl (fun k1 => ?_) (fun k1 => ?_)
  · have loop : ∀ m k, k + m = gv.length → mayB g (fun k => freeG g (σ' 96) n (nI k) (σ' 96 2)) gv nm = (gv.drop k).all (gvP g nm) → X Γ 18 [some (.inr 95), some (.inl (nI gv.length)), some (.inl (nI nm)), some (.inl (nI k))] [] σ' := by
      intro m
      induction m with
      | zero =>
        intro k hk he
        refine hG.br rfl rfl rfl rfl (fun k2 => ?_) (fun k2 => ?_)
        · refine hG.rz hR rfl rfl rfl rfl (Or.inr rfl) ?_
          exact ⟨rfl, by rw [he, List.drop_eq_nil_of_le (by omega)]; rfl⟩
        · exact absurd (nI_le (show gv.length ≤ k by omega) (by omega)) k2
      | succ m ih =>
        intro k hk he
        have hkl : k < gv.length := by omega
        have hgk : gv[k]? = some gv[k] := List.getElem?_eq_getElem hkl
        rw [List.drop_eq_getElem_cons hkl, List.all_cons] at he
        have ha := hgv k _ hgk
        refine hG.br rfl rfl rfl rfl (fun k2 => ?_) (fun k2 => ?_)
        · exact absurd k2 (nI_ge hkl (by omega))
        · refine hG.ld rfl k rfl rfl rfl rfl rfl (by omega) ?_
          rw [ha]
          have next : gvP g nm gv[k] = true → X Γ 48 [some (.inr 95), some (.inl (nI gv.length)), some (.inl (nI nm)), some (.inl (nI k))] [] σ' := by
            intro hp
            refine hG.jp rfl rfl rfl ?_
            rw [nI_1]
            exact ih (k + 1) (by omega) (by rw [he, hp]; rfl)
          cases hx : gv[k] with
          | none =>
            rw [hx] at next
            refine hG.br rfl rfl rfl rfl (fun k3 => ?_) (fun k3 => ?_)
            · exact next rfl
            · exact absurd (show optN (-1) none < 0 by decide) k3
          | some v =>
            rw [hx] at next ha
            have hv : v < 125 := hok v (by rw [← hx]; exact List.getElem_mem hkl)
            refine hG.br rfl rfl rfl rfl (fun k3 => ?_) (fun k3 => ?_)
            · exact absurd (show nI v < 0 from k3) (nI_pos (by omega))
            · refine hG.ld rfl k rfl rfl rfl rfl rfl (by omega) ?_
              rw [ha]
              refine hG.cV lk_M_140 mi_M_areNear rfl rfl (c_M_areNear g (nI v) (nI nm) hN) rfl rfl rfl rfl rfl rfl rfl rfl ?_
              rintro x σ' ⟨rfl, rfl⟩
              refine hG.br rfl rfl rfl rfl (fun k4 => ?_) (fun k4 => ?_)
              · exact next (by rw [gvP, bi_eq0.mp k4]; rfl)
              · refine hG.rz hR rfl rfl rfl rfl (Or.inl rfl) ?_
                exact ⟨rfl, by rw [he, hx, gvP, bi_ne0.mp k4]; rfl⟩
    exact hG.go 2 rfl rfl (loop gv.length 0 (by omega) (by rw [mayB, bi_ne0.mp k1]; rfl))
  · refine hG.rz hR rfl rfl rfl rfl (Or.inl rfl) ?_
    exact ⟨rfl, by rw [mayB, bi_eq0.mp k1]; rfl⟩
theorem c_M_deals (g : Nat → Bool) (cN n : Nat) (hc6 : cN ≤ 6) (hn : n ≤ 10) (f : Nat → Int32) (h1 : f 1 = nI n) (h4 : f 4 = nI cN) (hW : WOk f cN) : ∀ (r c : Nat) (gv : List (Option Nat)) (m fs : Nat) (B : Bst) (σ : Sg), c + r = cN → gv.length = c → gvOk gv → m ≤ c → fs ≤ c → BOk cN B → σ 96 = f → NT g σ → gvA (-1) gv (σ 100) → BstR σ B → Cv l θ (r + 6) m_M_deals [.inr 95, .inl (nI c), .inl (nI m), .inl (nI fs)] σ (fun σ' => BstR σ' (dl g (fun k => freeG g f n (nI k) (f 2)) (wshN f) r c gv m fs B) ∧ Sm [95, 100, 101] σ σ' ∧ (∀ j, j ≠ 7 → j ≠ 8 → σ' 95 j = σ 95 j) ∧ gvA (-1) gv (σ' 100)) := by
  intro r
  induction r with
  | zero =>
    intro c gv m fs B σ hc hl hok hm hfs hB hf hN hgv hb
    have hcN : c = cN := by omega
    subst hcN
    refine Cv.of (Or.inl mi_M_deals) pk_M_deals (nb rfl) rfl [some (.inr 95), some (.inl (nI c)), some (.inl (nI m)), some (.inl (nI fs)), none, none] rfl fun Γ hG hR => ?_
    have e4 : σ 96 4 = nI c := by rw [hf]; exact h4
    refine hG.ld rfl 4 rfl rfl rfl rfl rfl (by decide) ?_
    rw [e4]
    refine hG.br rfl rfl rfl rfl (fun k1 => ?_) (fun k1 => ?_)
    · exact absurd rfl k1
    · have keep : btr m fs B = false → X Γ 73 [some (.inr 95), some (.inl (nI c)), some (.inl (nI m)), some (.inl (nI fs)), none, none] [] σ := by
        intro hbt
        refine hG.rv hR rfl rfl rfl ?_
        refine ⟨?_, Sm.rf, fun _ _ _ => rfl, hgv⟩
        rw [dl, hbt]
        exact hb
      have take : btr m fs B = true → X Γ 34 [some (.inr 95), some (.inl (nI c)), some (.inl (nI m)), some (.inl (nI fs)), none, none] [] σ := by
        intro hbt
        generalize hσ1 : up (up σ 95 7 (nI m)) 95 8 (nI fs) = σ1
        have e7 : σ1 95 7 = nI m := by rw [← hσ1, up_j _ _ _ _ (by decide), up_self]
        have e8 : σ1 95 8 = nI fs := by rw [← hσ1, up_self]
        have ej : ∀ j, j ≠ 7 → j ≠ 8 → σ1 95 j = σ 95 j := fun j h7 h8 => by rw [← hσ1, up_j _ _ _ _ h8, up_j _ _ _ _ h7]
        have hS1 : Sm [95, 100, 101] σ σ1 := by rw [← hσ1]; exact (Sm.rf.up (by decide)).up (by decide)
        have e100 : σ1 100 = σ 100 := by rw [← hσ1, up_c _ _ _ _ (by decide), up_c _ _ _ _ (by decide)]
        have loop : ∀ q k, k + q = c → X Γ 47 [some (.inr 95), some (.inl (nI c)), some (.inl (nI m)), some (.inl (nI fs)), some (.inl (nI k)), none] [] (upc σ1 101 (fun j => if j < k then σ 100 j else σ1 101 j)) := by
          intro q
          induction q with
          | zero =>
            intro k hk
            refine hG.br rfl rfl rfl rfl (fun k2 => ?_) (fun k2 => ?_)
            · refine hG.rv hR rfl rfl rfl ?_
              refine ⟨?_, hS1.upc (by decide), fun j h7 h8 => by rw [upc_c _ _ _ (by decide)]; exact ej j h7 h8, by rw [upc_c _ _ _ (by decide), e100]; exact hgv⟩
              rw [dl, hbt, if_pos rfl]
              refine ⟨by rw [upc_c _ _ _ (by decide)]; exact e7, by rw [upc_c _ _ _ (by decide)]; exact e8, ?_⟩
              intro i x hx
              have hi : i < gv.length := (List.getElem?_eq_some_iff.mp hx).1
              rw [upc_same, if_pos (by omega)]
              exact hgv i x hx
            · exact absurd (nI_le (show c ≤ k by omega) (by omega)) k2
          | succ q ih =>
            intro k hk
            refine hG.br rfl rfl rfl rfl (fun k2 => ?_) (fun k2 => ?_)
            · exact absurd k2 (nI_ge (by omega) (by omega))
            · refine hG.ld rfl k rfl rfl rfl rfl rfl (by omega) ?_
              rw [upc_c _ _ _ (show 100 ≠ 101 by decide), e100]
              refine hG.sti rfl k rfl rfl rfl rfl (by omega) ?_
              refine hG.jp rfl rfl rfl ?_
              rw [nI_1, up_upc]
              have e : upd (fun j => if j < k then σ 100 j else σ1 101 j) k (σ 100 k) = (fun j => if j < k + 1 then σ 100 j else σ1 101 j) := by
                funext j
                simp only [upd]
                by_cases hj : j = k
                · subst hj; simp
                · have : j < k + 1 ↔ j < k := by omega
                  simp [hj, this]
              rw [e]
              exact ih (k + 1) (by omega)
        have hl0 := loop c 0 (by omega)
        rw [show (fun j => if j < 0 then σ 100 j else σ1 101 j) = σ1 101 by funext j; simp, upc_self, ← hσ1] at hl0
        exact hG.go 8 rfl rfl hl0
      cases B with
      | none =>
        obtain ⟨b7, b8⟩ := hb
        refine hG.br rfl rfl rfl rfl (fun k2 => ?_) (fun k2 => ?_)
        · exact take rfl
        · rw [b7] at k2
          exact absurd (Int32.lt_of_lt_of_le (by decide : (-1 : Int32) < 0) (nI_pos' (by omega))) k2
      | some q =>
        obtain ⟨bm, bf, bl⟩ := q
        obtain ⟨b7, b8, b9⟩ := hb
        obtain ⟨-, -, hbm, hbf⟩ := hB bm bf bl rfl
        refine hG.br rfl rfl rfl rfl (fun k2 => ?_) (fun k2 => ?_)
        · rw [b7] at k2
          exact take (by simp [btr, (nI_ltI (by omega) (by omega)).mp k2])
        · rw [b7] at k2
          have q2 : ¬ bm < m := fun z => k2 (nI_lt z (by omega))
          refine hG.br rfl rfl rfl rfl (fun k3 => ?_) (fun k3 => ?_)
          · rw [b7] at k3
            have q3 : ¬ m = bm := fun z => k3 (by rw [z])
            exact keep (by simp [btr, q2, q3])
          · rw [b7] at k3
            have q3 : m = bm := (nI_eq (by omega) (by omega)).mp k3
            refine hG.br rfl rfl rfl rfl (fun k4 => ?_) (fun k4 => ?_)
            · rw [b8] at k4
              have q4 : ¬ bf < fs := fun z => absurd k4 (nI_ge z (by omega))
              exact keep (by simp [btr, q2, q4])
            · rw [b8] at k4
              have q4 : bf < fs := Nat.not_le.mp (fun z => k4 (nI_le z (by omega)))
              exact take (by simp [btr, q3, q4])
  | succ r ih =>
    intro c gv m fs B σ hc hl hok hm hfs hB hf hN hgv hb
    refine Cv.of (Or.inl mi_M_deals) pk_M_deals (nb rfl) rfl [some (.inr 95), some (.inl (nI c)), some (.inl (nI m)), some (.inl (nI fs)), none, none] rfl fun Γ hG hR => ?_
    have hWc := fun w hw => WOk_wsh (i := c) (w := w) hW (by omega) hw
    have e4 : σ 96 4 = nI cN := by rw [hf]; exact h4
    -- behind both ways
    have last : ∀ (B2 : Bst) (σ1 : Sg) (w4 w5 : Option AV), BOk cN B2 → σ1 96 = f → NT g σ1 → gvA (-1) gv (σ1 100) → BstR σ1 B2 → Sm [95, 100, 101] σ σ1 → (∀ j, j ≠ 7 → j ≠ 8 → σ1 95 j = σ 95 j) → dl g (fun k => freeG g f n (nI k) (f 2)) (wshN f) (r + 1) c gv m fs B = dl g (fun k => freeG g f n (nI k) (f 2)) (wshN f) r (c + 1) (gv ++ [none]) m fs B2 → X Γ 139 [some (.inr 95), some (.inl (nI c)), some (.inl (nI m)), some (.inl (nI fs)), w4, w5] [] σ1 := by
      intro B2 σ1 w4 w5 hB2 hf1 hN1 hg1 hb1 hS1 hj1 he
      refine hG.sti rfl c rfl rfl rfl rfl (by omega) ?_
      have hg2 : gvA (-1) (gv ++ [none]) (up σ1 100 c (-1) 100) := by rw [up_same, ← hl]; exact gvA_app hg1
      have hb2 : BstR (up σ1 100 c (-1)) B2 := by
        cases B2 with
        | none => exact ⟨by rw [up_c _ _ _ _ (by decide)]; exact hb1.1, by rw [up_c _ _ _ _ (by decide)]; exact hb1.2⟩
        | some q => exact ⟨by rw [up_c _ _ _ _ (by decide)]; exact hb1.1, by rw [up_c _ _ _ _ (by decide)]; exact hb1.2.1, by rw [up_c _ _ _ _ (by decide)]; exact hb1.2.2⟩
      refine hG.go 7 rfl rfl ?_
      rw [nI_1]
      refine hG.cVv lk_M_167 mi_M_deals rfl rfl (ih (c + 1) (gv ++ [none]) m fs B2 (up σ1 100 c (-1)) (by omega) (by simp [hl]) (gvOk_app hok (fun v h => by cases h)) (by omega) (by omega) hB2 (by rw [up_c _ _ _ _ (by decide)]; exact hf1) (fun q hq => by rw [up_c _ _ _ _ (by decide)]; exact hN1 q hq) hg2 hb2) rfl rfl (Nat.ble_eq_true_of_le (by omega)) rfl rfl rfl rfl rfl ?_
      rintro σ2 ⟨p1, p2, p3, p4⟩
      refine hG.rv hR rfl rfl rfl ?_
      refine ⟨by rw [he]; exact p1, (hS1.up (by decide)).tr p2, fun j h7 h8 => ?_, gvA_pre p4⟩
      rw [p3 j h7 h8, up_c _ _ _ _ (by decide)]
      exact hj1 j h7 h8
    -- one way
    have way : ∀ (w : Nat) (B1 : Bst) (σ1 : Sg) (w5 : Option AV) (Bn : Bst), w < 2 → Bn = (if mayB g (fun k => freeG g f n (nI k) (f 2)) gv (wshN f c w) then dl g (fun k => freeG g f n (nI k) (f 2)) (wshN f) r (c + 1) (gv ++ [some (wshN f c w)]) (m + 1) (fs + 1 - w) B1 else B1) → BOk cN B1 → σ1 96 = f → NT g σ1 → gvA (-1) gv (σ1 100) → BstR σ1 B1 → Sm [95, 100, 101] σ σ1 → (∀ j, j ≠ 7 → j ≠ 8 → σ1 95 j = σ 95 j) → (∀ (σ2 : Sg) (w5 : Option AV), BOk cN Bn → σ2 96 = f → NT g σ2 → gvA (-1) gv (σ2 100) → BstR σ2 Bn → Sm [95, 100, 101] σ σ2 → (∀ j, j ≠ 7 → j ≠ 8 → σ2 95 j = σ 95 j) → X Γ 77 [some (.inr 95), some (.inl (nI c)), some (.inl (nI m)), some (.inl (nI fs)), some (.inl (nI (w + 1))), w5] [] σ2) → X Γ 77 [some (.inr 95), some (.inl (nI c)), some (.inl (nI m)), some (.inl (nI fs)), some (.inl (nI w)), w5] [] σ1 := by
      intro w B1 σ1 w5 Bn hw hBn hB1 hf1 hN1 hg1 hb1 hS1 hj1 kk
      refine hG.br rfl rfl rfl rfl (fun k1 => ?_) (fun k1 => ?_)
      · exact absurd (show nI 2 ≤ nI w from k1) (nI_ge hw (by omega))
      · refine hG.ld rfl (6 + 2 * c + w) rfl rfl rfl rfl (by simp only [lit_nI, pk_mul, nI_add, nI_1]; first | done | rfl | (congr 1; omega)) (by omega) ?_
        rw [hf1, (hWc w hw).2]
        have hmay := c_M_mayHave (l := l) (θ := θ) (σ := σ1) (n := n) g gv (wshN f c w) (hWc w hw).1 hN1 (by rw [hf1]; exact h1) hn hg1 hok (by omega)
        rw [hl, hf1] at hmay
        refine hG.cV lk_M_164 mi_M_mayHave rfl rfl hmay rfl rfl (Nat.ble_eq_true_of_le (by omega)) rfl rfl rfl rfl rfl ?_
        rintro x σ1 ⟨rfl, rfl⟩
        refine hG.br rfl rfl rfl rfl (fun k2 => ?_) (fun k2 => ?_)
        · rw [bi_eq0.mp k2] at hBn
          refine hG.jp rfl rfl rfl ?_
          rw [nI_1]
          have hBn : Bn = B1 := hBn
          subst hBn
          exact kk σ1 _ hB1 hf1 hN1 hg1 hb1 hS1 hj1
        · rw [bi_ne0.mp k2, if_pos rfl] at hBn
          refine hG.sti rfl c rfl rfl rfl rfl (by omega) ?_
          have hg2 : gvA (-1) (gv ++ [some (wshN f c w)]) (up σ1 100 c (nI (wshN f c w)) 100) := by rw [up_same, ← hl]; exact gvA_app hg1
          have hb2 : BstR (up σ1 100 c (nI (wshN f c w))) B1 := by
            cases B1 with
            | none => exact ⟨by rw [up_c _ _ _ _ (by decide)]; exact hb1.1, by rw [up_c _ _ _ _ (by decide)]; exact hb1.2⟩
            | some q => exact ⟨by rw [up_c _ _ _ _ (by decide)]; exact hb1.1, by rw [up_c _ _ _ _ (by decide)]; exact hb1.2.1, by rw [up_c _ _ _ _ (by decide)]; exact hb1.2.2⟩
          refine hG.go 12 rfl rfl ?_
          rw [nI_1, nI_1, nI_1, show nI (fs + 1) - nI w = nI (fs + 1 - w) from pk_sub (by omega)]
          refine hG.cVv lk_M_167 mi_M_deals rfl rfl (ih (c + 1) (gv ++ [some (wshN f c w)]) (m + 1) (fs + 1 - w) B1 (up σ1 100 c (nI (wshN f c w))) (by omega) (by simp [hl]) (gvOk_app hok (fun v h => by cases h; exact (hWc w hw).1)) (by omega) (by omega) hB1 (by rw [up_c _ _ _ _ (by decide)]; exact hf1) (fun q hq => by rw [up_c _ _ _ _ (by decide)]; exact hN1 q hq) hg2 hb2) rfl rfl (Nat.ble_eq_true_of_le (by omega)) rfl rfl rfl rfl rfl ?_
          rintro σ2 ⟨p1, p2, p3, p4⟩
          refine hG.jp rfl rfl rfl ?_
          rw [nI_1]
          have hS2 := (hS1.up (c := 100) (j := c) (v := nI (wshN f c w)) (by decide)).tr p2
          refine kk σ2 _ ?_ ?_ ?_ (gvA_pre p4) (by rw [hBn]; exact p1) hS2 ?_
          · rw [hBn]
            exact dl_ok (fun i w' hi hw' => (WOk_wsh hW hi hw').1) r (c + 1) _ _ _ _ (by omega) (by simp [hl]) (gvOk_app hok (fun v h => by cases h; exact (hWc w hw).1)) (by omega) (by omega) hB1
          · rw [p2 96 (by decide), up_c _ _ _ _ (by decide)]; exact hf1
          · intro q hq
            rw [p2 99 (by decide), up_c _ _ _ _ (by decide)]; exact hN1 q hq
          · intro j h7 h8
            rw [p3 j h7 h8, up_c _ _ _ _ (by decide)]
            exact hj1 j h7 h8
    refine hG.ld rfl 4 rfl rfl rfl rfl rfl (by decide) ?_
    rw [e4]
    refine hG.br rfl rfl rfl rfl (fun k1 => ?_) (fun k1 => ?_)
    · refine hG.go 2 rfl rfl ?_
      refine way 0 B σ none _ (by decide) rfl hB hf hN hgv hb Sm.rf (fun _ _ _ => rfl) ?_
      intro σ2 w5 a1 a2 a3 a4 a5 a6 a7
      refine way 1 _ σ2 w5 _ (by decide) rfl a1 a2 a3 a4 a5 a6 a7 ?_
      intro σ3 w5 b1 b2 b3 b4 b5 b6 b7
      refine hG.br rfl rfl rfl rfl (fun k2 => ?_) (fun k2 => ?_)
      · exact last _ σ3 _ _ b1 b2 b3 b4 b5 b6 b7 rfl
      · exact absurd (show nI 2 ≤ nI 2 from nI_le (Nat.le_refl _) (by omega)) k2
    · exact absurd ((nI_eq (by omega) (by omega)).mp k1) (by omega)
theorem c_M_findDealing (hf : FOk (σ 96) n c t y) : Cv l θ 13 m_M_findDealing [.inr 95] σ (fun σ' => BstR σ' (dealG (σ 96) n c t) ∧ Sm [95, 99, 100, 101, 109, 110] σ σ' ∧ ∀ j, j ≠ 7 → j ≠ 8 → σ' 95 j = σ 95 j) := by
  obtain ⟨h1, hn, h4, hc, h5, ht, h2, h2y, hT, hW⟩ := hf
  refine Cv.of (Or.inl mi_M_findDealing) pk_M_findDealing (nb rfl) rfl [some (.inr 95)] rfl fun Γ hG hR => ?_
  refine hG.cVv lk_M_137 mi_M_findNears rfl rfl (c_M_findNears t h5 ht hT) rfl rfl rfl rfl rfl rfl rfl rfl ?_
  rintro τ ⟨hS, hN⟩
  have e96 : τ 96 = σ 96 := hS 96 (by decide)
  have hd := c_M_deals (l := l) (θ := θ) (nearT (σ 96) t) c n hc hn (σ 96) h1 h4 hW c 0 [] 0 0 none (up (up τ 95 7 (-1)) 95 8 (-1)) (by omega) rfl (fun v h => absurd h List.not_mem_nil) (by omega) (by omega) (fun _ _ _ h => by cases h) (by rw [up_c _ _ _ _ (by decide), up_c _ _ _ _ (by decide)]; exact e96) (fun q hq => by rw [up_c _ _ _ _ (by decide), up_c _ _ _ _ (by decide)]; exact hN q hq) (fun i x h => by simp at h) ⟨by rw [up_j _ _ _ _ (by decide), up_self], up_self _ _ _ _⟩
  refine hG.cVv lk_M_167 mi_M_deals rfl rfl hd rfl rfl (Nat.ble_eq_true_of_le (by omega)) rfl rfl rfl rfl rfl ?_
  rintro σ2 ⟨p1, p2, p3, p4⟩
  refine hG.rv hR rfl rfl rfl ?_
  refine ⟨p1, (((hS.mono (by decide)).up (by decide)).up (by decide)).tr (p2.mono (by decide)), fun j h7 h8 => ?_⟩
  rw [p3 j h7 h8, up_j _ _ _ _ h8, up_j _ _ _ _ h7, hS 95 (by decide)]
theorem o_M_dealing (w : Int32) (hf : FOk (σ 96) n c t y) : Ci l θ 14 m_M_dealing [.inr 95, .inl w] σ (fun r σ' => r = dlgR (σ 96) n c t w ∧ Sm [95, 99, 100, 101, 109, 110] σ σ' ∧ ∀ j, j ≠ 7 → j ≠ 8 → σ' 95 j = σ 95 j) := by
  have hf0 := hf
  obtain ⟨h1, hn, h4, hc, h5, ht, h2, h2y, hT, hW⟩ := hf
  refine Ci.of (Or.inl mi_M_dealing) pk_M_dealing (nb rfl) (Or.inl rfl) [some (.inr 95), some (.inl w)] rfl fun Γ hG hR => ?_
  refine hG.ld rfl 4 rfl rfl rfl rfl rfl (by decide) ?_
  rw [h4]
  refine hG.go 1 rfl rfl ?_
  rw [show (1 : Int32) + nI c = nI (1 + c) from nI_add 1 c]
  refine hG.cS lk_M_84 mi_M_in rfl rfl (c_M_in w 0 (nI (1 + c))) rfl rfl rfl rfl rfl rfl ?_
  rintro x σ' ⟨rfl, rfl⟩
  refine hG.br rfl rfl rfl rfl (fun k1 => ?_) (fun k1 => ?_)
  · obtain ⟨V, hV, rfl⟩ := (inB_nI (by omega)).mp (bi_ne0.mp k1)
    refine hG.cVv lk_M_171 mi_M_findDealing rfl rfl (c_M_findDealing hf0) rfl rfl rfl rfl rfl rfl rfl rfl ?_
    rintro τ ⟨hb, hS, hj⟩
    obtain ⟨⟨bm, bf, bl⟩, hq⟩ := dl_some (g := nearT (σ' 96) t) (F := fun k => freeG (nearT (σ' 96) t) (σ' 96) n (nI k) (σ' 96 2)) (W := wshN (σ' 96)) c 0 [] 0 0 none
    have hq : dealG (σ' 96) n c t = some (bm, bf, bl) := hq
    have hBO := dl_ok (g := nearT (σ' 96) t) (F := fun k => freeG (nearT (σ' 96) t) (σ' 96) n (nI k) (σ' 96 2)) (W := wshN (σ' 96)) (cN := c) (fun i w hi hw => (WOk_wsh hW hi hw).1) c 0 [] 0 0 none (by omega) rfl (fun v h => absurd h List.not_mem_nil) (by omega) (by omega) (fun _ _ _ h => by cases h) bm bf bl hq
    rw [hq] at hb
    obtain ⟨b7, b8, b9⟩ := hb
    have hg : dlgR (σ' 96) n c t (nI V) = if nI V = 0 then nI bm else if nI V = 1 then nI bf else optN (-1000000005) (bl.getD (V - 2) none) := by
      rw [dlgR, bi_ne0.mp k1, if_pos rfl, hq, nI_clamp (by omega)]
    refine hG.br rfl rfl rfl rfl (fun k2 => ?_) (fun k2 => ?_)
    · refine hG.br rfl rfl rfl rfl (fun k3 => ?_) (fun k3 => ?_)
      · have hV2 : 2 ≤ V := by
          have v0 : V ≠ 0 := fun e => k2 (by rw [e]; rfl)
          have v1 : V ≠ 1 := fun e => k3 (by rw [e]; rfl)
          omega
        have hbl : V - 2 < bl.length := by omega
        have hx : bl[V - 2]? = some bl[V - 2] := List.getElem?_eq_getElem hbl
        have hget : bl.getD (V - 2) none = bl[V - 2] := by rw [List.getD_eq_getElem?_getD, hx]; rfl
        have ha := b9 _ _ hx
        refine hG.ld rfl (V - 2) rfl rfl rfl rfl (show nI V - nI 2 = _ from pk_sub hV2) (by omega) ?_
        rw [ha]
        rw [if_neg k2, if_neg k3, hget] at hg
        cases hxx : bl[V - 2] with
        | none =>
          rw [hxx] at hg
          refine hG.br rfl rfl rfl rfl (fun k4 => ?_) (fun k4 => ?_)
          · exact absurd (show (0 : Int32) ≤ optN (-1) none from k4) (by decide)
          · refine hG.rt hR rfl rfl rfl rfl ?_
            exact ⟨by rw [hg]; rfl, hS, hj⟩
        | some v =>
          rw [hxx] at hg ha
          have hv : v < 125 := hBO.2.1 v (by rw [← hxx]; exact List.getElem_mem hbl)
          refine hG.br rfl rfl rfl rfl (fun k4 => ?_) (fun k4 => ?_)
          · refine hG.ld rfl (V - 2) rfl rfl rfl rfl (show nI V - nI 2 = _ from pk_sub hV2) (by omega) ?_
            rw [ha]
            refine hG.rt hR rfl rfl rfl rfl ?_
            exact ⟨by rw [hg]; rfl, hS, hj⟩
          · exact absurd (show 0 ≤ nI v from nI_pos' (by omega)) k4
      · refine hG.rt hR rfl rfl rfl rfl ?_
        exact ⟨by rw [hg, if_neg k2, if_pos k3, b8], hS, hj⟩
    · refine hG.rt hR rfl rfl rfl rfl ?_
      exact ⟨by rw [hg, if_pos k2, b7], hS, hj⟩
  · refine hG.rt hR rfl rfl rfl rfl ?_
    exact ⟨by rw [dlgR, bi_eq0.mp k1]; rfl, Sm.rf, fun _ _ _ => rfl⟩
theorem o_M_christen (hf : FOk (σ 96) n c t y) : Ci l θ 14 m_M_christen [.inr 95] σ (fun r σ' => r = (chrF (σ 96) n c t).1 ∧ σ' 96 = (chrF (σ 96) n c t).2 ∧ Sm [95, 96, 99, 100, 101, 109, 110] σ σ' ∧ ∀ j, j ≠ 7 → j ≠ 8 → σ' 95 j = σ 95 j) := by
  have hf0 := hf
  obtain ⟨h1, hn, h4, hc, h5, ht, h2, h2y, hT, hW⟩ := hf
  refine Ci.of (Or.inl mi_M_christen) pk_M_christen (nb rfl) (Or.inl rfl) [some (.inr 95), none, none] rfl fun Γ hG hR => ?_
  refine hG.cVv lk_M_171 mi_M_findDealing rfl rfl (c_M_findDealing hf0) rfl rfl rfl rfl rfl rfl rfl rfl ?_
  rintro τ ⟨hb, hS, hj⟩
  obtain ⟨⟨bm, bf, bl⟩, hq⟩ := dl_some (g := nearT (σ 96) t) (F := fun k => freeG (nearT (σ 96) t) (σ 96) n (nI k) (σ 96 2)) (W := wshN (σ 96)) c 0 [] 0 0 none
  have hq : dealG (σ 96) n c t = some (bm, bf, bl) := hq
  have hBO := dl_ok (g := nearT (σ 96) t) (F := fun k => freeG (nearT (σ 96) t) (σ 96) n (nI k) (σ 96 2)) (W := wshN (σ 96)) (cN := c) (fun i w hi hw => (WOk_wsh hW hi hw).1) c 0 [] 0 0 none (by omega) rfl (fun v h => absurd h List.not_mem_nil) (by omega) (by omega) (fun _ _ _ h => by cases h) bm bf bl hq
  rw [hq] at hb
  obtain ⟨b7, b8, b9⟩ := hb
  have hg : chrF (σ 96) n c t = (nI (chrL (σ 96) n bl).2, upd (chrL (σ 96) n bl).1 4 0) := by rw [chrF, hq]
  have e96 : τ 96 = σ 96 := hS 96 (by decide)
  have hlen : bl.length = c := hBO.1
  have loop : ∀ m k nn, k + m = c → nn ≤ 10 → ∀ (g : Nat → Int32) (w2 : Option AV), g 1 = nI nn → g 4 = nI c → g 2 = σ 96 2 → chrL (σ 96) n bl = chrL g nn (bl.drop k) → X Γ 6 [some (.inr 95), some (.inl (nI k)), w2] [] (upc τ 96 g) := by
    intro m
    induction m with
    | zero =>
      intro k nn hk hnn g w2 g1 g4 g2 he
      rw [List.drop_eq_nil_of_le (by omega)] at he
      have he : chrL (σ 96) n bl = (g, nn) := he
      refine hG.ld rfl 4 rfl rfl rfl rfl rfl (by decide) ?_
      rw [upc_same, g4]
      refine hG.br rfl rfl rfl rfl (fun k1 => ?_) (fun k1 => ?_)
      · refine hG.sti rfl 4 rfl rfl rfl rfl (by decide) ?_
        refine hG.ld rfl 1 rfl rfl rfl rfl rfl (by decide) ?_
        refine hG.rt hR rfl rfl rfl rfl ?_
        rw [up_upc, upc_same, hg, he]
        refine ⟨by rw [upd_ne (by decide)]; exact g1, rfl, (hS.mono (by decide)).upc (by decide), fun j h7 h8 => ?_⟩
        rw [upc_c _ _ _ (by decide)]; exact hj j h7 h8
      · exact absurd (nI_le (show c ≤ k by omega) (by omega)) k1
    | succ m ih =>
      intro k nn hk hnn g w2 g1 g4 g2 he
      have hkl : k < bl.length := by omega
      have hx : bl[k]? = some bl[k] := List.getElem?_eq_getElem hkl
      have ha := b9 _ _ hx
      rw [List.drop_eq_getElem_cons hkl] at he
      refine hG.ld rfl 4 rfl rfl rfl rfl rfl (by decide) ?_
      rw [upc_same, g4]
      refine hG.br rfl rfl rfl rfl (fun k1 => ?_) (fun k1 => ?_)
      · exact absurd k1 (nI_ge (by omega) (by omega))
      · refine hG.ld rfl k rfl rfl rfl rfl rfl (by omega) ?_
        rw [upc_c _ _ _ (show 101 ≠ 96 by decide), ha]
        have skip : chrL (σ 96) n bl = chrL g nn (bl.drop (k + 1)) → X Γ 54 [some (.inr 95), some (.inl (nI k)), w2] [] (upc τ 96 g) := by
          intro h
          refine hG.jp rfl rfl rfl ?_
          rw [nI_1]
          exact ih (k + 1) nn (by omega) hnn g w2 g1 g4 g2 h
        cases hxx : bl[k] with
        | none =>
          rw [hxx] at he
          refine hG.br rfl rfl rfl rfl (fun k2 => ?_) (fun k2 => ?_)
          · exact skip he
          · exact absurd (show optN (-1) none < 0 by decide) k2
        | some v =>
          rw [hxx] at he ha
          have hv : v < 125 := hBO.2.1 v (by rw [← hxx]; exact List.getElem_mem hkl)
          rw [chrL] at he
          refine hG.br rfl rfl rfl rfl (fun k2 => ?_) (fun k2 => ?_)
          · exact absurd (show nI v < 0 from k2) (nI_pos (by omega))
          · refine hG.ld rfl 1 rfl rfl rfl rfl rfl (by decide) ?_
            rw [upc_same, g1]
            refine hG.br rfl rfl rfl rfl (fun k3 => ?_) (fun k3 => ?_)
            · have q : ¬ nn < 10 := fun z => absurd (show nI 10 ≤ nI nn from k3) (nI_ge z (by omega))
              rw [if_neg q] at he
              exact skip he
            · have q : nn < 10 := Nat.not_le.mp (fun z => k3 (show nI 10 ≤ nI nn from nI_le z (by omega)))
              rw [if_pos q] at he
              refine hG.ld rfl k rfl rfl rfl rfl rfl (by omega) ?_
              rw [upc_c _ _ _ (show 101 ≠ 96 by decide), ha]
              refine hG.ld rfl 2 rfl rfl rfl rfl rfl (by decide) ?_
              rw [upc_same]
              refine hG.cV lk_M_99 mi_M_comes rfl rfl (c_M_comes nn 0 (nI v) (g 2) (by omega) (by rw [upc_same]; exact g1)) rfl rfl rfl rfl rfl rfl rfl rfl ?_
              rintro x τ2 ⟨rfl, rfl⟩
              rw [upc_upc, upc_same]
              refine hG.jp rfl rfl rfl ?_
              rw [nI_1]
              refine ih (k + 1) (nn + 1) (by omega) (by omega) _ _ ?_ ?_ ?_ he
              · rw [comesF, upd_same]
              · rw [comesF, upd_ne (by decide), upd_ne (by omega), upd_ne (by omega), upd_ne (by omega), upd_ne (by omega)]; exact g4
              · rw [comesF, upd_ne (by decide), upd_ne (by omega), upd_ne (by omega), upd_ne (by omega), upd_ne (by omega)]; exact g2
  have := loop c 0 n (by omega) hn (σ 96) none h1 h4 rfl rfl
  rw [← e96, upc_self] at this
  exact hG.go 2 rfl rfl this
end
end
section
/-! words and signs of a tape -/
def isL (x : Int32) : Bool := decide (97 ≤ x) && decide (x ≤ 122)
def isD (x : Int32) : Bool := decide (48 ≤ x) && decide (x ≤ 57)
def kdB (x : Int32) : Nat := if isL x then 1 else if isD x then 2 else 3
def skp (tp : Nat → Int32) : Nat → Nat → Nat
  | 0, p => p
  | m + 1, p => if tp p = 32 then skp tp m (p + 1) else p
def rnE (tp : Nat → Int32) (k : Nat) : Nat → Nat → Nat
  | 0, p => p
  | m + 1, p => if kdB (tp p) = k then rnE tp k m (p + 1) else p
abbrev Lx : Type := Nat × Nat × Nat
def lexN (tp : Nat → Int32) (T p : Nat) (pw : Bool) : Lx := if skp tp (T - p) p = T then (T, T, 0) else if kdB (tp (skp tp (T - p) p)) = 3 then (skp tp (T - p) p, skp tp (T - p) p + 1, 3) else (skp tp (T - p) p, rnE tp (kdB (tp (skp tp (T - p) p))) (T - skp tp (T - p) p) (skp tp (T - p) p), if pw && decide (skp tp (T - p) p = p) then 4 else kdB (tp (skp tp (T - p) p)))
def isW (L : Lx) : Bool := decide (L.2.2 = 1) || decide (L.2.2 = 2)
def advL (tp : Nat → Int32) (T : Nat) (L : Lx) : Lx := lexN tp T L.2.1 (isW L)
theorem skp_le (tp : Nat → Int32) : ∀ (m p : Nat), p ≤ skp tp m p ∧ skp tp m p ≤ p + m
  | 0, p => ⟨Nat.le_refl _, Nat.le_refl _⟩
  | m + 1, p => by
    have := skp_le tp m (p + 1)
    rw [skp]; split <;> omega
theorem rnE_le (tp : Nat → Int32) (k : Nat) : ∀ (m p : Nat), p ≤ rnE tp k m p ∧ rnE tp k m p ≤ p + m
  | 0, p => ⟨Nat.le_refl _, Nat.le_refl _⟩
  | m + 1, p => by
    have := rnE_le tp k m (p + 1)
    rw [rnE]; split <;> omega
theorem rnE_in {tp : Nat → Int32} {k : Nat} : ∀ {m p i : Nat}, p ≤ i → i < rnE tp k m p → kdB (tp i) = k
  | 0, p, i, h1, h2 => by rw [rnE] at h2; omega
  | m + 1, p, i, h1, h2 => by
    rw [rnE] at h2
    split at h2
    · rename_i hk
      by_cases hi : i = p
      · subst hi; exact hk
      · exact rnE_in (by omega) h2
    · omega
theorem kdB_cases (x : Int32) : kdB x = 1 ∨ kdB x = 2 ∨ kdB x = 3 := by
  unfold kdB; split
  · exact Or.inl rfl
  · split
    · exact Or.inr (Or.inl rfl)
    · exact Or.inr (Or.inr rfl)
/-- a word or sign at hand: where, and of what kind -/
def LxOk (tp : Nat → Int32) (T : Nat) (L : Lx) : Prop := (L.2.2 = 0 ∧ L.1 = T ∧ L.2.1 = T) ∨ (L.2.2 = 3 ∧ L.1 < T ∧ L.2.1 = L.1 + 1 ∧ kdB (tp L.1) = 3) ∨ ((L.2.2 = 1 ∨ L.2.2 = 2 ∨ L.2.2 = 4) ∧ L.1 < L.2.1 ∧ L.2.1 ≤ T ∧ (kdB (tp L.1) = 1 ∨ kdB (tp L.1) = 2) ∧ (L.2.2 ≠ 4 → L.2.2 = kdB (tp L.1)) ∧ L.2.1 = rnE tp (kdB (tp L.1)) (T - L.1) L.1)
theorem lexN_ok {tp : Nat → Int32} {T p : Nat} {pw : Bool} (hp : p ≤ T) : LxOk tp T (lexN tp T p pw) ∧ p ≤ (lexN tp T p pw).1 := by
  have h1 := skp_le tp (T - p) p
  unfold lexN
  generalize skp tp (T - p) p = s at *
  by_cases hs : s = T
  · rw [if_pos hs]
    exact ⟨Or.inl ⟨rfl, rfl, rfl⟩, hp⟩
  · rw [if_neg hs]
    by_cases hk : kdB (tp s) = 3
    · rw [if_pos hk]
      exact ⟨Or.inr (Or.inl ⟨rfl, by dsimp only; omega, rfl, hk⟩), h1.1⟩
    · rw [if_neg hk]
      have h2 := rnE_le tp (kdB (tp s)) (T - s) s
      have hk12 : kdB (tp s) = 1 ∨ kdB (tp s) = 2 := by
        rcases kdB_cases (tp s) with h | h | h
        · exact Or.inl h
        · exact Or.inr h
        · exact absurd h hk
      refine ⟨Or.inr (Or.inr ⟨?_, ?_, by dsimp only; omega, hk12, ?_, rfl⟩), h1.1⟩
      · dsimp only
        split
        · exact Or.inr (Or.inr rfl)
        · rcases hk12 with h | h
          · exact Or.inl h
          · exact Or.inr (Or.inl h)
      · dsimp only
        have : rnE tp (kdB (tp s)) (T - s) s = rnE tp (kdB (tp s)) (T - s - 1) (s + 1) := by
          obtain ⟨q, hq⟩ : ∃ q, T - s = q + 1 := ⟨T - s - 1, by omega⟩
          rw [hq, rnE, if_pos rfl]; rfl
        rw [this]
        have h3 := rnE_le tp (kdB (tp s)) (T - s - 1) (s + 1)
        omega
      · dsimp only
        intro h4
        split at h4
        · exact absurd rfl h4
        · rename_i h5; rw [if_neg h5]
theorem LxOk_le {tp : Nat → Int32} {T : Nat} {L : Lx} (h : LxOk tp T L) : L.1 ≤ T ∧ L.2.1 ≤ T ∧ L.1 ≤ L.2.1 := by
  rcases h with ⟨-, h1, h2⟩ | ⟨-, h1, h2, -⟩ | ⟨-, h1, h2, -⟩ <;> omega
theorem advL_ok {tp : Nat → Int32} {T : Nat} {L : Lx} (h : LxOk tp T L) : LxOk tp T (advL tp T L) ∧ L.2.1 ≤ (advL tp T L).1 := lexN_ok (LxOk_le h).2.1
def numN (tp : Nat → Int32) : Nat → Nat → Nat → Nat
  | 0, _, a => a
  | m + 1, p, a => numN tp m (p + 1) (10 * a + (tp p - 48).toNatClampNeg)
theorem isD_nI {x : Int32} (h : isD x = true) : ∃ d, d ≤ 9 ∧ x = nI (48 + d) := by
  simp only [isD, Bool.and_eq_true, decide_eq_true_eq] at h
  obtain ⟨k, h1, h2, h3⟩ := nI_of_range (a := 48) (b := 58) (by omega) (by omega) h.1 (Int32.lt_of_le_of_lt h.2 (by decide))
  exact ⟨k - 48, by omega, by rw [h3, show 48 + (k - 48) = k by omega]⟩
theorem kdB_2 {x : Int32} (h : kdB x = 2) : isD x = true := by
  unfold kdB at h
  split at h
  · cases h
  · split at h
    · assumption
    · cases h
theorem kdB_1 {x : Int32} (h : kdB x = 1) : isL x = true := by
  unfold kdB at h
  split at h
  · assumption
  · split at h <;> cases h
theorem isL_D {x : Int32} (h : isL x = true) : isD x = false := by
  simp only [isL, Bool.and_eq_true, decide_eq_true_eq] at h
  have : ¬ x ≤ 57 := Int32.not_le.mpr (Int32.lt_of_lt_of_le (by decide) h.1)
  simp [isD, this]
theorem isL_1 {x : Int32} : isL x = true ↔ kdB x = 1 := ⟨fun h => by rw [kdB, if_pos h], kdB_1⟩
theorem isD_2 {x : Int32} : isD x = true ↔ kdB x = 2 := by
  constructor
  · intro h
    have hl : ¬ isL x = true := fun hl => by rw [isL_D hl] at h; cases h
    rw [kdB, if_neg hl, if_pos h]
  · exact kdB_2
theorem numN_lt (tp : Nat → Int32) : ∀ (m p a : Nat), (∀ i, p ≤ i → i < p + m → kdB (tp i) = 2) → numN tp m p a < (a + 1) * 10 ^ m
  | 0, _, a, _ => by simp [numN]
  | m + 1, p, a, h => by
    obtain ⟨d, hd, e⟩ := isD_nI (kdB_2 (h p (by omega) (by omega)))
    have hv : (tp p - 48).toNatClampNeg = d := by
      rw [e, show nI (48 + d) - 48 = nI (48 + d - 48) from pk_sub (b := 48) (by omega), nI_clamp (by omega)]; omega
    have ih := numN_lt tp m (p + 1) (10 * a + d) (fun i h1 h2 => h i (by omega) (by omega))
    rw [numN, hv]
    refine Nat.lt_of_lt_of_le ih ?_
    rw [Nat.pow_succ, Nat.mul_comm (10 ^ m) 10, ← Nat.mul_assoc]
    exact Nat.mul_le_mul_right _ (by omega)
-- a leaf: a number of at most four digits, or a name of the key
def nmIx (key : Nat) (x : Int32) : Option Nat := if key = 0 then (if x = 100 then some 0 else if x = 102 then some 1 else if x = 108 then some 2 else none) else if key = 1 then (if x = 97 then some 0 else if x = 107 then some 1 else none) else (if x = 121 then some 0 else if x = 112 then some 1 else none)
def leafL (tp : Nat → Int32) (key : Nat) (L : Lx) : Option Nat := if L.2.2 = 2 then (if L.2.1 - L.1 ≤ 4 then some (numN tp (L.2.1 - L.1) L.1 0) else none) else if L.2.2 = 1 then (if L.2.1 - L.1 = 1 then (nmIx key (tp L.1)).map (fun i => 10000 + i) else none) else none
-- signs: 1 | 2 & 3 < 4 = 5 > 6 + 7 - 8 * 9 / 10 ! 11 (
def opB (x : Int32) : Nat := if x = 124 then 1 else if x = 38 then 2 else if x = 60 then 3 else if x = 61 then 4 else if x = 62 then 5 else if x = 43 then 6 else if x = 45 then 7 else if x = 42 then 8 else if x = 47 then 9 else 0
def opL (tp : Nat → Int32) (L : Lx) : Nat := if L.2.2 = 3 then opB (tp L.1) else 0
def sgnIs (tp : Nat → Int32) (L : Lx) (x : Int32) : Bool := decide (L.2.2 = 3) && decide (tp L.1 = x)
def rnk (s : Nat) : Nat := if s = 1 then 1 else if s = 2 then 2 else if s ≤ 5 then 3 else if s ≤ 7 then 4 else if s ≤ 9 then 5 else 6
def opI (s : Nat) : Int32 := -nI s
def stl (r : Nat) : List Nat → List Int32 → List Nat × List Int32
  | [], o => ([], o)
  | s :: w, o => if s ≠ 11 ∧ r ≤ rnk s then stl r w (opI s :: o) else (s :: w, o)
def keyW (k i : Nat) : Int32 := ((st_byt.getD 0 []).getD (4 * k + i) 0)
def keyIs (tp : Nat → Int32) (L : Lx) (k : Nat) : Bool := allB (fun i => decide (tp (L.1 + i) = keyW k i)) 0 4
def keyL (tp : Nat → Int32) (L : Lx) : Option Nat := if L.2.2 = 1 ∧ L.2.1 - L.1 = 4 then fndB (keyIs tp L) 0 3 else none
end
section
/-! the reference reads words and signs -/
/-- what the reference's fields say of the word or sign at hand -/
def LxM (σ : Sg) (tp : Nat → Int32) (L : Lx) : Prop := σ 95 13 = nI L.1 ∧ σ 95 12 = nI L.2.1 ∧ (L.2.2 = 0 → σ 95 14 = 0) ∧ (L.2.2 = 1 → σ 95 14 = 1 ∧ σ 95 15 = tp L.1) ∧ (L.2.2 = 2 → (L.2.1 - L.1 ≤ 4 → σ 95 14 = 2 ∧ σ 95 15 = nI (numN tp (L.2.1 - L.1) L.1 0)) ∧ (¬ L.2.1 - L.1 ≤ 4 → σ 95 14 = 4)) ∧ (L.2.2 = 3 → σ 95 14 = 3 ∧ σ 95 15 = tp L.1) ∧ (L.2.2 = 4 → σ 95 14 = 4) ∧ ((L.2.2 = 1 ∨ L.2.2 = 2) → σ 95 16 = nI L.2.1) ∧ (L.2.2 = 3 → ∀ q, L.2.1 ≤ q → q ≤ 96 → σ 95 16 ≠ nI q)
/-- of the object's fields only some are others -/
def F95 (js : List Nat) (σ σ' : Sg) : Prop := ∀ j, j ∉ js → σ' 95 j = σ 95 j
theorem F95.rf {js : List Nat} {σ : Sg} : F95 js σ σ := fun _ _ => rfl
theorem F95.tr {js : List Nat} {σ σ1 σ2 : Sg} (h : F95 js σ σ1) (h2 : F95 js σ1 σ2) : F95 js σ σ2 := fun j hj => (h2 j hj).trans (h j hj)
theorem F95.upo {js : List Nat} {σ σ1 : Sg} (h : F95 js σ σ1) {c j : Nat} {v : Int32} (hc : 95 ≠ c) : F95 js σ (up σ1 c j v) := fun x hx => by rw [up_c _ _ _ _ hc]; exact h x hx
theorem F95.up {js : List Nat} {σ σ1 : Sg} (h : F95 js σ σ1) {j : Nat} {v : Int32} (hj : j ∈ js) : F95 js σ (up σ1 95 j v) := fun x hx => by rw [up_j _ _ _ _ (j' := x) (fun e => hx (by rw [e]; exact hj))]; exact h x hx
theorem F95.mono {js ks : List Nat} {σ σ1 : Sg} (h : F95 js σ σ1) (hs : ∀ c ∈ js, c ∈ ks) : F95 ks σ σ1 := fun c hc => h c (fun h1 => hc (hs c h1))
section
variable {l : Launch} {θ : Th} {σ : Sg} {T : Nat}
theorem c_M_isLetter (k : Nat) (hT : σ 95 11 = nI T) (hT96 : T ≤ 96) (hk : k ≤ 96) : Ci l θ 1 m_M_isLetter [.inr 95, .inl (nI k)] σ (fun r σ' => σ' = σ ∧ r = bi (decide (k < T) && isL (σ 103 k))) := by
  refine Ci.of (Or.inl mi_M_isLetter) pk_M_isLetter (nb rfl) (Or.inr rfl) [some (.inr 95), some (.inl (nI k))] rfl fun Γ hG hR => ?_
  refine hG.br rfl rfl rfl rfl (fun k1 => ?_) (fun k1 => ?_)
  · rw [hT] at k1
    have q : ¬ k < T := fun z => absurd k1 (nI_ge z (by omega))
    refine hG.rz hR rfl rfl rfl rfl (Or.inl rfl) ?_
    exact ⟨rfl, by simp [q, bi]⟩
  · rw [hT] at k1
    have q : k < T := Nat.not_le.mp (fun z => k1 (nI_le z (by omega)))
    refine hG.ld rfl k rfl rfl rfl rfl rfl (by omega) ?_
    refine hG.br rfl rfl rfl rfl (fun k2 => ?_) (fun k2 => ?_)
    · refine hG.rz hR rfl rfl rfl rfl (Or.inl rfl) ?_
      exact ⟨rfl, by simp [isL, i32_nle.mpr k2, bi]⟩
    · refine hG.ld rfl k rfl rfl rfl rfl rfl (by omega) ?_
      refine hG.br rfl rfl rfl rfl (fun k3 => ?_) (fun k3 => ?_)
      · refine hG.rz hR rfl rfl rfl rfl (Or.inl rfl) ?_
        exact ⟨rfl, by simp [isL, i32_nle.mpr k3, bi]⟩
      · refine hG.rz hR rfl rfl rfl rfl (Or.inr rfl) ?_
        exact ⟨rfl, by simp [isL, q, i32_nlt.mp k2, i32_nlt.mp k3, bi]⟩
theorem c_M_isFigure (k : Nat) (hT : σ 95 11 = nI T) (hT96 : T ≤ 96) (hk : k ≤ 96) : Ci l θ 1 m_M_isFigure [.inr 95, .inl (nI k)] σ (fun r σ' => σ' = σ ∧ r = bi (decide (k < T) && isD (σ 103 k))) := by
  refine Ci.of (Or.inl mi_M_isFigure) pk_M_isFigure (nb rfl) (Or.inr rfl) [some (.inr 95), some (.inl (nI k))] rfl fun Γ hG hR => ?_
  refine hG.br rfl rfl rfl rfl (fun k1 => ?_) (fun k1 => ?_)
  · rw [hT] at k1
    have q : ¬ k < T := fun z => absurd k1 (nI_ge z (by omega))
    refine hG.rz hR rfl rfl rfl rfl (Or.inl rfl) ?_
    exact ⟨rfl, by simp [q, bi]⟩
  · rw [hT] at k1
    have q : k < T := Nat.not_le.mp (fun z => k1 (nI_le z (by omega)))
    refine hG.ld rfl k rfl rfl rfl rfl rfl (by omega) ?_
    refine hG.br rfl rfl rfl rfl (fun k2 => ?_) (fun k2 => ?_)
    · refine hG.rz hR rfl rfl rfl rfl (Or.inl rfl) ?_
      exact ⟨rfl, by simp [isD, i32_nle.mpr k2, bi]⟩
    · refine hG.ld rfl k rfl rfl rfl rfl rfl (by omega) ?_
      refine hG.br rfl rfl rfl rfl (fun k3 => ?_) (fun k3 => ?_)
      · refine hG.rz hR rfl rfl rfl rfl (Or.inl rfl) ?_
        exact ⟨rfl, by simp [isD, i32_nle.mpr k3, bi]⟩
      · refine hG.rz hR rfl rfl rfl rfl (Or.inr rfl) ?_
        exact ⟨rfl, by simp [isD, q, i32_nlt.mp k2, i32_nlt.mp k3, bi]⟩
set_option maxHeartbeats 1000000 in
theorem c_M_go (p : Nat) (pw : Bool) (hT : σ 95 11 = nI T) (hT96 : T ≤ 96) (hp : p ≤ T) (h12 : σ 95 12 = nI p) (hpw : pw = true → σ 95 16 = nI p) (hpn : pw = false → ∀ q, p ≤ q → q ≤ 96 → σ 95 16 ≠ nI q) : Cv l θ 2 m_M_go [.inr 95] σ (fun σ' => LxM σ' (σ 103) (lexN (σ 103) T p pw) ∧ Sm [95] σ σ' ∧ F95 [12, 13, 14, 15, 16] σ σ') := by
  refine Cv.of (Or.inl mi_M_go) pk_M_go (nb rfl) rfl [some (.inr 95), none] rfl fun Γ hG hR => ?_
  -- behind the blanks
  have fin : ∀ (s : Nat) (σ1 : Sg), s = skp (σ 103) (T - p) p → p ≤ s → s ≤ T → Sm [95] σ σ1 → F95 [12] σ σ1 → σ1 95 12 = nI s → X Γ 38 [some (.inr 95), none] [] σ1 := by
    intro s σ1 hs hps hsT hS hF e12
    have e11 : σ1 95 11 = nI T := by rw [hF 11 (by decide)]; exact hT
    have e103 : σ1 103 = σ 103 := hS 103 (by decide)
    have e16 : σ1 95 16 = σ 95 16 := hF 16 (by decide)
    -- whether it stands close to a word
    have hclose : (nI s = σ 95 16) ↔ (pw && decide (s = p)) = true := by
      cases pw with
      | true =>
        rw [hpw rfl]
        simp only [Bool.true_and, decide_eq_true_eq]
        exact nI_eq (by omega) (by omega)
      | false =>
        simp only [Bool.false_and, Bool.false_eq_true, iff_false]
        exact fun h => hpn rfl s hps (by omega) h.symm
    have hlex : lexN (σ 103) T p pw = if s = T then (T, T, 0) else if kdB (σ 103 s) = 3 then (s, s + 1, 3) else (s, rnE (σ 103) (kdB (σ 103 s)) (T - s) s, if pw && decide (s = p) then 4 else kdB (σ 103 s)) := by rw [lexN, ← hs]
    generalize hσ2 : up σ1 95 13 (nI s) = σ2
    have hS2 : Sm [95] σ σ2 := by rw [← hσ2]; exact hS.up (by decide)
    have hF2 : F95 [12, 13, 14, 15, 16] σ σ2 := by rw [← hσ2]; exact (hF.mono (by decide)).up (by decide)
    have f11 : σ2 95 11 = nI T := by rw [hF2 11 (by decide)]; exact hT
    have f12 : σ2 95 12 = nI s := by rw [← hσ2, up_j _ _ _ _ (by decide)]; exact e12
    have f13 : σ2 95 13 = nI s := by rw [← hσ2, up_self]
    have f16 : σ2 95 16 = σ 95 16 := by rw [← hσ2, up_j _ _ _ _ (by decide)]; exact e16
    have f103 : σ2 103 = σ 103 := hS2 103 (by decide)
    have j62 : ∀ cl : Bool, cl = (pw && decide (s = p)) → X Γ 62 [some (.inr 95), none] [.inl (bi cl)] σ2 := by
      intro cl hcl
      refine hG.br rfl rfl rfl rfl (fun k1 => ?_) (fun k1 => ?_)
      · rw [f13, f11] at k1
        have hsT' : s ≠ T := fun e => k1 (by rw [e])
        have hslt : s < T := by omega
        rw [if_neg hsT'] at hlex
        refine hG.go 3 rfl rfl ?_
        rw [f13]
        refine hG.cV lk_M_214 mi_M_isLetter rfl rfl (c_M_isLetter (T := T) s f11 hT96 (by omega)) rfl rfl rfl rfl rfl rfl rfl rfl ?_
        rintro x σ3 ⟨rfl, rfl⟩
        rw [f103]
        refine hG.br rfl rfl rfl rfl (fun k2 => ?_) (fun k2 => ?_)
        · -- no letter
          have hnl : isL (σ 103 s) = false := by
            have := bi_eq0.mp k2
            simpa [hslt] using this
          refine hG.go 3 rfl rfl ?_
          rw [f13]
          refine hG.cV lk_M_220 mi_M_isFigure rfl rfl (c_M_isFigure (T := T) s f11 hT96 (by omega)) rfl rfl rfl rfl rfl rfl rfl rfl ?_
          rintro x σ3 ⟨rfl, rfl⟩
          rw [f103]
          refine hG.br rfl rfl rfl rfl (fun k3 => ?_) (fun k3 => ?_)
          · -- a sign
            have hnd : isD (σ 103 s) = false := by
              have := bi_eq0.mp k3
              simpa [hslt] using this
            have hk3 : kdB (σ 103 s) = 3 := by rw [kdB, hnl, hnd]; rfl
            rw [if_pos hk3] at hlex
            refine hG.ld rfl s rfl rfl rfl rfl (by rw [up_j _ _ _ _ (by decide)]; exact f13) (by omega) ?_
            refine hG.rv hR rfl rfl rfl ?_
            rw [hlex]
            refine ⟨⟨?_, ?_, fun h => (by cases h), fun h => (by cases h), fun h => (by cases h), fun _ => ⟨?_, ?_⟩, fun h => (by cases h), fun h => (by rcases h with h | h <;> cases h), fun _ q hq1 hq2 => ?_⟩, (((hS2.up (by decide)).up (by decide)).up (by decide)), ((hF2.up (by decide)).up (by decide)).up (by decide)⟩
            · rw [up_j _ _ _ _ (by decide), up_j _ _ _ _ (by decide), up_j _ _ _ _ (by decide)]; exact f13
            · rw [up_self, up_j _ _ _ _ (by decide), up_j _ _ _ _ (by decide), f12, nI_1]
            · rw [up_j _ _ _ _ (by decide), up_j _ _ _ _ (by decide), up_self]
            · rw [up_j _ _ _ _ (by decide), up_self, up_c _ _ _ _ (by decide), f103]
            · rw [up_j _ _ _ _ (by decide), up_j _ _ _ _ (by decide), up_j _ _ _ _ (by decide), f16]
              dsimp only at hq1
              cases pw with
              | true => rw [hpw rfl]; intro e; have := (nI_eq (by omega) (by omega)).mp e; omega
              | false => exact hpn rfl q (by omega) hq2
          · -- a number
            have hd : isD (σ 103 s) = true := by
              have := bi_ne0.mp k3
              simpa [hslt] using this
            have hk2 : kdB (σ 103 s) = 2 := isD_2.mp hd
            have hk3 : ¬ kdB (σ 103 s) = 3 := by rw [hk2]; decide
            rw [if_neg hk3, hk2] at hlex
            generalize hE : rnE (σ 103) 2 (T - s) s = E at hlex
            have hEle := rnE_le (σ 103) 2 (T - s) s
            rw [hE] at hEle
            have loop : ∀ m i v, i + m = T → s ≤ i → rnE (σ 103) 2 (T - s) s = rnE (σ 103) 2 m i → ∀ σ4 : Sg, Sm [95] σ σ4 → F95 [12, 13, 14, 15, 16] σ σ4 → σ4 95 12 = nI i → σ4 95 13 = nI s → σ4 95 15 = nI v → (E - s ≤ 4 → i ≤ E → numN (σ 103) (E - s) s 0 = numN (σ 103) (E - i) i v) → v < 10000 → (i - s < 4 → v < 10 ^ (i - s)) → X Γ 170 [some (.inr 95), some (.inl (bi cl))] [] σ4 := by
              intro m
              induction m with
              | zero =>
                intro i v hi hsi he σ4 hS4 hF4 g12 g13 g15 hnum hv hv2
                have hiE : i = E := by rw [← hE, he]; rfl
                refine hG.go 3 rfl rfl ?_
                rw [g12]
                refine hG.cV lk_M_220 mi_M_isFigure rfl rfl (c_M_isFigure (T := T) i (by rw [hF4 11 (by decide)]; exact hT) hT96 (by omega)) rfl rfl rfl rfl rfl rfl rfl rfl ?_
                rintro x σ5 ⟨rfl, rfl⟩
                have hend : X Γ 238 [some (.inr 95), some (.inl (bi cl))] [] σ5 := by
                  have j261 : ∀ tk : Int32, tk = (if cl then 4 else if E - s ≤ 4 then 2 else 4) → X Γ 261 [some (.inr 95), some (.inl (bi cl))] [.inl tk, .inr 95] σ5 := by
                    intro tk htk
                    refine hG.rv hR rfl rfl rfl ?_
                    rw [hlex]
                    refine ⟨⟨?_, ?_, fun h => ?_, fun h => ?_, fun h => ⟨fun hle => ⟨?_, ?_⟩, fun hle => ?_⟩, fun h => ?_, fun h => ?_, fun h => ?_, fun h => ?_⟩, (hS4.up (by decide)).up (by decide), (hF4.up (by decide)).up (by decide)⟩
                    · rw [up_j _ _ _ _ (by decide), up_j _ _ _ _ (by decide)]; exact g13
                    · rw [up_j _ _ _ _ (by decide), up_j _ _ _ _ (by decide), g12, hiE]
                    · dsimp only at h; split at h <;> cases h
                    · dsimp only at h; split at h <;> cases h
                    · dsimp only at h hle ⊢
                      rw [up_j _ _ _ _ (by decide), up_self, htk]
                      split at h
                      · cases h
                      · rename_i hc; rw [hcl, if_neg hc, if_pos hle]
                    · dsimp only at hle ⊢
                      rw [up_j _ _ _ _ (by decide), up_j _ _ _ _ (by decide), g15, hnum hle (by omega), hiE, Nat.sub_self]; rfl
                    · dsimp only at h hle ⊢
                      rw [up_j _ _ _ _ (by decide), up_self, htk]
                      split at h
                      · cases h
                      · rename_i hc; rw [hcl, if_neg hc, if_neg hle]
                    · dsimp only at h; split at h <;> cases h
                    · dsimp only at h ⊢
                      rw [up_j _ _ _ _ (by decide), up_self, htk]
                      split at h
                      · rename_i hc; rw [hcl, if_pos hc]
                      · cases h
                    · rw [up_self, up_j _ _ _ _ (by decide), g12, hiE]
                    · dsimp only at h; split at h <;> cases h
                  refine hG.br rfl rfl rfl rfl (fun q1 => ?_) (fun q1 => ?_)
                  · have hc := bi_ne0.mp q1
                    exact hG.go 2 rfl rfl (j261 4 (by rw [hc, if_pos rfl]))
                  · have hc := bi_eq0.mp q1
                    refine hG.br rfl rfl rfl rfl (fun q2 => ?_) (fun q2 => ?_)
                    · rw [g12, g13, hiE, pk_sub (by omega)] at q2
                      have hle : E - s ≤ 4 := (nI_leI (by omega) (by omega)).mp (show nI (E - s) ≤ nI 4 from q2)
                      exact hG.go 1 rfl rfl (j261 2 (by rw [hc, if_pos hle]; rfl))
                    · rw [g12, g13, hiE, pk_sub (by omega)] at q2
                      have hle : ¬ E - s ≤ 4 := fun z => q2 (show nI (E - s) ≤ nI 4 from nI_le z (by omega))
                      exact hG.go 2 rfl rfl (j261 4 (by rw [hc, if_neg hle]; rfl))
                refine hG.br rfl rfl rfl rfl (fun q1 => ?_) (fun q1 => ?_)
                · exact hend
                · exfalso
                  have := bi_ne0.mp q1
                  simp at this
                  omega
              | succ m ih =>
                intro i v hi hsi he σ4 hS4 hF4 g12 g13 g15 hnum hv hv2
                refine hG.go 3 rfl rfl ?_
                rw [g12]
                refine hG.cV lk_M_220 mi_M_isFigure rfl rfl (c_M_isFigure (T := T) i (by rw [hF4 11 (by decide)]; exact hT) hT96 (by omega)) rfl rfl rfl rfl rfl rfl rfl rfl ?_
                rintro x σ5 ⟨rfl, rfl⟩
                rw [hS4 103 (by decide)]
                have he : rnE (σ 103) 2 (T - s) s = if kdB (σ 103 i) = 2 then rnE (σ 103) 2 m (i + 1) else i := he
                refine hG.br rfl rfl rfl rfl (fun q1 => ?_) (fun q1 => ?_)
                · -- the end of the number
                  have hnd : ¬ kdB (σ 103 i) = 2 := fun z => by
                    have h1 := bi_eq0.mp q1
                    rw [isD_2.mpr z] at h1
                    simp at h1
                    omega
                  rw [if_neg hnd] at he
                  have hiE : i = E := by rw [← hE, he]
                  have j261 : ∀ tk : Int32, tk = (if cl then 4 else if E - s ≤ 4 then 2 else 4) → X Γ 261 [some (.inr 95), some (.inl (bi cl))] [.inl tk, .inr 95] σ5 := by
                    intro tk htk
                    refine hG.rv hR rfl rfl rfl ?_
                    rw [hlex]
                    refine ⟨⟨?_, ?_, fun h => ?_, fun h => ?_, fun h => ⟨fun hle => ⟨?_, ?_⟩, fun hle => ?_⟩, fun h => ?_, fun h => ?_, fun h => ?_, fun h => ?_⟩, (hS4.up (by decide)).up (by decide), (hF4.up (by decide)).up (by decide)⟩
                    · rw [up_j _ _ _ _ (by decide), up_j _ _ _ _ (by decide)]; exact g13
                    · rw [up_j _ _ _ _ (by decide), up_j _ _ _ _ (by decide), g12, hiE]
                    · dsimp only at h; split at h <;> cases h
                    · dsimp only at h; split at h <;> cases h
                    · dsimp only at h hle ⊢
                      rw [up_j _ _ _ _ (by decide), up_self, htk]
                      split at h
                      · cases h
                      · rename_i hc; rw [hcl, if_neg hc, if_pos hle]
                    · dsimp only at hle ⊢
                      rw [up_j _ _ _ _ (by decide), up_j _ _ _ _ (by decide), g15, hnum hle (by omega), hiE, Nat.sub_self]; rfl
                    · dsimp only at h hle ⊢
                      rw [up_j _ _ _ _ (by decide), up_self, htk]
                      split at h
                      · cases h
                      · rename_i hc; rw [hcl, if_neg hc, if_neg hle]
                    · dsimp only at h; split at h <;> cases h
                    · dsimp only at h ⊢
                      rw [up_j _ _ _ _ (by decide), up_self, htk]
                      split at h
                      · rename_i hc; rw [hcl, if_pos hc]
                      · cases h
                    · rw [up_self, up_j _ _ _ _ (by decide), g12, hiE]
                    · dsimp only at h; split at h <;> cases h
                  refine hG.br rfl rfl rfl rfl (fun q2 => ?_) (fun q2 => ?_)
                  · have hc := bi_ne0.mp q2
                    exact hG.go 2 rfl rfl (j261 4 (by rw [hc, if_pos rfl]))
                  · have hc := bi_eq0.mp q2
                    refine hG.br rfl rfl rfl rfl (fun q3 => ?_) (fun q3 => ?_)
                    · rw [g12, g13, hiE, pk_sub (by omega)] at q3
                      have hle : E - s ≤ 4 := (nI_leI (by omega) (by omega)).mp (show nI (E - s) ≤ nI 4 from q3)
                      exact hG.go 1 rfl rfl (j261 2 (by rw [hc, if_pos hle]; rfl))
                    · rw [g12, g13, hiE, pk_sub (by omega)] at q3
                      have hle : ¬ E - s ≤ 4 := fun z => q3 (show nI (E - s) ≤ nI 4 from nI_le z (by omega))
                      exact hG.go 2 rfl rfl (j261 4 (by rw [hc, if_neg hle]; rfl))
                · have hd : kdB (σ 103 i) = 2 := by
                    have h1 := bi_ne0.mp q1
                    simp at h1
                    exact isD_2.mp h1.2
                  rw [if_pos hd] at he
                  have hiE : i < E := by
                    rw [← hE, he]
                    have := rnE_le (σ 103) 2 m (i + 1)
                    omega
                  obtain ⟨dg, hdg, edg⟩ := isD_nI (kdB_2 hd)
                  have j222 : ∀ v2 : Nat, (i - s < 4 → v2 = 10 * v + dg) → (¬ i - s < 4 → v2 = v) → X Γ 222 [some (.inr 95), some (.inl (bi cl))] [.inl (nI v2), .inr 95] σ5 := by
                    intro v2 hv2a hv2b
                    have hlt : v2 < 10000 := by
                      by_cases h4 : i - s < 4
                      · rw [hv2a h4]
                        have := hv2 h4
                        have h3 : 10 ^ (i - s) ≤ 10 ^ 3 := Nat.pow_le_pow_right (by omega) (by omega)
                        omega
                      · rw [hv2b h4]; exact hv
                    refine hG.jp rfl rfl rfl ?_
                    refine ih (i + 1) v2 (by omega) (by omega) he _ ((hS4.up (by decide)).up (by decide)) ((hF4.up (by decide)).up (by decide)) ?_ ?_ ?_ ?_ hlt ?_
                    · rw [up_self, up_j _ _ _ _ (by decide), g12, nI_1]
                    · rw [up_j _ _ _ _ (by decide), up_j _ _ _ _ (by decide)]; exact g13
                    · rw [up_j _ _ _ _ (by decide), up_self]
                    · intro hle hile
                      have h4 : i - s < 4 := by omega
                      rw [hnum hle (by omega), show E - i = (E - (i + 1)) + 1 by omega, numN]
                      congr 1
                      rw [hv2a h4, edg, show nI (48 + dg) - 48 = nI (48 + dg - 48) from pk_sub (b := 48) (by omega), nI_clamp (by omega)]
                      omega
                    · intro h4
                      rw [hv2a (by omega)]
                      have := hv2 (by omega)
                      rw [show i + 1 - s = (i - s) + 1 by omega, Nat.pow_succ]
                      omega
                  refine hG.br rfl rfl rfl rfl (fun q2 => ?_) (fun q2 => ?_)
                  · rw [g12, g13, pk_sub (by omega)] at q2
                    have h4 : ¬ i - s < 4 := fun z => absurd (show nI 4 ≤ nI (i - s) from q2) (nI_ge z (by omega))
                    refine hG.go 2 rfl rfl ?_
                    rw [g15]
                    exact j222 v (fun z => absurd z h4) (fun _ => rfl)
                  · rw [g12, g13, pk_sub (by omega)] at q2
                    have h4 : i - s < 4 := Nat.not_le.mp (fun z => q2 (show nI 4 ≤ nI (i - s) from nI_le z (by omega)))
                    refine hG.ld rfl i rfl rfl rfl rfl g12 (by omega) ?_
                    rw [g15, hS4 103 (by decide), edg]
                    refine hG.go 4 rfl rfl ?_
                    rw [show (10 : Int32) * nI v = nI (10 * v) from pk_mul 10 v, nI_add, show nI (10 * v + (48 + dg)) - 48 = nI (10 * v + (48 + dg) - 48) from pk_sub (b := 48) (by omega), show 10 * v + (48 + dg) - 48 = 10 * v + dg by omega]
                    exact j222 (10 * v + dg) (fun _ => rfl) (fun z => absurd h4 z)
            refine hG.go 3 rfl rfl ?_
            refine loop (T - s) s 0 (by omega) (Nat.le_refl _) rfl _ (hS2.up (by decide)) (hF2.up (by decide)) ?_ ?_ (up_self _ _ _ _) (fun _ _ => rfl) (by omega) (fun _ => by simp)
            · rw [up_j _ _ _ _ (by decide)]; exact f12
            · rw [up_j _ _ _ _ (by decide)]; exact f13
        · -- a word
          have hl : isL (σ 103 s) = true := by
            have := bi_ne0.mp k2
            simpa [hslt] using this
          have hk1 : kdB (σ 103 s) = 1 := isL_1.mp hl
          have hk3 : ¬ kdB (σ 103 s) = 3 := by rw [hk1]; decide
          rw [if_neg hk3, hk1] at hlex
          generalize hE : rnE (σ 103) 1 (T - s) s = E at hlex
          have hEle := rnE_le (σ 103) 1 (T - s) s
          rw [hE] at hEle
          have hend : ∀ σ5 : Sg, Sm [95] σ σ5 → F95 [12, 13, 14, 15, 16] σ σ5 → σ5 95 12 = nI E → σ5 95 13 = nI s → X Γ 117 [some (.inr 95), some (.inl (bi cl))] [] σ5 := by
            intro σ5 hS4 hF4 g12 g13
            have j127 : ∀ tk : Int32, tk = (if cl then 4 else 1) → X Γ 127 [some (.inr 95), some (.inl (bi cl))] [.inl tk, .inr 95] σ5 := by
              intro tk htk
              refine hG.ld rfl s rfl rfl rfl rfl (by rw [up_j _ _ _ _ (by decide)]; exact g13) (by omega) ?_
              rw [up_c _ _ _ _ (by decide), hS4 103 (by decide)]
              refine hG.rv hR rfl rfl rfl ?_
              rw [hlex]
              refine ⟨⟨?_, ?_, fun h => ?_, fun h => ⟨?_, ?_⟩, fun h => ?_, fun h => ?_, fun h => ?_, fun h => ?_, fun h => ?_⟩, ((hS4.up (by decide)).up (by decide)).up (by decide), ((hF4.up (by decide)).up (by decide)).up (by decide)⟩
              · rw [up_j _ _ _ _ (by decide), up_j _ _ _ _ (by decide), up_j _ _ _ _ (by decide)]; exact g13
              · rw [up_j _ _ _ _ (by decide), up_j _ _ _ _ (by decide), up_j _ _ _ _ (by decide), g12]
              · dsimp only at h; split at h <;> cases h
              · dsimp only at h
                rw [up_j _ _ _ _ (by decide), up_j _ _ _ _ (by decide), up_self, htk]
                split at h
                · cases h
                · rename_i hc; rw [hcl, if_neg hc]
              · rw [up_j _ _ _ _ (by decide), up_self]
              · dsimp only at h; split at h <;> cases h
              · dsimp only at h; split at h <;> cases h
              · dsimp only at h
                rw [up_j _ _ _ _ (by decide), up_j _ _ _ _ (by decide), up_self, htk]
                split at h
                · rename_i hc; rw [hcl, if_pos hc]
                · cases h
              · rw [up_self, up_j _ _ _ _ (by decide), up_j _ _ _ _ (by decide), g12]
              · dsimp only at h; split at h <;> cases h
            refine hG.br rfl rfl rfl rfl (fun q1 => ?_) (fun q1 => ?_)
            · exact hG.go 1 rfl rfl (j127 1 (by rw [bi_eq0.mp q1]; rfl))
            · exact hG.go 2 rfl rfl (j127 4 (by rw [bi_ne0.mp q1]; rfl))
          have loop : ∀ m i, i + m = T → s ≤ i → rnE (σ 103) 1 (T - s) s = rnE (σ 103) 1 m i → ∀ σ4 : Sg, Sm [95] σ σ4 → F95 [12, 13, 14, 15, 16] σ σ4 → σ4 95 12 = nI i → σ4 95 13 = nI s → X Γ 93 [some (.inr 95), some (.inl (bi cl))] [] σ4 := by
            intro m
            induction m with
            | zero =>
              intro i hi hsi he σ4 hS4 hF4 g12 g13
              refine hG.go 3 rfl rfl ?_
              rw [g12]
              refine hG.cV lk_M_214 mi_M_isLetter rfl rfl (c_M_isLetter (T := T) i (by rw [hF4 11 (by decide)]; exact hT) hT96 (by omega)) rfl rfl rfl rfl rfl rfl rfl rfl ?_
              rintro x σ5 ⟨rfl, rfl⟩
              refine hG.br rfl rfl rfl rfl (fun q1 => ?_) (fun q1 => ?_)
              · exact hend σ5 hS4 hF4 (by rw [g12, ← hE, he]; rfl) g13
              · exfalso
                have := bi_ne0.mp q1
                simp at this
                omega
            | succ m ih =>
              intro i hi hsi he σ4 hS4 hF4 g12 g13
              have he : rnE (σ 103) 1 (T - s) s = if kdB (σ 103 i) = 1 then rnE (σ 103) 1 m (i + 1) else i := he
              refine hG.go 3 rfl rfl ?_
              rw [g12]
              refine hG.cV lk_M_214 mi_M_isLetter rfl rfl (c_M_isLetter (T := T) i (by rw [hF4 11 (by decide)]; exact hT) hT96 (by omega)) rfl rfl rfl rfl rfl rfl rfl rfl ?_
              rintro x σ5 ⟨rfl, rfl⟩
              rw [hS4 103 (by decide)]
              refine hG.br rfl rfl rfl rfl (fun q1 => ?_) (fun q1 => ?_)
              · have hnl : ¬ kdB (σ 103 i) = 1 := fun z => by
                  have h1 := bi_eq0.mp q1
                  rw [isL_1.mpr z] at h1
                  simp at h1
                  omega
                rw [if_neg hnl] at he
                exact hend σ5 hS4 hF4 (by rw [g12, ← hE, he]) g13
              · have hll : kdB (σ 103 i) = 1 := by
                  have h1 := bi_ne0.mp q1
                  simp at h1
                  exact isL_1.mp h1.2
                rw [if_pos hll] at he
                refine hG.jp rfl rfl rfl ?_
                exact ih (i + 1) (by omega) (by omega) he _ (hS4.up (by decide)) (hF4.up (by decide)) (by rw [up_self, g12, nI_1]) (by rw [up_j _ _ _ _ (by decide)]; exact g13)
          exact loop (T - s) s (by omega) (Nat.le_refl _) rfl σ3 hS2 hF2 f12 f13
      · rw [f13, f11] at k1
        have hsT' : s = T := (nI_eq (by omega) (by omega)).mp k1
        rw [if_pos hsT'] at hlex
        refine hG.rv hR rfl rfl rfl ?_
        rw [hlex]
        refine ⟨⟨?_, ?_, fun _ => ?_, fun h => (by cases h), fun h => (by cases h), fun h => (by cases h), fun h => (by cases h), fun h => (by rcases h with h | h <;> cases h), fun h => (by cases h)⟩, hS2.up (by decide), hF2.up (by decide)⟩
        · rw [up_j _ _ _ _ (by decide), f13, hsT']
        · rw [up_j _ _ _ _ (by decide), f12, hsT']
        · rw [up_self]
    refine hG.br rfl rfl rfl rfl (fun k1 => ?_) (fun k1 => ?_)
    · rw [e12, hσ2] at k1 ⊢
      rw [f13, f16] at k1
      refine hG.go 1 rfl rfl (j62 false ?_)
      have : ¬ (pw && decide (s = p)) = true := fun z => k1 (hclose.mpr z)
      simpa using this
    · rw [e12, hσ2] at k1 ⊢
      rw [f13, f16] at k1
      exact hG.go 2 rfl rfl (j62 true (hclose.mp k1).symm)
  have loop : ∀ m i, i + m = T → p ≤ i → skp (σ 103) (T - p) p = skp (σ 103) m i → ∀ σ1 : Sg, Sm [95] σ σ1 → F95 [12] σ σ1 → σ1 95 12 = nI i → X Γ 0 [some (.inr 95), none] [] σ1 := by
    intro m
    induction m with
    | zero =>
      intro i hi hpi he σ1 hS hF e12
      have e11 : σ1 95 11 = nI T := by rw [hF 11 (by decide)]; exact hT
      refine hG.br rfl rfl rfl rfl (fun k1 => ?_) (fun k1 => ?_)
      · exact fin i σ1 he.symm hpi (by omega) hS hF e12
      · rw [e12, e11] at k1
        exact absurd (nI_le (show T ≤ i by omega) (by omega)) k1
    | succ m ih =>
      intro i hi hpi he σ1 hS hF e12
      have e11 : σ1 95 11 = nI T := by rw [hF 11 (by decide)]; exact hT
      have he : skp (σ 103) (T - p) p = if σ 103 i = 32 then skp (σ 103) m (i + 1) else i := he
      refine hG.br rfl rfl rfl rfl (fun k1 => ?_) (fun k1 => ?_)
      · rw [e12, e11] at k1
        exact absurd k1 (nI_ge (by omega) (by omega))
      · refine hG.ld rfl i rfl rfl rfl rfl e12 (by omega) ?_
        rw [hS 103 (by decide)]
        refine hG.br rfl rfl rfl rfl (fun k2 => ?_) (fun k2 => ?_)
        · rw [if_neg k2] at he
          exact fin i σ1 he.symm hpi (by omega) hS hF e12
        · rw [if_pos k2] at he
          refine hG.jp rfl rfl rfl ?_
          exact ih (i + 1) (by omega) (by omega) he _ (hS.up (by decide)) (hF.up (by decide)) (by rw [up_self, e12, nI_1])
  exact loop (T - p) p (by omega) (Nat.le_refl _) rfl σ Sm.rf F95.rf h12
end
end
section
/-! the reference's waiting signs -/
def rkI (x : Int32) : Int32 := if x = -1 then 1 else if x = -2 then 2 else if -5 ≤ x then 3 else if -7 ≤ x then 4 else if -9 ≤ x then 5 else 6
theorem rkI_op : ∀ s, 1 ≤ s → s < 11 → rkI (opI s) = nI (rnk s) := by
  intro s h1 h2
  rcases (show s = 1 ∨ s = 2 ∨ s = 3 ∨ s = 4 ∨ s = 5 ∨ s = 6 ∨ s = 7 ∨ s = 8 ∨ s = 9 ∨ s = 10 by omega) with rfl | rfl | rfl | rfl | rfl | rfl | rfl | rfl | rfl | rfl <;> decide
theorem opI_inj : ∀ a, a < 12 → ∀ b, b < 12 → opI a = opI b → a = b := by decide
theorem rnk_le (s : Nat) : rnk s ≤ 6 := by unfold rnk; split; omega; split; omega; split; omega; split; omega; split <;> omega
def opsOk (w : List Nat) : Prop := ∀ s ∈ w, 1 ≤ s ∧ s ≤ 11
theorem stl_ok (r : Nat) : ∀ (w : List Nat) (o : List Int32), opsOk w → opsOk (stl r w o).1 ∧ (stl r w o).1.length + (stl r w o).2.length = w.length + o.length
  | [], o, h => ⟨h, rfl⟩
  | s :: w, o, h => by
    rw [stl]
    split
    · have := stl_ok r w (opI s :: o) (fun x hx => h x (List.mem_cons_of_mem _ hx))
      refine ⟨this.1, ?_⟩
      rw [this.2]; simp; omega
    · exact ⟨h, rfl⟩
theorem stl_len (r : Nat) : ∀ (w : List Nat) (o : List Int32), (stl r w o).1.length ≤ w.length
  | [], _ => Nat.le_refl _
  | s :: w, o => by
    rw [stl]
    split
    · have := stl_len r w (opI s :: o)
      simp only [List.length_cons]
      omega
    · exact Nat.le_refl _
section
variable {l : Launch} {θ : Th} {σ : Sg} {T : Nat}
theorem c_M_rank (x : Int32) : Ci l θ 1 m_M_rank [.inl x] σ (fun r σ' => σ' = σ ∧ r = rkI x) := by
  refine Ci.of (Or.inr mi_M_rank) pk_M_rank (nb rfl) (Or.inl rfl) [some (.inl x)] rfl fun Γ hG hR => ?_
  refine hG.br rfl rfl rfl rfl (fun k1 => ?_) (fun k1 => ?_)
  · refine hG.br rfl rfl rfl rfl (fun k2 => ?_) (fun k2 => ?_)
    · refine hG.br rfl rfl rfl rfl (fun k3 => ?_) (fun k3 => ?_)
      · refine hG.br rfl rfl rfl rfl (fun k4 => ?_) (fun k4 => ?_)
        · refine hG.br rfl rfl rfl rfl (fun k5 => ?_) (fun k5 => ?_)
          · refine hG.rt hR rfl rfl rfl rfl ?_
            exact ⟨rfl, by rw [rkI, if_neg k1, if_neg k2, if_neg (i32_nle.mpr k3), if_neg (i32_nle.mpr k4), if_neg (i32_nle.mpr k5)]⟩
          · refine hG.rt hR rfl rfl rfl rfl ?_
            exact ⟨rfl, by rw [rkI, if_neg k1, if_neg k2, if_neg (i32_nle.mpr k3), if_neg (i32_nle.mpr k4), if_pos (i32_nlt.mp k5)]⟩
        · refine hG.rt hR rfl rfl rfl rfl ?_
          exact ⟨rfl, by rw [rkI, if_neg k1, if_neg k2, if_neg (i32_nle.mpr k3), if_pos (i32_nlt.mp k4)]⟩
      · refine hG.rt hR rfl rfl rfl rfl ?_
        exact ⟨rfl, by rw [rkI, if_neg k1, if_neg k2, if_pos (i32_nlt.mp k3)]⟩
    · refine hG.rt hR rfl rfl rfl rfl ?_
      exact ⟨rfl, by rw [rkI, if_neg k1, if_pos k2]⟩
  · refine hG.rt hR rfl rfl rfl rfl ?_
    exact ⟨rfl, by rw [rkI, if_pos k1]⟩
theorem c_M_settle (r : Nat) (hr : r ≤ 6) : ∀ (w : List Nat) (o : List Int32) (σ : Sg), opsOk w → w.length + o.length ≤ 96 → StkR (σ 107) (w.map opI) → σ 95 24 = nI w.length → StkR (σ 106) o → σ 95 21 = nI o.length → Cv l θ 2 m_M_settle [.inr 95, .inl (nI r)] σ (fun σ' => StkR (σ' 107) ((stl r w o).1.map opI) ∧ σ' 95 24 = nI (stl r w o).1.length ∧ StkR (σ' 106) (stl r w o).2 ∧ σ' 95 21 = nI (stl r w o).2.length ∧ Sm [95, 106] σ σ' ∧ F95 [21, 24] σ σ') := by
  intro w0 o0 σ h1 h2 h3 h4 h5 h6
  refine Cv.of (Or.inl mi_M_settle) pk_M_settle (nb rfl) rfl [some (.inr 95), some (.inl (nI r))] rfl fun Γ hG hR => ?_
  have loop : ∀ (w : List Nat) (o : List Int32) (τ : Sg), opsOk w → w.length + o.length ≤ 96 → StkR (τ 107) (w.map opI) → τ 95 24 = nI w.length → StkR (τ 106) o → τ 95 21 = nI o.length → Sm [95, 106] σ τ → F95 [21, 24] σ τ → stl r w0 o0 = stl r w o → X Γ 0 [some (.inr 95), some (.inl (nI r))] [] τ := by
    intro w
    induction w with
    | nil =>
      intro o τ a1 a2 a3 a4 a5 a6 a7 a8 he
      refine hG.br rfl rfl rfl rfl (fun k1 => ?_) (fun k1 => ?_)
      · refine hG.rv hR rfl rfl rfl ?_
        rw [he]
        exact ⟨a3, a4, a5, a6, a7, a8⟩
      · rw [a4] at k1
        exact absurd (show nI 0 ≤ 0 by decide) k1
    | cons s w ih =>
      intro o τ a1 a2 a3 a4 a5 a6 a7 a8 he
      simp only [List.length_cons] at a2 a4
      simp only [List.map_cons] at a3
      have hs := a1 s List.mem_cons_self
      have e107 : τ 107 w.length = opI s := by have := a3.1; rwa [List.length_map] at this
      have hend : ¬ (s ≠ 11 ∧ r ≤ rnk s) → X Γ 82 [some (.inr 95), some (.inl (nI r))] [] τ := by
        intro hn
        refine hG.rv hR rfl rfl rfl ?_
        rw [he, stl, if_neg hn]
        exact ⟨a3, a4, a5, a6, a7, a8⟩
      refine hG.br rfl rfl rfl rfl (fun k1 => ?_) (fun k1 => ?_)
      · rw [a4] at k1
        exact absurd k1 (nI_nle (by omega) (by omega))
      · refine hG.ld rfl w.length rfl rfl rfl rfl (by rw [a4]; exact nI_pred _) (by omega) ?_
        rw [e107]
        refine hG.br rfl rfl rfl rfl (fun k2 => ?_) (fun k2 => ?_)
        · have : s = 11 := opI_inj s (by omega) 11 (by omega) k2
          exact hend (fun q => q.1 this)
        · have hs11 : s ≠ 11 := fun e => k2 (by rw [e]; rfl)
          refine hG.ld rfl w.length rfl rfl rfl rfl (by rw [a4]; exact nI_pred _) (by omega) ?_
          rw [e107]
          refine hG.cS lk_M_232 mi_M_rank rfl rfl (c_M_rank (opI s)) rfl rfl rfl rfl rfl rfl ?_
          rintro x τ ⟨rfl, rfl⟩
          rw [rkI_op s hs.1 (by omega)]
          refine hG.br rfl rfl rfl rfl (fun k3 => ?_) (fun k3 => ?_)
          · exact hend (fun q => absurd k3 (nI_nlt q.2 (by have := rnk_le s; omega)))
          · have hrk : r ≤ rnk s := Nat.not_lt.mp (fun q => k3 (nI_lt q (by omega)))
            rw [stl, if_pos ⟨hs11, hrk⟩] at he
            refine hG.ld rfl w.length rfl rfl rfl rfl (by rw [up_self, a4]; exact nI_pred _) (by omega) ?_
            rw [up_c _ _ _ _ (show 107 ≠ 95 by decide), e107]
            refine hG.sti rfl o.length rfl rfl rfl (by rw [up_j _ _ _ _ (by decide)]; exact a6) (by omega) ?_
            refine hG.jp rfl rfl rfl ?_
            refine ih (opI s :: o) _ (fun x hx => a1 x (List.mem_cons_of_mem _ hx)) (by simp; omega) ?_ ?_ ?_ ?_ (((a7.up (by decide)).up (by decide)).up (by decide)) (((a8.up (by decide)).upo (by decide)).up (by decide)) he
            · rw [up_c _ _ _ _ (show 107 ≠ 95 by decide), up_c _ _ _ _ (show 107 ≠ 106 by decide), up_c _ _ _ _ (show 107 ≠ 95 by decide)]; exact a3.2
            · rw [up_j _ _ _ _ (by decide), up_c _ _ _ _ (by decide), up_self, a4]; exact nI_pred _
            · rw [up_c _ _ _ _ (show 106 ≠ 95 by decide), up_same, up_c _ _ _ _ (show 106 ≠ 95 by decide)]
              exact ⟨upd_same _ _ _, StkR_upd a5 (Nat.le_refl _)⟩
            · rw [up_self, up_c _ _ _ _ (by decide), up_j _ _ _ _ (by decide), a6, nI_1]; rfl
  exact loop w0 o0 σ h1 h2 h3 h4 h5 h6 Sm.rf F95.rf rfl
theorem StkR_at {g : Nat → Int32} : ∀ {s : List Int32} {i : Nat} {x : Int32}, StkR g s → s.reverse[i]? = some x → g i = x
  | [], i, x, _, h => by simp at h
  | y :: s, i, x, hR, h => by
    rw [List.reverse_cons] at h
    by_cases hi : i < s.reverse.length
    · rw [List.getElem?_append_left hi] at h
      exact StkR_at hR.2 h
    · rw [List.getElem?_append_right (by omega)] at h
      have h0 : i - s.reverse.length = 0 := by
        cases hq : i - s.reverse.length with
        | zero => rfl
        | succ k => rw [hq] at h; simp at h
      rw [h0] at h
      simp at h
      rw [List.length_reverse] at hi h0
      rw [show i = s.length by omega, ← h]
      exact hR.1
def cntN (w : List Nat) : Nat := w.count 10
theorem c_M_notsOpen (w : List Nat) (hw : opsOk w) (hl : w.length ≤ 96) (h1 : StkR (σ 107) (w.map opI)) (h2 : σ 95 24 = nI w.length) : Ci l θ 1 m_M_notsOpen [.inr 95] σ (fun r σ' => σ' = σ ∧ r = nI (cntN w)) := by
  refine Ci.of (Or.inl mi_M_notsOpen) pk_M_notsOpen (nb rfl) (Or.inl rfl) [some (.inr 95), none, none] rfl fun Γ hG hR => ?_
  have loop : ∀ m k a, k + m = w.length → cntN w = a + (w.reverse.drop k).count 10 → X Γ 4 [some (.inr 95), some (.inl (nI a)), some (.inl (nI k))] [] σ := by
    intro m
    induction m with
    | zero =>
      intro k a hk he
      rw [List.drop_eq_nil_of_le (by rw [List.length_reverse]; omega)] at he
      refine hG.br rfl rfl rfl rfl (fun k1 => ?_) (fun k1 => ?_)
      · refine hG.rt hR rfl rfl rfl rfl ?_
        exact ⟨rfl, by rw [he]; rfl⟩
      · rw [h2] at k1
        exact absurd (nI_le (show w.length ≤ k by omega) (by omega)) k1
    | succ m ih =>
      intro k a hk he
      have hkl : k < w.reverse.length := by rw [List.length_reverse]; omega
      rw [List.drop_eq_getElem_cons hkl, List.count_cons] at he
      have hx : w.reverse[k]? = some w.reverse[k] := List.getElem?_eq_getElem hkl
      have hop := hw _ (List.mem_reverse.mp (List.getElem_mem hkl))
      have hv : σ 107 k = opI w.reverse[k] := StkR_at h1 (by rw [← List.map_reverse, List.getElem?_map, hx]; rfl)
      refine hG.br rfl rfl rfl rfl (fun k1 => ?_) (fun k1 => ?_)
      · rw [h2] at k1
        exact absurd k1 (nI_ge (by omega) (by omega))
      · refine hG.ld rfl k rfl rfl rfl rfl rfl (by omega) ?_
        rw [hv]
        refine hG.br rfl rfl rfl rfl (fun k2 => ?_) (fun k2 => ?_)
        · have hne : ¬ w.reverse[k] = 10 := fun e => k2 (by rw [e]; rfl)
          refine hG.jp rfl rfl rfl ?_
          rw [nI_1, show nI a + 0 = nI (a + 0) from nI_add a 0]
          exact ih (k + 1) (a + 0) (by omega) (by rw [he, if_neg (by simpa using hne)]; omega)
        · have heq : w.reverse[k] = 10 := opI_inj _ (by omega) 10 (by omega) k2
          refine hG.jp rfl rfl rfl ?_
          rw [nI_1, nI_1]
          exact ih (k + 1) (a + 1) (by omega) (by rw [he, if_pos (by rw [heq]; rfl)]; omega)
  exact hG.go 4 rfl rfl (loop w.length 0 0 (by omega) (by rw [List.drop_zero, List.count_reverse, cntN]; omega))
theorem c_M_signHere (tp : Nat → Int32) (L : Lx) (hL : LxM σ tp L) (hk : L.2.2 = 0 ∨ L.2.2 = 1 ∨ L.2.2 = 2 ∨ L.2.2 = 3 ∨ L.2.2 = 4) : Ci l θ 1 m_M_signHere [.inr 95] σ (fun r σ' => σ' = σ ∧ r = opI (opL tp L)) := by
  obtain ⟨l13, l12, l0, l1, l2, l3, l4, l5, l6⟩ := hL
  refine Ci.of (Or.inl mi_M_signHere) pk_M_signHere (nb rfl) (Or.inl rfl) [some (.inr 95)] rfl fun Γ hG hR => ?_
  refine hG.br rfl rfl rfl rfl (fun k1 => ?_) (fun k1 => ?_)
  · have hk3 : L.2.2 = 3 := by
      rcases hk with h | h | h | h | h
      · rw [l0 h] at k1; exact absurd k1 (by decide)
      · rw [(l1 h).1] at k1; exact absurd k1 (by decide)
      · by_cases hle : L.2.1 - L.1 ≤ 4
        · rw [((l2 h).1 hle).1] at k1; exact absurd k1 (by decide)
        · rw [(l2 h).2 hle] at k1; exact absurd k1 (by decide)
      · exact h
      · rw [l4 h] at k1; exact absurd k1 (by decide)
    have e : opL tp L = opB (tp L.1) := by rw [opL, if_pos hk3]
    refine hG.lsw [(38, 98), (42, 116), (43, 110), (45, 113), (47, 119), (60, 101), (61, 104), (62, 107), (124, 96)] 122 rfl rfl rfl (by decide +kernel) ?_ ?_
    · intro k t hkt hx
      rw [(l3 hk3).2] at hx
      simp only [List.mem_cons, List.not_mem_nil, or_false, Prod.mk.injEq] at hkt
      rcases hkt with ⟨rfl, rfl⟩ | ⟨rfl, rfl⟩ | ⟨rfl, rfl⟩ | ⟨rfl, rfl⟩ | ⟨rfl, rfl⟩ | ⟨rfl, rfl⟩ | ⟨rfl, rfl⟩ | ⟨rfl, rfl⟩ | ⟨rfl, rfl⟩
      · refine hG.rt hR rfl rfl rfl rfl ?_
        exact ⟨rfl, by rw [e, tsw_x (w := 38) hx rfl]; rfl⟩
      · refine hG.rt hR rfl rfl rfl rfl ?_
        exact ⟨rfl, by rw [e, tsw_x (w := 42) hx rfl]; rfl⟩
      · refine hG.rt hR rfl rfl rfl rfl ?_
        exact ⟨rfl, by rw [e, tsw_x (w := 43) hx rfl]; rfl⟩
      · refine hG.rt hR rfl rfl rfl rfl ?_
        exact ⟨rfl, by rw [e, tsw_x (w := 45) hx rfl]; rfl⟩
      · refine hG.rt hR rfl rfl rfl rfl ?_
        exact ⟨rfl, by rw [e, tsw_x (w := 47) hx rfl]; rfl⟩
      · refine hG.rt hR rfl rfl rfl rfl ?_
        exact ⟨rfl, by rw [e, tsw_x (w := 60) hx rfl]; rfl⟩
      · refine hG.rt hR rfl rfl rfl rfl ?_
        exact ⟨rfl, by rw [e, tsw_x (w := 61) hx rfl]; rfl⟩
      · refine hG.rt hR rfl rfl rfl rfl ?_
        exact ⟨rfl, by rw [e, tsw_x (w := 62) hx rfl]; rfl⟩
      · refine hG.rt hR rfl rfl rfl rfl ?_
        exact ⟨rfl, by rw [e, tsw_x (w := 124) hx rfl]; rfl⟩
    · intro hno
      rw [(l3 hk3).2] at hno
      have n0 : ∀ (v : Int32) (i : Int) (t : Nat), (i, t) ∈ [((38 : Int), 98), (42, 116), (43, 110), (45, 113), (47, 119), (60, 101), (61, 104), (62, 107), (124, 96)] → v.toInt = i → ¬ tp L.1 = v := fun v i t hm hv h => hno _ hm (by rw [h, hv])
      have e0 : opB (tp L.1) = 0 := by
        rw [opB, if_neg (n0 124 124 96 (by decide) rfl), if_neg (n0 38 38 98 (by decide) rfl), if_neg (n0 60 60 101 (by decide) rfl), if_neg (n0 61 61 104 (by decide) rfl), if_neg (n0 62 62 107 (by decide) rfl), if_neg (n0 43 43 110 (by decide) rfl), if_neg (n0 45 45 113 (by decide) rfl), if_neg (n0 42 42 116 (by decide) rfl), if_neg (n0 47 47 119 (by decide) rfl)]
      refine hG.rt hR rfl rfl rfl rfl ?_
      exact ⟨rfl, by rw [e, e0]; rfl⟩
  · have hk3 : ¬ L.2.2 = 3 := fun h => k1 (l3 h).1
    refine hG.rt hR rfl rfl rfl rfl ?_
    exact ⟨rfl, by rw [opL, if_neg hk3]; rfl⟩
theorem c_M_nameOf (key : Nat) (x : Int32) (hk : key < 3) (h17 : σ 95 17 = nI key) : Ci l θ 1 m_M_nameOf [.inr 95, .inl x] σ (fun r σ' => σ' = σ ∧ r = optN (-1) (nmIx key x)) := by
  refine Ci.of (Or.inl mi_M_nameOf) pk_M_nameOf (nb rfl) (Or.inl rfl) [some (.inr 95), some (.inl x)] rfl fun Γ hG hR => ?_
  refine hG.lsw [(0, 32), (1, 64)] 86 rfl rfl rfl (by decide +kernel) ?_ ?_
  · intro k t hkt hx
    rw [h17] at hx
    simp only [List.mem_cons, List.not_mem_nil, or_false, Prod.mk.injEq] at hkt
    rcases hkt with ⟨rfl, rfl⟩ | ⟨rfl, rfl⟩
    · have hk0 : key = 0 := (nI_eq (by omega) (by omega)).mp (show nI key = nI 0 from tsw_x hx rfl)
      subst hk0
      refine hG.br rfl rfl rfl rfl (fun k1 => ?_) (fun k1 => ?_)
      · refine hG.br rfl rfl rfl rfl (fun k2 => ?_) (fun k2 => ?_)
        · refine hG.br rfl rfl rfl rfl (fun k3 => ?_) (fun k3 => ?_)
          · refine hG.rt hR rfl rfl rfl rfl ?_
            exact ⟨rfl, by rw [nmIx, if_pos rfl, if_neg k1, if_neg k2, if_neg k3]; rfl⟩
          · refine hG.rt hR rfl rfl rfl rfl ?_
            exact ⟨rfl, by rw [nmIx, if_pos rfl, if_neg k1, if_neg k2, if_pos k3]; rfl⟩
        · refine hG.rt hR rfl rfl rfl rfl ?_
          exact ⟨rfl, by rw [nmIx, if_pos rfl, if_neg k1, if_pos k2]; rfl⟩
      · refine hG.rt hR rfl rfl rfl rfl ?_
        exact ⟨rfl, by rw [nmIx, if_pos rfl, if_pos k1]; rfl⟩
    · have hk1 : key = 1 := (nI_eq (by omega) (by omega)).mp (show nI key = nI 1 from tsw_x hx rfl)
      subst hk1
      refine hG.br rfl rfl rfl rfl (fun k1 => ?_) (fun k1 => ?_)
      · refine hG.br rfl rfl rfl rfl (fun k2 => ?_) (fun k2 => ?_)
        · refine hG.rt hR rfl rfl rfl rfl ?_
          exact ⟨rfl, by rw [nmIx, if_neg (by decide), if_pos rfl, if_neg k1, if_neg k2]; rfl⟩
        · refine hG.rt hR rfl rfl rfl rfl ?_
          exact ⟨rfl, by rw [nmIx, if_neg (by decide), if_pos rfl, if_neg k1, if_pos k2]; rfl⟩
      · refine hG.rt hR rfl rfl rfl rfl ?_
        exact ⟨rfl, by rw [nmIx, if_neg (by decide), if_pos rfl, if_pos k1]; rfl⟩
  · intro hno
    rw [h17] at hno
    have k0 : key ≠ 0 := fun e => hno (0, 32) (by decide) (by rw [e]; rfl)
    have k1' : key ≠ 1 := fun e => hno (1, 64) (by decide) (by rw [e]; rfl)
    refine hG.br rfl rfl rfl rfl (fun k1 => ?_) (fun k1 => ?_)
    · refine hG.br rfl rfl rfl rfl (fun k2 => ?_) (fun k2 => ?_)
      · refine hG.rt hR rfl rfl rfl rfl ?_
        exact ⟨rfl, by rw [nmIx, if_neg k0, if_neg k1', if_neg k1, if_neg k2]; rfl⟩
      · refine hG.rt hR rfl rfl rfl rfl ?_
        exact ⟨rfl, by rw [nmIx, if_neg k0, if_neg k1', if_neg k1, if_pos k2]; rfl⟩
    · refine hG.rt hR rfl rfl rfl rfl ?_
      exact ⟨rfl, by rw [nmIx, if_neg k0, if_neg k1', if_pos k1]; rfl⟩
theorem LxOk_kind {tp : Nat → Int32} {T : Nat} {L : Lx} (h : LxOk tp T L) : L.2.2 = 0 ∨ L.2.2 = 1 ∨ L.2.2 = 2 ∨ L.2.2 = 3 ∨ L.2.2 = 4 := by
  rcases h with ⟨h, -⟩ | ⟨h, -⟩ | ⟨h, -⟩
  · exact Or.inl h
  · exact Or.inr (Or.inr (Or.inr (Or.inl h)))
  · rcases h with h | h | h
    · exact Or.inr (Or.inl h)
    · exact Or.inr (Or.inr (Or.inl h))
    · exact Or.inr (Or.inr (Or.inr (Or.inr h)))
theorem c_M_adv (tp : Nat → Int32) (L : Lx) (htp : σ 103 = tp) (hT : σ 95 11 = nI T) (hT96 : T ≤ 96) (hok : LxOk tp T L) (hL : LxM σ tp L) (hk : L.2.2 = 1 ∨ L.2.2 = 2 ∨ L.2.2 = 3) : Cv l θ 2 m_M_go [.inr 95] σ (fun σ' => LxM σ' tp (advL tp T L) ∧ Sm [95] σ σ' ∧ F95 [12, 13, 14, 15, 16] σ σ') := by
  obtain ⟨l13, l12, l0, l1, l2, l3, l4, l5, l6⟩ := hL
  have h := c_M_go (l := l) (θ := θ) (σ := σ) (T := T) L.2.1 (isW L) hT hT96 (LxOk_le hok).2.1 l12 (fun hw => l5 (by simpa [isW] using hw)) (fun hw q h1 h2 => l6 (by
    have : ¬ (L.2.2 = 1 ∨ L.2.2 = 2) := by simpa [isW] using hw
    rcases hk with h | h | h
    · exact absurd (Or.inl h) this
    · exact absurd (Or.inr h) this
    · exact h) q h1 h2)
  rw [htp] at h
  exact h
end
/-- the reference's reader: words, signs that wait, code, leaves -/
def SyM (σ : Sg) (tp : Nat → Int32) (T key : Nat) (L : Lx) (w : List Nat) (o : List Int32) (lv : Nat) : Prop := σ 103 = tp ∧ σ 95 11 = nI T ∧ T ≤ 96 ∧ σ 95 17 = nI key ∧ key < 3 ∧ LxOk tp T L ∧ LxM σ tp L ∧ StkR (σ 107) (w.map opI) ∧ σ 95 24 = nI w.length ∧ StkR (σ 106) o ∧ σ 95 21 = nI o.length ∧ σ 95 22 = nI lv ∧ opsOk w ∧ w.length + o.length ≤ L.1 ∧ lv ≤ o.length
section
variable {l : Launch} {θ : Th} {σ : Sg} {T key lv : Nat} {tp : Nat → Int32} {L : Lx} {w : List Nat} {o : List Int32}
theorem leafL_kind {v : Nat} (h : leafL tp key L = some v) : (L.2.2 = 2 ∧ L.2.1 - L.1 ≤ 4 ∧ v = numN tp (L.2.1 - L.1) L.1 0) ∨ (L.2.2 = 1 ∧ L.2.1 - L.1 = 1 ∧ ∃ i, nmIx key (tp L.1) = some i ∧ v = 10000 + i) := by
  unfold leafL at h
  split at h
  · rename_i h2
    split at h
    · rename_i h3; cases h; exact Or.inl ⟨h2, h3, rfl⟩
    · cases h
  · split at h
    · rename_i h1
      split at h
      · rename_i h3
        cases hn : nmIx key (tp L.1) with
        | none => rw [hn] at h; cases h
        | some i => rw [hn] at h; cases h; exact Or.inr ⟨h1, h3, i, rfl, rfl⟩
      · cases h
    · cases h
theorem c_M_takesPart (h : SyM σ tp T key L w o lv) : Ci l θ 3 m_M_takesPart [.inr 95] σ (fun r σ' => (leafL tp key L = none → r = 0 ∧ σ' = σ) ∧ (∀ v, leafL tp key L = some v → r = 1 ∧ SyM σ' tp T key (advL tp T L) (stl 6 w (nI v :: o)).1 (stl 6 w (nI v :: o)).2 (lv + 1) ∧ Sm [95, 106] σ σ' ∧ F95 [12, 13, 14, 15, 16, 21, 22, 24] σ σ')) := by
  obtain ⟨htp, hT, hT96, hkey, hk3, hok, hL, hw, hwl, ho, hol, hlv, hops, hle, hlvo⟩ := h
  have hL0 := hL
  obtain ⟨l13, l12, l0, l1, l2, l3, l4, l5, l6⟩ := hL
  have hLle := LxOk_le hok
  refine Ci.of (Or.inl mi_M_takesPart) pk_M_takesPart (nb rfl) (Or.inr rfl) [some (.inr 95), none] rfl fun Γ hG hR => ?_
  have bad : leafL tp key L = none → ∀ b : Bool, b = false → ¬ σ 95 14 = 2 → X Γ 37 [some (.inr 95), none] [.inl (bi b)] σ := by
    rintro hn b rfl h2
    refine hG.br rfl rfl rfl rfl (fun k1 => absurd k1 h2) (fun k1 => ?_)
    refine hG.br rfl rfl rfl rfl (fun k2 => ?_) (fun k2 => ?_)
    · exact absurd rfl k2
    · refine hG.rz hR rfl rfl rfl rfl (Or.inl rfl) ?_
      exact ⟨fun _ => ⟨rfl, rfl⟩, fun v hv => by rw [hn] at hv; cases hv⟩
  -- the leaf is at hand
  have good : ∀ (v : Nat) (w1 : Option AV), leafL tp key L = some v → L.1 < T → X Γ 87 [some (.inr 95), w1] [.inl (nI v), .inl (nI o.length), .inr 106] σ := by
    intro v w1 hv hlt
    refine hG.sti rfl o.length rfl rfl rfl rfl (by omega) ?_
    have hset := c_M_settle (l := l) (θ := θ) 6 (by omega) w (nI v :: o) (up (up (up σ 106 o.length (nI v)) 95 21 (nI (o.length + 1))) 95 22 (nI (lv + 1))) hops (by simp; omega) (by rw [up_c _ _ _ _ (by decide), up_c _ _ _ _ (by decide), up_c _ _ _ _ (by decide)]; exact hw) (by rw [up_j _ _ _ _ (by decide), up_j _ _ _ _ (by decide), up_c _ _ _ _ (by decide)]; exact hwl) (by
      rw [up_c _ _ _ _ (show 106 ≠ 95 by decide), up_c _ _ _ _ (show 106 ≠ 95 by decide), up_same]
      exact ⟨upd_same _ _ _, StkR_upd ho (Nat.le_refl _)⟩) (by rw [up_j _ _ _ _ (by decide), up_self]; rfl)
    have e : up (up (up σ 106 o.length (nI v)) 95 21 (up σ 106 o.length (nI v) 95 21 + 1)) 95 22 (up (up σ 106 o.length (nI v)) 95 21 (up σ 106 o.length (nI v) 95 21 + 1) 95 22 + 1) = up (up (up σ 106 o.length (nI v)) 95 21 (nI (o.length + 1))) 95 22 (nI (lv + 1)) := by
      rw [up_j _ _ _ _ (show 22 ≠ 21 by decide), up_c _ _ _ _ (show 95 ≠ 106 by decide), hol, hlv, nI_1, nI_1]
    refine hG.go 14 rfl rfl ?_
    rw [e]
    generalize hτ : up (up (up σ 106 o.length (nI v)) 95 21 (nI (o.length + 1))) 95 22 (nI (lv + 1)) = τ at hset ⊢
    have hSτ : Sm [95, 106] σ τ := by rw [← hτ]; exact ((Sm.rf.up (by decide)).up (by decide)).up (by decide)
    have hFτ : F95 [21, 22, 24] σ τ := by rw [← hτ]; exact ((F95.rf.upo (by decide)).up (by decide)).up (by decide)
    have hlvτ : τ 95 22 = nI (lv + 1) := by rw [← hτ, up_self]
    refine hG.cVv lk_M_244 mi_M_settle rfl rfl hset rfl rfl rfl rfl rfl rfl rfl rfl ?_
    rintro τ2 ⟨p1, p2, p3, p4, p5, p6⟩
    have hS2 := hSτ.tr p5
    have hF2 := hFτ.tr (p6.mono (ks := [21, 22, 24]) (by decide))
    have hL2 : LxM τ2 tp L := by
      refine ⟨?_, ?_, ?_, ?_, ?_, ?_, ?_, ?_, ?_⟩
      · rw [hF2 13 (by decide)]; exact l13
      · rw [hF2 12 (by decide)]; exact l12
      · rw [hF2 14 (by decide)]; exact l0
      · rw [hF2 14 (by decide), hF2 15 (by decide)]; exact l1
      · rw [hF2 14 (by decide), hF2 15 (by decide)]; exact l2
      · rw [hF2 14 (by decide), hF2 15 (by decide)]; exact l3
      · rw [hF2 14 (by decide)]; exact l4
      · rw [hF2 16 (by decide)]; exact l5
      · rw [hF2 16 (by decide)]; exact l6
    have hkd : L.2.2 = 1 ∨ L.2.2 = 2 ∨ L.2.2 = 3 := by
      rcases leafL_kind hv with ⟨h1, -⟩ | ⟨h1, -⟩
      · exact Or.inr (Or.inl h1)
      · exact Or.inl h1
    refine hG.cVv lk_M_226 mi_M_go rfl rfl (c_M_adv (T := T) tp L (by rw [hS2 103 (by decide)]; exact htp) (by rw [hF2 11 (by decide)]; exact hT) hT96 hok hL2 hkd) rfl rfl rfl rfl rfl rfl rfl rfl ?_
    rintro τ3 ⟨q1, q2, q3⟩
    refine hG.rz hR rfl rfl rfl rfl (Or.inr rfl) ?_
    refine ⟨fun hn => (by rw [hv] at hn; cases hn), fun v2 hv2 => ?_⟩
    rw [hv] at hv2; cases hv2
    have hst := stl_ok 6 w (nI v :: o) hops
    have hadv := advL_ok hok
    have h106 : τ3 106 = τ2 106 := q2 106 (by decide)
    have h107 : τ3 107 = τ2 107 := q2 107 (by decide)
    refine ⟨rfl, ⟨by rw [q2 103 (by decide), hS2 103 (by decide)]; exact htp, by rw [q3 11 (by decide), hF2 11 (by decide)]; exact hT, hT96, by rw [q3 17 (by decide), hF2 17 (by decide)]; exact hkey, hk3, hadv.1, q1, by rw [h107]; exact p1, by rw [q3 24 (by decide)]; exact p2, by rw [h106]; exact p3, by rw [q3 21 (by decide)]; exact p4, ?_, hst.1, ?_, ?_⟩, hS2.tr (q2.mono (by decide)), (hF2.mono (by decide)).tr (q3.mono (by decide))⟩
    · rw [q3 22 (by decide), p6 22 (by decide)]; exact hlvτ
    · have hlt2 : L.1 < L.2.1 := by
        rcases hok with ⟨h, -⟩ | ⟨h, h1, h2, -⟩ | ⟨-, h, -⟩
        · omega
        · omega
        · exact h
      have h1 := hst.2
      simp only [List.length_cons] at h1
      have h2 := hadv.2
      omega
    · have h1 := stl_len 6 w (nI v :: o)
      have h2 := hst.2
      simp only [List.length_cons] at h2
      omega
  have hlt : ∀ v, leafL tp key L = some v → L.1 < T := fun v hv => by
    rcases hok with ⟨h, -⟩ | ⟨-, h, -⟩ | ⟨-, h, h2, -⟩
    · rcases leafL_kind hv with ⟨h1, -⟩ | ⟨h1, -⟩ <;> rw [h] at h1 <;> cases h1
    · exact h
    · omega
  -- from 37 on with a name
  have name : ∀ i, L.2.2 = 1 → leafL tp key L = some (10000 + i) → nmIx key (tp L.1) = some i → X Γ 37 [some (.inr 95), none] [.inl (bi true)] σ := by
    intro i hk1 hv hn
    refine hG.br rfl rfl rfl rfl (fun k1 => ?_) (fun k1 => ?_)
    · rw [(l1 hk1).1] at k1; exact absurd k1 (by decide)
    · refine hG.br rfl rfl rfl rfl (fun k2 => ?_) (fun k2 => ?_)
      · refine hG.br rfl rfl rfl rfl (fun k3 => ?_) (fun k3 => ?_)
        · refine hG.go 4 rfl rfl ?_
          rw [(l1 hk1).2, hol]
          refine hG.cV lk_M_238 mi_M_nameOf rfl rfl (c_M_nameOf key (tp L.1) hk3 hkey) rfl rfl rfl rfl rfl rfl rfl rfl ?_
          rintro x τ ⟨rfl, rfl⟩
          rw [hn]
          refine hG.go 1 rfl rfl ?_
          rw [show (10000 : Int32) + optN (-1) (some i) = nI (10000 + i) from nI_add 10000 i]
          exact good _ _ hv (hlt _ hv)
        · rw [(l1 hk1).1] at k3; exact absurd k3 (by decide)
      · exact absurd k2 (by decide)
  refine hG.br rfl rfl rfl rfl (fun k1 => ?_) (fun k1 => ?_)
  · -- no word
    have hk1 : ¬ L.2.2 = 1 := fun h => k1 (l1 h).1
    by_cases h2 : σ 95 14 = 2
    · have hk2 : L.2.2 = 2 ∧ L.2.1 - L.1 ≤ 4 := by
        rcases LxOk_kind hok with h | h | h | h | h
        · rw [l0 h] at h2; exact absurd h2 (by decide)
        · exact absurd h hk1
        · by_cases hle2 : L.2.1 - L.1 ≤ 4
          · exact ⟨h, hle2⟩
          · rw [(l2 h).2 hle2] at h2; exact absurd h2 (by decide)
        · rw [(l3 h).1] at h2; exact absurd h2 (by decide)
        · rw [l4 h] at h2; exact absurd h2 (by decide)
      have hv : leafL tp key L = some (numN tp (L.2.1 - L.1) L.1 0) := by rw [leafL, if_pos hk2.1, if_pos hk2.2]
      refine hG.go 1 rfl rfl ?_
      refine hG.br rfl rfl rfl rfl (fun k2 => ?_) (fun k2 => absurd h2 k2)
      refine hG.br rfl rfl rfl rfl (fun k3 => absurd h2 k3) (fun k3 => ?_)
      refine hG.go 3 rfl rfl ?_
      rw [((l2 hk2.1).1 hk2.2).2, hol]
      exact good _ _ hv (hlt _ hv)
    · have hn : leafL tp key L = none := by
        cases hlf : leafL tp key L with
        | none => rfl
        | some v =>
          rcases leafL_kind hlf with ⟨h, hle2, -⟩ | ⟨h, -⟩
          · exact absurd ((l2 h).1 hle2).1 h2
          · exact absurd h hk1
      exact hG.go 1 rfl rfl (bad hn false rfl h2)
  · have hk1 : L.2.2 = 1 := by
      rcases LxOk_kind hok with h | h | h | h | h
      · rw [l0 h] at k1; exact absurd k1 (by decide)
      · exact h
      · by_cases hle2 : L.2.1 - L.1 ≤ 4
        · rw [((l2 h).1 hle2).1] at k1; exact absurd k1 (by decide)
        · rw [(l2 h).2 hle2] at k1; exact absurd k1 (by decide)
      · rw [(l3 h).1] at k1; exact absurd k1 (by decide)
      · rw [l4 h] at k1; exact absurd k1 (by decide)
    have h2 : ¬ σ 95 14 = 2 := by rw [k1]; decide
    refine hG.br rfl rfl rfl rfl (fun k2 => ?_) (fun k2 => ?_)
    · rw [l12, l13, pk_sub hLle.2.2] at k2
      have hne : ¬ L.2.1 - L.1 = 1 := fun e => k2 (by rw [e]; rfl)
      have hn : leafL tp key L = none := by rw [leafL, if_neg (by rw [hk1]; decide), if_pos hk1, if_neg hne]
      exact hG.go 1 rfl rfl (bad hn false rfl h2)
    · rw [l12, l13, pk_sub hLle.2.2] at k2
      have heq : L.2.1 - L.1 = 1 := (nI_eq (by omega) (by omega)).mp (show nI (L.2.1 - L.1) = nI 1 from k2)
      have hlf : leafL tp key L = (nmIx key (tp L.1)).map (fun i => 10000 + i) := by rw [leafL, if_neg (by rw [hk1]; decide), if_pos hk1, if_pos heq]
      refine hG.go 3 rfl rfl ?_
      rw [(l1 hk1).2]
      refine hG.cV lk_M_238 mi_M_nameOf rfl rfl (c_M_nameOf key (tp L.1) hk3 hkey) rfl rfl rfl rfl rfl rfl rfl rfl ?_
      rintro x τ ⟨rfl, rfl⟩
      cases hn : nmIx key (tp L.1) with
      | none =>
        rw [hn] at hlf
        refine hG.br rfl rfl rfl rfl (fun k3 => ?_) (fun k3 => ?_)
        · exact hG.go 1 rfl rfl (bad hlf false rfl h2)
        · exact absurd (show optN (-1) none < 0 by decide) k3
      | some i =>
        rw [hn] at hlf
        refine hG.br rfl rfl rfl rfl (fun k3 => ?_) (fun k3 => ?_)
        · have hi : i < 2 ^ 31 := by
            have : i ≤ 2 := by
              unfold nmIx at hn
              split at hn
              · split at hn
                · cases hn; omega
                · split at hn
                  · cases hn; omega
                  · split at hn <;> cases hn; omega
              · split at hn
                · split at hn
                  · cases hn; omega
                  · split at hn <;> cases hn; omega
                · split at hn
                  · cases hn; omega
                  · split at hn <;> cases hn; omega
            omega
          exact absurd (show nI i < 0 from k3) (nI_pos hi)
        · exact hG.go 2 rfl rfl (name i hk1 hlf hn)
end
end
section
abbrev SyS : Type := Lx × List Nat × List Int32 × Nat × Bool × Nat × List Bool
/-- one turn of the reference's reader; none: no text goes on so -/
def syN (tp : Nat → Int32) (T key : Nat) (S : SyS) : Option SyS := match S with
  | (L, w, o, lv, wants, nots, tst) => if wants then (if sgnIs tp L 33 && decide (nots < 8) then some (advL tp T L, 10 :: w, o, lv, true, cntN (10 :: w), tst) else if sgnIs tp L 40 && decide (tst.length < 9) then some (advL tp T L, 11 :: w, o, lv, true, cntN (11 :: w), false :: tst) else match leafL tp key L with
      | none => none
      | some v => some (advL tp T L, (stl 6 w (nI v :: o)).1, (stl 6 w (nI v :: o)).2, lv + 1, false, cntN (stl 6 w (nI v :: o)).1, tst))
    else if sgnIs tp L 41 && decide (1 < tst.length) then some (advL tp T L, (stl 6 (stl 0 w o).1.tail (stl 0 w o).2).1, (stl 6 (stl 0 w o).1.tail (stl 0 w o).2).2, lv, false, cntN (stl 6 (stl 0 w o).1.tail (stl 0 w o).2).1, tst.tail)
    else if opL tp L = 0 ∨ (rnk (opL tp L) = 3 ∧ tst.headD false = true) then none
    else some (advL tp T L, opL tp L :: (stl (rnk (opL tp L)) w o).1, (stl (rnk (opL tp L)) w o).2, lv, true, nots, (decide (rnk (opL tp L) = 3) || (decide (3 < rnk (opL tp L)) && tst.headD false)) :: tst.tail)
def syR (tp : Nat → Int32) (T key : Nat) : Nat → SyS → Option (Nat ⊕ (List Int32 × Nat))
  | 0, _ => none
  | n + 1, S => match S with
    | (L, w, o, lv, wants, nots, tst) => if wants = false ∧ L.2.2 = 0 then (if tst.length = 1 then some (.inr ((stl 0 w o).2, lv)) else some (.inl L.1)) else match syN tp T key (L, w, o, lv, wants, nots, tst) with
      | none => some (.inl L.1)
      | some S' => syR tp T key n S'
theorem syN_op {tp : Nat → Int32} {T key : Nat} {L : Lx} {w : List Nat} {o : List Int32} {lv nots : Nat} {tst : List Bool} (c1 : (sgnIs tp L 41 && decide (1 < tst.length)) = false) : syN tp T key (L, w, o, lv, false, nots, tst) = if opL tp L = 0 ∨ (rnk (opL tp L) = 3 ∧ tst.headD false = true) then none
    else some (advL tp T L, opL tp L :: (stl (rnk (opL tp L)) w o).1, (stl (rnk (opL tp L)) w o).2, lv, true, nots, (decide (rnk (opL tp L) = 3) || (decide (3 < rnk (opL tp L)) && tst.headD false)) :: tst.tail) := by
  unfold syN
  dsimp only
  rw [if_neg (by decide), c1, if_neg (by decide)]
theorem opL_le (tp : Nat → Int32) (L : Lx) : opL tp L ≤ 9 := by
  unfold opL opB
  split
  · repeat (first | omega | split)
  · omega
theorem stl0_open : ∀ (w : List Nat) (o : List Int32), opsOk w → 1 ≤ w.count 11 → ∃ w', (stl 0 w o).1 = 11 :: w' ∧ w'.count 11 + 1 = w.count 11 ∧ opsOk w'
  | [], o, _, h => by simp at h
  | s :: w, o, hops, h => by
    rw [stl]
    by_cases hs : s = 11
    · subst hs
      rw [if_neg (fun q => q.1 rfl)]
      exact ⟨w, rfl, by simp, fun x hx => hops x (List.mem_cons_of_mem _ hx)⟩
    · rw [if_pos ⟨hs, Nat.zero_le _⟩]
      have hc : (s :: w).count 11 = w.count 11 := by rw [List.count_cons]; simp [hs]
      rw [hc] at h ⊢
      exact stl0_open w _ (fun x hx => hops x (List.mem_cons_of_mem _ hx)) h
theorem stl_cnt11 (r : Nat) : ∀ (w : List Nat) (o : List Int32), (stl r w o).1.count 11 = w.count 11
  | [], _ => rfl
  | s :: w, o => by
    rw [stl]
    split
    · rename_i h
      rw [stl_cnt11 r w, List.count_cons]; simp [h.1]
    · rfl
section
variable {l : Launch} {θ : Th} {σ : Sg} {T key lv : Nat} {tp : Nat → Int32} {L : Lx} {w : List Nat} {o : List Int32}
theorem tok_iff (hL : LxM σ tp L) (hok : LxOk tp T L) : (σ 95 14 = 3 ↔ L.2.2 = 3) ∧ (σ 95 14 = 0 ↔ L.2.2 = 0) := by
  obtain ⟨l13, l12, l0, l1, l2, l3, l4, l5, l6⟩ := hL
  rcases LxOk_kind hok with h | h | h | h | h
  · rw [l0 h, h]; decide
  · rw [(l1 h).1, h]; decide
  · by_cases hle : L.2.1 - L.1 ≤ 4
    · rw [((l2 h).1 hle).1, h]; decide
    · rw [(l2 h).2 hle, h]; decide
  · rw [(l3 h).1, h]; decide
  · rw [l4 h, h]; decide
theorem LxM.keep (hL : LxM σ tp L) {τ : Sg} (hF : ∀ j, j = 12 ∨ j = 13 ∨ j = 14 ∨ j = 15 ∨ j = 16 → τ 95 j = σ 95 j) : LxM τ tp L := by
  obtain ⟨l13, l12, l0, l1, l2, l3, l4, l5, l6⟩ := hL
  have e12 := hF 12 (by decide)
  have e13 := hF 13 (by decide)
  have e14 := hF 14 (by decide)
  have e15 := hF 15 (by decide)
  have e16 := hF 16 (by decide)
  unfold LxM
  rw [e12, e13, e14, e15, e16]
  exact ⟨l13, l12, l0, l1, l2, l3, l4, l5, l6⟩
set_option maxHeartbeats 2000000 in
theorem c_M_takesE (htp : σ 103 = tp) (hT : σ 95 11 = nI T) (hT96 : T ≤ 96) (hkey : σ 95 17 = nI key) (hk3 : key < 3) (hok : LxOk tp T L) (hL : LxM σ tp L) : Ci l θ 4 m_M_takesE [.inr 95] σ (fun r σ' => Sm [95, 106, 107, 108] σ σ' ∧ F95 [12, 13, 14, 15, 16, 21, 22, 24] σ σ' ∧ ∃ n, (∃ s, syR tp T key n (L, [], [], 0, true, 0, [false]) = some (.inl s) ∧ r = 0 ∧ σ' 95 13 = nI s) ∨ (∃ oo lv, syR tp T key n (L, [], [], 0, true, 0, [false]) = some (.inr (oo, lv)) ∧ r = 1 ∧ StkR (σ' 106) oo ∧ σ' 95 21 = nI oo.length ∧ σ' 95 22 = nI lv ∧ oo.length ≤ 96 ∧ lv ≤ oo.length)) := by
  refine Ci.of (Or.inl mi_M_takesE) pk_M_takesE (nb rfl) (Or.inr rfl) [some (.inr 95), none, none, none, none] rfl fun Γ hG hR => ?_
  generalize hS0 : ((L, [], [], 0, true, 0, [false]) : SyS) = S0
  have loop : ∀ m, ∀ (L : Lx) (w : List Nat) (o : List Int32) (lv : Nat) (wants : Bool) (nots : Nat) (tst : List Bool) (τ : Sg) (w4 : Option AV), T - L.1 < m → SyM τ tp T key L w o lv → StkR (τ 108) (tst.map bi) → tst.length = w.count 11 + 1 → tst.length ≤ 9 → nots ≤ 96 → Sm [95, 106, 107, 108] σ τ → F95 [12, 13, 14, 15, 16, 21, 22, 24] σ τ → (∀ n res, syR tp T key n (L, w, o, lv, wants, nots, tst) = some res → ∃ n', syR tp T key n' S0 = some res) → X Γ 28 [some (.inr 95), some (.inl (nI (tst.length - 1))), some (.inl (nI nots)), some (.inl (bi wants)), w4] [] τ := by
    intro m
    induction m with
    | zero => intro L w o lv wants nots tst τ w4 hm; omega
    | succ m ih =>
      intro L w o lv wants nots tst τ w4 hm hSy hts htl ht9 hno hS hF hres
      have hSy0 := hSy
      obtain ⟨htp, hT, hT96, hkey, hk3, hok, hL, hw, hwl, ho, hol, hlv, hops, hle, hlvo⟩ := hSy
      have hLle := LxOk_le hok
      have htok := tok_iff hL hok
      have hadv := advL_ok hok
      have hstep : ∀ S', syN tp T key (L, w, o, lv, wants, nots, tst) = some S' → ¬ (wants = false ∧ L.2.2 = 0) → ∀ n res, syR tp T key n S' = some res → ∃ n', syR tp T key n' S0 = some res := by
        intro S' hn hnd n res hr
        exact hres (n + 1) res (by rw [syR, if_neg hnd, hn]; exact hr)
      have hfail : syN tp T key (L, w, o, lv, wants, nots, tst) = none → ¬ (wants = false ∧ L.2.2 = 0) → ∃ n', syR tp T key n' S0 = some (.inl L.1) := by
        intro hn hnd
        exact hres 1 _ (by rw [syR, if_neg hnd, hn])
      have l13 := hL.1
      have hlt3 : (L.2.2 = 1 ∨ L.2.2 = 2 ∨ L.2.2 = 3) → L.1 < L.2.1 ∧ L.1 < T := by
        intro hk
        rcases hok with ⟨h, -⟩ | ⟨h, h1, h2, -⟩ | ⟨-, h, h2, -⟩
        · rw [h] at hk; omega
        · omega
        · omega
      -- the sign at hand
      have hsg : ∀ x : Int32, sgnIs tp L x = true ↔ (τ 95 14 = 3 ∧ τ 95 15 = x) := by
        intro x
        simp only [sgnIs, Bool.and_eq_true, decide_eq_true_eq]
        constructor
        · rintro ⟨h1, h2⟩
          exact ⟨htok.1.mpr h1, by rw [(hL.2.2.2.2.2.1 h1).2]; exact h2⟩
        · rintro ⟨h1, h2⟩
          have h3 := htok.1.mp h1
          exact ⟨h3, by rw [← (hL.2.2.2.2.2.1 h3).2]; exact h2⟩
      cases wants with
      | true =>
        have hnd : ¬ (true = false ∧ L.2.2 = 0) := fun q => by cases q.1
        -- a leaf
        have leaf : (sgnIs tp L 33 && decide (nots < 8)) = false → (sgnIs tp L 40 && decide (tst.length < 9)) = false → X Γ 158 [some (.inr 95), some (.inl (nI (tst.length - 1))), some (.inl (nI nots)), some (.inl (bi true)), w4] [] τ := by
          intro c1 c2
          refine hG.cV lk_M_248 mi_M_takesPart rfl rfl (c_M_takesPart hSy0) rfl rfl rfl rfl rfl rfl rfl rfl ?_
          rintro x τ1 ⟨p1, p2⟩
          cases hlf : leafL tp key L with
          | none =>
            obtain ⟨rfl, rfl⟩ := p1 hlf
            have hn : syN tp T key (L, w, o, lv, true, nots, tst) = none := by simp only [syN, c1, c2, hlf]; rfl
            refine hG.br rfl rfl rfl rfl (fun k1 => ?_) (fun k1 => ?_)
            · refine hG.rz hR rfl rfl rfl rfl (Or.inl rfl) ?_
              obtain ⟨n', hn'⟩ := hfail hn hnd
              exact ⟨hS, hF, n', Or.inl ⟨L.1, by rw [hS0]; exact hn', rfl, l13⟩⟩
            · exact absurd rfl k1
          | some v =>
            obtain ⟨rfl, q1, q2, q3⟩ := p2 v hlf
            have hn : syN tp T key (L, w, o, lv, true, nots, tst) = some (advL tp T L, (stl 6 w (nI v :: o)).1, (stl 6 w (nI v :: o)).2, lv + 1, false, cntN (stl 6 w (nI v :: o)).1, tst) := by simp only [syN, c1, c2, hlf]; rfl
            have hkd : L.2.2 = 1 ∨ L.2.2 = 2 ∨ L.2.2 = 3 := by
              rcases leafL_kind hlf with ⟨h1, -⟩ | ⟨h1, -⟩
              · exact Or.inr (Or.inl h1)
              · exact Or.inl h1
            have hl3 := hlt3 hkd
            have hcl := List.count_le_length (a := 10) (l := (stl 6 w (nI v :: o)).1)
            have hsl := stl_len 6 w (nI v :: o)
            refine hG.br rfl rfl rfl rfl (fun k1 => ?_) (fun k1 => ?_)
            · exact absurd k1 (by decide)
            · refine hG.cV lk_M_252 mi_M_notsOpen rfl rfl (c_M_notsOpen (stl 6 w (nI v :: o)).1 q1.2.2.2.2.2.2.2.2.2.2.2.2.1 (by omega) q1.2.2.2.2.2.2.2.1 q1.2.2.2.2.2.2.2.2.1) rfl rfl rfl rfl rfl rfl rfl rfl ?_
              rintro x τ2 ⟨rfl, rfl⟩
              refine hG.jp rfl rfl rfl ?_
              refine ih (advL tp T L) _ _ (lv + 1) false _ tst τ2 _ (by omega) q1 (by rw [q2 108 (by decide)]; exact hts) (by rw [stl_cnt11]; exact htl) ht9 (by unfold cntN; omega) (hS.tr (q2.mono (by decide))) (hF.tr q3) (hstep _ hn hnd)
        -- an opening bracket
        have opn : (sgnIs tp L 33 && decide (nots < 8)) = false → X Γ 97 [some (.inr 95), some (.inl (nI (tst.length - 1))), some (.inl (nI nots)), some (.inl (bi true)), w4] [] τ := by
          intro c1
          refine hG.br rfl rfl rfl rfl (fun k1 => ?_) (fun k1 => ?_)
          · refine leaf c1 ?_
            have : ¬ sgnIs tp L 40 = true := fun q => k1 ((hsg 40).mp q).1
            simp only [Bool.not_eq_true] at this
            rw [this]; rfl
          · refine hG.br rfl rfl rfl rfl (fun k2 => ?_) (fun k2 => ?_)
            · refine leaf c1 ?_
              have : ¬ sgnIs tp L 40 = true := fun q => k2 ((hsg 40).mp q).2
              simp only [Bool.not_eq_true] at this
              rw [this]; rfl
            · have h40 : sgnIs tp L 40 = true := (hsg 40).mpr ⟨k1, k2⟩
              refine hG.br rfl rfl rfl rfl (fun k3 => ?_) (fun k3 => ?_)
              · refine leaf c1 ?_
                have : ¬ tst.length < 9 := fun q => absurd (show nI 8 ≤ nI (tst.length - 1) from k3) (nI_ge (by omega) (by omega))
                simp [this]
              · have h9 : tst.length < 9 := Nat.not_le.mp (fun q => k3 (show nI 8 ≤ nI (tst.length - 1) from nI_le (by omega) (by omega)))
                have hkd : L.2.2 = 1 ∨ L.2.2 = 2 ∨ L.2.2 = 3 := Or.inr (Or.inr (htok.1.mp k1))
                have hl3 := hlt3 hkd
                have hn : syN tp T key (L, w, o, lv, true, nots, tst) = some (advL tp T L, 11 :: w, o, lv, true, cntN (11 :: w), false :: tst) := by simp only [syN, c1, h40, h9]; rfl
                refine hG.sti rfl w.length rfl rfl rfl hwl (by omega) ?_
                refine hG.stz rfl tst.length rfl rfl rfl (by rw [nI_1]; congr 1; omega) (by omega) (Or.inl rfl) ?_
                generalize hτ1 : up (up (up τ 107 w.length (-11)) 95 24 (up τ 107 w.length (-11) 95 24 + 1)) 108 tst.length 0 = τ1
                have hS1 : Sm [95, 106, 107, 108] τ τ1 := by rw [← hτ1]; exact ((Sm.rf.up (by decide)).up (by decide)).up (by decide)
                have hF1 : F95 [24] τ τ1 := by rw [← hτ1]; exact ((F95.rf.upo (by decide)).up (by decide)).upo (by decide)
                have e24 : τ1 95 24 = nI (w.length + 1) := by rw [← hτ1, up_c _ _ _ _ (by decide), up_self, up_c _ _ _ _ (by decide), hwl, nI_1]
                have e107 : StkR (τ1 107) ((11 :: w).map opI) := by
                  rw [← hτ1, up_c _ _ _ _ (show 107 ≠ 108 by decide), up_c _ _ _ _ (show 107 ≠ 95 by decide), up_same]
                  refine ⟨by rw [List.length_map, upd_same]; rfl, StkR_upd hw (by rw [List.length_map]; exact Nat.le_refl _)⟩
                have e106 : τ1 106 = τ 106 := by rw [← hτ1, up_c _ _ _ _ (by decide), up_c _ _ _ _ (by decide), up_c _ _ _ _ (by decide)]
                have e103 : τ1 103 = τ 103 := by rw [← hτ1, up_c _ _ _ _ (by decide), up_c _ _ _ _ (by decide), up_c _ _ _ _ (by decide)]
                have e108 : StkR (τ1 108) ((false :: tst).map bi) := by
                  rw [← hτ1, up_same, up_c _ _ _ _ (show 108 ≠ 95 by decide), up_c _ _ _ _ (show 108 ≠ 107 by decide)]
                  refine ⟨by rw [List.length_map, upd_same]; rfl, StkR_upd hts (by rw [List.length_map]; exact Nat.le_refl _)⟩
                have hL1 : LxM τ1 tp L := hL.keep (fun j hj => hF1 j (by rcases hj with rfl | rfl | rfl | rfl | rfl <;> decide))
                refine hG.cVv lk_M_226 mi_M_go rfl rfl (c_M_adv (T := T) tp L (by rw [e103]; exact htp) (by rw [hF1 11 (by decide)]; exact hT) hT96 hok hL1 hkd) rfl rfl rfl rfl rfl rfl rfl rfl ?_
                rintro τ2 ⟨q1, q2, q3⟩
                have hops2 : opsOk (11 :: w) := fun x hx => by
                  rcases List.mem_cons.mp hx with rfl | h
                  · omega
                  · exact hops x h
                have g107 : StkR (τ2 107) ((11 :: w).map opI) := by rw [q2 107 (by decide)]; exact e107
                have g24 : τ2 95 24 = nI (11 :: w).length := by rw [q3 24 (by decide), e24]; rfl
                have hcl := List.count_le_length (a := 10) (l := 11 :: w)
                simp only [List.length_cons] at hcl
                refine hG.cV lk_M_252 mi_M_notsOpen rfl rfl (c_M_notsOpen (11 :: w) hops2 (by simp only [List.length_cons]; omega) g107 g24) rfl rfl rfl rfl rfl rfl rfl rfl ?_
                rintro x τ3 ⟨rfl, rfl⟩
                refine hG.jp rfl rfl rfl ?_
                have hpar : nI (tst.length - 1) + 1 = nI ((false :: tst).length - 1) := by rw [nI_1]; congr 1; simp only [List.length_cons]; omega
                rw [hpar]
                refine ih (advL tp T L) (11 :: w) o lv true _ (false :: tst) τ3 _ (by omega) ⟨by rw [q2 103 (by decide), e103]; exact htp, by rw [q3 11 (by decide), hF1 11 (by decide)]; exact hT, hT96, by rw [q3 17 (by decide), hF1 17 (by decide)]; exact hkey, hk3, hadv.1, q1, g107, g24, by rw [q2 106 (by decide), e106]; exact ho, by rw [q3 21 (by decide), hF1 21 (by decide)]; exact hol, by rw [q3 22 (by decide), hF1 22 (by decide)]; exact hlv, hops2, by simp only [List.length_cons]; have := hadv.2; omega, hlvo⟩ (by rw [q2 108 (by decide)]; exact e108) (by simp only [List.length_cons, List.count_cons]; simp; omega) (by simp only [List.length_cons]; omega) (by unfold cntN; omega) (hS.tr (hS1.tr (q2.mono (by decide)))) (hF.tr ((hF1.mono (by decide)).tr (q3.mono (by decide)))) (hstep _ hn hnd)
        refine hG.br rfl rfl rfl rfl (fun k0 => ?_) (fun k0 => absurd k0 (by decide))
        refine hG.br rfl rfl rfl rfl (fun k0 => absurd k0 (by decide)) (fun k0 => ?_)
        refine hG.br rfl rfl rfl rfl (fun k1 => ?_) (fun k1 => ?_)
        · refine opn ?_
          have : ¬ sgnIs tp L 33 = true := fun q => k1 ((hsg 33).mp q).1
          simp only [Bool.not_eq_true] at this
          rw [this]; rfl
        · refine hG.br rfl rfl rfl rfl (fun k2 => ?_) (fun k2 => ?_)
          · refine opn ?_
            have : ¬ sgnIs tp L 33 = true := fun q => k2 ((hsg 33).mp q).2
            simp only [Bool.not_eq_true] at this
            rw [this]; rfl
          · have h33 : sgnIs tp L 33 = true := (hsg 33).mpr ⟨k1, k2⟩
            refine hG.br rfl rfl rfl rfl (fun k3 => ?_) (fun k3 => ?_)
            · refine opn ?_
              have : ¬ nots < 8 := fun q => absurd (show nI 8 ≤ nI nots from k3) (nI_ge q (by omega))
              simp [this]
            · have h8 : nots < 8 := Nat.not_le.mp (fun q => k3 (show nI 8 ≤ nI nots from nI_le q (by omega)))
              have hkd : L.2.2 = 1 ∨ L.2.2 = 2 ∨ L.2.2 = 3 := Or.inr (Or.inr (htok.1.mp k1))
              have hl3 := hlt3 hkd
              have hn : syN tp T key (L, w, o, lv, true, nots, tst) = some (advL tp T L, 10 :: w, o, lv, true, cntN (10 :: w), tst) := by simp only [syN, h33, h8]; rfl
              refine hG.sti rfl w.length rfl rfl rfl hwl (by omega) ?_
              generalize hτ1 : up (up τ 107 w.length (-10)) 95 24 (up τ 107 w.length (-10) 95 24 + 1) = τ1
              have hS1 : Sm [95, 106, 107, 108] τ τ1 := by rw [← hτ1]; exact (Sm.rf.up (by decide)).up (by decide)
              have hF1 : F95 [24] τ τ1 := by rw [← hτ1]; exact (F95.rf.upo (by decide)).up (by decide)
              have e24 : τ1 95 24 = nI (w.length + 1) := by rw [← hτ1, up_self, up_c _ _ _ _ (by decide), hwl, nI_1]
              have e107 : StkR (τ1 107) ((10 :: w).map opI) := by
                rw [← hτ1, up_c _ _ _ _ (show 107 ≠ 95 by decide), up_same]
                refine ⟨by rw [List.length_map, upd_same]; rfl, StkR_upd hw (by rw [List.length_map]; exact Nat.le_refl _)⟩
              have e106 : τ1 106 = τ 106 := by rw [← hτ1, up_c _ _ _ _ (by decide), up_c _ _ _ _ (by decide)]
              have e103 : τ1 103 = τ 103 := by rw [← hτ1, up_c _ _ _ _ (by decide), up_c _ _ _ _ (by decide)]
              have e108 : τ1 108 = τ 108 := by rw [← hτ1, up_c _ _ _ _ (by decide), up_c _ _ _ _ (by decide)]
              have hL1 : LxM τ1 tp L := hL.keep (fun j hj => hF1 j (by rcases hj with rfl | rfl | rfl | rfl | rfl <;> decide))
              refine hG.go 8 rfl rfl ?_
              rw [hτ1]
              refine hG.cVv lk_M_226 mi_M_go rfl rfl (c_M_adv (T := T) tp L (by rw [e103]; exact htp) (by rw [hF1 11 (by decide)]; exact hT) hT96 hok hL1 hkd) rfl rfl rfl rfl rfl rfl rfl rfl ?_
              rintro τ2 ⟨q1, q2, q3⟩
              have hops2 : opsOk (10 :: w) := fun x hx => by
                rcases List.mem_cons.mp hx with rfl | h
                · omega
                · exact hops x h
              have g107 : StkR (τ2 107) ((10 :: w).map opI) := by rw [q2 107 (by decide)]; exact e107
              have g24 : τ2 95 24 = nI (10 :: w).length := by rw [q3 24 (by decide), e24]; rfl
              have hcl := List.count_le_length (a := 10) (l := 10 :: w)
              simp only [List.length_cons] at hcl
              refine hG.cV lk_M_252 mi_M_notsOpen rfl rfl (c_M_notsOpen (10 :: w) hops2 (by simp only [List.length_cons]; omega) g107 g24) rfl rfl rfl rfl rfl rfl rfl rfl ?_
              rintro x τ3 ⟨rfl, rfl⟩
              refine hG.jp rfl rfl rfl ?_
              refine ih (advL tp T L) (10 :: w) o lv true _ tst τ3 _ (by omega) ⟨by rw [q2 103 (by decide), e103]; exact htp, by rw [q3 11 (by decide), hF1 11 (by decide)]; exact hT, hT96, by rw [q3 17 (by decide), hF1 17 (by decide)]; exact hkey, hk3, hadv.1, q1, g107, g24, by rw [q2 106 (by decide), e106]; exact ho, by rw [q3 21 (by decide), hF1 21 (by decide)]; exact hol, by rw [q3 22 (by decide), hF1 22 (by decide)]; exact hlv, hops2, by simp only [List.length_cons]; have := hadv.2; omega, hlvo⟩ (by rw [q2 108 (by decide), e108]; exact hts) (by rw [List.count_cons]; simpa using htl) ht9 (by unfold cntN; omega) (hS.tr (hS1.tr (q2.mono (by decide)))) (hF.tr ((hF1.mono (by decide)).tr (q3.mono (by decide)))) (hstep _ hn hnd)
      | false =>
        -- a sign between, or none
        have sgn : L.2.2 ≠ 0 → (sgnIs tp L 41 && decide (1 < tst.length)) = false → X Γ 237 [some (.inr 95), some (.inl (nI (tst.length - 1))), some (.inl (nI nots)), some (.inl (bi false)), w4] [] τ := by
          intro hk0 c1
          have hnd : ¬ (false = false ∧ L.2.2 = 0) := fun q => hk0 q.2
          refine hG.cV lk_M_255 mi_M_signHere rfl rfl (c_M_signHere tp L hL (LxOk_kind hok)) rfl rfl rfl rfl rfl rfl rfl rfl ?_
          rintro x τ ⟨rfl, rfl⟩
          have hop9 := opL_le tp L
          obtain ⟨hd, tl, rfl⟩ : ∃ hd tl, tst = hd :: tl := by
            cases tst with
            | nil => simp at htl
            | cons hd tl => exact ⟨hd, tl, rfl⟩
          simp only [List.length_cons] at *
          have e108 : τ 108 tl.length = bi hd := by have := hts.1; rwa [List.length_map] at this
          have fail : (opL tp L = 0 ∨ (rnk (opL tp L) = 3 ∧ hd = true)) → X Γ 266 [some (.inr 95), some (.inl (nI (tl.length + 1 - 1))), some (.inl (nI nots)), some (.inl (bi false)), some (.inl (opI (opL tp L)))] [] τ := by
            intro hc
            have hn : syN tp T key (L, w, o, lv, false, nots, hd :: tl) = none := by rw [syN_op c1, if_pos (show opL tp L = 0 ∨ (rnk (opL tp L) = 3 ∧ (hd :: tl).headD false = true) from hc)]
            refine hG.rz hR rfl rfl rfl rfl (Or.inl rfl) ?_
            obtain ⟨n', hn'⟩ := hfail hn hnd
            exact ⟨hS, hF, n', Or.inl ⟨L.1, by rw [hS0]; exact hn', rfl, l13⟩⟩
          refine hG.br rfl rfl rfl rfl (fun k1 => ?_) (fun k1 => ?_)
          · exact fail (Or.inl (opI_inj _ (by omega) 0 (by omega) k1))
          · have hop1 : 1 ≤ opL tp L := by
              rcases Nat.eq_zero_or_pos (opL tp L) with h | h
              · rw [h] at k1; exact absurd rfl k1
              · exact h
            have hkd : L.2.2 = 1 ∨ L.2.2 = 2 ∨ L.2.2 = 3 := by
              refine Or.inr (Or.inr ?_)
              cases Nat.decEq L.2.2 3 with
              | isTrue h => exact h
              | isFalse h => rw [opL, if_neg h] at hop1; omega
            have hl3 := hlt3 hkd
            have hrk := rkI_op (opL tp L) hop1 (by omega)
            have hrk6 := rnk_le (opL tp L)
            have go2 : ¬ (rnk (opL tp L) = 3 ∧ hd = true) → X Γ 268 [some (.inr 95), some (.inl (nI (tl.length + 1 - 1))), some (.inl (nI nots)), some (.inl (bi false)), some (.inl (opI (opL tp L)))] [] τ := by
              intro hc
              have hn : syN tp T key (L, w, o, lv, false, nots, hd :: tl) = some (advL tp T L, opL tp L :: (stl (rnk (opL tp L)) w o).1, (stl (rnk (opL tp L)) w o).2, lv, true, nots, (decide (rnk (opL tp L) = 3) || (decide (3 < rnk (opL tp L)) && hd)) :: tl) := by
                rw [syN_op c1, if_neg (show ¬ (opL tp L = 0 ∨ (rnk (opL tp L) = 3 ∧ (hd :: tl).headD false = true)) from fun q => Or.elim q (fun z => by omega) hc)]
                rfl
              have j305 : ∀ b : Bool, b = (decide (rnk (opL tp L) = 3) || (decide (3 < rnk (opL tp L)) && hd)) → X Γ 305 [some (.inr 95), some (.inl (nI (tl.length + 1 - 1))), some (.inl (nI nots)), some (.inl (bi false)), some (.inl (opI (opL tp L)))] [.inl (bi b), .inl (nI (tl.length + 1 - 1)), .inr 108] τ := by
                intro b hb
                refine hG.stz rfl tl.length rfl rfl rfl rfl (by omega) (bi_01 _) ?_
                generalize hτ1 : up τ 108 tl.length (bi b) = τ1
                have hS1 : Sm [95, 106, 107, 108] τ τ1 := by rw [← hτ1]; exact Sm.rf.up (by decide)
                have hF1 : F95 [] τ τ1 := by rw [← hτ1]; exact F95.rf.upo (by decide)
                have e107 : τ1 107 = τ 107 := by rw [← hτ1, up_c _ _ _ _ (by decide)]
                have e106 : τ1 106 = τ 106 := by rw [← hτ1, up_c _ _ _ _ (by decide)]
                have e103 : τ1 103 = τ 103 := by rw [← hτ1, up_c _ _ _ _ (by decide)]
                have g108 : StkR (τ1 108) ((b :: tl).map bi) := by
                  rw [← hτ1, up_same]
                  exact ⟨by rw [List.length_map, upd_same], StkR_upd hts.2 (by rw [List.length_map]; exact Nat.le_refl _)⟩
                refine hG.cS lk_M_232 mi_M_rank rfl rfl (c_M_rank _) rfl rfl rfl rfl rfl rfl ?_
                rintro x τ1 ⟨rfl, rfl⟩
                rw [hrk]
                refine hG.cVv lk_M_244 mi_M_settle rfl rfl (c_M_settle (rnk (opL tp L)) hrk6 w o τ1 hops (by omega) (by rw [e107]; exact hw) (by rw [hF1 24 (by decide)]; exact hwl) (by rw [e106]; exact ho) (by rw [hF1 21 (by decide)]; exact hol)) rfl rfl rfl rfl rfl rfl rfl rfl ?_
                rintro τ2 ⟨p1, p2, p3, p4, p5, p6⟩
                have hst := stl_ok (rnk (opL tp L)) w o hops
                have hsl := stl_len (rnk (opL tp L)) w o
                refine hG.sti rfl (stl (rnk (opL tp L)) w o).1.length rfl rfl rfl p2 (by omega) ?_
                generalize hτ3 : up (up τ2 107 (stl (rnk (opL tp L)) w o).1.length (opI (opL tp L))) 95 24 (up τ2 107 (stl (rnk (opL tp L)) w o).1.length (opI (opL tp L)) 95 24 + 1) = τ3
                have hS3 : Sm [95, 106, 107, 108] τ τ3 := by rw [← hτ3]; exact ((hS1.tr (p5.mono (by decide))).up (by decide)).up (by decide)
                have hF3 : F95 [21, 24] τ τ3 := by rw [← hτ3]; exact (((hF1.mono (by decide)).tr p6).upo (by decide)).up (by decide)
                have e24 : τ3 95 24 = nI ((stl (rnk (opL tp L)) w o).1.length + 1) := by rw [← hτ3, up_self, up_c _ _ _ _ (by decide), p2, nI_1]
                have h107 : StkR (τ3 107) ((opL tp L :: (stl (rnk (opL tp L)) w o).1).map opI) := by
                  rw [← hτ3, up_c _ _ _ _ (show 107 ≠ 95 by decide), up_same]
                  exact ⟨by rw [List.length_map, upd_same], StkR_upd p1 (by rw [List.length_map]; exact Nat.le_refl _)⟩
                have e1063 : τ3 106 = τ2 106 := by rw [← hτ3, up_c _ _ _ _ (by decide), up_c _ _ _ _ (by decide)]
                have e21 : τ3 95 21 = nI (stl (rnk (opL tp L)) w o).2.length := by rw [← hτ3, up_j _ _ _ _ (by decide), up_c _ _ _ _ (by decide)]; exact p4
                have e1083 : τ3 108 = τ1 108 := by rw [← hτ3, up_c _ _ _ _ (by decide), up_c _ _ _ _ (by decide), p5 108 (by decide)]
                have hL3 : LxM τ3 tp L := hL.keep (fun j hj => hF3 j (by rcases hj with rfl | rfl | rfl | rfl | rfl <;> decide))
                refine hG.go 9 rfl rfl ?_
                rw [hτ3]
                refine hG.cVv lk_M_226 mi_M_go rfl rfl (c_M_adv (T := T) tp L (by rw [hS3 103 (by decide)]; exact htp) (by rw [hF3 11 (by decide)]; exact hT) hT96 hok hL3 hkd) rfl rfl rfl rfl rfl rfl rfl rfl ?_
                rintro τ4 ⟨q1, q2, q3⟩
                refine hG.jp rfl rfl rfl ?_
                refine ih (advL tp T L) (opL tp L :: (stl (rnk (opL tp L)) w o).1) (stl (rnk (opL tp L)) w o).2 lv true nots (b :: tl) τ4 _ (by omega) ⟨by rw [q2 103 (by decide), hS3 103 (by decide)]; exact htp, by rw [q3 11 (by decide), hF3 11 (by decide)]; exact hT, hT96, by rw [q3 17 (by decide), hF3 17 (by decide)]; exact hkey, hk3, hadv.1, q1, by rw [q2 107 (by decide)]; exact h107, by rw [q3 24 (by decide), e24]; rfl, by rw [q2 106 (by decide), e1063]; exact p3, by rw [q3 21 (by decide)]; exact e21, by rw [q3 22 (by decide), hF3 22 (by decide)]; exact hlv, ?_, ?_, ?_⟩ (by rw [q2 108 (by decide), e1083]; exact g108) ?_ (by simp only [List.length_cons]; exact ht9) hno (hS.tr (hS3.tr (q2.mono (by decide)))) (hF.tr ((hF3.mono (by decide)).tr (q3.mono (by decide)))) (hstep _ (by rw [hb]; exact hn) hnd)
                · intro x hx
                  rcases List.mem_cons.mp hx with rfl | h
                  · omega
                  · exact hst.1 x h
                · simp only [List.length_cons]
                  have := hadv.2
                  have := hst.2
                  omega
                · have := hst.2
                  omega
                · rw [List.length_cons, List.count_cons, stl_cnt11]
                  have : ¬ (opL tp L == 11) = true := by simp; omega
                  rw [if_neg this]; exact htl
              refine hG.go 4 rfl rfl ?_
              refine hG.cS lk_M_232 mi_M_rank rfl rfl (c_M_rank _) rfl rfl rfl rfl rfl rfl ?_
              rintro x τ ⟨rfl, rfl⟩
              rw [hrk]
              refine hG.br rfl rfl rfl rfl (fun k2 => ?_) (fun k2 => ?_)
              · have h3 : rnk (opL tp L) = 3 := (nI_eq (by omega) (by omega)).mp (show nI (rnk (opL tp L)) = nI 3 from k2)
                exact hG.go 2 rfl rfl (j305 true (by simp [h3]))
              · have h3 : ¬ rnk (opL tp L) = 3 := fun e => k2 (by rw [e]; rfl)
                refine hG.cS lk_M_232 mi_M_rank rfl rfl (c_M_rank _) rfl rfl rfl rfl rfl rfl ?_
                rintro x τ ⟨rfl, rfl⟩
                rw [hrk]
                refine hG.br rfl rfl rfl rfl (fun k4 => ?_) (fun k4 => ?_)
                · have h4 : ¬ 3 < rnk (opL tp L) := fun q => absurd (show nI (rnk (opL tp L)) ≤ nI 3 from k4) (nI_ge q (by omega))
                  exact hG.go 1 rfl rfl (j305 false (by simp [h3, h4]))
                · have h4 : 3 < rnk (opL tp L) := Nat.not_le.mp (fun q => k4 (show nI (rnk (opL tp L)) ≤ nI 3 from nI_le q (by omega)))
                  refine hG.ld rfl (tl.length) rfl rfl rfl rfl rfl (by omega) ?_
                  rw [e108]
                  refine hG.br rfl rfl rfl rfl (fun k5 => ?_) (fun k5 => ?_)
                  · exact hG.go 1 rfl rfl (j305 false (by rw [bi_eq0.mp k5]; simp [h3]))
                  · exact hG.go 2 rfl rfl (j305 true (by rw [bi_ne0.mp k5]; simp [h4]))
            refine hG.cS lk_M_232 mi_M_rank rfl rfl (c_M_rank _) rfl rfl rfl rfl rfl rfl ?_
            rintro x τ ⟨rfl, rfl⟩
            rw [hrk]
            refine hG.br rfl rfl rfl rfl (fun k2 => ?_) (fun k2 => ?_)
            · exact go2 (fun q => k2 (by rw [q.1]; rfl))
            · have h3 : rnk (opL tp L) = 3 := (nI_eq (by omega) (by omega)).mp (show nI (rnk (opL tp L)) = nI 3 from k2)
              refine hG.ld rfl (tl.length) rfl rfl rfl rfl rfl (by omega) ?_
              rw [e108]
              refine hG.br rfl rfl rfl rfl (fun k3 => ?_) (fun k3 => ?_)
              · exact go2 (fun q => by rw [bi_eq0.mp k3] at q; cases q.2)
              · exact fail (Or.inr ⟨h3, bi_ne0.mp k3⟩)
        refine hG.br rfl rfl rfl rfl (fun k0 => absurd rfl k0) (fun k0 => ?_)
        refine hG.br rfl rfl rfl rfl (fun k1 => ?_) (fun k1 => ?_)
        · -- the end
          have hk0 : L.2.2 = 0 := htok.2.mp k1
          refine hG.cVv lk_M_244 mi_M_settle rfl rfl (c_M_settle 0 (by omega) w o τ hops (by omega) hw hwl ho hol) rfl rfl rfl rfl rfl rfl rfl rfl ?_
          rintro τ2 ⟨p1, p2, p3, p4, p5, p6⟩
          have hst := stl_ok 0 w o hops
          have hsl := stl_len 0 w o
          refine hG.br rfl rfl rfl rfl (fun k2 => ?_) (fun k2 => ?_)
          · have hne : ¬ tst.length = 1 := fun e => k2 (by rw [e]; rfl)
            refine hG.rz hR rfl rfl rfl rfl (Or.inl rfl) ?_
            obtain ⟨n', hn'⟩ := hres 1 (.inl L.1) (by rw [syR, if_pos ⟨rfl, hk0⟩, if_neg hne])
            exact ⟨hS.tr (p5.mono (by decide)), hF.tr (p6.mono (by decide)), n', Or.inl ⟨L.1, by rw [hS0]; exact hn', rfl, by rw [p6 13 (by decide)]; exact l13⟩⟩
          · have heq : tst.length = 1 := by
              have := (nI_eq (by omega) (by omega)).mp (show nI (tst.length - 1) = nI 0 from k2)
              omega
            refine hG.rz hR rfl rfl rfl rfl (Or.inr rfl) ?_
            obtain ⟨n', hn'⟩ := hres 1 (.inr ((stl 0 w o).2, lv)) (by rw [syR, if_pos ⟨rfl, hk0⟩, if_pos heq])
            exact ⟨hS.tr (p5.mono (by decide)), hF.tr (p6.mono (by decide)), n', Or.inr ⟨_, lv, by rw [hS0]; exact hn', rfl, p3, p4, by rw [p6 22 (by decide)]; exact hlv, by have := hst.2; omega, by have := hst.2; omega⟩⟩
        · have hk0 : L.2.2 ≠ 0 := fun e => k1 (htok.2.mpr e)
          have hnd : ¬ (false = false ∧ L.2.2 = 0) := fun q => hk0 q.2
          refine hG.br rfl rfl rfl rfl (fun k2 => ?_) (fun k2 => absurd rfl k2)
          refine hG.br rfl rfl rfl rfl (fun k3 => ?_) (fun k3 => ?_)
          · refine sgn hk0 ?_
            have : ¬ sgnIs tp L 41 = true := fun q => k3 ((hsg 41).mp q).1
            simp only [Bool.not_eq_true] at this
            rw [this]; rfl
          · refine hG.br rfl rfl rfl rfl (fun k4 => ?_) (fun k4 => ?_)
            · refine sgn hk0 ?_
              have : ¬ sgnIs tp L 41 = true := fun q => k4 ((hsg 41).mp q).2
              simp only [Bool.not_eq_true] at this
              rw [this]; rfl
            · have h41 : sgnIs tp L 41 = true := (hsg 41).mpr ⟨k3, k4⟩
              refine hG.br rfl rfl rfl rfl (fun k5 => ?_) (fun k5 => ?_)
              · refine sgn hk0 ?_
                have : ¬ 1 < tst.length := fun q => absurd k5 (nI_nle (by omega) (by omega))
                simp [this]
              · have h1 : 1 < tst.length := by
                  rcases Nat.lt_or_ge 1 tst.length with h | h
                  · exact h
                  · exact absurd (show nI (tst.length - 1) ≤ 0 by rw [show tst.length - 1 = 0 by omega]; decide) k5
                have hkd : L.2.2 = 1 ∨ L.2.2 = 2 ∨ L.2.2 = 3 := Or.inr (Or.inr (htok.1.mp k3))
                have hl3 := hlt3 hkd
                obtain ⟨w', hw', hcw', hopw'⟩ := stl0_open w o hops (by omega)
                have hn : syN tp T key (L, w, o, lv, false, nots, tst) = some (advL tp T L, (stl 6 w' (stl 0 w o).2).1, (stl 6 w' (stl 0 w o).2).2, lv, false, cntN (stl 6 w' (stl 0 w o).2).1, tst.tail) := by
                  simp only [syN, h41, h1, hw', List.tail_cons]; rfl
                refine hG.cVv lk_M_244 mi_M_settle rfl rfl (c_M_settle 0 (by omega) w o τ hops (by omega) hw hwl ho hol) rfl rfl rfl rfl rfl rfl rfl rfl ?_
                rintro τ2 ⟨p1, p2, p3, p4, p5, p6⟩
                have hst := stl_ok 0 w o hops
                have hsl0 := stl_len 0 w o
                rw [hw'] at p1 p2 hst hsl0
                simp only [List.length_cons, List.map_cons] at p1 p2 hst hsl0
                have e24 : up τ2 95 24 (τ2 95 24 - 1) = up τ2 95 24 (nI w'.length) := by rw [p2, nI_pred]
                refine hG.go 8 rfl rfl ?_
                rw [e24]
                refine hG.cVv lk_M_244 mi_M_settle rfl rfl (c_M_settle 6 (by omega) w' (stl 0 w o).2 (up τ2 95 24 (nI w'.length)) hopw' (by omega) (by rw [up_c _ _ _ _ (by decide)]; exact p1.2) (up_self _ _ _ _) (by rw [up_c _ _ _ _ (by decide)]; exact p3) (by rw [up_j _ _ _ _ (by decide)]; exact p4)) rfl rfl rfl rfl rfl rfl rfl rfl ?_
                rintro τ3 ⟨r1, r2, r3, r4, r5, r6⟩
                have hst6 := stl_ok 6 w' (stl 0 w o).2 hopw'
                have hsl6 := stl_len 6 w' (stl 0 w o).2
                have hcl := List.count_le_length (a := 10) (l := (stl 6 w' (stl 0 w o).2).1)
                have hS3 : Sm [95, 106, 107, 108] τ τ3 := ((p5.mono (ds := [95, 106, 107, 108]) (by decide)).up (by decide)).tr (r5.mono (by decide))
                have hF3 : F95 [21, 24] τ τ3 := (p6.up (by decide)).tr r6
                refine hG.cV lk_M_252 mi_M_notsOpen rfl rfl (c_M_notsOpen (stl 6 w' (stl 0 w o).2).1 hst6.1 (by omega) r1 r2) rfl rfl rfl rfl rfl rfl rfl rfl ?_
                rintro x τ4 ⟨rfl, rfl⟩
                have hL3 : LxM τ4 tp L := hL.keep (fun j hj => hF3 j (by rcases hj with rfl | rfl | rfl | rfl | rfl <;> decide))
                have e1084 : τ4 108 = τ 108 := by rw [r5 108 (by decide), up_c _ _ _ _ (by decide), p5 108 (by decide)]
                refine hG.cVv lk_M_226 mi_M_go rfl rfl (c_M_adv (T := T) tp L (by rw [hS3 103 (by decide)]; exact htp) (by rw [hF3 11 (by decide)]; exact hT) hT96 hok hL3 hkd) rfl rfl rfl rfl rfl rfl rfl rfl ?_
                rintro τ5 ⟨q1, q2, q3⟩
                refine hG.jp rfl rfl rfl ?_
                obtain ⟨hd, tl, rfl⟩ : ∃ hd tl, tst = hd :: tl := by
                  cases tst with
                  | nil => simp at htl
                  | cons hd tl => exact ⟨hd, tl, rfl⟩
                simp only [List.length_cons] at *
                have hpar : nI (tl.length + 1 - 1) + -1 = nI (tl.length - 1) := by
                  rw [i32_sub1, show tl.length + 1 - 1 = (tl.length - 1) + 1 by omega, nI_pred]
                rw [hpar]
                refine ih (advL tp T L) (stl 6 w' (stl 0 w o).2).1 (stl 6 w' (stl 0 w o).2).2 lv false _ tl τ5 _ (by omega) ⟨by rw [q2 103 (by decide), hS3 103 (by decide)]; exact htp, by rw [q3 11 (by decide), hF3 11 (by decide)]; exact hT, hT96, by rw [q3 17 (by decide), hF3 17 (by decide)]; exact hkey, hk3, hadv.1, q1, by rw [q2 107 (by decide)]; exact r1, by rw [q3 24 (by decide)]; exact r2, by rw [q2 106 (by decide)]; exact r3, by rw [q3 21 (by decide)]; exact r4, by rw [q3 22 (by decide), hF3 22 (by decide)]; exact hlv, hst6.1, by have := hadv.2; have := hst6.2; omega, by have := hst6.2; omega⟩ (by rw [q2 108 (by decide), e1084]; exact hts.2) (by rw [stl_cnt11]; omega) (by omega) (by unfold cntN; omega) (hS.tr (hS3.tr (q2.mono (by decide)))) (hF.tr ((hF3.mono (by decide)).tr (q3.mono (by decide)))) (hstep _ hn hnd)
  -- the start
  refine hG.stz rfl 0 rfl rfl rfl rfl (by decide) (Or.inl rfl) ?_
  generalize hτ : up (up (up (up σ 95 21 0) 95 22 0) 95 24 0) 108 0 0 = τ
  have hSτ : Sm [95, 106, 107, 108] σ τ := by rw [← hτ]; exact (((Sm.rf.up (by decide)).up (by decide)).up (by decide)).up (by decide)
  have hFτ : F95 [21, 22, 24] σ τ := by rw [← hτ]; exact (((F95.rf.up (by decide)).up (by decide)).up (by decide)).upo (by decide)
  refine loop (T + 1) L [] [] 0 true 0 [false] τ none (by omega) ⟨by rw [hSτ 103 (by decide)]; exact htp, by rw [hFτ 11 (by decide)]; exact hT, hT96, by rw [hFτ 17 (by decide)]; exact hkey, hk3, hok, hL.keep (fun j hj => hFτ j (by rcases hj with rfl | rfl | rfl | rfl | rfl <;> decide)), trivial, ?_, trivial, ?_, ?_, fun x hx => absurd hx List.not_mem_nil, Nat.zero_le _, Nat.le_refl _⟩ ⟨?_, trivial⟩ rfl (by decide) (by omega) hSτ (hFτ.mono (by decide)) (fun n res h => ⟨n, by rw [← hS0]; exact h⟩)
  · rw [← hτ, up_c _ _ _ _ (by decide), up_self]; rfl
  · rw [← hτ, up_c _ _ _ _ (by decide), up_j _ _ _ _ (by decide), up_j _ _ _ _ (by decide), up_self]; rfl
  · rw [← hτ, up_c _ _ _ _ (by decide), up_j _ _ _ _ (by decide), up_self]; rfl
  · rw [← hτ, up_same]; exact upd_same _ _ _
end
end
section
def KyOk (σ : Sg) : Prop := (∀ i, i < 12 → σ 104 i = (st_byt.getD 0 []).getD i 0) ∧ ∀ i, i < 4 → σ 105 i = nI (4 * i)
def PrM (tp : Nat → Int32) (T : Nat) (res : Nat ⊕ (Nat × List Int32 × Nat)) : Prop := match keyL tp (lexN tp T 0 false) with
  | none => res = .inl (lexN tp T 0 false).1
  | some k => ∃ n, match res with
    | .inl s => syR tp T k n (advL tp T (lexN tp T 0 false), [], [], 0, true, 0, [false]) = some (.inl s)
    | .inr (k', oo, lv) => k' = k ∧ syR tp T k n (advL tp T (lexN tp T 0 false), [], [], 0, true, 0, [false]) = some (.inr (oo, lv))
def txtF (f : Nat → Int32) (t k : Nat) (oo : List Int32) (lv : Nat) : Nat → Int32 := fun j => if j = 5 then nI (t + 1) else if j = 58 + 2 * t then nI (1000 * k + oo.length) else if j = 58 + 2 * t + 1 then nI lv else if 86 + 96 * t ≤ j ∧ j < 86 + 96 * t + oo.length then oo.reverse.getD (j - (86 + 96 * t)) 0 else f j
section
variable {l : Launch} {θ : Th} {σ : Sg} {T n c t y : Nat} {tp : Nat → Int32} {L : Lx}
theorem c_M_takesKey (hK : KyOk σ) (htp : σ 103 = tp) (hT : σ 95 11 = nI T) (hT96 : T ≤ 96) (hok : LxOk tp T L) (hL : LxM σ tp L) : Ci l θ 3 m_M_takesKey [.inr 95] σ (fun r σ' => (keyL tp L = none → r = 0 ∧ σ' = σ) ∧ (∀ k, keyL tp L = some k → k < 3 ∧ r = 1 ∧ σ' 95 17 = nI k ∧ LxM σ' tp (advL tp T L) ∧ Sm [95] σ σ' ∧ F95 [12, 13, 14, 15, 16, 17] σ σ')) := by
  have hL0 := hL
  obtain ⟨l13, l12, l0, l1, l2, l3, l4, l5, l6⟩ := hL
  have hLle := LxOk_le hok
  obtain ⟨hk1, hk2⟩ := hK
  refine Ci.of (Or.inl mi_M_takesKey) pk_M_takesKey (nb rfl) (Or.inr rfl) [some (.inr 95), none, none, none, none] rfl fun Γ hG hR => ?_
  have no : keyL tp L = none → ∀ x : Lc, x.length = 5 → True := fun _ _ _ => trivial
  refine hG.br rfl rfl rfl rfl (fun k1 => ?_) (fun k1 => ?_)
  · have hkd : L.2.2 = 1 := by
      rcases LxOk_kind hok with h | h | h | h | h
      · rw [l0 h] at k1; exact absurd k1 (by decide)
      · exact h
      · by_cases hle2 : L.2.1 - L.1 ≤ 4
        · rw [((l2 h).1 hle2).1] at k1; exact absurd k1 (by decide)
        · rw [(l2 h).2 hle2] at k1; exact absurd k1 (by decide)
      · rw [(l3 h).1] at k1; exact absurd k1 (by decide)
      · rw [l4 h] at k1; exact absurd k1 (by decide)
    have hP : keyL tp L = fndB (fun q => decide (L.2.1 - L.1 = 4) && keyIs tp L q) 0 3 := by
      rw [keyL]
      by_cases h4 : L.2.1 - L.1 = 4
      · rw [if_pos ⟨hkd, h4⟩]
        simp [h4]
      · rw [if_neg (fun q => h4 q.2)]
        simp [fndB, h4]
    have loop : ∀ m q, q + m = 3 → ∀ (w2 w3 w4 : Option AV), keyL tp L = fndB (fun q => decide (L.2.1 - L.1 = 4) && keyIs tp L q) q m → X Γ 12 [some (.inr 95), some (.inl (nI q)), w2, w3, w4] [] σ := by
      intro m
      induction m with
      | zero =>
        intro q hq w2 w3 w4 he
        have hq : q = 3 := by omega
        subst hq
        refine hG.br rfl rfl rfl rfl (fun k2 => ?_) (fun k2 => ?_)
        · refine hG.rz hR rfl rfl rfl rfl (Or.inl rfl) ?_
          exact ⟨fun _ => ⟨rfl, rfl⟩, fun k hk => by rw [he] at hk; cases hk⟩
        · exact absurd (show nI 3 ≤ nI 3 from nI_le (Nat.le_refl _) (by omega)) k2
      | succ m ih =>
        intro q hq w2 w3 w4 he
        rw [fndB_s _ _ m] at he
        refine hG.br rfl rfl rfl rfl (fun k2 => ?_) (fun k2 => ?_)
        · exact absurd (show nI 3 ≤ nI q from k2) (nI_ge (by omega) (by omega))
        · refine hG.ld rfl (q + 1) rfl rfl rfl rfl (nI_1 q) (by omega) ?_
          refine hG.ld rfl q rfl rfl rfl rfl rfl (by omega) ?_
          rw [hk2 _ (by omega), hk2 _ (by omega)]
          refine hG.go 2 rfl rfl ?_
          rw [pk_sub (show 4 * q ≤ 4 * (q + 1) by omega), show 4 * (q + 1) - 4 * q = 4 by omega]
          -- whether the key is this one
          have fin : ∀ (b : Bool) (w4 : Option AV), b = (decide (L.2.1 - L.1 = 4) && keyIs tp L q) → X Γ 106 [some (.inr 95), some (.inl (nI q)), some (.inl (nI 4)), some (.inl (bi b)), w4] [] σ := by
            rintro b w4 hb
            rw [← hb] at he
            refine hG.br rfl rfl rfl rfl (fun k3 => ?_) (fun k3 => ?_)
            · rw [bi_eq0.mp k3] at he
              refine hG.jp rfl rfl rfl ?_
              rw [nI_1]
              exact ih (q + 1) (by omega) _ _ _ he
            · rw [bi_ne0.mp k3, if_pos rfl] at he
              have hL1 : LxM (up σ 95 17 (nI q)) tp L := hL0.keep (fun j hj => by rw [up_j _ _ _ _ (by omega)])
              refine hG.cVv lk_M_226 mi_M_go rfl rfl (c_M_adv (T := T) tp L (by rw [up_c _ _ _ _ (by decide)]; exact htp) (by rw [up_j _ _ _ _ (by decide)]; exact hT) hT96 hok hL1 (Or.inl hkd)) rfl rfl rfl rfl rfl rfl rfl rfl ?_
              rintro τ ⟨q1, q2, q3⟩
              refine hG.rz hR rfl rfl rfl rfl (Or.inr rfl) ?_
              refine ⟨fun hn => (by rw [he] at hn; cases hn), fun k hk => ?_⟩
              rw [he] at hk; cases hk
              refine ⟨by omega, rfl, ?_, q1, (Sm.rf.up (by decide)).tr q2, (F95.rf.up (by decide)).tr (q3.mono (by decide))⟩
              rw [q3 17 (by decide), up_self]
          have inner : ∀ m2 i, i + m2 = 4 → keyIs tp L q = allB (fun i => decide (tp (L.1 + i) = keyW q i)) i m2 → L.2.1 - L.1 = 4 → X Γ 55 [some (.inr 95), some (.inl (nI q)), some (.inl (nI 4)), some (.inl (bi true)), some (.inl (nI i))] [] σ := by
            intro m2
            induction m2 with
            | zero =>
              intro i hi he2 h4
              refine hG.br rfl rfl rfl rfl (fun k3 => ?_) (fun k3 => ?_)
              · exact fin true _ (by rw [he2, h4]; rfl)
              · exact absurd (nI_le (show 4 ≤ i by omega) (by omega)) k3
            | succ m2 ih2 =>
              intro i hi he2 h4
              rw [allB_s _ _ m2] at he2
              refine hG.br rfl rfl rfl rfl (fun k3 => ?_) (fun k3 => ?_)
              · exact absurd k3 (nI_ge (by omega) (by omega))
              · refine hG.br rfl rfl rfl rfl (fun k4 => ?_) (fun k4 => ?_)
                · exact absurd k4 (by decide)
                · refine hG.ld rfl (L.1 + i) rfl rfl rfl rfl (by rw [l13, nI_add]) (by omega) ?_
                  refine hG.ld rfl q rfl rfl rfl rfl rfl (by omega) ?_
                  rw [hk2 _ (by omega), htp]
                  refine hG.ld rfl (4 * q + i) rfl rfl rfl rfl (by rw [nI_add]) (by omega) ?_
                  rw [hk1 _ (by omega)]
                  refine hG.br rfl rfl rfl rfl (fun k5 => ?_) (fun k5 => ?_)
                  · have hb : keyIs tp L q = false := by
                      rw [he2, decide_eq_false (show ¬ tp (L.1 + i) = keyW q i from k5)]; rfl
                    refine hG.jp rfl rfl rfl ?_
                    rw [nI_1]
                    refine hG.br rfl rfl rfl rfl (fun k6 => ?_) (fun k6 => ?_)
                    · exact fin false _ (by rw [hb]; simp)
                    · refine hG.br rfl rfl rfl rfl (fun k7 => ?_) (fun k7 => ?_)
                      · exact fin false _ (by rw [hb]; simp)
                      · exact absurd rfl k7
                  · have hb : keyIs tp L q = allB (fun i => decide (tp (L.1 + i) = keyW q i)) (i + 1) m2 := by
                      rw [he2, decide_eq_true (show tp (L.1 + i) = keyW q i from k5)]; rfl
                    refine hG.jp rfl rfl rfl ?_
                    rw [nI_1]
                    exact ih2 (i + 1) (by omega) hb h4
          refine hG.br rfl rfl rfl rfl (fun k3 => ?_) (fun k3 => ?_)
          · rw [l12, l13, pk_sub hLle.2.2] at k3
            have hne : ¬ L.2.1 - L.1 = 4 := fun e => k3 (by rw [e])
            have fin0 := fin false (some (.inl 0)) (by simp [hne])
            refine hG.go 4 rfl rfl ?_
            refine hG.br rfl rfl rfl rfl (fun k4 => ?_) (fun k4 => ?_)
            · exact fin0
            · refine hG.br rfl rfl rfl rfl (fun k5 => ?_) (fun k5 => ?_)
              · exact fin0
              · exact absurd rfl k5
          · rw [l12, l13, pk_sub hLle.2.2] at k3
            have heq : L.2.1 - L.1 = 4 := ((nI_eq (by omega) (by omega)).mp k3).symm
            exact hG.go 5 rfl rfl (inner 4 0 rfl rfl heq)
    exact hG.go 2 rfl rfl (loop 3 0 rfl none none none hP)
  · have hkd : ¬ L.2.2 = 1 := fun h => k1 (l1 h).1
    have hn : keyL tp L = none := by rw [keyL, if_neg (fun q => hkd q.1)]
    refine hG.rz hR rfl rfl rfl rfl (Or.inl rfl) ?_
    exact ⟨fun _ => ⟨rfl, rfl⟩, fun k hk => by rw [hn] at hk; cases hk⟩
theorem StkR_get {g : Nat → Int32} {s : List Int32} {i : Nat} (h : StkR g s) (hi : i < s.length) : g i = s.reverse.getD i 0 := by
  have hi2 : i < s.reverse.length := by rw [List.length_reverse]; exact hi
  have hx : s.reverse[i]? = some s.reverse[i] := List.getElem?_eq_getElem hi2
  rw [StkR_at h hx, List.getD_eq_getElem?_getD, hx]; rfl
theorem o_M_text (hf : FOk (σ 96) n c t y) (hK : KyOk σ) (hT : σ 95 11 = nI T) (hT96 : T ≤ 96) : Ci l θ 6 m_M_text [.inr 95] σ (fun r σ' => Sm [95, 96, 106, 107, 108] σ σ' ∧ F95 [11, 12, 13, 14, 15, 16, 17, 21, 22, 24] σ σ' ∧ σ' 95 11 = 0 ∧ ∃ res, PrM (σ 103) T res ∧ (∀ s, res = .inl s → r = -100 - nI s ∧ σ' 96 = σ 96) ∧ (∀ k oo lv, res = .inr (k, oo, lv) → k < 3 ∧ oo.length ≤ 96 ∧ lv ≤ oo.length ∧ (t = 14 → r = -1000000003 ∧ σ' 96 = σ 96) ∧ (t ≠ 14 → r = nI t ∧ σ' 96 = txtF (σ 96) t k oo lv))) := by
  obtain ⟨h1, hn, h4, hc, h5, ht, h2, h2y, hTx, hW⟩ := hf
  refine Ci.of (Or.inl mi_M_text) pk_M_text (nb rfl) (Or.inl rfl) [some (.inr 95), none, none, none] rfl fun Γ hG hR => ?_
  refine hG.go 7 rfl rfl ?_
  generalize hτ0 : up (up σ 95 12 0) 95 16 (-1) = τ0
  have hS0 : Sm [95, 96, 106, 107, 108] σ τ0 := by rw [← hτ0]; exact (Sm.rf.up (by decide)).up (by decide)
  have hF0 : F95 [12, 16] σ τ0 := by rw [← hτ0]; exact (F95.rf.up (by decide)).up (by decide)
  have e103 : τ0 103 = σ 103 := hS0 103 (by decide)
  have hgo := c_M_go (l := l) (θ := θ) (σ := τ0) (T := T) 0 false (by rw [hF0 11 (by decide)]; exact hT) hT96 (Nat.zero_le _) (by rw [← hτ0, up_j _ _ _ _ (by decide), up_self]; rfl) (fun h => by cases h) (fun _ q _ hq => by
    rw [← hτ0, up_self]
    intro e
    exact absurd (show (0 : Int32) ≤ -1 by rw [e]; exact nI_pos' (by omega)) (by decide))
  rw [e103] at hgo
  refine hG.cVv lk_M_226 mi_M_go rfl rfl hgo rfl rfl rfl rfl rfl rfl rfl rfl ?_
  rintro τ1 ⟨q1, q2, q3⟩
  have hok := (lexN_ok (tp := σ 103) (T := T) (p := 0) (pw := false) (Nat.zero_le _)).1
  generalize hLx : lexN (σ 103) T 0 false = L0 at q1 hok
  have hS1 := hS0.tr (q2.mono (ds := [95, 96, 106, 107, 108]) (by decide))
  have hF1 : F95 [12, 13, 14, 15, 16] σ τ1 := (hF0.mono (by decide)).tr q3
  have hK1 : KyOk τ1 := by
    unfold KyOk
    rw [hS1 104 (by decide), hS1 105 (by decide)]; exact hK
  -- no text
  have bad : ∀ (s : Nat) (τ : Sg), PrM (σ 103) T (.inl s) → Sm [95, 96, 106, 107, 108] σ τ → F95 [12, 13, 14, 15, 16, 17, 21, 22, 24] σ τ → τ 95 13 = nI s → τ 96 = σ 96 → X Γ 32 [some (.inr 95), none, none, none] [] τ := by
    intro s τ hp hS hF e13 e96
    refine hG.br rfl rfl rfl rfl (fun k1 => absurd rfl k1) (fun _ => ?_)
    refine hG.rt hR rfl rfl rfl rfl ?_
    refine ⟨hS.up (by decide), (hF.mono (by decide)).up (by decide), up_self _ _ _ _, .inl s, hp, fun s2 hs2 => ?_, fun _ _ _ h => by cases h⟩
    cases hs2
    exact ⟨by rw [up_j _ _ _ _ (by decide), e13], by rw [up_c _ _ _ _ (by decide)]; exact e96⟩
  refine hG.cV lk_M_258 mi_M_takesKey rfl rfl (c_M_takesKey (T := T) (tp := σ 103) (L := L0) hK1 (hS1 103 (by decide)) (by rw [hF1 11 (by decide)]; exact hT) hT96 hok q1) rfl rfl rfl rfl rfl rfl rfl rfl ?_
  rintro x τ2 ⟨p1, p2⟩
  cases hky : keyL (σ 103) L0 with
  | none =>
    obtain ⟨rfl, rfl⟩ := p1 hky
    refine hG.br rfl rfl rfl rfl (fun k1 => ?_) (fun k1 => ?_)
    · refine bad L0.1 τ2 ?_ hS1 (hF1.mono (by decide)) q1.1 ?_
      · unfold PrM
        rw [hLx, hky]
      · rw [q2 96 (by decide), ← hτ0, up_c _ _ _ _ (by decide), up_c _ _ _ _ (by decide)]
    · exact absurd rfl k1
  | some k =>
    obtain ⟨hk3, rfl, e17, hL2, hS2, hF2⟩ := p2 k hky
    have hS3 := hS1.tr (hS2.mono (ds := [95, 96, 106, 107, 108]) (by decide))
    have hF3 : F95 [12, 13, 14, 15, 16, 17] σ τ2 := (hF1.mono (by decide)).tr hF2
    have e962 : τ2 96 = σ 96 := by rw [hS2 96 (by decide), q2 96 (by decide), ← hτ0, up_c _ _ _ _ (by decide), up_c _ _ _ _ (by decide)]
    refine hG.br rfl rfl rfl rfl (fun k1 => ?_) (fun k1 => ?_)
    · exact absurd k1 (by decide)
    · refine hG.cV lk_M_261 mi_M_takesE rfl rfl (c_M_takesE (T := T) (tp := σ 103) (key := k) (L := advL (σ 103) T L0) (hS3 103 (by decide)) (by rw [hF3 11 (by decide)]; exact hT) hT96 e17 hk3 (advL_ok hok).1 hL2) rfl rfl rfl rfl rfl rfl rfl rfl ?_
      rintro x τ3 ⟨hS4, hF4, nn, hcase⟩
      have hS5 := hS3.tr (hS4.mono (ds := [95, 96, 106, 107, 108]) (by decide))
      have hF5 : F95 [12, 13, 14, 15, 16, 17, 21, 22, 24] σ τ3 := (hF3.mono (by decide)).tr (hF4.mono (by decide))
      have e963 : τ3 96 = σ 96 := by rw [hS4 96 (by decide)]; exact e962
      rcases hcase with ⟨s, hs, rfl, e13⟩ | ⟨oo, lv, hs, rfl, ho, e21, e22, hoo, hlv⟩
      · refine hG.br rfl rfl rfl rfl (fun k2 => ?_) (fun k2 => ?_)
        · refine bad s τ3 ?_ hS5 hF5 e13 e963
          unfold PrM
          rw [hLx, hky]
          exact ⟨nn, hs⟩
        · exact absurd rfl k2
      · refine hG.br rfl rfl rfl rfl (fun k2 => ?_) (fun k2 => ?_)
        · exact absurd k2 (by decide)
        · have hp : PrM (σ 103) T (.inr (k, oo, lv)) := by
            unfold PrM
            rw [hLx, hky]
            exact ⟨nn, rfl, hs⟩
          refine hG.br rfl rfl rfl rfl (fun _ => ?_) (fun k3 => absurd k3 (by decide))
          generalize hτ4 : up τ3 95 11 0 = τ4
          have hS6 : Sm [95, 96, 106, 107, 108] σ τ4 := by rw [← hτ4]; exact hS5.up (by decide)
          have hF6 : F95 [11, 12, 13, 14, 15, 16, 17, 21, 22, 24] σ τ4 := by rw [← hτ4]; exact (hF5.mono (by decide)).up (by decide)
          have e11 : τ4 95 11 = 0 := by rw [← hτ4, up_self]
          have e964 : τ4 96 = σ 96 := by rw [← hτ4, up_c _ _ _ _ (by decide)]; exact e963
          have e106 : τ4 106 = τ3 106 := by rw [← hτ4, up_c _ _ _ _ (by decide)]
          have f17 : τ4 95 17 = nI k := by rw [← hτ4, up_j _ _ _ _ (by decide), hF4 17 (by decide)]; exact e17
          have f21 : τ4 95 21 = nI oo.length := by rw [← hτ4, up_j _ _ _ _ (by decide)]; exact e21
          have f22 : τ4 95 22 = nI lv := by rw [← hτ4, up_j _ _ _ _ (by decide)]; exact e22
          refine hG.ld rfl 5 rfl rfl rfl rfl rfl (by decide) ?_
          rw [e964, h5]
          refine hG.br rfl rfl rfl rfl (fun k3 => ?_) (fun k3 => ?_)
          · have ht14 : t ≠ 14 := fun e => k3 (by rw [e]; rfl)
            refine hG.ld rfl 5 rfl rfl rfl rfl rfl (by decide) ?_
            rw [e964, h5]
            refine hG.sti rfl (58 + 2 * t) rfl rfl rfl (by simp only [lit_nI, pk_mul, nI_add]) (by omega) ?_
            rw [f17, f21, show (1000 : Int32) * nI k + nI oo.length = nI (1000 * k + oo.length) by rw [show (1000 : Int32) * nI k = nI (1000 * k) from pk_mul 1000 k, nI_add]]
            refine hG.sti rfl (58 + 2 * t + 1) rfl rfl rfl (by simp only [lit_nI, pk_mul, nI_add]) (by omega) ?_
            rw [up_c _ _ _ _ (show 95 ≠ 96 by decide), f22]
            have eg : up (up τ4 96 (58 + 2 * t) (nI (1000 * k + oo.length))) 96 (58 + 2 * t + 1) (nI lv) = upc τ4 96 (upd (upd (σ 96) (58 + 2 * t) (nI (1000 * k + oo.length))) (58 + 2 * t + 1) (nI lv)) := by
              rw [show up τ4 96 (58 + 2 * t) (nI (1000 * k + oo.length)) = upc τ4 96 (upd (τ4 96) (58 + 2 * t) (nI (1000 * k + oo.length))) from rfl, up_upc, e964]
            rw [eg]
            generalize hg : upd (upd (σ 96) (58 + 2 * t) (nI (1000 * k + oo.length))) (58 + 2 * t + 1) (nI lv) = g
            have loop : ∀ m i, i + m = oo.length → X Γ 115 [some (.inr 95), some (.inl (bi true)), some (.inl (nI t)), some (.inl (nI i))] [] (upc τ4 96 (fun j => if 86 + 96 * t ≤ j ∧ j < 86 + 96 * t + i then oo.reverse.getD (j - (86 + 96 * t)) 0 else g j)) := by
              intro m
              induction m with
              | zero =>
                intro i hi
                have hi : i = oo.length := by omega
                subst hi
                refine hG.br rfl rfl rfl rfl (fun k4 => ?_) (fun k4 => ?_)
                · refine hG.ld rfl 5 rfl rfl rfl rfl rfl (by decide) ?_
                  refine hG.sti rfl 5 rfl rfl rfl rfl (by decide) ?_
                  refine hG.rt hR rfl rfl rfl rfl ?_
                  rw [up_upc]
                  refine ⟨hS6.upc (by decide), fun j hj => by rw [upc_c _ _ _ (by decide)]; exact hF6 j hj, by rw [upc_c _ _ _ (by decide)]; exact e11, _, hp, fun _ h => (by cases h), fun k2 oo2 lv2 h => ?_⟩
                  cases h
                  refine ⟨hk3, hoo, hlv, fun e => absurd e ht14, fun _ => ⟨rfl, ?_⟩⟩
                  rw [upc_same, upc_same]
                  funext j
                  simp only [upd, txtF]
                  by_cases hj5 : j = 5
                  · subst hj5
                    rw [if_pos rfl, if_pos rfl, if_neg (by omega), ← hg]
                    rw [upd_ne (by omega), upd_ne (by omega), h5, nI_1]
                  · rw [if_neg hj5, if_neg hj5]
                    by_cases hq : 86 + 96 * t ≤ j ∧ j < 86 + 96 * t + oo.length
                    · rw [if_pos hq, if_neg (by omega), if_neg (by omega), if_pos hq]
                    · rw [if_neg hq, if_neg hq, ← hg]
                      simp only [upd]
                      by_cases ha : j = 58 + 2 * t + 1
                      · rw [if_pos ha, if_neg (by omega), if_pos ha]
                      · rw [if_neg ha, if_neg ha]
                · rw [upc_c _ _ _ (by decide), f21] at k4
                  exact absurd (nI_le (Nat.le_refl _) (by omega)) k4
              | succ m ih =>
                intro i hi
                refine hG.br rfl rfl rfl rfl (fun k4 => ?_) (fun k4 => ?_)
                · rw [upc_c _ _ _ (by decide), f21] at k4
                  exact absurd k4 (nI_ge (by omega) (by omega))
                · refine hG.ld rfl i rfl rfl rfl rfl rfl (by omega) ?_
                  rw [upc_c _ _ _ (show 106 ≠ 96 by decide), e106, StkR_get ho (by omega)]
                  refine hG.sti rfl (86 + 96 * t + i) rfl rfl rfl (by simp only [lit_nI, pk_mul, nI_add]) (by omega) ?_
                  refine hG.jp rfl rfl rfl ?_
                  rw [nI_1, up_upc]
                  have e : upd (fun j => if 86 + 96 * t ≤ j ∧ j < 86 + 96 * t + i then oo.reverse.getD (j - (86 + 96 * t)) 0 else g j) (86 + 96 * t + i) (oo.reverse.getD i 0) = (fun j => if 86 + 96 * t ≤ j ∧ j < 86 + 96 * t + (i + 1) then oo.reverse.getD (j - (86 + 96 * t)) 0 else g j) := by
                    funext j
                    simp only [upd]
                    by_cases hj : j = 86 + 96 * t + i
                    · subst hj
                      rw [if_pos rfl, if_pos ⟨by omega, by omega⟩, show 86 + 96 * t + i - (86 + 96 * t) = i by omega]
                    · rw [if_neg hj]
                      by_cases hq : 86 + 96 * t ≤ j ∧ j < 86 + 96 * t + i
                      · rw [if_pos hq, if_pos ⟨hq.1, by omega⟩]
                      · rw [if_neg hq, if_neg (fun z => hq ⟨z.1, by omega⟩)]
                  rw [e]
                  exact ih (i + 1) (by omega)
            have hl0 := loop oo.length 0 (by omega)
            rw [show (fun j => if 86 + 96 * t ≤ j ∧ j < 86 + 96 * t + 0 then oo.reverse.getD (j - (86 + 96 * t)) 0 else g j) = g by funext j; rw [if_neg (by omega)]] at hl0
            exact hG.go 2 rfl rfl hl0
          · have ht14 : t = 14 := (nI_eq (by omega) (by omega)).mp (show nI t = nI 14 from k3)
            refine hG.rt hR rfl rfl rfl rfl ?_
            refine ⟨hS6, hF6, e11, _, hp, fun _ h => (by cases h), fun k2 oo2 lv2 h => ?_⟩
            cases h
            exact ⟨hk3, hoo, hlv, fun _ => ⟨rfl, e964⟩, fun e => absurd ht14 e⟩
end
end
section
/-! the class's small methods -/
theorem i32_le1 {a x y : Int32} (h : x.toInt + 1 = y.toInt) : a ≤ x ↔ a < y := by rw [Int32.le_iff_toInt_le, Int32.lt_iff_toInt_lt]; omega
theorem inB_hi {a b x y : Int32} (h : x.toInt + 1 = y.toInt) : inB a b x = (decide (b ≤ a) && decide (a < y)) := by
  rw [inB]; congr 1; exact decide_eq_decide.mpr (i32_le1 h)
section
variable {l : Launch} {θ : Th} {σ : Sg}
theorem c_W_bit (b : Bool) : Ci l θ 1 m_W_bit [.inl (bi b)] σ (fun r σ' => σ' = σ ∧ r = bi b) := by
  refine Ci.of (Or.inr mi_W_bit) pk_W_bit (nb rfl) (Or.inl rfl) [some (.inl (bi b))] rfl fun Γ hG hR => ?_
  refine hG.br rfl rfl rfl rfl (fun h1 => ?_) (fun h1 => ?_)
  · refine hG.rt hR rfl rfl rfl rfl ?_
    exact ⟨rfl, by rw [bi_eq0.mp h1]; rfl⟩
  · refine hG.rt hR rfl rfl rfl rfl ?_
    exact ⟨rfl, by rw [bi_ne0.mp h1]; rfl⟩
theorem c_K_isKind (a : Int32) : Ci l θ 1 m_K_isKind [.inl a] σ (fun r σ' => σ' = σ ∧ r = bi (inB a 0 5)) := by
  rw [inB_hi (y := 6) rfl]
  refine Ci.of (Or.inr mi_K_isKind) pk_K_isKind (nb rfl) (Or.inr rfl) [some (.inl a)] rfl fun Γ hG hR => ?_
  refine hG.br rfl rfl rfl rfl (fun h1 => ?_) (fun h1 => ?_)
  · refine hG.rz hR rfl rfl rfl rfl (Or.inl rfl) ?_
    exact ⟨rfl, by simp [bi, i32_nle.mpr h1]⟩
  · refine hG.br rfl rfl rfl rfl (fun h2 => ?_) (fun h2 => ?_)
    · refine hG.rz hR rfl rfl rfl rfl (Or.inl rfl) ?_
      exact ⟨rfl, by simp [bi, i32_nlt.mpr h2]⟩
    · refine hG.rz hR rfl rfl rfl rfl (Or.inr rfl) ?_
      exact ⟨rfl, by simp [bi, i32_nlt.mp h1, i32_nle.mp h2]⟩
theorem c_W_isName (a : Int32) : Ci l θ 1 m_W_isName [.inl a] σ (fun r σ' => σ' = σ ∧ r = bi (inB a 0 124)) := by
  rw [inB_hi (y := 125) rfl]
  refine Ci.of (Or.inr mi_W_isName) pk_W_isName (nb rfl) (Or.inr rfl) [some (.inl a)] rfl fun Γ hG hR => ?_
  refine hG.br rfl rfl rfl rfl (fun h1 => ?_) (fun h1 => ?_)
  · refine hG.rz hR rfl rfl rfl rfl (Or.inl rfl) ?_
    exact ⟨rfl, by simp [bi, i32_nle.mpr h1]⟩
  · refine hG.br rfl rfl rfl rfl (fun h2 => ?_) (fun h2 => ?_)
    · refine hG.rz hR rfl rfl rfl rfl (Or.inl rfl) ?_
      exact ⟨rfl, by simp [bi, i32_nlt.mpr h2]⟩
    · refine hG.rz hR rfl rfl rfl rfl (Or.inr rfl) ?_
      exact ⟨rfl, by simp [bi, i32_nlt.mp h1, i32_nle.mp h2]⟩
theorem c_W_isSheet (a : Int32) : Ci l θ 1 m_W_isSheet [.inl a] σ (fun r σ' => σ' = σ ∧ r = bi (inB a 0 3)) := by
  rw [inB_hi (y := 4) rfl]
  refine Ci.of (Or.inr mi_W_isSheet) pk_W_isSheet (nb rfl) (Or.inr rfl) [some (.inl a)] rfl fun Γ hG hR => ?_
  refine hG.br rfl rfl rfl rfl (fun h1 => ?_) (fun h1 => ?_)
  · refine hG.rz hR rfl rfl rfl rfl (Or.inl rfl) ?_
    exact ⟨rfl, by simp [bi, i32_nle.mpr h1]⟩
  · refine hG.br rfl rfl rfl rfl (fun h2 => ?_) (fun h2 => ?_)
    · refine hG.rz hR rfl rfl rfl rfl (Or.inl rfl) ?_
      exact ⟨rfl, by simp [bi, i32_nlt.mpr h2]⟩
    · refine hG.rz hR rfl rfl rfl rfl (Or.inr rfl) ?_
      exact ⟨rfl, by simp [bi, i32_nlt.mp h1, i32_nle.mp h2]⟩
theorem c_W_isSlot (a : Int32) : Ci l θ 1 m_W_isSlot [.inl a] σ (fun r σ' => σ' = σ ∧ r = bi (inB a 0 4)) := by
  rw [inB_hi (y := 5) rfl]
  refine Ci.of (Or.inr mi_W_isSlot) pk_W_isSlot (nb rfl) (Or.inr rfl) [some (.inl a)] rfl fun Γ hG hR => ?_
  refine hG.br rfl rfl rfl rfl (fun h1 => ?_) (fun h1 => ?_)
  · refine hG.rz hR rfl rfl rfl rfl (Or.inl rfl) ?_
    exact ⟨rfl, by simp [bi, i32_nle.mpr h1]⟩
  · refine hG.br rfl rfl rfl rfl (fun h2 => ?_) (fun h2 => ?_)
    · refine hG.rz hR rfl rfl rfl rfl (Or.inl rfl) ?_
      exact ⟨rfl, by simp [bi, i32_nlt.mpr h2]⟩
    · refine hG.rz hR rfl rfl rfl rfl (Or.inr rfl) ?_
      exact ⟨rfl, by simp [bi, i32_nlt.mp h1, i32_nle.mp h2]⟩
theorem c_W_isAskedYear (a : Int32) : Ci l θ 1 m_W_isAskedYear [.inl a] σ (fun r σ' => σ' = σ ∧ r = bi (inB a (-999) 99999)) := by
  refine Ci.of (Or.inr mi_W_isAskedYear) pk_W_isAskedYear (nb rfl) (Or.inr rfl) [some (.inl a)] rfl fun Γ hG hR => ?_
  refine hG.br rfl rfl rfl rfl (fun h1 => ?_) (fun h1 => ?_)
  · refine hG.rz hR rfl rfl rfl rfl (Or.inl rfl) ?_
    exact ⟨rfl, by simp [bi, inB, i32_nle.mpr h1]⟩
  · refine hG.br rfl rfl rfl rfl (fun h2 => ?_) (fun h2 => ?_)
    · refine hG.rz hR rfl rfl rfl rfl (Or.inl rfl) ?_
      exact ⟨rfl, by simp [bi, inB, i32_nle.mpr h2]⟩
    · refine hG.rz hR rfl rfl rfl rfl (Or.inr rfl) ?_
      exact ⟨rfl, by simp [bi, inB, i32_nlt.mp h1, i32_nlt.mp h2]⟩
theorem c_K_worth (k nm : Int32) : Ci l θ 1 m_K_worth [.inl k, .inl nm] σ (fun r σ' => σ' = σ ∧ r = worthK k nm) := by
  refine Ci.of (Or.inr mi_K_worth) pk_K_worth (nb rfl) (Or.inl rfl) [some (.inl k), some (.inl nm)] rfl fun Γ hG hR => ?_
  refine hG.tsw [36, 48, 41, 54, 63] 65 rfl rfl rfl (by decide +kernel) ?_ ?_
  · intro j t hk hx
    match j, hk, hx with
    | 0, hk, hx =>
      cases hk
      have e : k = 1 := tsw_x hx rfl
      refine hG.rt hR rfl rfl rfl rfl ?_
      exact ⟨rfl, by simp [worthK, e]⟩
    | 1, hk, hx =>
      cases hk
      have e : k = 2 := tsw_x hx rfl
      refine hG.rt hR rfl rfl rfl rfl ?_
      exact ⟨rfl, by simp [worthK, e]⟩
    | 2, hk, hx =>
      cases hk
      have e : k = 3 := tsw_x hx rfl
      refine hG.rt hR rfl rfl rfl rfl ?_
      exact ⟨rfl, by simp [worthK, e]⟩
    | 3, hk, hx =>
      cases hk
      have e : k = 4 := tsw_x hx rfl
      refine hG.rt hR rfl rfl rfl rfl ?_
      refine ⟨rfl, ?_⟩
      rw [worthK, if_neg (by rw [e]; decide), if_neg (by rw [e]; decide), if_neg (by rw [e]; decide), if_pos e]
      rw [Int32.sub_eq_add_neg, Int32.sub_eq_add_neg, Int32.sub_eq_add_neg, Int32.add_assoc, Int32.add_comm (-nm), ← Int32.add_assoc]
      rfl
    | 4, hk, hx =>
      cases hk
      have e : k = 5 := tsw_x hx rfl
      refine hG.rt hR rfl rfl rfl rfl ?_
      exact ⟨rfl, by simp [worthK, e]⟩
    | j + 5, hk, hx => simp at hk
  · intro hx
    have e1 : ¬ k = 1 := fun e => hx 0 (by decide) (by rw [e]; rfl)
    have e2 : ¬ k = 2 := fun e => hx 1 (by decide) (by rw [e]; rfl)
    have e3 : ¬ k = 3 := fun e => hx 2 (by decide) (by rw [e]; rfl)
    have e4 : ¬ k = 4 := fun e => hx 3 (by decide) (by rw [e]; rfl)
    have e5 : ¬ k = 5 := fun e => hx 4 (by decide) (by rw [e]; rfl)
    refine hG.rt hR rfl rfl rfl rfl ?_
    exact ⟨rfl, by simp [worthK, e1, e2, e3, e4, e5]⟩
theorem c_K_isOf (k o : Nat) (hk : k < 6) : Ci l θ 2 m_K_isOf [.inl (nI k), .inl (nI o)] σ (fun r σ' => σ' = σ ∧ r = bi (underK (nI k) (nI o))) := by
  refine Ci.of (Or.inr mi_K_isOf) pk_K_isOf (nb rfl) (Or.inr rfl) [some (.inl (nI k)), some (.inl (nI o)), none, none] rfl fun Γ hG hR => ?_
  have fin : ∀ j, j < 6 → underK (nI k) (nI o) = false → X Γ 4 [some (.inl (nI k)), some (.inl (nI o)), some (.inl (-1)), some (.inl (nI j))] [] σ := by
    intro j hj hu
    refine hG.br rfl rfl rfl rfl (fun h1 => ?_) (fun h1 => ?_)
    · exact absurd (show nI 6 ≤ nI j from h1) (nI_ge hj (by omega))
    · refine hG.cS lk_K_11 mi_K_isKind rfl rfl (c_K_isKind (-1)) rfl rfl rfl rfl rfl rfl ?_
      rintro x σ' ⟨rfl, rfl⟩
      refine hG.br rfl rfl rfl rfl (fun h2 => ?_) (fun h2 => ?_)
      · refine hG.rz hR rfl rfl rfl rfl (Or.inl rfl) ?_
        exact ⟨rfl, by rw [hu]; rfl⟩
      · exact absurd (by decide) h2
  have one : ∀ m j, m < 6 → j < 6 → (nI m = nI o → underK (nI k) (nI o) = true) → (¬ nI m = nI o → X Γ 4 [some (.inl (nI k)), some (.inl (nI o)), some (.inl (abv m)), some (.inl (nI (j + 1)))] [] σ) → X Γ 4 [some (.inl (nI k)), some (.inl (nI o)), some (.inl (nI m)), some (.inl (nI j))] [] σ := by
    intro m j hm hj hy hn
    refine hG.br rfl rfl rfl rfl (fun h1 => ?_) (fun h1 => ?_)
    · exact absurd (show nI 6 ≤ nI j from h1) (nI_ge hj (by omega))
    · refine hG.cS lk_K_11 mi_K_isKind rfl rfl (c_K_isKind (nI m)) rfl rfl rfl rfl rfl rfl ?_
      rintro x σ' ⟨rfl, rfl⟩
      refine hG.br rfl rfl rfl rfl (fun h2 => ?_) (fun h2 => ?_)
      · have : inB (nI m) 0 5 = true := (inB_nI (m := 5) (by omega)).mpr ⟨m, by omega, rfl⟩
        exact absurd (bi_eq0.mp h2) (by rw [this]; decide)
      · refine hG.br rfl rfl rfl rfl (fun h3 => ?_) (fun h3 => ?_)
        · refine hG.gabv rfl rfl rfl rfl ?_
          refine hG.gabvld rfl m rfl rfl rfl hm ?_
          refine hG.jp rfl rfl rfl ?_
          rw [show nI j + 1 = nI (j + 1) from nI_1 j]
          exact hn h3
        · refine hG.rz hR rfl rfl rfl rfl (Or.inr rfl) ?_
          exact ⟨rfl, by rw [hy h3]; rfl⟩
  refine hG.go 4 rfl rfl ?_
  rcases (by omega : k = 0 ∨ k = 1 ∨ k = 2 ∨ k = 3 ∨ k = 4 ∨ k = 5) with rfl | rfl | rfl | rfl | rfl | rfl
  · exact one 0 0 (by omega) (by omega) (fun h => by rw [← h]; decide) (fun h => fin 1 (by omega) (by
      have a0 : ¬ nI o = 0 := fun e => h e.symm
      have a3 : ¬ (nI 0 : Int32) = 3 := by decide
      have a4 : ¬ (nI 0 : Int32) = 4 := by decide
      simp [underK, a0, h, a3, a4]))
  · exact one 1 0 (by omega) (by omega) (fun h => by rw [← h]; decide) (fun h => one 0 1 (by omega) (by omega) (fun h0 => by rw [← h0]; decide) (fun h0 => fin 2 (by omega) (by
      have a0 : ¬ nI o = 0 := fun e => h0 e.symm
      have a3 : ¬ (nI 1 : Int32) = 3 := by decide
      have a4 : ¬ (nI 1 : Int32) = 4 := by decide
      simp [underK, a0, h, a3, a4])))
  · exact one 2 0 (by omega) (by omega) (fun h => by rw [← h]; decide) (fun h => one 0 1 (by omega) (by omega) (fun h0 => by rw [← h0]; decide) (fun h0 => fin 2 (by omega) (by
      have a0 : ¬ nI o = 0 := fun e => h0 e.symm
      have a3 : ¬ (nI 2 : Int32) = 3 := by decide
      have a4 : ¬ (nI 2 : Int32) = 4 := by decide
      simp [underK, a0, h, a3, a4])))
  · exact one 3 0 (by omega) (by omega) (fun h => by rw [← h]; decide) (fun h => one 1 1 (by omega) (by omega) (fun h0 => by rw [← h0]; decide) (fun h1 => one 0 2 (by omega) (by omega) (fun h0 => by rw [← h0]; decide) (fun h0 => fin 3 (by omega) (by
      have a0 : ¬ nI o = 0 := fun e => h0 e.symm
      have a1 : ¬ nI o = 1 := fun e => h1 e.symm
      have a4 : ¬ (nI 3 : Int32) = 4 := by decide
      simp [underK, a0, h, a1, a4]))))
  · exact one 4 0 (by omega) (by omega) (fun h => by rw [← h]; decide) (fun h => one 2 1 (by omega) (by omega) (fun h0 => by rw [← h0]; decide) (fun h1 => one 0 2 (by omega) (by omega) (fun h0 => by rw [← h0]; decide) (fun h0 => fin 3 (by omega) (by
      have a0 : ¬ nI o = 0 := fun e => h0 e.symm
      have a2 : ¬ nI o = 2 := fun e => h1 e.symm
      have a3 : ¬ (nI 4 : Int32) = 3 := by decide
      simp [underK, a0, h, a2, a3]))))
  · exact one 5 0 (by omega) (by omega) (fun h => by rw [← h]; decide) (fun h => one 0 1 (by omega) (by omega) (fun h0 => by rw [← h0]; decide) (fun h0 => fin 2 (by omega) (by
      have a0 : ¬ nI o = 0 := fun e => h0 e.symm
      have a3 : ¬ (nI 5 : Int32) = 3 := by decide
      have a4 : ¬ (nI 5 : Int32) = 4 := by decide
      simp [underK, a0, h, a3, a4])))
def alvC (d : Int32) : Bool := decide (d = -1000000005)
def oneC (d tm y : Int32) : Bool := alvC d || decide (y - d < tm)
def awyC (b d tm y : Int32) : Bool := oneC d tm y && decide (y - b < 100)
def sntC (d tm y : Int32) : Bool := oneC d tm y || decide (y - d < 200)
def holdC (k b d tm y : Int32) : Bool := holdK k (alvC d) (oneC d tm y) (sntC d tm y) (y - b) y
theorem holdF_C (f : Nat → Int32) (p : Nat) (y : Int32) : holdF f p y = holdC (f (18 + 4 * p)) (f (18 + 4 * p + 2)) (f (18 + 4 * p + 3)) (f 3) y := by
  have e0 : aliveF f p = alvC (f (18 + 4 * p + 3)) := rfl
  have e1 : oneF f p y = oneC (f (18 + 4 * p + 3)) (f 3) y := by
    rw [oneF, oneC, deadF, e0]; cases alvC (f (18 + 4 * p + 3)) <;> simp
  have e2 : saintF f p y = sntC (f (18 + 4 * p + 3)) (f 3) y := by
    rw [saintF, sntC, e1, deadF, e0, oneC]; cases alvC (f (18 + 4 * p + 3)) <;> simp
  rw [holdF, holdC, e0, e1, e2]
theorem c_K_holdsIn (k b d tm y : Int32) : Ci l θ 1 m_K_holdsIn [.inl k, .inl b, .inl d, .inl tm, .inl y] σ (fun r σ' => σ' = σ ∧ r = bi (holdC k b d tm y)) := by
  refine Ci.of (Or.inr mi_K_holdsIn) pk_K_holdsIn (nb rfl) (Or.inr rfl) [some (.inl k), some (.inl b), some (.inl d), some (.inl tm), some (.inl y), none, none, none, none] rfl fun Γ hG hR => ?_
  have j11 : X Γ 11 [some (.inl k), some (.inl b), some (.inl d), some (.inl tm), some (.inl y), none, none, none, none] [.inl (bi (alvC d))] σ := by
    have j31 : X Γ 31 [some (.inl k), some (.inl b), some (.inl d), some (.inl tm), some (.inl y), some (.inl (bi (alvC d))), none, none, none] [.inl (bi (oneC d tm y))] σ := by
      have j52 : X Γ 52 [some (.inl k), some (.inl b), some (.inl d), some (.inl tm), some (.inl y), some (.inl (bi (alvC d))), some (.inl (bi (oneC d tm y))), none, none] [.inl (bi (awyC b d tm y))] σ := by
        have j74 : X Γ 74 [some (.inl k), some (.inl b), some (.inl d), some (.inl tm), some (.inl y), some (.inl (bi (alvC d))), some (.inl (bi (oneC d tm y))), some (.inl (bi (awyC b d tm y))), none] [.inl (bi (sntC d tm y))] σ := by
          refine hG.tsw [112, 138, 115, 141, 162] 165 rfl rfl rfl (by decide +kernel) ?_ ?_
          · intro j t hk hx
            match j, hk, hx with
            | 0, hk, hx =>
              cases hk
              have e : k = 1 := tsw_x hx rfl
              refine hG.rz hR rfl rfl rfl rfl (bi_01 _) ?_
              exact ⟨rfl, by rw [holdC, holdK, if_pos e, awyC]⟩
            | 1, hk, hx =>
              cases hk
              have e : k = 2 := tsw_x hx rfl
              refine hG.rz hR rfl rfl rfl rfl (bi_01 _) ?_
              exact ⟨rfl, by rw [holdC, holdK, if_neg (by rw [e]; decide), if_pos e]⟩
            | 2, hk, hx =>
              cases hk
              have e : k = 3 := tsw_x hx rfl
              have e' : holdC k b d tm y = (awyC b d tm y && (!alvC d || decide (y - y / 2 * 2 = 0))) := by rw [holdC, holdK, if_neg (by rw [e]; decide), if_neg (by rw [e]; decide), if_pos e, awyC]
              rw [e'] at hR
              refine hG.br rfl rfl rfl rfl (fun h1 => ?_) (fun h1 => ?_)
              · refine hG.rz hR rfl rfl rfl rfl (Or.inl rfl) ?_
                exact ⟨rfl, by rw [bi_eq0.mp h1]; rfl⟩
              · refine hG.br rfl rfl rfl rfl (fun h2 => ?_) (fun h2 => ?_)
                · refine hG.rz hR rfl rfl rfl rfl (Or.inr rfl) ?_
                  exact ⟨rfl, by rw [bi_ne0.mp h1, bi_eq0.mp h2]; rfl⟩
                · refine hG.rm rfl rfl rfl (by decide) ?_
                  refine hG.br rfl rfl rfl rfl (fun h3 => ?_) (fun h3 => ?_)
                  · refine hG.rz hR rfl rfl rfl rfl (Or.inl rfl) ?_
                    exact ⟨rfl, by rw [bi_ne0.mp h2, decide_eq_false h3]; cases awyC b d tm y <;> rfl⟩
                  · refine hG.rz hR rfl rfl rfl rfl (Or.inr rfl) ?_
                    exact ⟨rfl, by rw [bi_ne0.mp h1, decide_eq_true h3]; cases alvC d <;> rfl⟩
            | 3, hk, hx =>
              cases hk
              have e : k = 4 := tsw_x hx rfl
              have e' : holdC k b d tm y = (sntC d tm y || decide (y - b < 500)) := by rw [holdC, holdK, if_neg (by rw [e]; decide), if_neg (by rw [e]; decide), if_neg (by rw [e]; decide), if_pos e]
              rw [e'] at hR
              refine hG.br rfl rfl rfl rfl (fun h1 => ?_) (fun h1 => ?_)
              · refine hG.rz hR rfl rfl rfl rfl (Or.inr rfl) ?_
                exact ⟨rfl, by rw [bi_ne0.mp h1]; rfl⟩
              · refine hG.br rfl rfl rfl rfl (fun h2 => ?_) (fun h2 => ?_)
                · refine hG.rz hR rfl rfl rfl rfl (Or.inl rfl) ?_
                  exact ⟨rfl, by rw [bi_eq0.mp h1, decide_eq_false (i32_nlt.mpr h2)]; rfl⟩
                · refine hG.rz hR rfl rfl rfl rfl (Or.inr rfl) ?_
                  exact ⟨rfl, by rw [decide_eq_true (i32_nle.mp h2), Bool.or_true]; rfl⟩
            | 4, hk, hx =>
              cases hk
              have e : k = 5 := tsw_x hx rfl
              refine hG.rz hR rfl rfl rfl rfl (bi_01 _) ?_
              exact ⟨rfl, by rw [holdC, holdK, if_neg (by rw [e]; decide), if_neg (by rw [e]; decide), if_neg (by rw [e]; decide), if_neg (by rw [e]; decide), if_pos e]⟩
            | j + 5, hk, hx => simp at hk
          · intro hx
            have e1 : ¬ k = 1 := fun e => hx 0 (by decide) (by rw [e]; rfl)
            have e2 : ¬ k = 2 := fun e => hx 1 (by decide) (by rw [e]; rfl)
            have e3 : ¬ k = 3 := fun e => hx 2 (by decide) (by rw [e]; rfl)
            have e4 : ¬ k = 4 := fun e => hx 3 (by decide) (by rw [e]; rfl)
            have e5 : ¬ k = 5 := fun e => hx 4 (by decide) (by rw [e]; rfl)
            refine hG.rz hR rfl rfl rfl rfl (bi_01 _) ?_
            exact ⟨rfl, by rw [holdC, holdK, if_neg e1, if_neg e2, if_neg e3, if_neg e4, if_neg e5]⟩
        refine hG.go 3 rfl rfl ?_
        refine hG.br rfl rfl rfl rfl (fun h1 => ?_) (fun h1 => ?_)
        · have e : sntC d tm y = true := by rw [sntC, bi_ne0.mp h1]; rfl
          rw [e] at j74
          exact hG.go 2 rfl rfl j74
        · refine hG.br rfl rfl rfl rfl (fun h2 => ?_) (fun h2 => ?_)
          · have e : sntC d tm y = false := by rw [sntC, bi_eq0.mp h1, decide_eq_false (i32_nlt.mpr h2)]; rfl
            rw [e] at j74
            exact hG.go 1 rfl rfl j74
          · have e : sntC d tm y = true := by rw [sntC, decide_eq_true (i32_nle.mp h2), Bool.or_true]
            rw [e] at j74
            exact hG.go 2 rfl rfl j74
      refine hG.br rfl rfl rfl rfl (fun h1 => ?_) (fun h1 => ?_)
      · have e : awyC b d tm y = false := by rw [awyC, bi_eq0.mp h1]; rfl
        rw [e] at j52
        exact hG.go 1 rfl rfl j52
      · refine hG.br rfl rfl rfl rfl (fun h2 => ?_) (fun h2 => ?_)
        · have e : awyC b d tm y = false := by rw [awyC, decide_eq_false (i32_nlt.mpr h2), Bool.and_false]
          rw [e] at j52
          exact hG.go 1 rfl rfl j52
        · have e : awyC b d tm y = true := by rw [awyC, bi_ne0.mp h1, decide_eq_true (i32_nle.mp h2)]; rfl
          rw [e] at j52
          exact hG.go 2 rfl rfl j52
    refine hG.br rfl rfl rfl rfl (fun h1 => ?_) (fun h1 => ?_)
    · have e : oneC d tm y = true := by rw [oneC, bi_ne0.mp h1]; rfl
      rw [e] at j31
      exact hG.go 2 rfl rfl j31
    · refine hG.br rfl rfl rfl rfl (fun h2 => ?_) (fun h2 => ?_)
      · have e : oneC d tm y = false := by rw [oneC, bi_eq0.mp h1, decide_eq_false (i32_nlt.mpr h2)]; rfl
        rw [e] at j31
        exact hG.go 1 rfl rfl j31
      · have e : oneC d tm y = true := by rw [oneC, decide_eq_true (i32_nle.mp h2), Bool.or_true]
        rw [e] at j31
        exact hG.go 2 rfl rfl j31
  refine hG.br rfl rfl rfl rfl (fun h1 => ?_) (fun h1 => ?_)
  · have e : alvC d = false := decide_eq_false h1
    rw [e] at j11
    exact hG.go 1 rfl rfl j11
  · have e : alvC d = true := decide_eq_true h1
    rw [e] at j11
    exact hG.go 2 rfl rfl j11
-- letters
def alN (a b : Int32) : Nat := (if a / 25 = b / 25 then 1 else 0) + (if a / 5 - a / 5 / 5 * 5 = b / 5 - b / 5 / 5 * 5 then 2 else 0) + (if a - a / 5 * 5 = b - b / 5 * 5 then 4 else 0)
def pcN (w : Nat) : Nat := w % 2 + w / 2 % 2 + w / 4
def wyIx (w : Nat) : Nat := 4 * (3 - pcN w) + 2 * (w % 2) + w / 4
theorem alN_lt (a b : Int32) : alN a b < 8 := by rw [alN]; split <;> split <;> split <;> omega
theorem alN_ix (a b : Int32) : nrIx a b = wyIx (alN a b) := by
  rw [nrIx, apN, alN]; split <;> split <;> split <;> rfl
theorem alN_ap (a b : Int32) : apN a b = 3 - pcN (alN a b) := by
  rw [apN, alN]; split <;> split <;> split <;> rfl
theorem c_E_alike (a b : Int32) : Ci l θ 1 m_E_alike [.inl a, .inl b] σ (fun r σ' => σ' = σ ∧ r = nI (alN a b)) := by
  refine Ci.of (Or.inr mi_E_alike) pk_E_alike (nb rfl) (Or.inl rfl) [some (.inl a), some (.inl b), none] rfl fun Γ hG hR => ?_
  have j34 : ∀ x, nI x = (nI x) → X Γ 34 [some (.inl a), some (.inl b), some (.inl (nI ((if a / 25 = b / 25 then 1 else 0) + (if a / 5 - a / 5 / 5 * 5 = b / 5 - b / 5 / 5 * 5 then 2 else 0))))] [] σ := by
    intro _ _
    refine hG.rm rfl rfl rfl (by decide) ?_
    refine hG.rm rfl rfl rfl (by decide) ?_
    refine hG.br rfl rfl rfl rfl (fun h1 => ?_) (fun h1 => ?_)
    · refine hG.rt hR rfl rfl rfl rfl ?_
      exact ⟨rfl, by rw [alN, if_neg h1]; rfl⟩
    · refine hG.rt hR rfl rfl rfl rfl ?_
      refine ⟨rfl, ?_⟩
      rw [alN, if_pos h1]
      split <;> split <;> decide
  have j34 := j34 0 rfl
  have j17 : X Γ 17 [some (.inl a), some (.inl b), some (.inl (nI (if a / 25 = b / 25 then 1 else 0)))] [] σ := by
    refine hG.dv rfl rfl rfl (by decide) ?_
    refine hG.rm rfl rfl rfl (by decide) ?_
    refine hG.dv rfl rfl rfl (by decide) ?_
    refine hG.rm rfl rfl rfl (by decide) ?_
    refine hG.br rfl rfl rfl rfl (fun h1 => ?_) (fun h1 => ?_)
    · rw [if_neg h1] at j34
      exact j34
    · rw [if_pos h1] at j34
      refine hG.go 4 rfl rfl ?_
      have e : nI (if a / 25 = b / 25 then 1 else 0) ||| 2 = nI ((if a / 25 = b / 25 then 1 else 0) + 2) := by split <;> decide
      rw [e]
      exact j34
  refine hG.dv rfl rfl rfl (by decide) ?_
  refine hG.dv rfl rfl rfl (by decide) ?_
  refine hG.br rfl rfl rfl rfl (fun h1 => ?_) (fun h1 => ?_)
  · rw [if_neg h1] at j17
    exact j17
  · rw [if_pos h1] at j17
    exact hG.go 4 rfl rfl j17
theorem c_I_bitCount (w : Nat) (hw : w < 8) : Ci l θ 1 m_I_bitCount [.inl (nI w &&& 7)] σ (fun r σ' => σ' = σ ∧ r = nI (pcN w)) := by
  rcases (by omega : w = 0 ∨ w = 1 ∨ w = 2 ∨ w = 3 ∨ w = 4 ∨ w = 5 ∨ w = 6 ∨ w = 7) with rfl | rfl | rfl | rfl | rfl | rfl | rfl | rfl
  all_goals
    refine Ci.of (Or.inr mi_I_bitCount) pk_I_bitCount (nb rfl) (Or.inl rfl) [some (.inl (nI _ &&& 7))] rfl fun Γ hG hR => ?_
    refine hG.rt hR rfl rfl rfl rfl ?_
    exact ⟨rfl, by decide +kernel⟩
theorem c_E_unlike (w : Nat) (hw : w < 8) : Ci l θ 2 m_E_unlike [.inl (nI w)] σ (fun r σ' => σ' = σ ∧ r = nI (3 - pcN w)) := by
  refine Ci.of (Or.inr mi_E_unlike) pk_E_unlike (nb rfl) (Or.inl rfl) [some (.inl (nI w))] rfl fun Γ hG hR => ?_
  refine hG.cS lk_E_9 mi_I_bitCount rfl rfl (c_I_bitCount w hw) rfl rfl rfl rfl rfl rfl ?_
  rintro x σ' ⟨rfl, rfl⟩
  refine hG.rt hR rfl rfl rfl rfl ?_
  refine ⟨rfl, ?_⟩
  rcases (by omega : w = 0 ∨ w = 1 ∨ w = 2 ∨ w = 3 ∨ w = 4 ∨ w = 5 ∨ w = 6 ∨ w = 7) with rfl | rfl | rfl | rfl | rfl | rfl | rfl | rfl <;> decide +kernel
end
end
section
/-! the class's texts, and how they are worked out -/
def stC (c : Int32) : Int32 := if 0 ≤ c then c else if c = -1 then -124 else if c = -2 then -38 else if c = -3 then -60 else if c = -4 then -61 else if c = -5 then -62 else if c = -6 then -43 else if c = -7 then -45 else if c = -8 then -42 else if c = -9 then -47 else -33
def jnK (s a b : Int32) : Int32 := if s = 38 then bi (decide (¬ a = 0) && decide (¬ b = 0)) else if s = 42 then a * b else if s = 43 then a + b else if s = 45 then a - b else if s = 60 then bi (decide (a < b)) else if s = 61 then bi (decide (a = b)) else if s = 62 then bi (decide (b < a)) else if s = 124 then bi (decide (¬ a = 0) || decide (¬ b = 0)) else if b = 0 then 0 else a / b
theorem sgn_cases {c : Int32} (h0 : ¬ 0 ≤ c) (h1 : -10 ≤ c) : c = -1 ∨ c = -2 ∨ c = -3 ∨ c = -4 ∨ c = -5 ∨ c = -6 ∨ c = -7 ∨ c = -8 ∨ c = -9 ∨ c = -10 := by
  rw [Int32.le_iff_toInt_le] at h0 h1
  have e0 : (0 : Int32).toInt = 0 := by decide
  have e1 : (-10 : Int32).toInt = -10 := by decide
  rw [e0] at h0
  rw [e1] at h1
  have key : ∀ (w : Int32) (k : Int), w.toInt = k → c.toInt = k → c = w := fun w k hw hc => Int32.toInt_inj.mp (hc.trans hw.symm)
  rcases (by omega : c.toInt = -1 ∨ c.toInt = -2 ∨ c.toInt = -3 ∨ c.toInt = -4 ∨ c.toInt = -5 ∨ c.toInt = -6 ∨ c.toInt = -7 ∨ c.toInt = -8 ∨ c.toInt = -9 ∨ c.toInt = -10) with h | h | h | h | h | h | h | h | h | h
  · exact Or.inl (key _ _ (by decide) h)
  · exact Or.inr (Or.inl (key _ _ (by decide) h))
  · exact Or.inr (Or.inr (Or.inl (key _ _ (by decide) h)))
  · exact Or.inr (Or.inr (Or.inr (Or.inl (key _ _ (by decide) h))))
  · exact Or.inr (Or.inr (Or.inr (Or.inr (Or.inl (key _ _ (by decide) h)))))
  · exact Or.inr (Or.inr (Or.inr (Or.inr (Or.inr (Or.inl (key _ _ (by decide) h))))))
  · exact Or.inr (Or.inr (Or.inr (Or.inr (Or.inr (Or.inr (Or.inl (key _ _ (by decide) h)))))))
  · exact Or.inr (Or.inr (Or.inr (Or.inr (Or.inr (Or.inr (Or.inr (Or.inl (key _ _ (by decide) h))))))))
  · exact Or.inr (Or.inr (Or.inr (Or.inr (Or.inr (Or.inr (Or.inr (Or.inr (Or.inl (key _ _ (by decide) h)))))))))
  · exact Or.inr (Or.inr (Or.inr (Or.inr (Or.inr (Or.inr (Or.inr (Or.inr (Or.inr (key _ _ (by decide) h)))))))))
theorem jnK_two {c a b : Int32} (h0 : ¬ 0 ≤ c) (h1 : -10 ≤ c) (h2 : ¬ c = -10) : jnK (-(stC c)) a b = twoK c a b := by
  rcases sgn_cases h0 h1 with rfl | rfl | rfl | rfl | rfl | rfl | rfl | rfl | rfl | rfl
  · rw [show -(stC (-1)) = 124 by decide, twoK, if_pos rfl, jnK, if_neg (by decide), if_neg (by decide), if_neg (by decide), if_neg (by decide), if_neg (by decide), if_neg (by decide), if_neg (by decide), if_pos rfl]
  · rw [show -(stC (-2)) = 38 by decide, twoK, if_neg (by decide), if_pos rfl, jnK, if_pos rfl]
  · rw [show -(stC (-3)) = 60 by decide, twoK, if_neg (by decide), if_neg (by decide), if_pos rfl, jnK, if_neg (by decide), if_neg (by decide), if_neg (by decide), if_neg (by decide), if_pos rfl]
  · rw [show -(stC (-4)) = 61 by decide, twoK, if_neg (by decide), if_neg (by decide), if_neg (by decide), if_pos rfl, jnK, if_neg (by decide), if_neg (by decide), if_neg (by decide), if_neg (by decide), if_neg (by decide), if_pos rfl]
  · rw [show -(stC (-5)) = 62 by decide, twoK, if_neg (by decide), if_neg (by decide), if_neg (by decide), if_neg (by decide), if_pos rfl, jnK, if_neg (by decide), if_neg (by decide), if_neg (by decide), if_neg (by decide), if_neg (by decide), if_neg (by decide), if_pos rfl]
  · rw [show -(stC (-6)) = 43 by decide, twoK, if_neg (by decide), if_neg (by decide), if_neg (by decide), if_neg (by decide), if_neg (by decide), if_pos rfl, jnK, if_neg (by decide), if_neg (by decide), if_pos rfl]
  · rw [show -(stC (-7)) = 45 by decide, twoK, if_neg (by decide), if_neg (by decide), if_neg (by decide), if_neg (by decide), if_neg (by decide), if_neg (by decide), if_pos rfl, jnK, if_neg (by decide), if_neg (by decide), if_neg (by decide), if_pos rfl]
  · rw [show -(stC (-8)) = 42 by decide, twoK, if_neg (by decide), if_neg (by decide), if_neg (by decide), if_neg (by decide), if_neg (by decide), if_neg (by decide), if_neg (by decide), if_pos rfl, jnK, if_neg (by decide), if_pos rfl]
  · rw [show -(stC (-9)) = 47 by decide, twoK, if_neg (by decide), if_neg (by decide), if_neg (by decide), if_neg (by decide), if_neg (by decide), if_neg (by decide), if_neg (by decide), if_neg (by decide), jnK, if_neg (by decide), if_neg (by decide), if_neg (by decide), if_neg (by decide), if_neg (by decide), if_neg (by decide), if_neg (by decide), if_neg (by decide)]
  · exact absurd rfl h2
theorem stC_pos {c : Int32} (h : 0 ≤ c) : stC c = c := by rw [stC, if_pos h]
theorem stC_neg {c : Int32} (h0 : ¬ 0 ≤ c) (h1 : -10 ≤ c) : stC c < 0 ∧ (stC c = -33 ↔ c = -10) := by
  rcases sgn_cases h0 h1 with rfl | rfl | rfl | rfl | rfl | rfl | rfl | rfl | rfl | rfl <;> decide
section
variable {l : Launch} {θ : Th} {σ : Sg}
theorem c_L_leaf (s a b c : Int32) : Ci l θ 1 m_L_leaf [.inl s, .inl a, .inl b, .inl c] σ (fun r σ' => σ' = σ ∧ r = if s < 10000 then s else if s = 10000 then a else if s = 10001 then b else c) := by
  refine Ci.of (Or.inr mi_L_leaf) pk_L_leaf (nb rfl) (Or.inl rfl) [some (.inl s), some (.inl a), some (.inl b), some (.inl c)] rfl fun Γ hG hR => ?_
  refine hG.br rfl rfl rfl rfl (fun h1 => ?_) (fun h1 => ?_)
  · rw [if_neg (i32_nlt.mpr h1)] at hR
    refine hG.br rfl rfl rfl rfl (fun h2 => ?_) (fun h2 => ?_)
    · rw [if_neg h2] at hR
      refine hG.br rfl rfl rfl rfl (fun h3 => ?_) (fun h3 => ?_)
      · refine hG.rt hR rfl rfl rfl rfl ?_
        exact ⟨rfl, by rw [if_neg h3]⟩
      · refine hG.rt hR rfl rfl rfl rfl ?_
        exact ⟨rfl, by rw [if_pos h3]⟩
    · refine hG.rt hR rfl rfl rfl rfl ?_
      exact ⟨rfl, by rw [if_pos h2]⟩
  · refine hG.rt hR rfl rfl rfl rfl ?_
    exact ⟨rfl, by rw [if_pos (i32_nle.mp h1)]⟩
theorem c_L_join (s a b : Int32) : Ci l θ 2 m_L_join [.inl s, .inl a, .inl b] σ (fun r σ' => σ' = σ ∧ r = jnK s a b) := by
  refine Ci.of (Or.inr mi_L_join) pk_L_join (nb rfl) (Or.inl rfl) [some (.inl s), some (.inl a), some (.inl b)] rfl fun Γ hG hR => ?_
  refine hG.lsw [(38, 93), (42, 160), (43, 152), (45, 156), (60, 110), (61, 124), (62, 138), (124, 76)] 164 rfl rfl rfl (by decide +kernel) ?_ ?_
  · intro k t hk hx
    simp only [List.mem_cons, Prod.mk.injEq, List.not_mem_nil, or_false] at hk
    rcases hk with ⟨rfl, rfl⟩ | ⟨rfl, rfl⟩ | ⟨rfl, rfl⟩ | ⟨rfl, rfl⟩ | ⟨rfl, rfl⟩ | ⟨rfl, rfl⟩ | ⟨rfl, rfl⟩ | ⟨rfl, rfl⟩
    · have e : s = 38 := tsw_x hx rfl
      have e' : jnK s a b = bi (decide (¬ a = 0) && decide (¬ b = 0)) := by rw [jnK, if_pos e]
      rw [e'] at hR
      refine hG.br rfl rfl rfl rfl (fun h1 => ?_) (fun h1 => ?_)
      · refine hG.bit (Or.inl ⟨rfl, rfl⟩) mi_W_bit rfl rfl (c_W_bit false) rfl rfl rfl rfl rfl rfl rfl ?_
        rintro x σ' ⟨rfl, rfl⟩
        refine hG.rt hR rfl rfl rfl rfl ?_
        exact ⟨rfl, by rw [decide_eq_false (fun h => h h1)]; rfl⟩
      · refine hG.br rfl rfl rfl rfl (fun h2 => ?_) (fun h2 => ?_)
        · refine hG.bit (Or.inl ⟨rfl, rfl⟩) mi_W_bit rfl rfl (c_W_bit false) rfl rfl rfl rfl rfl rfl rfl ?_
          rintro x σ' ⟨rfl, rfl⟩
          refine hG.rt hR rfl rfl rfl rfl ?_
          exact ⟨rfl, by rw [decide_eq_false (p := ¬ b = 0) (fun h => h h2), Bool.and_false]⟩
        · refine hG.bit (Or.inl ⟨rfl, rfl⟩) mi_W_bit rfl rfl (c_W_bit true) rfl rfl rfl rfl rfl rfl rfl ?_
          rintro x σ' ⟨rfl, rfl⟩
          refine hG.rt hR rfl rfl rfl rfl ?_
          exact ⟨rfl, by rw [decide_eq_true h1, decide_eq_true h2]; rfl⟩
    · have e : s = 42 := tsw_x hx rfl
      refine hG.rt hR rfl rfl rfl rfl ?_
      exact ⟨rfl, by rw [jnK, e, if_neg (by decide), if_pos rfl]⟩
    · have e : s = 43 := tsw_x hx rfl
      refine hG.rt hR rfl rfl rfl rfl ?_
      exact ⟨rfl, by rw [jnK, e, if_neg (by decide), if_neg (by decide), if_pos rfl]⟩
    · have e : s = 45 := tsw_x hx rfl
      refine hG.rt hR rfl rfl rfl rfl ?_
      exact ⟨rfl, by rw [jnK, e, if_neg (by decide), if_neg (by decide), if_neg (by decide), if_pos rfl]⟩
    · have e : s = 60 := tsw_x hx rfl
      have e' : jnK s a b = bi (decide (a < b)) := by rw [jnK, e, if_neg (by decide), if_neg (by decide), if_neg (by decide), if_neg (by decide), if_pos rfl]
      rw [e'] at hR
      refine hG.br rfl rfl rfl rfl (fun h1 => ?_) (fun h1 => ?_)
      · refine hG.bit (Or.inl ⟨rfl, rfl⟩) mi_W_bit rfl rfl (c_W_bit false) rfl rfl rfl rfl rfl rfl rfl ?_
        rintro x σ' ⟨rfl, rfl⟩
        refine hG.rt hR rfl rfl rfl rfl ?_
        exact ⟨rfl, by rw [decide_eq_false (i32_nlt.mpr h1)]⟩
      · refine hG.bit (Or.inl ⟨rfl, rfl⟩) mi_W_bit rfl rfl (c_W_bit true) rfl rfl rfl rfl rfl rfl rfl ?_
        rintro x σ' ⟨rfl, rfl⟩
        refine hG.rt hR rfl rfl rfl rfl ?_
        exact ⟨rfl, by rw [decide_eq_true (i32_nle.mp h1)]⟩
    · have e : s = 61 := tsw_x hx rfl
      have e' : jnK s a b = bi (decide (a = b)) := by rw [jnK, e, if_neg (by decide), if_neg (by decide), if_neg (by decide), if_neg (by decide), if_neg (by decide), if_pos rfl]
      rw [e'] at hR
      refine hG.br rfl rfl rfl rfl (fun h1 => ?_) (fun h1 => ?_)
      · refine hG.bit (Or.inl ⟨rfl, rfl⟩) mi_W_bit rfl rfl (c_W_bit false) rfl rfl rfl rfl rfl rfl rfl ?_
        rintro x σ' ⟨rfl, rfl⟩
        refine hG.rt hR rfl rfl rfl rfl ?_
        exact ⟨rfl, by rw [decide_eq_false h1]⟩
      · refine hG.bit (Or.inl ⟨rfl, rfl⟩) mi_W_bit rfl rfl (c_W_bit true) rfl rfl rfl rfl rfl rfl rfl ?_
        rintro x σ' ⟨rfl, rfl⟩
        refine hG.rt hR rfl rfl rfl rfl ?_
        exact ⟨rfl, by rw [decide_eq_true h1]⟩
    · have e : s = 62 := tsw_x hx rfl
      have e' : jnK s a b = bi (decide (b < a)) := by rw [jnK, e, if_neg (by decide), if_neg (by decide), if_neg (by decide), if_neg (by decide), if_neg (by decide), if_neg (by decide), if_pos rfl]
      rw [e'] at hR
      refine hG.br rfl rfl rfl rfl (fun h1 => ?_) (fun h1 => ?_)
      · refine hG.bit (Or.inl ⟨rfl, rfl⟩) mi_W_bit rfl rfl (c_W_bit false) rfl rfl rfl rfl rfl rfl rfl ?_
        rintro x σ' ⟨rfl, rfl⟩
        refine hG.rt hR rfl rfl rfl rfl ?_
        exact ⟨rfl, by rw [decide_eq_false (i32_nlt.mpr h1)]⟩
      · refine hG.bit (Or.inl ⟨rfl, rfl⟩) mi_W_bit rfl rfl (c_W_bit true) rfl rfl rfl rfl rfl rfl rfl ?_
        rintro x σ' ⟨rfl, rfl⟩
        refine hG.rt hR rfl rfl rfl rfl ?_
        exact ⟨rfl, by rw [decide_eq_true (i32_nle.mp h1)]⟩
    · have e : s = 124 := tsw_x hx rfl
      have e' : jnK s a b = bi (decide (¬ a = 0) || decide (¬ b = 0)) := by rw [jnK, e, if_neg (by decide), if_neg (by decide), if_neg (by decide), if_neg (by decide), if_neg (by decide), if_neg (by decide), if_neg (by decide), if_pos rfl]
      rw [e'] at hR
      refine hG.br rfl rfl rfl rfl (fun h1 => ?_) (fun h1 => ?_)
      · refine hG.bit (Or.inl ⟨rfl, rfl⟩) mi_W_bit rfl rfl (c_W_bit true) rfl rfl rfl rfl rfl rfl rfl ?_
        rintro x σ' ⟨rfl, rfl⟩
        refine hG.rt hR rfl rfl rfl rfl ?_
        exact ⟨rfl, by rw [decide_eq_true h1]; rfl⟩
      · refine hG.br rfl rfl rfl rfl (fun h2 => ?_) (fun h2 => ?_)
        · refine hG.bit (Or.inl ⟨rfl, rfl⟩) mi_W_bit rfl rfl (c_W_bit false) rfl rfl rfl rfl rfl rfl rfl ?_
          rintro x σ' ⟨rfl, rfl⟩
          refine hG.rt hR rfl rfl rfl rfl ?_
          exact ⟨rfl, by rw [decide_eq_false (p := ¬ a = 0) (fun h => h h1), decide_eq_false (p := ¬ b = 0) (fun h => h h2)]; rfl⟩
        · refine hG.bit (Or.inl ⟨rfl, rfl⟩) mi_W_bit rfl rfl (c_W_bit true) rfl rfl rfl rfl rfl rfl rfl ?_
          rintro x σ' ⟨rfl, rfl⟩
          refine hG.rt hR rfl rfl rfl rfl ?_
          exact ⟨rfl, by rw [decide_eq_true h2, Bool.or_true]⟩
  · intro hx
    have g : ∀ (w : Int32), (∃ t, (w.toInt, t) ∈ [((38 : Int), 93), (42, 160), (43, 152), (45, 156), (60, 110), (61, 124), (62, 138), (124, 76)]) → ¬ s = w := by
      rintro w ⟨t, ht⟩ e
      exact hx _ ht (by rw [e])
    have e' : jnK s a b = if b = 0 then 0 else a / b := by
      rw [jnK, if_neg (g 38 ⟨93, by decide⟩), if_neg (g 42 ⟨160, by decide⟩), if_neg (g 43 ⟨152, by decide⟩), if_neg (g 45 ⟨156, by decide⟩), if_neg (g 60 ⟨110, by decide⟩), if_neg (g 61 ⟨124, by decide⟩), if_neg (g 62 ⟨138, by decide⟩), if_neg (g 124 ⟨76, by decide⟩)]
    rw [e'] at hR
    refine hG.br rfl rfl rfl rfl (fun h1 => ?_) (fun h1 => ?_)
    · refine hG.dv rfl rfl rfl h1 ?_
      refine hG.rt hR rfl rfl rfl rfl ?_
      exact ⟨rfl, by rw [if_neg h1]⟩
    · refine hG.rt hR rfl rfl rfl rfl ?_
      exact ⟨rfl, by rw [if_pos h1]⟩
end
end
