section
-- ===== PART A: goes FIRST, ahead of the names: the tables' words, and 'selects' of the private methods out of them =====
/-- a private method of a class that the tables say can be made, by its rows of tables_1 -/
def lw_okq (q : MethodName × Nat) : Prop := (q.1.cls ≠ "java/lang/invoke/MethodHandle" ∧ q.1.cls ≠ "java/lang/invoke/VarHandle") ∧ Cond.instantiable q.1.cls q.2 ∈ tables_1 ∧ Cond.privateMethod q.1 ∈ tables_1 ∧ Cond.instanceMethod q.1 ∈ tables_1
theorem lw_p0 : lw_okq (⟨"NotWorn", "isBirth", "(I)Z"⟩, 12) := ⟨⟨by decide +kernel, by decide +kernel⟩, List.mem_of_getElem? (i := 21) (by decide +kernel), List.mem_of_getElem? (i := 293) (by decide +kernel), List.mem_of_getElem? (i := 294) (by decide +kernel)⟩
theorem lw_p1 : lw_okq (⟨"NotWorn", "isPerson", "(I)Z"⟩, 12) := ⟨⟨by decide +kernel, by decide +kernel⟩, List.mem_of_getElem? (i := 21) (by decide +kernel), List.mem_of_getElem? (i := 307) (by decide +kernel), List.mem_of_getElem? (i := 308) (by decide +kernel)⟩
theorem lw_p2 : lw_okq (⟨"NotWorn", "canBeBorn", "(II)Z"⟩, 12) := ⟨⟨by decide +kernel, by decide +kernel⟩, List.mem_of_getElem? (i := 21) (by decide +kernel), List.mem_of_getElem? (i := 347) (by decide +kernel), List.mem_of_getElem? (i := 348) (by decide +kernel)⟩
theorem lw_p3 : lw_okq (⟨"NotWorn", "canHaveDied", "(II)Z"⟩, 12) := ⟨⟨by decide +kernel, by decide +kernel⟩, List.mem_of_getElem? (i := 21) (by decide +kernel), List.mem_of_getElem? (i := 355) (by decide +kernel), List.mem_of_getElem? (i := 356) (by decide +kernel)⟩
theorem lw_p4 : lw_okq (⟨"NotWorn$Valley", "draw", "()I"⟩, 16) := ⟨⟨by decide +kernel, by decide +kernel⟩, List.mem_of_getElem? (i := 69) (by decide +kernel), List.mem_of_getElem? (i := 408) (by decide +kernel), List.mem_of_getElem? (i := 409) (by decide +kernel)⟩
theorem lw_p5 : lw_okq (⟨"NotWorn$Dealer", "tryFrom", "(LNotWorn$Valley;III)V"⟩, 6) := ⟨⟨by decide +kernel, by decide +kernel⟩, List.mem_of_getElem? (i := 140) (by decide +kernel), List.mem_of_getElem? (i := 472) (by decide +kernel), List.mem_of_getElem? (i := 473) (by decide +kernel)⟩
theorem lw_p6 : lw_okq (⟨"NotWorn$Dealer", "remember", "(LNotWorn$Valley;II)V"⟩, 6) := ⟨⟨by decide +kernel, by decide +kernel⟩, List.mem_of_getElem? (i := 140) (by decide +kernel), List.mem_of_getElem? (i := 476) (by decide +kernel), List.mem_of_getElem? (i := 477) (by decide +kernel)⟩
theorem lw_p7 : lw_okq (⟨"NotWorn$Dealer", "fits", "(LNotWorn$Valley;II)Z"⟩, 6) := ⟨⟨by decide +kernel, by decide +kernel⟩, List.mem_of_getElem? (i := 140) (by decide +kernel), List.mem_of_getElem? (i := 483) (by decide +kernel), List.mem_of_getElem? (i := 484) (by decide +kernel)⟩
theorem lw_p8 : lw_okq (⟨"NotWorn$Valley", "chanceToDie", "(ILNotWorn$Laws;)I"⟩, 16) := ⟨⟨by decide +kernel, by decide +kernel⟩, List.mem_of_getElem? (i := 69) (by decide +kernel), List.mem_of_getElem? (i := 506) (by decide +kernel), List.mem_of_getElem? (i := 507) (by decide +kernel)⟩
theorem lw_p9 : lw_okq (⟨"NotWorn", "isNearGiven", "(II)Z"⟩, 12) := ⟨⟨by decide +kernel, by decide +kernel⟩, List.mem_of_getElem? (i := 21) (by decide +kernel), List.mem_of_getElem? (i := 554) (by decide +kernel), List.mem_of_getElem? (i := 555) (by decide +kernel)⟩
theorem lw_p10 : lw_okq (⟨"NotWorn$Tape", "advance", "()V"⟩, 6) := ⟨⟨by decide +kernel, by decide +kernel⟩, List.mem_of_getElem? (i := 169) (by decide +kernel), List.mem_of_getElem? (i := 583) (by decide +kernel), List.mem_of_getElem? (i := 584) (by decide +kernel)⟩
theorem lw_p11 : lw_okq (⟨"NotWorn$Tape", "keyAtHand", "()I"⟩, 6) := ⟨⟨by decide +kernel, by decide +kernel⟩, List.mem_of_getElem? (i := 169) (by decide +kernel), List.mem_of_getElem? (i := 590) (by decide +kernel), List.mem_of_getElem? (i := 591) (by decide +kernel)⟩
theorem lw_p12 : lw_okq (⟨"NotWorn$Tape", "isKeyWord", "(I)Z"⟩, 6) := ⟨⟨by decide +kernel, by decide +kernel⟩, List.mem_of_getElem? (i := 169) (by decide +kernel), List.mem_of_getElem? (i := 594) (by decide +kernel), List.mem_of_getElem? (i := 595) (by decide +kernel)⟩
theorem lw_p13 : lw_okq (⟨"NotWorn$Tape", "readLevel", "(III)Z"⟩, 6) := ⟨⟨by decide +kernel, by decide +kernel⟩, List.mem_of_getElem? (i := 169) (by decide +kernel), List.mem_of_getElem? (i := 643) (by decide +kernel), List.mem_of_getElem? (i := 644) (by decide +kernel)⟩
theorem lw_p14 : lw_okq (⟨"NotWorn$Tape", "readPiece", "(II)Z"⟩, 6) := ⟨⟨by decide +kernel, by decide +kernel⟩, List.mem_of_getElem? (i := 169) (by decide +kernel), List.mem_of_getElem? (i := 647) (by decide +kernel), List.mem_of_getElem? (i := 648) (by decide +kernel)⟩
theorem lw_p15 : lw_okq (⟨"NotWorn$Tape", "readLeaf", "()Z"⟩, 6) := ⟨⟨by decide +kernel, by decide +kernel⟩, List.mem_of_getElem? (i := 169) (by decide +kernel), List.mem_of_getElem? (i := 651) (by decide +kernel), List.mem_of_getElem? (i := 652) (by decide +kernel)⟩
def lw_privs_1 : List (MethodName × Nat) := [(⟨"NotWorn", "isBirth", "(I)Z"⟩, 12), (⟨"NotWorn", "isPerson", "(I)Z"⟩, 12), (⟨"NotWorn", "canBeBorn", "(II)Z"⟩, 12), (⟨"NotWorn", "canHaveDied", "(II)Z"⟩, 12), (⟨"NotWorn$Valley", "draw", "()I"⟩, 16), (⟨"NotWorn$Dealer", "tryFrom", "(LNotWorn$Valley;III)V"⟩, 6), (⟨"NotWorn$Dealer", "remember", "(LNotWorn$Valley;II)V"⟩, 6), (⟨"NotWorn$Dealer", "fits", "(LNotWorn$Valley;II)Z"⟩, 6), (⟨"NotWorn$Valley", "chanceToDie", "(ILNotWorn$Laws;)I"⟩, 16), (⟨"NotWorn", "isNearGiven", "(II)Z"⟩, 12), (⟨"NotWorn$Tape", "advance", "()V"⟩, 6), (⟨"NotWorn$Tape", "keyAtHand", "()I"⟩, 6), (⟨"NotWorn$Tape", "isKeyWord", "(I)Z"⟩, 6), (⟨"NotWorn$Tape", "readLevel", "(III)Z"⟩, 6), (⟨"NotWorn$Tape", "readPiece", "(II)Z"⟩, 6), (⟨"NotWorn$Tape", "readLeaf", "()Z"⟩, 6)]
theorem lw_r1 : ∀ q ∈ lw_privs_1, lw_okq q := List.forall_mem_cons.mpr ⟨lw_p0, List.forall_mem_cons.mpr ⟨lw_p1, List.forall_mem_cons.mpr ⟨lw_p2, List.forall_mem_cons.mpr ⟨lw_p3, List.forall_mem_cons.mpr ⟨lw_p4, List.forall_mem_cons.mpr ⟨lw_p5, List.forall_mem_cons.mpr ⟨lw_p6, List.forall_mem_cons.mpr ⟨lw_p7, List.forall_mem_cons.mpr ⟨lw_p8, List.forall_mem_cons.mpr ⟨lw_p9, List.forall_mem_cons.mpr ⟨lw_p10, List.forall_mem_cons.mpr ⟨lw_p11, List.forall_mem_cons.mpr ⟨lw_p12, List.forall_mem_cons.mpr ⟨lw_p13, List.forall_mem_cons.mpr ⟨lw_p14, List.forall_mem_cons.mpr ⟨lw_p15, fun _ h => absurd h List.not_mem_nil⟩⟩⟩⟩⟩⟩⟩⟩⟩⟩⟩⟩⟩⟩⟩⟩
theorem lw_p16 : lw_okq (⟨"NotWorn$Tape", "numberAtHand", "()I"⟩, 6) := ⟨⟨by decide +kernel, by decide +kernel⟩, List.mem_of_getElem? (i := 169) (by decide +kernel), List.mem_of_getElem? (i := 655) (by decide +kernel), List.mem_of_getElem? (i := 656) (by decide +kernel)⟩
theorem lw_p17 : lw_okq (⟨"NotWorn$Tape", "nameAtHand", "()I"⟩, 6) := ⟨⟨by decide +kernel, by decide +kernel⟩, List.mem_of_getElem? (i := 169) (by decide +kernel), List.mem_of_getElem? (i := 659) (by decide +kernel), List.mem_of_getElem? (i := 660) (by decide +kernel)⟩
theorem lw_p18 : lw_okq (⟨"NotWorn$Text", "addStep", "(I)V"⟩, 4) := ⟨⟨by decide +kernel, by decide +kernel⟩, List.mem_of_getElem? (i := 36) (by decide +kernel), List.mem_of_getElem? (i := 735) (by decide +kernel), List.mem_of_getElem? (i := 736) (by decide +kernel)⟩
theorem lw_p19 : lw_okq (⟨"NotWorn$Tape", "atHand", "(C)Z"⟩, 6) := ⟨⟨by decide +kernel, by decide +kernel⟩, List.mem_of_getElem? (i := 169) (by decide +kernel), List.mem_of_getElem? (i := 739) (by decide +kernel), List.mem_of_getElem? (i := 740) (by decide +kernel)⟩
theorem lw_p20 : lw_okq (⟨"NotWorn$Tape", "signOfLevel", "(I)Z"⟩, 6) := ⟨⟨by decide +kernel, by decide +kernel⟩, List.mem_of_getElem? (i := 169) (by decide +kernel), List.mem_of_getElem? (i := 747) (by decide +kernel), List.mem_of_getElem? (i := 748) (by decide +kernel)⟩
theorem lw_p21 : lw_okq (⟨"NotWorn$Valley", "findNearWays", "(LNotWorn$Laws;)V"⟩, 16) := ⟨⟨by decide +kernel, by decide +kernel⟩, List.mem_of_getElem? (i := 69) (by decide +kernel), List.mem_of_getElem? (i := 760) (by decide +kernel), List.mem_of_getElem? (i := 761) (by decide +kernel)⟩
theorem lw_p22 : lw_okq (⟨"NotWorn", "isText", "(I)Z"⟩, 12) := ⟨⟨by decide +kernel, by decide +kernel⟩, List.mem_of_getElem? (i := 21) (by decide +kernel), List.mem_of_getElem? (i := 771) (by decide +kernel), List.mem_of_getElem? (i := 772) (by decide +kernel)⟩
theorem lw_p23 : lw_okq (⟨"NotWorn", "waitedAt", "(III)Z"⟩, 12) := ⟨⟨by decide +kernel, by decide +kernel⟩, List.mem_of_getElem? (i := 21) (by decide +kernel), List.mem_of_getElem? (i := 849) (by decide +kernel), List.mem_of_getElem? (i := 850) (by decide +kernel)⟩
theorem lw_p24 : lw_okq (⟨"NotWornModel", "comes", "(III)I"⟩, 38) := ⟨⟨by decide +kernel, by decide +kernel⟩, List.mem_of_getElem? (i := 865) (by decide +kernel), List.mem_of_getElem? (i := 999) (by decide +kernel), List.mem_of_getElem? (i := 1000) (by decide +kernel)⟩
theorem lw_p25 : lw_okq (⟨"NotWornModel", "isOne", "(I)Z"⟩, 38) := ⟨⟨by decide +kernel, by decide +kernel⟩, List.mem_of_getElem? (i := 865) (by decide +kernel), List.mem_of_getElem? (i := 1008) (by decide +kernel), List.mem_of_getElem? (i := 1009) (by decide +kernel)⟩
theorem lw_p26 : lw_okq (⟨"NotWornModel", "of", "(II)I"⟩, 38) := ⟨⟨by decide +kernel, by decide +kernel⟩, List.mem_of_getElem? (i := 865) (by decide +kernel), List.mem_of_getElem? (i := 1012) (by decide +kernel), List.mem_of_getElem? (i := 1013) (by decide +kernel)⟩
theorem lw_p27 : lw_okq (⟨"NotWornModel", "doesHold", "(II)Z"⟩, 38) := ⟨⟨by decide +kernel, by decide +kernel⟩, List.mem_of_getElem? (i := 865) (by decide +kernel), List.mem_of_getElem? (i := 1016) (by decide +kernel), List.mem_of_getElem? (i := 1017) (by decide +kernel)⟩
theorem lw_p28 : lw_okq (⟨"NotWornModel", "isAlive", "(I)Z"⟩, 38) := ⟨⟨by decide +kernel, by decide +kernel⟩, List.mem_of_getElem? (i := 865) (by decide +kernel), List.mem_of_getElem? (i := 1020) (by decide +kernel), List.mem_of_getElem? (i := 1021) (by decide +kernel)⟩
theorem lw_p29 : lw_okq (⟨"NotWornModel", "worthOf", "(I)I"⟩, 38) := ⟨⟨by decide +kernel, by decide +kernel⟩, List.mem_of_getElem? (i := 865) (by decide +kernel), List.mem_of_getElem? (i := 1024) (by decide +kernel), List.mem_of_getElem? (i := 1025) (by decide +kernel)⟩
theorem lw_p30 : lw_okq (⟨"NotWornModel", "becomes", "(II)I"⟩, 38) := ⟨⟨by decide +kernel, by decide +kernel⟩, List.mem_of_getElem? (i := 865) (by decide +kernel), List.mem_of_getElem? (i := 1040) (by decide +kernel), List.mem_of_getElem? (i := 1041) (by decide +kernel)⟩
theorem lw_p31 : lw_okq (⟨"NotWornModel", "findNears", "()V"⟩, 38) := ⟨⟨by decide +kernel, by decide +kernel⟩, List.mem_of_getElem? (i := 865) (by decide +kernel), List.mem_of_getElem? (i := 1067) (by decide +kernel), List.mem_of_getElem? (i := 1068) (by decide +kernel)⟩
def lw_privs_2 : List (MethodName × Nat) := [(⟨"NotWorn$Tape", "numberAtHand", "()I"⟩, 6), (⟨"NotWorn$Tape", "nameAtHand", "()I"⟩, 6), (⟨"NotWorn$Text", "addStep", "(I)V"⟩, 4), (⟨"NotWorn$Tape", "atHand", "(C)Z"⟩, 6), (⟨"NotWorn$Tape", "signOfLevel", "(I)Z"⟩, 6), (⟨"NotWorn$Valley", "findNearWays", "(LNotWorn$Laws;)V"⟩, 16), (⟨"NotWorn", "isText", "(I)Z"⟩, 12), (⟨"NotWorn", "waitedAt", "(III)Z"⟩, 12), (⟨"NotWornModel", "comes", "(III)I"⟩, 38), (⟨"NotWornModel", "isOne", "(I)Z"⟩, 38), (⟨"NotWornModel", "of", "(II)I"⟩, 38), (⟨"NotWornModel", "doesHold", "(II)Z"⟩, 38), (⟨"NotWornModel", "isAlive", "(I)Z"⟩, 38), (⟨"NotWornModel", "worthOf", "(I)I"⟩, 38), (⟨"NotWornModel", "becomes", "(II)I"⟩, 38), (⟨"NotWornModel", "findNears", "()V"⟩, 38)]
theorem lw_r2 : ∀ q ∈ lw_privs_2, lw_okq q := List.forall_mem_cons.mpr ⟨lw_p16, List.forall_mem_cons.mpr ⟨lw_p17, List.forall_mem_cons.mpr ⟨lw_p18, List.forall_mem_cons.mpr ⟨lw_p19, List.forall_mem_cons.mpr ⟨lw_p20, List.forall_mem_cons.mpr ⟨lw_p21, List.forall_mem_cons.mpr ⟨lw_p22, List.forall_mem_cons.mpr ⟨lw_p23, List.forall_mem_cons.mpr ⟨lw_p24, List.forall_mem_cons.mpr ⟨lw_p25, List.forall_mem_cons.mpr ⟨lw_p26, List.forall_mem_cons.mpr ⟨lw_p27, List.forall_mem_cons.mpr ⟨lw_p28, List.forall_mem_cons.mpr ⟨lw_p29, List.forall_mem_cons.mpr ⟨lw_p30, List.forall_mem_cons.mpr ⟨lw_p31, fun _ h => absurd h List.not_mem_nil⟩⟩⟩⟩⟩⟩⟩⟩⟩⟩⟩⟩⟩⟩⟩⟩
theorem lw_p32 : lw_okq (⟨"NotWornModel", "counts", "(I)I"⟩, 38) := ⟨⟨by decide +kernel, by decide +kernel⟩, List.mem_of_getElem? (i := 865) (by decide +kernel), List.mem_of_getElem? (i := 1071) (by decide +kernel), List.mem_of_getElem? (i := 1072) (by decide +kernel)⟩
theorem lw_p33 : lw_okq (⟨"NotWornModel", "worksOut", "(I)I"⟩, 38) := ⟨⟨by decide +kernel, by decide +kernel⟩, List.mem_of_getElem? (i := 865) (by decide +kernel), List.mem_of_getElem? (i := 1075) (by decide +kernel), List.mem_of_getElem? (i := 1076) (by decide +kernel)⟩
theorem lw_p34 : lw_okq (⟨"NotWornModel", "areNear", "(II)Z"⟩, 38) := ⟨⟨by decide +kernel, by decide +kernel⟩, List.mem_of_getElem? (i := 865) (by decide +kernel), List.mem_of_getElem? (i := 1082) (by decide +kernel), List.mem_of_getElem? (i := 1083) (by decide +kernel)⟩
theorem lw_p35 : lw_okq (⟨"NotWornModel", "draw", "()I"⟩, 38) := ⟨⟨by decide +kernel, by decide +kernel⟩, List.mem_of_getElem? (i := 865) (by decide +kernel), List.mem_of_getElem? (i := 1094) (by decide +kernel), List.mem_of_getElem? (i := 1095) (by decide +kernel)⟩
theorem lw_p36 : lw_okq (⟨"NotWornModel", "isFree", "(II)Z"⟩, 38) := ⟨⟨by decide +kernel, by decide +kernel⟩, List.mem_of_getElem? (i := 865) (by decide +kernel), List.mem_of_getElem? (i := 1107) (by decide +kernel), List.mem_of_getElem? (i := 1108) (by decide +kernel)⟩
theorem lw_p37 : lw_okq (⟨"NotWornModel", "freeMany", "()I"⟩, 38) := ⟨⟨by decide +kernel, by decide +kernel⟩, List.mem_of_getElem? (i := 865) (by decide +kernel), List.mem_of_getElem? (i := 1115) (by decide +kernel), List.mem_of_getElem? (i := 1116) (by decide +kernel)⟩
theorem lw_p38 : lw_okq (⟨"NotWornModel", "leastFree", "()I"⟩, 38) := ⟨⟨by decide +kernel, by decide +kernel⟩, List.mem_of_getElem? (i := 865) (by decide +kernel), List.mem_of_getElem? (i := 1119) (by decide +kernel), List.mem_of_getElem? (i := 1120) (by decide +kernel)⟩
theorem lw_p39 : lw_okq (⟨"NotWornModel", "findDealing", "()V"⟩, 38) := ⟨⟨by decide +kernel, by decide +kernel⟩, List.mem_of_getElem? (i := 865) (by decide +kernel), List.mem_of_getElem? (i := 1139) (by decide +kernel), List.mem_of_getElem? (i := 1140) (by decide +kernel)⟩
theorem lw_p40 : lw_okq (⟨"NotWornModel", "deals", "(III)V"⟩, 38) := ⟨⟨by decide +kernel, by decide +kernel⟩, List.mem_of_getElem? (i := 865) (by decide +kernel), List.mem_of_getElem? (i := 1143) (by decide +kernel), List.mem_of_getElem? (i := 1144) (by decide +kernel)⟩
theorem lw_p41 : lw_okq (⟨"NotWornModel", "mayHave", "(II)Z"⟩, 38) := ⟨⟨by decide +kernel, by decide +kernel⟩, List.mem_of_getElem? (i := 865) (by decide +kernel), List.mem_of_getElem? (i := 1147) (by decide +kernel), List.mem_of_getElem? (i := 1148) (by decide +kernel)⟩
theorem lw_p42 : lw_okq (⟨"NotWornModel", "year", "()I"⟩, 38) := ⟨⟨by decide +kernel, by decide +kernel⟩, List.mem_of_getElem? (i := 865) (by decide +kernel), List.mem_of_getElem? (i := 1163) (by decide +kernel), List.mem_of_getElem? (i := 1164) (by decide +kernel)⟩
theorem lw_p43 : lw_okq (⟨"NotWornModel", "diesBy", "(I)I"⟩, 38) := ⟨⟨by decide +kernel, by decide +kernel⟩, List.mem_of_getElem? (i := 865) (by decide +kernel), List.mem_of_getElem? (i := 1167) (by decide +kernel), List.mem_of_getElem? (i := 1168) (by decide +kernel)⟩
theorem lw_p44 : lw_okq (⟨"NotWornModel", "thinks", "()V"⟩, 38) := ⟨⟨by decide +kernel, by decide +kernel⟩, List.mem_of_getElem? (i := 865) (by decide +kernel), List.mem_of_getElem? (i := 1178) (by decide +kernel), List.mem_of_getElem? (i := 1179) (by decide +kernel)⟩
theorem lw_p45 : lw_okq (⟨"NotWornModel", "aliveMany", "()I"⟩, 38) := ⟨⟨by decide +kernel, by decide +kernel⟩, List.mem_of_getElem? (i := 865) (by decide +kernel), List.mem_of_getElem? (i := 1182) (by decide +kernel), List.mem_of_getElem? (i := 1183) (by decide +kernel)⟩
theorem lw_p46 : lw_okq (⟨"NotWornModel", "putsBack", "()V"⟩, 38) := ⟨⟨by decide +kernel, by decide +kernel⟩, List.mem_of_getElem? (i := 865) (by decide +kernel), List.mem_of_getElem? (i := 1186) (by decide +kernel), List.mem_of_getElem? (i := 1187) (by decide +kernel)⟩
theorem lw_p47 : lw_okq (⟨"NotWornModel", "isNearEarlier", "(II)Z"⟩, 38) := ⟨⟨by decide +kernel, by decide +kernel⟩, List.mem_of_getElem? (i := 865) (by decide +kernel), List.mem_of_getElem? (i := 1206) (by decide +kernel), List.mem_of_getElem? (i := 1207) (by decide +kernel)⟩
def lw_privs_3 : List (MethodName × Nat) := [(⟨"NotWornModel", "counts", "(I)I"⟩, 38), (⟨"NotWornModel", "worksOut", "(I)I"⟩, 38), (⟨"NotWornModel", "areNear", "(II)Z"⟩, 38), (⟨"NotWornModel", "draw", "()I"⟩, 38), (⟨"NotWornModel", "isFree", "(II)Z"⟩, 38), (⟨"NotWornModel", "freeMany", "()I"⟩, 38), (⟨"NotWornModel", "leastFree", "()I"⟩, 38), (⟨"NotWornModel", "findDealing", "()V"⟩, 38), (⟨"NotWornModel", "deals", "(III)V"⟩, 38), (⟨"NotWornModel", "mayHave", "(II)Z"⟩, 38), (⟨"NotWornModel", "year", "()I"⟩, 38), (⟨"NotWornModel", "diesBy", "(I)I"⟩, 38), (⟨"NotWornModel", "thinks", "()V"⟩, 38), (⟨"NotWornModel", "aliveMany", "()I"⟩, 38), (⟨"NotWornModel", "putsBack", "()V"⟩, 38), (⟨"NotWornModel", "isNearEarlier", "(II)Z"⟩, 38)]
theorem lw_r3 : ∀ q ∈ lw_privs_3, lw_okq q := List.forall_mem_cons.mpr ⟨lw_p32, List.forall_mem_cons.mpr ⟨lw_p33, List.forall_mem_cons.mpr ⟨lw_p34, List.forall_mem_cons.mpr ⟨lw_p35, List.forall_mem_cons.mpr ⟨lw_p36, List.forall_mem_cons.mpr ⟨lw_p37, List.forall_mem_cons.mpr ⟨lw_p38, List.forall_mem_cons.mpr ⟨lw_p39, List.forall_mem_cons.mpr ⟨lw_p40, List.forall_mem_cons.mpr ⟨lw_p41, List.forall_mem_cons.mpr ⟨lw_p42, List.forall_mem_cons.mpr ⟨lw_p43, List.forall_mem_cons.mpr ⟨lw_p44, List.forall_mem_cons.mpr ⟨lw_p45, List.forall_mem_cons.mpr ⟨lw_p46, List.forall_mem_cons.mpr ⟨lw_p47, fun _ h => absurd h List.not_mem_nil⟩⟩⟩⟩⟩⟩⟩⟩⟩⟩⟩⟩⟩⟩⟩⟩
theorem lw_p48 : lw_okq (⟨"NotWornModel", "go", "()V"⟩, 38) := ⟨⟨by decide +kernel, by decide +kernel⟩, List.mem_of_getElem? (i := 865) (by decide +kernel), List.mem_of_getElem? (i := 1226) (by decide +kernel), List.mem_of_getElem? (i := 1227) (by decide +kernel)⟩
theorem lw_p49 : lw_okq (⟨"NotWornModel", "isLetter", "(I)Z"⟩, 38) := ⟨⟨by decide +kernel, by decide +kernel⟩, List.mem_of_getElem? (i := 865) (by decide +kernel), List.mem_of_getElem? (i := 1230) (by decide +kernel), List.mem_of_getElem? (i := 1231) (by decide +kernel)⟩
theorem lw_p50 : lw_okq (⟨"NotWornModel", "isFigure", "(I)Z"⟩, 38) := ⟨⟨by decide +kernel, by decide +kernel⟩, List.mem_of_getElem? (i := 865) (by decide +kernel), List.mem_of_getElem? (i := 1234) (by decide +kernel), List.mem_of_getElem? (i := 1235) (by decide +kernel)⟩
theorem lw_p51 : lw_okq (⟨"NotWornModel", "takesKey", "()Z"⟩, 38) := ⟨⟨by decide +kernel, by decide +kernel⟩, List.mem_of_getElem? (i := 865) (by decide +kernel), List.mem_of_getElem? (i := 1238) (by decide +kernel), List.mem_of_getElem? (i := 1239) (by decide +kernel)⟩
theorem lw_p52 : lw_okq (⟨"NotWornModel", "takesE", "()Z"⟩, 38) := ⟨⟨by decide +kernel, by decide +kernel⟩, List.mem_of_getElem? (i := 865) (by decide +kernel), List.mem_of_getElem? (i := 1242) (by decide +kernel), List.mem_of_getElem? (i := 1243) (by decide +kernel)⟩
theorem lw_p53 : lw_okq (⟨"NotWornModel", "takesPart", "()Z"⟩, 38) := ⟨⟨by decide +kernel, by decide +kernel⟩, List.mem_of_getElem? (i := 865) (by decide +kernel), List.mem_of_getElem? (i := 1246) (by decide +kernel), List.mem_of_getElem? (i := 1247) (by decide +kernel)⟩
theorem lw_p54 : lw_okq (⟨"NotWornModel", "nameOf", "(I)I"⟩, 38) := ⟨⟨by decide +kernel, by decide +kernel⟩, List.mem_of_getElem? (i := 865) (by decide +kernel), List.mem_of_getElem? (i := 1250) (by decide +kernel), List.mem_of_getElem? (i := 1251) (by decide +kernel)⟩
theorem lw_p55 : lw_okq (⟨"NotWornModel", "settle", "(I)V"⟩, 38) := ⟨⟨by decide +kernel, by decide +kernel⟩, List.mem_of_getElem? (i := 865) (by decide +kernel), List.mem_of_getElem? (i := 1254) (by decide +kernel), List.mem_of_getElem? (i := 1255) (by decide +kernel)⟩
theorem lw_p56 : lw_okq (⟨"NotWornModel", "notsOpen", "()I"⟩, 38) := ⟨⟨by decide +kernel, by decide +kernel⟩, List.mem_of_getElem? (i := 865) (by decide +kernel), List.mem_of_getElem? (i := 1261) (by decide +kernel), List.mem_of_getElem? (i := 1262) (by decide +kernel)⟩
theorem lw_p57 : lw_okq (⟨"NotWornModel", "signHere", "()I"⟩, 38) := ⟨⟨by decide +kernel, by decide +kernel⟩, List.mem_of_getElem? (i := 865) (by decide +kernel), List.mem_of_getElem? (i := 1265) (by decide +kernel), List.mem_of_getElem? (i := 1266) (by decide +kernel)⟩
def lw_privs_4 : List (MethodName × Nat) := [(⟨"NotWornModel", "go", "()V"⟩, 38), (⟨"NotWornModel", "isLetter", "(I)Z"⟩, 38), (⟨"NotWornModel", "isFigure", "(I)Z"⟩, 38), (⟨"NotWornModel", "takesKey", "()Z"⟩, 38), (⟨"NotWornModel", "takesE", "()Z"⟩, 38), (⟨"NotWornModel", "takesPart", "()Z"⟩, 38), (⟨"NotWornModel", "nameOf", "(I)I"⟩, 38), (⟨"NotWornModel", "settle", "(I)V"⟩, 38), (⟨"NotWornModel", "notsOpen", "()I"⟩, 38), (⟨"NotWornModel", "signHere", "()I"⟩, 38)]
theorem lw_r4 : ∀ q ∈ lw_privs_4, lw_okq q := List.forall_mem_cons.mpr ⟨lw_p48, List.forall_mem_cons.mpr ⟨lw_p49, List.forall_mem_cons.mpr ⟨lw_p50, List.forall_mem_cons.mpr ⟨lw_p51, List.forall_mem_cons.mpr ⟨lw_p52, List.forall_mem_cons.mpr ⟨lw_p53, List.forall_mem_cons.mpr ⟨lw_p54, List.forall_mem_cons.mpr ⟨lw_p55, List.forall_mem_cons.mpr ⟨lw_p56, List.forall_mem_cons.mpr ⟨lw_p57, fun _ h => absurd h List.not_mem_nil⟩⟩⟩⟩⟩⟩⟩⟩⟩⟩
def lw_privs : List (MethodName × Nat) := lw_privs_1 ++ (lw_privs_2 ++ (lw_privs_3 ++ (lw_privs_4)))
def lw_tbl : List Cond := k2_sels lw_privs ++ tables_1
theorem lw_privs_ok : ∀ q ∈ lw_privs, lw_okq q := by
  show ∀ q ∈ lw_privs_1 ++ (lw_privs_2 ++ (lw_privs_3 ++ (lw_privs_4))), lw_okq q
  exact List.forall_mem_append.mpr ⟨lw_r1, List.forall_mem_append.mpr ⟨lw_r2, List.forall_mem_append.mpr ⟨lw_r3, lw_r4⟩⟩⟩
-- ===== end of PART A; then your names; then what follows =====
end
section
/-! names, fields, words: by gen_names.py -/
def TB : List Cond := lw_tbl.filter goodWord
theorem memTB (ws : List Cond) (ps : List Nat) (hl : ws.length = ps.length) (h : (ws.zip ps).all (fun q => decide (lw_tbl[q.2]? = some q.1) && goodWord q.1) = true) : ∀ w ∈ ws, w ∈ TB := by
  intro w hw
  obtain ⟨i, hi⟩ := List.getElem?_of_mem hw
  have hil : i < ws.length := (List.getElem?_eq_some_iff.mp hi).1
  have hip : i < ps.length := hl ▸ hil
  have h1 := List.all_eq_true.mp h (w, ps[i]) (List.mem_of_getElem? (i := i) (by rw [List.getElem?_zip_eq_some]; exact ⟨hi, List.getElem?_eq_getElem hip⟩))
  simp only [Bool.and_eq_true, decide_eq_true_eq] at h1
  exact List.mem_filter.mpr ⟨List.mem_of_getElem? h1.1, h1.2⟩
theorem goodTB {w : Cond} (h : w ∈ TB) : goodWord w = true := (List.mem_filter.mp h).2
theorem TB_tbl {w : Cond} (h : w ∈ TB) : w ∈ lw_tbl := (List.mem_filter.mp h).1
def FT0 : u_T := fun k => match k with
  | 0 => ("NotWorn$Dealer", "best", "[I", true)
  | 1 => ("NotWorn$Dealer", "bestGiven", "I", false)
  | 2 => ("NotWorn$Dealer", "bestFirsts", "I", false)
  | 3 => ("NotWorn$Dealer", "tried", "[I", true)
  | 4 => ("NotWorn$Dealer", "firstClear", "[Z", true)
  | _ => ("NotWorn$Dealer", "secondClear", "[Z", true)
def FT1 : u_T := fun k => match k with
  | 0 => ("NotWorn$Laws", "texts", "[LNotWorn$Text;", true)
  | _ => ("NotWorn$Laws", "stack", "[I", true)
def FT2 : u_T := fun k => match k with
  | 0 => ("NotWorn$Row", "sort", "I", false)
  | 1 => ("NotWorn$Row", "size", "I", false)
  | _ => ("NotWorn$Row", "cells", "[I", true)
def FT3 : u_T := fun k => match k with
  | 0 => ("NotWorn$Slot", "thing", "I", false)
  | 1 => ("NotWorn$Slot", "kind", "I", false)
  | 2 => ("NotWorn$Slot", "name", "I", false)
  | 3 => ("NotWorn$Slot", "number", "I", false)
  | _ => ("NotWorn$Slot", "row", "LNotWorn$Row;", true)
def FT4 : u_T := fun k => match k with
  | 0 => ("NotWorn$Tape", "bytes", "[I", true)
  | 1 => ("NotWorn$Tape", "length", "I", false)
  | 2 => ("NotWorn$Tape", "start", "I", false)
  | 3 => ("NotWorn$Tape", "over", "I", false)
  | 4 => ("NotWorn$Tape", "sort", "I", false)
  | _ => ("NotWorn$Tape", "draft", "LNotWorn$Text;", true)
def FT5 : u_T := fun k => match k with
  | 0 => ("NotWorn$Text", "key", "I", false)
  | 1 => ("NotWorn$Text", "leaves", "I", false)
  | 2 => ("NotWorn$Text", "length", "I", false)
  | _ => ("NotWorn$Text", "steps", "[I", true)
def FT6 : u_T := fun k => match k with
  | 0 => ("NotWorn$Valley", "kinds", "[I", true)
  | 1 => ("NotWorn$Valley", "names", "[I", true)
  | 2 => ("NotWorn$Valley", "births", "[I", true)
  | 3 => ("NotWorn$Valley", "deaths", "[I", true)
  | 4 => ("NotWorn$Valley", "people", "I", false)
  | 5 => ("NotWorn$Valley", "firsts", "[I", true)
  | 6 => ("NotWorn$Valley", "seconds", "[I", true)
  | 7 => ("NotWorn$Valley", "children", "I", false)
  | 8 => ("NotWorn$Valley", "term", "I", false)
  | 9 => ("NotWorn$Valley", "year", "I", false)
  | 10 => ("NotWorn$Valley", "z", "I", false)
  | 11 => ("NotWorn$Valley", "texts", "I", false)
  | 12 => ("NotWorn$Valley", "counting", "[I", true)
  | 13 => ("NotWorn$Valley", "nearWays", "I", false)
  | 14 => ("NotWorn$Valley", "held", "[I", true)
  | _ => ("NotWorn$Valley", "holders", "I", false)
def FT7 : u_T := fun k => match k with
  | 0 => ("NotWorn", "laws", "LNotWorn$Laws;", true)
  | 1 => ("NotWorn", "now", "LNotWorn$Valley;", true)
  | 2 => ("NotWorn", "image", "LNotWorn$Valley;", true)
  | 3 => ("NotWorn", "thought", "LNotWorn$Valley;", true)
  | 4 => ("NotWorn", "imageKept", "Z", false)
  | 5 => ("NotWorn", "dealer", "LNotWorn$Dealer;", true)
  | 6 => ("NotWorn", "tape", "LNotWorn$Tape;", true)
  | 7 => ("NotWorn", "sheets", "[LNotWorn$Row;", true)
  | 8 => ("NotWorn", "slots", "[LNotWorn$Slot;", true)
  | 9 => ("NotWorn", "waiting", "[I", true)
  | 10 => ("NotWorn", "waits", "I", false)
  | _ => ("NotWorn", "lineNames", "[I", true)
def FT8 : u_T := fun k => match k with
  | 0 => ("NotWornModel", "now", "[I", true)
  | 1 => ("NotWornModel", "image", "[I", true)
  | 2 => ("NotWornModel", "aside", "[I", true)
  | 3 => ("NotWornModel", "hasImage", "Z", false)
  | 4 => ("NotWornModel", "nears", "[Z", true)
  | 5 => ("NotWornModel", "given", "[I", true)
  | 6 => ("NotWornModel", "best", "[I", true)
  | 7 => ("NotWornModel", "bestMany", "I", false)
  | 8 => ("NotWornModel", "bestFirst", "I", false)
  | 9 => ("NotWornModel", "before", "[I", true)
  | 10 => ("NotWornModel", "tape", "[I", true)
  | 11 => ("NotWornModel", "taped", "I", false)
  | 12 => ("NotWornModel", "next", "I", false)
  | 13 => ("NotWornModel", "from", "I", false)
  | 14 => ("NotWornModel", "token", "I", false)
  | 15 => ("NotWornModel", "value", "I", false)
  | 16 => ("NotWornModel", "ended", "I", false)
  | 17 => ("NotWornModel", "key", "I", false)
  | 18 => ("NotWornModel", "keys", "[C", true)
  | 19 => ("NotWornModel", "keyAt", "[I", true)
  | 20 => ("NotWornModel", "code", "[I", true)
  | 21 => ("NotWornModel", "codes", "I", false)
  | 22 => ("NotWornModel", "atoms", "I", false)
  | 23 => ("NotWornModel", "waits", "[I", true)
  | 24 => ("NotWornModel", "held", "I", false)
  | 25 => ("NotWornModel", "tested", "[Z", true)
  | 26 => ("NotWornModel", "stack", "[I", true)
  | 27 => ("NotWornModel", "facts", "[I", true)
  | 28 => ("NotWornModel", "sorts", "[I", true)
  | 29 => ("NotWornModel", "sizes", "[I", true)
  | 30 => ("NotWornModel", "cells", "[I", true)
  | 31 => ("NotWornModel", "slots", "[I", true)
  | 32 => ("NotWornModel", "holdsA", "[I", true)
  | 33 => ("NotWornModel", "holdsB", "[I", true)
  | 34 => ("NotWornModel", "heldCells", "[I", true)
  | 35 => ("NotWornModel", "moved", "[I", true)
  | 36 => ("NotWornModel", "tells", "[I", true)
  | _ => ("NotWornModel", "waiting", "I", false)
def classes : List vw_C := [("NotWorn$Dealer", FT0, 6), ("NotWorn$Laws", FT1, 2), ("NotWorn$Row", FT2, 3), ("NotWorn$Slot", FT3, 5), ("NotWorn$Tape", FT4, 6), ("NotWorn$Text", FT5, 4), ("NotWorn$Valley", FT6, 16), ("NotWorn", FT7, 12), ("NotWornModel", FT8, 38)]
def ft0 : Nat → FieldType := fun k => match k with
  | 0 => .array (.int)
  | 1 => .int
  | 2 => .int
  | 3 => .array (.int)
  | 4 => .array (.boolean)
  | _ => .array (.boolean)
theorem ft0_ok : ∀ k, k < 6 → parseFieldDescriptor (FT0 k).2.2.1 = some (ft0 k) := by decide +kernel
theorem fn0_ok : ∀ a, a < 6 → ∀ b, b < 6 → a ≠ b → (FT0 a).2.1 ≠ (FT0 b).2.1 := by decide +kernel
theorem fw0_ok : ∀ w ∈ u_ws "NotWorn$Dealer" FT0 6, w ∈ TB := memTB _ [212, 214, 216, 218, 220, 222] (by decide +kernel) (by decide +kernel)
def ft1 : Nat → FieldType := fun k => match k with
  | 0 => .array (.object "NotWorn$Text")
  | _ => .array (.int)
theorem ft1_ok : ∀ k, k < 2 → parseFieldDescriptor (FT1 k).2.2.1 = some (ft1 k) := by decide +kernel
theorem fn1_ok : ∀ a, a < 2 → ∀ b, b < 2 → a ≠ b → (FT1 a).2.1 ≠ (FT1 b).2.1 := by decide +kernel
theorem fw1_ok : ∀ w ∈ u_ws "NotWorn$Laws" FT1 2, w ∈ TB := memTB _ [121, 123] (by decide +kernel) (by decide +kernel)
def ft2 : Nat → FieldType := fun k => match k with
  | 0 => .int
  | 1 => .int
  | _ => .array (.int)
theorem ft2_ok : ∀ k, k < 3 → parseFieldDescriptor (FT2 k).2.2.1 = some (ft2 k) := by decide +kernel
theorem fn2_ok : ∀ a, a < 3 → ∀ b, b < 3 → a ≠ b → (FT2 a).2.1 ≠ (FT2 b).2.1 := by decide +kernel
theorem fw2_ok : ∀ w ∈ u_ws "NotWorn$Row" FT2 3, w ∈ TB := memTB _ [271, 273, 275] (by decide +kernel) (by decide +kernel)
def ft3 : Nat → FieldType := fun k => match k with
  | 0 => .int
  | 1 => .int
  | 2 => .int
  | 3 => .int
  | _ => .object "NotWorn$Row"
theorem ft3_ok : ∀ k, k < 5 → parseFieldDescriptor (FT3 k).2.2.1 = some (ft3 k) := by decide +kernel
theorem fn3_ok : ∀ a, a < 5 → ∀ b, b < 5 → a ≠ b → (FT3 a).2.1 ≠ (FT3 b).2.1 := by decide +kernel
theorem fw3_ok : ∀ w ∈ u_ws "NotWorn$Slot" FT3 5, w ∈ TB := memTB _ [292, 294, 296, 298, 300] (by decide +kernel) (by decide +kernel)
def ft4 : Nat → FieldType := fun k => match k with
  | 0 => .array (.int)
  | 1 => .int
  | 2 => .int
  | 3 => .int
  | 4 => .int
  | _ => .object "NotWorn$Text"
theorem ft4_ok : ∀ k, k < 6 → parseFieldDescriptor (FT4 k).2.2.1 = some (ft4 k) := by decide +kernel
theorem fn4_ok : ∀ a, a < 6 → ∀ b, b < 6 → a ≠ b → (FT4 a).2.1 ≠ (FT4 b).2.1 := by decide +kernel
theorem fw4_ok : ∀ w ∈ u_ws "NotWorn$Tape" FT4 6, w ∈ TB := memTB _ [243, 245, 247, 249, 251, 253] (by decide +kernel) (by decide +kernel)
def ft5 : Nat → FieldType := fun k => match k with
  | 0 => .int
  | 1 => .int
  | 2 => .int
  | _ => .array (.int)
theorem ft5_ok : ∀ k, k < 4 → parseFieldDescriptor (FT5 k).2.2.1 = some (ft5 k) := by decide +kernel
theorem fn5_ok : ∀ a, a < 4 → ∀ b, b < 4 → a ≠ b → (FT5 a).2.1 ≠ (FT5 b).2.1 := by decide +kernel
theorem fw5_ok : ∀ w ∈ u_ws "NotWorn$Text" FT5 4, w ∈ TB := memTB _ [108, 110, 112, 114] (by decide +kernel) (by decide +kernel)
def ft6 : Nat → FieldType := fun k => match k with
  | 0 => .array (.int)
  | 1 => .array (.int)
  | 2 => .array (.int)
  | 3 => .array (.int)
  | 4 => .int
  | 5 => .array (.int)
  | 6 => .array (.int)
  | 7 => .int
  | 8 => .int
  | 9 => .int
  | 10 => .int
  | 11 => .int
  | 12 => .array (.int)
  | 13 => .int
  | 14 => .array (.int)
  | _ => .int
theorem ft6_ok : ∀ k, k < 16 → parseFieldDescriptor (FT6 k).2.2.1 = some (ft6 k) := by decide +kernel
theorem fn6_ok : ∀ a, a < 16 → ∀ b, b < 16 → a ≠ b → (FT6 a).2.1 ≠ (FT6 b).2.1 := by decide +kernel
theorem fw6_ok : ∀ w ∈ u_ws "NotWorn$Valley" FT6 16, w ∈ TB := memTB _ [164, 166, 168, 170, 172, 174, 176, 178, 180, 182, 184, 186, 188, 190, 192, 194] (by decide +kernel) (by decide +kernel)
def ft7 : Nat → FieldType := fun k => match k with
  | 0 => .object "NotWorn$Laws"
  | 1 => .object "NotWorn$Valley"
  | 2 => .object "NotWorn$Valley"
  | 3 => .object "NotWorn$Valley"
  | 4 => .boolean
  | 5 => .object "NotWorn$Dealer"
  | 6 => .object "NotWorn$Tape"
  | 7 => .array (.object "NotWorn$Row")
  | 8 => .array (.object "NotWorn$Slot")
  | 9 => .array (.int)
  | 10 => .int
  | _ => .array (.int)
theorem ft7_ok : ∀ k, k < 12 → parseFieldDescriptor (FT7 k).2.2.1 = some (ft7 k) := by decide +kernel
theorem fn7_ok : ∀ a, a < 12 → ∀ b, b < 12 → a ≠ b → (FT7 a).2.1 ≠ (FT7 b).2.1 := by decide +kernel
theorem fw7_ok : ∀ w ∈ u_ws "NotWorn" FT7 12, w ∈ TB := memTB _ [315, 317, 319, 321, 323, 325, 327, 329, 331, 333, 335, 337] (by decide +kernel) (by decide +kernel)
def ft8 : Nat → FieldType := fun k => match k with
  | 0 => .array (.int)
  | 1 => .array (.int)
  | 2 => .array (.int)
  | 3 => .boolean
  | 4 => .array (.boolean)
  | 5 => .array (.int)
  | 6 => .array (.int)
  | 7 => .int
  | 8 => .int
  | 9 => .array (.int)
  | 10 => .array (.int)
  | 11 => .int
  | 12 => .int
  | 13 => .int
  | 14 => .int
  | 15 => .int
  | 16 => .int
  | 17 => .int
  | 18 => .array (.char)
  | 19 => .array (.int)
  | 20 => .array (.int)
  | 21 => .int
  | 22 => .int
  | 23 => .array (.int)
  | 24 => .int
  | 25 => .array (.boolean)
  | 26 => .array (.int)
  | 27 => .array (.int)
  | 28 => .array (.int)
  | 29 => .array (.int)
  | 30 => .array (.int)
  | 31 => .array (.int)
  | 32 => .array (.int)
  | 33 => .array (.int)
  | 34 => .array (.int)
  | 35 => .array (.int)
  | 36 => .array (.int)
  | _ => .int
theorem ft8_ok : ∀ k, k < 38 → parseFieldDescriptor (FT8 k).2.2.1 = some (ft8 k) := by decide +kernel
theorem fn8_ok : ∀ a, a < 38 → ∀ b, b < 38 → a ≠ b → (FT8 a).2.1 ≠ (FT8 b).2.1 := by decide +kernel
theorem fw8_ok : ∀ w ∈ u_ws "NotWornModel" FT8 38, w ∈ TB := memTB _ [966, 968, 970, 972, 974, 976, 978, 980, 982, 984, 986, 988, 990, 992, 994, 996, 998, 1000, 1002, 1004, 1006, 1008, 1010, 1012, 1014, 1016, 1018, 1020, 1022, 1024, 1026, 1028, 1030, 1032, 1034, 1036, 1038, 1040] (by decide +kernel) (by decide +kernel)
/-- what is known of every class of the world -/
def CLok (q : vw_C) : Prop := (∀ w ∈ u_ws q.1 q.2.1 q.2.2, w ∈ TB) ∧ (∃ ty0 : Nat → FieldType, ∀ k, k < q.2.2 → parseFieldDescriptor (q.2.1 k).2.2.1 = some (ty0 k)) ∧ (∀ a, a < q.2.2 → ∀ b, b < q.2.2 → a ≠ b → (q.2.1 a).2.1 ≠ (q.2.1 b).2.1) ∧ (∀ k, (q.2.1 k).1 = q.1)
theorem cl0_ok : CLok ("NotWorn$Dealer", FT0, 6) := ⟨fw0_ok, ⟨ft0, ft0_ok⟩, fn0_ok, fun k => by show (FT0 k).1 = _; unfold FT0; split <;> rfl⟩
theorem cl1_ok : CLok ("NotWorn$Laws", FT1, 2) := ⟨fw1_ok, ⟨ft1, ft1_ok⟩, fn1_ok, fun k => by show (FT1 k).1 = _; unfold FT1; split <;> rfl⟩
theorem cl2_ok : CLok ("NotWorn$Row", FT2, 3) := ⟨fw2_ok, ⟨ft2, ft2_ok⟩, fn2_ok, fun k => by show (FT2 k).1 = _; unfold FT2; split <;> rfl⟩
theorem cl3_ok : CLok ("NotWorn$Slot", FT3, 5) := ⟨fw3_ok, ⟨ft3, ft3_ok⟩, fn3_ok, fun k => by show (FT3 k).1 = _; unfold FT3; split <;> rfl⟩
theorem cl4_ok : CLok ("NotWorn$Tape", FT4, 6) := ⟨fw4_ok, ⟨ft4, ft4_ok⟩, fn4_ok, fun k => by show (FT4 k).1 = _; unfold FT4; split <;> rfl⟩
theorem cl5_ok : CLok ("NotWorn$Text", FT5, 4) := ⟨fw5_ok, ⟨ft5, ft5_ok⟩, fn5_ok, fun k => by show (FT5 k).1 = _; unfold FT5; split <;> rfl⟩
theorem cl6_ok : CLok ("NotWorn$Valley", FT6, 16) := ⟨fw6_ok, ⟨ft6, ft6_ok⟩, fn6_ok, fun k => by show (FT6 k).1 = _; unfold FT6; split <;> rfl⟩
theorem cl7_ok : CLok ("NotWorn", FT7, 12) := ⟨fw7_ok, ⟨ft7, ft7_ok⟩, fn7_ok, fun k => by show (FT7 k).1 = _; unfold FT7; split <;> rfl⟩
theorem cl8_ok : CLok ("NotWornModel", FT8, 38) := ⟨fw8_ok, ⟨ft8, ft8_ok⟩, fn8_ok, fun k => by show (FT8 k).1 = _; unfold FT8; split <;> rfl⟩
theorem cl_ok : ∀ q ∈ classes, CLok q := by
  intro q hq
  simp only [classes, List.mem_cons, List.not_mem_nil, or_false] at hq
  rcases hq with rfl | rfl | rfl | rfl | rfl | rfl | rfl | rfl | rfl
  · exact cl0_ok
  · exact cl1_ok
  · exact cl2_ok
  · exact cl3_ok
  · exact cl4_ok
  · exact cl5_ok
  · exact cl6_ok
  · exact cl7_ok
  · exact cl8_ok
/-- the field that the entry of a class file names -/
def FLc (own : String) (q : Nat × Nat × Nat) : Cond := .fieldLink own q.1 ((classes.getD q.2.1 ("", FT0, 0)).2.1 q.2.2).1 ((classes.getD q.2.1 ("", FT0, 0)).2.1 q.2.2).2.1 ((classes.getD q.2.1 ("", FT0, 0)).2.1 q.2.2).2.2.1
def FLok (own : String) (fl : List (Nat × Nat × Nat)) : Prop := ∀ q ∈ fl, FLc own q ∈ TB
def fl_D : List (Nat × Nat × Nat) := [(44, 6, 5), (51, 6, 6), (41, 6, 7), (32, 6, 9), (9, 0, 0), (25, 0, 1), (29, 0, 2), (15, 0, 3), (18, 0, 4), (22, 0, 5)]
theorem fl_D_ok : FLok "NotWorn$Dealer" fl_D := by
  intro q hq
  exact memTB (fl_D.map (FLc "NotWorn$Dealer")) [144, 146, 147, 152, 203, 205, 207, 209, 210, 211] (by decide +kernel) (by decide +kernel) _ (List.mem_map_of_mem hq)
def fl_L : List (Nat × Nat × Nat) := [(22, 5, 2), (26, 5, 3), (11, 1, 0), (17, 1, 1)]
theorem fl_L_ok : FLok "NotWorn$Laws" fl_L := by
  intro q hq
  exact memTB (fl_L.map (FLc "NotWorn$Laws")) [105, 107, 118, 120] (by decide +kernel) (by decide +kernel) _ (List.mem_map_of_mem hq)
def fl_R : List (Nat × Nat × Nat) := [(9, 2, 0), (19, 2, 1), (15, 2, 2)]
theorem fl_R_ok : FLok "NotWorn$Row" fl_R := by
  intro q hq
  exact memTB (fl_R.map (FLc "NotWorn$Row")) [265, 267, 269] (by decide +kernel) (by decide +kernel) _ (List.mem_map_of_mem hq)
def fl_S : List (Nat × Nat × Nat) := [(9, 3, 0), (18, 3, 4)]
theorem fl_S_ok : FLok "NotWorn$Slot" fl_S := by
  intro q hq
  exact memTB (fl_S.map (FLc "NotWorn$Slot")) [285, 290] (by decide +kernel) (by decide +kernel) _ (List.mem_map_of_mem hq)
def fl_P : List (Nat × Nat × Nat) := [(93, 5, 0), (9, 4, 0), (22, 4, 1), (47, 4, 2), (26, 4, 3), (29, 4, 4), (18, 4, 5)]
theorem fl_P_ok : FLok "NotWorn$Tape" fl_P := by
  intro q hq
  exact memTB (fl_P.map (FLc "NotWorn$Tape")) [100, 234, 235, 237, 239, 240, 241] (by decide +kernel) (by decide +kernel) _ (List.mem_map_of_mem hq)
def fl_X : List (Nat × Nat × Nat) := [(15, 5, 0), (19, 5, 1), (22, 5, 2), (9, 5, 3)]
theorem fl_X_ok : FLok "NotWorn$Text" fl_X := by
  intro q hq
  exact memTB (fl_X.map (FLc "NotWorn$Text")) [99, 102, 104, 106] (by decide +kernel) (by decide +kernel) _ (List.mem_map_of_mem hq)
def fl_V : List (Nat × Nat × Nat) := [(9, 6, 0), (15, 6, 1), (18, 6, 2), (21, 6, 3), (55, 6, 4), (24, 6, 5), (27, 6, 6), (58, 6, 7), (30, 6, 8), (61, 6, 9), (34, 6, 10), (64, 6, 11), (38, 6, 12), (43, 6, 13), (46, 6, 14), (90, 6, 15)]
theorem fl_V_ok : FLok "NotWorn$Valley" fl_V := by
  intro q hq
  exact memTB (fl_V.map (FLc "NotWorn$Valley")) [133, 135, 137, 139, 142, 143, 145, 148, 150, 153, 155, 157, 159, 161, 162, 163] (by decide +kernel) (by decide +kernel) _ (List.mem_map_of_mem hq)
def fl_W : List (Nat × Nat × Nat) := [(257, 5, 0), (267, 5, 1), (245, 1, 0), (89, 6, 0), (92, 6, 1), (95, 6, 2), (98, 6, 3), (77, 6, 4), (174, 6, 7), (145, 6, 8), (101, 6, 9), (156, 6, 10), (242, 6, 11), (222, 6, 12), (190, 0, 0), (184, 0, 1), (187, 0, 2), (229, 4, 1), (239, 4, 2), (248, 4, 5), (209, 2, 0), (213, 2, 1), (216, 2, 2), (296, 3, 0), (299, 3, 1), (302, 3, 2), (312, 3, 3), (305, 3, 4), (10, 7, 0), (19, 7, 1), (23, 7, 2), (26, 7, 3), (319, 7, 4), (32, 7, 5), (39, 7, 6), (45, 7, 7), (51, 7, 8), (55, 7, 9), (316, 7, 10), (59, 7, 11)]
theorem fl_W_ok : FLok "NotWorn" fl_W := by
  intro q hq
  exact memTB (fl_W.map (FLc "NotWorn")) [101, 103, 119, 134, 136, 138, 140, 141, 149, 151, 154, 156, 158, 160, 204, 206, 208, 236, 238, 242, 266, 268, 270, 286, 287, 288, 289, 291, 303, 304, 305, 306, 307, 308, 309, 310, 311, 312, 313, 314] (by decide +kernel) (by decide +kernel) _ (List.mem_map_of_mem hq)
def fl_M : List (Nat × Nat × Nat) := [(9, 8, 0), (13, 8, 1), (16, 8, 2), (277, 8, 3), (19, 8, 4), (23, 8, 5), (26, 8, 6), (157, 8, 7), (161, 8, 8), (29, 8, 9), (32, 8, 10), (199, 8, 11), (202, 8, 12), (205, 8, 13), (211, 8, 14), (217, 8, 15), (208, 8, 16), (223, 8, 17), (35, 8, 18), (39, 8, 19), (42, 8, 20), (235, 8, 21), (241, 8, 22), (45, 8, 23), (229, 8, 24), (48, 8, 25), (51, 8, 26), (54, 8, 27), (57, 8, 28), (60, 8, 29), (63, 8, 30), (66, 8, 31), (69, 8, 32), (72, 8, 33), (75, 8, 34), (78, 8, 35), (81, 8, 36), (274, 8, 37)]
theorem fl_M_ok : FLok "NotWornModel" fl_M := by
  intro q hq
  exact memTB (fl_M.map (FLc "NotWornModel")) [928, 929, 930, 931, 932, 933, 934, 935, 936, 937, 938, 939, 940, 941, 942, 943, 944, 945, 946, 947, 948, 949, 950, 951, 952, 953, 954, 955, 956, 957, 958, 959, 960, 961, 962, 963, 964, 965] (by decide +kernel) (by decide +kernel) _ (List.mem_map_of_mem hq)
def fl_K : List (Nat × Nat × Nat) := []
theorem fl_K_ok : FLok "NotWorn$Kinds" fl_K := by
  intro q hq
  exact memTB (fl_K.map (FLc "NotWorn$Kinds")) [] (by decide +kernel) (by decide +kernel) _ (List.mem_map_of_mem hq)
def fl_E : List (Nat × Nat × Nat) := []
theorem fl_E_ok : FLok "NotWorn$Letters" fl_E := by
  intro q hq
  exact memTB (fl_E.map (FLc "NotWorn$Letters")) [] (by decide +kernel) (by decide +kernel) _ (List.mem_map_of_mem hq)
def CTok (own : String) (ct : List (Nat × Int32)) : Prop := ∀ q ∈ ct, Cond.constant own q.1 q.2 ∈ TB
def ct_D : List (Nat × Int32) := [(66, -1000000005)]
theorem ct_D_ok : CTok "NotWorn$Dealer" ct_D := by
  intro q hq
  exact memTB (ct_D.map (fun q => Cond.constant "NotWorn$Dealer" q.1 q.2)) [544] (by decide +kernel) (by decide +kernel) _ (List.mem_map_of_mem (f := fun q : Nat × Int32 => Cond.constant "NotWorn$Dealer" q.1 q.2) hq)
def ct_L : List (Nat × Int32) := []
theorem ct_L_ok : CTok "NotWorn$Laws" ct_L := by
  intro q hq
  exact memTB (ct_L.map (fun q => Cond.constant "NotWorn$Laws" q.1 q.2)) [] (by decide +kernel) (by decide +kernel) _ (List.mem_map_of_mem (f := fun q : Nat × Int32 => Cond.constant "NotWorn$Laws" q.1 q.2) hq)
def ct_R : List (Nat × Int32) := []
theorem ct_R_ok : CTok "NotWorn$Row" ct_R := by
  intro q hq
  exact memTB (ct_R.map (fun q => Cond.constant "NotWorn$Row" q.1 q.2)) [] (by decide +kernel) (by decide +kernel) _ (List.mem_map_of_mem (f := fun q : Nat × Int32 => Cond.constant "NotWorn$Row" q.1 q.2) hq)
def ct_S : List (Nat × Int32) := []
theorem ct_S_ok : CTok "NotWorn$Slot" ct_S := by
  intro q hq
  exact memTB (ct_S.map (fun q => Cond.constant "NotWorn$Slot" q.1 q.2)) [] (by decide +kernel) (by decide +kernel) _ (List.mem_map_of_mem (f := fun q : Nat × Int32 => Cond.constant "NotWorn$Slot" q.1 q.2) hq)
def ct_P : List (Nat × Int32) := []
theorem ct_P_ok : CTok "NotWorn$Tape" ct_P := by
  intro q hq
  exact memTB (ct_P.map (fun q => Cond.constant "NotWorn$Tape" q.1 q.2)) [] (by decide +kernel) (by decide +kernel) _ (List.mem_map_of_mem (f := fun q : Nat × Int32 => Cond.constant "NotWorn$Tape" q.1 q.2) hq)
def ct_X : List (Nat × Int32) := []
theorem ct_X_ok : CTok "NotWorn$Text" ct_X := by
  intro q hq
  exact memTB (ct_X.map (fun q => Cond.constant "NotWorn$Text" q.1 q.2)) [] (by decide +kernel) (by decide +kernel) _ (List.mem_map_of_mem (f := fun q : Nat × Int32 => Cond.constant "NotWorn$Text" q.1 q.2) hq)
def ct_V : List (Nat × Int32) := [(37, -1000000005), (67, 1103515245)]
theorem ct_V_ok : CTok "NotWorn$Valley" ct_V := by
  intro q hq
  exact memTB (ct_V.map (fun q => Cond.constant "NotWorn$Valley" q.1 q.2)) [132, 469] (by decide +kernel) (by decide +kernel) _ (List.mem_map_of_mem (f := fun q : Nat × Int32 => Cond.constant "NotWorn$Valley" q.1 q.2) hq)
def ct_W : List (Nat × Int32) := [(76, -1000000001), (81, -1000000003), (119, -1000000012), (173, -1000000005), (280, 99999), (212, -1000000011), (274, -1000000014), (278, -1000000013), (279, -99999), (315, -1000000002)]
theorem ct_W_ok : CTok "NotWorn" ct_W := by
  intro q hq
  exact memTB (ct_W.map (fun q => Cond.constant "NotWorn" q.1 q.2)) [354, 355, 392, 416, 424, 610, 844, 853, 854, 897] (by decide +kernel) (by decide +kernel) _ (List.mem_map_of_mem (f := fun q : Nat × Int32 => Cond.constant "NotWorn" q.1 q.2) hq)
def ct_M : List (Nat × Int32) := [(97, -1000000001), (98, -1000000003), (92, -1000000005), (120, -1000000012), (124, 99999), (143, 1103515245), (195, -1000000011), (267, -1000000014), (268, -1000000013), (269, -99999), (273, -1000000002)]
theorem ct_M_ok : CTok "NotWornModel" ct_M := by
  intro q hq
  exact memTB (ct_M.map (fun q => Cond.constant "NotWornModel" q.1 q.2)) [1054, 1055, 1060, 1092, 1112, 1155, 1262, 1338, 1343, 1344, 1376] (by decide +kernel) (by decide +kernel) _ (List.mem_map_of_mem (f := fun q : Nat × Int32 => Cond.constant "NotWornModel" q.1 q.2) hq)
def ct_K : List (Nat × Int32) := [(19, -1000000005)]
theorem ct_K_ok : CTok "NotWorn$Kinds" ct_K := by
  intro q hq
  exact memTB (ct_K.map (fun q => Cond.constant "NotWorn$Kinds" q.1 q.2)) [375] (by decide +kernel) (by decide +kernel) _ (List.mem_map_of_mem (f := fun q : Nat × Int32 => Cond.constant "NotWorn$Kinds" q.1 q.2) hq)
def ct_E : List (Nat × Int32) := []
theorem ct_E_ok : CTok "NotWorn$Letters" ct_E := by
  intro q hq
  exact memTB (ct_E.map (fun q => Cond.constant "NotWorn$Letters" q.1 q.2)) [] (by decide +kernel) (by decide +kernel) _ (List.mem_map_of_mem (f := fun q : Nat × Int32 => Cond.constant "NotWorn$Letters" q.1 q.2) hq)
def ct_I : List (Nat × Int32) := [(265, 1431655765), (266, 858993459), (267, 252645135)]
theorem ct_I_ok : CTok "java/lang/Integer" ct_I := by
  intro q hq
  exact memTB (ct_I.map (fun q => Cond.constant "java/lang/Integer" q.1 q.2)) [438, 439, 440] (by decide +kernel) (by decide +kernel) _ (List.mem_map_of_mem (f := fun q : Nat × Int32 => Cond.constant "java/lang/Integer" q.1 q.2) hq)
abbrev MI : Type := MethodName × ByteArray × Nat × Option FieldType
def MD (M : MI) (n : Nat) : Prop := plainName M.1.cls = true ∧ (M.1.cls ≠ "java/lang/invoke/MethodHandle" ∧ M.1.cls ≠ "java/lang/invoke/VarHandle") ∧ (parseMethodDescriptor M.1.desc).map (fun d => d.parameters.length) = some n ∧ M.2.2.1 ≤ 100
def MV (M : MI) (n : Nat) : Prop := (∀ w ∈ ([.instanceMethod M.1, .selects M.1.cls M.1 M.1, .initialized M.1.cls, .code M.1 M.2.1 M.2.2.1 M.2.2.2] : List Cond), w ∈ TB) ∧ MD M n
def MS (M : MI) (n : Nat) : Prop := (∀ w ∈ ([.static M.1, .initialized M.1.cls, .code M.1 M.2.1 M.2.2.1 M.2.2.2] : List Cond), w ∈ TB) ∧ MD M n
abbrev m_D_init : MI := (⟨"NotWorn$Dealer", "<init>", "()V"⟩, prog_2_method_1_code, 1, none)
abbrev m_D_settle : MI := (⟨"NotWorn$Dealer", "settle", "(LNotWorn$Valley;)V"⟩, prog_2_method_2_code, 3, none)
theorem mi_D_settle : MV m_D_settle 1 := ⟨memTB _ [524, 525, 63, 526] (by decide +kernel) (by decide +kernel), ⟨by decide +kernel, ⟨by decide +kernel, by decide +kernel⟩, by decide +kernel, by decide +kernel⟩⟩
abbrev m_D_tryFrom : MI := (⟨"NotWorn$Dealer", "tryFrom", "(LNotWorn$Valley;III)V"⟩, prog_2_method_3_code, 5, none)
theorem mi_D_tryFrom : MV m_D_tryFrom 4 := ⟨memTB _ [531, 5, 63, 532] (by decide +kernel) (by decide +kernel), ⟨by decide +kernel, ⟨by decide +kernel, by decide +kernel⟩, by decide +kernel, by decide +kernel⟩⟩
abbrev m_D_fits : MI := (⟨"NotWorn$Dealer", "fits", "(LNotWorn$Valley;II)Z"⟩, prog_2_method_4_code, 5, (some .boolean))
theorem mi_D_fits : MV m_D_fits 3 := ⟨memTB _ [542, 7, 63, 543] (by decide +kernel) (by decide +kernel), ⟨by decide +kernel, ⟨by decide +kernel, by decide +kernel⟩, by decide +kernel, by decide +kernel⟩⟩
abbrev m_D_remember : MI := (⟨"NotWorn$Dealer", "remember", "(LNotWorn$Valley;II)V"⟩, prog_2_method_5_code, 4, none)
theorem mi_D_remember : MV m_D_remember 3 := ⟨memTB _ [535, 6, 63, 536] (by decide +kernel) (by decide +kernel), ⟨by decide +kernel, ⟨by decide +kernel, by decide +kernel⟩, by decide +kernel, by decide +kernel⟩⟩
abbrev m_K_isKind : MI := (⟨"NotWorn$Kinds", "isKind", "(I)Z"⟩, prog_3_method_2_code, 1, (some .boolean))
theorem mi_K_isKind : MS m_K_isKind 1 := ⟨memTB _ [345, 68, 346] (by decide +kernel) (by decide +kernel), ⟨by decide +kernel, ⟨by decide +kernel, by decide +kernel⟩, by decide +kernel, by decide +kernel⟩⟩
abbrev m_K_isOf : MI := (⟨"NotWorn$Kinds", "isOf", "(II)Z"⟩, prog_3_method_3_code, 4, (some .boolean))
theorem mi_K_isOf : MS m_K_isOf 2 := ⟨memTB _ [387, 68, 388] (by decide +kernel) (by decide +kernel), ⟨by decide +kernel, ⟨by decide +kernel, by decide +kernel⟩, by decide +kernel, by decide +kernel⟩⟩
abbrev m_K_holdsIn : MI := (⟨"NotWorn$Kinds", "holdsIn", "(IIIII)Z"⟩, prog_3_method_4_code, 9, (some .boolean))
theorem mi_K_holdsIn : MS m_K_holdsIn 5 := ⟨memTB _ [373, 68, 374] (by decide +kernel) (by decide +kernel), ⟨by decide +kernel, ⟨by decide +kernel, by decide +kernel⟩, by decide +kernel, by decide +kernel⟩⟩
abbrev m_K_worth : MI := (⟨"NotWorn$Kinds", "worth", "(II)I"⟩, prog_3_method_5_code, 2, (some .int))
theorem mi_K_worth : MS m_K_worth 2 := ⟨memTB _ [380, 68, 381] (by decide +kernel) (by decide +kernel), ⟨by decide +kernel, ⟨by decide +kernel, by decide +kernel⟩, by decide +kernel, by decide +kernel⟩⟩
abbrev m_L_init : MI := (⟨"NotWorn$Laws", "<init>", "()V"⟩, prog_4_method_1_code, 2, none)
abbrev m_L_work : MI := (⟨"NotWorn$Laws", "work", "(IIII)I"⟩, prog_4_method_2_code, 9, (some .int))
theorem mi_L_work : MV m_L_work 4 := ⟨memTB _ [568, 569, 60, 570] (by decide +kernel) (by decide +kernel), ⟨by decide +kernel, ⟨by decide +kernel, by decide +kernel⟩, by decide +kernel, by decide +kernel⟩⟩
abbrev m_L_leaf : MI := (⟨"NotWorn$Laws", "leaf", "(IIII)I"⟩, prog_4_method_3_code, 4, (some .int))
theorem mi_L_leaf : MS m_L_leaf 4 := ⟨memTB _ [572, 60, 573] (by decide +kernel) (by decide +kernel), ⟨by decide +kernel, ⟨by decide +kernel, by decide +kernel⟩, by decide +kernel, by decide +kernel⟩⟩
abbrev m_L_join : MI := (⟨"NotWorn$Laws", "join", "(III)I"⟩, prog_4_method_4_code, 3, (some .int))
theorem mi_L_join : MS m_L_join 3 := ⟨memTB _ [576, 60, 577] (by decide +kernel) (by decide +kernel), ⟨by decide +kernel, ⟨by decide +kernel, by decide +kernel⟩, by decide +kernel, by decide +kernel⟩⟩
abbrev m_E_alike : MI := (⟨"NotWorn$Letters", "alike", "(II)I"⟩, prog_5_method_2_code, 3, (some .int))
theorem mi_E_alike : MS m_E_alike 2 := ⟨memTB _ [430, 69, 431] (by decide +kernel) (by decide +kernel), ⟨by decide +kernel, ⟨by decide +kernel, by decide +kernel⟩, by decide +kernel, by decide +kernel⟩⟩
abbrev m_E_unlike : MI := (⟨"NotWorn$Letters", "unlike", "(I)I"⟩, prog_5_method_3_code, 1, (some .int))
theorem mi_E_unlike : MS m_E_unlike 1 := ⟨memTB _ [433, 69, 434] (by decide +kernel) (by decide +kernel), ⟨by decide +kernel, ⟨by decide +kernel, by decide +kernel⟩, by decide +kernel, by decide +kernel⟩⟩
abbrev m_R_init : MI := (⟨"NotWorn$Row", "<init>", "()V"⟩, prog_6_method_1_code, 1, none)
abbrev m_R_clear : MI := (⟨"NotWorn$Row", "clear", "(II)V"⟩, prog_6_method_2_code, 4, none)
theorem mi_R_clear : MV m_R_clear 2 := ⟨memTB _ [841, 842, 65, 843] (by decide +kernel) (by decide +kernel), ⟨by decide +kernel, ⟨by decide +kernel, by decide +kernel⟩, by decide +kernel, by decide +kernel⟩⟩
abbrev m_R_become : MI := (⟨"NotWorn$Row", "become", "(LNotWorn$Row;)V"⟩, prog_6_method_3_code, 2, none)
theorem mi_R_become : MV m_R_become 1 := ⟨memTB _ [881, 882, 65, 883] (by decide +kernel) (by decide +kernel), ⟨by decide +kernel, ⟨by decide +kernel, by decide +kernel⟩, by decide +kernel, by decide +kernel⟩⟩
abbrev m_R_hasPlace : MI := (⟨"NotWorn$Row", "hasPlace", "(I)Z"⟩, prog_6_method_4_code, 2, (some .boolean))
theorem mi_R_hasPlace : MV m_R_hasPlace 1 := ⟨memTB _ [850, 851, 65, 852] (by decide +kernel) (by decide +kernel), ⟨by decide +kernel, ⟨by decide +kernel, by decide +kernel⟩, by decide +kernel, by decide +kernel⟩⟩
abbrev m_R_hasPlaces : MI := (⟨"NotWorn$Row", "hasPlaces", "(II)Z"⟩, prog_6_method_5_code, 3, (some .boolean))
theorem mi_R_hasPlaces : MV m_R_hasPlaces 2 := ⟨memTB _ [869, 870, 65, 871] (by decide +kernel) (by decide +kernel), ⟨by decide +kernel, ⟨by decide +kernel, by decide +kernel⟩, by decide +kernel, by decide +kernel⟩⟩
abbrev m_S_init : MI := (⟨"NotWorn$Slot", "<init>", "()V"⟩, prog_7_method_1_code, 1, none)
abbrev m_P_init : MI := (⟨"NotWorn$Tape", "<init>", "()V"⟩, prog_8_method_1_code, 1, none)
abbrev m_P_takeFour : MI := (⟨"NotWorn$Tape", "takeFour", "(I)V"⟩, prog_8_method_2_code, 3, none)
theorem mi_P_takeFour : MV m_P_takeFour 1 := ⟨memTB _ [625, 626, 64, 627] (by decide +kernel) (by decide +kernel), ⟨by decide +kernel, ⟨by decide +kernel, by decide +kernel⟩, by decide +kernel, by decide +kernel⟩⟩
abbrev m_P_readText : MI := (⟨"NotWorn$Tape", "readText", "()Z"⟩, prog_8_method_3_code, 2, (some .boolean))
theorem mi_P_readText : MV m_P_readText 0 := ⟨memTB _ [637, 638, 64, 639] (by decide +kernel) (by decide +kernel), ⟨by decide +kernel, ⟨by decide +kernel, by decide +kernel⟩, by decide +kernel, by decide +kernel⟩⟩
abbrev m_P_advance : MI := (⟨"NotWorn$Tape", "advance", "()V"⟩, prog_8_method_4_code, 3, none)
theorem mi_P_advance : MV m_P_advance 0 := ⟨memTB _ [642, 10, 64, 643] (by decide +kernel) (by decide +kernel), ⟨by decide +kernel, ⟨by decide +kernel, by decide +kernel⟩, by decide +kernel, by decide +kernel⟩⟩
abbrev m_P_sortOf : MI := (⟨"NotWorn$Tape", "sortOf", "(I)I"⟩, prog_8_method_5_code, 1, (some .int))
theorem mi_P_sortOf : MS m_P_sortOf 1 := ⟨memTB _ [645, 64, 646] (by decide +kernel) (by decide +kernel), ⟨by decide +kernel, ⟨by decide +kernel, by decide +kernel⟩, by decide +kernel, by decide +kernel⟩⟩
abbrev m_P_keyAtHand : MI := (⟨"NotWorn$Tape", "keyAtHand", "()I"⟩, prog_8_method_6_code, 2, (some .int))
theorem mi_P_keyAtHand : MV m_P_keyAtHand 0 := ⟨memTB _ [649, 11, 64, 650] (by decide +kernel) (by decide +kernel), ⟨by decide +kernel, ⟨by decide +kernel, by decide +kernel⟩, by decide +kernel, by decide +kernel⟩⟩
abbrev m_P_isKeyWord : MI := (⟨"NotWorn$Tape", "isKeyWord", "(I)Z"⟩, prog_8_method_7_code, 3, (some .boolean))
theorem mi_P_isKeyWord : MV m_P_isKeyWord 1 := ⟨memTB _ [653, 12, 64, 654] (by decide +kernel) (by decide +kernel), ⟨by decide +kernel, ⟨by decide +kernel, by decide +kernel⟩, by decide +kernel, by decide +kernel⟩⟩
abbrev m_P_readLevel : MI := (⟨"NotWorn$Tape", "readLevel", "(III)Z"⟩, prog_8_method_8_code, 7, (some .boolean))
theorem mi_P_readLevel : MV m_P_readLevel 3 := ⟨memTB _ [702, 13, 64, 703] (by decide +kernel) (by decide +kernel), ⟨by decide +kernel, ⟨by decide +kernel, by decide +kernel⟩, by decide +kernel, by decide +kernel⟩⟩
abbrev m_P_signOfLevel : MI := (⟨"NotWorn$Tape", "signOfLevel", "(I)Z"⟩, prog_8_method_9_code, 2, (some .boolean))
theorem mi_P_signOfLevel : MV m_P_signOfLevel 1 := ⟨memTB _ [806, 20, 64, 807] (by decide +kernel) (by decide +kernel), ⟨by decide +kernel, ⟨by decide +kernel, by decide +kernel⟩, by decide +kernel, by decide +kernel⟩⟩
abbrev m_P_atHand : MI := (⟨"NotWorn$Tape", "atHand", "(C)Z"⟩, prog_8_method_10_code, 2, (some .boolean))
theorem mi_P_atHand : MV m_P_atHand 1 := ⟨memTB _ [798, 19, 64, 799] (by decide +kernel) (by decide +kernel), ⟨by decide +kernel, ⟨by decide +kernel, by decide +kernel⟩, by decide +kernel, by decide +kernel⟩⟩
abbrev m_P_readPiece : MI := (⟨"NotWorn$Tape", "readPiece", "(II)Z"⟩, prog_8_method_11_code, 3, (some .boolean))
theorem mi_P_readPiece : MV m_P_readPiece 2 := ⟨memTB _ [706, 14, 64, 707] (by decide +kernel) (by decide +kernel), ⟨by decide +kernel, ⟨by decide +kernel, by decide +kernel⟩, by decide +kernel, by decide +kernel⟩⟩
abbrev m_P_readLeaf : MI := (⟨"NotWorn$Tape", "readLeaf", "()Z"⟩, prog_8_method_12_code, 2, (some .boolean))
theorem mi_P_readLeaf : MV m_P_readLeaf 0 := ⟨memTB _ [710, 15, 64, 711] (by decide +kernel) (by decide +kernel), ⟨by decide +kernel, ⟨by decide +kernel, by decide +kernel⟩, by decide +kernel, by decide +kernel⟩⟩
abbrev m_P_numberAtHand : MI := (⟨"NotWorn$Tape", "numberAtHand", "()I"⟩, prog_8_method_13_code, 3, (some .int))
theorem mi_P_numberAtHand : MV m_P_numberAtHand 0 := ⟨memTB _ [714, 16, 64, 715] (by decide +kernel) (by decide +kernel), ⟨by decide +kernel, ⟨by decide +kernel, by decide +kernel⟩, by decide +kernel, by decide +kernel⟩⟩
abbrev m_P_nameAtHand : MI := (⟨"NotWorn$Tape", "nameAtHand", "()I"⟩, prog_8_method_14_code, 2, (some .int))
theorem mi_P_nameAtHand : MV m_P_nameAtHand 0 := ⟨memTB _ [718, 17, 64, 719] (by decide +kernel) (by decide +kernel), ⟨by decide +kernel, ⟨by decide +kernel, by decide +kernel⟩, by decide +kernel, by decide +kernel⟩⟩
abbrev m_P_namesOf : MI := (⟨"NotWorn$Tape", "namesOf", "(I)Ljava/lang/String;"⟩, prog_8_method_15_code, 1, (some (.object "java/lang/String")))
theorem mi_P_namesOf : MS m_P_namesOf 1 := ⟨memTB _ [721, 64, 722] (by decide +kernel) (by decide +kernel), ⟨by decide +kernel, ⟨by decide +kernel, by decide +kernel⟩, by decide +kernel, by decide +kernel⟩⟩
abbrev m_X_init : MI := (⟨"NotWorn$Text", "<init>", "()V"⟩, prog_9_method_1_code, 1, none)
abbrev m_X_begin : MI := (⟨"NotWorn$Text", "begin", "(I)V"⟩, prog_9_method_2_code, 2, none)
theorem mi_X_begin : MV m_X_begin 1 := ⟨memTB _ [697, 698, 61, 699] (by decide +kernel) (by decide +kernel), ⟨by decide +kernel, ⟨by decide +kernel, by decide +kernel⟩, by decide +kernel, by decide +kernel⟩⟩
abbrev m_X_become : MI := (⟨"NotWorn$Text", "become", "(LNotWorn$Text;)V"⟩, prog_9_method_3_code, 2, none)
theorem mi_X_become : MV m_X_become 1 := ⟨memTB _ [809, 810, 61, 811] (by decide +kernel) (by decide +kernel), ⟨by decide +kernel, ⟨by decide +kernel, by decide +kernel⟩, by decide +kernel, by decide +kernel⟩⟩
abbrev m_X_addLeaf : MI := (⟨"NotWorn$Text", "addLeaf", "(I)V"⟩, prog_9_method_4_code, 2, none)
theorem mi_X_addLeaf : MV m_X_addLeaf 1 := ⟨memTB _ [789, 790, 61, 791] (by decide +kernel) (by decide +kernel), ⟨by decide +kernel, ⟨by decide +kernel, by decide +kernel⟩, by decide +kernel, by decide +kernel⟩⟩
abbrev m_X_addSign : MI := (⟨"NotWorn$Text", "addSign", "(I)V"⟩, prog_9_method_5_code, 2, none)
theorem mi_X_addSign : MV m_X_addSign 1 := ⟨memTB _ [801, 802, 61, 803] (by decide +kernel) (by decide +kernel), ⟨by decide +kernel, ⟨by decide +kernel, by decide +kernel⟩, by decide +kernel, by decide +kernel⟩⟩
abbrev m_X_addStep : MI := (⟨"NotWorn$Text", "addStep", "(I)V"⟩, prog_9_method_6_code, 2, none)
theorem mi_X_addStep : MV m_X_addStep 1 := ⟨memTB _ [794, 18, 61, 795] (by decide +kernel) (by decide +kernel), ⟨by decide +kernel, ⟨by decide +kernel, by decide +kernel⟩, by decide +kernel, by decide +kernel⟩⟩
abbrev m_V_init : MI := (⟨"NotWorn$Valley", "<init>", "()V"⟩, prog_10_method_1_code, 1, none)
abbrev m_V_become : MI := (⟨"NotWorn$Valley", "become", "(LNotWorn$Valley;)V"⟩, prog_10_method_2_code, 2, none)
theorem mi_V_become : MV m_V_become 1 := ⟨memTB _ [587, 588, 62, 589] (by decide +kernel) (by decide +kernel), ⟨by decide +kernel, ⟨by decide +kernel, by decide +kernel⟩, by decide +kernel, by decide +kernel⟩⟩
abbrev m_V_enter : MI := (⟨"NotWorn$Valley", "enter", "(III)I"⟩, prog_10_method_3_code, 5, (some .int))
theorem mi_V_enter : MV m_V_enter 3 := ⟨memTB _ [357, 358, 62, 359] (by decide +kernel) (by decide +kernel), ⟨by decide +kernel, ⟨by decide +kernel, by decide +kernel⟩, by decide +kernel, by decide +kernel⟩⟩
abbrev m_V_wish : MI := (⟨"NotWorn$Valley", "wish", "(II)I"⟩, prog_10_method_4_code, 4, (some .int))
theorem mi_V_wish : MV m_V_wish 2 := ⟨memTB _ [512, 513, 62, 514] (by decide +kernel) (by decide +kernel), ⟨by decide +kernel, ⟨by decide +kernel, by decide +kernel⟩, by decide +kernel, by decide +kernel⟩⟩
abbrev m_V_draw : MI := (⟨"NotWorn$Valley", "draw", "()I"⟩, prog_10_method_5_code, 1, (some .int))
theorem mi_V_draw : MV m_V_draw 0 := ⟨memTB _ [467, 4, 62, 468] (by decide +kernel) (by decide +kernel), ⟨by decide +kernel, ⟨by decide +kernel, by decide +kernel⟩, by decide +kernel, by decide +kernel⟩⟩
abbrev m_V_drawPerson : MI := (⟨"NotWorn$Valley", "drawPerson", "()V"⟩, prog_10_method_6_code, 4, none)
theorem mi_V_drawPerson : MV m_V_drawPerson 0 := ⟨memTB _ [462, 463, 62, 464] (by decide +kernel) (by decide +kernel), ⟨by decide +kernel, ⟨by decide +kernel, by decide +kernel⟩, by decide +kernel, by decide +kernel⟩⟩
abbrev m_V_isAlive : MI := (⟨"NotWorn$Valley", "isAlive", "(I)Z"⟩, prog_10_method_7_code, 2, (some .boolean))
theorem mi_V_isAlive : MV m_V_isAlive 1 := ⟨memTB _ [409, 410, 62, 411] (by decide +kernel) (by decide +kernel), ⟨by decide +kernel, ⟨by decide +kernel, by decide +kernel⟩, by decide +kernel, by decide +kernel⟩⟩
abbrev m_V_countAlive : MI := (⟨"NotWorn$Valley", "countAlive", "()I"⟩, prog_10_method_8_code, 3, (some .int))
theorem mi_V_countAlive : MV m_V_countAlive 0 := ⟨memTB _ [592, 593, 62, 594] (by decide +kernel) (by decide +kernel), ⟨by decide +kernel, ⟨by decide +kernel, by decide +kernel⟩, by decide +kernel, by decide +kernel⟩⟩
abbrev m_V_holdsIn : MI := (⟨"NotWorn$Valley", "holdsIn", "(II)Z"⟩, prog_10_method_9_code, 3, (some .boolean))
theorem mi_V_holdsIn : MV m_V_holdsIn 2 := ⟨memTB _ [369, 370, 62, 371] (by decide +kernel) (by decide +kernel), ⟨by decide +kernel, ⟨by decide +kernel, by decide +kernel⟩, by decide +kernel, by decide +kernel⟩⟩
abbrev m_V_areNear : MI := (⟨"NotWorn$Valley", "areNear", "(II)Z"⟩, prog_10_method_10_code, 3, (some .boolean))
theorem mi_V_areNear : MV m_V_areNear 2 := ⟨memTB _ [446, 447, 62, 448] (by decide +kernel) (by decide +kernel), ⟨by decide +kernel, ⟨by decide +kernel, by decide +kernel⟩, by decide +kernel, by decide +kernel⟩⟩
abbrev m_V_gatherHeld : MI := (⟨"NotWorn$Valley", "gatherHeld", "(I)V"⟩, prog_10_method_11_code, 3, none)
theorem mi_V_gatherHeld : MV m_V_gatherHeld 1 := ⟨memTB _ [480, 481, 62, 482] (by decide +kernel) (by decide +kernel), ⟨by decide +kernel, ⟨by decide +kernel, by decide +kernel⟩, by decide +kernel, by decide +kernel⟩⟩
abbrev m_V_isClear : MI := (⟨"NotWorn$Valley", "isClear", "(I)Z"⟩, prog_10_method_12_code, 3, (some .boolean))
theorem mi_V_isClear : MV m_V_isClear 1 := ⟨memTB _ [485, 486, 62, 487] (by decide +kernel) (by decide +kernel), ⟨by decide +kernel, ⟨by decide +kernel, by decide +kernel⟩, by decide +kernel, by decide +kernel⟩⟩
abbrev m_V_countFree : MI := (⟨"NotWorn$Valley", "countFree", "()I"⟩, prog_10_method_13_code, 3, (some .int))
theorem mi_V_countFree : MV m_V_countFree 0 := ⟨memTB _ [494, 495, 62, 496] (by decide +kernel) (by decide +kernel), ⟨by decide +kernel, ⟨by decide +kernel, by decide +kernel⟩, by decide +kernel, by decide +kernel⟩⟩
abbrev m_V_leastFree : MI := (⟨"NotWorn$Valley", "leastFree", "()I"⟩, prog_10_method_14_code, 2, (some .int))
theorem mi_V_leastFree : MV m_V_leastFree 0 := ⟨memTB _ [500, 501, 62, 502] (by decide +kernel) (by decide +kernel), ⟨by decide +kernel, ⟨by decide +kernel, by decide +kernel⟩, by decide +kernel, by decide +kernel⟩⟩
abbrev m_V_passYear : MI := (⟨"NotWorn$Valley", "passYear", "(LNotWorn$Laws;)I"⟩, prog_10_method_15_code, 4, (some .int))
theorem mi_V_passYear : MV m_V_passYear 1 := ⟨memTB _ [559, 560, 62, 561] (by decide +kernel) (by decide +kernel), ⟨by decide +kernel, ⟨by decide +kernel, by decide +kernel⟩, by decide +kernel, by decide +kernel⟩⟩
abbrev m_V_chanceToDie : MI := (⟨"NotWorn$Valley", "chanceToDie", "(ILNotWorn$Laws;)I"⟩, prog_10_method_16_code, 6, (some .int))
theorem mi_V_chanceToDie : MV m_V_chanceToDie 2 := ⟨memTB _ [565, 8, 62, 566] (by decide +kernel) (by decide +kernel), ⟨by decide +kernel, ⟨by decide +kernel, by decide +kernel⟩, by decide +kernel, by decide +kernel⟩⟩
abbrev m_V_takeText : MI := (⟨"NotWorn$Valley", "takeText", "(ILNotWorn$Laws;)I"⟩, prog_10_method_17_code, 4, (some .int))
theorem mi_V_takeText : MV m_V_takeText 2 := ⟨memTB _ [814, 815, 62, 816] (by decide +kernel) (by decide +kernel), ⟨by decide +kernel, ⟨by decide +kernel, by decide +kernel⟩, by decide +kernel, by decide +kernel⟩⟩
abbrev m_V_findNearWays : MI := (⟨"NotWorn$Valley", "findNearWays", "(LNotWorn$Laws;)V"⟩, prog_10_method_18_code, 5, none)
theorem mi_V_findNearWays : MV m_V_findNearWays 1 := ⟨memTB _ [819, 21, 62, 820] (by decide +kernel) (by decide +kernel), ⟨by decide +kernel, ⟨by decide +kernel, by decide +kernel⟩, by decide +kernel, by decide +kernel⟩⟩
abbrev m_W_init : MI := (⟨"NotWorn", "<init>", "()V"⟩, prog_1_method_1_code, 2, none)
abbrev m_W_person : MI := (⟨"NotWorn", "person", "(III)I"⟩, prog_1_method_2_code, 4, (some .int))
theorem mi_W_person : MV m_W_person 3 := ⟨memTB _ [341, 342, 59, 343] (by decide +kernel) (by decide +kernel), ⟨by decide +kernel, ⟨by decide +kernel, by decide +kernel⟩, by decide +kernel, by decide +kernel⟩⟩
abbrev m_W_told : MI := (⟨"NotWorn", "told", "(II)I"⟩, prog_1_method_3_code, 3, (some .int))
theorem mi_W_told : MV m_W_told 2 := ⟨memTB _ [361, 362, 59, 363] (by decide +kernel) (by decide +kernel), ⟨by decide +kernel, ⟨by decide +kernel, by decide +kernel⟩, by decide +kernel, by decide +kernel⟩⟩
abbrev m_W_as : MI := (⟨"NotWorn", "as", "(II)I"⟩, prog_1_method_4_code, 3, (some .int))
theorem mi_W_as : MV m_W_as 2 := ⟨memTB _ [383, 384, 59, 385] (by decide +kernel) (by decide +kernel), ⟨by decide +kernel, ⟨by decide +kernel, by decide +kernel⟩, by decide +kernel, by decide +kernel⟩⟩
abbrev m_W_turns : MI := (⟨"NotWorn", "turns", "(II)I"⟩, prog_1_method_5_code, 4, (some .int))
theorem mi_W_turns : MV m_W_turns 2 := ⟨memTB _ [394, 395, 59, 396] (by decide +kernel) (by decide +kernel), ⟨by decide +kernel, ⟨by decide +kernel, by decide +kernel⟩, by decide +kernel, by decide +kernel⟩⟩
abbrev m_W_set : MI := (⟨"NotWorn", "set", "(III)I"⟩, prog_1_method_6_code, 4, (some .int))
theorem mi_W_set : MV m_W_set 3 := ⟨memTB _ [398, 399, 59, 400] (by decide +kernel) (by decide +kernel), ⟨by decide +kernel, ⟨by decide +kernel, by decide +kernel⟩, by decide +kernel, by decide +kernel⟩⟩
abbrev m_W_holds : MI := (⟨"NotWorn", "holds", "(II)I"⟩, prog_1_method_7_code, 3, (some .int))
theorem mi_W_holds : MV m_W_holds 2 := ⟨memTB _ [418, 419, 59, 420] (by decide +kernel) (by decide +kernel), ⟨by decide +kernel, ⟨by decide +kernel, by decide +kernel⟩, by decide +kernel, by decide +kernel⟩⟩
abbrev m_W_apart : MI := (⟨"NotWorn", "apart", "(II)I"⟩, prog_1_method_8_code, 3, (some .int))
theorem mi_W_apart : MV m_W_apart 2 := ⟨memTB _ [426, 427, 59, 428] (by decide +kernel) (by decide +kernel), ⟨by decide +kernel, ⟨by decide +kernel, by decide +kernel⟩, by decide +kernel, by decide +kernel⟩⟩
abbrev m_W_near : MI := (⟨"NotWorn", "near", "(II)I"⟩, prog_1_method_9_code, 3, (some .int))
theorem mi_W_near : MV m_W_near 2 := ⟨memTB _ [442, 443, 59, 444] (by decide +kernel) (by decide +kernel), ⟨by decide +kernel, ⟨by decide +kernel, by decide +kernel⟩, by decide +kernel, by decide +kernel⟩⟩
abbrev m_W_lifetime : MI := (⟨"NotWorn", "lifetime", "(I)I"⟩, prog_1_method_10_code, 3, (some .int))
theorem mi_W_lifetime : MV m_W_lifetime 1 := ⟨memTB _ [451, 452, 59, 453] (by decide +kernel) (by decide +kernel), ⟨by decide +kernel, ⟨by decide +kernel, by decide +kernel⟩, by decide +kernel, by decide +kernel⟩⟩
abbrev m_W_deal : MI := (⟨"NotWorn", "deal", "(I)I"⟩, prog_1_method_11_code, 4, (some .int))
theorem mi_W_deal : MV m_W_deal 1 := ⟨memTB _ [455, 456, 59, 457] (by decide +kernel) (by decide +kernel), ⟨by decide +kernel, ⟨by decide +kernel, by decide +kernel⟩, by decide +kernel, by decide +kernel⟩⟩
abbrev m_W_seed : MI := (⟨"NotWorn", "seed", "(I)I"⟩, prog_1_method_12_code, 3, (some .int))
theorem mi_W_seed : MV m_W_seed 1 := ⟨memTB _ [472, 473, 59, 474] (by decide +kernel) (by decide +kernel), ⟨by decide +kernel, ⟨by decide +kernel, by decide +kernel⟩, by decide +kernel, by decide +kernel⟩⟩
abbrev m_W_free : MI := (⟨"NotWorn", "free", "(II)I"⟩, prog_1_method_13_code, 3, (some .int))
theorem mi_W_free : MV m_W_free 2 := ⟨memTB _ [476, 477, 59, 478] (by decide +kernel) (by decide +kernel), ⟨by decide +kernel, ⟨by decide +kernel, by decide +kernel⟩, by decide +kernel, by decide +kernel⟩⟩
abbrev m_W_frees : MI := (⟨"NotWorn", "frees", "(I)I"⟩, prog_1_method_14_code, 2, (some .int))
theorem mi_W_frees : MV m_W_frees 1 := ⟨memTB _ [490, 491, 59, 492] (by decide +kernel) (by decide +kernel), ⟨by decide +kernel, ⟨by decide +kernel, by decide +kernel⟩, by decide +kernel, by decide +kernel⟩⟩
abbrev m_W_soonest : MI := (⟨"NotWorn", "soonest", "(I)I"⟩, prog_1_method_15_code, 3, (some .int))
theorem mi_W_soonest : MV m_W_soonest 1 := ⟨memTB _ [504, 505, 59, 506] (by decide +kernel) (by decide +kernel), ⟨by decide +kernel, ⟨by decide +kernel, by decide +kernel⟩, by decide +kernel, by decide +kernel⟩⟩
abbrev m_W_child : MI := (⟨"NotWorn", "child", "(II)I"⟩, prog_1_method_16_code, 3, (some .int))
theorem mi_W_child : MV m_W_child 2 := ⟨memTB _ [508, 509, 59, 510] (by decide +kernel) (by decide +kernel), ⟨by decide +kernel, ⟨by decide +kernel, by decide +kernel⟩, by decide +kernel, by decide +kernel⟩⟩
abbrev m_W_forget : MI := (⟨"NotWorn", "forget", "()I"⟩, prog_1_method_17_code, 2, (some .int))
theorem mi_W_forget : MV m_W_forget 0 := ⟨memTB _ [516, 517, 59, 518] (by decide +kernel) (by decide +kernel), ⟨by decide +kernel, ⟨by decide +kernel, by decide +kernel⟩, by decide +kernel, by decide +kernel⟩⟩
abbrev m_W_dealing : MI := (⟨"NotWorn", "dealing", "(I)I"⟩, prog_1_method_18_code, 2, (some .int))
theorem mi_W_dealing : MV m_W_dealing 1 := ⟨memTB _ [520, 521, 59, 522] (by decide +kernel) (by decide +kernel), ⟨by decide +kernel, ⟨by decide +kernel, by decide +kernel⟩, by decide +kernel, by decide +kernel⟩⟩
abbrev m_W_christen : MI := (⟨"NotWorn", "christen", "()I"⟩, prog_1_method_19_code, 2, (some .int))
theorem mi_W_christen : MV m_W_christen 0 := ⟨memTB _ [547, 548, 59, 549] (by decide +kernel) (by decide +kernel), ⟨by decide +kernel, ⟨by decide +kernel, by decide +kernel⟩, by decide +kernel, by decide +kernel⟩⟩
abbrev m_W_yields : MI := (⟨"NotWorn", "yields", "(I)I"⟩, prog_1_method_20_code, 4, (some .int))
theorem mi_W_yields : MV m_W_yields 1 := ⟨memTB _ [551, 552, 59, 553] (by decide +kernel) (by decide +kernel), ⟨by decide +kernel, ⟨by decide +kernel, by decide +kernel⟩, by decide +kernel, by decide +kernel⟩⟩
abbrev m_W_years : MI := (⟨"NotWorn", "years", "(I)I"⟩, prog_1_method_21_code, 5, (some .int))
theorem mi_W_years : MV m_W_years 1 := ⟨memTB _ [555, 556, 59, 557] (by decide +kernel) (by decide +kernel), ⟨by decide +kernel, ⟨by decide +kernel, by decide +kernel⟩, by decide +kernel, by decide +kernel⟩⟩
abbrev m_W_behind : MI := (⟨"NotWorn", "behind", "(II)I"⟩, prog_1_method_22_code, 4, (some .int))
theorem mi_W_behind : MV m_W_behind 2 := ⟨memTB _ [583, 584, 59, 585] (by decide +kernel) (by decide +kernel), ⟨by decide +kernel, ⟨by decide +kernel, by decide +kernel⟩, by decide +kernel, by decide +kernel⟩⟩
abbrev m_W_ends : MI := (⟨"NotWorn", "ends", "()I"⟩, prog_1_method_23_code, 2, (some .int))
theorem mi_W_ends : MV m_W_ends 0 := ⟨memTB _ [596, 597, 59, 598] (by decide +kernel) (by decide +kernel), ⟨by decide +kernel, ⟨by decide +kernel, by decide +kernel⟩, by decide +kernel, by decide +kernel⟩⟩
abbrev m_W_stays : MI := (⟨"NotWorn", "stays", "(II)I"⟩, prog_1_method_24_code, 5, (some .int))
theorem mi_W_stays : MV m_W_stays 2 := ⟨memTB _ [600, 601, 59, 602] (by decide +kernel) (by decide +kernel), ⟨by decide +kernel, ⟨by decide +kernel, by decide +kernel⟩, by decide +kernel, by decide +kernel⟩⟩
abbrev m_W_line : MI := (⟨"NotWorn", "line", "(I)I"⟩, prog_1_method_25_code, 6, (some .int))
theorem mi_W_line : MV m_W_line 1 := ⟨memTB _ [604, 605, 59, 606] (by decide +kernel) (by decide +kernel), ⟨by decide +kernel, ⟨by decide +kernel, by decide +kernel⟩, by decide +kernel, by decide +kernel⟩⟩
abbrev m_W_fine : MI := (⟨"NotWorn", "fine", "()I"⟩, prog_1_method_26_code, 2, (some .int))
theorem mi_W_fine : MV m_W_fine 0 := ⟨memTB _ [616, 617, 59, 618] (by decide +kernel) (by decide +kernel), ⟨by decide +kernel, ⟨by decide +kernel, by decide +kernel⟩, by decide +kernel, by decide +kernel⟩⟩
abbrev m_W_feed : MI := (⟨"NotWorn", "feed", "(III)I"⟩, prog_1_method_27_code, 4, (some .int))
theorem mi_W_feed : MV m_W_feed 3 := ⟨memTB _ [621, 622, 59, 623] (by decide +kernel) (by decide +kernel), ⟨by decide +kernel, ⟨by decide +kernel, by decide +kernel⟩, by decide +kernel, by decide +kernel⟩⟩
abbrev m_W_trim : MI := (⟨"NotWorn", "trim", "(I)I"⟩, prog_1_method_28_code, 2, (some .int))
theorem mi_W_trim : MV m_W_trim 1 := ⟨memTB _ [629, 630, 59, 631] (by decide +kernel) (by decide +kernel), ⟨by decide +kernel, ⟨by decide +kernel, by decide +kernel⟩, by decide +kernel, by decide +kernel⟩⟩
abbrev m_W_text : MI := (⟨"NotWorn", "text", "()I"⟩, prog_1_method_29_code, 2, (some .int))
theorem mi_W_text : MV m_W_text 0 := ⟨memTB _ [633, 634, 59, 635] (by decide +kernel) (by decide +kernel), ⟨by decide +kernel, ⟨by decide +kernel, by decide +kernel⟩, by decide +kernel, by decide +kernel⟩⟩
abbrev m_W_textTold : MI := (⟨"NotWorn", "textTold", "(II)I"⟩, prog_1_method_30_code, 3, (some .int))
theorem mi_W_textTold : MV m_W_textTold 2 := ⟨memTB _ [825, 826, 59, 827] (by decide +kernel) (by decide +kernel), ⟨by decide +kernel, ⟨by decide +kernel, by decide +kernel⟩, by decide +kernel, by decide +kernel⟩⟩
abbrev m_W_why : MI := (⟨"NotWorn", "why", "(I)I"⟩, prog_1_method_31_code, 2, (some .int))
theorem mi_W_why : MV m_W_why 1 := ⟨memTB _ [833, 834, 59, 835] (by decide +kernel) (by decide +kernel), ⟨by decide +kernel, ⟨by decide +kernel, by decide +kernel⟩, by decide +kernel, by decide +kernel⟩⟩
abbrev m_W_sheet : MI := (⟨"NotWorn", "sheet", "(III)I"⟩, prog_1_method_32_code, 4, (some .int))
theorem mi_W_sheet : MV m_W_sheet 3 := ⟨memTB _ [837, 838, 59, 839] (by decide +kernel) (by decide +kernel), ⟨by decide +kernel, ⟨by decide +kernel, by decide +kernel⟩, by decide +kernel, by decide +kernel⟩⟩
abbrev m_W_mark : MI := (⟨"NotWorn", "mark", "(III)I"⟩, prog_1_method_33_code, 5, (some .int))
theorem mi_W_mark : MV m_W_mark 3 := ⟨memTB _ [846, 847, 59, 848] (by decide +kernel) (by decide +kernel), ⟨by decide +kernel, ⟨by decide +kernel, by decide +kernel⟩, by decide +kernel, by decide +kernel⟩⟩
abbrev m_W_pour : MI := (⟨"NotWorn", "pour", "(I)I"⟩, prog_1_method_34_code, 7, (some .int))
theorem mi_W_pour : MV m_W_pour 1 := ⟨memTB _ [856, 857, 59, 858] (by decide +kernel) (by decide +kernel), ⟨by decide +kernel, ⟨by decide +kernel, by decide +kernel⟩, by decide +kernel, by decide +kernel⟩⟩
abbrev m_W_reads : MI := (⟨"NotWorn", "reads", "(I)I"⟩, prog_1_method_35_code, 4, (some .int))
theorem mi_W_reads : MV m_W_reads 1 := ⟨memTB _ [861, 862, 59, 863] (by decide +kernel) (by decide +kernel), ⟨by decide +kernel, ⟨by decide +kernel, by decide +kernel⟩, by decide +kernel, by decide +kernel⟩⟩
abbrev m_W_copy : MI := (⟨"NotWorn", "copy", "(IIIII)I"⟩, prog_1_method_36_code, 8, (some .int))
theorem mi_W_copy : MV m_W_copy 5 := ⟨memTB _ [865, 866, 59, 867] (by decide +kernel) (by decide +kernel), ⟨by decide +kernel, ⟨by decide +kernel, by decide +kernel⟩, by decide +kernel, by decide +kernel⟩⟩
abbrev m_W_lay : MI := (⟨"NotWorn", "lay", "(III)I"⟩, prog_1_method_37_code, 6, (some .int))
theorem mi_W_lay : MV m_W_lay 3 := ⟨memTB _ [874, 875, 59, 876] (by decide +kernel) (by decide +kernel), ⟨by decide +kernel, ⟨by decide +kernel, by decide +kernel⟩, by decide +kernel, by decide +kernel⟩⟩
abbrev m_W_ask : MI := (⟨"NotWorn", "ask", "(II)I"⟩, prog_1_method_38_code, 4, (some .int))
theorem mi_W_ask : MV m_W_ask 2 := ⟨memTB _ [886, 887, 59, 888] (by decide +kernel) (by decide +kernel), ⟨by decide +kernel, ⟨by decide +kernel, by decide +kernel⟩, by decide +kernel, by decide +kernel⟩⟩
abbrev m_W_item : MI := (⟨"NotWorn", "item", "(II)I"⟩, prog_1_method_39_code, 4, (some .int))
theorem mi_W_item : MV m_W_item 2 := ⟨memTB _ [890, 891, 59, 892] (by decide +kernel) (by decide +kernel), ⟨by decide +kernel, ⟨by decide +kernel, by decide +kernel⟩, by decide +kernel, by decide +kernel⟩⟩
abbrev m_W_rest : MI := (⟨"NotWorn", "rest", "(II)I"⟩, prog_1_method_40_code, 4, (some .int))
theorem mi_W_rest : MV m_W_rest 2 := ⟨memTB _ [894, 895, 59, 896] (by decide +kernel) (by decide +kernel), ⟨by decide +kernel, ⟨by decide +kernel, by decide +kernel⟩, by decide +kernel, by decide +kernel⟩⟩
abbrev m_W_tell : MI := (⟨"NotWorn", "tell", "(I)I"⟩, prog_1_method_41_code, 2, (some .int))
theorem mi_W_tell : MV m_W_tell 1 := ⟨memTB _ [899, 900, 59, 901] (by decide +kernel) (by decide +kernel), ⟨by decide +kernel, ⟨by decide +kernel, by decide +kernel⟩, by decide +kernel, by decide +kernel⟩⟩
abbrev m_W_check : MI := (⟨"NotWorn", "check", "(I)I"⟩, prog_1_method_42_code, 6, (some .int))
theorem mi_W_check : MV m_W_check 1 := ⟨memTB _ [903, 904, 59, 905] (by decide +kernel) (by decide +kernel), ⟨by decide +kernel, ⟨by decide +kernel, by decide +kernel⟩, by decide +kernel, by decide +kernel⟩⟩
abbrev m_W_keep : MI := (⟨"NotWorn", "keep", "()I"⟩, prog_1_method_43_code, 1, (some .int))
theorem mi_W_keep : MV m_W_keep 0 := ⟨memTB _ [911, 912, 59, 913] (by decide +kernel) (by decide +kernel), ⟨by decide +kernel, ⟨by decide +kernel, by decide +kernel⟩, by decide +kernel, by decide +kernel⟩⟩
abbrev m_W_back : MI := (⟨"NotWorn", "back", "()I"⟩, prog_1_method_44_code, 1, (some .int))
theorem mi_W_back : MV m_W_back 0 := ⟨memTB _ [915, 916, 59, 917] (by decide +kernel) (by decide +kernel), ⟨by decide +kernel, ⟨by decide +kernel, by decide +kernel⟩, by decide +kernel, by decide +kernel⟩⟩
abbrev m_W_count : MI := (⟨"NotWorn", "count", "(I)I"⟩, prog_1_method_45_code, 2, (some .int))
theorem mi_W_count : MV m_W_count 1 := ⟨memTB _ [919, 920, 59, 921] (by decide +kernel) (by decide +kernel), ⟨by decide +kernel, ⟨by decide +kernel, by decide +kernel⟩, by decide +kernel, by decide +kernel⟩⟩
abbrev m_W_isPerson : MI := (⟨"NotWorn", "isPerson", "(I)Z"⟩, prog_1_method_46_code, 2, (some .boolean))
theorem mi_W_isPerson : MV m_W_isPerson 1 := ⟨memTB _ [366, 1, 59, 367] (by decide +kernel) (by decide +kernel), ⟨by decide +kernel, ⟨by decide +kernel, by decide +kernel⟩, by decide +kernel, by decide +kernel⟩⟩
abbrev m_W_isText : MI := (⟨"NotWorn", "isText", "(I)Z"⟩, prog_1_method_47_code, 2, (some .boolean))
theorem mi_W_isText : MV m_W_isText 1 := ⟨memTB _ [830, 22, 59, 831] (by decide +kernel) (by decide +kernel), ⟨by decide +kernel, ⟨by decide +kernel, by decide +kernel⟩, by decide +kernel, by decide +kernel⟩⟩
abbrev m_W_isBirth : MI := (⟨"NotWorn", "isBirth", "(I)Z"⟩, prog_1_method_48_code, 2, (some .boolean))
theorem mi_W_isBirth : MV m_W_isBirth 1 := ⟨memTB _ [352, 0, 59, 353] (by decide +kernel) (by decide +kernel), ⟨by decide +kernel, ⟨by decide +kernel, by decide +kernel⟩, by decide +kernel, by decide +kernel⟩⟩
abbrev m_W_canBeBorn : MI := (⟨"NotWorn", "canBeBorn", "(II)Z"⟩, prog_1_method_49_code, 3, (some .boolean))
theorem mi_W_canBeBorn : MV m_W_canBeBorn 2 := ⟨memTB _ [406, 2, 59, 407] (by decide +kernel) (by decide +kernel), ⟨by decide +kernel, ⟨by decide +kernel, by decide +kernel⟩, by decide +kernel, by decide +kernel⟩⟩
abbrev m_W_canHaveDied : MI := (⟨"NotWorn", "canHaveDied", "(II)Z"⟩, prog_1_method_50_code, 3, (some .boolean))
theorem mi_W_canHaveDied : MV m_W_canHaveDied 2 := ⟨memTB _ [414, 3, 59, 415] (by decide +kernel) (by decide +kernel), ⟨by decide +kernel, ⟨by decide +kernel, by decide +kernel⟩, by decide +kernel, by decide +kernel⟩⟩
abbrev m_W_isName : MI := (⟨"NotWorn", "isName", "(I)Z"⟩, prog_1_method_51_code, 1, (some .boolean))
theorem mi_W_isName : MS m_W_isName 1 := ⟨memTB _ [348, 59, 349] (by decide +kernel) (by decide +kernel), ⟨by decide +kernel, ⟨by decide +kernel, by decide +kernel⟩, by decide +kernel, by decide +kernel⟩⟩
abbrev m_W_isAskedYear : MI := (⟨"NotWorn", "isAskedYear", "(I)Z"⟩, prog_1_method_52_code, 1, (some .boolean))
theorem mi_W_isAskedYear : MS m_W_isAskedYear 1 := ⟨memTB _ [422, 59, 423] (by decide +kernel) (by decide +kernel), ⟨by decide +kernel, ⟨by decide +kernel, by decide +kernel⟩, by decide +kernel, by decide +kernel⟩⟩
abbrev m_W_isSheet : MI := (⟨"NotWorn", "isSheet", "(I)Z"⟩, prog_1_method_53_code, 1, (some .boolean))
theorem mi_W_isSheet : MS m_W_isSheet 1 := ⟨memTB _ [608, 59, 609] (by decide +kernel) (by decide +kernel), ⟨by decide +kernel, ⟨by decide +kernel, by decide +kernel⟩, by decide +kernel, by decide +kernel⟩⟩
abbrev m_W_isSlot : MI := (⟨"NotWorn", "isSlot", "(I)Z"⟩, prog_1_method_54_code, 1, (some .boolean))
theorem mi_W_isSlot : MS m_W_isSlot 1 := ⟨memTB _ [878, 59, 879] (by decide +kernel) (by decide +kernel), ⟨by decide +kernel, ⟨by decide +kernel, by decide +kernel⟩, by decide +kernel, by decide +kernel⟩⟩
abbrev m_W_bit : MI := (⟨"NotWorn", "bit", "(Z)I"⟩, prog_1_method_55_code, 1, (some .int))
theorem mi_W_bit : MS m_W_bit 1 := ⟨memTB _ [377, 59, 378] (by decide +kernel) (by decide +kernel), ⟨by decide +kernel, ⟨by decide +kernel, by decide +kernel⟩, by decide +kernel, by decide +kernel⟩⟩
abbrev m_W_replace : MI := (⟨"NotWorn", "replace", "([III)I"⟩, prog_1_method_56_code, 4, (some .int))
theorem mi_W_replace : MS m_W_replace 3 := ⟨memTB _ [402, 59, 403] (by decide +kernel) (by decide +kernel), ⟨by decide +kernel, ⟨by decide +kernel, by decide +kernel⟩, by decide +kernel, by decide +kernel⟩⟩
abbrev m_W_isNearGiven : MI := (⟨"NotWorn", "isNearGiven", "(II)Z"⟩, prog_1_method_57_code, 4, (some .boolean))
theorem mi_W_isNearGiven : MV m_W_isNearGiven 2 := ⟨memTB _ [613, 9, 59, 614] (by decide +kernel) (by decide +kernel), ⟨by decide +kernel, ⟨by decide +kernel, by decide +kernel⟩, by decide +kernel, by decide +kernel⟩⟩
abbrev m_W_waitedAt : MI := (⟨"NotWorn", "waitedAt", "(III)Z"⟩, prog_1_method_58_code, 4, (some .boolean))
theorem mi_W_waitedAt : MV m_W_waitedAt 3 := ⟨memTB _ [908, 23, 59, 909] (by decide +kernel) (by decide +kernel), ⟨by decide +kernel, ⟨by decide +kernel, by decide +kernel⟩, by decide +kernel, by decide +kernel⟩⟩
abbrev m_M_init : MI := (⟨"NotWornModel", "<init>", "()V"⟩, prog_12_method_1_code, 1, none)
abbrev m_M_in : MI := (⟨"NotWornModel", "in", "(III)Z"⟩, prog_12_method_2_code, 3, (some .boolean))
theorem mi_M_in : MS m_M_in 3 := ⟨memTB _ [1049, 67, 1050] (by decide +kernel) (by decide +kernel), ⟨by decide +kernel, ⟨by decide +kernel, by decide +kernel⟩, by decide +kernel, by decide +kernel⟩⟩
abbrev m_M_within : MI := (⟨"NotWornModel", "within", "(III)I"⟩, prog_12_method_3_code, 3, (some .int))
theorem mi_M_within : MS m_M_within 3 := ⟨memTB _ [1229, 67, 1230] (by decide +kernel) (by decide +kernel), ⟨by decide +kernel, ⟨by decide +kernel, by decide +kernel⟩, by decide +kernel, by decide +kernel⟩⟩
abbrev m_M_copyAll : MI := (⟨"NotWornModel", "copyAll", "([I[I)V"⟩, prog_12_method_4_code, 3, none)
theorem mi_M_copyAll : MS m_M_copyAll 2 := ⟨memTB _ [1386, 67, 1387] (by decide +kernel) (by decide +kernel), ⟨by decide +kernel, ⟨by decide +kernel, by decide +kernel⟩, by decide +kernel, by decide +kernel⟩⟩
abbrev m_M_isOne : MI := (⟨"NotWornModel", "isOne", "(I)Z"⟩, prog_12_method_5_code, 2, (some .boolean))
theorem mi_M_isOne : MV m_M_isOne 1 := ⟨memTB _ [1067, 25, 67, 1068] (by decide +kernel) (by decide +kernel), ⟨by decide +kernel, ⟨by decide +kernel, by decide +kernel⟩, by decide +kernel, by decide +kernel⟩⟩
abbrev m_M_isCalled : MI := (⟨"NotWornModel", "isCalled", "(I)Z"⟩, prog_12_method_6_code, 1, (some .boolean))
theorem mi_M_isCalled : MS m_M_isCalled 1 := ⟨memTB _ [1052, 67, 1053] (by decide +kernel) (by decide +kernel), ⟨by decide +kernel, ⟨by decide +kernel, by decide +kernel⟩, by decide +kernel, by decide +kernel⟩⟩
abbrev m_M_of : MI := (⟨"NotWornModel", "of", "(II)I"⟩, prog_12_method_7_code, 3, (some .int))
theorem mi_M_of : MV m_M_of 2 := ⟨memTB _ [1071, 26, 67, 1072] (by decide +kernel) (by decide +kernel), ⟨by decide +kernel, ⟨by decide +kernel, by decide +kernel⟩, by decide +kernel, by decide +kernel⟩⟩
abbrev m_M_isAlive : MI := (⟨"NotWornModel", "isAlive", "(I)Z"⟩, prog_12_method_8_code, 2, (some .boolean))
theorem mi_M_isAlive : MV m_M_isAlive 1 := ⟨memTB _ [1079, 28, 67, 1080] (by decide +kernel) (by decide +kernel), ⟨by decide +kernel, ⟨by decide +kernel, by decide +kernel⟩, by decide +kernel, by decide +kernel⟩⟩
abbrev m_M_becomes : MI := (⟨"NotWornModel", "becomes", "(II)I"⟩, prog_12_method_9_code, 4, (some .int))
theorem mi_M_becomes : MV m_M_becomes 2 := ⟨memTB _ [1099, 30, 67, 1100] (by decide +kernel) (by decide +kernel), ⟨by decide +kernel, ⟨by decide +kernel, by decide +kernel⟩, by decide +kernel, by decide +kernel⟩⟩
abbrev m_M_comes : MI := (⟨"NotWornModel", "comes", "(III)I"⟩, prog_12_method_10_code, 5, (some .int))
theorem mi_M_comes : MV m_M_comes 3 := ⟨memTB _ [1058, 24, 67, 1059] (by decide +kernel) (by decide +kernel), ⟨by decide +kernel, ⟨by decide +kernel, by decide +kernel⟩, by decide +kernel, by decide +kernel⟩⟩
abbrev m_M_person : MI := (⟨"NotWornModel", "person", "(III)I"⟩, prog_12_method_11_code, 4, (some .int))
theorem mi_M_person : MV m_M_person 3 := ⟨memTB _ [1045, 1046, 67, 1047] (by decide +kernel) (by decide +kernel), ⟨by decide +kernel, ⟨by decide +kernel, by decide +kernel⟩, by decide +kernel, by decide +kernel⟩⟩
abbrev m_M_doesHold : MI := (⟨"NotWornModel", "doesHold", "(II)Z"⟩, prog_12_method_12_code, 8, (some .boolean))
theorem mi_M_doesHold : MV m_M_doesHold 2 := ⟨memTB _ [1075, 27, 67, 1076] (by decide +kernel) (by decide +kernel), ⟨by decide +kernel, ⟨by decide +kernel, by decide +kernel⟩, by decide +kernel, by decide +kernel⟩⟩
abbrev m_M_worthOf : MI := (⟨"NotWornModel", "worthOf", "(I)I"⟩, prog_12_method_13_code, 3, (some .int))
theorem mi_M_worthOf : MV m_M_worthOf 1 := ⟨memTB _ [1083, 29, 67, 1084] (by decide +kernel) (by decide +kernel), ⟨by decide +kernel, ⟨by decide +kernel, by decide +kernel⟩, by decide +kernel, by decide +kernel⟩⟩
abbrev m_M_told : MI := (⟨"NotWornModel", "told", "(II)I"⟩, prog_12_method_14_code, 3, (some .int))
theorem mi_M_told : MV m_M_told 2 := ⟨memTB _ [1062, 1063, 67, 1064] (by decide +kernel) (by decide +kernel), ⟨by decide +kernel, ⟨by decide +kernel, by decide +kernel⟩, by decide +kernel, by decide +kernel⟩⟩
abbrev m_M_isUnder : MI := (⟨"NotWornModel", "isUnder", "(II)Z"⟩, prog_12_method_15_code, 2, (some .boolean))
theorem mi_M_isUnder : MS m_M_isUnder 2 := ⟨memTB _ [1090, 67, 1091] (by decide +kernel) (by decide +kernel), ⟨by decide +kernel, ⟨by decide +kernel, by decide +kernel⟩, by decide +kernel, by decide +kernel⟩⟩
abbrev m_M_as : MI := (⟨"NotWornModel", "as", "(II)I"⟩, prog_12_method_16_code, 3, (some .int))
theorem mi_M_as : MV m_M_as 2 := ⟨memTB _ [1086, 1087, 67, 1088] (by decide +kernel) (by decide +kernel), ⟨by decide +kernel, ⟨by decide +kernel, by decide +kernel⟩, by decide +kernel, by decide +kernel⟩⟩
abbrev m_M_turns : MI := (⟨"NotWornModel", "turns", "(II)I"⟩, prog_12_method_17_code, 3, (some .int))
theorem mi_M_turns : MV m_M_turns 2 := ⟨memTB _ [1094, 1095, 67, 1096] (by decide +kernel) (by decide +kernel), ⟨by decide +kernel, ⟨by decide +kernel, by decide +kernel⟩, by decide +kernel, by decide +kernel⟩⟩
abbrev m_M_set : MI := (⟨"NotWornModel", "set", "(III)I"⟩, prog_12_method_18_code, 5, (some .int))
theorem mi_M_set : MV m_M_set 3 := ⟨memTB _ [1102, 1103, 67, 1104] (by decide +kernel) (by decide +kernel), ⟨by decide +kernel, ⟨by decide +kernel, by decide +kernel⟩, by decide +kernel, by decide +kernel⟩⟩
abbrev m_M_isYear : MI := (⟨"NotWornModel", "isYear", "(I)Z"⟩, prog_12_method_19_code, 1, (some .boolean))
theorem mi_M_isYear : MS m_M_isYear 1 := ⟨memTB _ [1110, 67, 1111] (by decide +kernel) (by decide +kernel), ⟨by decide +kernel, ⟨by decide +kernel, by decide +kernel⟩, by decide +kernel, by decide +kernel⟩⟩
abbrev m_M_holds : MI := (⟨"NotWornModel", "holds", "(II)I"⟩, prog_12_method_20_code, 3, (some .int))
theorem mi_M_holds : MV m_M_holds 2 := ⟨memTB _ [1106, 1107, 67, 1108] (by decide +kernel) (by decide +kernel), ⟨by decide +kernel, ⟨by decide +kernel, by decide +kernel⟩, by decide +kernel, by decide +kernel⟩⟩
abbrev m_M_apartOf : MI := (⟨"NotWornModel", "apartOf", "(II)I"⟩, prog_12_method_21_code, 2, (some .int))
theorem mi_M_apartOf : MS m_M_apartOf 2 := ⟨memTB _ [1118, 67, 1119] (by decide +kernel) (by decide +kernel), ⟨by decide +kernel, ⟨by decide +kernel, by decide +kernel⟩, by decide +kernel, by decide +kernel⟩⟩
abbrev m_M_apart : MI := (⟨"NotWornModel", "apart", "(II)I"⟩, prog_12_method_22_code, 3, (some .int))
theorem mi_M_apart : MV m_M_apart 2 := ⟨memTB _ [1114, 1115, 67, 1116] (by decide +kernel) (by decide +kernel), ⟨by decide +kernel, ⟨by decide +kernel, by decide +kernel⟩, by decide +kernel, by decide +kernel⟩⟩
abbrev m_M_findNears : MI := (⟨"NotWornModel", "findNears", "()V"⟩, prog_12_method_23_code, 3, none)
theorem mi_M_findNears : MV m_M_findNears 0 := ⟨memTB _ [1126, 31, 67, 1127] (by decide +kernel) (by decide +kernel), ⟨by decide +kernel, ⟨by decide +kernel, by decide +kernel⟩, by decide +kernel, by decide +kernel⟩⟩
abbrev m_M_areNear : MI := (⟨"NotWornModel", "areNear", "(II)Z"⟩, prog_12_method_24_code, 3, (some .boolean))
theorem mi_M_areNear : MV m_M_areNear 2 := ⟨memTB _ [1141, 34, 67, 1142] (by decide +kernel) (by decide +kernel), ⟨by decide +kernel, ⟨by decide +kernel, by decide +kernel⟩, by decide +kernel, by decide +kernel⟩⟩
abbrev m_M_near : MI := (⟨"NotWornModel", "near", "(II)I"⟩, prog_12_method_25_code, 3, (some .int))
theorem mi_M_near : MV m_M_near 2 := ⟨memTB _ [1121, 1122, 67, 1123] (by decide +kernel) (by decide +kernel), ⟨by decide +kernel, ⟨by decide +kernel, by decide +kernel⟩, by decide +kernel, by decide +kernel⟩⟩
abbrev m_M_lifetime : MI := (⟨"NotWornModel", "lifetime", "(I)I"⟩, prog_12_method_26_code, 2, (some .int))
theorem mi_M_lifetime : MV m_M_lifetime 1 := ⟨memTB _ [1144, 1145, 67, 1146] (by decide +kernel) (by decide +kernel), ⟨by decide +kernel, ⟨by decide +kernel, by decide +kernel⟩, by decide +kernel, by decide +kernel⟩⟩
abbrev m_M_draw : MI := (⟨"NotWornModel", "draw", "()I"⟩, prog_12_method_27_code, 1, (some .int))
theorem mi_M_draw : MV m_M_draw 0 := ⟨memTB _ [1153, 35, 67, 1154] (by decide +kernel) (by decide +kernel), ⟨by decide +kernel, ⟨by decide +kernel, by decide +kernel⟩, by decide +kernel, by decide +kernel⟩⟩
abbrev m_M_deal : MI := (⟨"NotWornModel", "deal", "(I)I"⟩, prog_12_method_28_code, 6, (some .int))
theorem mi_M_deal : MV m_M_deal 1 := ⟨memTB _ [1148, 1149, 67, 1150] (by decide +kernel) (by decide +kernel), ⟨by decide +kernel, ⟨by decide +kernel, by decide +kernel⟩, by decide +kernel, by decide +kernel⟩⟩
abbrev m_M_seed : MI := (⟨"NotWornModel", "seed", "(I)I"⟩, prog_12_method_29_code, 2, (some .int))
theorem mi_M_seed : MV m_M_seed 1 := ⟨memTB _ [1157, 1158, 67, 1159] (by decide +kernel) (by decide +kernel), ⟨by decide +kernel, ⟨by decide +kernel, by decide +kernel⟩, by decide +kernel, by decide +kernel⟩⟩
abbrev m_M_isFree : MI := (⟨"NotWornModel", "isFree", "(II)Z"⟩, prog_12_method_30_code, 4, (some .boolean))
theorem mi_M_isFree : MV m_M_isFree 2 := ⟨memTB _ [1166, 36, 67, 1167] (by decide +kernel) (by decide +kernel), ⟨by decide +kernel, ⟨by decide +kernel, by decide +kernel⟩, by decide +kernel, by decide +kernel⟩⟩
abbrev m_M_free : MI := (⟨"NotWornModel", "free", "(II)I"⟩, prog_12_method_31_code, 3, (some .int))
theorem mi_M_free : MV m_M_free 2 := ⟨memTB _ [1161, 1162, 67, 1163] (by decide +kernel) (by decide +kernel), ⟨by decide +kernel, ⟨by decide +kernel, by decide +kernel⟩, by decide +kernel, by decide +kernel⟩⟩
abbrev m_M_freeMany : MI := (⟨"NotWornModel", "freeMany", "()I"⟩, prog_12_method_32_code, 3, (some .int))
theorem mi_M_freeMany : MV m_M_freeMany 0 := ⟨memTB _ [1174, 37, 67, 1175] (by decide +kernel) (by decide +kernel), ⟨by decide +kernel, ⟨by decide +kernel, by decide +kernel⟩, by decide +kernel, by decide +kernel⟩⟩
abbrev m_M_leastFree : MI := (⟨"NotWornModel", "leastFree", "()I"⟩, prog_12_method_33_code, 2, (some .int))
theorem mi_M_leastFree : MV m_M_leastFree 0 := ⟨memTB _ [1178, 38, 67, 1179] (by decide +kernel) (by decide +kernel), ⟨by decide +kernel, ⟨by decide +kernel, by decide +kernel⟩, by decide +kernel, by decide +kernel⟩⟩
abbrev m_M_frees : MI := (⟨"NotWornModel", "frees", "(I)I"⟩, prog_12_method_34_code, 2, (some .int))
theorem mi_M_frees : MV m_M_frees 1 := ⟨memTB _ [1169, 1170, 67, 1171] (by decide +kernel) (by decide +kernel), ⟨by decide +kernel, ⟨by decide +kernel, by decide +kernel⟩, by decide +kernel, by decide +kernel⟩⟩
abbrev m_M_soonest : MI := (⟨"NotWornModel", "soonest", "(I)I"⟩, prog_12_method_35_code, 3, (some .int))
theorem mi_M_soonest : MV m_M_soonest 1 := ⟨memTB _ [1181, 1182, 67, 1183] (by decide +kernel) (by decide +kernel), ⟨by decide +kernel, ⟨by decide +kernel, by decide +kernel⟩, by decide +kernel, by decide +kernel⟩⟩
abbrev m_M_child : MI := (⟨"NotWornModel", "child", "(II)I"⟩, prog_12_method_36_code, 3, (some .int))
theorem mi_M_child : MV m_M_child 2 := ⟨memTB _ [1185, 1186, 67, 1187] (by decide +kernel) (by decide +kernel), ⟨by decide +kernel, ⟨by decide +kernel, by decide +kernel⟩, by decide +kernel, by decide +kernel⟩⟩
abbrev m_M_forget : MI := (⟨"NotWornModel", "forget", "()I"⟩, prog_12_method_37_code, 1, (some .int))
theorem mi_M_forget : MV m_M_forget 0 := ⟨memTB _ [1189, 1190, 67, 1191] (by decide +kernel) (by decide +kernel), ⟨by decide +kernel, ⟨by decide +kernel, by decide +kernel⟩, by decide +kernel, by decide +kernel⟩⟩
abbrev m_M_mayHave : MI := (⟨"NotWornModel", "mayHave", "(II)Z"⟩, prog_12_method_38_code, 4, (some .boolean))
theorem mi_M_mayHave : MV m_M_mayHave 2 := ⟨memTB _ [1206, 41, 67, 1207] (by decide +kernel) (by decide +kernel), ⟨by decide +kernel, ⟨by decide +kernel, by decide +kernel⟩, by decide +kernel, by decide +kernel⟩⟩
abbrev m_M_deals : MI := (⟨"NotWornModel", "deals", "(III)V"⟩, prog_12_method_39_code, 6, none)
theorem mi_M_deals : MV m_M_deals 3 := ⟨memTB _ [1202, 40, 67, 1203] (by decide +kernel) (by decide +kernel), ⟨by decide +kernel, ⟨by decide +kernel, by decide +kernel⟩, by decide +kernel, by decide +kernel⟩⟩
abbrev m_M_findDealing : MI := (⟨"NotWornModel", "findDealing", "()V"⟩, prog_12_method_40_code, 1, none)
theorem mi_M_findDealing : MV m_M_findDealing 0 := ⟨memTB _ [1198, 39, 67, 1199] (by decide +kernel) (by decide +kernel), ⟨by decide +kernel, ⟨by decide +kernel, by decide +kernel⟩, by decide +kernel, by decide +kernel⟩⟩
abbrev m_M_dealing : MI := (⟨"NotWornModel", "dealing", "(I)I"⟩, prog_12_method_41_code, 2, (some .int))
theorem mi_M_dealing : MV m_M_dealing 1 := ⟨memTB _ [1193, 1194, 67, 1195] (by decide +kernel) (by decide +kernel), ⟨by decide +kernel, ⟨by decide +kernel, by decide +kernel⟩, by decide +kernel, by decide +kernel⟩⟩
abbrev m_M_christen : MI := (⟨"NotWornModel", "christen", "()I"⟩, prog_12_method_42_code, 3, (some .int))
theorem mi_M_christen : MV m_M_christen 0 := ⟨memTB _ [1209, 1210, 67, 1211] (by decide +kernel) (by decide +kernel), ⟨by decide +kernel, ⟨by decide +kernel, by decide +kernel⟩, by decide +kernel, by decide +kernel⟩⟩
abbrev m_M_yields : MI := (⟨"NotWornModel", "yields", "(I)I"⟩, prog_12_method_43_code, 4, (some .int))
theorem mi_M_yields : MV m_M_yields 1 := ⟨memTB _ [1213, 1214, 67, 1215] (by decide +kernel) (by decide +kernel), ⟨by decide +kernel, ⟨by decide +kernel, by decide +kernel⟩, by decide +kernel, by decide +kernel⟩⟩
abbrev m_M_diesBy : MI := (⟨"NotWornModel", "diesBy", "(I)I"⟩, prog_12_method_44_code, 4, (some .int))
theorem mi_M_diesBy : MV m_M_diesBy 1 := ⟨memTB _ [1226, 43, 67, 1227] (by decide +kernel) (by decide +kernel), ⟨by decide +kernel, ⟨by decide +kernel, by decide +kernel⟩, by decide +kernel, by decide +kernel⟩⟩
abbrev m_M_year : MI := (⟨"NotWornModel", "year", "()I"⟩, prog_12_method_45_code, 3, (some .int))
theorem mi_M_year : MV m_M_year 0 := ⟨memTB _ [1222, 42, 67, 1223] (by decide +kernel) (by decide +kernel), ⟨by decide +kernel, ⟨by decide +kernel, by decide +kernel⟩, by decide +kernel, by decide +kernel⟩⟩
abbrev m_M_years : MI := (⟨"NotWornModel", "years", "(I)I"⟩, prog_12_method_46_code, 4, (some .int))
theorem mi_M_years : MV m_M_years 1 := ⟨memTB _ [1217, 1218, 67, 1219] (by decide +kernel) (by decide +kernel), ⟨by decide +kernel, ⟨by decide +kernel, by decide +kernel⟩, by decide +kernel, by decide +kernel⟩⟩
abbrev m_M_aliveMany : MI := (⟨"NotWornModel", "aliveMany", "()I"⟩, prog_12_method_47_code, 3, (some .int))
theorem mi_M_aliveMany : MV m_M_aliveMany 0 := ⟨memTB _ [1241, 45, 67, 1242] (by decide +kernel) (by decide +kernel), ⟨by decide +kernel, ⟨by decide +kernel, by decide +kernel⟩, by decide +kernel, by decide +kernel⟩⟩
abbrev m_M_thinks : MI := (⟨"NotWornModel", "thinks", "()V"⟩, prog_12_method_48_code, 2, none)
theorem mi_M_thinks : MV m_M_thinks 0 := ⟨memTB _ [1237, 44, 67, 1238] (by decide +kernel) (by decide +kernel), ⟨by decide +kernel, ⟨by decide +kernel, by decide +kernel⟩, by decide +kernel, by decide +kernel⟩⟩
abbrev m_M_putsBack : MI := (⟨"NotWornModel", "putsBack", "()V"⟩, prog_12_method_49_code, 2, none)
theorem mi_M_putsBack : MV m_M_putsBack 0 := ⟨memTB _ [1245, 46, 67, 1246] (by decide +kernel) (by decide +kernel), ⟨by decide +kernel, ⟨by decide +kernel, by decide +kernel⟩, by decide +kernel, by decide +kernel⟩⟩
abbrev m_M_behind : MI := (⟨"NotWornModel", "behind", "(II)I"⟩, prog_12_method_50_code, 5, (some .int))
theorem mi_M_behind : MV m_M_behind 2 := ⟨memTB _ [1232, 1233, 67, 1234] (by decide +kernel) (by decide +kernel), ⟨by decide +kernel, ⟨by decide +kernel, by decide +kernel⟩, by decide +kernel, by decide +kernel⟩⟩
abbrev m_M_ends : MI := (⟨"NotWornModel", "ends", "()I"⟩, prog_12_method_51_code, 3, (some .int))
theorem mi_M_ends : MV m_M_ends 0 := ⟨memTB _ [1248, 1249, 67, 1250] (by decide +kernel) (by decide +kernel), ⟨by decide +kernel, ⟨by decide +kernel, by decide +kernel⟩, by decide +kernel, by decide +kernel⟩⟩
abbrev m_M_stays : MI := (⟨"NotWornModel", "stays", "(II)I"⟩, prog_12_method_52_code, 6, (some .int))
theorem mi_M_stays : MV m_M_stays 2 := ⟨memTB _ [1252, 1253, 67, 1254] (by decide +kernel) (by decide +kernel), ⟨by decide +kernel, ⟨by decide +kernel, by decide +kernel⟩, by decide +kernel, by decide +kernel⟩⟩
abbrev m_M_isNearEarlier : MI := (⟨"NotWornModel", "isNearEarlier", "(II)Z"⟩, prog_12_method_53_code, 6, (some .boolean))
theorem mi_M_isNearEarlier : MV m_M_isNearEarlier 2 := ⟨memTB _ [1265, 47, 67, 1266] (by decide +kernel) (by decide +kernel), ⟨by decide +kernel, ⟨by decide +kernel, by decide +kernel⟩, by decide +kernel, by decide +kernel⟩⟩
abbrev m_M_line : MI := (⟨"NotWornModel", "line", "(I)I"⟩, prog_12_method_54_code, 4, (some .int))
theorem mi_M_line : MV m_M_line 1 := ⟨memTB _ [1256, 1257, 67, 1258] (by decide +kernel) (by decide +kernel), ⟨by decide +kernel, ⟨by decide +kernel, by decide +kernel⟩, by decide +kernel, by decide +kernel⟩⟩
abbrev m_M_fine : MI := (⟨"NotWornModel", "fine", "()I"⟩, prog_12_method_55_code, 2, (some .int))
theorem mi_M_fine : MV m_M_fine 0 := ⟨memTB _ [1268, 1269, 67, 1270] (by decide +kernel) (by decide +kernel), ⟨by decide +kernel, ⟨by decide +kernel, by decide +kernel⟩, by decide +kernel, by decide +kernel⟩⟩
abbrev m_M_feed : MI := (⟨"NotWornModel", "feed", "(III)I"⟩, prog_12_method_56_code, 6, (some .int))
theorem mi_M_feed : MV m_M_feed 3 := ⟨memTB _ [1272, 1273, 67, 1274] (by decide +kernel) (by decide +kernel), ⟨by decide +kernel, ⟨by decide +kernel, by decide +kernel⟩, by decide +kernel, by decide +kernel⟩⟩
abbrev m_M_trim : MI := (⟨"NotWornModel", "trim", "(I)I"⟩, prog_12_method_57_code, 2, (some .int))
theorem mi_M_trim : MV m_M_trim 1 := ⟨memTB _ [1276, 1277, 67, 1278] (by decide +kernel) (by decide +kernel), ⟨by decide +kernel, ⟨by decide +kernel, by decide +kernel⟩, by decide +kernel, by decide +kernel⟩⟩
abbrev m_M_isLetter : MI := (⟨"NotWornModel", "isLetter", "(I)Z"⟩, prog_12_method_58_code, 2, (some .boolean))
theorem mi_M_isLetter : MV m_M_isLetter 1 := ⟨memTB _ [1289, 49, 67, 1290] (by decide +kernel) (by decide +kernel), ⟨by decide +kernel, ⟨by decide +kernel, by decide +kernel⟩, by decide +kernel, by decide +kernel⟩⟩
abbrev m_M_isFigure : MI := (⟨"NotWornModel", "isFigure", "(I)Z"⟩, prog_12_method_59_code, 2, (some .boolean))
theorem mi_M_isFigure : MV m_M_isFigure 1 := ⟨memTB _ [1293, 50, 67, 1294] (by decide +kernel) (by decide +kernel), ⟨by decide +kernel, ⟨by decide +kernel, by decide +kernel⟩, by decide +kernel, by decide +kernel⟩⟩
abbrev m_M_go : MI := (⟨"NotWornModel", "go", "()V"⟩, prog_12_method_60_code, 2, none)
theorem mi_M_go : MV m_M_go 0 := ⟨memTB _ [1285, 48, 67, 1286] (by decide +kernel) (by decide +kernel), ⟨by decide +kernel, ⟨by decide +kernel, by decide +kernel⟩, by decide +kernel, by decide +kernel⟩⟩
abbrev m_M_takesKey : MI := (⟨"NotWornModel", "takesKey", "()Z"⟩, prog_12_method_61_code, 5, (some .boolean))
theorem mi_M_takesKey : MV m_M_takesKey 0 := ⟨memTB _ [1297, 51, 67, 1298] (by decide +kernel) (by decide +kernel), ⟨by decide +kernel, ⟨by decide +kernel, by decide +kernel⟩, by decide +kernel, by decide +kernel⟩⟩
abbrev m_M_nameOf : MI := (⟨"NotWornModel", "nameOf", "(I)I"⟩, prog_12_method_62_code, 2, (some .int))
theorem mi_M_nameOf : MV m_M_nameOf 1 := ⟨memTB _ [1309, 54, 67, 1310] (by decide +kernel) (by decide +kernel), ⟨by decide +kernel, ⟨by decide +kernel, by decide +kernel⟩, by decide +kernel, by decide +kernel⟩⟩
abbrev m_M_rank : MI := (⟨"NotWornModel", "rank", "(I)I"⟩, prog_12_method_63_code, 1, (some .int))
theorem mi_M_rank : MS m_M_rank 1 := ⟨memTB _ [1316, 67, 1317] (by decide +kernel) (by decide +kernel), ⟨by decide +kernel, ⟨by decide +kernel, by decide +kernel⟩, by decide +kernel, by decide +kernel⟩⟩
abbrev m_M_settle : MI := (⟨"NotWornModel", "settle", "(I)V"⟩, prog_12_method_64_code, 2, none)
theorem mi_M_settle : MV m_M_settle 1 := ⟨memTB _ [1313, 55, 67, 1314] (by decide +kernel) (by decide +kernel), ⟨by decide +kernel, ⟨by decide +kernel, by decide +kernel⟩, by decide +kernel, by decide +kernel⟩⟩
abbrev m_M_signHere : MI := (⟨"NotWornModel", "signHere", "()I"⟩, prog_12_method_65_code, 1, (some .int))
theorem mi_M_signHere : MV m_M_signHere 0 := ⟨memTB _ [1324, 57, 67, 1325] (by decide +kernel) (by decide +kernel), ⟨by decide +kernel, ⟨by decide +kernel, by decide +kernel⟩, by decide +kernel, by decide +kernel⟩⟩
abbrev m_M_takesPart : MI := (⟨"NotWornModel", "takesPart", "()Z"⟩, prog_12_method_66_code, 2, (some .boolean))
theorem mi_M_takesPart : MV m_M_takesPart 0 := ⟨memTB _ [1305, 53, 67, 1306] (by decide +kernel) (by decide +kernel), ⟨by decide +kernel, ⟨by decide +kernel, by decide +kernel⟩, by decide +kernel, by decide +kernel⟩⟩
abbrev m_M_takesE : MI := (⟨"NotWornModel", "takesE", "()Z"⟩, prog_12_method_67_code, 5, (some .boolean))
theorem mi_M_takesE : MV m_M_takesE 0 := ⟨memTB _ [1301, 52, 67, 1302] (by decide +kernel) (by decide +kernel), ⟨by decide +kernel, ⟨by decide +kernel, by decide +kernel⟩, by decide +kernel, by decide +kernel⟩⟩
abbrev m_M_notsOpen : MI := (⟨"NotWornModel", "notsOpen", "()I"⟩, prog_12_method_68_code, 3, (some .int))
theorem mi_M_notsOpen : MV m_M_notsOpen 0 := ⟨memTB _ [1320, 56, 67, 1321] (by decide +kernel) (by decide +kernel), ⟨by decide +kernel, ⟨by decide +kernel, by decide +kernel⟩, by decide +kernel, by decide +kernel⟩⟩
abbrev m_M_text : MI := (⟨"NotWornModel", "text", "()I"⟩, prog_12_method_69_code, 4, (some .int))
theorem mi_M_text : MV m_M_text 0 := ⟨memTB _ [1280, 1281, 67, 1282] (by decide +kernel) (by decide +kernel), ⟨by decide +kernel, ⟨by decide +kernel, by decide +kernel⟩, by decide +kernel, by decide +kernel⟩⟩
abbrev m_M_textTold : MI := (⟨"NotWornModel", "textTold", "(II)I"⟩, prog_12_method_70_code, 3, (some .int))
theorem mi_M_textTold : MV m_M_textTold 2 := ⟨memTB _ [1327, 1328, 67, 1329] (by decide +kernel) (by decide +kernel), ⟨by decide +kernel, ⟨by decide +kernel, by decide +kernel⟩, by decide +kernel, by decide +kernel⟩⟩
abbrev m_M_counts : MI := (⟨"NotWornModel", "counts", "(I)I"⟩, prog_12_method_71_code, 3, (some .int))
theorem mi_M_counts : MV m_M_counts 1 := ⟨memTB _ [1130, 32, 67, 1131] (by decide +kernel) (by decide +kernel), ⟨by decide +kernel, ⟨by decide +kernel, by decide +kernel⟩, by decide +kernel, by decide +kernel⟩⟩
abbrev m_M_why : MI := (⟨"NotWornModel", "why", "(I)I"⟩, prog_12_method_72_code, 3, (some .int))
theorem mi_M_why : MV m_M_why 1 := ⟨memTB _ [1331, 1332, 67, 1333] (by decide +kernel) (by decide +kernel), ⟨by decide +kernel, ⟨by decide +kernel, by decide +kernel⟩, by decide +kernel, by decide +kernel⟩⟩
abbrev m_M_two : MI := (⟨"NotWornModel", "two", "(III)I"⟩, prog_12_method_73_code, 3, (some .int))
theorem mi_M_two : MS m_M_two 3 := ⟨memTB _ [1137, 67, 1138] (by decide +kernel) (by decide +kernel), ⟨by decide +kernel, ⟨by decide +kernel, by decide +kernel⟩, by decide +kernel, by decide +kernel⟩⟩
abbrev m_M_worksOut : MI := (⟨"NotWornModel", "worksOut", "(I)I"⟩, prog_12_method_74_code, 6, (some .int))
theorem mi_M_worksOut : MV m_M_worksOut 1 := ⟨memTB _ [1134, 33, 67, 1135] (by decide +kernel) (by decide +kernel), ⟨by decide +kernel, ⟨by decide +kernel, by decide +kernel⟩, by decide +kernel, by decide +kernel⟩⟩
abbrev m_M_isSheet : MI := (⟨"NotWornModel", "isSheet", "(I)Z"⟩, prog_12_method_75_code, 1, (some .boolean))
theorem mi_M_isSheet : MS m_M_isSheet 1 := ⟨memTB _ [1260, 67, 1261] (by decide +kernel) (by decide +kernel), ⟨by decide +kernel, ⟨by decide +kernel, by decide +kernel⟩, by decide +kernel, by decide +kernel⟩⟩
abbrev m_M_isSlot : MI := (⟨"NotWornModel", "isSlot", "(I)Z"⟩, prog_12_method_76_code, 1, (some .boolean))
theorem mi_M_isSlot : MS m_M_isSlot 1 := ⟨memTB _ [1362, 67, 1363] (by decide +kernel) (by decide +kernel), ⟨by decide +kernel, ⟨by decide +kernel, by decide +kernel⟩, by decide +kernel, by decide +kernel⟩⟩
abbrev m_M_sheet : MI := (⟨"NotWornModel", "sheet", "(III)I"⟩, prog_12_method_77_code, 5, (some .int))
theorem mi_M_sheet : MV m_M_sheet 3 := ⟨memTB _ [1335, 1336, 67, 1337] (by decide +kernel) (by decide +kernel), ⟨by decide +kernel, ⟨by decide +kernel, by decide +kernel⟩, by decide +kernel, by decide +kernel⟩⟩
abbrev m_M_mark : MI := (⟨"NotWornModel", "mark", "(III)I"⟩, prog_12_method_78_code, 4, (some .int))
theorem mi_M_mark : MV m_M_mark 3 := ⟨memTB _ [1340, 1341, 67, 1342] (by decide +kernel) (by decide +kernel), ⟨by decide +kernel, ⟨by decide +kernel, by decide +kernel⟩, by decide +kernel, by decide +kernel⟩⟩
abbrev m_M_pour : MI := (⟨"NotWornModel", "pour", "(I)I"⟩, prog_12_method_79_code, 6, (some .int))
theorem mi_M_pour : MV m_M_pour 1 := ⟨memTB _ [1346, 1347, 67, 1348] (by decide +kernel) (by decide +kernel), ⟨by decide +kernel, ⟨by decide +kernel, by decide +kernel⟩, by decide +kernel, by decide +kernel⟩⟩
abbrev m_M_reads : MI := (⟨"NotWornModel", "reads", "(I)I"⟩, prog_12_method_80_code, 4, (some .int))
theorem mi_M_reads : MV m_M_reads 1 := ⟨memTB _ [1350, 1351, 67, 1352] (by decide +kernel) (by decide +kernel), ⟨by decide +kernel, ⟨by decide +kernel, by decide +kernel⟩, by decide +kernel, by decide +kernel⟩⟩
abbrev m_M_copy : MI := (⟨"NotWornModel", "copy", "(IIIII)I"⟩, prog_12_method_81_code, 7, (some .int))
theorem mi_M_copy : MV m_M_copy 5 := ⟨memTB _ [1354, 1355, 67, 1356] (by decide +kernel) (by decide +kernel), ⟨by decide +kernel, ⟨by decide +kernel, by decide +kernel⟩, by decide +kernel, by decide +kernel⟩⟩
abbrev m_M_lay : MI := (⟨"NotWornModel", "lay", "(III)I"⟩, prog_12_method_82_code, 6, (some .int))
theorem mi_M_lay : MV m_M_lay 3 := ⟨memTB _ [1358, 1359, 67, 1360] (by decide +kernel) (by decide +kernel), ⟨by decide +kernel, ⟨by decide +kernel, by decide +kernel⟩, by decide +kernel, by decide +kernel⟩⟩
abbrev m_M_ask : MI := (⟨"NotWornModel", "ask", "(II)I"⟩, prog_12_method_83_code, 3, (some .int))
theorem mi_M_ask : MV m_M_ask 2 := ⟨memTB _ [1365, 1366, 67, 1367] (by decide +kernel) (by decide +kernel), ⟨by decide +kernel, ⟨by decide +kernel, by decide +kernel⟩, by decide +kernel, by decide +kernel⟩⟩
abbrev m_M_item : MI := (⟨"NotWornModel", "item", "(II)I"⟩, prog_12_method_84_code, 4, (some .int))
theorem mi_M_item : MV m_M_item 2 := ⟨memTB _ [1369, 1370, 67, 1371] (by decide +kernel) (by decide +kernel), ⟨by decide +kernel, ⟨by decide +kernel, by decide +kernel⟩, by decide +kernel, by decide +kernel⟩⟩
abbrev m_M_rest : MI := (⟨"NotWornModel", "rest", "(II)I"⟩, prog_12_method_85_code, 3, (some .int))
theorem mi_M_rest : MV m_M_rest 2 := ⟨memTB _ [1373, 1374, 67, 1375] (by decide +kernel) (by decide +kernel), ⟨by decide +kernel, ⟨by decide +kernel, by decide +kernel⟩, by decide +kernel, by decide +kernel⟩⟩
abbrev m_M_tell : MI := (⟨"NotWornModel", "tell", "(I)I"⟩, prog_12_method_86_code, 2, (some .int))
theorem mi_M_tell : MV m_M_tell 1 := ⟨memTB _ [1378, 1379, 67, 1380] (by decide +kernel) (by decide +kernel), ⟨by decide +kernel, ⟨by decide +kernel, by decide +kernel⟩, by decide +kernel, by decide +kernel⟩⟩
abbrev m_M_check : MI := (⟨"NotWornModel", "check", "(I)I"⟩, prog_12_method_87_code, 7, (some .int))
theorem mi_M_check : MV m_M_check 1 := ⟨memTB _ [1382, 1383, 67, 1384] (by decide +kernel) (by decide +kernel), ⟨by decide +kernel, ⟨by decide +kernel, by decide +kernel⟩, by decide +kernel, by decide +kernel⟩⟩
abbrev m_M_keep : MI := (⟨"NotWornModel", "keep", "()I"⟩, prog_12_method_88_code, 1, (some .int))
theorem mi_M_keep : MV m_M_keep 0 := ⟨memTB _ [1389, 1390, 67, 1391] (by decide +kernel) (by decide +kernel), ⟨by decide +kernel, ⟨by decide +kernel, by decide +kernel⟩, by decide +kernel, by decide +kernel⟩⟩
abbrev m_M_back : MI := (⟨"NotWornModel", "back", "()I"⟩, prog_12_method_89_code, 1, (some .int))
theorem mi_M_back : MV m_M_back 0 := ⟨memTB _ [1393, 1394, 67, 1395] (by decide +kernel) (by decide +kernel), ⟨by decide +kernel, ⟨by decide +kernel, by decide +kernel⟩, by decide +kernel, by decide +kernel⟩⟩
abbrev m_M_count : MI := (⟨"NotWornModel", "count", "(I)I"⟩, prog_12_method_90_code, 2, (some .int))
theorem mi_M_count : MV m_M_count 1 := ⟨memTB _ [1397, 1398, 67, 1399] (by decide +kernel) (by decide +kernel), ⟨by decide +kernel, ⟨by decide +kernel, by decide +kernel⟩, by decide +kernel, by decide +kernel⟩⟩
abbrev m_I_bitCount : MI := (⟨"java/lang/Integer", "bitCount", "(I)I"⟩, prog_14_method_49_code, 1, (some .int))
theorem mi_I_bitCount : MS m_I_bitCount 1 := ⟨memTB _ [436, 70, 437] (by decide +kernel) (by decide +kernel), ⟨by decide +kernel, ⟨by decide +kernel, by decide +kernel⟩, by decide +kernel, by decide +kernel⟩⟩
def LK (own : String) (idx : Nat) (y : MethodName) : Prop := Cond.methodLink own idx y ∈ TB
theorem lk_Law_9 : LK "NotWornLaw" 9 ⟨"NotWorn", "<init>", "()V"⟩ := memTB [.methodLink "NotWornLaw" 9 ⟨"NotWorn", "<init>", "()V"⟩] [80] rfl (by decide +kernel) _ (List.mem_singleton.mpr rfl)
theorem lk_W_1 : LK "NotWorn" 1 ⟨"java/lang/Object", "<init>", "()V"⟩ := memTB [.methodLink "NotWorn" 1 ⟨"java/lang/Object", "<init>", "()V"⟩] [83] rfl (by decide +kernel) _ (List.mem_singleton.mpr rfl)
theorem lk_W_9 : LK "NotWorn" 9 ⟨"NotWorn$Laws", "<init>", "()V"⟩ := memTB [.methodLink "NotWorn" 9 ⟨"NotWorn$Laws", "<init>", "()V"⟩] [88] rfl (by decide +kernel) _ (List.mem_singleton.mpr rfl)
theorem lk_L_3 : LK "NotWorn$Laws" 3 ⟨"java/lang/Object", "<init>", "()V"⟩ := memTB [.methodLink "NotWorn$Laws" 3 ⟨"java/lang/Object", "<init>", "()V"⟩] [91] rfl (by decide +kernel) _ (List.mem_singleton.mpr rfl)
theorem lk_X_3 : LK "NotWorn$Text" 3 ⟨"java/lang/Object", "<init>", "()V"⟩ := memTB [.methodLink "NotWorn$Text" 3 ⟨"java/lang/Object", "<init>", "()V"⟩] [98] rfl (by decide +kernel) _ (List.mem_singleton.mpr rfl)
theorem lk_V_3 : LK "NotWorn$Valley" 3 ⟨"java/lang/Object", "<init>", "()V"⟩ := memTB [.methodLink "NotWorn$Valley" 3 ⟨"java/lang/Object", "<init>", "()V"⟩] [131] rfl (by decide +kernel) _ (List.mem_singleton.mpr rfl)
theorem lk_D_3 : LK "NotWorn$Dealer" 3 ⟨"java/lang/Object", "<init>", "()V"⟩ := memTB [.methodLink "NotWorn$Dealer" 3 ⟨"java/lang/Object", "<init>", "()V"⟩] [202] rfl (by decide +kernel) _ (List.mem_singleton.mpr rfl)
theorem lk_P_3 : LK "NotWorn$Tape" 3 ⟨"java/lang/Object", "<init>", "()V"⟩ := memTB [.methodLink "NotWorn$Tape" 3 ⟨"java/lang/Object", "<init>", "()V"⟩] [231] rfl (by decide +kernel) _ (List.mem_singleton.mpr rfl)
theorem lk_R_3 : LK "NotWorn$Row" 3 ⟨"java/lang/Object", "<init>", "()V"⟩ := memTB [.methodLink "NotWorn$Row" 3 ⟨"java/lang/Object", "<init>", "()V"⟩] [264] rfl (by decide +kernel) _ (List.mem_singleton.mpr rfl)
theorem lk_S_3 : LK "NotWorn$Slot" 3 ⟨"java/lang/Object", "<init>", "()V"⟩ := memTB [.methodLink "NotWorn$Slot" 3 ⟨"java/lang/Object", "<init>", "()V"⟩] [282] rfl (by decide +kernel) _ (List.mem_singleton.mpr rfl)
theorem lk_Law_13 : LK "NotWornLaw" 13 ⟨"NotWorn", "person", "(III)I"⟩ := memTB [.methodLink "NotWornLaw" 13 ⟨"NotWorn", "person", "(III)I"⟩] [340] rfl (by decide +kernel) _ (List.mem_singleton.mpr rfl)
theorem lk_W_64 : LK "NotWorn" 64 ⟨"NotWorn$Kinds", "isKind", "(I)Z"⟩ := memTB [.methodLink "NotWorn" 64 ⟨"NotWorn$Kinds", "isKind", "(I)Z"⟩] [344] rfl (by decide +kernel) _ (List.mem_singleton.mpr rfl)
theorem lk_W_70 : LK "NotWorn" 70 ⟨"NotWorn", "isName", "(I)Z"⟩ := memTB [.methodLink "NotWorn" 70 ⟨"NotWorn", "isName", "(I)Z"⟩] [347] rfl (by decide +kernel) _ (List.mem_singleton.mpr rfl)
theorem lk_W_73 : LK "NotWorn" 73 ⟨"NotWorn", "isBirth", "(I)Z"⟩ := memTB [.methodLink "NotWorn" 73 ⟨"NotWorn", "isBirth", "(I)Z"⟩] [350] rfl (by decide +kernel) _ (List.mem_singleton.mpr rfl)
theorem lk_W_82 : LK "NotWorn" 82 ⟨"NotWorn$Valley", "enter", "(III)I"⟩ := memTB [.methodLink "NotWorn" 82 ⟨"NotWorn$Valley", "enter", "(III)I"⟩] [356] rfl (by decide +kernel) _ (List.mem_singleton.mpr rfl)
theorem lk_Law_18 : LK "NotWornLaw" 18 ⟨"NotWorn", "told", "(II)I"⟩ := memTB [.methodLink "NotWornLaw" 18 ⟨"NotWorn", "told", "(II)I"⟩] [360] rfl (by decide +kernel) _ (List.mem_singleton.mpr rfl)
theorem lk_W_86 : LK "NotWorn" 86 ⟨"NotWorn", "isPerson", "(I)Z"⟩ := memTB [.methodLink "NotWorn" 86 ⟨"NotWorn", "isPerson", "(I)Z"⟩] [364] rfl (by decide +kernel) _ (List.mem_singleton.mpr rfl)
theorem lk_W_104 : LK "NotWorn" 104 ⟨"NotWorn$Valley", "holdsIn", "(II)Z"⟩ := memTB [.methodLink "NotWorn" 104 ⟨"NotWorn$Valley", "holdsIn", "(II)Z"⟩] [368] rfl (by decide +kernel) _ (List.mem_singleton.mpr rfl)
theorem lk_V_82 : LK "NotWorn$Valley" 82 ⟨"NotWorn$Kinds", "holdsIn", "(IIIII)Z"⟩ := memTB [.methodLink "NotWorn$Valley" 82 ⟨"NotWorn$Kinds", "holdsIn", "(IIIII)Z"⟩] [372] rfl (by decide +kernel) _ (List.mem_singleton.mpr rfl)
theorem lk_W_108 : LK "NotWorn" 108 ⟨"NotWorn", "bit", "(Z)I"⟩ := memTB [.methodLink "NotWorn" 108 ⟨"NotWorn", "bit", "(Z)I"⟩] [376] rfl (by decide +kernel) _ (List.mem_singleton.mpr rfl)
theorem lk_W_112 : LK "NotWorn" 112 ⟨"NotWorn$Kinds", "worth", "(II)I"⟩ := memTB [.methodLink "NotWorn" 112 ⟨"NotWorn$Kinds", "worth", "(II)I"⟩] [379] rfl (by decide +kernel) _ (List.mem_singleton.mpr rfl)
theorem lk_Law_23 : LK "NotWornLaw" 23 ⟨"NotWorn", "as", "(II)I"⟩ := memTB [.methodLink "NotWornLaw" 23 ⟨"NotWorn", "as", "(II)I"⟩] [382] rfl (by decide +kernel) _ (List.mem_singleton.mpr rfl)
theorem lk_W_116 : LK "NotWorn" 116 ⟨"NotWorn$Kinds", "isOf", "(II)Z"⟩ := memTB [.methodLink "NotWorn" 116 ⟨"NotWorn$Kinds", "isOf", "(II)Z"⟩] [386] rfl (by decide +kernel) _ (List.mem_singleton.mpr rfl)
theorem lk_K_11 : LK "NotWorn$Kinds" 11 ⟨"NotWorn$Kinds", "isKind", "(I)Z"⟩ := memTB [.methodLink "NotWorn$Kinds" 11 ⟨"NotWorn$Kinds", "isKind", "(I)Z"⟩] [389] rfl (by decide +kernel) _ (List.mem_singleton.mpr rfl)
theorem lk_Law_27 : LK "NotWornLaw" 27 ⟨"NotWorn", "turns", "(II)I"⟩ := memTB [.methodLink "NotWornLaw" 27 ⟨"NotWorn", "turns", "(II)I"⟩] [393] rfl (by decide +kernel) _ (List.mem_singleton.mpr rfl)
theorem lk_Law_31 : LK "NotWornLaw" 31 ⟨"NotWorn", "set", "(III)I"⟩ := memTB [.methodLink "NotWornLaw" 31 ⟨"NotWorn", "set", "(III)I"⟩] [397] rfl (by decide +kernel) _ (List.mem_singleton.mpr rfl)
theorem lk_W_120 : LK "NotWorn" 120 ⟨"NotWorn", "replace", "([III)I"⟩ := memTB [.methodLink "NotWorn" 120 ⟨"NotWorn", "replace", "([III)I"⟩] [401] rfl (by decide +kernel) _ (List.mem_singleton.mpr rfl)
theorem lk_W_124 : LK "NotWorn" 124 ⟨"NotWorn", "canBeBorn", "(II)Z"⟩ := memTB [.methodLink "NotWorn" 124 ⟨"NotWorn", "canBeBorn", "(II)Z"⟩] [404] rfl (by decide +kernel) _ (List.mem_singleton.mpr rfl)
theorem lk_W_193 : LK "NotWorn" 193 ⟨"NotWorn$Valley", "isAlive", "(I)Z"⟩ := memTB [.methodLink "NotWorn" 193 ⟨"NotWorn$Valley", "isAlive", "(I)Z"⟩] [408] rfl (by decide +kernel) _ (List.mem_singleton.mpr rfl)
theorem lk_W_127 : LK "NotWorn" 127 ⟨"NotWorn", "canHaveDied", "(II)Z"⟩ := memTB [.methodLink "NotWorn" 127 ⟨"NotWorn", "canHaveDied", "(II)Z"⟩] [412] rfl (by decide +kernel) _ (List.mem_singleton.mpr rfl)
theorem lk_Law_35 : LK "NotWornLaw" 35 ⟨"NotWorn", "holds", "(II)I"⟩ := memTB [.methodLink "NotWornLaw" 35 ⟨"NotWorn", "holds", "(II)I"⟩] [417] rfl (by decide +kernel) _ (List.mem_singleton.mpr rfl)
theorem lk_W_130 : LK "NotWorn" 130 ⟨"NotWorn", "isAskedYear", "(I)Z"⟩ := memTB [.methodLink "NotWorn" 130 ⟨"NotWorn", "isAskedYear", "(I)Z"⟩] [421] rfl (by decide +kernel) _ (List.mem_singleton.mpr rfl)
theorem lk_Law_39 : LK "NotWornLaw" 39 ⟨"NotWorn", "apart", "(II)I"⟩ := memTB [.methodLink "NotWornLaw" 39 ⟨"NotWorn", "apart", "(II)I"⟩] [425] rfl (by decide +kernel) _ (List.mem_singleton.mpr rfl)
theorem lk_W_133 : LK "NotWorn" 133 ⟨"NotWorn$Letters", "alike", "(II)I"⟩ := memTB [.methodLink "NotWorn" 133 ⟨"NotWorn$Letters", "alike", "(II)I"⟩] [429] rfl (by decide +kernel) _ (List.mem_singleton.mpr rfl)
theorem lk_W_138 : LK "NotWorn" 138 ⟨"NotWorn$Letters", "unlike", "(I)I"⟩ := memTB [.methodLink "NotWorn" 138 ⟨"NotWorn$Letters", "unlike", "(I)I"⟩] [432] rfl (by decide +kernel) _ (List.mem_singleton.mpr rfl)
theorem lk_E_9 : LK "NotWorn$Letters" 9 ⟨"java/lang/Integer", "bitCount", "(I)I"⟩ := memTB [.methodLink "NotWorn$Letters" 9 ⟨"java/lang/Integer", "bitCount", "(I)I"⟩] [435] rfl (by decide +kernel) _ (List.mem_singleton.mpr rfl)
theorem lk_Law_43 : LK "NotWornLaw" 43 ⟨"NotWorn", "near", "(II)I"⟩ := memTB [.methodLink "NotWornLaw" 43 ⟨"NotWorn", "near", "(II)I"⟩] [441] rfl (by decide +kernel) _ (List.mem_singleton.mpr rfl)
theorem lk_W_142 : LK "NotWorn" 142 ⟨"NotWorn$Valley", "areNear", "(II)Z"⟩ := memTB [.methodLink "NotWorn" 142 ⟨"NotWorn$Valley", "areNear", "(II)Z"⟩] [445] rfl (by decide +kernel) _ (List.mem_singleton.mpr rfl)
theorem lk_V_86 : LK "NotWorn$Valley" 86 ⟨"NotWorn$Letters", "alike", "(II)I"⟩ := memTB [.methodLink "NotWorn$Valley" 86 ⟨"NotWorn$Letters", "alike", "(II)I"⟩] [449] rfl (by decide +kernel) _ (List.mem_singleton.mpr rfl)
theorem lk_Law_47 : LK "NotWornLaw" 47 ⟨"NotWorn", "lifetime", "(I)I"⟩ := memTB [.methodLink "NotWornLaw" 47 ⟨"NotWorn", "lifetime", "(I)I"⟩] [450] rfl (by decide +kernel) _ (List.mem_singleton.mpr rfl)
theorem lk_Law_52 : LK "NotWornLaw" 52 ⟨"NotWorn", "deal", "(I)I"⟩ := memTB [.methodLink "NotWornLaw" 52 ⟨"NotWorn", "deal", "(I)I"⟩] [454] rfl (by decide +kernel) _ (List.mem_singleton.mpr rfl)
theorem lk_W_148 : LK "NotWorn" 148 ⟨"java/lang/Math", "min", "(II)I"⟩ := memTB [.methodLink "NotWorn" 148 ⟨"java/lang/Math", "min", "(II)I"⟩] [458] rfl (by decide +kernel) _ (List.mem_singleton.mpr rfl)
theorem lk_W_153 : LK "NotWorn" 153 ⟨"NotWorn$Valley", "drawPerson", "()V"⟩ := memTB [.methodLink "NotWorn" 153 ⟨"NotWorn$Valley", "drawPerson", "()V"⟩] [461] rfl (by decide +kernel) _ (List.mem_singleton.mpr rfl)
theorem lk_V_68 : LK "NotWorn$Valley" 68 ⟨"NotWorn$Valley", "draw", "()I"⟩ := memTB [.methodLink "NotWorn$Valley" 68 ⟨"NotWorn$Valley", "draw", "()I"⟩] [465] rfl (by decide +kernel) _ (List.mem_singleton.mpr rfl)
theorem lk_V_74 : LK "NotWorn$Valley" 74 ⟨"NotWorn$Valley", "enter", "(III)I"⟩ := memTB [.methodLink "NotWorn$Valley" 74 ⟨"NotWorn$Valley", "enter", "(III)I"⟩] [470] rfl (by decide +kernel) _ (List.mem_singleton.mpr rfl)
theorem lk_Law_56 : LK "NotWornLaw" 56 ⟨"NotWorn", "seed", "(I)I"⟩ := memTB [.methodLink "NotWornLaw" 56 ⟨"NotWorn", "seed", "(I)I"⟩] [471] rfl (by decide +kernel) _ (List.mem_singleton.mpr rfl)
theorem lk_Law_60 : LK "NotWornLaw" 60 ⟨"NotWorn", "free", "(II)I"⟩ := memTB [.methodLink "NotWornLaw" 60 ⟨"NotWorn", "free", "(II)I"⟩] [475] rfl (by decide +kernel) _ (List.mem_singleton.mpr rfl)
theorem lk_W_159 : LK "NotWorn" 159 ⟨"NotWorn$Valley", "gatherHeld", "(I)V"⟩ := memTB [.methodLink "NotWorn" 159 ⟨"NotWorn$Valley", "gatherHeld", "(I)V"⟩] [479] rfl (by decide +kernel) _ (List.mem_singleton.mpr rfl)
theorem lk_V_93 : LK "NotWorn$Valley" 93 ⟨"NotWorn$Valley", "holdsIn", "(II)Z"⟩ := memTB [.methodLink "NotWorn$Valley" 93 ⟨"NotWorn$Valley", "holdsIn", "(II)Z"⟩] [483] rfl (by decide +kernel) _ (List.mem_singleton.mpr rfl)
theorem lk_W_163 : LK "NotWorn" 163 ⟨"NotWorn$Valley", "isClear", "(I)Z"⟩ := memTB [.methodLink "NotWorn" 163 ⟨"NotWorn$Valley", "isClear", "(I)Z"⟩] [484] rfl (by decide +kernel) _ (List.mem_singleton.mpr rfl)
theorem lk_V_96 : LK "NotWorn$Valley" 96 ⟨"NotWorn$Valley", "areNear", "(II)Z"⟩ := memTB [.methodLink "NotWorn$Valley" 96 ⟨"NotWorn$Valley", "areNear", "(II)Z"⟩] [488] rfl (by decide +kernel) _ (List.mem_singleton.mpr rfl)
theorem lk_Law_64 : LK "NotWornLaw" 64 ⟨"NotWorn", "frees", "(I)I"⟩ := memTB [.methodLink "NotWornLaw" 64 ⟨"NotWorn", "frees", "(I)I"⟩] [489] rfl (by decide +kernel) _ (List.mem_singleton.mpr rfl)
theorem lk_W_166 : LK "NotWorn" 166 ⟨"NotWorn$Valley", "countFree", "()I"⟩ := memTB [.methodLink "NotWorn" 166 ⟨"NotWorn$Valley", "countFree", "()I"⟩] [493] rfl (by decide +kernel) _ (List.mem_singleton.mpr rfl)
theorem lk_V_99 : LK "NotWorn$Valley" 99 ⟨"NotWorn$Valley", "gatherHeld", "(I)V"⟩ := memTB [.methodLink "NotWorn$Valley" 99 ⟨"NotWorn$Valley", "gatherHeld", "(I)V"⟩] [497] rfl (by decide +kernel) _ (List.mem_singleton.mpr rfl)
theorem lk_V_103 : LK "NotWorn$Valley" 103 ⟨"NotWorn$Valley", "isClear", "(I)Z"⟩ := memTB [.methodLink "NotWorn$Valley" 103 ⟨"NotWorn$Valley", "isClear", "(I)Z"⟩] [498] rfl (by decide +kernel) _ (List.mem_singleton.mpr rfl)
theorem lk_W_170 : LK "NotWorn" 170 ⟨"NotWorn$Valley", "leastFree", "()I"⟩ := memTB [.methodLink "NotWorn" 170 ⟨"NotWorn$Valley", "leastFree", "()I"⟩] [499] rfl (by decide +kernel) _ (List.mem_singleton.mpr rfl)
theorem lk_Law_68 : LK "NotWornLaw" 68 ⟨"NotWorn", "soonest", "(I)I"⟩ := memTB [.methodLink "NotWornLaw" 68 ⟨"NotWorn", "soonest", "(I)I"⟩] [503] rfl (by decide +kernel) _ (List.mem_singleton.mpr rfl)
theorem lk_Law_72 : LK "NotWornLaw" 72 ⟨"NotWorn", "child", "(II)I"⟩ := memTB [.methodLink "NotWornLaw" 72 ⟨"NotWorn", "child", "(II)I"⟩] [507] rfl (by decide +kernel) _ (List.mem_singleton.mpr rfl)
theorem lk_W_177 : LK "NotWorn" 177 ⟨"NotWorn$Valley", "wish", "(II)I"⟩ := memTB [.methodLink "NotWorn" 177 ⟨"NotWorn$Valley", "wish", "(II)I"⟩] [511] rfl (by decide +kernel) _ (List.mem_singleton.mpr rfl)
theorem lk_Law_76 : LK "NotWornLaw" 76 ⟨"NotWorn", "forget", "()I"⟩ := memTB [.methodLink "NotWornLaw" 76 ⟨"NotWorn", "forget", "()I"⟩] [515] rfl (by decide +kernel) _ (List.mem_singleton.mpr rfl)
theorem lk_Law_81 : LK "NotWornLaw" 81 ⟨"NotWorn", "dealing", "(I)I"⟩ := memTB [.methodLink "NotWornLaw" 81 ⟨"NotWorn", "dealing", "(I)I"⟩] [519] rfl (by decide +kernel) _ (List.mem_singleton.mpr rfl)
theorem lk_W_180 : LK "NotWorn" 180 ⟨"NotWorn$Dealer", "settle", "(LNotWorn$Valley;)V"⟩ := memTB [.methodLink "NotWorn" 180 ⟨"NotWorn$Dealer", "settle", "(LNotWorn$Valley;)V"⟩] [523] rfl (by decide +kernel) _ (List.mem_singleton.mpr rfl)
theorem lk_D_37 : LK "NotWorn$Dealer" 37 ⟨"NotWorn$Valley", "gatherHeld", "(I)V"⟩ := memTB [.methodLink "NotWorn$Dealer" 37 ⟨"NotWorn$Valley", "gatherHeld", "(I)V"⟩] [527] rfl (by decide +kernel) _ (List.mem_singleton.mpr rfl)
theorem lk_D_47 : LK "NotWorn$Dealer" 47 ⟨"NotWorn$Valley", "isClear", "(I)Z"⟩ := memTB [.methodLink "NotWorn$Dealer" 47 ⟨"NotWorn$Valley", "isClear", "(I)Z"⟩] [528] rfl (by decide +kernel) _ (List.mem_singleton.mpr rfl)
theorem lk_D_54 : LK "NotWorn$Dealer" 54 ⟨"NotWorn$Dealer", "tryFrom", "(LNotWorn$Valley;III)V"⟩ := memTB [.methodLink "NotWorn$Dealer" 54 ⟨"NotWorn$Dealer", "tryFrom", "(LNotWorn$Valley;III)V"⟩] [529] rfl (by decide +kernel) _ (List.mem_singleton.mpr rfl)
theorem lk_D_58 : LK "NotWorn$Dealer" 58 ⟨"NotWorn$Dealer", "remember", "(LNotWorn$Valley;II)V"⟩ := memTB [.methodLink "NotWorn$Dealer" 58 ⟨"NotWorn$Dealer", "remember", "(LNotWorn$Valley;II)V"⟩] [533] rfl (by decide +kernel) _ (List.mem_singleton.mpr rfl)
theorem lk_D_71 : LK "NotWorn$Dealer" 71 ⟨"java/lang/System", "arraycopy", "(Ljava/lang/Object;ILjava/lang/Object;II)V"⟩ := memTB [.methodLink "NotWorn$Dealer" 71 ⟨"java/lang/System", "arraycopy", "(Ljava/lang/Object;ILjava/lang/Object;II)V"⟩] [537] rfl (by decide +kernel) _ (List.mem_singleton.mpr rfl)
theorem lk_D_62 : LK "NotWorn$Dealer" 62 ⟨"NotWorn$Dealer", "fits", "(LNotWorn$Valley;II)Z"⟩ := memTB [.methodLink "NotWorn$Dealer" 62 ⟨"NotWorn$Dealer", "fits", "(LNotWorn$Valley;II)Z"⟩] [540] rfl (by decide +kernel) _ (List.mem_singleton.mpr rfl)
theorem lk_D_67 : LK "NotWorn$Dealer" 67 ⟨"NotWorn$Valley", "areNear", "(II)Z"⟩ := memTB [.methodLink "NotWorn$Dealer" 67 ⟨"NotWorn$Valley", "areNear", "(II)Z"⟩] [545] rfl (by decide +kernel) _ (List.mem_singleton.mpr rfl)
theorem lk_Law_85 : LK "NotWornLaw" 85 ⟨"NotWorn", "christen", "()I"⟩ := memTB [.methodLink "NotWornLaw" 85 ⟨"NotWorn", "christen", "()I"⟩] [546] rfl (by decide +kernel) _ (List.mem_singleton.mpr rfl)
theorem lk_Law_89 : LK "NotWornLaw" 89 ⟨"NotWorn", "yields", "(I)I"⟩ := memTB [.methodLink "NotWornLaw" 89 ⟨"NotWorn", "yields", "(I)I"⟩] [550] rfl (by decide +kernel) _ (List.mem_singleton.mpr rfl)
theorem lk_Law_93 : LK "NotWornLaw" 93 ⟨"NotWorn", "years", "(I)I"⟩ := memTB [.methodLink "NotWornLaw" 93 ⟨"NotWorn", "years", "(I)I"⟩] [554] rfl (by decide +kernel) _ (List.mem_singleton.mpr rfl)
theorem lk_W_196 : LK "NotWorn" 196 ⟨"NotWorn$Valley", "passYear", "(LNotWorn$Laws;)I"⟩ := memTB [.methodLink "NotWorn" 196 ⟨"NotWorn$Valley", "passYear", "(LNotWorn$Laws;)I"⟩] [558] rfl (by decide +kernel) _ (List.mem_singleton.mpr rfl)
theorem lk_V_78 : LK "NotWorn$Valley" 78 ⟨"NotWorn$Valley", "isAlive", "(I)Z"⟩ := memTB [.methodLink "NotWorn$Valley" 78 ⟨"NotWorn$Valley", "isAlive", "(I)Z"⟩] [562] rfl (by decide +kernel) _ (List.mem_singleton.mpr rfl)
theorem lk_V_106 : LK "NotWorn$Valley" 106 ⟨"NotWorn$Valley", "chanceToDie", "(ILNotWorn$Laws;)I"⟩ := memTB [.methodLink "NotWorn$Valley" 106 ⟨"NotWorn$Valley", "chanceToDie", "(ILNotWorn$Laws;)I"⟩] [563] rfl (by decide +kernel) _ (List.mem_singleton.mpr rfl)
theorem lk_V_110 : LK "NotWorn$Valley" 110 ⟨"NotWorn$Laws", "work", "(IIII)I"⟩ := memTB [.methodLink "NotWorn$Valley" 110 ⟨"NotWorn$Laws", "work", "(IIII)I"⟩] [567] rfl (by decide +kernel) _ (List.mem_singleton.mpr rfl)
theorem lk_L_29 : LK "NotWorn$Laws" 29 ⟨"NotWorn$Laws", "leaf", "(IIII)I"⟩ := memTB [.methodLink "NotWorn$Laws" 29 ⟨"NotWorn$Laws", "leaf", "(IIII)I"⟩] [571] rfl (by decide +kernel) _ (List.mem_singleton.mpr rfl)
theorem lk_L_37 : LK "NotWorn$Laws" 37 ⟨"NotWorn$Laws", "join", "(III)I"⟩ := memTB [.methodLink "NotWorn$Laws" 37 ⟨"NotWorn$Laws", "join", "(III)I"⟩] [575] rfl (by decide +kernel) _ (List.mem_singleton.mpr rfl)
theorem lk_V_116 : LK "NotWorn$Valley" 116 ⟨"java/lang/Math", "min", "(II)I"⟩ := memTB [.methodLink "NotWorn$Valley" 116 ⟨"java/lang/Math", "min", "(II)I"⟩] [578] rfl (by decide +kernel) _ (List.mem_singleton.mpr rfl)
theorem lk_V_121 : LK "NotWorn$Valley" 121 ⟨"java/lang/Math", "max", "(II)I"⟩ := memTB [.methodLink "NotWorn$Valley" 121 ⟨"java/lang/Math", "max", "(II)I"⟩] [579] rfl (by decide +kernel) _ (List.mem_singleton.mpr rfl)
theorem lk_Law_97 : LK "NotWornLaw" 97 ⟨"NotWorn", "behind", "(II)I"⟩ := memTB [.methodLink "NotWornLaw" 97 ⟨"NotWorn", "behind", "(II)I"⟩] [582] rfl (by decide +kernel) _ (List.mem_singleton.mpr rfl)
theorem lk_W_200 : LK "NotWorn" 200 ⟨"NotWorn$Valley", "become", "(LNotWorn$Valley;)V"⟩ := memTB [.methodLink "NotWorn" 200 ⟨"NotWorn$Valley", "become", "(LNotWorn$Valley;)V"⟩] [586] rfl (by decide +kernel) _ (List.mem_singleton.mpr rfl)
theorem lk_V_49 : LK "NotWorn$Valley" 49 ⟨"java/lang/System", "arraycopy", "(Ljava/lang/Object;ILjava/lang/Object;II)V"⟩ := memTB [.methodLink "NotWorn$Valley" 49 ⟨"java/lang/System", "arraycopy", "(Ljava/lang/Object;ILjava/lang/Object;II)V"⟩] [590] rfl (by decide +kernel) _ (List.mem_singleton.mpr rfl)
theorem lk_W_203 : LK "NotWorn" 203 ⟨"NotWorn$Valley", "countAlive", "()I"⟩ := memTB [.methodLink "NotWorn" 203 ⟨"NotWorn$Valley", "countAlive", "()I"⟩] [591] rfl (by decide +kernel) _ (List.mem_singleton.mpr rfl)
theorem lk_Law_101 : LK "NotWornLaw" 101 ⟨"NotWorn", "ends", "()I"⟩ := memTB [.methodLink "NotWornLaw" 101 ⟨"NotWorn", "ends", "()I"⟩] [595] rfl (by decide +kernel) _ (List.mem_singleton.mpr rfl)
theorem lk_Law_105 : LK "NotWornLaw" 105 ⟨"NotWorn", "stays", "(II)I"⟩ := memTB [.methodLink "NotWornLaw" 105 ⟨"NotWorn", "stays", "(II)I"⟩] [599] rfl (by decide +kernel) _ (List.mem_singleton.mpr rfl)
theorem lk_Law_109 : LK "NotWornLaw" 109 ⟨"NotWorn", "line", "(I)I"⟩ := memTB [.methodLink "NotWornLaw" 109 ⟨"NotWorn", "line", "(I)I"⟩] [603] rfl (by decide +kernel) _ (List.mem_singleton.mpr rfl)
theorem lk_W_206 : LK "NotWorn" 206 ⟨"NotWorn", "isSheet", "(I)Z"⟩ := memTB [.methodLink "NotWorn" 206 ⟨"NotWorn", "isSheet", "(I)Z"⟩] [607] rfl (by decide +kernel) _ (List.mem_singleton.mpr rfl)
theorem lk_W_219 : LK "NotWorn" 219 ⟨"NotWorn", "isNearGiven", "(II)Z"⟩ := memTB [.methodLink "NotWorn" 219 ⟨"NotWorn", "isNearGiven", "(II)Z"⟩] [611] rfl (by decide +kernel) _ (List.mem_singleton.mpr rfl)
theorem lk_Law_113 : LK "NotWornLaw" 113 ⟨"NotWorn", "fine", "()I"⟩ := memTB [.methodLink "NotWornLaw" 113 ⟨"NotWorn", "fine", "()I"⟩] [615] rfl (by decide +kernel) _ (List.mem_singleton.mpr rfl)
theorem lk_W_225 : LK "NotWorn" 225 ⟨"NotWorn$Laws", "work", "(IIII)I"⟩ := memTB [.methodLink "NotWorn" 225 ⟨"NotWorn$Laws", "work", "(IIII)I"⟩] [619] rfl (by decide +kernel) _ (List.mem_singleton.mpr rfl)
theorem lk_Law_117 : LK "NotWornLaw" 117 ⟨"NotWorn", "feed", "(III)I"⟩ := memTB [.methodLink "NotWornLaw" 117 ⟨"NotWorn", "feed", "(III)I"⟩] [620] rfl (by decide +kernel) _ (List.mem_singleton.mpr rfl)
theorem lk_W_232 : LK "NotWorn" 232 ⟨"NotWorn$Tape", "takeFour", "(I)V"⟩ := memTB [.methodLink "NotWorn" 232 ⟨"NotWorn$Tape", "takeFour", "(I)V"⟩] [624] rfl (by decide +kernel) _ (List.mem_singleton.mpr rfl)
theorem lk_Law_121 : LK "NotWornLaw" 121 ⟨"NotWorn", "trim", "(I)I"⟩ := memTB [.methodLink "NotWornLaw" 121 ⟨"NotWorn", "trim", "(I)I"⟩] [628] rfl (by decide +kernel) _ (List.mem_singleton.mpr rfl)
theorem lk_Law_125 : LK "NotWornLaw" 125 ⟨"NotWorn", "text", "()I"⟩ := memTB [.methodLink "NotWornLaw" 125 ⟨"NotWorn", "text", "()I"⟩] [632] rfl (by decide +kernel) _ (List.mem_singleton.mpr rfl)
theorem lk_W_235 : LK "NotWorn" 235 ⟨"NotWorn$Tape", "readText", "()Z"⟩ := memTB [.methodLink "NotWorn" 235 ⟨"NotWorn$Tape", "readText", "()Z"⟩] [636] rfl (by decide +kernel) _ (List.mem_singleton.mpr rfl)
theorem lk_P_32 : LK "NotWorn$Tape" 32 ⟨"NotWorn$Tape", "advance", "()V"⟩ := memTB [.methodLink "NotWorn$Tape" 32 ⟨"NotWorn$Tape", "advance", "()V"⟩] [640] rfl (by decide +kernel) _ (List.mem_singleton.mpr rfl)
theorem lk_P_50 : LK "NotWorn$Tape" 50 ⟨"NotWorn$Tape", "sortOf", "(I)I"⟩ := memTB [.methodLink "NotWorn$Tape" 50 ⟨"NotWorn$Tape", "sortOf", "(I)I"⟩] [644] rfl (by decide +kernel) _ (List.mem_singleton.mpr rfl)
theorem lk_P_35 : LK "NotWorn$Tape" 35 ⟨"NotWorn$Tape", "keyAtHand", "()I"⟩ := memTB [.methodLink "NotWorn$Tape" 35 ⟨"NotWorn$Tape", "keyAtHand", "()I"⟩] [647] rfl (by decide +kernel) _ (List.mem_singleton.mpr rfl)
theorem lk_P_54 : LK "NotWorn$Tape" 54 ⟨"NotWorn$Tape", "isKeyWord", "(I)Z"⟩ := memTB [.methodLink "NotWorn$Tape" 54 ⟨"NotWorn$Tape", "isKeyWord", "(I)Z"⟩] [651] rfl (by decide +kernel) _ (List.mem_singleton.mpr rfl)
theorem lk_P_60 : LK "NotWorn$Tape" 60 ⟨"java/lang/String", "charAt", "(I)C"⟩ := memTB [.methodLink "NotWorn$Tape" 60 ⟨"java/lang/String", "charAt", "(I)C"⟩] [656] rfl (by decide +kernel) _ (List.mem_singleton.mpr rfl)
theorem lk_P_39 : LK "NotWorn$Tape" 39 ⟨"NotWorn$Text", "begin", "(I)V"⟩ := memTB [.methodLink "NotWorn$Tape" 39 ⟨"NotWorn$Text", "begin", "(I)V"⟩] [696] rfl (by decide +kernel) _ (List.mem_singleton.mpr rfl)
theorem lk_P_43 : LK "NotWorn$Tape" 43 ⟨"NotWorn$Tape", "readLevel", "(III)Z"⟩ := memTB [.methodLink "NotWorn$Tape" 43 ⟨"NotWorn$Tape", "readLevel", "(III)Z"⟩] [700] rfl (by decide +kernel) _ (List.mem_singleton.mpr rfl)
theorem lk_P_66 : LK "NotWorn$Tape" 66 ⟨"NotWorn$Tape", "readPiece", "(II)Z"⟩ := memTB [.methodLink "NotWorn$Tape" 66 ⟨"NotWorn$Tape", "readPiece", "(II)Z"⟩] [704] rfl (by decide +kernel) _ (List.mem_singleton.mpr rfl)
theorem lk_P_80 : LK "NotWorn$Tape" 80 ⟨"NotWorn$Tape", "readLeaf", "()Z"⟩ := memTB [.methodLink "NotWorn$Tape" 80 ⟨"NotWorn$Tape", "readLeaf", "()Z"⟩] [708] rfl (by decide +kernel) _ (List.mem_singleton.mpr rfl)
theorem lk_P_84 : LK "NotWorn$Tape" 84 ⟨"NotWorn$Tape", "numberAtHand", "()I"⟩ := memTB [.methodLink "NotWorn$Tape" 84 ⟨"NotWorn$Tape", "numberAtHand", "()I"⟩] [712] rfl (by decide +kernel) _ (List.mem_singleton.mpr rfl)
theorem lk_P_87 : LK "NotWorn$Tape" 87 ⟨"NotWorn$Tape", "nameAtHand", "()I"⟩ := memTB [.methodLink "NotWorn$Tape" 87 ⟨"NotWorn$Tape", "nameAtHand", "()I"⟩] [716] rfl (by decide +kernel) _ (List.mem_singleton.mpr rfl)
theorem lk_P_96 : LK "NotWorn$Tape" 96 ⟨"NotWorn$Tape", "namesOf", "(I)Ljava/lang/String;"⟩ := memTB [.methodLink "NotWorn$Tape" 96 ⟨"NotWorn$Tape", "namesOf", "(I)Ljava/lang/String;"⟩] [720] rfl (by decide +kernel) _ (List.mem_singleton.mpr rfl)
theorem lk_P_100 : LK "NotWorn$Tape" 100 ⟨"java/lang/String", "indexOf", "(I)I"⟩ := memTB [.methodLink "NotWorn$Tape" 100 ⟨"java/lang/String", "indexOf", "(I)I"⟩] [726] rfl (by decide +kernel) _ (List.mem_singleton.mpr rfl)
theorem lk_P_90 : LK "NotWorn$Tape" 90 ⟨"NotWorn$Text", "addLeaf", "(I)V"⟩ := memTB [.methodLink "NotWorn$Tape" 90 ⟨"NotWorn$Text", "addLeaf", "(I)V"⟩] [788] rfl (by decide +kernel) _ (List.mem_singleton.mpr rfl)
theorem lk_X_31 : LK "NotWorn$Text" 31 ⟨"NotWorn$Text", "addStep", "(I)V"⟩ := memTB [.methodLink "NotWorn$Text" 31 ⟨"NotWorn$Text", "addStep", "(I)V"⟩] [792] rfl (by decide +kernel) _ (List.mem_singleton.mpr rfl)
theorem lk_P_76 : LK "NotWorn$Tape" 76 ⟨"NotWorn$Tape", "atHand", "(C)Z"⟩ := memTB [.methodLink "NotWorn$Tape" 76 ⟨"NotWorn$Tape", "atHand", "(C)Z"⟩] [796] rfl (by decide +kernel) _ (List.mem_singleton.mpr rfl)
theorem lk_P_73 : LK "NotWorn$Tape" 73 ⟨"NotWorn$Text", "addSign", "(I)V"⟩ := memTB [.methodLink "NotWorn$Tape" 73 ⟨"NotWorn$Text", "addSign", "(I)V"⟩] [800] rfl (by decide +kernel) _ (List.mem_singleton.mpr rfl)
theorem lk_P_70 : LK "NotWorn$Tape" 70 ⟨"NotWorn$Tape", "signOfLevel", "(I)Z"⟩ := memTB [.methodLink "NotWorn$Tape" 70 ⟨"NotWorn$Tape", "signOfLevel", "(I)Z"⟩] [804] rfl (by decide +kernel) _ (List.mem_singleton.mpr rfl)
theorem lk_W_252 : LK "NotWorn" 252 ⟨"NotWorn$Text", "become", "(LNotWorn$Text;)V"⟩ := memTB [.methodLink "NotWorn" 252 ⟨"NotWorn$Text", "become", "(LNotWorn$Text;)V"⟩] [808] rfl (by decide +kernel) _ (List.mem_singleton.mpr rfl)
theorem lk_X_25 : LK "NotWorn$Text" 25 ⟨"java/lang/System", "arraycopy", "(Ljava/lang/Object;ILjava/lang/Object;II)V"⟩ := memTB [.methodLink "NotWorn$Text" 25 ⟨"java/lang/System", "arraycopy", "(Ljava/lang/Object;ILjava/lang/Object;II)V"⟩] [812] rfl (by decide +kernel) _ (List.mem_singleton.mpr rfl)
theorem lk_W_260 : LK "NotWorn" 260 ⟨"NotWorn$Valley", "takeText", "(ILNotWorn$Laws;)I"⟩ := memTB [.methodLink "NotWorn" 260 ⟨"NotWorn$Valley", "takeText", "(ILNotWorn$Laws;)I"⟩] [813] rfl (by decide +kernel) _ (List.mem_singleton.mpr rfl)
theorem lk_V_124 : LK "NotWorn$Valley" 124 ⟨"NotWorn$Valley", "findNearWays", "(LNotWorn$Laws;)V"⟩ := memTB [.methodLink "NotWorn$Valley" 124 ⟨"NotWorn$Valley", "findNearWays", "(LNotWorn$Laws;)V"⟩] [817] rfl (by decide +kernel) _ (List.mem_singleton.mpr rfl)
theorem lk_V_132 : LK "NotWorn$Valley" 132 ⟨"NotWorn$Letters", "unlike", "(I)I"⟩ := memTB [.methodLink "NotWorn$Valley" 132 ⟨"NotWorn$Letters", "unlike", "(I)I"⟩] [822] rfl (by decide +kernel) _ (List.mem_singleton.mpr rfl)
theorem lk_Law_129 : LK "NotWornLaw" 129 ⟨"NotWorn", "textTold", "(II)I"⟩ := memTB [.methodLink "NotWornLaw" 129 ⟨"NotWorn", "textTold", "(II)I"⟩] [824] rfl (by decide +kernel) _ (List.mem_singleton.mpr rfl)
theorem lk_W_264 : LK "NotWorn" 264 ⟨"NotWorn", "isText", "(I)Z"⟩ := memTB [.methodLink "NotWorn" 264 ⟨"NotWorn", "isText", "(I)Z"⟩] [828] rfl (by decide +kernel) _ (List.mem_singleton.mpr rfl)
theorem lk_Law_133 : LK "NotWornLaw" 133 ⟨"NotWorn", "why", "(I)I"⟩ := memTB [.methodLink "NotWornLaw" 133 ⟨"NotWorn", "why", "(I)I"⟩] [832] rfl (by decide +kernel) _ (List.mem_singleton.mpr rfl)
theorem lk_Law_137 : LK "NotWornLaw" 137 ⟨"NotWorn", "sheet", "(III)I"⟩ := memTB [.methodLink "NotWornLaw" 137 ⟨"NotWorn", "sheet", "(III)I"⟩] [836] rfl (by decide +kernel) _ (List.mem_singleton.mpr rfl)
theorem lk_W_270 : LK "NotWorn" 270 ⟨"NotWorn$Row", "clear", "(II)V"⟩ := memTB [.methodLink "NotWorn" 270 ⟨"NotWorn$Row", "clear", "(II)V"⟩] [840] rfl (by decide +kernel) _ (List.mem_singleton.mpr rfl)
theorem lk_Law_141 : LK "NotWornLaw" 141 ⟨"NotWorn", "mark", "(III)I"⟩ := memTB [.methodLink "NotWornLaw" 141 ⟨"NotWorn", "mark", "(III)I"⟩] [845] rfl (by decide +kernel) _ (List.mem_singleton.mpr rfl)
theorem lk_W_275 : LK "NotWorn" 275 ⟨"NotWorn$Row", "hasPlace", "(I)Z"⟩ := memTB [.methodLink "NotWorn" 275 ⟨"NotWorn$Row", "hasPlace", "(I)Z"⟩] [849] rfl (by decide +kernel) _ (List.mem_singleton.mpr rfl)
theorem lk_Law_145 : LK "NotWornLaw" 145 ⟨"NotWorn", "pour", "(I)I"⟩ := memTB [.methodLink "NotWornLaw" 145 ⟨"NotWorn", "pour", "(I)I"⟩] [855] rfl (by decide +kernel) _ (List.mem_singleton.mpr rfl)
theorem lk_W_281 : LK "NotWorn" 281 ⟨"java/lang/Math", "max", "(II)I"⟩ := memTB [.methodLink "NotWorn" 281 ⟨"java/lang/Math", "max", "(II)I"⟩] [859] rfl (by decide +kernel) _ (List.mem_singleton.mpr rfl)
theorem lk_Law_149 : LK "NotWornLaw" 149 ⟨"NotWorn", "reads", "(I)I"⟩ := memTB [.methodLink "NotWornLaw" 149 ⟨"NotWorn", "reads", "(I)I"⟩] [860] rfl (by decide +kernel) _ (List.mem_singleton.mpr rfl)
theorem lk_Law_153 : LK "NotWornLaw" 153 ⟨"NotWorn", "copy", "(IIIII)I"⟩ := memTB [.methodLink "NotWornLaw" 153 ⟨"NotWorn", "copy", "(IIIII)I"⟩] [864] rfl (by decide +kernel) _ (List.mem_singleton.mpr rfl)
theorem lk_W_284 : LK "NotWorn" 284 ⟨"NotWorn$Row", "hasPlaces", "(II)Z"⟩ := memTB [.methodLink "NotWorn" 284 ⟨"NotWorn$Row", "hasPlaces", "(II)Z"⟩] [868] rfl (by decide +kernel) _ (List.mem_singleton.mpr rfl)
theorem lk_W_287 : LK "NotWorn" 287 ⟨"java/lang/System", "arraycopy", "(Ljava/lang/Object;ILjava/lang/Object;II)V"⟩ := memTB [.methodLink "NotWorn" 287 ⟨"java/lang/System", "arraycopy", "(Ljava/lang/Object;ILjava/lang/Object;II)V"⟩] [872] rfl (by decide +kernel) _ (List.mem_singleton.mpr rfl)
theorem lk_Law_158 : LK "NotWornLaw" 158 ⟨"NotWorn", "lay", "(III)I"⟩ := memTB [.methodLink "NotWornLaw" 158 ⟨"NotWorn", "lay", "(III)I"⟩] [873] rfl (by decide +kernel) _ (List.mem_singleton.mpr rfl)
theorem lk_W_293 : LK "NotWorn" 293 ⟨"NotWorn", "isSlot", "(I)Z"⟩ := memTB [.methodLink "NotWorn" 293 ⟨"NotWorn", "isSlot", "(I)Z"⟩] [877] rfl (by decide +kernel) _ (List.mem_singleton.mpr rfl)
theorem lk_W_309 : LK "NotWorn" 309 ⟨"NotWorn$Row", "become", "(LNotWorn$Row;)V"⟩ := memTB [.methodLink "NotWorn" 309 ⟨"NotWorn$Row", "become", "(LNotWorn$Row;)V"⟩] [880] rfl (by decide +kernel) _ (List.mem_singleton.mpr rfl)
theorem lk_R_22 : LK "NotWorn$Row" 22 ⟨"java/lang/System", "arraycopy", "(Ljava/lang/Object;ILjava/lang/Object;II)V"⟩ := memTB [.methodLink "NotWorn$Row" 22 ⟨"java/lang/System", "arraycopy", "(Ljava/lang/Object;ILjava/lang/Object;II)V"⟩] [884] rfl (by decide +kernel) _ (List.mem_singleton.mpr rfl)
theorem lk_Law_162 : LK "NotWornLaw" 162 ⟨"NotWorn", "ask", "(II)I"⟩ := memTB [.methodLink "NotWornLaw" 162 ⟨"NotWorn", "ask", "(II)I"⟩] [885] rfl (by decide +kernel) _ (List.mem_singleton.mpr rfl)
theorem lk_Law_166 : LK "NotWornLaw" 166 ⟨"NotWorn", "item", "(II)I"⟩ := memTB [.methodLink "NotWornLaw" 166 ⟨"NotWorn", "item", "(II)I"⟩] [889] rfl (by decide +kernel) _ (List.mem_singleton.mpr rfl)
theorem lk_Law_170 : LK "NotWornLaw" 170 ⟨"NotWorn", "rest", "(II)I"⟩ := memTB [.methodLink "NotWornLaw" 170 ⟨"NotWorn", "rest", "(II)I"⟩] [893] rfl (by decide +kernel) _ (List.mem_singleton.mpr rfl)
theorem lk_Law_174 : LK "NotWornLaw" 174 ⟨"NotWorn", "tell", "(I)I"⟩ := memTB [.methodLink "NotWornLaw" 174 ⟨"NotWorn", "tell", "(I)I"⟩] [898] rfl (by decide +kernel) _ (List.mem_singleton.mpr rfl)
theorem lk_Law_178 : LK "NotWornLaw" 178 ⟨"NotWorn", "check", "(I)I"⟩ := memTB [.methodLink "NotWornLaw" 178 ⟨"NotWorn", "check", "(I)I"⟩] [902] rfl (by decide +kernel) _ (List.mem_singleton.mpr rfl)
theorem lk_W_323 : LK "NotWorn" 323 ⟨"NotWorn", "waitedAt", "(III)Z"⟩ := memTB [.methodLink "NotWorn" 323 ⟨"NotWorn", "waitedAt", "(III)Z"⟩] [906] rfl (by decide +kernel) _ (List.mem_singleton.mpr rfl)
theorem lk_Law_182 : LK "NotWornLaw" 182 ⟨"NotWorn", "keep", "()I"⟩ := memTB [.methodLink "NotWornLaw" 182 ⟨"NotWorn", "keep", "()I"⟩] [910] rfl (by decide +kernel) _ (List.mem_singleton.mpr rfl)
theorem lk_Law_186 : LK "NotWornLaw" 186 ⟨"NotWorn", "back", "()I"⟩ := memTB [.methodLink "NotWornLaw" 186 ⟨"NotWorn", "back", "()I"⟩] [914] rfl (by decide +kernel) _ (List.mem_singleton.mpr rfl)
theorem lk_Law_190 : LK "NotWornLaw" 190 ⟨"NotWorn", "count", "(I)I"⟩ := memTB [.methodLink "NotWornLaw" 190 ⟨"NotWorn", "count", "(I)I"⟩] [918] rfl (by decide +kernel) _ (List.mem_singleton.mpr rfl)
theorem lk_Law_12 : LK "NotWornLaw" 12 ⟨"NotWornModel", "<init>", "()V"⟩ := memTB [.methodLink "NotWornLaw" 12 ⟨"NotWornModel", "<init>", "()V"⟩] [924] rfl (by decide +kernel) _ (List.mem_singleton.mpr rfl)
theorem lk_M_1 : LK "NotWornModel" 1 ⟨"java/lang/Object", "<init>", "()V"⟩ := memTB [.methodLink "NotWornModel" 1 ⟨"java/lang/Object", "<init>", "()V"⟩] [927] rfl (by decide +kernel) _ (List.mem_singleton.mpr rfl)
theorem lk_Law_17 : LK "NotWornLaw" 17 ⟨"NotWornModel", "person", "(III)I"⟩ := memTB [.methodLink "NotWornLaw" 17 ⟨"NotWornModel", "person", "(III)I"⟩] [1044] rfl (by decide +kernel) _ (List.mem_singleton.mpr rfl)
theorem lk_M_84 : LK "NotWornModel" 84 ⟨"NotWornModel", "in", "(III)Z"⟩ := memTB [.methodLink "NotWornModel" 84 ⟨"NotWornModel", "in", "(III)Z"⟩] [1048] rfl (by decide +kernel) _ (List.mem_singleton.mpr rfl)
theorem lk_M_93 : LK "NotWornModel" 93 ⟨"NotWornModel", "isCalled", "(I)Z"⟩ := memTB [.methodLink "NotWornModel" 93 ⟨"NotWornModel", "isCalled", "(I)Z"⟩] [1051] rfl (by decide +kernel) _ (List.mem_singleton.mpr rfl)
theorem lk_M_99 : LK "NotWornModel" 99 ⟨"NotWornModel", "comes", "(III)I"⟩ := memTB [.methodLink "NotWornModel" 99 ⟨"NotWornModel", "comes", "(III)I"⟩] [1056] rfl (by decide +kernel) _ (List.mem_singleton.mpr rfl)
theorem lk_Law_22 : LK "NotWornLaw" 22 ⟨"NotWornModel", "told", "(II)I"⟩ := memTB [.methodLink "NotWornLaw" 22 ⟨"NotWornModel", "told", "(II)I"⟩] [1061] rfl (by decide +kernel) _ (List.mem_singleton.mpr rfl)
theorem lk_M_106 : LK "NotWornModel" 106 ⟨"NotWornModel", "isOne", "(I)Z"⟩ := memTB [.methodLink "NotWornModel" 106 ⟨"NotWornModel", "isOne", "(I)Z"⟩] [1065] rfl (by decide +kernel) _ (List.mem_singleton.mpr rfl)
theorem lk_M_88 : LK "NotWornModel" 88 ⟨"NotWornModel", "of", "(II)I"⟩ := memTB [.methodLink "NotWornModel" 88 ⟨"NotWornModel", "of", "(II)I"⟩] [1069] rfl (by decide +kernel) _ (List.mem_singleton.mpr rfl)
theorem lk_M_109 : LK "NotWornModel" 109 ⟨"NotWornModel", "doesHold", "(II)Z"⟩ := memTB [.methodLink "NotWornModel" 109 ⟨"NotWornModel", "doesHold", "(II)Z"⟩] [1073] rfl (by decide +kernel) _ (List.mem_singleton.mpr rfl)
theorem lk_M_103 : LK "NotWornModel" 103 ⟨"NotWornModel", "isAlive", "(I)Z"⟩ := memTB [.methodLink "NotWornModel" 103 ⟨"NotWornModel", "isAlive", "(I)Z"⟩] [1077] rfl (by decide +kernel) _ (List.mem_singleton.mpr rfl)
theorem lk_M_113 : LK "NotWornModel" 113 ⟨"NotWornModel", "worthOf", "(I)I"⟩ := memTB [.methodLink "NotWornModel" 113 ⟨"NotWornModel", "worthOf", "(I)I"⟩] [1081] rfl (by decide +kernel) _ (List.mem_singleton.mpr rfl)
theorem lk_Law_26 : LK "NotWornLaw" 26 ⟨"NotWornModel", "as", "(II)I"⟩ := memTB [.methodLink "NotWornLaw" 26 ⟨"NotWornModel", "as", "(II)I"⟩] [1085] rfl (by decide +kernel) _ (List.mem_singleton.mpr rfl)
theorem lk_M_117 : LK "NotWornModel" 117 ⟨"NotWornModel", "isUnder", "(II)Z"⟩ := memTB [.methodLink "NotWornModel" 117 ⟨"NotWornModel", "isUnder", "(II)Z"⟩] [1089] rfl (by decide +kernel) _ (List.mem_singleton.mpr rfl)
theorem lk_Law_30 : LK "NotWornLaw" 30 ⟨"NotWornModel", "turns", "(II)I"⟩ := memTB [.methodLink "NotWornLaw" 30 ⟨"NotWornModel", "turns", "(II)I"⟩] [1093] rfl (by decide +kernel) _ (List.mem_singleton.mpr rfl)
theorem lk_M_121 : LK "NotWornModel" 121 ⟨"NotWornModel", "becomes", "(II)I"⟩ := memTB [.methodLink "NotWornModel" 121 ⟨"NotWornModel", "becomes", "(II)I"⟩] [1097] rfl (by decide +kernel) _ (List.mem_singleton.mpr rfl)
theorem lk_Law_34 : LK "NotWornLaw" 34 ⟨"NotWornModel", "set", "(III)I"⟩ := memTB [.methodLink "NotWornLaw" 34 ⟨"NotWornModel", "set", "(III)I"⟩] [1101] rfl (by decide +kernel) _ (List.mem_singleton.mpr rfl)
theorem lk_Law_38 : LK "NotWornLaw" 38 ⟨"NotWornModel", "holds", "(II)I"⟩ := memTB [.methodLink "NotWornLaw" 38 ⟨"NotWornModel", "holds", "(II)I"⟩] [1105] rfl (by decide +kernel) _ (List.mem_singleton.mpr rfl)
theorem lk_M_125 : LK "NotWornModel" 125 ⟨"NotWornModel", "isYear", "(I)Z"⟩ := memTB [.methodLink "NotWornModel" 125 ⟨"NotWornModel", "isYear", "(I)Z"⟩] [1109] rfl (by decide +kernel) _ (List.mem_singleton.mpr rfl)
theorem lk_Law_42 : LK "NotWornLaw" 42 ⟨"NotWornModel", "apart", "(II)I"⟩ := memTB [.methodLink "NotWornLaw" 42 ⟨"NotWornModel", "apart", "(II)I"⟩] [1113] rfl (by decide +kernel) _ (List.mem_singleton.mpr rfl)
theorem lk_M_128 : LK "NotWornModel" 128 ⟨"NotWornModel", "apartOf", "(II)I"⟩ := memTB [.methodLink "NotWornModel" 128 ⟨"NotWornModel", "apartOf", "(II)I"⟩] [1117] rfl (by decide +kernel) _ (List.mem_singleton.mpr rfl)
theorem lk_Law_46 : LK "NotWornLaw" 46 ⟨"NotWornModel", "near", "(II)I"⟩ := memTB [.methodLink "NotWornLaw" 46 ⟨"NotWornModel", "near", "(II)I"⟩] [1120] rfl (by decide +kernel) _ (List.mem_singleton.mpr rfl)
theorem lk_M_137 : LK "NotWornModel" 137 ⟨"NotWornModel", "findNears", "()V"⟩ := memTB [.methodLink "NotWornModel" 137 ⟨"NotWornModel", "findNears", "()V"⟩] [1124] rfl (by decide +kernel) _ (List.mem_singleton.mpr rfl)
theorem lk_M_131 : LK "NotWornModel" 131 ⟨"NotWornModel", "counts", "(I)I"⟩ := memTB [.methodLink "NotWornModel" 131 ⟨"NotWornModel", "counts", "(I)I"⟩] [1128] rfl (by decide +kernel) _ (List.mem_singleton.mpr rfl)
theorem lk_M_134 : LK "NotWornModel" 134 ⟨"NotWornModel", "worksOut", "(I)I"⟩ := memTB [.methodLink "NotWornModel" 134 ⟨"NotWornModel", "worksOut", "(I)I"⟩] [1132] rfl (by decide +kernel) _ (List.mem_singleton.mpr rfl)
theorem lk_M_264 : LK "NotWornModel" 264 ⟨"NotWornModel", "two", "(III)I"⟩ := memTB [.methodLink "NotWornModel" 264 ⟨"NotWornModel", "two", "(III)I"⟩] [1136] rfl (by decide +kernel) _ (List.mem_singleton.mpr rfl)
theorem lk_M_140 : LK "NotWornModel" 140 ⟨"NotWornModel", "areNear", "(II)Z"⟩ := memTB [.methodLink "NotWornModel" 140 ⟨"NotWornModel", "areNear", "(II)Z"⟩] [1139] rfl (by decide +kernel) _ (List.mem_singleton.mpr rfl)
theorem lk_Law_51 : LK "NotWornLaw" 51 ⟨"NotWornModel", "lifetime", "(I)I"⟩ := memTB [.methodLink "NotWornLaw" 51 ⟨"NotWornModel", "lifetime", "(I)I"⟩] [1143] rfl (by decide +kernel) _ (List.mem_singleton.mpr rfl)
theorem lk_Law_55 : LK "NotWornLaw" 55 ⟨"NotWornModel", "deal", "(I)I"⟩ := memTB [.methodLink "NotWornLaw" 55 ⟨"NotWornModel", "deal", "(I)I"⟩] [1147] rfl (by decide +kernel) _ (List.mem_singleton.mpr rfl)
theorem lk_M_144 : LK "NotWornModel" 144 ⟨"NotWornModel", "draw", "()I"⟩ := memTB [.methodLink "NotWornModel" 144 ⟨"NotWornModel", "draw", "()I"⟩] [1151] rfl (by decide +kernel) _ (List.mem_singleton.mpr rfl)
theorem lk_Law_59 : LK "NotWornLaw" 59 ⟨"NotWornModel", "seed", "(I)I"⟩ := memTB [.methodLink "NotWornLaw" 59 ⟨"NotWornModel", "seed", "(I)I"⟩] [1156] rfl (by decide +kernel) _ (List.mem_singleton.mpr rfl)
theorem lk_Law_63 : LK "NotWornLaw" 63 ⟨"NotWornModel", "free", "(II)I"⟩ := memTB [.methodLink "NotWornLaw" 63 ⟨"NotWornModel", "free", "(II)I"⟩] [1160] rfl (by decide +kernel) _ (List.mem_singleton.mpr rfl)
theorem lk_M_148 : LK "NotWornModel" 148 ⟨"NotWornModel", "isFree", "(II)Z"⟩ := memTB [.methodLink "NotWornModel" 148 ⟨"NotWornModel", "isFree", "(II)Z"⟩] [1164] rfl (by decide +kernel) _ (List.mem_singleton.mpr rfl)
theorem lk_Law_67 : LK "NotWornLaw" 67 ⟨"NotWornModel", "frees", "(I)I"⟩ := memTB [.methodLink "NotWornLaw" 67 ⟨"NotWornModel", "frees", "(I)I"⟩] [1168] rfl (by decide +kernel) _ (List.mem_singleton.mpr rfl)
theorem lk_M_151 : LK "NotWornModel" 151 ⟨"NotWornModel", "freeMany", "()I"⟩ := memTB [.methodLink "NotWornModel" 151 ⟨"NotWornModel", "freeMany", "()I"⟩] [1172] rfl (by decide +kernel) _ (List.mem_singleton.mpr rfl)
theorem lk_M_154 : LK "NotWornModel" 154 ⟨"NotWornModel", "leastFree", "()I"⟩ := memTB [.methodLink "NotWornModel" 154 ⟨"NotWornModel", "leastFree", "()I"⟩] [1176] rfl (by decide +kernel) _ (List.mem_singleton.mpr rfl)
theorem lk_Law_71 : LK "NotWornLaw" 71 ⟨"NotWornModel", "soonest", "(I)I"⟩ := memTB [.methodLink "NotWornLaw" 71 ⟨"NotWornModel", "soonest", "(I)I"⟩] [1180] rfl (by decide +kernel) _ (List.mem_singleton.mpr rfl)
theorem lk_Law_75 : LK "NotWornLaw" 75 ⟨"NotWornModel", "child", "(II)I"⟩ := memTB [.methodLink "NotWornLaw" 75 ⟨"NotWornModel", "child", "(II)I"⟩] [1184] rfl (by decide +kernel) _ (List.mem_singleton.mpr rfl)
theorem lk_Law_80 : LK "NotWornLaw" 80 ⟨"NotWornModel", "forget", "()I"⟩ := memTB [.methodLink "NotWornLaw" 80 ⟨"NotWornModel", "forget", "()I"⟩] [1188] rfl (by decide +kernel) _ (List.mem_singleton.mpr rfl)
theorem lk_Law_84 : LK "NotWornLaw" 84 ⟨"NotWornModel", "dealing", "(I)I"⟩ := memTB [.methodLink "NotWornLaw" 84 ⟨"NotWornModel", "dealing", "(I)I"⟩] [1192] rfl (by decide +kernel) _ (List.mem_singleton.mpr rfl)
theorem lk_M_171 : LK "NotWornModel" 171 ⟨"NotWornModel", "findDealing", "()V"⟩ := memTB [.methodLink "NotWornModel" 171 ⟨"NotWornModel", "findDealing", "()V"⟩] [1196] rfl (by decide +kernel) _ (List.mem_singleton.mpr rfl)
theorem lk_M_167 : LK "NotWornModel" 167 ⟨"NotWornModel", "deals", "(III)V"⟩ := memTB [.methodLink "NotWornModel" 167 ⟨"NotWornModel", "deals", "(III)V"⟩] [1200] rfl (by decide +kernel) _ (List.mem_singleton.mpr rfl)
theorem lk_M_164 : LK "NotWornModel" 164 ⟨"NotWornModel", "mayHave", "(II)Z"⟩ := memTB [.methodLink "NotWornModel" 164 ⟨"NotWornModel", "mayHave", "(II)Z"⟩] [1204] rfl (by decide +kernel) _ (List.mem_singleton.mpr rfl)
theorem lk_Law_88 : LK "NotWornLaw" 88 ⟨"NotWornModel", "christen", "()I"⟩ := memTB [.methodLink "NotWornLaw" 88 ⟨"NotWornModel", "christen", "()I"⟩] [1208] rfl (by decide +kernel) _ (List.mem_singleton.mpr rfl)
theorem lk_Law_92 : LK "NotWornLaw" 92 ⟨"NotWornModel", "yields", "(I)I"⟩ := memTB [.methodLink "NotWornLaw" 92 ⟨"NotWornModel", "yields", "(I)I"⟩] [1212] rfl (by decide +kernel) _ (List.mem_singleton.mpr rfl)
theorem lk_Law_96 : LK "NotWornLaw" 96 ⟨"NotWornModel", "years", "(I)I"⟩ := memTB [.methodLink "NotWornLaw" 96 ⟨"NotWornModel", "years", "(I)I"⟩] [1216] rfl (by decide +kernel) _ (List.mem_singleton.mpr rfl)
theorem lk_M_180 : LK "NotWornModel" 180 ⟨"NotWornModel", "year", "()I"⟩ := memTB [.methodLink "NotWornModel" 180 ⟨"NotWornModel", "year", "()I"⟩] [1220] rfl (by decide +kernel) _ (List.mem_singleton.mpr rfl)
theorem lk_M_177 : LK "NotWornModel" 177 ⟨"NotWornModel", "diesBy", "(I)I"⟩ := memTB [.methodLink "NotWornModel" 177 ⟨"NotWornModel", "diesBy", "(I)I"⟩] [1224] rfl (by decide +kernel) _ (List.mem_singleton.mpr rfl)
theorem lk_M_174 : LK "NotWornModel" 174 ⟨"NotWornModel", "within", "(III)I"⟩ := memTB [.methodLink "NotWornModel" 174 ⟨"NotWornModel", "within", "(III)I"⟩] [1228] rfl (by decide +kernel) _ (List.mem_singleton.mpr rfl)
theorem lk_Law_100 : LK "NotWornLaw" 100 ⟨"NotWornModel", "behind", "(II)I"⟩ := memTB [.methodLink "NotWornLaw" 100 ⟨"NotWornModel", "behind", "(II)I"⟩] [1231] rfl (by decide +kernel) _ (List.mem_singleton.mpr rfl)
theorem lk_M_183 : LK "NotWornModel" 183 ⟨"NotWornModel", "thinks", "()V"⟩ := memTB [.methodLink "NotWornModel" 183 ⟨"NotWornModel", "thinks", "()V"⟩] [1235] rfl (by decide +kernel) _ (List.mem_singleton.mpr rfl)
theorem lk_M_186 : LK "NotWornModel" 186 ⟨"NotWornModel", "aliveMany", "()I"⟩ := memTB [.methodLink "NotWornModel" 186 ⟨"NotWornModel", "aliveMany", "()I"⟩] [1239] rfl (by decide +kernel) _ (List.mem_singleton.mpr rfl)
theorem lk_M_189 : LK "NotWornModel" 189 ⟨"NotWornModel", "putsBack", "()V"⟩ := memTB [.methodLink "NotWornModel" 189 ⟨"NotWornModel", "putsBack", "()V"⟩] [1243] rfl (by decide +kernel) _ (List.mem_singleton.mpr rfl)
theorem lk_Law_104 : LK "NotWornLaw" 104 ⟨"NotWornModel", "ends", "()I"⟩ := memTB [.methodLink "NotWornLaw" 104 ⟨"NotWornModel", "ends", "()I"⟩] [1247] rfl (by decide +kernel) _ (List.mem_singleton.mpr rfl)
theorem lk_Law_108 : LK "NotWornLaw" 108 ⟨"NotWornModel", "stays", "(II)I"⟩ := memTB [.methodLink "NotWornLaw" 108 ⟨"NotWornModel", "stays", "(II)I"⟩] [1251] rfl (by decide +kernel) _ (List.mem_singleton.mpr rfl)
theorem lk_Law_112 : LK "NotWornLaw" 112 ⟨"NotWornModel", "line", "(I)I"⟩ := memTB [.methodLink "NotWornLaw" 112 ⟨"NotWornModel", "line", "(I)I"⟩] [1255] rfl (by decide +kernel) _ (List.mem_singleton.mpr rfl)
theorem lk_M_192 : LK "NotWornModel" 192 ⟨"NotWornModel", "isSheet", "(I)Z"⟩ := memTB [.methodLink "NotWornModel" 192 ⟨"NotWornModel", "isSheet", "(I)Z"⟩] [1259] rfl (by decide +kernel) _ (List.mem_singleton.mpr rfl)
theorem lk_M_196 : LK "NotWornModel" 196 ⟨"NotWornModel", "isNearEarlier", "(II)Z"⟩ := memTB [.methodLink "NotWornModel" 196 ⟨"NotWornModel", "isNearEarlier", "(II)Z"⟩] [1263] rfl (by decide +kernel) _ (List.mem_singleton.mpr rfl)
theorem lk_Law_116 : LK "NotWornLaw" 116 ⟨"NotWornModel", "fine", "()I"⟩ := memTB [.methodLink "NotWornLaw" 116 ⟨"NotWornModel", "fine", "()I"⟩] [1267] rfl (by decide +kernel) _ (List.mem_singleton.mpr rfl)
theorem lk_Law_120 : LK "NotWornLaw" 120 ⟨"NotWornModel", "feed", "(III)I"⟩ := memTB [.methodLink "NotWornLaw" 120 ⟨"NotWornModel", "feed", "(III)I"⟩] [1271] rfl (by decide +kernel) _ (List.mem_singleton.mpr rfl)
theorem lk_Law_124 : LK "NotWornLaw" 124 ⟨"NotWornModel", "trim", "(I)I"⟩ := memTB [.methodLink "NotWornLaw" 124 ⟨"NotWornModel", "trim", "(I)I"⟩] [1275] rfl (by decide +kernel) _ (List.mem_singleton.mpr rfl)
theorem lk_Law_128 : LK "NotWornLaw" 128 ⟨"NotWornModel", "text", "()I"⟩ := memTB [.methodLink "NotWornLaw" 128 ⟨"NotWornModel", "text", "()I"⟩] [1279] rfl (by decide +kernel) _ (List.mem_singleton.mpr rfl)
theorem lk_M_226 : LK "NotWornModel" 226 ⟨"NotWornModel", "go", "()V"⟩ := memTB [.methodLink "NotWornModel" 226 ⟨"NotWornModel", "go", "()V"⟩] [1283] rfl (by decide +kernel) _ (List.mem_singleton.mpr rfl)
theorem lk_M_214 : LK "NotWornModel" 214 ⟨"NotWornModel", "isLetter", "(I)Z"⟩ := memTB [.methodLink "NotWornModel" 214 ⟨"NotWornModel", "isLetter", "(I)Z"⟩] [1287] rfl (by decide +kernel) _ (List.mem_singleton.mpr rfl)
theorem lk_M_220 : LK "NotWornModel" 220 ⟨"NotWornModel", "isFigure", "(I)Z"⟩ := memTB [.methodLink "NotWornModel" 220 ⟨"NotWornModel", "isFigure", "(I)Z"⟩] [1291] rfl (by decide +kernel) _ (List.mem_singleton.mpr rfl)
theorem lk_M_258 : LK "NotWornModel" 258 ⟨"NotWornModel", "takesKey", "()Z"⟩ := memTB [.methodLink "NotWornModel" 258 ⟨"NotWornModel", "takesKey", "()Z"⟩] [1295] rfl (by decide +kernel) _ (List.mem_singleton.mpr rfl)
theorem lk_M_261 : LK "NotWornModel" 261 ⟨"NotWornModel", "takesE", "()Z"⟩ := memTB [.methodLink "NotWornModel" 261 ⟨"NotWornModel", "takesE", "()Z"⟩] [1299] rfl (by decide +kernel) _ (List.mem_singleton.mpr rfl)
theorem lk_M_248 : LK "NotWornModel" 248 ⟨"NotWornModel", "takesPart", "()Z"⟩ := memTB [.methodLink "NotWornModel" 248 ⟨"NotWornModel", "takesPart", "()Z"⟩] [1303] rfl (by decide +kernel) _ (List.mem_singleton.mpr rfl)
theorem lk_M_238 : LK "NotWornModel" 238 ⟨"NotWornModel", "nameOf", "(I)I"⟩ := memTB [.methodLink "NotWornModel" 238 ⟨"NotWornModel", "nameOf", "(I)I"⟩] [1307] rfl (by decide +kernel) _ (List.mem_singleton.mpr rfl)
theorem lk_M_244 : LK "NotWornModel" 244 ⟨"NotWornModel", "settle", "(I)V"⟩ := memTB [.methodLink "NotWornModel" 244 ⟨"NotWornModel", "settle", "(I)V"⟩] [1311] rfl (by decide +kernel) _ (List.mem_singleton.mpr rfl)
theorem lk_M_232 : LK "NotWornModel" 232 ⟨"NotWornModel", "rank", "(I)I"⟩ := memTB [.methodLink "NotWornModel" 232 ⟨"NotWornModel", "rank", "(I)I"⟩] [1315] rfl (by decide +kernel) _ (List.mem_singleton.mpr rfl)
theorem lk_M_252 : LK "NotWornModel" 252 ⟨"NotWornModel", "notsOpen", "()I"⟩ := memTB [.methodLink "NotWornModel" 252 ⟨"NotWornModel", "notsOpen", "()I"⟩] [1318] rfl (by decide +kernel) _ (List.mem_singleton.mpr rfl)
theorem lk_M_255 : LK "NotWornModel" 255 ⟨"NotWornModel", "signHere", "()I"⟩ := memTB [.methodLink "NotWornModel" 255 ⟨"NotWornModel", "signHere", "()I"⟩] [1322] rfl (by decide +kernel) _ (List.mem_singleton.mpr rfl)
theorem lk_Law_132 : LK "NotWornLaw" 132 ⟨"NotWornModel", "textTold", "(II)I"⟩ := memTB [.methodLink "NotWornLaw" 132 ⟨"NotWornModel", "textTold", "(II)I"⟩] [1326] rfl (by decide +kernel) _ (List.mem_singleton.mpr rfl)
theorem lk_Law_136 : LK "NotWornLaw" 136 ⟨"NotWornModel", "why", "(I)I"⟩ := memTB [.methodLink "NotWornLaw" 136 ⟨"NotWornModel", "why", "(I)I"⟩] [1330] rfl (by decide +kernel) _ (List.mem_singleton.mpr rfl)
theorem lk_Law_140 : LK "NotWornLaw" 140 ⟨"NotWornModel", "sheet", "(III)I"⟩ := memTB [.methodLink "NotWornLaw" 140 ⟨"NotWornModel", "sheet", "(III)I"⟩] [1334] rfl (by decide +kernel) _ (List.mem_singleton.mpr rfl)
theorem lk_Law_144 : LK "NotWornLaw" 144 ⟨"NotWornModel", "mark", "(III)I"⟩ := memTB [.methodLink "NotWornLaw" 144 ⟨"NotWornModel", "mark", "(III)I"⟩] [1339] rfl (by decide +kernel) _ (List.mem_singleton.mpr rfl)
theorem lk_Law_148 : LK "NotWornLaw" 148 ⟨"NotWornModel", "pour", "(I)I"⟩ := memTB [.methodLink "NotWornLaw" 148 ⟨"NotWornModel", "pour", "(I)I"⟩] [1345] rfl (by decide +kernel) _ (List.mem_singleton.mpr rfl)
theorem lk_Law_152 : LK "NotWornLaw" 152 ⟨"NotWornModel", "reads", "(I)I"⟩ := memTB [.methodLink "NotWornLaw" 152 ⟨"NotWornModel", "reads", "(I)I"⟩] [1349] rfl (by decide +kernel) _ (List.mem_singleton.mpr rfl)
theorem lk_Law_157 : LK "NotWornLaw" 157 ⟨"NotWornModel", "copy", "(IIIII)I"⟩ := memTB [.methodLink "NotWornLaw" 157 ⟨"NotWornModel", "copy", "(IIIII)I"⟩] [1353] rfl (by decide +kernel) _ (List.mem_singleton.mpr rfl)
theorem lk_Law_161 : LK "NotWornLaw" 161 ⟨"NotWornModel", "lay", "(III)I"⟩ := memTB [.methodLink "NotWornLaw" 161 ⟨"NotWornModel", "lay", "(III)I"⟩] [1357] rfl (by decide +kernel) _ (List.mem_singleton.mpr rfl)
theorem lk_M_270 : LK "NotWornModel" 270 ⟨"NotWornModel", "isSlot", "(I)Z"⟩ := memTB [.methodLink "NotWornModel" 270 ⟨"NotWornModel", "isSlot", "(I)Z"⟩] [1361] rfl (by decide +kernel) _ (List.mem_singleton.mpr rfl)
theorem lk_Law_165 : LK "NotWornLaw" 165 ⟨"NotWornModel", "ask", "(II)I"⟩ := memTB [.methodLink "NotWornLaw" 165 ⟨"NotWornModel", "ask", "(II)I"⟩] [1364] rfl (by decide +kernel) _ (List.mem_singleton.mpr rfl)
theorem lk_Law_169 : LK "NotWornLaw" 169 ⟨"NotWornModel", "item", "(II)I"⟩ := memTB [.methodLink "NotWornLaw" 169 ⟨"NotWornModel", "item", "(II)I"⟩] [1368] rfl (by decide +kernel) _ (List.mem_singleton.mpr rfl)
theorem lk_Law_173 : LK "NotWornLaw" 173 ⟨"NotWornModel", "rest", "(II)I"⟩ := memTB [.methodLink "NotWornLaw" 173 ⟨"NotWornModel", "rest", "(II)I"⟩] [1372] rfl (by decide +kernel) _ (List.mem_singleton.mpr rfl)
theorem lk_Law_177 : LK "NotWornLaw" 177 ⟨"NotWornModel", "tell", "(I)I"⟩ := memTB [.methodLink "NotWornLaw" 177 ⟨"NotWornModel", "tell", "(I)I"⟩] [1377] rfl (by decide +kernel) _ (List.mem_singleton.mpr rfl)
theorem lk_Law_181 : LK "NotWornLaw" 181 ⟨"NotWornModel", "check", "(I)I"⟩ := memTB [.methodLink "NotWornLaw" 181 ⟨"NotWornModel", "check", "(I)I"⟩] [1381] rfl (by decide +kernel) _ (List.mem_singleton.mpr rfl)
theorem lk_M_281 : LK "NotWornModel" 281 ⟨"NotWornModel", "copyAll", "([I[I)V"⟩ := memTB [.methodLink "NotWornModel" 281 ⟨"NotWornModel", "copyAll", "([I[I)V"⟩] [1385] rfl (by decide +kernel) _ (List.mem_singleton.mpr rfl)
theorem lk_Law_185 : LK "NotWornLaw" 185 ⟨"NotWornModel", "keep", "()I"⟩ := memTB [.methodLink "NotWornLaw" 185 ⟨"NotWornModel", "keep", "()I"⟩] [1388] rfl (by decide +kernel) _ (List.mem_singleton.mpr rfl)
theorem lk_Law_189 : LK "NotWornLaw" 189 ⟨"NotWornModel", "back", "()I"⟩ := memTB [.methodLink "NotWornLaw" 189 ⟨"NotWornModel", "back", "()I"⟩] [1392] rfl (by decide +kernel) _ (List.mem_singleton.mpr rfl)
theorem lk_Law_193 : LK "NotWornLaw" 193 ⟨"NotWornModel", "count", "(I)I"⟩ := memTB [.methodLink "NotWornLaw" 193 ⟨"NotWornModel", "count", "(I)I"⟩] [1396] rfl (by decide +kernel) _ (List.mem_singleton.mpr rfl)
end
section
/-! THE LAYER. The world is fixed after the two constructors: 'lay' tells the cells, their kinds, which cell a reference field or place holds; what changes is one table of ints, σ (cell, slot). An abstract machine runs over (pc, locals, stack, σ). -/
abbrev AV : Type := Int32 ⊕ Nat
abbrev Sg : Type := Nat → Nat → Int32
abbrev Sh : Type := (Nat × List (Option Nat)) ⊕ (Nat × Nat × List Nat)
abbrev Th : Type := (Nat → Nat) × va_G × (Nat → ClassId)
abbrev Lc : Type := List (Option AV)
def sh_text (s : Nat) : Sh := .inl (5, [none, none, none, some s])
def sh_row (s : Nat) : Sh := .inl (2, [none, none, some s])
def sh_ints (n : Nat) : Sh := .inr (0, n, [])
def sh_bits (n : Nat) : Sh := .inr (1, n, [])
def sh_val (b : Nat) : Sh := .inl (6, [some (b+1), some (b+2), some (b+3), some (b+4), none, some (b+5), some (b+6), none, none, none, none, none, some (b+7), none, some (b+8), none])
def lay : List Sh := [
  .inl (7, [some 1, some 32, some 41, some 50, none, some 59, some 64, some 68, some 69, some 93, none, some 94]),
  .inl (1, [some 2, some 3]),
  .inr (3, 14, [4, 6, 8, 10, 12, 14, 16, 18, 20, 22, 24, 26, 28, 30]),
  sh_ints 96,
  sh_text 5, sh_ints 96, sh_text 7, sh_ints 96, sh_text 9, sh_ints 96, sh_text 11, sh_ints 96, sh_text 13, sh_ints 96, sh_text 15, sh_ints 96, sh_text 17, sh_ints 96,
  sh_text 19, sh_ints 96, sh_text 21, sh_ints 96, sh_text 23, sh_ints 96, sh_text 25, sh_ints 96, sh_text 27, sh_ints 96, sh_text 29, sh_ints 96, sh_text 31, sh_ints 96,
  sh_val 32, sh_ints 10, sh_ints 10, sh_ints 10, sh_ints 10, sh_ints 6, sh_ints 6, sh_ints 3, sh_ints 10,
  sh_val 41, sh_ints 10, sh_ints 10, sh_ints 10, sh_ints 10, sh_ints 6, sh_ints 6, sh_ints 3, sh_ints 10,
  sh_val 50, sh_ints 10, sh_ints 10, sh_ints 10, sh_ints 10, sh_ints 6, sh_ints 6, sh_ints 3, sh_ints 10,
  .inl (0, [some 60, none, none, some 61, some 62, some 63]), sh_ints 6, sh_ints 6, sh_bits 6, sh_bits 6,
  .inl (4, [some 65, none, none, none, none, some 66]), sh_ints 96, sh_text 67, sh_ints 96,
  .inr (4, 4, [70, 72, 74, 76]), .inr (5, 5, [78, 81, 84, 87, 90]),
  sh_row 71, sh_ints 24, sh_row 73, sh_ints 24, sh_row 75, sh_ints 24, sh_row 77, sh_ints 24,
  .inl (3, [none, none, none, none, some 79]), sh_row 80, sh_ints 24,
  .inl (3, [none, none, none, none, some 82]), sh_row 83, sh_ints 24,
  .inl (3, [none, none, none, none, some 85]), sh_row 86, sh_ints 24,
  .inl (3, [none, none, none, none, some 88]), sh_row 89, sh_ints 24,
  .inl (3, [none, none, none, none, some 91]), sh_row 92, sh_ints 24,
  sh_ints 60, sh_ints 24,
  .inl (8, [some 96, some 97, some 98, none, some 99, some 100, some 101, none, none, some 102, some 103, none, none, none, none, none, none, none, some 104, some 105, some 106, none, none, some 107, none, some 108, some 109, some 110, some 111, some 112, some 113, some 114, some 115, some 116, some 117, some 118, some 119, none]),
  sh_ints 1430, sh_ints 1430, sh_ints 1430, sh_bits 16, sh_ints 6, sh_ints 6, sh_ints 58, sh_ints 96, .inr (2, 12, []), sh_ints 4, sh_ints 96, sh_ints 96, sh_bits 10,
  sh_ints 96, sh_ints 4, sh_ints 4, sh_ints 4, sh_ints 96, sh_ints 5, sh_ints 5, sh_ints 5, sh_ints 120, sh_ints 24, sh_ints 60]
theorem lay_length : lay.length = 120 := by decide +kernel
def conc (a : Nat → Nat) : AV → Value
  | .inl v => .int v
  | .inr k => .ref (a k)
theorem conc_cat (a : Nat → Nat) (v : AV) : (conc a v).category = 1 := by cases v <;> rfl
def conF (a : Nat → Nat) (f : Nat → Int32) : List (Option Nat) → Nat → List Value
  | [], _ => []
  | none :: r, j => .int (f j) :: conF a f r (j + 1)
  | some k :: r, j => .ref (a k) :: conF a f r (j + 1)
theorem conF_int {a : Nat → Nat} {f : Nat → Int32} : ∀ {l : List (Option Nat)} {j0 j : Nat}, l[j]? = some none → (conF a f l j0)[j]? = some (.int (f (j0 + j)))
  | [], _, _, h => by simp at h
  | none :: r, j0, 0, _ => by simp [conF]
  | some k :: r, j0, 0, h => by simp at h
  | none :: r, j0, j + 1, h => by
    have := conF_int (a := a) (f := f) (l := r) (j0 := j0 + 1) (j := j) (by simpa using h)
    rw [show j0 + (j + 1) = j0 + 1 + j by omega]; simpa [conF] using this
  | some k :: r, j0, j + 1, h => by
    have := conF_int (a := a) (f := f) (l := r) (j0 := j0 + 1) (j := j) (by simpa using h)
    rw [show j0 + (j + 1) = j0 + 1 + j by omega]; simpa [conF] using this
theorem conF_ref {a : Nat → Nat} {f : Nat → Int32} {q : Nat} : ∀ {l : List (Option Nat)} {j0 j : Nat}, l[j]? = some (some q) → (conF a f l j0)[j]? = some (.ref (a q))
  | [], _, _, h => by simp at h
  | none :: r, j0, 0, h => by simp at h
  | some k :: r, j0, 0, h => by simp at h; simp [conF, h]
  | none :: r, j0, j + 1, h => by
    have := conF_ref (a := a) (f := f) (l := r) (j0 := j0 + 1) (j := j) (by simpa using h)
    simpa [conF] using this
  | some k :: r, j0, j + 1, h => by
    have := conF_ref (a := a) (f := f) (l := r) (j0 := j0 + 1) (j := j) (by simpa using h)
    simpa [conF] using this
theorem conF_len (a : Nat → Nat) (f : Nat → Int32) : ∀ (l : List (Option Nat)) (j0 : Nat), (conF a f l j0).length = l.length
  | [], _ => rfl
  | none :: r, j0 => by simp [conF, conF_len a f r]
  | some k :: r, j0 => by simp [conF, conF_len a f r]
theorem conF_congr {a : Nat → Nat} {f g : Nat → Int32} : ∀ {l : List (Option Nat)} {j0 : Nat}, (∀ j, j0 ≤ j → f j = g j) → conF a f l j0 = conF a g l j0
  | [], _, _ => rfl
  | none :: r, j0, h => by
    simp only [conF, h j0 (Nat.le_refl _)]
    rw [conF_congr (l := r) (fun j hj => h j (by omega))]
  | some k :: r, j0, h => by
    simp only [conF]
    rw [conF_congr (l := r) (fun j hj => h j (by omega))]
theorem conF_set {a : Nat → Nat} {f : Nat → Int32} {v : Int32} : ∀ {l : List (Option Nat)} {j0 j : Nat}, l[j]? = some none → conF a (upd f (j0 + j) v) l j0 = (conF a f l j0).set j (.int v)
  | [], _, _, h => by simp at h
  | none :: r, j0, 0, _ => by
    simp only [conF, List.set_cons_zero]
    rw [conF_congr (l := r) (g := f) (fun j hj => by simp [upd]; omega)]
    simp [upd]
  | some k :: r, j0, 0, h => by simp at h
  | none :: r, j0, j + 1, h => by
    have := conF_set (a := a) (f := f) (v := v) (l := r) (j0 := j0 + 1) (j := j) (by simpa using h)
    rw [show j0 + (j + 1) = j0 + 1 + j by omega]
    simp only [conF, List.set_cons_succ, this]
    congr 2
    simp [upd]; omega
  | some k :: r, j0, j + 1, h => by
    have := conF_set (a := a) (f := f) (v := v) (l := r) (j0 := j0 + 1) (j := j) (by simpa using h)
    rw [show j0 + (j + 1) = j0 + 1 + j by omega]
    simp only [conF, List.set_cons_succ, this]
def conE (θ : Th) (f : Nat → Int32) : Sh → va_E
  | .inl (ci, fds) => .inr (ci, conF θ.1 f fds 0)
  | .inr (kd, n, rs) => .inl (θ.2.2 kd, n, if kd < 3 then .inl f else .inr (.inr (.inr (.inr (fun i => (rs[i]?).map θ.1)))))
def wsF (θ : Th) (σ : Sg) : List Sh → Nat → va_W
  | [], _ => []
  | s :: r, c => (θ.1 c, conE θ (σ c) s) :: wsF θ σ r (c + 1)
def wsOf (θ : Th) (σ : Sg) : va_W := wsF θ σ lay 0
theorem wsF_get (θ : Th) (σ : Sg) : ∀ (l : List Sh) (c k : Nat), (wsF θ σ l c)[k]? = (l[k]?).map (fun s => (θ.1 (c + k), conE θ (σ (c + k)) s))
  | [], c, k => by simp [wsF]
  | s :: r, c, 0 => by simp [wsF]
  | s :: r, c, k + 1 => by
    have := wsF_get θ σ r (c + 1) k
    rw [show c + (k + 1) = c + 1 + k by omega]
    simpa [wsF] using this
theorem wsOf_map (θ : Th) (σ : Sg) (k : Nat) : (wsOf θ σ)[k]? = (lay[k]?).map (fun s => (θ.1 k, conE θ (σ k) s)) := by
  have := wsF_get θ σ lay 0 k
  simpa [wsOf] using this
theorem wsOf_get {θ : Th} {σ : Sg} {k : Nat} {s : Sh} (h : lay[k]? = some s) : (wsOf θ σ)[k]? = some (θ.1 k, conE θ (σ k) s) := by rw [wsOf_map, h]; rfl
def upc (σ : Sg) (c : Nat) (f : Nat → Int32) : Sg := fun c' => if c' = c then f else σ c'
def up (σ : Sg) (c j : Nat) (v : Int32) : Sg := upc σ c (upd (σ c) j v)
theorem wsOf_upc {θ : Th} {σ : Sg} {c : Nat} {f : Nat → Int32} {s : Sh} (h : lay[c]? = some s) : (wsOf θ σ).set c (θ.1 c, conE θ f s) = wsOf θ (upc σ c f) := by
  apply List.ext_getElem?
  intro k
  rw [List.getElem?_set]
  have hlen : c < (wsOf θ σ).length := (List.getElem?_eq_some_iff.mp (wsOf_get (θ := θ) (σ := σ) h)).1
  by_cases hk : c = k
  · subst hk
    rw [if_pos rfl, if_pos hlen, wsOf_map, h]
    simp [upc]
  · rw [if_neg hk, wsOf_map, wsOf_map]
    have : upc σ c f k = σ k := by simp [upc]; intro q; exact absurd q.symm hk
    rw [this]
theorem up_self (σ : Sg) (c j : Nat) (v : Int32) : up σ c j v c j = v := by simp [up, upc, upd]
theorem up_c (σ : Sg) (c j : Nat) (v : Int32) {c' : Nat} (h : c' ≠ c) : up σ c j v c' = σ c' := by simp [up, upc, h]
theorem up_j (σ : Sg) (c j : Nat) (v : Int32) {j' : Nat} (h : j' ≠ j) : up σ c j v c j' = σ c j' := by simp [up, upc, upd, h]
theorem up_same (σ : Sg) (c j : Nat) (v : Int32) : up σ c j v c = upd (σ c) j v := by simp [up, upc]
theorem upc_same (σ : Sg) (c : Nat) (f : Nat → Int32) : upc σ c f c = f := by simp [upc]
theorem upc_c (σ : Sg) (c : Nat) (f : Nat → Int32) {c' : Nat} (h : c' ≠ c) : upc σ c f c' = σ c' := by simp [upc, h]
def Inj (θ : Th) : Prop := ∀ i j, i < 120 → j < 120 → θ.1 i = θ.1 j → i = j
def AA (θ : Th) (q : Nat) : Prop := ∃ c, c < 120 ∧ q = θ.1 c
theorem wsOf_D {θ : Th} (hI : Inj θ) {A : Nat → Prop} (hA : ∀ q, AA θ q → A q) (σ : Sg) : va_D A (wsOf θ σ) := by
  have at' : ∀ (k : Nat) (q : Nat × va_E), (wsOf θ σ)[k]? = some q → k < 120 ∧ q.1 = θ.1 k := by
    intro k q h
    rw [wsOf_map] at h
    cases hl : lay[k]? with
    | none => rw [hl] at h; cases h
    | some s =>
      rw [hl] at h
      have hk : k < lay.length := (List.getElem?_eq_some_iff.mp hl).1
      rw [lay_length] at hk
      cases h
      exact ⟨hk, rfl⟩
  refine ⟨fun i j p q hp hq he => ?_, fun k q hk => ?_⟩
  · obtain ⟨h1, h2⟩ := at' i p hp
    obtain ⟨h3, h4⟩ := at' j q hq
    exact hI i j h1 h3 (by rw [← h2, ← h4, he])
  · obtain ⟨h1, h2⟩ := at' k q hk
    exact hA _ ⟨k, h1, h2⟩
def tysOf (θ : Th) : List (ClassId × FieldType) := [(θ.2.2 0, .int), (θ.2.2 1, .boolean), (θ.2.2 2, .char), (θ.2.2 3, .object "NotWorn$Text"), (θ.2.2 4, .object "NotWorn$Row"), (θ.2.2 5, .object "NotWorn$Slot")]
-- what stands outside the world, and nobody changes
def abv (j : Nat) : Int32 := match j with
  | 0 => -1
  | 1 => 0
  | 2 => 0
  | 3 => 1
  | 4 => 2
  | _ => 0
def st_len : List Nat := [12, 3, 2, 2]
def st_byt : List (List Int32) := [[110, 101, 97, 114, 100, 105, 101, 115, 102, 105, 110, 101], [100, 102, 108], [97, 107], [121, 112]]
def st_idx : List Nat := [58, 103, 105, 107]
def st_txt : List String := ["neardiesfine", "dfl", "ak", "yp"]
def y_bit : MethodName := ⟨"NotWorn", "bit", "(Z)I"⟩
def Ev (θ : Th) (A : Nat → Prop) (U : State) (H : Heap) : Prop := va_K θ.2.1 classes (tysOf θ) U ∧ (va_Nw (.methodLinkNest "NotWorn$Laws" 33 y_bit "NotWorn") U ∧ va_Nw (.methodLinkNest "NotWorn$Valley" 128 y_bit "NotWorn") U) ∧ (va_Z "NotWorn$Kinds" "ABOVE" "[I" (.ref (θ.1 900)) A U H ∧ va_T .int (θ.1 900) 6 (fun j => .int (abv j)) A U H) ∧ (vk_S 4 st_len st_byt (fun i => θ.1 (901 + i)) (fun i => θ.1 (905 + i)) A U H ∧ ∀ i : Nat, i < 4 → vk_R "NotWorn$Tape" (st_idx.getD i 0) (st_txt.getD i "") (θ.1 (901 + i)) U) ∧ (va_Z "java/lang/String" "COMPACT_STRINGS" "Z" (.int 1) A U H ∧ va_Zq "jdk/internal/util/Preconditions" "SIOOBE_FORMATTER" "Ljava/util/function/BiFunction;" A U H)
theorem Ev.narrow {θ : Th} {A B : Nat → Prop} {U : State} {H : Heap} (h : Ev θ A U H) (hAB : ∀ q, B q → A q) : Ev θ B U H :=
  ⟨h.1, h.2.1, ⟨h.2.2.1.1.narrow hAB, h.2.2.1.2.narrow hAB⟩, ⟨h.2.2.2.1.1.narrow hAB, h.2.2.2.1.2⟩, ⟨h.2.2.2.2.1.narrow hAB, h.2.2.2.2.2.narrow hAB⟩⟩
theorem Ev.kept {θ : Th} {A : Nat → Prop} {U : State} {H H1 : Heap} (h : Ev θ A U H) (hq : ∀ a : Nat, a < H.size → ¬ A a → H1[a]? = H[a]?) : Ev θ A U H1 :=
  ⟨h.1, h.2.1, ⟨h.2.2.1.1.kept hq, h.2.2.1.2.kept hq⟩, ⟨h.2.2.2.1.1.kept hq, h.2.2.2.1.2⟩, ⟨h.2.2.2.2.1.kept hq, h.2.2.2.2.2.kept hq⟩⟩
theorem Ev.warm {θ : Th} {A : Nat → Prop} {s U : State} {H : Heap} (hW : s.WarmedH U.vm) (h : Ev θ A s H) : Ev θ A U H :=
  ⟨h.1.moved hW.alike, ⟨va_Nw.warmM hW h.2.1.1, va_Nw.warmM hW h.2.1.2⟩, ⟨h.2.2.1.1.moved hW.alike, h.2.2.1.2.moved hW.alike⟩, ⟨h.2.2.2.1.1.moved hW.alike, fun i hi => (h.2.2.2.1.2 i hi).warm hW⟩, ⟨h.2.2.2.2.1.moved hW.alike, h.2.2.2.2.2.moved hW.alike⟩⟩
theorem Ev.same {θ : Th} {A : Nat → Prop} {s U : State} {H : Heap} (hv : s.vm = U.vm) (h : Ev θ A s H) : Ev θ A U H :=
  have ha : s.vm.Alike U.vm := hv ▸ Vm.Alike.refl _
  ⟨h.1.moved ha, ⟨va_Nw.same rfl hv h.2.1.1, va_Nw.same rfl hv h.2.1.2⟩, ⟨h.2.2.1.1.moved ha, h.2.2.1.2.moved ha⟩, ⟨h.2.2.2.1.1.moved ha, fun i hi => (h.2.2.2.1.2 i hi).same hv.symm⟩, ⟨h.2.2.2.2.1.moved ha, h.2.2.2.2.2.moved ha⟩⟩
-- locals
def prsF (a : Nat → Nat) : Lc → Nat → List (Nat × Value)
  | [], _ => []
  | none :: r, j => prsF a r (j + 1)
  | some v :: r, j => (j, conc a v) :: prsF a r (j + 1)
theorem prsF_mem {a : Nat → Nat} {v : AV} : ∀ {L : Lc} {j0 k : Nat}, L[k]? = some (some v) → (j0 + k, conc a v) ∈ prsF a L j0
  | [], _, _, h => by simp at h
  | none :: r, j0, 0, h => by simp at h
  | some w :: r, j0, 0, h => by simp at h; simp [prsF, h]
  | none :: r, j0, k + 1, h => by
    have := prsF_mem (a := a) (v := v) (L := r) (j0 := j0 + 1) (k := k) (by simpa using h)
    rw [show j0 + (k + 1) = j0 + 1 + k by omega]; simpa [prsF] using this
  | some w :: r, j0, k + 1, h => by
    have := prsF_mem (a := a) (v := v) (L := r) (j0 := j0 + 1) (k := k) (by simpa using h)
    rw [show j0 + (k + 1) = j0 + 1 + k by omega]; simp only [prsF, List.mem_cons]; exact Or.inr this
theorem prsF_of {a : Nat → Nat} : ∀ {L : Lc} {j0 : Nat} {q : Nat × Value}, q ∈ prsF a L j0 → ∃ (k : Nat) (v : AV), q = (j0 + k, conc a v) ∧ L[k]? = some (some v)
  | [], _, _, h => by simp [prsF] at h
  | none :: r, j0, q, h => by
    obtain ⟨k, v, h1, h2⟩ := prsF_of (a := a) (L := r) (j0 := j0 + 1) (q := q) (by simpa [prsF] using h)
    exact ⟨k + 1, v, by rw [h1]; congr 1; omega, by simpa using h2⟩
  | some w :: r, j0, q, h => by
    simp only [prsF, List.mem_cons] at h
    rcases h with h | h
    · exact ⟨0, w, by simpa using h, by simp⟩
    · obtain ⟨k, v, h1, h2⟩ := prsF_of (a := a) (L := r) (j0 := j0 + 1) (q := q) h
      exact ⟨k + 1, v, by rw [h1]; congr 1; omega, by simpa using h2⟩
def prs (a : Nat → Nat) (L : Lc) : List (Nat × Value) := prsF a L 0
theorem prs_mem {a : Nat → Nat} {L : Lc} {k : Nat} {v : AV} (h : L[k]? = some (some v)) : (k, conc a v) ∈ prs a L := by
  have := prsF_mem (a := a) (j0 := 0) h
  simpa [prs] using this
theorem prs_of {a : Nat → Nat} {L : Lc} {q : Nat × Value} (h : q ∈ prs a L) : ∃ (k : Nat) (v : AV), q = (k, conc a v) ∧ L[k]? = some (some v) := by
  obtain ⟨k, v, h1, h2⟩ := prsF_of h
  exact ⟨k, v, by simpa using h1, h2⟩
theorem lvh_sub {ls : Array Slot} {n : Nat} {l l' : List (Nat × Value)} (h : lv_has ls n l) (hs : ∀ q ∈ l', q ∈ l) : lv_has ls n l' := ⟨h.1, h.2.1, fun q hq => h.2.2 q (hs q hq)⟩
theorem lvh_at {ls : Array Slot} {n : Nat} {a : Nat → Nat} {L : Lc} (h : lv_has ls n (prs a L)) {k : Nat} {v : AV} (hk : L[k]? = some (some v)) : ls[k]? = some (.val (conc a v)) := h.2.2 _ (prs_mem hk)
theorem lvh_set {ls : Array Slot} {n : Nat} {a : Nat → Nat} {L : Lc} {k : Nat} {v : AV} (hk : k < L.length) (h : lv_has ls n ((k, conc a v) :: (prs a L).filter (fun q => !(q.1 == k) && !(q.1 + 1 == k && q.2.category == 2)))) : lv_has ls n (prs a (L.set k (some v))) := by
  refine lvh_sub h fun q hq => ?_
  obtain ⟨j, w, h1, h2⟩ := prs_of hq
  rw [List.getElem?_set] at h2
  by_cases hj : k = j
  · subst hj
    rw [if_pos rfl, if_pos hk] at h2
    cases h2
    rw [h1]; exact List.mem_cons_self
  · rw [if_neg hj] at h2
    refine List.mem_cons_of_mem _ (List.mem_filter.mpr ⟨by rw [h1]; exact prs_mem h2, ?_⟩)
    rw [h1]
    simp [conc_cat, Ne.symm hj]
/-- less is known of the locals -/
theorem lvh_forget {ls : Array Slot} {n : Nat} {a : Nat → Nat} {L L' : Lc} (h : lv_has ls n (prs a L)) (hs : ∀ (k : Nat) (v : AV), L'[k]? = some (some v) → L[k]? = some (some v)) : lv_has ls n (prs a L') :=
  lvh_sub h fun q hq => by
    obtain ⟨k, v, h1, h2⟩ := prs_of hq
    rw [h1]; exact prs_mem (hs k v h2)
-- the frame in which a method runs
abbrev Fr : Type := Program × Launch × Env × Room × State × MethodId × Array Value × List Frame × Method × Code
abbrev Cx : Type := Th × Fr × (Nat → Prop) × (Nat × Nat) × (State → Prop)
def X (Γ : Cx) (pc : Nat) (L : Lc) (st : List AV) (σ : Sg) : Prop := match Γ with
  | (θ, (p, l, e, R, s, m, args, below, meth, c), A, (kc, ks), Q) => ∀ (H : Heap) (locs : List Loc) (ls : Array Slot), va_P θ.2.1 classes (wsOf θ σ) H → va_S A s.heap H locs → lv_has ls L.length (prs θ.1 L) → W p l e R s m args below meth c H locs kc ks Q (F0 m pc ls (st.map (conc θ.1)))
/-- what is known of the frame: code and tables -/
def Ok (Γ : Cx) (own : String) (b : ByteArray) (nL : Nat) : Prop := match Γ with
  | (θ, (p, _, _, _, s, m, args, _, _, c), A, _, _) => p.tables.exec = Jvm.exec ∧ c.code = b ∧ c.maxLocals = nL ∧ s.vm.findClass own = some m.cls ∧ (∀ w ∈ TB, w.before args s = true) ∧ Ev θ A s s.heap ∧ Inj θ ∧ ∀ q, AA θ q → A q
end
section
/-! straight runs, by computation -/
abbrev Rw : Type := Nat × Instr × Nat × Int32 × Nat × Nat
abbrev Rq : Type := Instr × Nat × Int32 × Nat × Nat
abbrev Mst : Type := Nat × Lc × List AV × Sg
def lkp (pc : Nat) : List Rw → Option Rq
  | [] => none
  | r :: rs => match Nat.beq r.1 pc with
    | true => some r.2
    | false => lkp pc rs
theorem lkp_mem {pc : Nat} {q : Rq} : ∀ {l : List Rw}, lkp pc l = some q → (pc, q) ∈ l
  | [], h => by simp [lkp] at h
  | r :: rs, h => by
    rw [lkp] at h
    cases hb : Nat.beq r.1 pc with
    | true =>
      rw [hb] at h
      have h1 : r.1 = pc := Nat.eq_of_beq_eq_true hb
      cases h
      rw [← h1]; exact List.mem_cons_self
    | false =>
      rw [hb] at h
      exact List.mem_cons_of_mem _ (lkp_mem h)
def lenI : Instr → Nat
  | .bipush _ => 2
  | .sipush _ => 3
  | .ldc _ => 2
  | .ldc_w _ => 3
  | .iload _ => 2
  | .aload _ => 2
  | .istore _ => 2
  | .astore _ => 2
  | .iinc _ _ => 3
  | .getfield _ => 3
  | .putfield _ => 3
  | .getstatic _ => 3
  | .goto _ => 3
  | .ifCond _ _ => 3
  | .if_icmp _ _ => 3
  | .invokevirtual _ => 3
  | .invokestatic _ => 3
  | .invokespecial _ => 3
  | .tableswitch _ _ _ _ => 0
  | .lookupswitch _ _ => 0
  | .newarray _ => 2
  | .anewarray _ => 3
  | .new _ => 3
  | _ => 1
def okAux (fl : List (Nat × Nat × Nat)) (ct : List (Nat × Int32)) (r : Rw) : Bool := match r.2.1 with
  | .iconst n => decide (Int32.ofInt n = r.2.2.2.1)
  | .bipush n => decide ((Int8.ofInt n).toInt32 = r.2.2.2.1)
  | .sipush n => decide ((Int16.ofInt n).toInt32 = r.2.2.2.1)
  | .ldc k => decide (r.2.2.2.2.1 = 1) || decide ((k, r.2.2.2.1) ∈ ct)
  | .ldc_w k => decide ((k, r.2.2.2.1) ∈ ct)
  | .iinc _ n => decide (Int32.ofInt n = r.2.2.2.1)
  | .getfield k => decide ((k, r.2.2.2.2.1, r.2.2.2.2.2) ∈ fl)
  | .putfield k => decide ((k, r.2.2.2.2.1, r.2.2.2.2.2) ∈ fl)
  | .goto o => decide ((r.1 : Int) + o = (r.2.2.2.2.1 : Int))
  | .ifCond _ o => decide ((r.1 : Int) + o = (r.2.2.2.2.1 : Int))
  | .if_icmp _ o => decide ((r.1 : Int) + o = (r.2.2.2.2.1 : Int))
  | _ => true
def okR (fl : List (Nat × Nat × Nat)) (ct : List (Nat × Int32)) (b : ByteArray) (r : Rw) : Bool :=
  decide (decode b r.1 = .ok (r.2.1, r.2.2.1 - r.1)) && decide (r.1 ≤ r.2.2.1) && (decide (lenI r.2.1 = 0) || decide (r.2.2.1 = r.1 + lenI r.2.1)) && okAux fl ct r
/-- a table of rows is as the bytes say, its entries as the class file's -/
def okP (own : String) (b : ByteArray) (pg : List Rw) : Prop := ∃ (fl : List (Nat × Nat × Nat)) (ct : List (Nat × Int32)), FLok own fl ∧ CTok own ct ∧ pg.all (okR fl ct b) = true
theorem okP_row {own : String} {b : ByteArray} {pg : List Rw} (hp : okP own b pg) {pc : Nat} {q : Rq} (h : lkp pc pg = some q) :
    ∃ (fl : List (Nat × Nat × Nat)) (ct : List (Nat × Int32)), FLok own fl ∧ CTok own ct ∧ decode b pc = .ok (q.1, q.2.1 - pc) ∧ pc ≤ q.2.1 ∧ (lenI q.1 = 0 ∨ q.2.1 = pc + lenI q.1) ∧ okAux fl ct (pc, q) = true := by
  obtain ⟨fl, ct, h1, h2, h3⟩ := hp
  have h4 := List.all_eq_true.mp h3 _ (lkp_mem h)
  simp only [okR, Bool.and_eq_true, Bool.or_eq_true, decide_eq_true_eq] at h4
  exact ⟨fl, ct, h1, h2, h4.1.1.1, h4.1.1.2, h4.1.2, h4.2⟩
theorem okP_dec {own : String} {b : ByteArray} {pg : List Rw} (hp : okP own b pg) {pc pc' : Nat} {i : Instr} {v : Int32} {a1 a2 : Nat} (h : lkp pc pg = some (i, pc', v, a1, a2)) (hl : lenI i ≠ 0) :
    decode b pc = .ok (i, lenI i) ∧ pc' = pc + lenI i := by
  obtain ⟨fl, ct, -, -, h3, -, h5, -⟩ := okP_row hp h
  rcases h5 with h5 | h5
  · exact absurd h5 hl
  · dsimp only at h3 h5
    refine ⟨?_, h5⟩
    rw [h3, h5, Nat.add_sub_cancel_left]
def setK {α : Type} : Lc → Nat → Option AV → α → (Lc → α) → α
  | [], _, _, d, _ => d
  | _ :: xs, 0, v, _, K => K (v :: xs)
  | x :: xs, k + 1, v, d, K => setK xs k v d (fun r => K (x :: r))
theorem setK_eq {α : Type} : ∀ (L : Lc) (k : Nat) (v : Option AV) (d : α) (K : Lc → α), k < L.length → setK L k v d K = K (L.set k v)
  | [], _, _, _, _, h => by simp at h
  | _ :: xs, 0, v, d, K, _ => rfl
  | x :: xs, k + 1, v, d, K, h => by
    rw [setK, setK_eq xs k v d _ (by simpa using h)]
    simp
theorem setK_ge {α : Type} : ∀ (L : Lc) (k : Nat) (v : Option AV) (d : α) (K : Lc → α), L.length ≤ k → setK L k v d K = d
  | [], _, _, _, _, _ => rfl
  | _ :: xs, 0, v, d, K, h => by simp at h
  | x :: xs, k + 1, v, d, K, h => by
    rw [setK, setK_ge xs k v d _ (by simpa using h)]
def finOk (ci k : Nat) : Bool := match classes[ci]? with
  | some q => !(q.2.1 k).2.2.2 && (q.2.1 k).2.2.1 == "I" && decide (k < q.2.2)
  | none => false
def finOkT : List (Nat × List Nat) := [(0, [1, 2]), (2, [0, 1]), (3, [0, 1, 2, 3]), (4, [1, 2, 3, 4]), (5, [0, 1, 2]), (6, [4, 7, 8, 9, 10, 11, 13, 15]), (7, [10]), (8, [7, 8, 11, 12, 13, 14, 15, 16, 17, 21, 22, 24, 37])]
theorem finOkT_ok : finOkT.all (fun q => q.2.all (finOk q.1)) = true := by decide +kernel
def memN (k : Nat) : List Nat → Bool
  | [] => false
  | x :: xs => match Nat.beq x k with
    | true => true
    | false => memN k xs
theorem memN_mem {k : Nat} : ∀ {l : List Nat}, memN k l = true → k ∈ l
  | [], h => by simp [memN] at h
  | x :: xs, h => by
    rw [memN] at h
    cases hb : Nat.beq x k with
    | true => rw [← Nat.eq_of_beq_eq_true hb]; exact List.mem_cons_self
    | false => rw [hb] at h; exact List.mem_cons_of_mem _ (memN_mem h)
def putOk (ci k : Nat) : List (Nat × List Nat) → Bool
  | [] => false
  | x :: xs => match Nat.beq x.1 ci with
    | true => memN k x.2
    | false => putOk ci k xs
theorem putOk_mem {ci k : Nat} : ∀ {l : List (Nat × List Nat)}, putOk ci k l = true → ∃ q ∈ l, q.1 = ci ∧ k ∈ q.2
  | [], h => by simp [putOk] at h
  | x :: xs, h => by
    rw [putOk] at h
    cases hb : Nat.beq x.1 ci with
    | true => rw [hb] at h; exact ⟨x, List.mem_cons_self, Nat.eq_of_beq_eq_true hb, memN_mem h⟩
    | false =>
      rw [hb] at h
      obtain ⟨q, h1, h2⟩ := putOk_mem h
      exact ⟨q, List.mem_cons_of_mem _ h1, h2⟩
theorem putOk_fin {ci k : Nat} (h : putOk ci k finOkT = true) : finOk ci k = true := by
  obtain ⟨q, h1, h2, h3⟩ := putOk_mem h
  rw [← h2]
  exact List.all_eq_true.mp (List.all_eq_true.mp finOkT_ok q h1) k h3
/-- one step, where an instruction is straight -/
def stp (q : Rq) (pc : Nat) (L : Lc) (st : List AV) (σ : Sg) (d : Mst) (K : Nat → Lc → List AV → Sg → Mst) : Mst := match q with
  | (i, pc', v, a1, a2) => match i with
    | .iconst _ => K pc' L (.inl v :: st) σ
    | .bipush _ => K pc' L (.inl v :: st) σ
    | .sipush _ => K pc' L (.inl v :: st) σ
    | .ldc _ => match Nat.beq a1 1 with
      | true => d
      | false => K pc' L (.inl v :: st) σ
    | .ldc_w _ => K pc' L (.inl v :: st) σ
    | .iload_n k => match L[k.val]? with
      | some (some (.inl x)) => K pc' L (.inl x :: st) σ
      | _ => d
    | .iload k => match L[k]? with
      | some (some (.inl x)) => K pc' L (.inl x :: st) σ
      | _ => d
    | .aload_n k => match L[k.val]? with
      | some (some (.inr x)) => K pc' L (.inr x :: st) σ
      | _ => d
    | .aload k => match L[k]? with
      | some (some (.inr x)) => K pc' L (.inr x :: st) σ
      | _ => d
    | .istore_n k => match st with
      | .inl x :: r => setK L k.val (some (.inl x)) d (fun L' => K pc' L' r σ)
      | _ => d
    | .istore k => match st with
      | .inl x :: r => setK L k (some (.inl x)) d (fun L' => K pc' L' r σ)
      | _ => d
    | .astore_n k => match st with
      | .inr x :: r => setK L k.val (some (.inr x)) d (fun L' => K pc' L' r σ)
      | _ => d
    | .astore k => match st with
      | .inr x :: r => setK L k (some (.inr x)) d (fun L' => K pc' L' r σ)
      | _ => d
    | .iinc k _ => match L[k]? with
      | some (some (.inl x)) => setK L k (some (.inl (x + v))) d (fun L' => K pc' L' st σ)
      | _ => d
    | .iadd => match st with
      | .inl y :: .inl x :: r => K pc' L (.inl (x + y) :: r) σ
      | _ => d
    | .isub => match st with
      | .inl y :: .inl x :: r => K pc' L (.inl (x - y) :: r) σ
      | _ => d
    | .imul => match st with
      | .inl y :: .inl x :: r => K pc' L (.inl (x * y) :: r) σ
      | _ => d
    | .iand => match st with
      | .inl y :: .inl x :: r => K pc' L (.inl (x &&& y) :: r) σ
      | _ => d
    | .ior => match st with
      | .inl y :: .inl x :: r => K pc' L (.inl (x ||| y) :: r) σ
      | _ => d
    | .ishl => match st with
      | .inl y :: .inl x :: r => K pc' L (.inl (x <<< (y &&& 31)) :: r) σ
      | _ => d
    | .ishr => match st with
      | .inl y :: .inl x :: r => K pc' L (.inl (x >>> (y &&& 31)) :: r) σ
      | _ => d
    | .iushr => match st with
      | .inl y :: .inl x :: r => K pc' L (.inl ((x.toUInt32 >>> (y.toUInt32 &&& Int32.toUInt32 31)).toInt32) :: r) σ
      | _ => d
    | .ineg => match st with
      | .inl x :: r => K pc' L (.inl (-x) :: r) σ
      | _ => d
    | .i2s => match st with
      | .inl x :: r => K pc' L (.inl x.toInt16.toInt32 :: r) σ
      | _ => d
    | .i2c => match st with
      | .inl x :: r => K pc' L (.inl (x.toUInt32 % 65536).toInt32 :: r) σ
      | _ => d
    | .dup => match st with
      | x :: r => K pc' L (x :: x :: r) σ
      | _ => d
    | .pop => match st with
      | _ :: r => K pc' L r σ
      | _ => d
    | .dup2 => match st with
      | y :: x :: r => K pc' L (y :: x :: y :: x :: r) σ
      | _ => d
    | .goto _ => match Nat.ble a1 pc with
      | true => d
      | false => K a1 L st σ
    | .getfield _ => match st with
      | .inr c :: r => match lay[c]? with
        | some (.inl (ci, fds)) => match Nat.beq ci a1 with
          | true => match fds[a2]? with
            | some none => K pc' L (.inl (σ c a2) :: r) σ
            | some (some k) => K pc' L (.inr k :: r) σ
            | none => d
          | false => d
        | _ => d
      | _ => d
    | .putfield _ => match st with
      | .inl x :: .inr c :: r => match lay[c]? with
        | some (.inl (ci, fds)) => match Nat.beq ci a1 with
          | true => match fds[a2]? with
            | some none => match putOk a1 a2 finOkT with
              | true => K pc' L r (up σ c a2 x)
              | false => d
            | _ => d
          | false => d
        | _ => d
      | _ => d
    | .arraylength => match st with
      | .inr c :: r => match lay[c]? with
        | some (.inr (kd, n, _)) => match Nat.ble kd 5 with
          | true => K pc' L (.inl (nI n) :: r) σ
          | false => d
        | _ => d
      | _ => d
    | _ => d
def run (pg : List Rw) : Nat → Nat → Lc → List AV → Sg → Mst
  | 0, pc, L, st, σ => (pc, L, st, σ)
  | n + 1, pc, L, st, σ => match lkp pc pg with
    | none => (pc, L, st, σ)
    | some q => stp q pc L st σ (pc, L, st, σ) (fun pc' L' st' σ' => run pg n pc' L' st' σ')
def XT (Γ : Cx) (q : Mst) : Prop := match q with
  | (pc, L, st, σ) => X Γ pc L st σ
end
section
theorem layOk_b : lay.all (fun s => match s with | .inl (ci, fds) => (match classes[ci]? with | some q => fds.length == q.2.2 | none => false) | .inr _ => true) = true := by decide +kernel
theorem layOk {c ci : Nat} {fds : List (Option Nat)} (h : lay[c]? = some (.inl (ci, fds))) : ∃ q, classes[ci]? = some q ∧ fds.length = q.2.2 := by
  have h1 := List.all_eq_true.mp layOk_b _ (List.mem_of_getElem? h)
  dsimp only at h1
  cases hq : classes[ci]? with
  | none => rw [hq] at h1; cases h1
  | some q => rw [hq] at h1; exact ⟨q, rfl, by simpa using h1⟩
theorem tys_at (θ : Th) {kd : Nat} (h : kd ≤ 5) : ∃ ty, (tysOf θ)[kd]? = some (θ.2.2 kd, ty) := by
  match kd, h with
  | 0, _ => exact ⟨_, rfl⟩
  | 1, _ => exact ⟨_, rfl⟩
  | 2, _ => exact ⟨_, rfl⟩
  | 3, _ => exact ⟨_, rfl⟩
  | 4, _ => exact ⟨_, rfl⟩
  | 5, _ => exact ⟨_, rfl⟩
  | k + 6, h => omega
theorem okAux_of {own : String} {b : ByteArray} {pg : List Rw} (hp : okP own b pg) {pc pc' : Nat} {i : Instr} {v : Int32} {a1 a2 : Nat} (h : lkp pc pg = some (i, pc', v, a1, a2)) : ∃ (fl : List (Nat × Nat × Nat)) (ct : List (Nat × Int32)), FLok own fl ∧ CTok own ct ∧ okAux fl ct (pc, i, pc', v, a1, a2) = true := by
  obtain ⟨fl, ct, h1, h2, -, -, -, h6⟩ := okP_row hp h
  exact ⟨fl, ct, h1, h2, h6⟩
section Sound
variable {Γ : Cx} {own : String} {b : ByteArray} {nL : Nat} {pg : List Rw} {pc pc' a1 a2 : Nat} {v : Int32} {L : Lc} {st r : List AV} {σ : Sg}
theorem X_goto (hG : Ok Γ own b nL) (hp : okP own b pg) {o : Int} (hq : lkp pc pg = some (.goto o, pc', v, a1, a2)) (k : X Γ a1 L st σ) : X Γ pc L st σ := by
  obtain ⟨θ, ⟨p, l, e, R, s, m, args, below, meth, c⟩, A, ⟨kc, ks⟩, Q⟩ := Γ
  obtain ⟨hx, hb, hml, hown, hts, hE, hI, hA⟩ := hG
  obtain ⟨hd, he⟩ := okP_dec hp hq (by simp [lenI])
  obtain ⟨fl, ct, -, -, h3⟩ := okAux_of hp hq
  simp only [okAux, decide_eq_true_eq] at h3
  intro H locs ls hP hS hl
  exact lv_goto hx hb hd h3 (k H locs ls hP hS hl)
theorem X_getfield (hG : Ok Γ own b nL) (hp : okP own b pg) {k c0 ci : Nat} {fds : List (Option Nat)} (hq : lkp pc pg = some (.getfield k, pc', v, a1, a2)) (hl0 : lay[c0]? = some (.inl (ci, fds))) (hci : ci = a1) {w : AV} (hw : fds[a2]? = some none ∧ w = .inl (σ c0 a2) ∨ ∃ z, fds[a2]? = some (some z) ∧ w = .inr z) (kk : X Γ pc' L (w :: r) σ) : X Γ pc L (.inr c0 :: r) σ := by
  obtain ⟨θ, ⟨p, l, e, R, s, m, args, below, meth, c⟩, A, ⟨kc, ks⟩, Q⟩ := Γ
  obtain ⟨hx, hb, hml, hown, hts, hE, hI, hA⟩ := hG
  obtain ⟨hd, he⟩ := okP_dec hp hq (by simp [lenI])
  obtain ⟨fl, ct, h1, -, h3⟩ := okAux_of hp hq
  simp only [okAux, decide_eq_true_eq] at h3
  subst hci
  obtain ⟨⟨C, T, N⟩, hcq, hlen⟩ := layOk hl0
  have hlink := h1 _ h3
  have hgd : classes.getD ci ("", FT0, 0) = (C, T, N) := by rw [List.getD_eq_getElem?_getD, hcq]; rfl
  simp only [FLc, hgd] at hlink
  obtain ⟨hw1, ⟨ty0, hty⟩, hnm, hcl⟩ := cl_ok _ (List.mem_of_getElem? hcq)
  dsimp only at hw1 hty hnm hcl hlen
  subst he
  intro H locs ls hP hS hl
  have hk : a2 < N := by
    rw [← hlen]
    rcases hw with ⟨h, -⟩ | ⟨z, h, -⟩ <;> exact (List.getElem?_eq_some_iff.mp h).1
  have hv : (conF θ.1 (σ c0) fds 0)[a2]? = some (conc θ.1 w) := by
    rcases hw with ⟨h, rfl⟩ | ⟨z, h, rfl⟩
    · rw [conF_int h, Nat.zero_add]; rfl
    · rw [conF_ref h]; rfl
  refine va_get (C := C) (T := T) (N := N) (ci := ci) (ref := (T a2).1) (index := k) (Ts := TB) hx hb hts hw1 hown hE.1 hP c0 (wsOf_get hl0) hcq a2 hk (hts _ hlink) (fun _ h => h) hv hd ?_
  exact kk H locs ls hP hS hl
theorem X_putfield (hG : Ok Γ own b nL) (hp : okP own b pg) {k c0 ci : Nat} {fds : List (Option Nat)} {x : Int32} (hq : lkp pc pg = some (.putfield k, pc', v, a1, a2)) (hl0 : lay[c0]? = some (.inl (ci, fds))) (hci : ci = a1) (hw : fds[a2]? = some none) (hf : putOk a1 a2 finOkT = true) (kk : X Γ pc' L r (up σ c0 a2 x)) : X Γ pc L (.inl x :: .inr c0 :: r) σ := by
  obtain ⟨θ, ⟨p, l, e, R, s, m, args, below, meth, c⟩, A, ⟨kc, ks⟩, Q⟩ := Γ
  obtain ⟨hx, hb, hml, hown, hts, hE, hI, hA⟩ := hG
  obtain ⟨hd, he⟩ := okP_dec hp hq (by simp [lenI])
  obtain ⟨fl, ct, h1, -, h3⟩ := okAux_of hp hq
  simp only [okAux, decide_eq_true_eq] at h3
  subst hci
  obtain ⟨⟨C, T, N⟩, hcq, hlen⟩ := layOk hl0
  have hlink := h1 _ h3
  have hgd : classes.getD ci ("", FT0, 0) = (C, T, N) := by rw [List.getD_eq_getElem?_getD, hcq]; rfl
  simp only [FLc, hgd] at hlink
  obtain ⟨hw1, ⟨ty0, hty⟩, hnm, hcl⟩ := cl_ok _ (List.mem_of_getElem? hcq)
  dsimp only at hw1 hty hnm hcl hlen
  have hfo := putOk_fin hf
  rw [finOk, hcq] at hfo
  simp only [Bool.and_eq_true, Bool.not_eq_true', beq_iff_eq, decide_eq_true_eq] at hfo
  obtain ⟨⟨hf1, hf2⟩, hk⟩ := hfo
  subst he
  intro H locs ls hP hS hl
  refine va_put (C := C) (T := T) (N := N) (ci := ci) (ref := (T a2).1) (index := k) (Ts := TB) (ty := .int) (v := .int x) hx hb hts hw1 ty0 hty hnm hown hE.1 hP (wsOf_D hI hA σ) hS c0 (wsOf_get hl0) hcq a2 hk (hts _ hlink) (fun _ h => h) hf1 (by rw [hf2]; decide +kernel) rfl rfl (by rw [conF_len]; exact (List.getElem?_eq_some_iff.mp hw).1) hd ?_
  intro H1 locs1 hP1 hD1 hS1
  refine kk H1 locs1 ls ?_ hS1 hl
  have e1 : (conF θ.1 (σ c0) fds 0).set a2 (.int x) = conF θ.1 (upd (σ c0) a2 x) fds 0 := by
    have := conF_set (a := θ.1) (f := σ c0) (v := x) (l := fds) (j0 := 0) (j := a2) hw
    rw [Nat.zero_add] at this
    exact this.symm
  rw [e1] at hP1
  rw [up, ← wsOf_upc hl0]
  exact hP1
theorem X_alen (hG : Ok Γ own b nL) (hp : okP own b pg) {c0 kd n : Nat} {rs : List Nat} (hq : lkp pc pg = some (.arraylength, pc', v, a1, a2)) (hl0 : lay[c0]? = some (.inr (kd, n, rs))) (hkd : kd ≤ 5) (kk : X Γ pc' L (.inl (nI n) :: r) σ) : X Γ pc L (.inr c0 :: r) σ := by
  obtain ⟨θ, ⟨p, l, e, R, s, m, args, below, meth, c⟩, A, ⟨kc, ks⟩, Q⟩ := Γ
  obtain ⟨hx, hb, hml, hown, hts, hE, hI, hA⟩ := hG
  obtain ⟨hd, he⟩ := okP_dec hp hq (by simp [lenI])
  obtain ⟨ty, hty⟩ := tys_at θ hkd
  subst he
  intro H locs ls hP hS hl
  exact va_alen (v := nI n) hx hb hE.1 hP c0 kd (wsOf_get hl0) hty rfl hd (kk H locs ls hP hS hl)
end Sound
set_option maxHeartbeats 4000000 in
theorem stp_sound {Γ : Cx} {own : String} {b : ByteArray} {nL : Nat} (hG : Ok Γ own b nL) {pg : List Rw} (hp : okP own b pg) {pc : Nat} {L : Lc} {st : List AV} {σ : Sg} {q : Rq} (hq : lkp pc pg = some q) (hL : L.length = nL) {K : Nat → Lc → List AV → Sg → Mst} (hK : ∀ pc' L' st' σ', L'.length = nL → XT Γ (K pc' L' st' σ') → X Γ pc' L' st' σ') (h : XT Γ (stp q pc L st σ (pc, L, st, σ) K)) : X Γ pc L st σ := by
  have hG0 := hG
  obtain ⟨θ, ⟨p, l, e, R, s, m, args, below, meth, c⟩, A, ⟨kc, ks⟩, Q⟩ := Γ
  obtain ⟨hx, hb, hml, hown, hts, hE, hI, hA⟩ := hG
  obtain ⟨i, pc', v, a1, a2⟩ := q
  have hcons : ∀ (j : Nat), ∀ (ins : Instr), i = ins → (decode b pc = .ok (ins, j) ∧ pc' = pc + j) → (∀ (H : Heap) (locs : List Loc) (ls : Array Slot), va_P θ.2.1 classes (wsOf θ σ) H → va_S A s.heap H locs → lv_has ls L.length (prs θ.1 L) → (W p l e R s m args below meth c H locs kc ks Q (F0 m (pc + j) ls (.int v :: st.map (conc θ.1)))) → W p l e R s m args below meth c H locs kc ks Q (F0 m pc ls (st.map (conc θ.1)))) → XT (θ, (p, l, e, R, s, m, args, below, meth, c), A, (kc, ks), Q) (K pc' L (.inl v :: st) σ) → X (θ, (p, l, e, R, s, m, args, below, meth, c), A, (kc, ks), Q) pc L st σ := by
    intro j ins _ ⟨_, he⟩ hrow hk
    have hX := hK _ _ _ _ hL hk
    subst he
    intro H locs ls hP hS hl
    exact hrow H locs ls hP hS hl (hX H locs ls hP hS hl)
  cases i <;> (try exact h)
  case iconst n =>
    have hd := okP_dec hp hq (by simp [lenI])
    obtain ⟨fl, ct, -, -, h3⟩ := okAux_of hp hq
    simp only [okAux, decide_eq_true_eq] at h3
    exact hcons 1 _ rfl hd (fun H locs ls hP hS hl k => lv_iconst hx hb hd.1 h3 k) h
  case bipush n =>
    have hd := okP_dec hp hq (by simp [lenI])
    obtain ⟨fl, ct, -, -, h3⟩ := okAux_of hp hq
    simp only [okAux, decide_eq_true_eq] at h3
    exact hcons 2 _ rfl hd (fun H locs ls hP hS hl k => lv_bipush hx hb hd.1 h3 k) h
  case sipush n =>
    have hd := okP_dec hp hq (by simp [lenI])
    obtain ⟨fl, ct, -, -, h3⟩ := okAux_of hp hq
    simp only [okAux, decide_eq_true_eq] at h3
    exact hcons 3 _ rfl hd (fun H locs ls hP hS hl k => lv_sipush hx hb hd.1 h3 k) h
  case ldc n =>
    dsimp only [stp] at h
    cases hb1 : Nat.beq a1 1 with
    | true => rw [hb1] at h; exact h
    | false =>
      rw [hb1] at h
      have hd := okP_dec hp hq (by simp [lenI])
      obtain ⟨fl, ct, -, h2, h3⟩ := okAux_of hp hq
      simp only [okAux, Bool.or_eq_true, decide_eq_true_eq] at h3
      rcases h3 with h3 | h3
      · rw [h3] at hb1; cases hb1
      · exact hcons 2 _ rfl hd (fun H locs ls hP hS hl k => lv_ldc hx hb hown (hts _ (h2 _ h3)) hd.1 k) h
  case ldc_w n =>
    have hd := okP_dec hp hq (by simp [lenI])
    obtain ⟨fl, ct, -, h2, h3⟩ := okAux_of hp hq
    simp only [okAux, decide_eq_true_eq] at h3
    exact hcons 3 _ rfl hd (fun H locs ls hP hS hl k => lv_ldcw hx hb hown (hts _ (h2 _ h3)) hd.1 k) h
  case iload_n k =>
    dsimp only [stp] at h
    split at h
    · rename_i x hk
      obtain ⟨hd, he⟩ := okP_dec hp hq (by simp [lenI])
      have hX := hK _ _ _ _ hL h
      subst he
      intro H locs ls hP hS hl
      exact lv_iload_n hx hb hd rfl (lvh_at hl hk) (hX H locs ls hP hS hl)
    · exact h
  case iload k =>
    dsimp only [stp] at h
    split at h
    · rename_i x hk
      obtain ⟨hd, he⟩ := okP_dec hp hq (by simp [lenI])
      have hX := hK _ _ _ _ hL h
      subst he
      intro H locs ls hP hS hl
      exact lv_iload hx hb hd (lvh_at hl hk) (hX H locs ls hP hS hl)
    · exact h
  case aload_n k =>
    dsimp only [stp] at h
    split at h
    · rename_i x hk
      obtain ⟨hd, he⟩ := okP_dec hp hq (by simp [lenI])
      have hX := hK _ _ _ _ hL h
      subst he
      intro H locs ls hP hS hl
      exact lv_aload_n hx hb hd rfl (lvh_at hl hk) (hX H locs ls hP hS hl)
    · exact h
  case aload k =>
    dsimp only [stp] at h
    split at h
    · rename_i x hk
      obtain ⟨hd, he⟩ := okP_dec hp hq (by simp [lenI])
      have hX := hK _ _ _ _ hL h
      subst he
      intro H locs ls hP hS hl
      exact lv_aload hx hb hd (lvh_at hl hk) (hX H locs ls hP hS hl)
    · exact h
  case istore_n k =>
    dsimp only [stp] at h
    split at h
    · rename_i x r
      by_cases hkl : k.val < L.length
      · rw [setK_eq _ _ _ _ _ hkl] at h
        obtain ⟨hd, he⟩ := okP_dec hp hq (by simp [lenI])
        have hX := hK _ _ _ _ (by simpa using hL) h
        subst he
        intro H locs ls hP hS hl
        exact lv_istore_n hx hb hd rfl hl hkl rfl (fun ls' hl' => hX H locs ls' hP hS (by rw [List.length_set]; exact lvh_set hkl hl'))
      · rw [setK_ge _ _ _ _ _ (by omega)] at h; exact h
    · exact h
  case istore k =>
    dsimp only [stp] at h
    split at h
    · rename_i x r
      by_cases hkl : k < L.length
      · rw [setK_eq _ _ _ _ _ hkl] at h
        obtain ⟨hd, he⟩ := okP_dec hp hq (by simp [lenI])
        have hX := hK _ _ _ _ (by simpa using hL) h
        subst he
        intro H locs ls hP hS hl
        exact lv_istore hx hb hd hl hkl rfl (fun ls' hl' => hX H locs ls' hP hS (by rw [List.length_set]; exact lvh_set hkl hl'))
      · rw [setK_ge _ _ _ _ _ (by omega)] at h; exact h
    · exact h
  case astore_n k =>
    dsimp only [stp] at h
    split at h
    · rename_i x r
      by_cases hkl : k.val < L.length
      · rw [setK_eq _ _ _ _ _ hkl] at h
        obtain ⟨hd, he⟩ := okP_dec hp hq (by simp [lenI])
        have hX := hK _ _ _ _ (by simpa using hL) h
        subst he
        intro H locs ls hP hS hl
        exact lv_astore_n hx hb hd rfl hl hkl rfl (fun ls' hl' => hX H locs ls' hP hS (by rw [List.length_set]; exact lvh_set hkl hl'))
      · rw [setK_ge _ _ _ _ _ (by omega)] at h; exact h
    · exact h
  case astore k =>
    dsimp only [stp] at h
    split at h
    · rename_i x r
      by_cases hkl : k < L.length
      · rw [setK_eq _ _ _ _ _ hkl] at h
        obtain ⟨hd, he⟩ := okP_dec hp hq (by simp [lenI])
        have hX := hK _ _ _ _ (by simpa using hL) h
        subst he
        intro H locs ls hP hS hl
        exact lv_astore hx hb hd hl hkl rfl (fun ls' hl' => hX H locs ls' hP hS (by rw [List.length_set]; exact lvh_set hkl hl'))
      · rw [setK_ge _ _ _ _ _ (by omega)] at h; exact h
    · exact h
  case iinc k n =>
    dsimp only [stp] at h
    split at h
    · rename_i x hk
      have hkl : k < L.length := (List.getElem?_eq_some_iff.mp hk).1
      rw [setK_eq _ _ _ _ _ hkl] at h
      obtain ⟨hd, he⟩ := okP_dec hp hq (by simp [lenI])
      obtain ⟨fl, ct, -, -, h3⟩ := okAux_of hp hq
      simp only [okAux, decide_eq_true_eq] at h3
      have hX := hK _ _ _ _ (by simpa using hL) h
      subst he
      intro H locs ls hP hS hl
      obtain ⟨j, hj⟩ := List.getElem?_of_mem (prs_mem (a := θ.1) hk)
      exact lv_iinc hx hb hd hl hj (v := x + v) (by rw [h3]) hkl rfl (fun ls' hl' => hX H locs ls' hP hS (by rw [List.length_set]; exact lvh_set (v := .inl (x + v)) hkl hl'))
    · exact h
  case iadd =>
    dsimp only [stp] at h
    split at h
    · obtain ⟨hd, he⟩ := okP_dec hp hq (by simp [lenI])
      have hX := hK _ _ _ _ hL h
      subst he
      intro H locs ls hP hS hl
      exact lv_iadd hx hb hd (hX H locs ls hP hS hl)
    · exact h
  case isub =>
    dsimp only [stp] at h
    split at h
    · obtain ⟨hd, he⟩ := okP_dec hp hq (by simp [lenI])
      have hX := hK _ _ _ _ hL h
      subst he
      intro H locs ls hP hS hl
      exact lv_isub hx hb hd (hX H locs ls hP hS hl)
    · exact h
  case imul =>
    dsimp only [stp] at h
    split at h
    · obtain ⟨hd, he⟩ := okP_dec hp hq (by simp [lenI])
      have hX := hK _ _ _ _ hL h
      subst he
      intro H locs ls hP hS hl
      exact lv_imul hx hb hd (hX H locs ls hP hS hl)
    · exact h
  case iand =>
    dsimp only [stp] at h
    split at h
    · obtain ⟨hd, he⟩ := okP_dec hp hq (by simp [lenI])
      have hX := hK _ _ _ _ hL h
      subst he
      intro H locs ls hP hS hl
      exact lv_iand hx hb hd (hX H locs ls hP hS hl)
    · exact h
  case ior =>
    dsimp only [stp] at h
    split at h
    · obtain ⟨hd, he⟩ := okP_dec hp hq (by simp [lenI])
      have hX := hK _ _ _ _ hL h
      subst he
      intro H locs ls hP hS hl
      exact lv_ior hx hb hd (hX H locs ls hP hS hl)
    · exact h
  case ishl =>
    dsimp only [stp] at h
    split at h
    · obtain ⟨hd, he⟩ := okP_dec hp hq (by simp [lenI])
      have hX := hK _ _ _ _ hL h
      subst he
      intro H locs ls hP hS hl
      exact lv_ishl hx hb hd (hX H locs ls hP hS hl)
    · exact h
  case ishr =>
    dsimp only [stp] at h
    split at h
    · obtain ⟨hd, he⟩ := okP_dec hp hq (by simp [lenI])
      have hX := hK _ _ _ _ hL h
      subst he
      intro H locs ls hP hS hl
      exact lv_ishr hx hb hd (hX H locs ls hP hS hl)
    · exact h
  case iushr =>
    dsimp only [stp] at h
    split at h
    · obtain ⟨hd, he⟩ := okP_dec hp hq (by simp [lenI])
      have hX := hK _ _ _ _ hL h
      subst he
      intro H locs ls hP hS hl
      exact lv_iushr hx hb hd rfl (hX H locs ls hP hS hl)
    · exact h
  case ineg =>
    dsimp only [stp] at h
    split at h
    · obtain ⟨hd, he⟩ := okP_dec hp hq (by simp [lenI])
      have hX := hK _ _ _ _ hL h
      subst he
      intro H locs ls hP hS hl
      exact lv_ineg hx hb hd (hX H locs ls hP hS hl)
    · exact h
  case i2s =>
    dsimp only [stp] at h
    split at h
    · obtain ⟨hd, he⟩ := okP_dec hp hq (by simp [lenI])
      have hX := hK _ _ _ _ hL h
      subst he
      intro H locs ls hP hS hl
      exact lv_i2s hx hb hd rfl (hX H locs ls hP hS hl)
    · exact h
  case i2c =>
    dsimp only [stp] at h
    split at h
    · obtain ⟨hd, he⟩ := okP_dec hp hq (by simp [lenI])
      have hX := hK _ _ _ _ hL h
      subst he
      intro H locs ls hP hS hl
      exact lv_i2c hx hb hd rfl (hX H locs ls hP hS hl)
    · exact h
  case dup =>
    dsimp only [stp] at h
    split at h
    · obtain ⟨hd, he⟩ := okP_dec hp hq (by simp [lenI])
      have hX := hK _ _ _ _ hL h
      subst he
      intro H locs ls hP hS hl
      exact lv_dup hx hb hd (conc_cat _ _) (hX H locs ls hP hS hl)
    · exact h
  case pop =>
    dsimp only [stp] at h
    split at h
    · obtain ⟨hd, he⟩ := okP_dec hp hq (by simp [lenI])
      have hX := hK _ _ _ _ hL h
      subst he
      intro H locs ls hP hS hl
      exact lv_pop hx hb hd (conc_cat _ _) (hX H locs ls hP hS hl)
    · exact h
  case dup2 =>
    dsimp only [stp] at h
    split at h
    · obtain ⟨hd, he⟩ := okP_dec hp hq (by simp [lenI])
      have hX := hK _ _ _ _ hL h
      subst he
      intro H locs ls hP hS hl
      exact lv_dup2_11 hx hb hd (conc_cat _ _) (conc_cat _ _) (hX H locs ls hP hS hl)
    · exact h
  case goto o =>
    dsimp only [stp] at h
    cases hb1 : Nat.ble a1 pc with
    | true => rw [hb1] at h; exact h
    | false =>
      rw [hb1] at h
      exact X_goto hG0 hp hq (hK _ _ _ _ hL h)
  case getfield k =>
    dsimp only [stp] at h
    split at h
    · rename_i c0 r
      split at h
      · rename_i ci fds hl0
        cases hb1 : Nat.beq ci a1 with
        | false => rw [hb1] at h; exact h
        | true =>
          rw [hb1] at h
          dsimp only at h
          split at h
          · rename_i hf
            exact X_getfield hG0 hp hq hl0 (Nat.eq_of_beq_eq_true hb1) (Or.inl ⟨hf, rfl⟩) (hK _ _ _ _ hL h)
          · rename_i z hf
            exact X_getfield hG0 hp hq hl0 (Nat.eq_of_beq_eq_true hb1) (Or.inr ⟨z, hf, rfl⟩) (hK _ _ _ _ hL h)
          · exact h
      · exact h
    · exact h
  case putfield k =>
    dsimp only [stp] at h
    split at h
    · rename_i x c0 r
      split at h
      · rename_i ci fds hl0
        cases hb1 : Nat.beq ci a1 with
        | false => rw [hb1] at h; exact h
        | true =>
          rw [hb1] at h
          dsimp only at h
          split at h
          · rename_i hf
            cases hb2 : putOk a1 a2 finOkT with
            | false => rw [hb2] at h; exact h
            | true =>
              rw [hb2] at h
              exact X_putfield hG0 hp hq hl0 (Nat.eq_of_beq_eq_true hb1) hf hb2 (hK _ _ _ _ hL h)
          · exact h
      · exact h
    · exact h
  case arraylength =>
    dsimp only [stp] at h
    split at h
    · rename_i c0 r
      split at h
      · rename_i kd n rs hl0
        cases hb1 : Nat.ble kd 5 with
        | false => rw [hb1] at h; exact h
        | true =>
          rw [hb1] at h
          exact X_alen hG0 hp hq hl0 (Nat.le_of_ble_eq_true hb1) (hK _ _ _ _ hL h)
      · exact h
    · exact h
theorem run_sound {Γ : Cx} {own : String} {b : ByteArray} {nL : Nat} (hG : Ok Γ own b nL) {pg : List Rw} (hp : okP own b pg) : ∀ (n pc : Nat) (L : Lc) (st : List AV) (σ : Sg), L.length = nL → XT Γ (run pg n pc L st σ) → X Γ pc L st σ
  | 0, _, _, _, _, _, h => h
  | n + 1, pc, L, st, σ, hL, h => by
    rw [run] at h
    cases hq : lkp pc pg with
    | none => rw [hq] at h; exact h
    | some q =>
      rw [hq] at h
      exact stp_sound hG hp hq hL (fun pc' L' st' σ' hL' h' => run_sound hG hp n pc' L' st' σ' hL' h') h
/-- go on, as far as the run is straight -/
theorem run_go {Γ : Cx} {own : String} {b : ByteArray} {nL : Nat} (hG : Ok Γ own b nL) {pg : List Rw} (hp : okP own b pg) (n : Nat) {pc pc' : Nat} {L L' : Lc} {st st' : List AV} {σ σ' : Sg} (hL : L.length = nL) (hr : run pg n pc L st σ = (pc', L', st', σ')) (k : X Γ pc' L' st' σ') : X Γ pc L st σ :=
  run_sound hG hp n pc L st σ hL (by rw [hr]; exact k)
end
section
/-! contracts over the fixed world, and a row for each instruction that isn't straight -/
def Ws (M : MI) : List Cond := .code M.1 M.2.1 M.2.2.1 M.2.2.2 :: TB
def rmd (d : Nat) : Room := { frames := d, cells := 0, slots := 0, locals := 128 * d }
def Pcf (θ : Th) (av : List AV) (σ : Sg) : Array Value → State → Prop := va_Pc (av.map (conc θ.1)) (fun U => va_P θ.2.1 classes (wsOf θ σ) U.heap ∧ Ev θ (AA θ) U U.heap ∧ Inj θ)
/-- a method that answers an int (or a boolean), within d frames -/
def Ci (l : Launch) (θ : Th) (d : Nat) (M : MI) (av : List AV) (σ : Sg) (post : Int32 → Sg → Prop) : Prop := Met l M.1 (Ws M) (rmd d) (Pcf θ av σ) (va_Qi post (fun σ' t => va_P θ.2.1 classes (wsOf θ σ') t.heap) (AA θ)) 0 0 (AA θ)
def Cv (l : Launch) (θ : Th) (d : Nat) (M : MI) (av : List AV) (σ : Sg) (post : Sg → Prop) : Prop := Met l M.1 (Ws M) (rmd d) (Pcf θ av σ) (va_Qv post (fun σ' t => va_P θ.2.1 classes (wsOf θ σ') t.heap) (AA θ)) 0 0 (AA θ)
/-- a method within its own frame -/
def Md (Γ : Cx) (l : Launch) (θ : Th) (d : Nat) (M : MI) (pg : List Rw) : Prop := Ok Γ M.1.cls M.2.1 M.2.2.1 ∧ okP M.1.cls M.2.1 pg ∧ (match Γ with
  | (θ', (_, l', _, R, _, _, _, _, _, _), _, (kc, ks), _) => θ' = θ ∧ l' = l ∧ d ≤ R.frames ∧ 128 * d ≤ R.locals ∧ kc ≤ R.cells ∧ ks ≤ R.slots)
def RtI (Γ : Cx) (M : MI) (post : Int32 → Sg → Prop) : Prop := ∀ (pc : Nat) (L : Lc) (v : Int32) (σ : Sg), decode M.2.1 pc = .ok (.ireturn, 1) → (∀ ty, M.2.2.2 = some ty → narrow ty (.int v) = .int v) → post v σ → X Γ pc L [.inl v] σ
def RtV (Γ : Cx) (M : MI) (post : Sg → Prop) : Prop := ∀ (pc : Nat) (L : Lc) (σ : Sg), decode M.2.1 pc = .ok (.return_, 1) → post σ → X Γ pc L [] σ
theorem fb_Pcf (θ : Th) (av : List AV) (σ : Sg) : FrameBlind (Pcf θ av σ) := by
  intro a U g mk h
  obtain ⟨h1, h2, h3, h4⟩ := h
  exact ⟨h1, h2, Ev.same (s := U) rfl h3, h4⟩
theorem prsF_args (a : Nat → Nat) : ∀ (av : List AV) (j : Nat), lv_args j (av.map (conc a)) = prsF a (av.map some) j
  | [], _ => rfl
  | v :: r, j => by
    simp only [List.map_cons, lv_args, prsF, conc_cat, prsF_args a r]
    rw [if_neg (by decide)]
theorem prsF_none (a : Nat → Nat) : ∀ (L : Lc) (n j : Nat), prsF a (L ++ List.replicate n none) j = prsF a L j
  | [], 0, _ => rfl
  | [], n + 1, j => by
    have := prsF_none a [] n (j + 1)
    simpa [List.replicate_succ, prsF] using this
  | none :: r, n, j => by simpa [prsF] using prsF_none a r n (j + 1)
  | some v :: r, n, j => by simpa [prsF] using prsF_none a r n (j + 1)
theorem lg_sl_len (a : Nat → Nat) : ∀ (av : List AV), (lg_sl (av.map (conc a))).length = av.length
  | [] => rfl
  | v :: r => by
    have := lg_sl_len a r
    simp only [lg_sl, List.map_cons, List.flatMap_cons, conc_cat, List.length_append, List.length_cons] at this ⊢
    rw [if_neg (by decide)]
    simp only [List.length_cons, List.length_nil, this]
    omega
def ent (av : List AV) (n : Nat) : Lc := av.map some ++ List.replicate (n - av.length) none
theorem ent_len {av : List AV} {n : Nat} (h : av.length ≤ n) : (ent av n).length = n := by simp [ent]; omega
theorem Ci.of {l : Launch} {θ : Th} {d : Nat} {M : MI} {av : List AV} {σ : Sg} {post : Int32 → Sg → Prop} {n : Nat} (hM : MV M n ∨ MS M n) {pg : List Rw} (hp : okP M.1.cls M.2.1 pg) (hlen : av.length ≤ M.2.2.1) (hret : M.2.2.2 = some .int ∨ M.2.2.2 = some .boolean) (L : Lc) (hL : ent av M.2.2.1 = L) (body : ∀ Γ : Cx, Md Γ l θ d M pg → RtI Γ M post → X Γ 0 L [] σ) : Ci l θ d M av σ post := by
  subst hL
  have hMD : MD M n := by rcases hM with h | h <;> exact h.2
  refine Met.ofW (cc := M.2.1) (maxL := M.2.2.1) (ret := M.2.2.2) hMD.1 rfl ?_
  intro p e s m args below meth c s₁ B hml hv
  obtain ⟨rfl, hP, hE, hI⟩ := hv
  have hx := B.exec
  have hb := B.bytes
  have hr := B.returns
  have hts := atoms_spec (ws := Ws M) B.pre
  have hown : s.vm.findClass M.1.cls = some m.cls := findClass_of_methodNamed B.named
  have hlocks := B.notSynchronized
  have hl := lv_entry (av.map (conc θ.1)) (n := M.2.2.1) (by rw [lg_sl_len]; exact hlen)
  rw [lg_entry_eq]
  generalize (lg_sl (av.map (conc θ.1)) ++ List.replicate (M.2.2.1 - (lg_sl (av.map (conc θ.1))).length) Slot.unset).toArray = ls at hl ⊢
  rw [prsF_args] at hl
  have key := body (θ, (p, l, e, (headSpec (Ws M) (rmd d)).room, s, m, (av.map (conc θ.1)).toArray, below, meth, c), AA θ, (0, 0), MQ below (va_Qi post (fun σ' t => va_P θ.2.1 classes (wsOf θ σ') t.heap) (AA θ)) (av.map (conc θ.1)).toArray s 0 0 (AA θ))
    ⟨⟨hx, hb, hml, hown, fun w hw => hts w (List.mem_cons_of_mem _ hw), hE, hI, fun _ h => h⟩, hp, rfl, rfl, Nat.le_refl _, Nat.le_refl _, Nat.zero_le _, Nat.zero_le _⟩
    (fun pc L v σ2 hd hn hpost H locs ls hP2 hS2 hl2 => ?_)
  · exact key s.heap [] ls hP va_S.rf (by rw [ent_len hlen]; rw [prs, ent, prsF_none]; exact hl)
  · rcases hret with h | h
    · exact W.iret hx hb (by rw [hr, h]) (fun t ht _ => ⟨⟨v, σ2, rfl, hpost, by show va_P _ _ _ t.heap; rw [ht]; exact hP2⟩, hS2.F ht⟩) hS2.2.2 hd
    · exact W.zret (ty := .boolean) hx hb (by rw [hr, h]) (hn _ h) (fun t ht _ => ⟨⟨v, σ2, rfl, hpost, by show va_P _ _ _ t.heap; rw [ht]; exact hP2⟩, hS2.F ht⟩) hS2.2.2 hd
theorem Cv.of {l : Launch} {θ : Th} {d : Nat} {M : MI} {av : List AV} {σ : Sg} {post : Sg → Prop} {n : Nat} (hM : MV M n ∨ MS M n) {pg : List Rw} (hp : okP M.1.cls M.2.1 pg) (hlen : av.length ≤ M.2.2.1) (hret : M.2.2.2 = none) (L : Lc) (hL : ent av M.2.2.1 = L) (body : ∀ Γ : Cx, Md Γ l θ d M pg → RtV Γ M post → X Γ 0 L [] σ) : Cv l θ d M av σ post := by
  subst hL
  have hMD : MD M n := by rcases hM with h | h <;> exact h.2
  refine Met.ofW (cc := M.2.1) (maxL := M.2.2.1) (ret := M.2.2.2) hMD.1 rfl ?_
  intro p e s m args below meth c s₁ B hml hv
  obtain ⟨rfl, hP, hE, hI⟩ := hv
  have hx := B.exec
  have hb := B.bytes
  have hr := B.returns
  have hts := atoms_spec (ws := Ws M) B.pre
  have hown : s.vm.findClass M.1.cls = some m.cls := findClass_of_methodNamed B.named
  have hlocks := B.notSynchronized
  have hl := lv_entry (av.map (conc θ.1)) (n := M.2.2.1) (by rw [lg_sl_len]; exact hlen)
  rw [lg_entry_eq]
  generalize (lg_sl (av.map (conc θ.1)) ++ List.replicate (M.2.2.1 - (lg_sl (av.map (conc θ.1))).length) Slot.unset).toArray = ls at hl ⊢
  rw [prsF_args] at hl
  have key := body (θ, (p, l, e, (headSpec (Ws M) (rmd d)).room, s, m, (av.map (conc θ.1)).toArray, below, meth, c), AA θ, (0, 0), MQ below (va_Qv post (fun σ' t => va_P θ.2.1 classes (wsOf θ σ') t.heap) (AA θ)) (av.map (conc θ.1)).toArray s 0 0 (AA θ))
    ⟨⟨hx, hb, hml, hown, fun w hw => hts w (List.mem_cons_of_mem _ hw), hE, hI, fun _ h => h⟩, hp, rfl, rfl, Nat.le_refl _, Nat.le_refl _, Nat.zero_le _, Nat.zero_le _⟩
    (fun pc L σ2 hd hpost H locs ls hP2 hS2 hl2 => ?_)
  · exact key s.heap [] ls hP va_S.rf (by rw [ent_len hlen]; rw [prs, ent, prsF_none]; exact hl)
  · exact W.vret hx hb (by rw [hr, hret]) (fun t ht _ => ⟨⟨σ2, rfl, hpost, by show va_P _ _ _ t.heap; rw [ht]; exact hP2⟩, hS2.F ht⟩) hS2.2.2 hd
theorem goodIn_TB {ws : List Cond} (h : ∀ w ∈ ws, w ∈ TB) : GoodIn TB ws := fun w hw => ⟨h w hw, good_of_word (goodTB (h w hw))⟩
theorem cat_sum (a : Nat → Nat) : ∀ r : List AV, ((r.map (conc a)).map fun v => v.category).sum = r.length
  | [] => rfl
  | v :: r => by
    simp only [List.map_cons, List.sum_cons, conc_cat, cat_sum a r, List.length_cons]
    omega
theorem layN_b : lay.all (fun s => match s with | .inr (kd, n, rs) => decide (n ≤ 1430) | .inl _ => true) = true := by decide +kernel
theorem layN {c kd n : Nat} {rs : List Nat} (h : lay[c]? = some (.inr (kd, n, rs))) : n ≤ 1430 := by
  have h1 := List.all_eq_true.mp layN_b _ (List.mem_of_getElem? h)
  simpa using h1
section Rows
variable {Γ : Cx} {l : Launch} {θ : Th} {d : Nat} {M : MI} {pg : List Rw} {pc pc' a1 a2 : Nat} {v : Int32} {L L' : Lc} {st st' r : List AV} {σ σ' : Sg}
theorem Md.go (hG : Md Γ l θ d M pg) (n : Nat) (hL : L.length = M.2.2.1) (hr : run pg n pc L st σ = (pc', L', st', σ')) (k : X Γ pc' L' st' σ') : X Γ pc L st σ := run_go hG.1 hG.2.1 n hL hr k
theorem Md.goto (hG : Md Γ l θ d M pg) {o : Int} (hq : lkp pc pg = some (.goto o, pc', v, a1, a2)) (k : X Γ a1 L st σ) : X Γ pc L st σ := X_goto hG.1 hG.2.1 hq k
/-- less is known of the locals -/
theorem X.weak (h : X Γ pc L' st σ) (hlen : L'.length = L.length) (hs : ∀ (k : Nat) (w : AV), L'[k]? = some (some w) → L[k]? = some (some w)) : X Γ pc L st σ := by
  obtain ⟨θ, ⟨p, l, e, R, s, m, args, below, meth, c⟩, A, ⟨kc, ks⟩, Q⟩ := Γ
  intro H locs ls hP hS hl
  exact h H locs ls hP hS (by rw [hlen]; exact lvh_forget hl hs)
theorem Md.tgt (hG : Md Γ l θ d M pg) {i : Instr} {o : Int} (hq : lkp pc pg = some (i, pc', v, a1, a2)) (hi : (∃ cd, i = .ifCond cd o) ∨ (∃ cd, i = .if_icmp cd o)) : (pc : Int) + o = (a1 : Int) := by
  obtain ⟨fl, ct, -, -, h3⟩ := okAux_of hG.2.1 hq
  rcases hi with ⟨cd, rfl⟩ | ⟨cd, rfl⟩ <;> simpa only [okAux, decide_eq_true_eq] using h3
theorem Md.ifeq (hG : Md Γ l θ d M pg) {o : Int} {x : Int32} (hq : lkp pc pg = some (.ifCond .eq o, pc', v, a1, a2)) (kt : x = 0 → X Γ a1 L r σ) (kf : ¬ x = 0 → X Γ pc' L r σ) : X Γ pc L (.inl x :: r) σ := by
  have ht := hG.tgt hq (Or.inl ⟨_, rfl⟩)
  obtain ⟨hd, he⟩ := okP_dec hG.2.1 hq (by simp [lenI])
  obtain ⟨θ, ⟨p, l, e, R, s, m, args, below, meth, c⟩, A, ⟨kc, ks⟩, Q⟩ := Γ
  subst he
  intro H locs ls hP hS hl
  exact lv_if_eq hG.1.1 hG.1.2.1 hd ht (fun h => kt h H locs ls hP hS hl) (fun h => kf h H locs ls hP hS hl)
theorem Md.ifne (hG : Md Γ l θ d M pg) {o : Int} {x : Int32} (hq : lkp pc pg = some (.ifCond .ne o, pc', v, a1, a2)) (kt : ¬ x = 0 → X Γ a1 L r σ) (kf : x = 0 → X Γ pc' L r σ) : X Γ pc L (.inl x :: r) σ := by
  have ht := hG.tgt hq (Or.inl ⟨_, rfl⟩)
  obtain ⟨hd, he⟩ := okP_dec hG.2.1 hq (by simp [lenI])
  obtain ⟨θ, ⟨p, l, e, R, s, m, args, below, meth, c⟩, A, ⟨kc, ks⟩, Q⟩ := Γ
  subst he
  intro H locs ls hP hS hl
  exact lv_if_ne hG.1.1 hG.1.2.1 hd ht (fun h => kt h H locs ls hP hS hl) (fun h => kf h H locs ls hP hS hl)
theorem Md.iflt (hG : Md Γ l θ d M pg) {o : Int} {x : Int32} (hq : lkp pc pg = some (.ifCond .lt o, pc', v, a1, a2)) (kt : x < 0 → X Γ a1 L r σ) (kf : ¬ x < 0 → X Γ pc' L r σ) : X Γ pc L (.inl x :: r) σ := by
  have ht := hG.tgt hq (Or.inl ⟨_, rfl⟩)
  obtain ⟨hd, he⟩ := okP_dec hG.2.1 hq (by simp [lenI])
  obtain ⟨θ, ⟨p, l, e, R, s, m, args, below, meth, c⟩, A, ⟨kc, ks⟩, Q⟩ := Γ
  subst he
  intro H locs ls hP hS hl
  exact lv_if_lt hG.1.1 hG.1.2.1 hd ht (fun h => kt h H locs ls hP hS hl) (fun h => kf h H locs ls hP hS hl)
theorem Md.ifge (hG : Md Γ l θ d M pg) {o : Int} {x : Int32} (hq : lkp pc pg = some (.ifCond .ge o, pc', v, a1, a2)) (kt : 0 ≤ x → X Γ a1 L r σ) (kf : ¬ 0 ≤ x → X Γ pc' L r σ) : X Γ pc L (.inl x :: r) σ := by
  have ht := hG.tgt hq (Or.inl ⟨_, rfl⟩)
  obtain ⟨hd, he⟩ := okP_dec hG.2.1 hq (by simp [lenI])
  obtain ⟨θ, ⟨p, l, e, R, s, m, args, below, meth, c⟩, A, ⟨kc, ks⟩, Q⟩ := Γ
  subst he
  intro H locs ls hP hS hl
  exact lv_if_ge hG.1.1 hG.1.2.1 hd ht (fun h => kt h H locs ls hP hS hl) (fun h => kf h H locs ls hP hS hl)
theorem Md.ifgt (hG : Md Γ l θ d M pg) {o : Int} {x : Int32} (hq : lkp pc pg = some (.ifCond .gt o, pc', v, a1, a2)) (kt : 0 < x → X Γ a1 L r σ) (kf : ¬ 0 < x → X Γ pc' L r σ) : X Γ pc L (.inl x :: r) σ := by
  have ht := hG.tgt hq (Or.inl ⟨_, rfl⟩)
  obtain ⟨hd, he⟩ := okP_dec hG.2.1 hq (by simp [lenI])
  obtain ⟨θ, ⟨p, l, e, R, s, m, args, below, meth, c⟩, A, ⟨kc, ks⟩, Q⟩ := Γ
  subst he
  intro H locs ls hP hS hl
  exact lv_if_gt hG.1.1 hG.1.2.1 hd ht (fun h => kt h H locs ls hP hS hl) (fun h => kf h H locs ls hP hS hl)
theorem Md.ifle (hG : Md Γ l θ d M pg) {o : Int} {x : Int32} (hq : lkp pc pg = some (.ifCond .le o, pc', v, a1, a2)) (kt : x ≤ 0 → X Γ a1 L r σ) (kf : ¬ x ≤ 0 → X Γ pc' L r σ) : X Γ pc L (.inl x :: r) σ := by
  have ht := hG.tgt hq (Or.inl ⟨_, rfl⟩)
  obtain ⟨hd, he⟩ := okP_dec hG.2.1 hq (by simp [lenI])
  obtain ⟨θ, ⟨p, l, e, R, s, m, args, below, meth, c⟩, A, ⟨kc, ks⟩, Q⟩ := Γ
  subst he
  intro H locs ls hP hS hl
  exact lv_if_le hG.1.1 hG.1.2.1 hd ht (fun h => kt h H locs ls hP hS hl) (fun h => kf h H locs ls hP hS hl)
theorem Md.icmpeq (hG : Md Γ l θ d M pg) {o : Int} {x y : Int32} (hq : lkp pc pg = some (.if_icmp .eq o, pc', v, a1, a2)) (kt : x = y → X Γ a1 L r σ) (kf : ¬ x = y → X Γ pc' L r σ) : X Γ pc L (.inl y :: .inl x :: r) σ := by
  have ht := hG.tgt hq (Or.inr ⟨_, rfl⟩)
  obtain ⟨hd, he⟩ := okP_dec hG.2.1 hq (by simp [lenI])
  obtain ⟨θ, ⟨p, l, e, R, s, m, args, below, meth, c⟩, A, ⟨kc, ks⟩, Q⟩ := Γ
  subst he
  intro H locs ls hP hS hl
  exact lv_icmp_eq hG.1.1 hG.1.2.1 hd ht (fun h => kt h H locs ls hP hS hl) (fun h => kf h H locs ls hP hS hl)
theorem Md.icmpne (hG : Md Γ l θ d M pg) {o : Int} {x y : Int32} (hq : lkp pc pg = some (.if_icmp .ne o, pc', v, a1, a2)) (kt : ¬ x = y → X Γ a1 L r σ) (kf : x = y → X Γ pc' L r σ) : X Γ pc L (.inl y :: .inl x :: r) σ := by
  have ht := hG.tgt hq (Or.inr ⟨_, rfl⟩)
  obtain ⟨hd, he⟩ := okP_dec hG.2.1 hq (by simp [lenI])
  obtain ⟨θ, ⟨p, l, e, R, s, m, args, below, meth, c⟩, A, ⟨kc, ks⟩, Q⟩ := Γ
  subst he
  intro H locs ls hP hS hl
  exact lv_icmp_ne hG.1.1 hG.1.2.1 hd ht (fun h => kt h H locs ls hP hS hl) (fun h => kf h H locs ls hP hS hl)
theorem Md.icmplt (hG : Md Γ l θ d M pg) {o : Int} {x y : Int32} (hq : lkp pc pg = some (.if_icmp .lt o, pc', v, a1, a2)) (kt : x < y → X Γ a1 L r σ) (kf : ¬ x < y → X Γ pc' L r σ) : X Γ pc L (.inl y :: .inl x :: r) σ := by
  have ht := hG.tgt hq (Or.inr ⟨_, rfl⟩)
  obtain ⟨hd, he⟩ := okP_dec hG.2.1 hq (by simp [lenI])
  obtain ⟨θ, ⟨p, l, e, R, s, m, args, below, meth, c⟩, A, ⟨kc, ks⟩, Q⟩ := Γ
  subst he
  intro H locs ls hP hS hl
  exact lv_icmp_lt hG.1.1 hG.1.2.1 hd ht (fun h => kt h H locs ls hP hS hl) (fun h => kf h H locs ls hP hS hl)
theorem Md.icmpge (hG : Md Γ l θ d M pg) {o : Int} {x y : Int32} (hq : lkp pc pg = some (.if_icmp .ge o, pc', v, a1, a2)) (kt : y ≤ x → X Γ a1 L r σ) (kf : ¬ y ≤ x → X Γ pc' L r σ) : X Γ pc L (.inl y :: .inl x :: r) σ := by
  have ht := hG.tgt hq (Or.inr ⟨_, rfl⟩)
  obtain ⟨hd, he⟩ := okP_dec hG.2.1 hq (by simp [lenI])
  obtain ⟨θ, ⟨p, l, e, R, s, m, args, below, meth, c⟩, A, ⟨kc, ks⟩, Q⟩ := Γ
  subst he
  intro H locs ls hP hS hl
  exact lv_icmp_ge hG.1.1 hG.1.2.1 hd ht (fun h => kt h H locs ls hP hS hl) (fun h => kf h H locs ls hP hS hl)
theorem Md.icmpgt (hG : Md Γ l θ d M pg) {o : Int} {x y : Int32} (hq : lkp pc pg = some (.if_icmp .gt o, pc', v, a1, a2)) (kt : y < x → X Γ a1 L r σ) (kf : ¬ y < x → X Γ pc' L r σ) : X Γ pc L (.inl y :: .inl x :: r) σ := by
  have ht := hG.tgt hq (Or.inr ⟨_, rfl⟩)
  obtain ⟨hd, he⟩ := okP_dec hG.2.1 hq (by simp [lenI])
  obtain ⟨θ, ⟨p, l, e, R, s, m, args, below, meth, c⟩, A, ⟨kc, ks⟩, Q⟩ := Γ
  subst he
  intro H locs ls hP hS hl
  exact lv_icmp_gt hG.1.1 hG.1.2.1 hd ht (fun h => kt h H locs ls hP hS hl) (fun h => kf h H locs ls hP hS hl)
theorem Md.icmple (hG : Md Γ l θ d M pg) {o : Int} {x y : Int32} (hq : lkp pc pg = some (.if_icmp .le o, pc', v, a1, a2)) (kt : x ≤ y → X Γ a1 L r σ) (kf : ¬ x ≤ y → X Γ pc' L r σ) : X Γ pc L (.inl y :: .inl x :: r) σ := by
  have ht := hG.tgt hq (Or.inr ⟨_, rfl⟩)
  obtain ⟨hd, he⟩ := okP_dec hG.2.1 hq (by simp [lenI])
  obtain ⟨θ, ⟨p, l, e, R, s, m, args, below, meth, c⟩, A, ⟨kc, ks⟩, Q⟩ := Γ
  subst he
  intro H locs ls hP hS hl
  exact lv_icmp_le hG.1.1 hG.1.2.1 hd ht (fun h => kt h H locs ls hP hS hl) (fun h => kf h H locs ls hP hS hl)
theorem Md.idiv (hG : Md Γ l θ d M pg) {x y : Int32} (hq : lkp pc pg = some (.idiv, pc', v, a1, a2)) (hy : ¬ y = 0) (k : X Γ pc' L (.inl (x / y) :: r) σ) : X Γ pc L (.inl y :: .inl x :: r) σ := by
  obtain ⟨hd, he⟩ := okP_dec hG.2.1 hq (by simp [lenI])
  obtain ⟨θ, ⟨p, l, e, R, s, m, args, below, meth, c⟩, A, ⟨kc, ks⟩, Q⟩ := Γ
  subst he
  intro H locs ls hP hS hl
  exact lv_idiv hG.1.1 hG.1.2.1 hd hy (k H locs ls hP hS hl)
theorem Md.irem (hG : Md Γ l θ d M pg) {x y : Int32} (hq : lkp pc pg = some (.irem, pc', v, a1, a2)) (hy : ¬ y = 0) (k : X Γ pc' L (.inl (x - x / y * y) :: r) σ) : X Γ pc L (.inl y :: .inl x :: r) σ := by
  obtain ⟨hd, he⟩ := okP_dec hG.2.1 hq (by simp [lenI])
  obtain ⟨θ, ⟨p, l, e, R, s, m, args, below, meth, c⟩, A, ⟨kc, ks⟩, Q⟩ := Γ
  subst he
  intro H locs ls hP hS hl
  exact lv_irem hG.1.1 hG.1.2.1 hd hy (k H locs ls hP hS hl)
theorem vp_inN {n N : Nat} (h : n < N) (hN : N ≤ 1430) : vp_in (nI n) N ∧ (nI n).toNatClampNeg = n := ⟨vp_in_nI h (by omega), nI_clamp (by omega)⟩
theorem Md.iald (hG : Md Γ l θ d M pg) {c0 n k : Nat} {i : Int32} {rs : List Nat} (hq : lkp pc pg = some (.iaload, pc', v, a1, a2)) (hl0 : lay[c0]? = some (.inr (0, n, rs))) (hi : i = nI k) (hk : k < n) (kk : X Γ pc' L (.inl (σ c0 k) :: r) σ) : X Γ pc L (.inl i :: .inr c0 :: r) σ := by
  obtain ⟨hd, he⟩ := okP_dec hG.2.1 hq (by simp [lenI])
  obtain ⟨θ, ⟨p, l, e, R, s, m, args, below, meth, c⟩, A, ⟨kc, ks⟩, Q⟩ := Γ
  obtain ⟨h1, h2⟩ := vp_inN hk (layN hl0)
  subst he; subst hi
  intro H locs ls hP hS hl
  refine va_iald (f := σ c0) hG.1.1 hG.1.2.1 hG.1.2.2.2.2.2.1.1 hP c0 0 (wsOf_get hl0) rfl h1 hd ?_
  rw [h2]; exact kk H locs ls hP hS hl
theorem Md.zald (hG : Md Γ l θ d M pg) {c0 n k : Nat} {i : Int32} {rs : List Nat} (hq : lkp pc pg = some (.baload, pc', v, a1, a2)) (hl0 : lay[c0]? = some (.inr (1, n, rs))) (hi : i = nI k) (hk : k < n) (kk : X Γ pc' L (.inl (σ c0 k) :: r) σ) : X Γ pc L (.inl i :: .inr c0 :: r) σ := by
  obtain ⟨hd, he⟩ := okP_dec hG.2.1 hq (by simp [lenI])
  obtain ⟨θ, ⟨p, l, e, R, s, m, args, below, meth, c⟩, A, ⟨kc, ks⟩, Q⟩ := Γ
  obtain ⟨h1, h2⟩ := vp_inN hk (layN hl0)
  subst he; subst hi
  intro H locs ls hP hS hl
  refine va_zald (f := σ c0) hG.1.1 hG.1.2.1 hG.1.2.2.2.2.2.1.1 hP c0 1 (wsOf_get hl0) rfl h1 hd ?_
  rw [h2]; exact kk H locs ls hP hS hl
theorem Md.cald (hG : Md Γ l θ d M pg) {c0 n k : Nat} {i : Int32} {rs : List Nat} (hq : lkp pc pg = some (.caload, pc', v, a1, a2)) (hl0 : lay[c0]? = some (.inr (2, n, rs))) (hi : i = nI k) (hk : k < n) (kk : X Γ pc' L (.inl (σ c0 k) :: r) σ) : X Γ pc L (.inl i :: .inr c0 :: r) σ := by
  obtain ⟨hd, he⟩ := okP_dec hG.2.1 hq (by simp [lenI])
  obtain ⟨θ, ⟨p, l, e, R, s, m, args, below, meth, c⟩, A, ⟨kc, ks⟩, Q⟩ := Γ
  obtain ⟨h1, h2⟩ := vp_inN hk (layN hl0)
  subst he; subst hi
  intro H locs ls hP hS hl
  refine va_cald (f := σ c0) hG.1.1 hG.1.2.1 hG.1.2.2.2.2.2.1.1 hP c0 2 (wsOf_get hl0) rfl h1 hd ?_
  rw [h2]; exact kk H locs ls hP hS hl
theorem Md.iast (hG : Md Γ l θ d M pg) {c0 n k : Nat} {i x : Int32} {rs : List Nat} (hq : lkp pc pg = some (.iastore, pc', v, a1, a2)) (hl0 : lay[c0]? = some (.inr (0, n, rs))) (hi : i = nI k) (hk : k < n) (kk : X Γ pc' L r (up σ c0 k x)) : X Γ pc L (.inl x :: .inl i :: .inr c0 :: r) σ := by
  obtain ⟨hd, he⟩ := okP_dec hG.2.1 hq (by simp [lenI])
  obtain ⟨θ, ⟨p, l, e, R, s, m, args, below, meth, c⟩, A, ⟨kc, ks⟩, Q⟩ := Γ
  obtain ⟨h1, h2⟩ := vp_inN hk (layN hl0)
  subst he; subst hi
  intro H locs ls hP hS hl
  refine va_iast (f := σ c0) hG.1.1 hG.1.2.1 hG.1.2.2.2.2.2.1.1 hP (wsOf_D hG.1.2.2.2.2.2.2.1 hG.1.2.2.2.2.2.2.2 σ) hS c0 0 (wsOf_get hl0) rfl h1 hd ?_
  intro H1 locs1 hP1 _ hS1
  rw [h2] at hP1
  exact kk H1 locs1 ls (by rw [up, ← wsOf_upc hl0]; exact hP1) hS1 hl
theorem nar_bool {x : Int32} (h : x = 0 ∨ x = 1) : vp_nar .boolean x = x := by rcases h with rfl | rfl <;> decide +kernel
theorem Md.zast (hG : Md Γ l θ d M pg) {c0 n k : Nat} {i x : Int32} {rs : List Nat} (hq : lkp pc pg = some (.bastore, pc', v, a1, a2)) (hl0 : lay[c0]? = some (.inr (1, n, rs))) (hi : i = nI k) (hk : k < n) (hx : x = 0 ∨ x = 1) (kk : X Γ pc' L r (up σ c0 k x)) : X Γ pc L (.inl x :: .inl i :: .inr c0 :: r) σ := by
  obtain ⟨hd, he⟩ := okP_dec hG.2.1 hq (by simp [lenI])
  obtain ⟨θ, ⟨p, l, e, R, s, m, args, below, meth, c⟩, A, ⟨kc, ks⟩, Q⟩ := Γ
  obtain ⟨h1, h2⟩ := vp_inN hk (layN hl0)
  subst he; subst hi
  intro H locs ls hP hS hl
  refine va_zast (f := σ c0) hG.1.1 hG.1.2.1 hG.1.2.2.2.2.2.1.1 hP (wsOf_D hG.1.2.2.2.2.2.2.1 hG.1.2.2.2.2.2.2.2 σ) hS c0 1 (wsOf_get hl0) rfl h1 hd ?_
  intro H1 locs1 hP1 _ hS1
  rw [h2, nar_bool hx] at hP1
  exact kk H1 locs1 ls (by rw [up, ← wsOf_upc hl0]; exact hP1) hS1 hl
theorem Md.aald (hG : Md Γ l θ d M pg) {c0 kd n k z : Nat} {i : Int32} {rs : List Nat} (hq : lkp pc pg = some (.aaload, pc', v, a1, a2)) (hl0 : lay[c0]? = some (.inr (kd, n, rs))) (hkd : kd = 3 ∨ kd = 4 ∨ kd = 5) (hi : i = nI k) (hk : k < n) (hz : rs[k]? = some z) (kk : X Γ pc' L (.inr z :: r) σ) : X Γ pc L (.inl i :: .inr c0 :: r) σ := by
  obtain ⟨hd, he⟩ := okP_dec hG.2.1 hq (by simp [lenI])
  obtain ⟨θ, ⟨p, l, e, R, s, m, args, below, meth, c⟩, A, ⟨kc, ks⟩, Q⟩ := Γ
  obtain ⟨h1, h2⟩ := vp_inN hk (layN hl0)
  subst he; subst hi
  intro H locs ls hP hS hl
  have hw := wsOf_get (θ := θ) (σ := σ) hl0
  have hf : Option.map θ.1 rs[(nI k).toNatClampNeg]? = some (θ.1 z) := by rw [h2, hz]; rfl
  rcases hkd with rfl | rfl | rfl
  · refine va_aldq (C := "NotWorn$Text") (f := fun i : Nat => (rs[i]?).map θ.1) hG.1.1 hG.1.2.1 hG.1.2.2.2.2.2.1.1 hP c0 3 hw rfl h1 hd ?_
    rw [hf]; exact kk H locs ls hP hS hl
  · refine va_aldq (C := "NotWorn$Row") (f := fun i : Nat => (rs[i]?).map θ.1) hG.1.1 hG.1.2.1 hG.1.2.2.2.2.2.1.1 hP c0 4 hw rfl h1 hd ?_
    rw [hf]; exact kk H locs ls hP hS hl
  · refine va_aldq (C := "NotWorn$Slot") (f := fun i : Nat => (rs[i]?).map θ.1) hG.1.1 hG.1.2.1 hG.1.2.2.2.2.2.1.1 hP c0 5 hw rfl h1 hd ?_
    rw [hf]; exact kk H locs ls hP hS hl
theorem Md.ret {post : Int32 → Sg → Prop} (hG : Md Γ l θ d M pg) (hR : RtI Γ M post) {x : Int32} (hq : lkp pc pg = some (.ireturn, pc', v, a1, a2)) (hi : M.2.2.2 = some .int) (hpost : post x σ) : X Γ pc L [.inl x] σ := by
  obtain ⟨hd, he⟩ := okP_dec hG.2.1 hq (by simp [lenI])
  exact hR pc L x σ hd (fun ty h => by rw [hi] at h; cases h; rfl) hpost
theorem nar_bool2 {x : Int32} (h : x = 0 ∨ x = 1) : narrow .boolean (.int x) = .int x := by rcases h with rfl | rfl <;> decide +kernel
theorem Md.retz {post : Int32 → Sg → Prop} (hG : Md Γ l θ d M pg) (hR : RtI Γ M post) {x : Int32} (hq : lkp pc pg = some (.ireturn, pc', v, a1, a2)) (hi : M.2.2.2 = some .boolean) (hx : x = 0 ∨ x = 1) (hpost : post x σ) : X Γ pc L [.inl x] σ := by
  obtain ⟨hd, he⟩ := okP_dec hG.2.1 hq (by simp [lenI])
  exact hR pc L x σ hd (fun ty h => by rw [hi] at h; cases h; exact nar_bool2 hx) hpost
theorem Md.retv {post : Sg → Prop} (hG : Md Γ l θ d M pg) (hR : RtV Γ M post) (hq : lkp pc pg = some (.return_, pc', v, a1, a2)) (hpost : post σ) : X Γ pc L [] σ := by
  obtain ⟨hd, he⟩ := okP_dec hG.2.1 hq (by simp [lenI])
  exact hR pc L σ hd hpost
theorem room_le {d' d mL : Nat} {R : Room} (h : d' + 1 ≤ d) (hm : mL ≤ 100) (h1 : d ≤ R.frames) (h2 : 128 * d ≤ R.locals) : (rmd d').frames + 1 ≤ R.frames ∧ 8 + (mL + 11) + (rmd d').locals ≤ R.locals := by
  refine ⟨by show d' + 1 ≤ _; omega, ?_⟩
  show 8 + (mL + 11) + 128 * d' ≤ _
  omega
theorem Ws_TB {N : MI} (h : Cond.code N.1 N.2.1 N.2.2.1 N.2.2.2 ∈ TB) : ∀ w ∈ Ws N, w ∈ TB := fun w hw => by
  rcases List.mem_cons.mp hw with rfl | h1
  · exact h
  · exact h1
theorem Ok.preS {Γ : Cx} {own : String} {b : ByteArray} {nL : Nat} (hG : Ok Γ own b nL) {av : List AV} {σ : Sg} {H : Heap} {locs : List Loc} (hP : va_P Γ.1.2.1 classes (wsOf Γ.1 σ) H) (hS : va_S Γ.2.2.1 Γ.2.1.2.2.2.2.1.heap H locs) : PreS Γ.2.1.2.2.2.2.1 H (Pcf Γ.1 av σ) (av.map (conc Γ.1.1)) := by
  obtain ⟨θ, ⟨p, l, e, R, s, m, args, below, meth, c⟩, A, ⟨kc, ks⟩, Q⟩ := Γ
  obtain ⟨hx, hb, hml, hown, hts, hE, hI, hA⟩ := hG
  exact ⟨fb_Pcf _ _ _, fun U hU hW => ⟨rfl, by rw [hU]; exact hP, by rw [hU]; exact Ev.warm hW ((hE.kept hS.2.1).narrow hA), hI⟩⟩
theorem Md.callV {N : MI} {n d' idx o ci : Nat} {av rest : List AV} {fds : List (Option Nat)} {post : Int32 → Sg → Prop} (hG : Md Γ l θ d M pg) (hq : lkp pc pg = some (.invokevirtual idx, pc', v, a1, a2)) (hlk : LK M.1.cls idx N.1) (hN : MV N n) (hC : Ci l θ d' N (.inr o :: av) σ post) (hd' : d' + 1 ≤ d) (hn : av.length = n) (hst : st = av.reverse ++ .inr o :: rest) (hlo : lay[o]? = some (.inl (ci, fds))) (hcl : (classes[ci]?).map (fun q => q.1) = some N.1.cls) (hre : rest.length ≤ 8) (hL : L.length = M.2.2.1) (kk : ∀ (x : Int32) (σ' : Sg), post x σ' → X Γ pc' L (.inl x :: rest) σ') : X Γ pc L st σ := by
  obtain ⟨hd, he⟩ := okP_dec hG.2.1 hq (by simp [lenI])
  have hG1 := hG.1
  obtain ⟨θ', ⟨p, l', e, R, s, m, args, below, meth, c⟩, A, ⟨kc, ks⟩, Q⟩ := Γ
  obtain ⟨⟨hx, hb, hml, hown, hts, hE, hI, hA⟩, hp, e1, e2, hf1, hf2, hf3, hf4⟩ := hG
  subst e1; subst e2; subst he; subst hst
  obtain ⟨hw, -, hcl2, hdesc, hmx⟩ := hN
  intro H locs ls hP hS hl
  obtain ⟨q, hcq, hq1⟩ : ∃ q, classes[ci]? = some q ∧ q.1 = N.1.cls := by
    cases hcc : classes[ci]? with
    | none => rw [hcc] at hcl; cases hcl
    | some q => rw [hcc] at hcl; exact ⟨q, rfl, Option.some.inj hcl⟩
  have hcode : Cond.code N.1 N.2.1 N.2.2.1 N.2.2.2 ∈ TB := hw _ (by simp)
  have hgood : GoodIn TB (wsV M.1.cls idx N.1.cls N.1 (Ws N)) := goodIn_TB (fun w h => by
    rcases List.mem_append.mp h with h | h
    · simp only [List.mem_cons, List.not_mem_nil, or_false] at h
      rcases h with rfl | rfl | rfl | rfl
      · exact hlk
      · exact hw _ (by simp)
      · exact hw _ (by simp)
      · exact hw _ (by simp)
    · exact Ws_TB hcode w h)
  have hpre := Ok.preS hG1 (av := .inr o :: av) hP hS
  refine va_calli (A1 := AA θ') (va_runV (As := av.map (conc θ'.1)) (rest := rest.map (conc θ'.1)) ⟨hx, hb, hml, hown, hts⟩ hC (cwV n hts hgood rfl rfl rfl ⟨rfl, hcl2.1, hcl2.2, hdesc⟩ (room_le hd' hmx hf1 hf2)) ⟨hpre.1, by rw [← hq1]; exact va_recv hE.1 hP hcq (wsOf_get hlo), hpre.2⟩ rfl (by rw [List.length_map]; exact hn) (by rw [hl.1]; exact hL) (by simp [conc]) (lv_room (by rw [cat_sum]; exact hre)) hd ⟨hf3, hf4⟩) hS (fun q _ h => hA q h) hA ?_
  intro x u t H1 locs1 ht _ hpo hB _ _ hS1
  rw [ht] at hB
  exact kk x u hpo H1 locs1 ls hB hS1 hl
theorem Md.callVv {N : MI} {n d' idx o ci : Nat} {av rest : List AV} {fds : List (Option Nat)} {post : Sg → Prop} (hG : Md Γ l θ d M pg) (hq : lkp pc pg = some (.invokevirtual idx, pc', v, a1, a2)) (hlk : LK M.1.cls idx N.1) (hN : MV N n) (hC : Cv l θ d' N (.inr o :: av) σ post) (hd' : d' + 1 ≤ d) (hn : av.length = n) (hst : st = av.reverse ++ .inr o :: rest) (hlo : lay[o]? = some (.inl (ci, fds))) (hcl : (classes[ci]?).map (fun q => q.1) = some N.1.cls) (hre : rest.length ≤ 8) (hL : L.length = M.2.2.1) (kk : ∀ (σ' : Sg), post σ' → X Γ pc' L rest σ') : X Γ pc L st σ := by
  obtain ⟨hd, he⟩ := okP_dec hG.2.1 hq (by simp [lenI])
  have hG1 := hG.1
  obtain ⟨θ', ⟨p, l', e, R, s, m, args, below, meth, c⟩, A, ⟨kc, ks⟩, Q⟩ := Γ
  obtain ⟨⟨hx, hb, hml, hown, hts, hE, hI, hA⟩, hp, e1, e2, hf1, hf2, hf3, hf4⟩ := hG
  subst e1; subst e2; subst he; subst hst
  obtain ⟨hw, -, hcl2, hdesc, hmx⟩ := hN
  intro H locs ls hP hS hl
  obtain ⟨q, hcq, hq1⟩ : ∃ q, classes[ci]? = some q ∧ q.1 = N.1.cls := by
    cases hcc : classes[ci]? with
    | none => rw [hcc] at hcl; cases hcl
    | some q => rw [hcc] at hcl; exact ⟨q, rfl, Option.some.inj hcl⟩
  have hcode : Cond.code N.1 N.2.1 N.2.2.1 N.2.2.2 ∈ TB := hw _ (by simp)
  have hgood : GoodIn TB (wsV M.1.cls idx N.1.cls N.1 (Ws N)) := goodIn_TB (fun w h => by
    rcases List.mem_append.mp h with h | h
    · simp only [List.mem_cons, List.not_mem_nil, or_false] at h
      rcases h with rfl | rfl | rfl | rfl
      · exact hlk
      · exact hw _ (by simp)
      · exact hw _ (by simp)
      · exact hw _ (by simp)
    · exact Ws_TB hcode w h)
  have hpre := Ok.preS hG1 (av := .inr o :: av) hP hS
  refine va_callv (A1 := AA θ') (va_runV (As := av.map (conc θ'.1)) (rest := rest.map (conc θ'.1)) ⟨hx, hb, hml, hown, hts⟩ hC (cwV n hts hgood rfl rfl rfl ⟨rfl, hcl2.1, hcl2.2, hdesc⟩ (room_le hd' hmx hf1 hf2)) ⟨hpre.1, by rw [← hq1]; exact va_recv hE.1 hP hcq (wsOf_get hlo), hpre.2⟩ rfl (by rw [List.length_map]; exact hn) (by rw [hl.1]; exact hL) (by simp [conc]) (lv_room (by rw [cat_sum]; exact hre)) hd ⟨hf3, hf4⟩) hS (fun q _ h => hA q h) hA ?_
  intro u t H1 locs1 ht _ hpo hB _ _ hS1
  rw [ht] at hB
  exact kk u hpo H1 locs1 ls hB hS1 hl
theorem Md.callS {N : MI} {n d' idx : Nat} {av rest : List AV} {post : Int32 → Sg → Prop} (hG : Md Γ l θ d M pg) (hq : lkp pc pg = some (.invokestatic idx, pc', v, a1, a2)) (hlk : LK M.1.cls idx N.1) (hN : MS N n) (hC : Ci l θ d' N av σ post) (hd' : d' + 1 ≤ d) (hn : av.length = n) (hst : st = av.reverse ++ rest) (hre : rest.length ≤ 8) (hL : L.length = M.2.2.1) (kk : ∀ (x : Int32) (σ' : Sg), post x σ' → X Γ pc' L (.inl x :: rest) σ') : X Γ pc L st σ := by
  obtain ⟨hd, he⟩ := okP_dec hG.2.1 hq (by simp [lenI])
  have hG1 := hG.1
  obtain ⟨θ', ⟨p, l', e, R, s, m, args, below, meth, c⟩, A, ⟨kc, ks⟩, Q⟩ := Γ
  obtain ⟨⟨hx, hb, hml, hown, hts, hE, hI, hA⟩, hp, e1, e2, hf1, hf2, hf3, hf4⟩ := hG
  subst e1; subst e2; subst he; subst hst
  obtain ⟨hw, -, hcl2, hdesc, hmx⟩ := hN
  intro H locs ls hP hS hl
  have hcode : Cond.code N.1 N.2.1 N.2.2.1 N.2.2.2 ∈ TB := hw _ (by simp)
  have hgood : GoodIn TB (va_wsS M.1.cls idx N.1 (Ws N)) := goodIn_TB (fun w h => by
    rcases List.mem_append.mp h with h | h
    · simp only [List.mem_cons, List.not_mem_nil, or_false] at h
      rcases h with rfl | rfl | rfl
      · exact hlk
      · exact hw _ (by simp)
      · exact hw _ (by simp)
    · exact Ws_TB hcode w h)
  have hpre := Ok.preS hG1 (av := av) hP hS
  refine va_calli (A1 := AA θ') (va_runS (As := av.map (conc θ'.1)) (rest := rest.map (conc θ'.1)) ⟨hx, hb, hml, hown, hts⟩ hC (va_cwS n hts hgood rfl rfl rfl ⟨hcl2.1, hcl2.2, hdesc⟩ (room_le hd' hmx hf1 hf2)) hpre rfl (by rw [List.length_map]; exact hn) (by rw [hl.1]; exact hL) (by simp) (lv_room (by rw [cat_sum]; exact hre)) hd ⟨hf3, hf4⟩) hS (fun q _ h => hA q h) hA ?_
  intro x u t H1 locs1 ht _ hpo hB _ _ hS1
  rw [ht] at hB
  exact kk x u hpo H1 locs1 ls hB hS1 hl
theorem Md.callSv {N : MI} {n d' idx : Nat} {av rest : List AV} {post : Sg → Prop} (hG : Md Γ l θ d M pg) (hq : lkp pc pg = some (.invokestatic idx, pc', v, a1, a2)) (hlk : LK M.1.cls idx N.1) (hN : MS N n) (hC : Cv l θ d' N av σ post) (hd' : d' + 1 ≤ d) (hn : av.length = n) (hst : st = av.reverse ++ rest) (hre : rest.length ≤ 8) (hL : L.length = M.2.2.1) (kk : ∀ (σ' : Sg), post σ' → X Γ pc' L rest σ') : X Γ pc L st σ := by
  obtain ⟨hd, he⟩ := okP_dec hG.2.1 hq (by simp [lenI])
  have hG1 := hG.1
  obtain ⟨θ', ⟨p, l', e, R, s, m, args, below, meth, c⟩, A, ⟨kc, ks⟩, Q⟩ := Γ
  obtain ⟨⟨hx, hb, hml, hown, hts, hE, hI, hA⟩, hp, e1, e2, hf1, hf2, hf3, hf4⟩ := hG
  subst e1; subst e2; subst he; subst hst
  obtain ⟨hw, -, hcl2, hdesc, hmx⟩ := hN
  intro H locs ls hP hS hl
  have hcode : Cond.code N.1 N.2.1 N.2.2.1 N.2.2.2 ∈ TB := hw _ (by simp)
  have hgood : GoodIn TB (va_wsS M.1.cls idx N.1 (Ws N)) := goodIn_TB (fun w h => by
    rcases List.mem_append.mp h with h | h
    · simp only [List.mem_cons, List.not_mem_nil, or_false] at h
      rcases h with rfl | rfl | rfl
      · exact hlk
      · exact hw _ (by simp)
      · exact hw _ (by simp)
    · exact Ws_TB hcode w h)
  have hpre := Ok.preS hG1 (av := av) hP hS
  refine va_callv (A1 := AA θ') (va_runS (As := av.map (conc θ'.1)) (rest := rest.map (conc θ'.1)) ⟨hx, hb, hml, hown, hts⟩ hC (va_cwS n hts hgood rfl rfl rfl ⟨hcl2.1, hcl2.2, hdesc⟩ (room_le hd' hmx hf1 hf2)) hpre rfl (by rw [List.length_map]; exact hn) (by rw [hl.1]; exact hL) (by simp) (lv_room (by rw [cat_sum]; exact hre)) hd ⟨hf3, hf4⟩) hS (fun q _ h => hA q h) hA ?_
  intro u t H1 locs1 ht _ hpo hB _ _ hS1
  rw [ht] at hB
  exact kk u hpo H1 locs1 ls hB hS1 hl
end Rows
end
